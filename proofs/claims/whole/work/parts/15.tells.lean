section
variable {l : Launch} {dC : Nat → ClassId} {dI : Nat → Nat → Nat} {H : Heap} {aa : Nat → Nat} {cI cZ cJ : ClassId} {kn : Nat → Int32} {vv : Nat → Nat → Int32} {nn : Nat → Nat} {AX : Nat → Prop}
set_option maxRecDepth 100000 in
set_option maxHeartbeats 4000000 in
theorem c_C_acts (hlt : l.stackTraces = false) (hP : va_P (dC, dI) classes (wC aa cI cZ kn vv) H) (hdD : dD noT aa 22) (hI : okC kn nn) (x : Int32) : vx_Met l y_C_acts (wB y_C_acts b_C_acts 2 (some .int)) ({ frames := 6, cells := 1, slots := 6, locals := 90 } : Room) (rP [.ref (aa 0), .int x] H (kT dC dI cI cZ cJ (aN aa 22))) (qT (kTell (swB x 1)) (some (.int (if x = 0 then kn 4 else kn 5 - kn 4))) (aN aa 22) (fun H1 => va_P (dC, dI) classes (wC aa cI cZ kn vv) H1)) (xT (kTell (swB x 1))) 1 6 (aN aa 22) := by
  refine vx_ofW (cc := b_C_acts) (maxL := 2) (ret := (some .int)) (by decide) rfl ?_
  intro p e s m args below meth c s₁ B hml hexc hv
  obtain ⟨rfl, rfl, hK, hT⟩ := hv
  have hx := B.exec
  have hb := B.bytes
  have hr := B.returns
  have hts0 := atoms_spec (ws := (wB y_C_acts b_C_acts 2 (some .int))) B.pre
  have hts : ∀ w9 ∈ BG, w9.before [.ref (aa 0), .int x].toArray s = true := fun w9 hw9 => hts0 w9 (List.mem_cons_of_mem _ hw9)
  have hown : s.vm.findClass R_C = some m.cls := findClass_of_methodNamed B.named
  have hlocks := B.notSynchronized
  have hK : va_K (dC, dI) classes [(cI, .int), (cZ, .boolean), (cJ, .long)] s := hK
  have hD : va_D (aN aa 22) (wC aa cI cZ kn vv) := wC_D (dD_aN hdD)
  have hS : va_S (aN aa 22) s.heap s.heap [] := va_S.rf
  have hl := lv_entry ([.ref (aa 0), .int x]) (n := 2) (Nat.le_of_ble_eq_true rfl)
  rw [lg_entry_eq]
  generalize (lg_sl ([.ref (aa 0), .int x]) ++ List.replicate (2 - (lg_sl ([.ref (aa 0), .int x])).length) Slot.unset).toArray = ls at hl ⊢
  have hl : lv_has ls 2 [(0, .ref (aa 0)), (1, .int x)] := hl
  obtain ⟨eK, b0, b1, b2, b3, b4, b5⟩ := id hI
  refine lv_iload_n hx hb d_C_acts_0 rfl (lv_at hl 1 rfl) ?_
  rcases sw_in (x := x) (n := 1) (by decide) with hsw | hsw | ⟨jj, hjj, ejj⟩
  · have hsn : ∀ k, k ≤ 1 → ¬ x = nI k := fun k hk => sw_no (n := 1) (by decide) (Or.inl hsw) hk
    have hsi : swB x 1 = false := swB_no hsn
    refine lv_lookup (off := 51) (tgt := 52) hx hb d_C_acts_1 (by decide) (by rw [show (#[(0, 27), (1, 35)] : Array (Int × Int)).toList = [(0, 27), (1, 35)] from rfl, lv_osw (k := 0) (a := 0) (hsn 0 (by decide)) rfl, lv_osw (k := 1) (a := 1) (hsn 1 (by decide)) rfl]; rfl) (by decide) ?_
    have ek : (kTell (swB x 1)) = 1 := by simp [kTell, hsi]
    exact thIA hx hb hlt hown hts hT hS (hl.1.trans hml.symm) (is := 162) (List.mem_of_getElem? (i := 18) rfl) d_C_acts_52 d_C_acts_55 d_C_acts_56 d_C_acts_58 d_C_acts_61 hexc (Nat.le_of_ble_eq_true rfl) (Nat.le_of_ble_eq_true rfl) (Nat.le_of_ble_eq_true rfl) (Nat.le_of_ble_eq_true rfl) hlocks (fun t hal hz hkp => ⟨Or.inl ⟨ek, rfl⟩, hz, fun q hq _ => hkp q hq⟩) (fun z hz => by cases hz) (Nat.le_of_ble_eq_true rfl) (Nat.le_of_ble_eq_true rfl)
  · have hsn : ∀ k, k ≤ 1 → ¬ x = nI k := fun k hk => sw_no (n := 1) (by decide) (Or.inr hsw) hk
    have hsi : swB x 1 = false := swB_no hsn
    refine lv_lookup (off := 51) (tgt := 52) hx hb d_C_acts_1 (by decide) (by rw [show (#[(0, 27), (1, 35)] : Array (Int × Int)).toList = [(0, 27), (1, 35)] from rfl, lv_osw (k := 0) (a := 0) (hsn 0 (by decide)) rfl, lv_osw (k := 1) (a := 1) (hsn 1 (by decide)) rfl]; rfl) (by decide) ?_
    have ek : (kTell (swB x 1)) = 1 := by simp [kTell, hsi]
    exact thIA hx hb hlt hown hts hT hS (hl.1.trans hml.symm) (is := 162) (List.mem_of_getElem? (i := 18) rfl) d_C_acts_52 d_C_acts_55 d_C_acts_56 d_C_acts_58 d_C_acts_61 hexc (Nat.le_of_ble_eq_true rfl) (Nat.le_of_ble_eq_true rfl) (Nat.le_of_ble_eq_true rfl) (Nat.le_of_ble_eq_true rfl) hlocks (fun t hal hz hkp => ⟨Or.inl ⟨ek, rfl⟩, hz, fun q hq _ => hkp q hq⟩) (fun z hz => by cases hz) (Nat.le_of_ble_eq_true rfl) (Nat.le_of_ble_eq_true rfl)
  · match jj, hjj, ejj with
    | 0, _, ejj =>
      have hsi : swB x 1 = true := swB_in (n := 1) ejj (by decide)
      refine lv_lookup (off := 27) (tgt := 28) hx hb d_C_acts_1 (by decide) (by rw [ejj]; decide) (by decide) ?_
      refine lv_aload_n hx hb d_C_acts_28 rfl (lv_at hl 0 rfl) ?_
      refine va_get (D := (dC, dI)) (ci := 0) (v := .ref (aa 5)) (C := R_C) (T := F_C) (N := 5) hx hb hts i_C hown hK hP 0 rfl rfl 4 (by decide) (hts _ fl_C_40) (fun _ h9 => h9) rfl d_C_acts_29 ?_
      refine va_get (D := (dC, dI)) (ci := 1) (v := .int (kn 4)) (C := R_H) (T := F_H) (N := 6) hx hb hts i_H hown hK hP 5 rfl rfl 4 (by decide) (hts _ fl_C_150) (fun _ h9 => h9) rfl d_C_acts_32 ?_
      have ek : (kTell (swB x 1)) = 0 := by simp [kTell, hsi]
      have er : ((some (.int (if x = 0 then kn 4 else kn 5 - kn 4))) : Option Value) = some (.int (kn 4)) := by rw [ejj]; rfl
      have hPe : va_P (dC, dI) classes (wC aa cI cZ kn vv) s.heap := by exact hP
      refine vx_ret ?_
      refine W.widen (k := 1) (n := 6) (Nat.zero_le _) (Nat.zero_le _) ?_
      exact W.iret (v := (kn 4)) hx hb hr (fun t ht hW => ⟨ek, by rw [er], by rw [ht]; exact hPe, hS.F ht⟩) hS.2.2 d_C_acts_35
    | 1, _, ejj =>
      have hsi : swB x 1 = true := swB_in (n := 1) ejj (by decide)
      refine lv_lookup (off := 35) (tgt := 36) hx hb d_C_acts_1 (by decide) (by rw [ejj]; decide) (by decide) ?_
      refine lv_aload_n hx hb d_C_acts_36 rfl (lv_at hl 0 rfl) ?_
      refine va_get (D := (dC, dI)) (ci := 0) (v := .ref (aa 5)) (C := R_C) (T := F_C) (N := 5) hx hb hts i_C hown hK hP 0 rfl rfl 4 (by decide) (hts _ fl_C_40) (fun _ h9 => h9) rfl d_C_acts_37 ?_
      refine va_get (D := (dC, dI)) (ci := 1) (v := .int (kn 5)) (C := R_H) (T := F_H) (N := 6) hx hb hts i_H hown hK hP 5 rfl rfl 5 (by decide) (hts _ fl_C_156) (fun _ h9 => h9) rfl d_C_acts_40 ?_
      refine lv_aload_n hx hb d_C_acts_43 rfl (lv_at hl 0 rfl) ?_
      refine va_get (D := (dC, dI)) (ci := 0) (v := .ref (aa 5)) (C := R_C) (T := F_C) (N := 5) hx hb hts i_C hown hK hP 0 rfl rfl 4 (by decide) (hts _ fl_C_40) (fun _ h9 => h9) rfl d_C_acts_44 ?_
      refine va_get (D := (dC, dI)) (ci := 1) (v := .int (kn 4)) (C := R_H) (T := F_H) (N := 6) hx hb hts i_H hown hK hP 5 rfl rfl 4 (by decide) (hts _ fl_C_150) (fun _ h9 => h9) rfl d_C_acts_47 ?_
      refine lv_isub hx hb d_C_acts_50 ?_
      have ek : (kTell (swB x 1)) = 0 := by simp [kTell, hsi]
      have er : ((some (.int (if x = 0 then kn 4 else kn 5 - kn 4))) : Option Value) = some (.int ((kn 5) - (kn 4))) := by rw [ejj]; rfl
      have hPe : va_P (dC, dI) classes (wC aa cI cZ kn vv) s.heap := by exact hP
      refine vx_ret ?_
      refine W.widen (k := 1) (n := 6) (Nat.zero_le _) (Nat.zero_le _) ?_
      exact W.iret (v := ((kn 5) - (kn 4))) hx hb hr (fun t ht hW => ⟨ek, by rw [er], by rw [ht]; exact hPe, hS.F ht⟩) hS.2.2 d_C_acts_51
    | k + 2, h, _ => exact absurd h (by omega)
set_option maxRecDepth 100000 in
set_option maxHeartbeats 4000000 in
theorem c_C_many (hlt : l.stackTraces = false) (hP : va_P (dC, dI) classes (wC aa cI cZ kn vv) H) (hdD : dD noT aa 22) (hI : okC kn nn) (x : Int32) : vx_Met l y_C_many (wB y_C_many b_C_many 2 (some .int)) ({ frames := 6, cells := 1, slots := 6, locals := 90 } : Room) (rP [.ref (aa 0), .int x] H (kT dC dI cI cZ cJ (aN aa 22))) (qT (kTell (swB x 3)) (some (.int (if x = 0 then kn 0 else if x = 1 then kn 1 else if x = 2 then kn 2 else kn 3))) (aN aa 22) (fun H1 => va_P (dC, dI) classes (wC aa cI cZ kn vv) H1)) (xT (kTell (swB x 3))) 1 6 (aN aa 22) := by
  refine vx_ofW (cc := b_C_many) (maxL := 2) (ret := (some .int)) (by decide) rfl ?_
  intro p e s m args below meth c s₁ B hml hexc hv
  obtain ⟨rfl, rfl, hK, hT⟩ := hv
  have hx := B.exec
  have hb := B.bytes
  have hr := B.returns
  have hts0 := atoms_spec (ws := (wB y_C_many b_C_many 2 (some .int))) B.pre
  have hts : ∀ w9 ∈ BG, w9.before [.ref (aa 0), .int x].toArray s = true := fun w9 hw9 => hts0 w9 (List.mem_cons_of_mem _ hw9)
  have hown : s.vm.findClass R_C = some m.cls := findClass_of_methodNamed B.named
  have hlocks := B.notSynchronized
  have hK : va_K (dC, dI) classes [(cI, .int), (cZ, .boolean), (cJ, .long)] s := hK
  have hD : va_D (aN aa 22) (wC aa cI cZ kn vv) := wC_D (dD_aN hdD)
  have hS : va_S (aN aa 22) s.heap s.heap [] := va_S.rf
  have hl := lv_entry ([.ref (aa 0), .int x]) (n := 2) (Nat.le_of_ble_eq_true rfl)
  rw [lg_entry_eq]
  generalize (lg_sl ([.ref (aa 0), .int x]) ++ List.replicate (2 - (lg_sl ([.ref (aa 0), .int x])).length) Slot.unset).toArray = ls at hl ⊢
  have hl : lv_has ls 2 [(0, .ref (aa 0)), (1, .int x)] := hl
  obtain ⟨eK, b0, b1, b2, b3, b4, b5⟩ := id hI
  refine lv_iload_n hx hb d_C_many_0 rfl (lv_at hl 1 rfl) ?_
  rcases sw_in (x := x) (n := 3) (by decide) with hsw | hsw | ⟨jj, hjj, ejj⟩
  · have hsn : ∀ k, k ≤ 3 → ¬ x = nI k := fun k hk => sw_no (n := 3) (by decide) (Or.inl hsw) hk
    have hsi : swB x 3 = false := swB_no hsn
    refine lv_tableOut (tgt := 64) hx hb d_C_many_1 (Or.inl hsw) (by decide) ?_
    have ek : (kTell (swB x 3)) = 1 := by simp [kTell, hsi]
    exact thIA hx hb hlt hown hts hT hS (hl.1.trans hml.symm) (is := 164) (List.mem_of_getElem? (i := 19) rfl) d_C_many_64 d_C_many_67 d_C_many_68 d_C_many_70 d_C_many_73 hexc (Nat.le_of_ble_eq_true rfl) (Nat.le_of_ble_eq_true rfl) (Nat.le_of_ble_eq_true rfl) (Nat.le_of_ble_eq_true rfl) hlocks (fun t hal hz hkp => ⟨Or.inl ⟨ek, rfl⟩, hz, fun q hq _ => hkp q hq⟩) (fun z hz => by cases hz) (Nat.le_of_ble_eq_true rfl) (Nat.le_of_ble_eq_true rfl)
  · have hsn : ∀ k, k ≤ 3 → ¬ x = nI k := fun k hk => sw_no (n := 3) (by decide) (Or.inr hsw) hk
    have hsi : swB x 3 = false := swB_no hsn
    refine lv_tableOut (tgt := 64) hx hb d_C_many_1 (Or.inr hsw) (by decide) ?_
    have ek : (kTell (swB x 3)) = 1 := by simp [kTell, hsi]
    exact thIA hx hb hlt hown hts hT hS (hl.1.trans hml.symm) (is := 164) (List.mem_of_getElem? (i := 19) rfl) d_C_many_64 d_C_many_67 d_C_many_68 d_C_many_70 d_C_many_73 hexc (Nat.le_of_ble_eq_true rfl) (Nat.le_of_ble_eq_true rfl) (Nat.le_of_ble_eq_true rfl) (Nat.le_of_ble_eq_true rfl) hlocks (fun t hal hz hkp => ⟨Or.inl ⟨ek, rfl⟩, hz, fun q hq _ => hkp q hq⟩) (fun z hz => by cases hz) (Nat.le_of_ble_eq_true rfl) (Nat.le_of_ble_eq_true rfl)
  · match jj, hjj, ejj with
    | 0, _, ejj =>
      have hsi : swB x 3 = true := swB_in (n := 3) ejj (by decide)
      refine lv_tableIn (off := 31) (tgt := 32) hx hb d_C_many_1 (by rw [ejj]; decide) (by rw [ejj]; decide) (by rw [ejj]; decide) (by decide) ?_
      refine lv_aload_n hx hb d_C_many_32 rfl (lv_at hl 0 rfl) ?_
      refine va_get (D := (dC, dI)) (ci := 0) (v := .ref (aa 1)) (C := R_C) (T := F_C) (N := 5) hx hb hts i_C hown hK hP 0 rfl rfl 0 (by decide) (hts _ fl_C_10) (fun _ h9 => h9) rfl d_C_many_33 ?_
      refine va_get (D := (dC, dI)) (ci := 3) (v := .int (kn 0)) (C := R_S) (T := F_S) (N := 2) hx hb hts i_S hown hK hP 1 rfl rfl 1 (by decide) (hts _ fl_C_44) (fun _ h9 => h9) rfl d_C_many_36 ?_
      have ek : (kTell (swB x 3)) = 0 := by simp [kTell, hsi]
      have er : ((some (.int (if x = 0 then kn 0 else if x = 1 then kn 1 else if x = 2 then kn 2 else kn 3))) : Option Value) = some (.int (kn 0)) := by rw [ejj]; rfl
      have hPe : va_P (dC, dI) classes (wC aa cI cZ kn vv) s.heap := by exact hP
      refine vx_ret ?_
      refine W.widen (k := 1) (n := 6) (Nat.zero_le _) (Nat.zero_le _) ?_
      exact W.iret (v := (kn 0)) hx hb hr (fun t ht hW => ⟨ek, by rw [er], by rw [ht]; exact hPe, hS.F ht⟩) hS.2.2 d_C_many_39
    | 1, _, ejj =>
      have hsi : swB x 3 = true := swB_in (n := 3) ejj (by decide)
      refine lv_tableIn (off := 39) (tgt := 40) hx hb d_C_many_1 (by rw [ejj]; decide) (by rw [ejj]; decide) (by rw [ejj]; decide) (by decide) ?_
      refine lv_aload_n hx hb d_C_many_40 rfl (lv_at hl 0 rfl) ?_
      refine va_get (D := (dC, dI)) (ci := 0) (v := .ref (aa 2)) (C := R_C) (T := F_C) (N := 5) hx hb hts i_C hown hK hP 0 rfl rfl 1 (by decide) (hts _ fl_C_19) (fun _ h9 => h9) rfl d_C_many_41 ?_
      refine va_get (D := (dC, dI)) (ci := 4) (v := .int (kn 1)) (C := R_T) (T := F_T) (N := 2) hx hb hts i_T hown hK hP 2 rfl rfl 1 (by decide) (hts _ fl_C_74) (fun _ h9 => h9) rfl d_C_many_44 ?_
      have ek : (kTell (swB x 3)) = 0 := by simp [kTell, hsi]
      have er : ((some (.int (if x = 0 then kn 0 else if x = 1 then kn 1 else if x = 2 then kn 2 else kn 3))) : Option Value) = some (.int (kn 1)) := by rw [ejj]; rfl
      have hPe : va_P (dC, dI) classes (wC aa cI cZ kn vv) s.heap := by exact hP
      refine vx_ret ?_
      refine W.widen (k := 1) (n := 6) (Nat.zero_le _) (Nat.zero_le _) ?_
      exact W.iret (v := (kn 1)) hx hb hr (fun t ht hW => ⟨ek, by rw [er], by rw [ht]; exact hPe, hS.F ht⟩) hS.2.2 d_C_many_47
    | 2, _, ejj =>
      have hsi : swB x 3 = true := swB_in (n := 3) ejj (by decide)
      refine lv_tableIn (off := 47) (tgt := 48) hx hb d_C_many_1 (by rw [ejj]; decide) (by rw [ejj]; decide) (by rw [ejj]; decide) (by decide) ?_
      refine lv_aload_n hx hb d_C_many_48 rfl (lv_at hl 0 rfl) ?_
      refine va_get (D := (dC, dI)) (ci := 0) (v := .ref (aa 3)) (C := R_C) (T := F_C) (N := 5) hx hb hts i_C hown hK hP 0 rfl rfl 2 (by decide) (hts _ fl_C_26) (fun _ h9 => h9) rfl d_C_many_49 ?_
      refine va_get (D := (dC, dI)) (ci := 5) (v := .int (kn 2)) (C := R_W) (T := F_W) (N := 8) hx hb hts i_W hown hK hP 3 rfl rfl 7 (by decide) (hts _ fl_C_95) (fun _ h9 => h9) rfl d_C_many_52 ?_
      have ek : (kTell (swB x 3)) = 0 := by simp [kTell, hsi]
      have er : ((some (.int (if x = 0 then kn 0 else if x = 1 then kn 1 else if x = 2 then kn 2 else kn 3))) : Option Value) = some (.int (kn 2)) := by rw [ejj]; rfl
      have hPe : va_P (dC, dI) classes (wC aa cI cZ kn vv) s.heap := by exact hP
      refine vx_ret ?_
      refine W.widen (k := 1) (n := 6) (Nat.zero_le _) (Nat.zero_le _) ?_
      exact W.iret (v := (kn 2)) hx hb hr (fun t ht hW => ⟨ek, by rw [er], by rw [ht]; exact hPe, hS.F ht⟩) hS.2.2 d_C_many_55
    | 3, _, ejj =>
      have hsi : swB x 3 = true := swB_in (n := 3) ejj (by decide)
      refine lv_tableIn (off := 55) (tgt := 56) hx hb d_C_many_1 (by rw [ejj]; decide) (by rw [ejj]; decide) (by rw [ejj]; decide) (by decide) ?_
      refine lv_aload_n hx hb d_C_many_56 rfl (lv_at hl 0 rfl) ?_
      refine va_get (D := (dC, dI)) (ci := 0) (v := .ref (aa 4)) (C := R_C) (T := F_C) (N := 5) hx hb hts i_C hown hK hP 0 rfl rfl 3 (by decide) (hts _ fl_C_33) (fun _ h9 => h9) rfl d_C_many_57 ?_
      refine va_get (D := (dC, dI)) (ci := 2) (v := .int (kn 3)) (C := R_O) (T := F_O) (N := 4) hx hb hts i_O hown hK hP 4 rfl rfl 3 (by decide) (hts _ fl_C_123) (fun _ h9 => h9) rfl d_C_many_60 ?_
      have ek : (kTell (swB x 3)) = 0 := by simp [kTell, hsi]
      have er : ((some (.int (if x = 0 then kn 0 else if x = 1 then kn 1 else if x = 2 then kn 2 else kn 3))) : Option Value) = some (.int (kn 3)) := by rw [ejj]; rfl
      have hPe : va_P (dC, dI) classes (wC aa cI cZ kn vv) s.heap := by exact hP
      refine vx_ret ?_
      refine W.widen (k := 1) (n := 6) (Nat.zero_le _) (Nat.zero_le _) ?_
      exact W.iret (v := (kn 3)) hx hb hr (fun t ht hW => ⟨ek, by rw [er], by rw [ht]; exact hPe, hS.F ht⟩) hS.2.2 d_C_many_63
    | k + 4, h, _ => exact absurd h (by omega)
set_option maxRecDepth 100000 in
set_option maxHeartbeats 4000000 in
theorem c_C_wallAt (hlt : l.stackTraces = false) (hP : va_P (dC, dI) classes (wC aa cI cZ kn vv) H) (hdD : dD noT aa 22) (hI : okC kn nn) (hV : okV nn vv) (x y : Int32) : vx_Met l y_C_wallAt (wB y_C_wallAt b_C_wallAt 3 (some .long)) ({ frames := 7, cells := 1, slots := 6, locals := 113 } : Room) (rP [.ref (aa 0), .int x, .int y] H (kT dC dI cI cZ cJ (aN aa 22))) (qT (kTell (tW kn vv x && swB y 9)) (some (.long (waR kn vv nn x.toNatClampNeg y))) (aN aa 22) (fun H1 => va_P (dC, dI) classes (wC aa cI cZ kn vv) H1)) (xT (kTell (tW kn vv x && swB y 9))) 1 6 (aN aa 22) := by
  refine vx_ofW (cc := b_C_wallAt) (maxL := 3) (ret := (some .long)) (by decide) rfl ?_
  intro p e s m args below meth c s₁ B hml hexc hv
  obtain ⟨rfl, rfl, hK, hT⟩ := hv
  have hx := B.exec
  have hb := B.bytes
  have hr := B.returns
  have hts0 := atoms_spec (ws := (wB y_C_wallAt b_C_wallAt 3 (some .long))) B.pre
  have hts : ∀ w9 ∈ BG, w9.before [.ref (aa 0), .int x, .int y].toArray s = true := fun w9 hw9 => hts0 w9 (List.mem_cons_of_mem _ hw9)
  have hown : s.vm.findClass R_C = some m.cls := findClass_of_methodNamed B.named
  have hlocks := B.notSynchronized
  have hK : va_K (dC, dI) classes [(cI, .int), (cZ, .boolean), (cJ, .long)] s := hK
  have hD : va_D (aN aa 22) (wC aa cI cZ kn vv) := wC_D (dD_aN hdD)
  have hS : va_S (aN aa 22) s.heap s.heap [] := va_S.rf
  have hl := lv_entry ([.ref (aa 0), .int x, .int y]) (n := 3) (Nat.le_of_ble_eq_true rfl)
  rw [lg_entry_eq]
  generalize (lg_sl ([.ref (aa 0), .int x, .int y]) ++ List.replicate (3 - (lg_sl ([.ref (aa 0), .int x, .int y])).length) Slot.unset).toArray = ls at hl ⊢
  have hl : lv_has ls 3 [(0, .ref (aa 0)), (1, .int x), (2, .int y)] := hl
  obtain ⟨eK, b0, b1, b2, b3, b4, b5⟩ := id hI
  refine lv_aload_n hx hb d_C_wallAt_0 rfl (lv_at hl 0 rfl) ?_
  refine lv_iload_n hx hb d_C_wallAt_1 rfl (lv_at hl 1 rfl) ?_
  by_cases h_2 : tW kn vv x = true
  · refine cV (W.runV (As := [.int x]) (rest := []) ⟨hx, hb, hml, hown, hts⟩ (c_C_checkWall_ok hP hI  x h_2) (cwV 1 hts (wB_goodV (fun _ h => h) ml_C_102 im_C_checkWall se_C_checkWall ini_C co_C_checkWall) rfl rfl rfl (by decide +kernel) ⟨Nat.le_of_ble_eq_true rfl, Nat.le_of_ble_eq_true rfl⟩) (pV hK hP (ci := 0) (q0 := 0) rfl rfl _) rfl rfl hl.1 rfl (lv_room (Nat.le_of_ble_eq_true rfl)) d_C_wallAt_2 ⟨Nat.le_of_ble_eq_true rfl, Nat.le_of_ble_eq_true rfl⟩) ?_
    obtain ⟨j, hj, ej⟩ := (tW_n hI h_2)
    rw [ej] at hl
    have ec : x.toNatClampNeg = j := by rw [ej]; exact nI_clamp (by omega)
    refine lv_iload_n hx hb d_C_wallAt_5 rfl (lv_at hl 2 rfl) ?_
    rcases sw_in (x := y) (n := 9) (by decide) with hsw | hsw | ⟨jj, hjj, ejj⟩
    · have hsn : ∀ k, k ≤ 9 → ¬ y = nI k := fun k hk => sw_no (n := 9) (by decide) (Or.inl hsw) hk
      have hsi : swB y 9 = false := swB_no hsn
      refine lv_tableOut (tgt := 158) hx hb d_C_wallAt_6 (Or.inl hsw) (by decide) ?_
      have ek : (kTell (tW kn vv x && swB y 9)) = 1 := by simp [kTell, hsi]
      exact thIA hx hb hlt hown hts hT hS (hl.1.trans hml.symm) (is := 180) (List.mem_of_getElem? (i := 20) rfl) d_C_wallAt_158 d_C_wallAt_161 d_C_wallAt_162 d_C_wallAt_164 d_C_wallAt_167 hexc (Nat.le_of_ble_eq_true rfl) (Nat.le_of_ble_eq_true rfl) (Nat.le_of_ble_eq_true rfl) (Nat.le_of_ble_eq_true rfl) hlocks (fun t hal hz hkp => ⟨Or.inl ⟨ek, rfl⟩, hz, fun q hq _ => hkp q hq⟩) (fun z hz => by cases hz) (Nat.le_of_ble_eq_true rfl) (Nat.le_of_ble_eq_true rfl)
    · have hsn : ∀ k, k ≤ 9 → ¬ y = nI k := fun k hk => sw_no (n := 9) (by decide) (Or.inr hsw) hk
      have hsi : swB y 9 = false := swB_no hsn
      refine lv_tableOut (tgt := 158) hx hb d_C_wallAt_6 (Or.inr hsw) (by decide) ?_
      have ek : (kTell (tW kn vv x && swB y 9)) = 1 := by simp [kTell, hsi]
      exact thIA hx hb hlt hown hts hT hS (hl.1.trans hml.symm) (is := 180) (List.mem_of_getElem? (i := 20) rfl) d_C_wallAt_158 d_C_wallAt_161 d_C_wallAt_162 d_C_wallAt_164 d_C_wallAt_167 hexc (Nat.le_of_ble_eq_true rfl) (Nat.le_of_ble_eq_true rfl) (Nat.le_of_ble_eq_true rfl) (Nat.le_of_ble_eq_true rfl) hlocks (fun t hal hz hkp => ⟨Or.inl ⟨ek, rfl⟩, hz, fun q hq _ => hkp q hq⟩) (fun z hz => by cases hz) (Nat.le_of_ble_eq_true rfl) (Nat.le_of_ble_eq_true rfl)
    · match jj, hjj, ejj with
      | 0, _, ejj =>
        have hsi : swB y 9 = true := swB_in (n := 9) ejj (by decide)
        refine lv_tableIn (off := 54) (tgt := 60) hx hb d_C_wallAt_6 (by rw [ejj]; decide) (by rw [ejj]; decide) (by rw [ejj]; decide) (by decide) ?_
        refine lv_aload_n hx hb d_C_wallAt_60 rfl (lv_at hl 0 rfl) ?_
        refine va_get (D := (dC, dI)) (ci := 0) (v := .ref (aa 3)) (C := R_C) (T := F_C) (N := 5) hx hb hts i_C hown hK hP 0 rfl rfl 2 (by decide) (hts _ fl_C_26) (fun _ h9 => h9) rfl d_C_wallAt_61 ?_
        refine va_get (D := (dC, dI)) (ci := 5) (v := .ref (aa 8)) (C := R_W) (T := F_W) (N := 8) hx hb hts i_W hown hK hP 3 rfl rfl 0 (by decide) (hts _ fl_C_166) (fun _ h9 => h9) rfl d_C_wallAt_64 ?_
        refine lv_iload_n hx hb d_C_wallAt_67 rfl (lv_at hl 1 rfl) ?_
        refine va_iald hx hb hK hP 8 0 rfl rfl (vp_in_nI (by omega) (by omega)) d_C_wallAt_68 ?_
        rw [nI_clamp (show j < 2 ^ 31 by omega)]
        refine lv_i2l (v := ((vv 2) j).toInt64) hx hb d_C_wallAt_69 rfl ?_
        have ek : (kTell (tW kn vv x && swB y 9)) = 0 := by simp [kTell, h_2, hsi]
        have er : ((some (.long (waR kn vv nn x.toNatClampNeg y))) : Option Value) = some (.long (((vv 2) j).toInt64)) := by rw [ec, ejj]; rfl
        have hPe : va_P (dC, dI) classes (wC aa cI cZ kn vv) s.heap := by exact hP
        refine vx_ret ?_
        refine W.widen (k := 1) (n := 6) (Nat.zero_le _) (Nat.zero_le _) ?_
        exact W.lret (v := (((vv 2) j).toInt64)) hx hb hr (fun t ht hW => ⟨ek, by rw [er], by rw [ht]; exact hPe, hS.F ht⟩) hS.2.2 d_C_wallAt_70
      | 1, _, ejj =>
        have hsi : swB y 9 = true := swB_in (n := 9) ejj (by decide)
        refine lv_tableIn (off := 65) (tgt := 71) hx hb d_C_wallAt_6 (by rw [ejj]; decide) (by rw [ejj]; decide) (by rw [ejj]; decide) (by decide) ?_
        refine lv_aload_n hx hb d_C_wallAt_71 rfl (lv_at hl 0 rfl) ?_
        refine va_get (D := (dC, dI)) (ci := 0) (v := .ref (aa 3)) (C := R_C) (T := F_C) (N := 5) hx hb hts i_C hown hK hP 0 rfl rfl 2 (by decide) (hts _ fl_C_26) (fun _ h9 => h9) rfl d_C_wallAt_72 ?_
        refine va_get (D := (dC, dI)) (ci := 5) (v := .ref (aa 9)) (C := R_W) (T := F_W) (N := 8) hx hb hts i_W hown hK hP 3 rfl rfl 1 (by decide) (hts _ fl_C_168) (fun _ h9 => h9) rfl d_C_wallAt_75 ?_
        refine lv_iload_n hx hb d_C_wallAt_78 rfl (lv_at hl 1 rfl) ?_
        refine va_iald hx hb hK hP 9 0 rfl rfl (vp_in_nI (by omega) (by omega)) d_C_wallAt_79 ?_
        rw [nI_clamp (show j < 2 ^ 31 by omega)]
        refine lv_i2l (v := ((vv 3) j).toInt64) hx hb d_C_wallAt_80 rfl ?_
        have ek : (kTell (tW kn vv x && swB y 9)) = 0 := by simp [kTell, h_2, hsi]
        have er : ((some (.long (waR kn vv nn x.toNatClampNeg y))) : Option Value) = some (.long (((vv 3) j).toInt64)) := by rw [ec, ejj]; rfl
        have hPe : va_P (dC, dI) classes (wC aa cI cZ kn vv) s.heap := by exact hP
        refine vx_ret ?_
        refine W.widen (k := 1) (n := 6) (Nat.zero_le _) (Nat.zero_le _) ?_
        exact W.lret (v := (((vv 3) j).toInt64)) hx hb hr (fun t ht hW => ⟨ek, by rw [er], by rw [ht]; exact hPe, hS.F ht⟩) hS.2.2 d_C_wallAt_81
      | 2, _, ejj =>
        have hsi : swB y 9 = true := swB_in (n := 9) ejj (by decide)
        refine lv_tableIn (off := 76) (tgt := 82) hx hb d_C_wallAt_6 (by rw [ejj]; decide) (by rw [ejj]; decide) (by rw [ejj]; decide) (by decide) ?_
        refine lv_aload_n hx hb d_C_wallAt_82 rfl (lv_at hl 0 rfl) ?_
        refine va_get (D := (dC, dI)) (ci := 0) (v := .ref (aa 3)) (C := R_C) (T := F_C) (N := 5) hx hb hts i_C hown hK hP 0 rfl rfl 2 (by decide) (hts _ fl_C_26) (fun _ h9 => h9) rfl d_C_wallAt_83 ?_
        refine va_get (D := (dC, dI)) (ci := 5) (v := .ref (aa 10)) (C := R_W) (T := F_W) (N := 8) hx hb hts i_W hown hK hP 3 rfl rfl 2 (by decide) (hts _ fl_C_105) (fun _ h9 => h9) rfl d_C_wallAt_86 ?_
        refine lv_iload_n hx hb d_C_wallAt_89 rfl (lv_at hl 1 rfl) ?_
        refine va_iald hx hb hK hP 10 0 rfl rfl (vp_in_nI (by omega) (by omega)) d_C_wallAt_90 ?_
        rw [nI_clamp (show j < 2 ^ 31 by omega)]
        refine lv_i2l (v := ((vv 4) j).toInt64) hx hb d_C_wallAt_91 rfl ?_
        have ek : (kTell (tW kn vv x && swB y 9)) = 0 := by simp [kTell, h_2, hsi]
        have er : ((some (.long (waR kn vv nn x.toNatClampNeg y))) : Option Value) = some (.long (((vv 4) j).toInt64)) := by rw [ec, ejj]; rfl
        have hPe : va_P (dC, dI) classes (wC aa cI cZ kn vv) s.heap := by exact hP
        refine vx_ret ?_
        refine W.widen (k := 1) (n := 6) (Nat.zero_le _) (Nat.zero_le _) ?_
        exact W.lret (v := (((vv 4) j).toInt64)) hx hb hr (fun t ht hW => ⟨ek, by rw [er], by rw [ht]; exact hPe, hS.F ht⟩) hS.2.2 d_C_wallAt_92
      | 3, _, ejj =>
        have hsi : swB y 9 = true := swB_in (n := 9) ejj (by decide)
        refine lv_tableIn (off := 87) (tgt := 93) hx hb d_C_wallAt_6 (by rw [ejj]; decide) (by rw [ejj]; decide) (by rw [ejj]; decide) (by decide) ?_
        refine lv_aload_n hx hb d_C_wallAt_93 rfl (lv_at hl 0 rfl) ?_
        refine va_get (D := (dC, dI)) (ci := 0) (v := .ref (aa 3)) (C := R_C) (T := F_C) (N := 5) hx hb hts i_C hown hK hP 0 rfl rfl 2 (by decide) (hts _ fl_C_26) (fun _ h9 => h9) rfl d_C_wallAt_94 ?_
        refine va_get (D := (dC, dI)) (ci := 5) (v := .ref (aa 11)) (C := R_W) (T := F_W) (N := 8) hx hb hts i_W hown hK hP 3 rfl rfl 3 (by decide) (hts _ fl_C_108) (fun _ h9 => h9) rfl d_C_wallAt_97 ?_
        refine lv_iload_n hx hb d_C_wallAt_100 rfl (lv_at hl 1 rfl) ?_
        refine va_iald hx hb hK hP 11 0 rfl rfl (vp_in_nI (by omega) (by omega)) d_C_wallAt_101 ?_
        rw [nI_clamp (show j < 2 ^ 31 by omega)]
        refine lv_i2l (v := ((vv 5) j).toInt64) hx hb d_C_wallAt_102 rfl ?_
        have ek : (kTell (tW kn vv x && swB y 9)) = 0 := by simp [kTell, h_2, hsi]
        have er : ((some (.long (waR kn vv nn x.toNatClampNeg y))) : Option Value) = some (.long (((vv 5) j).toInt64)) := by rw [ec, ejj]; rfl
        have hPe : va_P (dC, dI) classes (wC aa cI cZ kn vv) s.heap := by exact hP
        refine vx_ret ?_
        refine W.widen (k := 1) (n := 6) (Nat.zero_le _) (Nat.zero_le _) ?_
        exact W.lret (v := (((vv 5) j).toInt64)) hx hb hr (fun t ht hW => ⟨ek, by rw [er], by rw [ht]; exact hPe, hS.F ht⟩) hS.2.2 d_C_wallAt_103
      | 4, _, ejj =>
        have hsi : swB y 9 = true := swB_in (n := 9) ejj (by decide)
        refine lv_tableIn (off := 98) (tgt := 104) hx hb d_C_wallAt_6 (by rw [ejj]; decide) (by rw [ejj]; decide) (by rw [ejj]; decide) (by decide) ?_
        refine lv_aload_n hx hb d_C_wallAt_104 rfl (lv_at hl 0 rfl) ?_
        refine va_get (D := (dC, dI)) (ci := 0) (v := .ref (aa 3)) (C := R_C) (T := F_C) (N := 5) hx hb hts i_C hown hK hP 0 rfl rfl 2 (by decide) (hts _ fl_C_26) (fun _ h9 => h9) rfl d_C_wallAt_105 ?_
        refine va_get (D := (dC, dI)) (ci := 5) (v := .ref (aa 12)) (C := R_W) (T := F_W) (N := 8) hx hb hts i_W hown hK hP 3 rfl rfl 4 (by decide) (hts _ fl_C_111) (fun _ h9 => h9) rfl d_C_wallAt_108 ?_
        refine lv_iload_n hx hb d_C_wallAt_111 rfl (lv_at hl 1 rfl) ?_
        refine va_iald hx hb hK hP 12 0 rfl rfl (vp_in_nI (by omega) (by omega)) d_C_wallAt_112 ?_
        rw [nI_clamp (show j < 2 ^ 31 by omega)]
        refine lv_i2l (v := ((vv 6) j).toInt64) hx hb d_C_wallAt_113 rfl ?_
        have ek : (kTell (tW kn vv x && swB y 9)) = 0 := by simp [kTell, h_2, hsi]
        have er : ((some (.long (waR kn vv nn x.toNatClampNeg y))) : Option Value) = some (.long (((vv 6) j).toInt64)) := by rw [ec, ejj]; rfl
        have hPe : va_P (dC, dI) classes (wC aa cI cZ kn vv) s.heap := by exact hP
        refine vx_ret ?_
        refine W.widen (k := 1) (n := 6) (Nat.zero_le _) (Nat.zero_le _) ?_
        exact W.lret (v := (((vv 6) j).toInt64)) hx hb hr (fun t ht hW => ⟨ek, by rw [er], by rw [ht]; exact hPe, hS.F ht⟩) hS.2.2 d_C_wallAt_114
      | 5, _, ejj =>
        have hsi : swB y 9 = true := swB_in (n := 9) ejj (by decide)
        refine lv_tableIn (off := 109) (tgt := 115) hx hb d_C_wallAt_6 (by rw [ejj]; decide) (by rw [ejj]; decide) (by rw [ejj]; decide) (by decide) ?_
        refine lv_aload_n hx hb d_C_wallAt_115 rfl (lv_at hl 0 rfl) ?_
        refine va_get (D := (dC, dI)) (ci := 0) (v := .ref (aa 3)) (C := R_C) (T := F_C) (N := 5) hx hb hts i_C hown hK hP 0 rfl rfl 2 (by decide) (hts _ fl_C_26) (fun _ h9 => h9) rfl d_C_wallAt_116 ?_
        refine va_get (D := (dC, dI)) (ci := 5) (v := .ref (aa 13)) (C := R_W) (T := F_W) (N := 8) hx hb hts i_W hown hK hP 3 rfl rfl 5 (by decide) (hts _ fl_C_114) (fun _ h9 => h9) rfl d_C_wallAt_119 ?_
        refine lv_iload_n hx hb d_C_wallAt_122 rfl (lv_at hl 1 rfl) ?_
        refine va_iald hx hb hK hP 13 0 rfl rfl (vp_in_nI (by omega) (by omega)) d_C_wallAt_123 ?_
        rw [nI_clamp (show j < 2 ^ 31 by omega)]
        refine lv_i2l (v := ((vv 7) j).toInt64) hx hb d_C_wallAt_124 rfl ?_
        have ek : (kTell (tW kn vv x && swB y 9)) = 0 := by simp [kTell, h_2, hsi]
        have er : ((some (.long (waR kn vv nn x.toNatClampNeg y))) : Option Value) = some (.long (((vv 7) j).toInt64)) := by rw [ec, ejj]; rfl
        have hPe : va_P (dC, dI) classes (wC aa cI cZ kn vv) s.heap := by exact hP
        refine vx_ret ?_
        refine W.widen (k := 1) (n := 6) (Nat.zero_le _) (Nat.zero_le _) ?_
        exact W.lret (v := (((vv 7) j).toInt64)) hx hb hr (fun t ht hW => ⟨ek, by rw [er], by rw [ht]; exact hPe, hS.F ht⟩) hS.2.2 d_C_wallAt_125
      | 6, _, ejj =>
        have hsi : swB y 9 = true := swB_in (n := 9) ejj (by decide)
        refine lv_tableIn (off := 120) (tgt := 126) hx hb d_C_wallAt_6 (by rw [ejj]; decide) (by rw [ejj]; decide) (by rw [ejj]; decide) (by decide) ?_
        refine lv_aload_n hx hb d_C_wallAt_126 rfl (lv_at hl 0 rfl) ?_
        refine va_get (D := (dC, dI)) (ci := 0) (v := .ref (aa 3)) (C := R_C) (T := F_C) (N := 5) hx hb hts i_C hown hK hP 0 rfl rfl 2 (by decide) (hts _ fl_C_26) (fun _ h9 => h9) rfl d_C_wallAt_127 ?_
        refine lv_iload_n hx hb d_C_wallAt_130 rfl (lv_at hl 1 rfl) ?_
        refine cR (W.runV (As := [.int (nI j)]) (rest := []) ⟨hx, hb, hml, hown, hts⟩ (c_W_length hP (show j < 40 by omega)) (cwV 1 hts (wB_goodV (fun _ h => h) ml_C_117 im_W_length se_W_length ini_W co_W_length) rfl rfl rfl (by decide +kernel) ⟨Nat.le_of_ble_eq_true rfl, Nat.le_of_ble_eq_true rfl⟩) (pV hK hP (ci := 5) (q0 := 3) rfl rfl _) rfl rfl hl.1 rfl (lv_room (Nat.le_of_ble_eq_true rfl)) d_C_wallAt_131 ⟨Nat.zero_le _, Nat.zero_le _⟩) ?_
        refine lv_i2l (v := (leC vv j).toInt64) hx hb d_C_wallAt_134 rfl ?_
        have ek : (kTell (tW kn vv x && swB y 9)) = 0 := by simp [kTell, h_2, hsi]
        have er : ((some (.long (waR kn vv nn x.toNatClampNeg y))) : Option Value) = some (.long ((leC vv j).toInt64)) := by rw [ec, ejj]; rfl
        have hPe : va_P (dC, dI) classes (wC aa cI cZ kn vv) s.heap := by exact hP
        refine vx_ret ?_
        refine W.widen (k := 1) (n := 6) (Nat.zero_le _) (Nat.zero_le _) ?_
        exact W.lret (v := ((leC vv j).toInt64)) hx hb hr (fun t ht hW => ⟨ek, by rw [er], by rw [ht]; exact hPe, hS.F ht⟩) hS.2.2 d_C_wallAt_135
      | 7, _, ejj =>
        have hsi : swB y 9 = true := swB_in (n := 9) ejj (by decide)
        refine lv_tableIn (off := 130) (tgt := 136) hx hb d_C_wallAt_6 (by rw [ejj]; decide) (by rw [ejj]; decide) (by rw [ejj]; decide) (by decide) ?_
        refine lv_aload_n hx hb d_C_wallAt_136 rfl (lv_at hl 0 rfl) ?_
        refine lv_iload_n hx hb d_C_wallAt_137 rfl (lv_at hl 1 rfl) ?_
        refine cRL (W.runV (As := [.int (nI j)]) (rest := []) ⟨hx, hb, hml, hown, hts⟩ (c_C_netLength hP hI hV hj) (cwV 1 hts (wB_goodV (fun _ h => h) ml_C_170 im_C_netLength se_C_netLength ini_C co_C_netLength) rfl rfl rfl (by decide +kernel) ⟨Nat.le_of_ble_eq_true rfl, Nat.le_of_ble_eq_true rfl⟩) (pV hK hP (ci := 0) (q0 := 0) rfl rfl _) rfl rfl hl.1 rfl (lv_room (Nat.le_of_ble_eq_true rfl)) d_C_wallAt_138 ⟨Nat.zero_le _, Nat.zero_le _⟩) ?_
        have ek : (kTell (tW kn vv x && swB y 9)) = 0 := by simp [kTell, h_2, hsi]
        have er : ((some (.long (waR kn vv nn x.toNatClampNeg y))) : Option Value) = some (.long (neC kn vv nn j)) := by rw [ec, ejj]; rfl
        have hPe : va_P (dC, dI) classes (wC aa cI cZ kn vv) s.heap := by exact hP
        refine vx_ret ?_
        refine W.widen (k := 1) (n := 6) (Nat.zero_le _) (Nat.zero_le _) ?_
        exact W.lret (v := (neC kn vv nn j)) hx hb hr (fun t ht hW => ⟨ek, by rw [er], by rw [ht]; exact hPe, hS.F ht⟩) hS.2.2 d_C_wallAt_141
      | 8, _, ejj =>
        have hsi : swB y 9 = true := swB_in (n := 9) ejj (by decide)
        refine lv_tableIn (off := 136) (tgt := 142) hx hb d_C_wallAt_6 (by rw [ejj]; decide) (by rw [ejj]; decide) (by rw [ejj]; decide) (by decide) ?_
        refine lv_aload_n hx hb d_C_wallAt_142 rfl (lv_at hl 0 rfl) ?_
        refine lv_iload_n hx hb d_C_wallAt_143 rfl (lv_at hl 1 rfl) ?_
        refine cRL (W.runV (As := [.int (nI j)]) (rest := []) ⟨hx, hb, hml, hown, hts⟩ (c_C_area hP hI hV hj) (cwV 1 hts (wB_goodV (fun _ h => h) ml_C_174 im_C_area se_C_area ini_C co_C_area) rfl rfl rfl (by decide +kernel) ⟨Nat.le_of_ble_eq_true rfl, Nat.le_of_ble_eq_true rfl⟩) (pV hK hP (ci := 0) (q0 := 0) rfl rfl _) rfl rfl hl.1 rfl (lv_room (Nat.le_of_ble_eq_true rfl)) d_C_wallAt_144 ⟨Nat.zero_le _, Nat.zero_le _⟩) ?_
        have ek : (kTell (tW kn vv x && swB y 9)) = 0 := by simp [kTell, h_2, hsi]
        have er : ((some (.long (waR kn vv nn x.toNatClampNeg y))) : Option Value) = some (.long (arC kn vv nn j)) := by rw [ec, ejj]; rfl
        have hPe : va_P (dC, dI) classes (wC aa cI cZ kn vv) s.heap := by exact hP
        refine vx_ret ?_
        refine W.widen (k := 1) (n := 6) (Nat.zero_le _) (Nat.zero_le _) ?_
        exact W.lret (v := (arC kn vv nn j)) hx hb hr (fun t ht hW => ⟨ek, by rw [er], by rw [ht]; exact hPe, hS.F ht⟩) hS.2.2 d_C_wallAt_147
      | 9, _, ejj =>
        have hsi : swB y 9 = true := swB_in (n := 9) ejj (by decide)
        refine lv_tableIn (off := 142) (tgt := 148) hx hb d_C_wallAt_6 (by rw [ejj]; decide) (by rw [ejj]; decide) (by rw [ejj]; decide) (by decide) ?_
        refine lv_aload_n hx hb d_C_wallAt_148 rfl (lv_at hl 0 rfl) ?_
        refine va_get (D := (dC, dI)) (ci := 0) (v := .ref (aa 4)) (C := R_C) (T := F_C) (N := 5) hx hb hts i_C hown hK hP 0 rfl rfl 3 (by decide) (hts _ fl_C_33) (fun _ h9 => h9) rfl d_C_wallAt_149 ?_
        refine lv_iload_n hx hb d_C_wallAt_152 rfl (lv_at hl 1 rfl) ?_
        refine cR (W.runV (As := [.int (nI j)]) (rest := []) ⟨hx, hb, hml, hown, hts⟩ (c_O_manyOf hP hI (nI j)) (cwV 1 hts (wB_goodV (fun _ h => h) ml_C_177 im_O_manyOf se_O_manyOf ini_O co_O_manyOf) rfl rfl rfl (by decide +kernel) ⟨Nat.le_of_ble_eq_true rfl, Nat.le_of_ble_eq_true rfl⟩) (pV hK hP (ci := 2) (q0 := 4) rfl rfl _) rfl rfl hl.1 rfl (lv_room (Nat.le_of_ble_eq_true rfl)) d_C_wallAt_153 ⟨Nat.zero_le _, Nat.zero_le _⟩) ?_
        refine lv_i2l (v := (nI (cnt (fun i => decide (vv 9 i = (nI j))) (nn 3))).toInt64) hx hb d_C_wallAt_156 rfl ?_
        have ek : (kTell (tW kn vv x && swB y 9)) = 0 := by simp [kTell, h_2, hsi]
        have er : ((some (.long (waR kn vv nn x.toNatClampNeg y))) : Option Value) = some (.long ((nI (cnt (fun i => decide (vv 9 i = (nI j))) (nn 3))).toInt64)) := by rw [ec, ejj]; rfl
        have hPe : va_P (dC, dI) classes (wC aa cI cZ kn vv) s.heap := by exact hP
        refine vx_ret ?_
        refine W.widen (k := 1) (n := 6) (Nat.zero_le _) (Nat.zero_le _) ?_
        exact W.lret (v := ((nI (cnt (fun i => decide (vv 9 i = (nI j))) (nn 3))).toInt64)) hx hb hr (fun t ht hW => ⟨ek, by rw [er], by rw [ht]; exact hPe, hS.F ht⟩) hS.2.2 d_C_wallAt_157
      | k + 10, h, _ => exact absurd h (by omega)
  · have h_2 : tW kn vv x = false := by simpa using h_2
    have ek : (kTell (tW kn vv x && swB y 9)) = 1 := by simp [kTell, h_2]
    refine cX (vx_runV (As := [.int x]) (rest := []) ⟨hx, hb, hml, hown, hts⟩ (c_C_checkWall_no hlt hP hI  x h_2) (cwV 1 hts (wB_goodV (fun _ h => h) ml_C_102 im_C_checkWall se_C_checkWall ini_C co_C_checkWall) rfl rfl rfl (by decide +kernel) ⟨Nat.le_of_ble_eq_true rfl, Nat.le_of_ble_eq_true rfl⟩) (pVT hK hT hS hP (ci := 0) (q0 := 0) rfl rfl _) rfl rfl hl.1 rfl (lv_room (Nat.le_of_ble_eq_true rfl)) d_C_wallAt_2 ⟨Nat.le_of_ble_eq_true rfl, Nat.le_of_ble_eq_true rfl⟩) (fun ce q9 H1 locs1 hz hkp hlo hce hcv hcl => ?_)
    exact vx_out (fun x h => (hexc x h).elim) hlocks hce hcv hcl (fun t ht hal => ⟨Or.inl ⟨ek, rfl⟩, by rw [ht]; exact hz, fun q hq _ => by rw [ht]; exact hkp q hq⟩) (fun z hz9 => by cases hlo z hz9) (Nat.le_of_ble_eq_true rfl) (Nat.le_of_ble_eq_true rfl)
set_option maxRecDepth 100000 in
set_option maxHeartbeats 4000000 in
theorem c_C_openingAt (hlt : l.stackTraces = false) (hP : va_P (dC, dI) classes (wC aa cI cZ kn vv) H) (hdD : dD noT aa 22) (hI : okC kn nn) (x y : Int32) : vx_Met l y_C_openingAt (wB y_C_openingAt b_C_openingAt 3 (some .int)) ({ frames := 6, cells := 1, slots := 6, locals := 90 } : Room) (rP [.ref (aa 0), .int x, .int y] H (kT dC dI cI cZ cJ (aN aa 22))) (qT (kTell (haB (kn 3) x && tW kn vv (vv 9 x.toNatClampNeg) && swB y 2)) (some (.int (opR vv x.toNatClampNeg y))) (aN aa 22) (fun H1 => va_P (dC, dI) classes (wC aa cI cZ kn vv) H1)) (xT (kTell (haB (kn 3) x && tW kn vv (vv 9 x.toNatClampNeg) && swB y 2))) 1 6 (aN aa 22) := by
  refine vx_ofW (cc := b_C_openingAt) (maxL := 3) (ret := (some .int)) (by decide) rfl ?_
  intro p e s m args below meth c s₁ B hml hexc hv
  obtain ⟨rfl, rfl, hK, hT⟩ := hv
  have hx := B.exec
  have hb := B.bytes
  have hr := B.returns
  have hts0 := atoms_spec (ws := (wB y_C_openingAt b_C_openingAt 3 (some .int))) B.pre
  have hts : ∀ w9 ∈ BG, w9.before [.ref (aa 0), .int x, .int y].toArray s = true := fun w9 hw9 => hts0 w9 (List.mem_cons_of_mem _ hw9)
  have hown : s.vm.findClass R_C = some m.cls := findClass_of_methodNamed B.named
  have hlocks := B.notSynchronized
  have hK : va_K (dC, dI) classes [(cI, .int), (cZ, .boolean), (cJ, .long)] s := hK
  have hD : va_D (aN aa 22) (wC aa cI cZ kn vv) := wC_D (dD_aN hdD)
  have hS : va_S (aN aa 22) s.heap s.heap [] := va_S.rf
  have hl := lv_entry ([.ref (aa 0), .int x, .int y]) (n := 3) (Nat.le_of_ble_eq_true rfl)
  rw [lg_entry_eq]
  generalize (lg_sl ([.ref (aa 0), .int x, .int y]) ++ List.replicate (3 - (lg_sl ([.ref (aa 0), .int x, .int y])).length) Slot.unset).toArray = ls at hl ⊢
  have hl : lv_has ls 3 [(0, .ref (aa 0)), (1, .int x), (2, .int y)] := hl
  obtain ⟨eK, b0, b1, b2, b3, b4, b5⟩ := id hI
  refine lv_aload_n hx hb d_C_openingAt_0 rfl (lv_at hl 0 rfl) ?_
  refine va_get (D := (dC, dI)) (ci := 0) (v := .ref (aa 4)) (C := R_C) (T := F_C) (N := 5) hx hb hts i_C hown hK hP 0 rfl rfl 3 (by decide) (hts _ fl_C_33) (fun _ h9 => h9) rfl d_C_openingAt_1 ?_
  refine lv_iload_n hx hb d_C_openingAt_4 rfl (lv_at hl 1 rfl) ?_
  refine cR (W.runV (As := [.int x]) (rest := []) ⟨hx, hb, hml, hown, hts⟩ (c_O_has hP x) (cwV 1 hts (wB_goodV (fun _ h => h) ml_C_182 im_O_has se_O_has ini_O co_O_has) rfl rfl rfl (by decide +kernel) ⟨Nat.le_of_ble_eq_true rfl, Nat.le_of_ble_eq_true rfl⟩) (pV hK hP (ci := 2) (q0 := 4) rfl rfl _) rfl rfl hl.1 rfl (lv_room (Nat.le_of_ble_eq_true rfl)) d_C_openingAt_5 ⟨Nat.zero_le _, Nat.zero_le _⟩) ?_
  refine lv_if_eq (tgt := 30) hx hb d_C_openingAt_8 (by decide) (fun c_8 => ?_) (fun c_8 => ?_)
  · have h8 : haB (kn 3) x = false := bI_0.mp c_8
    have ek : (kTell (haB (kn 3) x && tW kn vv (vv 9 x.toNatClampNeg) && swB y 2)) = 1 := by first | (simp [kTell, h8]; done) | (rw [ec]; simp [kTell, h8, h27]; done)
    exact thIA hx hb hlt hown hts hT hS (hl.1.trans hml.symm) (is := 191) (List.mem_of_getElem? (i := 21) rfl) d_C_openingAt_30 d_C_openingAt_33 d_C_openingAt_34 d_C_openingAt_36 d_C_openingAt_39 hexc (Nat.le_of_ble_eq_true rfl) (Nat.le_of_ble_eq_true rfl) (Nat.le_of_ble_eq_true rfl) (Nat.le_of_ble_eq_true rfl) hlocks (fun t hal hz hkp => ⟨Or.inl ⟨ek, rfl⟩, hz, fun q hq _ => hkp q hq⟩) (fun z hz => by cases hz) (Nat.le_of_ble_eq_true rfl) (Nat.le_of_ble_eq_true rfl)
  · have h8 : haB (kn 3) x = true := bI_n0.mp c_8
    obtain ⟨j, hj, ej⟩ := haB_n (eK 3 (by decide)) (by omega) h8
    have ec : x.toNatClampNeg = j := by rw [ej]; exact nI_clamp (by omega)
    rw [ej] at hl
    refine lv_aload_n hx hb d_C_openingAt_11 rfl (lv_at hl 0 rfl) ?_
    refine va_get (D := (dC, dI)) (ci := 0) (v := .ref (aa 3)) (C := R_C) (T := F_C) (N := 5) hx hb hts i_C hown hK hP 0 rfl rfl 2 (by decide) (hts _ fl_C_26) (fun _ h9 => h9) rfl d_C_openingAt_12 ?_
    refine lv_aload_n hx hb d_C_openingAt_15 rfl (lv_at hl 0 rfl) ?_
    refine va_get (D := (dC, dI)) (ci := 0) (v := .ref (aa 4)) (C := R_C) (T := F_C) (N := 5) hx hb hts i_C hown hK hP 0 rfl rfl 3 (by decide) (hts _ fl_C_33) (fun _ h9 => h9) rfl d_C_openingAt_16 ?_
    refine va_get (D := (dC, dI)) (ci := 2) (v := .ref (aa 15)) (C := R_O) (T := F_O) (N := 4) hx hb hts i_O hown hK hP 4 rfl rfl 0 (by decide) (hts _ fl_C_186) (fun _ h9 => h9) rfl d_C_openingAt_19 ?_
    refine lv_iload_n hx hb d_C_openingAt_22 rfl (lv_at hl 1 rfl) ?_
    refine va_iald hx hb hK hP 15 0 rfl rfl (vp_in_nI (by omega) (by omega)) d_C_openingAt_23 ?_
    rw [nI_clamp (show j < 2 ^ 31 by omega)]
    refine cR (W.runV (As := [.int ((vv 9) j)]) (rest := []) ⟨hx, hb, hml, hown, hts⟩ (c_W_isThere hP hI ((vv 9) j)) (cwV 1 hts (wB_goodV (fun _ h => h) ml_C_188 im_W_isThere se_W_isThere ini_W co_W_isThere) rfl rfl rfl (by decide +kernel) ⟨Nat.le_of_ble_eq_true rfl, Nat.le_of_ble_eq_true rfl⟩) (pV hK hP (ci := 5) (q0 := 3) rfl rfl _) rfl rfl hl.1 rfl (lv_room (Nat.le_of_ble_eq_true rfl)) d_C_openingAt_24 ⟨Nat.zero_le _, Nat.zero_le _⟩) ?_
    refine lv_if_ne (tgt := 40) hx hb d_C_openingAt_27 (by decide) (fun c_27 => ?_) (fun c_27 => ?_)
    · have h27 : tW kn vv (vv 9 j) = true := bI_n0.mp c_27
      refine lv_iload_n hx hb d_C_openingAt_40 rfl (lv_at hl 2 rfl) ?_
      rcases sw_in (x := y) (n := 2) (by decide) with hsw | hsw | ⟨jj, hjj, ejj⟩
      · have hsn : ∀ k, k ≤ 2 → ¬ y = nI k := fun k hk => sw_no (n := 2) (by decide) (Or.inl hsw) hk
        have hsi : swB y 2 = false := swB_no hsn
        refine lv_tableOut (tgt := 98) hx hb d_C_openingAt_41 (Or.inl hsw) (by decide) ?_
        have ek : (kTell (haB (kn 3) x && tW kn vv (vv 9 x.toNatClampNeg) && swB y 2)) = 1 := by simp [kTell, hsi]
        exact thIA hx hb hlt hown hts hT hS (hl.1.trans hml.symm) (is := 199) (List.mem_of_getElem? (i := 22) rfl) d_C_openingAt_98 d_C_openingAt_101 d_C_openingAt_102 d_C_openingAt_104 d_C_openingAt_107 hexc (Nat.le_of_ble_eq_true rfl) (Nat.le_of_ble_eq_true rfl) (Nat.le_of_ble_eq_true rfl) (Nat.le_of_ble_eq_true rfl) hlocks (fun t hal hz hkp => ⟨Or.inl ⟨ek, rfl⟩, hz, fun q hq _ => hkp q hq⟩) (fun z hz => by cases hz) (Nat.le_of_ble_eq_true rfl) (Nat.le_of_ble_eq_true rfl)
      · have hsn : ∀ k, k ≤ 2 → ¬ y = nI k := fun k hk => sw_no (n := 2) (by decide) (Or.inr hsw) hk
        have hsi : swB y 2 = false := swB_no hsn
        refine lv_tableOut (tgt := 98) hx hb d_C_openingAt_41 (Or.inr hsw) (by decide) ?_
        have ek : (kTell (haB (kn 3) x && tW kn vv (vv 9 x.toNatClampNeg) && swB y 2)) = 1 := by simp [kTell, hsi]
        exact thIA hx hb hlt hown hts hT hS (hl.1.trans hml.symm) (is := 199) (List.mem_of_getElem? (i := 22) rfl) d_C_openingAt_98 d_C_openingAt_101 d_C_openingAt_102 d_C_openingAt_104 d_C_openingAt_107 hexc (Nat.le_of_ble_eq_true rfl) (Nat.le_of_ble_eq_true rfl) (Nat.le_of_ble_eq_true rfl) (Nat.le_of_ble_eq_true rfl) hlocks (fun t hal hz hkp => ⟨Or.inl ⟨ek, rfl⟩, hz, fun q hq _ => hkp q hq⟩) (fun z hz => by cases hz) (Nat.le_of_ble_eq_true rfl) (Nat.le_of_ble_eq_true rfl)
      · match jj, hjj, ejj with
        | 0, _, ejj =>
          have hsi : swB y 2 = true := swB_in (n := 2) ejj (by decide)
          refine lv_tableIn (off := 27) (tgt := 68) hx hb d_C_openingAt_41 (by rw [ejj]; decide) (by rw [ejj]; decide) (by rw [ejj]; decide) (by decide) ?_
          refine lv_aload_n hx hb d_C_openingAt_68 rfl (lv_at hl 0 rfl) ?_
          refine va_get (D := (dC, dI)) (ci := 0) (v := .ref (aa 4)) (C := R_C) (T := F_C) (N := 5) hx hb hts i_C hown hK hP 0 rfl rfl 3 (by decide) (hts _ fl_C_33) (fun _ h9 => h9) rfl d_C_openingAt_69 ?_
          refine va_get (D := (dC, dI)) (ci := 2) (v := .ref (aa 15)) (C := R_O) (T := F_O) (N := 4) hx hb hts i_O hown hK hP 4 rfl rfl 0 (by decide) (hts _ fl_C_186) (fun _ h9 => h9) rfl d_C_openingAt_72 ?_
          refine lv_iload_n hx hb d_C_openingAt_75 rfl (lv_at hl 1 rfl) ?_
          refine va_iald hx hb hK hP 15 0 rfl rfl (vp_in_nI (by omega) (by omega)) d_C_openingAt_76 ?_
          rw [nI_clamp (show j < 2 ^ 31 by omega)]
          have ek : (kTell (haB (kn 3) x && tW kn vv (vv 9 x.toNatClampNeg) && swB y 2)) = 0 := by rw [ec]; simp [kTell, h8, h27, hsi]
          have er : ((some (.int (opR vv x.toNatClampNeg y))) : Option Value) = some (.int ((vv 9) j)) := by rw [ec, ejj]; rfl
          have hPe : va_P (dC, dI) classes (wC aa cI cZ kn vv) s.heap := by exact hP
          refine vx_ret ?_
          refine W.widen (k := 1) (n := 6) (Nat.zero_le _) (Nat.zero_le _) ?_
          exact W.iret (v := ((vv 9) j)) hx hb hr (fun t ht hW => ⟨ek, by rw [er], by rw [ht]; exact hPe, hS.F ht⟩) hS.2.2 d_C_openingAt_77
        | 1, _, ejj =>
          have hsi : swB y 2 = true := swB_in (n := 2) ejj (by decide)
          refine lv_tableIn (off := 37) (tgt := 78) hx hb d_C_openingAt_41 (by rw [ejj]; decide) (by rw [ejj]; decide) (by rw [ejj]; decide) (by decide) ?_
          refine lv_aload_n hx hb d_C_openingAt_78 rfl (lv_at hl 0 rfl) ?_
          refine va_get (D := (dC, dI)) (ci := 0) (v := .ref (aa 4)) (C := R_C) (T := F_C) (N := 5) hx hb hts i_C hown hK hP 0 rfl rfl 3 (by decide) (hts _ fl_C_33) (fun _ h9 => h9) rfl d_C_openingAt_79 ?_
          refine va_get (D := (dC, dI)) (ci := 2) (v := .ref (aa 16)) (C := R_O) (T := F_O) (N := 4) hx hb hts i_O hown hK hP 4 rfl rfl 1 (by decide) (hts _ fl_C_193) (fun _ h9 => h9) rfl d_C_openingAt_82 ?_
          refine lv_iload_n hx hb d_C_openingAt_85 rfl (lv_at hl 1 rfl) ?_
          refine va_iald hx hb hK hP 16 0 rfl rfl (vp_in_nI (by omega) (by omega)) d_C_openingAt_86 ?_
          rw [nI_clamp (show j < 2 ^ 31 by omega)]
          have ek : (kTell (haB (kn 3) x && tW kn vv (vv 9 x.toNatClampNeg) && swB y 2)) = 0 := by rw [ec]; simp [kTell, h8, h27, hsi]
          have er : ((some (.int (opR vv x.toNatClampNeg y))) : Option Value) = some (.int ((vv 10) j)) := by rw [ec, ejj]; rfl
          have hPe : va_P (dC, dI) classes (wC aa cI cZ kn vv) s.heap := by exact hP
          refine vx_ret ?_
          refine W.widen (k := 1) (n := 6) (Nat.zero_le _) (Nat.zero_le _) ?_
          exact W.iret (v := ((vv 10) j)) hx hb hr (fun t ht hW => ⟨ek, by rw [er], by rw [ht]; exact hPe, hS.F ht⟩) hS.2.2 d_C_openingAt_87
        | 2, _, ejj =>
          have hsi : swB y 2 = true := swB_in (n := 2) ejj (by decide)
          refine lv_tableIn (off := 47) (tgt := 88) hx hb d_C_openingAt_41 (by rw [ejj]; decide) (by rw [ejj]; decide) (by rw [ejj]; decide) (by decide) ?_
          refine lv_aload_n hx hb d_C_openingAt_88 rfl (lv_at hl 0 rfl) ?_
          refine va_get (D := (dC, dI)) (ci := 0) (v := .ref (aa 4)) (C := R_C) (T := F_C) (N := 5) hx hb hts i_C hown hK hP 0 rfl rfl 3 (by decide) (hts _ fl_C_33) (fun _ h9 => h9) rfl d_C_openingAt_89 ?_
          refine va_get (D := (dC, dI)) (ci := 2) (v := .ref (aa 17)) (C := R_O) (T := F_O) (N := 4) hx hb hts i_O hown hK hP 4 rfl rfl 2 (by decide) (hts _ fl_C_196) (fun _ h9 => h9) rfl d_C_openingAt_92 ?_
          refine lv_iload_n hx hb d_C_openingAt_95 rfl (lv_at hl 1 rfl) ?_
          refine va_iald hx hb hK hP 17 0 rfl rfl (vp_in_nI (by omega) (by omega)) d_C_openingAt_96 ?_
          rw [nI_clamp (show j < 2 ^ 31 by omega)]
          have ek : (kTell (haB (kn 3) x && tW kn vv (vv 9 x.toNatClampNeg) && swB y 2)) = 0 := by rw [ec]; simp [kTell, h8, h27, hsi]
          have er : ((some (.int (opR vv x.toNatClampNeg y))) : Option Value) = some (.int ((vv 11) j)) := by rw [ec, ejj]; rfl
          have hPe : va_P (dC, dI) classes (wC aa cI cZ kn vv) s.heap := by exact hP
          refine vx_ret ?_
          refine W.widen (k := 1) (n := 6) (Nat.zero_le _) (Nat.zero_le _) ?_
          exact W.iret (v := ((vv 11) j)) hx hb hr (fun t ht hW => ⟨ek, by rw [er], by rw [ht]; exact hPe, hS.F ht⟩) hS.2.2 d_C_openingAt_97
        | k + 3, h, _ => exact absurd h (by omega)
    · have h27 : tW kn vv (vv 9 j) = false := bI_0.mp (by simpa using c_27)
      have ek : (kTell (haB (kn 3) x && tW kn vv (vv 9 x.toNatClampNeg) && swB y 2)) = 1 := by first | (simp [kTell, h8]; done) | (rw [ec]; simp [kTell, h8, h27]; done)
      exact thIA hx hb hlt hown hts hT hS (hl.1.trans hml.symm) (is := 191) (List.mem_of_getElem? (i := 21) rfl) d_C_openingAt_30 d_C_openingAt_33 d_C_openingAt_34 d_C_openingAt_36 d_C_openingAt_39 hexc (Nat.le_of_ble_eq_true rfl) (Nat.le_of_ble_eq_true rfl) (Nat.le_of_ble_eq_true rfl) (Nat.le_of_ble_eq_true rfl) hlocks (fun t hal hz hkp => ⟨Or.inl ⟨ek, rfl⟩, hz, fun q hq _ => hkp q hq⟩) (fun z hz => by cases hz) (Nat.le_of_ble_eq_true rfl) (Nat.le_of_ble_eq_true rfl)
set_option maxRecDepth 100000 in
set_option maxHeartbeats 4000000 in
theorem c_C_storeyAt (hlt : l.stackTraces = false) (hP : va_P (dC, dI) classes (wC aa cI cZ kn vv) H) (hdD : dD noT aa 22) (hI : okC kn nn) (hV : okV nn vv) (x y : Int32) : vx_Met l y_C_storeyAt (wB y_C_storeyAt b_C_storeyAt 3 (some .long)) ({ frames := 7, cells := 1, slots := 6, locals := 137 } : Room) (rP [.ref (aa 0), .int x, .int y] H (kT dC dI cI cZ cJ (aN aa 22))) (qT (kTell (haB (kn 0) x && swB y 3)) (some (.long (srR kn vv nn x y))) (aN aa 22) (fun H1 => va_P (dC, dI) classes (wC aa cI cZ kn vv) H1)) (xT (kTell (haB (kn 0) x && swB y 3))) 1 6 (aN aa 22) := by
  refine vx_ofW (cc := b_C_storeyAt) (maxL := 3) (ret := (some .long)) (by decide) rfl ?_
  intro p e s m args below meth c s₁ B hml hexc hv
  obtain ⟨rfl, rfl, hK, hT⟩ := hv
  have hx := B.exec
  have hb := B.bytes
  have hr := B.returns
  have hts0 := atoms_spec (ws := (wB y_C_storeyAt b_C_storeyAt 3 (some .long))) B.pre
  have hts : ∀ w9 ∈ BG, w9.before [.ref (aa 0), .int x, .int y].toArray s = true := fun w9 hw9 => hts0 w9 (List.mem_cons_of_mem _ hw9)
  have hown : s.vm.findClass R_C = some m.cls := findClass_of_methodNamed B.named
  have hlocks := B.notSynchronized
  have hK : va_K (dC, dI) classes [(cI, .int), (cZ, .boolean), (cJ, .long)] s := hK
  have hD : va_D (aN aa 22) (wC aa cI cZ kn vv) := wC_D (dD_aN hdD)
  have hS : va_S (aN aa 22) s.heap s.heap [] := va_S.rf
  have hl := lv_entry ([.ref (aa 0), .int x, .int y]) (n := 3) (Nat.le_of_ble_eq_true rfl)
  rw [lg_entry_eq]
  generalize (lg_sl ([.ref (aa 0), .int x, .int y]) ++ List.replicate (3 - (lg_sl ([.ref (aa 0), .int x, .int y])).length) Slot.unset).toArray = ls at hl ⊢
  have hl : lv_has ls 3 [(0, .ref (aa 0)), (1, .int x), (2, .int y)] := hl
  obtain ⟨eK, b0, b1, b2, b3, b4, b5⟩ := id hI
  refine lv_aload_n hx hb d_C_storeyAt_0 rfl (lv_at hl 0 rfl) ?_
  refine lv_iload_n hx hb d_C_storeyAt_1 rfl (lv_at hl 1 rfl) ?_
  by_cases h_2 : haB (kn 0) x = true
  · refine cV (W.runV (As := [.int x]) (rest := []) ⟨hx, hb, hml, hown, hts⟩ (c_C_checkStorey_ok hP  x h_2) (cwV 1 hts (wB_goodV (fun _ h => h) ml_C_70 im_C_checkStorey se_C_checkStorey ini_C co_C_checkStorey) rfl rfl rfl (by decide +kernel) ⟨Nat.le_of_ble_eq_true rfl, Nat.le_of_ble_eq_true rfl⟩) (pV hK hP (ci := 0) (q0 := 0) rfl rfl _) rfl rfl hl.1 rfl (lv_room (Nat.le_of_ble_eq_true rfl)) d_C_storeyAt_2 ⟨Nat.le_of_ble_eq_true rfl, Nat.le_of_ble_eq_true rfl⟩) ?_
    obtain ⟨j, hj, ej⟩ := (haB_n (eK 0 (by decide)) (by omega) h_2)
    rw [ej] at hl
    have ec : x.toNatClampNeg = j := by rw [ej]; exact nI_clamp (by omega)
    refine lv_iload_n hx hb d_C_storeyAt_5 rfl (lv_at hl 2 rfl) ?_
    rcases sw_in (x := y) (n := 3) (by decide) with hsw | hsw | ⟨jj, hjj, ejj⟩
    · have hsn : ∀ k, k ≤ 3 → ¬ y = nI k := fun k hk => sw_no (n := 3) (by decide) (Or.inl hsw) hk
      have hsi : swB y 3 = false := swB_no hsn
      refine lv_tableOut (tgt := 73) hx hb d_C_storeyAt_6 (Or.inl hsw) (by decide) ?_
      have ek : (kTell (haB (kn 0) x && swB y 3)) = 1 := by simp [kTell, hsi]
      exact thIA hx hb hlt hown hts hT hS (hl.1.trans hml.symm) (is := 207) (List.mem_of_getElem? (i := 23) rfl) d_C_storeyAt_73 d_C_storeyAt_76 d_C_storeyAt_77 d_C_storeyAt_79 d_C_storeyAt_82 hexc (Nat.le_of_ble_eq_true rfl) (Nat.le_of_ble_eq_true rfl) (Nat.le_of_ble_eq_true rfl) (Nat.le_of_ble_eq_true rfl) hlocks (fun t hal hz hkp => ⟨Or.inl ⟨ek, rfl⟩, hz, fun q hq _ => hkp q hq⟩) (fun z hz => by cases hz) (Nat.le_of_ble_eq_true rfl) (Nat.le_of_ble_eq_true rfl)
    · have hsn : ∀ k, k ≤ 3 → ¬ y = nI k := fun k hk => sw_no (n := 3) (by decide) (Or.inr hsw) hk
      have hsi : swB y 3 = false := swB_no hsn
      refine lv_tableOut (tgt := 73) hx hb d_C_storeyAt_6 (Or.inr hsw) (by decide) ?_
      have ek : (kTell (haB (kn 0) x && swB y 3)) = 1 := by simp [kTell, hsi]
      exact thIA hx hb hlt hown hts hT hS (hl.1.trans hml.symm) (is := 207) (List.mem_of_getElem? (i := 23) rfl) d_C_storeyAt_73 d_C_storeyAt_76 d_C_storeyAt_77 d_C_storeyAt_79 d_C_storeyAt_82 hexc (Nat.le_of_ble_eq_true rfl) (Nat.le_of_ble_eq_true rfl) (Nat.le_of_ble_eq_true rfl) (Nat.le_of_ble_eq_true rfl) hlocks (fun t hal hz hkp => ⟨Or.inl ⟨ek, rfl⟩, hz, fun q hq _ => hkp q hq⟩) (fun z hz => by cases hz) (Nat.le_of_ble_eq_true rfl) (Nat.le_of_ble_eq_true rfl)
    · match jj, hjj, ejj with
      | 0, _, ejj =>
        have hsi : swB y 3 = true := swB_in (n := 3) ejj (by decide)
        refine lv_tableIn (off := 30) (tgt := 36) hx hb d_C_storeyAt_6 (by rw [ejj]; decide) (by rw [ejj]; decide) (by rw [ejj]; decide) (by decide) ?_
        refine lv_aload_n hx hb d_C_storeyAt_36 rfl (lv_at hl 0 rfl) ?_
        refine va_get (D := (dC, dI)) (ci := 0) (v := .ref (aa 1)) (C := R_C) (T := F_C) (N := 5) hx hb hts i_C hown hK hP 0 rfl rfl 0 (by decide) (hts _ fl_C_10) (fun _ h9 => h9) rfl d_C_storeyAt_37 ?_
        refine va_get (D := (dC, dI)) (ci := 3) (v := .ref (aa 6)) (C := R_S) (T := F_S) (N := 2) hx hb hts i_S hown hK hP 1 rfl rfl 0 (by decide) (hts _ fl_C_62) (fun _ h9 => h9) rfl d_C_storeyAt_40 ?_
        refine lv_iload_n hx hb d_C_storeyAt_43 rfl (lv_at hl 1 rfl) ?_
        refine va_iald hx hb hK hP 6 0 rfl rfl (vp_in_nI (by omega) (by omega)) d_C_storeyAt_44 ?_
        rw [nI_clamp (show j < 2 ^ 31 by omega)]
        refine lv_i2l (v := ((vv 0) j).toInt64) hx hb d_C_storeyAt_45 rfl ?_
        have ek : (kTell (haB (kn 0) x && swB y 3)) = 0 := by simp [kTell, h_2, hsi]
        have er : ((some (.long (srR kn vv nn x y))) : Option Value) = some (.long (((vv 0) j).toInt64)) := by rw [srR, ec, ejj, ej]; rfl
        have hPe : va_P (dC, dI) classes (wC aa cI cZ kn vv) s.heap := by exact hP
        refine vx_ret ?_
        refine W.widen (k := 1) (n := 6) (Nat.zero_le _) (Nat.zero_le _) ?_
        exact W.lret (v := (((vv 0) j).toInt64)) hx hb hr (fun t ht hW => ⟨ek, by rw [er], by rw [ht]; exact hPe, hS.F ht⟩) hS.2.2 d_C_storeyAt_46
      | 1, _, ejj =>
        have hsi : swB y 3 = true := swB_in (n := 3) ejj (by decide)
        refine lv_tableIn (off := 41) (tgt := 47) hx hb d_C_storeyAt_6 (by rw [ejj]; decide) (by rw [ejj]; decide) (by rw [ejj]; decide) (by decide) ?_
        refine lv_aload_n hx hb d_C_storeyAt_47 rfl (lv_at hl 0 rfl) ?_
        refine va_get (D := (dC, dI)) (ci := 0) (v := .ref (aa 1)) (C := R_C) (T := F_C) (N := 5) hx hb hts i_C hown hK hP 0 rfl rfl 0 (by decide) (hts _ fl_C_10) (fun _ h9 => h9) rfl d_C_storeyAt_48 ?_
        refine lv_iload_n hx hb d_C_storeyAt_51 rfl (lv_at hl 1 rfl) ?_
        refine cR (W.runV (As := [.int (nI j)]) (rest := []) ⟨hx, hb, hml, hown, hts⟩ (c_S_height hP hI (show j < 6 by omega)) (cwV 1 hts (wB_goodV (fun _ h => h) ml_C_201 im_S_height se_S_height ini_S co_S_height) rfl rfl rfl (by decide +kernel) ⟨Nat.le_of_ble_eq_true rfl, Nat.le_of_ble_eq_true rfl⟩) (pV hK hP (ci := 3) (q0 := 1) rfl rfl _) rfl rfl hl.1 rfl (lv_room (Nat.le_of_ble_eq_true rfl)) d_C_storeyAt_52 ⟨Nat.zero_le _, Nat.zero_le _⟩) ?_
        refine lv_i2l (v := (heC kn vv j).toInt64) hx hb d_C_storeyAt_55 rfl ?_
        have ek : (kTell (haB (kn 0) x && swB y 3)) = 0 := by simp [kTell, h_2, hsi]
        have er : ((some (.long (srR kn vv nn x y))) : Option Value) = some (.long ((heC kn vv j).toInt64)) := by rw [srR, ec, ejj, ej]; rfl
        have hPe : va_P (dC, dI) classes (wC aa cI cZ kn vv) s.heap := by exact hP
        refine vx_ret ?_
        refine W.widen (k := 1) (n := 6) (Nat.zero_le _) (Nat.zero_le _) ?_
        exact W.lret (v := ((heC kn vv j).toInt64)) hx hb hr (fun t ht hW => ⟨ek, by rw [er], by rw [ht]; exact hPe, hS.F ht⟩) hS.2.2 d_C_storeyAt_56
      | 2, _, ejj =>
        have hsi : swB y 3 = true := swB_in (n := 3) ejj (by decide)
        refine lv_tableIn (off := 51) (tgt := 57) hx hb d_C_storeyAt_6 (by rw [ejj]; decide) (by rw [ejj]; decide) (by rw [ejj]; decide) (by decide) ?_
        refine lv_aload_n hx hb d_C_storeyAt_57 rfl (lv_at hl 0 rfl) ?_
        refine va_get (D := (dC, dI)) (ci := 0) (v := .ref (aa 3)) (C := R_C) (T := F_C) (N := 5) hx hb hts i_C hown hK hP 0 rfl rfl 2 (by decide) (hts _ fl_C_26) (fun _ h9 => h9) rfl d_C_storeyAt_58 ?_
        refine lv_iload_n hx hb d_C_storeyAt_61 rfl (lv_at hl 1 rfl) ?_
        refine cR (W.runV (As := [.int (nI j)]) (rest := []) ⟨hx, hb, hml, hown, hts⟩ (c_W_manyOn hP hI (nI j)) (cwV 1 hts (wB_goodV (fun _ h => h) ml_C_137 im_W_manyOn se_W_manyOn ini_W co_W_manyOn) rfl rfl rfl (by decide +kernel) ⟨Nat.le_of_ble_eq_true rfl, Nat.le_of_ble_eq_true rfl⟩) (pV hK hP (ci := 5) (q0 := 3) rfl rfl _) rfl rfl hl.1 rfl (lv_room (Nat.le_of_ble_eq_true rfl)) d_C_storeyAt_62 ⟨Nat.zero_le _, Nat.zero_le _⟩) ?_
        refine lv_i2l (v := (nI (cnt (fun i => onB kn vv (nI i) (nI j)) (nn 2))).toInt64) hx hb d_C_storeyAt_65 rfl ?_
        have ek : (kTell (haB (kn 0) x && swB y 3)) = 0 := by simp [kTell, h_2, hsi]
        have er : ((some (.long (srR kn vv nn x y))) : Option Value) = some (.long ((nI (cnt (fun i => onB kn vv (nI i) (nI j)) (nn 2))).toInt64)) := by rw [srR, ec, ejj, ej]; rfl
        have hPe : va_P (dC, dI) classes (wC aa cI cZ kn vv) s.heap := by exact hP
        refine vx_ret ?_
        refine W.widen (k := 1) (n := 6) (Nat.zero_le _) (Nat.zero_le _) ?_
        exact W.lret (v := ((nI (cnt (fun i => onB kn vv (nI i) (nI j)) (nn 2))).toInt64)) hx hb hr (fun t ht hW => ⟨ek, by rw [er], by rw [ht]; exact hPe, hS.F ht⟩) hS.2.2 d_C_storeyAt_66
      | 3, _, ejj =>
        have hsi : swB y 3 = true := swB_in (n := 3) ejj (by decide)
        refine lv_tableIn (off := 61) (tgt := 67) hx hb d_C_storeyAt_6 (by rw [ejj]; decide) (by rw [ejj]; decide) (by rw [ejj]; decide) (by decide) ?_
        refine lv_aload_n hx hb d_C_storeyAt_67 rfl (lv_at hl 0 rfl) ?_
        refine lv_iload_n hx hb d_C_storeyAt_68 rfl (lv_at hl 1 rfl) ?_
        refine cRL (W.runV (As := [.int (nI j)]) (rest := []) ⟨hx, hb, hml, hown, hts⟩ (c_C_areaOf hP hI hV (nI j)) (cwV 1 hts (wB_goodV (fun _ h => h) ml_C_204 im_C_areaOf se_C_areaOf ini_C co_C_areaOf) rfl rfl rfl (by decide +kernel) ⟨Nat.le_of_ble_eq_true rfl, Nat.le_of_ble_eq_true rfl⟩) (pV hK hP (ci := 0) (q0 := 0) rfl rfl _) rfl rfl hl.1 rfl (lv_room (Nat.le_of_ble_eq_true rfl)) d_C_storeyAt_69 ⟨Nat.zero_le _, Nat.zero_le _⟩) ?_
        have ek : (kTell (haB (kn 0) x && swB y 3)) = 0 := by simp [kTell, h_2, hsi]
        have er : ((some (.long (srR kn vv nn x y))) : Option Value) = some (.long (sumL (fun i => onB kn vv (nI i) (nI j)) (arC kn vv nn) (nn 2))) := by rw [srR, ec, ejj, ej]; rfl
        have hPe : va_P (dC, dI) classes (wC aa cI cZ kn vv) s.heap := by exact hP
        refine vx_ret ?_
        refine W.widen (k := 1) (n := 6) (Nat.zero_le _) (Nat.zero_le _) ?_
        exact W.lret (v := (sumL (fun i => onB kn vv (nI i) (nI j)) (arC kn vv nn) (nn 2))) hx hb hr (fun t ht hW => ⟨ek, by rw [er], by rw [ht]; exact hPe, hS.F ht⟩) hS.2.2 d_C_storeyAt_72
      | k + 4, h, _ => exact absurd h (by omega)
  · have h_2 : haB (kn 0) x = false := by simpa using h_2
    have ek : (kTell (haB (kn 0) x && swB y 3)) = 1 := by simp [kTell, h_2]
    refine cX (vx_runV (As := [.int x]) (rest := []) ⟨hx, hb, hml, hown, hts⟩ (c_C_checkStorey_no hlt hP  x h_2) (cwV 1 hts (wB_goodV (fun _ h => h) ml_C_70 im_C_checkStorey se_C_checkStorey ini_C co_C_checkStorey) rfl rfl rfl (by decide +kernel) ⟨Nat.le_of_ble_eq_true rfl, Nat.le_of_ble_eq_true rfl⟩) (pVT hK hT hS hP (ci := 0) (q0 := 0) rfl rfl _) rfl rfl hl.1 rfl (lv_room (Nat.le_of_ble_eq_true rfl)) d_C_storeyAt_2 ⟨Nat.le_of_ble_eq_true rfl, Nat.le_of_ble_eq_true rfl⟩) (fun ce q9 H1 locs1 hz hkp hlo hce hcv hcl => ?_)
    exact vx_out (fun x h => (hexc x h).elim) hlocks hce hcv hcl (fun t ht hal => ⟨Or.inl ⟨ek, rfl⟩, by rw [ht]; exact hz, fun q hq _ => by rw [ht]; exact hkp q hq⟩) (fun z hz9 => by cases hlo z hz9) (Nat.le_of_ble_eq_true rfl) (Nat.le_of_ble_eq_true rfl)
set_option maxRecDepth 100000 in
set_option maxHeartbeats 4000000 in
theorem c_C_typeAt (hlt : l.stackTraces = false) (hP : va_P (dC, dI) classes (wC aa cI cZ kn vv) H) (hdD : dD noT aa 22) (hI : okC kn nn) (hV : okV nn vv) (x y : Int32) : vx_Met l y_C_typeAt (wB y_C_typeAt b_C_typeAt 3 (some .long)) ({ frames := 7, cells := 1, slots := 6, locals := 114 } : Room) (rP [.ref (aa 0), .int x, .int y] H (kT dC dI cI cZ cJ (aN aa 22))) (qT (kTell (haB (kn 1) x && swB y 2)) (some (.long (tyR kn vv nn x y))) (aN aa 22) (fun H1 => va_P (dC, dI) classes (wC aa cI cZ kn vv) H1)) (xT (kTell (haB (kn 1) x && swB y 2))) 1 6 (aN aa 22) := by
  refine vx_ofW (cc := b_C_typeAt) (maxL := 3) (ret := (some .long)) (by decide) rfl ?_
  intro p e s m args below meth c s₁ B hml hexc hv
  obtain ⟨rfl, rfl, hK, hT⟩ := hv
  have hx := B.exec
  have hb := B.bytes
  have hr := B.returns
  have hts0 := atoms_spec (ws := (wB y_C_typeAt b_C_typeAt 3 (some .long))) B.pre
  have hts : ∀ w9 ∈ BG, w9.before [.ref (aa 0), .int x, .int y].toArray s = true := fun w9 hw9 => hts0 w9 (List.mem_cons_of_mem _ hw9)
  have hown : s.vm.findClass R_C = some m.cls := findClass_of_methodNamed B.named
  have hlocks := B.notSynchronized
  have hK : va_K (dC, dI) classes [(cI, .int), (cZ, .boolean), (cJ, .long)] s := hK
  have hD : va_D (aN aa 22) (wC aa cI cZ kn vv) := wC_D (dD_aN hdD)
  have hS : va_S (aN aa 22) s.heap s.heap [] := va_S.rf
  have hl := lv_entry ([.ref (aa 0), .int x, .int y]) (n := 3) (Nat.le_of_ble_eq_true rfl)
  rw [lg_entry_eq]
  generalize (lg_sl ([.ref (aa 0), .int x, .int y]) ++ List.replicate (3 - (lg_sl ([.ref (aa 0), .int x, .int y])).length) Slot.unset).toArray = ls at hl ⊢
  have hl : lv_has ls 3 [(0, .ref (aa 0)), (1, .int x), (2, .int y)] := hl
  obtain ⟨eK, b0, b1, b2, b3, b4, b5⟩ := id hI
  refine lv_aload_n hx hb d_C_typeAt_0 rfl (lv_at hl 0 rfl) ?_
  refine lv_iload_n hx hb d_C_typeAt_1 rfl (lv_at hl 1 rfl) ?_
  by_cases h_2 : haB (kn 1) x = true
  · refine cV (W.runV (As := [.int x]) (rest := []) ⟨hx, hb, hml, hown, hts⟩ (c_C_checkType_ok hP  x h_2) (cwV 1 hts (wB_goodV (fun _ h => h) ml_C_83 im_C_checkType se_C_checkType ini_C co_C_checkType) rfl rfl rfl (by decide +kernel) ⟨Nat.le_of_ble_eq_true rfl, Nat.le_of_ble_eq_true rfl⟩) (pV hK hP (ci := 0) (q0 := 0) rfl rfl _) rfl rfl hl.1 rfl (lv_room (Nat.le_of_ble_eq_true rfl)) d_C_typeAt_2 ⟨Nat.le_of_ble_eq_true rfl, Nat.le_of_ble_eq_true rfl⟩) ?_
    obtain ⟨j, hj, ej⟩ := (haB_n (eK 1 (by decide)) (by omega) h_2)
    rw [ej] at hl
    have ec : x.toNatClampNeg = j := by rw [ej]; exact nI_clamp (by omega)
    refine lv_iload_n hx hb d_C_typeAt_5 rfl (lv_at hl 2 rfl) ?_
    rcases sw_in (x := y) (n := 2) (by decide) with hsw | hsw | ⟨jj, hjj, ejj⟩
    · have hsn : ∀ k, k ≤ 2 → ¬ y = nI k := fun k hk => sw_no (n := 2) (by decide) (Or.inl hsw) hk
      have hsi : swB y 2 = false := swB_no hsn
      refine lv_tableOut (tgt := 59) hx hb d_C_typeAt_6 (Or.inl hsw) (by decide) ?_
      have ek : (kTell (haB (kn 1) x && swB y 2)) = 1 := by simp [kTell, hsi]
      exact thIA hx hb hlt hown hts hT hS (hl.1.trans hml.symm) (is := 215) (List.mem_of_getElem? (i := 24) rfl) d_C_typeAt_59 d_C_typeAt_62 d_C_typeAt_63 d_C_typeAt_65 d_C_typeAt_68 hexc (Nat.le_of_ble_eq_true rfl) (Nat.le_of_ble_eq_true rfl) (Nat.le_of_ble_eq_true rfl) (Nat.le_of_ble_eq_true rfl) hlocks (fun t hal hz hkp => ⟨Or.inl ⟨ek, rfl⟩, hz, fun q hq _ => hkp q hq⟩) (fun z hz => by cases hz) (Nat.le_of_ble_eq_true rfl) (Nat.le_of_ble_eq_true rfl)
    · have hsn : ∀ k, k ≤ 2 → ¬ y = nI k := fun k hk => sw_no (n := 2) (by decide) (Or.inr hsw) hk
      have hsi : swB y 2 = false := swB_no hsn
      refine lv_tableOut (tgt := 59) hx hb d_C_typeAt_6 (Or.inr hsw) (by decide) ?_
      have ek : (kTell (haB (kn 1) x && swB y 2)) = 1 := by simp [kTell, hsi]
      exact thIA hx hb hlt hown hts hT hS (hl.1.trans hml.symm) (is := 215) (List.mem_of_getElem? (i := 24) rfl) d_C_typeAt_59 d_C_typeAt_62 d_C_typeAt_63 d_C_typeAt_65 d_C_typeAt_68 hexc (Nat.le_of_ble_eq_true rfl) (Nat.le_of_ble_eq_true rfl) (Nat.le_of_ble_eq_true rfl) (Nat.le_of_ble_eq_true rfl) hlocks (fun t hal hz hkp => ⟨Or.inl ⟨ek, rfl⟩, hz, fun q hq _ => hkp q hq⟩) (fun z hz => by cases hz) (Nat.le_of_ble_eq_true rfl) (Nat.le_of_ble_eq_true rfl)
    · match jj, hjj, ejj with
      | 0, _, ejj =>
        have hsi : swB y 2 = true := swB_in (n := 2) ejj (by decide)
        refine lv_tableIn (off := 26) (tgt := 32) hx hb d_C_typeAt_6 (by rw [ejj]; decide) (by rw [ejj]; decide) (by rw [ejj]; decide) (by decide) ?_
        refine lv_aload_n hx hb d_C_typeAt_32 rfl (lv_at hl 0 rfl) ?_
        refine va_get (D := (dC, dI)) (ci := 0) (v := .ref (aa 2)) (C := R_C) (T := F_C) (N := 5) hx hb hts i_C hown hK hP 0 rfl rfl 1 (by decide) (hts _ fl_C_19) (fun _ h9 => h9) rfl d_C_typeAt_33 ?_
        refine va_get (D := (dC, dI)) (ci := 4) (v := .ref (aa 7)) (C := R_T) (T := F_T) (N := 2) hx hb hts i_T hown hK hP 2 rfl rfl 0 (by decide) (hts _ fl_C_80) (fun _ h9 => h9) rfl d_C_typeAt_36 ?_
        refine lv_iload_n hx hb d_C_typeAt_39 rfl (lv_at hl 1 rfl) ?_
        refine va_iald hx hb hK hP 7 0 rfl rfl (vp_in_nI (by omega) (by omega)) d_C_typeAt_40 ?_
        rw [nI_clamp (show j < 2 ^ 31 by omega)]
        refine lv_i2l (v := ((vv 1) j).toInt64) hx hb d_C_typeAt_41 rfl ?_
        have ek : (kTell (haB (kn 1) x && swB y 2)) = 0 := by simp [kTell, h_2, hsi]
        have er : ((some (.long (tyR kn vv nn x y))) : Option Value) = some (.long (((vv 1) j).toInt64)) := by rw [tyR, ec, ejj, ej]; rfl
        have hPe : va_P (dC, dI) classes (wC aa cI cZ kn vv) s.heap := by exact hP
        refine vx_ret ?_
        refine W.widen (k := 1) (n := 6) (Nat.zero_le _) (Nat.zero_le _) ?_
        exact W.lret (v := (((vv 1) j).toInt64)) hx hb hr (fun t ht hW => ⟨ek, by rw [er], by rw [ht]; exact hPe, hS.F ht⟩) hS.2.2 d_C_typeAt_42
      | 1, _, ejj =>
        have hsi : swB y 2 = true := swB_in (n := 2) ejj (by decide)
        refine lv_tableIn (off := 37) (tgt := 43) hx hb d_C_typeAt_6 (by rw [ejj]; decide) (by rw [ejj]; decide) (by rw [ejj]; decide) (by decide) ?_
        refine lv_aload_n hx hb d_C_typeAt_43 rfl (lv_at hl 0 rfl) ?_
        refine va_get (D := (dC, dI)) (ci := 0) (v := .ref (aa 3)) (C := R_C) (T := F_C) (N := 5) hx hb hts i_C hown hK hP 0 rfl rfl 2 (by decide) (hts _ fl_C_26) (fun _ h9 => h9) rfl d_C_typeAt_44 ?_
        refine lv_iload_n hx hb d_C_typeAt_47 rfl (lv_at hl 1 rfl) ?_
        refine cR (W.runV (As := [.int (nI j)]) (rest := []) ⟨hx, hb, hml, hown, hts⟩ (c_W_manyWith hP hI (nI j)) (cwV 1 hts (wB_goodV (fun _ h => h) ml_C_209 im_W_manyWith se_W_manyWith ini_W co_W_manyWith) rfl rfl rfl (by decide +kernel) ⟨Nat.le_of_ble_eq_true rfl, Nat.le_of_ble_eq_true rfl⟩) (pV hK hP (ci := 5) (q0 := 3) rfl rfl _) rfl rfl hl.1 rfl (lv_room (Nat.le_of_ble_eq_true rfl)) d_C_typeAt_48 ⟨Nat.zero_le _, Nat.zero_le _⟩) ?_
        refine lv_i2l (v := (nI (cnt (fun i => wiB kn vv (nI i) (nI j)) (nn 2))).toInt64) hx hb d_C_typeAt_51 rfl ?_
        have ek : (kTell (haB (kn 1) x && swB y 2)) = 0 := by simp [kTell, h_2, hsi]
        have er : ((some (.long (tyR kn vv nn x y))) : Option Value) = some (.long ((nI (cnt (fun i => wiB kn vv (nI i) (nI j)) (nn 2))).toInt64)) := by rw [tyR, ec, ejj, ej]; rfl
        have hPe : va_P (dC, dI) classes (wC aa cI cZ kn vv) s.heap := by exact hP
        refine vx_ret ?_
        refine W.widen (k := 1) (n := 6) (Nat.zero_le _) (Nat.zero_le _) ?_
        exact W.lret (v := ((nI (cnt (fun i => wiB kn vv (nI i) (nI j)) (nn 2))).toInt64)) hx hb hr (fun t ht hW => ⟨ek, by rw [er], by rw [ht]; exact hPe, hS.F ht⟩) hS.2.2 d_C_typeAt_52
      | 2, _, ejj =>
        have hsi : swB y 2 = true := swB_in (n := 2) ejj (by decide)
        refine lv_tableIn (off := 47) (tgt := 53) hx hb d_C_typeAt_6 (by rw [ejj]; decide) (by rw [ejj]; decide) (by rw [ejj]; decide) (by decide) ?_
        refine lv_aload_n hx hb d_C_typeAt_53 rfl (lv_at hl 0 rfl) ?_
        refine lv_iload_n hx hb d_C_typeAt_54 rfl (lv_at hl 1 rfl) ?_
        refine cRL (W.runV (As := [.int (nI j)]) (rest := []) ⟨hx, hb, hml, hown, hts⟩ (c_C_netLengthWith hP hI hV (nI j)) (cwV 1 hts (wB_goodV (fun _ h => h) ml_C_212 im_C_netLengthWith se_C_netLengthWith ini_C co_C_netLengthWith) rfl rfl rfl (by decide +kernel) ⟨Nat.le_of_ble_eq_true rfl, Nat.le_of_ble_eq_true rfl⟩) (pV hK hP (ci := 0) (q0 := 0) rfl rfl _) rfl rfl hl.1 rfl (lv_room (Nat.le_of_ble_eq_true rfl)) d_C_typeAt_55 ⟨Nat.zero_le _, Nat.zero_le _⟩) ?_
        have ek : (kTell (haB (kn 1) x && swB y 2)) = 0 := by simp [kTell, h_2, hsi]
        have er : ((some (.long (tyR kn vv nn x y))) : Option Value) = some (.long (sumL (fun i => wiB kn vv (nI i) (nI j)) (neC kn vv nn) (nn 2))) := by rw [tyR, ec, ejj, ej]; rfl
        have hPe : va_P (dC, dI) classes (wC aa cI cZ kn vv) s.heap := by exact hP
        refine vx_ret ?_
        refine W.widen (k := 1) (n := 6) (Nat.zero_le _) (Nat.zero_le _) ?_
        exact W.lret (v := (sumL (fun i => wiB kn vv (nI i) (nI j)) (neC kn vv nn) (nn 2))) hx hb hr (fun t ht hW => ⟨ek, by rw [er], by rw [ht]; exact hPe, hS.F ht⟩) hS.2.2 d_C_typeAt_58
      | k + 3, h, _ => exact absurd h (by omega)
  · have h_2 : haB (kn 1) x = false := by simpa using h_2
    have ek : (kTell (haB (kn 1) x && swB y 2)) = 1 := by simp [kTell, h_2]
    refine cX (vx_runV (As := [.int x]) (rest := []) ⟨hx, hb, hml, hown, hts⟩ (c_C_checkType_no hlt hP  x h_2) (cwV 1 hts (wB_goodV (fun _ h => h) ml_C_83 im_C_checkType se_C_checkType ini_C co_C_checkType) rfl rfl rfl (by decide +kernel) ⟨Nat.le_of_ble_eq_true rfl, Nat.le_of_ble_eq_true rfl⟩) (pVT hK hT hS hP (ci := 0) (q0 := 0) rfl rfl _) rfl rfl hl.1 rfl (lv_room (Nat.le_of_ble_eq_true rfl)) d_C_typeAt_2 ⟨Nat.le_of_ble_eq_true rfl, Nat.le_of_ble_eq_true rfl⟩) (fun ce q9 H1 locs1 hz hkp hlo hce hcv hcl => ?_)
    exact vx_out (fun x h => (hexc x h).elim) hlocks hce hcv hcl (fun t ht hal => ⟨Or.inl ⟨ek, rfl⟩, by rw [ht]; exact hz, fun q hq _ => by rw [ht]; exact hkp q hq⟩) (fun z hz9 => by cases hlo z hz9) (Nat.le_of_ble_eq_true rfl) (Nat.le_of_ble_eq_true rfl)
end
