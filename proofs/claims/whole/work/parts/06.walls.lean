section
variable {l : Launch} {dC : Nat → ClassId} {dI : Nat → Nat → Nat} {H : Heap} {aa : Nat → Nat} {cI cZ cJ : ClassId} {kn : Nat → Int32} {vv : Nat → Nat → Int32} {nn : Nat → Nat} {AX : Nat → Prop}
set_option maxRecDepth 100000 in
set_option maxHeartbeats 4000000 in
theorem c_W_isThere (hP : va_P (dC, dI) classes (wC aa cI cZ kn vv) H) (hI : okC kn nn) (w : Int32) : Met l y_W_isThere (wB y_W_isThere b_W_isThere 2 (some .boolean)) ({ frames := 0, cells := 0, slots := 0, locals := 0 } : Room) (rP [.ref (aa 3), .int w] H (kK dC dI cI cZ cJ)) (QcRead (bI (tW kn vv w))) 0 0 noA := by
  refine Met.ofW (cc := b_W_isThere) (maxL := 2) (ret := (some .boolean)) (by decide) rfl ?_
  intro p e s m args below meth c s₁ B hml hv
  obtain ⟨rfl, rfl, hK⟩ := hv
  have hx := B.exec
  have hb := B.bytes
  have hr := B.returns
  have hts0 := atoms_spec (ws := (wB y_W_isThere b_W_isThere 2 (some .boolean))) B.pre
  have hts : ∀ w9 ∈ BG, w9.before [.ref (aa 3), .int w].toArray s = true := fun w9 hw9 => hts0 w9 (List.mem_cons_of_mem _ hw9)
  have hown : s.vm.findClass R_W = some m.cls := findClass_of_methodNamed B.named
  have hlocks := B.notSynchronized
  have hK : va_K (dC, dI) classes [(cI, .int), (cZ, .boolean), (cJ, .long)] s := hK
  have hl := lv_entry ([.ref (aa 3), .int w]) (n := 2) (Nat.le_of_ble_eq_true rfl)
  rw [lg_entry_eq]
  generalize (lg_sl ([.ref (aa 3), .int w]) ++ List.replicate (2 - (lg_sl ([.ref (aa 3), .int w])).length) Slot.unset).toArray = ls at hl ⊢
  have hl : lv_has ls 2 [(0, .ref (aa 3)), (1, .int w)] := hl
  obtain ⟨eK, b0, b1, b2, b3, b4, b5⟩ := id hI
  refine lv_iload_n hx hb d_W_isThere_0 rfl (lv_at hl 1 rfl) ?_
  refine lv_if_lt (tgt := 25) hx hb d_W_isThere_1 (by decide) (fun c_1 => ?_) (fun c_1 => ?_)
  · refine lv_iconst (v := 0) hx hb d_W_isThere_25 (by decide) ?_
    have er : (bI (tW kn vv w)) = 0 := by simp [bI, tW, c_1]
    exact W.zret (v := 0) hx hb hr rfl (fun t ht hW => ⟨by rw [er], ht⟩) (fun q h => by cases h) d_W_isThere_26
  · refine lv_iload_n hx hb d_W_isThere_4 rfl (lv_at hl 1 rfl) ?_
    refine lv_aload_n hx hb d_W_isThere_5 rfl (lv_at hl 0 rfl) ?_
    refine va_get (D := (dC, dI)) (ci := 5) (v := .int (kn 2)) (C := R_W) (T := F_W) (N := 8) hx hb hts i_W hown hK hP 3 rfl rfl 7 (by decide) (hts _ fl_W_34) (fun _ h9 => h9) rfl d_W_isThere_6 ?_
    refine lv_icmp_ge (tgt := 25) hx hb d_W_isThere_9 (by decide) (fun c_9 => ?_) (fun c_9 => ?_)
    · refine lv_iconst (v := 0) hx hb d_W_isThere_25 (by decide) ?_
      have er : (bI (tW kn vv w)) = 0 := by simp [bI, tW, c_1, c_9]
      exact W.zret (v := 0) hx hb hr rfl (fun t ht hW => ⟨by rw [er], ht⟩) (fun q h => by cases h) d_W_isThere_26
    · refine lv_aload_n hx hb d_W_isThere_12 rfl (lv_at hl 0 rfl) ?_
      refine va_get (D := (dC, dI)) (ci := 5) (v := .ref (aa 14)) (C := R_W) (T := F_W) (N := 8) hx hb hts i_W hown hK hP 3 rfl rfl 6 (by decide) (hts _ fl_W_30) (fun _ h9 => h9) rfl d_W_isThere_13 ?_
      refine lv_iload_n hx hb d_W_isThere_16 rfl (lv_at hl 1 rfl) ?_
      refine va_zald hx hb hK hP 14 1 rfl rfl (ixW c_1 c_9 (eK 2 (by decide)) b2 (by decide)) d_W_isThere_17 ?_
      refine lv_if_ne (tgt := 25) hx hb d_W_isThere_18 (by decide) (fun c_18 => ?_) (fun c_18 => ?_)
      · refine lv_iconst (v := 0) hx hb d_W_isThere_25 (by decide) ?_
        have er : (bI (tW kn vv w)) = 0 := by simp [bI, tW, c_1, c_9, c_18]
        exact W.zret (v := 0) hx hb hr rfl (fun t ht hW => ⟨by rw [er], ht⟩) (fun q h => by cases h) d_W_isThere_26
      · refine lv_iconst (v := 1) hx hb d_W_isThere_21 (by decide) ?_
        refine lv_goto (tgt := 26) hx hb d_W_isThere_22 (by decide) ?_
        have er : (bI (tW kn vv w)) = 1 := by simp [bI, tW, c_1, c_9, c_18]
        exact W.zret (v := 1) hx hb hr rfl (fun t ht hW => ⟨by rw [er], ht⟩) (fun q h => by cases h) d_W_isThere_26
set_option maxRecDepth 100000 in
set_option maxHeartbeats 4000000 in
theorem c_W_isOn (hP : va_P (dC, dI) classes (wC aa cI cZ kn vv) H) (hI : okC kn nn) (w x : Int32) : Met l y_W_isOn (wB y_W_isOn b_W_isOn 3 (some .boolean)) ({ frames := 1, cells := 0, slots := 0, locals := 21 } : Room) (rP [.ref (aa 3), .int w, .int x] H (kK dC dI cI cZ cJ)) (QcRead (bI (onB kn vv w x))) 0 0 noA := by
  refine Met.ofW (cc := b_W_isOn) (maxL := 3) (ret := (some .boolean)) (by decide) rfl ?_
  intro p e s m args below meth c s₁ B hml hv
  obtain ⟨rfl, rfl, hK⟩ := hv
  have hx := B.exec
  have hb := B.bytes
  have hr := B.returns
  have hts0 := atoms_spec (ws := (wB y_W_isOn b_W_isOn 3 (some .boolean))) B.pre
  have hts : ∀ w9 ∈ BG, w9.before [.ref (aa 3), .int w, .int x].toArray s = true := fun w9 hw9 => hts0 w9 (List.mem_cons_of_mem _ hw9)
  have hown : s.vm.findClass R_W = some m.cls := findClass_of_methodNamed B.named
  have hlocks := B.notSynchronized
  have hK : va_K (dC, dI) classes [(cI, .int), (cZ, .boolean), (cJ, .long)] s := hK
  have hl := lv_entry ([.ref (aa 3), .int w, .int x]) (n := 3) (Nat.le_of_ble_eq_true rfl)
  rw [lg_entry_eq]
  generalize (lg_sl ([.ref (aa 3), .int w, .int x]) ++ List.replicate (3 - (lg_sl ([.ref (aa 3), .int w, .int x])).length) Slot.unset).toArray = ls at hl ⊢
  have hl : lv_has ls 3 [(0, .ref (aa 3)), (1, .int w), (2, .int x)] := hl
  obtain ⟨eK, b0, b1, b2, b3, b4, b5⟩ := id hI
  refine lv_aload_n hx hb d_W_isOn_0 rfl (lv_at hl 0 rfl) ?_
  refine lv_iload_n hx hb d_W_isOn_1 rfl (lv_at hl 1 rfl) ?_
  refine cR (W.runV (As := [.int w]) (rest := []) ⟨hx, hb, hml, hown, hts⟩ (c_W_isThere hP hI w) (cwV 1 hts (wB_goodV (fun _ h => h) ml_W_38 im_W_isThere se_W_isThere ini_W co_W_isThere) rfl rfl rfl (by decide +kernel) ⟨Nat.le_of_ble_eq_true rfl, Nat.le_of_ble_eq_true rfl⟩) (pV hK hP (ci := 5) (q0 := 3) rfl rfl _) rfl rfl hl.1 rfl (lv_room (Nat.le_of_ble_eq_true rfl)) d_W_isOn_2 ⟨Nat.zero_le _, Nat.zero_le _⟩) ?_
  refine lv_if_eq (tgt := 22) hx hb d_W_isOn_5 (by decide) (fun c_5 => ?_) (fun c_5 => ?_)
  · refine lv_iconst (v := 0) hx hb d_W_isOn_22 (by decide) ?_
    have er : (bI (onB kn vv w x)) = 0 := by first | (simp [bI, onB, bI_0.mp c_5]; done) | (simp [bI, onB, bI_n0.mp c_5, c_5]; done)
    exact W.zret (v := 0) hx hb hr rfl (fun t ht hW => ⟨by rw [er], ht⟩) (fun q h => by cases h) d_W_isOn_23
  · refine lv_aload_n hx hb d_W_isOn_8 rfl (lv_at hl 0 rfl) ?_
    refine va_get (D := (dC, dI)) (ci := 5) (v := .ref (aa 8)) (C := R_W) (T := F_W) (N := 8) hx hb hts i_W hown hK hP 3 rfl rfl 0 (by decide) (hts _ fl_W_9) (fun _ h9 => h9) rfl d_W_isOn_9 ?_
    refine lv_iload_n hx hb d_W_isOn_12 rfl (lv_at hl 1 rfl) ?_
    refine va_iald hx hb hK hP 8 0 rfl rfl (tW_in hI (bI_n0.mp c_5)) d_W_isOn_13 ?_
    refine lv_iload_n hx hb d_W_isOn_14 rfl (lv_at hl 2 rfl) ?_
    refine lv_icmp_ne (tgt := 22) hx hb d_W_isOn_15 (by decide) (fun c_15 => ?_) (fun c_15 => ?_)
    · refine lv_iconst (v := 0) hx hb d_W_isOn_22 (by decide) ?_
      have er : (bI (onB kn vv w x)) = 0 := by first | (simp [bI, onB, bI_0.mp c_5]; done) | (simp [bI, onB, bI_n0.mp c_5, c_5, c_15]; done)
      exact W.zret (v := 0) hx hb hr rfl (fun t ht hW => ⟨by rw [er], ht⟩) (fun q h => by cases h) d_W_isOn_23
    · refine lv_iconst (v := 1) hx hb d_W_isOn_18 (by decide) ?_
      refine lv_goto (tgt := 23) hx hb d_W_isOn_19 (by decide) ?_
      have er : (bI (onB kn vv w x)) = 1 := by first | (simp [bI, onB, bI_0.mp c_5]; done) | (simp [bI, onB, bI_n0.mp c_5, c_5, c_15]; done)
      exact W.zret (v := 1) hx hb hr rfl (fun t ht hW => ⟨by rw [er], ht⟩) (fun q h => by cases h) d_W_isOn_23
set_option maxRecDepth 100000 in
set_option maxHeartbeats 4000000 in
theorem c_W_isWith (hP : va_P (dC, dI) classes (wC aa cI cZ kn vv) H) (hI : okC kn nn) (w x : Int32) : Met l y_W_isWith (wB y_W_isWith b_W_isWith 3 (some .boolean)) ({ frames := 1, cells := 0, slots := 0, locals := 21 } : Room) (rP [.ref (aa 3), .int w, .int x] H (kK dC dI cI cZ cJ)) (QcRead (bI (wiB kn vv w x))) 0 0 noA := by
  refine Met.ofW (cc := b_W_isWith) (maxL := 3) (ret := (some .boolean)) (by decide) rfl ?_
  intro p e s m args below meth c s₁ B hml hv
  obtain ⟨rfl, rfl, hK⟩ := hv
  have hx := B.exec
  have hb := B.bytes
  have hr := B.returns
  have hts0 := atoms_spec (ws := (wB y_W_isWith b_W_isWith 3 (some .boolean))) B.pre
  have hts : ∀ w9 ∈ BG, w9.before [.ref (aa 3), .int w, .int x].toArray s = true := fun w9 hw9 => hts0 w9 (List.mem_cons_of_mem _ hw9)
  have hown : s.vm.findClass R_W = some m.cls := findClass_of_methodNamed B.named
  have hlocks := B.notSynchronized
  have hK : va_K (dC, dI) classes [(cI, .int), (cZ, .boolean), (cJ, .long)] s := hK
  have hl := lv_entry ([.ref (aa 3), .int w, .int x]) (n := 3) (Nat.le_of_ble_eq_true rfl)
  rw [lg_entry_eq]
  generalize (lg_sl ([.ref (aa 3), .int w, .int x]) ++ List.replicate (3 - (lg_sl ([.ref (aa 3), .int w, .int x])).length) Slot.unset).toArray = ls at hl ⊢
  have hl : lv_has ls 3 [(0, .ref (aa 3)), (1, .int w), (2, .int x)] := hl
  obtain ⟨eK, b0, b1, b2, b3, b4, b5⟩ := id hI
  refine lv_aload_n hx hb d_W_isWith_0 rfl (lv_at hl 0 rfl) ?_
  refine lv_iload_n hx hb d_W_isWith_1 rfl (lv_at hl 1 rfl) ?_
  refine cR (W.runV (As := [.int w]) (rest := []) ⟨hx, hb, hml, hown, hts⟩ (c_W_isThere hP hI w) (cwV 1 hts (wB_goodV (fun _ h => h) ml_W_38 im_W_isThere se_W_isThere ini_W co_W_isThere) rfl rfl rfl (by decide +kernel) ⟨Nat.le_of_ble_eq_true rfl, Nat.le_of_ble_eq_true rfl⟩) (pV hK hP (ci := 5) (q0 := 3) rfl rfl _) rfl rfl hl.1 rfl (lv_room (Nat.le_of_ble_eq_true rfl)) d_W_isWith_2 ⟨Nat.zero_le _, Nat.zero_le _⟩) ?_
  refine lv_if_eq (tgt := 22) hx hb d_W_isWith_5 (by decide) (fun c_5 => ?_) (fun c_5 => ?_)
  · refine lv_iconst (v := 0) hx hb d_W_isWith_22 (by decide) ?_
    have er : (bI (wiB kn vv w x)) = 0 := by first | (simp [bI, wiB, bI_0.mp c_5]; done) | (simp [bI, wiB, bI_n0.mp c_5, c_5]; done)
    exact W.zret (v := 0) hx hb hr rfl (fun t ht hW => ⟨by rw [er], ht⟩) (fun q h => by cases h) d_W_isWith_23
  · refine lv_aload_n hx hb d_W_isWith_8 rfl (lv_at hl 0 rfl) ?_
    refine va_get (D := (dC, dI)) (ci := 5) (v := .ref (aa 9)) (C := R_W) (T := F_W) (N := 8) hx hb hts i_W hown hK hP 3 rfl rfl 1 (by decide) (hts _ fl_W_15) (fun _ h9 => h9) rfl d_W_isWith_9 ?_
    refine lv_iload_n hx hb d_W_isWith_12 rfl (lv_at hl 1 rfl) ?_
    refine va_iald hx hb hK hP 9 0 rfl rfl (tW_in hI (bI_n0.mp c_5)) d_W_isWith_13 ?_
    refine lv_iload_n hx hb d_W_isWith_14 rfl (lv_at hl 2 rfl) ?_
    refine lv_icmp_ne (tgt := 22) hx hb d_W_isWith_15 (by decide) (fun c_15 => ?_) (fun c_15 => ?_)
    · refine lv_iconst (v := 0) hx hb d_W_isWith_22 (by decide) ?_
      have er : (bI (wiB kn vv w x)) = 0 := by first | (simp [bI, wiB, bI_0.mp c_5]; done) | (simp [bI, wiB, bI_n0.mp c_5, c_5, c_15]; done)
      exact W.zret (v := 0) hx hb hr rfl (fun t ht hW => ⟨by rw [er], ht⟩) (fun q h => by cases h) d_W_isWith_23
    · refine lv_iconst (v := 1) hx hb d_W_isWith_18 (by decide) ?_
      refine lv_goto (tgt := 23) hx hb d_W_isWith_19 (by decide) ?_
      have er : (bI (wiB kn vv w x)) = 1 := by first | (simp [bI, wiB, bI_0.mp c_5]; done) | (simp [bI, wiB, bI_n0.mp c_5, c_5, c_15]; done)
      exact W.zret (v := 1) hx hb hr rfl (fun t ht hW => ⟨by rw [er], ht⟩) (fun q h => by cases h) d_W_isWith_23
set_option maxRecDepth 100000 in
set_option maxHeartbeats 4000000 in
theorem c_W_goesAlongX (hP : va_P (dC, dI) classes (wC aa cI cZ kn vv) H) {w : Nat} (hw : w < 40) : Met l y_W_goesAlongX (wB y_W_goesAlongX b_W_goesAlongX 2 (some .boolean)) ({ frames := 0, cells := 0, slots := 0, locals := 0 } : Room) (rP [.ref (aa 3), .int (nI w)] H (kK dC dI cI cZ cJ)) (QcRead (bI (alX vv w))) 0 0 noA := by
  refine Met.ofW (cc := b_W_goesAlongX) (maxL := 2) (ret := (some .boolean)) (by decide) rfl ?_
  intro p e s m args below meth c s₁ B hml hv
  obtain ⟨rfl, rfl, hK⟩ := hv
  have hx := B.exec
  have hb := B.bytes
  have hr := B.returns
  have hts0 := atoms_spec (ws := (wB y_W_goesAlongX b_W_goesAlongX 2 (some .boolean))) B.pre
  have hts : ∀ w9 ∈ BG, w9.before [.ref (aa 3), .int (nI w)].toArray s = true := fun w9 hw9 => hts0 w9 (List.mem_cons_of_mem _ hw9)
  have hown : s.vm.findClass R_W = some m.cls := findClass_of_methodNamed B.named
  have hlocks := B.notSynchronized
  have hK : va_K (dC, dI) classes [(cI, .int), (cZ, .boolean), (cJ, .long)] s := hK
  have hl := lv_entry ([.ref (aa 3), .int (nI w)]) (n := 2) (Nat.le_of_ble_eq_true rfl)
  rw [lg_entry_eq]
  generalize (lg_sl ([.ref (aa 3), .int (nI w)]) ++ List.replicate (2 - (lg_sl ([.ref (aa 3), .int (nI w)])).length) Slot.unset).toArray = ls at hl ⊢
  have hl : lv_has ls 2 [(0, .ref (aa 3)), (1, .int (nI w))] := hl
  refine lv_aload_n hx hb d_W_goesAlongX_0 rfl (lv_at hl 0 rfl) ?_
  refine va_get (D := (dC, dI)) (ci := 5) (v := .ref (aa 11)) (C := R_W) (T := F_W) (N := 8) hx hb hts i_W hown hK hP 3 rfl rfl 3 (by decide) (hts _ fl_W_21) (fun _ h9 => h9) rfl d_W_goesAlongX_1 ?_
  refine lv_iload_n hx hb d_W_goesAlongX_4 rfl (lv_at hl 1 rfl) ?_
  refine va_iald hx hb hK hP 11 0 rfl rfl (vp_in_nI (by omega) (by omega)) d_W_goesAlongX_5 ?_
  rw [nI_clamp (show w < 2 ^ 31 by omega)]
  refine lv_aload_n hx hb d_W_goesAlongX_6 rfl (lv_at hl 0 rfl) ?_
  refine va_get (D := (dC, dI)) (ci := 5) (v := .ref (aa 13)) (C := R_W) (T := F_W) (N := 8) hx hb hts i_W hown hK hP 3 rfl rfl 5 (by decide) (hts _ fl_W_27) (fun _ h9 => h9) rfl d_W_goesAlongX_7 ?_
  refine lv_iload_n hx hb d_W_goesAlongX_10 rfl (lv_at hl 1 rfl) ?_
  refine va_iald hx hb hK hP 13 0 rfl rfl (vp_in_nI (by omega) (by omega)) d_W_goesAlongX_11 ?_
  rw [nI_clamp (show w < 2 ^ 31 by omega)]
  refine lv_icmp_ne (tgt := 19) hx hb d_W_goesAlongX_12 (by decide) (fun c_12 => ?_) (fun c_12 => ?_)
  · refine lv_iconst (v := 0) hx hb d_W_goesAlongX_19 (by decide) ?_
    have er : (bI (alX vv w)) = 0 := by simp [bI, alX, c_12]
    exact W.zret (v := 0) hx hb hr rfl (fun t ht hW => ⟨by rw [er], ht⟩) (fun q h => by cases h) d_W_goesAlongX_20
  · refine lv_iconst (v := 1) hx hb d_W_goesAlongX_15 (by decide) ?_
    refine lv_goto (tgt := 20) hx hb d_W_goesAlongX_16 (by decide) ?_
    have er : (bI (alX vv w)) = 1 := by simp [bI, alX, c_12]
    exact W.zret (v := 1) hx hb hr rfl (fun t ht hW => ⟨by rw [er], ht⟩) (fun q h => by cases h) d_W_goesAlongX_20
set_option maxRecDepth 100000 in
set_option maxHeartbeats 4000000 in
theorem c_W_hasEndAt (hP : va_P (dC, dI) classes (wC aa cI cZ kn vv) H) {w : Nat} (hw : w < 40) (x y : Int32) : Met l y_W_hasEndAt (wB y_W_hasEndAt b_W_hasEndAt 4 (some .boolean)) ({ frames := 0, cells := 0, slots := 0, locals := 0 } : Room) (rP [.ref (aa 3), .int (nI w), .int x, .int y] H (kK dC dI cI cZ cJ)) (QcRead (bI (enB vv w x y))) 0 0 noA := by
  refine Met.ofW (cc := b_W_hasEndAt) (maxL := 4) (ret := (some .boolean)) (by decide) rfl ?_
  intro p e s m args below meth c s₁ B hml hv
  obtain ⟨rfl, rfl, hK⟩ := hv
  have hx := B.exec
  have hb := B.bytes
  have hr := B.returns
  have hts0 := atoms_spec (ws := (wB y_W_hasEndAt b_W_hasEndAt 4 (some .boolean))) B.pre
  have hts : ∀ w9 ∈ BG, w9.before [.ref (aa 3), .int (nI w), .int x, .int y].toArray s = true := fun w9 hw9 => hts0 w9 (List.mem_cons_of_mem _ hw9)
  have hown : s.vm.findClass R_W = some m.cls := findClass_of_methodNamed B.named
  have hlocks := B.notSynchronized
  have hK : va_K (dC, dI) classes [(cI, .int), (cZ, .boolean), (cJ, .long)] s := hK
  have hl := lv_entry ([.ref (aa 3), .int (nI w), .int x, .int y]) (n := 4) (Nat.le_of_ble_eq_true rfl)
  rw [lg_entry_eq]
  generalize (lg_sl ([.ref (aa 3), .int (nI w), .int x, .int y]) ++ List.replicate (4 - (lg_sl ([.ref (aa 3), .int (nI w), .int x, .int y])).length) Slot.unset).toArray = ls at hl ⊢
  have hl : lv_has ls 4 [(0, .ref (aa 3)), (1, .int (nI w)), (2, .int x), (3, .int y)] := hl
  refine lv_aload_n hx hb d_W_hasEndAt_0 rfl (lv_at hl 0 rfl) ?_
  refine va_get (D := (dC, dI)) (ci := 5) (v := .ref (aa 10)) (C := R_W) (T := F_W) (N := 8) hx hb hts i_W hown hK hP 3 rfl rfl 2 (by decide) (hts _ fl_W_18) (fun _ h9 => h9) rfl d_W_hasEndAt_1 ?_
  refine lv_iload_n hx hb d_W_hasEndAt_4 rfl (lv_at hl 1 rfl) ?_
  refine va_iald hx hb hK hP 10 0 rfl rfl (vp_in_nI (by omega) (by omega)) d_W_hasEndAt_5 ?_
  rw [nI_clamp (show w < 2 ^ 31 by omega)]
  refine lv_iload_n hx hb d_W_hasEndAt_6 rfl (lv_at hl 2 rfl) ?_
  refine lv_icmp_ne (tgt := 20) hx hb d_W_hasEndAt_7 (by decide) (fun c_7 => ?_) (fun c_7 => ?_)
  · refine lv_aload_n hx hb d_W_hasEndAt_20 rfl (lv_at hl 0 rfl) ?_
    refine va_get (D := (dC, dI)) (ci := 5) (v := .ref (aa 12)) (C := R_W) (T := F_W) (N := 8) hx hb hts i_W hown hK hP 3 rfl rfl 4 (by decide) (hts _ fl_W_24) (fun _ h9 => h9) rfl d_W_hasEndAt_21 ?_
    refine lv_iload_n hx hb d_W_hasEndAt_24 rfl (lv_at hl 1 rfl) ?_
    refine va_iald hx hb hK hP 12 0 rfl rfl (vp_in_nI (by omega) (by omega)) d_W_hasEndAt_25 ?_
    rw [nI_clamp (show w < 2 ^ 31 by omega)]
    refine lv_iload_n hx hb d_W_hasEndAt_26 rfl (lv_at hl 2 rfl) ?_
    refine lv_icmp_ne (tgt := 44) hx hb d_W_hasEndAt_27 (by decide) (fun c_27 => ?_) (fun c_27 => ?_)
    · refine lv_iconst (v := 0) hx hb d_W_hasEndAt_44 (by decide) ?_
      have er : (bI (enB vv w x y)) = 0 := by simp [bI, enB, c_7, c_27]
      exact W.zret (v := 0) hx hb hr rfl (fun t ht hW => ⟨by rw [er], ht⟩) (fun q h => by cases h) d_W_hasEndAt_45
    · refine lv_aload_n hx hb d_W_hasEndAt_30 rfl (lv_at hl 0 rfl) ?_
      refine va_get (D := (dC, dI)) (ci := 5) (v := .ref (aa 13)) (C := R_W) (T := F_W) (N := 8) hx hb hts i_W hown hK hP 3 rfl rfl 5 (by decide) (hts _ fl_W_27) (fun _ h9 => h9) rfl d_W_hasEndAt_31 ?_
      refine lv_iload_n hx hb d_W_hasEndAt_34 rfl (lv_at hl 1 rfl) ?_
      refine va_iald hx hb hK hP 13 0 rfl rfl (vp_in_nI (by omega) (by omega)) d_W_hasEndAt_35 ?_
      rw [nI_clamp (show w < 2 ^ 31 by omega)]
      refine lv_iload_n hx hb d_W_hasEndAt_36 rfl (lv_at hl 3 rfl) ?_
      refine lv_icmp_ne (tgt := 44) hx hb d_W_hasEndAt_37 (by decide) (fun c_37 => ?_) (fun c_37 => ?_)
      · refine lv_iconst (v := 0) hx hb d_W_hasEndAt_44 (by decide) ?_
        have er : (bI (enB vv w x y)) = 0 := by simp [bI, enB, c_7, c_27, c_37]
        exact W.zret (v := 0) hx hb hr rfl (fun t ht hW => ⟨by rw [er], ht⟩) (fun q h => by cases h) d_W_hasEndAt_45
      · refine lv_iconst (v := 1) hx hb d_W_hasEndAt_40 (by decide) ?_
        refine lv_goto (tgt := 45) hx hb d_W_hasEndAt_41 (by decide) ?_
        have er : (bI (enB vv w x y)) = 1 := by simp [bI, enB, c_7, c_27, c_37]
        exact W.zret (v := 1) hx hb hr rfl (fun t ht hW => ⟨by rw [er], ht⟩) (fun q h => by cases h) d_W_hasEndAt_45
  · refine lv_aload_n hx hb d_W_hasEndAt_10 rfl (lv_at hl 0 rfl) ?_
    refine va_get (D := (dC, dI)) (ci := 5) (v := .ref (aa 11)) (C := R_W) (T := F_W) (N := 8) hx hb hts i_W hown hK hP 3 rfl rfl 3 (by decide) (hts _ fl_W_21) (fun _ h9 => h9) rfl d_W_hasEndAt_11 ?_
    refine lv_iload_n hx hb d_W_hasEndAt_14 rfl (lv_at hl 1 rfl) ?_
    refine va_iald hx hb hK hP 11 0 rfl rfl (vp_in_nI (by omega) (by omega)) d_W_hasEndAt_15 ?_
    rw [nI_clamp (show w < 2 ^ 31 by omega)]
    refine lv_iload_n hx hb d_W_hasEndAt_16 rfl (lv_at hl 3 rfl) ?_
    refine lv_icmp_eq (tgt := 40) hx hb d_W_hasEndAt_17 (by decide) (fun c_17 => ?_) (fun c_17 => ?_)
    · refine lv_iconst (v := 1) hx hb d_W_hasEndAt_40 (by decide) ?_
      refine lv_goto (tgt := 45) hx hb d_W_hasEndAt_41 (by decide) ?_
      have er : (bI (enB vv w x y)) = 1 := by simp [bI, enB, c_7, c_17]
      exact W.zret (v := 1) hx hb hr rfl (fun t ht hW => ⟨by rw [er], ht⟩) (fun q h => by cases h) d_W_hasEndAt_45
    · refine lv_aload_n hx hb d_W_hasEndAt_20 rfl (lv_at hl 0 rfl) ?_
      refine va_get (D := (dC, dI)) (ci := 5) (v := .ref (aa 12)) (C := R_W) (T := F_W) (N := 8) hx hb hts i_W hown hK hP 3 rfl rfl 4 (by decide) (hts _ fl_W_24) (fun _ h9 => h9) rfl d_W_hasEndAt_21 ?_
      refine lv_iload_n hx hb d_W_hasEndAt_24 rfl (lv_at hl 1 rfl) ?_
      refine va_iald hx hb hK hP 12 0 rfl rfl (vp_in_nI (by omega) (by omega)) d_W_hasEndAt_25 ?_
      rw [nI_clamp (show w < 2 ^ 31 by omega)]
      refine lv_iload_n hx hb d_W_hasEndAt_26 rfl (lv_at hl 2 rfl) ?_
      refine lv_icmp_ne (tgt := 44) hx hb d_W_hasEndAt_27 (by decide) (fun c_27 => ?_) (fun c_27 => ?_)
      · refine lv_iconst (v := 0) hx hb d_W_hasEndAt_44 (by decide) ?_
        have er : (bI (enB vv w x y)) = 0 := by simp [bI, enB, c_7, c_17, c_27]
        exact W.zret (v := 0) hx hb hr rfl (fun t ht hW => ⟨by rw [er], ht⟩) (fun q h => by cases h) d_W_hasEndAt_45
      · refine lv_aload_n hx hb d_W_hasEndAt_30 rfl (lv_at hl 0 rfl) ?_
        refine va_get (D := (dC, dI)) (ci := 5) (v := .ref (aa 13)) (C := R_W) (T := F_W) (N := 8) hx hb hts i_W hown hK hP 3 rfl rfl 5 (by decide) (hts _ fl_W_27) (fun _ h9 => h9) rfl d_W_hasEndAt_31 ?_
        refine lv_iload_n hx hb d_W_hasEndAt_34 rfl (lv_at hl 1 rfl) ?_
        refine va_iald hx hb hK hP 13 0 rfl rfl (vp_in_nI (by omega) (by omega)) d_W_hasEndAt_35 ?_
        rw [nI_clamp (show w < 2 ^ 31 by omega)]
        refine lv_iload_n hx hb d_W_hasEndAt_36 rfl (lv_at hl 3 rfl) ?_
        refine lv_icmp_ne (tgt := 44) hx hb d_W_hasEndAt_37 (by decide) (fun c_37 => ?_) (fun c_37 => ?_)
        · refine lv_iconst (v := 0) hx hb d_W_hasEndAt_44 (by decide) ?_
          have er : (bI (enB vv w x y)) = 0 := by simp [bI, enB, c_7, c_17, c_27, c_37]
          exact W.zret (v := 0) hx hb hr rfl (fun t ht hW => ⟨by rw [er], ht⟩) (fun q h => by cases h) d_W_hasEndAt_45
        · refine lv_iconst (v := 1) hx hb d_W_hasEndAt_40 (by decide) ?_
          refine lv_goto (tgt := 45) hx hb d_W_hasEndAt_41 (by decide) ?_
          have er : (bI (enB vv w x y)) = 1 := by simp [bI, enB, c_7, c_17, c_27, c_37]
          exact W.zret (v := 1) hx hb hr rfl (fun t ht hW => ⟨by rw [er], ht⟩) (fun q h => by cases h) d_W_hasEndAt_45
set_option maxRecDepth 100000 in
set_option maxHeartbeats 4000000 in
theorem c_W_length (hP : va_P (dC, dI) classes (wC aa cI cZ kn vv) H) {w : Nat} (hw : w < 40) : Met l y_W_length (wB y_W_length b_W_length 2 (some .int)) ({ frames := 1, cells := 0, slots := 0, locals := 21 } : Room) (rP [.ref (aa 3), .int (nI w)] H (kK dC dI cI cZ cJ)) (QcRead (leC vv w)) 0 0 noA := by
  refine Met.ofW (cc := b_W_length) (maxL := 2) (ret := (some .int)) (by decide) rfl ?_
  intro p e s m args below meth c s₁ B hml hv
  obtain ⟨rfl, rfl, hK⟩ := hv
  have hx := B.exec
  have hb := B.bytes
  have hr := B.returns
  have hts0 := atoms_spec (ws := (wB y_W_length b_W_length 2 (some .int))) B.pre
  have hts : ∀ w9 ∈ BG, w9.before [.ref (aa 3), .int (nI w)].toArray s = true := fun w9 hw9 => hts0 w9 (List.mem_cons_of_mem _ hw9)
  have hown : s.vm.findClass R_W = some m.cls := findClass_of_methodNamed B.named
  have hlocks := B.notSynchronized
  have hK : va_K (dC, dI) classes [(cI, .int), (cZ, .boolean), (cJ, .long)] s := hK
  have hl := lv_entry ([.ref (aa 3), .int (nI w)]) (n := 2) (Nat.le_of_ble_eq_true rfl)
  rw [lg_entry_eq]
  generalize (lg_sl ([.ref (aa 3), .int (nI w)]) ++ List.replicate (2 - (lg_sl ([.ref (aa 3), .int (nI w)])).length) Slot.unset).toArray = ls at hl ⊢
  have hl : lv_has ls 2 [(0, .ref (aa 3)), (1, .int (nI w))] := hl
  refine lv_aload_n hx hb d_W_length_0 rfl (lv_at hl 0 rfl) ?_
  refine va_get (D := (dC, dI)) (ci := 5) (v := .ref (aa 12)) (C := R_W) (T := F_W) (N := 8) hx hb hts i_W hown hK hP 3 rfl rfl 4 (by decide) (hts _ fl_W_24) (fun _ h9 => h9) rfl d_W_length_1 ?_
  refine lv_iload_n hx hb d_W_length_4 rfl (lv_at hl 1 rfl) ?_
  refine va_iald hx hb hK hP 12 0 rfl rfl (vp_in_nI (by omega) (by omega)) d_W_length_5 ?_
  rw [nI_clamp (show w < 2 ^ 31 by omega)]
  refine lv_aload_n hx hb d_W_length_6 rfl (lv_at hl 0 rfl) ?_
  refine va_get (D := (dC, dI)) (ci := 5) (v := .ref (aa 10)) (C := R_W) (T := F_W) (N := 8) hx hb hts i_W hown hK hP 3 rfl rfl 2 (by decide) (hts _ fl_W_18) (fun _ h9 => h9) rfl d_W_length_7 ?_
  refine lv_iload_n hx hb d_W_length_10 rfl (lv_at hl 1 rfl) ?_
  refine va_iald hx hb hK hP 10 0 rfl rfl (vp_in_nI (by omega) (by omega)) d_W_length_11 ?_
  rw [nI_clamp (show w < 2 ^ 31 by omega)]
  refine lv_isub hx hb d_W_length_12 ?_
  refine va_mabs hx hb (by rw [hml]; exact hl.1.symm) hown (hts _ ml_W_42) (hts _ st_Math_absII) (hts _ ini_Math) (hts _ co_Math_absII) (Nat.le_of_ble_eq_true rfl) (Nat.le_of_ble_eq_true rfl) (Nat.zero_le _) (Nat.zero_le _) d_W_length_13 ?_
  refine lv_aload_n hx hb d_W_length_16 rfl (lv_at hl 0 rfl) ?_
  refine va_get (D := (dC, dI)) (ci := 5) (v := .ref (aa 13)) (C := R_W) (T := F_W) (N := 8) hx hb hts i_W hown hK hP 3 rfl rfl 5 (by decide) (hts _ fl_W_27) (fun _ h9 => h9) rfl d_W_length_17 ?_
  refine lv_iload_n hx hb d_W_length_20 rfl (lv_at hl 1 rfl) ?_
  refine va_iald hx hb hK hP 13 0 rfl rfl (vp_in_nI (by omega) (by omega)) d_W_length_21 ?_
  rw [nI_clamp (show w < 2 ^ 31 by omega)]
  refine lv_aload_n hx hb d_W_length_22 rfl (lv_at hl 0 rfl) ?_
  refine va_get (D := (dC, dI)) (ci := 5) (v := .ref (aa 11)) (C := R_W) (T := F_W) (N := 8) hx hb hts i_W hown hK hP 3 rfl rfl 3 (by decide) (hts _ fl_W_21) (fun _ h9 => h9) rfl d_W_length_23 ?_
  refine lv_iload_n hx hb d_W_length_26 rfl (lv_at hl 1 rfl) ?_
  refine va_iald hx hb hK hP 11 0 rfl rfl (vp_in_nI (by omega) (by omega)) d_W_length_27 ?_
  rw [nI_clamp (show w < 2 ^ 31 by omega)]
  refine lv_isub hx hb d_W_length_28 ?_
  refine va_mabs hx hb (by rw [hml]; exact hl.1.symm) hown (hts _ ml_W_42) (hts _ st_Math_absII) (hts _ ini_Math) (hts _ co_Math_absII) (Nat.le_of_ble_eq_true rfl) (Nat.le_of_ble_eq_true rfl) (Nat.zero_le _) (Nat.zero_le _) d_W_length_29 ?_
  refine lv_iadd hx hb d_W_length_32 ?_
  have er : (leC vv w) = ((if 0 ≤ (((vv 6) w) - ((vv 4) w)) then (((vv 6) w) - ((vv 4) w)) else 0 - (((vv 6) w) - ((vv 4) w))) + (if 0 ≤ (((vv 7) w) - ((vv 5) w)) then (((vv 7) w) - ((vv 5) w)) else 0 - (((vv 7) w) - ((vv 5) w)))) := by rfl
  exact W.iret (v := ((if 0 ≤ (((vv 6) w) - ((vv 4) w)) then (((vv 6) w) - ((vv 4) w)) else 0 - (((vv 6) w) - ((vv 4) w))) + (if 0 ≤ (((vv 7) w) - ((vv 5) w)) then (((vv 7) w) - ((vv 5) w)) else 0 - (((vv 7) w) - ((vv 5) w))))) hx hb hr (fun t ht hW => ⟨by rw [er], ht⟩) (fun q h => by cases h) d_W_length_33
set_option maxRecDepth 100000 in
set_option maxHeartbeats 4000000 in
theorem c_W_manyOn (hP : va_P (dC, dI) classes (wC aa cI cZ kn vv) H) (hI : okC kn nn) (x : Int32) : Met l y_W_manyOn (wB y_W_manyOn b_W_manyOn 4 (some .int)) ({ frames := 2, cells := 0, slots := 0, locals := 43 } : Room) (rP [.ref (aa 3), .int x] H (kK dC dI cI cZ cJ)) (QcRead (nI (cnt (fun i => onB kn vv (nI i) x) (nn 2)))) 0 0 noA := by
  refine Met.ofW (cc := b_W_manyOn) (maxL := 4) (ret := (some .int)) (by decide) rfl ?_
  intro p e s m args below meth c s₁ B hml hv
  obtain ⟨rfl, rfl, hK⟩ := hv
  have hx := B.exec
  have hb := B.bytes
  have hr := B.returns
  have hts0 := atoms_spec (ws := (wB y_W_manyOn b_W_manyOn 4 (some .int))) B.pre
  have hts : ∀ w9 ∈ BG, w9.before [.ref (aa 3), .int x].toArray s = true := fun w9 hw9 => hts0 w9 (List.mem_cons_of_mem _ hw9)
  have hown : s.vm.findClass R_W = some m.cls := findClass_of_methodNamed B.named
  have hlocks := B.notSynchronized
  have hK : va_K (dC, dI) classes [(cI, .int), (cZ, .boolean), (cJ, .long)] s := hK
  have hl := lv_entry ([.ref (aa 3), .int x]) (n := 4) (Nat.le_of_ble_eq_true rfl)
  rw [lg_entry_eq]
  generalize (lg_sl ([.ref (aa 3), .int x]) ++ List.replicate (4 - (lg_sl ([.ref (aa 3), .int x])).length) Slot.unset).toArray = ls at hl ⊢
  have hl : lv_has ls 4 [(0, .ref (aa 3)), (1, .int x)] := hl
  obtain ⟨eK, b0, b1, b2, b3, b4, b5⟩ := id hI
  refine lv_iconst (v := 0) hx hb d_W_manyOn_0 (by decide) ?_
  refine lv_istore_n (lv' := [(2, .int 0), (0, .ref (aa 3)), (1, .int x)]) hx hb d_W_manyOn_1 rfl hl (by decide) rfl (fun ls hl => ?_)
  refine lv_iconst (v := 0) hx hb d_W_manyOn_2 (by decide) ?_
  refine lv_istore_n (lv' := [(3, .int 0), (2, .int 0), (0, .ref (aa 3)), (1, .int x)]) hx hb d_W_manyOn_3 rfl hl (by decide) rfl (fun ls hl => ?_)
  have loop_4 : ∀ (k9 i : Nat), nn 2 + 1 ≤ i + k9 → i ≤ nn 2 → ∀ (ls : Array Slot), lv_has ls 4 [(0, .ref (aa 3)), (1, .int x), (2, .int (nI (cnt (fun i => onB kn vv (nI i) x) i))), (3, .int (nI i))] → W p l e (headSpec (wB y_W_manyOn b_W_manyOn 4 (some .int)) ({ frames := 2, cells := 0, slots := 0, locals := 43 } : Room)).room s m [.ref (aa 3), .int x].toArray below meth c s.heap [] 0 0 (MQ below (QcRead (nI (cnt (fun i => onB kn vv (nI i) x) (nn 2)))) [.ref (aa 3), .int x].toArray s 0 0 noA) (F0 m 4 ls []) := by
    intro k9
    induction k9 with
    | zero => intro i hk hi ls hl; exact absurd hk (by omega)
    | succ k9 ih =>
      intro i hk hi ls hl
      refine lv_iload_n hx hb d_W_manyOn_4 rfl (lv_at hl 3 rfl) ?_
      refine lv_aload_n hx hb d_W_manyOn_5 rfl (lv_at hl 0 rfl) ?_
      refine va_get (D := (dC, dI)) (ci := 5) (v := .int (kn 2)) (C := R_W) (T := F_W) (N := 8) hx hb hts i_W hown hK hP 3 rfl rfl 7 (by decide) (hts _ fl_W_34) (fun _ h9 => h9) rfl d_W_manyOn_6 ?_
      refine lv_icmp_ge (tgt := 30) hx hb d_W_manyOn_9 (by decide) (fun c_9 => ?_) (fun c_9 => ?_)
      · have hi2 : nn 2 ≤ i := geC (eK 2 (by decide)) c_9 (by omega) (by omega)
        refine lv_iload_n hx hb d_W_manyOn_30 rfl (lv_at hl 2 rfl) ?_
        have er : (nI (cnt (fun i => onB kn vv (nI i) x) (nn 2))) = (nI (cnt (fun i => onB kn vv (nI i) x) i)) := by rw [show i = nn 2 by omega]
        exact W.iret (v := (nI (cnt (fun i => onB kn vv (nI i) x) i))) hx hb hr (fun t ht hW => ⟨by rw [er], ht⟩) (fun q h => by cases h) d_W_manyOn_31
      · have hi2 : i < nn 2 := ltC (eK 2 (by decide)) c_9 (by omega) (by omega)
        refine lv_aload_n hx hb d_W_manyOn_12 rfl (lv_at hl 0 rfl) ?_
        refine lv_iload_n hx hb d_W_manyOn_13 rfl (lv_at hl 3 rfl) ?_
        refine lv_iload_n hx hb d_W_manyOn_14 rfl (lv_at hl 1 rfl) ?_
        refine cR (W.runV (As := [.int (nI i), .int x]) (rest := []) ⟨hx, hb, hml, hown, hts⟩ (c_W_isOn hP hI (nI i) x) (cwV 2 hts (wB_goodV (fun _ h => h) ml_W_48 im_W_isOn se_W_isOn ini_W co_W_isOn) rfl rfl rfl (by decide +kernel) ⟨Nat.le_of_ble_eq_true rfl, Nat.le_of_ble_eq_true rfl⟩) (pV hK hP (ci := 5) (q0 := 3) rfl rfl _) rfl rfl hl.1 rfl (lv_room (Nat.le_of_ble_eq_true rfl)) d_W_manyOn_15 ⟨Nat.zero_le _, Nat.zero_le _⟩) ?_
        refine lv_if_eq (tgt := 24) hx hb d_W_manyOn_18 (by decide) (fun c_18 => ?_) (fun c_18 => ?_)
        · refine lv_iinc (v := (nI (i + 1))) (lv' := [(3, .int (nI (i + 1))), (0, .ref (aa 3)), (1, .int x), (2, .int (nI (cnt (fun i => onB kn vv (nI i) x) i)))]) hx hb d_W_manyOn_24 hl (k := 3) rfl (nI_1 _) (by decide) rfl (fun ls hl => ?_)
          refine lv_goto (tgt := 4) hx hb d_W_manyOn_27 (by decide) ?_
          rw [cnt_f (p := (fun i => onB kn vv (nI i) x)) (bI_0.mp c_18)] at hl
          exact ih (i + 1) (by omega) (by omega) ls (lv_sub hl [1, 2, 3, 0] rfl)
        · refine lv_iinc (v := (nI ((cnt (fun i => onB kn vv (nI i) x) i) + 1))) (lv' := [(2, .int (nI ((cnt (fun i => onB kn vv (nI i) x) i) + 1))), (0, .ref (aa 3)), (1, .int x), (3, .int (nI i))]) hx hb d_W_manyOn_21 hl (k := 2) rfl (nI_1 _) (by decide) rfl (fun ls hl => ?_)
          refine lv_iinc (v := (nI (i + 1))) (lv' := [(3, .int (nI (i + 1))), (2, .int (nI ((cnt (fun i => onB kn vv (nI i) x) i) + 1))), (0, .ref (aa 3)), (1, .int x)]) hx hb d_W_manyOn_24 hl (k := 3) rfl (nI_1 _) (by decide) rfl (fun ls hl => ?_)
          refine lv_goto (tgt := 4) hx hb d_W_manyOn_27 (by decide) ?_
          rw [cnt_t (p := (fun i => onB kn vv (nI i) x)) (bI_n0.mp c_18)] at hl
          exact ih (i + 1) (by omega) (by omega) ls (lv_sub hl [2, 3, 1, 0] rfl)
  exact loop_4 (nn 2 + 1) 0 (by omega) (by omega) ls (lv_sub hl [2, 3, 1, 0] rfl)
set_option maxRecDepth 100000 in
set_option maxHeartbeats 4000000 in
theorem c_W_manyWith (hP : va_P (dC, dI) classes (wC aa cI cZ kn vv) H) (hI : okC kn nn) (x : Int32) : Met l y_W_manyWith (wB y_W_manyWith b_W_manyWith 4 (some .int)) ({ frames := 2, cells := 0, slots := 0, locals := 43 } : Room) (rP [.ref (aa 3), .int x] H (kK dC dI cI cZ cJ)) (QcRead (nI (cnt (fun i => wiB kn vv (nI i) x) (nn 2)))) 0 0 noA := by
  refine Met.ofW (cc := b_W_manyWith) (maxL := 4) (ret := (some .int)) (by decide) rfl ?_
  intro p e s m args below meth c s₁ B hml hv
  obtain ⟨rfl, rfl, hK⟩ := hv
  have hx := B.exec
  have hb := B.bytes
  have hr := B.returns
  have hts0 := atoms_spec (ws := (wB y_W_manyWith b_W_manyWith 4 (some .int))) B.pre
  have hts : ∀ w9 ∈ BG, w9.before [.ref (aa 3), .int x].toArray s = true := fun w9 hw9 => hts0 w9 (List.mem_cons_of_mem _ hw9)
  have hown : s.vm.findClass R_W = some m.cls := findClass_of_methodNamed B.named
  have hlocks := B.notSynchronized
  have hK : va_K (dC, dI) classes [(cI, .int), (cZ, .boolean), (cJ, .long)] s := hK
  have hl := lv_entry ([.ref (aa 3), .int x]) (n := 4) (Nat.le_of_ble_eq_true rfl)
  rw [lg_entry_eq]
  generalize (lg_sl ([.ref (aa 3), .int x]) ++ List.replicate (4 - (lg_sl ([.ref (aa 3), .int x])).length) Slot.unset).toArray = ls at hl ⊢
  have hl : lv_has ls 4 [(0, .ref (aa 3)), (1, .int x)] := hl
  obtain ⟨eK, b0, b1, b2, b3, b4, b5⟩ := id hI
  refine lv_iconst (v := 0) hx hb d_W_manyWith_0 (by decide) ?_
  refine lv_istore_n (lv' := [(2, .int 0), (0, .ref (aa 3)), (1, .int x)]) hx hb d_W_manyWith_1 rfl hl (by decide) rfl (fun ls hl => ?_)
  refine lv_iconst (v := 0) hx hb d_W_manyWith_2 (by decide) ?_
  refine lv_istore_n (lv' := [(3, .int 0), (2, .int 0), (0, .ref (aa 3)), (1, .int x)]) hx hb d_W_manyWith_3 rfl hl (by decide) rfl (fun ls hl => ?_)
  have loop_4 : ∀ (k9 i : Nat), nn 2 + 1 ≤ i + k9 → i ≤ nn 2 → ∀ (ls : Array Slot), lv_has ls 4 [(0, .ref (aa 3)), (1, .int x), (2, .int (nI (cnt (fun i => wiB kn vv (nI i) x) i))), (3, .int (nI i))] → W p l e (headSpec (wB y_W_manyWith b_W_manyWith 4 (some .int)) ({ frames := 2, cells := 0, slots := 0, locals := 43 } : Room)).room s m [.ref (aa 3), .int x].toArray below meth c s.heap [] 0 0 (MQ below (QcRead (nI (cnt (fun i => wiB kn vv (nI i) x) (nn 2)))) [.ref (aa 3), .int x].toArray s 0 0 noA) (F0 m 4 ls []) := by
    intro k9
    induction k9 with
    | zero => intro i hk hi ls hl; exact absurd hk (by omega)
    | succ k9 ih =>
      intro i hk hi ls hl
      refine lv_iload_n hx hb d_W_manyWith_4 rfl (lv_at hl 3 rfl) ?_
      refine lv_aload_n hx hb d_W_manyWith_5 rfl (lv_at hl 0 rfl) ?_
      refine va_get (D := (dC, dI)) (ci := 5) (v := .int (kn 2)) (C := R_W) (T := F_W) (N := 8) hx hb hts i_W hown hK hP 3 rfl rfl 7 (by decide) (hts _ fl_W_34) (fun _ h9 => h9) rfl d_W_manyWith_6 ?_
      refine lv_icmp_ge (tgt := 30) hx hb d_W_manyWith_9 (by decide) (fun c_9 => ?_) (fun c_9 => ?_)
      · have hi2 : nn 2 ≤ i := geC (eK 2 (by decide)) c_9 (by omega) (by omega)
        refine lv_iload_n hx hb d_W_manyWith_30 rfl (lv_at hl 2 rfl) ?_
        have er : (nI (cnt (fun i => wiB kn vv (nI i) x) (nn 2))) = (nI (cnt (fun i => wiB kn vv (nI i) x) i)) := by rw [show i = nn 2 by omega]
        exact W.iret (v := (nI (cnt (fun i => wiB kn vv (nI i) x) i))) hx hb hr (fun t ht hW => ⟨by rw [er], ht⟩) (fun q h => by cases h) d_W_manyWith_31
      · have hi2 : i < nn 2 := ltC (eK 2 (by decide)) c_9 (by omega) (by omega)
        refine lv_aload_n hx hb d_W_manyWith_12 rfl (lv_at hl 0 rfl) ?_
        refine lv_iload_n hx hb d_W_manyWith_13 rfl (lv_at hl 3 rfl) ?_
        refine lv_iload_n hx hb d_W_manyWith_14 rfl (lv_at hl 1 rfl) ?_
        refine cR (W.runV (As := [.int (nI i), .int x]) (rest := []) ⟨hx, hb, hml, hown, hts⟩ (c_W_isWith hP hI (nI i) x) (cwV 2 hts (wB_goodV (fun _ h => h) ml_W_52 im_W_isWith se_W_isWith ini_W co_W_isWith) rfl rfl rfl (by decide +kernel) ⟨Nat.le_of_ble_eq_true rfl, Nat.le_of_ble_eq_true rfl⟩) (pV hK hP (ci := 5) (q0 := 3) rfl rfl _) rfl rfl hl.1 rfl (lv_room (Nat.le_of_ble_eq_true rfl)) d_W_manyWith_15 ⟨Nat.zero_le _, Nat.zero_le _⟩) ?_
        refine lv_if_eq (tgt := 24) hx hb d_W_manyWith_18 (by decide) (fun c_18 => ?_) (fun c_18 => ?_)
        · refine lv_iinc (v := (nI (i + 1))) (lv' := [(3, .int (nI (i + 1))), (0, .ref (aa 3)), (1, .int x), (2, .int (nI (cnt (fun i => wiB kn vv (nI i) x) i)))]) hx hb d_W_manyWith_24 hl (k := 3) rfl (nI_1 _) (by decide) rfl (fun ls hl => ?_)
          refine lv_goto (tgt := 4) hx hb d_W_manyWith_27 (by decide) ?_
          rw [cnt_f (p := (fun i => wiB kn vv (nI i) x)) (bI_0.mp c_18)] at hl
          exact ih (i + 1) (by omega) (by omega) ls (lv_sub hl [1, 2, 3, 0] rfl)
        · refine lv_iinc (v := (nI ((cnt (fun i => wiB kn vv (nI i) x) i) + 1))) (lv' := [(2, .int (nI ((cnt (fun i => wiB kn vv (nI i) x) i) + 1))), (0, .ref (aa 3)), (1, .int x), (3, .int (nI i))]) hx hb d_W_manyWith_21 hl (k := 2) rfl (nI_1 _) (by decide) rfl (fun ls hl => ?_)
          refine lv_iinc (v := (nI (i + 1))) (lv' := [(3, .int (nI (i + 1))), (2, .int (nI ((cnt (fun i => wiB kn vv (nI i) x) i) + 1))), (0, .ref (aa 3)), (1, .int x)]) hx hb d_W_manyWith_24 hl (k := 3) rfl (nI_1 _) (by decide) rfl (fun ls hl => ?_)
          refine lv_goto (tgt := 4) hx hb d_W_manyWith_27 (by decide) ?_
          rw [cnt_t (p := (fun i => wiB kn vv (nI i) x)) (bI_n0.mp c_18)] at hl
          exact ih (i + 1) (by omega) (by omega) ls (lv_sub hl [2, 3, 1, 0] rfl)
  exact loop_4 (nn 2 + 1) 0 (by omega) (by omega) ls (lv_sub hl [2, 3, 1, 0] rfl)
set_option maxRecDepth 100000 in
set_option maxHeartbeats 4000000 in
theorem c_W_leastAcross (hP : va_P (dC, dI) classes (wC aa cI cZ kn vv) H) (hI : okC kn nn) {w : Nat} (hw : w < 40) (x y : Int32) : Met l y_W_leastAcross (wB y_W_leastAcross b_W_leastAcross 5 (some .int)) ({ frames := 2, cells := 0, slots := 0, locals := 43 } : Room) (rP [.ref (aa 3), .int (nI w), .int x, .int y] H (kK dC dI cI cZ cJ)) (QcRead (oI (fstN (acB kn vv w x y) (nn 2)))) 0 0 noA := by
  refine Met.ofW (cc := b_W_leastAcross) (maxL := 5) (ret := (some .int)) (by decide) rfl ?_
  intro p e s m args below meth c s₁ B hml hv
  obtain ⟨rfl, rfl, hK⟩ := hv
  have hx := B.exec
  have hb := B.bytes
  have hr := B.returns
  have hts0 := atoms_spec (ws := (wB y_W_leastAcross b_W_leastAcross 5 (some .int))) B.pre
  have hts : ∀ w9 ∈ BG, w9.before [.ref (aa 3), .int (nI w), .int x, .int y].toArray s = true := fun w9 hw9 => hts0 w9 (List.mem_cons_of_mem _ hw9)
  have hown : s.vm.findClass R_W = some m.cls := findClass_of_methodNamed B.named
  have hlocks := B.notSynchronized
  have hK : va_K (dC, dI) classes [(cI, .int), (cZ, .boolean), (cJ, .long)] s := hK
  have hl := lv_entry ([.ref (aa 3), .int (nI w), .int x, .int y]) (n := 5) (Nat.le_of_ble_eq_true rfl)
  rw [lg_entry_eq]
  generalize (lg_sl ([.ref (aa 3), .int (nI w), .int x, .int y]) ++ List.replicate (5 - (lg_sl ([.ref (aa 3), .int (nI w), .int x, .int y])).length) Slot.unset).toArray = ls at hl ⊢
  have hl : lv_has ls 5 [(0, .ref (aa 3)), (1, .int (nI w)), (2, .int x), (3, .int y)] := hl
  obtain ⟨eK, b0, b1, b2, b3, b4, b5⟩ := id hI
  refine lv_iconst (v := 0) hx hb d_W_leastAcross_0 (by decide) ?_
  refine lv_istore (lv' := [(4, .int 0), (0, .ref (aa 3)), (1, .int (nI w)), (2, .int x), (3, .int y)]) hx hb d_W_leastAcross_1 hl (by decide) rfl (fun ls hl => ?_)
  have loop_3 : ∀ (k9 i : Nat), nn 2 + 1 ≤ i + k9 → i ≤ nn 2 → fstN (acB kn vv w x y) i = none → ∀ (ls : Array Slot), lv_has ls 5 [(0, .ref (aa 3)), (1, .int (nI w)), (2, .int x), (3, .int y), (4, .int (nI i))] → W p l e (headSpec (wB y_W_leastAcross b_W_leastAcross 5 (some .int)) ({ frames := 2, cells := 0, slots := 0, locals := 43 } : Room)).room s m [.ref (aa 3), .int (nI w), .int x, .int y].toArray below meth c s.heap [] 0 0 (MQ below (QcRead (oI (fstN (acB kn vv w x y) (nn 2)))) [.ref (aa 3), .int (nI w), .int x, .int y].toArray s 0 0 noA) (F0 m 3 ls []) := by
    intro k9
    induction k9 with
    | zero => intro i hk hi hf ls hl; exact absurd hk (by omega)
    | succ k9 ih =>
      intro i hk hi hf ls hl
      refine lv_iload hx hb d_W_leastAcross_3 (lv_at hl 4 rfl) ?_
      refine lv_aload_n hx hb d_W_leastAcross_5 rfl (lv_at hl 0 rfl) ?_
      refine va_get (D := (dC, dI)) (ci := 5) (v := .int (kn 2)) (C := R_W) (T := F_W) (N := 8) hx hb hts i_W hown hK hP 3 rfl rfl 7 (by decide) (hts _ fl_W_34) (fun _ h9 => h9) rfl d_W_leastAcross_6 ?_
      refine lv_icmp_ge (tgt := 61) hx hb d_W_leastAcross_9 (by decide) (fun c_9 => ?_) (fun c_9 => ?_)
      · have hi2 : nn 2 ≤ i := geC (eK 2 (by decide)) c_9 (by omega) (by omega)
        refine lv_iconst (v := (-1)) hx hb d_W_leastAcross_61 (by decide) ?_
        have er : (oI (fstN (acB kn vv w x y) (nn 2))) = (-1) := by rw [show nn 2 = i by omega, hf]; rfl
        exact W.iret (v := (-1)) hx hb hr (fun t ht hW => ⟨by rw [er], ht⟩) (fun q h => by cases h) d_W_leastAcross_62
      · have hi2 : i < nn 2 := ltC (eK 2 (by decide)) c_9 (by omega) (by omega)
        refine lv_aload_n hx hb d_W_leastAcross_12 rfl (lv_at hl 0 rfl) ?_
        refine lv_iload hx hb d_W_leastAcross_13 (lv_at hl 4 rfl) ?_
        refine lv_aload_n hx hb d_W_leastAcross_15 rfl (lv_at hl 0 rfl) ?_
        refine va_get (D := (dC, dI)) (ci := 5) (v := .ref (aa 8)) (C := R_W) (T := F_W) (N := 8) hx hb hts i_W hown hK hP 3 rfl rfl 0 (by decide) (hts _ fl_W_9) (fun _ h9 => h9) rfl d_W_leastAcross_16 ?_
        refine lv_iload_n hx hb d_W_leastAcross_19 rfl (lv_at hl 1 rfl) ?_
        refine va_iald hx hb hK hP 8 0 rfl rfl (vp_in_nI (by omega) (by omega)) d_W_leastAcross_20 ?_
        rw [nI_clamp (show w < 2 ^ 31 by omega)]
        refine cR (W.runV (As := [.int (nI i), .int ((vv 2) w)]) (rest := []) ⟨hx, hb, hml, hown, hts⟩ (c_W_isOn hP hI (nI i) ((vv 2) w)) (cwV 2 hts (wB_goodV (fun _ h => h) ml_W_48 im_W_isOn se_W_isOn ini_W co_W_isOn) rfl rfl rfl (by decide +kernel) ⟨Nat.le_of_ble_eq_true rfl, Nat.le_of_ble_eq_true rfl⟩) (pV hK hP (ci := 5) (q0 := 3) rfl rfl _) rfl rfl hl.1 rfl (lv_room (Nat.le_of_ble_eq_true rfl)) d_W_leastAcross_21 ⟨Nat.zero_le _, Nat.zero_le _⟩) ?_
        refine lv_if_eq (tgt := 55) hx hb d_W_leastAcross_24 (by decide) (fun c_24 => ?_) (fun c_24 => ?_)
        · refine lv_iinc (v := (nI (i + 1))) (lv' := [(4, .int (nI (i + 1))), (0, .ref (aa 3)), (1, .int (nI w)), (2, .int x), (3, .int y)]) hx hb d_W_leastAcross_55 hl (k := 4) rfl (nI_1 _) (by decide) rfl (fun ls hl => ?_)
          refine lv_goto (tgt := 3) hx hb d_W_leastAcross_58 (by decide) ?_
          have hn : fstN (acB kn vv w x y) (i + 1) = none := fstN_none hf (by first | (simp [acB, bI_0.mp c_24]; done) | (simp [acB, bI_n0.mp c_24, bI_inj.mp c_38]; done) | (simp [acB, bI_0.mp c_49]; done))
          exact ih (i + 1) (by omega) (by omega) hn ls (lv_sub hl [1, 2, 3, 4, 0] rfl)
        · refine lv_aload_n hx hb d_W_leastAcross_27 rfl (lv_at hl 0 rfl) ?_
          refine lv_iload hx hb d_W_leastAcross_28 (lv_at hl 4 rfl) ?_
          refine cR (W.runV (As := [.int (nI i)]) (rest := []) ⟨hx, hb, hml, hown, hts⟩ (c_W_goesAlongX hP (show i < 40 by omega)) (cwV 1 hts (wB_goodV (fun _ h => h) ml_W_55 im_W_goesAlongX se_W_goesAlongX ini_W co_W_goesAlongX) rfl rfl rfl (by decide +kernel) ⟨Nat.le_of_ble_eq_true rfl, Nat.le_of_ble_eq_true rfl⟩) (pV hK hP (ci := 5) (q0 := 3) rfl rfl _) rfl rfl hl.1 rfl (lv_room (Nat.le_of_ble_eq_true rfl)) d_W_leastAcross_30 ⟨Nat.zero_le _, Nat.zero_le _⟩) ?_
          refine lv_aload_n hx hb d_W_leastAcross_33 rfl (lv_at hl 0 rfl) ?_
          refine lv_iload_n hx hb d_W_leastAcross_34 rfl (lv_at hl 1 rfl) ?_
          refine cR (W.runV (As := [.int (nI w)]) (rest := [.int (bI (alX vv i))]) ⟨hx, hb, hml, hown, hts⟩ (c_W_goesAlongX hP hw) (cwV 1 hts (wB_goodV (fun _ h => h) ml_W_55 im_W_goesAlongX se_W_goesAlongX ini_W co_W_goesAlongX) rfl rfl rfl (by decide +kernel) ⟨Nat.le_of_ble_eq_true rfl, Nat.le_of_ble_eq_true rfl⟩) (pV hK hP (ci := 5) (q0 := 3) rfl rfl _) rfl rfl hl.1 rfl (lv_room (Nat.le_of_ble_eq_true rfl)) d_W_leastAcross_35 ⟨Nat.zero_le _, Nat.zero_le _⟩) ?_
          refine lv_icmp_eq (tgt := 55) hx hb d_W_leastAcross_38 (by decide) (fun c_38 => ?_) (fun c_38 => ?_)
          · refine lv_iinc (v := (nI (i + 1))) (lv' := [(4, .int (nI (i + 1))), (0, .ref (aa 3)), (1, .int (nI w)), (2, .int x), (3, .int y)]) hx hb d_W_leastAcross_55 hl (k := 4) rfl (nI_1 _) (by decide) rfl (fun ls hl => ?_)
            refine lv_goto (tgt := 3) hx hb d_W_leastAcross_58 (by decide) ?_
            have hn : fstN (acB kn vv w x y) (i + 1) = none := fstN_none hf (by first | (simp [acB, bI_0.mp c_24]; done) | (simp [acB, bI_n0.mp c_24, bI_inj.mp c_38]; done) | (simp [acB, bI_0.mp c_49]; done))
            exact ih (i + 1) (by omega) (by omega) hn ls (lv_sub hl [1, 2, 3, 4, 0] rfl)
          · refine lv_aload_n hx hb d_W_leastAcross_41 rfl (lv_at hl 0 rfl) ?_
            refine lv_iload hx hb d_W_leastAcross_42 (lv_at hl 4 rfl) ?_
            refine lv_iload_n hx hb d_W_leastAcross_44 rfl (lv_at hl 2 rfl) ?_
            refine lv_iload_n hx hb d_W_leastAcross_45 rfl (lv_at hl 3 rfl) ?_
            refine cR (W.runV (As := [.int (nI i), .int x, .int y]) (rest := []) ⟨hx, hb, hml, hown, hts⟩ (c_W_hasEndAt hP (show i < 40 by omega) x y) (cwV 3 hts (wB_goodV (fun _ h => h) ml_W_58 im_W_hasEndAt se_W_hasEndAt ini_W co_W_hasEndAt) rfl rfl rfl (by decide +kernel) ⟨Nat.le_of_ble_eq_true rfl, Nat.le_of_ble_eq_true rfl⟩) (pV hK hP (ci := 5) (q0 := 3) rfl rfl _) rfl rfl hl.1 rfl (lv_room (Nat.le_of_ble_eq_true rfl)) d_W_leastAcross_46 ⟨Nat.zero_le _, Nat.zero_le _⟩) ?_
            refine lv_if_eq (tgt := 55) hx hb d_W_leastAcross_49 (by decide) (fun c_49 => ?_) (fun c_49 => ?_)
            · refine lv_iinc (v := (nI (i + 1))) (lv' := [(4, .int (nI (i + 1))), (0, .ref (aa 3)), (1, .int (nI w)), (2, .int x), (3, .int y)]) hx hb d_W_leastAcross_55 hl (k := 4) rfl (nI_1 _) (by decide) rfl (fun ls hl => ?_)
              refine lv_goto (tgt := 3) hx hb d_W_leastAcross_58 (by decide) ?_
              have hn : fstN (acB kn vv w x y) (i + 1) = none := fstN_none hf (by first | (simp [acB, bI_0.mp c_24]; done) | (simp [acB, bI_n0.mp c_24, bI_inj.mp c_38]; done) | (simp [acB, bI_0.mp c_49]; done))
              exact ih (i + 1) (by omega) (by omega) hn ls (lv_sub hl [1, 2, 3, 4, 0] rfl)
            · refine lv_iload hx hb d_W_leastAcross_52 (lv_at hl 4 rfl) ?_
              have er : (oI (fstN (acB kn vv w x y) (nn 2))) = (nI i) := by rw [fstN_some hf (by simp [acB, bI_n0.mp c_24, bI_n0.mp c_49]; exact fun h => c_38 (by rw [h])) _ hi2]; rfl
              exact W.iret (v := (nI i)) hx hb hr (fun t ht hW => ⟨by rw [er], ht⟩) (fun q h => by cases h) d_W_leastAcross_54
  exact loop_3 (nn 2 + 1) 0 (by omega) (by omega) rfl ls (lv_sub hl [1, 2, 3, 4, 0] rfl)
end
