section
variable {l : Launch} {dC : Nat → ClassId} {dI : Nat → Nat → Nat} {H : Heap} {ab : Nat → Nat} {cI cZ cJ : ClassId} {mk : Nat → Int32} {mv : Ar} {mn : Nat → Nat}
set_option maxRecDepth 100000 in
set_option maxHeartbeats 4000000 in
theorem c_M_isStorey (hP : va_P (dC, dI) classes (wM ab cI cZ mk mv) H) (x : Int32) : Met l y_M_isStorey (wB y_M_isStorey b_M_isStorey 2 (some .boolean)) ({ frames := 0, cells := 0, slots := 0, locals := 0 } : Room) (rP [.ref (ab 0), .int x] H (kK dC dI cI cZ cJ)) (QcRead (bI (haB (mk 0) x))) 0 0 noA := by
  refine Met.ofW (cc := b_M_isStorey) (maxL := 2) (ret := (some .boolean)) (by decide) rfl ?_
  intro p e s m args below meth c s₁ B hml hv
  obtain ⟨rfl, rfl, hK⟩ := hv
  have hx := B.exec
  have hb := B.bytes
  have hr := B.returns
  have hts0 := atoms_spec (ws := (wB y_M_isStorey b_M_isStorey 2 (some .boolean))) B.pre
  have hts : ∀ w9 ∈ BG, w9.before [.ref (ab 0), .int x].toArray s = true := fun w9 hw9 => hts0 w9 (List.mem_cons_of_mem _ hw9)
  have hown : s.vm.findClass R_M = some m.cls := findClass_of_methodNamed B.named
  have hlocks := B.notSynchronized
  have hK : va_K (dC, dI) classes [(cI, .int), (cZ, .boolean), (cJ, .long)] s := hK
  have hl := lv_entry ([.ref (ab 0), .int x]) (n := 2) (Nat.le_of_ble_eq_true rfl)
  rw [lg_entry_eq]
  generalize (lg_sl ([.ref (ab 0), .int x]) ++ List.replicate (2 - (lg_sl ([.ref (ab 0), .int x])).length) Slot.unset).toArray = ls at hl ⊢
  have hl : lv_has ls 2 [(0, .ref (ab 0)), (1, .int x)] := hl
  refine lv_iload_n hx hb d_M_isStorey_0 rfl (lv_at hl 1 rfl) ?_
  refine lv_if_lt (tgt := 16) hx hb d_M_isStorey_1 (by decide) (fun c_1 => ?_) (fun c_1 => ?_)
  · refine lv_iconst (v := 0) hx hb d_M_isStorey_16 (by decide) ?_
    have er : (bI (haB (mk 0) x)) = 0 := by simp [bI, haB, c_1]
    exact W.zret (v := 0) hx hb hr rfl (fun t ht hW => ⟨by rw [er], ht⟩) (fun q h => by cases h) d_M_isStorey_17
  · refine lv_iload_n hx hb d_M_isStorey_4 rfl (lv_at hl 1 rfl) ?_
    refine lv_aload_n hx hb d_M_isStorey_5 rfl (lv_at hl 0 rfl) ?_
    refine va_get (D := (dC, dI)) (ci := 6) (v := .int (mk 0)) (C := R_M) (T := F_M) (N := 20) hx hb hts i_M hown hK hP 0 rfl rfl 4 (by decide) (hts _ fl_M_54) (fun _ h9 => h9) rfl d_M_isStorey_6 ?_
    refine lv_icmp_ge (tgt := 16) hx hb d_M_isStorey_9 (by decide) (fun c_9 => ?_) (fun c_9 => ?_)
    · refine lv_iconst (v := 0) hx hb d_M_isStorey_16 (by decide) ?_
      have er : (bI (haB (mk 0) x)) = 0 := by simp [bI, haB, c_1, c_9]
      exact W.zret (v := 0) hx hb hr rfl (fun t ht hW => ⟨by rw [er], ht⟩) (fun q h => by cases h) d_M_isStorey_17
    · refine lv_iconst (v := 1) hx hb d_M_isStorey_12 (by decide) ?_
      refine lv_goto (tgt := 17) hx hb d_M_isStorey_13 (by decide) ?_
      have er : (bI (haB (mk 0) x)) = 1 := by simp [bI, haB, c_1, c_9]
      exact W.zret (v := 1) hx hb hr rfl (fun t ht hW => ⟨by rw [er], ht⟩) (fun q h => by cases h) d_M_isStorey_17
set_option maxRecDepth 100000 in
set_option maxHeartbeats 4000000 in
theorem c_M_isType (hP : va_P (dC, dI) classes (wM ab cI cZ mk mv) H) (x : Int32) : Met l y_M_isType (wB y_M_isType b_M_isType 2 (some .boolean)) ({ frames := 0, cells := 0, slots := 0, locals := 0 } : Room) (rP [.ref (ab 0), .int x] H (kK dC dI cI cZ cJ)) (QcRead (bI (haB (mk 1) x))) 0 0 noA := by
  refine Met.ofW (cc := b_M_isType) (maxL := 2) (ret := (some .boolean)) (by decide) rfl ?_
  intro p e s m args below meth c s₁ B hml hv
  obtain ⟨rfl, rfl, hK⟩ := hv
  have hx := B.exec
  have hb := B.bytes
  have hr := B.returns
  have hts0 := atoms_spec (ws := (wB y_M_isType b_M_isType 2 (some .boolean))) B.pre
  have hts : ∀ w9 ∈ BG, w9.before [.ref (ab 0), .int x].toArray s = true := fun w9 hw9 => hts0 w9 (List.mem_cons_of_mem _ hw9)
  have hown : s.vm.findClass R_M = some m.cls := findClass_of_methodNamed B.named
  have hlocks := B.notSynchronized
  have hK : va_K (dC, dI) classes [(cI, .int), (cZ, .boolean), (cJ, .long)] s := hK
  have hl := lv_entry ([.ref (ab 0), .int x]) (n := 2) (Nat.le_of_ble_eq_true rfl)
  rw [lg_entry_eq]
  generalize (lg_sl ([.ref (ab 0), .int x]) ++ List.replicate (2 - (lg_sl ([.ref (ab 0), .int x])).length) Slot.unset).toArray = ls at hl ⊢
  have hl : lv_has ls 2 [(0, .ref (ab 0)), (1, .int x)] := hl
  refine lv_iload_n hx hb d_M_isType_0 rfl (lv_at hl 1 rfl) ?_
  refine lv_if_lt (tgt := 16) hx hb d_M_isType_1 (by decide) (fun c_1 => ?_) (fun c_1 => ?_)
  · refine lv_iconst (v := 0) hx hb d_M_isType_16 (by decide) ?_
    have er : (bI (haB (mk 1) x)) = 0 := by simp [bI, haB, c_1]
    exact W.zret (v := 0) hx hb hr rfl (fun t ht hW => ⟨by rw [er], ht⟩) (fun q h => by cases h) d_M_isType_17
  · refine lv_iload_n hx hb d_M_isType_4 rfl (lv_at hl 1 rfl) ?_
    refine lv_aload_n hx hb d_M_isType_5 rfl (lv_at hl 0 rfl) ?_
    refine va_get (D := (dC, dI)) (ci := 6) (v := .int (mk 1)) (C := R_M) (T := F_M) (N := 20) hx hb hts i_M hown hK hP 0 rfl rfl 6 (by decide) (hts _ fl_M_57) (fun _ h9 => h9) rfl d_M_isType_6 ?_
    refine lv_icmp_ge (tgt := 16) hx hb d_M_isType_9 (by decide) (fun c_9 => ?_) (fun c_9 => ?_)
    · refine lv_iconst (v := 0) hx hb d_M_isType_16 (by decide) ?_
      have er : (bI (haB (mk 1) x)) = 0 := by simp [bI, haB, c_1, c_9]
      exact W.zret (v := 0) hx hb hr rfl (fun t ht hW => ⟨by rw [er], ht⟩) (fun q h => by cases h) d_M_isType_17
    · refine lv_iconst (v := 1) hx hb d_M_isType_12 (by decide) ?_
      refine lv_goto (tgt := 17) hx hb d_M_isType_13 (by decide) ?_
      have er : (bI (haB (mk 1) x)) = 1 := by simp [bI, haB, c_1, c_9]
      exact W.zret (v := 1) hx hb hr rfl (fun t ht hW => ⟨by rw [er], ht⟩) (fun q h => by cases h) d_M_isType_17
set_option maxRecDepth 100000 in
set_option maxHeartbeats 4000000 in
theorem c_M_thrown (hP : va_P (dC, dI) classes (wM ab cI cZ mk mv) H)  : Met l y_M_thrown (wB y_M_thrown b_M_thrown 1 (some .int)) ({ frames := 0, cells := 0, slots := 0, locals := 0 } : Room) (rP [.ref (ab 0)] H (kK dC dI cI cZ cJ)) (QcRead (mk 6)) 0 0 noA := by
  refine Met.ofW (cc := b_M_thrown) (maxL := 1) (ret := (some .int)) (by decide) rfl ?_
  intro p e s m args below meth c s₁ B hml hv
  obtain ⟨rfl, rfl, hK⟩ := hv
  have hx := B.exec
  have hb := B.bytes
  have hr := B.returns
  have hts0 := atoms_spec (ws := (wB y_M_thrown b_M_thrown 1 (some .int))) B.pre
  have hts : ∀ w9 ∈ BG, w9.before [.ref (ab 0)].toArray s = true := fun w9 hw9 => hts0 w9 (List.mem_cons_of_mem _ hw9)
  have hown : s.vm.findClass R_M = some m.cls := findClass_of_methodNamed B.named
  have hlocks := B.notSynchronized
  have hK : va_K (dC, dI) classes [(cI, .int), (cZ, .boolean), (cJ, .long)] s := hK
  have hl := lv_entry ([.ref (ab 0)]) (n := 1) (Nat.le_of_ble_eq_true rfl)
  rw [lg_entry_eq]
  generalize (lg_sl ([.ref (ab 0)]) ++ List.replicate (1 - (lg_sl ([.ref (ab 0)])).length) Slot.unset).toArray = ls at hl ⊢
  have hl : lv_has ls 1 [(0, .ref (ab 0))] := hl
  refine lv_aload_n hx hb d_M_thrown_0 rfl (lv_at hl 0 rfl) ?_
  refine va_get (D := (dC, dI)) (ci := 6) (v := .int (mk 6)) (C := R_M) (T := F_M) (N := 20) hx hb hts i_M hown hK hP 0 rfl rfl 0 (by decide) (hts _ fl_M_50) (fun _ h9 => h9) rfl d_M_thrown_1 ?_
  have er : (mk 6) = (mk 6) := by rfl
  exact W.iret (v := (mk 6)) hx hb hr (fun t ht hW => ⟨by rw [er], ht⟩) (fun q h => by cases h) d_M_thrown_4
set_option maxRecDepth 100000 in
set_option maxHeartbeats 4000000 in
theorem c_M_isIn (x y z : Int64) : Met l y_M_isIn (wB y_M_isIn b_M_isIn 6 (some .boolean)) ({ frames := 0, cells := 0, slots := 0, locals := 0 } : Room) (rP [.long x, .long y, .long z] H (kK dC dI cI cZ cJ)) (QcRead (bI (inB x y z))) 0 0 noA := by
  refine Met.ofW (cc := b_M_isIn) (maxL := 6) (ret := (some .boolean)) (by decide) rfl ?_
  intro p e s m args below meth c s₁ B hml hv
  obtain ⟨rfl, rfl, hK⟩ := hv
  have hx := B.exec
  have hb := B.bytes
  have hr := B.returns
  have hts0 := atoms_spec (ws := (wB y_M_isIn b_M_isIn 6 (some .boolean))) B.pre
  have hts : ∀ w9 ∈ BG, w9.before [.long x, .long y, .long z].toArray s = true := fun w9 hw9 => hts0 w9 (List.mem_cons_of_mem _ hw9)
  have hown : s.vm.findClass R_M = some m.cls := findClass_of_methodNamed B.named
  have hlocks := B.notSynchronized
  have hK : va_K (dC, dI) classes [(cI, .int), (cZ, .boolean), (cJ, .long)] s := hK
  have hl := lv_entry ([.long x, .long y, .long z]) (n := 6) (Nat.le_of_ble_eq_true rfl)
  rw [lg_entry_eq]
  generalize (lg_sl ([.long x, .long y, .long z]) ++ List.replicate (6 - (lg_sl ([.long x, .long y, .long z])).length) Slot.unset).toArray = ls at hl ⊢
  have hl : lv_has ls 6 [(0, .long x), (2, .long y), (4, .long z)] := hl
  refine lv_lload_n hx hb d_M_isIn_0 rfl (lv_at hl 0 rfl) ?_
  refine lv_lload_n hx hb d_M_isIn_1 rfl (lv_at hl 1 rfl) ?_
  refine W.lcmp hx hb d_M_isIn_2 ?_
  refine lv_if_lt (tgt := 17) hx hb d_M_isIn_3 (by decide) (fun c_3 => ?_) (fun c_3 => ?_)
  · refine lv_iconst (v := 0) hx hb d_M_isIn_17 (by decide) ?_
    have er : (bI (inB x y z)) = 0 := by simp only [bI, inB, decide_eq_true c_3, Bool.not_true, Bool.not_false, Bool.and_true, Bool.true_and, Bool.false_and, Bool.and_false, Bool.or_true, Bool.true_or, Bool.or_false, Bool.false_or, if_true, if_false, Bool.false_eq_true, Bool.true_eq_false]
    exact W.zret (v := 0) hx hb hr rfl (fun t ht hW => ⟨by rw [er], ht⟩) (fun q h => by cases h) d_M_isIn_18
  · refine lv_lload_n hx hb d_M_isIn_6 rfl (lv_at hl 0 rfl) ?_
    refine lv_lload hx hb d_M_isIn_7 (lv_at hl 2 rfl) ?_
    refine W.lcmp hx hb d_M_isIn_9 ?_
    refine lv_if_gt (tgt := 17) hx hb d_M_isIn_10 (by decide) (fun c_10 => ?_) (fun c_10 => ?_)
    · refine lv_iconst (v := 0) hx hb d_M_isIn_17 (by decide) ?_
      have er : (bI (inB x y z)) = 0 := by simp only [bI, inB, decide_eq_false c_3, decide_eq_true c_10, Bool.not_true, Bool.not_false, Bool.and_true, Bool.true_and, Bool.false_and, Bool.and_false, Bool.or_true, Bool.true_or, Bool.or_false, Bool.false_or, if_true, if_false, Bool.false_eq_true, Bool.true_eq_false]
      exact W.zret (v := 0) hx hb hr rfl (fun t ht hW => ⟨by rw [er], ht⟩) (fun q h => by cases h) d_M_isIn_18
    · refine lv_iconst (v := 1) hx hb d_M_isIn_13 (by decide) ?_
      refine lv_goto (tgt := 18) hx hb d_M_isIn_14 (by decide) ?_
      have er : (bI (inB x y z)) = 1 := by simp only [bI, inB, decide_eq_false c_3, decide_eq_false c_10, Bool.not_true, Bool.not_false, Bool.and_true, Bool.true_and, Bool.false_and, Bool.and_false, Bool.or_true, Bool.true_or, Bool.or_false, Bool.false_or, if_true, if_false, Bool.false_eq_true, Bool.true_eq_false]
      exact W.zret (v := 1) hx hb hr rfl (fun t ht hW => ⟨by rw [er], ht⟩) (fun q h => by cases h) d_M_isIn_18
set_option maxRecDepth 100000 in
set_option maxHeartbeats 4000000 in
theorem c_M_isWall (hP : va_P (dC, dI) classes (wM ab cI cZ mk mv) H) (hM : okM mk mn) (w : Int32) : Met l y_M_isWall (wB y_M_isWall b_M_isWall 2 (some .boolean)) ({ frames := 0, cells := 0, slots := 0, locals := 0 } : Room) (rP [.ref (ab 0), .int w] H (kK dC dI cI cZ cJ)) (QcRead (bI (mW mk mv w))) 0 0 noA := by
  refine Met.ofW (cc := b_M_isWall) (maxL := 2) (ret := (some .boolean)) (by decide) rfl ?_
  intro p e s m args below meth c s₁ B hml hv
  obtain ⟨rfl, rfl, hK⟩ := hv
  have hx := B.exec
  have hb := B.bytes
  have hr := B.returns
  have hts0 := atoms_spec (ws := (wB y_M_isWall b_M_isWall 2 (some .boolean))) B.pre
  have hts : ∀ w9 ∈ BG, w9.before [.ref (ab 0), .int w].toArray s = true := fun w9 hw9 => hts0 w9 (List.mem_cons_of_mem _ hw9)
  have hown : s.vm.findClass R_M = some m.cls := findClass_of_methodNamed B.named
  have hlocks := B.notSynchronized
  have hK : va_K (dC, dI) classes [(cI, .int), (cZ, .boolean), (cJ, .long)] s := hK
  have hl := lv_entry ([.ref (ab 0), .int w]) (n := 2) (Nat.le_of_ble_eq_true rfl)
  rw [lg_entry_eq]
  generalize (lg_sl ([.ref (ab 0), .int w]) ++ List.replicate (2 - (lg_sl ([.ref (ab 0), .int w])).length) Slot.unset).toArray = ls at hl ⊢
  have hl : lv_has ls 2 [(0, .ref (ab 0)), (1, .int w)] := hl
  obtain ⟨eK, b0, b1, b2, b3, b4, b5⟩ := id hM
  refine lv_iload_n hx hb d_M_isWall_0 rfl (lv_at hl 1 rfl) ?_
  refine lv_if_lt (tgt := 25) hx hb d_M_isWall_1 (by decide) (fun c_1 => ?_) (fun c_1 => ?_)
  · refine lv_iconst (v := 0) hx hb d_M_isWall_25 (by decide) ?_
    have er : (bI (mW mk mv w)) = 0 := by simp [bI, mW, c_1]
    exact W.zret (v := 0) hx hb hr rfl (fun t ht hW => ⟨by rw [er], ht⟩) (fun q h => by cases h) d_M_isWall_26
  · refine lv_iload_n hx hb d_M_isWall_4 rfl (lv_at hl 1 rfl) ?_
    refine lv_aload_n hx hb d_M_isWall_5 rfl (lv_at hl 0 rfl) ?_
    refine va_get (D := (dC, dI)) (ci := 6) (v := .int (mk 2)) (C := R_M) (T := F_M) (N := 20) hx hb hts i_M hown hK hP 0 rfl rfl 8 (by decide) (hts _ fl_M_60) (fun _ h9 => h9) rfl d_M_isWall_6 ?_
    refine lv_icmp_ge (tgt := 25) hx hb d_M_isWall_9 (by decide) (fun c_9 => ?_) (fun c_9 => ?_)
    · refine lv_iconst (v := 0) hx hb d_M_isWall_25 (by decide) ?_
      have er : (bI (mW mk mv w)) = 0 := by simp [bI, mW, c_1, c_9]
      exact W.zret (v := 0) hx hb hr rfl (fun t ht hW => ⟨by rw [er], ht⟩) (fun q h => by cases h) d_M_isWall_26
    · refine lv_aload_n hx hb d_M_isWall_12 rfl (lv_at hl 0 rfl) ?_
      refine va_get (D := (dC, dI)) (ci := 6) (v := .ref (ab 10)) (C := R_M) (T := F_M) (N := 20) hx hb hts i_M hown hK hP 0 rfl rfl 15 (by decide) (hts _ fl_M_37) (fun _ h9 => h9) rfl d_M_isWall_13 ?_
      refine lv_iload_n hx hb d_M_isWall_16 rfl (lv_at hl 1 rfl) ?_
      refine va_zald hx hb hK hP 10 1 rfl rfl (ixW c_1 c_9 (eK 2 (by decide)) b2 (by decide)) d_M_isWall_17 ?_
      refine lv_if_eq (tgt := 25) hx hb d_M_isWall_18 (by decide) (fun c_18 => ?_) (fun c_18 => ?_)
      · refine lv_iconst (v := 0) hx hb d_M_isWall_25 (by decide) ?_
        have er : (bI (mW mk mv w)) = 0 := by simp [bI, mW, c_1, c_9, c_18]
        exact W.zret (v := 0) hx hb hr rfl (fun t ht hW => ⟨by rw [er], ht⟩) (fun q h => by cases h) d_M_isWall_26
      · refine lv_iconst (v := 1) hx hb d_M_isWall_21 (by decide) ?_
        refine lv_goto (tgt := 26) hx hb d_M_isWall_22 (by decide) ?_
        have er : (bI (mW mk mv w)) = 1 := by simp [bI, mW, c_1, c_9, c_18]
        exact W.zret (v := 1) hx hb hr rfl (fun t ht hW => ⟨by rw [er], ht⟩) (fun q h => by cases h) d_M_isWall_26
set_option maxRecDepth 100000 in
set_option maxHeartbeats 4000000 in
theorem c_M_isThick (x : Int32) : Met l y_M_isThick (wB y_M_isThick b_M_isThick 1 (some .boolean)) ({ frames := 0, cells := 0, slots := 0, locals := 0 } : Room) (rP [.int x] H (kK dC dI cI cZ cJ)) (QcRead (bI (thB x))) 0 0 noA := by
  refine Met.ofW (cc := b_M_isThick) (maxL := 1) (ret := (some .boolean)) (by decide) rfl ?_
  intro p e s m args below meth c s₁ B hml hv
  obtain ⟨rfl, rfl, hK⟩ := hv
  have hx := B.exec
  have hb := B.bytes
  have hr := B.returns
  have hts0 := atoms_spec (ws := (wB y_M_isThick b_M_isThick 1 (some .boolean))) B.pre
  have hts : ∀ w9 ∈ BG, w9.before [.int x].toArray s = true := fun w9 hw9 => hts0 w9 (List.mem_cons_of_mem _ hw9)
  have hown : s.vm.findClass R_M = some m.cls := findClass_of_methodNamed B.named
  have hlocks := B.notSynchronized
  have hK : va_K (dC, dI) classes [(cI, .int), (cZ, .boolean), (cJ, .long)] s := hK
  have hl := lv_entry ([.int x]) (n := 1) (Nat.le_of_ble_eq_true rfl)
  rw [lg_entry_eq]
  generalize (lg_sl ([.int x]) ++ List.replicate (1 - (lg_sl ([.int x])).length) Slot.unset).toArray = ls at hl ⊢
  have hl : lv_has ls 1 [(0, .int x)] := hl
  refine lv_iload_n hx hb d_M_isThick_0 rfl (lv_at hl 0 rfl) ?_
  refine lv_iconst (v := 2) hx hb d_M_isThick_1 (by decide) ?_
  refine lv_icmp_lt (tgt := 21) hx hb d_M_isThick_2 (by decide) (fun c_2 => ?_) (fun c_2 => ?_)
  · refine lv_iconst (v := 0) hx hb d_M_isThick_21 (by decide) ?_
    have er : (bI (thB x)) = 0 := by simp only [bI, thB, decide_eq_true c_2, Bool.not_true, Bool.not_false, Bool.and_true, Bool.true_and, Bool.false_and, Bool.and_false, Bool.or_true, Bool.true_or, Bool.or_false, Bool.false_or, if_true, if_false, Bool.false_eq_true, Bool.true_eq_false]
    exact W.zret (v := 0) hx hb hr rfl (fun t ht hW => ⟨by rw [er], ht⟩) (fun q h => by cases h) d_M_isThick_22
  · refine lv_iload_n hx hb d_M_isThick_5 rfl (lv_at hl 0 rfl) ?_
    refine lv_bipush (v := 100) hx hb d_M_isThick_6 (by decide) ?_
    refine lv_icmp_gt (tgt := 21) hx hb d_M_isThick_8 (by decide) (fun c_8 => ?_) (fun c_8 => ?_)
    · refine lv_iconst (v := 0) hx hb d_M_isThick_21 (by decide) ?_
      have er : (bI (thB x)) = 0 := by simp only [bI, thB, decide_eq_false c_2, decide_eq_true c_8, Bool.not_true, Bool.not_false, Bool.and_true, Bool.true_and, Bool.false_and, Bool.and_false, Bool.or_true, Bool.true_or, Bool.or_false, Bool.false_or, if_true, if_false, Bool.false_eq_true, Bool.true_eq_false]
      exact W.zret (v := 0) hx hb hr rfl (fun t ht hW => ⟨by rw [er], ht⟩) (fun q h => by cases h) d_M_isThick_22
    · refine lv_iload_n hx hb d_M_isThick_11 rfl (lv_at hl 0 rfl) ?_
      refine lv_iconst (v := 2) hx hb d_M_isThick_12 (by decide) ?_
      refine lv_irem hx hb d_M_isThick_13 (by decide) ?_
      refine lv_if_ne (tgt := 21) hx hb d_M_isThick_14 (by decide) (fun c_14 => ?_) (fun c_14 => ?_)
      · refine lv_iconst (v := 0) hx hb d_M_isThick_21 (by decide) ?_
        have er : (bI (thB x)) = 0 := by simp only [bI, thB, decide_eq_false c_2, decide_eq_false c_8, decide_eq_false c_14, Bool.not_true, Bool.not_false, Bool.and_true, Bool.true_and, Bool.false_and, Bool.and_false, Bool.or_true, Bool.true_or, Bool.or_false, Bool.false_or, if_true, if_false, Bool.false_eq_true, Bool.true_eq_false]
        exact W.zret (v := 0) hx hb hr rfl (fun t ht hW => ⟨by rw [er], ht⟩) (fun q h => by cases h) d_M_isThick_22
      · refine lv_iconst (v := 1) hx hb d_M_isThick_17 (by decide) ?_
        refine lv_goto (tgt := 22) hx hb d_M_isThick_18 (by decide) ?_
        have er : (bI (thB x)) = 1 := by simp only [bI, thB, decide_eq_false c_2, decide_eq_false c_8, decide_eq_true c_14, Bool.not_true, Bool.not_false, Bool.and_true, Bool.true_and, Bool.false_and, Bool.and_false, Bool.or_true, Bool.true_or, Bool.or_false, Bool.false_or, if_true, if_false, Bool.false_eq_true, Bool.true_eq_false]
        exact W.zret (v := 1) hx hb hr rfl (fun t ht hW => ⟨by rw [er], ht⟩) (fun q h => by cases h) d_M_isThick_22
set_option maxRecDepth 100000 in
set_option maxHeartbeats 4000000 in
theorem c_M_isPlace (x y : Int64) : Met l y_M_isPlace (wB y_M_isPlace b_M_isPlace 4 (some .boolean)) ({ frames := 1, cells := 0, slots := 0, locals := 25 } : Room) (rP [.long x, .long y] H (kK dC dI cI cZ cJ)) (QcRead (bI (ipB x y))) 0 0 noA := by
  refine Met.ofW (cc := b_M_isPlace) (maxL := 4) (ret := (some .boolean)) (by decide) rfl ?_
  intro p e s m args below meth c s₁ B hml hv
  obtain ⟨rfl, rfl, hK⟩ := hv
  have hx := B.exec
  have hb := B.bytes
  have hr := B.returns
  have hts0 := atoms_spec (ws := (wB y_M_isPlace b_M_isPlace 4 (some .boolean))) B.pre
  have hts : ∀ w9 ∈ BG, w9.before [.long x, .long y].toArray s = true := fun w9 hw9 => hts0 w9 (List.mem_cons_of_mem _ hw9)
  have hown : s.vm.findClass R_M = some m.cls := findClass_of_methodNamed B.named
  have hlocks := B.notSynchronized
  have hK : va_K (dC, dI) classes [(cI, .int), (cZ, .boolean), (cJ, .long)] s := hK
  have hl := lv_entry ([.long x, .long y]) (n := 4) (Nat.le_of_ble_eq_true rfl)
  rw [lg_entry_eq]
  generalize (lg_sl ([.long x, .long y]) ++ List.replicate (4 - (lg_sl ([.long x, .long y])).length) Slot.unset).toArray = ls at hl ⊢
  have hl : lv_has ls 4 [(0, .long x), (2, .long y)] := hl
  refine lv_lload_n hx hb d_M_isPlace_0 rfl (lv_at hl 0 rfl) ?_
  refine lv_ldc2 (v := (-1000)) hx hb hown (hts _ kl_M_63) d_M_isPlace_1 ?_
  refine lv_ldc2 (v := 1000) hx hb hown (hts _ kl_M_65) d_M_isPlace_4 ?_
  refine cR (W.runS (As := [.long x, .long (-1000), .long 1000]) (rest := []) ⟨hx, hb, hml, hown, hts⟩ (c_M_isIn x (-1000) 1000) (cwS 3 hts (wB_goodS (fun _ h => h) ml_M_67 st_M_isIn ini_M co_M_isIn) rfl rfl rfl (by decide +kernel) ⟨Nat.le_of_ble_eq_true rfl, Nat.le_of_ble_eq_true rfl⟩) (pS hK _) rfl rfl hl.1 rfl (lv_room (Nat.le_of_ble_eq_true rfl)) d_M_isPlace_7 ⟨Nat.zero_le _, Nat.zero_le _⟩) ?_
  refine lv_if_eq (tgt := 30) hx hb d_M_isPlace_10 (by decide) (fun c_10 => ?_) (fun c_10 => ?_)
  · refine lv_iconst (v := 0) hx hb d_M_isPlace_30 (by decide) ?_
    have er : (bI (ipB x y)) = 0 := by first | (simp [bI, ipB, bI_0.mp c_10]; done) | (simp [bI, ipB, bI_n0.mp c_10, bI_0.mp c_23]; done) | (simp [bI, ipB, bI_n0.mp c_10, bI_n0.mp c_23]; done)
    exact W.zret (v := 0) hx hb hr rfl (fun t ht hW => ⟨by rw [er], ht⟩) (fun q h => by cases h) d_M_isPlace_31
  · refine lv_lload_n hx hb d_M_isPlace_13 rfl (lv_at hl 1 rfl) ?_
    refine lv_ldc2 (v := (-1000)) hx hb hown (hts _ kl_M_63) d_M_isPlace_14 ?_
    refine lv_ldc2 (v := 1000) hx hb hown (hts _ kl_M_65) d_M_isPlace_17 ?_
    refine cR (W.runS (As := [.long y, .long (-1000), .long 1000]) (rest := []) ⟨hx, hb, hml, hown, hts⟩ (c_M_isIn y (-1000) 1000) (cwS 3 hts (wB_goodS (fun _ h => h) ml_M_67 st_M_isIn ini_M co_M_isIn) rfl rfl rfl (by decide +kernel) ⟨Nat.le_of_ble_eq_true rfl, Nat.le_of_ble_eq_true rfl⟩) (pS hK _) rfl rfl hl.1 rfl (lv_room (Nat.le_of_ble_eq_true rfl)) d_M_isPlace_20 ⟨Nat.zero_le _, Nat.zero_le _⟩) ?_
    refine lv_if_eq (tgt := 30) hx hb d_M_isPlace_23 (by decide) (fun c_23 => ?_) (fun c_23 => ?_)
    · refine lv_iconst (v := 0) hx hb d_M_isPlace_30 (by decide) ?_
      have er : (bI (ipB x y)) = 0 := by first | (simp [bI, ipB, bI_0.mp c_10]; done) | (simp [bI, ipB, bI_n0.mp c_10, bI_0.mp c_23]; done) | (simp [bI, ipB, bI_n0.mp c_10, bI_n0.mp c_23]; done)
      exact W.zret (v := 0) hx hb hr rfl (fun t ht hW => ⟨by rw [er], ht⟩) (fun q h => by cases h) d_M_isPlace_31
    · refine lv_iconst (v := 1) hx hb d_M_isPlace_26 (by decide) ?_
      refine lv_goto (tgt := 31) hx hb d_M_isPlace_27 (by decide) ?_
      have er : (bI (ipB x y)) = 1 := by first | (simp [bI, ipB, bI_0.mp c_10]; done) | (simp [bI, ipB, bI_n0.mp c_10, bI_0.mp c_23]; done) | (simp [bI, ipB, bI_n0.mp c_10, bI_n0.mp c_23]; done)
      exact W.zret (v := 1) hx hb hr rfl (fun t ht hW => ⟨by rw [er], ht⟩) (fun q h => by cases h) d_M_isPlace_31
set_option maxRecDepth 100000 in
set_option maxHeartbeats 4000000 in
theorem c_M_size (x : Int32) : Met l y_M_size (wB y_M_size b_M_size 1 (some .int)) ({ frames := 0, cells := 0, slots := 0, locals := 0 } : Room) (rP [.int x] H (kK dC dI cI cZ cJ)) (QcRead (siI x)) 0 0 noA := by
  refine Met.ofW (cc := b_M_size) (maxL := 1) (ret := (some .int)) (by decide) rfl ?_
  intro p e s m args below meth c s₁ B hml hv
  obtain ⟨rfl, rfl, hK⟩ := hv
  have hx := B.exec
  have hb := B.bytes
  have hr := B.returns
  have hts0 := atoms_spec (ws := (wB y_M_size b_M_size 1 (some .int))) B.pre
  have hts : ∀ w9 ∈ BG, w9.before [.int x].toArray s = true := fun w9 hw9 => hts0 w9 (List.mem_cons_of_mem _ hw9)
  have hown : s.vm.findClass R_M = some m.cls := findClass_of_methodNamed B.named
  have hlocks := B.notSynchronized
  have hK : va_K (dC, dI) classes [(cI, .int), (cZ, .boolean), (cJ, .long)] s := hK
  have hl := lv_entry ([.int x]) (n := 1) (Nat.le_of_ble_eq_true rfl)
  rw [lg_entry_eq]
  generalize (lg_sl ([.int x]) ++ List.replicate (1 - (lg_sl ([.int x])).length) Slot.unset).toArray = ls at hl ⊢
  have hl : lv_has ls 1 [(0, .int x)] := hl
  refine lv_iload_n hx hb d_M_size_0 rfl (lv_at hl 0 rfl) ?_
  refine lv_if_ge (tgt := 9) hx hb d_M_size_1 (by decide) (fun c_1 => ?_) (fun c_1 => ?_)
  · refine lv_iload_n hx hb d_M_size_9 rfl (lv_at hl 0 rfl) ?_
    have er : (siI x) = x := by simp [siI, c_1]
    exact W.iret (v := x) hx hb hr (fun t ht hW => ⟨by rw [er], ht⟩) (fun q h => by cases h) d_M_size_10
  · refine lv_iload_n hx hb d_M_size_4 rfl (lv_at hl 0 rfl) ?_
    refine lv_ineg hx hb d_M_size_5 ?_
    refine lv_goto (tgt := 10) hx hb d_M_size_6 (by decide) ?_
    have er : (siI x) = (-x) := by simp [siI, c_1]
    exact W.iret (v := (-x)) hx hb hr (fun t ht hW => ⟨by rw [er], ht⟩) (fun q h => by cases h) d_M_size_10
set_option maxRecDepth 100000 in
set_option maxHeartbeats 4000000 in
theorem c_M_length (hP : va_P (dC, dI) classes (wM ab cI cZ mk mv) H) {w : Nat} (hw : w < 40) : Met l y_M_length (wB y_M_length b_M_length 2 (some .int)) ({ frames := 1, cells := 0, slots := 0, locals := 20 } : Room) (rP [.ref (ab 0), .int (nI w)] H (kK dC dI cI cZ cJ)) (QcRead (leM mv w)) 0 0 noA := by
  refine Met.ofW (cc := b_M_length) (maxL := 2) (ret := (some .int)) (by decide) rfl ?_
  intro p e s m args below meth c s₁ B hml hv
  obtain ⟨rfl, rfl, hK⟩ := hv
  have hx := B.exec
  have hb := B.bytes
  have hr := B.returns
  have hts0 := atoms_spec (ws := (wB y_M_length b_M_length 2 (some .int))) B.pre
  have hts : ∀ w9 ∈ BG, w9.before [.ref (ab 0), .int (nI w)].toArray s = true := fun w9 hw9 => hts0 w9 (List.mem_cons_of_mem _ hw9)
  have hown : s.vm.findClass R_M = some m.cls := findClass_of_methodNamed B.named
  have hlocks := B.notSynchronized
  have hK : va_K (dC, dI) classes [(cI, .int), (cZ, .boolean), (cJ, .long)] s := hK
  have hl := lv_entry ([.ref (ab 0), .int (nI w)]) (n := 2) (Nat.le_of_ble_eq_true rfl)
  rw [lg_entry_eq]
  generalize (lg_sl ([.ref (ab 0), .int (nI w)]) ++ List.replicate (2 - (lg_sl ([.ref (ab 0), .int (nI w)])).length) Slot.unset).toArray = ls at hl ⊢
  have hl : lv_has ls 2 [(0, .ref (ab 0)), (1, .int (nI w))] := hl
  refine lv_aload_n hx hb d_M_length_0 rfl (lv_at hl 0 rfl) ?_
  refine va_get (D := (dC, dI)) (ci := 6) (v := .ref (ab 8)) (C := R_M) (T := F_M) (N := 20) hx hb hts i_M hown hK hP 0 rfl rfl 13 (by decide) (hts _ fl_M_31) (fun _ h9 => h9) rfl d_M_length_1 ?_
  refine lv_iload_n hx hb d_M_length_4 rfl (lv_at hl 1 rfl) ?_
  refine va_iald hx hb hK hP 8 0 rfl rfl (vp_in_nI (by omega) (by omega)) d_M_length_5 ?_
  rw [nI_clamp (show w < 2 ^ 31 by omega)]
  refine lv_aload_n hx hb d_M_length_6 rfl (lv_at hl 0 rfl) ?_
  refine va_get (D := (dC, dI)) (ci := 6) (v := .ref (ab 6)) (C := R_M) (T := F_M) (N := 20) hx hb hts i_M hown hK hP 0 rfl rfl 11 (by decide) (hts _ fl_M_25) (fun _ h9 => h9) rfl d_M_length_7 ?_
  refine lv_iload_n hx hb d_M_length_10 rfl (lv_at hl 1 rfl) ?_
  refine va_iald hx hb hK hP 6 0 rfl rfl (vp_in_nI (by omega) (by omega)) d_M_length_11 ?_
  rw [nI_clamp (show w < 2 ^ 31 by omega)]
  refine lv_isub hx hb d_M_length_12 ?_
  refine cR (W.runS (As := [.int (((mv 6) w) - ((mv 4) w))]) (rest := []) ⟨hx, hb, hml, hown, hts⟩ (c_M_size (((mv 6) w) - ((mv 4) w))) (cwS 1 hts (wB_goodS (fun _ h => h) ml_M_129 st_M_size ini_M co_M_size) rfl rfl rfl (by decide +kernel) ⟨Nat.le_of_ble_eq_true rfl, Nat.le_of_ble_eq_true rfl⟩) (pS hK _) rfl rfl hl.1 rfl (lv_room (Nat.le_of_ble_eq_true rfl)) d_M_length_13 ⟨Nat.zero_le _, Nat.zero_le _⟩) ?_
  refine lv_aload_n hx hb d_M_length_16 rfl (lv_at hl 0 rfl) ?_
  refine va_get (D := (dC, dI)) (ci := 6) (v := .ref (ab 9)) (C := R_M) (T := F_M) (N := 20) hx hb hts i_M hown hK hP 0 rfl rfl 14 (by decide) (hts _ fl_M_34) (fun _ h9 => h9) rfl d_M_length_17 ?_
  refine lv_iload_n hx hb d_M_length_20 rfl (lv_at hl 1 rfl) ?_
  refine va_iald hx hb hK hP 9 0 rfl rfl (vp_in_nI (by omega) (by omega)) d_M_length_21 ?_
  rw [nI_clamp (show w < 2 ^ 31 by omega)]
  refine lv_aload_n hx hb d_M_length_22 rfl (lv_at hl 0 rfl) ?_
  refine va_get (D := (dC, dI)) (ci := 6) (v := .ref (ab 7)) (C := R_M) (T := F_M) (N := 20) hx hb hts i_M hown hK hP 0 rfl rfl 12 (by decide) (hts _ fl_M_28) (fun _ h9 => h9) rfl d_M_length_23 ?_
  refine lv_iload_n hx hb d_M_length_26 rfl (lv_at hl 1 rfl) ?_
  refine va_iald hx hb hK hP 7 0 rfl rfl (vp_in_nI (by omega) (by omega)) d_M_length_27 ?_
  rw [nI_clamp (show w < 2 ^ 31 by omega)]
  refine lv_isub hx hb d_M_length_28 ?_
  refine cR (W.runS (As := [.int (((mv 7) w) - ((mv 5) w))]) (rest := [.int (siI (((mv 6) w) - ((mv 4) w)))]) ⟨hx, hb, hml, hown, hts⟩ (c_M_size (((mv 7) w) - ((mv 5) w))) (cwS 1 hts (wB_goodS (fun _ h => h) ml_M_129 st_M_size ini_M co_M_size) rfl rfl rfl (by decide +kernel) ⟨Nat.le_of_ble_eq_true rfl, Nat.le_of_ble_eq_true rfl⟩) (pS hK _) rfl rfl hl.1 rfl (lv_room (Nat.le_of_ble_eq_true rfl)) d_M_length_29 ⟨Nat.zero_le _, Nat.zero_le _⟩) ?_
  refine lv_iadd hx hb d_M_length_32 ?_
  have er : (leM mv w) = ((siI (((mv 6) w) - ((mv 4) w))) + (siI (((mv 7) w) - ((mv 5) w)))) := by rfl
  exact W.iret (v := ((siI (((mv 6) w) - ((mv 4) w))) + (siI (((mv 7) w) - ((mv 5) w))))) hx hb hr (fun t ht hW => ⟨by rw [er], ht⟩) (fun q h => by cases h) d_M_length_33
set_option maxRecDepth 100000 in
set_option maxHeartbeats 4000000 in
theorem c_M_isAcross (hP : va_P (dC, dI) classes (wM ab cI cZ mk mv) H) {w : Nat} (hw : w < 40) : Met l y_M_isAcross (wB y_M_isAcross b_M_isAcross 2 (some .boolean)) ({ frames := 0, cells := 0, slots := 0, locals := 0 } : Room) (rP [.ref (ab 0), .int (nI w)] H (kK dC dI cI cZ cJ)) (QcRead (bI (alX mv w))) 0 0 noA := by
  refine Met.ofW (cc := b_M_isAcross) (maxL := 2) (ret := (some .boolean)) (by decide) rfl ?_
  intro p e s m args below meth c s₁ B hml hv
  obtain ⟨rfl, rfl, hK⟩ := hv
  have hx := B.exec
  have hb := B.bytes
  have hr := B.returns
  have hts0 := atoms_spec (ws := (wB y_M_isAcross b_M_isAcross 2 (some .boolean))) B.pre
  have hts : ∀ w9 ∈ BG, w9.before [.ref (ab 0), .int (nI w)].toArray s = true := fun w9 hw9 => hts0 w9 (List.mem_cons_of_mem _ hw9)
  have hown : s.vm.findClass R_M = some m.cls := findClass_of_methodNamed B.named
  have hlocks := B.notSynchronized
  have hK : va_K (dC, dI) classes [(cI, .int), (cZ, .boolean), (cJ, .long)] s := hK
  have hl := lv_entry ([.ref (ab 0), .int (nI w)]) (n := 2) (Nat.le_of_ble_eq_true rfl)
  rw [lg_entry_eq]
  generalize (lg_sl ([.ref (ab 0), .int (nI w)]) ++ List.replicate (2 - (lg_sl ([.ref (ab 0), .int (nI w)])).length) Slot.unset).toArray = ls at hl ⊢
  have hl : lv_has ls 2 [(0, .ref (ab 0)), (1, .int (nI w))] := hl
  refine lv_aload_n hx hb d_M_isAcross_0 rfl (lv_at hl 0 rfl) ?_
  refine va_get (D := (dC, dI)) (ci := 6) (v := .ref (ab 7)) (C := R_M) (T := F_M) (N := 20) hx hb hts i_M hown hK hP 0 rfl rfl 12 (by decide) (hts _ fl_M_28) (fun _ h9 => h9) rfl d_M_isAcross_1 ?_
  refine lv_iload_n hx hb d_M_isAcross_4 rfl (lv_at hl 1 rfl) ?_
  refine va_iald hx hb hK hP 7 0 rfl rfl (vp_in_nI (by omega) (by omega)) d_M_isAcross_5 ?_
  rw [nI_clamp (show w < 2 ^ 31 by omega)]
  refine lv_aload_n hx hb d_M_isAcross_6 rfl (lv_at hl 0 rfl) ?_
  refine va_get (D := (dC, dI)) (ci := 6) (v := .ref (ab 9)) (C := R_M) (T := F_M) (N := 20) hx hb hts i_M hown hK hP 0 rfl rfl 14 (by decide) (hts _ fl_M_34) (fun _ h9 => h9) rfl d_M_isAcross_7 ?_
  refine lv_iload_n hx hb d_M_isAcross_10 rfl (lv_at hl 1 rfl) ?_
  refine va_iald hx hb hK hP 9 0 rfl rfl (vp_in_nI (by omega) (by omega)) d_M_isAcross_11 ?_
  rw [nI_clamp (show w < 2 ^ 31 by omega)]
  refine lv_icmp_ne (tgt := 19) hx hb d_M_isAcross_12 (by decide) (fun c_12 => ?_) (fun c_12 => ?_)
  · refine lv_iconst (v := 0) hx hb d_M_isAcross_19 (by decide) ?_
    have er : (bI (alX mv w)) = 0 := by simp [bI, alX, c_12]
    exact W.zret (v := 0) hx hb hr rfl (fun t ht hW => ⟨by rw [er], ht⟩) (fun q h => by cases h) d_M_isAcross_20
  · refine lv_iconst (v := 1) hx hb d_M_isAcross_15 (by decide) ?_
    refine lv_goto (tgt := 20) hx hb d_M_isAcross_16 (by decide) ?_
    have er : (bI (alX mv w)) = 1 := by simp [bI, alX, c_12]
    exact W.zret (v := 1) hx hb hr rfl (fun t ht hW => ⟨by rw [er], ht⟩) (fun q h => by cases h) d_M_isAcross_20
set_option maxRecDepth 100000 in
set_option maxHeartbeats 4000000 in
theorem c_M_height (hP : va_P (dC, dI) classes (wM ab cI cZ mk mv) H) (hM : okM mk mn) {k : Nat} (hk : k < 6) : Met l y_M_height (wB y_M_height b_M_height 2 (some .int)) ({ frames := 0, cells := 0, slots := 0, locals := 0 } : Room) (rP [.ref (ab 0), .int (nI k)] H (kK dC dI cI cZ cJ)) (QcRead (heC mk mv k)) 0 0 noA := by
  refine Met.ofW (cc := b_M_height) (maxL := 2) (ret := (some .int)) (by decide) rfl ?_
  intro p e s m args below meth c s₁ B hml hv
  obtain ⟨rfl, rfl, hK⟩ := hv
  have hx := B.exec
  have hb := B.bytes
  have hr := B.returns
  have hts0 := atoms_spec (ws := (wB y_M_height b_M_height 2 (some .int))) B.pre
  have hts : ∀ w9 ∈ BG, w9.before [.ref (ab 0), .int (nI k)].toArray s = true := fun w9 hw9 => hts0 w9 (List.mem_cons_of_mem _ hw9)
  have hown : s.vm.findClass R_M = some m.cls := findClass_of_methodNamed B.named
  have hlocks := B.notSynchronized
  have hK : va_K (dC, dI) classes [(cI, .int), (cZ, .boolean), (cJ, .long)] s := hK
  have hl := lv_entry ([.ref (ab 0), .int (nI k)]) (n := 2) (Nat.le_of_ble_eq_true rfl)
  rw [lg_entry_eq]
  generalize (lg_sl ([.ref (ab 0), .int (nI k)]) ++ List.replicate (2 - (lg_sl ([.ref (ab 0), .int (nI k)])).length) Slot.unset).toArray = ls at hl ⊢
  have hl : lv_has ls 2 [(0, .ref (ab 0)), (1, .int (nI k))] := hl
  obtain ⟨eK, b0, b1, b2, b3, b4, b5⟩ := id hM
  refine lv_iload_n hx hb d_M_height_0 rfl (lv_at hl 1 rfl) ?_
  refine lv_iconst (v := 1) hx hb d_M_height_1 (by decide) ?_
  refine lv_iadd hx hb d_M_height_2 ?_
  rw [nI_1]
  refine lv_aload_n hx hb d_M_height_3 rfl (lv_at hl 0 rfl) ?_
  refine va_get (D := (dC, dI)) (ci := 6) (v := .int (mk 0)) (C := R_M) (T := F_M) (N := 20) hx hb hts i_M hown hK hP 0 rfl rfl 4 (by decide) (hts _ fl_M_54) (fun _ h9 => h9) rfl d_M_height_4 ?_
  refine lv_icmp_ge (tgt := 28) hx hb d_M_height_7 (by decide) (fun c_7 => ?_) (fun c_7 => ?_)
  · refine lv_sipush (v := 300) hx hb d_M_height_28 (by decide) ?_
    have er : (heC mk mv k) = 300 := by simp [heC, c_7]
    exact W.iret (v := 300) hx hb hr (fun t ht hW => ⟨by rw [er], ht⟩) (fun q h => by cases h) d_M_height_31
  · have hk2 : k + 1 < mn 0 := ltC (eK 0 (by decide)) c_7 (by omega) (by omega)
    refine lv_aload_n hx hb d_M_height_10 rfl (lv_at hl 0 rfl) ?_
    refine va_get (D := (dC, dI)) (ci := 6) (v := .ref (ab 2)) (C := R_M) (T := F_M) (N := 20) hx hb hts i_M hown hK hP 0 rfl rfl 5 (by decide) (hts _ fl_M_13) (fun _ h9 => h9) rfl d_M_height_11 ?_
    refine lv_iload_n hx hb d_M_height_14 rfl (lv_at hl 1 rfl) ?_
    refine lv_iconst (v := 1) hx hb d_M_height_15 (by decide) ?_
    refine lv_iadd hx hb d_M_height_16 ?_
    rw [nI_1]
    refine va_iald hx hb hK hP 2 0 rfl rfl (vp_in_nI (by omega) (by omega)) d_M_height_17 ?_
    rw [nI_clamp (show (k + 1) < 2 ^ 31 by omega)]
    refine lv_aload_n hx hb d_M_height_18 rfl (lv_at hl 0 rfl) ?_
    refine va_get (D := (dC, dI)) (ci := 6) (v := .ref (ab 2)) (C := R_M) (T := F_M) (N := 20) hx hb hts i_M hown hK hP 0 rfl rfl 5 (by decide) (hts _ fl_M_13) (fun _ h9 => h9) rfl d_M_height_19 ?_
    refine lv_iload_n hx hb d_M_height_22 rfl (lv_at hl 1 rfl) ?_
    refine va_iald hx hb hK hP 2 0 rfl rfl (vp_in_nI (by omega) (by omega)) d_M_height_23 ?_
    rw [nI_clamp (show k < 2 ^ 31 by omega)]
    refine lv_isub hx hb d_M_height_24 ?_
    refine lv_goto (tgt := 31) hx hb d_M_height_25 (by decide) ?_
    have er : (heC mk mv k) = (((mv 0) (k + 1)) - ((mv 0) k)) := by simp [heC, c_7]
    exact W.iret (v := (((mv 0) (k + 1)) - ((mv 0) k))) hx hb hr (fun t ht hW => ⟨by rw [er], ht⟩) (fun q h => by cases h) d_M_height_31
set_option maxRecDepth 100000 in
set_option maxHeartbeats 4000000 in
theorem c_M_cuts (hP : va_P (dC, dI) classes (wM ab cI cZ mk mv) H) (hM : okM mk mn) (x : Int32) : Met l y_M_cuts (wB y_M_cuts b_M_cuts 4 (some .int)) ({ frames := 0, cells := 0, slots := 0, locals := 0 } : Room) (rP [.ref (ab 0), .int x] H (kK dC dI cI cZ cJ)) (QcRead (nI (cnt (fun i => decide (mv 9 i = x)) (mn 3)))) 0 0 noA := by
  refine Met.ofW (cc := b_M_cuts) (maxL := 4) (ret := (some .int)) (by decide) rfl ?_
  intro p e s m args below meth c s₁ B hml hv
  obtain ⟨rfl, rfl, hK⟩ := hv
  have hx := B.exec
  have hb := B.bytes
  have hr := B.returns
  have hts0 := atoms_spec (ws := (wB y_M_cuts b_M_cuts 4 (some .int))) B.pre
  have hts : ∀ w9 ∈ BG, w9.before [.ref (ab 0), .int x].toArray s = true := fun w9 hw9 => hts0 w9 (List.mem_cons_of_mem _ hw9)
  have hown : s.vm.findClass R_M = some m.cls := findClass_of_methodNamed B.named
  have hlocks := B.notSynchronized
  have hK : va_K (dC, dI) classes [(cI, .int), (cZ, .boolean), (cJ, .long)] s := hK
  have hl := lv_entry ([.ref (ab 0), .int x]) (n := 4) (Nat.le_of_ble_eq_true rfl)
  rw [lg_entry_eq]
  generalize (lg_sl ([.ref (ab 0), .int x]) ++ List.replicate (4 - (lg_sl ([.ref (ab 0), .int x])).length) Slot.unset).toArray = ls at hl ⊢
  have hl : lv_has ls 4 [(0, .ref (ab 0)), (1, .int x)] := hl
  obtain ⟨eK, b0, b1, b2, b3, b4, b5⟩ := id hM
  refine lv_iconst (v := 0) hx hb d_M_cuts_0 (by decide) ?_
  refine lv_istore_n (lv' := [(2, .int 0), (0, .ref (ab 0)), (1, .int x)]) hx hb d_M_cuts_1 rfl hl (by decide) rfl (fun ls hl => ?_)
  refine lv_iconst (v := 0) hx hb d_M_cuts_2 (by decide) ?_
  refine lv_istore_n (lv' := [(3, .int 0), (2, .int 0), (0, .ref (ab 0)), (1, .int x)]) hx hb d_M_cuts_3 rfl hl (by decide) rfl (fun ls hl => ?_)
  have loop_4 : ∀ (k9 i : Nat), mn 3 + 1 ≤ i + k9 → i ≤ mn 3 → ∀ (ls : Array Slot), lv_has ls 4 [(0, .ref (ab 0)), (1, .int x), (2, .int (nI (cnt (fun i => decide (mv 9 i = x)) i))), (3, .int (nI i))] → W p l e (headSpec (wB y_M_cuts b_M_cuts 4 (some .int)) ({ frames := 0, cells := 0, slots := 0, locals := 0 } : Room)).room s m [.ref (ab 0), .int x].toArray below meth c s.heap [] 0 0 (MQ below (QcRead (nI (cnt (fun i => decide (mv 9 i = x)) (mn 3)))) [.ref (ab 0), .int x].toArray s 0 0 noA) (F0 m 4 ls []) := by
    intro k9
    induction k9 with
    | zero => intro i hk hi ls hl; exact absurd hk (by omega)
    | succ k9 ih =>
      intro i hk hi ls hl
      refine lv_iload_n hx hb d_M_cuts_4 rfl (lv_at hl 3 rfl) ?_
      refine lv_aload_n hx hb d_M_cuts_5 rfl (lv_at hl 0 rfl) ?_
      refine va_get (D := (dC, dI)) (ci := 6) (v := .int (mk 3)) (C := R_M) (T := F_M) (N := 20) hx hb hts i_M hown hK hP 0 rfl rfl 16 (by decide) (hts _ fl_M_81) (fun _ h9 => h9) rfl d_M_cuts_6 ?_
      refine lv_icmp_ge (tgt := 36) hx hb d_M_cuts_9 (by decide) (fun c_9 => ?_) (fun c_9 => ?_)
      · have hi2 : mn 3 ≤ i := geC (eK 3 (by decide)) c_9 (by omega) (by omega)
        refine lv_iload_n hx hb d_M_cuts_36 rfl (lv_at hl 2 rfl) ?_
        have er : (nI (cnt (fun i => decide (mv 9 i = x)) (mn 3))) = (nI (cnt (fun i => decide (mv 9 i = x)) i)) := by rw [show i = mn 3 by omega]
        exact W.iret (v := (nI (cnt (fun i => decide (mv 9 i = x)) i))) hx hb hr (fun t ht hW => ⟨by rw [er], ht⟩) (fun q h => by cases h) d_M_cuts_37
      · have hi2 : i < mn 3 := ltC (eK 3 (by decide)) c_9 (by omega) (by omega)
        refine lv_aload_n hx hb d_M_cuts_12 rfl (lv_at hl 0 rfl) ?_
        refine va_get (D := (dC, dI)) (ci := 6) (v := .ref (ab 11)) (C := R_M) (T := F_M) (N := 20) hx hb hts i_M hown hK hP 0 rfl rfl 17 (by decide) (hts _ fl_M_41) (fun _ h9 => h9) rfl d_M_cuts_13 ?_
        refine lv_iload_n hx hb d_M_cuts_16 rfl (lv_at hl 3 rfl) ?_
        refine va_iald hx hb hK hP 11 0 rfl rfl (vp_in_nI (by omega) (by omega)) d_M_cuts_17 ?_
        rw [nI_clamp (show i < 2 ^ 31 by omega)]
        refine lv_iload_n hx hb d_M_cuts_18 rfl (lv_at hl 1 rfl) ?_
        refine lv_icmp_ne (tgt := 28) hx hb d_M_cuts_19 (by decide) (fun c_19 => ?_) (fun c_19 => ?_)
        · refine lv_iload_n hx hb d_M_cuts_28 rfl (lv_at hl 2 rfl) ?_
          refine lv_istore_n (lv' := [(2, .int (nI (cnt (fun i => decide (mv 9 i = x)) i))), (0, .ref (ab 0)), (1, .int x), (3, .int (nI i))]) hx hb d_M_cuts_29 rfl hl (by decide) rfl (fun ls hl => ?_)
          refine lv_iinc (v := (nI (i + 1))) (lv' := [(3, .int (nI (i + 1))), (2, .int (nI (cnt (fun i => decide (mv 9 i = x)) i))), (0, .ref (ab 0)), (1, .int x)]) hx hb d_M_cuts_30 hl (k := 3) rfl (nI_1 _) (by decide) rfl (fun ls hl => ?_)
          refine lv_goto (tgt := 4) hx hb d_M_cuts_33 (by decide) ?_
          rw [cnt_f (p := (fun i => decide (mv 9 i = x))) (by simpa using c_19)] at hl
          exact ih (i + 1) (by omega) (by omega) ls (lv_sub hl [2, 3, 1, 0] rfl)
        · refine lv_iload_n hx hb d_M_cuts_22 rfl (lv_at hl 2 rfl) ?_
          refine lv_iconst (v := 1) hx hb d_M_cuts_23 (by decide) ?_
          refine lv_iadd hx hb d_M_cuts_24 ?_
          refine lv_goto (tgt := 29) hx hb d_M_cuts_25 (by decide) ?_
          refine lv_istore_n (lv' := [(2, .int ((nI (cnt (fun i => decide (mv 9 i = x)) i)) + 1)), (0, .ref (ab 0)), (1, .int x), (3, .int (nI i))]) hx hb d_M_cuts_29 rfl hl (by decide) rfl (fun ls hl => ?_)
          refine lv_iinc (v := (nI (i + 1))) (lv' := [(3, .int (nI (i + 1))), (2, .int ((nI (cnt (fun i => decide (mv 9 i = x)) i)) + 1)), (0, .ref (ab 0)), (1, .int x)]) hx hb d_M_cuts_30 hl (k := 3) rfl (nI_1 _) (by decide) rfl (fun ls hl => ?_)
          refine lv_goto (tgt := 4) hx hb d_M_cuts_33 (by decide) ?_
          rw [nI_1, cnt_t (p := (fun i => decide (mv 9 i = x))) (by simpa using c_19)] at hl
          exact ih (i + 1) (by omega) (by omega) ls (lv_sub hl [2, 3, 1, 0] rfl)
  exact loop_4 (mn 3 + 1) 0 (by omega) (by omega) ls (lv_sub hl [2, 3, 1, 0] rfl)
set_option maxRecDepth 100000 in
set_option maxHeartbeats 4000000 in
theorem c_M_joined (hP : va_P (dC, dI) classes (wM ab cI cZ mk mv) H) (hM : okM mk mn) (hV : okV mn mv) {w : Nat} (hw : w < mn 2) (x y : Int32) : Met l y_M_joined (wB y_M_joined b_M_joined 7 (some .int)) ({ frames := 1, cells := 0, slots := 0, locals := 21 } : Room) (rP [.ref (ab 0), .int (nI w), .int x, .int y] H (kK dC dI cI cZ cJ)) (QcRead (joM mv mn w x y)) 0 0 noA := by
  refine Met.ofW (cc := b_M_joined) (maxL := 7) (ret := (some .int)) (by decide) rfl ?_
  intro p e s m args below meth c s₁ B hml hv
  obtain ⟨rfl, rfl, hK⟩ := hv
  have hx := B.exec
  have hb := B.bytes
  have hr := B.returns
  have hts0 := atoms_spec (ws := (wB y_M_joined b_M_joined 7 (some .int))) B.pre
  have hts : ∀ w9 ∈ BG, w9.before [.ref (ab 0), .int (nI w), .int x, .int y].toArray s = true := fun w9 hw9 => hts0 w9 (List.mem_cons_of_mem _ hw9)
  have hown : s.vm.findClass R_M = some m.cls := findClass_of_methodNamed B.named
  have hlocks := B.notSynchronized
  have hK : va_K (dC, dI) classes [(cI, .int), (cZ, .boolean), (cJ, .long)] s := hK
  have hl := lv_entry ([.ref (ab 0), .int (nI w), .int x, .int y]) (n := 7) (Nat.le_of_ble_eq_true rfl)
  rw [lg_entry_eq]
  generalize (lg_sl ([.ref (ab 0), .int (nI w), .int x, .int y]) ++ List.replicate (7 - (lg_sl ([.ref (ab 0), .int (nI w), .int x, .int y])).length) Slot.unset).toArray = ls at hl ⊢
  have hl : lv_has ls 7 [(0, .ref (ab 0)), (1, .int (nI w)), (2, .int x), (3, .int y)] := hl
  obtain ⟨eK, b0, b1, b2, b3, b4, b5⟩ := id hM
  refine lv_iconst (v := 0) hx hb d_M_joined_0 (by decide) ?_
  refine lv_istore (lv' := [(4, .int 0), (0, .ref (ab 0)), (1, .int (nI w)), (2, .int x), (3, .int y)]) hx hb d_M_joined_1 hl (by decide) rfl (fun ls hl => ?_)
  have loop_3 : ∀ (k9 i : Nat), mn 2 + 1 ≤ i + k9 → i ≤ mn 2 → fstN (jnB mv w x y) i = none → ∀ (ls : Array Slot), lv_has ls 7 [(0, .ref (ab 0)), (1, .int (nI w)), (2, .int x), (3, .int y), (4, .int (nI i))] → W p l e (headSpec (wB y_M_joined b_M_joined 7 (some .int)) ({ frames := 1, cells := 0, slots := 0, locals := 21 } : Room)).room s m [.ref (ab 0), .int (nI w), .int x, .int y].toArray below meth c s.heap [] 0 0 (MQ below (QcRead (joM mv mn w x y)) [.ref (ab 0), .int (nI w), .int x, .int y].toArray s 0 0 noA) (F0 m 3 ls []) := by
    intro k9
    induction k9 with
    | zero => intro i hk hi hf ls hl; exact absurd hk (by omega)
    | succ k9 ih =>
      intro i hk hi hf ls hl
      refine lv_iload hx hb d_M_joined_3 (lv_at hl 4 rfl) ?_
      refine lv_aload_n hx hb d_M_joined_5 rfl (lv_at hl 0 rfl) ?_
      refine va_get (D := (dC, dI)) (ci := 6) (v := .int (mk 2)) (C := R_M) (T := F_M) (N := 20) hx hb hts i_M hown hK hP 0 rfl rfl 8 (by decide) (hts _ fl_M_60) (fun _ h9 => h9) rfl d_M_joined_6 ?_
      refine lv_icmp_ge (tgt := 145) hx hb d_M_joined_9 (by decide) (fun c_9 => ?_) (fun c_9 => ?_)
      · have hi2 : mn 2 ≤ i := geC (eK 2 (by decide)) c_9 (by omega) (by omega)
        refine lv_iconst (v := 0) hx hb d_M_joined_145 (by decide) ?_
        have er : (joM mv mn w x y) = 0 := by rw [joM, show mn 2 = i by omega, hf, gaC_none]
        exact W.iret (v := 0) hx hb hr (fun t ht hW => ⟨by rw [er], ht⟩) (fun q h => by cases h) d_M_joined_146
      · have hi2 : i < mn 2 := ltC (eK 2 (by decide)) c_9 (by omega) (by omega)
        have mg_61 : ∀ (ls : Array Slot), lv_has ls 7 [(0, .ref (ab 0)), (1, .int (nI w)), (2, .int x), (3, .int y), (4, .int (nI i))] → W p l e (headSpec (wB y_M_joined b_M_joined 7 (some .int)) ({ frames := 1, cells := 0, slots := 0, locals := 21 } : Room)).room s m [.ref (ab 0), .int (nI w), .int x, .int y].toArray below meth c s.heap [] 0 0 (MQ below (QcRead (joM mv mn w x y)) [.ref (ab 0), .int (nI w), .int x, .int y].toArray s 0 0 noA) (F0 m 61 ls [.int (bI (enB mv i x y))]) := by
          intro ls hl
          refine lv_istore (lv' := [(5, .int (bI (enB mv i x y))), (0, .ref (ab 0)), (1, .int (nI w)), (2, .int x), (3, .int y), (4, .int (nI i))]) hx hb d_M_joined_61 hl (by decide) rfl (fun ls hl => ?_)
          refine lv_aload_n hx hb d_M_joined_63 rfl (lv_at hl 1 rfl) ?_
          refine va_get (D := (dC, dI)) (ci := 6) (v := .ref (ab 10)) (C := R_M) (T := F_M) (N := 20) hx hb hts i_M hown hK hP 0 rfl rfl 15 (by decide) (hts _ fl_M_37) (fun _ h9 => h9) rfl d_M_joined_64 ?_
          refine lv_iload hx hb d_M_joined_67 (lv_at hl 5 rfl) ?_
          refine va_zald hx hb hK hP 10 1 rfl rfl (vp_in_nI (by omega) (by omega)) d_M_joined_69 ?_
          rw [nI_clamp (show i < 2 ^ 31 by omega)]
          refine lv_if_eq (tgt := 139) hx hb d_M_joined_70 (by decide) (fun c_70 => ?_) (fun c_70 => ?_)
          · refine lv_iinc (v := (nI (i + 1))) (lv' := [(4, .int (nI (i + 1))), (5, .int (bI (enB mv i x y))), (0, .ref (ab 0)), (1, .int (nI w)), (2, .int x), (3, .int y)]) hx hb d_M_joined_139 hl (k := 5) rfl (nI_1 _) (by decide) rfl (fun ls hl => ?_)
            refine lv_goto (tgt := 3) hx hb d_M_joined_142 (by decide) ?_
            have hn : fstN (jnB mv w x y) (i + 1) = none := fstN_none hf (by first | (simp [jnB, c_70]; done) | (simp [jnB, c_86]; done) | (simp [jnB, bI_inj.mp c_100]; done) | (simp [jnB, bI_0.mp c_105]; done))
            exact ih (i + 1) (by omega) (by omega) hn ls (lv_sub hl [2, 3, 4, 5, 0] rfl)
          · refine lv_aload_n hx hb d_M_joined_73 rfl (lv_at hl 1 rfl) ?_
            refine va_get (D := (dC, dI)) (ci := 6) (v := .ref (ab 4)) (C := R_M) (T := F_M) (N := 20) hx hb hts i_M hown hK hP 0 rfl rfl 9 (by decide) (hts _ fl_M_19) (fun _ h9 => h9) rfl d_M_joined_74 ?_
            refine lv_iload hx hb d_M_joined_77 (lv_at hl 5 rfl) ?_
            refine va_iald hx hb hK hP 4 0 rfl rfl (vp_in_nI (by omega) (by omega)) d_M_joined_79 ?_
            rw [nI_clamp (show i < 2 ^ 31 by omega)]
            refine lv_aload_n hx hb d_M_joined_80 rfl (lv_at hl 1 rfl) ?_
            refine va_get (D := (dC, dI)) (ci := 6) (v := .ref (ab 4)) (C := R_M) (T := F_M) (N := 20) hx hb hts i_M hown hK hP 0 rfl rfl 9 (by decide) (hts _ fl_M_19) (fun _ h9 => h9) rfl d_M_joined_81 ?_
            refine lv_iload_n hx hb d_M_joined_84 rfl (lv_at hl 2 rfl) ?_
            refine va_iald hx hb hK hP 4 0 rfl rfl (vp_in_nI (by omega) (by omega)) d_M_joined_85 ?_
            rw [nI_clamp (show w < 2 ^ 31 by omega)]
            refine lv_icmp_ne (tgt := 139) hx hb d_M_joined_86 (by decide) (fun c_86 => ?_) (fun c_86 => ?_)
            · refine lv_iinc (v := (nI (i + 1))) (lv' := [(4, .int (nI (i + 1))), (5, .int (bI (enB mv i x y))), (0, .ref (ab 0)), (1, .int (nI w)), (2, .int x), (3, .int y)]) hx hb d_M_joined_139 hl (k := 5) rfl (nI_1 _) (by decide) rfl (fun ls hl => ?_)
              refine lv_goto (tgt := 3) hx hb d_M_joined_142 (by decide) ?_
              have hn : fstN (jnB mv w x y) (i + 1) = none := fstN_none hf (by first | (simp [jnB, c_70]; done) | (simp [jnB, c_86]; done) | (simp [jnB, bI_inj.mp c_100]; done) | (simp [jnB, bI_0.mp c_105]; done))
              exact ih (i + 1) (by omega) (by omega) hn ls (lv_sub hl [2, 3, 4, 5, 0] rfl)
            · refine lv_aload_n hx hb d_M_joined_89 rfl (lv_at hl 1 rfl) ?_
              refine lv_iload hx hb d_M_joined_90 (lv_at hl 5 rfl) ?_
              refine cR (W.runV (As := [.int (nI i)]) (rest := []) ⟨hx, hb, hml, hown, hts⟩ (c_M_isAcross hP (show i < 40 by omega)) (cwV 1 hts (wB_goodV (fun _ h => h) ml_M_132 im_M_isAcross se_M_isAcross ini_M co_M_isAcross) rfl rfl rfl (by decide +kernel) ⟨Nat.le_of_ble_eq_true rfl, Nat.le_of_ble_eq_true rfl⟩) (pV hK hP (ci := 6) (q0 := 0) rfl rfl _) rfl rfl hl.1 rfl (lv_room (Nat.le_of_ble_eq_true rfl)) d_M_joined_92 ⟨Nat.zero_le _, Nat.zero_le _⟩) ?_
              refine lv_aload_n hx hb d_M_joined_95 rfl (lv_at hl 1 rfl) ?_
              refine lv_iload_n hx hb d_M_joined_96 rfl (lv_at hl 2 rfl) ?_
              refine cR (W.runV (As := [.int (nI w)]) (rest := [.int (bI (alX mv i))]) ⟨hx, hb, hml, hown, hts⟩ (c_M_isAcross hP (show w < 40 by omega)) (cwV 1 hts (wB_goodV (fun _ h => h) ml_M_132 im_M_isAcross se_M_isAcross ini_M co_M_isAcross) rfl rfl rfl (by decide +kernel) ⟨Nat.le_of_ble_eq_true rfl, Nat.le_of_ble_eq_true rfl⟩) (pV hK hP (ci := 6) (q0 := 0) rfl rfl _) rfl rfl hl.1 rfl (lv_room (Nat.le_of_ble_eq_true rfl)) d_M_joined_97 ⟨Nat.zero_le _, Nat.zero_le _⟩) ?_
              refine lv_icmp_eq (tgt := 139) hx hb d_M_joined_100 (by decide) (fun c_100 => ?_) (fun c_100 => ?_)
              · refine lv_iinc (v := (nI (i + 1))) (lv' := [(4, .int (nI (i + 1))), (5, .int (bI (enB mv i x y))), (0, .ref (ab 0)), (1, .int (nI w)), (2, .int x), (3, .int y)]) hx hb d_M_joined_139 hl (k := 5) rfl (nI_1 _) (by decide) rfl (fun ls hl => ?_)
                refine lv_goto (tgt := 3) hx hb d_M_joined_142 (by decide) ?_
                have hn : fstN (jnB mv w x y) (i + 1) = none := fstN_none hf (by first | (simp [jnB, c_70]; done) | (simp [jnB, c_86]; done) | (simp [jnB, bI_inj.mp c_100]; done) | (simp [jnB, bI_0.mp c_105]; done))
                exact ih (i + 1) (by omega) (by omega) hn ls (lv_sub hl [2, 3, 4, 5, 0] rfl)
              · refine lv_iload hx hb d_M_joined_103 (lv_at hl 0 rfl) ?_
                refine lv_if_eq (tgt := 139) hx hb d_M_joined_105 (by decide) (fun c_105 => ?_) (fun c_105 => ?_)
                · refine lv_iinc (v := (nI (i + 1))) (lv' := [(4, .int (nI (i + 1))), (5, .int (bI (enB mv i x y))), (0, .ref (ab 0)), (1, .int (nI w)), (2, .int x), (3, .int y)]) hx hb d_M_joined_139 hl (k := 5) rfl (nI_1 _) (by decide) rfl (fun ls hl => ?_)
                  refine lv_goto (tgt := 3) hx hb d_M_joined_142 (by decide) ?_
                  have hn : fstN (jnB mv w x y) (i + 1) = none := fstN_none hf (by first | (simp [jnB, c_70]; done) | (simp [jnB, c_86]; done) | (simp [jnB, bI_inj.mp c_100]; done) | (simp [jnB, bI_0.mp c_105]; done))
                  exact ih (i + 1) (by omega) (by omega) hn ls (lv_sub hl [2, 3, 4, 5, 0] rfl)
                · refine lv_aload_n hx hb d_M_joined_108 rfl (lv_at hl 1 rfl) ?_
                  refine va_get (D := (dC, dI)) (ci := 6) (v := .ref (ab 3)) (C := R_M) (T := F_M) (N := 20) hx hb hts i_M hown hK hP 0 rfl rfl 7 (by decide) (hts _ fl_M_16) (fun _ h9 => h9) rfl d_M_joined_109 ?_
                  refine lv_aload_n hx hb d_M_joined_112 rfl (lv_at hl 1 rfl) ?_
                  refine va_get (D := (dC, dI)) (ci := 6) (v := .ref (ab 5)) (C := R_M) (T := F_M) (N := 20) hx hb hts i_M hown hK hP 0 rfl rfl 10 (by decide) (hts _ fl_M_22) (fun _ h9 => h9) rfl d_M_joined_113 ?_
                  refine lv_iload hx hb d_M_joined_116 (lv_at hl 5 rfl) ?_
                  refine va_iald hx hb hK hP 5 0 rfl rfl (vp_in_nI (by omega) (by omega)) d_M_joined_118 ?_
                  rw [nI_clamp (show i < 2 ^ 31 by omega)]
                  refine va_iald hx hb hK hP 3 0 rfl rfl (ixT hV b1 hi2) d_M_joined_119 ?_
                  refine lv_iconst (v := 2) hx hb d_M_joined_120 (by decide) ?_
                  refine lv_idiv hx hb d_M_joined_121 (by decide) ?_
                  refine lv_istore (lv' := [(6, .int (((mv 1) ((mv 3) i).toNatClampNeg) / 2)), (5, .int (bI (enB mv i x y))), (0, .ref (ab 0)), (1, .int (nI w)), (2, .int x), (3, .int y), (4, .int (nI i))]) hx hb d_M_joined_122 hl (by decide) rfl (fun ls hl => ?_)
                  refine lv_iload hx hb d_M_joined_124 (lv_at hl 6 rfl) ?_
                  refine lv_iload_n hx hb d_M_joined_126 rfl (lv_at hl 3 rfl) ?_
                  refine lv_icmp_ge (tgt := 136) hx hb d_M_joined_127 (by decide) (fun c_127 => ?_) (fun c_127 => ?_)
                  · refine lv_iload hx hb d_M_joined_136 (lv_at hl 0 rfl) ?_
                    have er : (joM mv mn w x y) = (((mv 1) ((mv 3) i).toNatClampNeg) / 2) := by rw [joM, fstN_some hf (by simp [jnB, c_70, c_86, bI_n0.mp c_105]; exact fun h => c_100 (by rw [h])) _ hi2, gaC_some _ _ (show i < 2 ^ 31 by omega)]; first | (rw [if_pos c_127]; rfl) | (rw [if_neg c_127]; rfl)
                    exact W.iret (v := (((mv 1) ((mv 3) i).toNatClampNeg) / 2)) hx hb hr (fun t ht hW => ⟨by rw [er], ht⟩) (fun q h => by cases h) d_M_joined_138
                  · refine lv_iload hx hb d_M_joined_130 (lv_at hl 0 rfl) ?_
                    refine lv_ineg hx hb d_M_joined_132 ?_
                    refine lv_goto (tgt := 138) hx hb d_M_joined_133 (by decide) ?_
                    have er : (joM mv mn w x y) = (-(((mv 1) ((mv 3) i).toNatClampNeg) / 2)) := by rw [joM, fstN_some hf (by simp [jnB, c_70, c_86, bI_n0.mp c_105]; exact fun h => c_100 (by rw [h])) _ hi2, gaC_some _ _ (show i < 2 ^ 31 by omega)]; first | (rw [if_pos c_127]; rfl) | (rw [if_neg c_127]; rfl)
                    exact W.iret (v := (-(((mv 1) ((mv 3) i).toNatClampNeg) / 2))) hx hb hr (fun t ht hW => ⟨by rw [er], ht⟩) (fun q h => by cases h) d_M_joined_138
        refine lv_aload_n hx hb d_M_joined_12 rfl (lv_at hl 0 rfl) ?_
        refine va_get (D := (dC, dI)) (ci := 6) (v := .ref (ab 6)) (C := R_M) (T := F_M) (N := 20) hx hb hts i_M hown hK hP 0 rfl rfl 11 (by decide) (hts _ fl_M_25) (fun _ h9 => h9) rfl d_M_joined_13 ?_
        refine lv_iload hx hb d_M_joined_16 (lv_at hl 4 rfl) ?_
        refine va_iald hx hb hK hP 6 0 rfl rfl (vp_in_nI (by omega) (by omega)) d_M_joined_18 ?_
        rw [nI_clamp (show i < 2 ^ 31 by omega)]
        refine lv_iload_n hx hb d_M_joined_19 rfl (lv_at hl 2 rfl) ?_
        refine lv_icmp_ne (tgt := 34) hx hb d_M_joined_20 (by decide) (fun c_20 => ?_) (fun c_20 => ?_)
        · refine lv_aload_n hx hb d_M_joined_34 rfl (lv_at hl 0 rfl) ?_
          refine va_get (D := (dC, dI)) (ci := 6) (v := .ref (ab 8)) (C := R_M) (T := F_M) (N := 20) hx hb hts i_M hown hK hP 0 rfl rfl 13 (by decide) (hts _ fl_M_31) (fun _ h9 => h9) rfl d_M_joined_35 ?_
          refine lv_iload hx hb d_M_joined_38 (lv_at hl 4 rfl) ?_
          refine va_iald hx hb hK hP 8 0 rfl rfl (vp_in_nI (by omega) (by omega)) d_M_joined_40 ?_
          rw [nI_clamp (show i < 2 ^ 31 by omega)]
          refine lv_iload_n hx hb d_M_joined_41 rfl (lv_at hl 2 rfl) ?_
          refine lv_icmp_ne (tgt := 60) hx hb d_M_joined_42 (by decide) (fun c_42 => ?_) (fun c_42 => ?_)
          · refine lv_iconst (v := 0) hx hb d_M_joined_60 (by decide) ?_
            have em : bI (enB mv i x y) = 0 := by simp [bI, enB, c_20, c_42]
            exact W.eq (g2 := F0 m 61 ls [.int (bI (enB mv i x y))]) (by rw [em]) (mg_61 ls (lv_sub hl [0, 1, 2, 3, 4] rfl))
          · refine lv_aload_n hx hb d_M_joined_45 rfl (lv_at hl 0 rfl) ?_
            refine va_get (D := (dC, dI)) (ci := 6) (v := .ref (ab 9)) (C := R_M) (T := F_M) (N := 20) hx hb hts i_M hown hK hP 0 rfl rfl 14 (by decide) (hts _ fl_M_34) (fun _ h9 => h9) rfl d_M_joined_46 ?_
            refine lv_iload hx hb d_M_joined_49 (lv_at hl 4 rfl) ?_
            refine va_iald hx hb hK hP 9 0 rfl rfl (vp_in_nI (by omega) (by omega)) d_M_joined_51 ?_
            rw [nI_clamp (show i < 2 ^ 31 by omega)]
            refine lv_iload_n hx hb d_M_joined_52 rfl (lv_at hl 3 rfl) ?_
            refine lv_icmp_ne (tgt := 60) hx hb d_M_joined_53 (by decide) (fun c_53 => ?_) (fun c_53 => ?_)
            · refine lv_iconst (v := 0) hx hb d_M_joined_60 (by decide) ?_
              have em : bI (enB mv i x y) = 0 := by simp [bI, enB, c_20, c_42, c_53]
              exact W.eq (g2 := F0 m 61 ls [.int (bI (enB mv i x y))]) (by rw [em]) (mg_61 ls (lv_sub hl [0, 1, 2, 3, 4] rfl))
            · refine lv_iconst (v := 1) hx hb d_M_joined_56 (by decide) ?_
              refine lv_goto (tgt := 61) hx hb d_M_joined_57 (by decide) ?_
              have em : bI (enB mv i x y) = 1 := by simp [bI, enB, c_20, c_42, c_53]
              exact W.eq (g2 := F0 m 61 ls [.int (bI (enB mv i x y))]) (by rw [em]) (mg_61 ls (lv_sub hl [0, 1, 2, 3, 4] rfl))
        · refine lv_aload_n hx hb d_M_joined_23 rfl (lv_at hl 0 rfl) ?_
          refine va_get (D := (dC, dI)) (ci := 6) (v := .ref (ab 7)) (C := R_M) (T := F_M) (N := 20) hx hb hts i_M hown hK hP 0 rfl rfl 12 (by decide) (hts _ fl_M_28) (fun _ h9 => h9) rfl d_M_joined_24 ?_
          refine lv_iload hx hb d_M_joined_27 (lv_at hl 4 rfl) ?_
          refine va_iald hx hb hK hP 7 0 rfl rfl (vp_in_nI (by omega) (by omega)) d_M_joined_29 ?_
          rw [nI_clamp (show i < 2 ^ 31 by omega)]
          refine lv_iload_n hx hb d_M_joined_30 rfl (lv_at hl 3 rfl) ?_
          refine lv_icmp_eq (tgt := 56) hx hb d_M_joined_31 (by decide) (fun c_31 => ?_) (fun c_31 => ?_)
          · refine lv_iconst (v := 1) hx hb d_M_joined_56 (by decide) ?_
            refine lv_goto (tgt := 61) hx hb d_M_joined_57 (by decide) ?_
            have em : bI (enB mv i x y) = 1 := by simp [bI, enB, c_20, c_31]
            exact W.eq (g2 := F0 m 61 ls [.int (bI (enB mv i x y))]) (by rw [em]) (mg_61 ls (lv_sub hl [0, 1, 2, 3, 4] rfl))
          · refine lv_aload_n hx hb d_M_joined_34 rfl (lv_at hl 0 rfl) ?_
            refine va_get (D := (dC, dI)) (ci := 6) (v := .ref (ab 8)) (C := R_M) (T := F_M) (N := 20) hx hb hts i_M hown hK hP 0 rfl rfl 13 (by decide) (hts _ fl_M_31) (fun _ h9 => h9) rfl d_M_joined_35 ?_
            refine lv_iload hx hb d_M_joined_38 (lv_at hl 4 rfl) ?_
            refine va_iald hx hb hK hP 8 0 rfl rfl (vp_in_nI (by omega) (by omega)) d_M_joined_40 ?_
            rw [nI_clamp (show i < 2 ^ 31 by omega)]
            refine lv_iload_n hx hb d_M_joined_41 rfl (lv_at hl 2 rfl) ?_
            refine lv_icmp_ne (tgt := 60) hx hb d_M_joined_42 (by decide) (fun c_42 => ?_) (fun c_42 => ?_)
            · refine lv_iconst (v := 0) hx hb d_M_joined_60 (by decide) ?_
              have em : bI (enB mv i x y) = 0 := by simp [bI, enB, c_20, c_31, c_42]
              exact W.eq (g2 := F0 m 61 ls [.int (bI (enB mv i x y))]) (by rw [em]) (mg_61 ls (lv_sub hl [0, 1, 2, 3, 4] rfl))
            · refine lv_aload_n hx hb d_M_joined_45 rfl (lv_at hl 0 rfl) ?_
              refine va_get (D := (dC, dI)) (ci := 6) (v := .ref (ab 9)) (C := R_M) (T := F_M) (N := 20) hx hb hts i_M hown hK hP 0 rfl rfl 14 (by decide) (hts _ fl_M_34) (fun _ h9 => h9) rfl d_M_joined_46 ?_
              refine lv_iload hx hb d_M_joined_49 (lv_at hl 4 rfl) ?_
              refine va_iald hx hb hK hP 9 0 rfl rfl (vp_in_nI (by omega) (by omega)) d_M_joined_51 ?_
              rw [nI_clamp (show i < 2 ^ 31 by omega)]
              refine lv_iload_n hx hb d_M_joined_52 rfl (lv_at hl 3 rfl) ?_
              refine lv_icmp_ne (tgt := 60) hx hb d_M_joined_53 (by decide) (fun c_53 => ?_) (fun c_53 => ?_)
              · refine lv_iconst (v := 0) hx hb d_M_joined_60 (by decide) ?_
                have em : bI (enB mv i x y) = 0 := by simp [bI, enB, c_20, c_31, c_42, c_53]
                exact W.eq (g2 := F0 m 61 ls [.int (bI (enB mv i x y))]) (by rw [em]) (mg_61 ls (lv_sub hl [0, 1, 2, 3, 4] rfl))
              · refine lv_iconst (v := 1) hx hb d_M_joined_56 (by decide) ?_
                refine lv_goto (tgt := 61) hx hb d_M_joined_57 (by decide) ?_
                have em : bI (enB mv i x y) = 1 := by simp [bI, enB, c_20, c_31, c_42, c_53]
                exact W.eq (g2 := F0 m 61 ls [.int (bI (enB mv i x y))]) (by rw [em]) (mg_61 ls (lv_sub hl [0, 1, 2, 3, 4] rfl))
  exact loop_3 (mn 2 + 1) 0 (by omega) (by omega) rfl ls (lv_sub hl [1, 2, 3, 4, 0] rfl)
set_option maxRecDepth 100000 in
set_option maxHeartbeats 4000000 in
theorem c_M_net (hP : va_P (dC, dI) classes (wM ab cI cZ mk mv) H) (hM : okM mk mn) (hV : okV mn mv) {w : Nat} (hw : w < mn 2) : Met l y_M_net (wB y_M_net b_M_net 2 (some .int)) ({ frames := 2, cells := 0, slots := 0, locals := 47 } : Room) (rP [.ref (ab 0), .int (nI w)] H (kK dC dI cI cZ cJ)) (QcRead (neM mv mn w)) 0 0 noA := by
  refine Met.ofW (cc := b_M_net) (maxL := 2) (ret := (some .int)) (by decide) rfl ?_
  intro p e s m args below meth c s₁ B hml hv
  obtain ⟨rfl, rfl, hK⟩ := hv
  have hx := B.exec
  have hb := B.bytes
  have hr := B.returns
  have hts0 := atoms_spec (ws := (wB y_M_net b_M_net 2 (some .int))) B.pre
  have hts : ∀ w9 ∈ BG, w9.before [.ref (ab 0), .int (nI w)].toArray s = true := fun w9 hw9 => hts0 w9 (List.mem_cons_of_mem _ hw9)
  have hown : s.vm.findClass R_M = some m.cls := findClass_of_methodNamed B.named
  have hlocks := B.notSynchronized
  have hK : va_K (dC, dI) classes [(cI, .int), (cZ, .boolean), (cJ, .long)] s := hK
  have hl := lv_entry ([.ref (ab 0), .int (nI w)]) (n := 2) (Nat.le_of_ble_eq_true rfl)
  rw [lg_entry_eq]
  generalize (lg_sl ([.ref (ab 0), .int (nI w)]) ++ List.replicate (2 - (lg_sl ([.ref (ab 0), .int (nI w)])).length) Slot.unset).toArray = ls at hl ⊢
  have hl : lv_has ls 2 [(0, .ref (ab 0)), (1, .int (nI w))] := hl
  obtain ⟨eK, b0, b1, b2, b3, b4, b5⟩ := id hM
  refine lv_aload_n hx hb d_M_net_0 rfl (lv_at hl 0 rfl) ?_
  refine lv_iload_n hx hb d_M_net_1 rfl (lv_at hl 1 rfl) ?_
  refine cR (W.runV (As := [.int (nI w)]) (rest := []) ⟨hx, hb, hml, hown, hts⟩ (c_M_length hP (show w < 40 by omega)) (cwV 1 hts (wB_goodV (fun _ h => h) ml_M_123 im_M_length se_M_length ini_M co_M_length) rfl rfl rfl (by decide +kernel) ⟨Nat.le_of_ble_eq_true rfl, Nat.le_of_ble_eq_true rfl⟩) (pV hK hP (ci := 6) (q0 := 0) rfl rfl _) rfl rfl hl.1 rfl (lv_room (Nat.le_of_ble_eq_true rfl)) d_M_net_2 ⟨Nat.zero_le _, Nat.zero_le _⟩) ?_
  refine lv_aload_n hx hb d_M_net_5 rfl (lv_at hl 0 rfl) ?_
  refine lv_iload_n hx hb d_M_net_6 rfl (lv_at hl 1 rfl) ?_
  refine lv_aload_n hx hb d_M_net_7 rfl (lv_at hl 0 rfl) ?_
  refine va_get (D := (dC, dI)) (ci := 6) (v := .ref (ab 6)) (C := R_M) (T := F_M) (N := 20) hx hb hts i_M hown hK hP 0 rfl rfl 11 (by decide) (hts _ fl_M_25) (fun _ h9 => h9) rfl d_M_net_8 ?_
  refine lv_iload_n hx hb d_M_net_11 rfl (lv_at hl 1 rfl) ?_
  refine va_iald hx hb hK hP 6 0 rfl rfl (vp_in_nI (by omega) (by omega)) d_M_net_12 ?_
  rw [nI_clamp (show w < 2 ^ 31 by omega)]
  refine lv_aload_n hx hb d_M_net_13 rfl (lv_at hl 0 rfl) ?_
  refine va_get (D := (dC, dI)) (ci := 6) (v := .ref (ab 7)) (C := R_M) (T := F_M) (N := 20) hx hb hts i_M hown hK hP 0 rfl rfl 12 (by decide) (hts _ fl_M_28) (fun _ h9 => h9) rfl d_M_net_14 ?_
  refine lv_iload_n hx hb d_M_net_17 rfl (lv_at hl 1 rfl) ?_
  refine va_iald hx hb hK hP 7 0 rfl rfl (vp_in_nI (by omega) (by omega)) d_M_net_18 ?_
  rw [nI_clamp (show w < 2 ^ 31 by omega)]
  refine cR (W.runV (As := [.int (nI w), .int ((mv 4) w), .int ((mv 5) w)]) (rest := [.int (leM mv w)]) ⟨hx, hb, hml, hown, hts⟩ (c_M_joined hP hM hV hw (mv 4 w) (mv 5 w)) (cwV 3 hts (wB_goodV (fun _ h => h) ml_M_135 im_M_joined se_M_joined ini_M co_M_joined) rfl rfl rfl (by decide +kernel) ⟨Nat.le_of_ble_eq_true rfl, Nat.le_of_ble_eq_true rfl⟩) (pV hK hP (ci := 6) (q0 := 0) rfl rfl _) rfl rfl hl.1 rfl (lv_room (Nat.le_of_ble_eq_true rfl)) d_M_net_19 ⟨Nat.zero_le _, Nat.zero_le _⟩) ?_
  refine lv_iadd hx hb d_M_net_22 ?_
  refine lv_aload_n hx hb d_M_net_23 rfl (lv_at hl 0 rfl) ?_
  refine lv_iload_n hx hb d_M_net_24 rfl (lv_at hl 1 rfl) ?_
  refine lv_aload_n hx hb d_M_net_25 rfl (lv_at hl 0 rfl) ?_
  refine va_get (D := (dC, dI)) (ci := 6) (v := .ref (ab 8)) (C := R_M) (T := F_M) (N := 20) hx hb hts i_M hown hK hP 0 rfl rfl 13 (by decide) (hts _ fl_M_31) (fun _ h9 => h9) rfl d_M_net_26 ?_
  refine lv_iload_n hx hb d_M_net_29 rfl (lv_at hl 1 rfl) ?_
  refine va_iald hx hb hK hP 8 0 rfl rfl (vp_in_nI (by omega) (by omega)) d_M_net_30 ?_
  rw [nI_clamp (show w < 2 ^ 31 by omega)]
  refine lv_aload_n hx hb d_M_net_31 rfl (lv_at hl 0 rfl) ?_
  refine va_get (D := (dC, dI)) (ci := 6) (v := .ref (ab 9)) (C := R_M) (T := F_M) (N := 20) hx hb hts i_M hown hK hP 0 rfl rfl 14 (by decide) (hts _ fl_M_34) (fun _ h9 => h9) rfl d_M_net_32 ?_
  refine lv_iload_n hx hb d_M_net_35 rfl (lv_at hl 1 rfl) ?_
  refine va_iald hx hb hK hP 9 0 rfl rfl (vp_in_nI (by omega) (by omega)) d_M_net_36 ?_
  rw [nI_clamp (show w < 2 ^ 31 by omega)]
  refine cR (W.runV (As := [.int (nI w), .int ((mv 6) w), .int ((mv 7) w)]) (rest := [.int ((leM mv w) + (joM mv mn w ((mv 4) w) ((mv 5) w)))]) ⟨hx, hb, hml, hown, hts⟩ (c_M_joined hP hM hV hw (mv 6 w) (mv 7 w)) (cwV 3 hts (wB_goodV (fun _ h => h) ml_M_135 im_M_joined se_M_joined ini_M co_M_joined) rfl rfl rfl (by decide +kernel) ⟨Nat.le_of_ble_eq_true rfl, Nat.le_of_ble_eq_true rfl⟩) (pV hK hP (ci := 6) (q0 := 0) rfl rfl _) rfl rfl hl.1 rfl (lv_room (Nat.le_of_ble_eq_true rfl)) d_M_net_37 ⟨Nat.zero_le _, Nat.zero_le _⟩) ?_
  refine lv_iadd hx hb d_M_net_40 ?_
  have er : (neM mv mn w) = (((leM mv w) + (joM mv mn w ((mv 4) w) ((mv 5) w))) + (joM mv mn w ((mv 6) w) ((mv 7) w))) := by rfl
  exact W.iret (v := (((leM mv w) + (joM mv mn w ((mv 4) w) ((mv 5) w))) + (joM mv mn w ((mv 6) w) ((mv 7) w)))) hx hb hr (fun t ht hW => ⟨by rw [er], ht⟩) (fun q h => by cases h) d_M_net_41
set_option maxRecDepth 100000 in
set_option maxHeartbeats 4000000 in
theorem c_M_area (hP : va_P (dC, dI) classes (wM ab cI cZ mk mv) H) (hM : okM mk mn) (hV : okV mn mv) {w : Nat} (hw : w < mn 2) : Met l y_M_area (wB y_M_area b_M_area 7 (some .long)) ({ frames := 3, cells := 0, slots := 0, locals := 68 } : Room) (rP [.ref (ab 0), .int (nI w)] H (kK dC dI cI cZ cJ)) (QcReadL (arM mk mv mn w)) 0 0 noA := by
  refine Met.ofW (cc := b_M_area) (maxL := 7) (ret := (some .long)) (by decide) rfl ?_
  intro p e s m args below meth c s₁ B hml hv
  obtain ⟨rfl, rfl, hK⟩ := hv
  have hx := B.exec
  have hb := B.bytes
  have hr := B.returns
  have hts0 := atoms_spec (ws := (wB y_M_area b_M_area 7 (some .long))) B.pre
  have hts : ∀ w9 ∈ BG, w9.before [.ref (ab 0), .int (nI w)].toArray s = true := fun w9 hw9 => hts0 w9 (List.mem_cons_of_mem _ hw9)
  have hown : s.vm.findClass R_M = some m.cls := findClass_of_methodNamed B.named
  have hlocks := B.notSynchronized
  have hK : va_K (dC, dI) classes [(cI, .int), (cZ, .boolean), (cJ, .long)] s := hK
  have hl := lv_entry ([.ref (ab 0), .int (nI w)]) (n := 7) (Nat.le_of_ble_eq_true rfl)
  rw [lg_entry_eq]
  generalize (lg_sl ([.ref (ab 0), .int (nI w)]) ++ List.replicate (7 - (lg_sl ([.ref (ab 0), .int (nI w)])).length) Slot.unset).toArray = ls at hl ⊢
  have hl : lv_has ls 7 [(0, .ref (ab 0)), (1, .int (nI w))] := hl
  obtain ⟨eK, b0, b1, b2, b3, b4, b5⟩ := id hM
  obtain ⟨q9, hq9, eq9⟩ := hV.1 w hw
  refine lv_aload_n hx hb d_M_area_0 rfl (lv_at hl 0 rfl) ?_
  refine lv_aload_n hx hb d_M_area_1 rfl (lv_at hl 0 rfl) ?_
  refine va_get (D := (dC, dI)) (ci := 6) (v := .ref (ab 4)) (C := R_M) (T := F_M) (N := 20) hx hb hts i_M hown hK hP 0 rfl rfl 9 (by decide) (hts _ fl_M_19) (fun _ h9 => h9) rfl d_M_area_2 ?_
  refine lv_iload_n hx hb d_M_area_5 rfl (lv_at hl 1 rfl) ?_
  refine va_iald hx hb hK hP 4 0 rfl rfl (vp_in_nI (by omega) (by omega)) d_M_area_6 ?_
  rw [nI_clamp (show w < 2 ^ 31 by omega)]
  rw [eq9]
  refine cR (W.runV (As := [.int (nI q9)]) (rest := []) ⟨hx, hb, hml, hown, hts⟩ (c_M_height hP hM (show q9 < 6 by omega)) (cwV 1 hts (wB_goodV (fun _ h => h) ml_M_138 im_M_height se_M_height ini_M co_M_height) rfl rfl rfl (by decide +kernel) ⟨Nat.le_of_ble_eq_true rfl, Nat.le_of_ble_eq_true rfl⟩) (pV hK hP (ci := 6) (q0 := 0) rfl rfl _) rfl rfl hl.1 rfl (lv_room (Nat.le_of_ble_eq_true rfl)) d_M_area_7 ⟨Nat.zero_le _, Nat.zero_le _⟩) ?_
  refine lv_i2l (v := (heC mk mv q9).toInt64) hx hb d_M_area_10 rfl ?_
  refine lv_lstore_n (lv' := [(2, .long ((heC mk mv q9).toInt64)), (0, .ref (ab 0)), (1, .int (nI w))]) hx hb d_M_area_11 rfl hl (by decide) rfl (fun ls hl => ?_)
  refine lv_aload_n hx hb d_M_area_12 rfl (lv_at hl 1 rfl) ?_
  refine lv_iload_n hx hb d_M_area_13 rfl (lv_at hl 2 rfl) ?_
  refine cR (W.runV (As := [.int (nI w)]) (rest := []) ⟨hx, hb, hml, hown, hts⟩ (c_M_net hP hM hV hw) (cwV 1 hts (wB_goodV (fun _ h => h) ml_M_141 im_M_net se_M_net ini_M co_M_net) rfl rfl rfl (by decide +kernel) ⟨Nat.le_of_ble_eq_true rfl, Nat.le_of_ble_eq_true rfl⟩) (pV hK hP (ci := 6) (q0 := 0) rfl rfl _) rfl rfl hl.1 rfl (lv_room (Nat.le_of_ble_eq_true rfl)) d_M_area_14 ⟨Nat.zero_le _, Nat.zero_le _⟩) ?_
  refine lv_i2l (v := (neM mv mn w).toInt64) hx hb d_M_area_17 rfl ?_
  refine lv_lload_n hx hb d_M_area_18 rfl (lv_at hl 0 rfl) ?_
  refine lv_lmul hx hb d_M_area_19 ?_
  refine lv_lstore (lv' := [(4, .long (((neM mv mn w).toInt64) * ((heC mk mv q9).toInt64))), (2, .long ((heC mk mv q9).toInt64)), (0, .ref (ab 0)), (1, .int (nI w))]) hx hb d_M_area_20 hl (by decide) rfl (fun ls hl => ?_)
  refine lv_iconst (v := 0) hx hb d_M_area_22 (by decide) ?_
  refine lv_istore (lv' := [(6, .int 0), (4, .long (((neM mv mn w).toInt64) * ((heC mk mv q9).toInt64))), (2, .long ((heC mk mv q9).toInt64)), (0, .ref (ab 0)), (1, .int (nI w))]) hx hb d_M_area_23 hl (by decide) rfl (fun ls hl => ?_)
  have loop_25 : ∀ (k9 i : Nat), mn 3 + 1 ≤ i + k9 → i ≤ mn 3 → ∀ (ls : Array Slot), lv_has ls 7 [(0, .ref (ab 0)), (1, .int (nI w)), (2, .long ((heC mk mv q9).toInt64)), (4, .long (asM mv w ((heC mk mv q9).toInt64) ((neM mv mn w).toInt64 * (heC mk mv q9).toInt64) i)), (6, .int (nI i))] → W p l e (headSpec (wB y_M_area b_M_area 7 (some .long)) ({ frames := 3, cells := 0, slots := 0, locals := 68 } : Room)).room s m [.ref (ab 0), .int (nI w)].toArray below meth c s.heap [] 0 0 (MQ below (QcReadL (arM mk mv mn w)) [.ref (ab 0), .int (nI w)].toArray s 0 0 noA) (F0 m 25 ls []) := by
    intro k9
    induction k9 with
    | zero => intro i hk hi ls hl; exact absurd hk (by omega)
    | succ k9 ih =>
      intro i hk hi ls hl
      refine lv_iload hx hb d_M_area_25 (lv_at hl 4 rfl) ?_
      refine lv_aload_n hx hb d_M_area_27 rfl (lv_at hl 0 rfl) ?_
      refine va_get (D := (dC, dI)) (ci := 6) (v := .int (mk 3)) (C := R_M) (T := F_M) (N := 20) hx hb hts i_M hown hK hP 0 rfl rfl 16 (by decide) (hts _ fl_M_81) (fun _ h9 => h9) rfl d_M_area_28 ?_
      refine lv_icmp_ge (tgt := 80) hx hb d_M_area_31 (by decide) (fun c_31 => ?_) (fun c_31 => ?_)
      · have hi2 : mn 3 ≤ i := geC (eK 3 (by decide)) c_31 (by omega) (by omega)
        refine lv_lload hx hb d_M_area_80 (lv_at hl 3 rfl) ?_
        have er : (arM mk mv mn w) = (asM mv w ((heC mk mv q9).toInt64) ((neM mv mn w).toInt64 * (heC mk mv q9).toInt64) i) := by rw [arM, eq9, nI_clamp (show q9 < 2 ^ 31 by omega), show i = mn 3 by omega]
        exact W.lret (v := (asM mv w ((heC mk mv q9).toInt64) ((neM mv mn w).toInt64 * (heC mk mv q9).toInt64) i)) hx hb hr (fun t ht hW => ⟨by rw [er], ht⟩) (fun q h => by cases h) d_M_area_82
      · have hi2 : i < mn 3 := ltC (eK 3 (by decide)) c_31 (by omega) (by omega)
        refine lv_aload_n hx hb d_M_area_34 rfl (lv_at hl 0 rfl) ?_
        refine va_get (D := (dC, dI)) (ci := 6) (v := .ref (ab 11)) (C := R_M) (T := F_M) (N := 20) hx hb hts i_M hown hK hP 0 rfl rfl 17 (by decide) (hts _ fl_M_41) (fun _ h9 => h9) rfl d_M_area_35 ?_
        refine lv_iload hx hb d_M_area_38 (lv_at hl 4 rfl) ?_
        refine va_iald hx hb hK hP 11 0 rfl rfl (vp_in_nI (by omega) (by omega)) d_M_area_40 ?_
        rw [nI_clamp (show i < 2 ^ 31 by omega)]
        refine lv_iload_n hx hb d_M_area_41 rfl (lv_at hl 1 rfl) ?_
        refine lv_icmp_ne (tgt := 74) hx hb d_M_area_42 (by decide) (fun c_42 => ?_) (fun c_42 => ?_)
        · refine lv_iinc (v := (nI (i + 1))) (lv' := [(6, .int (nI (i + 1))), (0, .ref (ab 0)), (1, .int (nI w)), (2, .long ((heC mk mv q9).toInt64)), (4, .long (asM mv w ((heC mk mv q9).toInt64) ((neM mv mn w).toInt64 * (heC mk mv q9).toInt64) i))]) hx hb d_M_area_74 hl (k := 4) rfl (nI_1 _) (by decide) rfl (fun ls hl => ?_)
          refine lv_goto (tgt := 25) hx hb d_M_area_77 (by decide) ?_
          rw [asM_f (h := (heC mk mv q9).toInt64) (z := ((neM mv mn w).toInt64 * (heC mk mv q9).toInt64)) c_42] at hl
          exact ih (i + 1) (by omega) (by omega) ls (lv_sub hl [1, 2, 3, 4, 0] rfl)
        · refine lv_lload hx hb d_M_area_45 (lv_at hl 3 rfl) ?_
          refine lv_aload_n hx hb d_M_area_47 rfl (lv_at hl 0 rfl) ?_
          refine va_get (D := (dC, dI)) (ci := 6) (v := .ref (ab 13)) (C := R_M) (T := F_M) (N := 20) hx hb hts i_M hown hK hP 0 rfl rfl 19 (by decide) (hts _ fl_M_47) (fun _ h9 => h9) rfl d_M_area_48 ?_
          refine lv_iload hx hb d_M_area_51 (lv_at hl 4 rfl) ?_
          refine va_iald hx hb hK hP 13 0 rfl rfl (vp_in_nI (by omega) (by omega)) d_M_area_53 ?_
          rw [nI_clamp (show i < 2 ^ 31 by omega)]
          refine lv_i2l (v := ((mv 11) i).toInt64) hx hb d_M_area_54 rfl ?_
          refine lv_lload_n hx hb d_M_area_55 rfl (lv_at hl 2 rfl) ?_
          refine lv_ldc2 (v := 200) hx hb hown (hts _ kl_M_144) d_M_area_56 ?_
          refine W.lcmp hx hb d_M_area_59 ?_
          refine lv_if_ge (tgt := 67) hx hb d_M_area_60 (by decide) (fun c_60 => ?_) (fun c_60 => ?_)
          · refine lv_ldc2 (v := 200) hx hb hown (hts _ kl_M_144) d_M_area_67 ?_
            refine lv_lmul hx hb d_M_area_70 ?_
            refine lv_lsub hx hb d_M_area_71 ?_
            refine lv_lstore (lv' := [(4, .long ((asM mv w ((heC mk mv q9).toInt64) ((neM mv mn w).toInt64 * (heC mk mv q9).toInt64) i) - ((((mv 11) i).toInt64) * 200))), (0, .ref (ab 0)), (1, .int (nI w)), (2, .long ((heC mk mv q9).toInt64)), (6, .int (nI i))]) hx hb d_M_area_72 hl (by decide) rfl (fun ls hl => ?_)
            refine lv_iinc (v := (nI (i + 1))) (lv' := [(6, .int (nI (i + 1))), (4, .long ((asM mv w ((heC mk mv q9).toInt64) ((neM mv mn w).toInt64 * (heC mk mv q9).toInt64) i) - ((((mv 11) i).toInt64) * 200))), (0, .ref (ab 0)), (1, .int (nI w)), (2, .long ((heC mk mv q9).toInt64))]) hx hb d_M_area_74 hl (k := 4) rfl (nI_1 _) (by decide) rfl (fun ls hl => ?_)
            refine lv_goto (tgt := 25) hx hb d_M_area_77 (by decide) ?_
            have c_42 : mv 9 i = nI w := by simpa using c_42
            have e9 := asM_t (h := (heC mk mv q9).toInt64) (z := ((neM mv mn w).toInt64 * (heC mk mv q9).toInt64)) c_42
            first | (rw [if_pos c_60] at e9) | (rw [if_neg c_60] at e9)
            rw [e9] at hl
            exact ih (i + 1) (by omega) (by omega) ls (lv_sub hl [2, 3, 4, 1, 0] rfl)
          · refine lv_lload_n hx hb d_M_area_63 rfl (lv_at hl 2 rfl) ?_
            refine lv_goto (tgt := 70) hx hb d_M_area_64 (by decide) ?_
            refine lv_lmul hx hb d_M_area_70 ?_
            refine lv_lsub hx hb d_M_area_71 ?_
            refine lv_lstore (lv' := [(4, .long ((asM mv w ((heC mk mv q9).toInt64) ((neM mv mn w).toInt64 * (heC mk mv q9).toInt64) i) - ((((mv 11) i).toInt64) * ((heC mk mv q9).toInt64)))), (0, .ref (ab 0)), (1, .int (nI w)), (2, .long ((heC mk mv q9).toInt64)), (6, .int (nI i))]) hx hb d_M_area_72 hl (by decide) rfl (fun ls hl => ?_)
            refine lv_iinc (v := (nI (i + 1))) (lv' := [(6, .int (nI (i + 1))), (4, .long ((asM mv w ((heC mk mv q9).toInt64) ((neM mv mn w).toInt64 * (heC mk mv q9).toInt64) i) - ((((mv 11) i).toInt64) * ((heC mk mv q9).toInt64)))), (0, .ref (ab 0)), (1, .int (nI w)), (2, .long ((heC mk mv q9).toInt64))]) hx hb d_M_area_74 hl (k := 4) rfl (nI_1 _) (by decide) rfl (fun ls hl => ?_)
            refine lv_goto (tgt := 25) hx hb d_M_area_77 (by decide) ?_
            have c_42 : mv 9 i = nI w := by simpa using c_42
            have e9 := asM_t (h := (heC mk mv q9).toInt64) (z := ((neM mv mn w).toInt64 * (heC mk mv q9).toInt64)) c_42
            first | (rw [if_pos c_60] at e9) | (rw [if_neg c_60] at e9)
            rw [e9] at hl
            exact ih (i + 1) (by omega) (by omega) ls (lv_sub hl [2, 3, 4, 1, 0] rfl)
  exact loop_25 (mn 3 + 1) 0 (by omega) (by omega) ls (lv_sub hl [3, 4, 2, 1, 0] rfl)
end
