section
variable {l : Launch} {dC : Nat → ClassId} {dI : Nat → Nat → Nat} {H : Heap} {aa : Nat → Nat} {cI cZ cJ : ClassId} {kn : Nat → Int32} {vv : Nat → Nat → Int32} {nn : Nat → Nat} {AX : Nat → Prop}
set_option maxRecDepth 100000 in
set_option maxHeartbeats 4000000 in
theorem c_O_has (hP : va_P (dC, dI) classes (wC aa cI cZ kn vv) H) (x : Int32) : Met l y_O_has (wB y_O_has b_O_has 2 (some .boolean)) ({ frames := 0, cells := 0, slots := 0, locals := 0 } : Room) (rP [.ref (aa 4), .int x] H (kK dC dI cI cZ cJ)) (QcRead (bI (haB (kn 3) x))) 0 0 noA := by
  refine Met.ofW (cc := b_O_has) (maxL := 2) (ret := (some .boolean)) (by decide) rfl ?_
  intro p e s m args below meth c s₁ B hml hv
  obtain ⟨rfl, rfl, hK⟩ := hv
  have hx := B.exec
  have hb := B.bytes
  have hr := B.returns
  have hts0 := atoms_spec (ws := (wB y_O_has b_O_has 2 (some .boolean))) B.pre
  have hts : ∀ w9 ∈ BG, w9.before [.ref (aa 4), .int x].toArray s = true := fun w9 hw9 => hts0 w9 (List.mem_cons_of_mem _ hw9)
  have hown : s.vm.findClass R_O = some m.cls := findClass_of_methodNamed B.named
  have hlocks := B.notSynchronized
  have hK : va_K (dC, dI) classes [(cI, .int), (cZ, .boolean), (cJ, .long)] s := hK
  have hl := lv_entry ([.ref (aa 4), .int x]) (n := 2) (Nat.le_of_ble_eq_true rfl)
  rw [lg_entry_eq]
  generalize (lg_sl ([.ref (aa 4), .int x]) ++ List.replicate (2 - (lg_sl ([.ref (aa 4), .int x])).length) Slot.unset).toArray = ls at hl ⊢
  have hl : lv_has ls 2 [(0, .ref (aa 4)), (1, .int x)] := hl
  refine lv_iload_n hx hb d_O_has_0 rfl (lv_at hl 1 rfl) ?_
  refine lv_if_lt (tgt := 16) hx hb d_O_has_1 (by decide) (fun c_1 => ?_) (fun c_1 => ?_)
  · refine lv_iconst (v := 0) hx hb d_O_has_16 (by decide) ?_
    have er : (bI (haB (kn 3) x)) = 0 := by simp [bI, haB, c_1]
    exact W.zret (v := 0) hx hb hr rfl (fun t ht hW => ⟨by rw [er], ht⟩) (fun q h => by cases h) d_O_has_17
  · refine lv_iload_n hx hb d_O_has_4 rfl (lv_at hl 1 rfl) ?_
    refine lv_aload_n hx hb d_O_has_5 rfl (lv_at hl 0 rfl) ?_
    refine va_get (D := (dC, dI)) (ci := 2) (v := .int (kn 3)) (C := R_O) (T := F_O) (N := 4) hx hb hts i_O hown hK hP 4 rfl rfl 3 (by decide) (hts _ fl_O_21) (fun _ h9 => h9) rfl d_O_has_6 ?_
    refine lv_icmp_ge (tgt := 16) hx hb d_O_has_9 (by decide) (fun c_9 => ?_) (fun c_9 => ?_)
    · refine lv_iconst (v := 0) hx hb d_O_has_16 (by decide) ?_
      have er : (bI (haB (kn 3) x)) = 0 := by simp [bI, haB, c_1, c_9]
      exact W.zret (v := 0) hx hb hr rfl (fun t ht hW => ⟨by rw [er], ht⟩) (fun q h => by cases h) d_O_has_17
    · refine lv_iconst (v := 1) hx hb d_O_has_12 (by decide) ?_
      refine lv_goto (tgt := 17) hx hb d_O_has_13 (by decide) ?_
      have er : (bI (haB (kn 3) x)) = 1 := by simp [bI, haB, c_1, c_9]
      exact W.zret (v := 1) hx hb hr rfl (fun t ht hW => ⟨by rw [er], ht⟩) (fun q h => by cases h) d_O_has_17
set_option maxRecDepth 100000 in
set_option maxHeartbeats 4000000 in
theorem c_S_has (hP : va_P (dC, dI) classes (wC aa cI cZ kn vv) H) (x : Int32) : Met l y_S_has (wB y_S_has b_S_has 2 (some .boolean)) ({ frames := 0, cells := 0, slots := 0, locals := 0 } : Room) (rP [.ref (aa 1), .int x] H (kK dC dI cI cZ cJ)) (QcRead (bI (haB (kn 0) x))) 0 0 noA := by
  refine Met.ofW (cc := b_S_has) (maxL := 2) (ret := (some .boolean)) (by decide) rfl ?_
  intro p e s m args below meth c s₁ B hml hv
  obtain ⟨rfl, rfl, hK⟩ := hv
  have hx := B.exec
  have hb := B.bytes
  have hr := B.returns
  have hts0 := atoms_spec (ws := (wB y_S_has b_S_has 2 (some .boolean))) B.pre
  have hts : ∀ w9 ∈ BG, w9.before [.ref (aa 1), .int x].toArray s = true := fun w9 hw9 => hts0 w9 (List.mem_cons_of_mem _ hw9)
  have hown : s.vm.findClass R_S = some m.cls := findClass_of_methodNamed B.named
  have hlocks := B.notSynchronized
  have hK : va_K (dC, dI) classes [(cI, .int), (cZ, .boolean), (cJ, .long)] s := hK
  have hl := lv_entry ([.ref (aa 1), .int x]) (n := 2) (Nat.le_of_ble_eq_true rfl)
  rw [lg_entry_eq]
  generalize (lg_sl ([.ref (aa 1), .int x]) ++ List.replicate (2 - (lg_sl ([.ref (aa 1), .int x])).length) Slot.unset).toArray = ls at hl ⊢
  have hl : lv_has ls 2 [(0, .ref (aa 1)), (1, .int x)] := hl
  refine lv_iload_n hx hb d_S_has_0 rfl (lv_at hl 1 rfl) ?_
  refine lv_if_lt (tgt := 16) hx hb d_S_has_1 (by decide) (fun c_1 => ?_) (fun c_1 => ?_)
  · refine lv_iconst (v := 0) hx hb d_S_has_16 (by decide) ?_
    have er : (bI (haB (kn 0) x)) = 0 := by simp [bI, haB, c_1]
    exact W.zret (v := 0) hx hb hr rfl (fun t ht hW => ⟨by rw [er], ht⟩) (fun q h => by cases h) d_S_has_17
  · refine lv_iload_n hx hb d_S_has_4 rfl (lv_at hl 1 rfl) ?_
    refine lv_aload_n hx hb d_S_has_5 rfl (lv_at hl 0 rfl) ?_
    refine va_get (D := (dC, dI)) (ci := 3) (v := .int (kn 0)) (C := R_S) (T := F_S) (N := 2) hx hb hts i_S hown hK hP 1 rfl rfl 1 (by decide) (hts _ fl_S_15) (fun _ h9 => h9) rfl d_S_has_6 ?_
    refine lv_icmp_ge (tgt := 16) hx hb d_S_has_9 (by decide) (fun c_9 => ?_) (fun c_9 => ?_)
    · refine lv_iconst (v := 0) hx hb d_S_has_16 (by decide) ?_
      have er : (bI (haB (kn 0) x)) = 0 := by simp [bI, haB, c_1, c_9]
      exact W.zret (v := 0) hx hb hr rfl (fun t ht hW => ⟨by rw [er], ht⟩) (fun q h => by cases h) d_S_has_17
    · refine lv_iconst (v := 1) hx hb d_S_has_12 (by decide) ?_
      refine lv_goto (tgt := 17) hx hb d_S_has_13 (by decide) ?_
      have er : (bI (haB (kn 0) x)) = 1 := by simp [bI, haB, c_1, c_9]
      exact W.zret (v := 1) hx hb hr rfl (fun t ht hW => ⟨by rw [er], ht⟩) (fun q h => by cases h) d_S_has_17
set_option maxRecDepth 100000 in
set_option maxHeartbeats 4000000 in
theorem c_T_has (hP : va_P (dC, dI) classes (wC aa cI cZ kn vv) H) (x : Int32) : Met l y_T_has (wB y_T_has b_T_has 2 (some .boolean)) ({ frames := 0, cells := 0, slots := 0, locals := 0 } : Room) (rP [.ref (aa 2), .int x] H (kK dC dI cI cZ cJ)) (QcRead (bI (haB (kn 1) x))) 0 0 noA := by
  refine Met.ofW (cc := b_T_has) (maxL := 2) (ret := (some .boolean)) (by decide) rfl ?_
  intro p e s m args below meth c s₁ B hml hv
  obtain ⟨rfl, rfl, hK⟩ := hv
  have hx := B.exec
  have hb := B.bytes
  have hr := B.returns
  have hts0 := atoms_spec (ws := (wB y_T_has b_T_has 2 (some .boolean))) B.pre
  have hts : ∀ w9 ∈ BG, w9.before [.ref (aa 2), .int x].toArray s = true := fun w9 hw9 => hts0 w9 (List.mem_cons_of_mem _ hw9)
  have hown : s.vm.findClass R_T = some m.cls := findClass_of_methodNamed B.named
  have hlocks := B.notSynchronized
  have hK : va_K (dC, dI) classes [(cI, .int), (cZ, .boolean), (cJ, .long)] s := hK
  have hl := lv_entry ([.ref (aa 2), .int x]) (n := 2) (Nat.le_of_ble_eq_true rfl)
  rw [lg_entry_eq]
  generalize (lg_sl ([.ref (aa 2), .int x]) ++ List.replicate (2 - (lg_sl ([.ref (aa 2), .int x])).length) Slot.unset).toArray = ls at hl ⊢
  have hl : lv_has ls 2 [(0, .ref (aa 2)), (1, .int x)] := hl
  refine lv_iload_n hx hb d_T_has_0 rfl (lv_at hl 1 rfl) ?_
  refine lv_if_lt (tgt := 16) hx hb d_T_has_1 (by decide) (fun c_1 => ?_) (fun c_1 => ?_)
  · refine lv_iconst (v := 0) hx hb d_T_has_16 (by decide) ?_
    have er : (bI (haB (kn 1) x)) = 0 := by simp [bI, haB, c_1]
    exact W.zret (v := 0) hx hb hr rfl (fun t ht hW => ⟨by rw [er], ht⟩) (fun q h => by cases h) d_T_has_17
  · refine lv_iload_n hx hb d_T_has_4 rfl (lv_at hl 1 rfl) ?_
    refine lv_aload_n hx hb d_T_has_5 rfl (lv_at hl 0 rfl) ?_
    refine va_get (D := (dC, dI)) (ci := 4) (v := .int (kn 1)) (C := R_T) (T := F_T) (N := 2) hx hb hts i_T hown hK hP 2 rfl rfl 1 (by decide) (hts _ fl_T_15) (fun _ h9 => h9) rfl d_T_has_6 ?_
    refine lv_icmp_ge (tgt := 16) hx hb d_T_has_9 (by decide) (fun c_9 => ?_) (fun c_9 => ?_)
    · refine lv_iconst (v := 0) hx hb d_T_has_16 (by decide) ?_
      have er : (bI (haB (kn 1) x)) = 0 := by simp [bI, haB, c_1, c_9]
      exact W.zret (v := 0) hx hb hr rfl (fun t ht hW => ⟨by rw [er], ht⟩) (fun q h => by cases h) d_T_has_17
    · refine lv_iconst (v := 1) hx hb d_T_has_12 (by decide) ?_
      refine lv_goto (tgt := 17) hx hb d_T_has_13 (by decide) ?_
      have er : (bI (haB (kn 1) x)) = 1 := by simp [bI, haB, c_1, c_9]
      exact W.zret (v := 1) hx hb hr rfl (fun t ht hW => ⟨by rw [er], ht⟩) (fun q h => by cases h) d_T_has_17
set_option maxRecDepth 100000 in
set_option maxHeartbeats 4000000 in
theorem c_O_manyOf (hP : va_P (dC, dI) classes (wC aa cI cZ kn vv) H) (hI : okC kn nn) (x : Int32) : Met l y_O_manyOf (wB y_O_manyOf b_O_manyOf 4 (some .int)) ({ frames := 0, cells := 0, slots := 0, locals := 0 } : Room) (rP [.ref (aa 4), .int x] H (kK dC dI cI cZ cJ)) (QcRead (nI (cnt (fun i => decide (vv 9 i = x)) (nn 3)))) 0 0 noA := by
  refine Met.ofW (cc := b_O_manyOf) (maxL := 4) (ret := (some .int)) (by decide) rfl ?_
  intro p e s m args below meth c s₁ B hml hv
  obtain ⟨rfl, rfl, hK⟩ := hv
  have hx := B.exec
  have hb := B.bytes
  have hr := B.returns
  have hts0 := atoms_spec (ws := (wB y_O_manyOf b_O_manyOf 4 (some .int))) B.pre
  have hts : ∀ w9 ∈ BG, w9.before [.ref (aa 4), .int x].toArray s = true := fun w9 hw9 => hts0 w9 (List.mem_cons_of_mem _ hw9)
  have hown : s.vm.findClass R_O = some m.cls := findClass_of_methodNamed B.named
  have hlocks := B.notSynchronized
  have hK : va_K (dC, dI) classes [(cI, .int), (cZ, .boolean), (cJ, .long)] s := hK
  have hl := lv_entry ([.ref (aa 4), .int x]) (n := 4) (Nat.le_of_ble_eq_true rfl)
  rw [lg_entry_eq]
  generalize (lg_sl ([.ref (aa 4), .int x]) ++ List.replicate (4 - (lg_sl ([.ref (aa 4), .int x])).length) Slot.unset).toArray = ls at hl ⊢
  have hl : lv_has ls 4 [(0, .ref (aa 4)), (1, .int x)] := hl
  obtain ⟨eK, b0, b1, b2, b3, b4, b5⟩ := id hI
  refine lv_iconst (v := 0) hx hb d_O_manyOf_0 (by decide) ?_
  refine lv_istore_n (lv' := [(2, .int 0), (0, .ref (aa 4)), (1, .int x)]) hx hb d_O_manyOf_1 rfl hl (by decide) rfl (fun ls hl => ?_)
  refine lv_iconst (v := 0) hx hb d_O_manyOf_2 (by decide) ?_
  refine lv_istore_n (lv' := [(3, .int 0), (2, .int 0), (0, .ref (aa 4)), (1, .int x)]) hx hb d_O_manyOf_3 rfl hl (by decide) rfl (fun ls hl => ?_)
  have loop_4 : ∀ (k9 i : Nat), nn 3 + 1 ≤ i + k9 → i ≤ nn 3 → ∀ (ls : Array Slot), lv_has ls 4 [(0, .ref (aa 4)), (1, .int x), (2, .int (nI (cnt (fun i => decide (vv 9 i = x)) i))), (3, .int (nI i))] → W p l e (headSpec (wB y_O_manyOf b_O_manyOf 4 (some .int)) ({ frames := 0, cells := 0, slots := 0, locals := 0 } : Room)).room s m [.ref (aa 4), .int x].toArray below meth c s.heap [] 0 0 (MQ below (QcRead (nI (cnt (fun i => decide (vv 9 i = x)) (nn 3)))) [.ref (aa 4), .int x].toArray s 0 0 noA) (F0 m 4 ls []) := by
    intro k9
    induction k9 with
    | zero => intro i hk hi ls hl; exact absurd hk (by omega)
    | succ k9 ih =>
      intro i hk hi ls hl
      refine lv_iload_n hx hb d_O_manyOf_4 rfl (lv_at hl 3 rfl) ?_
      refine lv_aload_n hx hb d_O_manyOf_5 rfl (lv_at hl 0 rfl) ?_
      refine va_get (D := (dC, dI)) (ci := 2) (v := .int (kn 3)) (C := R_O) (T := F_O) (N := 4) hx hb hts i_O hown hK hP 4 rfl rfl 3 (by decide) (hts _ fl_O_21) (fun _ h9 => h9) rfl d_O_manyOf_6 ?_
      refine lv_icmp_ge (tgt := 31) hx hb d_O_manyOf_9 (by decide) (fun c_9 => ?_) (fun c_9 => ?_)
      · have hi2 : nn 3 ≤ i := geC (eK 3 (by decide)) c_9 (by omega) (by omega)
        refine lv_iload_n hx hb d_O_manyOf_31 rfl (lv_at hl 2 rfl) ?_
        have er : (nI (cnt (fun i => decide (vv 9 i = x)) (nn 3))) = (nI (cnt (fun i => decide (vv 9 i = x)) i)) := by rw [show i = nn 3 by omega]
        exact W.iret (v := (nI (cnt (fun i => decide (vv 9 i = x)) i))) hx hb hr (fun t ht hW => ⟨by rw [er], ht⟩) (fun q h => by cases h) d_O_manyOf_32
      · have hi2 : i < nn 3 := ltC (eK 3 (by decide)) c_9 (by omega) (by omega)
        refine lv_aload_n hx hb d_O_manyOf_12 rfl (lv_at hl 0 rfl) ?_
        refine va_get (D := (dC, dI)) (ci := 2) (v := .ref (aa 15)) (C := R_O) (T := F_O) (N := 4) hx hb hts i_O hown hK hP 4 rfl rfl 0 (by decide) (hts _ fl_O_9) (fun _ h9 => h9) rfl d_O_manyOf_13 ?_
        refine lv_iload_n hx hb d_O_manyOf_16 rfl (lv_at hl 3 rfl) ?_
        refine va_iald hx hb hK hP 15 0 rfl rfl (vp_in_nI (by omega) (by omega)) d_O_manyOf_17 ?_
        rw [nI_clamp (show i < 2 ^ 31 by omega)]
        refine lv_iload_n hx hb d_O_manyOf_18 rfl (lv_at hl 1 rfl) ?_
        refine lv_icmp_ne (tgt := 25) hx hb d_O_manyOf_19 (by decide) (fun c_19 => ?_) (fun c_19 => ?_)
        · refine lv_iinc (v := (nI (i + 1))) (lv' := [(3, .int (nI (i + 1))), (0, .ref (aa 4)), (1, .int x), (2, .int (nI (cnt (fun i => decide (vv 9 i = x)) i)))]) hx hb d_O_manyOf_25 hl (k := 3) rfl (nI_1 _) (by decide) rfl (fun ls hl => ?_)
          refine lv_goto (tgt := 4) hx hb d_O_manyOf_28 (by decide) ?_
          rw [cnt_f (p := (fun i => decide (vv 9 i = x))) (by simpa using c_19)] at hl
          exact ih (i + 1) (by omega) (by omega) ls (lv_sub hl [1, 2, 3, 0] rfl)
        · refine lv_iinc (v := (nI ((cnt (fun i => decide (vv 9 i = x)) i) + 1))) (lv' := [(2, .int (nI ((cnt (fun i => decide (vv 9 i = x)) i) + 1))), (0, .ref (aa 4)), (1, .int x), (3, .int (nI i))]) hx hb d_O_manyOf_22 hl (k := 2) rfl (nI_1 _) (by decide) rfl (fun ls hl => ?_)
          refine lv_iinc (v := (nI (i + 1))) (lv' := [(3, .int (nI (i + 1))), (2, .int (nI ((cnt (fun i => decide (vv 9 i = x)) i) + 1))), (0, .ref (aa 4)), (1, .int x)]) hx hb d_O_manyOf_25 hl (k := 3) rfl (nI_1 _) (by decide) rfl (fun ls hl => ?_)
          refine lv_goto (tgt := 4) hx hb d_O_manyOf_28 (by decide) ?_
          rw [cnt_t (p := (fun i => decide (vv 9 i = x))) (by simpa using c_19)] at hl
          exact ih (i + 1) (by omega) (by omega) ls (lv_sub hl [2, 3, 1, 0] rfl)
  exact loop_4 (nn 3 + 1) 0 (by omega) (by omega) ls (lv_sub hl [2, 3, 1, 0] rfl)
set_option maxRecDepth 100000 in
set_option maxHeartbeats 4000000 in
theorem c_O_widthOf (hP : va_P (dC, dI) classes (wC aa cI cZ kn vv) H) (hI : okC kn nn) (x : Int32) : Met l y_O_widthOf (wB y_O_widthOf b_O_widthOf 4 (some .int)) ({ frames := 0, cells := 0, slots := 0, locals := 0 } : Room) (rP [.ref (aa 4), .int x] H (kK dC dI cI cZ cJ)) (QcRead (wdC vv nn x)) 0 0 noA := by
  refine Met.ofW (cc := b_O_widthOf) (maxL := 4) (ret := (some .int)) (by decide) rfl ?_
  intro p e s m args below meth c s₁ B hml hv
  obtain ⟨rfl, rfl, hK⟩ := hv
  have hx := B.exec
  have hb := B.bytes
  have hr := B.returns
  have hts0 := atoms_spec (ws := (wB y_O_widthOf b_O_widthOf 4 (some .int))) B.pre
  have hts : ∀ w9 ∈ BG, w9.before [.ref (aa 4), .int x].toArray s = true := fun w9 hw9 => hts0 w9 (List.mem_cons_of_mem _ hw9)
  have hown : s.vm.findClass R_O = some m.cls := findClass_of_methodNamed B.named
  have hlocks := B.notSynchronized
  have hK : va_K (dC, dI) classes [(cI, .int), (cZ, .boolean), (cJ, .long)] s := hK
  have hl := lv_entry ([.ref (aa 4), .int x]) (n := 4) (Nat.le_of_ble_eq_true rfl)
  rw [lg_entry_eq]
  generalize (lg_sl ([.ref (aa 4), .int x]) ++ List.replicate (4 - (lg_sl ([.ref (aa 4), .int x])).length) Slot.unset).toArray = ls at hl ⊢
  have hl : lv_has ls 4 [(0, .ref (aa 4)), (1, .int x)] := hl
  obtain ⟨eK, b0, b1, b2, b3, b4, b5⟩ := id hI
  refine lv_iconst (v := 0) hx hb d_O_widthOf_0 (by decide) ?_
  refine lv_istore_n (lv' := [(2, .int 0), (0, .ref (aa 4)), (1, .int x)]) hx hb d_O_widthOf_1 rfl hl (by decide) rfl (fun ls hl => ?_)
  refine lv_iconst (v := 0) hx hb d_O_widthOf_2 (by decide) ?_
  refine lv_istore_n (lv' := [(3, .int 0), (2, .int 0), (0, .ref (aa 4)), (1, .int x)]) hx hb d_O_widthOf_3 rfl hl (by decide) rfl (fun ls hl => ?_)
  have loop_4 : ∀ (k9 i : Nat), nn 3 + 1 ≤ i + k9 → i ≤ nn 3 → ∀ (ls : Array Slot), lv_has ls 4 [(0, .ref (aa 4)), (1, .int x), (2, .int (sumI (fun i => decide (vv 9 i = x)) (vv 11) i)), (3, .int (nI i))] → W p l e (headSpec (wB y_O_widthOf b_O_widthOf 4 (some .int)) ({ frames := 0, cells := 0, slots := 0, locals := 0 } : Room)).room s m [.ref (aa 4), .int x].toArray below meth c s.heap [] 0 0 (MQ below (QcRead (wdC vv nn x)) [.ref (aa 4), .int x].toArray s 0 0 noA) (F0 m 4 ls []) := by
    intro k9
    induction k9 with
    | zero => intro i hk hi ls hl; exact absurd hk (by omega)
    | succ k9 ih =>
      intro i hk hi ls hl
      refine lv_iload_n hx hb d_O_widthOf_4 rfl (lv_at hl 3 rfl) ?_
      refine lv_aload_n hx hb d_O_widthOf_5 rfl (lv_at hl 0 rfl) ?_
      refine va_get (D := (dC, dI)) (ci := 2) (v := .int (kn 3)) (C := R_O) (T := F_O) (N := 4) hx hb hts i_O hown hK hP 4 rfl rfl 3 (by decide) (hts _ fl_O_21) (fun _ h9 => h9) rfl d_O_widthOf_6 ?_
      refine lv_icmp_ge (tgt := 37) hx hb d_O_widthOf_9 (by decide) (fun c_9 => ?_) (fun c_9 => ?_)
      · have hi2 : nn 3 ≤ i := geC (eK 3 (by decide)) c_9 (by omega) (by omega)
        refine lv_iload_n hx hb d_O_widthOf_37 rfl (lv_at hl 2 rfl) ?_
        have er : (wdC vv nn x) = (sumI (fun i => decide (vv 9 i = x)) (vv 11) i) := by rw [wdC, show i = nn 3 by omega]
        exact W.iret (v := (sumI (fun i => decide (vv 9 i = x)) (vv 11) i)) hx hb hr (fun t ht hW => ⟨by rw [er], ht⟩) (fun q h => by cases h) d_O_widthOf_38
      · have hi2 : i < nn 3 := ltC (eK 3 (by decide)) c_9 (by omega) (by omega)
        refine lv_aload_n hx hb d_O_widthOf_12 rfl (lv_at hl 0 rfl) ?_
        refine va_get (D := (dC, dI)) (ci := 2) (v := .ref (aa 15)) (C := R_O) (T := F_O) (N := 4) hx hb hts i_O hown hK hP 4 rfl rfl 0 (by decide) (hts _ fl_O_9) (fun _ h9 => h9) rfl d_O_widthOf_13 ?_
        refine lv_iload_n hx hb d_O_widthOf_16 rfl (lv_at hl 3 rfl) ?_
        refine va_iald hx hb hK hP 15 0 rfl rfl (vp_in_nI (by omega) (by omega)) d_O_widthOf_17 ?_
        rw [nI_clamp (show i < 2 ^ 31 by omega)]
        refine lv_iload_n hx hb d_O_widthOf_18 rfl (lv_at hl 1 rfl) ?_
        refine lv_icmp_ne (tgt := 31) hx hb d_O_widthOf_19 (by decide) (fun c_19 => ?_) (fun c_19 => ?_)
        · refine lv_iinc (v := (nI (i + 1))) (lv' := [(3, .int (nI (i + 1))), (0, .ref (aa 4)), (1, .int x), (2, .int (sumI (fun i => decide (vv 9 i = x)) (vv 11) i))]) hx hb d_O_widthOf_31 hl (k := 3) rfl (nI_1 _) (by decide) rfl (fun ls hl => ?_)
          refine lv_goto (tgt := 4) hx hb d_O_widthOf_34 (by decide) ?_
          rw [sumI_f (p := (fun i => decide (vv 9 i = x))) (f := vv 11) (n := i) (by simpa using c_19)] at hl
          exact ih (i + 1) (by omega) (by omega) ls (lv_sub hl [1, 2, 3, 0] rfl)
        · refine lv_iload_n hx hb d_O_widthOf_22 rfl (lv_at hl 2 rfl) ?_
          refine lv_aload_n hx hb d_O_widthOf_23 rfl (lv_at hl 0 rfl) ?_
          refine va_get (D := (dC, dI)) (ci := 2) (v := .ref (aa 17)) (C := R_O) (T := F_O) (N := 4) hx hb hts i_O hown hK hP 4 rfl rfl 2 (by decide) (hts _ fl_O_18) (fun _ h9 => h9) rfl d_O_widthOf_24 ?_
          refine lv_iload_n hx hb d_O_widthOf_27 rfl (lv_at hl 3 rfl) ?_
          refine va_iald hx hb hK hP 17 0 rfl rfl (vp_in_nI (by omega) (by omega)) d_O_widthOf_28 ?_
          rw [nI_clamp (show i < 2 ^ 31 by omega)]
          refine lv_iadd hx hb d_O_widthOf_29 ?_
          refine lv_istore_n (lv' := [(2, .int ((sumI (fun i => decide (vv 9 i = x)) (vv 11) i) + ((vv 11) i))), (0, .ref (aa 4)), (1, .int x), (3, .int (nI i))]) hx hb d_O_widthOf_30 rfl hl (by decide) rfl (fun ls hl => ?_)
          refine lv_iinc (v := (nI (i + 1))) (lv' := [(3, .int (nI (i + 1))), (2, .int ((sumI (fun i => decide (vv 9 i = x)) (vv 11) i) + ((vv 11) i))), (0, .ref (aa 4)), (1, .int x)]) hx hb d_O_widthOf_31 hl (k := 3) rfl (nI_1 _) (by decide) rfl (fun ls hl => ?_)
          refine lv_goto (tgt := 4) hx hb d_O_widthOf_34 (by decide) ?_
          rw [sumI_t (p := (fun i => decide (vv 9 i = x))) (f := vv 11) (n := i) (by simpa using c_19)] at hl
          exact ih (i + 1) (by omega) (by omega) ls (lv_sub hl [2, 3, 1, 0] rfl)
  exact loop_4 (nn 3 + 1) 0 (by omega) (by omega) ls (lv_sub hl [2, 3, 1, 0] rfl)
set_option maxRecDepth 100000 in
set_option maxHeartbeats 4000000 in
theorem c_O_overlap (hP : va_P (dC, dI) classes (wC aa cI cZ kn vv) H) (hI : okC kn nn) (x y z : Int32) : Met l y_O_overlap (wB y_O_overlap b_O_overlap 5 (some .boolean)) ({ frames := 0, cells := 0, slots := 0, locals := 0 } : Room) (rP [.ref (aa 4), .int x, .int y, .int z] H (kK dC dI cI cZ cJ)) (QcRead (bI (fstN (ovB vv x y z) (nn 3)).isSome)) 0 0 noA := by
  refine Met.ofW (cc := b_O_overlap) (maxL := 5) (ret := (some .boolean)) (by decide) rfl ?_
  intro p e s m args below meth c s₁ B hml hv
  obtain ⟨rfl, rfl, hK⟩ := hv
  have hx := B.exec
  have hb := B.bytes
  have hr := B.returns
  have hts0 := atoms_spec (ws := (wB y_O_overlap b_O_overlap 5 (some .boolean))) B.pre
  have hts : ∀ w9 ∈ BG, w9.before [.ref (aa 4), .int x, .int y, .int z].toArray s = true := fun w9 hw9 => hts0 w9 (List.mem_cons_of_mem _ hw9)
  have hown : s.vm.findClass R_O = some m.cls := findClass_of_methodNamed B.named
  have hlocks := B.notSynchronized
  have hK : va_K (dC, dI) classes [(cI, .int), (cZ, .boolean), (cJ, .long)] s := hK
  have hl := lv_entry ([.ref (aa 4), .int x, .int y, .int z]) (n := 5) (Nat.le_of_ble_eq_true rfl)
  rw [lg_entry_eq]
  generalize (lg_sl ([.ref (aa 4), .int x, .int y, .int z]) ++ List.replicate (5 - (lg_sl ([.ref (aa 4), .int x, .int y, .int z])).length) Slot.unset).toArray = ls at hl ⊢
  have hl : lv_has ls 5 [(0, .ref (aa 4)), (1, .int x), (2, .int y), (3, .int z)] := hl
  obtain ⟨eK, b0, b1, b2, b3, b4, b5⟩ := id hI
  refine lv_iconst (v := 0) hx hb d_O_overlap_0 (by decide) ?_
  refine lv_istore (lv' := [(4, .int 0), (0, .ref (aa 4)), (1, .int x), (2, .int y), (3, .int z)]) hx hb d_O_overlap_1 hl (by decide) rfl (fun ls hl => ?_)
  have loop_3 : ∀ (k9 i : Nat), nn 3 + 1 ≤ i + k9 → i ≤ nn 3 → fstN (ovB vv x y z) i = none → ∀ (ls : Array Slot), lv_has ls 5 [(0, .ref (aa 4)), (1, .int x), (2, .int y), (3, .int z), (4, .int (nI i))] → W p l e (headSpec (wB y_O_overlap b_O_overlap 5 (some .boolean)) ({ frames := 0, cells := 0, slots := 0, locals := 0 } : Room)).room s m [.ref (aa 4), .int x, .int y, .int z].toArray below meth c s.heap [] 0 0 (MQ below (QcRead (bI (fstN (ovB vv x y z) (nn 3)).isSome)) [.ref (aa 4), .int x, .int y, .int z].toArray s 0 0 noA) (F0 m 3 ls []) := by
    intro k9
    induction k9 with
    | zero => intro i hk hi hf ls hl; exact absurd hk (by omega)
    | succ k9 ih =>
      intro i hk hi hf ls hl
      refine lv_iload hx hb d_O_overlap_3 (lv_at hl 4 rfl) ?_
      refine lv_aload_n hx hb d_O_overlap_5 rfl (lv_at hl 0 rfl) ?_
      refine va_get (D := (dC, dI)) (ci := 2) (v := .int (kn 3)) (C := R_O) (T := F_O) (N := 4) hx hb hts i_O hown hK hP 4 rfl rfl 3 (by decide) (hts _ fl_O_21) (fun _ h9 => h9) rfl d_O_overlap_6 ?_
      refine lv_icmp_ge (tgt := 63) hx hb d_O_overlap_9 (by decide) (fun c_9 => ?_) (fun c_9 => ?_)
      · have hi2 : nn 3 ≤ i := geC (eK 3 (by decide)) c_9 (by omega) (by omega)
        refine lv_iconst (v := 0) hx hb d_O_overlap_63 (by decide) ?_
        have er : (bI (fstN (ovB vv x y z) (nn 3)).isSome) = 0 := by rw [show nn 3 = i by omega, hf]; rfl
        exact W.zret (v := 0) hx hb hr rfl (fun t ht hW => ⟨by rw [er], ht⟩) (fun q h => by cases h) d_O_overlap_64
      · have hi2 : i < nn 3 := ltC (eK 3 (by decide)) c_9 (by omega) (by omega)
        refine lv_aload_n hx hb d_O_overlap_12 rfl (lv_at hl 0 rfl) ?_
        refine va_get (D := (dC, dI)) (ci := 2) (v := .ref (aa 15)) (C := R_O) (T := F_O) (N := 4) hx hb hts i_O hown hK hP 4 rfl rfl 0 (by decide) (hts _ fl_O_9) (fun _ h9 => h9) rfl d_O_overlap_13 ?_
        refine lv_iload hx hb d_O_overlap_16 (lv_at hl 4 rfl) ?_
        refine va_iald hx hb hK hP 15 0 rfl rfl (vp_in_nI (by omega) (by omega)) d_O_overlap_18 ?_
        rw [nI_clamp (show i < 2 ^ 31 by omega)]
        refine lv_iload_n hx hb d_O_overlap_19 rfl (lv_at hl 1 rfl) ?_
        refine lv_icmp_ne (tgt := 57) hx hb d_O_overlap_20 (by decide) (fun c_20 => ?_) (fun c_20 => ?_)
        · refine lv_iinc (v := (nI (i + 1))) (lv' := [(4, .int (nI (i + 1))), (0, .ref (aa 4)), (1, .int x), (2, .int y), (3, .int z)]) hx hb d_O_overlap_57 hl (k := 4) rfl (nI_1 _) (by decide) rfl (fun ls hl => ?_)
          refine lv_goto (tgt := 3) hx hb d_O_overlap_60 (by decide) ?_
          have hn : fstN (ovB vv x y z) (i + 1) = none := fstN_none hf (by simp [ovB, c_20])
          exact ih (i + 1) (by omega) (by omega) hn ls (lv_sub hl [1, 2, 3, 4, 0] rfl)
        · refine lv_aload_n hx hb d_O_overlap_23 rfl (lv_at hl 0 rfl) ?_
          refine va_get (D := (dC, dI)) (ci := 2) (v := .ref (aa 16)) (C := R_O) (T := F_O) (N := 4) hx hb hts i_O hown hK hP 4 rfl rfl 1 (by decide) (hts _ fl_O_15) (fun _ h9 => h9) rfl d_O_overlap_24 ?_
          refine lv_iload hx hb d_O_overlap_27 (lv_at hl 4 rfl) ?_
          refine va_iald hx hb hK hP 16 0 rfl rfl (vp_in_nI (by omega) (by omega)) d_O_overlap_29 ?_
          rw [nI_clamp (show i < 2 ^ 31 by omega)]
          refine lv_iload_n hx hb d_O_overlap_30 rfl (lv_at hl 2 rfl) ?_
          refine lv_iload_n hx hb d_O_overlap_31 rfl (lv_at hl 3 rfl) ?_
          refine lv_iadd hx hb d_O_overlap_32 ?_
          refine lv_icmp_ge (tgt := 57) hx hb d_O_overlap_33 (by decide) (fun c_33 => ?_) (fun c_33 => ?_)
          · refine lv_iinc (v := (nI (i + 1))) (lv' := [(4, .int (nI (i + 1))), (0, .ref (aa 4)), (1, .int x), (2, .int y), (3, .int z)]) hx hb d_O_overlap_57 hl (k := 4) rfl (nI_1 _) (by decide) rfl (fun ls hl => ?_)
            refine lv_goto (tgt := 3) hx hb d_O_overlap_60 (by decide) ?_
            have hn : fstN (ovB vv x y z) (i + 1) = none := fstN_none hf (by simp [ovB, c_20, c_33])
            exact ih (i + 1) (by omega) (by omega) hn ls (lv_sub hl [1, 2, 3, 4, 0] rfl)
          · refine lv_iload_n hx hb d_O_overlap_36 rfl (lv_at hl 2 rfl) ?_
            refine lv_aload_n hx hb d_O_overlap_37 rfl (lv_at hl 0 rfl) ?_
            refine va_get (D := (dC, dI)) (ci := 2) (v := .ref (aa 16)) (C := R_O) (T := F_O) (N := 4) hx hb hts i_O hown hK hP 4 rfl rfl 1 (by decide) (hts _ fl_O_15) (fun _ h9 => h9) rfl d_O_overlap_38 ?_
            refine lv_iload hx hb d_O_overlap_41 (lv_at hl 4 rfl) ?_
            refine va_iald hx hb hK hP 16 0 rfl rfl (vp_in_nI (by omega) (by omega)) d_O_overlap_43 ?_
            rw [nI_clamp (show i < 2 ^ 31 by omega)]
            refine lv_aload_n hx hb d_O_overlap_44 rfl (lv_at hl 0 rfl) ?_
            refine va_get (D := (dC, dI)) (ci := 2) (v := .ref (aa 17)) (C := R_O) (T := F_O) (N := 4) hx hb hts i_O hown hK hP 4 rfl rfl 2 (by decide) (hts _ fl_O_18) (fun _ h9 => h9) rfl d_O_overlap_45 ?_
            refine lv_iload hx hb d_O_overlap_48 (lv_at hl 4 rfl) ?_
            refine va_iald hx hb hK hP 17 0 rfl rfl (vp_in_nI (by omega) (by omega)) d_O_overlap_50 ?_
            rw [nI_clamp (show i < 2 ^ 31 by omega)]
            refine lv_iadd hx hb d_O_overlap_51 ?_
            refine lv_icmp_ge (tgt := 57) hx hb d_O_overlap_52 (by decide) (fun c_52 => ?_) (fun c_52 => ?_)
            · refine lv_iinc (v := (nI (i + 1))) (lv' := [(4, .int (nI (i + 1))), (0, .ref (aa 4)), (1, .int x), (2, .int y), (3, .int z)]) hx hb d_O_overlap_57 hl (k := 4) rfl (nI_1 _) (by decide) rfl (fun ls hl => ?_)
              refine lv_goto (tgt := 3) hx hb d_O_overlap_60 (by decide) ?_
              have hn : fstN (ovB vv x y z) (i + 1) = none := fstN_none hf (by simp [ovB, c_20, c_33, c_52])
              exact ih (i + 1) (by omega) (by omega) hn ls (lv_sub hl [1, 2, 3, 4, 0] rfl)
            · refine lv_iconst (v := 1) hx hb d_O_overlap_55 (by decide) ?_
              have er : (bI (fstN (ovB vv x y z) (nn 3)).isSome) = 1 := by rw [fstN_some hf (by simp [ovB, c_20, c_33, c_52]) _ hi2]; rfl
              exact W.zret (v := 1) hx hb hr rfl (fun t ht hW => ⟨by rw [er], ht⟩) (fun q h => by cases h) d_O_overlap_56
  exact loop_3 (nn 3 + 1) 0 (by omega) (by omega) rfl ls (lv_sub hl [1, 2, 3, 4, 0] rfl)
set_option maxRecDepth 100000 in
set_option maxHeartbeats 4000000 in
theorem c_S_height (hP : va_P (dC, dI) classes (wC aa cI cZ kn vv) H) (hI : okC kn nn) {k : Nat} (hk : k < 6) : Met l y_S_height (wB y_S_height b_S_height 2 (some .int)) ({ frames := 0, cells := 0, slots := 0, locals := 0 } : Room) (rP [.ref (aa 1), .int (nI k)] H (kK dC dI cI cZ cJ)) (QcRead (heC kn vv k)) 0 0 noA := by
  refine Met.ofW (cc := b_S_height) (maxL := 2) (ret := (some .int)) (by decide) rfl ?_
  intro p e s m args below meth c s₁ B hml hv
  obtain ⟨rfl, rfl, hK⟩ := hv
  have hx := B.exec
  have hb := B.bytes
  have hr := B.returns
  have hts0 := atoms_spec (ws := (wB y_S_height b_S_height 2 (some .int))) B.pre
  have hts : ∀ w9 ∈ BG, w9.before [.ref (aa 1), .int (nI k)].toArray s = true := fun w9 hw9 => hts0 w9 (List.mem_cons_of_mem _ hw9)
  have hown : s.vm.findClass R_S = some m.cls := findClass_of_methodNamed B.named
  have hlocks := B.notSynchronized
  have hK : va_K (dC, dI) classes [(cI, .int), (cZ, .boolean), (cJ, .long)] s := hK
  have hl := lv_entry ([.ref (aa 1), .int (nI k)]) (n := 2) (Nat.le_of_ble_eq_true rfl)
  rw [lg_entry_eq]
  generalize (lg_sl ([.ref (aa 1), .int (nI k)]) ++ List.replicate (2 - (lg_sl ([.ref (aa 1), .int (nI k)])).length) Slot.unset).toArray = ls at hl ⊢
  have hl : lv_has ls 2 [(0, .ref (aa 1)), (1, .int (nI k))] := hl
  obtain ⟨eK, b0, b1, b2, b3, b4, b5⟩ := id hI
  refine lv_iload_n hx hb d_S_height_0 rfl (lv_at hl 1 rfl) ?_
  refine lv_iconst (v := 1) hx hb d_S_height_1 (by decide) ?_
  refine lv_iadd hx hb d_S_height_2 ?_
  rw [nI_1]
  refine lv_aload_n hx hb d_S_height_3 rfl (lv_at hl 0 rfl) ?_
  refine va_get (D := (dC, dI)) (ci := 3) (v := .int (kn 0)) (C := R_S) (T := F_S) (N := 2) hx hb hts i_S hown hK hP 1 rfl rfl 1 (by decide) (hts _ fl_S_15) (fun _ h9 => h9) rfl d_S_height_4 ?_
  refine lv_icmp_ge (tgt := 28) hx hb d_S_height_7 (by decide) (fun c_7 => ?_) (fun c_7 => ?_)
  · refine lv_sipush (v := 300) hx hb d_S_height_28 (by decide) ?_
    have er : (heC kn vv k) = 300 := by simp [heC, c_7]
    exact W.iret (v := 300) hx hb hr (fun t ht hW => ⟨by rw [er], ht⟩) (fun q h => by cases h) d_S_height_31
  · have hk2 : k + 1 < nn 0 := ltC (eK 0 (by decide)) c_7 (by omega) (by omega)
    refine lv_aload_n hx hb d_S_height_10 rfl (lv_at hl 0 rfl) ?_
    refine va_get (D := (dC, dI)) (ci := 3) (v := .ref (aa 6)) (C := R_S) (T := F_S) (N := 2) hx hb hts i_S hown hK hP 1 rfl rfl 0 (by decide) (hts _ fl_S_9) (fun _ h9 => h9) rfl d_S_height_11 ?_
    refine lv_iload_n hx hb d_S_height_14 rfl (lv_at hl 1 rfl) ?_
    refine lv_iconst (v := 1) hx hb d_S_height_15 (by decide) ?_
    refine lv_iadd hx hb d_S_height_16 ?_
    rw [nI_1]
    refine va_iald hx hb hK hP 6 0 rfl rfl (vp_in_nI (by omega) (by omega)) d_S_height_17 ?_
    rw [nI_clamp (show (k + 1) < 2 ^ 31 by omega)]
    refine lv_aload_n hx hb d_S_height_18 rfl (lv_at hl 0 rfl) ?_
    refine va_get (D := (dC, dI)) (ci := 3) (v := .ref (aa 6)) (C := R_S) (T := F_S) (N := 2) hx hb hts i_S hown hK hP 1 rfl rfl 0 (by decide) (hts _ fl_S_9) (fun _ h9 => h9) rfl d_S_height_19 ?_
    refine lv_iload_n hx hb d_S_height_22 rfl (lv_at hl 1 rfl) ?_
    refine va_iald hx hb hK hP 6 0 rfl rfl (vp_in_nI (by omega) (by omega)) d_S_height_23 ?_
    rw [nI_clamp (show k < 2 ^ 31 by omega)]
    refine lv_isub hx hb d_S_height_24 ?_
    refine lv_goto (tgt := 31) hx hb d_S_height_25 (by decide) ?_
    have er : (heC kn vv k) = (((vv 0) (k + 1)) - ((vv 0) k)) := by simp [heC, c_7]
    exact W.iret (v := (((vv 0) (k + 1)) - ((vv 0) k))) hx hb hr (fun t ht hW => ⟨by rw [er], ht⟩) (fun q h => by cases h) d_S_height_31
set_option maxRecDepth 100000 in
set_option maxHeartbeats 4000000 in
theorem c_S_isBetweenNeighbours (hP : va_P (dC, dI) classes (wC aa cI cZ kn vv) H) (hI : okC kn nn) {k : Nat} (hk : k ≤ nn 0) (x : Int32) : Met l y_S_isBetweenNeighbours (wB y_S_isBetweenNeighbours b_S_isBetweenNeighbours 3 (some .boolean)) ({ frames := 0, cells := 0, slots := 0, locals := 0 } : Room) (rP [.ref (aa 1), .int (nI k), .int x] H (kK dC dI cI cZ cJ)) (QcRead (bI (bnB kn vv k x))) 0 0 noA := by
  refine Met.ofW (cc := b_S_isBetweenNeighbours) (maxL := 3) (ret := (some .boolean)) (by decide) rfl ?_
  intro p e s m args below meth c s₁ B hml hv
  obtain ⟨rfl, rfl, hK⟩ := hv
  have hx := B.exec
  have hb := B.bytes
  have hr := B.returns
  have hts0 := atoms_spec (ws := (wB y_S_isBetweenNeighbours b_S_isBetweenNeighbours 3 (some .boolean))) B.pre
  have hts : ∀ w9 ∈ BG, w9.before [.ref (aa 1), .int (nI k), .int x].toArray s = true := fun w9 hw9 => hts0 w9 (List.mem_cons_of_mem _ hw9)
  have hown : s.vm.findClass R_S = some m.cls := findClass_of_methodNamed B.named
  have hlocks := B.notSynchronized
  have hK : va_K (dC, dI) classes [(cI, .int), (cZ, .boolean), (cJ, .long)] s := hK
  have hl := lv_entry ([.ref (aa 1), .int (nI k), .int x]) (n := 3) (Nat.le_of_ble_eq_true rfl)
  rw [lg_entry_eq]
  generalize (lg_sl ([.ref (aa 1), .int (nI k), .int x]) ++ List.replicate (3 - (lg_sl ([.ref (aa 1), .int (nI k), .int x])).length) Slot.unset).toArray = ls at hl ⊢
  have hl : lv_has ls 3 [(0, .ref (aa 1)), (1, .int (nI k)), (2, .int x)] := hl
  obtain ⟨eK, b0, b1, b2, b3, b4, b5⟩ := id hI
  refine lv_iload_n hx hb d_S_isBetweenNeighbours_0 rfl (lv_at hl 1 rfl) ?_
  refine lv_if_eq (tgt := 16) hx hb d_S_isBetweenNeighbours_1 (by decide) (fun c_1 => ?_) (fun c_1 => ?_)
  · have hk0 : k = 0 := (nI_eq (by omega) (by decide)).mp (show nI k = nI 0 from c_1)
    have hkd : decide (k = 0) = true := decide_eq_true hk0
    refine lv_iload_n hx hb d_S_isBetweenNeighbours_16 rfl (lv_at hl 1 rfl) ?_
    refine lv_iconst (v := 1) hx hb d_S_isBetweenNeighbours_17 (by decide) ?_
    refine lv_iadd hx hb d_S_isBetweenNeighbours_18 ?_
    rw [nI_1]
    refine lv_aload_n hx hb d_S_isBetweenNeighbours_19 rfl (lv_at hl 0 rfl) ?_
    refine va_get (D := (dC, dI)) (ci := 3) (v := .int (kn 0)) (C := R_S) (T := F_S) (N := 2) hx hb hts i_S hown hK hP 1 rfl rfl 1 (by decide) (hts _ fl_S_15) (fun _ h9 => h9) rfl d_S_isBetweenNeighbours_20 ?_
    refine lv_icmp_ge (tgt := 38) hx hb d_S_isBetweenNeighbours_23 (by decide) (fun c_23 => ?_) (fun c_23 => ?_)
    · refine lv_iconst (v := 1) hx hb d_S_isBetweenNeighbours_38 (by decide) ?_
      refine lv_goto (tgt := 43) hx hb d_S_isBetweenNeighbours_39 (by decide) ?_
      have er : (bI (bnB kn vv k x)) = 1 := by simp only [bI, bnB, hkd, decide_eq_true c_1, decide_eq_true c_23, Bool.not_true, Bool.not_false, Bool.and_true, Bool.true_and, Bool.false_and, Bool.and_false, Bool.or_true, Bool.true_or, Bool.or_false, Bool.false_or, if_true, if_false, Bool.false_eq_true, Bool.true_eq_false]
      exact W.zret (v := 1) hx hb hr rfl (fun t ht hW => ⟨by rw [er], ht⟩) (fun q h => by cases h) d_S_isBetweenNeighbours_43
    · have hk2 : k + 1 < nn 0 := ltC (eK 0 (by decide)) c_23 (by omega) (by omega)
      refine lv_iload_n hx hb d_S_isBetweenNeighbours_26 rfl (lv_at hl 2 rfl) ?_
      refine lv_aload_n hx hb d_S_isBetweenNeighbours_27 rfl (lv_at hl 0 rfl) ?_
      refine va_get (D := (dC, dI)) (ci := 3) (v := .ref (aa 6)) (C := R_S) (T := F_S) (N := 2) hx hb hts i_S hown hK hP 1 rfl rfl 0 (by decide) (hts _ fl_S_9) (fun _ h9 => h9) rfl d_S_isBetweenNeighbours_28 ?_
      refine lv_iload_n hx hb d_S_isBetweenNeighbours_31 rfl (lv_at hl 1 rfl) ?_
      refine lv_iconst (v := 1) hx hb d_S_isBetweenNeighbours_32 (by decide) ?_
      refine lv_iadd hx hb d_S_isBetweenNeighbours_33 ?_
      rw [nI_1]
      refine va_iald hx hb hK hP 6 0 rfl rfl (vp_in_nI (by omega) (by omega)) d_S_isBetweenNeighbours_34 ?_
      rw [nI_clamp (show (k + 1) < 2 ^ 31 by omega)]
      refine lv_icmp_ge (tgt := 42) hx hb d_S_isBetweenNeighbours_35 (by decide) (fun c_35 => ?_) (fun c_35 => ?_)
      · refine lv_iconst (v := 0) hx hb d_S_isBetweenNeighbours_42 (by decide) ?_
        have er : (bI (bnB kn vv k x)) = 0 := by simp only [bI, bnB, hkd, decide_eq_true c_1, decide_eq_false c_23, decide_eq_true c_35, Bool.not_true, Bool.not_false, Bool.and_true, Bool.true_and, Bool.false_and, Bool.and_false, Bool.or_true, Bool.true_or, Bool.or_false, Bool.false_or, if_true, if_false, Bool.false_eq_true, Bool.true_eq_false]
        exact W.zret (v := 0) hx hb hr rfl (fun t ht hW => ⟨by rw [er], ht⟩) (fun q h => by cases h) d_S_isBetweenNeighbours_43
      · refine lv_iconst (v := 1) hx hb d_S_isBetweenNeighbours_38 (by decide) ?_
        refine lv_goto (tgt := 43) hx hb d_S_isBetweenNeighbours_39 (by decide) ?_
        have er : (bI (bnB kn vv k x)) = 1 := by simp only [bI, bnB, hkd, decide_eq_true c_1, decide_eq_false c_23, decide_eq_false c_35, Bool.not_true, Bool.not_false, Bool.and_true, Bool.true_and, Bool.false_and, Bool.and_false, Bool.or_true, Bool.true_or, Bool.or_false, Bool.false_or, if_true, if_false, Bool.false_eq_true, Bool.true_eq_false]
        exact W.zret (v := 1) hx hb hr rfl (fun t ht hW => ⟨by rw [er], ht⟩) (fun q h => by cases h) d_S_isBetweenNeighbours_43
  · have hk0 : ¬ k = 0 := fun h => c_1 (by rw [h]; rfl)
    have hkd : decide (k = 0) = false := decide_eq_false hk0
    refine lv_iload_n hx hb d_S_isBetweenNeighbours_4 rfl (lv_at hl 2 rfl) ?_
    refine lv_aload_n hx hb d_S_isBetweenNeighbours_5 rfl (lv_at hl 0 rfl) ?_
    refine va_get (D := (dC, dI)) (ci := 3) (v := .ref (aa 6)) (C := R_S) (T := F_S) (N := 2) hx hb hts i_S hown hK hP 1 rfl rfl 0 (by decide) (hts _ fl_S_9) (fun _ h9 => h9) rfl d_S_isBetweenNeighbours_6 ?_
    refine lv_iload_n hx hb d_S_isBetweenNeighbours_9 rfl (lv_at hl 1 rfl) ?_
    refine lv_iconst (v := 1) hx hb d_S_isBetweenNeighbours_10 (by decide) ?_
    refine lv_isub hx hb d_S_isBetweenNeighbours_11 ?_
    rw [show nI k - 1 = nI (k - 1) from pk_sub (a := k) (b := 1) (by omega)]
    refine va_iald hx hb hK hP 6 0 rfl rfl (vp_in_nI (by omega) (by omega)) d_S_isBetweenNeighbours_12 ?_
    rw [nI_clamp (show (k - 1) < 2 ^ 31 by omega)]
    refine lv_icmp_le (tgt := 42) hx hb d_S_isBetweenNeighbours_13 (by decide) (fun c_13 => ?_) (fun c_13 => ?_)
    · refine lv_iconst (v := 0) hx hb d_S_isBetweenNeighbours_42 (by decide) ?_
      have er : (bI (bnB kn vv k x)) = 0 := by simp only [bI, bnB, hkd, decide_eq_false c_1, decide_eq_true c_13, Bool.not_true, Bool.not_false, Bool.and_true, Bool.true_and, Bool.false_and, Bool.and_false, Bool.or_true, Bool.true_or, Bool.or_false, Bool.false_or, if_true, if_false, Bool.false_eq_true, Bool.true_eq_false]
      exact W.zret (v := 0) hx hb hr rfl (fun t ht hW => ⟨by rw [er], ht⟩) (fun q h => by cases h) d_S_isBetweenNeighbours_43
    · refine lv_iload_n hx hb d_S_isBetweenNeighbours_16 rfl (lv_at hl 1 rfl) ?_
      refine lv_iconst (v := 1) hx hb d_S_isBetweenNeighbours_17 (by decide) ?_
      refine lv_iadd hx hb d_S_isBetweenNeighbours_18 ?_
      rw [nI_1]
      refine lv_aload_n hx hb d_S_isBetweenNeighbours_19 rfl (lv_at hl 0 rfl) ?_
      refine va_get (D := (dC, dI)) (ci := 3) (v := .int (kn 0)) (C := R_S) (T := F_S) (N := 2) hx hb hts i_S hown hK hP 1 rfl rfl 1 (by decide) (hts _ fl_S_15) (fun _ h9 => h9) rfl d_S_isBetweenNeighbours_20 ?_
      refine lv_icmp_ge (tgt := 38) hx hb d_S_isBetweenNeighbours_23 (by decide) (fun c_23 => ?_) (fun c_23 => ?_)
      · refine lv_iconst (v := 1) hx hb d_S_isBetweenNeighbours_38 (by decide) ?_
        refine lv_goto (tgt := 43) hx hb d_S_isBetweenNeighbours_39 (by decide) ?_
        have er : (bI (bnB kn vv k x)) = 1 := by simp only [bI, bnB, hkd, decide_eq_false c_1, decide_eq_false c_13, decide_eq_true c_23, Bool.not_true, Bool.not_false, Bool.and_true, Bool.true_and, Bool.false_and, Bool.and_false, Bool.or_true, Bool.true_or, Bool.or_false, Bool.false_or, if_true, if_false, Bool.false_eq_true, Bool.true_eq_false]
        exact W.zret (v := 1) hx hb hr rfl (fun t ht hW => ⟨by rw [er], ht⟩) (fun q h => by cases h) d_S_isBetweenNeighbours_43
      · have hk2 : k + 1 < nn 0 := ltC (eK 0 (by decide)) c_23 (by omega) (by omega)
        refine lv_iload_n hx hb d_S_isBetweenNeighbours_26 rfl (lv_at hl 2 rfl) ?_
        refine lv_aload_n hx hb d_S_isBetweenNeighbours_27 rfl (lv_at hl 0 rfl) ?_
        refine va_get (D := (dC, dI)) (ci := 3) (v := .ref (aa 6)) (C := R_S) (T := F_S) (N := 2) hx hb hts i_S hown hK hP 1 rfl rfl 0 (by decide) (hts _ fl_S_9) (fun _ h9 => h9) rfl d_S_isBetweenNeighbours_28 ?_
        refine lv_iload_n hx hb d_S_isBetweenNeighbours_31 rfl (lv_at hl 1 rfl) ?_
        refine lv_iconst (v := 1) hx hb d_S_isBetweenNeighbours_32 (by decide) ?_
        refine lv_iadd hx hb d_S_isBetweenNeighbours_33 ?_
        rw [nI_1]
        refine va_iald hx hb hK hP 6 0 rfl rfl (vp_in_nI (by omega) (by omega)) d_S_isBetweenNeighbours_34 ?_
        rw [nI_clamp (show (k + 1) < 2 ^ 31 by omega)]
        refine lv_icmp_ge (tgt := 42) hx hb d_S_isBetweenNeighbours_35 (by decide) (fun c_35 => ?_) (fun c_35 => ?_)
        · refine lv_iconst (v := 0) hx hb d_S_isBetweenNeighbours_42 (by decide) ?_
          have er : (bI (bnB kn vv k x)) = 0 := by simp only [bI, bnB, hkd, decide_eq_false c_1, decide_eq_false c_13, decide_eq_false c_23, decide_eq_true c_35, Bool.not_true, Bool.not_false, Bool.and_true, Bool.true_and, Bool.false_and, Bool.and_false, Bool.or_true, Bool.true_or, Bool.or_false, Bool.false_or, if_true, if_false, Bool.false_eq_true, Bool.true_eq_false]
          exact W.zret (v := 0) hx hb hr rfl (fun t ht hW => ⟨by rw [er], ht⟩) (fun q h => by cases h) d_S_isBetweenNeighbours_43
        · refine lv_iconst (v := 1) hx hb d_S_isBetweenNeighbours_38 (by decide) ?_
          refine lv_goto (tgt := 43) hx hb d_S_isBetweenNeighbours_39 (by decide) ?_
          have er : (bI (bnB kn vv k x)) = 1 := by simp only [bI, bnB, hkd, decide_eq_false c_1, decide_eq_false c_13, decide_eq_false c_23, decide_eq_false c_35, Bool.not_true, Bool.not_false, Bool.and_true, Bool.true_and, Bool.false_and, Bool.and_false, Bool.or_true, Bool.true_or, Bool.or_false, Bool.false_or, if_true, if_false, Bool.false_eq_true, Bool.true_eq_false]
          exact W.zret (v := 1) hx hb hr rfl (fun t ht hW => ⟨by rw [er], ht⟩) (fun q h => by cases h) d_S_isBetweenNeighbours_43
set_option maxRecDepth 100000 in
set_option maxHeartbeats 4000000 in
theorem c_C_openingsOn (hP : va_P (dC, dI) classes (wC aa cI cZ kn vv) H) (hI : okC kn nn) (x : Int32) : Met l y_C_openingsOn (wB y_C_openingsOn b_C_openingsOn 4 (some .int)) ({ frames := 2, cells := 0, slots := 0, locals := 43 } : Room) (rP [.ref (aa 0), .int x] H (kK dC dI cI cZ cJ)) (QcRead (nI (cnt (fun i => onB kn vv (vv 9 i) x) (nn 3)))) 0 0 noA := by
  refine Met.ofW (cc := b_C_openingsOn) (maxL := 4) (ret := (some .int)) (by decide) rfl ?_
  intro p e s m args below meth c s₁ B hml hv
  obtain ⟨rfl, rfl, hK⟩ := hv
  have hx := B.exec
  have hb := B.bytes
  have hr := B.returns
  have hts0 := atoms_spec (ws := (wB y_C_openingsOn b_C_openingsOn 4 (some .int))) B.pre
  have hts : ∀ w9 ∈ BG, w9.before [.ref (aa 0), .int x].toArray s = true := fun w9 hw9 => hts0 w9 (List.mem_cons_of_mem _ hw9)
  have hown : s.vm.findClass R_C = some m.cls := findClass_of_methodNamed B.named
  have hlocks := B.notSynchronized
  have hK : va_K (dC, dI) classes [(cI, .int), (cZ, .boolean), (cJ, .long)] s := hK
  have hl := lv_entry ([.ref (aa 0), .int x]) (n := 4) (Nat.le_of_ble_eq_true rfl)
  rw [lg_entry_eq]
  generalize (lg_sl ([.ref (aa 0), .int x]) ++ List.replicate (4 - (lg_sl ([.ref (aa 0), .int x])).length) Slot.unset).toArray = ls at hl ⊢
  have hl : lv_has ls 4 [(0, .ref (aa 0)), (1, .int x)] := hl
  obtain ⟨eK, b0, b1, b2, b3, b4, b5⟩ := id hI
  refine lv_iconst (v := 0) hx hb d_C_openingsOn_0 (by decide) ?_
  refine lv_istore_n (lv' := [(2, .int 0), (0, .ref (aa 0)), (1, .int x)]) hx hb d_C_openingsOn_1 rfl hl (by decide) rfl (fun ls hl => ?_)
  refine lv_iconst (v := 0) hx hb d_C_openingsOn_2 (by decide) ?_
  refine lv_istore_n (lv' := [(3, .int 0), (2, .int 0), (0, .ref (aa 0)), (1, .int x)]) hx hb d_C_openingsOn_3 rfl hl (by decide) rfl (fun ls hl => ?_)
  have loop_4 : ∀ (k9 i : Nat), nn 3 + 1 ≤ i + k9 → i ≤ nn 3 → ∀ (ls : Array Slot), lv_has ls 4 [(0, .ref (aa 0)), (1, .int x), (2, .int (nI (cnt (fun i => onB kn vv (vv 9 i) x) i))), (3, .int (nI i))] → W p l e (headSpec (wB y_C_openingsOn b_C_openingsOn 4 (some .int)) ({ frames := 2, cells := 0, slots := 0, locals := 43 } : Room)).room s m [.ref (aa 0), .int x].toArray below meth c s.heap [] 0 0 (MQ below (QcRead (nI (cnt (fun i => onB kn vv (vv 9 i) x) (nn 3)))) [.ref (aa 0), .int x].toArray s 0 0 noA) (F0 m 4 ls []) := by
    intro k9
    induction k9 with
    | zero => intro i hk hi ls hl; exact absurd hk (by omega)
    | succ k9 ih =>
      intro i hk hi ls hl
      refine lv_iload_n hx hb d_C_openingsOn_4 rfl (lv_at hl 3 rfl) ?_
      refine lv_aload_n hx hb d_C_openingsOn_5 rfl (lv_at hl 0 rfl) ?_
      refine va_get (D := (dC, dI)) (ci := 0) (v := .ref (aa 4)) (C := R_C) (T := F_C) (N := 5) hx hb hts i_C hown hK hP 0 rfl rfl 3 (by decide) (hts _ fl_C_33) (fun _ h9 => h9) rfl d_C_openingsOn_6 ?_
      refine va_get (D := (dC, dI)) (ci := 2) (v := .int (kn 3)) (C := R_O) (T := F_O) (N := 4) hx hb hts i_O hown hK hP 4 rfl rfl 3 (by decide) (hts _ fl_C_123) (fun _ h9 => h9) rfl d_C_openingsOn_9 ?_
      refine lv_icmp_ge (tgt := 44) hx hb d_C_openingsOn_12 (by decide) (fun c_12 => ?_) (fun c_12 => ?_)
      · have hi2 : nn 3 ≤ i := geC (eK 3 (by decide)) c_12 (by omega) (by omega)
        refine lv_iload_n hx hb d_C_openingsOn_44 rfl (lv_at hl 2 rfl) ?_
        have er : (nI (cnt (fun i => onB kn vv (vv 9 i) x) (nn 3))) = (nI (cnt (fun i => onB kn vv (vv 9 i) x) i)) := by rw [show i = nn 3 by omega]
        exact W.iret (v := (nI (cnt (fun i => onB kn vv (vv 9 i) x) i))) hx hb hr (fun t ht hW => ⟨by rw [er], ht⟩) (fun q h => by cases h) d_C_openingsOn_45
      · have hi2 : i < nn 3 := ltC (eK 3 (by decide)) c_12 (by omega) (by omega)
        refine lv_aload_n hx hb d_C_openingsOn_15 rfl (lv_at hl 0 rfl) ?_
        refine va_get (D := (dC, dI)) (ci := 0) (v := .ref (aa 3)) (C := R_C) (T := F_C) (N := 5) hx hb hts i_C hown hK hP 0 rfl rfl 2 (by decide) (hts _ fl_C_26) (fun _ h9 => h9) rfl d_C_openingsOn_16 ?_
        refine lv_aload_n hx hb d_C_openingsOn_19 rfl (lv_at hl 0 rfl) ?_
        refine va_get (D := (dC, dI)) (ci := 0) (v := .ref (aa 4)) (C := R_C) (T := F_C) (N := 5) hx hb hts i_C hown hK hP 0 rfl rfl 3 (by decide) (hts _ fl_C_33) (fun _ h9 => h9) rfl d_C_openingsOn_20 ?_
        refine va_get (D := (dC, dI)) (ci := 2) (v := .ref (aa 15)) (C := R_O) (T := F_O) (N := 4) hx hb hts i_O hown hK hP 4 rfl rfl 0 (by decide) (hts _ fl_C_186) (fun _ h9 => h9) rfl d_C_openingsOn_23 ?_
        refine lv_iload_n hx hb d_C_openingsOn_26 rfl (lv_at hl 3 rfl) ?_
        refine va_iald hx hb hK hP 15 0 rfl rfl (vp_in_nI (by omega) (by omega)) d_C_openingsOn_27 ?_
        rw [nI_clamp (show i < 2 ^ 31 by omega)]
        refine lv_iload_n hx hb d_C_openingsOn_28 rfl (lv_at hl 1 rfl) ?_
        refine cR (W.runV (As := [.int ((vv 9) i), .int x]) (rest := []) ⟨hx, hb, hml, hown, hts⟩ (c_W_isOn hP hI ((vv 9) i) x) (cwV 2 hts (wB_goodV (fun _ h => h) ml_C_219 im_W_isOn se_W_isOn ini_W co_W_isOn) rfl rfl rfl (by decide +kernel) ⟨Nat.le_of_ble_eq_true rfl, Nat.le_of_ble_eq_true rfl⟩) (pV hK hP (ci := 5) (q0 := 3) rfl rfl _) rfl rfl hl.1 rfl (lv_room (Nat.le_of_ble_eq_true rfl)) d_C_openingsOn_29 ⟨Nat.zero_le _, Nat.zero_le _⟩) ?_
        refine lv_if_eq (tgt := 38) hx hb d_C_openingsOn_32 (by decide) (fun c_32 => ?_) (fun c_32 => ?_)
        · refine lv_iinc (v := (nI (i + 1))) (lv' := [(3, .int (nI (i + 1))), (0, .ref (aa 0)), (1, .int x), (2, .int (nI (cnt (fun i => onB kn vv (vv 9 i) x) i)))]) hx hb d_C_openingsOn_38 hl (k := 3) rfl (nI_1 _) (by decide) rfl (fun ls hl => ?_)
          refine lv_goto (tgt := 4) hx hb d_C_openingsOn_41 (by decide) ?_
          rw [cnt_f (p := (fun i => onB kn vv (vv 9 i) x)) (bI_0.mp c_32)] at hl
          exact ih (i + 1) (by omega) (by omega) ls (lv_sub hl [1, 2, 3, 0] rfl)
        · refine lv_iinc (v := (nI ((cnt (fun i => onB kn vv (vv 9 i) x) i) + 1))) (lv' := [(2, .int (nI ((cnt (fun i => onB kn vv (vv 9 i) x) i) + 1))), (0, .ref (aa 0)), (1, .int x), (3, .int (nI i))]) hx hb d_C_openingsOn_35 hl (k := 2) rfl (nI_1 _) (by decide) rfl (fun ls hl => ?_)
          refine lv_iinc (v := (nI (i + 1))) (lv' := [(3, .int (nI (i + 1))), (2, .int (nI ((cnt (fun i => onB kn vv (vv 9 i) x) i) + 1))), (0, .ref (aa 0)), (1, .int x)]) hx hb d_C_openingsOn_38 hl (k := 3) rfl (nI_1 _) (by decide) rfl (fun ls hl => ?_)
          refine lv_goto (tgt := 4) hx hb d_C_openingsOn_41 (by decide) ?_
          rw [cnt_t (p := (fun i => onB kn vv (vv 9 i) x)) (bI_n0.mp c_32)] at hl
          exact ih (i + 1) (by omega) (by omega) ls (lv_sub hl [2, 3, 1, 0] rfl)
  exact loop_4 (nn 3 + 1) 0 (by omega) (by omega) ls (lv_sub hl [2, 3, 1, 0] rfl)
set_option maxRecDepth 100000 in
set_option maxHeartbeats 4000000 in
theorem c_C_halfThickness (hP : va_P (dC, dI) classes (wC aa cI cZ kn vv) H) (hI : okC kn nn) (hV : okV nn vv) {w : Nat} (hw : w < nn 2) : Met l y_C_halfThickness (wB y_C_halfThickness b_C_halfThickness 2 (some .int)) ({ frames := 0, cells := 0, slots := 0, locals := 0 } : Room) (rP [.ref (aa 0), .int (nI w)] H (kK dC dI cI cZ cJ)) (QcRead (haC vv w)) 0 0 noA := by
  refine Met.ofW (cc := b_C_halfThickness) (maxL := 2) (ret := (some .int)) (by decide) rfl ?_
  intro p e s m args below meth c s₁ B hml hv
  obtain ⟨rfl, rfl, hK⟩ := hv
  have hx := B.exec
  have hb := B.bytes
  have hr := B.returns
  have hts0 := atoms_spec (ws := (wB y_C_halfThickness b_C_halfThickness 2 (some .int))) B.pre
  have hts : ∀ w9 ∈ BG, w9.before [.ref (aa 0), .int (nI w)].toArray s = true := fun w9 hw9 => hts0 w9 (List.mem_cons_of_mem _ hw9)
  have hown : s.vm.findClass R_C = some m.cls := findClass_of_methodNamed B.named
  have hlocks := B.notSynchronized
  have hK : va_K (dC, dI) classes [(cI, .int), (cZ, .boolean), (cJ, .long)] s := hK
  have hl := lv_entry ([.ref (aa 0), .int (nI w)]) (n := 2) (Nat.le_of_ble_eq_true rfl)
  rw [lg_entry_eq]
  generalize (lg_sl ([.ref (aa 0), .int (nI w)]) ++ List.replicate (2 - (lg_sl ([.ref (aa 0), .int (nI w)])).length) Slot.unset).toArray = ls at hl ⊢
  have hl : lv_has ls 2 [(0, .ref (aa 0)), (1, .int (nI w))] := hl
  obtain ⟨eK, b0, b1, b2, b3, b4, b5⟩ := id hI
  refine lv_aload_n hx hb d_C_halfThickness_0 rfl (lv_at hl 0 rfl) ?_
  refine va_get (D := (dC, dI)) (ci := 0) (v := .ref (aa 2)) (C := R_C) (T := F_C) (N := 5) hx hb hts i_C hown hK hP 0 rfl rfl 1 (by decide) (hts _ fl_C_19) (fun _ h9 => h9) rfl d_C_halfThickness_1 ?_
  refine va_get (D := (dC, dI)) (ci := 4) (v := .ref (aa 7)) (C := R_T) (T := F_T) (N := 2) hx hb hts i_T hown hK hP 2 rfl rfl 0 (by decide) (hts _ fl_C_80) (fun _ h9 => h9) rfl d_C_halfThickness_4 ?_
  refine lv_aload_n hx hb d_C_halfThickness_7 rfl (lv_at hl 0 rfl) ?_
  refine va_get (D := (dC, dI)) (ci := 0) (v := .ref (aa 3)) (C := R_C) (T := F_C) (N := 5) hx hb hts i_C hown hK hP 0 rfl rfl 2 (by decide) (hts _ fl_C_26) (fun _ h9 => h9) rfl d_C_halfThickness_8 ?_
  refine va_get (D := (dC, dI)) (ci := 5) (v := .ref (aa 9)) (C := R_W) (T := F_W) (N := 8) hx hb hts i_W hown hK hP 3 rfl rfl 1 (by decide) (hts _ fl_C_168) (fun _ h9 => h9) rfl d_C_halfThickness_11 ?_
  refine lv_iload_n hx hb d_C_halfThickness_14 rfl (lv_at hl 1 rfl) ?_
  refine va_iald hx hb hK hP 9 0 rfl rfl (vp_in_nI (by omega) (by omega)) d_C_halfThickness_15 ?_
  rw [nI_clamp (show w < 2 ^ 31 by omega)]
  refine va_iald hx hb hK hP 7 0 rfl rfl (ixT hV b1 hw) d_C_halfThickness_16 ?_
  refine lv_iconst (v := 2) hx hb d_C_halfThickness_17 (by decide) ?_
  refine lv_idiv hx hb d_C_halfThickness_18 (by decide) ?_
  have er : (haC vv w) = (((vv 1) ((vv 3) w).toNatClampNeg) / 2) := by rfl
  exact W.iret (v := (((vv 1) ((vv 3) w).toNatClampNeg) / 2)) hx hb hr (fun t ht hW => ⟨by rw [er], ht⟩) (fun q h => by cases h) d_C_halfThickness_19
set_option maxRecDepth 100000 in
set_option maxHeartbeats 4000000 in
theorem c_C_gainByJoin (hP : va_P (dC, dI) classes (wC aa cI cZ kn vv) H) (hI : okC kn nn) (hV : okV nn vv) {w : Nat} (hw : w < nn 2) {x : Int32} (hx9 : x = -1 ∨ ∃ j, j < nn 2 ∧ x = nI j) : Met l y_C_gainByJoin (wB y_C_gainByJoin b_C_gainByJoin 4 (some .int)) ({ frames := 1, cells := 0, slots := 0, locals := 21 } : Room) (rP [.ref (aa 0), .int (nI w), .int x] H (kK dC dI cI cZ cJ)) (QcRead (gaC vv w x)) 0 0 noA := by
  refine Met.ofW (cc := b_C_gainByJoin) (maxL := 4) (ret := (some .int)) (by decide) rfl ?_
  intro p e s m args below meth c s₁ B hml hv
  obtain ⟨rfl, rfl, hK⟩ := hv
  have hx := B.exec
  have hb := B.bytes
  have hr := B.returns
  have hts0 := atoms_spec (ws := (wB y_C_gainByJoin b_C_gainByJoin 4 (some .int))) B.pre
  have hts : ∀ w9 ∈ BG, w9.before [.ref (aa 0), .int (nI w), .int x].toArray s = true := fun w9 hw9 => hts0 w9 (List.mem_cons_of_mem _ hw9)
  have hown : s.vm.findClass R_C = some m.cls := findClass_of_methodNamed B.named
  have hlocks := B.notSynchronized
  have hK : va_K (dC, dI) classes [(cI, .int), (cZ, .boolean), (cJ, .long)] s := hK
  have hl := lv_entry ([.ref (aa 0), .int (nI w), .int x]) (n := 4) (Nat.le_of_ble_eq_true rfl)
  rw [lg_entry_eq]
  generalize (lg_sl ([.ref (aa 0), .int (nI w), .int x]) ++ List.replicate (4 - (lg_sl ([.ref (aa 0), .int (nI w), .int x])).length) Slot.unset).toArray = ls at hl ⊢
  have hl : lv_has ls 4 [(0, .ref (aa 0)), (1, .int (nI w)), (2, .int x)] := hl
  obtain ⟨eK, b0, b1, b2, b3, b4, b5⟩ := id hI
  refine lv_iload_n hx hb d_C_gainByJoin_0 rfl (lv_at hl 2 rfl) ?_
  refine lv_iconst (v := (-1)) hx hb d_C_gainByJoin_1 (by decide) ?_
  refine lv_icmp_ne (tgt := 7) hx hb d_C_gainByJoin_2 (by decide) (fun c_2 => ?_) (fun c_2 => ?_)
  · obtain ⟨j, hj, ej⟩ := hx9.resolve_left c_2
    rw [ej] at hl
    refine lv_aload_n hx hb d_C_gainByJoin_7 rfl (lv_at hl 0 rfl) ?_
    refine lv_iload_n hx hb d_C_gainByJoin_8 rfl (lv_at hl 2 rfl) ?_
    refine cR (W.runV (As := [.int (nI j)]) (rest := []) ⟨hx, hb, hml, hown, hts⟩ (c_C_halfThickness hP hI hV hj) (cwV 1 hts (wB_goodV (fun _ h => h) ml_C_288 im_C_halfThickness se_C_halfThickness ini_C co_C_halfThickness) rfl rfl rfl (by decide +kernel) ⟨Nat.le_of_ble_eq_true rfl, Nat.le_of_ble_eq_true rfl⟩) (pV hK hP (ci := 0) (q0 := 0) rfl rfl _) rfl rfl hl.1 rfl (lv_room (Nat.le_of_ble_eq_true rfl)) d_C_gainByJoin_9 ⟨Nat.zero_le _, Nat.zero_le _⟩) ?_
    refine lv_istore_n (lv' := [(3, .int (haC vv j)), (0, .ref (aa 0)), (1, .int (nI w)), (2, .int (nI j))]) hx hb d_C_gainByJoin_12 rfl hl (by decide) rfl (fun ls hl => ?_)
    refine lv_iload_n hx hb d_C_gainByJoin_13 rfl (lv_at hl 3 rfl) ?_
    refine lv_iload_n hx hb d_C_gainByJoin_14 rfl (lv_at hl 2 rfl) ?_
    refine lv_icmp_ge (tgt := 23) hx hb d_C_gainByJoin_15 (by decide) (fun c_15 => ?_) (fun c_15 => ?_)
    · refine lv_iload_n hx hb d_C_gainByJoin_23 rfl (lv_at hl 0 rfl) ?_
      have er : (gaC vv w x) = (haC vv j) := by rw [gaC, if_neg c_2, ej, nI_clamp (show j < 2 ^ 31 by omega)]; simp [c_15]
      exact W.iret (v := (haC vv j)) hx hb hr (fun t ht hW => ⟨by rw [er], ht⟩) (fun q h => by cases h) d_C_gainByJoin_24
    · refine lv_iload_n hx hb d_C_gainByJoin_18 rfl (lv_at hl 0 rfl) ?_
      refine lv_ineg hx hb d_C_gainByJoin_19 ?_
      refine lv_goto (tgt := 24) hx hb d_C_gainByJoin_20 (by decide) ?_
      have er : (gaC vv w x) = (-(haC vv j)) := by rw [gaC, if_neg c_2, ej, nI_clamp (show j < 2 ^ 31 by omega)]; simp [c_15]
      exact W.iret (v := (-(haC vv j))) hx hb hr (fun t ht hW => ⟨by rw [er], ht⟩) (fun q h => by cases h) d_C_gainByJoin_24
  · refine lv_iconst (v := 0) hx hb d_C_gainByJoin_5 (by decide) ?_
    have er : (gaC vv w x) = 0 := by simp [gaC, c_2]
    exact W.iret (v := 0) hx hb hr (fun t ht hW => ⟨by rw [er], ht⟩) (fun q h => by cases h) d_C_gainByJoin_6
set_option maxRecDepth 100000 in
set_option maxHeartbeats 4000000 in
theorem c_C_netLength (hP : va_P (dC, dI) classes (wC aa cI cZ kn vv) H) (hI : okC kn nn) (hV : okV nn vv) {w : Nat} (hw : w < nn 2) : Met l y_C_netLength (wB y_C_netLength b_C_netLength 4 (some .long)) ({ frames := 3, cells := 0, slots := 0, locals := 67 } : Room) (rP [.ref (aa 0), .int (nI w)] H (kK dC dI cI cZ cJ)) (QcReadL (neC kn vv nn w)) 0 0 noA := by
  refine Met.ofW (cc := b_C_netLength) (maxL := 4) (ret := (some .long)) (by decide) rfl ?_
  intro p e s m args below meth c s₁ B hml hv
  obtain ⟨rfl, rfl, hK⟩ := hv
  have hx := B.exec
  have hb := B.bytes
  have hr := B.returns
  have hts0 := atoms_spec (ws := (wB y_C_netLength b_C_netLength 4 (some .long))) B.pre
  have hts : ∀ w9 ∈ BG, w9.before [.ref (aa 0), .int (nI w)].toArray s = true := fun w9 hw9 => hts0 w9 (List.mem_cons_of_mem _ hw9)
  have hown : s.vm.findClass R_C = some m.cls := findClass_of_methodNamed B.named
  have hlocks := B.notSynchronized
  have hK : va_K (dC, dI) classes [(cI, .int), (cZ, .boolean), (cJ, .long)] s := hK
  have hl := lv_entry ([.ref (aa 0), .int (nI w)]) (n := 4) (Nat.le_of_ble_eq_true rfl)
  rw [lg_entry_eq]
  generalize (lg_sl ([.ref (aa 0), .int (nI w)]) ++ List.replicate (4 - (lg_sl ([.ref (aa 0), .int (nI w)])).length) Slot.unset).toArray = ls at hl ⊢
  have hl : lv_has ls 4 [(0, .ref (aa 0)), (1, .int (nI w))] := hl
  obtain ⟨eK, b0, b1, b2, b3, b4, b5⟩ := id hI
  refine lv_aload_n hx hb d_C_netLength_0 rfl (lv_at hl 0 rfl) ?_
  refine va_get (D := (dC, dI)) (ci := 0) (v := .ref (aa 3)) (C := R_C) (T := F_C) (N := 5) hx hb hts i_C hown hK hP 0 rfl rfl 2 (by decide) (hts _ fl_C_26) (fun _ h9 => h9) rfl d_C_netLength_1 ?_
  refine lv_iload_n hx hb d_C_netLength_4 rfl (lv_at hl 1 rfl) ?_
  refine lv_aload_n hx hb d_C_netLength_5 rfl (lv_at hl 0 rfl) ?_
  refine va_get (D := (dC, dI)) (ci := 0) (v := .ref (aa 3)) (C := R_C) (T := F_C) (N := 5) hx hb hts i_C hown hK hP 0 rfl rfl 2 (by decide) (hts _ fl_C_26) (fun _ h9 => h9) rfl d_C_netLength_6 ?_
  refine va_get (D := (dC, dI)) (ci := 5) (v := .ref (aa 10)) (C := R_W) (T := F_W) (N := 8) hx hb hts i_W hown hK hP 3 rfl rfl 2 (by decide) (hts _ fl_C_105) (fun _ h9 => h9) rfl d_C_netLength_9 ?_
  refine lv_iload_n hx hb d_C_netLength_12 rfl (lv_at hl 1 rfl) ?_
  refine va_iald hx hb hK hP 10 0 rfl rfl (vp_in_nI (by omega) (by omega)) d_C_netLength_13 ?_
  rw [nI_clamp (show w < 2 ^ 31 by omega)]
  refine lv_aload_n hx hb d_C_netLength_14 rfl (lv_at hl 0 rfl) ?_
  refine va_get (D := (dC, dI)) (ci := 0) (v := .ref (aa 3)) (C := R_C) (T := F_C) (N := 5) hx hb hts i_C hown hK hP 0 rfl rfl 2 (by decide) (hts _ fl_C_26) (fun _ h9 => h9) rfl d_C_netLength_15 ?_
  refine va_get (D := (dC, dI)) (ci := 5) (v := .ref (aa 11)) (C := R_W) (T := F_W) (N := 8) hx hb hts i_W hown hK hP 3 rfl rfl 3 (by decide) (hts _ fl_C_108) (fun _ h9 => h9) rfl d_C_netLength_18 ?_
  refine lv_iload_n hx hb d_C_netLength_21 rfl (lv_at hl 1 rfl) ?_
  refine va_iald hx hb hK hP 11 0 rfl rfl (vp_in_nI (by omega) (by omega)) d_C_netLength_22 ?_
  rw [nI_clamp (show w < 2 ^ 31 by omega)]
  refine cR (W.runV (As := [.int (nI w), .int ((vv 4) w), .int ((vv 5) w)]) (rest := []) ⟨hx, hb, hml, hown, hts⟩ (c_W_leastAcross hP hI (show w < 40 by omega) (vv 4 w) (vv 5 w)) (cwV 3 hts (wB_goodV (fun _ h => h) ml_C_281 im_W_leastAcross se_W_leastAcross ini_W co_W_leastAcross) rfl rfl rfl (by decide +kernel) ⟨Nat.le_of_ble_eq_true rfl, Nat.le_of_ble_eq_true rfl⟩) (pV hK hP (ci := 5) (q0 := 3) rfl rfl _) rfl rfl hl.1 rfl (lv_room (Nat.le_of_ble_eq_true rfl)) d_C_netLength_23 ⟨Nat.zero_le _, Nat.zero_le _⟩) ?_
  refine lv_istore_n (lv' := [(2, .int (oI (fstN (acB kn vv w ((vv 4) w) ((vv 5) w)) (nn 2)))), (0, .ref (aa 0)), (1, .int (nI w))]) hx hb d_C_netLength_26 rfl hl (by decide) rfl (fun ls hl => ?_)
  refine lv_aload_n hx hb d_C_netLength_27 rfl (lv_at hl 1 rfl) ?_
  refine va_get (D := (dC, dI)) (ci := 0) (v := .ref (aa 3)) (C := R_C) (T := F_C) (N := 5) hx hb hts i_C hown hK hP 0 rfl rfl 2 (by decide) (hts _ fl_C_26) (fun _ h9 => h9) rfl d_C_netLength_28 ?_
  refine lv_iload_n hx hb d_C_netLength_31 rfl (lv_at hl 2 rfl) ?_
  refine lv_aload_n hx hb d_C_netLength_32 rfl (lv_at hl 1 rfl) ?_
  refine va_get (D := (dC, dI)) (ci := 0) (v := .ref (aa 3)) (C := R_C) (T := F_C) (N := 5) hx hb hts i_C hown hK hP 0 rfl rfl 2 (by decide) (hts _ fl_C_26) (fun _ h9 => h9) rfl d_C_netLength_33 ?_
  refine va_get (D := (dC, dI)) (ci := 5) (v := .ref (aa 12)) (C := R_W) (T := F_W) (N := 8) hx hb hts i_W hown hK hP 3 rfl rfl 4 (by decide) (hts _ fl_C_111) (fun _ h9 => h9) rfl d_C_netLength_36 ?_
  refine lv_iload_n hx hb d_C_netLength_39 rfl (lv_at hl 2 rfl) ?_
  refine va_iald hx hb hK hP 12 0 rfl rfl (vp_in_nI (by omega) (by omega)) d_C_netLength_40 ?_
  rw [nI_clamp (show w < 2 ^ 31 by omega)]
  refine lv_aload_n hx hb d_C_netLength_41 rfl (lv_at hl 1 rfl) ?_
  refine va_get (D := (dC, dI)) (ci := 0) (v := .ref (aa 3)) (C := R_C) (T := F_C) (N := 5) hx hb hts i_C hown hK hP 0 rfl rfl 2 (by decide) (hts _ fl_C_26) (fun _ h9 => h9) rfl d_C_netLength_42 ?_
  refine va_get (D := (dC, dI)) (ci := 5) (v := .ref (aa 13)) (C := R_W) (T := F_W) (N := 8) hx hb hts i_W hown hK hP 3 rfl rfl 5 (by decide) (hts _ fl_C_114) (fun _ h9 => h9) rfl d_C_netLength_45 ?_
  refine lv_iload_n hx hb d_C_netLength_48 rfl (lv_at hl 2 rfl) ?_
  refine va_iald hx hb hK hP 13 0 rfl rfl (vp_in_nI (by omega) (by omega)) d_C_netLength_49 ?_
  rw [nI_clamp (show w < 2 ^ 31 by omega)]
  refine cR (W.runV (As := [.int (nI w), .int ((vv 6) w), .int ((vv 7) w)]) (rest := []) ⟨hx, hb, hml, hown, hts⟩ (c_W_leastAcross hP hI (show w < 40 by omega) (vv 6 w) (vv 7 w)) (cwV 3 hts (wB_goodV (fun _ h => h) ml_C_281 im_W_leastAcross se_W_leastAcross ini_W co_W_leastAcross) rfl rfl rfl (by decide +kernel) ⟨Nat.le_of_ble_eq_true rfl, Nat.le_of_ble_eq_true rfl⟩) (pV hK hP (ci := 5) (q0 := 3) rfl rfl _) rfl rfl hl.1 rfl (lv_room (Nat.le_of_ble_eq_true rfl)) d_C_netLength_50 ⟨Nat.zero_le _, Nat.zero_le _⟩) ?_
  refine lv_istore_n (lv' := [(3, .int (oI (fstN (acB kn vv w ((vv 6) w) ((vv 7) w)) (nn 2)))), (2, .int (oI (fstN (acB kn vv w ((vv 4) w) ((vv 5) w)) (nn 2)))), (0, .ref (aa 0)), (1, .int (nI w))]) hx hb d_C_netLength_53 rfl hl (by decide) rfl (fun ls hl => ?_)
  refine lv_aload_n hx hb d_C_netLength_54 rfl (lv_at hl 2 rfl) ?_
  refine va_get (D := (dC, dI)) (ci := 0) (v := .ref (aa 3)) (C := R_C) (T := F_C) (N := 5) hx hb hts i_C hown hK hP 0 rfl rfl 2 (by decide) (hts _ fl_C_26) (fun _ h9 => h9) rfl d_C_netLength_55 ?_
  refine lv_iload_n hx hb d_C_netLength_58 rfl (lv_at hl 3 rfl) ?_
  refine cR (W.runV (As := [.int (nI w)]) (rest := []) ⟨hx, hb, hml, hown, hts⟩ (c_W_length hP (show w < 40 by omega)) (cwV 1 hts (wB_goodV (fun _ h => h) ml_C_117 im_W_length se_W_length ini_W co_W_length) rfl rfl rfl (by decide +kernel) ⟨Nat.le_of_ble_eq_true rfl, Nat.le_of_ble_eq_true rfl⟩) (pV hK hP (ci := 5) (q0 := 3) rfl rfl _) rfl rfl hl.1 rfl (lv_room (Nat.le_of_ble_eq_true rfl)) d_C_netLength_59 ⟨Nat.zero_le _, Nat.zero_le _⟩) ?_
  refine lv_i2l (v := (leC vv w).toInt64) hx hb d_C_netLength_62 rfl ?_
  refine lv_aload_n hx hb d_C_netLength_63 rfl (lv_at hl 2 rfl) ?_
  refine lv_iload_n hx hb d_C_netLength_64 rfl (lv_at hl 3 rfl) ?_
  refine lv_iload_n hx hb d_C_netLength_65 rfl (lv_at hl 1 rfl) ?_
  refine cR (W.runV (As := [.int (nI w), .int (oI (fstN (acB kn vv w ((vv 4) w) ((vv 5) w)) (nn 2)))]) (rest := [.long ((leC vv w).toInt64)]) ⟨hx, hb, hml, hown, hts⟩ (c_C_gainByJoin hP hI hV hw (oI_or _ _)) (cwV 2 hts (wB_goodV (fun _ h => h) ml_C_284 im_C_gainByJoin se_C_gainByJoin ini_C co_C_gainByJoin) rfl rfl rfl (by decide +kernel) ⟨Nat.le_of_ble_eq_true rfl, Nat.le_of_ble_eq_true rfl⟩) (pV hK hP (ci := 0) (q0 := 0) rfl rfl _) rfl rfl hl.1 rfl (lv_room (Nat.le_of_ble_eq_true rfl)) d_C_netLength_66 ⟨Nat.zero_le _, Nat.zero_le _⟩) ?_
  refine lv_i2l (v := (gaC vv w (oI (fstN (acB kn vv w ((vv 4) w) ((vv 5) w)) (nn 2)))).toInt64) hx hb d_C_netLength_69 rfl ?_
  refine lv_ladd hx hb d_C_netLength_70 ?_
  refine lv_aload_n hx hb d_C_netLength_71 rfl (lv_at hl 2 rfl) ?_
  refine lv_iload_n hx hb d_C_netLength_72 rfl (lv_at hl 3 rfl) ?_
  refine lv_iload_n hx hb d_C_netLength_73 rfl (lv_at hl 0 rfl) ?_
  refine cR (W.runV (As := [.int (nI w), .int (oI (fstN (acB kn vv w ((vv 6) w) ((vv 7) w)) (nn 2)))]) (rest := [.long (((leC vv w).toInt64) + ((gaC vv w (oI (fstN (acB kn vv w ((vv 4) w) ((vv 5) w)) (nn 2)))).toInt64))]) ⟨hx, hb, hml, hown, hts⟩ (c_C_gainByJoin hP hI hV hw (oI_or _ _)) (cwV 2 hts (wB_goodV (fun _ h => h) ml_C_284 im_C_gainByJoin se_C_gainByJoin ini_C co_C_gainByJoin) rfl rfl rfl (by decide +kernel) ⟨Nat.le_of_ble_eq_true rfl, Nat.le_of_ble_eq_true rfl⟩) (pV hK hP (ci := 0) (q0 := 0) rfl rfl _) rfl rfl hl.1 rfl (lv_room (Nat.le_of_ble_eq_true rfl)) d_C_netLength_74 ⟨Nat.zero_le _, Nat.zero_le _⟩) ?_
  refine lv_i2l (v := (gaC vv w (oI (fstN (acB kn vv w ((vv 6) w) ((vv 7) w)) (nn 2)))).toInt64) hx hb d_C_netLength_77 rfl ?_
  refine lv_ladd hx hb d_C_netLength_78 ?_
  have er : (neC kn vv nn w) = ((((leC vv w).toInt64) + ((gaC vv w (oI (fstN (acB kn vv w ((vv 4) w) ((vv 5) w)) (nn 2)))).toInt64)) + ((gaC vv w (oI (fstN (acB kn vv w ((vv 6) w) ((vv 7) w)) (nn 2)))).toInt64)) := by rfl
  exact W.lret (v := ((((leC vv w).toInt64) + ((gaC vv w (oI (fstN (acB kn vv w ((vv 4) w) ((vv 5) w)) (nn 2)))).toInt64)) + ((gaC vv w (oI (fstN (acB kn vv w ((vv 6) w) ((vv 7) w)) (nn 2)))).toInt64))) hx hb hr (fun t ht hW => ⟨by rw [er], ht⟩) (fun q h => by cases h) d_C_netLength_79
set_option maxRecDepth 100000 in
set_option maxHeartbeats 4000000 in
theorem c_C_area (hP : va_P (dC, dI) classes (wC aa cI cZ kn vv) H) (hI : okC kn nn) (hV : okV nn vv) {w : Nat} (hw : w < nn 2) : Met l y_C_area (wB y_C_area b_C_area 4 (some .long)) ({ frames := 4, cells := 0, slots := 0, locals := 90 } : Room) (rP [.ref (aa 0), .int (nI w)] H (kK dC dI cI cZ cJ)) (QcReadL (arC kn vv nn w)) 0 0 noA := by
  refine Met.ofW (cc := b_C_area) (maxL := 4) (ret := (some .long)) (by decide) rfl ?_
  intro p e s m args below meth c s₁ B hml hv
  obtain ⟨rfl, rfl, hK⟩ := hv
  have hx := B.exec
  have hb := B.bytes
  have hr := B.returns
  have hts0 := atoms_spec (ws := (wB y_C_area b_C_area 4 (some .long))) B.pre
  have hts : ∀ w9 ∈ BG, w9.before [.ref (aa 0), .int (nI w)].toArray s = true := fun w9 hw9 => hts0 w9 (List.mem_cons_of_mem _ hw9)
  have hown : s.vm.findClass R_C = some m.cls := findClass_of_methodNamed B.named
  have hlocks := B.notSynchronized
  have hK : va_K (dC, dI) classes [(cI, .int), (cZ, .boolean), (cJ, .long)] s := hK
  have hl := lv_entry ([.ref (aa 0), .int (nI w)]) (n := 4) (Nat.le_of_ble_eq_true rfl)
  rw [lg_entry_eq]
  generalize (lg_sl ([.ref (aa 0), .int (nI w)]) ++ List.replicate (4 - (lg_sl ([.ref (aa 0), .int (nI w)])).length) Slot.unset).toArray = ls at hl ⊢
  have hl : lv_has ls 4 [(0, .ref (aa 0)), (1, .int (nI w))] := hl
  obtain ⟨eK, b0, b1, b2, b3, b4, b5⟩ := id hI
  obtain ⟨k9, hk9, ek9⟩ := hV.1 w hw
  refine lv_aload_n hx hb d_C_area_0 rfl (lv_at hl 0 rfl) ?_
  refine va_get (D := (dC, dI)) (ci := 0) (v := .ref (aa 1)) (C := R_C) (T := F_C) (N := 5) hx hb hts i_C hown hK hP 0 rfl rfl 0 (by decide) (hts _ fl_C_10) (fun _ h9 => h9) rfl d_C_area_1 ?_
  refine lv_aload_n hx hb d_C_area_4 rfl (lv_at hl 0 rfl) ?_
  refine va_get (D := (dC, dI)) (ci := 0) (v := .ref (aa 3)) (C := R_C) (T := F_C) (N := 5) hx hb hts i_C hown hK hP 0 rfl rfl 2 (by decide) (hts _ fl_C_26) (fun _ h9 => h9) rfl d_C_area_5 ?_
  refine va_get (D := (dC, dI)) (ci := 5) (v := .ref (aa 8)) (C := R_W) (T := F_W) (N := 8) hx hb hts i_W hown hK hP 3 rfl rfl 0 (by decide) (hts _ fl_C_166) (fun _ h9 => h9) rfl d_C_area_8 ?_
  refine lv_iload_n hx hb d_C_area_11 rfl (lv_at hl 1 rfl) ?_
  refine va_iald hx hb hK hP 8 0 rfl rfl (vp_in_nI (by omega) (by omega)) d_C_area_12 ?_
  rw [nI_clamp (show w < 2 ^ 31 by omega)]
  rw [ek9]
  refine cR (W.runV (As := [.int (nI k9)]) (rest := []) ⟨hx, hb, hml, hown, hts⟩ (c_S_height hP hI (show k9 < 6 by omega)) (cwV 1 hts (wB_goodV (fun _ h => h) ml_C_201 im_S_height se_S_height ini_S co_S_height) rfl rfl rfl (by decide +kernel) ⟨Nat.le_of_ble_eq_true rfl, Nat.le_of_ble_eq_true rfl⟩) (pV hK hP (ci := 3) (q0 := 1) rfl rfl _) rfl rfl hl.1 rfl (lv_room (Nat.le_of_ble_eq_true rfl)) d_C_area_13 ⟨Nat.zero_le _, Nat.zero_le _⟩) ?_
  refine lv_istore_n (lv' := [(2, .int (heC kn vv k9)), (0, .ref (aa 0)), (1, .int (nI w))]) hx hb d_C_area_16 rfl hl (by decide) rfl (fun ls hl => ?_)
  refine lv_iload_n hx hb d_C_area_17 rfl (lv_at hl 0 rfl) ?_
  refine lv_sipush (v := 200) hx hb d_C_area_18 (by decide) ?_
  refine va_mmin hx hb (by rw [hml]; exact hl.1.symm) hown (hts _ ml_C_291) (hts _ st_Math_minIII) (hts _ ini_Math) (hts _ co_Math_minIII) (Nat.le_of_ble_eq_true rfl) (Nat.le_of_ble_eq_true rfl) (Nat.zero_le _) (Nat.zero_le _) d_C_area_21 ?_
  refine lv_istore_n (lv' := [(3, .int (if 200 < (heC kn vv k9) then 200 else (heC kn vv k9))), (2, .int (heC kn vv k9)), (0, .ref (aa 0)), (1, .int (nI w))]) hx hb d_C_area_24 rfl hl (by decide) rfl (fun ls hl => ?_)
  refine lv_aload_n hx hb d_C_area_25 rfl (lv_at hl 2 rfl) ?_
  refine lv_iload_n hx hb d_C_area_26 rfl (lv_at hl 3 rfl) ?_
  refine cRL (W.runV (As := [.int (nI w)]) (rest := []) ⟨hx, hb, hml, hown, hts⟩ (c_C_netLength hP hI hV hw) (cwV 1 hts (wB_goodV (fun _ h => h) ml_C_170 im_C_netLength se_C_netLength ini_C co_C_netLength) rfl rfl rfl (by decide +kernel) ⟨Nat.le_of_ble_eq_true rfl, Nat.le_of_ble_eq_true rfl⟩) (pV hK hP (ci := 0) (q0 := 0) rfl rfl _) rfl rfl hl.1 rfl (lv_room (Nat.le_of_ble_eq_true rfl)) d_C_area_27 ⟨Nat.zero_le _, Nat.zero_le _⟩) ?_
  refine lv_iload_n hx hb d_C_area_30 rfl (lv_at hl 1 rfl) ?_
  refine lv_i2l (v := (heC kn vv k9).toInt64) hx hb d_C_area_31 rfl ?_
  refine lv_lmul hx hb d_C_area_32 ?_
  refine lv_aload_n hx hb d_C_area_33 rfl (lv_at hl 2 rfl) ?_
  refine va_get (D := (dC, dI)) (ci := 0) (v := .ref (aa 4)) (C := R_C) (T := F_C) (N := 5) hx hb hts i_C hown hK hP 0 rfl rfl 3 (by decide) (hts _ fl_C_33) (fun _ h9 => h9) rfl d_C_area_34 ?_
  refine lv_iload_n hx hb d_C_area_37 rfl (lv_at hl 3 rfl) ?_
  refine cR (W.runV (As := [.int (nI w)]) (rest := [.long ((neC kn vv nn w) * ((heC kn vv k9).toInt64))]) ⟨hx, hb, hml, hown, hts⟩ (c_O_widthOf hP hI (nI w)) (cwV 1 hts (wB_goodV (fun _ h => h) ml_C_296 im_O_widthOf se_O_widthOf ini_O co_O_widthOf) rfl rfl rfl (by decide +kernel) ⟨Nat.le_of_ble_eq_true rfl, Nat.le_of_ble_eq_true rfl⟩) (pV hK hP (ci := 2) (q0 := 4) rfl rfl _) rfl rfl hl.1 rfl (lv_room (Nat.le_of_ble_eq_true rfl)) d_C_area_38 ⟨Nat.zero_le _, Nat.zero_le _⟩) ?_
  refine lv_i2l (v := (wdC vv nn (nI w)).toInt64) hx hb d_C_area_41 rfl ?_
  refine lv_iload_n hx hb d_C_area_42 rfl (lv_at hl 0 rfl) ?_
  refine lv_i2l (v := (if 200 < (heC kn vv k9) then 200 else (heC kn vv k9)).toInt64) hx hb d_C_area_43 rfl ?_
  refine lv_lmul hx hb d_C_area_44 ?_
  refine lv_lsub hx hb d_C_area_45 ?_
  have er : (arC kn vv nn w) = (((neC kn vv nn w) * ((heC kn vv k9).toInt64)) - (((wdC vv nn (nI w)).toInt64) * ((if 200 < (heC kn vv k9) then 200 else (heC kn vv k9)).toInt64))) := by rw [arC, ek9, nI_clamp (by omega)]; rfl
  exact W.lret (v := (((neC kn vv nn w) * ((heC kn vv k9).toInt64)) - (((wdC vv nn (nI w)).toInt64) * ((if 200 < (heC kn vv k9) then 200 else (heC kn vv k9)).toInt64)))) hx hb hr (fun t ht hW => ⟨by rw [er], ht⟩) (fun q h => by cases h) d_C_area_46
set_option maxRecDepth 100000 in
set_option maxHeartbeats 4000000 in
theorem c_C_areaOf (hP : va_P (dC, dI) classes (wC aa cI cZ kn vv) H) (hI : okC kn nn) (hV : okV nn vv) (x : Int32) : Met l y_C_areaOf (wB y_C_areaOf b_C_areaOf 5 (some .long)) ({ frames := 5, cells := 0, slots := 0, locals := 113 } : Room) (rP [.ref (aa 0), .int x] H (kK dC dI cI cZ cJ)) (QcReadL (sumL (fun i => onB kn vv (nI i) x) (arC kn vv nn) (nn 2))) 0 0 noA := by
  refine Met.ofW (cc := b_C_areaOf) (maxL := 5) (ret := (some .long)) (by decide) rfl ?_
  intro p e s m args below meth c s₁ B hml hv
  obtain ⟨rfl, rfl, hK⟩ := hv
  have hx := B.exec
  have hb := B.bytes
  have hr := B.returns
  have hts0 := atoms_spec (ws := (wB y_C_areaOf b_C_areaOf 5 (some .long))) B.pre
  have hts : ∀ w9 ∈ BG, w9.before [.ref (aa 0), .int x].toArray s = true := fun w9 hw9 => hts0 w9 (List.mem_cons_of_mem _ hw9)
  have hown : s.vm.findClass R_C = some m.cls := findClass_of_methodNamed B.named
  have hlocks := B.notSynchronized
  have hK : va_K (dC, dI) classes [(cI, .int), (cZ, .boolean), (cJ, .long)] s := hK
  have hl := lv_entry ([.ref (aa 0), .int x]) (n := 5) (Nat.le_of_ble_eq_true rfl)
  rw [lg_entry_eq]
  generalize (lg_sl ([.ref (aa 0), .int x]) ++ List.replicate (5 - (lg_sl ([.ref (aa 0), .int x])).length) Slot.unset).toArray = ls at hl ⊢
  have hl : lv_has ls 5 [(0, .ref (aa 0)), (1, .int x)] := hl
  obtain ⟨eK, b0, b1, b2, b3, b4, b5⟩ := id hI
  refine lv_lconst (v := 0) hx hb d_C_areaOf_0 (by decide) ?_
  refine lv_lstore_n (lv' := [(2, .long 0), (0, .ref (aa 0)), (1, .int x)]) hx hb d_C_areaOf_1 rfl hl (by decide) rfl (fun ls hl => ?_)
  refine lv_iconst (v := 0) hx hb d_C_areaOf_2 (by decide) ?_
  refine lv_istore (lv' := [(4, .int 0), (2, .long 0), (0, .ref (aa 0)), (1, .int x)]) hx hb d_C_areaOf_3 hl (by decide) rfl (fun ls hl => ?_)
  have loop_5 : ∀ (k9 i : Nat), nn 2 + 1 ≤ i + k9 → i ≤ nn 2 → ∀ (ls : Array Slot), lv_has ls 5 [(0, .ref (aa 0)), (1, .int x), (2, .long (sumL (fun i => onB kn vv (nI i) x) (arC kn vv nn) i)), (4, .int (nI i))] → W p l e (headSpec (wB y_C_areaOf b_C_areaOf 5 (some .long)) ({ frames := 5, cells := 0, slots := 0, locals := 113 } : Room)).room s m [.ref (aa 0), .int x].toArray below meth c s.heap [] 0 0 (MQ below (QcReadL (sumL (fun i => onB kn vv (nI i) x) (arC kn vv nn) (nn 2))) [.ref (aa 0), .int x].toArray s 0 0 noA) (F0 m 5 ls []) := by
    intro k9
    induction k9 with
    | zero => intro i hk hi ls hl; exact absurd hk (by omega)
    | succ k9 ih =>
      intro i hk hi ls hl
      refine lv_iload hx hb d_C_areaOf_5 (lv_at hl 3 rfl) ?_
      refine lv_aload_n hx hb d_C_areaOf_7 rfl (lv_at hl 0 rfl) ?_
      refine va_get (D := (dC, dI)) (ci := 0) (v := .ref (aa 3)) (C := R_C) (T := F_C) (N := 5) hx hb hts i_C hown hK hP 0 rfl rfl 2 (by decide) (hts _ fl_C_26) (fun _ h9 => h9) rfl d_C_areaOf_8 ?_
      refine va_get (D := (dC, dI)) (ci := 5) (v := .int (kn 2)) (C := R_W) (T := F_W) (N := 8) hx hb hts i_W hown hK hP 3 rfl rfl 7 (by decide) (hts _ fl_C_95) (fun _ h9 => h9) rfl d_C_areaOf_11 ?_
      refine lv_icmp_ge (tgt := 45) hx hb d_C_areaOf_14 (by decide) (fun c_14 => ?_) (fun c_14 => ?_)
      · have hi2 : nn 2 ≤ i := geC (eK 2 (by decide)) c_14 (by omega) (by omega)
        refine lv_lload_n hx hb d_C_areaOf_45 rfl (lv_at hl 2 rfl) ?_
        have er : (sumL (fun i => onB kn vv (nI i) x) (arC kn vv nn) (nn 2)) = (sumL (fun i => onB kn vv (nI i) x) (arC kn vv nn) i) := by rw [show i = nn 2 by omega]
        exact W.lret (v := (sumL (fun i => onB kn vv (nI i) x) (arC kn vv nn) i)) hx hb hr (fun t ht hW => ⟨by rw [er], ht⟩) (fun q h => by cases h) d_C_areaOf_46
      · have hi2 : i < nn 2 := ltC (eK 2 (by decide)) c_14 (by omega) (by omega)
        refine lv_aload_n hx hb d_C_areaOf_17 rfl (lv_at hl 0 rfl) ?_
        refine va_get (D := (dC, dI)) (ci := 0) (v := .ref (aa 3)) (C := R_C) (T := F_C) (N := 5) hx hb hts i_C hown hK hP 0 rfl rfl 2 (by decide) (hts _ fl_C_26) (fun _ h9 => h9) rfl d_C_areaOf_18 ?_
        refine lv_iload hx hb d_C_areaOf_21 (lv_at hl 3 rfl) ?_
        refine lv_iload_n hx hb d_C_areaOf_23 rfl (lv_at hl 1 rfl) ?_
        refine cR (W.runV (As := [.int (nI i), .int x]) (rest := []) ⟨hx, hb, hml, hown, hts⟩ (c_W_isOn hP hI (nI i) x) (cwV 2 hts (wB_goodV (fun _ h => h) ml_C_219 im_W_isOn se_W_isOn ini_W co_W_isOn) rfl rfl rfl (by decide +kernel) ⟨Nat.le_of_ble_eq_true rfl, Nat.le_of_ble_eq_true rfl⟩) (pV hK hP (ci := 5) (q0 := 3) rfl rfl _) rfl rfl hl.1 rfl (lv_room (Nat.le_of_ble_eq_true rfl)) d_C_areaOf_24 ⟨Nat.zero_le _, Nat.zero_le _⟩) ?_
        refine lv_if_eq (tgt := 39) hx hb d_C_areaOf_27 (by decide) (fun c_27 => ?_) (fun c_27 => ?_)
        · refine lv_iinc (v := (nI (i + 1))) (lv' := [(4, .int (nI (i + 1))), (0, .ref (aa 0)), (1, .int x), (2, .long (sumL (fun i => onB kn vv (nI i) x) (arC kn vv nn) i))]) hx hb d_C_areaOf_39 hl (k := 3) rfl (nI_1 _) (by decide) rfl (fun ls hl => ?_)
          refine lv_goto (tgt := 5) hx hb d_C_areaOf_42 (by decide) ?_
          rw [sumL_f (p := (fun i => onB kn vv (nI i) x)) (f := (arC kn vv nn)) (n := i) (bI_0.mp c_27)] at hl
          exact ih (i + 1) (by omega) (by omega) ls (lv_sub hl [1, 2, 3, 0] rfl)
        · refine lv_lload_n hx hb d_C_areaOf_30 rfl (lv_at hl 2 rfl) ?_
          refine lv_aload_n hx hb d_C_areaOf_31 rfl (lv_at hl 0 rfl) ?_
          refine lv_iload hx hb d_C_areaOf_32 (lv_at hl 3 rfl) ?_
          refine cRL (W.runV (As := [.int (nI i)]) (rest := [.long (sumL (fun i => onB kn vv (nI i) x) (arC kn vv nn) i)]) ⟨hx, hb, hml, hown, hts⟩ (c_C_area hP hI hV hi2) (cwV 1 hts (wB_goodV (fun _ h => h) ml_C_174 im_C_area se_C_area ini_C co_C_area) rfl rfl rfl (by decide +kernel) ⟨Nat.le_of_ble_eq_true rfl, Nat.le_of_ble_eq_true rfl⟩) (pV hK hP (ci := 0) (q0 := 0) rfl rfl _) rfl rfl hl.1 rfl (lv_room (Nat.le_of_ble_eq_true rfl)) d_C_areaOf_34 ⟨Nat.zero_le _, Nat.zero_le _⟩) ?_
          refine lv_ladd hx hb d_C_areaOf_37 ?_
          refine lv_lstore_n (lv' := [(2, .long ((sumL (fun i => onB kn vv (nI i) x) (arC kn vv nn) i) + (arC kn vv nn i))), (0, .ref (aa 0)), (1, .int x), (4, .int (nI i))]) hx hb d_C_areaOf_38 rfl hl (by decide) rfl (fun ls hl => ?_)
          refine lv_iinc (v := (nI (i + 1))) (lv' := [(4, .int (nI (i + 1))), (2, .long ((sumL (fun i => onB kn vv (nI i) x) (arC kn vv nn) i) + (arC kn vv nn i))), (0, .ref (aa 0)), (1, .int x)]) hx hb d_C_areaOf_39 hl (k := 3) rfl (nI_1 _) (by decide) rfl (fun ls hl => ?_)
          refine lv_goto (tgt := 5) hx hb d_C_areaOf_42 (by decide) ?_
          rw [sumL_t (p := (fun i => onB kn vv (nI i) x)) (f := (arC kn vv nn)) (n := i) (bI_n0.mp c_27)] at hl
          exact ih (i + 1) (by omega) (by omega) ls (lv_sub hl [2, 3, 1, 0] rfl)
  exact loop_5 (nn 2 + 1) 0 (by omega) (by omega) ls (lv_sub hl [2, 3, 1, 0] rfl)
set_option maxRecDepth 100000 in
set_option maxHeartbeats 4000000 in
theorem c_C_netLengthWith (hP : va_P (dC, dI) classes (wC aa cI cZ kn vv) H) (hI : okC kn nn) (hV : okV nn vv) (x : Int32) : Met l y_C_netLengthWith (wB y_C_netLengthWith b_C_netLengthWith 5 (some .long)) ({ frames := 4, cells := 0, slots := 0, locals := 90 } : Room) (rP [.ref (aa 0), .int x] H (kK dC dI cI cZ cJ)) (QcReadL (sumL (fun i => wiB kn vv (nI i) x) (neC kn vv nn) (nn 2))) 0 0 noA := by
  refine Met.ofW (cc := b_C_netLengthWith) (maxL := 5) (ret := (some .long)) (by decide) rfl ?_
  intro p e s m args below meth c s₁ B hml hv
  obtain ⟨rfl, rfl, hK⟩ := hv
  have hx := B.exec
  have hb := B.bytes
  have hr := B.returns
  have hts0 := atoms_spec (ws := (wB y_C_netLengthWith b_C_netLengthWith 5 (some .long))) B.pre
  have hts : ∀ w9 ∈ BG, w9.before [.ref (aa 0), .int x].toArray s = true := fun w9 hw9 => hts0 w9 (List.mem_cons_of_mem _ hw9)
  have hown : s.vm.findClass R_C = some m.cls := findClass_of_methodNamed B.named
  have hlocks := B.notSynchronized
  have hK : va_K (dC, dI) classes [(cI, .int), (cZ, .boolean), (cJ, .long)] s := hK
  have hl := lv_entry ([.ref (aa 0), .int x]) (n := 5) (Nat.le_of_ble_eq_true rfl)
  rw [lg_entry_eq]
  generalize (lg_sl ([.ref (aa 0), .int x]) ++ List.replicate (5 - (lg_sl ([.ref (aa 0), .int x])).length) Slot.unset).toArray = ls at hl ⊢
  have hl : lv_has ls 5 [(0, .ref (aa 0)), (1, .int x)] := hl
  obtain ⟨eK, b0, b1, b2, b3, b4, b5⟩ := id hI
  refine lv_lconst (v := 0) hx hb d_C_netLengthWith_0 (by decide) ?_
  refine lv_lstore_n (lv' := [(2, .long 0), (0, .ref (aa 0)), (1, .int x)]) hx hb d_C_netLengthWith_1 rfl hl (by decide) rfl (fun ls hl => ?_)
  refine lv_iconst (v := 0) hx hb d_C_netLengthWith_2 (by decide) ?_
  refine lv_istore (lv' := [(4, .int 0), (2, .long 0), (0, .ref (aa 0)), (1, .int x)]) hx hb d_C_netLengthWith_3 hl (by decide) rfl (fun ls hl => ?_)
  have loop_5 : ∀ (k9 i : Nat), nn 2 + 1 ≤ i + k9 → i ≤ nn 2 → ∀ (ls : Array Slot), lv_has ls 5 [(0, .ref (aa 0)), (1, .int x), (2, .long (sumL (fun i => wiB kn vv (nI i) x) (neC kn vv nn) i)), (4, .int (nI i))] → W p l e (headSpec (wB y_C_netLengthWith b_C_netLengthWith 5 (some .long)) ({ frames := 4, cells := 0, slots := 0, locals := 90 } : Room)).room s m [.ref (aa 0), .int x].toArray below meth c s.heap [] 0 0 (MQ below (QcReadL (sumL (fun i => wiB kn vv (nI i) x) (neC kn vv nn) (nn 2))) [.ref (aa 0), .int x].toArray s 0 0 noA) (F0 m 5 ls []) := by
    intro k9
    induction k9 with
    | zero => intro i hk hi ls hl; exact absurd hk (by omega)
    | succ k9 ih =>
      intro i hk hi ls hl
      refine lv_iload hx hb d_C_netLengthWith_5 (lv_at hl 3 rfl) ?_
      refine lv_aload_n hx hb d_C_netLengthWith_7 rfl (lv_at hl 0 rfl) ?_
      refine va_get (D := (dC, dI)) (ci := 0) (v := .ref (aa 3)) (C := R_C) (T := F_C) (N := 5) hx hb hts i_C hown hK hP 0 rfl rfl 2 (by decide) (hts _ fl_C_26) (fun _ h9 => h9) rfl d_C_netLengthWith_8 ?_
      refine va_get (D := (dC, dI)) (ci := 5) (v := .int (kn 2)) (C := R_W) (T := F_W) (N := 8) hx hb hts i_W hown hK hP 3 rfl rfl 7 (by decide) (hts _ fl_C_95) (fun _ h9 => h9) rfl d_C_netLengthWith_11 ?_
      refine lv_icmp_ge (tgt := 45) hx hb d_C_netLengthWith_14 (by decide) (fun c_14 => ?_) (fun c_14 => ?_)
      · have hi2 : nn 2 ≤ i := geC (eK 2 (by decide)) c_14 (by omega) (by omega)
        refine lv_lload_n hx hb d_C_netLengthWith_45 rfl (lv_at hl 2 rfl) ?_
        have er : (sumL (fun i => wiB kn vv (nI i) x) (neC kn vv nn) (nn 2)) = (sumL (fun i => wiB kn vv (nI i) x) (neC kn vv nn) i) := by rw [show i = nn 2 by omega]
        exact W.lret (v := (sumL (fun i => wiB kn vv (nI i) x) (neC kn vv nn) i)) hx hb hr (fun t ht hW => ⟨by rw [er], ht⟩) (fun q h => by cases h) d_C_netLengthWith_46
      · have hi2 : i < nn 2 := ltC (eK 2 (by decide)) c_14 (by omega) (by omega)
        refine lv_aload_n hx hb d_C_netLengthWith_17 rfl (lv_at hl 0 rfl) ?_
        refine va_get (D := (dC, dI)) (ci := 0) (v := .ref (aa 3)) (C := R_C) (T := F_C) (N := 5) hx hb hts i_C hown hK hP 0 rfl rfl 2 (by decide) (hts _ fl_C_26) (fun _ h9 => h9) rfl d_C_netLengthWith_18 ?_
        refine lv_iload hx hb d_C_netLengthWith_21 (lv_at hl 3 rfl) ?_
        refine lv_iload_n hx hb d_C_netLengthWith_23 rfl (lv_at hl 1 rfl) ?_
        refine cR (W.runV (As := [.int (nI i), .int x]) (rest := []) ⟨hx, hb, hml, hown, hts⟩ (c_W_isWith hP hI (nI i) x) (cwV 2 hts (wB_goodV (fun _ h => h) ml_C_299 im_W_isWith se_W_isWith ini_W co_W_isWith) rfl rfl rfl (by decide +kernel) ⟨Nat.le_of_ble_eq_true rfl, Nat.le_of_ble_eq_true rfl⟩) (pV hK hP (ci := 5) (q0 := 3) rfl rfl _) rfl rfl hl.1 rfl (lv_room (Nat.le_of_ble_eq_true rfl)) d_C_netLengthWith_24 ⟨Nat.zero_le _, Nat.zero_le _⟩) ?_
        refine lv_if_eq (tgt := 39) hx hb d_C_netLengthWith_27 (by decide) (fun c_27 => ?_) (fun c_27 => ?_)
        · refine lv_iinc (v := (nI (i + 1))) (lv' := [(4, .int (nI (i + 1))), (0, .ref (aa 0)), (1, .int x), (2, .long (sumL (fun i => wiB kn vv (nI i) x) (neC kn vv nn) i))]) hx hb d_C_netLengthWith_39 hl (k := 3) rfl (nI_1 _) (by decide) rfl (fun ls hl => ?_)
          refine lv_goto (tgt := 5) hx hb d_C_netLengthWith_42 (by decide) ?_
          rw [sumL_f (p := (fun i => wiB kn vv (nI i) x)) (f := (neC kn vv nn)) (n := i) (bI_0.mp c_27)] at hl
          exact ih (i + 1) (by omega) (by omega) ls (lv_sub hl [1, 2, 3, 0] rfl)
        · refine lv_lload_n hx hb d_C_netLengthWith_30 rfl (lv_at hl 2 rfl) ?_
          refine lv_aload_n hx hb d_C_netLengthWith_31 rfl (lv_at hl 0 rfl) ?_
          refine lv_iload hx hb d_C_netLengthWith_32 (lv_at hl 3 rfl) ?_
          refine cRL (W.runV (As := [.int (nI i)]) (rest := [.long (sumL (fun i => wiB kn vv (nI i) x) (neC kn vv nn) i)]) ⟨hx, hb, hml, hown, hts⟩ (c_C_netLength hP hI hV hi2) (cwV 1 hts (wB_goodV (fun _ h => h) ml_C_170 im_C_netLength se_C_netLength ini_C co_C_netLength) rfl rfl rfl (by decide +kernel) ⟨Nat.le_of_ble_eq_true rfl, Nat.le_of_ble_eq_true rfl⟩) (pV hK hP (ci := 0) (q0 := 0) rfl rfl _) rfl rfl hl.1 rfl (lv_room (Nat.le_of_ble_eq_true rfl)) d_C_netLengthWith_34 ⟨Nat.zero_le _, Nat.zero_le _⟩) ?_
          refine lv_ladd hx hb d_C_netLengthWith_37 ?_
          refine lv_lstore_n (lv' := [(2, .long ((sumL (fun i => wiB kn vv (nI i) x) (neC kn vv nn) i) + (neC kn vv nn i))), (0, .ref (aa 0)), (1, .int x), (4, .int (nI i))]) hx hb d_C_netLengthWith_38 rfl hl (by decide) rfl (fun ls hl => ?_)
          refine lv_iinc (v := (nI (i + 1))) (lv' := [(4, .int (nI (i + 1))), (2, .long ((sumL (fun i => wiB kn vv (nI i) x) (neC kn vv nn) i) + (neC kn vv nn i))), (0, .ref (aa 0)), (1, .int x)]) hx hb d_C_netLengthWith_39 hl (k := 3) rfl (nI_1 _) (by decide) rfl (fun ls hl => ?_)
          refine lv_goto (tgt := 5) hx hb d_C_netLengthWith_42 (by decide) ?_
          rw [sumL_t (p := (fun i => wiB kn vv (nI i) x)) (f := (neC kn vv nn)) (n := i) (bI_n0.mp c_27)] at hl
          exact ih (i + 1) (by omega) (by omega) ls (lv_sub hl [2, 3, 1, 0] rfl)
  exact loop_5 (nn 2 + 1) 0 (by omega) (by omega) ls (lv_sub hl [2, 3, 1, 0] rfl)
set_option maxRecDepth 100000 in
set_option maxHeartbeats 4000000 in
theorem c_C_covers (hP : va_P (dC, dI) classes (wC aa cI cZ kn vv) H) (hI : okC kn nn) (hV : okV nn vv) {w : Nat} (hw : w < nn 2) (x y : Int32) : Met l y_C_covers (wB y_C_covers b_C_covers 7 (some .boolean)) ({ frames := 1, cells := 0, slots := 0, locals := 21 } : Room) (rP [.ref (aa 0), .int (nI w), .int x, .int y] H (kK dC dI cI cZ cJ)) (QcRead (bI (coB vv w x y))) 0 0 noA := by
  refine Met.ofW (cc := b_C_covers) (maxL := 7) (ret := (some .boolean)) (by decide) rfl ?_
  intro p e s m args below meth c s₁ B hml hv
  obtain ⟨rfl, rfl, hK⟩ := hv
  have hx := B.exec
  have hb := B.bytes
  have hr := B.returns
  have hts0 := atoms_spec (ws := (wB y_C_covers b_C_covers 7 (some .boolean))) B.pre
  have hts : ∀ w9 ∈ BG, w9.before [.ref (aa 0), .int (nI w), .int x, .int y].toArray s = true := fun w9 hw9 => hts0 w9 (List.mem_cons_of_mem _ hw9)
  have hown : s.vm.findClass R_C = some m.cls := findClass_of_methodNamed B.named
  have hlocks := B.notSynchronized
  have hK : va_K (dC, dI) classes [(cI, .int), (cZ, .boolean), (cJ, .long)] s := hK
  have hl := lv_entry ([.ref (aa 0), .int (nI w), .int x, .int y]) (n := 7) (Nat.le_of_ble_eq_true rfl)
  rw [lg_entry_eq]
  generalize (lg_sl ([.ref (aa 0), .int (nI w), .int x, .int y]) ++ List.replicate (7 - (lg_sl ([.ref (aa 0), .int (nI w), .int x, .int y])).length) Slot.unset).toArray = ls at hl ⊢
  have hl : lv_has ls 7 [(0, .ref (aa 0)), (1, .int (nI w)), (2, .int x), (3, .int y)] := hl
  obtain ⟨eK, b0, b1, b2, b3, b4, b5⟩ := id hI
  refine lv_aload_n hx hb d_C_covers_0 rfl (lv_at hl 0 rfl) ?_
  refine lv_iload_n hx hb d_C_covers_1 rfl (lv_at hl 1 rfl) ?_
  refine cR (W.runV (As := [.int (nI w)]) (rest := []) ⟨hx, hb, hml, hown, hts⟩ (c_C_halfThickness hP hI hV hw) (cwV 1 hts (wB_goodV (fun _ h => h) ml_C_288 im_C_halfThickness se_C_halfThickness ini_C co_C_halfThickness) rfl rfl rfl (by decide +kernel) ⟨Nat.le_of_ble_eq_true rfl, Nat.le_of_ble_eq_true rfl⟩) (pV hK hP (ci := 0) (q0 := 0) rfl rfl _) rfl rfl hl.1 rfl (lv_room (Nat.le_of_ble_eq_true rfl)) d_C_covers_2 ⟨Nat.zero_le _, Nat.zero_le _⟩) ?_
  refine lv_istore (lv' := [(4, .int (haC vv w)), (0, .ref (aa 0)), (1, .int (nI w)), (2, .int x), (3, .int y)]) hx hb d_C_covers_5 hl (by decide) rfl (fun ls hl => ?_)
  refine lv_aload_n hx hb d_C_covers_7 rfl (lv_at hl 1 rfl) ?_
  refine va_get (D := (dC, dI)) (ci := 0) (v := .ref (aa 3)) (C := R_C) (T := F_C) (N := 5) hx hb hts i_C hown hK hP 0 rfl rfl 2 (by decide) (hts _ fl_C_26) (fun _ h9 => h9) rfl d_C_covers_8 ?_
  refine lv_iload_n hx hb d_C_covers_11 rfl (lv_at hl 2 rfl) ?_
  refine cR (W.runV (As := [.int (nI w)]) (rest := []) ⟨hx, hb, hml, hown, hts⟩ (c_W_goesAlongX hP (show w < 40 by omega)) (cwV 1 hts (wB_goodV (fun _ h => h) ml_C_302 im_W_goesAlongX se_W_goesAlongX ini_W co_W_goesAlongX) rfl rfl rfl (by decide +kernel) ⟨Nat.le_of_ble_eq_true rfl, Nat.le_of_ble_eq_true rfl⟩) (pV hK hP (ci := 5) (q0 := 3) rfl rfl _) rfl rfl hl.1 rfl (lv_room (Nat.le_of_ble_eq_true rfl)) d_C_covers_12 ⟨Nat.zero_le _, Nat.zero_le _⟩) ?_
  refine lv_if_eq (tgt := 22) hx hb d_C_covers_15 (by decide) (fun c_15 => ?_) (fun c_15 => ?_)
  · have a15 : alX vv w = false := bI_0.mp c_15
    refine lv_iload hx hb d_C_covers_22 (lv_at hl 0 rfl) ?_
    refine lv_istore (lv' := [(5, .int (haC vv w)), (4, .int (haC vv w)), (0, .ref (aa 0)), (1, .int (nI w)), (2, .int x), (3, .int y)]) hx hb d_C_covers_24 hl (by decide) rfl (fun ls hl => ?_)
    refine lv_aload_n hx hb d_C_covers_26 rfl (lv_at hl 2 rfl) ?_
    refine va_get (D := (dC, dI)) (ci := 0) (v := .ref (aa 3)) (C := R_C) (T := F_C) (N := 5) hx hb hts i_C hown hK hP 0 rfl rfl 2 (by decide) (hts _ fl_C_26) (fun _ h9 => h9) rfl d_C_covers_27 ?_
    refine lv_iload_n hx hb d_C_covers_30 rfl (lv_at hl 3 rfl) ?_
    refine cR (W.runV (As := [.int (nI w)]) (rest := []) ⟨hx, hb, hml, hown, hts⟩ (c_W_goesAlongX hP (show w < 40 by omega)) (cwV 1 hts (wB_goodV (fun _ h => h) ml_C_302 im_W_goesAlongX se_W_goesAlongX ini_W co_W_goesAlongX) rfl rfl rfl (by decide +kernel) ⟨Nat.le_of_ble_eq_true rfl, Nat.le_of_ble_eq_true rfl⟩) (pV hK hP (ci := 5) (q0 := 3) rfl rfl _) rfl rfl hl.1 rfl (lv_room (Nat.le_of_ble_eq_true rfl)) d_C_covers_31 ⟨Nat.zero_le _, Nat.zero_le _⟩) ?_
    refine lv_if_eq (tgt := 42) hx hb d_C_covers_34 (by decide) (fun c_34 => ?_) (fun c_34 => ?_)
    · refine lv_iconst (v := 0) hx hb d_C_covers_42 (by decide) ?_
      refine lv_istore (lv' := [(6, .int 0), (5, .int (haC vv w)), (4, .int (haC vv w)), (0, .ref (aa 0)), (1, .int (nI w)), (2, .int x), (3, .int y)]) hx hb d_C_covers_43 hl (by decide) rfl (fun ls hl => ?_)
      refine lv_iload_n hx hb d_C_covers_45 rfl (lv_at hl 5 rfl) ?_
      refine lv_aload_n hx hb d_C_covers_46 rfl (lv_at hl 3 rfl) ?_
      refine va_get (D := (dC, dI)) (ci := 0) (v := .ref (aa 3)) (C := R_C) (T := F_C) (N := 5) hx hb hts i_C hown hK hP 0 rfl rfl 2 (by decide) (hts _ fl_C_26) (fun _ h9 => h9) rfl d_C_covers_47 ?_
      refine va_get (D := (dC, dI)) (ci := 5) (v := .ref (aa 10)) (C := R_W) (T := F_W) (N := 8) hx hb hts i_W hown hK hP 3 rfl rfl 2 (by decide) (hts _ fl_C_105) (fun _ h9 => h9) rfl d_C_covers_50 ?_
      refine lv_iload_n hx hb d_C_covers_53 rfl (lv_at hl 4 rfl) ?_
      refine va_iald hx hb hK hP 10 0 rfl rfl (vp_in_nI (by omega) (by omega)) d_C_covers_54 ?_
      rw [nI_clamp (show w < 2 ^ 31 by omega)]
      refine lv_aload_n hx hb d_C_covers_55 rfl (lv_at hl 3 rfl) ?_
      refine va_get (D := (dC, dI)) (ci := 0) (v := .ref (aa 3)) (C := R_C) (T := F_C) (N := 5) hx hb hts i_C hown hK hP 0 rfl rfl 2 (by decide) (hts _ fl_C_26) (fun _ h9 => h9) rfl d_C_covers_56 ?_
      refine va_get (D := (dC, dI)) (ci := 5) (v := .ref (aa 12)) (C := R_W) (T := F_W) (N := 8) hx hb hts i_W hown hK hP 3 rfl rfl 4 (by decide) (hts _ fl_C_111) (fun _ h9 => h9) rfl d_C_covers_59 ?_
      refine lv_iload_n hx hb d_C_covers_62 rfl (lv_at hl 4 rfl) ?_
      refine va_iald hx hb hK hP 12 0 rfl rfl (vp_in_nI (by omega) (by omega)) d_C_covers_63 ?_
      rw [nI_clamp (show w < 2 ^ 31 by omega)]
      refine va_mmin hx hb (by rw [hml]; exact hl.1.symm) hown (hts _ ml_C_291) (hts _ st_Math_minIII) (hts _ ini_Math) (hts _ co_Math_minIII) (Nat.le_of_ble_eq_true rfl) (Nat.le_of_ble_eq_true rfl) (Nat.zero_le _) (Nat.zero_le _) d_C_covers_64 ?_
      refine lv_iload hx hb d_C_covers_67 (lv_at hl 1 rfl) ?_
      refine lv_isub hx hb d_C_covers_69 ?_
      refine lv_icmp_lt (tgt := 161) hx hb d_C_covers_70 (by decide) (fun c_70 => ?_) (fun c_70 => ?_)
      · refine lv_iconst (v := 0) hx hb d_C_covers_161 (by decide) ?_
        have er : (bI (coB vv w x y)) = 0 := by simp only [coB, miI, maI, bI, a15, decide_eq_true c_15, decide_eq_true c_34, decide_eq_true c_70, Bool.not_true, Bool.not_false, Bool.and_true, Bool.true_and, Bool.false_and, Bool.and_false, Bool.or_true, Bool.true_or, Bool.or_false, Bool.false_or, if_true, if_false, Bool.false_eq_true, Bool.true_eq_false]
        exact W.zret (v := 0) hx hb hr rfl (fun t ht hW => ⟨by rw [er], ht⟩) (fun q h => by cases h) d_C_covers_162
      · refine lv_iload_n hx hb d_C_covers_73 rfl (lv_at hl 5 rfl) ?_
        refine lv_aload_n hx hb d_C_covers_74 rfl (lv_at hl 3 rfl) ?_
        refine va_get (D := (dC, dI)) (ci := 0) (v := .ref (aa 3)) (C := R_C) (T := F_C) (N := 5) hx hb hts i_C hown hK hP 0 rfl rfl 2 (by decide) (hts _ fl_C_26) (fun _ h9 => h9) rfl d_C_covers_75 ?_
        refine va_get (D := (dC, dI)) (ci := 5) (v := .ref (aa 10)) (C := R_W) (T := F_W) (N := 8) hx hb hts i_W hown hK hP 3 rfl rfl 2 (by decide) (hts _ fl_C_105) (fun _ h9 => h9) rfl d_C_covers_78 ?_
        refine lv_iload_n hx hb d_C_covers_81 rfl (lv_at hl 4 rfl) ?_
        refine va_iald hx hb hK hP 10 0 rfl rfl (vp_in_nI (by omega) (by omega)) d_C_covers_82 ?_
        rw [nI_clamp (show w < 2 ^ 31 by omega)]
        refine lv_aload_n hx hb d_C_covers_83 rfl (lv_at hl 3 rfl) ?_
        refine va_get (D := (dC, dI)) (ci := 0) (v := .ref (aa 3)) (C := R_C) (T := F_C) (N := 5) hx hb hts i_C hown hK hP 0 rfl rfl 2 (by decide) (hts _ fl_C_26) (fun _ h9 => h9) rfl d_C_covers_84 ?_
        refine va_get (D := (dC, dI)) (ci := 5) (v := .ref (aa 12)) (C := R_W) (T := F_W) (N := 8) hx hb hts i_W hown hK hP 3 rfl rfl 4 (by decide) (hts _ fl_C_111) (fun _ h9 => h9) rfl d_C_covers_87 ?_
        refine lv_iload_n hx hb d_C_covers_90 rfl (lv_at hl 4 rfl) ?_
        refine va_iald hx hb hK hP 12 0 rfl rfl (vp_in_nI (by omega) (by omega)) d_C_covers_91 ?_
        rw [nI_clamp (show w < 2 ^ 31 by omega)]
        refine va_mmax hx hb (by rw [hml]; exact hl.1.symm) hown (hts _ ml_C_305) (hts _ st_Math_maxIII) (hts _ ini_Math) (hts _ co_Math_maxIII) (Nat.le_of_ble_eq_true rfl) (Nat.le_of_ble_eq_true rfl) (Nat.zero_le _) (Nat.zero_le _) d_C_covers_92 ?_
        refine lv_iload hx hb d_C_covers_95 (lv_at hl 1 rfl) ?_
        refine lv_iadd hx hb d_C_covers_97 ?_
        refine lv_icmp_gt (tgt := 161) hx hb d_C_covers_98 (by decide) (fun c_98 => ?_) (fun c_98 => ?_)
        · refine lv_iconst (v := 0) hx hb d_C_covers_161 (by decide) ?_
          have er : (bI (coB vv w x y)) = 0 := by simp only [coB, miI, maI, bI, a15, decide_eq_true c_15, decide_eq_true c_34, decide_eq_false c_70, decide_eq_true c_98, Bool.not_true, Bool.not_false, Bool.and_true, Bool.true_and, Bool.false_and, Bool.and_false, Bool.or_true, Bool.true_or, Bool.or_false, Bool.false_or, if_true, if_false, Bool.false_eq_true, Bool.true_eq_false]
          exact W.zret (v := 0) hx hb hr rfl (fun t ht hW => ⟨by rw [er], ht⟩) (fun q h => by cases h) d_C_covers_162
        · refine lv_iload_n hx hb d_C_covers_101 rfl (lv_at hl 6 rfl) ?_
          refine lv_aload_n hx hb d_C_covers_102 rfl (lv_at hl 3 rfl) ?_
          refine va_get (D := (dC, dI)) (ci := 0) (v := .ref (aa 3)) (C := R_C) (T := F_C) (N := 5) hx hb hts i_C hown hK hP 0 rfl rfl 2 (by decide) (hts _ fl_C_26) (fun _ h9 => h9) rfl d_C_covers_103 ?_
          refine va_get (D := (dC, dI)) (ci := 5) (v := .ref (aa 11)) (C := R_W) (T := F_W) (N := 8) hx hb hts i_W hown hK hP 3 rfl rfl 3 (by decide) (hts _ fl_C_108) (fun _ h9 => h9) rfl d_C_covers_106 ?_
          refine lv_iload_n hx hb d_C_covers_109 rfl (lv_at hl 4 rfl) ?_
          refine va_iald hx hb hK hP 11 0 rfl rfl (vp_in_nI (by omega) (by omega)) d_C_covers_110 ?_
          rw [nI_clamp (show w < 2 ^ 31 by omega)]
          refine lv_aload_n hx hb d_C_covers_111 rfl (lv_at hl 3 rfl) ?_
          refine va_get (D := (dC, dI)) (ci := 0) (v := .ref (aa 3)) (C := R_C) (T := F_C) (N := 5) hx hb hts i_C hown hK hP 0 rfl rfl 2 (by decide) (hts _ fl_C_26) (fun _ h9 => h9) rfl d_C_covers_112 ?_
          refine va_get (D := (dC, dI)) (ci := 5) (v := .ref (aa 13)) (C := R_W) (T := F_W) (N := 8) hx hb hts i_W hown hK hP 3 rfl rfl 5 (by decide) (hts _ fl_C_114) (fun _ h9 => h9) rfl d_C_covers_115 ?_
          refine lv_iload_n hx hb d_C_covers_118 rfl (lv_at hl 4 rfl) ?_
          refine va_iald hx hb hK hP 13 0 rfl rfl (vp_in_nI (by omega) (by omega)) d_C_covers_119 ?_
          rw [nI_clamp (show w < 2 ^ 31 by omega)]
          refine va_mmin hx hb (by rw [hml]; exact hl.1.symm) hown (hts _ ml_C_291) (hts _ st_Math_minIII) (hts _ ini_Math) (hts _ co_Math_minIII) (Nat.le_of_ble_eq_true rfl) (Nat.le_of_ble_eq_true rfl) (Nat.zero_le _) (Nat.zero_le _) d_C_covers_120 ?_
          refine lv_iload hx hb d_C_covers_123 (lv_at hl 0 rfl) ?_
          refine lv_isub hx hb d_C_covers_125 ?_
          refine lv_icmp_lt (tgt := 161) hx hb d_C_covers_126 (by decide) (fun c_126 => ?_) (fun c_126 => ?_)
          · refine lv_iconst (v := 0) hx hb d_C_covers_161 (by decide) ?_
            have er : (bI (coB vv w x y)) = 0 := by simp only [coB, miI, maI, bI, a15, decide_eq_true c_15, decide_eq_true c_34, decide_eq_false c_70, decide_eq_false c_98, decide_eq_true c_126, Bool.not_true, Bool.not_false, Bool.and_true, Bool.true_and, Bool.false_and, Bool.and_false, Bool.or_true, Bool.true_or, Bool.or_false, Bool.false_or, if_true, if_false, Bool.false_eq_true, Bool.true_eq_false]
            exact W.zret (v := 0) hx hb hr rfl (fun t ht hW => ⟨by rw [er], ht⟩) (fun q h => by cases h) d_C_covers_162
          · refine lv_iload_n hx hb d_C_covers_129 rfl (lv_at hl 6 rfl) ?_
            refine lv_aload_n hx hb d_C_covers_130 rfl (lv_at hl 3 rfl) ?_
            refine va_get (D := (dC, dI)) (ci := 0) (v := .ref (aa 3)) (C := R_C) (T := F_C) (N := 5) hx hb hts i_C hown hK hP 0 rfl rfl 2 (by decide) (hts _ fl_C_26) (fun _ h9 => h9) rfl d_C_covers_131 ?_
            refine va_get (D := (dC, dI)) (ci := 5) (v := .ref (aa 11)) (C := R_W) (T := F_W) (N := 8) hx hb hts i_W hown hK hP 3 rfl rfl 3 (by decide) (hts _ fl_C_108) (fun _ h9 => h9) rfl d_C_covers_134 ?_
            refine lv_iload_n hx hb d_C_covers_137 rfl (lv_at hl 4 rfl) ?_
            refine va_iald hx hb hK hP 11 0 rfl rfl (vp_in_nI (by omega) (by omega)) d_C_covers_138 ?_
            rw [nI_clamp (show w < 2 ^ 31 by omega)]
            refine lv_aload_n hx hb d_C_covers_139 rfl (lv_at hl 3 rfl) ?_
            refine va_get (D := (dC, dI)) (ci := 0) (v := .ref (aa 3)) (C := R_C) (T := F_C) (N := 5) hx hb hts i_C hown hK hP 0 rfl rfl 2 (by decide) (hts _ fl_C_26) (fun _ h9 => h9) rfl d_C_covers_140 ?_
            refine va_get (D := (dC, dI)) (ci := 5) (v := .ref (aa 13)) (C := R_W) (T := F_W) (N := 8) hx hb hts i_W hown hK hP 3 rfl rfl 5 (by decide) (hts _ fl_C_114) (fun _ h9 => h9) rfl d_C_covers_143 ?_
            refine lv_iload_n hx hb d_C_covers_146 rfl (lv_at hl 4 rfl) ?_
            refine va_iald hx hb hK hP 13 0 rfl rfl (vp_in_nI (by omega) (by omega)) d_C_covers_147 ?_
            rw [nI_clamp (show w < 2 ^ 31 by omega)]
            refine va_mmax hx hb (by rw [hml]; exact hl.1.symm) hown (hts _ ml_C_305) (hts _ st_Math_maxIII) (hts _ ini_Math) (hts _ co_Math_maxIII) (Nat.le_of_ble_eq_true rfl) (Nat.le_of_ble_eq_true rfl) (Nat.zero_le _) (Nat.zero_le _) d_C_covers_148 ?_
            refine lv_iload hx hb d_C_covers_151 (lv_at hl 0 rfl) ?_
            refine lv_iadd hx hb d_C_covers_153 ?_
            refine lv_icmp_gt (tgt := 161) hx hb d_C_covers_154 (by decide) (fun c_154 => ?_) (fun c_154 => ?_)
            · refine lv_iconst (v := 0) hx hb d_C_covers_161 (by decide) ?_
              have er : (bI (coB vv w x y)) = 0 := by simp only [coB, miI, maI, bI, a15, decide_eq_true c_15, decide_eq_true c_34, decide_eq_false c_70, decide_eq_false c_98, decide_eq_false c_126, decide_eq_true c_154, Bool.not_true, Bool.not_false, Bool.and_true, Bool.true_and, Bool.false_and, Bool.and_false, Bool.or_true, Bool.true_or, Bool.or_false, Bool.false_or, if_true, if_false, Bool.false_eq_true, Bool.true_eq_false]
              exact W.zret (v := 0) hx hb hr rfl (fun t ht hW => ⟨by rw [er], ht⟩) (fun q h => by cases h) d_C_covers_162
            · refine lv_iconst (v := 1) hx hb d_C_covers_157 (by decide) ?_
              refine lv_goto (tgt := 162) hx hb d_C_covers_158 (by decide) ?_
              have er : (bI (coB vv w x y)) = 1 := by simp only [coB, miI, maI, bI, a15, decide_eq_true c_15, decide_eq_true c_34, decide_eq_false c_70, decide_eq_false c_98, decide_eq_false c_126, decide_eq_false c_154, Bool.not_true, Bool.not_false, Bool.and_true, Bool.true_and, Bool.false_and, Bool.and_false, Bool.or_true, Bool.true_or, Bool.or_false, Bool.false_or, if_true, if_false, Bool.false_eq_true, Bool.true_eq_false]
              exact W.zret (v := 1) hx hb hr rfl (fun t ht hW => ⟨by rw [er], ht⟩) (fun q h => by cases h) d_C_covers_162
    · exact absurd c_34 (fun h => h c_15)
  · have a15 : alX vv w = true := bI_n0.mp c_15
    refine lv_iconst (v := 0) hx hb d_C_covers_18 (by decide) ?_
    refine lv_goto (tgt := 24) hx hb d_C_covers_19 (by decide) ?_
    refine lv_istore (lv' := [(5, .int 0), (4, .int (haC vv w)), (0, .ref (aa 0)), (1, .int (nI w)), (2, .int x), (3, .int y)]) hx hb d_C_covers_24 hl (by decide) rfl (fun ls hl => ?_)
    refine lv_aload_n hx hb d_C_covers_26 rfl (lv_at hl 2 rfl) ?_
    refine va_get (D := (dC, dI)) (ci := 0) (v := .ref (aa 3)) (C := R_C) (T := F_C) (N := 5) hx hb hts i_C hown hK hP 0 rfl rfl 2 (by decide) (hts _ fl_C_26) (fun _ h9 => h9) rfl d_C_covers_27 ?_
    refine lv_iload_n hx hb d_C_covers_30 rfl (lv_at hl 3 rfl) ?_
    refine cR (W.runV (As := [.int (nI w)]) (rest := []) ⟨hx, hb, hml, hown, hts⟩ (c_W_goesAlongX hP (show w < 40 by omega)) (cwV 1 hts (wB_goodV (fun _ h => h) ml_C_302 im_W_goesAlongX se_W_goesAlongX ini_W co_W_goesAlongX) rfl rfl rfl (by decide +kernel) ⟨Nat.le_of_ble_eq_true rfl, Nat.le_of_ble_eq_true rfl⟩) (pV hK hP (ci := 5) (q0 := 3) rfl rfl _) rfl rfl hl.1 rfl (lv_room (Nat.le_of_ble_eq_true rfl)) d_C_covers_31 ⟨Nat.zero_le _, Nat.zero_le _⟩) ?_
    refine lv_if_eq (tgt := 42) hx hb d_C_covers_34 (by decide) (fun c_34 => ?_) (fun c_34 => ?_)
    · exact absurd c_34 (c_15)
    · refine lv_iload hx hb d_C_covers_37 (lv_at hl 1 rfl) ?_
      refine lv_goto (tgt := 43) hx hb d_C_covers_39 (by decide) ?_
      refine lv_istore (lv' := [(6, .int (haC vv w)), (5, .int 0), (4, .int (haC vv w)), (0, .ref (aa 0)), (1, .int (nI w)), (2, .int x), (3, .int y)]) hx hb d_C_covers_43 hl (by decide) rfl (fun ls hl => ?_)
      refine lv_iload_n hx hb d_C_covers_45 rfl (lv_at hl 5 rfl) ?_
      refine lv_aload_n hx hb d_C_covers_46 rfl (lv_at hl 3 rfl) ?_
      refine va_get (D := (dC, dI)) (ci := 0) (v := .ref (aa 3)) (C := R_C) (T := F_C) (N := 5) hx hb hts i_C hown hK hP 0 rfl rfl 2 (by decide) (hts _ fl_C_26) (fun _ h9 => h9) rfl d_C_covers_47 ?_
      refine va_get (D := (dC, dI)) (ci := 5) (v := .ref (aa 10)) (C := R_W) (T := F_W) (N := 8) hx hb hts i_W hown hK hP 3 rfl rfl 2 (by decide) (hts _ fl_C_105) (fun _ h9 => h9) rfl d_C_covers_50 ?_
      refine lv_iload_n hx hb d_C_covers_53 rfl (lv_at hl 4 rfl) ?_
      refine va_iald hx hb hK hP 10 0 rfl rfl (vp_in_nI (by omega) (by omega)) d_C_covers_54 ?_
      rw [nI_clamp (show w < 2 ^ 31 by omega)]
      refine lv_aload_n hx hb d_C_covers_55 rfl (lv_at hl 3 rfl) ?_
      refine va_get (D := (dC, dI)) (ci := 0) (v := .ref (aa 3)) (C := R_C) (T := F_C) (N := 5) hx hb hts i_C hown hK hP 0 rfl rfl 2 (by decide) (hts _ fl_C_26) (fun _ h9 => h9) rfl d_C_covers_56 ?_
      refine va_get (D := (dC, dI)) (ci := 5) (v := .ref (aa 12)) (C := R_W) (T := F_W) (N := 8) hx hb hts i_W hown hK hP 3 rfl rfl 4 (by decide) (hts _ fl_C_111) (fun _ h9 => h9) rfl d_C_covers_59 ?_
      refine lv_iload_n hx hb d_C_covers_62 rfl (lv_at hl 4 rfl) ?_
      refine va_iald hx hb hK hP 12 0 rfl rfl (vp_in_nI (by omega) (by omega)) d_C_covers_63 ?_
      rw [nI_clamp (show w < 2 ^ 31 by omega)]
      refine va_mmin hx hb (by rw [hml]; exact hl.1.symm) hown (hts _ ml_C_291) (hts _ st_Math_minIII) (hts _ ini_Math) (hts _ co_Math_minIII) (Nat.le_of_ble_eq_true rfl) (Nat.le_of_ble_eq_true rfl) (Nat.zero_le _) (Nat.zero_le _) d_C_covers_64 ?_
      refine lv_iload hx hb d_C_covers_67 (lv_at hl 1 rfl) ?_
      refine lv_isub hx hb d_C_covers_69 ?_
      refine lv_icmp_lt (tgt := 161) hx hb d_C_covers_70 (by decide) (fun c_70 => ?_) (fun c_70 => ?_)
      · refine lv_iconst (v := 0) hx hb d_C_covers_161 (by decide) ?_
        have er : (bI (coB vv w x y)) = 0 := by simp only [coB, miI, maI, bI, a15, decide_eq_false c_15, decide_eq_false c_34, decide_eq_true c_70, Bool.not_true, Bool.not_false, Bool.and_true, Bool.true_and, Bool.false_and, Bool.and_false, Bool.or_true, Bool.true_or, Bool.or_false, Bool.false_or, if_true, if_false, Bool.false_eq_true, Bool.true_eq_false]
        exact W.zret (v := 0) hx hb hr rfl (fun t ht hW => ⟨by rw [er], ht⟩) (fun q h => by cases h) d_C_covers_162
      · refine lv_iload_n hx hb d_C_covers_73 rfl (lv_at hl 5 rfl) ?_
        refine lv_aload_n hx hb d_C_covers_74 rfl (lv_at hl 3 rfl) ?_
        refine va_get (D := (dC, dI)) (ci := 0) (v := .ref (aa 3)) (C := R_C) (T := F_C) (N := 5) hx hb hts i_C hown hK hP 0 rfl rfl 2 (by decide) (hts _ fl_C_26) (fun _ h9 => h9) rfl d_C_covers_75 ?_
        refine va_get (D := (dC, dI)) (ci := 5) (v := .ref (aa 10)) (C := R_W) (T := F_W) (N := 8) hx hb hts i_W hown hK hP 3 rfl rfl 2 (by decide) (hts _ fl_C_105) (fun _ h9 => h9) rfl d_C_covers_78 ?_
        refine lv_iload_n hx hb d_C_covers_81 rfl (lv_at hl 4 rfl) ?_
        refine va_iald hx hb hK hP 10 0 rfl rfl (vp_in_nI (by omega) (by omega)) d_C_covers_82 ?_
        rw [nI_clamp (show w < 2 ^ 31 by omega)]
        refine lv_aload_n hx hb d_C_covers_83 rfl (lv_at hl 3 rfl) ?_
        refine va_get (D := (dC, dI)) (ci := 0) (v := .ref (aa 3)) (C := R_C) (T := F_C) (N := 5) hx hb hts i_C hown hK hP 0 rfl rfl 2 (by decide) (hts _ fl_C_26) (fun _ h9 => h9) rfl d_C_covers_84 ?_
        refine va_get (D := (dC, dI)) (ci := 5) (v := .ref (aa 12)) (C := R_W) (T := F_W) (N := 8) hx hb hts i_W hown hK hP 3 rfl rfl 4 (by decide) (hts _ fl_C_111) (fun _ h9 => h9) rfl d_C_covers_87 ?_
        refine lv_iload_n hx hb d_C_covers_90 rfl (lv_at hl 4 rfl) ?_
        refine va_iald hx hb hK hP 12 0 rfl rfl (vp_in_nI (by omega) (by omega)) d_C_covers_91 ?_
        rw [nI_clamp (show w < 2 ^ 31 by omega)]
        refine va_mmax hx hb (by rw [hml]; exact hl.1.symm) hown (hts _ ml_C_305) (hts _ st_Math_maxIII) (hts _ ini_Math) (hts _ co_Math_maxIII) (Nat.le_of_ble_eq_true rfl) (Nat.le_of_ble_eq_true rfl) (Nat.zero_le _) (Nat.zero_le _) d_C_covers_92 ?_
        refine lv_iload hx hb d_C_covers_95 (lv_at hl 1 rfl) ?_
        refine lv_iadd hx hb d_C_covers_97 ?_
        refine lv_icmp_gt (tgt := 161) hx hb d_C_covers_98 (by decide) (fun c_98 => ?_) (fun c_98 => ?_)
        · refine lv_iconst (v := 0) hx hb d_C_covers_161 (by decide) ?_
          have er : (bI (coB vv w x y)) = 0 := by simp only [coB, miI, maI, bI, a15, decide_eq_false c_15, decide_eq_false c_34, decide_eq_false c_70, decide_eq_true c_98, Bool.not_true, Bool.not_false, Bool.and_true, Bool.true_and, Bool.false_and, Bool.and_false, Bool.or_true, Bool.true_or, Bool.or_false, Bool.false_or, if_true, if_false, Bool.false_eq_true, Bool.true_eq_false]
          exact W.zret (v := 0) hx hb hr rfl (fun t ht hW => ⟨by rw [er], ht⟩) (fun q h => by cases h) d_C_covers_162
        · refine lv_iload_n hx hb d_C_covers_101 rfl (lv_at hl 6 rfl) ?_
          refine lv_aload_n hx hb d_C_covers_102 rfl (lv_at hl 3 rfl) ?_
          refine va_get (D := (dC, dI)) (ci := 0) (v := .ref (aa 3)) (C := R_C) (T := F_C) (N := 5) hx hb hts i_C hown hK hP 0 rfl rfl 2 (by decide) (hts _ fl_C_26) (fun _ h9 => h9) rfl d_C_covers_103 ?_
          refine va_get (D := (dC, dI)) (ci := 5) (v := .ref (aa 11)) (C := R_W) (T := F_W) (N := 8) hx hb hts i_W hown hK hP 3 rfl rfl 3 (by decide) (hts _ fl_C_108) (fun _ h9 => h9) rfl d_C_covers_106 ?_
          refine lv_iload_n hx hb d_C_covers_109 rfl (lv_at hl 4 rfl) ?_
          refine va_iald hx hb hK hP 11 0 rfl rfl (vp_in_nI (by omega) (by omega)) d_C_covers_110 ?_
          rw [nI_clamp (show w < 2 ^ 31 by omega)]
          refine lv_aload_n hx hb d_C_covers_111 rfl (lv_at hl 3 rfl) ?_
          refine va_get (D := (dC, dI)) (ci := 0) (v := .ref (aa 3)) (C := R_C) (T := F_C) (N := 5) hx hb hts i_C hown hK hP 0 rfl rfl 2 (by decide) (hts _ fl_C_26) (fun _ h9 => h9) rfl d_C_covers_112 ?_
          refine va_get (D := (dC, dI)) (ci := 5) (v := .ref (aa 13)) (C := R_W) (T := F_W) (N := 8) hx hb hts i_W hown hK hP 3 rfl rfl 5 (by decide) (hts _ fl_C_114) (fun _ h9 => h9) rfl d_C_covers_115 ?_
          refine lv_iload_n hx hb d_C_covers_118 rfl (lv_at hl 4 rfl) ?_
          refine va_iald hx hb hK hP 13 0 rfl rfl (vp_in_nI (by omega) (by omega)) d_C_covers_119 ?_
          rw [nI_clamp (show w < 2 ^ 31 by omega)]
          refine va_mmin hx hb (by rw [hml]; exact hl.1.symm) hown (hts _ ml_C_291) (hts _ st_Math_minIII) (hts _ ini_Math) (hts _ co_Math_minIII) (Nat.le_of_ble_eq_true rfl) (Nat.le_of_ble_eq_true rfl) (Nat.zero_le _) (Nat.zero_le _) d_C_covers_120 ?_
          refine lv_iload hx hb d_C_covers_123 (lv_at hl 0 rfl) ?_
          refine lv_isub hx hb d_C_covers_125 ?_
          refine lv_icmp_lt (tgt := 161) hx hb d_C_covers_126 (by decide) (fun c_126 => ?_) (fun c_126 => ?_)
          · refine lv_iconst (v := 0) hx hb d_C_covers_161 (by decide) ?_
            have er : (bI (coB vv w x y)) = 0 := by simp only [coB, miI, maI, bI, a15, decide_eq_false c_15, decide_eq_false c_34, decide_eq_false c_70, decide_eq_false c_98, decide_eq_true c_126, Bool.not_true, Bool.not_false, Bool.and_true, Bool.true_and, Bool.false_and, Bool.and_false, Bool.or_true, Bool.true_or, Bool.or_false, Bool.false_or, if_true, if_false, Bool.false_eq_true, Bool.true_eq_false]
            exact W.zret (v := 0) hx hb hr rfl (fun t ht hW => ⟨by rw [er], ht⟩) (fun q h => by cases h) d_C_covers_162
          · refine lv_iload_n hx hb d_C_covers_129 rfl (lv_at hl 6 rfl) ?_
            refine lv_aload_n hx hb d_C_covers_130 rfl (lv_at hl 3 rfl) ?_
            refine va_get (D := (dC, dI)) (ci := 0) (v := .ref (aa 3)) (C := R_C) (T := F_C) (N := 5) hx hb hts i_C hown hK hP 0 rfl rfl 2 (by decide) (hts _ fl_C_26) (fun _ h9 => h9) rfl d_C_covers_131 ?_
            refine va_get (D := (dC, dI)) (ci := 5) (v := .ref (aa 11)) (C := R_W) (T := F_W) (N := 8) hx hb hts i_W hown hK hP 3 rfl rfl 3 (by decide) (hts _ fl_C_108) (fun _ h9 => h9) rfl d_C_covers_134 ?_
            refine lv_iload_n hx hb d_C_covers_137 rfl (lv_at hl 4 rfl) ?_
            refine va_iald hx hb hK hP 11 0 rfl rfl (vp_in_nI (by omega) (by omega)) d_C_covers_138 ?_
            rw [nI_clamp (show w < 2 ^ 31 by omega)]
            refine lv_aload_n hx hb d_C_covers_139 rfl (lv_at hl 3 rfl) ?_
            refine va_get (D := (dC, dI)) (ci := 0) (v := .ref (aa 3)) (C := R_C) (T := F_C) (N := 5) hx hb hts i_C hown hK hP 0 rfl rfl 2 (by decide) (hts _ fl_C_26) (fun _ h9 => h9) rfl d_C_covers_140 ?_
            refine va_get (D := (dC, dI)) (ci := 5) (v := .ref (aa 13)) (C := R_W) (T := F_W) (N := 8) hx hb hts i_W hown hK hP 3 rfl rfl 5 (by decide) (hts _ fl_C_114) (fun _ h9 => h9) rfl d_C_covers_143 ?_
            refine lv_iload_n hx hb d_C_covers_146 rfl (lv_at hl 4 rfl) ?_
            refine va_iald hx hb hK hP 13 0 rfl rfl (vp_in_nI (by omega) (by omega)) d_C_covers_147 ?_
            rw [nI_clamp (show w < 2 ^ 31 by omega)]
            refine va_mmax hx hb (by rw [hml]; exact hl.1.symm) hown (hts _ ml_C_305) (hts _ st_Math_maxIII) (hts _ ini_Math) (hts _ co_Math_maxIII) (Nat.le_of_ble_eq_true rfl) (Nat.le_of_ble_eq_true rfl) (Nat.zero_le _) (Nat.zero_le _) d_C_covers_148 ?_
            refine lv_iload hx hb d_C_covers_151 (lv_at hl 0 rfl) ?_
            refine lv_iadd hx hb d_C_covers_153 ?_
            refine lv_icmp_gt (tgt := 161) hx hb d_C_covers_154 (by decide) (fun c_154 => ?_) (fun c_154 => ?_)
            · refine lv_iconst (v := 0) hx hb d_C_covers_161 (by decide) ?_
              have er : (bI (coB vv w x y)) = 0 := by simp only [coB, miI, maI, bI, a15, decide_eq_false c_15, decide_eq_false c_34, decide_eq_false c_70, decide_eq_false c_98, decide_eq_false c_126, decide_eq_true c_154, Bool.not_true, Bool.not_false, Bool.and_true, Bool.true_and, Bool.false_and, Bool.and_false, Bool.or_true, Bool.true_or, Bool.or_false, Bool.false_or, if_true, if_false, Bool.false_eq_true, Bool.true_eq_false]
              exact W.zret (v := 0) hx hb hr rfl (fun t ht hW => ⟨by rw [er], ht⟩) (fun q h => by cases h) d_C_covers_162
            · refine lv_iconst (v := 1) hx hb d_C_covers_157 (by decide) ?_
              refine lv_goto (tgt := 162) hx hb d_C_covers_158 (by decide) ?_
              have er : (bI (coB vv w x y)) = 1 := by simp only [coB, miI, maI, bI, a15, decide_eq_false c_15, decide_eq_false c_34, decide_eq_false c_70, decide_eq_false c_98, decide_eq_false c_126, decide_eq_false c_154, Bool.not_true, Bool.not_false, Bool.and_true, Bool.true_and, Bool.false_and, Bool.and_false, Bool.or_true, Bool.true_or, Bool.or_false, Bool.false_or, if_true, if_false, Bool.false_eq_true, Bool.true_eq_false]
              exact W.zret (v := 1) hx hb hr rfl (fun t ht hW => ⟨by rw [er], ht⟩) (fun q h => by cases h) d_C_covers_162
end
