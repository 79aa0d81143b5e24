section
variable {l : Launch} {dC : Nat → ClassId} {dI : Nat → Nat → Nat} {H : Heap} {cI cZ cJ : ClassId}
set_option maxRecDepth 100000 in
set_option maxHeartbeats 4000000 in
theorem c_S_init {h0 : Nat} (hP : va_P (dC, dI) classes [(h0, .inr (3, [.null, .int 0]))] H) : Met l y_S_init (wB y_S_init b_S_init 1 none) ({ frames := 1, cells := 1, slots := 6, locals := 13 } : Room) (rP [.ref h0] H (kK dC dI cI cZ cJ)) (va_Qv (fun _ : Nat → Nat => True) (fun q t => va_P (dC, dI) classes [(h0, .inr (3, [.ref (q 0), .int 0])), ((q 0), .inl (cI, 6, .inl (fun _ => 0)))] t.heap ∧ va_D (va_A [(h0, .inr (3, [.null, .int 0]))] H.size) [(h0, .inr (3, [.ref (q 0), .int 0])), ((q 0), .inl (cI, 6, .inl (fun _ => 0)))]) (va_A [(h0, .inr (3, [.null, .int 0]))] H.size)) 1 6 (va_A [(h0, .inr (3, [.null, .int 0]))] H.size) := by
  refine Met.ofW (cc := b_S_init) (maxL := 1) (ret := none) (by decide) rfl ?_
  intro p e s m args below meth c s₁ B hml hv
  obtain ⟨rfl, rfl, hK⟩ := hv
  have hx := B.exec
  have hb := B.bytes
  have hr := B.returns
  have hts0 := atoms_spec (ws := (wB y_S_init b_S_init 1 none)) B.pre
  have hts : ∀ w9 ∈ BG, w9.before [.ref h0].toArray s = true := fun w9 hw9 => hts0 w9 (List.mem_cons_of_mem _ hw9)
  have hown : s.vm.findClass R_S = some m.cls := findClass_of_methodNamed B.named
  have hlocks := B.notSynchronized
  have hin : meth.name = "<init>" := (name_of_methodNamed B.named B.method).1
  have hK : va_K (dC, dI) classes [(cI, .int), (cZ, .boolean), (cJ, .long)] s := hK
  have hD0 : va_D (fun _ => True) [(h0, .inr (3, [.null, .int 0]))] := ⟨fun i j p q hi hj _ => by have h1 : i < 1 := (List.getElem?_eq_some_iff.mp hi).1; have h2 : j < 1 := (List.getElem?_eq_some_iff.mp hj).1; omega, fun _ _ _ => trivial⟩
  have hD := hD0.self (sz := s.heap.size)
  generalize hAe : va_A [(h0, .inr (3, [.null, .int 0]))] s.heap.size = A at hD ⊢
  have hA : ∀ q : Nat, s.heap.size ≤ q → A q := fun q h => by rw [← hAe]; exact Or.inr h
  have hS : va_S A s.heap s.heap [] := va_S.rf
  have hl := lv_entry ([.ref h0]) (n := 1) (Nat.le_of_ble_eq_true rfl)
  rw [lg_entry_eq]
  generalize (lg_sl ([.ref h0]) ++ List.replicate (1 - (lg_sl ([.ref h0])).length) Slot.unset).toArray = ls at hl ⊢
  have hl : lv_has ls 1 [(0, .ref h0)] := hl
  refine lv_aload_n hx hb d_S_init_0 rfl (lv_at hl 0 rfl) ?_
  refine W.objInit hx hb hown (hts _ ml_S_3) (hts _ im_Object_initV) (hts _ co_Object_initV) rfl (by rw [hml]; exact hl.1) rfl d_S_init_1 (Nat.le_of_ble_eq_true rfl) (Nat.le_of_ble_eq_true rfl) ?_
  refine W.eq (g2 := F0 m 4 ls []) rfl ?_
  refine lv_aload_n hx hb d_S_init_4 rfl (lv_at hl 0 rfl) ?_
  refine lv_bipush (v := 6) hx hb d_S_init_5 (by decide) ?_
  refine va_newa (atype := .int) hx hb (hts _ ac_int) rfl hK hP hD hS hA (n := 6) (N' := 6) (a0 := cAr 6) (fun _ => rfl) (by decide) rfl (by decide) (Nat.le_of_ble_eq_true rfl) (Nat.le_of_ble_eq_true rfl) d_S_init_7 (fun q1 cA H hK2 hP hD hS => ?_)
  have ecA : cA = cI := cA_int hK2
  rw [ecA] at hP hD
  have hP : va_P (dC, dI) classes [(h0, .inr (3, [.null, .int 0])), (q1, .inl (cI, 6, .inl (fun _ => 0)))] H := hP
  have hD : va_D A [(h0, .inr (3, [.null, .int 0])), (q1, .inl (cI, 6, .inl (fun _ => 0)))] := hD
  refine va_putF (D := (dC, dI)) (ci := 3) (v := .ref q1) (ty := (.array .int)) (C := R_S) (T := F_S) (N := 2) hx hb hts i_S ty_S tok_S n_S hown hK hP hD hS 0 rfl rfl 0 (by decide) (hts _ fl_S_9) (fun _ h9 => h9) rfl hin rfl (by decide +kernel) rfl rfl (Nat.le_of_ble_eq_true rfl) d_S_init_9 (fun H locs hP hD hS => ?_)
  have hP : va_P (dC, dI) classes [(h0, .inr (3, [.ref q1, .int 0])), (q1, .inl (cI, 6, .inl (fun _ => 0)))] H := hP
  have hD : va_D A [(h0, .inr (3, [.ref q1, .int 0])), (q1, .inl (cI, 6, .inl (fun _ => 0)))] := hD
  refine lv_aload_n hx hb d_S_init_12 rfl (lv_at hl 0 rfl) ?_
  refine lv_iconst (v := 0) hx hb d_S_init_13 (by decide) ?_
  refine va_put (D := (dC, dI)) (ci := 3) (v := .int 0) (ty := .int) (C := R_S) (T := F_S) (N := 2) hx hb hts i_S ty_S tok_S n_S hown hK hP hD hS 0 rfl rfl 1 (by decide) (hts _ fl_S_15) (fun _ h9 => h9) rfl (by decide +kernel) rfl rfl (Nat.le_of_ble_eq_true rfl) d_S_init_14 (fun H locs hP hD hS => ?_)
  have hP : va_P (dC, dI) classes [(h0, .inr (3, [.ref q1, .int 0])), (q1, .inl (cI, 6, .inl (fun _ => 0)))] H := hP
  have hD : va_D A [(h0, .inr (3, [.ref q1, .int 0])), (q1, .inl (cI, 6, .inl (fun _ => 0)))] := hD
  exact W.vret hx hb hr (fun t ht hW => ⟨⟨(fun i => [q1].getD i 0), rfl, trivial, by rw [ht]; exact hP, hD⟩, hS.F ht⟩) hS.2.2 d_S_init_17
set_option maxRecDepth 100000 in
set_option maxHeartbeats 4000000 in
theorem c_T_init {h0 : Nat} (hP : va_P (dC, dI) classes [(h0, .inr (4, [.null, .int 0]))] H) : Met l y_T_init (wB y_T_init b_T_init 1 none) ({ frames := 1, cells := 1, slots := 8, locals := 13 } : Room) (rP [.ref h0] H (kK dC dI cI cZ cJ)) (va_Qv (fun _ : Nat → Nat => True) (fun q t => va_P (dC, dI) classes [(h0, .inr (4, [.ref (q 0), .int 0])), ((q 0), .inl (cI, 8, .inl (fun _ => 0)))] t.heap ∧ va_D (va_A [(h0, .inr (4, [.null, .int 0]))] H.size) [(h0, .inr (4, [.ref (q 0), .int 0])), ((q 0), .inl (cI, 8, .inl (fun _ => 0)))]) (va_A [(h0, .inr (4, [.null, .int 0]))] H.size)) 1 8 (va_A [(h0, .inr (4, [.null, .int 0]))] H.size) := by
  refine Met.ofW (cc := b_T_init) (maxL := 1) (ret := none) (by decide) rfl ?_
  intro p e s m args below meth c s₁ B hml hv
  obtain ⟨rfl, rfl, hK⟩ := hv
  have hx := B.exec
  have hb := B.bytes
  have hr := B.returns
  have hts0 := atoms_spec (ws := (wB y_T_init b_T_init 1 none)) B.pre
  have hts : ∀ w9 ∈ BG, w9.before [.ref h0].toArray s = true := fun w9 hw9 => hts0 w9 (List.mem_cons_of_mem _ hw9)
  have hown : s.vm.findClass R_T = some m.cls := findClass_of_methodNamed B.named
  have hlocks := B.notSynchronized
  have hin : meth.name = "<init>" := (name_of_methodNamed B.named B.method).1
  have hK : va_K (dC, dI) classes [(cI, .int), (cZ, .boolean), (cJ, .long)] s := hK
  have hD0 : va_D (fun _ => True) [(h0, .inr (4, [.null, .int 0]))] := ⟨fun i j p q hi hj _ => by have h1 : i < 1 := (List.getElem?_eq_some_iff.mp hi).1; have h2 : j < 1 := (List.getElem?_eq_some_iff.mp hj).1; omega, fun _ _ _ => trivial⟩
  have hD := hD0.self (sz := s.heap.size)
  generalize hAe : va_A [(h0, .inr (4, [.null, .int 0]))] s.heap.size = A at hD ⊢
  have hA : ∀ q : Nat, s.heap.size ≤ q → A q := fun q h => by rw [← hAe]; exact Or.inr h
  have hS : va_S A s.heap s.heap [] := va_S.rf
  have hl := lv_entry ([.ref h0]) (n := 1) (Nat.le_of_ble_eq_true rfl)
  rw [lg_entry_eq]
  generalize (lg_sl ([.ref h0]) ++ List.replicate (1 - (lg_sl ([.ref h0])).length) Slot.unset).toArray = ls at hl ⊢
  have hl : lv_has ls 1 [(0, .ref h0)] := hl
  refine lv_aload_n hx hb d_T_init_0 rfl (lv_at hl 0 rfl) ?_
  refine W.objInit hx hb hown (hts _ ml_T_3) (hts _ im_Object_initV) (hts _ co_Object_initV) rfl (by rw [hml]; exact hl.1) rfl d_T_init_1 (Nat.le_of_ble_eq_true rfl) (Nat.le_of_ble_eq_true rfl) ?_
  refine W.eq (g2 := F0 m 4 ls []) rfl ?_
  refine lv_aload_n hx hb d_T_init_4 rfl (lv_at hl 0 rfl) ?_
  refine lv_bipush (v := 8) hx hb d_T_init_5 (by decide) ?_
  refine va_newa (atype := .int) hx hb (hts _ ac_int) rfl hK hP hD hS hA (n := 8) (N' := 8) (a0 := cAr 8) (fun _ => rfl) (by decide) rfl (by decide) (Nat.le_of_ble_eq_true rfl) (Nat.le_of_ble_eq_true rfl) d_T_init_7 (fun q1 cA H hK2 hP hD hS => ?_)
  have ecA : cA = cI := cA_int hK2
  rw [ecA] at hP hD
  have hP : va_P (dC, dI) classes [(h0, .inr (4, [.null, .int 0])), (q1, .inl (cI, 8, .inl (fun _ => 0)))] H := hP
  have hD : va_D A [(h0, .inr (4, [.null, .int 0])), (q1, .inl (cI, 8, .inl (fun _ => 0)))] := hD
  refine va_putF (D := (dC, dI)) (ci := 4) (v := .ref q1) (ty := (.array .int)) (C := R_T) (T := F_T) (N := 2) hx hb hts i_T ty_T tok_T n_T hown hK hP hD hS 0 rfl rfl 0 (by decide) (hts _ fl_T_9) (fun _ h9 => h9) rfl hin rfl (by decide +kernel) rfl rfl (Nat.le_of_ble_eq_true rfl) d_T_init_9 (fun H locs hP hD hS => ?_)
  have hP : va_P (dC, dI) classes [(h0, .inr (4, [.ref q1, .int 0])), (q1, .inl (cI, 8, .inl (fun _ => 0)))] H := hP
  have hD : va_D A [(h0, .inr (4, [.ref q1, .int 0])), (q1, .inl (cI, 8, .inl (fun _ => 0)))] := hD
  refine lv_aload_n hx hb d_T_init_12 rfl (lv_at hl 0 rfl) ?_
  refine lv_iconst (v := 0) hx hb d_T_init_13 (by decide) ?_
  refine va_put (D := (dC, dI)) (ci := 4) (v := .int 0) (ty := .int) (C := R_T) (T := F_T) (N := 2) hx hb hts i_T ty_T tok_T n_T hown hK hP hD hS 0 rfl rfl 1 (by decide) (hts _ fl_T_15) (fun _ h9 => h9) rfl (by decide +kernel) rfl rfl (Nat.le_of_ble_eq_true rfl) d_T_init_14 (fun H locs hP hD hS => ?_)
  have hP : va_P (dC, dI) classes [(h0, .inr (4, [.ref q1, .int 0])), (q1, .inl (cI, 8, .inl (fun _ => 0)))] H := hP
  have hD : va_D A [(h0, .inr (4, [.ref q1, .int 0])), (q1, .inl (cI, 8, .inl (fun _ => 0)))] := hD
  exact W.vret hx hb hr (fun t ht hW => ⟨⟨(fun i => [q1].getD i 0), rfl, trivial, by rw [ht]; exact hP, hD⟩, hS.F ht⟩) hS.2.2 d_T_init_17
set_option maxRecDepth 100000 in
set_option maxHeartbeats 4000000 in
theorem c_W_init {h0 : Nat} (hP : va_P (dC, dI) classes [(h0, .inr (5, [.null, .null, .null, .null, .null, .null, .null, .int 0]))] H) : Met l y_W_init (wB y_W_init b_W_init 1 none) ({ frames := 1, cells := 7, slots := 280, locals := 13 } : Room) (rP [.ref h0] H (kK dC dI cI cZ cJ)) (va_Qv (fun _ : Nat → Nat => True) (fun q t => va_P (dC, dI) classes [(h0, .inr (5, [.ref (q 0), .ref (q 1), .ref (q 2), .ref (q 3), .ref (q 4), .ref (q 5), .ref (q 6), .int 0])), ((q 0), .inl (cI, 40, .inl (fun _ => 0))), ((q 1), .inl (cI, 40, .inl (fun _ => 0))), ((q 2), .inl (cI, 40, .inl (fun _ => 0))), ((q 3), .inl (cI, 40, .inl (fun _ => 0))), ((q 4), .inl (cI, 40, .inl (fun _ => 0))), ((q 5), .inl (cI, 40, .inl (fun _ => 0))), ((q 6), .inl (cZ, 40, .inl (fun _ => 0)))] t.heap ∧ va_D (va_A [(h0, .inr (5, [.null, .null, .null, .null, .null, .null, .null, .int 0]))] H.size) [(h0, .inr (5, [.ref (q 0), .ref (q 1), .ref (q 2), .ref (q 3), .ref (q 4), .ref (q 5), .ref (q 6), .int 0])), ((q 0), .inl (cI, 40, .inl (fun _ => 0))), ((q 1), .inl (cI, 40, .inl (fun _ => 0))), ((q 2), .inl (cI, 40, .inl (fun _ => 0))), ((q 3), .inl (cI, 40, .inl (fun _ => 0))), ((q 4), .inl (cI, 40, .inl (fun _ => 0))), ((q 5), .inl (cI, 40, .inl (fun _ => 0))), ((q 6), .inl (cZ, 40, .inl (fun _ => 0)))]) (va_A [(h0, .inr (5, [.null, .null, .null, .null, .null, .null, .null, .int 0]))] H.size)) 7 280 (va_A [(h0, .inr (5, [.null, .null, .null, .null, .null, .null, .null, .int 0]))] H.size) := by
  refine Met.ofW (cc := b_W_init) (maxL := 1) (ret := none) (by decide) rfl ?_
  intro p e s m args below meth c s₁ B hml hv
  obtain ⟨rfl, rfl, hK⟩ := hv
  have hx := B.exec
  have hb := B.bytes
  have hr := B.returns
  have hts0 := atoms_spec (ws := (wB y_W_init b_W_init 1 none)) B.pre
  have hts : ∀ w9 ∈ BG, w9.before [.ref h0].toArray s = true := fun w9 hw9 => hts0 w9 (List.mem_cons_of_mem _ hw9)
  have hown : s.vm.findClass R_W = some m.cls := findClass_of_methodNamed B.named
  have hlocks := B.notSynchronized
  have hin : meth.name = "<init>" := (name_of_methodNamed B.named B.method).1
  have hK : va_K (dC, dI) classes [(cI, .int), (cZ, .boolean), (cJ, .long)] s := hK
  have hD0 : va_D (fun _ => True) [(h0, .inr (5, [.null, .null, .null, .null, .null, .null, .null, .int 0]))] := ⟨fun i j p q hi hj _ => by have h1 : i < 1 := (List.getElem?_eq_some_iff.mp hi).1; have h2 : j < 1 := (List.getElem?_eq_some_iff.mp hj).1; omega, fun _ _ _ => trivial⟩
  have hD := hD0.self (sz := s.heap.size)
  generalize hAe : va_A [(h0, .inr (5, [.null, .null, .null, .null, .null, .null, .null, .int 0]))] s.heap.size = A at hD ⊢
  have hA : ∀ q : Nat, s.heap.size ≤ q → A q := fun q h => by rw [← hAe]; exact Or.inr h
  have hS : va_S A s.heap s.heap [] := va_S.rf
  have hl := lv_entry ([.ref h0]) (n := 1) (Nat.le_of_ble_eq_true rfl)
  rw [lg_entry_eq]
  generalize (lg_sl ([.ref h0]) ++ List.replicate (1 - (lg_sl ([.ref h0])).length) Slot.unset).toArray = ls at hl ⊢
  have hl : lv_has ls 1 [(0, .ref h0)] := hl
  refine lv_aload_n hx hb d_W_init_0 rfl (lv_at hl 0 rfl) ?_
  refine W.objInit hx hb hown (hts _ ml_W_3) (hts _ im_Object_initV) (hts _ co_Object_initV) rfl (by rw [hml]; exact hl.1) rfl d_W_init_1 (Nat.le_of_ble_eq_true rfl) (Nat.le_of_ble_eq_true rfl) ?_
  refine W.eq (g2 := F0 m 4 ls []) rfl ?_
  refine lv_aload_n hx hb d_W_init_4 rfl (lv_at hl 0 rfl) ?_
  refine lv_bipush (v := 40) hx hb d_W_init_5 (by decide) ?_
  refine va_newa (atype := .int) hx hb (hts _ ac_int) rfl hK hP hD hS hA (n := 40) (N' := 40) (a0 := cAr 40) (fun _ => rfl) (by decide) rfl (by decide) (Nat.le_of_ble_eq_true rfl) (Nat.le_of_ble_eq_true rfl) d_W_init_7 (fun q1 cA H hK2 hP hD hS => ?_)
  have ecA : cA = cI := cA_int hK2
  rw [ecA] at hP hD
  have hP : va_P (dC, dI) classes [(h0, .inr (5, [.null, .null, .null, .null, .null, .null, .null, .int 0])), (q1, .inl (cI, 40, .inl (fun _ => 0)))] H := hP
  have hD : va_D A [(h0, .inr (5, [.null, .null, .null, .null, .null, .null, .null, .int 0])), (q1, .inl (cI, 40, .inl (fun _ => 0)))] := hD
  refine va_putF (D := (dC, dI)) (ci := 5) (v := .ref q1) (ty := (.array .int)) (C := R_W) (T := F_W) (N := 8) hx hb hts i_W ty_W tok_W n_W hown hK hP hD hS 0 rfl rfl 0 (by decide) (hts _ fl_W_9) (fun _ h9 => h9) rfl hin rfl (by decide +kernel) rfl rfl (Nat.le_of_ble_eq_true rfl) d_W_init_9 (fun H locs hP hD hS => ?_)
  have hP : va_P (dC, dI) classes [(h0, .inr (5, [.ref q1, .null, .null, .null, .null, .null, .null, .int 0])), (q1, .inl (cI, 40, .inl (fun _ => 0)))] H := hP
  have hD : va_D A [(h0, .inr (5, [.ref q1, .null, .null, .null, .null, .null, .null, .int 0])), (q1, .inl (cI, 40, .inl (fun _ => 0)))] := hD
  refine lv_aload_n hx hb d_W_init_12 rfl (lv_at hl 0 rfl) ?_
  refine lv_bipush (v := 40) hx hb d_W_init_13 (by decide) ?_
  refine va_newa (atype := .int) hx hb (hts _ ac_int) rfl hK hP hD hS hA (n := 40) (N' := 40) (a0 := cAr 40) (fun _ => rfl) (by decide) rfl (by decide) (Nat.le_of_ble_eq_true rfl) (Nat.le_of_ble_eq_true rfl) d_W_init_15 (fun q2 cA H hK2 hP hD hS => ?_)
  have ecA : cA = cI := cA_int hK2
  rw [ecA] at hP hD
  have hP : va_P (dC, dI) classes [(h0, .inr (5, [.ref q1, .null, .null, .null, .null, .null, .null, .int 0])), (q1, .inl (cI, 40, .inl (fun _ => 0))), (q2, .inl (cI, 40, .inl (fun _ => 0)))] H := hP
  have hD : va_D A [(h0, .inr (5, [.ref q1, .null, .null, .null, .null, .null, .null, .int 0])), (q1, .inl (cI, 40, .inl (fun _ => 0))), (q2, .inl (cI, 40, .inl (fun _ => 0)))] := hD
  refine va_putF (D := (dC, dI)) (ci := 5) (v := .ref q2) (ty := (.array .int)) (C := R_W) (T := F_W) (N := 8) hx hb hts i_W ty_W tok_W n_W hown hK hP hD hS 0 rfl rfl 1 (by decide) (hts _ fl_W_15) (fun _ h9 => h9) rfl hin rfl (by decide +kernel) rfl rfl (Nat.le_of_ble_eq_true rfl) d_W_init_17 (fun H locs hP hD hS => ?_)
  have hP : va_P (dC, dI) classes [(h0, .inr (5, [.ref q1, .ref q2, .null, .null, .null, .null, .null, .int 0])), (q1, .inl (cI, 40, .inl (fun _ => 0))), (q2, .inl (cI, 40, .inl (fun _ => 0)))] H := hP
  have hD : va_D A [(h0, .inr (5, [.ref q1, .ref q2, .null, .null, .null, .null, .null, .int 0])), (q1, .inl (cI, 40, .inl (fun _ => 0))), (q2, .inl (cI, 40, .inl (fun _ => 0)))] := hD
  refine lv_aload_n hx hb d_W_init_20 rfl (lv_at hl 0 rfl) ?_
  refine lv_bipush (v := 40) hx hb d_W_init_21 (by decide) ?_
  refine va_newa (atype := .int) hx hb (hts _ ac_int) rfl hK hP hD hS hA (n := 40) (N' := 40) (a0 := cAr 40) (fun _ => rfl) (by decide) rfl (by decide) (Nat.le_of_ble_eq_true rfl) (Nat.le_of_ble_eq_true rfl) d_W_init_23 (fun q3 cA H hK2 hP hD hS => ?_)
  have ecA : cA = cI := cA_int hK2
  rw [ecA] at hP hD
  have hP : va_P (dC, dI) classes [(h0, .inr (5, [.ref q1, .ref q2, .null, .null, .null, .null, .null, .int 0])), (q1, .inl (cI, 40, .inl (fun _ => 0))), (q2, .inl (cI, 40, .inl (fun _ => 0))), (q3, .inl (cI, 40, .inl (fun _ => 0)))] H := hP
  have hD : va_D A [(h0, .inr (5, [.ref q1, .ref q2, .null, .null, .null, .null, .null, .int 0])), (q1, .inl (cI, 40, .inl (fun _ => 0))), (q2, .inl (cI, 40, .inl (fun _ => 0))), (q3, .inl (cI, 40, .inl (fun _ => 0)))] := hD
  refine va_putF (D := (dC, dI)) (ci := 5) (v := .ref q3) (ty := (.array .int)) (C := R_W) (T := F_W) (N := 8) hx hb hts i_W ty_W tok_W n_W hown hK hP hD hS 0 rfl rfl 2 (by decide) (hts _ fl_W_18) (fun _ h9 => h9) rfl hin rfl (by decide +kernel) rfl rfl (Nat.le_of_ble_eq_true rfl) d_W_init_25 (fun H locs hP hD hS => ?_)
  have hP : va_P (dC, dI) classes [(h0, .inr (5, [.ref q1, .ref q2, .ref q3, .null, .null, .null, .null, .int 0])), (q1, .inl (cI, 40, .inl (fun _ => 0))), (q2, .inl (cI, 40, .inl (fun _ => 0))), (q3, .inl (cI, 40, .inl (fun _ => 0)))] H := hP
  have hD : va_D A [(h0, .inr (5, [.ref q1, .ref q2, .ref q3, .null, .null, .null, .null, .int 0])), (q1, .inl (cI, 40, .inl (fun _ => 0))), (q2, .inl (cI, 40, .inl (fun _ => 0))), (q3, .inl (cI, 40, .inl (fun _ => 0)))] := hD
  refine lv_aload_n hx hb d_W_init_28 rfl (lv_at hl 0 rfl) ?_
  refine lv_bipush (v := 40) hx hb d_W_init_29 (by decide) ?_
  refine va_newa (atype := .int) hx hb (hts _ ac_int) rfl hK hP hD hS hA (n := 40) (N' := 40) (a0 := cAr 40) (fun _ => rfl) (by decide) rfl (by decide) (Nat.le_of_ble_eq_true rfl) (Nat.le_of_ble_eq_true rfl) d_W_init_31 (fun q4 cA H hK2 hP hD hS => ?_)
  have ecA : cA = cI := cA_int hK2
  rw [ecA] at hP hD
  have hP : va_P (dC, dI) classes [(h0, .inr (5, [.ref q1, .ref q2, .ref q3, .null, .null, .null, .null, .int 0])), (q1, .inl (cI, 40, .inl (fun _ => 0))), (q2, .inl (cI, 40, .inl (fun _ => 0))), (q3, .inl (cI, 40, .inl (fun _ => 0))), (q4, .inl (cI, 40, .inl (fun _ => 0)))] H := hP
  have hD : va_D A [(h0, .inr (5, [.ref q1, .ref q2, .ref q3, .null, .null, .null, .null, .int 0])), (q1, .inl (cI, 40, .inl (fun _ => 0))), (q2, .inl (cI, 40, .inl (fun _ => 0))), (q3, .inl (cI, 40, .inl (fun _ => 0))), (q4, .inl (cI, 40, .inl (fun _ => 0)))] := hD
  refine va_putF (D := (dC, dI)) (ci := 5) (v := .ref q4) (ty := (.array .int)) (C := R_W) (T := F_W) (N := 8) hx hb hts i_W ty_W tok_W n_W hown hK hP hD hS 0 rfl rfl 3 (by decide) (hts _ fl_W_21) (fun _ h9 => h9) rfl hin rfl (by decide +kernel) rfl rfl (Nat.le_of_ble_eq_true rfl) d_W_init_33 (fun H locs hP hD hS => ?_)
  have hP : va_P (dC, dI) classes [(h0, .inr (5, [.ref q1, .ref q2, .ref q3, .ref q4, .null, .null, .null, .int 0])), (q1, .inl (cI, 40, .inl (fun _ => 0))), (q2, .inl (cI, 40, .inl (fun _ => 0))), (q3, .inl (cI, 40, .inl (fun _ => 0))), (q4, .inl (cI, 40, .inl (fun _ => 0)))] H := hP
  have hD : va_D A [(h0, .inr (5, [.ref q1, .ref q2, .ref q3, .ref q4, .null, .null, .null, .int 0])), (q1, .inl (cI, 40, .inl (fun _ => 0))), (q2, .inl (cI, 40, .inl (fun _ => 0))), (q3, .inl (cI, 40, .inl (fun _ => 0))), (q4, .inl (cI, 40, .inl (fun _ => 0)))] := hD
  refine lv_aload_n hx hb d_W_init_36 rfl (lv_at hl 0 rfl) ?_
  refine lv_bipush (v := 40) hx hb d_W_init_37 (by decide) ?_
  refine va_newa (atype := .int) hx hb (hts _ ac_int) rfl hK hP hD hS hA (n := 40) (N' := 40) (a0 := cAr 40) (fun _ => rfl) (by decide) rfl (by decide) (Nat.le_of_ble_eq_true rfl) (Nat.le_of_ble_eq_true rfl) d_W_init_39 (fun q5 cA H hK2 hP hD hS => ?_)
  have ecA : cA = cI := cA_int hK2
  rw [ecA] at hP hD
  have hP : va_P (dC, dI) classes [(h0, .inr (5, [.ref q1, .ref q2, .ref q3, .ref q4, .null, .null, .null, .int 0])), (q1, .inl (cI, 40, .inl (fun _ => 0))), (q2, .inl (cI, 40, .inl (fun _ => 0))), (q3, .inl (cI, 40, .inl (fun _ => 0))), (q4, .inl (cI, 40, .inl (fun _ => 0))), (q5, .inl (cI, 40, .inl (fun _ => 0)))] H := hP
  have hD : va_D A [(h0, .inr (5, [.ref q1, .ref q2, .ref q3, .ref q4, .null, .null, .null, .int 0])), (q1, .inl (cI, 40, .inl (fun _ => 0))), (q2, .inl (cI, 40, .inl (fun _ => 0))), (q3, .inl (cI, 40, .inl (fun _ => 0))), (q4, .inl (cI, 40, .inl (fun _ => 0))), (q5, .inl (cI, 40, .inl (fun _ => 0)))] := hD
  refine va_putF (D := (dC, dI)) (ci := 5) (v := .ref q5) (ty := (.array .int)) (C := R_W) (T := F_W) (N := 8) hx hb hts i_W ty_W tok_W n_W hown hK hP hD hS 0 rfl rfl 4 (by decide) (hts _ fl_W_24) (fun _ h9 => h9) rfl hin rfl (by decide +kernel) rfl rfl (Nat.le_of_ble_eq_true rfl) d_W_init_41 (fun H locs hP hD hS => ?_)
  have hP : va_P (dC, dI) classes [(h0, .inr (5, [.ref q1, .ref q2, .ref q3, .ref q4, .ref q5, .null, .null, .int 0])), (q1, .inl (cI, 40, .inl (fun _ => 0))), (q2, .inl (cI, 40, .inl (fun _ => 0))), (q3, .inl (cI, 40, .inl (fun _ => 0))), (q4, .inl (cI, 40, .inl (fun _ => 0))), (q5, .inl (cI, 40, .inl (fun _ => 0)))] H := hP
  have hD : va_D A [(h0, .inr (5, [.ref q1, .ref q2, .ref q3, .ref q4, .ref q5, .null, .null, .int 0])), (q1, .inl (cI, 40, .inl (fun _ => 0))), (q2, .inl (cI, 40, .inl (fun _ => 0))), (q3, .inl (cI, 40, .inl (fun _ => 0))), (q4, .inl (cI, 40, .inl (fun _ => 0))), (q5, .inl (cI, 40, .inl (fun _ => 0)))] := hD
  refine lv_aload_n hx hb d_W_init_44 rfl (lv_at hl 0 rfl) ?_
  refine lv_bipush (v := 40) hx hb d_W_init_45 (by decide) ?_
  refine va_newa (atype := .int) hx hb (hts _ ac_int) rfl hK hP hD hS hA (n := 40) (N' := 40) (a0 := cAr 40) (fun _ => rfl) (by decide) rfl (by decide) (Nat.le_of_ble_eq_true rfl) (Nat.le_of_ble_eq_true rfl) d_W_init_47 (fun q6 cA H hK2 hP hD hS => ?_)
  have ecA : cA = cI := cA_int hK2
  rw [ecA] at hP hD
  have hP : va_P (dC, dI) classes [(h0, .inr (5, [.ref q1, .ref q2, .ref q3, .ref q4, .ref q5, .null, .null, .int 0])), (q1, .inl (cI, 40, .inl (fun _ => 0))), (q2, .inl (cI, 40, .inl (fun _ => 0))), (q3, .inl (cI, 40, .inl (fun _ => 0))), (q4, .inl (cI, 40, .inl (fun _ => 0))), (q5, .inl (cI, 40, .inl (fun _ => 0))), (q6, .inl (cI, 40, .inl (fun _ => 0)))] H := hP
  have hD : va_D A [(h0, .inr (5, [.ref q1, .ref q2, .ref q3, .ref q4, .ref q5, .null, .null, .int 0])), (q1, .inl (cI, 40, .inl (fun _ => 0))), (q2, .inl (cI, 40, .inl (fun _ => 0))), (q3, .inl (cI, 40, .inl (fun _ => 0))), (q4, .inl (cI, 40, .inl (fun _ => 0))), (q5, .inl (cI, 40, .inl (fun _ => 0))), (q6, .inl (cI, 40, .inl (fun _ => 0)))] := hD
  refine va_putF (D := (dC, dI)) (ci := 5) (v := .ref q6) (ty := (.array .int)) (C := R_W) (T := F_W) (N := 8) hx hb hts i_W ty_W tok_W n_W hown hK hP hD hS 0 rfl rfl 5 (by decide) (hts _ fl_W_27) (fun _ h9 => h9) rfl hin rfl (by decide +kernel) rfl rfl (Nat.le_of_ble_eq_true rfl) d_W_init_49 (fun H locs hP hD hS => ?_)
  have hP : va_P (dC, dI) classes [(h0, .inr (5, [.ref q1, .ref q2, .ref q3, .ref q4, .ref q5, .ref q6, .null, .int 0])), (q1, .inl (cI, 40, .inl (fun _ => 0))), (q2, .inl (cI, 40, .inl (fun _ => 0))), (q3, .inl (cI, 40, .inl (fun _ => 0))), (q4, .inl (cI, 40, .inl (fun _ => 0))), (q5, .inl (cI, 40, .inl (fun _ => 0))), (q6, .inl (cI, 40, .inl (fun _ => 0)))] H := hP
  have hD : va_D A [(h0, .inr (5, [.ref q1, .ref q2, .ref q3, .ref q4, .ref q5, .ref q6, .null, .int 0])), (q1, .inl (cI, 40, .inl (fun _ => 0))), (q2, .inl (cI, 40, .inl (fun _ => 0))), (q3, .inl (cI, 40, .inl (fun _ => 0))), (q4, .inl (cI, 40, .inl (fun _ => 0))), (q5, .inl (cI, 40, .inl (fun _ => 0))), (q6, .inl (cI, 40, .inl (fun _ => 0)))] := hD
  refine lv_aload_n hx hb d_W_init_52 rfl (lv_at hl 0 rfl) ?_
  refine lv_bipush (v := 40) hx hb d_W_init_53 (by decide) ?_
  refine va_newa (atype := .boolean) hx hb (hts _ ac_boolean) rfl hK hP hD hS hA (n := 40) (N' := 40) (a0 := cAr 40) (fun _ => rfl) (by decide) rfl (by decide) (Nat.le_of_ble_eq_true rfl) (Nat.le_of_ble_eq_true rfl) d_W_init_55 (fun q7 cA H hK2 hP hD hS => ?_)
  have ecA : cA = cZ := cA_bool hK2
  rw [ecA] at hP hD
  have hP : va_P (dC, dI) classes [(h0, .inr (5, [.ref q1, .ref q2, .ref q3, .ref q4, .ref q5, .ref q6, .null, .int 0])), (q1, .inl (cI, 40, .inl (fun _ => 0))), (q2, .inl (cI, 40, .inl (fun _ => 0))), (q3, .inl (cI, 40, .inl (fun _ => 0))), (q4, .inl (cI, 40, .inl (fun _ => 0))), (q5, .inl (cI, 40, .inl (fun _ => 0))), (q6, .inl (cI, 40, .inl (fun _ => 0))), (q7, .inl (cZ, 40, .inl (fun _ => 0)))] H := hP
  have hD : va_D A [(h0, .inr (5, [.ref q1, .ref q2, .ref q3, .ref q4, .ref q5, .ref q6, .null, .int 0])), (q1, .inl (cI, 40, .inl (fun _ => 0))), (q2, .inl (cI, 40, .inl (fun _ => 0))), (q3, .inl (cI, 40, .inl (fun _ => 0))), (q4, .inl (cI, 40, .inl (fun _ => 0))), (q5, .inl (cI, 40, .inl (fun _ => 0))), (q6, .inl (cI, 40, .inl (fun _ => 0))), (q7, .inl (cZ, 40, .inl (fun _ => 0)))] := hD
  refine va_putF (D := (dC, dI)) (ci := 5) (v := .ref q7) (ty := (.array .boolean)) (C := R_W) (T := F_W) (N := 8) hx hb hts i_W ty_W tok_W n_W hown hK hP hD hS 0 rfl rfl 6 (by decide) (hts _ fl_W_30) (fun _ h9 => h9) rfl hin rfl (by decide +kernel) rfl rfl (Nat.le_of_ble_eq_true rfl) d_W_init_57 (fun H locs hP hD hS => ?_)
  have hP : va_P (dC, dI) classes [(h0, .inr (5, [.ref q1, .ref q2, .ref q3, .ref q4, .ref q5, .ref q6, .ref q7, .int 0])), (q1, .inl (cI, 40, .inl (fun _ => 0))), (q2, .inl (cI, 40, .inl (fun _ => 0))), (q3, .inl (cI, 40, .inl (fun _ => 0))), (q4, .inl (cI, 40, .inl (fun _ => 0))), (q5, .inl (cI, 40, .inl (fun _ => 0))), (q6, .inl (cI, 40, .inl (fun _ => 0))), (q7, .inl (cZ, 40, .inl (fun _ => 0)))] H := hP
  have hD : va_D A [(h0, .inr (5, [.ref q1, .ref q2, .ref q3, .ref q4, .ref q5, .ref q6, .ref q7, .int 0])), (q1, .inl (cI, 40, .inl (fun _ => 0))), (q2, .inl (cI, 40, .inl (fun _ => 0))), (q3, .inl (cI, 40, .inl (fun _ => 0))), (q4, .inl (cI, 40, .inl (fun _ => 0))), (q5, .inl (cI, 40, .inl (fun _ => 0))), (q6, .inl (cI, 40, .inl (fun _ => 0))), (q7, .inl (cZ, 40, .inl (fun _ => 0)))] := hD
  refine lv_aload_n hx hb d_W_init_60 rfl (lv_at hl 0 rfl) ?_
  refine lv_iconst (v := 0) hx hb d_W_init_61 (by decide) ?_
  refine va_put (D := (dC, dI)) (ci := 5) (v := .int 0) (ty := .int) (C := R_W) (T := F_W) (N := 8) hx hb hts i_W ty_W tok_W n_W hown hK hP hD hS 0 rfl rfl 7 (by decide) (hts _ fl_W_34) (fun _ h9 => h9) rfl (by decide +kernel) rfl rfl (Nat.le_of_ble_eq_true rfl) d_W_init_62 (fun H locs hP hD hS => ?_)
  have hP : va_P (dC, dI) classes [(h0, .inr (5, [.ref q1, .ref q2, .ref q3, .ref q4, .ref q5, .ref q6, .ref q7, .int 0])), (q1, .inl (cI, 40, .inl (fun _ => 0))), (q2, .inl (cI, 40, .inl (fun _ => 0))), (q3, .inl (cI, 40, .inl (fun _ => 0))), (q4, .inl (cI, 40, .inl (fun _ => 0))), (q5, .inl (cI, 40, .inl (fun _ => 0))), (q6, .inl (cI, 40, .inl (fun _ => 0))), (q7, .inl (cZ, 40, .inl (fun _ => 0)))] H := hP
  have hD : va_D A [(h0, .inr (5, [.ref q1, .ref q2, .ref q3, .ref q4, .ref q5, .ref q6, .ref q7, .int 0])), (q1, .inl (cI, 40, .inl (fun _ => 0))), (q2, .inl (cI, 40, .inl (fun _ => 0))), (q3, .inl (cI, 40, .inl (fun _ => 0))), (q4, .inl (cI, 40, .inl (fun _ => 0))), (q5, .inl (cI, 40, .inl (fun _ => 0))), (q6, .inl (cI, 40, .inl (fun _ => 0))), (q7, .inl (cZ, 40, .inl (fun _ => 0)))] := hD
  exact W.vret hx hb hr (fun t ht hW => ⟨⟨(fun i => [q1, q2, q3, q4, q5, q6, q7].getD i 0), rfl, trivial, by rw [ht]; exact hP, hD⟩, hS.F ht⟩) hS.2.2 d_W_init_65
set_option maxRecDepth 100000 in
set_option maxHeartbeats 4000000 in
theorem c_O_init {h0 : Nat} (hP : va_P (dC, dI) classes [(h0, .inr (2, [.null, .null, .null, .int 0]))] H) : Met l y_O_init (wB y_O_init b_O_init 1 none) ({ frames := 1, cells := 3, slots := 180, locals := 13 } : Room) (rP [.ref h0] H (kK dC dI cI cZ cJ)) (va_Qv (fun _ : Nat → Nat => True) (fun q t => va_P (dC, dI) classes [(h0, .inr (2, [.ref (q 0), .ref (q 1), .ref (q 2), .int 0])), ((q 0), .inl (cI, 60, .inl (fun _ => 0))), ((q 1), .inl (cI, 60, .inl (fun _ => 0))), ((q 2), .inl (cI, 60, .inl (fun _ => 0)))] t.heap ∧ va_D (va_A [(h0, .inr (2, [.null, .null, .null, .int 0]))] H.size) [(h0, .inr (2, [.ref (q 0), .ref (q 1), .ref (q 2), .int 0])), ((q 0), .inl (cI, 60, .inl (fun _ => 0))), ((q 1), .inl (cI, 60, .inl (fun _ => 0))), ((q 2), .inl (cI, 60, .inl (fun _ => 0)))]) (va_A [(h0, .inr (2, [.null, .null, .null, .int 0]))] H.size)) 3 180 (va_A [(h0, .inr (2, [.null, .null, .null, .int 0]))] H.size) := by
  refine Met.ofW (cc := b_O_init) (maxL := 1) (ret := none) (by decide) rfl ?_
  intro p e s m args below meth c s₁ B hml hv
  obtain ⟨rfl, rfl, hK⟩ := hv
  have hx := B.exec
  have hb := B.bytes
  have hr := B.returns
  have hts0 := atoms_spec (ws := (wB y_O_init b_O_init 1 none)) B.pre
  have hts : ∀ w9 ∈ BG, w9.before [.ref h0].toArray s = true := fun w9 hw9 => hts0 w9 (List.mem_cons_of_mem _ hw9)
  have hown : s.vm.findClass R_O = some m.cls := findClass_of_methodNamed B.named
  have hlocks := B.notSynchronized
  have hin : meth.name = "<init>" := (name_of_methodNamed B.named B.method).1
  have hK : va_K (dC, dI) classes [(cI, .int), (cZ, .boolean), (cJ, .long)] s := hK
  have hD0 : va_D (fun _ => True) [(h0, .inr (2, [.null, .null, .null, .int 0]))] := ⟨fun i j p q hi hj _ => by have h1 : i < 1 := (List.getElem?_eq_some_iff.mp hi).1; have h2 : j < 1 := (List.getElem?_eq_some_iff.mp hj).1; omega, fun _ _ _ => trivial⟩
  have hD := hD0.self (sz := s.heap.size)
  generalize hAe : va_A [(h0, .inr (2, [.null, .null, .null, .int 0]))] s.heap.size = A at hD ⊢
  have hA : ∀ q : Nat, s.heap.size ≤ q → A q := fun q h => by rw [← hAe]; exact Or.inr h
  have hS : va_S A s.heap s.heap [] := va_S.rf
  have hl := lv_entry ([.ref h0]) (n := 1) (Nat.le_of_ble_eq_true rfl)
  rw [lg_entry_eq]
  generalize (lg_sl ([.ref h0]) ++ List.replicate (1 - (lg_sl ([.ref h0])).length) Slot.unset).toArray = ls at hl ⊢
  have hl : lv_has ls 1 [(0, .ref h0)] := hl
  refine lv_aload_n hx hb d_O_init_0 rfl (lv_at hl 0 rfl) ?_
  refine W.objInit hx hb hown (hts _ ml_O_3) (hts _ im_Object_initV) (hts _ co_Object_initV) rfl (by rw [hml]; exact hl.1) rfl d_O_init_1 (Nat.le_of_ble_eq_true rfl) (Nat.le_of_ble_eq_true rfl) ?_
  refine W.eq (g2 := F0 m 4 ls []) rfl ?_
  refine lv_aload_n hx hb d_O_init_4 rfl (lv_at hl 0 rfl) ?_
  refine lv_bipush (v := 60) hx hb d_O_init_5 (by decide) ?_
  refine va_newa (atype := .int) hx hb (hts _ ac_int) rfl hK hP hD hS hA (n := 60) (N' := 60) (a0 := cAr 60) (fun _ => rfl) (by decide) rfl (by decide) (Nat.le_of_ble_eq_true rfl) (Nat.le_of_ble_eq_true rfl) d_O_init_7 (fun q1 cA H hK2 hP hD hS => ?_)
  have ecA : cA = cI := cA_int hK2
  rw [ecA] at hP hD
  have hP : va_P (dC, dI) classes [(h0, .inr (2, [.null, .null, .null, .int 0])), (q1, .inl (cI, 60, .inl (fun _ => 0)))] H := hP
  have hD : va_D A [(h0, .inr (2, [.null, .null, .null, .int 0])), (q1, .inl (cI, 60, .inl (fun _ => 0)))] := hD
  refine va_putF (D := (dC, dI)) (ci := 2) (v := .ref q1) (ty := (.array .int)) (C := R_O) (T := F_O) (N := 4) hx hb hts i_O ty_O tok_O n_O hown hK hP hD hS 0 rfl rfl 0 (by decide) (hts _ fl_O_9) (fun _ h9 => h9) rfl hin rfl (by decide +kernel) rfl rfl (Nat.le_of_ble_eq_true rfl) d_O_init_9 (fun H locs hP hD hS => ?_)
  have hP : va_P (dC, dI) classes [(h0, .inr (2, [.ref q1, .null, .null, .int 0])), (q1, .inl (cI, 60, .inl (fun _ => 0)))] H := hP
  have hD : va_D A [(h0, .inr (2, [.ref q1, .null, .null, .int 0])), (q1, .inl (cI, 60, .inl (fun _ => 0)))] := hD
  refine lv_aload_n hx hb d_O_init_12 rfl (lv_at hl 0 rfl) ?_
  refine lv_bipush (v := 60) hx hb d_O_init_13 (by decide) ?_
  refine va_newa (atype := .int) hx hb (hts _ ac_int) rfl hK hP hD hS hA (n := 60) (N' := 60) (a0 := cAr 60) (fun _ => rfl) (by decide) rfl (by decide) (Nat.le_of_ble_eq_true rfl) (Nat.le_of_ble_eq_true rfl) d_O_init_15 (fun q2 cA H hK2 hP hD hS => ?_)
  have ecA : cA = cI := cA_int hK2
  rw [ecA] at hP hD
  have hP : va_P (dC, dI) classes [(h0, .inr (2, [.ref q1, .null, .null, .int 0])), (q1, .inl (cI, 60, .inl (fun _ => 0))), (q2, .inl (cI, 60, .inl (fun _ => 0)))] H := hP
  have hD : va_D A [(h0, .inr (2, [.ref q1, .null, .null, .int 0])), (q1, .inl (cI, 60, .inl (fun _ => 0))), (q2, .inl (cI, 60, .inl (fun _ => 0)))] := hD
  refine va_putF (D := (dC, dI)) (ci := 2) (v := .ref q2) (ty := (.array .int)) (C := R_O) (T := F_O) (N := 4) hx hb hts i_O ty_O tok_O n_O hown hK hP hD hS 0 rfl rfl 1 (by decide) (hts _ fl_O_15) (fun _ h9 => h9) rfl hin rfl (by decide +kernel) rfl rfl (Nat.le_of_ble_eq_true rfl) d_O_init_17 (fun H locs hP hD hS => ?_)
  have hP : va_P (dC, dI) classes [(h0, .inr (2, [.ref q1, .ref q2, .null, .int 0])), (q1, .inl (cI, 60, .inl (fun _ => 0))), (q2, .inl (cI, 60, .inl (fun _ => 0)))] H := hP
  have hD : va_D A [(h0, .inr (2, [.ref q1, .ref q2, .null, .int 0])), (q1, .inl (cI, 60, .inl (fun _ => 0))), (q2, .inl (cI, 60, .inl (fun _ => 0)))] := hD
  refine lv_aload_n hx hb d_O_init_20 rfl (lv_at hl 0 rfl) ?_
  refine lv_bipush (v := 60) hx hb d_O_init_21 (by decide) ?_
  refine va_newa (atype := .int) hx hb (hts _ ac_int) rfl hK hP hD hS hA (n := 60) (N' := 60) (a0 := cAr 60) (fun _ => rfl) (by decide) rfl (by decide) (Nat.le_of_ble_eq_true rfl) (Nat.le_of_ble_eq_true rfl) d_O_init_23 (fun q3 cA H hK2 hP hD hS => ?_)
  have ecA : cA = cI := cA_int hK2
  rw [ecA] at hP hD
  have hP : va_P (dC, dI) classes [(h0, .inr (2, [.ref q1, .ref q2, .null, .int 0])), (q1, .inl (cI, 60, .inl (fun _ => 0))), (q2, .inl (cI, 60, .inl (fun _ => 0))), (q3, .inl (cI, 60, .inl (fun _ => 0)))] H := hP
  have hD : va_D A [(h0, .inr (2, [.ref q1, .ref q2, .null, .int 0])), (q1, .inl (cI, 60, .inl (fun _ => 0))), (q2, .inl (cI, 60, .inl (fun _ => 0))), (q3, .inl (cI, 60, .inl (fun _ => 0)))] := hD
  refine va_putF (D := (dC, dI)) (ci := 2) (v := .ref q3) (ty := (.array .int)) (C := R_O) (T := F_O) (N := 4) hx hb hts i_O ty_O tok_O n_O hown hK hP hD hS 0 rfl rfl 2 (by decide) (hts _ fl_O_18) (fun _ h9 => h9) rfl hin rfl (by decide +kernel) rfl rfl (Nat.le_of_ble_eq_true rfl) d_O_init_25 (fun H locs hP hD hS => ?_)
  have hP : va_P (dC, dI) classes [(h0, .inr (2, [.ref q1, .ref q2, .ref q3, .int 0])), (q1, .inl (cI, 60, .inl (fun _ => 0))), (q2, .inl (cI, 60, .inl (fun _ => 0))), (q3, .inl (cI, 60, .inl (fun _ => 0)))] H := hP
  have hD : va_D A [(h0, .inr (2, [.ref q1, .ref q2, .ref q3, .int 0])), (q1, .inl (cI, 60, .inl (fun _ => 0))), (q2, .inl (cI, 60, .inl (fun _ => 0))), (q3, .inl (cI, 60, .inl (fun _ => 0)))] := hD
  refine lv_aload_n hx hb d_O_init_28 rfl (lv_at hl 0 rfl) ?_
  refine lv_iconst (v := 0) hx hb d_O_init_29 (by decide) ?_
  refine va_put (D := (dC, dI)) (ci := 2) (v := .int 0) (ty := .int) (C := R_O) (T := F_O) (N := 4) hx hb hts i_O ty_O tok_O n_O hown hK hP hD hS 0 rfl rfl 3 (by decide) (hts _ fl_O_21) (fun _ h9 => h9) rfl (by decide +kernel) rfl rfl (Nat.le_of_ble_eq_true rfl) d_O_init_30 (fun H locs hP hD hS => ?_)
  have hP : va_P (dC, dI) classes [(h0, .inr (2, [.ref q1, .ref q2, .ref q3, .int 0])), (q1, .inl (cI, 60, .inl (fun _ => 0))), (q2, .inl (cI, 60, .inl (fun _ => 0))), (q3, .inl (cI, 60, .inl (fun _ => 0)))] H := hP
  have hD : va_D A [(h0, .inr (2, [.ref q1, .ref q2, .ref q3, .int 0])), (q1, .inl (cI, 60, .inl (fun _ => 0))), (q2, .inl (cI, 60, .inl (fun _ => 0))), (q3, .inl (cI, 60, .inl (fun _ => 0)))] := hD
  exact W.vret hx hb hr (fun t ht hW => ⟨⟨(fun i => [q1, q2, q3].getD i 0), rfl, trivial, by rw [ht]; exact hP, hD⟩, hS.F ht⟩) hS.2.2 d_O_init_33
set_option maxRecDepth 100000 in
set_option maxHeartbeats 4000000 in
theorem c_H_init {h0 : Nat} (hP : va_P (dC, dI) classes [(h0, .inr (1, [.null, .null, .null, .null, .int 0, .int 0]))] H) : Met l y_H_init (wB y_H_init b_H_init 1 none) ({ frames := 1, cells := 4, slots := 800, locals := 13 } : Room) (rP [.ref h0] H (kK dC dI cI cZ cJ)) (va_Qv (fun _ : Nat → Nat => True) (fun q t => va_P (dC, dI) classes [(h0, .inr (1, [.ref (q 0), .ref (q 1), .ref (q 2), .ref (q 3), .int 0, .int 0])), ((q 0), .inl (cI, 200, .inl (fun _ => 0))), ((q 1), .inl (cI, 200, .inl (fun _ => 0))), ((q 2), .inl (cI, 200, .inl (fun _ => 0))), ((q 3), .inl (cI, 200, .inl (fun _ => 0)))] t.heap ∧ va_D (va_A [(h0, .inr (1, [.null, .null, .null, .null, .int 0, .int 0]))] H.size) [(h0, .inr (1, [.ref (q 0), .ref (q 1), .ref (q 2), .ref (q 3), .int 0, .int 0])), ((q 0), .inl (cI, 200, .inl (fun _ => 0))), ((q 1), .inl (cI, 200, .inl (fun _ => 0))), ((q 2), .inl (cI, 200, .inl (fun _ => 0))), ((q 3), .inl (cI, 200, .inl (fun _ => 0)))]) (va_A [(h0, .inr (1, [.null, .null, .null, .null, .int 0, .int 0]))] H.size)) 4 800 (va_A [(h0, .inr (1, [.null, .null, .null, .null, .int 0, .int 0]))] H.size) := by
  refine Met.ofW (cc := b_H_init) (maxL := 1) (ret := none) (by decide) rfl ?_
  intro p e s m args below meth c s₁ B hml hv
  obtain ⟨rfl, rfl, hK⟩ := hv
  have hx := B.exec
  have hb := B.bytes
  have hr := B.returns
  have hts0 := atoms_spec (ws := (wB y_H_init b_H_init 1 none)) B.pre
  have hts : ∀ w9 ∈ BG, w9.before [.ref h0].toArray s = true := fun w9 hw9 => hts0 w9 (List.mem_cons_of_mem _ hw9)
  have hown : s.vm.findClass R_H = some m.cls := findClass_of_methodNamed B.named
  have hlocks := B.notSynchronized
  have hin : meth.name = "<init>" := (name_of_methodNamed B.named B.method).1
  have hK : va_K (dC, dI) classes [(cI, .int), (cZ, .boolean), (cJ, .long)] s := hK
  have hD0 : va_D (fun _ => True) [(h0, .inr (1, [.null, .null, .null, .null, .int 0, .int 0]))] := ⟨fun i j p q hi hj _ => by have h1 : i < 1 := (List.getElem?_eq_some_iff.mp hi).1; have h2 : j < 1 := (List.getElem?_eq_some_iff.mp hj).1; omega, fun _ _ _ => trivial⟩
  have hD := hD0.self (sz := s.heap.size)
  generalize hAe : va_A [(h0, .inr (1, [.null, .null, .null, .null, .int 0, .int 0]))] s.heap.size = A at hD ⊢
  have hA : ∀ q : Nat, s.heap.size ≤ q → A q := fun q h => by rw [← hAe]; exact Or.inr h
  have hS : va_S A s.heap s.heap [] := va_S.rf
  have hl := lv_entry ([.ref h0]) (n := 1) (Nat.le_of_ble_eq_true rfl)
  rw [lg_entry_eq]
  generalize (lg_sl ([.ref h0]) ++ List.replicate (1 - (lg_sl ([.ref h0])).length) Slot.unset).toArray = ls at hl ⊢
  have hl : lv_has ls 1 [(0, .ref h0)] := hl
  refine lv_aload_n hx hb d_H_init_0 rfl (lv_at hl 0 rfl) ?_
  refine W.objInit hx hb hown (hts _ ml_H_3) (hts _ im_Object_initV) (hts _ co_Object_initV) rfl (by rw [hml]; exact hl.1) rfl d_H_init_1 (Nat.le_of_ble_eq_true rfl) (Nat.le_of_ble_eq_true rfl) ?_
  refine W.eq (g2 := F0 m 4 ls []) rfl ?_
  refine lv_aload_n hx hb d_H_init_4 rfl (lv_at hl 0 rfl) ?_
  refine lv_sipush (v := 200) hx hb d_H_init_5 (by decide) ?_
  refine va_newa (atype := .int) hx hb (hts _ ac_int) rfl hK hP hD hS hA (n := 200) (N' := 200) (a0 := cAr 200) (fun _ => rfl) (by decide) rfl (by decide) (Nat.le_of_ble_eq_true rfl) (Nat.le_of_ble_eq_true rfl) d_H_init_8 (fun q1 cA H hK2 hP hD hS => ?_)
  have ecA : cA = cI := cA_int hK2
  rw [ecA] at hP hD
  have hP : va_P (dC, dI) classes [(h0, .inr (1, [.null, .null, .null, .null, .int 0, .int 0])), (q1, .inl (cI, 200, .inl (fun _ => 0)))] H := hP
  have hD : va_D A [(h0, .inr (1, [.null, .null, .null, .null, .int 0, .int 0])), (q1, .inl (cI, 200, .inl (fun _ => 0)))] := hD
  refine va_putF (D := (dC, dI)) (ci := 1) (v := .ref q1) (ty := (.array .int)) (C := R_H) (T := F_H) (N := 6) hx hb hts i_H ty_H tok_H n_H hown hK hP hD hS 0 rfl rfl 0 (by decide) (hts _ fl_H_9) (fun _ h9 => h9) rfl hin rfl (by decide +kernel) rfl rfl (Nat.le_of_ble_eq_true rfl) d_H_init_10 (fun H locs hP hD hS => ?_)
  have hP : va_P (dC, dI) classes [(h0, .inr (1, [.ref q1, .null, .null, .null, .int 0, .int 0])), (q1, .inl (cI, 200, .inl (fun _ => 0)))] H := hP
  have hD : va_D A [(h0, .inr (1, [.ref q1, .null, .null, .null, .int 0, .int 0])), (q1, .inl (cI, 200, .inl (fun _ => 0)))] := hD
  refine lv_aload_n hx hb d_H_init_13 rfl (lv_at hl 0 rfl) ?_
  refine lv_sipush (v := 200) hx hb d_H_init_14 (by decide) ?_
  refine va_newa (atype := .int) hx hb (hts _ ac_int) rfl hK hP hD hS hA (n := 200) (N' := 200) (a0 := cAr 200) (fun _ => rfl) (by decide) rfl (by decide) (Nat.le_of_ble_eq_true rfl) (Nat.le_of_ble_eq_true rfl) d_H_init_17 (fun q2 cA H hK2 hP hD hS => ?_)
  have ecA : cA = cI := cA_int hK2
  rw [ecA] at hP hD
  have hP : va_P (dC, dI) classes [(h0, .inr (1, [.ref q1, .null, .null, .null, .int 0, .int 0])), (q1, .inl (cI, 200, .inl (fun _ => 0))), (q2, .inl (cI, 200, .inl (fun _ => 0)))] H := hP
  have hD : va_D A [(h0, .inr (1, [.ref q1, .null, .null, .null, .int 0, .int 0])), (q1, .inl (cI, 200, .inl (fun _ => 0))), (q2, .inl (cI, 200, .inl (fun _ => 0)))] := hD
  refine va_putF (D := (dC, dI)) (ci := 1) (v := .ref q2) (ty := (.array .int)) (C := R_H) (T := F_H) (N := 6) hx hb hts i_H ty_H tok_H n_H hown hK hP hD hS 0 rfl rfl 1 (by decide) (hts _ fl_H_15) (fun _ h9 => h9) rfl hin rfl (by decide +kernel) rfl rfl (Nat.le_of_ble_eq_true rfl) d_H_init_19 (fun H locs hP hD hS => ?_)
  have hP : va_P (dC, dI) classes [(h0, .inr (1, [.ref q1, .ref q2, .null, .null, .int 0, .int 0])), (q1, .inl (cI, 200, .inl (fun _ => 0))), (q2, .inl (cI, 200, .inl (fun _ => 0)))] H := hP
  have hD : va_D A [(h0, .inr (1, [.ref q1, .ref q2, .null, .null, .int 0, .int 0])), (q1, .inl (cI, 200, .inl (fun _ => 0))), (q2, .inl (cI, 200, .inl (fun _ => 0)))] := hD
  refine lv_aload_n hx hb d_H_init_22 rfl (lv_at hl 0 rfl) ?_
  refine lv_sipush (v := 200) hx hb d_H_init_23 (by decide) ?_
  refine va_newa (atype := .int) hx hb (hts _ ac_int) rfl hK hP hD hS hA (n := 200) (N' := 200) (a0 := cAr 200) (fun _ => rfl) (by decide) rfl (by decide) (Nat.le_of_ble_eq_true rfl) (Nat.le_of_ble_eq_true rfl) d_H_init_26 (fun q3 cA H hK2 hP hD hS => ?_)
  have ecA : cA = cI := cA_int hK2
  rw [ecA] at hP hD
  have hP : va_P (dC, dI) classes [(h0, .inr (1, [.ref q1, .ref q2, .null, .null, .int 0, .int 0])), (q1, .inl (cI, 200, .inl (fun _ => 0))), (q2, .inl (cI, 200, .inl (fun _ => 0))), (q3, .inl (cI, 200, .inl (fun _ => 0)))] H := hP
  have hD : va_D A [(h0, .inr (1, [.ref q1, .ref q2, .null, .null, .int 0, .int 0])), (q1, .inl (cI, 200, .inl (fun _ => 0))), (q2, .inl (cI, 200, .inl (fun _ => 0))), (q3, .inl (cI, 200, .inl (fun _ => 0)))] := hD
  refine va_putF (D := (dC, dI)) (ci := 1) (v := .ref q3) (ty := (.array .int)) (C := R_H) (T := F_H) (N := 6) hx hb hts i_H ty_H tok_H n_H hown hK hP hD hS 0 rfl rfl 2 (by decide) (hts _ fl_H_18) (fun _ h9 => h9) rfl hin rfl (by decide +kernel) rfl rfl (Nat.le_of_ble_eq_true rfl) d_H_init_28 (fun H locs hP hD hS => ?_)
  have hP : va_P (dC, dI) classes [(h0, .inr (1, [.ref q1, .ref q2, .ref q3, .null, .int 0, .int 0])), (q1, .inl (cI, 200, .inl (fun _ => 0))), (q2, .inl (cI, 200, .inl (fun _ => 0))), (q3, .inl (cI, 200, .inl (fun _ => 0)))] H := hP
  have hD : va_D A [(h0, .inr (1, [.ref q1, .ref q2, .ref q3, .null, .int 0, .int 0])), (q1, .inl (cI, 200, .inl (fun _ => 0))), (q2, .inl (cI, 200, .inl (fun _ => 0))), (q3, .inl (cI, 200, .inl (fun _ => 0)))] := hD
  refine lv_aload_n hx hb d_H_init_31 rfl (lv_at hl 0 rfl) ?_
  refine lv_sipush (v := 200) hx hb d_H_init_32 (by decide) ?_
  refine va_newa (atype := .int) hx hb (hts _ ac_int) rfl hK hP hD hS hA (n := 200) (N' := 200) (a0 := cAr 200) (fun _ => rfl) (by decide) rfl (by decide) (Nat.le_of_ble_eq_true rfl) (Nat.le_of_ble_eq_true rfl) d_H_init_35 (fun q4 cA H hK2 hP hD hS => ?_)
  have ecA : cA = cI := cA_int hK2
  rw [ecA] at hP hD
  have hP : va_P (dC, dI) classes [(h0, .inr (1, [.ref q1, .ref q2, .ref q3, .null, .int 0, .int 0])), (q1, .inl (cI, 200, .inl (fun _ => 0))), (q2, .inl (cI, 200, .inl (fun _ => 0))), (q3, .inl (cI, 200, .inl (fun _ => 0))), (q4, .inl (cI, 200, .inl (fun _ => 0)))] H := hP
  have hD : va_D A [(h0, .inr (1, [.ref q1, .ref q2, .ref q3, .null, .int 0, .int 0])), (q1, .inl (cI, 200, .inl (fun _ => 0))), (q2, .inl (cI, 200, .inl (fun _ => 0))), (q3, .inl (cI, 200, .inl (fun _ => 0))), (q4, .inl (cI, 200, .inl (fun _ => 0)))] := hD
  refine va_putF (D := (dC, dI)) (ci := 1) (v := .ref q4) (ty := (.array .int)) (C := R_H) (T := F_H) (N := 6) hx hb hts i_H ty_H tok_H n_H hown hK hP hD hS 0 rfl rfl 3 (by decide) (hts _ fl_H_21) (fun _ h9 => h9) rfl hin rfl (by decide +kernel) rfl rfl (Nat.le_of_ble_eq_true rfl) d_H_init_37 (fun H locs hP hD hS => ?_)
  have hP : va_P (dC, dI) classes [(h0, .inr (1, [.ref q1, .ref q2, .ref q3, .ref q4, .int 0, .int 0])), (q1, .inl (cI, 200, .inl (fun _ => 0))), (q2, .inl (cI, 200, .inl (fun _ => 0))), (q3, .inl (cI, 200, .inl (fun _ => 0))), (q4, .inl (cI, 200, .inl (fun _ => 0)))] H := hP
  have hD : va_D A [(h0, .inr (1, [.ref q1, .ref q2, .ref q3, .ref q4, .int 0, .int 0])), (q1, .inl (cI, 200, .inl (fun _ => 0))), (q2, .inl (cI, 200, .inl (fun _ => 0))), (q3, .inl (cI, 200, .inl (fun _ => 0))), (q4, .inl (cI, 200, .inl (fun _ => 0)))] := hD
  refine lv_aload_n hx hb d_H_init_40 rfl (lv_at hl 0 rfl) ?_
  refine lv_iconst (v := 0) hx hb d_H_init_41 (by decide) ?_
  refine va_put (D := (dC, dI)) (ci := 1) (v := .int 0) (ty := .int) (C := R_H) (T := F_H) (N := 6) hx hb hts i_H ty_H tok_H n_H hown hK hP hD hS 0 rfl rfl 4 (by decide) (hts _ fl_H_24) (fun _ h9 => h9) rfl (by decide +kernel) rfl rfl (Nat.le_of_ble_eq_true rfl) d_H_init_42 (fun H locs hP hD hS => ?_)
  have hP : va_P (dC, dI) classes [(h0, .inr (1, [.ref q1, .ref q2, .ref q3, .ref q4, .int 0, .int 0])), (q1, .inl (cI, 200, .inl (fun _ => 0))), (q2, .inl (cI, 200, .inl (fun _ => 0))), (q3, .inl (cI, 200, .inl (fun _ => 0))), (q4, .inl (cI, 200, .inl (fun _ => 0)))] H := hP
  have hD : va_D A [(h0, .inr (1, [.ref q1, .ref q2, .ref q3, .ref q4, .int 0, .int 0])), (q1, .inl (cI, 200, .inl (fun _ => 0))), (q2, .inl (cI, 200, .inl (fun _ => 0))), (q3, .inl (cI, 200, .inl (fun _ => 0))), (q4, .inl (cI, 200, .inl (fun _ => 0)))] := hD
  refine lv_aload_n hx hb d_H_init_45 rfl (lv_at hl 0 rfl) ?_
  refine lv_iconst (v := 0) hx hb d_H_init_46 (by decide) ?_
  refine va_put (D := (dC, dI)) (ci := 1) (v := .int 0) (ty := .int) (C := R_H) (T := F_H) (N := 6) hx hb hts i_H ty_H tok_H n_H hown hK hP hD hS 0 rfl rfl 5 (by decide) (hts _ fl_H_28) (fun _ h9 => h9) rfl (by decide +kernel) rfl rfl (Nat.le_of_ble_eq_true rfl) d_H_init_47 (fun H locs hP hD hS => ?_)
  have hP : va_P (dC, dI) classes [(h0, .inr (1, [.ref q1, .ref q2, .ref q3, .ref q4, .int 0, .int 0])), (q1, .inl (cI, 200, .inl (fun _ => 0))), (q2, .inl (cI, 200, .inl (fun _ => 0))), (q3, .inl (cI, 200, .inl (fun _ => 0))), (q4, .inl (cI, 200, .inl (fun _ => 0)))] H := hP
  have hD : va_D A [(h0, .inr (1, [.ref q1, .ref q2, .ref q3, .ref q4, .int 0, .int 0])), (q1, .inl (cI, 200, .inl (fun _ => 0))), (q2, .inl (cI, 200, .inl (fun _ => 0))), (q3, .inl (cI, 200, .inl (fun _ => 0))), (q4, .inl (cI, 200, .inl (fun _ => 0)))] := hD
  exact W.vret hx hb hr (fun t ht hW => ⟨⟨(fun i => [q1, q2, q3, q4].getD i 0), rfl, trivial, by rw [ht]; exact hP, hD⟩, hS.F ht⟩) hS.2.2 d_H_init_50
set_option maxRecDepth 100000 in
set_option maxHeartbeats 4000000 in
theorem c_M_init {h0 : Nat} (hP : va_P (dC, dI) classes [(h0, .inr (6, [.int 0, .null, .int 0, .int 0, .int 0, .null, .int 0, .null, .int 0, .null, .null, .null, .null, .null, .null, .null, .int 0, .null, .null, .null]))] H) : Met l y_M_init (wB y_M_init b_M_init 1 none) ({ frames := 1, cells := 13, slots := 1874, locals := 13 } : Room) (rP [.ref h0] H (kK dC dI cI cZ cJ)) (va_Qv (fun _ : Nat → Nat => True) (fun q t => q 0 = h0 ∧ va_P (dC, dI) classes (wM q cI cZ (fun _ => 0) (fun _ _ => 0)) t.heap ∧ dD (va_A [(h0, .inr (6, [.int 0, .null, .int 0, .int 0, .int 0, .null, .int 0, .null, .int 0, .null, .null, .null, .null, .null, .null, .null, .int 0, .null, .null, .null]))] H.size) q 14) (va_A [(h0, .inr (6, [.int 0, .null, .int 0, .int 0, .int 0, .null, .int 0, .null, .int 0, .null, .null, .null, .null, .null, .null, .null, .int 0, .null, .null, .null]))] H.size)) 13 1874 (va_A [(h0, .inr (6, [.int 0, .null, .int 0, .int 0, .int 0, .null, .int 0, .null, .int 0, .null, .null, .null, .null, .null, .null, .null, .int 0, .null, .null, .null]))] H.size) := by
  refine Met.ofW (cc := b_M_init) (maxL := 1) (ret := none) (by decide) rfl ?_
  intro p e s m args below meth c s₁ B hml hv
  obtain ⟨rfl, rfl, hK⟩ := hv
  have hx := B.exec
  have hb := B.bytes
  have hr := B.returns
  have hts0 := atoms_spec (ws := (wB y_M_init b_M_init 1 none)) B.pre
  have hts : ∀ w9 ∈ BG, w9.before [.ref h0].toArray s = true := fun w9 hw9 => hts0 w9 (List.mem_cons_of_mem _ hw9)
  have hown : s.vm.findClass R_M = some m.cls := findClass_of_methodNamed B.named
  have hlocks := B.notSynchronized
  have hin : meth.name = "<init>" := (name_of_methodNamed B.named B.method).1
  have hK : va_K (dC, dI) classes [(cI, .int), (cZ, .boolean), (cJ, .long)] s := hK
  have hD0 : va_D (fun _ => True) [(h0, .inr (6, [.int 0, .null, .int 0, .int 0, .int 0, .null, .int 0, .null, .int 0, .null, .null, .null, .null, .null, .null, .null, .int 0, .null, .null, .null]))] := ⟨fun i j p q hi hj _ => by have h1 : i < 1 := (List.getElem?_eq_some_iff.mp hi).1; have h2 : j < 1 := (List.getElem?_eq_some_iff.mp hj).1; omega, fun _ _ _ => trivial⟩
  have hD := hD0.self (sz := s.heap.size)
  generalize hAe : va_A [(h0, .inr (6, [.int 0, .null, .int 0, .int 0, .int 0, .null, .int 0, .null, .int 0, .null, .null, .null, .null, .null, .null, .null, .int 0, .null, .null, .null]))] s.heap.size = A at hD ⊢
  have hA : ∀ q : Nat, s.heap.size ≤ q → A q := fun q h => by rw [← hAe]; exact Or.inr h
  have hS : va_S A s.heap s.heap [] := va_S.rf
  have hl := lv_entry ([.ref h0]) (n := 1) (Nat.le_of_ble_eq_true rfl)
  rw [lg_entry_eq]
  generalize (lg_sl ([.ref h0]) ++ List.replicate (1 - (lg_sl ([.ref h0])).length) Slot.unset).toArray = ls at hl ⊢
  have hl : lv_has ls 1 [(0, .ref h0)] := hl
  refine lv_aload_n hx hb d_M_init_0 rfl (lv_at hl 0 rfl) ?_
  refine W.objInit hx hb hown (hts _ ml_M_1) (hts _ im_Object_initV) (hts _ co_Object_initV) rfl (by rw [hml]; exact hl.1) rfl d_M_init_1 (Nat.le_of_ble_eq_true rfl) (Nat.le_of_ble_eq_true rfl) ?_
  refine W.eq (g2 := F0 m 4 ls []) rfl ?_
  refine lv_aload_n hx hb d_M_init_4 rfl (lv_at hl 0 rfl) ?_
  refine lv_sipush (v := 1400) hx hb d_M_init_5 (by decide) ?_
  refine va_newa (atype := .int) hx hb (hts _ ac_int) rfl hK hP hD hS hA (n := 1400) (N' := 1400) (a0 := cAr 1400) (fun _ => rfl) (by decide) rfl (by decide) (Nat.le_of_ble_eq_true rfl) (Nat.le_of_ble_eq_true rfl) d_M_init_8 (fun q1 cA H hK2 hP hD hS => ?_)
  have ecA : cA = cI := cA_int hK2
  rw [ecA] at hP hD
  have hP : va_P (dC, dI) classes [(h0, .inr (6, [.int 0, .null, .int 0, .int 0, .int 0, .null, .int 0, .null, .int 0, .null, .null, .null, .null, .null, .null, .null, .int 0, .null, .null, .null])), (q1, .inl (cI, 1400, .inl (fun _ => 0)))] H := hP
  have hD : va_D A [(h0, .inr (6, [.int 0, .null, .int 0, .int 0, .int 0, .null, .int 0, .null, .int 0, .null, .null, .null, .null, .null, .null, .null, .int 0, .null, .null, .null])), (q1, .inl (cI, 1400, .inl (fun _ => 0)))] := hD
  refine va_putF (D := (dC, dI)) (ci := 6) (v := .ref q1) (ty := (.array .int)) (C := R_M) (T := F_M) (N := 20) hx hb hts i_M ty_M tok_M n_M hown hK hP hD hS 0 rfl rfl 1 (by decide) (hts _ fl_M_7) (fun _ h9 => h9) rfl hin rfl (by decide +kernel) rfl rfl (Nat.le_of_ble_eq_true rfl) d_M_init_10 (fun H locs hP hD hS => ?_)
  have hP : va_P (dC, dI) classes [(h0, .inr (6, [.int 0, .ref q1, .int 0, .int 0, .int 0, .null, .int 0, .null, .int 0, .null, .null, .null, .null, .null, .null, .null, .int 0, .null, .null, .null])), (q1, .inl (cI, 1400, .inl (fun _ => 0)))] H := hP
  have hD : va_D A [(h0, .inr (6, [.int 0, .ref q1, .int 0, .int 0, .int 0, .null, .int 0, .null, .int 0, .null, .null, .null, .null, .null, .null, .null, .int 0, .null, .null, .null])), (q1, .inl (cI, 1400, .inl (fun _ => 0)))] := hD
  refine lv_aload_n hx hb d_M_init_13 rfl (lv_at hl 0 rfl) ?_
  refine lv_bipush (v := 6) hx hb d_M_init_14 (by decide) ?_
  refine va_newa (atype := .int) hx hb (hts _ ac_int) rfl hK hP hD hS hA (n := 6) (N' := 6) (a0 := cAr 6) (fun _ => rfl) (by decide) rfl (by decide) (Nat.le_of_ble_eq_true rfl) (Nat.le_of_ble_eq_true rfl) d_M_init_16 (fun q2 cA H hK2 hP hD hS => ?_)
  have ecA : cA = cI := cA_int hK2
  rw [ecA] at hP hD
  have hP : va_P (dC, dI) classes [(h0, .inr (6, [.int 0, .ref q1, .int 0, .int 0, .int 0, .null, .int 0, .null, .int 0, .null, .null, .null, .null, .null, .null, .null, .int 0, .null, .null, .null])), (q1, .inl (cI, 1400, .inl (fun _ => 0))), (q2, .inl (cI, 6, .inl (fun _ => 0)))] H := hP
  have hD : va_D A [(h0, .inr (6, [.int 0, .ref q1, .int 0, .int 0, .int 0, .null, .int 0, .null, .int 0, .null, .null, .null, .null, .null, .null, .null, .int 0, .null, .null, .null])), (q1, .inl (cI, 1400, .inl (fun _ => 0))), (q2, .inl (cI, 6, .inl (fun _ => 0)))] := hD
  refine va_putF (D := (dC, dI)) (ci := 6) (v := .ref q2) (ty := (.array .int)) (C := R_M) (T := F_M) (N := 20) hx hb hts i_M ty_M tok_M n_M hown hK hP hD hS 0 rfl rfl 5 (by decide) (hts _ fl_M_13) (fun _ h9 => h9) rfl hin rfl (by decide +kernel) rfl rfl (Nat.le_of_ble_eq_true rfl) d_M_init_18 (fun H locs hP hD hS => ?_)
  have hP : va_P (dC, dI) classes [(h0, .inr (6, [.int 0, .ref q1, .int 0, .int 0, .int 0, .ref q2, .int 0, .null, .int 0, .null, .null, .null, .null, .null, .null, .null, .int 0, .null, .null, .null])), (q1, .inl (cI, 1400, .inl (fun _ => 0))), (q2, .inl (cI, 6, .inl (fun _ => 0)))] H := hP
  have hD : va_D A [(h0, .inr (6, [.int 0, .ref q1, .int 0, .int 0, .int 0, .ref q2, .int 0, .null, .int 0, .null, .null, .null, .null, .null, .null, .null, .int 0, .null, .null, .null])), (q1, .inl (cI, 1400, .inl (fun _ => 0))), (q2, .inl (cI, 6, .inl (fun _ => 0)))] := hD
  refine lv_aload_n hx hb d_M_init_21 rfl (lv_at hl 0 rfl) ?_
  refine lv_bipush (v := 8) hx hb d_M_init_22 (by decide) ?_
  refine va_newa (atype := .int) hx hb (hts _ ac_int) rfl hK hP hD hS hA (n := 8) (N' := 8) (a0 := cAr 8) (fun _ => rfl) (by decide) rfl (by decide) (Nat.le_of_ble_eq_true rfl) (Nat.le_of_ble_eq_true rfl) d_M_init_24 (fun q3 cA H hK2 hP hD hS => ?_)
  have ecA : cA = cI := cA_int hK2
  rw [ecA] at hP hD
  have hP : va_P (dC, dI) classes [(h0, .inr (6, [.int 0, .ref q1, .int 0, .int 0, .int 0, .ref q2, .int 0, .null, .int 0, .null, .null, .null, .null, .null, .null, .null, .int 0, .null, .null, .null])), (q1, .inl (cI, 1400, .inl (fun _ => 0))), (q2, .inl (cI, 6, .inl (fun _ => 0))), (q3, .inl (cI, 8, .inl (fun _ => 0)))] H := hP
  have hD : va_D A [(h0, .inr (6, [.int 0, .ref q1, .int 0, .int 0, .int 0, .ref q2, .int 0, .null, .int 0, .null, .null, .null, .null, .null, .null, .null, .int 0, .null, .null, .null])), (q1, .inl (cI, 1400, .inl (fun _ => 0))), (q2, .inl (cI, 6, .inl (fun _ => 0))), (q3, .inl (cI, 8, .inl (fun _ => 0)))] := hD
  refine va_putF (D := (dC, dI)) (ci := 6) (v := .ref q3) (ty := (.array .int)) (C := R_M) (T := F_M) (N := 20) hx hb hts i_M ty_M tok_M n_M hown hK hP hD hS 0 rfl rfl 7 (by decide) (hts _ fl_M_16) (fun _ h9 => h9) rfl hin rfl (by decide +kernel) rfl rfl (Nat.le_of_ble_eq_true rfl) d_M_init_26 (fun H locs hP hD hS => ?_)
  have hP : va_P (dC, dI) classes [(h0, .inr (6, [.int 0, .ref q1, .int 0, .int 0, .int 0, .ref q2, .int 0, .ref q3, .int 0, .null, .null, .null, .null, .null, .null, .null, .int 0, .null, .null, .null])), (q1, .inl (cI, 1400, .inl (fun _ => 0))), (q2, .inl (cI, 6, .inl (fun _ => 0))), (q3, .inl (cI, 8, .inl (fun _ => 0)))] H := hP
  have hD : va_D A [(h0, .inr (6, [.int 0, .ref q1, .int 0, .int 0, .int 0, .ref q2, .int 0, .ref q3, .int 0, .null, .null, .null, .null, .null, .null, .null, .int 0, .null, .null, .null])), (q1, .inl (cI, 1400, .inl (fun _ => 0))), (q2, .inl (cI, 6, .inl (fun _ => 0))), (q3, .inl (cI, 8, .inl (fun _ => 0)))] := hD
  refine lv_aload_n hx hb d_M_init_29 rfl (lv_at hl 0 rfl) ?_
  refine lv_bipush (v := 40) hx hb d_M_init_30 (by decide) ?_
  refine va_newa (atype := .int) hx hb (hts _ ac_int) rfl hK hP hD hS hA (n := 40) (N' := 40) (a0 := cAr 40) (fun _ => rfl) (by decide) rfl (by decide) (Nat.le_of_ble_eq_true rfl) (Nat.le_of_ble_eq_true rfl) d_M_init_32 (fun q4 cA H hK2 hP hD hS => ?_)
  have ecA : cA = cI := cA_int hK2
  rw [ecA] at hP hD
  have hP : va_P (dC, dI) classes [(h0, .inr (6, [.int 0, .ref q1, .int 0, .int 0, .int 0, .ref q2, .int 0, .ref q3, .int 0, .null, .null, .null, .null, .null, .null, .null, .int 0, .null, .null, .null])), (q1, .inl (cI, 1400, .inl (fun _ => 0))), (q2, .inl (cI, 6, .inl (fun _ => 0))), (q3, .inl (cI, 8, .inl (fun _ => 0))), (q4, .inl (cI, 40, .inl (fun _ => 0)))] H := hP
  have hD : va_D A [(h0, .inr (6, [.int 0, .ref q1, .int 0, .int 0, .int 0, .ref q2, .int 0, .ref q3, .int 0, .null, .null, .null, .null, .null, .null, .null, .int 0, .null, .null, .null])), (q1, .inl (cI, 1400, .inl (fun _ => 0))), (q2, .inl (cI, 6, .inl (fun _ => 0))), (q3, .inl (cI, 8, .inl (fun _ => 0))), (q4, .inl (cI, 40, .inl (fun _ => 0)))] := hD
  refine va_putF (D := (dC, dI)) (ci := 6) (v := .ref q4) (ty := (.array .int)) (C := R_M) (T := F_M) (N := 20) hx hb hts i_M ty_M tok_M n_M hown hK hP hD hS 0 rfl rfl 9 (by decide) (hts _ fl_M_19) (fun _ h9 => h9) rfl hin rfl (by decide +kernel) rfl rfl (Nat.le_of_ble_eq_true rfl) d_M_init_34 (fun H locs hP hD hS => ?_)
  have hP : va_P (dC, dI) classes [(h0, .inr (6, [.int 0, .ref q1, .int 0, .int 0, .int 0, .ref q2, .int 0, .ref q3, .int 0, .ref q4, .null, .null, .null, .null, .null, .null, .int 0, .null, .null, .null])), (q1, .inl (cI, 1400, .inl (fun _ => 0))), (q2, .inl (cI, 6, .inl (fun _ => 0))), (q3, .inl (cI, 8, .inl (fun _ => 0))), (q4, .inl (cI, 40, .inl (fun _ => 0)))] H := hP
  have hD : va_D A [(h0, .inr (6, [.int 0, .ref q1, .int 0, .int 0, .int 0, .ref q2, .int 0, .ref q3, .int 0, .ref q4, .null, .null, .null, .null, .null, .null, .int 0, .null, .null, .null])), (q1, .inl (cI, 1400, .inl (fun _ => 0))), (q2, .inl (cI, 6, .inl (fun _ => 0))), (q3, .inl (cI, 8, .inl (fun _ => 0))), (q4, .inl (cI, 40, .inl (fun _ => 0)))] := hD
  refine lv_aload_n hx hb d_M_init_37 rfl (lv_at hl 0 rfl) ?_
  refine lv_bipush (v := 40) hx hb d_M_init_38 (by decide) ?_
  refine va_newa (atype := .int) hx hb (hts _ ac_int) rfl hK hP hD hS hA (n := 40) (N' := 40) (a0 := cAr 40) (fun _ => rfl) (by decide) rfl (by decide) (Nat.le_of_ble_eq_true rfl) (Nat.le_of_ble_eq_true rfl) d_M_init_40 (fun q5 cA H hK2 hP hD hS => ?_)
  have ecA : cA = cI := cA_int hK2
  rw [ecA] at hP hD
  have hP : va_P (dC, dI) classes [(h0, .inr (6, [.int 0, .ref q1, .int 0, .int 0, .int 0, .ref q2, .int 0, .ref q3, .int 0, .ref q4, .null, .null, .null, .null, .null, .null, .int 0, .null, .null, .null])), (q1, .inl (cI, 1400, .inl (fun _ => 0))), (q2, .inl (cI, 6, .inl (fun _ => 0))), (q3, .inl (cI, 8, .inl (fun _ => 0))), (q4, .inl (cI, 40, .inl (fun _ => 0))), (q5, .inl (cI, 40, .inl (fun _ => 0)))] H := hP
  have hD : va_D A [(h0, .inr (6, [.int 0, .ref q1, .int 0, .int 0, .int 0, .ref q2, .int 0, .ref q3, .int 0, .ref q4, .null, .null, .null, .null, .null, .null, .int 0, .null, .null, .null])), (q1, .inl (cI, 1400, .inl (fun _ => 0))), (q2, .inl (cI, 6, .inl (fun _ => 0))), (q3, .inl (cI, 8, .inl (fun _ => 0))), (q4, .inl (cI, 40, .inl (fun _ => 0))), (q5, .inl (cI, 40, .inl (fun _ => 0)))] := hD
  refine va_putF (D := (dC, dI)) (ci := 6) (v := .ref q5) (ty := (.array .int)) (C := R_M) (T := F_M) (N := 20) hx hb hts i_M ty_M tok_M n_M hown hK hP hD hS 0 rfl rfl 10 (by decide) (hts _ fl_M_22) (fun _ h9 => h9) rfl hin rfl (by decide +kernel) rfl rfl (Nat.le_of_ble_eq_true rfl) d_M_init_42 (fun H locs hP hD hS => ?_)
  have hP : va_P (dC, dI) classes [(h0, .inr (6, [.int 0, .ref q1, .int 0, .int 0, .int 0, .ref q2, .int 0, .ref q3, .int 0, .ref q4, .ref q5, .null, .null, .null, .null, .null, .int 0, .null, .null, .null])), (q1, .inl (cI, 1400, .inl (fun _ => 0))), (q2, .inl (cI, 6, .inl (fun _ => 0))), (q3, .inl (cI, 8, .inl (fun _ => 0))), (q4, .inl (cI, 40, .inl (fun _ => 0))), (q5, .inl (cI, 40, .inl (fun _ => 0)))] H := hP
  have hD : va_D A [(h0, .inr (6, [.int 0, .ref q1, .int 0, .int 0, .int 0, .ref q2, .int 0, .ref q3, .int 0, .ref q4, .ref q5, .null, .null, .null, .null, .null, .int 0, .null, .null, .null])), (q1, .inl (cI, 1400, .inl (fun _ => 0))), (q2, .inl (cI, 6, .inl (fun _ => 0))), (q3, .inl (cI, 8, .inl (fun _ => 0))), (q4, .inl (cI, 40, .inl (fun _ => 0))), (q5, .inl (cI, 40, .inl (fun _ => 0)))] := hD
  refine lv_aload_n hx hb d_M_init_45 rfl (lv_at hl 0 rfl) ?_
  refine lv_bipush (v := 40) hx hb d_M_init_46 (by decide) ?_
  refine va_newa (atype := .int) hx hb (hts _ ac_int) rfl hK hP hD hS hA (n := 40) (N' := 40) (a0 := cAr 40) (fun _ => rfl) (by decide) rfl (by decide) (Nat.le_of_ble_eq_true rfl) (Nat.le_of_ble_eq_true rfl) d_M_init_48 (fun q6 cA H hK2 hP hD hS => ?_)
  have ecA : cA = cI := cA_int hK2
  rw [ecA] at hP hD
  have hP : va_P (dC, dI) classes [(h0, .inr (6, [.int 0, .ref q1, .int 0, .int 0, .int 0, .ref q2, .int 0, .ref q3, .int 0, .ref q4, .ref q5, .null, .null, .null, .null, .null, .int 0, .null, .null, .null])), (q1, .inl (cI, 1400, .inl (fun _ => 0))), (q2, .inl (cI, 6, .inl (fun _ => 0))), (q3, .inl (cI, 8, .inl (fun _ => 0))), (q4, .inl (cI, 40, .inl (fun _ => 0))), (q5, .inl (cI, 40, .inl (fun _ => 0))), (q6, .inl (cI, 40, .inl (fun _ => 0)))] H := hP
  have hD : va_D A [(h0, .inr (6, [.int 0, .ref q1, .int 0, .int 0, .int 0, .ref q2, .int 0, .ref q3, .int 0, .ref q4, .ref q5, .null, .null, .null, .null, .null, .int 0, .null, .null, .null])), (q1, .inl (cI, 1400, .inl (fun _ => 0))), (q2, .inl (cI, 6, .inl (fun _ => 0))), (q3, .inl (cI, 8, .inl (fun _ => 0))), (q4, .inl (cI, 40, .inl (fun _ => 0))), (q5, .inl (cI, 40, .inl (fun _ => 0))), (q6, .inl (cI, 40, .inl (fun _ => 0)))] := hD
  refine va_putF (D := (dC, dI)) (ci := 6) (v := .ref q6) (ty := (.array .int)) (C := R_M) (T := F_M) (N := 20) hx hb hts i_M ty_M tok_M n_M hown hK hP hD hS 0 rfl rfl 11 (by decide) (hts _ fl_M_25) (fun _ h9 => h9) rfl hin rfl (by decide +kernel) rfl rfl (Nat.le_of_ble_eq_true rfl) d_M_init_50 (fun H locs hP hD hS => ?_)
  have hP : va_P (dC, dI) classes [(h0, .inr (6, [.int 0, .ref q1, .int 0, .int 0, .int 0, .ref q2, .int 0, .ref q3, .int 0, .ref q4, .ref q5, .ref q6, .null, .null, .null, .null, .int 0, .null, .null, .null])), (q1, .inl (cI, 1400, .inl (fun _ => 0))), (q2, .inl (cI, 6, .inl (fun _ => 0))), (q3, .inl (cI, 8, .inl (fun _ => 0))), (q4, .inl (cI, 40, .inl (fun _ => 0))), (q5, .inl (cI, 40, .inl (fun _ => 0))), (q6, .inl (cI, 40, .inl (fun _ => 0)))] H := hP
  have hD : va_D A [(h0, .inr (6, [.int 0, .ref q1, .int 0, .int 0, .int 0, .ref q2, .int 0, .ref q3, .int 0, .ref q4, .ref q5, .ref q6, .null, .null, .null, .null, .int 0, .null, .null, .null])), (q1, .inl (cI, 1400, .inl (fun _ => 0))), (q2, .inl (cI, 6, .inl (fun _ => 0))), (q3, .inl (cI, 8, .inl (fun _ => 0))), (q4, .inl (cI, 40, .inl (fun _ => 0))), (q5, .inl (cI, 40, .inl (fun _ => 0))), (q6, .inl (cI, 40, .inl (fun _ => 0)))] := hD
  refine lv_aload_n hx hb d_M_init_53 rfl (lv_at hl 0 rfl) ?_
  refine lv_bipush (v := 40) hx hb d_M_init_54 (by decide) ?_
  refine va_newa (atype := .int) hx hb (hts _ ac_int) rfl hK hP hD hS hA (n := 40) (N' := 40) (a0 := cAr 40) (fun _ => rfl) (by decide) rfl (by decide) (Nat.le_of_ble_eq_true rfl) (Nat.le_of_ble_eq_true rfl) d_M_init_56 (fun q7 cA H hK2 hP hD hS => ?_)
  have ecA : cA = cI := cA_int hK2
  rw [ecA] at hP hD
  have hP : va_P (dC, dI) classes [(h0, .inr (6, [.int 0, .ref q1, .int 0, .int 0, .int 0, .ref q2, .int 0, .ref q3, .int 0, .ref q4, .ref q5, .ref q6, .null, .null, .null, .null, .int 0, .null, .null, .null])), (q1, .inl (cI, 1400, .inl (fun _ => 0))), (q2, .inl (cI, 6, .inl (fun _ => 0))), (q3, .inl (cI, 8, .inl (fun _ => 0))), (q4, .inl (cI, 40, .inl (fun _ => 0))), (q5, .inl (cI, 40, .inl (fun _ => 0))), (q6, .inl (cI, 40, .inl (fun _ => 0))), (q7, .inl (cI, 40, .inl (fun _ => 0)))] H := hP
  have hD : va_D A [(h0, .inr (6, [.int 0, .ref q1, .int 0, .int 0, .int 0, .ref q2, .int 0, .ref q3, .int 0, .ref q4, .ref q5, .ref q6, .null, .null, .null, .null, .int 0, .null, .null, .null])), (q1, .inl (cI, 1400, .inl (fun _ => 0))), (q2, .inl (cI, 6, .inl (fun _ => 0))), (q3, .inl (cI, 8, .inl (fun _ => 0))), (q4, .inl (cI, 40, .inl (fun _ => 0))), (q5, .inl (cI, 40, .inl (fun _ => 0))), (q6, .inl (cI, 40, .inl (fun _ => 0))), (q7, .inl (cI, 40, .inl (fun _ => 0)))] := hD
  refine va_putF (D := (dC, dI)) (ci := 6) (v := .ref q7) (ty := (.array .int)) (C := R_M) (T := F_M) (N := 20) hx hb hts i_M ty_M tok_M n_M hown hK hP hD hS 0 rfl rfl 12 (by decide) (hts _ fl_M_28) (fun _ h9 => h9) rfl hin rfl (by decide +kernel) rfl rfl (Nat.le_of_ble_eq_true rfl) d_M_init_58 (fun H locs hP hD hS => ?_)
  have hP : va_P (dC, dI) classes [(h0, .inr (6, [.int 0, .ref q1, .int 0, .int 0, .int 0, .ref q2, .int 0, .ref q3, .int 0, .ref q4, .ref q5, .ref q6, .ref q7, .null, .null, .null, .int 0, .null, .null, .null])), (q1, .inl (cI, 1400, .inl (fun _ => 0))), (q2, .inl (cI, 6, .inl (fun _ => 0))), (q3, .inl (cI, 8, .inl (fun _ => 0))), (q4, .inl (cI, 40, .inl (fun _ => 0))), (q5, .inl (cI, 40, .inl (fun _ => 0))), (q6, .inl (cI, 40, .inl (fun _ => 0))), (q7, .inl (cI, 40, .inl (fun _ => 0)))] H := hP
  have hD : va_D A [(h0, .inr (6, [.int 0, .ref q1, .int 0, .int 0, .int 0, .ref q2, .int 0, .ref q3, .int 0, .ref q4, .ref q5, .ref q6, .ref q7, .null, .null, .null, .int 0, .null, .null, .null])), (q1, .inl (cI, 1400, .inl (fun _ => 0))), (q2, .inl (cI, 6, .inl (fun _ => 0))), (q3, .inl (cI, 8, .inl (fun _ => 0))), (q4, .inl (cI, 40, .inl (fun _ => 0))), (q5, .inl (cI, 40, .inl (fun _ => 0))), (q6, .inl (cI, 40, .inl (fun _ => 0))), (q7, .inl (cI, 40, .inl (fun _ => 0)))] := hD
  refine lv_aload_n hx hb d_M_init_61 rfl (lv_at hl 0 rfl) ?_
  refine lv_bipush (v := 40) hx hb d_M_init_62 (by decide) ?_
  refine va_newa (atype := .int) hx hb (hts _ ac_int) rfl hK hP hD hS hA (n := 40) (N' := 40) (a0 := cAr 40) (fun _ => rfl) (by decide) rfl (by decide) (Nat.le_of_ble_eq_true rfl) (Nat.le_of_ble_eq_true rfl) d_M_init_64 (fun q8 cA H hK2 hP hD hS => ?_)
  have ecA : cA = cI := cA_int hK2
  rw [ecA] at hP hD
  have hP : va_P (dC, dI) classes [(h0, .inr (6, [.int 0, .ref q1, .int 0, .int 0, .int 0, .ref q2, .int 0, .ref q3, .int 0, .ref q4, .ref q5, .ref q6, .ref q7, .null, .null, .null, .int 0, .null, .null, .null])), (q1, .inl (cI, 1400, .inl (fun _ => 0))), (q2, .inl (cI, 6, .inl (fun _ => 0))), (q3, .inl (cI, 8, .inl (fun _ => 0))), (q4, .inl (cI, 40, .inl (fun _ => 0))), (q5, .inl (cI, 40, .inl (fun _ => 0))), (q6, .inl (cI, 40, .inl (fun _ => 0))), (q7, .inl (cI, 40, .inl (fun _ => 0))), (q8, .inl (cI, 40, .inl (fun _ => 0)))] H := hP
  have hD : va_D A [(h0, .inr (6, [.int 0, .ref q1, .int 0, .int 0, .int 0, .ref q2, .int 0, .ref q3, .int 0, .ref q4, .ref q5, .ref q6, .ref q7, .null, .null, .null, .int 0, .null, .null, .null])), (q1, .inl (cI, 1400, .inl (fun _ => 0))), (q2, .inl (cI, 6, .inl (fun _ => 0))), (q3, .inl (cI, 8, .inl (fun _ => 0))), (q4, .inl (cI, 40, .inl (fun _ => 0))), (q5, .inl (cI, 40, .inl (fun _ => 0))), (q6, .inl (cI, 40, .inl (fun _ => 0))), (q7, .inl (cI, 40, .inl (fun _ => 0))), (q8, .inl (cI, 40, .inl (fun _ => 0)))] := hD
  refine va_putF (D := (dC, dI)) (ci := 6) (v := .ref q8) (ty := (.array .int)) (C := R_M) (T := F_M) (N := 20) hx hb hts i_M ty_M tok_M n_M hown hK hP hD hS 0 rfl rfl 13 (by decide) (hts _ fl_M_31) (fun _ h9 => h9) rfl hin rfl (by decide +kernel) rfl rfl (Nat.le_of_ble_eq_true rfl) d_M_init_66 (fun H locs hP hD hS => ?_)
  have hP : va_P (dC, dI) classes [(h0, .inr (6, [.int 0, .ref q1, .int 0, .int 0, .int 0, .ref q2, .int 0, .ref q3, .int 0, .ref q4, .ref q5, .ref q6, .ref q7, .ref q8, .null, .null, .int 0, .null, .null, .null])), (q1, .inl (cI, 1400, .inl (fun _ => 0))), (q2, .inl (cI, 6, .inl (fun _ => 0))), (q3, .inl (cI, 8, .inl (fun _ => 0))), (q4, .inl (cI, 40, .inl (fun _ => 0))), (q5, .inl (cI, 40, .inl (fun _ => 0))), (q6, .inl (cI, 40, .inl (fun _ => 0))), (q7, .inl (cI, 40, .inl (fun _ => 0))), (q8, .inl (cI, 40, .inl (fun _ => 0)))] H := hP
  have hD : va_D A [(h0, .inr (6, [.int 0, .ref q1, .int 0, .int 0, .int 0, .ref q2, .int 0, .ref q3, .int 0, .ref q4, .ref q5, .ref q6, .ref q7, .ref q8, .null, .null, .int 0, .null, .null, .null])), (q1, .inl (cI, 1400, .inl (fun _ => 0))), (q2, .inl (cI, 6, .inl (fun _ => 0))), (q3, .inl (cI, 8, .inl (fun _ => 0))), (q4, .inl (cI, 40, .inl (fun _ => 0))), (q5, .inl (cI, 40, .inl (fun _ => 0))), (q6, .inl (cI, 40, .inl (fun _ => 0))), (q7, .inl (cI, 40, .inl (fun _ => 0))), (q8, .inl (cI, 40, .inl (fun _ => 0)))] := hD
  refine lv_aload_n hx hb d_M_init_69 rfl (lv_at hl 0 rfl) ?_
  refine lv_bipush (v := 40) hx hb d_M_init_70 (by decide) ?_
  refine va_newa (atype := .int) hx hb (hts _ ac_int) rfl hK hP hD hS hA (n := 40) (N' := 40) (a0 := cAr 40) (fun _ => rfl) (by decide) rfl (by decide) (Nat.le_of_ble_eq_true rfl) (Nat.le_of_ble_eq_true rfl) d_M_init_72 (fun q9 cA H hK2 hP hD hS => ?_)
  have ecA : cA = cI := cA_int hK2
  rw [ecA] at hP hD
  have hP : va_P (dC, dI) classes [(h0, .inr (6, [.int 0, .ref q1, .int 0, .int 0, .int 0, .ref q2, .int 0, .ref q3, .int 0, .ref q4, .ref q5, .ref q6, .ref q7, .ref q8, .null, .null, .int 0, .null, .null, .null])), (q1, .inl (cI, 1400, .inl (fun _ => 0))), (q2, .inl (cI, 6, .inl (fun _ => 0))), (q3, .inl (cI, 8, .inl (fun _ => 0))), (q4, .inl (cI, 40, .inl (fun _ => 0))), (q5, .inl (cI, 40, .inl (fun _ => 0))), (q6, .inl (cI, 40, .inl (fun _ => 0))), (q7, .inl (cI, 40, .inl (fun _ => 0))), (q8, .inl (cI, 40, .inl (fun _ => 0))), (q9, .inl (cI, 40, .inl (fun _ => 0)))] H := hP
  have hD : va_D A [(h0, .inr (6, [.int 0, .ref q1, .int 0, .int 0, .int 0, .ref q2, .int 0, .ref q3, .int 0, .ref q4, .ref q5, .ref q6, .ref q7, .ref q8, .null, .null, .int 0, .null, .null, .null])), (q1, .inl (cI, 1400, .inl (fun _ => 0))), (q2, .inl (cI, 6, .inl (fun _ => 0))), (q3, .inl (cI, 8, .inl (fun _ => 0))), (q4, .inl (cI, 40, .inl (fun _ => 0))), (q5, .inl (cI, 40, .inl (fun _ => 0))), (q6, .inl (cI, 40, .inl (fun _ => 0))), (q7, .inl (cI, 40, .inl (fun _ => 0))), (q8, .inl (cI, 40, .inl (fun _ => 0))), (q9, .inl (cI, 40, .inl (fun _ => 0)))] := hD
  refine va_putF (D := (dC, dI)) (ci := 6) (v := .ref q9) (ty := (.array .int)) (C := R_M) (T := F_M) (N := 20) hx hb hts i_M ty_M tok_M n_M hown hK hP hD hS 0 rfl rfl 14 (by decide) (hts _ fl_M_34) (fun _ h9 => h9) rfl hin rfl (by decide +kernel) rfl rfl (Nat.le_of_ble_eq_true rfl) d_M_init_74 (fun H locs hP hD hS => ?_)
  have hP : va_P (dC, dI) classes [(h0, .inr (6, [.int 0, .ref q1, .int 0, .int 0, .int 0, .ref q2, .int 0, .ref q3, .int 0, .ref q4, .ref q5, .ref q6, .ref q7, .ref q8, .ref q9, .null, .int 0, .null, .null, .null])), (q1, .inl (cI, 1400, .inl (fun _ => 0))), (q2, .inl (cI, 6, .inl (fun _ => 0))), (q3, .inl (cI, 8, .inl (fun _ => 0))), (q4, .inl (cI, 40, .inl (fun _ => 0))), (q5, .inl (cI, 40, .inl (fun _ => 0))), (q6, .inl (cI, 40, .inl (fun _ => 0))), (q7, .inl (cI, 40, .inl (fun _ => 0))), (q8, .inl (cI, 40, .inl (fun _ => 0))), (q9, .inl (cI, 40, .inl (fun _ => 0)))] H := hP
  have hD : va_D A [(h0, .inr (6, [.int 0, .ref q1, .int 0, .int 0, .int 0, .ref q2, .int 0, .ref q3, .int 0, .ref q4, .ref q5, .ref q6, .ref q7, .ref q8, .ref q9, .null, .int 0, .null, .null, .null])), (q1, .inl (cI, 1400, .inl (fun _ => 0))), (q2, .inl (cI, 6, .inl (fun _ => 0))), (q3, .inl (cI, 8, .inl (fun _ => 0))), (q4, .inl (cI, 40, .inl (fun _ => 0))), (q5, .inl (cI, 40, .inl (fun _ => 0))), (q6, .inl (cI, 40, .inl (fun _ => 0))), (q7, .inl (cI, 40, .inl (fun _ => 0))), (q8, .inl (cI, 40, .inl (fun _ => 0))), (q9, .inl (cI, 40, .inl (fun _ => 0)))] := hD
  refine lv_aload_n hx hb d_M_init_77 rfl (lv_at hl 0 rfl) ?_
  refine lv_bipush (v := 40) hx hb d_M_init_78 (by decide) ?_
  refine va_newa (atype := .boolean) hx hb (hts _ ac_boolean) rfl hK hP hD hS hA (n := 40) (N' := 40) (a0 := cAr 40) (fun _ => rfl) (by decide) rfl (by decide) (Nat.le_of_ble_eq_true rfl) (Nat.le_of_ble_eq_true rfl) d_M_init_80 (fun q10 cA H hK2 hP hD hS => ?_)
  have ecA : cA = cZ := cA_bool hK2
  rw [ecA] at hP hD
  have hP : va_P (dC, dI) classes [(h0, .inr (6, [.int 0, .ref q1, .int 0, .int 0, .int 0, .ref q2, .int 0, .ref q3, .int 0, .ref q4, .ref q5, .ref q6, .ref q7, .ref q8, .ref q9, .null, .int 0, .null, .null, .null])), (q1, .inl (cI, 1400, .inl (fun _ => 0))), (q2, .inl (cI, 6, .inl (fun _ => 0))), (q3, .inl (cI, 8, .inl (fun _ => 0))), (q4, .inl (cI, 40, .inl (fun _ => 0))), (q5, .inl (cI, 40, .inl (fun _ => 0))), (q6, .inl (cI, 40, .inl (fun _ => 0))), (q7, .inl (cI, 40, .inl (fun _ => 0))), (q8, .inl (cI, 40, .inl (fun _ => 0))), (q9, .inl (cI, 40, .inl (fun _ => 0))), (q10, .inl (cZ, 40, .inl (fun _ => 0)))] H := hP
  have hD : va_D A [(h0, .inr (6, [.int 0, .ref q1, .int 0, .int 0, .int 0, .ref q2, .int 0, .ref q3, .int 0, .ref q4, .ref q5, .ref q6, .ref q7, .ref q8, .ref q9, .null, .int 0, .null, .null, .null])), (q1, .inl (cI, 1400, .inl (fun _ => 0))), (q2, .inl (cI, 6, .inl (fun _ => 0))), (q3, .inl (cI, 8, .inl (fun _ => 0))), (q4, .inl (cI, 40, .inl (fun _ => 0))), (q5, .inl (cI, 40, .inl (fun _ => 0))), (q6, .inl (cI, 40, .inl (fun _ => 0))), (q7, .inl (cI, 40, .inl (fun _ => 0))), (q8, .inl (cI, 40, .inl (fun _ => 0))), (q9, .inl (cI, 40, .inl (fun _ => 0))), (q10, .inl (cZ, 40, .inl (fun _ => 0)))] := hD
  refine va_putF (D := (dC, dI)) (ci := 6) (v := .ref q10) (ty := (.array .boolean)) (C := R_M) (T := F_M) (N := 20) hx hb hts i_M ty_M tok_M n_M hown hK hP hD hS 0 rfl rfl 15 (by decide) (hts _ fl_M_37) (fun _ h9 => h9) rfl hin rfl (by decide +kernel) rfl rfl (Nat.le_of_ble_eq_true rfl) d_M_init_82 (fun H locs hP hD hS => ?_)
  have hP : va_P (dC, dI) classes [(h0, .inr (6, [.int 0, .ref q1, .int 0, .int 0, .int 0, .ref q2, .int 0, .ref q3, .int 0, .ref q4, .ref q5, .ref q6, .ref q7, .ref q8, .ref q9, .ref q10, .int 0, .null, .null, .null])), (q1, .inl (cI, 1400, .inl (fun _ => 0))), (q2, .inl (cI, 6, .inl (fun _ => 0))), (q3, .inl (cI, 8, .inl (fun _ => 0))), (q4, .inl (cI, 40, .inl (fun _ => 0))), (q5, .inl (cI, 40, .inl (fun _ => 0))), (q6, .inl (cI, 40, .inl (fun _ => 0))), (q7, .inl (cI, 40, .inl (fun _ => 0))), (q8, .inl (cI, 40, .inl (fun _ => 0))), (q9, .inl (cI, 40, .inl (fun _ => 0))), (q10, .inl (cZ, 40, .inl (fun _ => 0)))] H := hP
  have hD : va_D A [(h0, .inr (6, [.int 0, .ref q1, .int 0, .int 0, .int 0, .ref q2, .int 0, .ref q3, .int 0, .ref q4, .ref q5, .ref q6, .ref q7, .ref q8, .ref q9, .ref q10, .int 0, .null, .null, .null])), (q1, .inl (cI, 1400, .inl (fun _ => 0))), (q2, .inl (cI, 6, .inl (fun _ => 0))), (q3, .inl (cI, 8, .inl (fun _ => 0))), (q4, .inl (cI, 40, .inl (fun _ => 0))), (q5, .inl (cI, 40, .inl (fun _ => 0))), (q6, .inl (cI, 40, .inl (fun _ => 0))), (q7, .inl (cI, 40, .inl (fun _ => 0))), (q8, .inl (cI, 40, .inl (fun _ => 0))), (q9, .inl (cI, 40, .inl (fun _ => 0))), (q10, .inl (cZ, 40, .inl (fun _ => 0)))] := hD
  refine lv_aload_n hx hb d_M_init_85 rfl (lv_at hl 0 rfl) ?_
  refine lv_bipush (v := 60) hx hb d_M_init_86 (by decide) ?_
  refine va_newa (atype := .int) hx hb (hts _ ac_int) rfl hK hP hD hS hA (n := 60) (N' := 60) (a0 := cAr 60) (fun _ => rfl) (by decide) rfl (by decide) (Nat.le_of_ble_eq_true rfl) (Nat.le_of_ble_eq_true rfl) d_M_init_88 (fun q11 cA H hK2 hP hD hS => ?_)
  have ecA : cA = cI := cA_int hK2
  rw [ecA] at hP hD
  have hP : va_P (dC, dI) classes [(h0, .inr (6, [.int 0, .ref q1, .int 0, .int 0, .int 0, .ref q2, .int 0, .ref q3, .int 0, .ref q4, .ref q5, .ref q6, .ref q7, .ref q8, .ref q9, .ref q10, .int 0, .null, .null, .null])), (q1, .inl (cI, 1400, .inl (fun _ => 0))), (q2, .inl (cI, 6, .inl (fun _ => 0))), (q3, .inl (cI, 8, .inl (fun _ => 0))), (q4, .inl (cI, 40, .inl (fun _ => 0))), (q5, .inl (cI, 40, .inl (fun _ => 0))), (q6, .inl (cI, 40, .inl (fun _ => 0))), (q7, .inl (cI, 40, .inl (fun _ => 0))), (q8, .inl (cI, 40, .inl (fun _ => 0))), (q9, .inl (cI, 40, .inl (fun _ => 0))), (q10, .inl (cZ, 40, .inl (fun _ => 0))), (q11, .inl (cI, 60, .inl (fun _ => 0)))] H := hP
  have hD : va_D A [(h0, .inr (6, [.int 0, .ref q1, .int 0, .int 0, .int 0, .ref q2, .int 0, .ref q3, .int 0, .ref q4, .ref q5, .ref q6, .ref q7, .ref q8, .ref q9, .ref q10, .int 0, .null, .null, .null])), (q1, .inl (cI, 1400, .inl (fun _ => 0))), (q2, .inl (cI, 6, .inl (fun _ => 0))), (q3, .inl (cI, 8, .inl (fun _ => 0))), (q4, .inl (cI, 40, .inl (fun _ => 0))), (q5, .inl (cI, 40, .inl (fun _ => 0))), (q6, .inl (cI, 40, .inl (fun _ => 0))), (q7, .inl (cI, 40, .inl (fun _ => 0))), (q8, .inl (cI, 40, .inl (fun _ => 0))), (q9, .inl (cI, 40, .inl (fun _ => 0))), (q10, .inl (cZ, 40, .inl (fun _ => 0))), (q11, .inl (cI, 60, .inl (fun _ => 0)))] := hD
  refine va_putF (D := (dC, dI)) (ci := 6) (v := .ref q11) (ty := (.array .int)) (C := R_M) (T := F_M) (N := 20) hx hb hts i_M ty_M tok_M n_M hown hK hP hD hS 0 rfl rfl 17 (by decide) (hts _ fl_M_41) (fun _ h9 => h9) rfl hin rfl (by decide +kernel) rfl rfl (Nat.le_of_ble_eq_true rfl) d_M_init_90 (fun H locs hP hD hS => ?_)
  have hP : va_P (dC, dI) classes [(h0, .inr (6, [.int 0, .ref q1, .int 0, .int 0, .int 0, .ref q2, .int 0, .ref q3, .int 0, .ref q4, .ref q5, .ref q6, .ref q7, .ref q8, .ref q9, .ref q10, .int 0, .ref q11, .null, .null])), (q1, .inl (cI, 1400, .inl (fun _ => 0))), (q2, .inl (cI, 6, .inl (fun _ => 0))), (q3, .inl (cI, 8, .inl (fun _ => 0))), (q4, .inl (cI, 40, .inl (fun _ => 0))), (q5, .inl (cI, 40, .inl (fun _ => 0))), (q6, .inl (cI, 40, .inl (fun _ => 0))), (q7, .inl (cI, 40, .inl (fun _ => 0))), (q8, .inl (cI, 40, .inl (fun _ => 0))), (q9, .inl (cI, 40, .inl (fun _ => 0))), (q10, .inl (cZ, 40, .inl (fun _ => 0))), (q11, .inl (cI, 60, .inl (fun _ => 0)))] H := hP
  have hD : va_D A [(h0, .inr (6, [.int 0, .ref q1, .int 0, .int 0, .int 0, .ref q2, .int 0, .ref q3, .int 0, .ref q4, .ref q5, .ref q6, .ref q7, .ref q8, .ref q9, .ref q10, .int 0, .ref q11, .null, .null])), (q1, .inl (cI, 1400, .inl (fun _ => 0))), (q2, .inl (cI, 6, .inl (fun _ => 0))), (q3, .inl (cI, 8, .inl (fun _ => 0))), (q4, .inl (cI, 40, .inl (fun _ => 0))), (q5, .inl (cI, 40, .inl (fun _ => 0))), (q6, .inl (cI, 40, .inl (fun _ => 0))), (q7, .inl (cI, 40, .inl (fun _ => 0))), (q8, .inl (cI, 40, .inl (fun _ => 0))), (q9, .inl (cI, 40, .inl (fun _ => 0))), (q10, .inl (cZ, 40, .inl (fun _ => 0))), (q11, .inl (cI, 60, .inl (fun _ => 0)))] := hD
  refine lv_aload_n hx hb d_M_init_93 rfl (lv_at hl 0 rfl) ?_
  refine lv_bipush (v := 60) hx hb d_M_init_94 (by decide) ?_
  refine va_newa (atype := .int) hx hb (hts _ ac_int) rfl hK hP hD hS hA (n := 60) (N' := 60) (a0 := cAr 60) (fun _ => rfl) (by decide) rfl (by decide) (Nat.le_of_ble_eq_true rfl) (Nat.le_of_ble_eq_true rfl) d_M_init_96 (fun q12 cA H hK2 hP hD hS => ?_)
  have ecA : cA = cI := cA_int hK2
  rw [ecA] at hP hD
  have hP : va_P (dC, dI) classes [(h0, .inr (6, [.int 0, .ref q1, .int 0, .int 0, .int 0, .ref q2, .int 0, .ref q3, .int 0, .ref q4, .ref q5, .ref q6, .ref q7, .ref q8, .ref q9, .ref q10, .int 0, .ref q11, .null, .null])), (q1, .inl (cI, 1400, .inl (fun _ => 0))), (q2, .inl (cI, 6, .inl (fun _ => 0))), (q3, .inl (cI, 8, .inl (fun _ => 0))), (q4, .inl (cI, 40, .inl (fun _ => 0))), (q5, .inl (cI, 40, .inl (fun _ => 0))), (q6, .inl (cI, 40, .inl (fun _ => 0))), (q7, .inl (cI, 40, .inl (fun _ => 0))), (q8, .inl (cI, 40, .inl (fun _ => 0))), (q9, .inl (cI, 40, .inl (fun _ => 0))), (q10, .inl (cZ, 40, .inl (fun _ => 0))), (q11, .inl (cI, 60, .inl (fun _ => 0))), (q12, .inl (cI, 60, .inl (fun _ => 0)))] H := hP
  have hD : va_D A [(h0, .inr (6, [.int 0, .ref q1, .int 0, .int 0, .int 0, .ref q2, .int 0, .ref q3, .int 0, .ref q4, .ref q5, .ref q6, .ref q7, .ref q8, .ref q9, .ref q10, .int 0, .ref q11, .null, .null])), (q1, .inl (cI, 1400, .inl (fun _ => 0))), (q2, .inl (cI, 6, .inl (fun _ => 0))), (q3, .inl (cI, 8, .inl (fun _ => 0))), (q4, .inl (cI, 40, .inl (fun _ => 0))), (q5, .inl (cI, 40, .inl (fun _ => 0))), (q6, .inl (cI, 40, .inl (fun _ => 0))), (q7, .inl (cI, 40, .inl (fun _ => 0))), (q8, .inl (cI, 40, .inl (fun _ => 0))), (q9, .inl (cI, 40, .inl (fun _ => 0))), (q10, .inl (cZ, 40, .inl (fun _ => 0))), (q11, .inl (cI, 60, .inl (fun _ => 0))), (q12, .inl (cI, 60, .inl (fun _ => 0)))] := hD
  refine va_putF (D := (dC, dI)) (ci := 6) (v := .ref q12) (ty := (.array .int)) (C := R_M) (T := F_M) (N := 20) hx hb hts i_M ty_M tok_M n_M hown hK hP hD hS 0 rfl rfl 18 (by decide) (hts _ fl_M_44) (fun _ h9 => h9) rfl hin rfl (by decide +kernel) rfl rfl (Nat.le_of_ble_eq_true rfl) d_M_init_98 (fun H locs hP hD hS => ?_)
  have hP : va_P (dC, dI) classes [(h0, .inr (6, [.int 0, .ref q1, .int 0, .int 0, .int 0, .ref q2, .int 0, .ref q3, .int 0, .ref q4, .ref q5, .ref q6, .ref q7, .ref q8, .ref q9, .ref q10, .int 0, .ref q11, .ref q12, .null])), (q1, .inl (cI, 1400, .inl (fun _ => 0))), (q2, .inl (cI, 6, .inl (fun _ => 0))), (q3, .inl (cI, 8, .inl (fun _ => 0))), (q4, .inl (cI, 40, .inl (fun _ => 0))), (q5, .inl (cI, 40, .inl (fun _ => 0))), (q6, .inl (cI, 40, .inl (fun _ => 0))), (q7, .inl (cI, 40, .inl (fun _ => 0))), (q8, .inl (cI, 40, .inl (fun _ => 0))), (q9, .inl (cI, 40, .inl (fun _ => 0))), (q10, .inl (cZ, 40, .inl (fun _ => 0))), (q11, .inl (cI, 60, .inl (fun _ => 0))), (q12, .inl (cI, 60, .inl (fun _ => 0)))] H := hP
  have hD : va_D A [(h0, .inr (6, [.int 0, .ref q1, .int 0, .int 0, .int 0, .ref q2, .int 0, .ref q3, .int 0, .ref q4, .ref q5, .ref q6, .ref q7, .ref q8, .ref q9, .ref q10, .int 0, .ref q11, .ref q12, .null])), (q1, .inl (cI, 1400, .inl (fun _ => 0))), (q2, .inl (cI, 6, .inl (fun _ => 0))), (q3, .inl (cI, 8, .inl (fun _ => 0))), (q4, .inl (cI, 40, .inl (fun _ => 0))), (q5, .inl (cI, 40, .inl (fun _ => 0))), (q6, .inl (cI, 40, .inl (fun _ => 0))), (q7, .inl (cI, 40, .inl (fun _ => 0))), (q8, .inl (cI, 40, .inl (fun _ => 0))), (q9, .inl (cI, 40, .inl (fun _ => 0))), (q10, .inl (cZ, 40, .inl (fun _ => 0))), (q11, .inl (cI, 60, .inl (fun _ => 0))), (q12, .inl (cI, 60, .inl (fun _ => 0)))] := hD
  refine lv_aload_n hx hb d_M_init_101 rfl (lv_at hl 0 rfl) ?_
  refine lv_bipush (v := 60) hx hb d_M_init_102 (by decide) ?_
  refine va_newa (atype := .int) hx hb (hts _ ac_int) rfl hK hP hD hS hA (n := 60) (N' := 60) (a0 := cAr 60) (fun _ => rfl) (by decide) rfl (by decide) (Nat.le_of_ble_eq_true rfl) (Nat.le_of_ble_eq_true rfl) d_M_init_104 (fun q13 cA H hK2 hP hD hS => ?_)
  have ecA : cA = cI := cA_int hK2
  rw [ecA] at hP hD
  have hP : va_P (dC, dI) classes [(h0, .inr (6, [.int 0, .ref q1, .int 0, .int 0, .int 0, .ref q2, .int 0, .ref q3, .int 0, .ref q4, .ref q5, .ref q6, .ref q7, .ref q8, .ref q9, .ref q10, .int 0, .ref q11, .ref q12, .null])), (q1, .inl (cI, 1400, .inl (fun _ => 0))), (q2, .inl (cI, 6, .inl (fun _ => 0))), (q3, .inl (cI, 8, .inl (fun _ => 0))), (q4, .inl (cI, 40, .inl (fun _ => 0))), (q5, .inl (cI, 40, .inl (fun _ => 0))), (q6, .inl (cI, 40, .inl (fun _ => 0))), (q7, .inl (cI, 40, .inl (fun _ => 0))), (q8, .inl (cI, 40, .inl (fun _ => 0))), (q9, .inl (cI, 40, .inl (fun _ => 0))), (q10, .inl (cZ, 40, .inl (fun _ => 0))), (q11, .inl (cI, 60, .inl (fun _ => 0))), (q12, .inl (cI, 60, .inl (fun _ => 0))), (q13, .inl (cI, 60, .inl (fun _ => 0)))] H := hP
  have hD : va_D A [(h0, .inr (6, [.int 0, .ref q1, .int 0, .int 0, .int 0, .ref q2, .int 0, .ref q3, .int 0, .ref q4, .ref q5, .ref q6, .ref q7, .ref q8, .ref q9, .ref q10, .int 0, .ref q11, .ref q12, .null])), (q1, .inl (cI, 1400, .inl (fun _ => 0))), (q2, .inl (cI, 6, .inl (fun _ => 0))), (q3, .inl (cI, 8, .inl (fun _ => 0))), (q4, .inl (cI, 40, .inl (fun _ => 0))), (q5, .inl (cI, 40, .inl (fun _ => 0))), (q6, .inl (cI, 40, .inl (fun _ => 0))), (q7, .inl (cI, 40, .inl (fun _ => 0))), (q8, .inl (cI, 40, .inl (fun _ => 0))), (q9, .inl (cI, 40, .inl (fun _ => 0))), (q10, .inl (cZ, 40, .inl (fun _ => 0))), (q11, .inl (cI, 60, .inl (fun _ => 0))), (q12, .inl (cI, 60, .inl (fun _ => 0))), (q13, .inl (cI, 60, .inl (fun _ => 0)))] := hD
  refine va_putF (D := (dC, dI)) (ci := 6) (v := .ref q13) (ty := (.array .int)) (C := R_M) (T := F_M) (N := 20) hx hb hts i_M ty_M tok_M n_M hown hK hP hD hS 0 rfl rfl 19 (by decide) (hts _ fl_M_47) (fun _ h9 => h9) rfl hin rfl (by decide +kernel) rfl rfl (Nat.le_of_ble_eq_true rfl) d_M_init_106 (fun H locs hP hD hS => ?_)
  have hP : va_P (dC, dI) classes [(h0, .inr (6, [.int 0, .ref q1, .int 0, .int 0, .int 0, .ref q2, .int 0, .ref q3, .int 0, .ref q4, .ref q5, .ref q6, .ref q7, .ref q8, .ref q9, .ref q10, .int 0, .ref q11, .ref q12, .ref q13])), (q1, .inl (cI, 1400, .inl (fun _ => 0))), (q2, .inl (cI, 6, .inl (fun _ => 0))), (q3, .inl (cI, 8, .inl (fun _ => 0))), (q4, .inl (cI, 40, .inl (fun _ => 0))), (q5, .inl (cI, 40, .inl (fun _ => 0))), (q6, .inl (cI, 40, .inl (fun _ => 0))), (q7, .inl (cI, 40, .inl (fun _ => 0))), (q8, .inl (cI, 40, .inl (fun _ => 0))), (q9, .inl (cI, 40, .inl (fun _ => 0))), (q10, .inl (cZ, 40, .inl (fun _ => 0))), (q11, .inl (cI, 60, .inl (fun _ => 0))), (q12, .inl (cI, 60, .inl (fun _ => 0))), (q13, .inl (cI, 60, .inl (fun _ => 0)))] H := hP
  have hD : va_D A [(h0, .inr (6, [.int 0, .ref q1, .int 0, .int 0, .int 0, .ref q2, .int 0, .ref q3, .int 0, .ref q4, .ref q5, .ref q6, .ref q7, .ref q8, .ref q9, .ref q10, .int 0, .ref q11, .ref q12, .ref q13])), (q1, .inl (cI, 1400, .inl (fun _ => 0))), (q2, .inl (cI, 6, .inl (fun _ => 0))), (q3, .inl (cI, 8, .inl (fun _ => 0))), (q4, .inl (cI, 40, .inl (fun _ => 0))), (q5, .inl (cI, 40, .inl (fun _ => 0))), (q6, .inl (cI, 40, .inl (fun _ => 0))), (q7, .inl (cI, 40, .inl (fun _ => 0))), (q8, .inl (cI, 40, .inl (fun _ => 0))), (q9, .inl (cI, 40, .inl (fun _ => 0))), (q10, .inl (cZ, 40, .inl (fun _ => 0))), (q11, .inl (cI, 60, .inl (fun _ => 0))), (q12, .inl (cI, 60, .inl (fun _ => 0))), (q13, .inl (cI, 60, .inl (fun _ => 0)))] := hD
  have hPw : va_P (dC, dI) classes (wM (fun i => ([h0, q1, q2, q3, q4, q5, q6, q7, q8, q9, q10, q11, q12, q13] : List Nat).getD i 0) cI cZ (fun _ => 0) (fun _ _ => 0)) H := hP
  exact W.vret hx hb hr (fun t ht hW => ⟨⟨(fun i => ([h0, q1, q2, q3, q4, q5, q6, q7, q8, q9, q10, q11, q12, q13] : List Nat).getD i 0), rfl, trivial, rfl, by rw [ht]; exact hPw, D_dD (n := 14) hD rfl⟩, hS.F ht⟩) hS.2.2 d_M_init_109
set_option maxRecDepth 100000 in
set_option maxHeartbeats 4000000 in
theorem c_C_init {h0 : Nat} (hP : va_P (dC, dI) classes [(h0, .inr (0, [.null, .null, .null, .null, .null]))] H) : Met l y_C_init (wB y_C_init b_C_init 1 none) ({ frames := 2, cells := 21, slots := 1296, locals := 33 } : Room) (rP [.ref h0] H (kN dC dI cI cZ cJ)) (va_Qv (fun _ : Nat → Nat => True) (fun q t => q 0 = h0 ∧ va_P (dC, dI) classes (wC q cI cZ (fun _ => 0) (fun _ _ => 0)) t.heap ∧ dD (va_A [(h0, .inr (0, [.null, .null, .null, .null, .null]))] H.size) q 22) (va_A [(h0, .inr (0, [.null, .null, .null, .null, .null]))] H.size)) 21 1296 (va_A [(h0, .inr (0, [.null, .null, .null, .null, .null]))] H.size) := by
  refine Met.ofW (cc := b_C_init) (maxL := 1) (ret := none) (by decide) rfl ?_
  intro p e s m args below meth c s₁ B hml hv
  obtain ⟨rfl, rfl, hK, hNw⟩ := hv
  have hx := B.exec
  have hb := B.bytes
  have hr := B.returns
  have hts0 := atoms_spec (ws := (wB y_C_init b_C_init 1 none)) B.pre
  have hts : ∀ w9 ∈ BG, w9.before [.ref h0].toArray s = true := fun w9 hw9 => hts0 w9 (List.mem_cons_of_mem _ hw9)
  have hown : s.vm.findClass R_C = some m.cls := findClass_of_methodNamed B.named
  have hlocks := B.notSynchronized
  have hin : meth.name = "<init>" := (name_of_methodNamed B.named B.method).1
  have hK : va_K (dC, dI) classes [(cI, .int), (cZ, .boolean), (cJ, .long)] s := hK
  have hD0 : va_D (fun _ => True) [(h0, .inr (0, [.null, .null, .null, .null, .null]))] := ⟨fun i j p q hi hj _ => by have h1 : i < 1 := (List.getElem?_eq_some_iff.mp hi).1; have h2 : j < 1 := (List.getElem?_eq_some_iff.mp hj).1; omega, fun _ _ _ => trivial⟩
  have hD := hD0.self (sz := s.heap.size)
  generalize hAe : va_A [(h0, .inr (0, [.null, .null, .null, .null, .null]))] s.heap.size = A at hD ⊢
  have hA : ∀ q : Nat, s.heap.size ≤ q → A q := fun q h => by rw [← hAe]; exact Or.inr h
  have hS : va_S A s.heap s.heap [] := va_S.rf
  have hl := lv_entry ([.ref h0]) (n := 1) (Nat.le_of_ble_eq_true rfl)
  rw [lg_entry_eq]
  generalize (lg_sl ([.ref h0]) ++ List.replicate (1 - (lg_sl ([.ref h0])).length) Slot.unset).toArray = ls at hl ⊢
  have hl : lv_has ls 1 [(0, .ref h0)] := hl
  refine lv_aload_n hx hb d_C_init_0 rfl (lv_at hl 0 rfl) ?_
  refine W.objInit hx hb hown (hts _ ml_C_1) (hts _ im_Object_initV) (hts _ co_Object_initV) rfl (by rw [hml]; exact hl.1) rfl d_C_init_1 (Nat.le_of_ble_eq_true rfl) (Nat.le_of_ble_eq_true rfl) ?_
  refine W.eq (g2 := F0 m 4 ls []) rfl ?_
  refine lv_aload_n hx hb d_C_init_4 rfl (lv_at hl 0 rfl) ?_
  refine va_new (ci := 3) (fs := [.null, .int 0]) (C := R_S) (T := F_S) (N := 2) hx hb hts i_S ty_S tok_S hown (hts _ cl_C_7) (hts _ ins_S) (hts _ ini_S) hK hP hD hS hA rfl (fun j hj => by rcases (show j = 0 ∨ j = 1 by omega) with rfl | rfl <;> rfl) (Nat.le_of_ble_eq_true rfl) (Nat.le_of_ble_eq_true rfl) d_C_init_5 (fun aS H hP hD hS => ?_)
  have hP : va_P (dC, dI) classes [(h0, .inr (0, [.null, .null, .null, .null, .null])), (aS, .inr (3, [.null, .int 0]))] H := hP
  have hD : va_D A [(h0, .inr (0, [.null, .null, .null, .null, .null])), (aS, .inr (3, [.null, .int 0]))] := hD
  refine lv_dup hx hb d_C_init_8 rfl ?_
  have hPc := hP.sub (ws' := [(aS, .inr (3, [.null, .int 0]))]) [1] rfl
  have hFc := va_free (wc := [(aS, .inr (3, [.null, .int 0]))]) hD hS hA [1] rfl
  refine va_callv (va_runIN (As := []) (rest := [.ref aS, .ref h0]) ⟨hx, hb, hml, hown, hts⟩ (c_S_init hPc) ⟨va_cnB (own := R_C) (host := R_C) (index := 9) 0 hts (wB_good (fun _ h => h) co_S_init) rfl rfl rfl (hNw _ (List.mem_of_getElem? (i := 0) rfl)) (hts _ ini_S) (by decide +kernel) ⟨Nat.le_of_ble_eq_true rfl, Nat.le_of_ble_eq_true rfl⟩, rfl, hts _ im_S_init⟩ (pS hK _) rfl rfl hl.1 rfl (lv_room (Nat.le_of_ble_eq_true rfl)) d_C_init_9 ⟨Nat.le_of_ble_eq_true rfl, Nat.le_of_ble_eq_true rfl⟩) hS (fun q _ h => hFc q h) hFc (fun u t H1 locs ht hvm hw hB hz1 hk1 hS => ?_)
  obtain ⟨uS, rfl⟩ : ∃ z, z = u := ⟨_, rfl⟩
  obtain ⟨hP1, hD1⟩ := hB
  rw [ht] at hP1
  obtain ⟨hP, hD⟩ := va_join (wr := [(h0, .inr (0, [.null, .null, .null, .null, .null]))]) (w1 := [(aS, .inr (3, [.ref (uS 0), .int 0])), ((uS 0), .inl (cI, 6, .inl (fun _ => 0)))]) hP hD [1] [0] rfl rfl (by decide) (by decide) hk1 hFc hP1 hD1
  generalize H1 = H at hP hS ⊢
  have hP : va_P (dC, dI) classes [(h0, .inr (0, [.null, .null, .null, .null, .null])), (aS, .inr (3, [.ref (uS 0), .int 0])), ((uS 0), .inl (cI, 6, .inl (fun _ => 0)))] H := hP
  have hD : va_D A [(h0, .inr (0, [.null, .null, .null, .null, .null])), (aS, .inr (3, [.ref (uS 0), .int 0])), ((uS 0), .inl (cI, 6, .inl (fun _ => 0)))] := hD
  refine va_putF (D := (dC, dI)) (ci := 0) (v := .ref aS) (ty := (.object "StoreyShapes$Storeys")) (C := R_C) (T := F_C) (N := 5) hx hb hts i_C ty_C tok_C n_C hown hK hP hD hS 0 rfl rfl 0 (by decide) (hts _ fl_C_10) (fun _ h9 => h9) rfl hin rfl (by decide +kernel) rfl rfl (Nat.le_of_ble_eq_true rfl) d_C_init_12 (fun H locs hP hD hS => ?_)
  have hP : va_P (dC, dI) classes [(h0, .inr (0, [.ref aS, .null, .null, .null, .null])), (aS, .inr (3, [.ref (uS 0), .int 0])), ((uS 0), .inl (cI, 6, .inl (fun _ => 0)))] H := hP
  have hD : va_D A [(h0, .inr (0, [.ref aS, .null, .null, .null, .null])), (aS, .inr (3, [.ref (uS 0), .int 0])), ((uS 0), .inl (cI, 6, .inl (fun _ => 0)))] := hD
  refine lv_aload_n hx hb d_C_init_15 rfl (lv_at hl 0 rfl) ?_
  refine va_new (ci := 4) (fs := [.null, .int 0]) (C := R_T) (T := F_T) (N := 2) hx hb hts i_T ty_T tok_T hown (hts _ cl_C_16) (hts _ ins_T) (hts _ ini_T) hK hP hD hS hA rfl (fun j hj => by rcases (show j = 0 ∨ j = 1 by omega) with rfl | rfl <;> rfl) (Nat.le_of_ble_eq_true rfl) (Nat.le_of_ble_eq_true rfl) d_C_init_16 (fun aT H hP hD hS => ?_)
  have hP : va_P (dC, dI) classes [(h0, .inr (0, [.ref aS, .null, .null, .null, .null])), (aS, .inr (3, [.ref (uS 0), .int 0])), ((uS 0), .inl (cI, 6, .inl (fun _ => 0))), (aT, .inr (4, [.null, .int 0]))] H := hP
  have hD : va_D A [(h0, .inr (0, [.ref aS, .null, .null, .null, .null])), (aS, .inr (3, [.ref (uS 0), .int 0])), ((uS 0), .inl (cI, 6, .inl (fun _ => 0))), (aT, .inr (4, [.null, .int 0]))] := hD
  refine lv_dup hx hb d_C_init_19 rfl ?_
  have hPc := hP.sub (ws' := [(aT, .inr (4, [.null, .int 0]))]) [3] rfl
  have hFc := va_free (wc := [(aT, .inr (4, [.null, .int 0]))]) hD hS hA [3] rfl
  refine va_callv (va_runIN (As := []) (rest := [.ref aT, .ref h0]) ⟨hx, hb, hml, hown, hts⟩ (c_T_init hPc) ⟨va_cnB (own := R_C) (host := R_C) (index := 18) 0 hts (wB_good (fun _ h => h) co_T_init) rfl rfl rfl (hNw _ (List.mem_of_getElem? (i := 1) rfl)) (hts _ ini_T) (by decide +kernel) ⟨Nat.le_of_ble_eq_true rfl, Nat.le_of_ble_eq_true rfl⟩, rfl, hts _ im_T_init⟩ (pS hK _) rfl rfl hl.1 rfl (lv_room (Nat.le_of_ble_eq_true rfl)) d_C_init_20 ⟨Nat.le_of_ble_eq_true rfl, Nat.le_of_ble_eq_true rfl⟩) hS (fun q _ h => hFc q h) hFc (fun u t H1 locs ht hvm hw hB hz1 hk1 hS => ?_)
  obtain ⟨uT, rfl⟩ : ∃ z, z = u := ⟨_, rfl⟩
  obtain ⟨hP1, hD1⟩ := hB
  rw [ht] at hP1
  obtain ⟨hP, hD⟩ := va_join (wr := [(h0, .inr (0, [.ref aS, .null, .null, .null, .null])), (aS, .inr (3, [.ref (uS 0), .int 0])), ((uS 0), .inl (cI, 6, .inl (fun _ => 0)))]) (w1 := [(aT, .inr (4, [.ref (uT 0), .int 0])), ((uT 0), .inl (cI, 8, .inl (fun _ => 0)))]) hP hD [3] [0, 1, 2] rfl rfl (by decide) (by decide) hk1 hFc hP1 hD1
  generalize H1 = H at hP hS ⊢
  have hP : va_P (dC, dI) classes [(h0, .inr (0, [.ref aS, .null, .null, .null, .null])), (aS, .inr (3, [.ref (uS 0), .int 0])), ((uS 0), .inl (cI, 6, .inl (fun _ => 0))), (aT, .inr (4, [.ref (uT 0), .int 0])), ((uT 0), .inl (cI, 8, .inl (fun _ => 0)))] H := hP
  have hD : va_D A [(h0, .inr (0, [.ref aS, .null, .null, .null, .null])), (aS, .inr (3, [.ref (uS 0), .int 0])), ((uS 0), .inl (cI, 6, .inl (fun _ => 0))), (aT, .inr (4, [.ref (uT 0), .int 0])), ((uT 0), .inl (cI, 8, .inl (fun _ => 0)))] := hD
  refine va_putF (D := (dC, dI)) (ci := 0) (v := .ref aT) (ty := (.object "StoreyShapes$Types")) (C := R_C) (T := F_C) (N := 5) hx hb hts i_C ty_C tok_C n_C hown hK hP hD hS 0 rfl rfl 1 (by decide) (hts _ fl_C_19) (fun _ h9 => h9) rfl hin rfl (by decide +kernel) rfl rfl (Nat.le_of_ble_eq_true rfl) d_C_init_23 (fun H locs hP hD hS => ?_)
  have hP : va_P (dC, dI) classes [(h0, .inr (0, [.ref aS, .ref aT, .null, .null, .null])), (aS, .inr (3, [.ref (uS 0), .int 0])), ((uS 0), .inl (cI, 6, .inl (fun _ => 0))), (aT, .inr (4, [.ref (uT 0), .int 0])), ((uT 0), .inl (cI, 8, .inl (fun _ => 0)))] H := hP
  have hD : va_D A [(h0, .inr (0, [.ref aS, .ref aT, .null, .null, .null])), (aS, .inr (3, [.ref (uS 0), .int 0])), ((uS 0), .inl (cI, 6, .inl (fun _ => 0))), (aT, .inr (4, [.ref (uT 0), .int 0])), ((uT 0), .inl (cI, 8, .inl (fun _ => 0)))] := hD
  refine lv_aload_n hx hb d_C_init_26 rfl (lv_at hl 0 rfl) ?_
  refine va_new (ci := 5) (fs := [.null, .null, .null, .null, .null, .null, .null, .int 0]) (C := R_W) (T := F_W) (N := 8) hx hb hts i_W ty_W tok_W hown (hts _ cl_C_23) (hts _ ins_W) (hts _ ini_W) hK hP hD hS hA rfl (fun j hj => by rcases (show j = 0 ∨ j = 1 ∨ j = 2 ∨ j = 3 ∨ j = 4 ∨ j = 5 ∨ j = 6 ∨ j = 7 by omega) with rfl | rfl | rfl | rfl | rfl | rfl | rfl | rfl <;> rfl) (Nat.le_of_ble_eq_true rfl) (Nat.le_of_ble_eq_true rfl) d_C_init_27 (fun aW H hP hD hS => ?_)
  have hP : va_P (dC, dI) classes [(h0, .inr (0, [.ref aS, .ref aT, .null, .null, .null])), (aS, .inr (3, [.ref (uS 0), .int 0])), ((uS 0), .inl (cI, 6, .inl (fun _ => 0))), (aT, .inr (4, [.ref (uT 0), .int 0])), ((uT 0), .inl (cI, 8, .inl (fun _ => 0))), (aW, .inr (5, [.null, .null, .null, .null, .null, .null, .null, .int 0]))] H := hP
  have hD : va_D A [(h0, .inr (0, [.ref aS, .ref aT, .null, .null, .null])), (aS, .inr (3, [.ref (uS 0), .int 0])), ((uS 0), .inl (cI, 6, .inl (fun _ => 0))), (aT, .inr (4, [.ref (uT 0), .int 0])), ((uT 0), .inl (cI, 8, .inl (fun _ => 0))), (aW, .inr (5, [.null, .null, .null, .null, .null, .null, .null, .int 0]))] := hD
  refine lv_dup hx hb d_C_init_30 rfl ?_
  have hPc := hP.sub (ws' := [(aW, .inr (5, [.null, .null, .null, .null, .null, .null, .null, .int 0]))]) [5] rfl
  have hFc := va_free (wc := [(aW, .inr (5, [.null, .null, .null, .null, .null, .null, .null, .int 0]))]) hD hS hA [5] rfl
  refine va_callv (va_runIN (As := []) (rest := [.ref aW, .ref h0]) ⟨hx, hb, hml, hown, hts⟩ (c_W_init hPc) ⟨va_cnB (own := R_C) (host := R_C) (index := 25) 0 hts (wB_good (fun _ h => h) co_W_init) rfl rfl rfl (hNw _ (List.mem_of_getElem? (i := 2) rfl)) (hts _ ini_W) (by decide +kernel) ⟨Nat.le_of_ble_eq_true rfl, Nat.le_of_ble_eq_true rfl⟩, rfl, hts _ im_W_init⟩ (pS hK _) rfl rfl hl.1 rfl (lv_room (Nat.le_of_ble_eq_true rfl)) d_C_init_31 ⟨Nat.le_of_ble_eq_true rfl, Nat.le_of_ble_eq_true rfl⟩) hS (fun q _ h => hFc q h) hFc (fun u t H1 locs ht hvm hw hB hz1 hk1 hS => ?_)
  obtain ⟨uW, rfl⟩ : ∃ z, z = u := ⟨_, rfl⟩
  obtain ⟨hP1, hD1⟩ := hB
  rw [ht] at hP1
  obtain ⟨hP, hD⟩ := va_join (wr := [(h0, .inr (0, [.ref aS, .ref aT, .null, .null, .null])), (aS, .inr (3, [.ref (uS 0), .int 0])), ((uS 0), .inl (cI, 6, .inl (fun _ => 0))), (aT, .inr (4, [.ref (uT 0), .int 0])), ((uT 0), .inl (cI, 8, .inl (fun _ => 0)))]) (w1 := [(aW, .inr (5, [.ref (uW 0), .ref (uW 1), .ref (uW 2), .ref (uW 3), .ref (uW 4), .ref (uW 5), .ref (uW 6), .int 0])), ((uW 0), .inl (cI, 40, .inl (fun _ => 0))), ((uW 1), .inl (cI, 40, .inl (fun _ => 0))), ((uW 2), .inl (cI, 40, .inl (fun _ => 0))), ((uW 3), .inl (cI, 40, .inl (fun _ => 0))), ((uW 4), .inl (cI, 40, .inl (fun _ => 0))), ((uW 5), .inl (cI, 40, .inl (fun _ => 0))), ((uW 6), .inl (cZ, 40, .inl (fun _ => 0)))]) hP hD [5] [0, 1, 2, 3, 4] rfl rfl (by decide) (by decide) hk1 hFc hP1 hD1
  generalize H1 = H at hP hS ⊢
  have hP : va_P (dC, dI) classes [(h0, .inr (0, [.ref aS, .ref aT, .null, .null, .null])), (aS, .inr (3, [.ref (uS 0), .int 0])), ((uS 0), .inl (cI, 6, .inl (fun _ => 0))), (aT, .inr (4, [.ref (uT 0), .int 0])), ((uT 0), .inl (cI, 8, .inl (fun _ => 0))), (aW, .inr (5, [.ref (uW 0), .ref (uW 1), .ref (uW 2), .ref (uW 3), .ref (uW 4), .ref (uW 5), .ref (uW 6), .int 0])), ((uW 0), .inl (cI, 40, .inl (fun _ => 0))), ((uW 1), .inl (cI, 40, .inl (fun _ => 0))), ((uW 2), .inl (cI, 40, .inl (fun _ => 0))), ((uW 3), .inl (cI, 40, .inl (fun _ => 0))), ((uW 4), .inl (cI, 40, .inl (fun _ => 0))), ((uW 5), .inl (cI, 40, .inl (fun _ => 0))), ((uW 6), .inl (cZ, 40, .inl (fun _ => 0)))] H := hP
  have hD : va_D A [(h0, .inr (0, [.ref aS, .ref aT, .null, .null, .null])), (aS, .inr (3, [.ref (uS 0), .int 0])), ((uS 0), .inl (cI, 6, .inl (fun _ => 0))), (aT, .inr (4, [.ref (uT 0), .int 0])), ((uT 0), .inl (cI, 8, .inl (fun _ => 0))), (aW, .inr (5, [.ref (uW 0), .ref (uW 1), .ref (uW 2), .ref (uW 3), .ref (uW 4), .ref (uW 5), .ref (uW 6), .int 0])), ((uW 0), .inl (cI, 40, .inl (fun _ => 0))), ((uW 1), .inl (cI, 40, .inl (fun _ => 0))), ((uW 2), .inl (cI, 40, .inl (fun _ => 0))), ((uW 3), .inl (cI, 40, .inl (fun _ => 0))), ((uW 4), .inl (cI, 40, .inl (fun _ => 0))), ((uW 5), .inl (cI, 40, .inl (fun _ => 0))), ((uW 6), .inl (cZ, 40, .inl (fun _ => 0)))] := hD
  refine va_putF (D := (dC, dI)) (ci := 0) (v := .ref aW) (ty := (.object "StoreyShapes$Walls")) (C := R_C) (T := F_C) (N := 5) hx hb hts i_C ty_C tok_C n_C hown hK hP hD hS 0 rfl rfl 2 (by decide) (hts _ fl_C_26) (fun _ h9 => h9) rfl hin rfl (by decide +kernel) rfl rfl (Nat.le_of_ble_eq_true rfl) d_C_init_34 (fun H locs hP hD hS => ?_)
  have hP : va_P (dC, dI) classes [(h0, .inr (0, [.ref aS, .ref aT, .ref aW, .null, .null])), (aS, .inr (3, [.ref (uS 0), .int 0])), ((uS 0), .inl (cI, 6, .inl (fun _ => 0))), (aT, .inr (4, [.ref (uT 0), .int 0])), ((uT 0), .inl (cI, 8, .inl (fun _ => 0))), (aW, .inr (5, [.ref (uW 0), .ref (uW 1), .ref (uW 2), .ref (uW 3), .ref (uW 4), .ref (uW 5), .ref (uW 6), .int 0])), ((uW 0), .inl (cI, 40, .inl (fun _ => 0))), ((uW 1), .inl (cI, 40, .inl (fun _ => 0))), ((uW 2), .inl (cI, 40, .inl (fun _ => 0))), ((uW 3), .inl (cI, 40, .inl (fun _ => 0))), ((uW 4), .inl (cI, 40, .inl (fun _ => 0))), ((uW 5), .inl (cI, 40, .inl (fun _ => 0))), ((uW 6), .inl (cZ, 40, .inl (fun _ => 0)))] H := hP
  have hD : va_D A [(h0, .inr (0, [.ref aS, .ref aT, .ref aW, .null, .null])), (aS, .inr (3, [.ref (uS 0), .int 0])), ((uS 0), .inl (cI, 6, .inl (fun _ => 0))), (aT, .inr (4, [.ref (uT 0), .int 0])), ((uT 0), .inl (cI, 8, .inl (fun _ => 0))), (aW, .inr (5, [.ref (uW 0), .ref (uW 1), .ref (uW 2), .ref (uW 3), .ref (uW 4), .ref (uW 5), .ref (uW 6), .int 0])), ((uW 0), .inl (cI, 40, .inl (fun _ => 0))), ((uW 1), .inl (cI, 40, .inl (fun _ => 0))), ((uW 2), .inl (cI, 40, .inl (fun _ => 0))), ((uW 3), .inl (cI, 40, .inl (fun _ => 0))), ((uW 4), .inl (cI, 40, .inl (fun _ => 0))), ((uW 5), .inl (cI, 40, .inl (fun _ => 0))), ((uW 6), .inl (cZ, 40, .inl (fun _ => 0)))] := hD
  refine lv_aload_n hx hb d_C_init_37 rfl (lv_at hl 0 rfl) ?_
  refine va_new (ci := 2) (fs := [.null, .null, .null, .int 0]) (C := R_O) (T := F_O) (N := 4) hx hb hts i_O ty_O tok_O hown (hts _ cl_C_30) (hts _ ins_O) (hts _ ini_O) hK hP hD hS hA rfl (fun j hj => by rcases (show j = 0 ∨ j = 1 ∨ j = 2 ∨ j = 3 by omega) with rfl | rfl | rfl | rfl <;> rfl) (Nat.le_of_ble_eq_true rfl) (Nat.le_of_ble_eq_true rfl) d_C_init_38 (fun aO H hP hD hS => ?_)
  have hP : va_P (dC, dI) classes [(h0, .inr (0, [.ref aS, .ref aT, .ref aW, .null, .null])), (aS, .inr (3, [.ref (uS 0), .int 0])), ((uS 0), .inl (cI, 6, .inl (fun _ => 0))), (aT, .inr (4, [.ref (uT 0), .int 0])), ((uT 0), .inl (cI, 8, .inl (fun _ => 0))), (aW, .inr (5, [.ref (uW 0), .ref (uW 1), .ref (uW 2), .ref (uW 3), .ref (uW 4), .ref (uW 5), .ref (uW 6), .int 0])), ((uW 0), .inl (cI, 40, .inl (fun _ => 0))), ((uW 1), .inl (cI, 40, .inl (fun _ => 0))), ((uW 2), .inl (cI, 40, .inl (fun _ => 0))), ((uW 3), .inl (cI, 40, .inl (fun _ => 0))), ((uW 4), .inl (cI, 40, .inl (fun _ => 0))), ((uW 5), .inl (cI, 40, .inl (fun _ => 0))), ((uW 6), .inl (cZ, 40, .inl (fun _ => 0))), (aO, .inr (2, [.null, .null, .null, .int 0]))] H := hP
  have hD : va_D A [(h0, .inr (0, [.ref aS, .ref aT, .ref aW, .null, .null])), (aS, .inr (3, [.ref (uS 0), .int 0])), ((uS 0), .inl (cI, 6, .inl (fun _ => 0))), (aT, .inr (4, [.ref (uT 0), .int 0])), ((uT 0), .inl (cI, 8, .inl (fun _ => 0))), (aW, .inr (5, [.ref (uW 0), .ref (uW 1), .ref (uW 2), .ref (uW 3), .ref (uW 4), .ref (uW 5), .ref (uW 6), .int 0])), ((uW 0), .inl (cI, 40, .inl (fun _ => 0))), ((uW 1), .inl (cI, 40, .inl (fun _ => 0))), ((uW 2), .inl (cI, 40, .inl (fun _ => 0))), ((uW 3), .inl (cI, 40, .inl (fun _ => 0))), ((uW 4), .inl (cI, 40, .inl (fun _ => 0))), ((uW 5), .inl (cI, 40, .inl (fun _ => 0))), ((uW 6), .inl (cZ, 40, .inl (fun _ => 0))), (aO, .inr (2, [.null, .null, .null, .int 0]))] := hD
  refine lv_dup hx hb d_C_init_41 rfl ?_
  have hPc := hP.sub (ws' := [(aO, .inr (2, [.null, .null, .null, .int 0]))]) [13] rfl
  have hFc := va_free (wc := [(aO, .inr (2, [.null, .null, .null, .int 0]))]) hD hS hA [13] rfl
  refine va_callv (va_runIN (As := []) (rest := [.ref aO, .ref h0]) ⟨hx, hb, hml, hown, hts⟩ (c_O_init hPc) ⟨va_cnB (own := R_C) (host := R_C) (index := 32) 0 hts (wB_good (fun _ h => h) co_O_init) rfl rfl rfl (hNw _ (List.mem_of_getElem? (i := 3) rfl)) (hts _ ini_O) (by decide +kernel) ⟨Nat.le_of_ble_eq_true rfl, Nat.le_of_ble_eq_true rfl⟩, rfl, hts _ im_O_init⟩ (pS hK _) rfl rfl hl.1 rfl (lv_room (Nat.le_of_ble_eq_true rfl)) d_C_init_42 ⟨Nat.le_of_ble_eq_true rfl, Nat.le_of_ble_eq_true rfl⟩) hS (fun q _ h => hFc q h) hFc (fun u t H1 locs ht hvm hw hB hz1 hk1 hS => ?_)
  obtain ⟨uO, rfl⟩ : ∃ z, z = u := ⟨_, rfl⟩
  obtain ⟨hP1, hD1⟩ := hB
  rw [ht] at hP1
  obtain ⟨hP, hD⟩ := va_join (wr := [(h0, .inr (0, [.ref aS, .ref aT, .ref aW, .null, .null])), (aS, .inr (3, [.ref (uS 0), .int 0])), ((uS 0), .inl (cI, 6, .inl (fun _ => 0))), (aT, .inr (4, [.ref (uT 0), .int 0])), ((uT 0), .inl (cI, 8, .inl (fun _ => 0))), (aW, .inr (5, [.ref (uW 0), .ref (uW 1), .ref (uW 2), .ref (uW 3), .ref (uW 4), .ref (uW 5), .ref (uW 6), .int 0])), ((uW 0), .inl (cI, 40, .inl (fun _ => 0))), ((uW 1), .inl (cI, 40, .inl (fun _ => 0))), ((uW 2), .inl (cI, 40, .inl (fun _ => 0))), ((uW 3), .inl (cI, 40, .inl (fun _ => 0))), ((uW 4), .inl (cI, 40, .inl (fun _ => 0))), ((uW 5), .inl (cI, 40, .inl (fun _ => 0))), ((uW 6), .inl (cZ, 40, .inl (fun _ => 0)))]) (w1 := [(aO, .inr (2, [.ref (uO 0), .ref (uO 1), .ref (uO 2), .int 0])), ((uO 0), .inl (cI, 60, .inl (fun _ => 0))), ((uO 1), .inl (cI, 60, .inl (fun _ => 0))), ((uO 2), .inl (cI, 60, .inl (fun _ => 0)))]) hP hD [13] [0, 1, 2, 3, 4, 5, 6, 7, 8, 9, 10, 11, 12] rfl rfl (by decide) (by decide) hk1 hFc hP1 hD1
  generalize H1 = H at hP hS ⊢
  have hP : va_P (dC, dI) classes [(h0, .inr (0, [.ref aS, .ref aT, .ref aW, .null, .null])), (aS, .inr (3, [.ref (uS 0), .int 0])), ((uS 0), .inl (cI, 6, .inl (fun _ => 0))), (aT, .inr (4, [.ref (uT 0), .int 0])), ((uT 0), .inl (cI, 8, .inl (fun _ => 0))), (aW, .inr (5, [.ref (uW 0), .ref (uW 1), .ref (uW 2), .ref (uW 3), .ref (uW 4), .ref (uW 5), .ref (uW 6), .int 0])), ((uW 0), .inl (cI, 40, .inl (fun _ => 0))), ((uW 1), .inl (cI, 40, .inl (fun _ => 0))), ((uW 2), .inl (cI, 40, .inl (fun _ => 0))), ((uW 3), .inl (cI, 40, .inl (fun _ => 0))), ((uW 4), .inl (cI, 40, .inl (fun _ => 0))), ((uW 5), .inl (cI, 40, .inl (fun _ => 0))), ((uW 6), .inl (cZ, 40, .inl (fun _ => 0))), (aO, .inr (2, [.ref (uO 0), .ref (uO 1), .ref (uO 2), .int 0])), ((uO 0), .inl (cI, 60, .inl (fun _ => 0))), ((uO 1), .inl (cI, 60, .inl (fun _ => 0))), ((uO 2), .inl (cI, 60, .inl (fun _ => 0)))] H := hP
  have hD : va_D A [(h0, .inr (0, [.ref aS, .ref aT, .ref aW, .null, .null])), (aS, .inr (3, [.ref (uS 0), .int 0])), ((uS 0), .inl (cI, 6, .inl (fun _ => 0))), (aT, .inr (4, [.ref (uT 0), .int 0])), ((uT 0), .inl (cI, 8, .inl (fun _ => 0))), (aW, .inr (5, [.ref (uW 0), .ref (uW 1), .ref (uW 2), .ref (uW 3), .ref (uW 4), .ref (uW 5), .ref (uW 6), .int 0])), ((uW 0), .inl (cI, 40, .inl (fun _ => 0))), ((uW 1), .inl (cI, 40, .inl (fun _ => 0))), ((uW 2), .inl (cI, 40, .inl (fun _ => 0))), ((uW 3), .inl (cI, 40, .inl (fun _ => 0))), ((uW 4), .inl (cI, 40, .inl (fun _ => 0))), ((uW 5), .inl (cI, 40, .inl (fun _ => 0))), ((uW 6), .inl (cZ, 40, .inl (fun _ => 0))), (aO, .inr (2, [.ref (uO 0), .ref (uO 1), .ref (uO 2), .int 0])), ((uO 0), .inl (cI, 60, .inl (fun _ => 0))), ((uO 1), .inl (cI, 60, .inl (fun _ => 0))), ((uO 2), .inl (cI, 60, .inl (fun _ => 0)))] := hD
  refine va_putF (D := (dC, dI)) (ci := 0) (v := .ref aO) (ty := (.object "StoreyShapes$Openings")) (C := R_C) (T := F_C) (N := 5) hx hb hts i_C ty_C tok_C n_C hown hK hP hD hS 0 rfl rfl 3 (by decide) (hts _ fl_C_33) (fun _ h9 => h9) rfl hin rfl (by decide +kernel) rfl rfl (Nat.le_of_ble_eq_true rfl) d_C_init_45 (fun H locs hP hD hS => ?_)
  have hP : va_P (dC, dI) classes [(h0, .inr (0, [.ref aS, .ref aT, .ref aW, .ref aO, .null])), (aS, .inr (3, [.ref (uS 0), .int 0])), ((uS 0), .inl (cI, 6, .inl (fun _ => 0))), (aT, .inr (4, [.ref (uT 0), .int 0])), ((uT 0), .inl (cI, 8, .inl (fun _ => 0))), (aW, .inr (5, [.ref (uW 0), .ref (uW 1), .ref (uW 2), .ref (uW 3), .ref (uW 4), .ref (uW 5), .ref (uW 6), .int 0])), ((uW 0), .inl (cI, 40, .inl (fun _ => 0))), ((uW 1), .inl (cI, 40, .inl (fun _ => 0))), ((uW 2), .inl (cI, 40, .inl (fun _ => 0))), ((uW 3), .inl (cI, 40, .inl (fun _ => 0))), ((uW 4), .inl (cI, 40, .inl (fun _ => 0))), ((uW 5), .inl (cI, 40, .inl (fun _ => 0))), ((uW 6), .inl (cZ, 40, .inl (fun _ => 0))), (aO, .inr (2, [.ref (uO 0), .ref (uO 1), .ref (uO 2), .int 0])), ((uO 0), .inl (cI, 60, .inl (fun _ => 0))), ((uO 1), .inl (cI, 60, .inl (fun _ => 0))), ((uO 2), .inl (cI, 60, .inl (fun _ => 0)))] H := hP
  have hD : va_D A [(h0, .inr (0, [.ref aS, .ref aT, .ref aW, .ref aO, .null])), (aS, .inr (3, [.ref (uS 0), .int 0])), ((uS 0), .inl (cI, 6, .inl (fun _ => 0))), (aT, .inr (4, [.ref (uT 0), .int 0])), ((uT 0), .inl (cI, 8, .inl (fun _ => 0))), (aW, .inr (5, [.ref (uW 0), .ref (uW 1), .ref (uW 2), .ref (uW 3), .ref (uW 4), .ref (uW 5), .ref (uW 6), .int 0])), ((uW 0), .inl (cI, 40, .inl (fun _ => 0))), ((uW 1), .inl (cI, 40, .inl (fun _ => 0))), ((uW 2), .inl (cI, 40, .inl (fun _ => 0))), ((uW 3), .inl (cI, 40, .inl (fun _ => 0))), ((uW 4), .inl (cI, 40, .inl (fun _ => 0))), ((uW 5), .inl (cI, 40, .inl (fun _ => 0))), ((uW 6), .inl (cZ, 40, .inl (fun _ => 0))), (aO, .inr (2, [.ref (uO 0), .ref (uO 1), .ref (uO 2), .int 0])), ((uO 0), .inl (cI, 60, .inl (fun _ => 0))), ((uO 1), .inl (cI, 60, .inl (fun _ => 0))), ((uO 2), .inl (cI, 60, .inl (fun _ => 0)))] := hD
  refine lv_aload_n hx hb d_C_init_48 rfl (lv_at hl 0 rfl) ?_
  refine va_new (ci := 1) (fs := [.null, .null, .null, .null, .int 0, .int 0]) (C := R_H) (T := F_H) (N := 6) hx hb hts i_H ty_H tok_H hown (hts _ cl_C_37) (hts _ ins_H) (hts _ ini_H) hK hP hD hS hA rfl (fun j hj => by rcases (show j = 0 ∨ j = 1 ∨ j = 2 ∨ j = 3 ∨ j = 4 ∨ j = 5 by omega) with rfl | rfl | rfl | rfl | rfl | rfl <;> rfl) (Nat.le_of_ble_eq_true rfl) (Nat.le_of_ble_eq_true rfl) d_C_init_49 (fun aH H hP hD hS => ?_)
  have hP : va_P (dC, dI) classes [(h0, .inr (0, [.ref aS, .ref aT, .ref aW, .ref aO, .null])), (aS, .inr (3, [.ref (uS 0), .int 0])), ((uS 0), .inl (cI, 6, .inl (fun _ => 0))), (aT, .inr (4, [.ref (uT 0), .int 0])), ((uT 0), .inl (cI, 8, .inl (fun _ => 0))), (aW, .inr (5, [.ref (uW 0), .ref (uW 1), .ref (uW 2), .ref (uW 3), .ref (uW 4), .ref (uW 5), .ref (uW 6), .int 0])), ((uW 0), .inl (cI, 40, .inl (fun _ => 0))), ((uW 1), .inl (cI, 40, .inl (fun _ => 0))), ((uW 2), .inl (cI, 40, .inl (fun _ => 0))), ((uW 3), .inl (cI, 40, .inl (fun _ => 0))), ((uW 4), .inl (cI, 40, .inl (fun _ => 0))), ((uW 5), .inl (cI, 40, .inl (fun _ => 0))), ((uW 6), .inl (cZ, 40, .inl (fun _ => 0))), (aO, .inr (2, [.ref (uO 0), .ref (uO 1), .ref (uO 2), .int 0])), ((uO 0), .inl (cI, 60, .inl (fun _ => 0))), ((uO 1), .inl (cI, 60, .inl (fun _ => 0))), ((uO 2), .inl (cI, 60, .inl (fun _ => 0))), (aH, .inr (1, [.null, .null, .null, .null, .int 0, .int 0]))] H := hP
  have hD : va_D A [(h0, .inr (0, [.ref aS, .ref aT, .ref aW, .ref aO, .null])), (aS, .inr (3, [.ref (uS 0), .int 0])), ((uS 0), .inl (cI, 6, .inl (fun _ => 0))), (aT, .inr (4, [.ref (uT 0), .int 0])), ((uT 0), .inl (cI, 8, .inl (fun _ => 0))), (aW, .inr (5, [.ref (uW 0), .ref (uW 1), .ref (uW 2), .ref (uW 3), .ref (uW 4), .ref (uW 5), .ref (uW 6), .int 0])), ((uW 0), .inl (cI, 40, .inl (fun _ => 0))), ((uW 1), .inl (cI, 40, .inl (fun _ => 0))), ((uW 2), .inl (cI, 40, .inl (fun _ => 0))), ((uW 3), .inl (cI, 40, .inl (fun _ => 0))), ((uW 4), .inl (cI, 40, .inl (fun _ => 0))), ((uW 5), .inl (cI, 40, .inl (fun _ => 0))), ((uW 6), .inl (cZ, 40, .inl (fun _ => 0))), (aO, .inr (2, [.ref (uO 0), .ref (uO 1), .ref (uO 2), .int 0])), ((uO 0), .inl (cI, 60, .inl (fun _ => 0))), ((uO 1), .inl (cI, 60, .inl (fun _ => 0))), ((uO 2), .inl (cI, 60, .inl (fun _ => 0))), (aH, .inr (1, [.null, .null, .null, .null, .int 0, .int 0]))] := hD
  refine lv_dup hx hb d_C_init_52 rfl ?_
  have hPc := hP.sub (ws' := [(aH, .inr (1, [.null, .null, .null, .null, .int 0, .int 0]))]) [17] rfl
  have hFc := va_free (wc := [(aH, .inr (1, [.null, .null, .null, .null, .int 0, .int 0]))]) hD hS hA [17] rfl
  refine va_callv (va_runIN (As := []) (rest := [.ref aH, .ref h0]) ⟨hx, hb, hml, hown, hts⟩ (c_H_init hPc) ⟨va_cnB (own := R_C) (host := R_C) (index := 39) 0 hts (wB_good (fun _ h => h) co_H_init) rfl rfl rfl (hNw _ (List.mem_of_getElem? (i := 4) rfl)) (hts _ ini_H) (by decide +kernel) ⟨Nat.le_of_ble_eq_true rfl, Nat.le_of_ble_eq_true rfl⟩, rfl, hts _ im_H_init⟩ (pS hK _) rfl rfl hl.1 rfl (lv_room (Nat.le_of_ble_eq_true rfl)) d_C_init_53 ⟨Nat.le_of_ble_eq_true rfl, Nat.le_of_ble_eq_true rfl⟩) hS (fun q _ h => hFc q h) hFc (fun u t H1 locs ht hvm hw hB hz1 hk1 hS => ?_)
  obtain ⟨uH, rfl⟩ : ∃ z, z = u := ⟨_, rfl⟩
  obtain ⟨hP1, hD1⟩ := hB
  rw [ht] at hP1
  obtain ⟨hP, hD⟩ := va_join (wr := [(h0, .inr (0, [.ref aS, .ref aT, .ref aW, .ref aO, .null])), (aS, .inr (3, [.ref (uS 0), .int 0])), ((uS 0), .inl (cI, 6, .inl (fun _ => 0))), (aT, .inr (4, [.ref (uT 0), .int 0])), ((uT 0), .inl (cI, 8, .inl (fun _ => 0))), (aW, .inr (5, [.ref (uW 0), .ref (uW 1), .ref (uW 2), .ref (uW 3), .ref (uW 4), .ref (uW 5), .ref (uW 6), .int 0])), ((uW 0), .inl (cI, 40, .inl (fun _ => 0))), ((uW 1), .inl (cI, 40, .inl (fun _ => 0))), ((uW 2), .inl (cI, 40, .inl (fun _ => 0))), ((uW 3), .inl (cI, 40, .inl (fun _ => 0))), ((uW 4), .inl (cI, 40, .inl (fun _ => 0))), ((uW 5), .inl (cI, 40, .inl (fun _ => 0))), ((uW 6), .inl (cZ, 40, .inl (fun _ => 0))), (aO, .inr (2, [.ref (uO 0), .ref (uO 1), .ref (uO 2), .int 0])), ((uO 0), .inl (cI, 60, .inl (fun _ => 0))), ((uO 1), .inl (cI, 60, .inl (fun _ => 0))), ((uO 2), .inl (cI, 60, .inl (fun _ => 0)))]) (w1 := [(aH, .inr (1, [.ref (uH 0), .ref (uH 1), .ref (uH 2), .ref (uH 3), .int 0, .int 0])), ((uH 0), .inl (cI, 200, .inl (fun _ => 0))), ((uH 1), .inl (cI, 200, .inl (fun _ => 0))), ((uH 2), .inl (cI, 200, .inl (fun _ => 0))), ((uH 3), .inl (cI, 200, .inl (fun _ => 0)))]) hP hD [17] [0, 1, 2, 3, 4, 5, 6, 7, 8, 9, 10, 11, 12, 13, 14, 15, 16] rfl rfl (by decide) (by decide) hk1 hFc hP1 hD1
  generalize H1 = H at hP hS ⊢
  have hP : va_P (dC, dI) classes [(h0, .inr (0, [.ref aS, .ref aT, .ref aW, .ref aO, .null])), (aS, .inr (3, [.ref (uS 0), .int 0])), ((uS 0), .inl (cI, 6, .inl (fun _ => 0))), (aT, .inr (4, [.ref (uT 0), .int 0])), ((uT 0), .inl (cI, 8, .inl (fun _ => 0))), (aW, .inr (5, [.ref (uW 0), .ref (uW 1), .ref (uW 2), .ref (uW 3), .ref (uW 4), .ref (uW 5), .ref (uW 6), .int 0])), ((uW 0), .inl (cI, 40, .inl (fun _ => 0))), ((uW 1), .inl (cI, 40, .inl (fun _ => 0))), ((uW 2), .inl (cI, 40, .inl (fun _ => 0))), ((uW 3), .inl (cI, 40, .inl (fun _ => 0))), ((uW 4), .inl (cI, 40, .inl (fun _ => 0))), ((uW 5), .inl (cI, 40, .inl (fun _ => 0))), ((uW 6), .inl (cZ, 40, .inl (fun _ => 0))), (aO, .inr (2, [.ref (uO 0), .ref (uO 1), .ref (uO 2), .int 0])), ((uO 0), .inl (cI, 60, .inl (fun _ => 0))), ((uO 1), .inl (cI, 60, .inl (fun _ => 0))), ((uO 2), .inl (cI, 60, .inl (fun _ => 0))), (aH, .inr (1, [.ref (uH 0), .ref (uH 1), .ref (uH 2), .ref (uH 3), .int 0, .int 0])), ((uH 0), .inl (cI, 200, .inl (fun _ => 0))), ((uH 1), .inl (cI, 200, .inl (fun _ => 0))), ((uH 2), .inl (cI, 200, .inl (fun _ => 0))), ((uH 3), .inl (cI, 200, .inl (fun _ => 0)))] H := hP
  have hD : va_D A [(h0, .inr (0, [.ref aS, .ref aT, .ref aW, .ref aO, .null])), (aS, .inr (3, [.ref (uS 0), .int 0])), ((uS 0), .inl (cI, 6, .inl (fun _ => 0))), (aT, .inr (4, [.ref (uT 0), .int 0])), ((uT 0), .inl (cI, 8, .inl (fun _ => 0))), (aW, .inr (5, [.ref (uW 0), .ref (uW 1), .ref (uW 2), .ref (uW 3), .ref (uW 4), .ref (uW 5), .ref (uW 6), .int 0])), ((uW 0), .inl (cI, 40, .inl (fun _ => 0))), ((uW 1), .inl (cI, 40, .inl (fun _ => 0))), ((uW 2), .inl (cI, 40, .inl (fun _ => 0))), ((uW 3), .inl (cI, 40, .inl (fun _ => 0))), ((uW 4), .inl (cI, 40, .inl (fun _ => 0))), ((uW 5), .inl (cI, 40, .inl (fun _ => 0))), ((uW 6), .inl (cZ, 40, .inl (fun _ => 0))), (aO, .inr (2, [.ref (uO 0), .ref (uO 1), .ref (uO 2), .int 0])), ((uO 0), .inl (cI, 60, .inl (fun _ => 0))), ((uO 1), .inl (cI, 60, .inl (fun _ => 0))), ((uO 2), .inl (cI, 60, .inl (fun _ => 0))), (aH, .inr (1, [.ref (uH 0), .ref (uH 1), .ref (uH 2), .ref (uH 3), .int 0, .int 0])), ((uH 0), .inl (cI, 200, .inl (fun _ => 0))), ((uH 1), .inl (cI, 200, .inl (fun _ => 0))), ((uH 2), .inl (cI, 200, .inl (fun _ => 0))), ((uH 3), .inl (cI, 200, .inl (fun _ => 0)))] := hD
  refine va_putF (D := (dC, dI)) (ci := 0) (v := .ref aH) (ty := (.object "StoreyShapes$History")) (C := R_C) (T := F_C) (N := 5) hx hb hts i_C ty_C tok_C n_C hown hK hP hD hS 0 rfl rfl 4 (by decide) (hts _ fl_C_40) (fun _ h9 => h9) rfl hin rfl (by decide +kernel) rfl rfl (Nat.le_of_ble_eq_true rfl) d_C_init_56 (fun H locs hP hD hS => ?_)
  have hP : va_P (dC, dI) classes [(h0, .inr (0, [.ref aS, .ref aT, .ref aW, .ref aO, .ref aH])), (aS, .inr (3, [.ref (uS 0), .int 0])), ((uS 0), .inl (cI, 6, .inl (fun _ => 0))), (aT, .inr (4, [.ref (uT 0), .int 0])), ((uT 0), .inl (cI, 8, .inl (fun _ => 0))), (aW, .inr (5, [.ref (uW 0), .ref (uW 1), .ref (uW 2), .ref (uW 3), .ref (uW 4), .ref (uW 5), .ref (uW 6), .int 0])), ((uW 0), .inl (cI, 40, .inl (fun _ => 0))), ((uW 1), .inl (cI, 40, .inl (fun _ => 0))), ((uW 2), .inl (cI, 40, .inl (fun _ => 0))), ((uW 3), .inl (cI, 40, .inl (fun _ => 0))), ((uW 4), .inl (cI, 40, .inl (fun _ => 0))), ((uW 5), .inl (cI, 40, .inl (fun _ => 0))), ((uW 6), .inl (cZ, 40, .inl (fun _ => 0))), (aO, .inr (2, [.ref (uO 0), .ref (uO 1), .ref (uO 2), .int 0])), ((uO 0), .inl (cI, 60, .inl (fun _ => 0))), ((uO 1), .inl (cI, 60, .inl (fun _ => 0))), ((uO 2), .inl (cI, 60, .inl (fun _ => 0))), (aH, .inr (1, [.ref (uH 0), .ref (uH 1), .ref (uH 2), .ref (uH 3), .int 0, .int 0])), ((uH 0), .inl (cI, 200, .inl (fun _ => 0))), ((uH 1), .inl (cI, 200, .inl (fun _ => 0))), ((uH 2), .inl (cI, 200, .inl (fun _ => 0))), ((uH 3), .inl (cI, 200, .inl (fun _ => 0)))] H := hP
  have hD : va_D A [(h0, .inr (0, [.ref aS, .ref aT, .ref aW, .ref aO, .ref aH])), (aS, .inr (3, [.ref (uS 0), .int 0])), ((uS 0), .inl (cI, 6, .inl (fun _ => 0))), (aT, .inr (4, [.ref (uT 0), .int 0])), ((uT 0), .inl (cI, 8, .inl (fun _ => 0))), (aW, .inr (5, [.ref (uW 0), .ref (uW 1), .ref (uW 2), .ref (uW 3), .ref (uW 4), .ref (uW 5), .ref (uW 6), .int 0])), ((uW 0), .inl (cI, 40, .inl (fun _ => 0))), ((uW 1), .inl (cI, 40, .inl (fun _ => 0))), ((uW 2), .inl (cI, 40, .inl (fun _ => 0))), ((uW 3), .inl (cI, 40, .inl (fun _ => 0))), ((uW 4), .inl (cI, 40, .inl (fun _ => 0))), ((uW 5), .inl (cI, 40, .inl (fun _ => 0))), ((uW 6), .inl (cZ, 40, .inl (fun _ => 0))), (aO, .inr (2, [.ref (uO 0), .ref (uO 1), .ref (uO 2), .int 0])), ((uO 0), .inl (cI, 60, .inl (fun _ => 0))), ((uO 1), .inl (cI, 60, .inl (fun _ => 0))), ((uO 2), .inl (cI, 60, .inl (fun _ => 0))), (aH, .inr (1, [.ref (uH 0), .ref (uH 1), .ref (uH 2), .ref (uH 3), .int 0, .int 0])), ((uH 0), .inl (cI, 200, .inl (fun _ => 0))), ((uH 1), .inl (cI, 200, .inl (fun _ => 0))), ((uH 2), .inl (cI, 200, .inl (fun _ => 0))), ((uH 3), .inl (cI, 200, .inl (fun _ => 0)))] := hD
  have hPw : va_P (dC, dI) classes (wC (fun i => ([h0, aS, aT, aW, aO, aH, (uS 0), (uT 0), (uW 0), (uW 1), (uW 2), (uW 3), (uW 4), (uW 5), (uW 6), (uO 0), (uO 1), (uO 2), (uH 0), (uH 1), (uH 2), (uH 3)] : List Nat).getD i 0) cI cZ (fun _ => 0) (fun _ _ => 0)) H := hP.sub [0, 1, 3, 5, 13, 17, 2, 4, 6, 7, 8, 9, 10, 11, 12, 14, 15, 16, 18, 19, 20, 21] rfl
  have hDw : va_D A (wC (fun i => ([h0, aS, aT, aW, aO, aH, (uS 0), (uT 0), (uW 0), (uW 1), (uW 2), (uW 3), (uW 4), (uW 5), (uW 6), (uO 0), (uO 1), (uO 2), (uH 0), (uH 1), (uH 2), (uH 3)] : List Nat).getD i 0) cI cZ (fun _ => 0) (fun _ _ => 0)) := hD.sub [0, 1, 3, 5, 13, 17, 2, 4, 6, 7, 8, 9, 10, 11, 12, 14, 15, 16, 18, 19, 20, 21] (by decide) rfl
  exact W.vret hx hb hr (fun t ht hW => ⟨⟨(fun i => ([h0, aS, aT, aW, aO, aH, (uS 0), (uT 0), (uW 0), (uW 1), (uW 2), (uW 3), (uW 4), (uW 5), (uW 6), (uO 0), (uO 1), (uO 2), (uH 0), (uH 1), (uH 2), (uH 3)] : List Nat).getD i 0), rfl, trivial, rfl, by rw [ht]; exact hPw, D_dD (n := 22) hDw rfl⟩, hS.F ht⟩) hS.2.2 d_C_init_59
end
