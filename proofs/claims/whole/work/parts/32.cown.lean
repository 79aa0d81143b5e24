/-! constructors -/
theorem cA_int {D : va_G} {cl : List vw_C} {cI cZ cJ cA : ClassId} {s : State} (h : va_K D cl [(cI, .int), (cZ, .boolean), (cJ, .long), (cA, .int)] s) : cA = cI := by
  have h1 : s.vm.findClass ("[" ++ FieldType.int.toString) = some cA := (h.2 3 _ rfl).2
  have h2 : s.vm.findClass ("[" ++ FieldType.int.toString) = some cI := (h.2 0 _ rfl).2
  exact Option.some.inj (h1.symm.trans h2)
theorem cA_bool {D : va_G} {cl : List vw_C} {cI cZ cJ cA : ClassId} {s : State} (h : va_K D cl [(cI, .int), (cZ, .boolean), (cJ, .long), (cA, .boolean)] s) : cA = cZ := by
  have h1 : s.vm.findClass ("[" ++ FieldType.boolean.toString) = some cA := (h.2 3 _ rfl).2
  have h2 : s.vm.findClass ("[" ++ FieldType.boolean.toString) = some cZ := (h.2 1 _ rfl).2
  exact Option.some.inj (h1.symm.trans h2)
theorem cA_long {D : va_G} {cl : List vw_C} {cI cZ cJ cA : ClassId} {s : State} (h : va_K D cl [(cI, .int), (cZ, .boolean), (cJ, .long), (cA, .long)] s) : cA = cJ := by
  have h1 : s.vm.findClass ("[" ++ FieldType.long.toString) = some cA := (h.2 3 _ rfl).2
  have h2 : s.vm.findClass ("[" ++ FieldType.long.toString) = some cJ := (h.2 2 _ rfl).2
  exact Option.some.inj (h1.symm.trans h2)
theorem D_dD {A : Nat → Prop} {aa : Nat → Nat} {n : Nat} {ws : va_W} (h : va_D A ws) (hm : ws.map Prod.fst = (List.range n).map aa) : dD A aa n := by
  have key : ∀ i, i < n → ∃ q : Nat × va_E, ws[i]? = some q ∧ q.1 = aa i := by
    intro i hi
    have h1 : (ws.map Prod.fst)[i]? = some (aa i) := by rw [hm, List.getElem?_map, List.getElem?_range hi]; rfl
    rw [List.getElem?_map] at h1
    cases hq : ws[i]? with
    | none => rw [hq] at h1; cases h1
    | some q => rw [hq] at h1; exact ⟨q, rfl, Option.some.inj h1⟩
  refine ⟨fun i j hi hj e => ?_, fun i hi => ?_⟩
  · obtain ⟨p, hp, ep⟩ := key i hi
    obtain ⟨q, hq, eq⟩ := key j hj
    exact h.1 i j p q hp hq (by rw [ep, eq, e])
  · obtain ⟨p, hp, ep⟩ := key i hi
    rw [← ep]; exact h.2 i p hp
def nW : List Cond := [.methodLinkNest R_C 9 y_S_init R_C, .methodLinkNest R_C 18 y_T_init R_C, .methodLinkNest R_C 25 y_W_init R_C, .methodLinkNest R_C 32 y_O_init R_C, .methodLinkNest R_C 39 y_H_init R_C]
theorem nW_ot : ∀ w ∈ nW, w.onTables = true := by decide +kernel
theorem nW_warm {w : Cond} (hw : w ∈ nW) {s U : State} (hW : s.WarmedH U.vm) (h : va_Nw w s) : va_Nw w U := by
  simp only [nW, List.mem_cons, List.mem_nil_iff, or_false] at hw
  rcases hw with rfl | rfl | rfl | rfl | rfl <;> exact va_Nw.warmM hW h
def kN (dC : Nat → ClassId) (dI : Nat → Nat → Nat) (cI cZ cJ : ClassId) (U : State) : Prop := kK dC dI cI cZ cJ U ∧ ∀ w ∈ nW, va_Nw w U
theorem kN_blind {av : List Value} {H : Heap} {dC : Nat → ClassId} {dI : Nat → Nat → Nat} {cI cZ cJ : ClassId} : FrameBlind (rP av H (kN dC dI cI cZ cJ)) := fun a U g mk q => ⟨q.1, q.2.1, kK_moved (u := U) (U := U.calling g mk a) (Vm.Alike.refl U.vm) q.2.2.1, fun w hw => va_Nw.same (u := U) (U := U.calling g mk a) (nW_ot w hw) rfl (q.2.2.2 w hw)⟩
def cAr (n : Nat) : vp_A := (n, .inl (fun _ => 0))
