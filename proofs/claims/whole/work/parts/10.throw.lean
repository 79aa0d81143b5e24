/-! what a throw of the class needs, and what a method that may throw says -/
abbrev eIA : String := "java/lang/IllegalArgumentException"
abbrev eIS : String := "java/lang/IllegalStateException"
abbrev eNs : List String := ["java/lang/RuntimeException", "java/lang/Exception"]
def xB : List Cond := [.declares ⟨"java/lang/RuntimeException", "<init>", "(Ljava/lang/String;)V"⟩, .declares ⟨"java/lang/Exception", "<init>", "(Ljava/lang/String;)V"⟩, .declares ⟨"java/lang/Throwable", "<init>", "(Ljava/lang/String;)V"⟩, .castable eIA eIA, .castable eIS eIS]
def xS : List (Nat × String) := [(229, "a level is -1000 .. 10000"), (234, "a storey is above the one before and below the next"), (54, "there are 6 storeys"), (249, "200 acts are held"), (227, "there is no such storey"), (239, "a thickness is an even number 2 .. 100"), (78, "there are 8 types"), (237, "there is no such type"), (247, "a coordinate is -1000 .. 1000"), (92, "a wall goes along x or along y"), (96, "there are 40 walls"), (241, "there is no such wall"), (121, "an opening lies within its wall"), (128, "openings of a wall do not overlap"), (130, "there are 60 openings"), (135, "a storey is not copied onto itself"), (143, "there would be more than 40 walls"), (145, "there would be more than 60 openings"), (162, "acts are done (0) or undone (1)"), (164, "what is counted is 0 .. 3"), (180, "what is told of a wall is 0 .. 9"), (191, "there is no such opening"), (199, "what is told of an opening is 0 .. 2"), (207, "what is told of a storey is 0 .. 3"), (215, "what is told of a type is 0 .. 2"), (217, "walls are counted from 0")]
theorem xB_ot : ∀ w ∈ xB, w.onTables = true := by decide +kernel
theorem xB_warm {w : Cond} (hw : w ∈ xB) {s U : State} (hW : s.WarmedH U.vm) (h : va_Nw w s) : va_Nw w U := by
  simp only [xB, List.mem_cons, List.mem_nil_iff, or_false] at hw
  rcases hw with rfl | rfl | rfl | rfl | rfl
  · exact va_Nw.warmD hW h
  · exact va_Nw.warmD hW h
  · exact va_Nw.warmD hW h
  · exact va_Nw.warmC hW h
  · exact va_Nw.warmC hW h
def TX (A : Nat → Prop) (U : State) (H : Heap) : Prop := vx_Zq Bundle.tN "UNASSIGNED_STACK" Bundle.steD A U H ∧ vx_Zq Bundle.tN "SUPPRESSED_SENTINEL" Bundle.listD A U H ∧ (∀ w ∈ xB, va_Nw w U) ∧ ∀ q ∈ xS, ∃ sa, vk_R R_C q.1 q.2 sa U
theorem TX.warm {A : Nat → Prop} {s U : State} {H : Heap} (hW : s.WarmedH U.vm) (h : TX A s H) : TX A U H := ⟨h.1.moved hW.alike, h.2.1.moved hW.alike, fun w hw => xB_warm hw hW (h.2.2.1 w hw), fun q hq => (h.2.2.2 q hq).elim fun sa e => ⟨sa, e.warm hW⟩⟩
theorem TX.same {A : Nat → Prop} {s U : State} {H : Heap} (hv : s.vm = U.vm) (h : TX A s H) : TX A U H := ⟨h.1.moved (hv ▸ Vm.Alike.refl s.vm), h.2.1.moved (hv ▸ Vm.Alike.refl s.vm), fun w hw => (h.2.2.1 w hw).same (xB_ot w hw) hv, fun q hq => (h.2.2.2 q hq).elim fun sa e => ⟨sa, e.same hv.symm⟩⟩
theorem TX.kept {A : Nat → Prop} {U : State} {H H1 : Heap} (h : TX A U H) (hq : ∀ a : Nat, a < H.size → ¬ A a → H1[a]? = H[a]?) : TX A U H1 := ⟨h.1.kept hq, h.2.1.kept hq, h.2.2⟩
theorem TX.narrow {A B : Nat → Prop} {U : State} {H : Heap} (h : TX A U H) (hAB : ∀ q, B q → A q) : TX B U H := ⟨h.1.narrow hAB, h.2.1.narrow hAB, h.2.2⟩
def kT (dC : Nat → ClassId) (dI : Nat → Nat → Nat) (cI cZ cJ : ClassId) (A : Nat → Prop) (U : State) : Prop := kK dC dI cI cZ cJ U ∧ TX A U U.heap
theorem kT_blind {av : List Value} {H : Heap} {dC : Nat → ClassId} {dI : Nat → Nat → Nat} {cI cZ cJ : ClassId} {A : Nat → Prop} : FrameBlind (rP av H (kT dC dI cI cZ cJ A)) := fun a U g mk q => ⟨q.1, q.2.1, kK_moved (u := U) (U := U.calling g mk a) (Vm.Alike.refl U.vm) q.2.2.1, TX.same (s := U) (U := U.calling g mk a) rfl q.2.2.2⟩
def QcVoid : Array Value → State → Outcome → State → Prop := fun _ st o t => o = .returned none ∧ t.heap = st.heap
def QcNo : Array Value → State → Outcome → State → Prop := fun _ _ _ _ => False
def xE (E0 : String) : String → State → State → Prop := fun E st t => E = E0 ∧ va_F noA st t
def qT (k : Nat) (r : Option Value) (A : Nat → Prop) (P : Heap → Prop) : Array Value → State → Outcome → State → Prop := fun _ st o t => k = 0 ∧ o = .returned r ∧ P t.heap ∧ va_F A st t
def xT (k : Nat) : String → State → State → Prop := fun E st t => ((k = 1 ∧ E = eIA) ∨ (k = 2 ∧ E = eIS)) ∧ va_F noA st t
theorem xat_IA : ∀ w ∈ (vx_atS R_C 94 eIA eNs).filter goodWord, w ∈ lw_tbl := by decide +kernel
theorem xat_IS : ∀ w ∈ (vx_atS R_C 56 eIS eNs).filter goodWord, w ∈ lw_tbl := by decide +kernel
theorem xnb_IA : ∀ w ∈ (vx_atS R_C 94 eIA eNs).filter (fun w => !goodWord w), w ∈ xB := by decide +kernel
theorem xnb_IS : ∀ w ∈ (vx_atS R_C 56 eIS eNs).filter (fun w => !goodWord w), w ∈ xB := by decide +kernel
theorem xgo_IA : ∀ w ∈ Cond.classLink R_C 90 eIA :: Cond.initialized eIA :: vx_atS R_C 94 eIA eNs, vx_ot w = true := by decide +kernel
theorem xgo_IS : ∀ w ∈ Cond.classLink R_C 52 eIS :: Cond.initialized eIS :: vx_atS R_C 56 eIS eNs, vx_ot w = true := by decide +kernel
section THR
variable {p : Program} {l : Launch} {e : Env} {R : Room} {s : State} {m : MethodId} {args : Array Value} {below : List Frame} {meth : Method} {c : Code} {H : Heap} {locs : List Loc} {cells slots : Nat} {Q : State → Prop} {pc : Nat} {ls : Array Slot} {st0 rest : List Value} {a : Array Value} {A0 A1 : Nat → Prop} {H0 : Heap} {dC : Nat → ClassId} {dI : Nat → Nat → Nat} {cI cZ cJ : ClassId} {Qc : Array Value → State → Outcome → State → Prop} {XC : String → State → State → Prop} {free : Addr → Prop} {cc : ByteArray} {A : Nat → Prop} {mc ms : Nat}
theorem thIA (hx : p.tables.exec = Jvm.exec) (hb : c.code = cc) (hlt : l.stackTraces = false) (hown : s.vm.findClass R_C = some m.cls) (hts : ∀ w ∈ BG, w.before args s = true) (hT : TX A s s.heap) (hS : va_S A s.heap H locs) (hsize : ls.size = c.maxLocals) {is : Nat} {text : String} (hm : (is, text) ∈ xS)
    (d0 : decode cc pc = .ok (.new 90, 3)) (d3 : decode cc (pc + 3) = .ok (.dup, 1)) (d4 : decode cc (pc + 4) = .ok (.ldc is, 2)) (d6 : decode cc (pc + 6) = .ok (.invokespecial 94, 3)) (d9 : decode cc (pc + 9) = .ok (.athrow, 1))
    (hout : ∀ x ∈ c.exceptionTable.toList, False) (hRf : 5 < R.frames) (hRl : (rest.map fun v => v.category).sum + 82 ≤ R.locals) (hRc : cells + 1 ≤ R.cells) (hRs : slots + 6 ≤ R.slots) (hlocks : meth.locks = false)
    (hX : ∀ t : State, s.vm.Alike t.vm → H.size ≤ t.heap.size → (∀ q : Nat, q < H.size → t.heap[q]? = H[q]?) → XC eIA s t) (hf : ∀ z ∈ locs, free z.base) (hc : cells + 1 ≤ mc) (hs : slots + 6 ≤ ms) :
    W p l e R s m args below meth c H locs cells slots (vx_MQ below Qc XC args s mc ms free) (F0 m pc ls rest) := by
  obtain ⟨sa, hstr⟩ := hT.2.2.2 _ hm
  refine vx_throwS (own := R_C) (cls := eIA) (names := eNs) (ik := 90) (ic := 94) (sa := sa) hx hb hlt hown (by decide) (by decide) (hts _ cl_C_90) (hts _ ini_IllegalArgumentException) hstr ?_ xgo_IA hT.1 hT.2.1 hS hsize d0 d3 d4 d6 d9 (fun x h => (hout x h).elim) hRf hRl hRc hRs hlocks hX hf hc hs
  exact vx_hat (fun w hw => hts w (List.mem_filter.mpr ⟨xat_IA w hw, (List.mem_filter.mp hw).2⟩)) xnb_IA (fun w hw => (hT.2.2.1 w hw).use (xB_ot w hw))
theorem thIS (hx : p.tables.exec = Jvm.exec) (hb : c.code = cc) (hlt : l.stackTraces = false) (hown : s.vm.findClass R_C = some m.cls) (hts : ∀ w ∈ BG, w.before args s = true) (hT : TX A s s.heap) (hS : va_S A s.heap H locs) (hsize : ls.size = c.maxLocals) {is : Nat} {text : String} (hm : (is, text) ∈ xS)
    (d0 : decode cc pc = .ok (.new 52, 3)) (d3 : decode cc (pc + 3) = .ok (.dup, 1)) (d4 : decode cc (pc + 4) = .ok (.ldc is, 2)) (d6 : decode cc (pc + 6) = .ok (.invokespecial 56, 3)) (d9 : decode cc (pc + 9) = .ok (.athrow, 1))
    (hout : ∀ x ∈ c.exceptionTable.toList, False) (hRf : 5 < R.frames) (hRl : (rest.map fun v => v.category).sum + 82 ≤ R.locals) (hRc : cells + 1 ≤ R.cells) (hRs : slots + 6 ≤ R.slots) (hlocks : meth.locks = false)
    (hX : ∀ t : State, s.vm.Alike t.vm → H.size ≤ t.heap.size → (∀ q : Nat, q < H.size → t.heap[q]? = H[q]?) → XC eIS s t) (hf : ∀ z ∈ locs, free z.base) (hc : cells + 1 ≤ mc) (hs : slots + 6 ≤ ms) :
    W p l e R s m args below meth c H locs cells slots (vx_MQ below Qc XC args s mc ms free) (F0 m pc ls rest) := by
  obtain ⟨sa, hstr⟩ := hT.2.2.2 _ hm
  refine vx_throwS (own := R_C) (cls := eIS) (names := eNs) (ik := 52) (ic := 56) (sa := sa) hx hb hlt hown (by decide) (by decide) (hts _ cl_C_52) (hts _ ini_IllegalStateException) hstr ?_ xgo_IS hT.1 hT.2.1 hS hsize d0 d3 d4 d6 d9 (fun x h => (hout x h).elim) hRf hRl hRc hRs hlocks hX hf hc hs
  exact vx_hat (fun w hw => hts w (List.mem_filter.mpr ⟨xat_IS w hw, (List.mem_filter.mp hw).2⟩)) xnb_IS (fun w hw => (hT.2.2.1 w hw).use (xB_ot w hw))
theorem cV (hr : CallRun p l e R s m args below meth c H locs cells slots 0 0 (F0 m pc ls st0) rest (QcVoid a) noA) (kk : W p l e R s m args below meth c H locs cells slots Q (F0 m (pc + 3) ls rest)) : W p l e R s m args below meth c H locs cells slots Q (F0 m pc ls st0) := by
  intro T hT X
  obtain ⟨v, st₀, t, T', L, h0, X', hL, e1, ⟨hv, hh⟩, st⟩ := hr T hT X
  cases hv
  obtain ⟨t2, a1, b1⟩ := kk T' (by rw [e1, hh, h0]) (Stand.forget X' (fun q h => (hL q h).elim))
  exact ⟨t2, st t2 a1, b1⟩
theorem cX {E0 : String} (hr : vx_Run p l e R s m args below meth c H locs cells slots 1 6 (F0 m pc ls st0) rest (QcNo a) (xE E0) noA)
    (kx : ∀ (ce : Cell) (q9 : Addr) (H1 : Heap) (locs1 : List Loc), H.size ≤ H1.size → (∀ q : Nat, q < H.size → H1[q]? = H[q]?) → (∀ z ∈ locs1, z ∈ locs) → H1[q9]? = some ce → ce.vm = .none → s.vm.findClass E0 = some ce.cls → vx_W p l e R s m args below meth c H1 locs1 (cells + 1) (slots + 6) Q (F0 m pc ls rest) q9) : W p l e R s m args below meth c H locs cells slots Q (F0 m pc ls st0) := by
  intro T hT X
  rcases hr T hT X with ⟨v, st₀, t, T', L, h0, X', hL, e1, e2, hq, st⟩ | ⟨q, st₀, t, T', L, E, ce, h0, X', hL, e1, e2, ⟨hE, hF⟩, hce, hcv, hcl, st⟩
  · exact hq.elim
  · subst hE
    obtain ⟨t2, a1, b1⟩ := kx ce q T'.heap (locs ++ L) (by rw [e1, ← h0]; exact hF.1) (fun q hq => by rw [e1, ← h0]; exact hF.2 q (by rw [h0]; exact hq) (fun h => h)) (fun z hz => (List.mem_append.mp hz).elim id (fun h => (hL z h).elim)) (by rw [e1]; exact hce) hcv hcl T' rfl X'
    exact ⟨t2, st.trans a1, b1⟩
theorem cT {k : Nat} {r : Option Value} {P : Heap → Prop} (hr : vx_Run p l e R s m args below meth c H locs cells slots 1 6 (F0 m pc ls st0) rest (qT k r A1 P a) (xT k) A1) (hS : va_S A0 H0 H locs) (hA : ∀ q, A1 q → A0 q)
    (kx : ∀ (E : String) (ce : Cell) (q9 : Addr) (H1 : Heap) (locs1 : List Loc), ((k = 1 ∧ E = eIA) ∨ (k = 2 ∧ E = eIS)) → H.size ≤ H1.size → (∀ q : Nat, q < H.size → H1[q]? = H[q]?) → va_S A0 H0 H1 locs1 → H1[q9]? = some ce → ce.vm = .none → s.vm.findClass E = some ce.cls → vx_W p l e R s m args below meth c H1 locs1 (cells + 1) (slots + 6) Q (F0 m pc ls rest) q9)
    (kk : k = 0 → ∀ (H1 : Heap) (locs1 : List Loc), P H1 → va_S A0 H0 H1 locs1 → H.size ≤ H1.size → (∀ q : Nat, q < H.size → ¬ A1 q → H1[q]? = H[q]?) → W p l e R s m args below meth c H1 locs1 (cells + 1) (slots + 6) Q (F0 m (pc + 3) ls (r.toList ++ rest))) : W p l e R s m args below meth c H locs cells slots Q (F0 m pc ls st0) := by
  intro T hT X
  rcases hr T hT X with ⟨v, st₀, t, T', L, h0, X', hL, e1, e2, ⟨hk, hv, hp, hF⟩, st⟩ | ⟨q, st₀, t, T', L, E, ce, h0, X', hL, e1, e2, ⟨hE, hF⟩, hce, hcv, hcl, st⟩
  · cases hv
    obtain ⟨k1, k2, k3⟩ := vx_keep h0 e1 hS (fun q _ h => hA q h) hA hL hF
    obtain ⟨t2, a1, b1⟩ := kk hk T'.heap (locs ++ L) (by rw [e1]; exact hp) k3 k1 k2 T' rfl X'
    exact ⟨t2, st t2 a1, b1⟩
  · obtain ⟨k1, k2, k3⟩ := vx_keep (A1 := noA) h0 e1 hS (fun q _ h => h.elim) hA hL hF
    obtain ⟨t2, a1, b1⟩ := kx E ce q T'.heap (locs ++ L) hE k1 (fun q hq => k2 q hq (fun h => h)) k3 (by rw [e1]; exact hce) hcv hcl T' rfl X'
    exact ⟨t2, st.trans a1, b1⟩
theorem pVT (hK : kK dC dI cI cZ cJ s) (hT : TX A s s.heap) (hS : va_S A s.heap H locs) {ws : va_W} (hP : va_P (dC, dI) classes ws H) {b q0 ci : Nat} {q : vw_C} {fs : List Value} (hc : classes[ci]? = some q) (he : ws[q0]? = some (b, .inr (ci, fs))) (As : List Value) : PreV s H q.1 b (rP (.ref b :: As) H (kT dC dI cI cZ cJ A)) As := ⟨kT_blind, va_recv hK hP hc he, fun U hU hW => ⟨rfl, hU, kK_moved hW.alike hK, by rw [hU]; exact (hT.kept hS.2.1).warm hW⟩⟩
theorem pST (hK : kK dC dI cI cZ cJ s) (hT : TX A s s.heap) (hS : va_S A s.heap H locs) (As : List Value) : PreS s H (rP As H (kT dC dI cI cZ cJ A)) As := ⟨kT_blind, fun U hU hW => ⟨rfl, hU, kK_moved hW.alike hK, by rw [hU]; exact (hT.kept hS.2.1).warm hW⟩⟩
end THR
