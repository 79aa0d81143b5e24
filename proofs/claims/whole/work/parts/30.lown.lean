/-! the law's wrappers: the class's cells and the long[1] -/
def wL (aa : Nat → Nat) (o : Nat) (cI cZ cJ : ClassId) (kn : Nat → Int32) (vv : Ar) (f : Nat → Int64) : va_W := wC aa cI cZ kn vv ++ [(o, .inl (cJ, 1, .inr (.inl f)))]
def aO (aa : Nat → Nat) (o : Nat) : Nat → Prop := fun q => aN aa 22 q ∨ q = o
def kL (dC : Nat → ClassId) (dI : Nat → Nat → Nat) (cI cZ cJ : ClassId) (A : Nat → Prop) (U : State) : Prop := kK dC dI cI cZ cJ U ∧ TX A U U.heap ∧ va_Nc eIS eIA U
theorem kL_blind {av : List Value} {H : Heap} {dC : Nat → ClassId} {dI : Nat → Nat → Nat} {cI cZ cJ : ClassId} {A : Nat → Prop} : FrameBlind (rP av H (kL dC dI cI cZ cJ A)) := fun a U g mk q => ⟨q.1, q.2.1, kK_moved (u := U) (U := U.calling g mk a) (Vm.Alike.refl U.vm) q.2.2.1, TX.same (s := U) (U := U.calling g mk a) rfl q.2.2.2.1, va_Nc.moved (u := U) (U := U.calling g mk a) (Vm.Alike.refl U.vm) q.2.2.2.2⟩
theorem wL_l {D : va_G} {aa : Nat → Nat} {o : Nat} {cI cZ cJ : ClassId} {kn : Nat → Int32} {vv : Ar} {f : Nat → Int64} {H : Heap} (h : va_P D classes (wL aa o cI cZ cJ kn vv f) H) : va_P D classes (wC aa cI cZ kn vv) H := fun k q hk => h k q (by unfold wL; rw [List.getElem?_append_left (List.getElem?_eq_some_iff.mp hk).1]; exact hk)
theorem wL_mk {D : va_G} {aa : Nat → Nat} {o : Nat} {cI cZ cJ : ClassId} {kn : Nat → Int32} {vv : Ar} {f : Nat → Int64} {H : Heap} (h : va_P D classes (wC aa cI cZ kn vv) H) (ho : va_at D classes (o, .inl (cJ, 1, .inr (.inl f))) H) : va_P D classes (wL aa o cI cZ cJ kn vv f) H := va_P.app h (fun k q hk => by
  have hz : k < 1 := (List.getElem?_eq_some_iff.mp hk).1
  rw [show k = 0 by omega] at hk
  cases hk
  exact ho)
theorem wL_D {aa : Nat → Nat} {o : Nat} {cI cZ cJ : ClassId} {kn : Nat → Int32} {vv : Ar} {f : Nat → Int64} (hdD : dD noT aa 22) (ho : ∀ i, i < 22 → ¬ aa i = o) : va_D (aO aa o) (wL aa o cI cZ cJ kn vv f) := by
  refine dD_D (aa := fun i => if i < 22 then aa i else o) (n := 23) ⟨fun i j hi hj h => ?_, fun i hi => ?_⟩ _ rfl
  · by_cases h1 : i < 22 <;> by_cases h2 : j < 22
    · simp only [h1, h2, if_true] at h; exact hdD.1 i j h1 h2 h
    · simp only [h1, h2, if_true, if_false] at h; exact absurd h (ho i h1)
    · simp only [h1, h2, if_true, if_false] at h; exact absurd h.symm (ho j h2)
    · omega
  · by_cases h1 : i < 22
    · simp only [h1, if_true]; exact Or.inl ⟨i, h1, rfl⟩
    · simp only [h1, if_false]; exact Or.inr rfl
theorem kTell_2 {b : Bool} : ¬ kTell b = 2 := by cases b <;> decide
abbrev wBW (y : MethodName) (b : ByteArray) (n : Nat) (r : Option FieldType) (hh : List (Nat × Nat × Nat × Nat)) : List Cond := Cond.codeWith y b n r hh :: BG
section LO
variable {p : Program} {l : Launch} {e : Env} {R : Room} {s : State} {m : MethodId} {args : Array Value} {below : List Frame} {meth : Method} {c : Code} {H : Heap} {locs : List Loc} {cells slots : Nat} {Q : State → Prop} {dC : Nat → ClassId} {dI : Nat → Nat → Nat} {cI cZ cJ : ClassId} {A B : Nat → Prop}
theorem pVL (hK : kK dC dI cI cZ cJ s) (hT : TX A s s.heap) (hAB : ∀ q, B q → A q) (hS : va_S A s.heap H locs) {ws : va_W} (hP : va_P (dC, dI) classes ws H) {b q0 ci : Nat} {q : vw_C} {fs : List Value} (hc : classes[ci]? = some q) (he : ws[q0]? = some (b, .inr (ci, fs))) (As : List Value) : PreV s H q.1 b (rP (.ref b :: As) H (kT dC dI cI cZ cJ B)) As := ⟨kT_blind, va_recv hK hP hc he, fun U hU hW => ⟨rfl, hU, kK_moved hW.alike hK, by rw [hU]; exact ((hT.kept hS.2.1).narrow hAB).warm hW⟩⟩
theorem pSL (hK : kK dC dI cI cZ cJ s) (hT : TX A s s.heap) (hNc : va_Nc eIS eIA s) (hAB : ∀ q, B q → A q) (hS : va_S A s.heap H locs) (As : List Value) : PreS s H (rP As H (kL dC dI cI cZ cJ B)) As := ⟨kL_blind, fun U hU hW => ⟨rfl, hU, kK_moved hW.alike hK, by rw [hU]; exact ((hT.kept hS.2.1).narrow hAB).warm hW, hNc.moved hW.alike⟩⟩
end LO
theorem wBW_goodS {Ts : List Cond} (hT : ∀ w ∈ BG, w ∈ Ts) {own : String} {idx : Nat} {y : MethodName} {b : ByteArray} {n : Nat} {r : Option FieldType} {hh : List (Nat × Nat × Nat × Nat)} (h1 : Cond.methodLink own idx y ∈ BG) (h2 : Cond.static y ∈ BG) (h4 : Cond.initialized y.cls ∈ BG) (h : Cond.codeWith y b n r hh ∈ BG) : GoodIn Ts (va_wsS own idx y (wBW y b n r hh)) := by
  have g : ∀ w ∈ BG, w ∈ Ts ∧ ((w.onTables && w.keeps) = true ∨ ∃ ty, w = .arrayClass ty) := fun w hw => ⟨hT w hw, good_of_word (BG_ok w hw)⟩
  intro w hw
  rcases List.mem_append.mp hw with hw | hw
  · rcases List.mem_cons.mp hw with rfl | hw
    · exact g _ h1
    rcases List.mem_cons.mp hw with rfl | hw
    · exact g _ h2
    rcases List.mem_cons.mp hw with rfl | hw
    · exact g _ h4
    · cases hw
  · rcases List.mem_cons.mp hw with rfl | hw
    · exact g _ h
    · exact g _ hw
