/-! own words: contracts' starts and ends, calls, the two worlds -/
def bI (b : Bool) : Int32 := if b = true then 1 else 0
theorem bI_0 {b : Bool} : bI b = 0 ↔ b = false := by cases b <;> simp [bI]
theorem bI_n0 {b : Bool} : ¬ bI b = 0 ↔ b = true := by cases b <;> simp [bI]
theorem bI_nar (b : Bool) : narrow .boolean (.int (bI b)) = .int (bI b) := by cases b <;> rfl
theorem bI_inj {a b : Bool} : bI a = bI b ↔ a = b := by cases a <;> cases b <;> simp [bI]
def kK (dC : Nat → ClassId) (dI : Nat → Nat → Nat) (cI cZ cJ : ClassId) (U : State) : Prop := va_K (dC, dI) classes [(cI, .int), (cZ, .boolean), (cJ, .long)] U
def rP (av : List Value) (H : Heap) (K : State → Prop) : Array Value → State → Prop := fun v U => v = av.toArray ∧ U.heap = H ∧ K U
theorem kK_moved {dC : Nat → ClassId} {dI : Nat → Nat → Nat} {cI cZ cJ : ClassId} {u U : State} (hvm : u.vm.Alike U.vm) (h : kK dC dI cI cZ cJ u) : kK dC dI cI cZ cJ U := va_K.moved hvm h
theorem rP_blind {av : List Value} {H : Heap} {dC : Nat → ClassId} {dI : Nat → Nat → Nat} {cI cZ cJ : ClassId} : FrameBlind (rP av H (kK dC dI cI cZ cJ)) := fun a U g mk q => ⟨q.1, q.2.1, kK_moved (u := U) (U := U.calling g mk a) (Vm.Alike.refl U.vm) q.2.2⟩
def QcReadL (r : Int64) : Array Value → State → Outcome → State → Prop := fun _ st o t => o = .returned (some (.long r)) ∧ t.heap = st.heap
def qW (r : Option Value) (A : Nat → Prop) (P : Heap → Prop) : Array Value → State → Outcome → State → Prop := fun _ st o t => o = .returned r ∧ P t.heap ∧ va_F A st t
def noA : Nat → Prop := fun _ => False
section OWN
variable {p : Program} {l : Launch} {e : Env} {R : Room} {s : State} {m : MethodId} {args : Array Value} {below : List Frame} {meth : Method} {c : Code} {H : Heap} {locs : List Loc} {cells slots : Nat} {Q : State → Prop} {pc : Nat} {ls : Array Slot} {st0 rest : List Value} {a : Array Value} {A0 A1 : Nat → Prop} {H0 : Heap} {dC : Nat → ClassId} {dI : Nat → Nat → Nat} {cI cZ cJ : ClassId}
theorem pV (hK : kK dC dI cI cZ cJ s) {ws : va_W} (hP : va_P (dC, dI) classes ws H) {b q0 ci : Nat} {q : vw_C} {fs : List Value} (hc : classes[ci]? = some q) (he : ws[q0]? = some (b, .inr (ci, fs))) (As : List Value) : PreV s H q.1 b (rP (.ref b :: As) H (kK dC dI cI cZ cJ)) As := ⟨rP_blind, va_recv hK hP hc he, fun U hU hW => ⟨rfl, hU, kK_moved hW.alike hK⟩⟩
theorem pS (hK : kK dC dI cI cZ cJ s) (As : List Value) : PreS s H (rP As H (kK dC dI cI cZ cJ)) As := ⟨rP_blind, fun U hU hW => ⟨rfl, hU, kK_moved hW.alike hK⟩⟩
theorem cR {r : Int32} (hr : CallRun p l e R s m args below meth c H locs cells slots 0 0 (F0 m pc ls st0) rest (QcRead r a) noA) (kk : W p l e R s m args below meth c H locs cells slots Q (F0 m (pc + 3) ls (.int r :: rest))) : W p l e R s m args below meth c H locs cells slots Q (F0 m pc ls st0) := W.callR hr kk
theorem cRL {r : Int64} (hr : CallRun p l e R s m args below meth c H locs cells slots 0 0 (F0 m pc ls st0) rest (QcReadL r a) noA) (kk : W p l e R s m args below meth c H locs cells slots Q (F0 m (pc + 3) ls (.long r :: rest))) : W p l e R s m args below meth c H locs cells slots Q (F0 m pc ls st0) := by
  intro T hT X
  obtain ⟨v, st₀, t, T', L, h0, X', hL, e1, ⟨hv, hh⟩, st⟩ := hr T hT X
  cases hv
  obtain ⟨t2, a1, b1⟩ := kk T' (by rw [e1, hh, h0]) (Stand.forget X' (fun q h => (hL q h).elim))
  exact ⟨t2, st t2 a1, b1⟩
theorem cW {r : Option Value} {P : Heap → Prop} (hr : CallRun p l e R s m args below meth c H locs cells slots 0 0 (F0 m pc ls st0) rest (qW r A1 P a) A1) (hS : va_S A0 H0 H locs) (hA : ∀ q, A1 q → A0 q)
    (kk : ∀ (H1 : Heap) (locs1 : List Loc), P H1 → va_S A0 H0 H1 locs1 → H.size ≤ H1.size → (∀ q : Nat, q < H.size → ¬ A1 q → H1[q]? = H[q]?) → W p l e R s m args below meth c H1 locs1 cells slots Q (F0 m (pc + 3) ls (r.toList ++ rest))) : W p l e R s m args below meth c H locs cells slots Q (F0 m pc ls st0) := by
  intro T hT X
  obtain ⟨v, st₀, t, T', L, h0, X', hL, e1, ⟨hv, hp, hF⟩, st⟩ := hr T hT X
  cases hv
  obtain ⟨k1, k2, k3⟩ := vx_keep h0 e1 hS (fun q _ h => hA q h) hA hL hF
  obtain ⟨t2, a1, b1⟩ := kk T'.heap (locs ++ L) (by rw [e1]; exact hp) k3 k1 k2 T' rfl X'
  exact ⟨t2, st t2 a1, b1⟩
end OWN
/-- the class's cells: kn 0 .. 5 storeys, types, walls, openings, done, held; vv 0 levels, 1 thicknesses, 2 .. 8 walls' storeys, types, x0, y0, x1, y1, gone, 9 .. 11 openings' walls, starts, widths, 12 .. 15 acts' kinds, targets, firsts, seconds -/
def wC (aa : Nat → Nat) (cI cZ : ClassId) (kn : Nat → Int32) (vv : Nat → Nat → Int32) : va_W := [
  (aa 0, .inr (0, [.ref (aa 1), .ref (aa 2), .ref (aa 3), .ref (aa 4), .ref (aa 5)])),
  (aa 1, .inr (3, [.ref (aa 6), .int (kn 0)])),
  (aa 2, .inr (4, [.ref (aa 7), .int (kn 1)])),
  (aa 3, .inr (5, [.ref (aa 8), .ref (aa 9), .ref (aa 10), .ref (aa 11), .ref (aa 12), .ref (aa 13), .ref (aa 14), .int (kn 2)])),
  (aa 4, .inr (2, [.ref (aa 15), .ref (aa 16), .ref (aa 17), .int (kn 3)])),
  (aa 5, .inr (1, [.ref (aa 18), .ref (aa 19), .ref (aa 20), .ref (aa 21), .int (kn 4), .int (kn 5)])),
  (aa 6, .inl (cI, 6, .inl (vv 0))),
  (aa 7, .inl (cI, 8, .inl (vv 1))),
  (aa 8, .inl (cI, 40, .inl (vv 2))),
  (aa 9, .inl (cI, 40, .inl (vv 3))),
  (aa 10, .inl (cI, 40, .inl (vv 4))),
  (aa 11, .inl (cI, 40, .inl (vv 5))),
  (aa 12, .inl (cI, 40, .inl (vv 6))),
  (aa 13, .inl (cI, 40, .inl (vv 7))),
  (aa 14, .inl (cZ, 40, .inl (vv 8))),
  (aa 15, .inl (cI, 60, .inl (vv 9))),
  (aa 16, .inl (cI, 60, .inl (vv 10))),
  (aa 17, .inl (cI, 60, .inl (vv 11))),
  (aa 18, .inl (cI, 200, .inl (vv 12))),
  (aa 19, .inl (cI, 200, .inl (vv 13))),
  (aa 20, .inl (cI, 200, .inl (vv 14))),
  (aa 21, .inl (cI, 200, .inl (vv 15)))]
/-- the reference's cells: mk 0 .. 6 storeys, types, walls, openings, done, undone, code; mv 0 .. 11 as the class's (8: there), 12 the log of acts -/
def wM (ab : Nat → Nat) (cI cZ : ClassId) (mk : Nat → Int32) (mv : Nat → Nat → Int32) : va_W := [
  (ab 0, .inr (6, [.int (mk 6), .ref (ab 1), .int (mk 4), .int (mk 5), .int (mk 0), .ref (ab 2), .int (mk 1), .ref (ab 3), .int (mk 2), .ref (ab 4), .ref (ab 5), .ref (ab 6), .ref (ab 7), .ref (ab 8), .ref (ab 9), .ref (ab 10), .int (mk 3), .ref (ab 11), .ref (ab 12), .ref (ab 13)])),
  (ab 1, .inl (cI, 1400, .inl (mv 12))),
  (ab 2, .inl (cI, 6, .inl (mv 0))),
  (ab 3, .inl (cI, 8, .inl (mv 1))),
  (ab 4, .inl (cI, 40, .inl (mv 2))),
  (ab 5, .inl (cI, 40, .inl (mv 3))),
  (ab 6, .inl (cI, 40, .inl (mv 4))),
  (ab 7, .inl (cI, 40, .inl (mv 5))),
  (ab 8, .inl (cI, 40, .inl (mv 6))),
  (ab 9, .inl (cI, 40, .inl (mv 7))),
  (ab 10, .inl (cZ, 40, .inl (mv 8))),
  (ab 11, .inl (cI, 60, .inl (mv 9))),
  (ab 12, .inl (cI, 60, .inl (mv 10))),
  (ab 13, .inl (cI, 60, .inl (mv 11)))]
def dD (A : Nat → Prop) (aa : Nat → Nat) (n : Nat) : Prop := (∀ i j, i < n → j < n → aa i = aa j → i = j) ∧ ∀ i, i < n → A (aa i)
def aN (aa : Nat → Nat) (n : Nat) : Nat → Prop := fun q => ∃ i, i < n ∧ q = aa i
theorem dD_aN {A : Nat → Prop} {aa : Nat → Nat} {n : Nat} (h : dD A aa n) : dD (aN aa n) aa n := ⟨h.1, fun i hi => ⟨i, hi, rfl⟩⟩
theorem dD_D {A : Nat → Prop} {aa : Nat → Nat} {n : Nat} (h : dD A aa n) (ws : va_W) (hm : ws.map Prod.fst = (List.range n).map aa) : va_D A ws := by
  have key : ∀ (i : Nat) (q : Nat × va_E), ws[i]? = some q → i < n ∧ q.1 = aa i := by
    intro i q hq
    have h1 : (ws.map Prod.fst)[i]? = some q.1 := by rw [List.getElem?_map, hq]; rfl
    rw [hm, List.getElem?_map] at h1
    by_cases hi : i < n
    · rw [List.getElem?_range hi] at h1
      exact ⟨hi, (Option.some.inj h1).symm⟩
    · rw [List.getElem?_eq_none (by simp; omega)] at h1
      cases h1
  refine ⟨fun i j p q hi hj hpq => ?_, fun k q hk => ?_⟩
  · obtain ⟨h1, h2⟩ := key i p hi
    obtain ⟨h3, h4⟩ := key j q hj
    exact h.1 i j h1 h3 (by rw [← h2, ← h4]; exact hpq)
  · obtain ⟨h1, h2⟩ := key k q hk
    rw [h2]; exact h.2 k h1
theorem wC_D {A : Nat → Prop} {aa : Nat → Nat} {cI cZ : ClassId} {kn : Nat → Int32} {vv : Nat → Nat → Int32} (h : dD A aa 22) : va_D A (wC aa cI cZ kn vv) := dD_D h _ rfl
theorem wM_D {A : Nat → Prop} {ab : Nat → Nat} {cI cZ : ClassId} {mk : Nat → Int32} {mv : Nat → Nat → Int32} (h : dD A ab 14) : va_D A (wM ab cI cZ mk mv) := dD_D h _ rfl
