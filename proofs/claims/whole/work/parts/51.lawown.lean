/-! the law's loop: its words -/
def lw_P (b : Addr) (xs : List Int32) (args : Array Value) (s : State) : Prop := args = #[.ref b] ∧ s.IntsAt b xs ∧ xs.length ≤ 3584 ∧ (Jvm.Cond.and given_1 narrow_1).before args s = true
def lw_Q (_ : Array Value) (s : State) (o : Outcome) (t : State) : Prop := o = .returned (some (.int 1)) ∧ Framed s o t [] 1087 11544
def lw_Z (below : List Frame) (a : Array Value) (s : State) : State → Prop := fun t => ∃ o, t.status = .running ∧ Ended t below o ∧ lw_Q a s o t
theorem lw_ret {p : Program} {l : Launch} {e : Env} {s : State} {m : MethodId} {below : List Frame} {meth : Method} {c : Code} {b : Nat} (hx : p.tables.exec = Jvm.exec) (hb : c.code = code) (hr : meth.sig.returnType = ret) (hlocks : meth.locks = false) {pc : Nat} {H : Heap} {ls : Array Slot} (hdg : decode code pc = .ok (.ireturn, 1)) : W p l e room_1 s m #[Value.ref b] below meth c H [] 1087 11544 (lw_Z below #[Value.ref b] s) (F0 m pc ls [.int 1]) := by
  intro T hT X
  obtain ⟨fs, hret, hrun, hended, hW, hframe⟩ := X.leave (v := some (.int 1)) (hlocks := hlocks) (fun h => by rw [hr] at h; cases h)
  have hmeth' : T.vm.method? m = some meth := X.method'
  refine ⟨T.setFrames fs, ?_, .returned (some (.int 1)), hrun, hended, rfl, ⟨_, rfl⟩, hW, hframe⟩
  jvm_step X.here [X.here.top, hx, hb, hdg, hmeth', hr, ret, narrow_b1]
  (try refine ⟨rfl, ?_⟩); (try refine ⟨rfl, ?_⟩)
  first | (intro acts; rw [hret _ acts rfl rfl rfl]) | rw [hret _ _ rfl rfl rfl]
  exact Steps.refl _
def lw_At (p : Program) (s : State) (m : MethodId) (meth : Method) (c : Code) (b L : Nat) (xs : Nat → Int32) : Prop :=
  p.tables.exec = Jvm.exec ∧ c.code = code ∧ meth.sig.returnType = ret ∧ c.maxLocals = 8 ∧ s.vm.findClass R_L = some m.cls ∧ (∀ w ∈ lw_tbl, w.before #[Value.ref b] s = true) ∧ va_X b L xs s s.heap ∧ b < s.heap.size ∧ meth.locks = false ∧ (Jvm.Cond.and given_1 narrow_1).before #[Value.ref b] s = true
def LG (s : State) (aa : Nat → Nat) (o : Nat) (ab : Nat → Nat) : Prop := dD noT aa 22 ∧ (∀ i, i < 22 → ¬ aa i = o) ∧ dD noT ab 14 ∧ (∀ i, i < 14 → ¬ aO aa o (ab i)) ∧ (∀ q, aO aa o q → s.heap.size ≤ q) ∧ ∀ q, aN ab 14 q → s.heap.size ≤ q
def LI (s : State) (dC : Nat → ClassId) (dI : Nat → Nat → Nat) (cI cZ cJ : ClassId) (aa : Nat → Nat) (o : Nat) (ab : Nat → Nat) (kn : Nat → Int32) (vv : Ar) (nn : Nat → Nat) (mk : Nat → Int32) (mv : Ar) (mn : Nat → Nat) (f : Nat → Int64) (H : Heap) (locs : List Loc) : Prop :=
  va_P (dC, dI) classes (wL aa o cI cZ cJ kn vv f) H ∧ va_P (dC, dI) classes (wM ab cI cZ mk mv) H ∧ va_S (fun q : Nat => s.heap.size ≤ q) s.heap H locs ∧ Rel kn vv nn mk mv mn
theorem P_kept {D : va_G} {ws : va_W} {H H1 : Heap} {A : Nat → Prop} {aa : Nat → Nat} {n : Nat} (h : va_P D classes ws H) (hm : ws.map Prod.fst = (List.range n).map aa) (hA : ∀ i, i < n → ¬ A (aa i)) (hk : ∀ q : Nat, q < H.size → ¬ A q → H1[q]? = H[q]?) : va_P D classes ws H1 := by
  refine h.kept (fun k q hq => hk q.1 (h k q hq).lt ?_)
  have h1 : (ws.map Prod.fst)[k]? = some q.1 := by rw [List.getElem?_map, hq]; rfl
  rw [hm, List.getElem?_map] at h1
  by_cases hi : k < n
  · rw [List.getElem?_range hi] at h1
    rw [← Option.some.inj h1]; exact hA k hi
  · rw [List.getElem?_eq_none (by simp; omega)] at h1
    cases h1
theorem wM_kept {D : va_G} {ab : Nat → Nat} {cI cZ : ClassId} {mk : Nat → Int32} {mv : Ar} {H H1 : Heap} {A : Nat → Prop} (h : va_P D classes (wM ab cI cZ mk mv) H) (hA : ∀ i, i < 14 → ¬ A (ab i)) (hk : ∀ q : Nat, q < H.size → ¬ A q → H1[q]? = H[q]?) : va_P D classes (wM ab cI cZ mk mv) H1 := P_kept (n := 14) h rfl hA hk
theorem wL_kept {D : va_G} {aa : Nat → Nat} {o : Nat} {cI cZ cJ : ClassId} {kn : Nat → Int32} {vv : Ar} {f : Nat → Int64} {H H1 : Heap} {A : Nat → Prop} (h : va_P D classes (wL aa o cI cZ cJ kn vv f) H) (hA : ∀ i, i < 22 → ¬ A (aa i)) (ho : ¬ A o) (hk : ∀ q : Nat, q < H.size → ¬ A q → H1[q]? = H[q]?) : va_P D classes (wL aa o cI cZ cJ kn vv f) H1 := P_kept (aa := fun i => if i < 22 then aa i else o) (n := 23) h rfl (fun i hi => by
    by_cases h1 : i < 22
    · simp only [h1, if_true]; exact hA i h1
    · simp only [h1, if_false]; exact ho) hk
theorem LG_l {s : State} {aa : Nat → Nat} {o : Nat} {ab : Nat → Nat} (h : LG s aa o ab) : (∀ i, i < 22 → ¬ aN ab 14 (aa i)) ∧ ¬ aN ab 14 o := ⟨fun i hi hc => hc.elim fun k hk => h.2.2.2.1 k hk.1 (Or.inl ⟨i, hi, hk.2.symm⟩), fun hc => hc.elim fun k hk => h.2.2.2.1 k hk.1 (Or.inr hk.2.symm)⟩
theorem maK_6 {kc : Nat} {mk : Nat → Int32} {mv : Ar} {n : Nat → Nat} {k a b c e f g : Int32} : maK kc mk mv n k a b c e f g 6 = nI kc := by unfold maK; split <;> rfl
theorem lg_self (x : Int64) : lg_cmp x x = 0 := by simp [lg_cmp, Int64.lt_irrefl]
theorem nI_z {k : Nat} (h : k < 2 ^ 31) : nI k = 0 ↔ k = 0 := ⟨fun e => (nI_eq (b := 0) h (by decide)).mp e, fun e => by rw [e]; rfl⟩
theorem kAct_b (a b : Bool) (d : Nat) : kAct a b d < 2 ^ 31 := by unfold kAct; split; decide; split; decide; split; decide; decide
theorem kTell_b (a : Bool) : kTell a < 2 ^ 31 := by unfold kTell; split <;> decide
section LCW
variable {p : Program} {l : Launch} {e : Env} {R : Room} {s : State} {m : MethodId} {args : Array Value} {below : List Frame} {meth : Method} {c : Code} {H : Heap} {locs : List Loc} {cells slots mc ms : Nat} {Q : State → Prop} {pc : Nat} {ls : Array Slot} {st0 rest : List Value} {a : Array Value} {A0 A1 : Nat → Prop} {H0 : Heap}
theorem cWr {r : Option Value} {P : Heap → Prop} (hr : va_Run p l e R s m args below meth c H locs cells slots mc ms (F0 m pc ls st0) rest (qW r A1 P a) A1) (hS : va_S A0 H0 H locs) (hA : ∀ q, A1 q → A0 q)
    (kk : ∀ (H1 : Heap) (locs1 : List Loc), P H1 → va_S A0 H0 H1 locs1 → H.size ≤ H1.size → (∀ q : Nat, q < H.size → ¬ A1 q → H1[q]? = H[q]?) → W p l e R s m args below meth c H1 locs1 (cells + mc) (slots + ms) Q (F0 m (pc + 3) ls (r.toList ++ rest))) : W p l e R s m args below meth c H locs cells slots Q (F0 m pc ls st0) := by
  intro T hT X
  obtain ⟨v, st₀, t, T', L, h0, X', hL, e1, e2, ⟨hv, hp, hF⟩, st⟩ := hr T hT X
  cases hv
  obtain ⟨k1, k2, k3⟩ := vx_keep h0 e1 hS (fun q _ h => hA q h) hA hL hF
  obtain ⟨t2, a1, b1⟩ := kk T'.heap (locs ++ L) (by rw [e1]; exact hp) k3 k1 k2 T' rfl X'
  exact ⟨t2, st t2 a1, b1⟩
end LCW
