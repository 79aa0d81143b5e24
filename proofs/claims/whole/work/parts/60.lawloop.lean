section
variable {p : Program} {l : Launch} {e : Env} {s : State} {m : MethodId} {below : List Frame} {meth : Method} {c : Code} {dC : Nat → ClassId} {dI : Nat → Nat → Nat} {cI cZ cJ : ClassId} {b L : Nat} {xs : Nat → Int32} {aa : Nat → Nat} {o : Nat} {ab : Nat → Nat} {kn : Nat → Int32} {vv : Ar} {nn : Nat → Nat} {mk : Nat → Int32} {mv : Ar} {mn : Nat → Nat} {f : Nat → Int64} {H : Heap} {locs : List Loc} {cells slots j : Nat} {ls : Array Slot}
set_option maxRecDepth 100000 in
set_option maxHeartbeats 4000000 in
theorem law_loop (hlt : l.stackTraces = false) (C0 : lw_At p s m meth c b L xs) (hL : L ≤ 3584) (hK : kK dC dI cI cZ cJ s) (hT : TX (fun q : Nat => s.heap.size ≤ q) s s.heap) (hNc : va_Nc eIS eIA s) (hG : LG s aa o ab) : ∀ (n j : Nat) (kn : Nat → Int32) (vv : Ar) (nn : Nat → Nat) (mk : Nat → Int32) (mv : Ar) (mn : Nat → Nat) (f : Nat → Int64) (H : Heap) (locs : List Loc) (cells slots : Nat) (ls : Array Slot), 513 ≤ j + n → 7 * j ≤ L + 6 → LI s dC dI cI cZ cJ aa o ab kn vv nn mk mv mn f H locs → cells ≤ 40 + j → slots ≤ 3300 + 6 * j → lv_has ls 8 [(0, .ref b), (1, .ref (aa 0)), (2, .ref (ab 0)), (3, .ref o), (4, .int (nI (7 * j)))] → W p l e room_1 s m #[Value.ref b] below meth c H locs cells slots (lw_Z below #[Value.ref b] s) (F0 m 23 ls []) := by
  intro n
  induction n with
  | zero => intro j kn vv nn mk mv mn f H locs cells slots ls h1 h2; exact absurd h1 (by omega)
  | succ n ih =>
    intro j kn vv nn mk mv mn f H locs cells slots ls h1 h2 hI hc hs hl
    obtain ⟨hx, hb, hr, hml, hown, htsL, hX, hbl, hlocks, hgv⟩ := id C0
    have hbA : ¬ (fun q : Nat => s.heap.size ≤ q) b := Nat.not_le.mpr hbl
    have hS := hI.2.2.1
    refine lv_iload hx hb d_L_law_23 (lv_at hl 4 rfl) ?_
    refine lv_aload_n hx hb d_L_law_25 rfl (lv_at hl 0 rfl) ?_
    refine va_slen hx hb hX hbl hbA hS d_L_law_26 ?_
    refine lv_bipush (v := 7) hx hb d_L_law_27 (by decide) ?_
    refine lv_isub hx hb d_L_law_29 ?_
    have e7 : (nI L - nI 7).toInt = (L : Int) - 7 := pk_sub_toInt (by omega) (by decide)
    refine lv_icmp_gt (tgt := 1255) hx hb d_L_law_30 (by decide) (fun c_30 => ?_) (fun c_30 => ?_)
    · refine lv_iconst (v := 1) hx hb d_L_law_1255 (by decide) ?_
      refine va_forget (fun q hq => hS.2.2 q hq) ?_
      refine W.widen (k := 1087) (n := 11544) (by omega) (by omega) ?_
      exact lw_ret hx hb hr hlocks d_L_law_1256
    · have hj : 7 * j + 7 ≤ L := by
        have h9 : ¬ (nI L - nI 7) < nI (7 * j) := c_30
        rw [Int32.lt_iff_toInt_lt, e7, nI_toInt (by omega)] at h9
        omega
      have hnx : ∀ (kn : Nat → Int32) (vv : Ar) (nn : Nat → Nat) (mk : Nat → Int32) (mv : Ar) (mn : Nat → Nat) (f : Nat → Int64) (H : Heap) (locs : List Loc) (cells slots : Nat) (ls : Array Slot), LI s dC dI cI cZ cJ aa o ab kn vv nn mk mv mn f H locs → cells ≤ 40 + (j + 1) → slots ≤ 3300 + 6 * (j + 1) → lv_has ls 8 [(0, .ref b), (1, .ref (aa 0)), (2, .ref (ab 0)), (3, .ref o), (4, .int (nI (7 * (j + 1))))] → W p l e room_1 s m #[Value.ref b] below meth c H locs cells slots (lw_Z below #[Value.ref b] s) (F0 m 23 ls []) := fun kn vv nn mk mv mn f H locs cells slots ls hI2 hc2 hs2 hl2 => ih (j + 1) kn vv nn mk mv mn f H locs cells slots ls (by omega) (by omega) hI2 hc2 hs2 hl2
      refine lv_aload_n hx hb d_L_law_33 rfl (lv_at hl 0 rfl) ?_
      refine lv_iload hx hb d_L_law_34 (lv_at hl 4 rfl) ?_
      refine va_sld hx hb hX hbl hbA hS (vp_in_nI (by omega) (by omega)) d_L_law_36 ?_
      rw [nI_clamp (show 7 * j < 2 ^ 31 by omega)]
      refine lv_bipush (v := 31) hx hb d_L_law_37 (by decide) ?_
      refine lv_iand hx hb d_L_law_39 ?_
      obtain ⟨k, hk, ek⟩ := pk_andE (xs (7 * j)) (m := 31) 5 rfl
      rw [ek]
      match k, hk with
      | 0, _ =>
        refine lv_tableIn (off := 92) (tgt := 132) hx hb d_L_law_40 (by decide) (by decide) (by decide) (by decide) ?_
        exact law_storey hlt C0 hL hK hT hNc hG hj hI hc hs hl hnx
      | 1, _ =>
        refine lv_tableIn (off := 148) (tgt := 188) hx hb d_L_law_40 (by decide) (by decide) (by decide) (by decide) ?_
        exact law_level hlt C0 hL hK hT hNc hG hj hI hc hs hl hnx
      | 2, _ =>
        refine lv_tableIn (off := 196) (tgt := 236) hx hb d_L_law_40 (by decide) (by decide) (by decide) (by decide) ?_
        exact law_type hlt C0 hL hK hT hNc hG hj hI hc hs hl hnx
      | 3, _ =>
        refine lv_tableIn (off := 252) (tgt := 292) hx hb d_L_law_40 (by decide) (by decide) (by decide) (by decide) ?_
        exact law_thickness hlt C0 hL hK hT hNc hG hj hI hc hs hl hnx
      | 4, _ =>
        refine lv_tableIn (off := 300) (tgt := 340) hx hb d_L_law_40 (by decide) (by decide) (by decide) (by decide) ?_
        exact law_wall hlt C0 hL hK hT hNc hG hj hI hc hs hl hnx
      | 5, _ =>
        refine lv_tableIn (off := 418) (tgt := 458) hx hb d_L_law_40 (by decide) (by decide) (by decide) (by decide) ?_
        exact law_move hlt C0 hL hK hT hNc hG hj hI hc hs hl hnx
      | 6, _ =>
        refine lv_tableIn (off := 478) (tgt := 518) hx hb d_L_law_40 (by decide) (by decide) (by decide) (by decide) ?_
        exact law_retype hlt C0 hL hK hT hNc hG hj hI hc hs hl hnx
      | 7, _ =>
        refine lv_tableIn (off := 526) (tgt := 566) hx hb d_L_law_40 (by decide) (by decide) (by decide) (by decide) ?_
        exact law_remove hlt C0 hL hK hT hNc hG hj hI hc hs hl hnx
      | 8, _ =>
        refine lv_tableIn (off := 562) (tgt := 602) hx hb d_L_law_40 (by decide) (by decide) (by decide) (by decide) ?_
        exact law_opening hlt C0 hL hK hT hNc hG hj hI hc hs hl hnx
      | 9, _ =>
        refine lv_tableIn (off := 642) (tgt := 682) hx hb d_L_law_40 (by decide) (by decide) (by decide) (by decide) ?_
        exact law_copy hlt C0 hL hK hT hNc hG hj hI hc hs hl hnx
      | 10, _ =>
        refine lv_tableIn (off := 710) (tgt := 750) hx hb d_L_law_40 (by decide) (by decide) (by decide) (by decide) ?_
        exact law_undo hlt C0 hL hK hT hNc hG hj hI hc hs hl hnx
      | 11, _ =>
        refine lv_tableIn (off := 723) (tgt := 763) hx hb d_L_law_40 (by decide) (by decide) (by decide) (by decide) ?_
        exact law_redo hlt C0 hL hK hT hNc hG hj hI hc hs hl hnx
      | 12, _ =>
        refine lv_tableIn (off := 736) (tgt := 776) hx hb d_L_law_40 (by decide) (by decide) (by decide) (by decide) ?_
        exact law_acts hlt C0 hL hK hT hNc hG hj hI hc hs hl hnx
      | 13, _ =>
        refine lv_tableIn (off := 792) (tgt := 832) hx hb d_L_law_40 (by decide) (by decide) (by decide) (by decide) ?_
        exact law_many hlt C0 hL hK hT hNc hG hj hI hc hs hl hnx
      | 14, _ =>
        refine lv_tableIn (off := 848) (tgt := 888) hx hb d_L_law_40 (by decide) (by decide) (by decide) (by decide) ?_
        exact law_wallAt hlt C0 hL hK hT hNc hG hj hI hc hs hl hnx
      | 15, _ =>
        refine lv_tableIn (off := 915) (tgt := 955) hx hb d_L_law_40 (by decide) (by decide) (by decide) (by decide) ?_
        exact law_openingAt hlt C0 hL hK hT hNc hG hj hI hc hs hl hnx
      | 16, _ =>
        refine lv_tableIn (off := 983) (tgt := 1023) hx hb d_L_law_40 (by decide) (by decide) (by decide) (by decide) ?_
        exact law_storeyAt hlt C0 hL hK hT hNc hG hj hI hc hs hl hnx
      | 17, _ =>
        refine lv_tableIn (off := 1050) (tgt := 1090) hx hb d_L_law_40 (by decide) (by decide) (by decide) (by decide) ?_
        exact law_typeAt hlt C0 hL hK hT hNc hG hj hI hc hs hl hnx
      | 18, _ =>
        refine lv_tableIn (off := 1117) (tgt := 1157) hx hb d_L_law_40 (by decide) (by decide) (by decide) (by decide) ?_
        exact law_body hlt C0 hL hK hT hNc hG hj hI hc hs hl hnx
      | k + 19, hk2 =>
        have hk3 : k + 19 < 32 := hk2
        refine lv_tableOut (tgt := 1249) hx hb d_L_law_40 (Or.inr (by rw [nI_toInt (show k + 19 < 2 ^ 31 by omega)]; omega)) (by decide) ?_
        refine lv_iinc (v := (nI (7 * (j + 1)))) (lv' := [(4, .int (nI (7 * (j + 1)))), (0, .ref b), (1, .ref (aa 0)), (2, .ref (ab 0)), (3, .ref o)]) hx hb d_L_law_1249 hl (k := 4) rfl (nI_add (7 * j) 7) (by decide) rfl (fun ls hl => ?_)
        refine lv_goto (tgt := 23) hx hb d_L_law_1252 (by decide) ?_
        exact hnx _ _ _ _ _ _ _ _ _ _ _ ls hI (by omega) (by omega) (lv_sub hl [1, 2, 3, 4, 0] rfl)
end
theorem arT {s : State} {args : Array Value} {ty : FieldType} (h : (Cond.arrayClass ty).before args s = true) : ∃ cA : ClassId, ArrOfT s cA ty ∧ s.vm.findClass ("[" ++ ty.toString) = some cA := by
  obtain ⟨c, k, comp, h1, h2, h3⟩ := Cond.arrayClass_spec (args := args) (first := s) (o := none) (s := s) (idx := []) h
  exact ⟨c, fun n z => ⟨(fun k h => by cases h), k, h2, comp, h3⟩, h1⟩
theorem xS_1 : ∀ q ∈ xS, Cond.stringRef R_C q.1 q.2 ∈ lw_tbl := by decide +kernel
theorem xS_2 : ∀ q ∈ xS, Cond.exactly (.string R_C q.1) "java/lang/String" ∈ flatC (Jvm.Cond.and given_1 narrow_1) := by decide +kernel
theorem xB_1 : ∀ q ∈ xB, q ∈ lw_tbl := by decide +kernel
theorem nW_1 : ∀ q ∈ nW, q ∈ lw_tbl := by decide +kernel
theorem xU_1 : Cond.isRef (.static Bundle.tN "UNASSIGNED_STACK" Bundle.steD) ∈ flatC (Jvm.Cond.and given_1 narrow_1) := by decide +kernel
theorem xU_2 : Cond.isRef (.static Bundle.tN "SUPPRESSED_SENTINEL" Bundle.listD) ∈ flatC (Jvm.Cond.and given_1 narrow_1) := by decide +kernel
theorem xU_3 : Cond.laysStatic Bundle.tN "UNASSIGNED_STACK" Bundle.steD ∈ lw_tbl := by decide +kernel
theorem xU_4 : Cond.laysStatic Bundle.tN "SUPPRESSED_SENTINEL" Bundle.listD ∈ lw_tbl := by decide +kernel
theorem xU_5 : Cond.initialized Bundle.tN ∈ lw_tbl := by decide +kernel
theorem xU_6 : Cond.not (.castable eIS eIA) ∈ flatC (Jvm.Cond.and given_1 narrow_1) := by decide +kernel
set_option maxRecDepth 100000 in
set_option maxHeartbeats 4000000 in
theorem whole_start {p : Program} {e : Env} {s : State} {m : MethodId} {below : List Frame} {meth : Method} {c : Code} (l : Launch) (hlt : l.stackTraces = false) {b L : Nat} {xs : Nat → Int32} (hL : L ≤ 3584) (C0 : lw_At p s m meth c b L xs) : W p l e room_1 s m #[Value.ref b] below meth c s.heap [] 0 0 (lw_Z below #[Value.ref b] s) (entryFrame m ([Value.ref b] : List Value).toArray 8) := by
  obtain ⟨hx, hb, hr, hml, hown, htsL, hX, hbl, hlocks, hgv⟩ := id C0
  have hts : ∀ w9 ∈ BG, w9.before #[Value.ref b] s = true := fun w9 hw9 => htsL w9 (BG_tbl w9 hw9)
  have hfl := flat_of_before _ hgv
  have hA : ∀ q : Nat, s.heap.size ≤ q → (fun q : Nat => s.heap.size ≤ q) q := fun _ h => h
  have hbA : ¬ (fun q : Nat => s.heap.size ≤ q) b := Nat.not_le.mpr hbl
  obtain ⟨c0, iS0, hKn0⟩ := u_known (C := R_C) (T := F_C) (N := 5) (n := 5) hts i_C (hts _ ins_C)
  obtain ⟨c1, iS1, hKn1⟩ := u_known (C := R_H) (T := F_H) (N := 6) (n := 6) hts i_H (hts _ ins_H)
  obtain ⟨c2, iS2, hKn2⟩ := u_known (C := R_O) (T := F_O) (N := 4) (n := 4) hts i_O (hts _ ins_O)
  obtain ⟨c3, iS3, hKn3⟩ := u_known (C := R_S) (T := F_S) (N := 2) (n := 2) hts i_S (hts _ ins_S)
  obtain ⟨c4, iS4, hKn4⟩ := u_known (C := R_T) (T := F_T) (N := 2) (n := 2) hts i_T (hts _ ins_T)
  obtain ⟨c5, iS5, hKn5⟩ := u_known (C := R_W) (T := F_W) (N := 8) (n := 8) hts i_W (hts _ ins_W)
  obtain ⟨c6, iS6, hKn6⟩ := u_known (C := R_M) (T := F_M) (N := 20) (n := 20) hts i_M (hts _ ins_M)
  obtain ⟨dC, dI, hKc⟩ : ∃ (dC : Nat → ClassId) (dI : Nat → Nat → Nat), ∀ (k : Nat) (q : vw_C), classes[k]? = some q → u_Kn s q.1 q.2.1 q.2.2 (dC k) (dI k) := by
    refine ⟨fun k => if k = 0 then c0 else if k = 1 then c1 else if k = 2 then c2 else if k = 3 then c3 else if k = 4 then c4 else if k = 5 then c5 else c6, fun k => if k = 0 then iS0 else if k = 1 then iS1 else if k = 2 then iS2 else if k = 3 then iS3 else if k = 4 then iS4 else if k = 5 then iS5 else iS6, ?_⟩
    intro k q hq
    match k, hq with
    | 0, hq => cases hq; exact hKn0
    | 1, hq => cases hq; exact hKn1
    | 2, hq => cases hq; exact hKn2
    | 3, hq => cases hq; exact hKn3
    | 4, hq => cases hq; exact hKn4
    | 5, hq => cases hq; exact hKn5
    | 6, hq => cases hq; exact hKn6
    | k + 7, hq => simp [classes] at hq
  obtain ⟨cI, aI1, aI2⟩ := arT (hts _ ac_int)
  obtain ⟨cZ, aZ1, aZ2⟩ := arT (hts _ ac_boolean)
  obtain ⟨cJ, aJ1, aJ2⟩ := arT (hts _ ac_long)
  have hK : va_K (dC, dI) classes [(cI, .int), (cZ, .boolean), (cJ, .long)] s := ⟨hKc, fun k q h => by
    match k, h with
    | 0, h => cases h; exact ⟨aI1, aI2⟩
    | 1, h => cases h; exact ⟨aZ1, aZ2⟩
    | 2, h => cases h; exact ⟨aJ1, aJ2⟩
    | k + 3, h => simp at h⟩
  have hnA : ∀ a : Nat, a < s.heap.size → ¬ (fun q : Nat => s.heap.size ≤ q) a := fun a h => Nat.not_le.mpr h
  have hT : TX (fun q : Nat => s.heap.size ≤ q) s s.heap := ⟨vx_Zqof (htsL _ xU_3) (htsL _ xU_5) (hfl _ xU_1) hnA, vx_Zqof (htsL _ xU_4) (htsL _ xU_5) (hfl _ xU_2) hnA, fun w hw => va_Nw.of (xB_ot w hw) (htsL w (xB_1 w hw)), fun q hq => by
    obtain ⟨a2, c9, cA, kA, q1, -⟩ := Cond.exactly_spec (args := #[Value.ref b]) (first := s) (o := none) (s := s) (idx := []) (hfl _ (xS_2 q hq))
    exact ⟨a2, vk_R.of (htsL _ (xS_1 q hq)) q1⟩⟩
  have hNc : va_Nc eIS eIA s := va_Nc.of (hfl _ xU_6)
  have hNw : ∀ w ∈ nW, va_Nw w s := fun w hw => va_Nw.of (nW_ot w hw) (htsL w (nW_1 w hw))
  have hS : va_S (fun q : Nat => s.heap.size ≤ q) s.heap s.heap [] := va_S.rf
  have hP : va_P (dC, dI) classes [] s.heap := fun k q h => by simp at h
  have hD : va_D (fun q : Nat => s.heap.size ≤ q) [] := ⟨fun i j p q h => by simp at h, fun k q h => by simp at h⟩
  have hl := lv_entry ([.ref b]) (n := 8) (Nat.le_of_ble_eq_true rfl)
  rw [lg_entry_eq]
  generalize (lg_sl ([.ref b]) ++ List.replicate (8 - (lg_sl ([.ref b])).length) Slot.unset).toArray = ls at hl ⊢
  have hl : lv_has ls 8 [(0, .ref b)] := hl
  refine va_new (ci := 0) (fs := [.null, .null, .null, .null, .null]) (C := R_C) (T := F_C) (N := 5) hx hb hts i_C ty_C tok_C hown (hts _ cl_L_8) (hts _ ins_C) (hts _ ini_C) hK hP hD hS hA rfl (fun j hj => by rcases (show j = 0 ∨ j = 1 ∨ j = 2 ∨ j = 3 ∨ j = 4 by omega) with rfl | rfl | rfl | rfl | rfl <;> rfl) (Nat.le_of_ble_eq_true rfl) (Nat.le_of_ble_eq_true rfl) d_L_law_0 (fun h0 H hP hD hS => ?_)
  have hP : va_P (dC, dI) classes [(h0, .inr (0, [.null, .null, .null, .null, .null]))] H := hP
  have hD : va_D (fun q : Nat => s.heap.size ≤ q) [(h0, .inr (0, [.null, .null, .null, .null, .null]))] := hD
  refine lv_dup hx hb d_L_law_3 rfl ?_
  have hFc := va_free (wc := [(h0, .inr (0, [.null, .null, .null, .null, .null]))]) hD hS hA [0] rfl
  refine va_callv (va_runI (As := []) (rest := [.ref h0]) ⟨hx, hb, hml, hown, hts⟩ (c_C_init hP) (cwI 0 hts (wB_good (fun _ h => h) co_C_init) rfl rfl rfl (hts _ ini_C) (hts _ ml_L_73) (hts _ im_C_init) rfl (by decide +kernel) ⟨Nat.le_of_ble_eq_true rfl, Nat.le_of_ble_eq_true rfl⟩) ⟨kN_blind, fun U hU hW => ⟨rfl, hU, kK_moved hW.alike hK, fun w hw => nW_warm hw hW (hNw w hw)⟩⟩ rfl rfl hl.1 rfl (lv_room (Nat.le_of_ble_eq_true rfl)) d_L_law_4 ⟨Nat.le_of_ble_eq_true rfl, Nat.le_of_ble_eq_true rfl⟩) hS (fun q _ h => hFc q h) hFc (fun aa t H1 locs ht hvm hw hB hz1 hk1 hS => ?_)
  obtain ⟨ea, hPc, hdC⟩ := hB
  rw [ht] at hPc
  generalize hH1 : H1 = H2 at hPc hS ⊢
  refine lv_astore_n (lv' := [(1, .ref h0), (0, .ref b)]) hx hb d_L_law_7 rfl hl (by decide) rfl (fun ls hl => ?_)
  have hDc : va_D (fun q : Nat => s.heap.size ≤ q) (wC aa cI cZ (fun _ => 0) (fun _ _ => 0)) := wC_D ⟨hdC.1, fun i hi => hFc _ (hdC.2 i hi)⟩
  refine va_new (ci := 6) (fs := [.int 0, .null, .int 0, .int 0, .int 0, .null, .int 0, .null, .int 0, .null, .null, .null, .null, .null, .null, .null, .int 0, .null, .null, .null]) (C := R_M) (T := F_M) (N := 20) hx hb hts i_M ty_M tok_M hown (hts _ cl_L_74) (hts _ ins_M) (hts _ ini_M) hK hPc hDc hS hA rfl (fun j hj => by rcases (show j = 0 ∨ j = 1 ∨ j = 2 ∨ j = 3 ∨ j = 4 ∨ j = 5 ∨ j = 6 ∨ j = 7 ∨ j = 8 ∨ j = 9 ∨ j = 10 ∨ j = 11 ∨ j = 12 ∨ j = 13 ∨ j = 14 ∨ j = 15 ∨ j = 16 ∨ j = 17 ∨ j = 18 ∨ j = 19 by omega) with rfl | rfl | rfl | rfl | rfl | rfl | rfl | rfl | rfl | rfl | rfl | rfl | rfl | rfl | rfl | rfl | rfl | rfl | rfl | rfl <;> rfl) (Nat.le_of_ble_eq_true rfl) (Nat.le_of_ble_eq_true rfl) d_L_law_8 (fun h9 H3 hP3 hD3 hS => ?_)
  refine lv_dup hx hb d_L_law_11 rfl ?_
  have hPm0 : va_P (dC, dI) classes [(h9, .inr (6, [.int 0, .null, .int 0, .int 0, .int 0, .null, .int 0, .null, .int 0, .null, .null, .null, .null, .null, .null, .null, .int 0, .null, .null, .null]))] H3 := hP3.sub [22] rfl
  have hPc3 : va_P (dC, dI) classes (wC aa cI cZ (fun _ => 0) (fun _ _ => 0)) H3 := hP3.sub (List.range 22) rfl
  have hFm := va_free (wc := [(h9, .inr (6, [.int 0, .null, .int 0, .int 0, .int 0, .null, .int 0, .null, .int 0, .null, .null, .null, .null, .null, .null, .null, .int 0, .null, .null, .null]))]) hD3 hS hA [22] rfl
  have hne : ∀ i, i < 22 → ¬ aa i = h9 := fun i hi e9 => by
    have hm : ((wC aa cI cZ (fun _ => 0) (fun _ _ => 0) ++ [(h9, .inr (6, [.int 0, .null, .int 0, .int 0, .int 0, .null, .int 0, .null, .int 0, .null, .null, .null, .null, .null, .null, .null, .int 0, .null, .null, .null]))] : va_W).map Prod.fst) = (List.range 23).map (fun i => if i < 22 then aa i else h9) := rfl
    have := (D_dD (n := 23) hD3 hm).1 i 22 (by omega) (by decide) (by simp only [hi, if_true]; rw [if_neg (by decide)]; exact e9)
    omega
  refine va_callv (va_runI (As := []) (rest := [.ref h9]) ⟨hx, hb, hml, hown, hts⟩ (c_M_init hPm0) (cwI 0 hts (wB_good (fun _ h => h) co_M_init) rfl rfl rfl (hts _ ini_M) (hts _ ml_L_76) (hts _ im_M_init) rfl (by decide +kernel) ⟨Nat.le_of_ble_eq_true rfl, Nat.le_of_ble_eq_true rfl⟩) (pS hK _) rfl rfl hl.1 rfl (lv_room (Nat.le_of_ble_eq_true rfl)) d_L_law_12 ⟨Nat.le_of_ble_eq_true rfl, Nat.le_of_ble_eq_true rfl⟩) hS (fun q _ h => hFm q h) hFm (fun ab t4 H4 locs ht4 hvm4 hw4 hB4 hz4 hk4 hS => ?_)
  obtain ⟨eb, hPm, hdM⟩ := hB4
  rw [ht4] at hPm
  have hltc : ∀ i, i < 22 → aa i < H3.size := fun i hi => by
    obtain ⟨q, hq, eq⟩ : ∃ q, (wC aa cI cZ (fun _ => 0) (fun _ _ => 0))[i]? = some q ∧ q.1 = aa i := by
      have h1 : ((wC aa cI cZ (fun _ => 0) (fun _ _ => 0)).map Prod.fst)[i]? = some (aa i) := by rw [show (wC aa cI cZ (fun _ => 0) (fun _ _ => 0)).map Prod.fst = (List.range 22).map aa from rfl, List.getElem?_map, List.getElem?_range hi]; rfl
      rw [List.getElem?_map] at h1
      cases hq : (wC aa cI cZ (fun _ => 0) (fun _ _ => 0))[i]? with
      | none => rw [hq] at h1; cases h1
      | some q => rw [hq] at h1; exact ⟨q, rfl, Option.some.inj h1⟩
    rw [← eq]; exact (hPc3 i q hq).lt
  have hnc : ∀ i, i < 22 → ¬ va_A [(h9, .inr (6, [.int 0, .null, .int 0, .int 0, .int 0, .null, .int 0, .null, .int 0, .null, .null, .null, .null, .null, .null, .null, .int 0, .null, .null, .null]))] H3.size (aa i) := fun i hi hc => by
    rcases hc with ⟨k, e9, hk⟩ | hc
    · have hz : k < 1 := (List.getElem?_eq_some_iff.mp hk).1
      rw [show k = 0 by omega] at hk
      exact hne i hi (congrArg Prod.fst (Option.some.inj hk)).symm
    · have := hltc i hi; omega
  have hPc4 : va_P (dC, dI) classes (wC aa cI cZ (fun _ => 0) (fun _ _ => 0)) H4 := P_kept (n := 22) hPc3 rfl hnc hk4
  have hdj0 : ∀ i, i < 14 → ∀ k, k < 22 → ¬ ab i = aa k := fun i hi k hk e9 => hnc k hk (e9 ▸ hdM.2 i hi)
  refine lv_astore_n (lv' := [(2, .ref h9), (1, .ref h0), (0, .ref b)]) hx hb d_L_law_15 rfl hl (by decide) rfl (fun ls hl => ?_)
  refine lv_iconst (v := 1) hx hb d_L_law_16 (by decide) ?_
  have hPa : va_P (dC, dI) classes (wC aa cI cZ (fun _ => 0) (fun _ _ => 0) ++ wM ab cI cZ (fun _ => 0) (fun _ _ => 0)) H4 := va_P.app hPc4 hPm
  have hDa : va_D (fun q : Nat => s.heap.size ≤ q) (wC aa cI cZ (fun _ => 0) (fun _ _ => 0) ++ wM ab cI cZ (fun _ => 0) (fun _ _ => 0)) := by
    refine dD_D (aa := fun i => if i < 22 then aa i else ab (i - 22)) (n := 36) ⟨fun i j hi hj h => ?_, fun i hi => ?_⟩ _ rfl
    · by_cases h1 : i < 22 <;> by_cases h2 : j < 22
      · simp only [h1, h2, if_true] at h; exact hdC.1 i j h1 h2 h
      · simp only [h1, h2, if_true, if_false] at h; exact absurd h.symm (hdj0 (j - 22) (by omega) i h1)
      · simp only [h1, h2, if_true, if_false] at h; exact absurd h (hdj0 (i - 22) (by omega) j h2)
      · simp only [h1, h2, if_false] at h; have := hdM.1 (i - 22) (j - 22) (by omega) (by omega) h; omega
    · by_cases h1 : i < 22
      · simp only [h1, if_true]; exact hFc _ (hdC.2 i h1)
      · simp only [h1, if_false]; exact hFm _ (hdM.2 (i - 22) (by omega))
  refine va_newa (atype := .long) hx hb (hts _ ac_long) rfl hK hPa hDa hS hA (n := 1) (N' := 1) (a0 := (1, .inr (.inl (fun _ => 0)))) (fun _ => rfl) (by decide) rfl (by decide) (Nat.le_of_ble_eq_true rfl) (Nat.le_of_ble_eq_true rfl) d_L_law_17 (fun o cA H5 hK2 hP5 hD5 hS => ?_)
  have ecA : cA = cJ := cA_long hK2
  rw [ecA] at hP5 hD5
  have hm5 : ((wC aa cI cZ (fun _ => 0) (fun _ _ => 0) ++ wM ab cI cZ (fun _ => 0) (fun _ _ => 0)) ++ [(o, .inl (cJ, 1, .inr (.inl (fun _ => 0))))] : va_W).map Prod.fst = (List.range 37).map (fun i => if i < 22 then aa i else if i < 36 then ab (i - 22) else o) := rfl
  have hd5 := D_dD (n := 37) hD5 hm5
  have hoA : ∀ i, i < 22 → ¬ aa i = o := fun i hi e9 => by
    have := hd5.1 i 36 (by omega) (by decide) (by simp only [hi, if_true]; rw [if_neg (by decide), if_neg (by decide)]; exact e9)
    omega
  have hoB : ∀ i, i < 14 → ¬ ab i = o := fun i hi e9 => by
    have := hd5.1 (i + 22) 36 (by omega) (by decide) (by show (if i + 22 < 22 then aa (i + 22) else if i + 22 < 36 then ab (i + 22 - 22) else o) = o; rw [if_neg (by omega), if_pos (by omega), Nat.add_sub_cancel]; exact e9)
    omega
  refine lv_astore_n (lv' := [(3, .ref o), (2, .ref h9), (1, .ref h0), (0, .ref b)]) hx hb d_L_law_19 rfl hl (by decide) rfl (fun ls hl => ?_)
  refine lv_iconst (v := 0) hx hb d_L_law_20 (by decide) ?_
  refine lv_istore (lv' := [(4, .int 0), (3, .ref o), (2, .ref h9), (1, .ref h0), (0, .ref b)]) hx hb d_L_law_21 hl (by decide) rfl (fun ls hl => ?_)
  have hPL : va_P (dC, dI) classes (wL aa o cI cZ cJ (fun _ => 0) (fun _ _ => 0) (fun _ => 0)) H5 := hP5.sub (List.range 22 ++ [36]) rfl
  have hPM : va_P (dC, dI) classes (wM ab cI cZ (fun _ => 0) (fun _ _ => 0)) H5 := hP5.sub ((List.range 14).map (· + 22)) rfl
  have hG : LG s aa o ab := ⟨⟨hdC.1, fun _ _ => trivial⟩, hoA, ⟨hdM.1, fun _ _ => trivial⟩, fun i hi hc => hc.elim (fun h => h.elim fun k hk => hdj0 i hi k hk.1 hk.2) (fun h => hoB i hi h), fun q hq => hq.elim (fun h => h.elim fun k hk => by rw [hk.2]; exact hFc _ (hdC.2 k hk.1)) (fun h => by rw [h]; have h36 : s.heap.size ≤ o := hd5.2 36 (by decide); exact h36), fun q hq => hq.elim fun k hk => by rw [hk.2]; exact hFm _ (hdM.2 k hk.1)⟩
  refine law_loop hlt C0 hL hK hT hNc hG 513 0 _ _ _ _ _ _ _ H5 _ _ _ ls (by omega) (by omega) ⟨hPL, hPM, hS, sim_start⟩ (by omega) (by omega) (by rw [ea, eb]; exact lv_sub hl [4, 3, 2, 1, 0] rfl)
