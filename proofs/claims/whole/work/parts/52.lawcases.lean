section
variable {p : Program} {l : Launch} {e : Env} {s : State} {m : MethodId} {below : List Frame} {meth : Method} {c : Code} {dC : Nat → ClassId} {dI : Nat → Nat → Nat} {cI cZ cJ : ClassId} {b L : Nat} {xs : Nat → Int32} {aa : Nat → Nat} {o : Nat} {ab : Nat → Nat} {kn : Nat → Int32} {vv : Ar} {nn : Nat → Nat} {mk : Nat → Int32} {mv : Ar} {mn : Nat → Nat} {f : Nat → Int64} {H : Heap} {locs : List Loc} {cells slots j : Nat} {ls : Array Slot}
set_option maxRecDepth 100000 in
set_option maxHeartbeats 4000000 in
theorem law_storey (hlt : l.stackTraces = false) (C0 : lw_At p s m meth c b L xs) (hL : L ≤ 3584) (hK : kK dC dI cI cZ cJ s) (hT : TX (fun q : Nat => s.heap.size ≤ q) s s.heap) (hNc : va_Nc eIS eIA s) (hG : LG s aa o ab) (hj : 7 * j + 7 ≤ L) (hI : LI s dC dI cI cZ cJ aa o ab kn vv nn mk mv mn f H locs) (hc : cells ≤ 40 + j) (hs : slots ≤ 3300 + 6 * j) (hl : lv_has ls 8 [(0, .ref b), (1, .ref (aa 0)), (2, .ref (ab 0)), (3, .ref o), (4, .int (nI (7 * j)))]) (hnext : ∀ (kn : Nat → Int32) (vv : Ar) (nn : Nat → Nat) (mk : Nat → Int32) (mv : Ar) (mn : Nat → Nat) (f : Nat → Int64) (H : Heap) (locs : List Loc) (cells slots : Nat) (ls : Array Slot), LI s dC dI cI cZ cJ aa o ab kn vv nn mk mv mn f H locs → cells ≤ 40 + (j + 1) → slots ≤ 3300 + 6 * (j + 1) → lv_has ls 8 [(0, .ref b), (1, .ref (aa 0)), (2, .ref (ab 0)), (3, .ref o), (4, .int (nI (7 * (j + 1))))] → W p l e room_1 s m #[Value.ref b] below meth c H locs cells slots (lw_Z below #[Value.ref b] s) (F0 m 23 ls [])) : W p l e room_1 s m #[Value.ref b] below meth c H locs cells slots (lw_Z below #[Value.ref b] s) (F0 m 132 ls []) := by
  obtain ⟨hx, hb, hr, hml, hown, htsL, hX, hbl, hlocks, hgv⟩ := C0
  have hts : ∀ w9 ∈ BG, w9.before #[Value.ref b] s = true := fun w9 hw9 => htsL w9 (BG_tbl w9 hw9)
  have hbA : ¬ (fun q : Nat => s.heap.size ≤ q) b := Nat.not_le.mpr hbl
  have hK : va_K (dC, dI) classes [(cI, .int), (cZ, .boolean), (cJ, .long)] s := hK
  have hGl := LG_l hG
  obtain ⟨hdC, ho, hdM, hdj, hAc, hAm⟩ := hG
  obtain ⟨hPc, hPm, hS, hR⟩ := hI
  have hj9 : j < 512 := by omega
  have hsim := sim_storey hR (xs (7 * j + 1))
  obtain ⟨s1, s2, s3, nn', mn', hR'⟩ := hsim
  obtain ⟨hVc, hVm, hO9⟩ := hR.V
  refine lv_aload_n hx hb d_L_law_132 rfl (lv_at hl 1 rfl) ?_
  refine lv_aload_n hx hb d_L_law_133 rfl (lv_at hl 0 rfl) ?_
  refine lv_iload hx hb d_L_law_134 (lv_at hl 4 rfl) ?_
  refine lv_iconst (v := 1) hx hb d_L_law_136 (by decide) ?_
  refine lv_iadd hx hb d_L_law_137 ?_
  rw [show nI (7 * j) + 1 = nI (7 * j + 1) from nI_add (7 * j) 1]
  refine va_sld hx hb hX hbl hbA hS (vp_in_nI (by omega) (by omega)) d_L_law_138 ?_
  rw [nI_clamp (show 7 * j + 1 < 2 ^ 31 by omega)]
  refine lv_aload_n hx hb d_L_law_139 rfl (lv_at hl 3 rfl) ?_
  refine cWr (vx_runSW (As := [.ref (aa 0), .int (xs (7 * j + 1)), .ref o]) (rest := []) ⟨hx, hb, hml, hown, hts⟩ (c_L_storey hlt hPc hdC ho hR.1 (xs (7 * j + 1))) (vx_cwSW 3 hts (wBW_goodS (fun _ h => h) ml_L_77 st_L_storey ini_L cw_L_storey) rfl rfl rfl (by decide +kernel) ⟨Nat.le_of_ble_eq_true rfl, Nat.le_of_ble_eq_true rfl⟩) (pSL hK hT hNc hAc hS _) rfl rfl hl.1 rfl (lv_room (Nat.le_of_ble_eq_true rfl)) d_L_law_140 ⟨by show _ + 1 ≤ 1087; omega, by show _ + 6 ≤ 11544; omega⟩) hS hAc (fun H locs hPc hS hz hkp => ?_)
  have hPm := wM_kept hPm hdj hkp
  refine lv_istore (lv' := [(5, .int (nI (kAct (lvB kn vv (nn 0) (xs (7 * j + 1))) (decide (nn 0 < 6)) (nn 4)))), (0, .ref b), (1, .ref (aa 0)), (2, .ref (ab 0)), (3, .ref o), (4, .int (nI (7 * j)))]) hx hb d_L_law_143 hl (by decide) rfl (fun ls hl => ?_)
  refine lv_aload_n hx hb d_L_law_145 rfl (lv_at hl 3 rfl) ?_
  refine lv_aload_n hx hb d_L_law_146 rfl (lv_at hl 1 rfl) ?_
  refine lv_iload hx hb d_L_law_147 (lv_at hl 5 rfl) ?_
  refine lv_iconst (v := 1) hx hb d_L_law_149 (by decide) ?_
  refine lv_iadd hx hb d_L_law_150 ?_
  rw [show nI (7 * j) + 1 = nI (7 * j + 1) from nI_add (7 * j) 1]
  refine va_sld hx hb hX hbl hbA hS (vp_in_nI (by omega) (by omega)) d_L_law_151 ?_
  rw [nI_clamp (show 7 * j + 1 < 2 ^ 31 by omega)]
  refine cW (W.runV (As := [.int (xs (7 * j + 1))]) (rest := []) ⟨hx, hb, hml, hown, hts⟩ (c_M_storey hPm hdM hR.2.1  (xs (7 * j + 1)) s2) (cwV 1 hts (wB_goodV (fun _ h => h) ml_L_82 im_M_storey se_M_storey ini_M co_M_storey) rfl rfl rfl (by decide +kernel) ⟨Nat.le_of_ble_eq_true rfl, Nat.le_of_ble_eq_true rfl⟩) (pV hK hPm (ci := 6) (q0 := 0) rfl rfl _) rfl rfl hl.1 rfl (lv_room (Nat.le_of_ble_eq_true rfl)) d_L_law_152 ⟨by show _ + 1 + 0 ≤ 1087; omega, by show _ + 6 + 0 ≤ 11544; omega⟩) hS hAm (fun H locs hPm hS hz hkp => ?_)
  have hPc := wL_kept hPc hGl.1 hGl.2 hkp
  refine lv_istore (lv' := [(6, .int (maR (kAct (rsB mk mv mn (xs (7 * j + 1))) (decide (mn 0 < 6)) (mn 4)) mv mn 0 (xs (7 * j + 1)) 0 0 0 0 0)), (5, .int (nI (kAct (lvB kn vv (nn 0) (xs (7 * j + 1))) (decide (nn 0 < 6)) (nn 4)))), (0, .ref b), (1, .ref (aa 0)), (2, .ref (ab 0)), (3, .ref o), (4, .int (nI (7 * j)))]) hx hb d_L_law_155 hl (by decide) rfl (fun ls hl => ?_)
  refine lv_aload_n hx hb d_L_law_157 rfl (lv_at hl 4 rfl) ?_
  refine cR (W.runV (As := []) (rest := []) ⟨hx, hb, hml, hown, hts⟩ (c_M_thrown hPm) (cwV 0 hts (wB_goodV (fun _ h => h) ml_L_83 im_M_thrown se_M_thrown ini_M co_M_thrown) rfl rfl rfl (by decide +kernel) ⟨Nat.le_of_ble_eq_true rfl, Nat.le_of_ble_eq_true rfl⟩) (pV hK hPm (ci := 6) (q0 := 0) rfl rfl _) rfl rfl hl.1 rfl (lv_room (Nat.le_of_ble_eq_true rfl)) d_L_law_158 ⟨by show _ + 1 + 0 ≤ 1087; omega, by show _ + 6 + 0 ≤ 11544; omega⟩) ?_
  refine lv_iload hx hb d_L_law_161 (lv_at hl 1 rfl) ?_
  refine lv_icmp_eq (tgt := 168) hx hb d_L_law_163 (by decide) (fun c_163 => ?_) (fun c_163 => ?_)
  · refine lv_iload hx hb d_L_law_168 (lv_at hl 1 rfl) ?_
    refine lv_if_ne (tgt := 185) hx hb d_L_law_170 (by decide) (fun c_170 => ?_) (fun c_170 => ?_)
    · refine lv_goto (tgt := 1249) hx hb d_L_law_185 (by decide) ?_
      refine lv_iinc (v := (nI (7 * (j + 1)))) (lv' := [(4, .int (nI (7 * (j + 1)))), (6, .int (maR (kAct (rsB mk mv mn (xs (7 * j + 1))) (decide (mn 0 < 6)) (mn 4)) mv mn 0 (xs (7 * j + 1)) 0 0 0 0 0)), (5, .int (nI (kAct (lvB kn vv (nn 0) (xs (7 * j + 1))) (decide (nn 0 < 6)) (nn 4)))), (0, .ref b), (1, .ref (aa 0)), (2, .ref (ab 0)), (3, .ref o)]) hx hb d_L_law_1249 hl (k := 6) rfl (nI_add (7 * j) 7) (by decide) rfl (fun ls hl => ?_)
      refine lv_goto (tgt := 23) hx hb d_L_law_1252 (by decide) ?_
      exact hnext _ _ nn' _ _ mn' _ _ _ _ _ ls ⟨hPc, hPm, hS, hR'⟩ (by omega) (by omega) (lv_sub hl [3, 4, 5, 6, 0] rfl)
    · have hk0 := (nI_z (kAct_b _ _ _)).mp c_170
      refine lv_aload_n hx hb d_L_law_173 rfl (lv_at hl 5 rfl) ?_
      refine lv_iconst (v := 0) hx hb d_L_law_174 (by decide) ?_
      refine va_lald hx hb hK hPc 22 2 rfl rfl (vp_in_nI (n := 0) (by decide) (by decide)) d_L_law_175 ?_
      refine lv_iload hx hb d_L_law_176 (lv_at hl 0 rfl) ?_
      refine lv_i2l (v := (maR (kAct (rsB mk mv mn (xs (7 * j + 1))) (decide (mn 0 < 6)) (mn 4)) mv mn 0 (xs (7 * j + 1)) 0 0 0 0 0).toInt64) hx hb d_L_law_178 rfl ?_
      refine W.lcmp hx hb d_L_law_179 ?_
      refine lv_if_eq (tgt := 185) hx hb d_L_law_180 (by decide) (fun c_180 => ?_) (fun c_180 => ?_)
      · refine lv_goto (tgt := 1249) hx hb d_L_law_185 (by decide) ?_
        refine lv_iinc (v := (nI (7 * (j + 1)))) (lv' := [(4, .int (nI (7 * (j + 1)))), (6, .int (maR (kAct (rsB mk mv mn (xs (7 * j + 1))) (decide (mn 0 < 6)) (mn 4)) mv mn 0 (xs (7 * j + 1)) 0 0 0 0 0)), (5, .int (nI (kAct (lvB kn vv (nn 0) (xs (7 * j + 1))) (decide (nn 0 < 6)) (nn 4)))), (0, .ref b), (1, .ref (aa 0)), (2, .ref (ab 0)), (3, .ref o)]) hx hb d_L_law_1249 hl (k := 6) rfl (nI_add (7 * j) 7) (by decide) rfl (fun ls hl => ?_)
        refine lv_goto (tgt := 23) hx hb d_L_law_1252 (by decide) ?_
        exact hnext _ _ nn' _ _ mn' _ _ _ _ _ ls ⟨hPc, hPm, hS, hR'⟩ (by omega) (by omega) (lv_sub hl [3, 4, 5, 6, 0] rfl)
      · exact absurd (by rw [if_pos hk0]; exact (congrArg (fun z => lg_cmp z _) (s3 hk0)).trans (lg_self _)) c_180
  · exact absurd (maK_6.trans (by rw [← s1])) c_163
set_option maxRecDepth 100000 in
set_option maxHeartbeats 4000000 in
theorem law_level (hlt : l.stackTraces = false) (C0 : lw_At p s m meth c b L xs) (hL : L ≤ 3584) (hK : kK dC dI cI cZ cJ s) (hT : TX (fun q : Nat => s.heap.size ≤ q) s s.heap) (hNc : va_Nc eIS eIA s) (hG : LG s aa o ab) (hj : 7 * j + 7 ≤ L) (hI : LI s dC dI cI cZ cJ aa o ab kn vv nn mk mv mn f H locs) (hc : cells ≤ 40 + j) (hs : slots ≤ 3300 + 6 * j) (hl : lv_has ls 8 [(0, .ref b), (1, .ref (aa 0)), (2, .ref (ab 0)), (3, .ref o), (4, .int (nI (7 * j)))]) (hnext : ∀ (kn : Nat → Int32) (vv : Ar) (nn : Nat → Nat) (mk : Nat → Int32) (mv : Ar) (mn : Nat → Nat) (f : Nat → Int64) (H : Heap) (locs : List Loc) (cells slots : Nat) (ls : Array Slot), LI s dC dI cI cZ cJ aa o ab kn vv nn mk mv mn f H locs → cells ≤ 40 + (j + 1) → slots ≤ 3300 + 6 * (j + 1) → lv_has ls 8 [(0, .ref b), (1, .ref (aa 0)), (2, .ref (ab 0)), (3, .ref o), (4, .int (nI (7 * (j + 1))))] → W p l e room_1 s m #[Value.ref b] below meth c H locs cells slots (lw_Z below #[Value.ref b] s) (F0 m 23 ls [])) : W p l e room_1 s m #[Value.ref b] below meth c H locs cells slots (lw_Z below #[Value.ref b] s) (F0 m 188 ls []) := by
  obtain ⟨hx, hb, hr, hml, hown, htsL, hX, hbl, hlocks, hgv⟩ := C0
  have hts : ∀ w9 ∈ BG, w9.before #[Value.ref b] s = true := fun w9 hw9 => htsL w9 (BG_tbl w9 hw9)
  have hbA : ¬ (fun q : Nat => s.heap.size ≤ q) b := Nat.not_le.mpr hbl
  have hK : va_K (dC, dI) classes [(cI, .int), (cZ, .boolean), (cJ, .long)] s := hK
  have hGl := LG_l hG
  obtain ⟨hdC, ho, hdM, hdj, hAc, hAm⟩ := hG
  obtain ⟨hPc, hPm, hS, hR⟩ := hI
  have hj9 : j < 512 := by omega
  have hsim := sim_level hR (xs (7 * j + 1)) (xs (7 * j + 2))
  obtain ⟨s1, s2, s3, nn', mn', hR'⟩ := hsim
  obtain ⟨hVc, hVm, hO9⟩ := hR.V
  refine lv_aload_n hx hb d_L_law_188 rfl (lv_at hl 1 rfl) ?_
  refine lv_aload_n hx hb d_L_law_189 rfl (lv_at hl 0 rfl) ?_
  refine lv_iload hx hb d_L_law_190 (lv_at hl 4 rfl) ?_
  refine lv_iconst (v := 1) hx hb d_L_law_192 (by decide) ?_
  refine lv_iadd hx hb d_L_law_193 ?_
  rw [show nI (7 * j) + 1 = nI (7 * j + 1) from nI_add (7 * j) 1]
  refine va_sld hx hb hX hbl hbA hS (vp_in_nI (by omega) (by omega)) d_L_law_194 ?_
  rw [nI_clamp (show 7 * j + 1 < 2 ^ 31 by omega)]
  refine lv_aload_n hx hb d_L_law_195 rfl (lv_at hl 0 rfl) ?_
  refine lv_iload hx hb d_L_law_196 (lv_at hl 4 rfl) ?_
  refine lv_iconst (v := 2) hx hb d_L_law_198 (by decide) ?_
  refine lv_iadd hx hb d_L_law_199 ?_
  rw [show nI (7 * j) + 2 = nI (7 * j + 2) from nI_add (7 * j) 2]
  refine va_sld hx hb hX hbl hbA hS (vp_in_nI (by omega) (by omega)) d_L_law_200 ?_
  rw [nI_clamp (show 7 * j + 2 < 2 ^ 31 by omega)]
  refine cWr (vx_runSW (As := [.ref (aa 0), .int (xs (7 * j + 1)), .int (xs (7 * j + 2))]) (rest := []) ⟨hx, hb, hml, hown, hts⟩ (c_L_level hlt hPc hdC ho hR.1 (xs (7 * j + 1)) (xs (7 * j + 2))) (vx_cwSW 3 hts (wBW_goodS (fun _ h => h) ml_L_87 st_L_level ini_L cw_L_level) rfl rfl rfl (by decide +kernel) ⟨Nat.le_of_ble_eq_true rfl, Nat.le_of_ble_eq_true rfl⟩) (pSL hK hT hNc hAc hS _) rfl rfl hl.1 rfl (lv_room (Nat.le_of_ble_eq_true rfl)) d_L_law_201 ⟨by show _ + 1 ≤ 1087; omega, by show _ + 6 ≤ 11544; omega⟩) hS hAc (fun H locs hPc hS hz hkp => ?_)
  have hPm := wM_kept hPm hdj hkp
  refine lv_istore (lv' := [(5, .int (nI (kAct (haB (kn 0) (xs (7 * j + 1)) && lvB kn vv (xs (7 * j + 1)).toNatClampNeg (xs (7 * j + 2))) (true) (nn 4)))), (0, .ref b), (1, .ref (aa 0)), (2, .ref (ab 0)), (3, .ref o), (4, .int (nI (7 * j)))]) hx hb d_L_law_204 hl (by decide) rfl (fun ls hl => ?_)
  refine lv_aload_n hx hb d_L_law_206 rfl (lv_at hl 3 rfl) ?_
  refine lv_aload_n hx hb d_L_law_207 rfl (lv_at hl 1 rfl) ?_
  refine lv_iload hx hb d_L_law_208 (lv_at hl 5 rfl) ?_
  refine lv_iconst (v := 1) hx hb d_L_law_210 (by decide) ?_
  refine lv_iadd hx hb d_L_law_211 ?_
  rw [show nI (7 * j) + 1 = nI (7 * j + 1) from nI_add (7 * j) 1]
  refine va_sld hx hb hX hbl hbA hS (vp_in_nI (by omega) (by omega)) d_L_law_212 ?_
  rw [nI_clamp (show 7 * j + 1 < 2 ^ 31 by omega)]
  refine lv_aload_n hx hb d_L_law_213 rfl (lv_at hl 1 rfl) ?_
  refine lv_iload hx hb d_L_law_214 (lv_at hl 5 rfl) ?_
  refine lv_iconst (v := 2) hx hb d_L_law_216 (by decide) ?_
  refine lv_iadd hx hb d_L_law_217 ?_
  rw [show nI (7 * j) + 2 = nI (7 * j + 2) from nI_add (7 * j) 2]
  refine va_sld hx hb hX hbl hbA hS (vp_in_nI (by omega) (by omega)) d_L_law_218 ?_
  rw [nI_clamp (show 7 * j + 2 < 2 ^ 31 by omega)]
  refine cW (W.runV (As := [.int (xs (7 * j + 1)), .int (xs (7 * j + 2))]) (rest := []) ⟨hx, hb, hml, hown, hts⟩ (c_M_level hPm hdM hR.2.1  (xs (7 * j + 1)) (xs (7 * j + 2)) s2) (cwV 2 hts (wB_goodV (fun _ h => h) ml_L_90 im_M_level se_M_level ini_M co_M_level) rfl rfl rfl (by decide +kernel) ⟨Nat.le_of_ble_eq_true rfl, Nat.le_of_ble_eq_true rfl⟩) (pV hK hPm (ci := 6) (q0 := 0) rfl rfl _) rfl rfl hl.1 rfl (lv_room (Nat.le_of_ble_eq_true rfl)) d_L_law_219 ⟨by show _ + 1 + 0 ≤ 1087; omega, by show _ + 6 + 0 ≤ 11544; omega⟩) hS hAm (fun H locs hPm hS hz hkp => ?_)
  have hPc := wL_kept hPc hGl.1 hGl.2 hkp
  refine lv_aload_n hx hb d_L_law_222 rfl (lv_at hl 3 rfl) ?_
  refine cR (W.runV (As := []) (rest := []) ⟨hx, hb, hml, hown, hts⟩ (c_M_thrown hPm) (cwV 0 hts (wB_goodV (fun _ h => h) ml_L_83 im_M_thrown se_M_thrown ini_M co_M_thrown) rfl rfl rfl (by decide +kernel) ⟨Nat.le_of_ble_eq_true rfl, Nat.le_of_ble_eq_true rfl⟩) (pV hK hPm (ci := 6) (q0 := 0) rfl rfl _) rfl rfl hl.1 rfl (lv_room (Nat.le_of_ble_eq_true rfl)) d_L_law_223 ⟨by show _ + 1 + 0 ≤ 1087; omega, by show _ + 6 + 0 ≤ 11544; omega⟩) ?_
  refine lv_iload hx hb d_L_law_226 (lv_at hl 0 rfl) ?_
  refine lv_icmp_eq (tgt := 233) hx hb d_L_law_228 (by decide) (fun c_228 => ?_) (fun c_228 => ?_)
  · refine lv_goto (tgt := 1249) hx hb d_L_law_233 (by decide) ?_
    refine lv_iinc (v := (nI (7 * (j + 1)))) (lv' := [(4, .int (nI (7 * (j + 1)))), (5, .int (nI (kAct (haB (kn 0) (xs (7 * j + 1)) && lvB kn vv (xs (7 * j + 1)).toNatClampNeg (xs (7 * j + 2))) (true) (nn 4)))), (0, .ref b), (1, .ref (aa 0)), (2, .ref (ab 0)), (3, .ref o)]) hx hb d_L_law_1249 hl (k := 5) rfl (nI_add (7 * j) 7) (by decide) rfl (fun ls hl => ?_)
    refine lv_goto (tgt := 23) hx hb d_L_law_1252 (by decide) ?_
    exact hnext _ _ nn' _ _ mn' _ _ _ _ _ ls ⟨hPc, hPm, hS, hR'⟩ (by omega) (by omega) (lv_sub hl [2, 3, 4, 5, 0] rfl)
  · exact absurd (maK_6.trans (by rw [← s1])) c_228
set_option maxRecDepth 100000 in
set_option maxHeartbeats 4000000 in
theorem law_type (hlt : l.stackTraces = false) (C0 : lw_At p s m meth c b L xs) (hL : L ≤ 3584) (hK : kK dC dI cI cZ cJ s) (hT : TX (fun q : Nat => s.heap.size ≤ q) s s.heap) (hNc : va_Nc eIS eIA s) (hG : LG s aa o ab) (hj : 7 * j + 7 ≤ L) (hI : LI s dC dI cI cZ cJ aa o ab kn vv nn mk mv mn f H locs) (hc : cells ≤ 40 + j) (hs : slots ≤ 3300 + 6 * j) (hl : lv_has ls 8 [(0, .ref b), (1, .ref (aa 0)), (2, .ref (ab 0)), (3, .ref o), (4, .int (nI (7 * j)))]) (hnext : ∀ (kn : Nat → Int32) (vv : Ar) (nn : Nat → Nat) (mk : Nat → Int32) (mv : Ar) (mn : Nat → Nat) (f : Nat → Int64) (H : Heap) (locs : List Loc) (cells slots : Nat) (ls : Array Slot), LI s dC dI cI cZ cJ aa o ab kn vv nn mk mv mn f H locs → cells ≤ 40 + (j + 1) → slots ≤ 3300 + 6 * (j + 1) → lv_has ls 8 [(0, .ref b), (1, .ref (aa 0)), (2, .ref (ab 0)), (3, .ref o), (4, .int (nI (7 * (j + 1))))] → W p l e room_1 s m #[Value.ref b] below meth c H locs cells slots (lw_Z below #[Value.ref b] s) (F0 m 23 ls [])) : W p l e room_1 s m #[Value.ref b] below meth c H locs cells slots (lw_Z below #[Value.ref b] s) (F0 m 236 ls []) := by
  obtain ⟨hx, hb, hr, hml, hown, htsL, hX, hbl, hlocks, hgv⟩ := C0
  have hts : ∀ w9 ∈ BG, w9.before #[Value.ref b] s = true := fun w9 hw9 => htsL w9 (BG_tbl w9 hw9)
  have hbA : ¬ (fun q : Nat => s.heap.size ≤ q) b := Nat.not_le.mpr hbl
  have hK : va_K (dC, dI) classes [(cI, .int), (cZ, .boolean), (cJ, .long)] s := hK
  have hGl := LG_l hG
  obtain ⟨hdC, ho, hdM, hdj, hAc, hAm⟩ := hG
  obtain ⟨hPc, hPm, hS, hR⟩ := hI
  have hj9 : j < 512 := by omega
  have hsim := sim_type hR (xs (7 * j + 1))
  obtain ⟨s1, s2, s3, nn', mn', hR'⟩ := hsim
  obtain ⟨hVc, hVm, hO9⟩ := hR.V
  refine lv_aload_n hx hb d_L_law_236 rfl (lv_at hl 1 rfl) ?_
  refine lv_aload_n hx hb d_L_law_237 rfl (lv_at hl 0 rfl) ?_
  refine lv_iload hx hb d_L_law_238 (lv_at hl 4 rfl) ?_
  refine lv_iconst (v := 1) hx hb d_L_law_240 (by decide) ?_
  refine lv_iadd hx hb d_L_law_241 ?_
  rw [show nI (7 * j) + 1 = nI (7 * j + 1) from nI_add (7 * j) 1]
  refine va_sld hx hb hX hbl hbA hS (vp_in_nI (by omega) (by omega)) d_L_law_242 ?_
  rw [nI_clamp (show 7 * j + 1 < 2 ^ 31 by omega)]
  refine lv_aload_n hx hb d_L_law_243 rfl (lv_at hl 3 rfl) ?_
  refine cWr (vx_runSW (As := [.ref (aa 0), .int (xs (7 * j + 1)), .ref o]) (rest := []) ⟨hx, hb, hml, hown, hts⟩ (c_L_type hlt hPc hdC ho hR.1 (xs (7 * j + 1))) (vx_cwSW 3 hts (wBW_goodS (fun _ h => h) ml_L_91 st_L_type ini_L cw_L_type) rfl rfl rfl (by decide +kernel) ⟨Nat.le_of_ble_eq_true rfl, Nat.le_of_ble_eq_true rfl⟩) (pSL hK hT hNc hAc hS _) rfl rfl hl.1 rfl (lv_room (Nat.le_of_ble_eq_true rfl)) d_L_law_244 ⟨by show _ + 1 ≤ 1087; omega, by show _ + 6 ≤ 11544; omega⟩) hS hAc (fun H locs hPc hS hz hkp => ?_)
  have hPm := wM_kept hPm hdj hkp
  refine lv_istore (lv' := [(5, .int (nI (kAct (thB (xs (7 * j + 1))) (decide (nn 1 < 8)) (nn 4)))), (0, .ref b), (1, .ref (aa 0)), (2, .ref (ab 0)), (3, .ref o), (4, .int (nI (7 * j)))]) hx hb d_L_law_247 hl (by decide) rfl (fun ls hl => ?_)
  refine lv_aload_n hx hb d_L_law_249 rfl (lv_at hl 3 rfl) ?_
  refine lv_aload_n hx hb d_L_law_250 rfl (lv_at hl 1 rfl) ?_
  refine lv_iload hx hb d_L_law_251 (lv_at hl 5 rfl) ?_
  refine lv_iconst (v := 1) hx hb d_L_law_253 (by decide) ?_
  refine lv_iadd hx hb d_L_law_254 ?_
  rw [show nI (7 * j) + 1 = nI (7 * j + 1) from nI_add (7 * j) 1]
  refine va_sld hx hb hX hbl hbA hS (vp_in_nI (by omega) (by omega)) d_L_law_255 ?_
  rw [nI_clamp (show 7 * j + 1 < 2 ^ 31 by omega)]
  refine cW (W.runV (As := [.int (xs (7 * j + 1))]) (rest := []) ⟨hx, hb, hml, hown, hts⟩ (c_M_type hPm hdM hR.2.1  (xs (7 * j + 1)) s2) (cwV 1 hts (wB_goodV (fun _ h => h) ml_L_93 im_M_type se_M_type ini_M co_M_type) rfl rfl rfl (by decide +kernel) ⟨Nat.le_of_ble_eq_true rfl, Nat.le_of_ble_eq_true rfl⟩) (pV hK hPm (ci := 6) (q0 := 0) rfl rfl _) rfl rfl hl.1 rfl (lv_room (Nat.le_of_ble_eq_true rfl)) d_L_law_256 ⟨by show _ + 1 + 0 ≤ 1087; omega, by show _ + 6 + 0 ≤ 11544; omega⟩) hS hAm (fun H locs hPm hS hz hkp => ?_)
  have hPc := wL_kept hPc hGl.1 hGl.2 hkp
  refine lv_istore (lv' := [(6, .int (maR (kAct (thB (xs (7 * j + 1))) (decide (mn 1 < 8)) (mn 4)) mv mn 2 (xs (7 * j + 1)) 0 0 0 0 0)), (5, .int (nI (kAct (thB (xs (7 * j + 1))) (decide (nn 1 < 8)) (nn 4)))), (0, .ref b), (1, .ref (aa 0)), (2, .ref (ab 0)), (3, .ref o), (4, .int (nI (7 * j)))]) hx hb d_L_law_259 hl (by decide) rfl (fun ls hl => ?_)
  refine lv_aload_n hx hb d_L_law_261 rfl (lv_at hl 4 rfl) ?_
  refine cR (W.runV (As := []) (rest := []) ⟨hx, hb, hml, hown, hts⟩ (c_M_thrown hPm) (cwV 0 hts (wB_goodV (fun _ h => h) ml_L_83 im_M_thrown se_M_thrown ini_M co_M_thrown) rfl rfl rfl (by decide +kernel) ⟨Nat.le_of_ble_eq_true rfl, Nat.le_of_ble_eq_true rfl⟩) (pV hK hPm (ci := 6) (q0 := 0) rfl rfl _) rfl rfl hl.1 rfl (lv_room (Nat.le_of_ble_eq_true rfl)) d_L_law_262 ⟨by show _ + 1 + 0 ≤ 1087; omega, by show _ + 6 + 0 ≤ 11544; omega⟩) ?_
  refine lv_iload hx hb d_L_law_265 (lv_at hl 1 rfl) ?_
  refine lv_icmp_eq (tgt := 272) hx hb d_L_law_267 (by decide) (fun c_267 => ?_) (fun c_267 => ?_)
  · refine lv_iload hx hb d_L_law_272 (lv_at hl 1 rfl) ?_
    refine lv_if_ne (tgt := 289) hx hb d_L_law_274 (by decide) (fun c_274 => ?_) (fun c_274 => ?_)
    · refine lv_goto (tgt := 1249) hx hb d_L_law_289 (by decide) ?_
      refine lv_iinc (v := (nI (7 * (j + 1)))) (lv' := [(4, .int (nI (7 * (j + 1)))), (6, .int (maR (kAct (thB (xs (7 * j + 1))) (decide (mn 1 < 8)) (mn 4)) mv mn 2 (xs (7 * j + 1)) 0 0 0 0 0)), (5, .int (nI (kAct (thB (xs (7 * j + 1))) (decide (nn 1 < 8)) (nn 4)))), (0, .ref b), (1, .ref (aa 0)), (2, .ref (ab 0)), (3, .ref o)]) hx hb d_L_law_1249 hl (k := 6) rfl (nI_add (7 * j) 7) (by decide) rfl (fun ls hl => ?_)
      refine lv_goto (tgt := 23) hx hb d_L_law_1252 (by decide) ?_
      exact hnext _ _ nn' _ _ mn' _ _ _ _ _ ls ⟨hPc, hPm, hS, hR'⟩ (by omega) (by omega) (lv_sub hl [3, 4, 5, 6, 0] rfl)
    · have hk0 := (nI_z (kAct_b _ _ _)).mp c_274
      refine lv_aload_n hx hb d_L_law_277 rfl (lv_at hl 5 rfl) ?_
      refine lv_iconst (v := 0) hx hb d_L_law_278 (by decide) ?_
      refine va_lald hx hb hK hPc 22 2 rfl rfl (vp_in_nI (n := 0) (by decide) (by decide)) d_L_law_279 ?_
      refine lv_iload hx hb d_L_law_280 (lv_at hl 0 rfl) ?_
      refine lv_i2l (v := (maR (kAct (thB (xs (7 * j + 1))) (decide (mn 1 < 8)) (mn 4)) mv mn 2 (xs (7 * j + 1)) 0 0 0 0 0).toInt64) hx hb d_L_law_282 rfl ?_
      refine W.lcmp hx hb d_L_law_283 ?_
      refine lv_if_eq (tgt := 289) hx hb d_L_law_284 (by decide) (fun c_284 => ?_) (fun c_284 => ?_)
      · refine lv_goto (tgt := 1249) hx hb d_L_law_289 (by decide) ?_
        refine lv_iinc (v := (nI (7 * (j + 1)))) (lv' := [(4, .int (nI (7 * (j + 1)))), (6, .int (maR (kAct (thB (xs (7 * j + 1))) (decide (mn 1 < 8)) (mn 4)) mv mn 2 (xs (7 * j + 1)) 0 0 0 0 0)), (5, .int (nI (kAct (thB (xs (7 * j + 1))) (decide (nn 1 < 8)) (nn 4)))), (0, .ref b), (1, .ref (aa 0)), (2, .ref (ab 0)), (3, .ref o)]) hx hb d_L_law_1249 hl (k := 6) rfl (nI_add (7 * j) 7) (by decide) rfl (fun ls hl => ?_)
        refine lv_goto (tgt := 23) hx hb d_L_law_1252 (by decide) ?_
        exact hnext _ _ nn' _ _ mn' _ _ _ _ _ ls ⟨hPc, hPm, hS, hR'⟩ (by omega) (by omega) (lv_sub hl [3, 4, 5, 6, 0] rfl)
      · exact absurd (by rw [if_pos hk0]; exact (congrArg (fun z => lg_cmp z _) (s3 hk0)).trans (lg_self _)) c_284
  · exact absurd (maK_6.trans (by rw [← s1])) c_267
set_option maxRecDepth 100000 in
set_option maxHeartbeats 4000000 in
theorem law_thickness (hlt : l.stackTraces = false) (C0 : lw_At p s m meth c b L xs) (hL : L ≤ 3584) (hK : kK dC dI cI cZ cJ s) (hT : TX (fun q : Nat => s.heap.size ≤ q) s s.heap) (hNc : va_Nc eIS eIA s) (hG : LG s aa o ab) (hj : 7 * j + 7 ≤ L) (hI : LI s dC dI cI cZ cJ aa o ab kn vv nn mk mv mn f H locs) (hc : cells ≤ 40 + j) (hs : slots ≤ 3300 + 6 * j) (hl : lv_has ls 8 [(0, .ref b), (1, .ref (aa 0)), (2, .ref (ab 0)), (3, .ref o), (4, .int (nI (7 * j)))]) (hnext : ∀ (kn : Nat → Int32) (vv : Ar) (nn : Nat → Nat) (mk : Nat → Int32) (mv : Ar) (mn : Nat → Nat) (f : Nat → Int64) (H : Heap) (locs : List Loc) (cells slots : Nat) (ls : Array Slot), LI s dC dI cI cZ cJ aa o ab kn vv nn mk mv mn f H locs → cells ≤ 40 + (j + 1) → slots ≤ 3300 + 6 * (j + 1) → lv_has ls 8 [(0, .ref b), (1, .ref (aa 0)), (2, .ref (ab 0)), (3, .ref o), (4, .int (nI (7 * (j + 1))))] → W p l e room_1 s m #[Value.ref b] below meth c H locs cells slots (lw_Z below #[Value.ref b] s) (F0 m 23 ls [])) : W p l e room_1 s m #[Value.ref b] below meth c H locs cells slots (lw_Z below #[Value.ref b] s) (F0 m 292 ls []) := by
  obtain ⟨hx, hb, hr, hml, hown, htsL, hX, hbl, hlocks, hgv⟩ := C0
  have hts : ∀ w9 ∈ BG, w9.before #[Value.ref b] s = true := fun w9 hw9 => htsL w9 (BG_tbl w9 hw9)
  have hbA : ¬ (fun q : Nat => s.heap.size ≤ q) b := Nat.not_le.mpr hbl
  have hK : va_K (dC, dI) classes [(cI, .int), (cZ, .boolean), (cJ, .long)] s := hK
  have hGl := LG_l hG
  obtain ⟨hdC, ho, hdM, hdj, hAc, hAm⟩ := hG
  obtain ⟨hPc, hPm, hS, hR⟩ := hI
  have hj9 : j < 512 := by omega
  have hsim := sim_thickness hR (xs (7 * j + 1)) (xs (7 * j + 2))
  obtain ⟨s1, s2, s3, nn', mn', hR'⟩ := hsim
  obtain ⟨hVc, hVm, hO9⟩ := hR.V
  refine lv_aload_n hx hb d_L_law_292 rfl (lv_at hl 1 rfl) ?_
  refine lv_aload_n hx hb d_L_law_293 rfl (lv_at hl 0 rfl) ?_
  refine lv_iload hx hb d_L_law_294 (lv_at hl 4 rfl) ?_
  refine lv_iconst (v := 1) hx hb d_L_law_296 (by decide) ?_
  refine lv_iadd hx hb d_L_law_297 ?_
  rw [show nI (7 * j) + 1 = nI (7 * j + 1) from nI_add (7 * j) 1]
  refine va_sld hx hb hX hbl hbA hS (vp_in_nI (by omega) (by omega)) d_L_law_298 ?_
  rw [nI_clamp (show 7 * j + 1 < 2 ^ 31 by omega)]
  refine lv_aload_n hx hb d_L_law_299 rfl (lv_at hl 0 rfl) ?_
  refine lv_iload hx hb d_L_law_300 (lv_at hl 4 rfl) ?_
  refine lv_iconst (v := 2) hx hb d_L_law_302 (by decide) ?_
  refine lv_iadd hx hb d_L_law_303 ?_
  rw [show nI (7 * j) + 2 = nI (7 * j + 2) from nI_add (7 * j) 2]
  refine va_sld hx hb hX hbl hbA hS (vp_in_nI (by omega) (by omega)) d_L_law_304 ?_
  rw [nI_clamp (show 7 * j + 2 < 2 ^ 31 by omega)]
  refine cWr (vx_runSW (As := [.ref (aa 0), .int (xs (7 * j + 1)), .int (xs (7 * j + 2))]) (rest := []) ⟨hx, hb, hml, hown, hts⟩ (c_L_thickness hlt hPc hdC ho hR.1 (xs (7 * j + 1)) (xs (7 * j + 2))) (vx_cwSW 3 hts (wBW_goodS (fun _ h => h) ml_L_94 st_L_thickness ini_L cw_L_thickness) rfl rfl rfl (by decide +kernel) ⟨Nat.le_of_ble_eq_true rfl, Nat.le_of_ble_eq_true rfl⟩) (pSL hK hT hNc hAc hS _) rfl rfl hl.1 rfl (lv_room (Nat.le_of_ble_eq_true rfl)) d_L_law_305 ⟨by show _ + 1 ≤ 1087; omega, by show _ + 6 ≤ 11544; omega⟩) hS hAc (fun H locs hPc hS hz hkp => ?_)
  have hPm := wM_kept hPm hdj hkp
  refine lv_istore (lv' := [(5, .int (nI (kAct (haB (kn 1) (xs (7 * j + 1)) && thB (xs (7 * j + 2))) (true) (nn 4)))), (0, .ref b), (1, .ref (aa 0)), (2, .ref (ab 0)), (3, .ref o), (4, .int (nI (7 * j)))]) hx hb d_L_law_308 hl (by decide) rfl (fun ls hl => ?_)
  refine lv_aload_n hx hb d_L_law_310 rfl (lv_at hl 3 rfl) ?_
  refine lv_aload_n hx hb d_L_law_311 rfl (lv_at hl 1 rfl) ?_
  refine lv_iload hx hb d_L_law_312 (lv_at hl 5 rfl) ?_
  refine lv_iconst (v := 1) hx hb d_L_law_314 (by decide) ?_
  refine lv_iadd hx hb d_L_law_315 ?_
  rw [show nI (7 * j) + 1 = nI (7 * j + 1) from nI_add (7 * j) 1]
  refine va_sld hx hb hX hbl hbA hS (vp_in_nI (by omega) (by omega)) d_L_law_316 ?_
  rw [nI_clamp (show 7 * j + 1 < 2 ^ 31 by omega)]
  refine lv_aload_n hx hb d_L_law_317 rfl (lv_at hl 1 rfl) ?_
  refine lv_iload hx hb d_L_law_318 (lv_at hl 5 rfl) ?_
  refine lv_iconst (v := 2) hx hb d_L_law_320 (by decide) ?_
  refine lv_iadd hx hb d_L_law_321 ?_
  rw [show nI (7 * j) + 2 = nI (7 * j + 2) from nI_add (7 * j) 2]
  refine va_sld hx hb hX hbl hbA hS (vp_in_nI (by omega) (by omega)) d_L_law_322 ?_
  rw [nI_clamp (show 7 * j + 2 < 2 ^ 31 by omega)]
  refine cW (W.runV (As := [.int (xs (7 * j + 1)), .int (xs (7 * j + 2))]) (rest := []) ⟨hx, hb, hml, hown, hts⟩ (c_M_thickness hPm hdM hR.2.1  (xs (7 * j + 1)) (xs (7 * j + 2)) s2) (cwV 2 hts (wB_goodV (fun _ h => h) ml_L_96 im_M_thickness se_M_thickness ini_M co_M_thickness) rfl rfl rfl (by decide +kernel) ⟨Nat.le_of_ble_eq_true rfl, Nat.le_of_ble_eq_true rfl⟩) (pV hK hPm (ci := 6) (q0 := 0) rfl rfl _) rfl rfl hl.1 rfl (lv_room (Nat.le_of_ble_eq_true rfl)) d_L_law_323 ⟨by show _ + 1 + 0 ≤ 1087; omega, by show _ + 6 + 0 ≤ 11544; omega⟩) hS hAm (fun H locs hPm hS hz hkp => ?_)
  have hPc := wL_kept hPc hGl.1 hGl.2 hkp
  refine lv_aload_n hx hb d_L_law_326 rfl (lv_at hl 3 rfl) ?_
  refine cR (W.runV (As := []) (rest := []) ⟨hx, hb, hml, hown, hts⟩ (c_M_thrown hPm) (cwV 0 hts (wB_goodV (fun _ h => h) ml_L_83 im_M_thrown se_M_thrown ini_M co_M_thrown) rfl rfl rfl (by decide +kernel) ⟨Nat.le_of_ble_eq_true rfl, Nat.le_of_ble_eq_true rfl⟩) (pV hK hPm (ci := 6) (q0 := 0) rfl rfl _) rfl rfl hl.1 rfl (lv_room (Nat.le_of_ble_eq_true rfl)) d_L_law_327 ⟨by show _ + 1 + 0 ≤ 1087; omega, by show _ + 6 + 0 ≤ 11544; omega⟩) ?_
  refine lv_iload hx hb d_L_law_330 (lv_at hl 0 rfl) ?_
  refine lv_icmp_eq (tgt := 337) hx hb d_L_law_332 (by decide) (fun c_332 => ?_) (fun c_332 => ?_)
  · refine lv_goto (tgt := 1249) hx hb d_L_law_337 (by decide) ?_
    refine lv_iinc (v := (nI (7 * (j + 1)))) (lv' := [(4, .int (nI (7 * (j + 1)))), (5, .int (nI (kAct (haB (kn 1) (xs (7 * j + 1)) && thB (xs (7 * j + 2))) (true) (nn 4)))), (0, .ref b), (1, .ref (aa 0)), (2, .ref (ab 0)), (3, .ref o)]) hx hb d_L_law_1249 hl (k := 5) rfl (nI_add (7 * j) 7) (by decide) rfl (fun ls hl => ?_)
    refine lv_goto (tgt := 23) hx hb d_L_law_1252 (by decide) ?_
    exact hnext _ _ nn' _ _ mn' _ _ _ _ _ ls ⟨hPc, hPm, hS, hR'⟩ (by omega) (by omega) (lv_sub hl [2, 3, 4, 5, 0] rfl)
  · exact absurd (maK_6.trans (by rw [← s1])) c_332
set_option maxRecDepth 100000 in
set_option maxHeartbeats 4000000 in
theorem law_wall (hlt : l.stackTraces = false) (C0 : lw_At p s m meth c b L xs) (hL : L ≤ 3584) (hK : kK dC dI cI cZ cJ s) (hT : TX (fun q : Nat => s.heap.size ≤ q) s s.heap) (hNc : va_Nc eIS eIA s) (hG : LG s aa o ab) (hj : 7 * j + 7 ≤ L) (hI : LI s dC dI cI cZ cJ aa o ab kn vv nn mk mv mn f H locs) (hc : cells ≤ 40 + j) (hs : slots ≤ 3300 + 6 * j) (hl : lv_has ls 8 [(0, .ref b), (1, .ref (aa 0)), (2, .ref (ab 0)), (3, .ref o), (4, .int (nI (7 * j)))]) (hnext : ∀ (kn : Nat → Int32) (vv : Ar) (nn : Nat → Nat) (mk : Nat → Int32) (mv : Ar) (mn : Nat → Nat) (f : Nat → Int64) (H : Heap) (locs : List Loc) (cells slots : Nat) (ls : Array Slot), LI s dC dI cI cZ cJ aa o ab kn vv nn mk mv mn f H locs → cells ≤ 40 + (j + 1) → slots ≤ 3300 + 6 * (j + 1) → lv_has ls 8 [(0, .ref b), (1, .ref (aa 0)), (2, .ref (ab 0)), (3, .ref o), (4, .int (nI (7 * (j + 1))))] → W p l e room_1 s m #[Value.ref b] below meth c H locs cells slots (lw_Z below #[Value.ref b] s) (F0 m 23 ls [])) : W p l e room_1 s m #[Value.ref b] below meth c H locs cells slots (lw_Z below #[Value.ref b] s) (F0 m 340 ls []) := by
  obtain ⟨hx, hb, hr, hml, hown, htsL, hX, hbl, hlocks, hgv⟩ := C0
  have hts : ∀ w9 ∈ BG, w9.before #[Value.ref b] s = true := fun w9 hw9 => htsL w9 (BG_tbl w9 hw9)
  have hbA : ¬ (fun q : Nat => s.heap.size ≤ q) b := Nat.not_le.mpr hbl
  have hK : va_K (dC, dI) classes [(cI, .int), (cZ, .boolean), (cJ, .long)] s := hK
  have hGl := LG_l hG
  obtain ⟨hdC, ho, hdM, hdj, hAc, hAm⟩ := hG
  obtain ⟨hPc, hPm, hS, hR⟩ := hI
  have hj9 : j < 512 := by omega
  have hsim := sim_wall hR (xs (7 * j + 1)) (xs (7 * j + 2)) (xs (7 * j + 3)) (xs (7 * j + 4)) (xs (7 * j + 5)) (xs (7 * j + 6))
  obtain ⟨s1, s2, s3, nn', mn', hR'⟩ := hsim
  obtain ⟨hVc, hVm, hO9⟩ := hR.V
  refine lv_aload_n hx hb d_L_law_340 rfl (lv_at hl 1 rfl) ?_
  refine lv_aload_n hx hb d_L_law_341 rfl (lv_at hl 0 rfl) ?_
  refine lv_iload hx hb d_L_law_342 (lv_at hl 4 rfl) ?_
  refine lv_iconst (v := 1) hx hb d_L_law_344 (by decide) ?_
  refine lv_iadd hx hb d_L_law_345 ?_
  rw [show nI (7 * j) + 1 = nI (7 * j + 1) from nI_add (7 * j) 1]
  refine va_sld hx hb hX hbl hbA hS (vp_in_nI (by omega) (by omega)) d_L_law_346 ?_
  rw [nI_clamp (show 7 * j + 1 < 2 ^ 31 by omega)]
  refine lv_aload_n hx hb d_L_law_347 rfl (lv_at hl 0 rfl) ?_
  refine lv_iload hx hb d_L_law_348 (lv_at hl 4 rfl) ?_
  refine lv_iconst (v := 2) hx hb d_L_law_350 (by decide) ?_
  refine lv_iadd hx hb d_L_law_351 ?_
  rw [show nI (7 * j) + 2 = nI (7 * j + 2) from nI_add (7 * j) 2]
  refine va_sld hx hb hX hbl hbA hS (vp_in_nI (by omega) (by omega)) d_L_law_352 ?_
  rw [nI_clamp (show 7 * j + 2 < 2 ^ 31 by omega)]
  refine lv_aload_n hx hb d_L_law_353 rfl (lv_at hl 0 rfl) ?_
  refine lv_iload hx hb d_L_law_354 (lv_at hl 4 rfl) ?_
  refine lv_iconst (v := 3) hx hb d_L_law_356 (by decide) ?_
  refine lv_iadd hx hb d_L_law_357 ?_
  rw [show nI (7 * j) + 3 = nI (7 * j + 3) from nI_add (7 * j) 3]
  refine va_sld hx hb hX hbl hbA hS (vp_in_nI (by omega) (by omega)) d_L_law_358 ?_
  rw [nI_clamp (show 7 * j + 3 < 2 ^ 31 by omega)]
  refine lv_aload_n hx hb d_L_law_359 rfl (lv_at hl 0 rfl) ?_
  refine lv_iload hx hb d_L_law_360 (lv_at hl 4 rfl) ?_
  refine lv_iconst (v := 4) hx hb d_L_law_362 (by decide) ?_
  refine lv_iadd hx hb d_L_law_363 ?_
  rw [show nI (7 * j) + 4 = nI (7 * j + 4) from nI_add (7 * j) 4]
  refine va_sld hx hb hX hbl hbA hS (vp_in_nI (by omega) (by omega)) d_L_law_364 ?_
  rw [nI_clamp (show 7 * j + 4 < 2 ^ 31 by omega)]
  refine lv_aload_n hx hb d_L_law_365 rfl (lv_at hl 0 rfl) ?_
  refine lv_iload hx hb d_L_law_366 (lv_at hl 4 rfl) ?_
  refine lv_iconst (v := 5) hx hb d_L_law_368 (by decide) ?_
  refine lv_iadd hx hb d_L_law_369 ?_
  rw [show nI (7 * j) + 5 = nI (7 * j + 5) from nI_add (7 * j) 5]
  refine va_sld hx hb hX hbl hbA hS (vp_in_nI (by omega) (by omega)) d_L_law_370 ?_
  rw [nI_clamp (show 7 * j + 5 < 2 ^ 31 by omega)]
  refine lv_aload_n hx hb d_L_law_371 rfl (lv_at hl 0 rfl) ?_
  refine lv_iload hx hb d_L_law_372 (lv_at hl 4 rfl) ?_
  refine lv_bipush (v := 6) hx hb d_L_law_374 (by decide) ?_
  refine lv_iadd hx hb d_L_law_376 ?_
  rw [show nI (7 * j) + 6 = nI (7 * j + 6) from nI_add (7 * j) 6]
  refine va_sld hx hb hX hbl hbA hS (vp_in_nI (by omega) (by omega)) d_L_law_377 ?_
  rw [nI_clamp (show 7 * j + 6 < 2 ^ 31 by omega)]
  refine lv_aload_n hx hb d_L_law_378 rfl (lv_at hl 3 rfl) ?_
  refine cWr (vx_runSW (As := [.ref (aa 0), .int (xs (7 * j + 1)), .int (xs (7 * j + 2)), .int (xs (7 * j + 3)), .int (xs (7 * j + 4)), .int (xs (7 * j + 5)), .int (xs (7 * j + 6)), .ref o]) (rest := []) ⟨hx, hb, hml, hown, hts⟩ (c_L_wall hlt hPc hdC ho hR.1 (xs (7 * j + 1)) (xs (7 * j + 2)) (xs (7 * j + 3)) (xs (7 * j + 4)) (xs (7 * j + 5)) (xs (7 * j + 6))) (vx_cwSW 8 hts (wBW_goodS (fun _ h => h) ml_L_97 st_L_wall ini_L cw_L_wall) rfl rfl rfl (by decide +kernel) ⟨Nat.le_of_ble_eq_true rfl, Nat.le_of_ble_eq_true rfl⟩) (pSL hK hT hNc hAc hS _) rfl rfl hl.1 rfl (lv_room (Nat.le_of_ble_eq_true rfl)) d_L_law_379 ⟨by show _ + 1 ≤ 1087; omega, by show _ + 6 ≤ 11544; omega⟩) hS hAc (fun H locs hPc hS hz hkp => ?_)
  have hPm := wM_kept hPm hdj hkp
  refine lv_istore (lv' := [(5, .int (nI (kAct (haB (kn 0) (xs (7 * j + 1)) && haB (kn 1) (xs (7 * j + 2)) && plB (xs (7 * j + 3)).toInt64 (xs (7 * j + 4)).toInt64 && plB (xs (7 * j + 5)).toInt64 (xs (7 * j + 6)).toInt64 && (decide ((xs (7 * j + 3)) = (xs (7 * j + 5))) != decide ((xs (7 * j + 4)) = (xs (7 * j + 6))))) (decide (nn 2 < 40)) (nn 4)))), (0, .ref b), (1, .ref (aa 0)), (2, .ref (ab 0)), (3, .ref o), (4, .int (nI (7 * j)))]) hx hb d_L_law_382 hl (by decide) rfl (fun ls hl => ?_)
  refine lv_aload_n hx hb d_L_law_384 rfl (lv_at hl 3 rfl) ?_
  refine lv_aload_n hx hb d_L_law_385 rfl (lv_at hl 1 rfl) ?_
  refine lv_iload hx hb d_L_law_386 (lv_at hl 5 rfl) ?_
  refine lv_iconst (v := 1) hx hb d_L_law_388 (by decide) ?_
  refine lv_iadd hx hb d_L_law_389 ?_
  rw [show nI (7 * j) + 1 = nI (7 * j + 1) from nI_add (7 * j) 1]
  refine va_sld hx hb hX hbl hbA hS (vp_in_nI (by omega) (by omega)) d_L_law_390 ?_
  rw [nI_clamp (show 7 * j + 1 < 2 ^ 31 by omega)]
  refine lv_aload_n hx hb d_L_law_391 rfl (lv_at hl 1 rfl) ?_
  refine lv_iload hx hb d_L_law_392 (lv_at hl 5 rfl) ?_
  refine lv_iconst (v := 2) hx hb d_L_law_394 (by decide) ?_
  refine lv_iadd hx hb d_L_law_395 ?_
  rw [show nI (7 * j) + 2 = nI (7 * j + 2) from nI_add (7 * j) 2]
  refine va_sld hx hb hX hbl hbA hS (vp_in_nI (by omega) (by omega)) d_L_law_396 ?_
  rw [nI_clamp (show 7 * j + 2 < 2 ^ 31 by omega)]
  refine lv_aload_n hx hb d_L_law_397 rfl (lv_at hl 1 rfl) ?_
  refine lv_iload hx hb d_L_law_398 (lv_at hl 5 rfl) ?_
  refine lv_iconst (v := 3) hx hb d_L_law_400 (by decide) ?_
  refine lv_iadd hx hb d_L_law_401 ?_
  rw [show nI (7 * j) + 3 = nI (7 * j + 3) from nI_add (7 * j) 3]
  refine va_sld hx hb hX hbl hbA hS (vp_in_nI (by omega) (by omega)) d_L_law_402 ?_
  rw [nI_clamp (show 7 * j + 3 < 2 ^ 31 by omega)]
  refine lv_aload_n hx hb d_L_law_403 rfl (lv_at hl 1 rfl) ?_
  refine lv_iload hx hb d_L_law_404 (lv_at hl 5 rfl) ?_
  refine lv_iconst (v := 4) hx hb d_L_law_406 (by decide) ?_
  refine lv_iadd hx hb d_L_law_407 ?_
  rw [show nI (7 * j) + 4 = nI (7 * j + 4) from nI_add (7 * j) 4]
  refine va_sld hx hb hX hbl hbA hS (vp_in_nI (by omega) (by omega)) d_L_law_408 ?_
  rw [nI_clamp (show 7 * j + 4 < 2 ^ 31 by omega)]
  refine lv_aload_n hx hb d_L_law_409 rfl (lv_at hl 1 rfl) ?_
  refine lv_iload hx hb d_L_law_410 (lv_at hl 5 rfl) ?_
  refine lv_iconst (v := 5) hx hb d_L_law_412 (by decide) ?_
  refine lv_iadd hx hb d_L_law_413 ?_
  rw [show nI (7 * j) + 5 = nI (7 * j + 5) from nI_add (7 * j) 5]
  refine va_sld hx hb hX hbl hbA hS (vp_in_nI (by omega) (by omega)) d_L_law_414 ?_
  rw [nI_clamp (show 7 * j + 5 < 2 ^ 31 by omega)]
  refine lv_aload_n hx hb d_L_law_415 rfl (lv_at hl 1 rfl) ?_
  refine lv_iload hx hb d_L_law_416 (lv_at hl 5 rfl) ?_
  refine lv_bipush (v := 6) hx hb d_L_law_418 (by decide) ?_
  refine lv_iadd hx hb d_L_law_420 ?_
  rw [show nI (7 * j) + 6 = nI (7 * j + 6) from nI_add (7 * j) 6]
  refine va_sld hx hb hX hbl hbA hS (vp_in_nI (by omega) (by omega)) d_L_law_421 ?_
  rw [nI_clamp (show 7 * j + 6 < 2 ^ 31 by omega)]
  refine cW (W.runV (As := [.int (xs (7 * j + 1)), .int (xs (7 * j + 2)), .int (xs (7 * j + 3)), .int (xs (7 * j + 4)), .int (xs (7 * j + 5)), .int (xs (7 * j + 6))]) (rest := []) ⟨hx, hb, hml, hown, hts⟩ (c_M_wall hPm hdM hR.2.1  (xs (7 * j + 1)) (xs (7 * j + 2)) (xs (7 * j + 3)) (xs (7 * j + 4)) (xs (7 * j + 5)) (xs (7 * j + 6)) s2) (cwV 6 hts (wB_goodV (fun _ h => h) ml_L_100 im_M_wall se_M_wall ini_M co_M_wall) rfl rfl rfl (by decide +kernel) ⟨Nat.le_of_ble_eq_true rfl, Nat.le_of_ble_eq_true rfl⟩) (pV hK hPm (ci := 6) (q0 := 0) rfl rfl _) rfl rfl hl.1 rfl (lv_room (Nat.le_of_ble_eq_true rfl)) d_L_law_422 ⟨by show _ + 1 + 0 ≤ 1087; omega, by show _ + 6 + 0 ≤ 11544; omega⟩) hS hAm (fun H locs hPm hS hz hkp => ?_)
  have hPc := wL_kept hPc hGl.1 hGl.2 hkp
  refine lv_istore (lv' := [(6, .int (maR (kAct (rwB mk (xs (7 * j + 1)) (xs (7 * j + 2)) (xs (7 * j + 3)) (xs (7 * j + 4)) (xs (7 * j + 5)) (xs (7 * j + 6))) (decide (mn 2 < 40)) (mn 4)) mv mn 4 (xs (7 * j + 1)) (xs (7 * j + 2)) (xs (7 * j + 3)) (xs (7 * j + 4)) (xs (7 * j + 5)) (xs (7 * j + 6)))), (5, .int (nI (kAct (haB (kn 0) (xs (7 * j + 1)) && haB (kn 1) (xs (7 * j + 2)) && plB (xs (7 * j + 3)).toInt64 (xs (7 * j + 4)).toInt64 && plB (xs (7 * j + 5)).toInt64 (xs (7 * j + 6)).toInt64 && (decide ((xs (7 * j + 3)) = (xs (7 * j + 5))) != decide ((xs (7 * j + 4)) = (xs (7 * j + 6))))) (decide (nn 2 < 40)) (nn 4)))), (0, .ref b), (1, .ref (aa 0)), (2, .ref (ab 0)), (3, .ref o), (4, .int (nI (7 * j)))]) hx hb d_L_law_425 hl (by decide) rfl (fun ls hl => ?_)
  refine lv_aload_n hx hb d_L_law_427 rfl (lv_at hl 4 rfl) ?_
  refine cR (W.runV (As := []) (rest := []) ⟨hx, hb, hml, hown, hts⟩ (c_M_thrown hPm) (cwV 0 hts (wB_goodV (fun _ h => h) ml_L_83 im_M_thrown se_M_thrown ini_M co_M_thrown) rfl rfl rfl (by decide +kernel) ⟨Nat.le_of_ble_eq_true rfl, Nat.le_of_ble_eq_true rfl⟩) (pV hK hPm (ci := 6) (q0 := 0) rfl rfl _) rfl rfl hl.1 rfl (lv_room (Nat.le_of_ble_eq_true rfl)) d_L_law_428 ⟨by show _ + 1 + 0 ≤ 1087; omega, by show _ + 6 + 0 ≤ 11544; omega⟩) ?_
  refine lv_iload hx hb d_L_law_431 (lv_at hl 1 rfl) ?_
  refine lv_icmp_eq (tgt := 438) hx hb d_L_law_433 (by decide) (fun c_433 => ?_) (fun c_433 => ?_)
  · refine lv_iload hx hb d_L_law_438 (lv_at hl 1 rfl) ?_
    refine lv_if_ne (tgt := 455) hx hb d_L_law_440 (by decide) (fun c_440 => ?_) (fun c_440 => ?_)
    · refine lv_goto (tgt := 1249) hx hb d_L_law_455 (by decide) ?_
      refine lv_iinc (v := (nI (7 * (j + 1)))) (lv' := [(4, .int (nI (7 * (j + 1)))), (6, .int (maR (kAct (rwB mk (xs (7 * j + 1)) (xs (7 * j + 2)) (xs (7 * j + 3)) (xs (7 * j + 4)) (xs (7 * j + 5)) (xs (7 * j + 6))) (decide (mn 2 < 40)) (mn 4)) mv mn 4 (xs (7 * j + 1)) (xs (7 * j + 2)) (xs (7 * j + 3)) (xs (7 * j + 4)) (xs (7 * j + 5)) (xs (7 * j + 6)))), (5, .int (nI (kAct (haB (kn 0) (xs (7 * j + 1)) && haB (kn 1) (xs (7 * j + 2)) && plB (xs (7 * j + 3)).toInt64 (xs (7 * j + 4)).toInt64 && plB (xs (7 * j + 5)).toInt64 (xs (7 * j + 6)).toInt64 && (decide ((xs (7 * j + 3)) = (xs (7 * j + 5))) != decide ((xs (7 * j + 4)) = (xs (7 * j + 6))))) (decide (nn 2 < 40)) (nn 4)))), (0, .ref b), (1, .ref (aa 0)), (2, .ref (ab 0)), (3, .ref o)]) hx hb d_L_law_1249 hl (k := 6) rfl (nI_add (7 * j) 7) (by decide) rfl (fun ls hl => ?_)
      refine lv_goto (tgt := 23) hx hb d_L_law_1252 (by decide) ?_
      exact hnext _ _ nn' _ _ mn' _ _ _ _ _ ls ⟨hPc, hPm, hS, hR'⟩ (by omega) (by omega) (lv_sub hl [3, 4, 5, 6, 0] rfl)
    · have hk0 := (nI_z (kAct_b _ _ _)).mp c_440
      refine lv_aload_n hx hb d_L_law_443 rfl (lv_at hl 5 rfl) ?_
      refine lv_iconst (v := 0) hx hb d_L_law_444 (by decide) ?_
      refine va_lald hx hb hK hPc 22 2 rfl rfl (vp_in_nI (n := 0) (by decide) (by decide)) d_L_law_445 ?_
      refine lv_iload hx hb d_L_law_446 (lv_at hl 0 rfl) ?_
      refine lv_i2l (v := (maR (kAct (rwB mk (xs (7 * j + 1)) (xs (7 * j + 2)) (xs (7 * j + 3)) (xs (7 * j + 4)) (xs (7 * j + 5)) (xs (7 * j + 6))) (decide (mn 2 < 40)) (mn 4)) mv mn 4 (xs (7 * j + 1)) (xs (7 * j + 2)) (xs (7 * j + 3)) (xs (7 * j + 4)) (xs (7 * j + 5)) (xs (7 * j + 6))).toInt64) hx hb d_L_law_448 rfl ?_
      refine W.lcmp hx hb d_L_law_449 ?_
      refine lv_if_eq (tgt := 455) hx hb d_L_law_450 (by decide) (fun c_450 => ?_) (fun c_450 => ?_)
      · refine lv_goto (tgt := 1249) hx hb d_L_law_455 (by decide) ?_
        refine lv_iinc (v := (nI (7 * (j + 1)))) (lv' := [(4, .int (nI (7 * (j + 1)))), (6, .int (maR (kAct (rwB mk (xs (7 * j + 1)) (xs (7 * j + 2)) (xs (7 * j + 3)) (xs (7 * j + 4)) (xs (7 * j + 5)) (xs (7 * j + 6))) (decide (mn 2 < 40)) (mn 4)) mv mn 4 (xs (7 * j + 1)) (xs (7 * j + 2)) (xs (7 * j + 3)) (xs (7 * j + 4)) (xs (7 * j + 5)) (xs (7 * j + 6)))), (5, .int (nI (kAct (haB (kn 0) (xs (7 * j + 1)) && haB (kn 1) (xs (7 * j + 2)) && plB (xs (7 * j + 3)).toInt64 (xs (7 * j + 4)).toInt64 && plB (xs (7 * j + 5)).toInt64 (xs (7 * j + 6)).toInt64 && (decide ((xs (7 * j + 3)) = (xs (7 * j + 5))) != decide ((xs (7 * j + 4)) = (xs (7 * j + 6))))) (decide (nn 2 < 40)) (nn 4)))), (0, .ref b), (1, .ref (aa 0)), (2, .ref (ab 0)), (3, .ref o)]) hx hb d_L_law_1249 hl (k := 6) rfl (nI_add (7 * j) 7) (by decide) rfl (fun ls hl => ?_)
        refine lv_goto (tgt := 23) hx hb d_L_law_1252 (by decide) ?_
        exact hnext _ _ nn' _ _ mn' _ _ _ _ _ ls ⟨hPc, hPm, hS, hR'⟩ (by omega) (by omega) (lv_sub hl [3, 4, 5, 6, 0] rfl)
      · exact absurd (by rw [if_pos hk0]; exact (congrArg (fun z => lg_cmp z _) (s3 hk0)).trans (lg_self _)) c_450
  · exact absurd (maK_6.trans (by rw [← s1])) c_433
set_option maxRecDepth 100000 in
set_option maxHeartbeats 4000000 in
theorem law_move (hlt : l.stackTraces = false) (C0 : lw_At p s m meth c b L xs) (hL : L ≤ 3584) (hK : kK dC dI cI cZ cJ s) (hT : TX (fun q : Nat => s.heap.size ≤ q) s s.heap) (hNc : va_Nc eIS eIA s) (hG : LG s aa o ab) (hj : 7 * j + 7 ≤ L) (hI : LI s dC dI cI cZ cJ aa o ab kn vv nn mk mv mn f H locs) (hc : cells ≤ 40 + j) (hs : slots ≤ 3300 + 6 * j) (hl : lv_has ls 8 [(0, .ref b), (1, .ref (aa 0)), (2, .ref (ab 0)), (3, .ref o), (4, .int (nI (7 * j)))]) (hnext : ∀ (kn : Nat → Int32) (vv : Ar) (nn : Nat → Nat) (mk : Nat → Int32) (mv : Ar) (mn : Nat → Nat) (f : Nat → Int64) (H : Heap) (locs : List Loc) (cells slots : Nat) (ls : Array Slot), LI s dC dI cI cZ cJ aa o ab kn vv nn mk mv mn f H locs → cells ≤ 40 + (j + 1) → slots ≤ 3300 + 6 * (j + 1) → lv_has ls 8 [(0, .ref b), (1, .ref (aa 0)), (2, .ref (ab 0)), (3, .ref o), (4, .int (nI (7 * (j + 1))))] → W p l e room_1 s m #[Value.ref b] below meth c H locs cells slots (lw_Z below #[Value.ref b] s) (F0 m 23 ls [])) : W p l e room_1 s m #[Value.ref b] below meth c H locs cells slots (lw_Z below #[Value.ref b] s) (F0 m 458 ls []) := by
  obtain ⟨hx, hb, hr, hml, hown, htsL, hX, hbl, hlocks, hgv⟩ := C0
  have hts : ∀ w9 ∈ BG, w9.before #[Value.ref b] s = true := fun w9 hw9 => htsL w9 (BG_tbl w9 hw9)
  have hbA : ¬ (fun q : Nat => s.heap.size ≤ q) b := Nat.not_le.mpr hbl
  have hK : va_K (dC, dI) classes [(cI, .int), (cZ, .boolean), (cJ, .long)] s := hK
  have hGl := LG_l hG
  obtain ⟨hdC, ho, hdM, hdj, hAc, hAm⟩ := hG
  obtain ⟨hPc, hPm, hS, hR⟩ := hI
  have hj9 : j < 512 := by omega
  have hsim := sim_move hR (xs (7 * j + 1)) (xs (7 * j + 2)) (xs (7 * j + 3))
  obtain ⟨s1, s2, s3, nn', mn', hR'⟩ := hsim
  obtain ⟨hVc, hVm, hO9⟩ := hR.V
  refine lv_aload_n hx hb d_L_law_458 rfl (lv_at hl 1 rfl) ?_
  refine lv_aload_n hx hb d_L_law_459 rfl (lv_at hl 0 rfl) ?_
  refine lv_iload hx hb d_L_law_460 (lv_at hl 4 rfl) ?_
  refine lv_iconst (v := 1) hx hb d_L_law_462 (by decide) ?_
  refine lv_iadd hx hb d_L_law_463 ?_
  rw [show nI (7 * j) + 1 = nI (7 * j + 1) from nI_add (7 * j) 1]
  refine va_sld hx hb hX hbl hbA hS (vp_in_nI (by omega) (by omega)) d_L_law_464 ?_
  rw [nI_clamp (show 7 * j + 1 < 2 ^ 31 by omega)]
  refine lv_aload_n hx hb d_L_law_465 rfl (lv_at hl 0 rfl) ?_
  refine lv_iload hx hb d_L_law_466 (lv_at hl 4 rfl) ?_
  refine lv_iconst (v := 2) hx hb d_L_law_468 (by decide) ?_
  refine lv_iadd hx hb d_L_law_469 ?_
  rw [show nI (7 * j) + 2 = nI (7 * j + 2) from nI_add (7 * j) 2]
  refine va_sld hx hb hX hbl hbA hS (vp_in_nI (by omega) (by omega)) d_L_law_470 ?_
  rw [nI_clamp (show 7 * j + 2 < 2 ^ 31 by omega)]
  refine lv_aload_n hx hb d_L_law_471 rfl (lv_at hl 0 rfl) ?_
  refine lv_iload hx hb d_L_law_472 (lv_at hl 4 rfl) ?_
  refine lv_iconst (v := 3) hx hb d_L_law_474 (by decide) ?_
  refine lv_iadd hx hb d_L_law_475 ?_
  rw [show nI (7 * j) + 3 = nI (7 * j + 3) from nI_add (7 * j) 3]
  refine va_sld hx hb hX hbl hbA hS (vp_in_nI (by omega) (by omega)) d_L_law_476 ?_
  rw [nI_clamp (show 7 * j + 3 < 2 ^ 31 by omega)]
  refine cWr (vx_runSW (As := [.ref (aa 0), .int (xs (7 * j + 1)), .int (xs (7 * j + 2)), .int (xs (7 * j + 3))]) (rest := []) ⟨hx, hb, hml, hown, hts⟩ (c_L_move hlt hPc hdC ho hR.1 (xs (7 * j + 1)) (xs (7 * j + 2)) (xs (7 * j + 3))) (vx_cwSW 4 hts (wBW_goodS (fun _ h => h) ml_L_101 st_L_move ini_L cw_L_move) rfl rfl rfl (by decide +kernel) ⟨Nat.le_of_ble_eq_true rfl, Nat.le_of_ble_eq_true rfl⟩) (pSL hK hT hNc hAc hS _) rfl rfl hl.1 rfl (lv_room (Nat.le_of_ble_eq_true rfl)) d_L_law_477 ⟨by show _ + 1 ≤ 1087; omega, by show _ + 6 ≤ 11544; omega⟩) hS hAc (fun H locs hPc hS hz hkp => ?_)
  have hPm := wM_kept hPm hdj hkp
  refine lv_istore (lv' := [(5, .int (nI (kAct (tW kn vv (xs (7 * j + 1)) && plB ((vv 4 (xs (7 * j + 1)).toNatClampNeg).toInt64 + (xs (7 * j + 2)).toInt64) ((vv 5 (xs (7 * j + 1)).toNatClampNeg).toInt64 + (xs (7 * j + 3)).toInt64) && plB ((vv 6 (xs (7 * j + 1)).toNatClampNeg).toInt64 + (xs (7 * j + 2)).toInt64) ((vv 7 (xs (7 * j + 1)).toNatClampNeg).toInt64 + (xs (7 * j + 3)).toInt64)) (true) (nn 4)))), (0, .ref b), (1, .ref (aa 0)), (2, .ref (ab 0)), (3, .ref o), (4, .int (nI (7 * j)))]) hx hb d_L_law_480 hl (by decide) rfl (fun ls hl => ?_)
  refine lv_aload_n hx hb d_L_law_482 rfl (lv_at hl 3 rfl) ?_
  refine lv_aload_n hx hb d_L_law_483 rfl (lv_at hl 1 rfl) ?_
  refine lv_iload hx hb d_L_law_484 (lv_at hl 5 rfl) ?_
  refine lv_iconst (v := 1) hx hb d_L_law_486 (by decide) ?_
  refine lv_iadd hx hb d_L_law_487 ?_
  rw [show nI (7 * j) + 1 = nI (7 * j + 1) from nI_add (7 * j) 1]
  refine va_sld hx hb hX hbl hbA hS (vp_in_nI (by omega) (by omega)) d_L_law_488 ?_
  rw [nI_clamp (show 7 * j + 1 < 2 ^ 31 by omega)]
  refine lv_aload_n hx hb d_L_law_489 rfl (lv_at hl 1 rfl) ?_
  refine lv_iload hx hb d_L_law_490 (lv_at hl 5 rfl) ?_
  refine lv_iconst (v := 2) hx hb d_L_law_492 (by decide) ?_
  refine lv_iadd hx hb d_L_law_493 ?_
  rw [show nI (7 * j) + 2 = nI (7 * j + 2) from nI_add (7 * j) 2]
  refine va_sld hx hb hX hbl hbA hS (vp_in_nI (by omega) (by omega)) d_L_law_494 ?_
  rw [nI_clamp (show 7 * j + 2 < 2 ^ 31 by omega)]
  refine lv_aload_n hx hb d_L_law_495 rfl (lv_at hl 1 rfl) ?_
  refine lv_iload hx hb d_L_law_496 (lv_at hl 5 rfl) ?_
  refine lv_iconst (v := 3) hx hb d_L_law_498 (by decide) ?_
  refine lv_iadd hx hb d_L_law_499 ?_
  rw [show nI (7 * j) + 3 = nI (7 * j + 3) from nI_add (7 * j) 3]
  refine va_sld hx hb hX hbl hbA hS (vp_in_nI (by omega) (by omega)) d_L_law_500 ?_
  rw [nI_clamp (show 7 * j + 3 < 2 ^ 31 by omega)]
  refine cW (W.runV (As := [.int (xs (7 * j + 1)), .int (xs (7 * j + 2)), .int (xs (7 * j + 3))]) (rest := []) ⟨hx, hb, hml, hown, hts⟩ (c_M_move hPm hdM hR.2.1  (xs (7 * j + 1)) (xs (7 * j + 2)) (xs (7 * j + 3)) s2) (cwV 3 hts (wB_goodV (fun _ h => h) ml_L_104 im_M_move se_M_move ini_M co_M_move) rfl rfl rfl (by decide +kernel) ⟨Nat.le_of_ble_eq_true rfl, Nat.le_of_ble_eq_true rfl⟩) (pV hK hPm (ci := 6) (q0 := 0) rfl rfl _) rfl rfl hl.1 rfl (lv_room (Nat.le_of_ble_eq_true rfl)) d_L_law_501 ⟨by show _ + 1 + 0 ≤ 1087; omega, by show _ + 6 + 0 ≤ 11544; omega⟩) hS hAm (fun H locs hPm hS hz hkp => ?_)
  have hPc := wL_kept hPc hGl.1 hGl.2 hkp
  refine lv_aload_n hx hb d_L_law_504 rfl (lv_at hl 3 rfl) ?_
  refine cR (W.runV (As := []) (rest := []) ⟨hx, hb, hml, hown, hts⟩ (c_M_thrown hPm) (cwV 0 hts (wB_goodV (fun _ h => h) ml_L_83 im_M_thrown se_M_thrown ini_M co_M_thrown) rfl rfl rfl (by decide +kernel) ⟨Nat.le_of_ble_eq_true rfl, Nat.le_of_ble_eq_true rfl⟩) (pV hK hPm (ci := 6) (q0 := 0) rfl rfl _) rfl rfl hl.1 rfl (lv_room (Nat.le_of_ble_eq_true rfl)) d_L_law_505 ⟨by show _ + 1 + 0 ≤ 1087; omega, by show _ + 6 + 0 ≤ 11544; omega⟩) ?_
  refine lv_iload hx hb d_L_law_508 (lv_at hl 0 rfl) ?_
  refine lv_icmp_eq (tgt := 515) hx hb d_L_law_510 (by decide) (fun c_510 => ?_) (fun c_510 => ?_)
  · refine lv_goto (tgt := 1249) hx hb d_L_law_515 (by decide) ?_
    refine lv_iinc (v := (nI (7 * (j + 1)))) (lv' := [(4, .int (nI (7 * (j + 1)))), (5, .int (nI (kAct (tW kn vv (xs (7 * j + 1)) && plB ((vv 4 (xs (7 * j + 1)).toNatClampNeg).toInt64 + (xs (7 * j + 2)).toInt64) ((vv 5 (xs (7 * j + 1)).toNatClampNeg).toInt64 + (xs (7 * j + 3)).toInt64) && plB ((vv 6 (xs (7 * j + 1)).toNatClampNeg).toInt64 + (xs (7 * j + 2)).toInt64) ((vv 7 (xs (7 * j + 1)).toNatClampNeg).toInt64 + (xs (7 * j + 3)).toInt64)) (true) (nn 4)))), (0, .ref b), (1, .ref (aa 0)), (2, .ref (ab 0)), (3, .ref o)]) hx hb d_L_law_1249 hl (k := 5) rfl (nI_add (7 * j) 7) (by decide) rfl (fun ls hl => ?_)
    refine lv_goto (tgt := 23) hx hb d_L_law_1252 (by decide) ?_
    exact hnext _ _ nn' _ _ mn' _ _ _ _ _ ls ⟨hPc, hPm, hS, hR'⟩ (by omega) (by omega) (lv_sub hl [2, 3, 4, 5, 0] rfl)
  · exact absurd (maK_6.trans (by rw [← s1])) c_510
set_option maxRecDepth 100000 in
set_option maxHeartbeats 4000000 in
theorem law_retype (hlt : l.stackTraces = false) (C0 : lw_At p s m meth c b L xs) (hL : L ≤ 3584) (hK : kK dC dI cI cZ cJ s) (hT : TX (fun q : Nat => s.heap.size ≤ q) s s.heap) (hNc : va_Nc eIS eIA s) (hG : LG s aa o ab) (hj : 7 * j + 7 ≤ L) (hI : LI s dC dI cI cZ cJ aa o ab kn vv nn mk mv mn f H locs) (hc : cells ≤ 40 + j) (hs : slots ≤ 3300 + 6 * j) (hl : lv_has ls 8 [(0, .ref b), (1, .ref (aa 0)), (2, .ref (ab 0)), (3, .ref o), (4, .int (nI (7 * j)))]) (hnext : ∀ (kn : Nat → Int32) (vv : Ar) (nn : Nat → Nat) (mk : Nat → Int32) (mv : Ar) (mn : Nat → Nat) (f : Nat → Int64) (H : Heap) (locs : List Loc) (cells slots : Nat) (ls : Array Slot), LI s dC dI cI cZ cJ aa o ab kn vv nn mk mv mn f H locs → cells ≤ 40 + (j + 1) → slots ≤ 3300 + 6 * (j + 1) → lv_has ls 8 [(0, .ref b), (1, .ref (aa 0)), (2, .ref (ab 0)), (3, .ref o), (4, .int (nI (7 * (j + 1))))] → W p l e room_1 s m #[Value.ref b] below meth c H locs cells slots (lw_Z below #[Value.ref b] s) (F0 m 23 ls [])) : W p l e room_1 s m #[Value.ref b] below meth c H locs cells slots (lw_Z below #[Value.ref b] s) (F0 m 518 ls []) := by
  obtain ⟨hx, hb, hr, hml, hown, htsL, hX, hbl, hlocks, hgv⟩ := C0
  have hts : ∀ w9 ∈ BG, w9.before #[Value.ref b] s = true := fun w9 hw9 => htsL w9 (BG_tbl w9 hw9)
  have hbA : ¬ (fun q : Nat => s.heap.size ≤ q) b := Nat.not_le.mpr hbl
  have hK : va_K (dC, dI) classes [(cI, .int), (cZ, .boolean), (cJ, .long)] s := hK
  have hGl := LG_l hG
  obtain ⟨hdC, ho, hdM, hdj, hAc, hAm⟩ := hG
  obtain ⟨hPc, hPm, hS, hR⟩ := hI
  have hj9 : j < 512 := by omega
  have hsim := sim_retype hR (xs (7 * j + 1)) (xs (7 * j + 2))
  obtain ⟨s1, s2, s3, nn', mn', hR'⟩ := hsim
  obtain ⟨hVc, hVm, hO9⟩ := hR.V
  refine lv_aload_n hx hb d_L_law_518 rfl (lv_at hl 1 rfl) ?_
  refine lv_aload_n hx hb d_L_law_519 rfl (lv_at hl 0 rfl) ?_
  refine lv_iload hx hb d_L_law_520 (lv_at hl 4 rfl) ?_
  refine lv_iconst (v := 1) hx hb d_L_law_522 (by decide) ?_
  refine lv_iadd hx hb d_L_law_523 ?_
  rw [show nI (7 * j) + 1 = nI (7 * j + 1) from nI_add (7 * j) 1]
  refine va_sld hx hb hX hbl hbA hS (vp_in_nI (by omega) (by omega)) d_L_law_524 ?_
  rw [nI_clamp (show 7 * j + 1 < 2 ^ 31 by omega)]
  refine lv_aload_n hx hb d_L_law_525 rfl (lv_at hl 0 rfl) ?_
  refine lv_iload hx hb d_L_law_526 (lv_at hl 4 rfl) ?_
  refine lv_iconst (v := 2) hx hb d_L_law_528 (by decide) ?_
  refine lv_iadd hx hb d_L_law_529 ?_
  rw [show nI (7 * j) + 2 = nI (7 * j + 2) from nI_add (7 * j) 2]
  refine va_sld hx hb hX hbl hbA hS (vp_in_nI (by omega) (by omega)) d_L_law_530 ?_
  rw [nI_clamp (show 7 * j + 2 < 2 ^ 31 by omega)]
  refine cWr (vx_runSW (As := [.ref (aa 0), .int (xs (7 * j + 1)), .int (xs (7 * j + 2))]) (rest := []) ⟨hx, hb, hml, hown, hts⟩ (c_L_retype hlt hPc hdC ho hR.1 (xs (7 * j + 1)) (xs (7 * j + 2))) (vx_cwSW 3 hts (wBW_goodS (fun _ h => h) ml_L_105 st_L_retype ini_L cw_L_retype) rfl rfl rfl (by decide +kernel) ⟨Nat.le_of_ble_eq_true rfl, Nat.le_of_ble_eq_true rfl⟩) (pSL hK hT hNc hAc hS _) rfl rfl hl.1 rfl (lv_room (Nat.le_of_ble_eq_true rfl)) d_L_law_531 ⟨by show _ + 1 ≤ 1087; omega, by show _ + 6 ≤ 11544; omega⟩) hS hAc (fun H locs hPc hS hz hkp => ?_)
  have hPm := wM_kept hPm hdj hkp
  refine lv_istore (lv' := [(5, .int (nI (kAct (tW kn vv (xs (7 * j + 1)) && haB (kn 1) (xs (7 * j + 2))) (true) (nn 4)))), (0, .ref b), (1, .ref (aa 0)), (2, .ref (ab 0)), (3, .ref o), (4, .int (nI (7 * j)))]) hx hb d_L_law_534 hl (by decide) rfl (fun ls hl => ?_)
  refine lv_aload_n hx hb d_L_law_536 rfl (lv_at hl 3 rfl) ?_
  refine lv_aload_n hx hb d_L_law_537 rfl (lv_at hl 1 rfl) ?_
  refine lv_iload hx hb d_L_law_538 (lv_at hl 5 rfl) ?_
  refine lv_iconst (v := 1) hx hb d_L_law_540 (by decide) ?_
  refine lv_iadd hx hb d_L_law_541 ?_
  rw [show nI (7 * j) + 1 = nI (7 * j + 1) from nI_add (7 * j) 1]
  refine va_sld hx hb hX hbl hbA hS (vp_in_nI (by omega) (by omega)) d_L_law_542 ?_
  rw [nI_clamp (show 7 * j + 1 < 2 ^ 31 by omega)]
  refine lv_aload_n hx hb d_L_law_543 rfl (lv_at hl 1 rfl) ?_
  refine lv_iload hx hb d_L_law_544 (lv_at hl 5 rfl) ?_
  refine lv_iconst (v := 2) hx hb d_L_law_546 (by decide) ?_
  refine lv_iadd hx hb d_L_law_547 ?_
  rw [show nI (7 * j) + 2 = nI (7 * j + 2) from nI_add (7 * j) 2]
  refine va_sld hx hb hX hbl hbA hS (vp_in_nI (by omega) (by omega)) d_L_law_548 ?_
  rw [nI_clamp (show 7 * j + 2 < 2 ^ 31 by omega)]
  refine cW (W.runV (As := [.int (xs (7 * j + 1)), .int (xs (7 * j + 2))]) (rest := []) ⟨hx, hb, hml, hown, hts⟩ (c_M_retype hPm hdM hR.2.1  (xs (7 * j + 1)) (xs (7 * j + 2)) s2) (cwV 2 hts (wB_goodV (fun _ h => h) ml_L_107 im_M_retype se_M_retype ini_M co_M_retype) rfl rfl rfl (by decide +kernel) ⟨Nat.le_of_ble_eq_true rfl, Nat.le_of_ble_eq_true rfl⟩) (pV hK hPm (ci := 6) (q0 := 0) rfl rfl _) rfl rfl hl.1 rfl (lv_room (Nat.le_of_ble_eq_true rfl)) d_L_law_549 ⟨by show _ + 1 + 0 ≤ 1087; omega, by show _ + 6 + 0 ≤ 11544; omega⟩) hS hAm (fun H locs hPm hS hz hkp => ?_)
  have hPc := wL_kept hPc hGl.1 hGl.2 hkp
  refine lv_aload_n hx hb d_L_law_552 rfl (lv_at hl 3 rfl) ?_
  refine cR (W.runV (As := []) (rest := []) ⟨hx, hb, hml, hown, hts⟩ (c_M_thrown hPm) (cwV 0 hts (wB_goodV (fun _ h => h) ml_L_83 im_M_thrown se_M_thrown ini_M co_M_thrown) rfl rfl rfl (by decide +kernel) ⟨Nat.le_of_ble_eq_true rfl, Nat.le_of_ble_eq_true rfl⟩) (pV hK hPm (ci := 6) (q0 := 0) rfl rfl _) rfl rfl hl.1 rfl (lv_room (Nat.le_of_ble_eq_true rfl)) d_L_law_553 ⟨by show _ + 1 + 0 ≤ 1087; omega, by show _ + 6 + 0 ≤ 11544; omega⟩) ?_
  refine lv_iload hx hb d_L_law_556 (lv_at hl 0 rfl) ?_
  refine lv_icmp_eq (tgt := 563) hx hb d_L_law_558 (by decide) (fun c_558 => ?_) (fun c_558 => ?_)
  · refine lv_goto (tgt := 1249) hx hb d_L_law_563 (by decide) ?_
    refine lv_iinc (v := (nI (7 * (j + 1)))) (lv' := [(4, .int (nI (7 * (j + 1)))), (5, .int (nI (kAct (tW kn vv (xs (7 * j + 1)) && haB (kn 1) (xs (7 * j + 2))) (true) (nn 4)))), (0, .ref b), (1, .ref (aa 0)), (2, .ref (ab 0)), (3, .ref o)]) hx hb d_L_law_1249 hl (k := 5) rfl (nI_add (7 * j) 7) (by decide) rfl (fun ls hl => ?_)
    refine lv_goto (tgt := 23) hx hb d_L_law_1252 (by decide) ?_
    exact hnext _ _ nn' _ _ mn' _ _ _ _ _ ls ⟨hPc, hPm, hS, hR'⟩ (by omega) (by omega) (lv_sub hl [2, 3, 4, 5, 0] rfl)
  · exact absurd (maK_6.trans (by rw [← s1])) c_558
set_option maxRecDepth 100000 in
set_option maxHeartbeats 4000000 in
theorem law_remove (hlt : l.stackTraces = false) (C0 : lw_At p s m meth c b L xs) (hL : L ≤ 3584) (hK : kK dC dI cI cZ cJ s) (hT : TX (fun q : Nat => s.heap.size ≤ q) s s.heap) (hNc : va_Nc eIS eIA s) (hG : LG s aa o ab) (hj : 7 * j + 7 ≤ L) (hI : LI s dC dI cI cZ cJ aa o ab kn vv nn mk mv mn f H locs) (hc : cells ≤ 40 + j) (hs : slots ≤ 3300 + 6 * j) (hl : lv_has ls 8 [(0, .ref b), (1, .ref (aa 0)), (2, .ref (ab 0)), (3, .ref o), (4, .int (nI (7 * j)))]) (hnext : ∀ (kn : Nat → Int32) (vv : Ar) (nn : Nat → Nat) (mk : Nat → Int32) (mv : Ar) (mn : Nat → Nat) (f : Nat → Int64) (H : Heap) (locs : List Loc) (cells slots : Nat) (ls : Array Slot), LI s dC dI cI cZ cJ aa o ab kn vv nn mk mv mn f H locs → cells ≤ 40 + (j + 1) → slots ≤ 3300 + 6 * (j + 1) → lv_has ls 8 [(0, .ref b), (1, .ref (aa 0)), (2, .ref (ab 0)), (3, .ref o), (4, .int (nI (7 * (j + 1))))] → W p l e room_1 s m #[Value.ref b] below meth c H locs cells slots (lw_Z below #[Value.ref b] s) (F0 m 23 ls [])) : W p l e room_1 s m #[Value.ref b] below meth c H locs cells slots (lw_Z below #[Value.ref b] s) (F0 m 566 ls []) := by
  obtain ⟨hx, hb, hr, hml, hown, htsL, hX, hbl, hlocks, hgv⟩ := C0
  have hts : ∀ w9 ∈ BG, w9.before #[Value.ref b] s = true := fun w9 hw9 => htsL w9 (BG_tbl w9 hw9)
  have hbA : ¬ (fun q : Nat => s.heap.size ≤ q) b := Nat.not_le.mpr hbl
  have hK : va_K (dC, dI) classes [(cI, .int), (cZ, .boolean), (cJ, .long)] s := hK
  have hGl := LG_l hG
  obtain ⟨hdC, ho, hdM, hdj, hAc, hAm⟩ := hG
  obtain ⟨hPc, hPm, hS, hR⟩ := hI
  have hj9 : j < 512 := by omega
  have hsim := sim_remove hR (xs (7 * j + 1))
  obtain ⟨s1, s2, s3, nn', mn', hR'⟩ := hsim
  obtain ⟨hVc, hVm, hO9⟩ := hR.V
  refine lv_aload_n hx hb d_L_law_566 rfl (lv_at hl 1 rfl) ?_
  refine lv_aload_n hx hb d_L_law_567 rfl (lv_at hl 0 rfl) ?_
  refine lv_iload hx hb d_L_law_568 (lv_at hl 4 rfl) ?_
  refine lv_iconst (v := 1) hx hb d_L_law_570 (by decide) ?_
  refine lv_iadd hx hb d_L_law_571 ?_
  rw [show nI (7 * j) + 1 = nI (7 * j + 1) from nI_add (7 * j) 1]
  refine va_sld hx hb hX hbl hbA hS (vp_in_nI (by omega) (by omega)) d_L_law_572 ?_
  rw [nI_clamp (show 7 * j + 1 < 2 ^ 31 by omega)]
  refine cWr (vx_runSW (As := [.ref (aa 0), .int (xs (7 * j + 1))]) (rest := []) ⟨hx, hb, hml, hown, hts⟩ (c_L_remove hlt hPc hdC ho hR.1 (xs (7 * j + 1))) (vx_cwSW 2 hts (wBW_goodS (fun _ h => h) ml_L_108 st_L_remove ini_L cw_L_remove) rfl rfl rfl (by decide +kernel) ⟨Nat.le_of_ble_eq_true rfl, Nat.le_of_ble_eq_true rfl⟩) (pSL hK hT hNc hAc hS _) rfl rfl hl.1 rfl (lv_room (Nat.le_of_ble_eq_true rfl)) d_L_law_573 ⟨by show _ + 1 ≤ 1087; omega, by show _ + 6 ≤ 11544; omega⟩) hS hAc (fun H locs hPc hS hz hkp => ?_)
  have hPm := wM_kept hPm hdj hkp
  refine lv_istore (lv' := [(5, .int (nI (kAct (tW kn vv (xs (7 * j + 1))) (true) (nn 4)))), (0, .ref b), (1, .ref (aa 0)), (2, .ref (ab 0)), (3, .ref o), (4, .int (nI (7 * j)))]) hx hb d_L_law_576 hl (by decide) rfl (fun ls hl => ?_)
  refine lv_aload_n hx hb d_L_law_578 rfl (lv_at hl 3 rfl) ?_
  refine lv_aload_n hx hb d_L_law_579 rfl (lv_at hl 1 rfl) ?_
  refine lv_iload hx hb d_L_law_580 (lv_at hl 5 rfl) ?_
  refine lv_iconst (v := 1) hx hb d_L_law_582 (by decide) ?_
  refine lv_iadd hx hb d_L_law_583 ?_
  rw [show nI (7 * j) + 1 = nI (7 * j + 1) from nI_add (7 * j) 1]
  refine va_sld hx hb hX hbl hbA hS (vp_in_nI (by omega) (by omega)) d_L_law_584 ?_
  rw [nI_clamp (show 7 * j + 1 < 2 ^ 31 by omega)]
  refine cW (W.runV (As := [.int (xs (7 * j + 1))]) (rest := []) ⟨hx, hb, hml, hown, hts⟩ (c_M_remove hPm hdM hR.2.1  (xs (7 * j + 1)) s2) (cwV 1 hts (wB_goodV (fun _ h => h) ml_L_111 im_M_remove se_M_remove ini_M co_M_remove) rfl rfl rfl (by decide +kernel) ⟨Nat.le_of_ble_eq_true rfl, Nat.le_of_ble_eq_true rfl⟩) (pV hK hPm (ci := 6) (q0 := 0) rfl rfl _) rfl rfl hl.1 rfl (lv_room (Nat.le_of_ble_eq_true rfl)) d_L_law_585 ⟨by show _ + 1 + 0 ≤ 1087; omega, by show _ + 6 + 0 ≤ 11544; omega⟩) hS hAm (fun H locs hPm hS hz hkp => ?_)
  have hPc := wL_kept hPc hGl.1 hGl.2 hkp
  refine lv_aload_n hx hb d_L_law_588 rfl (lv_at hl 3 rfl) ?_
  refine cR (W.runV (As := []) (rest := []) ⟨hx, hb, hml, hown, hts⟩ (c_M_thrown hPm) (cwV 0 hts (wB_goodV (fun _ h => h) ml_L_83 im_M_thrown se_M_thrown ini_M co_M_thrown) rfl rfl rfl (by decide +kernel) ⟨Nat.le_of_ble_eq_true rfl, Nat.le_of_ble_eq_true rfl⟩) (pV hK hPm (ci := 6) (q0 := 0) rfl rfl _) rfl rfl hl.1 rfl (lv_room (Nat.le_of_ble_eq_true rfl)) d_L_law_589 ⟨by show _ + 1 + 0 ≤ 1087; omega, by show _ + 6 + 0 ≤ 11544; omega⟩) ?_
  refine lv_iload hx hb d_L_law_592 (lv_at hl 0 rfl) ?_
  refine lv_icmp_eq (tgt := 599) hx hb d_L_law_594 (by decide) (fun c_594 => ?_) (fun c_594 => ?_)
  · refine lv_goto (tgt := 1249) hx hb d_L_law_599 (by decide) ?_
    refine lv_iinc (v := (nI (7 * (j + 1)))) (lv' := [(4, .int (nI (7 * (j + 1)))), (5, .int (nI (kAct (tW kn vv (xs (7 * j + 1))) (true) (nn 4)))), (0, .ref b), (1, .ref (aa 0)), (2, .ref (ab 0)), (3, .ref o)]) hx hb d_L_law_1249 hl (k := 5) rfl (nI_add (7 * j) 7) (by decide) rfl (fun ls hl => ?_)
    refine lv_goto (tgt := 23) hx hb d_L_law_1252 (by decide) ?_
    exact hnext _ _ nn' _ _ mn' _ _ _ _ _ ls ⟨hPc, hPm, hS, hR'⟩ (by omega) (by omega) (lv_sub hl [2, 3, 4, 5, 0] rfl)
  · exact absurd (maK_6.trans (by rw [← s1])) c_594
set_option maxRecDepth 100000 in
set_option maxHeartbeats 4000000 in
theorem law_opening (hlt : l.stackTraces = false) (C0 : lw_At p s m meth c b L xs) (hL : L ≤ 3584) (hK : kK dC dI cI cZ cJ s) (hT : TX (fun q : Nat => s.heap.size ≤ q) s s.heap) (hNc : va_Nc eIS eIA s) (hG : LG s aa o ab) (hj : 7 * j + 7 ≤ L) (hI : LI s dC dI cI cZ cJ aa o ab kn vv nn mk mv mn f H locs) (hc : cells ≤ 40 + j) (hs : slots ≤ 3300 + 6 * j) (hl : lv_has ls 8 [(0, .ref b), (1, .ref (aa 0)), (2, .ref (ab 0)), (3, .ref o), (4, .int (nI (7 * j)))]) (hnext : ∀ (kn : Nat → Int32) (vv : Ar) (nn : Nat → Nat) (mk : Nat → Int32) (mv : Ar) (mn : Nat → Nat) (f : Nat → Int64) (H : Heap) (locs : List Loc) (cells slots : Nat) (ls : Array Slot), LI s dC dI cI cZ cJ aa o ab kn vv nn mk mv mn f H locs → cells ≤ 40 + (j + 1) → slots ≤ 3300 + 6 * (j + 1) → lv_has ls 8 [(0, .ref b), (1, .ref (aa 0)), (2, .ref (ab 0)), (3, .ref o), (4, .int (nI (7 * (j + 1))))] → W p l e room_1 s m #[Value.ref b] below meth c H locs cells slots (lw_Z below #[Value.ref b] s) (F0 m 23 ls [])) : W p l e room_1 s m #[Value.ref b] below meth c H locs cells slots (lw_Z below #[Value.ref b] s) (F0 m 602 ls []) := by
  obtain ⟨hx, hb, hr, hml, hown, htsL, hX, hbl, hlocks, hgv⟩ := C0
  have hts : ∀ w9 ∈ BG, w9.before #[Value.ref b] s = true := fun w9 hw9 => htsL w9 (BG_tbl w9 hw9)
  have hbA : ¬ (fun q : Nat => s.heap.size ≤ q) b := Nat.not_le.mpr hbl
  have hK : va_K (dC, dI) classes [(cI, .int), (cZ, .boolean), (cJ, .long)] s := hK
  have hGl := LG_l hG
  obtain ⟨hdC, ho, hdM, hdj, hAc, hAm⟩ := hG
  obtain ⟨hPc, hPm, hS, hR⟩ := hI
  have hj9 : j < 512 := by omega
  have hsim := sim_opening hR (xs (7 * j + 1)) (xs (7 * j + 2)) (xs (7 * j + 3))
  obtain ⟨s1, s2, s3, nn', mn', hR'⟩ := hsim
  obtain ⟨hVc, hVm, hO9⟩ := hR.V
  refine lv_aload_n hx hb d_L_law_602 rfl (lv_at hl 1 rfl) ?_
  refine lv_aload_n hx hb d_L_law_603 rfl (lv_at hl 0 rfl) ?_
  refine lv_iload hx hb d_L_law_604 (lv_at hl 4 rfl) ?_
  refine lv_iconst (v := 1) hx hb d_L_law_606 (by decide) ?_
  refine lv_iadd hx hb d_L_law_607 ?_
  rw [show nI (7 * j) + 1 = nI (7 * j + 1) from nI_add (7 * j) 1]
  refine va_sld hx hb hX hbl hbA hS (vp_in_nI (by omega) (by omega)) d_L_law_608 ?_
  rw [nI_clamp (show 7 * j + 1 < 2 ^ 31 by omega)]
  refine lv_aload_n hx hb d_L_law_609 rfl (lv_at hl 0 rfl) ?_
  refine lv_iload hx hb d_L_law_610 (lv_at hl 4 rfl) ?_
  refine lv_iconst (v := 2) hx hb d_L_law_612 (by decide) ?_
  refine lv_iadd hx hb d_L_law_613 ?_
  rw [show nI (7 * j) + 2 = nI (7 * j + 2) from nI_add (7 * j) 2]
  refine va_sld hx hb hX hbl hbA hS (vp_in_nI (by omega) (by omega)) d_L_law_614 ?_
  rw [nI_clamp (show 7 * j + 2 < 2 ^ 31 by omega)]
  refine lv_aload_n hx hb d_L_law_615 rfl (lv_at hl 0 rfl) ?_
  refine lv_iload hx hb d_L_law_616 (lv_at hl 4 rfl) ?_
  refine lv_iconst (v := 3) hx hb d_L_law_618 (by decide) ?_
  refine lv_iadd hx hb d_L_law_619 ?_
  rw [show nI (7 * j) + 3 = nI (7 * j + 3) from nI_add (7 * j) 3]
  refine va_sld hx hb hX hbl hbA hS (vp_in_nI (by omega) (by omega)) d_L_law_620 ?_
  rw [nI_clamp (show 7 * j + 3 < 2 ^ 31 by omega)]
  refine lv_aload_n hx hb d_L_law_621 rfl (lv_at hl 3 rfl) ?_
  refine cWr (vx_runSW (As := [.ref (aa 0), .int (xs (7 * j + 1)), .int (xs (7 * j + 2)), .int (xs (7 * j + 3)), .ref o]) (rest := []) ⟨hx, hb, hml, hown, hts⟩ (c_L_opening hlt hPc hdC ho hR.1 (xs (7 * j + 1)) (xs (7 * j + 2)) (xs (7 * j + 3))) (vx_cwSW 5 hts (wBW_goodS (fun _ h => h) ml_L_112 st_L_opening ini_L cw_L_opening) rfl rfl rfl (by decide +kernel) ⟨Nat.le_of_ble_eq_true rfl, Nat.le_of_ble_eq_true rfl⟩) (pSL hK hT hNc hAc hS _) rfl rfl hl.1 rfl (lv_room (Nat.le_of_ble_eq_true rfl)) d_L_law_622 ⟨by show _ + 1 ≤ 1087; omega, by show _ + 6 ≤ 11544; omega⟩) hS hAc (fun H locs hPc hS hz hkp => ?_)
  have hPm := wM_kept hPm hdj hkp
  refine lv_istore (lv' := [(5, .int (nI (kAct (tW kn vv (xs (7 * j + 1)) && !decide ((xs (7 * j + 2)) < 0) && !decide ((xs (7 * j + 3)) < 1) && decide (lg_cmp ((xs (7 * j + 2)).toInt64 + (xs (7 * j + 3)).toInt64) (leC vv (xs (7 * j + 1)).toNatClampNeg).toInt64 ≤ 0)) (!(fstN (ovB vv (xs (7 * j + 1)) (xs (7 * j + 2)) (xs (7 * j + 3))) (nn 3)).isSome && decide (nn 3 < 60)) (nn 4)))), (0, .ref b), (1, .ref (aa 0)), (2, .ref (ab 0)), (3, .ref o), (4, .int (nI (7 * j)))]) hx hb d_L_law_625 hl (by decide) rfl (fun ls hl => ?_)
  refine lv_aload_n hx hb d_L_law_627 rfl (lv_at hl 3 rfl) ?_
  refine lv_aload_n hx hb d_L_law_628 rfl (lv_at hl 1 rfl) ?_
  refine lv_iload hx hb d_L_law_629 (lv_at hl 5 rfl) ?_
  refine lv_iconst (v := 1) hx hb d_L_law_631 (by decide) ?_
  refine lv_iadd hx hb d_L_law_632 ?_
  rw [show nI (7 * j) + 1 = nI (7 * j + 1) from nI_add (7 * j) 1]
  refine va_sld hx hb hX hbl hbA hS (vp_in_nI (by omega) (by omega)) d_L_law_633 ?_
  rw [nI_clamp (show 7 * j + 1 < 2 ^ 31 by omega)]
  refine lv_aload_n hx hb d_L_law_634 rfl (lv_at hl 1 rfl) ?_
  refine lv_iload hx hb d_L_law_635 (lv_at hl 5 rfl) ?_
  refine lv_iconst (v := 2) hx hb d_L_law_637 (by decide) ?_
  refine lv_iadd hx hb d_L_law_638 ?_
  rw [show nI (7 * j) + 2 = nI (7 * j + 2) from nI_add (7 * j) 2]
  refine va_sld hx hb hX hbl hbA hS (vp_in_nI (by omega) (by omega)) d_L_law_639 ?_
  rw [nI_clamp (show 7 * j + 2 < 2 ^ 31 by omega)]
  refine lv_aload_n hx hb d_L_law_640 rfl (lv_at hl 1 rfl) ?_
  refine lv_iload hx hb d_L_law_641 (lv_at hl 5 rfl) ?_
  refine lv_iconst (v := 3) hx hb d_L_law_643 (by decide) ?_
  refine lv_iadd hx hb d_L_law_644 ?_
  rw [show nI (7 * j) + 3 = nI (7 * j + 3) from nI_add (7 * j) 3]
  refine va_sld hx hb hX hbl hbA hS (vp_in_nI (by omega) (by omega)) d_L_law_645 ?_
  rw [nI_clamp (show 7 * j + 3 < 2 ^ 31 by omega)]
  refine cW (W.runV (As := [.int (xs (7 * j + 1)), .int (xs (7 * j + 2)), .int (xs (7 * j + 3))]) (rest := []) ⟨hx, hb, hml, hown, hts⟩ (c_M_opening hPm hdM hR.2.1  (xs (7 * j + 1)) (xs (7 * j + 2)) (xs (7 * j + 3)) s2) (cwV 3 hts (wB_goodV (fun _ h => h) ml_L_115 im_M_opening se_M_opening ini_M co_M_opening) rfl rfl rfl (by decide +kernel) ⟨Nat.le_of_ble_eq_true rfl, Nat.le_of_ble_eq_true rfl⟩) (pV hK hPm (ci := 6) (q0 := 0) rfl rfl _) rfl rfl hl.1 rfl (lv_room (Nat.le_of_ble_eq_true rfl)) d_L_law_646 ⟨by show _ + 1 + 0 ≤ 1087; omega, by show _ + 6 + 0 ≤ 11544; omega⟩) hS hAm (fun H locs hPm hS hz hkp => ?_)
  have hPc := wL_kept hPc hGl.1 hGl.2 hkp
  refine lv_istore (lv' := [(6, .int (maR (kAct (roB mk mv (xs (7 * j + 1)) (xs (7 * j + 2)) (xs (7 * j + 3))) (frB mv mn (xs (7 * j + 1)) (xs (7 * j + 2)) (xs (7 * j + 3)) (mn 3)) (mn 4)) mv mn 8 (xs (7 * j + 1)) (xs (7 * j + 2)) (xs (7 * j + 3)) 0 0 0)), (5, .int (nI (kAct (tW kn vv (xs (7 * j + 1)) && !decide ((xs (7 * j + 2)) < 0) && !decide ((xs (7 * j + 3)) < 1) && decide (lg_cmp ((xs (7 * j + 2)).toInt64 + (xs (7 * j + 3)).toInt64) (leC vv (xs (7 * j + 1)).toNatClampNeg).toInt64 ≤ 0)) (!(fstN (ovB vv (xs (7 * j + 1)) (xs (7 * j + 2)) (xs (7 * j + 3))) (nn 3)).isSome && decide (nn 3 < 60)) (nn 4)))), (0, .ref b), (1, .ref (aa 0)), (2, .ref (ab 0)), (3, .ref o), (4, .int (nI (7 * j)))]) hx hb d_L_law_649 hl (by decide) rfl (fun ls hl => ?_)
  refine lv_aload_n hx hb d_L_law_651 rfl (lv_at hl 4 rfl) ?_
  refine cR (W.runV (As := []) (rest := []) ⟨hx, hb, hml, hown, hts⟩ (c_M_thrown hPm) (cwV 0 hts (wB_goodV (fun _ h => h) ml_L_83 im_M_thrown se_M_thrown ini_M co_M_thrown) rfl rfl rfl (by decide +kernel) ⟨Nat.le_of_ble_eq_true rfl, Nat.le_of_ble_eq_true rfl⟩) (pV hK hPm (ci := 6) (q0 := 0) rfl rfl _) rfl rfl hl.1 rfl (lv_room (Nat.le_of_ble_eq_true rfl)) d_L_law_652 ⟨by show _ + 1 + 0 ≤ 1087; omega, by show _ + 6 + 0 ≤ 11544; omega⟩) ?_
  refine lv_iload hx hb d_L_law_655 (lv_at hl 1 rfl) ?_
  refine lv_icmp_eq (tgt := 662) hx hb d_L_law_657 (by decide) (fun c_657 => ?_) (fun c_657 => ?_)
  · refine lv_iload hx hb d_L_law_662 (lv_at hl 1 rfl) ?_
    refine lv_if_ne (tgt := 679) hx hb d_L_law_664 (by decide) (fun c_664 => ?_) (fun c_664 => ?_)
    · refine lv_goto (tgt := 1249) hx hb d_L_law_679 (by decide) ?_
      refine lv_iinc (v := (nI (7 * (j + 1)))) (lv' := [(4, .int (nI (7 * (j + 1)))), (6, .int (maR (kAct (roB mk mv (xs (7 * j + 1)) (xs (7 * j + 2)) (xs (7 * j + 3))) (frB mv mn (xs (7 * j + 1)) (xs (7 * j + 2)) (xs (7 * j + 3)) (mn 3)) (mn 4)) mv mn 8 (xs (7 * j + 1)) (xs (7 * j + 2)) (xs (7 * j + 3)) 0 0 0)), (5, .int (nI (kAct (tW kn vv (xs (7 * j + 1)) && !decide ((xs (7 * j + 2)) < 0) && !decide ((xs (7 * j + 3)) < 1) && decide (lg_cmp ((xs (7 * j + 2)).toInt64 + (xs (7 * j + 3)).toInt64) (leC vv (xs (7 * j + 1)).toNatClampNeg).toInt64 ≤ 0)) (!(fstN (ovB vv (xs (7 * j + 1)) (xs (7 * j + 2)) (xs (7 * j + 3))) (nn 3)).isSome && decide (nn 3 < 60)) (nn 4)))), (0, .ref b), (1, .ref (aa 0)), (2, .ref (ab 0)), (3, .ref o)]) hx hb d_L_law_1249 hl (k := 6) rfl (nI_add (7 * j) 7) (by decide) rfl (fun ls hl => ?_)
      refine lv_goto (tgt := 23) hx hb d_L_law_1252 (by decide) ?_
      exact hnext _ _ nn' _ _ mn' _ _ _ _ _ ls ⟨hPc, hPm, hS, hR'⟩ (by omega) (by omega) (lv_sub hl [3, 4, 5, 6, 0] rfl)
    · have hk0 := (nI_z (kAct_b _ _ _)).mp c_664
      refine lv_aload_n hx hb d_L_law_667 rfl (lv_at hl 5 rfl) ?_
      refine lv_iconst (v := 0) hx hb d_L_law_668 (by decide) ?_
      refine va_lald hx hb hK hPc 22 2 rfl rfl (vp_in_nI (n := 0) (by decide) (by decide)) d_L_law_669 ?_
      refine lv_iload hx hb d_L_law_670 (lv_at hl 0 rfl) ?_
      refine lv_i2l (v := (maR (kAct (roB mk mv (xs (7 * j + 1)) (xs (7 * j + 2)) (xs (7 * j + 3))) (frB mv mn (xs (7 * j + 1)) (xs (7 * j + 2)) (xs (7 * j + 3)) (mn 3)) (mn 4)) mv mn 8 (xs (7 * j + 1)) (xs (7 * j + 2)) (xs (7 * j + 3)) 0 0 0).toInt64) hx hb d_L_law_672 rfl ?_
      refine W.lcmp hx hb d_L_law_673 ?_
      refine lv_if_eq (tgt := 679) hx hb d_L_law_674 (by decide) (fun c_674 => ?_) (fun c_674 => ?_)
      · refine lv_goto (tgt := 1249) hx hb d_L_law_679 (by decide) ?_
        refine lv_iinc (v := (nI (7 * (j + 1)))) (lv' := [(4, .int (nI (7 * (j + 1)))), (6, .int (maR (kAct (roB mk mv (xs (7 * j + 1)) (xs (7 * j + 2)) (xs (7 * j + 3))) (frB mv mn (xs (7 * j + 1)) (xs (7 * j + 2)) (xs (7 * j + 3)) (mn 3)) (mn 4)) mv mn 8 (xs (7 * j + 1)) (xs (7 * j + 2)) (xs (7 * j + 3)) 0 0 0)), (5, .int (nI (kAct (tW kn vv (xs (7 * j + 1)) && !decide ((xs (7 * j + 2)) < 0) && !decide ((xs (7 * j + 3)) < 1) && decide (lg_cmp ((xs (7 * j + 2)).toInt64 + (xs (7 * j + 3)).toInt64) (leC vv (xs (7 * j + 1)).toNatClampNeg).toInt64 ≤ 0)) (!(fstN (ovB vv (xs (7 * j + 1)) (xs (7 * j + 2)) (xs (7 * j + 3))) (nn 3)).isSome && decide (nn 3 < 60)) (nn 4)))), (0, .ref b), (1, .ref (aa 0)), (2, .ref (ab 0)), (3, .ref o)]) hx hb d_L_law_1249 hl (k := 6) rfl (nI_add (7 * j) 7) (by decide) rfl (fun ls hl => ?_)
        refine lv_goto (tgt := 23) hx hb d_L_law_1252 (by decide) ?_
        exact hnext _ _ nn' _ _ mn' _ _ _ _ _ ls ⟨hPc, hPm, hS, hR'⟩ (by omega) (by omega) (lv_sub hl [3, 4, 5, 6, 0] rfl)
      · exact absurd (by rw [if_pos hk0]; exact (congrArg (fun z => lg_cmp z _) (s3 hk0)).trans (lg_self _)) c_674
  · exact absurd (maK_6.trans (by rw [← s1])) c_657
set_option maxRecDepth 100000 in
set_option maxHeartbeats 4000000 in
theorem law_copy (hlt : l.stackTraces = false) (C0 : lw_At p s m meth c b L xs) (hL : L ≤ 3584) (hK : kK dC dI cI cZ cJ s) (hT : TX (fun q : Nat => s.heap.size ≤ q) s s.heap) (hNc : va_Nc eIS eIA s) (hG : LG s aa o ab) (hj : 7 * j + 7 ≤ L) (hI : LI s dC dI cI cZ cJ aa o ab kn vv nn mk mv mn f H locs) (hc : cells ≤ 40 + j) (hs : slots ≤ 3300 + 6 * j) (hl : lv_has ls 8 [(0, .ref b), (1, .ref (aa 0)), (2, .ref (ab 0)), (3, .ref o), (4, .int (nI (7 * j)))]) (hnext : ∀ (kn : Nat → Int32) (vv : Ar) (nn : Nat → Nat) (mk : Nat → Int32) (mv : Ar) (mn : Nat → Nat) (f : Nat → Int64) (H : Heap) (locs : List Loc) (cells slots : Nat) (ls : Array Slot), LI s dC dI cI cZ cJ aa o ab kn vv nn mk mv mn f H locs → cells ≤ 40 + (j + 1) → slots ≤ 3300 + 6 * (j + 1) → lv_has ls 8 [(0, .ref b), (1, .ref (aa 0)), (2, .ref (ab 0)), (3, .ref o), (4, .int (nI (7 * (j + 1))))] → W p l e room_1 s m #[Value.ref b] below meth c H locs cells slots (lw_Z below #[Value.ref b] s) (F0 m 23 ls [])) : W p l e room_1 s m #[Value.ref b] below meth c H locs cells slots (lw_Z below #[Value.ref b] s) (F0 m 682 ls []) := by
  obtain ⟨hx, hb, hr, hml, hown, htsL, hX, hbl, hlocks, hgv⟩ := C0
  have hts : ∀ w9 ∈ BG, w9.before #[Value.ref b] s = true := fun w9 hw9 => htsL w9 (BG_tbl w9 hw9)
  have hbA : ¬ (fun q : Nat => s.heap.size ≤ q) b := Nat.not_le.mpr hbl
  have hK : va_K (dC, dI) classes [(cI, .int), (cZ, .boolean), (cJ, .long)] s := hK
  have hGl := LG_l hG
  obtain ⟨hdC, ho, hdM, hdj, hAc, hAm⟩ := hG
  obtain ⟨hPc, hPm, hS, hR⟩ := hI
  have hj9 : j < 512 := by omega
  have hsim := sim_copy hR (xs (7 * j + 1)) (xs (7 * j + 2))
  obtain ⟨s1, s2, shc, s3, nn', mn', hR'⟩ := hsim
  obtain ⟨hVc, hVm, hO9⟩ := hR.V
  refine lv_aload_n hx hb d_L_law_682 rfl (lv_at hl 1 rfl) ?_
  refine lv_aload_n hx hb d_L_law_683 rfl (lv_at hl 0 rfl) ?_
  refine lv_iload hx hb d_L_law_684 (lv_at hl 4 rfl) ?_
  refine lv_iconst (v := 1) hx hb d_L_law_686 (by decide) ?_
  refine lv_iadd hx hb d_L_law_687 ?_
  rw [show nI (7 * j) + 1 = nI (7 * j + 1) from nI_add (7 * j) 1]
  refine va_sld hx hb hX hbl hbA hS (vp_in_nI (by omega) (by omega)) d_L_law_688 ?_
  rw [nI_clamp (show 7 * j + 1 < 2 ^ 31 by omega)]
  refine lv_aload_n hx hb d_L_law_689 rfl (lv_at hl 0 rfl) ?_
  refine lv_iload hx hb d_L_law_690 (lv_at hl 4 rfl) ?_
  refine lv_iconst (v := 2) hx hb d_L_law_692 (by decide) ?_
  refine lv_iadd hx hb d_L_law_693 ?_
  rw [show nI (7 * j) + 2 = nI (7 * j + 2) from nI_add (7 * j) 2]
  refine va_sld hx hb hX hbl hbA hS (vp_in_nI (by omega) (by omega)) d_L_law_694 ?_
  rw [nI_clamp (show 7 * j + 2 < 2 ^ 31 by omega)]
  refine lv_aload_n hx hb d_L_law_695 rfl (lv_at hl 3 rfl) ?_
  refine cWr (vx_runSW (As := [.ref (aa 0), .int (xs (7 * j + 1)), .int (xs (7 * j + 2)), .ref o]) (rest := []) ⟨hx, hb, hml, hown, hts⟩ (c_L_copy hlt hPc hdC ho hR.1 (xs (7 * j + 1)) (xs (7 * j + 2)) shc) (vx_cwSW 4 hts (wBW_goodS (fun _ h => h) ml_L_116 st_L_copy ini_L cw_L_copy) rfl rfl rfl (by decide +kernel) ⟨Nat.le_of_ble_eq_true rfl, Nat.le_of_ble_eq_true rfl⟩) (pSL hK hT hNc hAc hS _) rfl rfl hl.1 rfl (lv_room (Nat.le_of_ble_eq_true rfl)) d_L_law_696 ⟨by show _ + 1 ≤ 1087; omega, by show _ + 6 ≤ 11544; omega⟩) hS hAc (fun H locs hPc hS hz hkp => ?_)
  have hPm := wM_kept hPm hdj hkp
  refine lv_istore (lv' := [(5, .int (nI (kAct (haB (kn 0) (xs (7 * j + 1)) && haB (kn 0) (xs (7 * j + 2)) && !decide ((xs (7 * j + 1)) = (xs (7 * j + 2)))) (decide (nn 2 + cnt (fun i => onB kn vv (nI i) (xs (7 * j + 1))) (nn 2) ≤ 40) && decide (nn 3 + cnt (fun i => onB kn vv (vv 9 i) (xs (7 * j + 1))) (nn 3) ≤ 60)) (nn 4)))), (0, .ref b), (1, .ref (aa 0)), (2, .ref (ab 0)), (3, .ref o), (4, .int (nI (7 * j)))]) hx hb d_L_law_699 hl (by decide) rfl (fun ls hl => ?_)
  refine lv_aload_n hx hb d_L_law_701 rfl (lv_at hl 3 rfl) ?_
  refine lv_aload_n hx hb d_L_law_702 rfl (lv_at hl 1 rfl) ?_
  refine lv_iload hx hb d_L_law_703 (lv_at hl 5 rfl) ?_
  refine lv_iconst (v := 1) hx hb d_L_law_705 (by decide) ?_
  refine lv_iadd hx hb d_L_law_706 ?_
  rw [show nI (7 * j) + 1 = nI (7 * j + 1) from nI_add (7 * j) 1]
  refine va_sld hx hb hX hbl hbA hS (vp_in_nI (by omega) (by omega)) d_L_law_707 ?_
  rw [nI_clamp (show 7 * j + 1 < 2 ^ 31 by omega)]
  refine lv_aload_n hx hb d_L_law_708 rfl (lv_at hl 1 rfl) ?_
  refine lv_iload hx hb d_L_law_709 (lv_at hl 5 rfl) ?_
  refine lv_iconst (v := 2) hx hb d_L_law_711 (by decide) ?_
  refine lv_iadd hx hb d_L_law_712 ?_
  rw [show nI (7 * j) + 2 = nI (7 * j + 2) from nI_add (7 * j) 2]
  refine va_sld hx hb hX hbl hbA hS (vp_in_nI (by omega) (by omega)) d_L_law_713 ?_
  rw [nI_clamp (show 7 * j + 2 < 2 ^ 31 by omega)]
  refine cW (W.runV (As := [.int (xs (7 * j + 1)), .int (xs (7 * j + 2))]) (rest := []) ⟨hx, hb, hml, hown, hts⟩ (c_M_copy hPm hdM hR.2.1  (xs (7 * j + 1)) (xs (7 * j + 2)) s2) (cwV 2 hts (wB_goodV (fun _ h => h) ml_L_119 im_M_copy se_M_copy ini_M co_M_copy) rfl rfl rfl (by decide +kernel) ⟨Nat.le_of_ble_eq_true rfl, Nat.le_of_ble_eq_true rfl⟩) (pV hK hPm (ci := 6) (q0 := 0) rfl rfl _) rfl rfl hl.1 rfl (lv_room (Nat.le_of_ble_eq_true rfl)) d_L_law_714 ⟨by show _ + 1 + 0 ≤ 1087; omega, by show _ + 6 + 0 ≤ 11544; omega⟩) hS hAm (fun H locs hPm hS hz hkp => ?_)
  have hPc := wL_kept hPc hGl.1 hGl.2 hkp
  refine lv_istore (lv' := [(6, .int (maR (kAct (rcB mk (xs (7 * j + 1)) (xs (7 * j + 2))) (decide (mn 2 + cwN mk mv mn (xs (7 * j + 1)) (xs (7 * j + 2)) (mn 2) ≤ 40) && decide (mn 3 + coN mk mv mn (xs (7 * j + 1)) (xs (7 * j + 2)) (mn 2) ≤ 60)) (mn 4)) mv mn 9 (xs (7 * j + 1)) (xs (7 * j + 2)) 0 0 0 0)), (5, .int (nI (kAct (haB (kn 0) (xs (7 * j + 1)) && haB (kn 0) (xs (7 * j + 2)) && !decide ((xs (7 * j + 1)) = (xs (7 * j + 2)))) (decide (nn 2 + cnt (fun i => onB kn vv (nI i) (xs (7 * j + 1))) (nn 2) ≤ 40) && decide (nn 3 + cnt (fun i => onB kn vv (vv 9 i) (xs (7 * j + 1))) (nn 3) ≤ 60)) (nn 4)))), (0, .ref b), (1, .ref (aa 0)), (2, .ref (ab 0)), (3, .ref o), (4, .int (nI (7 * j)))]) hx hb d_L_law_717 hl (by decide) rfl (fun ls hl => ?_)
  refine lv_aload_n hx hb d_L_law_719 rfl (lv_at hl 4 rfl) ?_
  refine cR (W.runV (As := []) (rest := []) ⟨hx, hb, hml, hown, hts⟩ (c_M_thrown hPm) (cwV 0 hts (wB_goodV (fun _ h => h) ml_L_83 im_M_thrown se_M_thrown ini_M co_M_thrown) rfl rfl rfl (by decide +kernel) ⟨Nat.le_of_ble_eq_true rfl, Nat.le_of_ble_eq_true rfl⟩) (pV hK hPm (ci := 6) (q0 := 0) rfl rfl _) rfl rfl hl.1 rfl (lv_room (Nat.le_of_ble_eq_true rfl)) d_L_law_720 ⟨by show _ + 1 + 0 ≤ 1087; omega, by show _ + 6 + 0 ≤ 11544; omega⟩) ?_
  refine lv_iload hx hb d_L_law_723 (lv_at hl 1 rfl) ?_
  refine lv_icmp_eq (tgt := 730) hx hb d_L_law_725 (by decide) (fun c_725 => ?_) (fun c_725 => ?_)
  · refine lv_iload hx hb d_L_law_730 (lv_at hl 1 rfl) ?_
    refine lv_if_ne (tgt := 747) hx hb d_L_law_732 (by decide) (fun c_732 => ?_) (fun c_732 => ?_)
    · refine lv_goto (tgt := 1249) hx hb d_L_law_747 (by decide) ?_
      refine lv_iinc (v := (nI (7 * (j + 1)))) (lv' := [(4, .int (nI (7 * (j + 1)))), (6, .int (maR (kAct (rcB mk (xs (7 * j + 1)) (xs (7 * j + 2))) (decide (mn 2 + cwN mk mv mn (xs (7 * j + 1)) (xs (7 * j + 2)) (mn 2) ≤ 40) && decide (mn 3 + coN mk mv mn (xs (7 * j + 1)) (xs (7 * j + 2)) (mn 2) ≤ 60)) (mn 4)) mv mn 9 (xs (7 * j + 1)) (xs (7 * j + 2)) 0 0 0 0)), (5, .int (nI (kAct (haB (kn 0) (xs (7 * j + 1)) && haB (kn 0) (xs (7 * j + 2)) && !decide ((xs (7 * j + 1)) = (xs (7 * j + 2)))) (decide (nn 2 + cnt (fun i => onB kn vv (nI i) (xs (7 * j + 1))) (nn 2) ≤ 40) && decide (nn 3 + cnt (fun i => onB kn vv (vv 9 i) (xs (7 * j + 1))) (nn 3) ≤ 60)) (nn 4)))), (0, .ref b), (1, .ref (aa 0)), (2, .ref (ab 0)), (3, .ref o)]) hx hb d_L_law_1249 hl (k := 6) rfl (nI_add (7 * j) 7) (by decide) rfl (fun ls hl => ?_)
      refine lv_goto (tgt := 23) hx hb d_L_law_1252 (by decide) ?_
      exact hnext _ _ nn' _ _ mn' _ _ _ _ _ ls ⟨hPc, hPm, hS, hR'⟩ (by omega) (by omega) (lv_sub hl [3, 4, 5, 6, 0] rfl)
    · have hk0 := (nI_z (kAct_b _ _ _)).mp c_732
      refine lv_aload_n hx hb d_L_law_735 rfl (lv_at hl 5 rfl) ?_
      refine lv_iconst (v := 0) hx hb d_L_law_736 (by decide) ?_
      refine va_lald hx hb hK hPc 22 2 rfl rfl (vp_in_nI (n := 0) (by decide) (by decide)) d_L_law_737 ?_
      refine lv_iload hx hb d_L_law_738 (lv_at hl 0 rfl) ?_
      refine lv_i2l (v := (maR (kAct (rcB mk (xs (7 * j + 1)) (xs (7 * j + 2))) (decide (mn 2 + cwN mk mv mn (xs (7 * j + 1)) (xs (7 * j + 2)) (mn 2) ≤ 40) && decide (mn 3 + coN mk mv mn (xs (7 * j + 1)) (xs (7 * j + 2)) (mn 2) ≤ 60)) (mn 4)) mv mn 9 (xs (7 * j + 1)) (xs (7 * j + 2)) 0 0 0 0).toInt64) hx hb d_L_law_740 rfl ?_
      refine W.lcmp hx hb d_L_law_741 ?_
      refine lv_if_eq (tgt := 747) hx hb d_L_law_742 (by decide) (fun c_742 => ?_) (fun c_742 => ?_)
      · refine lv_goto (tgt := 1249) hx hb d_L_law_747 (by decide) ?_
        refine lv_iinc (v := (nI (7 * (j + 1)))) (lv' := [(4, .int (nI (7 * (j + 1)))), (6, .int (maR (kAct (rcB mk (xs (7 * j + 1)) (xs (7 * j + 2))) (decide (mn 2 + cwN mk mv mn (xs (7 * j + 1)) (xs (7 * j + 2)) (mn 2) ≤ 40) && decide (mn 3 + coN mk mv mn (xs (7 * j + 1)) (xs (7 * j + 2)) (mn 2) ≤ 60)) (mn 4)) mv mn 9 (xs (7 * j + 1)) (xs (7 * j + 2)) 0 0 0 0)), (5, .int (nI (kAct (haB (kn 0) (xs (7 * j + 1)) && haB (kn 0) (xs (7 * j + 2)) && !decide ((xs (7 * j + 1)) = (xs (7 * j + 2)))) (decide (nn 2 + cnt (fun i => onB kn vv (nI i) (xs (7 * j + 1))) (nn 2) ≤ 40) && decide (nn 3 + cnt (fun i => onB kn vv (vv 9 i) (xs (7 * j + 1))) (nn 3) ≤ 60)) (nn 4)))), (0, .ref b), (1, .ref (aa 0)), (2, .ref (ab 0)), (3, .ref o)]) hx hb d_L_law_1249 hl (k := 6) rfl (nI_add (7 * j) 7) (by decide) rfl (fun ls hl => ?_)
        refine lv_goto (tgt := 23) hx hb d_L_law_1252 (by decide) ?_
        exact hnext _ _ nn' _ _ mn' _ _ _ _ _ ls ⟨hPc, hPm, hS, hR'⟩ (by omega) (by omega) (lv_sub hl [3, 4, 5, 6, 0] rfl)
      · exact absurd (by rw [if_pos hk0]; exact (congrArg (fun z => lg_cmp z _) (s3 hk0)).trans (lg_self _)) c_742
  · exact absurd (maK_6.trans (by rw [← s1])) c_725
set_option maxRecDepth 100000 in
set_option maxHeartbeats 4000000 in
theorem law_undo (hlt : l.stackTraces = false) (C0 : lw_At p s m meth c b L xs) (hL : L ≤ 3584) (hK : kK dC dI cI cZ cJ s) (hT : TX (fun q : Nat => s.heap.size ≤ q) s s.heap) (hNc : va_Nc eIS eIA s) (hG : LG s aa o ab) (hj : 7 * j + 7 ≤ L) (hI : LI s dC dI cI cZ cJ aa o ab kn vv nn mk mv mn f H locs) (hc : cells ≤ 40 + j) (hs : slots ≤ 3300 + 6 * j) (hl : lv_has ls 8 [(0, .ref b), (1, .ref (aa 0)), (2, .ref (ab 0)), (3, .ref o), (4, .int (nI (7 * j)))]) (hnext : ∀ (kn : Nat → Int32) (vv : Ar) (nn : Nat → Nat) (mk : Nat → Int32) (mv : Ar) (mn : Nat → Nat) (f : Nat → Int64) (H : Heap) (locs : List Loc) (cells slots : Nat) (ls : Array Slot), LI s dC dI cI cZ cJ aa o ab kn vv nn mk mv mn f H locs → cells ≤ 40 + (j + 1) → slots ≤ 3300 + 6 * (j + 1) → lv_has ls 8 [(0, .ref b), (1, .ref (aa 0)), (2, .ref (ab 0)), (3, .ref o), (4, .int (nI (7 * (j + 1))))] → W p l e room_1 s m #[Value.ref b] below meth c H locs cells slots (lw_Z below #[Value.ref b] s) (F0 m 23 ls [])) : W p l e room_1 s m #[Value.ref b] below meth c H locs cells slots (lw_Z below #[Value.ref b] s) (F0 m 750 ls []) := by
  obtain ⟨hx, hb, hr, hml, hown, htsL, hX, hbl, hlocks, hgv⟩ := C0
  have hts : ∀ w9 ∈ BG, w9.before #[Value.ref b] s = true := fun w9 hw9 => htsL w9 (BG_tbl w9 hw9)
  have hbA : ¬ (fun q : Nat => s.heap.size ≤ q) b := Nat.not_le.mpr hbl
  have hK : va_K (dC, dI) classes [(cI, .int), (cZ, .boolean), (cJ, .long)] s := hK
  have hGl := LG_l hG
  obtain ⟨hdC, ho, hdM, hdj, hAc, hAm⟩ := hG
  obtain ⟨hPc, hPm, hS, hR⟩ := hI
  have hj9 : j < 512 := by omega
  rcases sim_undo hR with ⟨n0, n1, hR'⟩ | ⟨d, u, n0, n1, n2, n3, n4, n5, n6, nn', mn', hR'⟩
  · refine lv_aload_n hx hb d_L_law_750 rfl (lv_at hl 1 rfl) ?_
    refine cW (W.runV (As := []) (rest := []) ⟨hx, hb, hml, hown, hts⟩ (c_C_undo_0 (wL_l hPc) hdC ((hR.1.1 4 (by decide)).trans (by rw [n0]; rfl))) (cwV 0 hts (wB_goodV (fun _ h => h) ml_L_120 im_C_undo se_C_undo ini_C co_C_undo) rfl rfl rfl (by decide +kernel) ⟨Nat.le_of_ble_eq_true rfl, Nat.le_of_ble_eq_true rfl⟩) (pV hK (wL_l hPc) (ci := 0) (q0 := 0) rfl rfl _) rfl rfl hl.1 rfl (lv_room (Nat.le_of_ble_eq_true rfl)) d_L_law_751 ⟨by show _ + 0 ≤ 1087; omega, by show _ + 0 ≤ 11544; omega⟩) hS (fun q h => hAc q (Or.inl h)) (fun H locs hP1 hS hz hkp => ?_)
    have hPc := wL_mk hP1 ((hPc 22 _ rfl).kept (hkp o (hPc 22 _ rfl).lt (fun h => h.elim fun i hi => ho i hi.1 hi.2.symm)))
    have hPm := wM_kept hPm (fun i hi h => hdj i hi (Or.inl h)) hkp
    refine lv_aload_n hx hb d_L_law_754 rfl (lv_at hl 2 rfl) ?_
    refine cW (W.runV (As := []) (rest := [.int 0]) ⟨hx, hb, hml, hown, hts⟩ (c_M_undo_0 hPm hdM ((hR.2.1.1 4 (by decide)).trans (by rw [n1]; rfl))) (cwV 0 hts (wB_goodV (fun _ h => h) ml_L_124 im_M_undo se_M_undo ini_M co_M_undo) rfl rfl rfl (by decide +kernel) ⟨Nat.le_of_ble_eq_true rfl, Nat.le_of_ble_eq_true rfl⟩) (pV hK hPm (ci := 6) (q0 := 0) rfl rfl _) rfl rfl hl.1 rfl (lv_room (Nat.le_of_ble_eq_true rfl)) d_L_law_755 ⟨by show _ + 0 ≤ 1087; omega, by show _ + 0 ≤ 11544; omega⟩) hS hAm (fun H locs hPm hS hz hkp => ?_)
    have hPc := wL_kept hPc hGl.1 hGl.2 hkp
    refine lv_icmp_eq (tgt := 1249) hx hb d_L_law_758 (by decide) (fun c_758 => ?_) (fun c_758 => ?_)
    · refine lv_iinc (v := (nI (7 * (j + 1)))) (lv' := [(4, .int (nI (7 * (j + 1)))), (0, .ref b), (1, .ref (aa 0)), (2, .ref (ab 0)), (3, .ref o)]) hx hb d_L_law_1249 hl (k := 4) rfl (nI_add (7 * j) 7) (by decide) rfl (fun ls hl => ?_)
      refine lv_goto (tgt := 23) hx hb d_L_law_1252 (by decide) ?_
      exact hnext _ _ nn _ _ mn _ _ _ _ _ ls ⟨hPc, hPm, hS, hR'⟩ (by omega) (by omega) (lv_sub hl [1, 2, 3, 4, 0] rfl)
    · exact absurd rfl c_758
  · refine lv_aload_n hx hb d_L_law_750 rfl (lv_at hl 1 rfl) ?_
    refine cW (W.runV (As := []) (rest := []) ⟨hx, hb, hml, hown, hts⟩ (c_C_undo_1 (d := d) (wL_l hPc) hdC ((hR.1.1 4 (by decide)).trans (by rw [n0])) n3 n4) (cwV 0 hts (wB_goodV (fun _ h => h) ml_L_120 im_C_undo se_C_undo ini_C co_C_undo) rfl rfl rfl (by decide +kernel) ⟨Nat.le_of_ble_eq_true rfl, Nat.le_of_ble_eq_true rfl⟩) (pV hK (wL_l hPc) (ci := 0) (q0 := 0) rfl rfl _) rfl rfl hl.1 rfl (lv_room (Nat.le_of_ble_eq_true rfl)) d_L_law_751 ⟨by show _ + 0 ≤ 1087; omega, by show _ + 0 ≤ 11544; omega⟩) hS (fun q h => hAc q (Or.inl h)) (fun H locs hP1 hS hz hkp => ?_)
    have hPc := wL_mk hP1 ((hPc 22 _ rfl).kept (hkp o (hPc 22 _ rfl).lt (fun h => h.elim fun i hi => ho i hi.1 hi.2.symm)))
    have hPm := wM_kept hPm (fun i hi h => hdj i hi (Or.inl h)) hkp
    refine lv_aload_n hx hb d_L_law_754 rfl (lv_at hl 2 rfl) ?_
    refine cW (W.runV (As := []) (rest := [.int 1]) ⟨hx, hb, hml, hown, hts⟩ (c_M_undo_1 (d := d) (u := u) hPm hdM ((hR.2.1.1 4 (by decide)).trans (by rw [n1])) ((hR.2.1.1 5 (by decide)).trans (by rw [n2])) n3 n5 n6) (cwV 0 hts (wB_goodV (fun _ h => h) ml_L_124 im_M_undo se_M_undo ini_M co_M_undo) rfl rfl rfl (by decide +kernel) ⟨Nat.le_of_ble_eq_true rfl, Nat.le_of_ble_eq_true rfl⟩) (pV hK hPm (ci := 6) (q0 := 0) rfl rfl _) rfl rfl hl.1 rfl (lv_room (Nat.le_of_ble_eq_true rfl)) d_L_law_755 ⟨by show _ + 0 ≤ 1087; omega, by show _ + 0 ≤ 11544; omega⟩) hS hAm (fun H locs hPm hS hz hkp => ?_)
    have hPc := wL_kept hPc hGl.1 hGl.2 hkp
    refine lv_icmp_eq (tgt := 1249) hx hb d_L_law_758 (by decide) (fun c_758 => ?_) (fun c_758 => ?_)
    · refine lv_iinc (v := (nI (7 * (j + 1)))) (lv' := [(4, .int (nI (7 * (j + 1)))), (0, .ref b), (1, .ref (aa 0)), (2, .ref (ab 0)), (3, .ref o)]) hx hb d_L_law_1249 hl (k := 4) rfl (nI_add (7 * j) 7) (by decide) rfl (fun ls hl => ?_)
      refine lv_goto (tgt := 23) hx hb d_L_law_1252 (by decide) ?_
      exact hnext _ _ nn' _ _ mn' _ _ _ _ _ ls ⟨hPc, hPm, hS, hR'⟩ (by omega) (by omega) (lv_sub hl [1, 2, 3, 4, 0] rfl)
    · exact absurd rfl c_758
set_option maxRecDepth 100000 in
set_option maxHeartbeats 4000000 in
theorem law_redo (hlt : l.stackTraces = false) (C0 : lw_At p s m meth c b L xs) (hL : L ≤ 3584) (hK : kK dC dI cI cZ cJ s) (hT : TX (fun q : Nat => s.heap.size ≤ q) s s.heap) (hNc : va_Nc eIS eIA s) (hG : LG s aa o ab) (hj : 7 * j + 7 ≤ L) (hI : LI s dC dI cI cZ cJ aa o ab kn vv nn mk mv mn f H locs) (hc : cells ≤ 40 + j) (hs : slots ≤ 3300 + 6 * j) (hl : lv_has ls 8 [(0, .ref b), (1, .ref (aa 0)), (2, .ref (ab 0)), (3, .ref o), (4, .int (nI (7 * j)))]) (hnext : ∀ (kn : Nat → Int32) (vv : Ar) (nn : Nat → Nat) (mk : Nat → Int32) (mv : Ar) (mn : Nat → Nat) (f : Nat → Int64) (H : Heap) (locs : List Loc) (cells slots : Nat) (ls : Array Slot), LI s dC dI cI cZ cJ aa o ab kn vv nn mk mv mn f H locs → cells ≤ 40 + (j + 1) → slots ≤ 3300 + 6 * (j + 1) → lv_has ls 8 [(0, .ref b), (1, .ref (aa 0)), (2, .ref (ab 0)), (3, .ref o), (4, .int (nI (7 * (j + 1))))] → W p l e room_1 s m #[Value.ref b] below meth c H locs cells slots (lw_Z below #[Value.ref b] s) (F0 m 23 ls [])) : W p l e room_1 s m #[Value.ref b] below meth c H locs cells slots (lw_Z below #[Value.ref b] s) (F0 m 763 ls []) := by
  obtain ⟨hx, hb, hr, hml, hown, htsL, hX, hbl, hlocks, hgv⟩ := C0
  have hts : ∀ w9 ∈ BG, w9.before #[Value.ref b] s = true := fun w9 hw9 => htsL w9 (BG_tbl w9 hw9)
  have hbA : ¬ (fun q : Nat => s.heap.size ≤ q) b := Nat.not_le.mpr hbl
  have hK : va_K (dC, dI) classes [(cI, .int), (cZ, .boolean), (cJ, .long)] s := hK
  have hGl := LG_l hG
  obtain ⟨hdC, ho, hdM, hdj, hAc, hAm⟩ := hG
  obtain ⟨hPc, hPm, hS, hR⟩ := hI
  have hj9 : j < 512 := by omega
  rcases sim_redo hR with ⟨n0, n1, hR'⟩ | ⟨d, u, n0, n1, n2, n7, n3, n8, n4, n5, nn', mn', hR'⟩
  · refine lv_aload_n hx hb d_L_law_763 rfl (lv_at hl 1 rfl) ?_
    refine cW (W.runV (As := []) (rest := []) ⟨hx, hb, hml, hown, hts⟩ (c_C_redo_0 (wL_l hPc) hdC ((hR.1.1 4 (by decide)).trans (by rw [n0]; exact (hR.1.1 5 (by decide)).symm))) (cwV 0 hts (wB_goodV (fun _ h => h) ml_L_125 im_C_redo se_C_redo ini_C co_C_redo) rfl rfl rfl (by decide +kernel) ⟨Nat.le_of_ble_eq_true rfl, Nat.le_of_ble_eq_true rfl⟩) (pV hK (wL_l hPc) (ci := 0) (q0 := 0) rfl rfl _) rfl rfl hl.1 rfl (lv_room (Nat.le_of_ble_eq_true rfl)) d_L_law_764 ⟨by show _ + 0 ≤ 1087; omega, by show _ + 0 ≤ 11544; omega⟩) hS (fun q h => hAc q (Or.inl h)) (fun H locs hP1 hS hz hkp => ?_)
    have hPc := wL_mk hP1 ((hPc 22 _ rfl).kept (hkp o (hPc 22 _ rfl).lt (fun h => h.elim fun i hi => ho i hi.1 hi.2.symm)))
    have hPm := wM_kept hPm (fun i hi h => hdj i hi (Or.inl h)) hkp
    refine lv_aload_n hx hb d_L_law_767 rfl (lv_at hl 2 rfl) ?_
    refine cW (W.runV (As := []) (rest := [.int 0]) ⟨hx, hb, hml, hown, hts⟩ (c_M_redo_0 hPm hdM ((hR.2.1.1 5 (by decide)).trans (by rw [n1]; rfl))) (cwV 0 hts (wB_goodV (fun _ h => h) ml_L_128 im_M_redo se_M_redo ini_M co_M_redo) rfl rfl rfl (by decide +kernel) ⟨Nat.le_of_ble_eq_true rfl, Nat.le_of_ble_eq_true rfl⟩) (pV hK hPm (ci := 6) (q0 := 0) rfl rfl _) rfl rfl hl.1 rfl (lv_room (Nat.le_of_ble_eq_true rfl)) d_L_law_768 ⟨by show _ + 0 ≤ 1087; omega, by show _ + 0 ≤ 11544; omega⟩) hS hAm (fun H locs hPm hS hz hkp => ?_)
    have hPc := wL_kept hPc hGl.1 hGl.2 hkp
    refine lv_icmp_eq (tgt := 1249) hx hb d_L_law_771 (by decide) (fun c_771 => ?_) (fun c_771 => ?_)
    · refine lv_iinc (v := (nI (7 * (j + 1)))) (lv' := [(4, .int (nI (7 * (j + 1)))), (0, .ref b), (1, .ref (aa 0)), (2, .ref (ab 0)), (3, .ref o)]) hx hb d_L_law_1249 hl (k := 4) rfl (nI_add (7 * j) 7) (by decide) rfl (fun ls hl => ?_)
      refine lv_goto (tgt := 23) hx hb d_L_law_1252 (by decide) ?_
      exact hnext _ _ nn _ _ mn _ _ _ _ _ ls ⟨hPc, hPm, hS, hR'⟩ (by omega) (by omega) (lv_sub hl [1, 2, 3, 4, 0] rfl)
    · exact absurd rfl c_771
  · refine lv_aload_n hx hb d_L_law_763 rfl (lv_at hl 1 rfl) ?_
    refine cW (W.runV (As := []) (rest := []) ⟨hx, hb, hml, hown, hts⟩ (c_C_redo_1 (d := d) (f := nn 5) (wL_l hPc) hdC ((hR.1.1 4 (by decide)).trans (by rw [n0])) (hR.1.1 5 (by decide)) n7 hR.1.2.2.2.2.2.2 n4) (cwV 0 hts (wB_goodV (fun _ h => h) ml_L_125 im_C_redo se_C_redo ini_C co_C_redo) rfl rfl rfl (by decide +kernel) ⟨Nat.le_of_ble_eq_true rfl, Nat.le_of_ble_eq_true rfl⟩) (pV hK (wL_l hPc) (ci := 0) (q0 := 0) rfl rfl _) rfl rfl hl.1 rfl (lv_room (Nat.le_of_ble_eq_true rfl)) d_L_law_764 ⟨by show _ + 0 ≤ 1087; omega, by show _ + 0 ≤ 11544; omega⟩) hS (fun q h => hAc q (Or.inl h)) (fun H locs hP1 hS hz hkp => ?_)
    have hPc := wL_mk hP1 ((hPc 22 _ rfl).kept (hkp o (hPc 22 _ rfl).lt (fun h => h.elim fun i hi => ho i hi.1 hi.2.symm)))
    have hPm := wM_kept hPm (fun i hi h => hdj i hi (Or.inl h)) hkp
    refine lv_aload_n hx hb d_L_law_767 rfl (lv_at hl 2 rfl) ?_
    refine cW (W.runV (As := []) (rest := [.int 1]) ⟨hx, hb, hml, hown, hts⟩ (c_M_redo_1 (mn := mn) (d := d) (u := u) hPm hdM (fun i hi => hR.2.1.1 i (by omega)) ((hR.2.1.1 4 (by decide)).trans (by rw [n1])) ((hR.2.1.1 5 (by decide)).trans (by rw [n2])) n3 n8 n5) (cwV 0 hts (wB_goodV (fun _ h => h) ml_L_128 im_M_redo se_M_redo ini_M co_M_redo) rfl rfl rfl (by decide +kernel) ⟨Nat.le_of_ble_eq_true rfl, Nat.le_of_ble_eq_true rfl⟩) (pV hK hPm (ci := 6) (q0 := 0) rfl rfl _) rfl rfl hl.1 rfl (lv_room (Nat.le_of_ble_eq_true rfl)) d_L_law_768 ⟨by show _ + 0 ≤ 1087; omega, by show _ + 0 ≤ 11544; omega⟩) hS hAm (fun H locs hPm hS hz hkp => ?_)
    have hPc := wL_kept hPc hGl.1 hGl.2 hkp
    refine lv_icmp_eq (tgt := 1249) hx hb d_L_law_771 (by decide) (fun c_771 => ?_) (fun c_771 => ?_)
    · refine lv_iinc (v := (nI (7 * (j + 1)))) (lv' := [(4, .int (nI (7 * (j + 1)))), (0, .ref b), (1, .ref (aa 0)), (2, .ref (ab 0)), (3, .ref o)]) hx hb d_L_law_1249 hl (k := 4) rfl (nI_add (7 * j) 7) (by decide) rfl (fun ls hl => ?_)
      refine lv_goto (tgt := 23) hx hb d_L_law_1252 (by decide) ?_
      exact hnext _ _ nn' _ _ mn' _ _ _ _ _ ls ⟨hPc, hPm, hS, hR'⟩ (by omega) (by omega) (lv_sub hl [1, 2, 3, 4, 0] rfl)
    · exact absurd rfl c_771
set_option maxRecDepth 100000 in
set_option maxHeartbeats 4000000 in
theorem law_acts (hlt : l.stackTraces = false) (C0 : lw_At p s m meth c b L xs) (hL : L ≤ 3584) (hK : kK dC dI cI cZ cJ s) (hT : TX (fun q : Nat => s.heap.size ≤ q) s s.heap) (hNc : va_Nc eIS eIA s) (hG : LG s aa o ab) (hj : 7 * j + 7 ≤ L) (hI : LI s dC dI cI cZ cJ aa o ab kn vv nn mk mv mn f H locs) (hc : cells ≤ 40 + j) (hs : slots ≤ 3300 + 6 * j) (hl : lv_has ls 8 [(0, .ref b), (1, .ref (aa 0)), (2, .ref (ab 0)), (3, .ref o), (4, .int (nI (7 * j)))]) (hnext : ∀ (kn : Nat → Int32) (vv : Ar) (nn : Nat → Nat) (mk : Nat → Int32) (mv : Ar) (mn : Nat → Nat) (f : Nat → Int64) (H : Heap) (locs : List Loc) (cells slots : Nat) (ls : Array Slot), LI s dC dI cI cZ cJ aa o ab kn vv nn mk mv mn f H locs → cells ≤ 40 + (j + 1) → slots ≤ 3300 + 6 * (j + 1) → lv_has ls 8 [(0, .ref b), (1, .ref (aa 0)), (2, .ref (ab 0)), (3, .ref o), (4, .int (nI (7 * (j + 1))))] → W p l e room_1 s m #[Value.ref b] below meth c H locs cells slots (lw_Z below #[Value.ref b] s) (F0 m 23 ls [])) : W p l e room_1 s m #[Value.ref b] below meth c H locs cells slots (lw_Z below #[Value.ref b] s) (F0 m 776 ls []) := by
  obtain ⟨hx, hb, hr, hml, hown, htsL, hX, hbl, hlocks, hgv⟩ := C0
  have hts : ∀ w9 ∈ BG, w9.before #[Value.ref b] s = true := fun w9 hw9 => htsL w9 (BG_tbl w9 hw9)
  have hbA : ¬ (fun q : Nat => s.heap.size ≤ q) b := Nat.not_le.mpr hbl
  have hK : va_K (dC, dI) classes [(cI, .int), (cZ, .boolean), (cJ, .long)] s := hK
  have hGl := LG_l hG
  obtain ⟨hdC, ho, hdM, hdj, hAc, hAm⟩ := hG
  obtain ⟨hPc, hPm, hS, hR⟩ := hI
  have hj9 : j < 512 := by omega
  have hsim := sim_acts hR (xs (7 * j + 1))
  obtain ⟨s1, s3, nn', mn', hR'⟩ := hsim
  obtain ⟨hVc, hVm, hO9⟩ := hR.V
  refine lv_aload_n hx hb d_L_law_776 rfl (lv_at hl 1 rfl) ?_
  refine lv_aload_n hx hb d_L_law_777 rfl (lv_at hl 0 rfl) ?_
  refine lv_iload hx hb d_L_law_778 (lv_at hl 4 rfl) ?_
  refine lv_iconst (v := 1) hx hb d_L_law_780 (by decide) ?_
  refine lv_iadd hx hb d_L_law_781 ?_
  rw [show nI (7 * j) + 1 = nI (7 * j + 1) from nI_add (7 * j) 1]
  refine va_sld hx hb hX hbl hbA hS (vp_in_nI (by omega) (by omega)) d_L_law_782 ?_
  rw [nI_clamp (show 7 * j + 1 < 2 ^ 31 by omega)]
  refine lv_aload_n hx hb d_L_law_783 rfl (lv_at hl 3 rfl) ?_
  refine cWr (vx_runSW (As := [.ref (aa 0), .int (xs (7 * j + 1)), .ref o]) (rest := []) ⟨hx, hb, hml, hown, hts⟩ (c_L_acts hlt hPc hdC ho hR.1 (xs (7 * j + 1))) (vx_cwSW 3 hts (wBW_goodS (fun _ h => h) ml_L_129 st_L_acts ini_L cw_L_acts) rfl rfl rfl (by decide +kernel) ⟨Nat.le_of_ble_eq_true rfl, Nat.le_of_ble_eq_true rfl⟩) (pSL hK hT hNc hAc hS _) rfl rfl hl.1 rfl (lv_room (Nat.le_of_ble_eq_true rfl)) d_L_law_784 ⟨by show _ + 1 ≤ 1087; omega, by show _ + 6 ≤ 11544; omega⟩) hS hAc (fun H locs hPc hS hz hkp => ?_)
  have hPm := wM_kept hPm hdj hkp
  refine lv_istore (lv' := [(5, .int (nI (kTell (swB (xs (7 * j + 1)) 1)))), (0, .ref b), (1, .ref (aa 0)), (2, .ref (ab 0)), (3, .ref o), (4, .int (nI (7 * j)))]) hx hb d_L_law_787 hl (by decide) rfl (fun ls hl => ?_)
  refine lv_aload_n hx hb d_L_law_789 rfl (lv_at hl 3 rfl) ?_
  refine lv_aload_n hx hb d_L_law_790 rfl (lv_at hl 1 rfl) ?_
  refine lv_iload hx hb d_L_law_791 (lv_at hl 5 rfl) ?_
  refine lv_iconst (v := 1) hx hb d_L_law_793 (by decide) ?_
  refine lv_iadd hx hb d_L_law_794 ?_
  rw [show nI (7 * j) + 1 = nI (7 * j + 1) from nI_add (7 * j) 1]
  refine va_sld hx hb hX hbl hbA hS (vp_in_nI (by omega) (by omega)) d_L_law_795 ?_
  rw [nI_clamp (show 7 * j + 1 < 2 ^ 31 by omega)]
  refine cW (W.runV (As := [.int (xs (7 * j + 1))]) (rest := []) ⟨hx, hb, hml, hown, hts⟩ (c_M_acts hPm hdM hR.2.1  (xs (7 * j + 1))) (cwV 1 hts (wB_goodV (fun _ h => h) ml_L_131 im_M_acts se_M_acts ini_M co_M_acts) rfl rfl rfl (by decide +kernel) ⟨Nat.le_of_ble_eq_true rfl, Nat.le_of_ble_eq_true rfl⟩) (pV hK hPm (ci := 6) (q0 := 0) rfl rfl _) rfl rfl hl.1 rfl (lv_room (Nat.le_of_ble_eq_true rfl)) d_L_law_796 ⟨by show _ + 1 + 0 ≤ 1087; omega, by show _ + 6 + 0 ≤ 11544; omega⟩) hS hAm (fun H locs hPm hS hz hkp => ?_)
  have hPc := wL_kept hPc hGl.1 hGl.2 hkp
  refine lv_istore (lv' := [(6, .int (if kTell (decide ((xs (7 * j + 1)) = 0) || decide ((xs (7 * j + 1)) = 1)) = 0 then (if (xs (7 * j + 1)) = 0 then mk 4 else mk 5) else 0)), (5, .int (nI (kTell (swB (xs (7 * j + 1)) 1)))), (0, .ref b), (1, .ref (aa 0)), (2, .ref (ab 0)), (3, .ref o), (4, .int (nI (7 * j)))]) hx hb d_L_law_799 hl (by decide) rfl (fun ls hl => ?_)
  refine lv_aload_n hx hb d_L_law_801 rfl (lv_at hl 4 rfl) ?_
  refine cR (W.runV (As := []) (rest := []) ⟨hx, hb, hml, hown, hts⟩ (c_M_thrown hPm) (cwV 0 hts (wB_goodV (fun _ h => h) ml_L_83 im_M_thrown se_M_thrown ini_M co_M_thrown) rfl rfl rfl (by decide +kernel) ⟨Nat.le_of_ble_eq_true rfl, Nat.le_of_ble_eq_true rfl⟩) (pV hK hPm (ci := 6) (q0 := 0) rfl rfl _) rfl rfl hl.1 rfl (lv_room (Nat.le_of_ble_eq_true rfl)) d_L_law_802 ⟨by show _ + 1 + 0 ≤ 1087; omega, by show _ + 6 + 0 ≤ 11544; omega⟩) ?_
  refine lv_iload hx hb d_L_law_805 (lv_at hl 1 rfl) ?_
  refine lv_icmp_eq (tgt := 812) hx hb d_L_law_807 (by decide) (fun c_807 => ?_) (fun c_807 => ?_)
  · refine lv_iload hx hb d_L_law_812 (lv_at hl 1 rfl) ?_
    refine lv_if_ne (tgt := 829) hx hb d_L_law_814 (by decide) (fun c_814 => ?_) (fun c_814 => ?_)
    · refine lv_goto (tgt := 1249) hx hb d_L_law_829 (by decide) ?_
      refine lv_iinc (v := (nI (7 * (j + 1)))) (lv' := [(4, .int (nI (7 * (j + 1)))), (6, .int (if kTell (decide ((xs (7 * j + 1)) = 0) || decide ((xs (7 * j + 1)) = 1)) = 0 then (if (xs (7 * j + 1)) = 0 then mk 4 else mk 5) else 0)), (5, .int (nI (kTell (swB (xs (7 * j + 1)) 1)))), (0, .ref b), (1, .ref (aa 0)), (2, .ref (ab 0)), (3, .ref o)]) hx hb d_L_law_1249 hl (k := 6) rfl (nI_add (7 * j) 7) (by decide) rfl (fun ls hl => ?_)
      refine lv_goto (tgt := 23) hx hb d_L_law_1252 (by decide) ?_
      exact hnext _ _ nn' _ _ mn' _ _ _ _ _ ls ⟨hPc, hPm, hS, hR'⟩ (by omega) (by omega) (lv_sub hl [3, 4, 5, 6, 0] rfl)
    · have hk0 := (nI_z (kTell_b _)).mp c_814
      refine lv_aload_n hx hb d_L_law_817 rfl (lv_at hl 5 rfl) ?_
      refine lv_iconst (v := 0) hx hb d_L_law_818 (by decide) ?_
      refine va_lald hx hb hK hPc 22 2 rfl rfl (vp_in_nI (n := 0) (by decide) (by decide)) d_L_law_819 ?_
      refine lv_iload hx hb d_L_law_820 (lv_at hl 0 rfl) ?_
      refine lv_i2l (v := (if kTell (decide ((xs (7 * j + 1)) = 0) || decide ((xs (7 * j + 1)) = 1)) = 0 then (if (xs (7 * j + 1)) = 0 then mk 4 else mk 5) else 0).toInt64) hx hb d_L_law_822 rfl ?_
      refine W.lcmp hx hb d_L_law_823 ?_
      refine lv_if_eq (tgt := 829) hx hb d_L_law_824 (by decide) (fun c_824 => ?_) (fun c_824 => ?_)
      · refine lv_goto (tgt := 1249) hx hb d_L_law_829 (by decide) ?_
        refine lv_iinc (v := (nI (7 * (j + 1)))) (lv' := [(4, .int (nI (7 * (j + 1)))), (6, .int (if kTell (decide ((xs (7 * j + 1)) = 0) || decide ((xs (7 * j + 1)) = 1)) = 0 then (if (xs (7 * j + 1)) = 0 then mk 4 else mk 5) else 0)), (5, .int (nI (kTell (swB (xs (7 * j + 1)) 1)))), (0, .ref b), (1, .ref (aa 0)), (2, .ref (ab 0)), (3, .ref o)]) hx hb d_L_law_1249 hl (k := 6) rfl (nI_add (7 * j) 7) (by decide) rfl (fun ls hl => ?_)
        refine lv_goto (tgt := 23) hx hb d_L_law_1252 (by decide) ?_
        exact hnext _ _ nn' _ _ mn' _ _ _ _ _ ls ⟨hPc, hPm, hS, hR'⟩ (by omega) (by omega) (lv_sub hl [3, 4, 5, 6, 0] rfl)
      · exact absurd (by rw [if_pos hk0]; exact (congrArg (fun z => lg_cmp z _) (s3 hk0)).trans (lg_self _)) c_824
  · exact absurd ((show nI _ = nI _ by rw [← s1])) c_807
set_option maxRecDepth 100000 in
set_option maxHeartbeats 4000000 in
theorem law_many (hlt : l.stackTraces = false) (C0 : lw_At p s m meth c b L xs) (hL : L ≤ 3584) (hK : kK dC dI cI cZ cJ s) (hT : TX (fun q : Nat => s.heap.size ≤ q) s s.heap) (hNc : va_Nc eIS eIA s) (hG : LG s aa o ab) (hj : 7 * j + 7 ≤ L) (hI : LI s dC dI cI cZ cJ aa o ab kn vv nn mk mv mn f H locs) (hc : cells ≤ 40 + j) (hs : slots ≤ 3300 + 6 * j) (hl : lv_has ls 8 [(0, .ref b), (1, .ref (aa 0)), (2, .ref (ab 0)), (3, .ref o), (4, .int (nI (7 * j)))]) (hnext : ∀ (kn : Nat → Int32) (vv : Ar) (nn : Nat → Nat) (mk : Nat → Int32) (mv : Ar) (mn : Nat → Nat) (f : Nat → Int64) (H : Heap) (locs : List Loc) (cells slots : Nat) (ls : Array Slot), LI s dC dI cI cZ cJ aa o ab kn vv nn mk mv mn f H locs → cells ≤ 40 + (j + 1) → slots ≤ 3300 + 6 * (j + 1) → lv_has ls 8 [(0, .ref b), (1, .ref (aa 0)), (2, .ref (ab 0)), (3, .ref o), (4, .int (nI (7 * (j + 1))))] → W p l e room_1 s m #[Value.ref b] below meth c H locs cells slots (lw_Z below #[Value.ref b] s) (F0 m 23 ls [])) : W p l e room_1 s m #[Value.ref b] below meth c H locs cells slots (lw_Z below #[Value.ref b] s) (F0 m 832 ls []) := by
  obtain ⟨hx, hb, hr, hml, hown, htsL, hX, hbl, hlocks, hgv⟩ := C0
  have hts : ∀ w9 ∈ BG, w9.before #[Value.ref b] s = true := fun w9 hw9 => htsL w9 (BG_tbl w9 hw9)
  have hbA : ¬ (fun q : Nat => s.heap.size ≤ q) b := Nat.not_le.mpr hbl
  have hK : va_K (dC, dI) classes [(cI, .int), (cZ, .boolean), (cJ, .long)] s := hK
  have hGl := LG_l hG
  obtain ⟨hdC, ho, hdM, hdj, hAc, hAm⟩ := hG
  obtain ⟨hPc, hPm, hS, hR⟩ := hI
  have hj9 : j < 512 := by omega
  have hsim := sim_many hR (xs (7 * j + 1))
  obtain ⟨s1, s3, nn', mn', hR'⟩ := hsim
  obtain ⟨hVc, hVm, hO9⟩ := hR.V
  refine lv_aload_n hx hb d_L_law_832 rfl (lv_at hl 1 rfl) ?_
  refine lv_aload_n hx hb d_L_law_833 rfl (lv_at hl 0 rfl) ?_
  refine lv_iload hx hb d_L_law_834 (lv_at hl 4 rfl) ?_
  refine lv_iconst (v := 1) hx hb d_L_law_836 (by decide) ?_
  refine lv_iadd hx hb d_L_law_837 ?_
  rw [show nI (7 * j) + 1 = nI (7 * j + 1) from nI_add (7 * j) 1]
  refine va_sld hx hb hX hbl hbA hS (vp_in_nI (by omega) (by omega)) d_L_law_838 ?_
  rw [nI_clamp (show 7 * j + 1 < 2 ^ 31 by omega)]
  refine lv_aload_n hx hb d_L_law_839 rfl (lv_at hl 3 rfl) ?_
  refine cWr (vx_runSW (As := [.ref (aa 0), .int (xs (7 * j + 1)), .ref o]) (rest := []) ⟨hx, hb, hml, hown, hts⟩ (c_L_many hlt hPc hdC ho hR.1 (xs (7 * j + 1))) (vx_cwSW 3 hts (wBW_goodS (fun _ h => h) ml_L_132 st_L_many ini_L cw_L_many) rfl rfl rfl (by decide +kernel) ⟨Nat.le_of_ble_eq_true rfl, Nat.le_of_ble_eq_true rfl⟩) (pSL hK hT hNc hAc hS _) rfl rfl hl.1 rfl (lv_room (Nat.le_of_ble_eq_true rfl)) d_L_law_840 ⟨by show _ + 1 ≤ 1087; omega, by show _ + 6 ≤ 11544; omega⟩) hS hAc (fun H locs hPc hS hz hkp => ?_)
  have hPm := wM_kept hPm hdj hkp
  refine lv_istore (lv' := [(5, .int (nI (kTell (swB (xs (7 * j + 1)) 3)))), (0, .ref b), (1, .ref (aa 0)), (2, .ref (ab 0)), (3, .ref o), (4, .int (nI (7 * j)))]) hx hb d_L_law_843 hl (by decide) rfl (fun ls hl => ?_)
  refine lv_aload_n hx hb d_L_law_845 rfl (lv_at hl 3 rfl) ?_
  refine lv_aload_n hx hb d_L_law_846 rfl (lv_at hl 1 rfl) ?_
  refine lv_iload hx hb d_L_law_847 (lv_at hl 5 rfl) ?_
  refine lv_iconst (v := 1) hx hb d_L_law_849 (by decide) ?_
  refine lv_iadd hx hb d_L_law_850 ?_
  rw [show nI (7 * j) + 1 = nI (7 * j + 1) from nI_add (7 * j) 1]
  refine va_sld hx hb hX hbl hbA hS (vp_in_nI (by omega) (by omega)) d_L_law_851 ?_
  rw [nI_clamp (show 7 * j + 1 < 2 ^ 31 by omega)]
  refine cW (W.runV (As := [.int (xs (7 * j + 1))]) (rest := []) ⟨hx, hb, hml, hown, hts⟩ (c_M_many hPm hdM hR.2.1  (xs (7 * j + 1))) (cwV 1 hts (wB_goodV (fun _ h => h) ml_L_134 im_M_many se_M_many ini_M co_M_many) rfl rfl rfl (by decide +kernel) ⟨Nat.le_of_ble_eq_true rfl, Nat.le_of_ble_eq_true rfl⟩) (pV hK hPm (ci := 6) (q0 := 0) rfl rfl _) rfl rfl hl.1 rfl (lv_room (Nat.le_of_ble_eq_true rfl)) d_L_law_852 ⟨by show _ + 1 + 0 ≤ 1087; omega, by show _ + 6 + 0 ≤ 11544; omega⟩) hS hAm (fun H locs hPm hS hz hkp => ?_)
  have hPc := wL_kept hPc hGl.1 hGl.2 hkp
  refine lv_istore (lv' := [(6, .int (if (inB (xs (7 * j + 1)).toInt64 0 3) = true then (if (xs (7 * j + 1)) = 0 then mk 0 else if (xs (7 * j + 1)) = 1 then mk 1 else if (xs (7 * j + 1)) = 2 then mk 2 else mk 3) else 0)), (5, .int (nI (kTell (swB (xs (7 * j + 1)) 3)))), (0, .ref b), (1, .ref (aa 0)), (2, .ref (ab 0)), (3, .ref o), (4, .int (nI (7 * j)))]) hx hb d_L_law_855 hl (by decide) rfl (fun ls hl => ?_)
  refine lv_aload_n hx hb d_L_law_857 rfl (lv_at hl 4 rfl) ?_
  refine cR (W.runV (As := []) (rest := []) ⟨hx, hb, hml, hown, hts⟩ (c_M_thrown hPm) (cwV 0 hts (wB_goodV (fun _ h => h) ml_L_83 im_M_thrown se_M_thrown ini_M co_M_thrown) rfl rfl rfl (by decide +kernel) ⟨Nat.le_of_ble_eq_true rfl, Nat.le_of_ble_eq_true rfl⟩) (pV hK hPm (ci := 6) (q0 := 0) rfl rfl _) rfl rfl hl.1 rfl (lv_room (Nat.le_of_ble_eq_true rfl)) d_L_law_858 ⟨by show _ + 1 + 0 ≤ 1087; omega, by show _ + 6 + 0 ≤ 11544; omega⟩) ?_
  refine lv_iload hx hb d_L_law_861 (lv_at hl 1 rfl) ?_
  refine lv_icmp_eq (tgt := 868) hx hb d_L_law_863 (by decide) (fun c_863 => ?_) (fun c_863 => ?_)
  · refine lv_iload hx hb d_L_law_868 (lv_at hl 1 rfl) ?_
    refine lv_if_ne (tgt := 885) hx hb d_L_law_870 (by decide) (fun c_870 => ?_) (fun c_870 => ?_)
    · refine lv_goto (tgt := 1249) hx hb d_L_law_885 (by decide) ?_
      refine lv_iinc (v := (nI (7 * (j + 1)))) (lv' := [(4, .int (nI (7 * (j + 1)))), (6, .int (if (inB (xs (7 * j + 1)).toInt64 0 3) = true then (if (xs (7 * j + 1)) = 0 then mk 0 else if (xs (7 * j + 1)) = 1 then mk 1 else if (xs (7 * j + 1)) = 2 then mk 2 else mk 3) else 0)), (5, .int (nI (kTell (swB (xs (7 * j + 1)) 3)))), (0, .ref b), (1, .ref (aa 0)), (2, .ref (ab 0)), (3, .ref o)]) hx hb d_L_law_1249 hl (k := 6) rfl (nI_add (7 * j) 7) (by decide) rfl (fun ls hl => ?_)
      refine lv_goto (tgt := 23) hx hb d_L_law_1252 (by decide) ?_
      exact hnext _ _ nn' _ _ mn' _ _ _ _ _ ls ⟨hPc, hPm, hS, hR'⟩ (by omega) (by omega) (lv_sub hl [3, 4, 5, 6, 0] rfl)
    · have hk0 := (nI_z (kTell_b _)).mp c_870
      refine lv_aload_n hx hb d_L_law_873 rfl (lv_at hl 5 rfl) ?_
      refine lv_iconst (v := 0) hx hb d_L_law_874 (by decide) ?_
      refine va_lald hx hb hK hPc 22 2 rfl rfl (vp_in_nI (n := 0) (by decide) (by decide)) d_L_law_875 ?_
      refine lv_iload hx hb d_L_law_876 (lv_at hl 0 rfl) ?_
      refine lv_i2l (v := (if (inB (xs (7 * j + 1)).toInt64 0 3) = true then (if (xs (7 * j + 1)) = 0 then mk 0 else if (xs (7 * j + 1)) = 1 then mk 1 else if (xs (7 * j + 1)) = 2 then mk 2 else mk 3) else 0).toInt64) hx hb d_L_law_878 rfl ?_
      refine W.lcmp hx hb d_L_law_879 ?_
      refine lv_if_eq (tgt := 885) hx hb d_L_law_880 (by decide) (fun c_880 => ?_) (fun c_880 => ?_)
      · refine lv_goto (tgt := 1249) hx hb d_L_law_885 (by decide) ?_
        refine lv_iinc (v := (nI (7 * (j + 1)))) (lv' := [(4, .int (nI (7 * (j + 1)))), (6, .int (if (inB (xs (7 * j + 1)).toInt64 0 3) = true then (if (xs (7 * j + 1)) = 0 then mk 0 else if (xs (7 * j + 1)) = 1 then mk 1 else if (xs (7 * j + 1)) = 2 then mk 2 else mk 3) else 0)), (5, .int (nI (kTell (swB (xs (7 * j + 1)) 3)))), (0, .ref b), (1, .ref (aa 0)), (2, .ref (ab 0)), (3, .ref o)]) hx hb d_L_law_1249 hl (k := 6) rfl (nI_add (7 * j) 7) (by decide) rfl (fun ls hl => ?_)
        refine lv_goto (tgt := 23) hx hb d_L_law_1252 (by decide) ?_
        exact hnext _ _ nn' _ _ mn' _ _ _ _ _ ls ⟨hPc, hPm, hS, hR'⟩ (by omega) (by omega) (lv_sub hl [3, 4, 5, 6, 0] rfl)
      · exact absurd (by rw [if_pos hk0]; exact (congrArg (fun z => lg_cmp z _) (s3 hk0)).trans (lg_self _)) c_880
  · exact absurd ((show nI _ = nI _ by rw [← s1])) c_863
set_option maxRecDepth 100000 in
set_option maxHeartbeats 4000000 in
theorem law_wallAt (hlt : l.stackTraces = false) (C0 : lw_At p s m meth c b L xs) (hL : L ≤ 3584) (hK : kK dC dI cI cZ cJ s) (hT : TX (fun q : Nat => s.heap.size ≤ q) s s.heap) (hNc : va_Nc eIS eIA s) (hG : LG s aa o ab) (hj : 7 * j + 7 ≤ L) (hI : LI s dC dI cI cZ cJ aa o ab kn vv nn mk mv mn f H locs) (hc : cells ≤ 40 + j) (hs : slots ≤ 3300 + 6 * j) (hl : lv_has ls 8 [(0, .ref b), (1, .ref (aa 0)), (2, .ref (ab 0)), (3, .ref o), (4, .int (nI (7 * j)))]) (hnext : ∀ (kn : Nat → Int32) (vv : Ar) (nn : Nat → Nat) (mk : Nat → Int32) (mv : Ar) (mn : Nat → Nat) (f : Nat → Int64) (H : Heap) (locs : List Loc) (cells slots : Nat) (ls : Array Slot), LI s dC dI cI cZ cJ aa o ab kn vv nn mk mv mn f H locs → cells ≤ 40 + (j + 1) → slots ≤ 3300 + 6 * (j + 1) → lv_has ls 8 [(0, .ref b), (1, .ref (aa 0)), (2, .ref (ab 0)), (3, .ref o), (4, .int (nI (7 * (j + 1))))] → W p l e room_1 s m #[Value.ref b] below meth c H locs cells slots (lw_Z below #[Value.ref b] s) (F0 m 23 ls [])) : W p l e room_1 s m #[Value.ref b] below meth c H locs cells slots (lw_Z below #[Value.ref b] s) (F0 m 888 ls []) := by
  obtain ⟨hx, hb, hr, hml, hown, htsL, hX, hbl, hlocks, hgv⟩ := C0
  have hts : ∀ w9 ∈ BG, w9.before #[Value.ref b] s = true := fun w9 hw9 => htsL w9 (BG_tbl w9 hw9)
  have hbA : ¬ (fun q : Nat => s.heap.size ≤ q) b := Nat.not_le.mpr hbl
  have hK : va_K (dC, dI) classes [(cI, .int), (cZ, .boolean), (cJ, .long)] s := hK
  have hGl := LG_l hG
  obtain ⟨hdC, ho, hdM, hdj, hAc, hAm⟩ := hG
  obtain ⟨hPc, hPm, hS, hR⟩ := hI
  have hj9 : j < 512 := by omega
  have hsim := sim_wallAt hR (xs (7 * j + 1)) (xs (7 * j + 2))
  obtain ⟨s1, s3, nn', mn', hR'⟩ := hsim
  obtain ⟨hVc, hVm, hO9⟩ := hR.V
  refine lv_aload_n hx hb d_L_law_888 rfl (lv_at hl 1 rfl) ?_
  refine lv_aload_n hx hb d_L_law_889 rfl (lv_at hl 0 rfl) ?_
  refine lv_iload hx hb d_L_law_890 (lv_at hl 4 rfl) ?_
  refine lv_iconst (v := 1) hx hb d_L_law_892 (by decide) ?_
  refine lv_iadd hx hb d_L_law_893 ?_
  rw [show nI (7 * j) + 1 = nI (7 * j + 1) from nI_add (7 * j) 1]
  refine va_sld hx hb hX hbl hbA hS (vp_in_nI (by omega) (by omega)) d_L_law_894 ?_
  rw [nI_clamp (show 7 * j + 1 < 2 ^ 31 by omega)]
  refine lv_aload_n hx hb d_L_law_895 rfl (lv_at hl 0 rfl) ?_
  refine lv_iload hx hb d_L_law_896 (lv_at hl 4 rfl) ?_
  refine lv_iconst (v := 2) hx hb d_L_law_898 (by decide) ?_
  refine lv_iadd hx hb d_L_law_899 ?_
  rw [show nI (7 * j) + 2 = nI (7 * j + 2) from nI_add (7 * j) 2]
  refine va_sld hx hb hX hbl hbA hS (vp_in_nI (by omega) (by omega)) d_L_law_900 ?_
  rw [nI_clamp (show 7 * j + 2 < 2 ^ 31 by omega)]
  refine lv_aload_n hx hb d_L_law_901 rfl (lv_at hl 3 rfl) ?_
  refine cWr (vx_runSW (As := [.ref (aa 0), .int (xs (7 * j + 1)), .int (xs (7 * j + 2)), .ref o]) (rest := []) ⟨hx, hb, hml, hown, hts⟩ (c_L_wallAt hlt hPc hdC ho hR.1 hVc (xs (7 * j + 1)) (xs (7 * j + 2))) (vx_cwSW 4 hts (wBW_goodS (fun _ h => h) ml_L_135 st_L_wallAt ini_L cw_L_wallAt) rfl rfl rfl (by decide +kernel) ⟨Nat.le_of_ble_eq_true rfl, Nat.le_of_ble_eq_true rfl⟩) (pSL hK hT hNc hAc hS _) rfl rfl hl.1 rfl (lv_room (Nat.le_of_ble_eq_true rfl)) d_L_law_902 ⟨by show _ + 1 ≤ 1087; omega, by show _ + 6 ≤ 11544; omega⟩) hS hAc (fun H locs hPc hS hz hkp => ?_)
  have hPm := wM_kept hPm hdj hkp
  refine lv_istore (lv' := [(5, .int (nI (kTell (tW kn vv (xs (7 * j + 1)) && swB (xs (7 * j + 2)) 9)))), (0, .ref b), (1, .ref (aa 0)), (2, .ref (ab 0)), (3, .ref o), (4, .int (nI (7 * j)))]) hx hb d_L_law_905 hl (by decide) rfl (fun ls hl => ?_)
  refine lv_aload_n hx hb d_L_law_907 rfl (lv_at hl 3 rfl) ?_
  refine lv_aload_n hx hb d_L_law_908 rfl (lv_at hl 1 rfl) ?_
  refine lv_iload hx hb d_L_law_909 (lv_at hl 5 rfl) ?_
  refine lv_iconst (v := 1) hx hb d_L_law_911 (by decide) ?_
  refine lv_iadd hx hb d_L_law_912 ?_
  rw [show nI (7 * j) + 1 = nI (7 * j + 1) from nI_add (7 * j) 1]
  refine va_sld hx hb hX hbl hbA hS (vp_in_nI (by omega) (by omega)) d_L_law_913 ?_
  rw [nI_clamp (show 7 * j + 1 < 2 ^ 31 by omega)]
  refine lv_aload_n hx hb d_L_law_914 rfl (lv_at hl 1 rfl) ?_
  refine lv_iload hx hb d_L_law_915 (lv_at hl 5 rfl) ?_
  refine lv_iconst (v := 2) hx hb d_L_law_917 (by decide) ?_
  refine lv_iadd hx hb d_L_law_918 ?_
  rw [show nI (7 * j) + 2 = nI (7 * j + 2) from nI_add (7 * j) 2]
  refine va_sld hx hb hX hbl hbA hS (vp_in_nI (by omega) (by omega)) d_L_law_919 ?_
  rw [nI_clamp (show 7 * j + 2 < 2 ^ 31 by omega)]
  refine cW (W.runV (As := [.int (xs (7 * j + 1)), .int (xs (7 * j + 2))]) (rest := []) ⟨hx, hb, hml, hown, hts⟩ (c_M_wallAt hPm hdM hR.2.1 hVm (xs (7 * j + 1)) (xs (7 * j + 2))) (cwV 2 hts (wB_goodV (fun _ h => h) ml_L_137 im_M_wallAt se_M_wallAt ini_M co_M_wallAt) rfl rfl rfl (by decide +kernel) ⟨Nat.le_of_ble_eq_true rfl, Nat.le_of_ble_eq_true rfl⟩) (pV hK hPm (ci := 6) (q0 := 0) rfl rfl _) rfl rfl hl.1 rfl (lv_room (Nat.le_of_ble_eq_true rfl)) d_L_law_920 ⟨by show _ + 1 + 0 ≤ 1087; omega, by show _ + 6 + 0 ≤ 11544; omega⟩) hS hAm (fun H locs hPm hS hz hkp => ?_)
  have hPc := wL_kept hPc hGl.1 hGl.2 hkp
  refine lv_lstore (lv' := [(6, .long (if (mW mk mv (xs (7 * j + 1)) && inB (xs (7 * j + 2)).toInt64 0 9) = true then waM mk mv mn (xs (7 * j + 1)).toNatClampNeg (xs (7 * j + 2)) else 0)), (5, .int (nI (kTell (tW kn vv (xs (7 * j + 1)) && swB (xs (7 * j + 2)) 9)))), (0, .ref b), (1, .ref (aa 0)), (2, .ref (ab 0)), (3, .ref o), (4, .int (nI (7 * j)))]) hx hb d_L_law_923 hl (by decide) rfl (fun ls hl => ?_)
  refine lv_aload_n hx hb d_L_law_925 rfl (lv_at hl 4 rfl) ?_
  refine cR (W.runV (As := []) (rest := []) ⟨hx, hb, hml, hown, hts⟩ (c_M_thrown hPm) (cwV 0 hts (wB_goodV (fun _ h => h) ml_L_83 im_M_thrown se_M_thrown ini_M co_M_thrown) rfl rfl rfl (by decide +kernel) ⟨Nat.le_of_ble_eq_true rfl, Nat.le_of_ble_eq_true rfl⟩) (pV hK hPm (ci := 6) (q0 := 0) rfl rfl _) rfl rfl hl.1 rfl (lv_room (Nat.le_of_ble_eq_true rfl)) d_L_law_926 ⟨by show _ + 1 + 0 ≤ 1087; omega, by show _ + 6 + 0 ≤ 11544; omega⟩) ?_
  refine lv_iload hx hb d_L_law_929 (lv_at hl 1 rfl) ?_
  refine lv_icmp_eq (tgt := 936) hx hb d_L_law_931 (by decide) (fun c_931 => ?_) (fun c_931 => ?_)
  · refine lv_iload hx hb d_L_law_936 (lv_at hl 1 rfl) ?_
    refine lv_if_ne (tgt := 952) hx hb d_L_law_938 (by decide) (fun c_938 => ?_) (fun c_938 => ?_)
    · refine lv_goto (tgt := 1249) hx hb d_L_law_952 (by decide) ?_
      refine lv_iinc (v := (nI (7 * (j + 1)))) (lv' := [(4, .int (nI (7 * (j + 1)))), (6, .long (if (mW mk mv (xs (7 * j + 1)) && inB (xs (7 * j + 2)).toInt64 0 9) = true then waM mk mv mn (xs (7 * j + 1)).toNatClampNeg (xs (7 * j + 2)) else 0)), (5, .int (nI (kTell (tW kn vv (xs (7 * j + 1)) && swB (xs (7 * j + 2)) 9)))), (0, .ref b), (1, .ref (aa 0)), (2, .ref (ab 0)), (3, .ref o)]) hx hb d_L_law_1249 hl (k := 6) rfl (nI_add (7 * j) 7) (by decide) rfl (fun ls hl => ?_)
      refine lv_goto (tgt := 23) hx hb d_L_law_1252 (by decide) ?_
      exact hnext _ _ nn' _ _ mn' _ _ _ _ _ ls ⟨hPc, hPm, hS, hR'⟩ (by omega) (by omega) (lv_sub hl [3, 4, 5, 6, 0] rfl)
    · have hk0 := (nI_z (kTell_b _)).mp c_938
      refine lv_aload_n hx hb d_L_law_941 rfl (lv_at hl 5 rfl) ?_
      refine lv_iconst (v := 0) hx hb d_L_law_942 (by decide) ?_
      refine va_lald hx hb hK hPc 22 2 rfl rfl (vp_in_nI (n := 0) (by decide) (by decide)) d_L_law_943 ?_
      refine lv_lload hx hb d_L_law_944 (lv_at hl 0 rfl) ?_
      refine W.lcmp hx hb d_L_law_946 ?_
      refine lv_if_eq (tgt := 952) hx hb d_L_law_947 (by decide) (fun c_947 => ?_) (fun c_947 => ?_)
      · refine lv_goto (tgt := 1249) hx hb d_L_law_952 (by decide) ?_
        refine lv_iinc (v := (nI (7 * (j + 1)))) (lv' := [(4, .int (nI (7 * (j + 1)))), (6, .long (if (mW mk mv (xs (7 * j + 1)) && inB (xs (7 * j + 2)).toInt64 0 9) = true then waM mk mv mn (xs (7 * j + 1)).toNatClampNeg (xs (7 * j + 2)) else 0)), (5, .int (nI (kTell (tW kn vv (xs (7 * j + 1)) && swB (xs (7 * j + 2)) 9)))), (0, .ref b), (1, .ref (aa 0)), (2, .ref (ab 0)), (3, .ref o)]) hx hb d_L_law_1249 hl (k := 6) rfl (nI_add (7 * j) 7) (by decide) rfl (fun ls hl => ?_)
        refine lv_goto (tgt := 23) hx hb d_L_law_1252 (by decide) ?_
        exact hnext _ _ nn' _ _ mn' _ _ _ _ _ ls ⟨hPc, hPm, hS, hR'⟩ (by omega) (by omega) (lv_sub hl [3, 4, 5, 6, 0] rfl)
      · exact absurd (by rw [if_pos hk0]; exact (congrArg (fun z => lg_cmp z _) (s3 hk0)).trans (lg_self _)) c_947
  · exact absurd ((show nI _ = nI _ by rw [← s1])) c_931
set_option maxRecDepth 100000 in
set_option maxHeartbeats 4000000 in
theorem law_openingAt (hlt : l.stackTraces = false) (C0 : lw_At p s m meth c b L xs) (hL : L ≤ 3584) (hK : kK dC dI cI cZ cJ s) (hT : TX (fun q : Nat => s.heap.size ≤ q) s s.heap) (hNc : va_Nc eIS eIA s) (hG : LG s aa o ab) (hj : 7 * j + 7 ≤ L) (hI : LI s dC dI cI cZ cJ aa o ab kn vv nn mk mv mn f H locs) (hc : cells ≤ 40 + j) (hs : slots ≤ 3300 + 6 * j) (hl : lv_has ls 8 [(0, .ref b), (1, .ref (aa 0)), (2, .ref (ab 0)), (3, .ref o), (4, .int (nI (7 * j)))]) (hnext : ∀ (kn : Nat → Int32) (vv : Ar) (nn : Nat → Nat) (mk : Nat → Int32) (mv : Ar) (mn : Nat → Nat) (f : Nat → Int64) (H : Heap) (locs : List Loc) (cells slots : Nat) (ls : Array Slot), LI s dC dI cI cZ cJ aa o ab kn vv nn mk mv mn f H locs → cells ≤ 40 + (j + 1) → slots ≤ 3300 + 6 * (j + 1) → lv_has ls 8 [(0, .ref b), (1, .ref (aa 0)), (2, .ref (ab 0)), (3, .ref o), (4, .int (nI (7 * (j + 1))))] → W p l e room_1 s m #[Value.ref b] below meth c H locs cells slots (lw_Z below #[Value.ref b] s) (F0 m 23 ls [])) : W p l e room_1 s m #[Value.ref b] below meth c H locs cells slots (lw_Z below #[Value.ref b] s) (F0 m 955 ls []) := by
  obtain ⟨hx, hb, hr, hml, hown, htsL, hX, hbl, hlocks, hgv⟩ := C0
  have hts : ∀ w9 ∈ BG, w9.before #[Value.ref b] s = true := fun w9 hw9 => htsL w9 (BG_tbl w9 hw9)
  have hbA : ¬ (fun q : Nat => s.heap.size ≤ q) b := Nat.not_le.mpr hbl
  have hK : va_K (dC, dI) classes [(cI, .int), (cZ, .boolean), (cJ, .long)] s := hK
  have hGl := LG_l hG
  obtain ⟨hdC, ho, hdM, hdj, hAc, hAm⟩ := hG
  obtain ⟨hPc, hPm, hS, hR⟩ := hI
  have hj9 : j < 512 := by omega
  have hsim := sim_openingAt hR (xs (7 * j + 1)) (xs (7 * j + 2))
  obtain ⟨s1, s3, nn', mn', hR'⟩ := hsim
  obtain ⟨hVc, hVm, hO9⟩ := hR.V
  refine lv_aload_n hx hb d_L_law_955 rfl (lv_at hl 1 rfl) ?_
  refine lv_aload_n hx hb d_L_law_956 rfl (lv_at hl 0 rfl) ?_
  refine lv_iload hx hb d_L_law_957 (lv_at hl 4 rfl) ?_
  refine lv_iconst (v := 1) hx hb d_L_law_959 (by decide) ?_
  refine lv_iadd hx hb d_L_law_960 ?_
  rw [show nI (7 * j) + 1 = nI (7 * j + 1) from nI_add (7 * j) 1]
  refine va_sld hx hb hX hbl hbA hS (vp_in_nI (by omega) (by omega)) d_L_law_961 ?_
  rw [nI_clamp (show 7 * j + 1 < 2 ^ 31 by omega)]
  refine lv_aload_n hx hb d_L_law_962 rfl (lv_at hl 0 rfl) ?_
  refine lv_iload hx hb d_L_law_963 (lv_at hl 4 rfl) ?_
  refine lv_iconst (v := 2) hx hb d_L_law_965 (by decide) ?_
  refine lv_iadd hx hb d_L_law_966 ?_
  rw [show nI (7 * j) + 2 = nI (7 * j + 2) from nI_add (7 * j) 2]
  refine va_sld hx hb hX hbl hbA hS (vp_in_nI (by omega) (by omega)) d_L_law_967 ?_
  rw [nI_clamp (show 7 * j + 2 < 2 ^ 31 by omega)]
  refine lv_aload_n hx hb d_L_law_968 rfl (lv_at hl 3 rfl) ?_
  refine cWr (vx_runSW (As := [.ref (aa 0), .int (xs (7 * j + 1)), .int (xs (7 * j + 2)), .ref o]) (rest := []) ⟨hx, hb, hml, hown, hts⟩ (c_L_openingAt hlt hPc hdC ho hR.1 (xs (7 * j + 1)) (xs (7 * j + 2))) (vx_cwSW 4 hts (wBW_goodS (fun _ h => h) ml_L_138 st_L_openingAt ini_L cw_L_openingAt) rfl rfl rfl (by decide +kernel) ⟨Nat.le_of_ble_eq_true rfl, Nat.le_of_ble_eq_true rfl⟩) (pSL hK hT hNc hAc hS _) rfl rfl hl.1 rfl (lv_room (Nat.le_of_ble_eq_true rfl)) d_L_law_969 ⟨by show _ + 1 ≤ 1087; omega, by show _ + 6 ≤ 11544; omega⟩) hS hAc (fun H locs hPc hS hz hkp => ?_)
  have hPm := wM_kept hPm hdj hkp
  refine lv_istore (lv' := [(5, .int (nI (kTell (haB (kn 3) (xs (7 * j + 1)) && tW kn vv (vv 9 (xs (7 * j + 1)).toNatClampNeg) && swB (xs (7 * j + 2)) 2)))), (0, .ref b), (1, .ref (aa 0)), (2, .ref (ab 0)), (3, .ref o), (4, .int (nI (7 * j)))]) hx hb d_L_law_972 hl (by decide) rfl (fun ls hl => ?_)
  refine lv_aload_n hx hb d_L_law_974 rfl (lv_at hl 3 rfl) ?_
  refine lv_aload_n hx hb d_L_law_975 rfl (lv_at hl 1 rfl) ?_
  refine lv_iload hx hb d_L_law_976 (lv_at hl 5 rfl) ?_
  refine lv_iconst (v := 1) hx hb d_L_law_978 (by decide) ?_
  refine lv_iadd hx hb d_L_law_979 ?_
  rw [show nI (7 * j) + 1 = nI (7 * j + 1) from nI_add (7 * j) 1]
  refine va_sld hx hb hX hbl hbA hS (vp_in_nI (by omega) (by omega)) d_L_law_980 ?_
  rw [nI_clamp (show 7 * j + 1 < 2 ^ 31 by omega)]
  refine lv_aload_n hx hb d_L_law_981 rfl (lv_at hl 1 rfl) ?_
  refine lv_iload hx hb d_L_law_982 (lv_at hl 5 rfl) ?_
  refine lv_iconst (v := 2) hx hb d_L_law_984 (by decide) ?_
  refine lv_iadd hx hb d_L_law_985 ?_
  rw [show nI (7 * j) + 2 = nI (7 * j + 2) from nI_add (7 * j) 2]
  refine va_sld hx hb hX hbl hbA hS (vp_in_nI (by omega) (by omega)) d_L_law_986 ?_
  rw [nI_clamp (show 7 * j + 2 < 2 ^ 31 by omega)]
  refine cW (W.runV (As := [.int (xs (7 * j + 1)), .int (xs (7 * j + 2))]) (rest := []) ⟨hx, hb, hml, hown, hts⟩ (c_M_openingAt hPm hdM hR.2.1 hO9 (xs (7 * j + 1)) (xs (7 * j + 2))) (cwV 2 hts (wB_goodV (fun _ h => h) ml_L_140 im_M_openingAt se_M_openingAt ini_M co_M_openingAt) rfl rfl rfl (by decide +kernel) ⟨Nat.le_of_ble_eq_true rfl, Nat.le_of_ble_eq_true rfl⟩) (pV hK hPm (ci := 6) (q0 := 0) rfl rfl _) rfl rfl hl.1 rfl (lv_room (Nat.le_of_ble_eq_true rfl)) d_L_law_987 ⟨by show _ + 1 + 0 ≤ 1087; omega, by show _ + 6 + 0 ≤ 11544; omega⟩) hS hAm (fun H locs hPm hS hz hkp => ?_)
  have hPc := wL_kept hPc hGl.1 hGl.2 hkp
  refine lv_istore (lv' := [(6, .int (if (roR mk mv (xs (7 * j + 1)) (xs (7 * j + 2))) = true then opR mv (xs (7 * j + 1)).toNatClampNeg (xs (7 * j + 2)) else 0)), (5, .int (nI (kTell (haB (kn 3) (xs (7 * j + 1)) && tW kn vv (vv 9 (xs (7 * j + 1)).toNatClampNeg) && swB (xs (7 * j + 2)) 2)))), (0, .ref b), (1, .ref (aa 0)), (2, .ref (ab 0)), (3, .ref o), (4, .int (nI (7 * j)))]) hx hb d_L_law_990 hl (by decide) rfl (fun ls hl => ?_)
  refine lv_aload_n hx hb d_L_law_992 rfl (lv_at hl 4 rfl) ?_
  refine cR (W.runV (As := []) (rest := []) ⟨hx, hb, hml, hown, hts⟩ (c_M_thrown hPm) (cwV 0 hts (wB_goodV (fun _ h => h) ml_L_83 im_M_thrown se_M_thrown ini_M co_M_thrown) rfl rfl rfl (by decide +kernel) ⟨Nat.le_of_ble_eq_true rfl, Nat.le_of_ble_eq_true rfl⟩) (pV hK hPm (ci := 6) (q0 := 0) rfl rfl _) rfl rfl hl.1 rfl (lv_room (Nat.le_of_ble_eq_true rfl)) d_L_law_993 ⟨by show _ + 1 + 0 ≤ 1087; omega, by show _ + 6 + 0 ≤ 11544; omega⟩) ?_
  refine lv_iload hx hb d_L_law_996 (lv_at hl 1 rfl) ?_
  refine lv_icmp_eq (tgt := 1003) hx hb d_L_law_998 (by decide) (fun c_998 => ?_) (fun c_998 => ?_)
  · refine lv_iload hx hb d_L_law_1003 (lv_at hl 1 rfl) ?_
    refine lv_if_ne (tgt := 1020) hx hb d_L_law_1005 (by decide) (fun c_1005 => ?_) (fun c_1005 => ?_)
    · refine lv_goto (tgt := 1249) hx hb d_L_law_1020 (by decide) ?_
      refine lv_iinc (v := (nI (7 * (j + 1)))) (lv' := [(4, .int (nI (7 * (j + 1)))), (6, .int (if (roR mk mv (xs (7 * j + 1)) (xs (7 * j + 2))) = true then opR mv (xs (7 * j + 1)).toNatClampNeg (xs (7 * j + 2)) else 0)), (5, .int (nI (kTell (haB (kn 3) (xs (7 * j + 1)) && tW kn vv (vv 9 (xs (7 * j + 1)).toNatClampNeg) && swB (xs (7 * j + 2)) 2)))), (0, .ref b), (1, .ref (aa 0)), (2, .ref (ab 0)), (3, .ref o)]) hx hb d_L_law_1249 hl (k := 6) rfl (nI_add (7 * j) 7) (by decide) rfl (fun ls hl => ?_)
      refine lv_goto (tgt := 23) hx hb d_L_law_1252 (by decide) ?_
      exact hnext _ _ nn' _ _ mn' _ _ _ _ _ ls ⟨hPc, hPm, hS, hR'⟩ (by omega) (by omega) (lv_sub hl [3, 4, 5, 6, 0] rfl)
    · have hk0 := (nI_z (kTell_b _)).mp c_1005
      refine lv_aload_n hx hb d_L_law_1008 rfl (lv_at hl 5 rfl) ?_
      refine lv_iconst (v := 0) hx hb d_L_law_1009 (by decide) ?_
      refine va_lald hx hb hK hPc 22 2 rfl rfl (vp_in_nI (n := 0) (by decide) (by decide)) d_L_law_1010 ?_
      refine lv_iload hx hb d_L_law_1011 (lv_at hl 0 rfl) ?_
      refine lv_i2l (v := (if (roR mk mv (xs (7 * j + 1)) (xs (7 * j + 2))) = true then opR mv (xs (7 * j + 1)).toNatClampNeg (xs (7 * j + 2)) else 0).toInt64) hx hb d_L_law_1013 rfl ?_
      refine W.lcmp hx hb d_L_law_1014 ?_
      refine lv_if_eq (tgt := 1020) hx hb d_L_law_1015 (by decide) (fun c_1015 => ?_) (fun c_1015 => ?_)
      · refine lv_goto (tgt := 1249) hx hb d_L_law_1020 (by decide) ?_
        refine lv_iinc (v := (nI (7 * (j + 1)))) (lv' := [(4, .int (nI (7 * (j + 1)))), (6, .int (if (roR mk mv (xs (7 * j + 1)) (xs (7 * j + 2))) = true then opR mv (xs (7 * j + 1)).toNatClampNeg (xs (7 * j + 2)) else 0)), (5, .int (nI (kTell (haB (kn 3) (xs (7 * j + 1)) && tW kn vv (vv 9 (xs (7 * j + 1)).toNatClampNeg) && swB (xs (7 * j + 2)) 2)))), (0, .ref b), (1, .ref (aa 0)), (2, .ref (ab 0)), (3, .ref o)]) hx hb d_L_law_1249 hl (k := 6) rfl (nI_add (7 * j) 7) (by decide) rfl (fun ls hl => ?_)
        refine lv_goto (tgt := 23) hx hb d_L_law_1252 (by decide) ?_
        exact hnext _ _ nn' _ _ mn' _ _ _ _ _ ls ⟨hPc, hPm, hS, hR'⟩ (by omega) (by omega) (lv_sub hl [3, 4, 5, 6, 0] rfl)
      · exact absurd (by rw [if_pos hk0]; exact (congrArg (fun z => lg_cmp z _) (s3 hk0)).trans (lg_self _)) c_1015
  · exact absurd ((show nI _ = nI _ by rw [← s1])) c_998
set_option maxRecDepth 100000 in
set_option maxHeartbeats 4000000 in
theorem law_storeyAt (hlt : l.stackTraces = false) (C0 : lw_At p s m meth c b L xs) (hL : L ≤ 3584) (hK : kK dC dI cI cZ cJ s) (hT : TX (fun q : Nat => s.heap.size ≤ q) s s.heap) (hNc : va_Nc eIS eIA s) (hG : LG s aa o ab) (hj : 7 * j + 7 ≤ L) (hI : LI s dC dI cI cZ cJ aa o ab kn vv nn mk mv mn f H locs) (hc : cells ≤ 40 + j) (hs : slots ≤ 3300 + 6 * j) (hl : lv_has ls 8 [(0, .ref b), (1, .ref (aa 0)), (2, .ref (ab 0)), (3, .ref o), (4, .int (nI (7 * j)))]) (hnext : ∀ (kn : Nat → Int32) (vv : Ar) (nn : Nat → Nat) (mk : Nat → Int32) (mv : Ar) (mn : Nat → Nat) (f : Nat → Int64) (H : Heap) (locs : List Loc) (cells slots : Nat) (ls : Array Slot), LI s dC dI cI cZ cJ aa o ab kn vv nn mk mv mn f H locs → cells ≤ 40 + (j + 1) → slots ≤ 3300 + 6 * (j + 1) → lv_has ls 8 [(0, .ref b), (1, .ref (aa 0)), (2, .ref (ab 0)), (3, .ref o), (4, .int (nI (7 * (j + 1))))] → W p l e room_1 s m #[Value.ref b] below meth c H locs cells slots (lw_Z below #[Value.ref b] s) (F0 m 23 ls [])) : W p l e room_1 s m #[Value.ref b] below meth c H locs cells slots (lw_Z below #[Value.ref b] s) (F0 m 1023 ls []) := by
  obtain ⟨hx, hb, hr, hml, hown, htsL, hX, hbl, hlocks, hgv⟩ := C0
  have hts : ∀ w9 ∈ BG, w9.before #[Value.ref b] s = true := fun w9 hw9 => htsL w9 (BG_tbl w9 hw9)
  have hbA : ¬ (fun q : Nat => s.heap.size ≤ q) b := Nat.not_le.mpr hbl
  have hK : va_K (dC, dI) classes [(cI, .int), (cZ, .boolean), (cJ, .long)] s := hK
  have hGl := LG_l hG
  obtain ⟨hdC, ho, hdM, hdj, hAc, hAm⟩ := hG
  obtain ⟨hPc, hPm, hS, hR⟩ := hI
  have hj9 : j < 512 := by omega
  have hsim := sim_storeyAt hR (xs (7 * j + 1)) (xs (7 * j + 2))
  obtain ⟨s1, s3, nn', mn', hR'⟩ := hsim
  obtain ⟨hVc, hVm, hO9⟩ := hR.V
  refine lv_aload_n hx hb d_L_law_1023 rfl (lv_at hl 1 rfl) ?_
  refine lv_aload_n hx hb d_L_law_1024 rfl (lv_at hl 0 rfl) ?_
  refine lv_iload hx hb d_L_law_1025 (lv_at hl 4 rfl) ?_
  refine lv_iconst (v := 1) hx hb d_L_law_1027 (by decide) ?_
  refine lv_iadd hx hb d_L_law_1028 ?_
  rw [show nI (7 * j) + 1 = nI (7 * j + 1) from nI_add (7 * j) 1]
  refine va_sld hx hb hX hbl hbA hS (vp_in_nI (by omega) (by omega)) d_L_law_1029 ?_
  rw [nI_clamp (show 7 * j + 1 < 2 ^ 31 by omega)]
  refine lv_aload_n hx hb d_L_law_1030 rfl (lv_at hl 0 rfl) ?_
  refine lv_iload hx hb d_L_law_1031 (lv_at hl 4 rfl) ?_
  refine lv_iconst (v := 2) hx hb d_L_law_1033 (by decide) ?_
  refine lv_iadd hx hb d_L_law_1034 ?_
  rw [show nI (7 * j) + 2 = nI (7 * j + 2) from nI_add (7 * j) 2]
  refine va_sld hx hb hX hbl hbA hS (vp_in_nI (by omega) (by omega)) d_L_law_1035 ?_
  rw [nI_clamp (show 7 * j + 2 < 2 ^ 31 by omega)]
  refine lv_aload_n hx hb d_L_law_1036 rfl (lv_at hl 3 rfl) ?_
  refine cWr (vx_runSW (As := [.ref (aa 0), .int (xs (7 * j + 1)), .int (xs (7 * j + 2)), .ref o]) (rest := []) ⟨hx, hb, hml, hown, hts⟩ (c_L_storeyAt hlt hPc hdC ho hR.1 hVc (xs (7 * j + 1)) (xs (7 * j + 2))) (vx_cwSW 4 hts (wBW_goodS (fun _ h => h) ml_L_141 st_L_storeyAt ini_L cw_L_storeyAt) rfl rfl rfl (by decide +kernel) ⟨Nat.le_of_ble_eq_true rfl, Nat.le_of_ble_eq_true rfl⟩) (pSL hK hT hNc hAc hS _) rfl rfl hl.1 rfl (lv_room (Nat.le_of_ble_eq_true rfl)) d_L_law_1037 ⟨by show _ + 1 ≤ 1087; omega, by show _ + 6 ≤ 11544; omega⟩) hS hAc (fun H locs hPc hS hz hkp => ?_)
  have hPm := wM_kept hPm hdj hkp
  refine lv_istore (lv' := [(5, .int (nI (kTell (haB (kn 0) (xs (7 * j + 1)) && swB (xs (7 * j + 2)) 3)))), (0, .ref b), (1, .ref (aa 0)), (2, .ref (ab 0)), (3, .ref o), (4, .int (nI (7 * j)))]) hx hb d_L_law_1040 hl (by decide) rfl (fun ls hl => ?_)
  refine lv_aload_n hx hb d_L_law_1042 rfl (lv_at hl 3 rfl) ?_
  refine lv_aload_n hx hb d_L_law_1043 rfl (lv_at hl 1 rfl) ?_
  refine lv_iload hx hb d_L_law_1044 (lv_at hl 5 rfl) ?_
  refine lv_iconst (v := 1) hx hb d_L_law_1046 (by decide) ?_
  refine lv_iadd hx hb d_L_law_1047 ?_
  rw [show nI (7 * j) + 1 = nI (7 * j + 1) from nI_add (7 * j) 1]
  refine va_sld hx hb hX hbl hbA hS (vp_in_nI (by omega) (by omega)) d_L_law_1048 ?_
  rw [nI_clamp (show 7 * j + 1 < 2 ^ 31 by omega)]
  refine lv_aload_n hx hb d_L_law_1049 rfl (lv_at hl 1 rfl) ?_
  refine lv_iload hx hb d_L_law_1050 (lv_at hl 5 rfl) ?_
  refine lv_iconst (v := 2) hx hb d_L_law_1052 (by decide) ?_
  refine lv_iadd hx hb d_L_law_1053 ?_
  rw [show nI (7 * j) + 2 = nI (7 * j + 2) from nI_add (7 * j) 2]
  refine va_sld hx hb hX hbl hbA hS (vp_in_nI (by omega) (by omega)) d_L_law_1054 ?_
  rw [nI_clamp (show 7 * j + 2 < 2 ^ 31 by omega)]
  refine cW (W.runV (As := [.int (xs (7 * j + 1)), .int (xs (7 * j + 2))]) (rest := []) ⟨hx, hb, hml, hown, hts⟩ (c_M_storeyAt hPm hdM hR.2.1 hVm (xs (7 * j + 1)) (xs (7 * j + 2))) (cwV 2 hts (wB_goodV (fun _ h => h) ml_L_143 im_M_storeyAt se_M_storeyAt ini_M co_M_storeyAt) rfl rfl rfl (by decide +kernel) ⟨Nat.le_of_ble_eq_true rfl, Nat.le_of_ble_eq_true rfl⟩) (pV hK hPm (ci := 6) (q0 := 0) rfl rfl _) rfl rfl hl.1 rfl (lv_room (Nat.le_of_ble_eq_true rfl)) d_L_law_1055 ⟨by show _ + 1 + 0 ≤ 1087; omega, by show _ + 6 + 0 ≤ 11544; omega⟩) hS hAm (fun H locs hPm hS hz hkp => ?_)
  have hPc := wL_kept hPc hGl.1 hGl.2 hkp
  refine lv_lstore (lv' := [(6, .long (if (haB (mk 0) (xs (7 * j + 1)) && inB (xs (7 * j + 2)).toInt64 0 3) = true then saM mk mv mn (xs (7 * j + 1)) (xs (7 * j + 2)) else 0)), (5, .int (nI (kTell (haB (kn 0) (xs (7 * j + 1)) && swB (xs (7 * j + 2)) 3)))), (0, .ref b), (1, .ref (aa 0)), (2, .ref (ab 0)), (3, .ref o), (4, .int (nI (7 * j)))]) hx hb d_L_law_1058 hl (by decide) rfl (fun ls hl => ?_)
  refine lv_aload_n hx hb d_L_law_1060 rfl (lv_at hl 4 rfl) ?_
  refine cR (W.runV (As := []) (rest := []) ⟨hx, hb, hml, hown, hts⟩ (c_M_thrown hPm) (cwV 0 hts (wB_goodV (fun _ h => h) ml_L_83 im_M_thrown se_M_thrown ini_M co_M_thrown) rfl rfl rfl (by decide +kernel) ⟨Nat.le_of_ble_eq_true rfl, Nat.le_of_ble_eq_true rfl⟩) (pV hK hPm (ci := 6) (q0 := 0) rfl rfl _) rfl rfl hl.1 rfl (lv_room (Nat.le_of_ble_eq_true rfl)) d_L_law_1061 ⟨by show _ + 1 + 0 ≤ 1087; omega, by show _ + 6 + 0 ≤ 11544; omega⟩) ?_
  refine lv_iload hx hb d_L_law_1064 (lv_at hl 1 rfl) ?_
  refine lv_icmp_eq (tgt := 1071) hx hb d_L_law_1066 (by decide) (fun c_1066 => ?_) (fun c_1066 => ?_)
  · refine lv_iload hx hb d_L_law_1071 (lv_at hl 1 rfl) ?_
    refine lv_if_ne (tgt := 1087) hx hb d_L_law_1073 (by decide) (fun c_1073 => ?_) (fun c_1073 => ?_)
    · refine lv_goto (tgt := 1249) hx hb d_L_law_1087 (by decide) ?_
      refine lv_iinc (v := (nI (7 * (j + 1)))) (lv' := [(4, .int (nI (7 * (j + 1)))), (6, .long (if (haB (mk 0) (xs (7 * j + 1)) && inB (xs (7 * j + 2)).toInt64 0 3) = true then saM mk mv mn (xs (7 * j + 1)) (xs (7 * j + 2)) else 0)), (5, .int (nI (kTell (haB (kn 0) (xs (7 * j + 1)) && swB (xs (7 * j + 2)) 3)))), (0, .ref b), (1, .ref (aa 0)), (2, .ref (ab 0)), (3, .ref o)]) hx hb d_L_law_1249 hl (k := 6) rfl (nI_add (7 * j) 7) (by decide) rfl (fun ls hl => ?_)
      refine lv_goto (tgt := 23) hx hb d_L_law_1252 (by decide) ?_
      exact hnext _ _ nn' _ _ mn' _ _ _ _ _ ls ⟨hPc, hPm, hS, hR'⟩ (by omega) (by omega) (lv_sub hl [3, 4, 5, 6, 0] rfl)
    · have hk0 := (nI_z (kTell_b _)).mp c_1073
      refine lv_aload_n hx hb d_L_law_1076 rfl (lv_at hl 5 rfl) ?_
      refine lv_iconst (v := 0) hx hb d_L_law_1077 (by decide) ?_
      refine va_lald hx hb hK hPc 22 2 rfl rfl (vp_in_nI (n := 0) (by decide) (by decide)) d_L_law_1078 ?_
      refine lv_lload hx hb d_L_law_1079 (lv_at hl 0 rfl) ?_
      refine W.lcmp hx hb d_L_law_1081 ?_
      refine lv_if_eq (tgt := 1087) hx hb d_L_law_1082 (by decide) (fun c_1082 => ?_) (fun c_1082 => ?_)
      · refine lv_goto (tgt := 1249) hx hb d_L_law_1087 (by decide) ?_
        refine lv_iinc (v := (nI (7 * (j + 1)))) (lv' := [(4, .int (nI (7 * (j + 1)))), (6, .long (if (haB (mk 0) (xs (7 * j + 1)) && inB (xs (7 * j + 2)).toInt64 0 3) = true then saM mk mv mn (xs (7 * j + 1)) (xs (7 * j + 2)) else 0)), (5, .int (nI (kTell (haB (kn 0) (xs (7 * j + 1)) && swB (xs (7 * j + 2)) 3)))), (0, .ref b), (1, .ref (aa 0)), (2, .ref (ab 0)), (3, .ref o)]) hx hb d_L_law_1249 hl (k := 6) rfl (nI_add (7 * j) 7) (by decide) rfl (fun ls hl => ?_)
        refine lv_goto (tgt := 23) hx hb d_L_law_1252 (by decide) ?_
        exact hnext _ _ nn' _ _ mn' _ _ _ _ _ ls ⟨hPc, hPm, hS, hR'⟩ (by omega) (by omega) (lv_sub hl [3, 4, 5, 6, 0] rfl)
      · exact absurd (by rw [if_pos hk0]; exact (congrArg (fun z => lg_cmp z _) (s3 hk0)).trans (lg_self _)) c_1082
  · exact absurd ((show nI _ = nI _ by rw [← s1])) c_1066
set_option maxRecDepth 100000 in
set_option maxHeartbeats 4000000 in
theorem law_typeAt (hlt : l.stackTraces = false) (C0 : lw_At p s m meth c b L xs) (hL : L ≤ 3584) (hK : kK dC dI cI cZ cJ s) (hT : TX (fun q : Nat => s.heap.size ≤ q) s s.heap) (hNc : va_Nc eIS eIA s) (hG : LG s aa o ab) (hj : 7 * j + 7 ≤ L) (hI : LI s dC dI cI cZ cJ aa o ab kn vv nn mk mv mn f H locs) (hc : cells ≤ 40 + j) (hs : slots ≤ 3300 + 6 * j) (hl : lv_has ls 8 [(0, .ref b), (1, .ref (aa 0)), (2, .ref (ab 0)), (3, .ref o), (4, .int (nI (7 * j)))]) (hnext : ∀ (kn : Nat → Int32) (vv : Ar) (nn : Nat → Nat) (mk : Nat → Int32) (mv : Ar) (mn : Nat → Nat) (f : Nat → Int64) (H : Heap) (locs : List Loc) (cells slots : Nat) (ls : Array Slot), LI s dC dI cI cZ cJ aa o ab kn vv nn mk mv mn f H locs → cells ≤ 40 + (j + 1) → slots ≤ 3300 + 6 * (j + 1) → lv_has ls 8 [(0, .ref b), (1, .ref (aa 0)), (2, .ref (ab 0)), (3, .ref o), (4, .int (nI (7 * (j + 1))))] → W p l e room_1 s m #[Value.ref b] below meth c H locs cells slots (lw_Z below #[Value.ref b] s) (F0 m 23 ls [])) : W p l e room_1 s m #[Value.ref b] below meth c H locs cells slots (lw_Z below #[Value.ref b] s) (F0 m 1090 ls []) := by
  obtain ⟨hx, hb, hr, hml, hown, htsL, hX, hbl, hlocks, hgv⟩ := C0
  have hts : ∀ w9 ∈ BG, w9.before #[Value.ref b] s = true := fun w9 hw9 => htsL w9 (BG_tbl w9 hw9)
  have hbA : ¬ (fun q : Nat => s.heap.size ≤ q) b := Nat.not_le.mpr hbl
  have hK : va_K (dC, dI) classes [(cI, .int), (cZ, .boolean), (cJ, .long)] s := hK
  have hGl := LG_l hG
  obtain ⟨hdC, ho, hdM, hdj, hAc, hAm⟩ := hG
  obtain ⟨hPc, hPm, hS, hR⟩ := hI
  have hj9 : j < 512 := by omega
  have hsim := sim_typeAt hR (xs (7 * j + 1)) (xs (7 * j + 2))
  obtain ⟨s1, s3, nn', mn', hR'⟩ := hsim
  obtain ⟨hVc, hVm, hO9⟩ := hR.V
  refine lv_aload_n hx hb d_L_law_1090 rfl (lv_at hl 1 rfl) ?_
  refine lv_aload_n hx hb d_L_law_1091 rfl (lv_at hl 0 rfl) ?_
  refine lv_iload hx hb d_L_law_1092 (lv_at hl 4 rfl) ?_
  refine lv_iconst (v := 1) hx hb d_L_law_1094 (by decide) ?_
  refine lv_iadd hx hb d_L_law_1095 ?_
  rw [show nI (7 * j) + 1 = nI (7 * j + 1) from nI_add (7 * j) 1]
  refine va_sld hx hb hX hbl hbA hS (vp_in_nI (by omega) (by omega)) d_L_law_1096 ?_
  rw [nI_clamp (show 7 * j + 1 < 2 ^ 31 by omega)]
  refine lv_aload_n hx hb d_L_law_1097 rfl (lv_at hl 0 rfl) ?_
  refine lv_iload hx hb d_L_law_1098 (lv_at hl 4 rfl) ?_
  refine lv_iconst (v := 2) hx hb d_L_law_1100 (by decide) ?_
  refine lv_iadd hx hb d_L_law_1101 ?_
  rw [show nI (7 * j) + 2 = nI (7 * j + 2) from nI_add (7 * j) 2]
  refine va_sld hx hb hX hbl hbA hS (vp_in_nI (by omega) (by omega)) d_L_law_1102 ?_
  rw [nI_clamp (show 7 * j + 2 < 2 ^ 31 by omega)]
  refine lv_aload_n hx hb d_L_law_1103 rfl (lv_at hl 3 rfl) ?_
  refine cWr (vx_runSW (As := [.ref (aa 0), .int (xs (7 * j + 1)), .int (xs (7 * j + 2)), .ref o]) (rest := []) ⟨hx, hb, hml, hown, hts⟩ (c_L_typeAt hlt hPc hdC ho hR.1 hVc (xs (7 * j + 1)) (xs (7 * j + 2))) (vx_cwSW 4 hts (wBW_goodS (fun _ h => h) ml_L_144 st_L_typeAt ini_L cw_L_typeAt) rfl rfl rfl (by decide +kernel) ⟨Nat.le_of_ble_eq_true rfl, Nat.le_of_ble_eq_true rfl⟩) (pSL hK hT hNc hAc hS _) rfl rfl hl.1 rfl (lv_room (Nat.le_of_ble_eq_true rfl)) d_L_law_1104 ⟨by show _ + 1 ≤ 1087; omega, by show _ + 6 ≤ 11544; omega⟩) hS hAc (fun H locs hPc hS hz hkp => ?_)
  have hPm := wM_kept hPm hdj hkp
  refine lv_istore (lv' := [(5, .int (nI (kTell (haB (kn 1) (xs (7 * j + 1)) && swB (xs (7 * j + 2)) 2)))), (0, .ref b), (1, .ref (aa 0)), (2, .ref (ab 0)), (3, .ref o), (4, .int (nI (7 * j)))]) hx hb d_L_law_1107 hl (by decide) rfl (fun ls hl => ?_)
  refine lv_aload_n hx hb d_L_law_1109 rfl (lv_at hl 3 rfl) ?_
  refine lv_aload_n hx hb d_L_law_1110 rfl (lv_at hl 1 rfl) ?_
  refine lv_iload hx hb d_L_law_1111 (lv_at hl 5 rfl) ?_
  refine lv_iconst (v := 1) hx hb d_L_law_1113 (by decide) ?_
  refine lv_iadd hx hb d_L_law_1114 ?_
  rw [show nI (7 * j) + 1 = nI (7 * j + 1) from nI_add (7 * j) 1]
  refine va_sld hx hb hX hbl hbA hS (vp_in_nI (by omega) (by omega)) d_L_law_1115 ?_
  rw [nI_clamp (show 7 * j + 1 < 2 ^ 31 by omega)]
  refine lv_aload_n hx hb d_L_law_1116 rfl (lv_at hl 1 rfl) ?_
  refine lv_iload hx hb d_L_law_1117 (lv_at hl 5 rfl) ?_
  refine lv_iconst (v := 2) hx hb d_L_law_1119 (by decide) ?_
  refine lv_iadd hx hb d_L_law_1120 ?_
  rw [show nI (7 * j) + 2 = nI (7 * j + 2) from nI_add (7 * j) 2]
  refine va_sld hx hb hX hbl hbA hS (vp_in_nI (by omega) (by omega)) d_L_law_1121 ?_
  rw [nI_clamp (show 7 * j + 2 < 2 ^ 31 by omega)]
  refine cW (W.runV (As := [.int (xs (7 * j + 1)), .int (xs (7 * j + 2))]) (rest := []) ⟨hx, hb, hml, hown, hts⟩ (c_M_typeAt hPm hdM hR.2.1 hVm (xs (7 * j + 1)) (xs (7 * j + 2))) (cwV 2 hts (wB_goodV (fun _ h => h) ml_L_146 im_M_typeAt se_M_typeAt ini_M co_M_typeAt) rfl rfl rfl (by decide +kernel) ⟨Nat.le_of_ble_eq_true rfl, Nat.le_of_ble_eq_true rfl⟩) (pV hK hPm (ci := 6) (q0 := 0) rfl rfl _) rfl rfl hl.1 rfl (lv_room (Nat.le_of_ble_eq_true rfl)) d_L_law_1122 ⟨by show _ + 1 + 0 ≤ 1087; omega, by show _ + 6 + 0 ≤ 11544; omega⟩) hS hAm (fun H locs hPm hS hz hkp => ?_)
  have hPc := wL_kept hPc hGl.1 hGl.2 hkp
  refine lv_lstore (lv' := [(6, .long (if (haB (mk 1) (xs (7 * j + 1)) && inB (xs (7 * j + 2)).toInt64 0 2) = true then taM mv mn (xs (7 * j + 1)) (xs (7 * j + 2)) else 0)), (5, .int (nI (kTell (haB (kn 1) (xs (7 * j + 1)) && swB (xs (7 * j + 2)) 2)))), (0, .ref b), (1, .ref (aa 0)), (2, .ref (ab 0)), (3, .ref o), (4, .int (nI (7 * j)))]) hx hb d_L_law_1125 hl (by decide) rfl (fun ls hl => ?_)
  refine lv_aload_n hx hb d_L_law_1127 rfl (lv_at hl 4 rfl) ?_
  refine cR (W.runV (As := []) (rest := []) ⟨hx, hb, hml, hown, hts⟩ (c_M_thrown hPm) (cwV 0 hts (wB_goodV (fun _ h => h) ml_L_83 im_M_thrown se_M_thrown ini_M co_M_thrown) rfl rfl rfl (by decide +kernel) ⟨Nat.le_of_ble_eq_true rfl, Nat.le_of_ble_eq_true rfl⟩) (pV hK hPm (ci := 6) (q0 := 0) rfl rfl _) rfl rfl hl.1 rfl (lv_room (Nat.le_of_ble_eq_true rfl)) d_L_law_1128 ⟨by show _ + 1 + 0 ≤ 1087; omega, by show _ + 6 + 0 ≤ 11544; omega⟩) ?_
  refine lv_iload hx hb d_L_law_1131 (lv_at hl 1 rfl) ?_
  refine lv_icmp_eq (tgt := 1138) hx hb d_L_law_1133 (by decide) (fun c_1133 => ?_) (fun c_1133 => ?_)
  · refine lv_iload hx hb d_L_law_1138 (lv_at hl 1 rfl) ?_
    refine lv_if_ne (tgt := 1154) hx hb d_L_law_1140 (by decide) (fun c_1140 => ?_) (fun c_1140 => ?_)
    · refine lv_goto (tgt := 1249) hx hb d_L_law_1154 (by decide) ?_
      refine lv_iinc (v := (nI (7 * (j + 1)))) (lv' := [(4, .int (nI (7 * (j + 1)))), (6, .long (if (haB (mk 1) (xs (7 * j + 1)) && inB (xs (7 * j + 2)).toInt64 0 2) = true then taM mv mn (xs (7 * j + 1)) (xs (7 * j + 2)) else 0)), (5, .int (nI (kTell (haB (kn 1) (xs (7 * j + 1)) && swB (xs (7 * j + 2)) 2)))), (0, .ref b), (1, .ref (aa 0)), (2, .ref (ab 0)), (3, .ref o)]) hx hb d_L_law_1249 hl (k := 6) rfl (nI_add (7 * j) 7) (by decide) rfl (fun ls hl => ?_)
      refine lv_goto (tgt := 23) hx hb d_L_law_1252 (by decide) ?_
      exact hnext _ _ nn' _ _ mn' _ _ _ _ _ ls ⟨hPc, hPm, hS, hR'⟩ (by omega) (by omega) (lv_sub hl [3, 4, 5, 6, 0] rfl)
    · have hk0 := (nI_z (kTell_b _)).mp c_1140
      refine lv_aload_n hx hb d_L_law_1143 rfl (lv_at hl 5 rfl) ?_
      refine lv_iconst (v := 0) hx hb d_L_law_1144 (by decide) ?_
      refine va_lald hx hb hK hPc 22 2 rfl rfl (vp_in_nI (n := 0) (by decide) (by decide)) d_L_law_1145 ?_
      refine lv_lload hx hb d_L_law_1146 (lv_at hl 0 rfl) ?_
      refine W.lcmp hx hb d_L_law_1148 ?_
      refine lv_if_eq (tgt := 1154) hx hb d_L_law_1149 (by decide) (fun c_1149 => ?_) (fun c_1149 => ?_)
      · refine lv_goto (tgt := 1249) hx hb d_L_law_1154 (by decide) ?_
        refine lv_iinc (v := (nI (7 * (j + 1)))) (lv' := [(4, .int (nI (7 * (j + 1)))), (6, .long (if (haB (mk 1) (xs (7 * j + 1)) && inB (xs (7 * j + 2)).toInt64 0 2) = true then taM mv mn (xs (7 * j + 1)) (xs (7 * j + 2)) else 0)), (5, .int (nI (kTell (haB (kn 1) (xs (7 * j + 1)) && swB (xs (7 * j + 2)) 2)))), (0, .ref b), (1, .ref (aa 0)), (2, .ref (ab 0)), (3, .ref o)]) hx hb d_L_law_1249 hl (k := 6) rfl (nI_add (7 * j) 7) (by decide) rfl (fun ls hl => ?_)
        refine lv_goto (tgt := 23) hx hb d_L_law_1252 (by decide) ?_
        exact hnext _ _ nn' _ _ mn' _ _ _ _ _ ls ⟨hPc, hPm, hS, hR'⟩ (by omega) (by omega) (lv_sub hl [3, 4, 5, 6, 0] rfl)
      · exact absurd (by rw [if_pos hk0]; exact (congrArg (fun z => lg_cmp z _) (s3 hk0)).trans (lg_self _)) c_1149
  · exact absurd ((show nI _ = nI _ by rw [← s1])) c_1133
set_option maxRecDepth 100000 in
set_option maxHeartbeats 4000000 in
theorem law_body (hlt : l.stackTraces = false) (C0 : lw_At p s m meth c b L xs) (hL : L ≤ 3584) (hK : kK dC dI cI cZ cJ s) (hT : TX (fun q : Nat => s.heap.size ≤ q) s s.heap) (hNc : va_Nc eIS eIA s) (hG : LG s aa o ab) (hj : 7 * j + 7 ≤ L) (hI : LI s dC dI cI cZ cJ aa o ab kn vv nn mk mv mn f H locs) (hc : cells ≤ 40 + j) (hs : slots ≤ 3300 + 6 * j) (hl : lv_has ls 8 [(0, .ref b), (1, .ref (aa 0)), (2, .ref (ab 0)), (3, .ref o), (4, .int (nI (7 * j)))]) (hnext : ∀ (kn : Nat → Int32) (vv : Ar) (nn : Nat → Nat) (mk : Nat → Int32) (mv : Ar) (mn : Nat → Nat) (f : Nat → Int64) (H : Heap) (locs : List Loc) (cells slots : Nat) (ls : Array Slot), LI s dC dI cI cZ cJ aa o ab kn vv nn mk mv mn f H locs → cells ≤ 40 + (j + 1) → slots ≤ 3300 + 6 * (j + 1) → lv_has ls 8 [(0, .ref b), (1, .ref (aa 0)), (2, .ref (ab 0)), (3, .ref o), (4, .int (nI (7 * (j + 1))))] → W p l e room_1 s m #[Value.ref b] below meth c H locs cells slots (lw_Z below #[Value.ref b] s) (F0 m 23 ls [])) : W p l e room_1 s m #[Value.ref b] below meth c H locs cells slots (lw_Z below #[Value.ref b] s) (F0 m 1157 ls []) := by
  obtain ⟨hx, hb, hr, hml, hown, htsL, hX, hbl, hlocks, hgv⟩ := C0
  have hts : ∀ w9 ∈ BG, w9.before #[Value.ref b] s = true := fun w9 hw9 => htsL w9 (BG_tbl w9 hw9)
  have hbA : ¬ (fun q : Nat => s.heap.size ≤ q) b := Nat.not_le.mpr hbl
  have hK : va_K (dC, dI) classes [(cI, .int), (cZ, .boolean), (cJ, .long)] s := hK
  have hGl := LG_l hG
  obtain ⟨hdC, ho, hdM, hdj, hAc, hAm⟩ := hG
  obtain ⟨hPc, hPm, hS, hR⟩ := hI
  have hj9 : j < 512 := by omega
  have hsim := sim_body hR (xs (7 * j + 1)) (xs (7 * j + 2)) (xs (7 * j + 3)) (xs (7 * j + 4))
  obtain ⟨s1, s3, nn', mn', hR'⟩ := hsim
  obtain ⟨hVc, hVm, hO9⟩ := hR.V
  refine lv_aload_n hx hb d_L_law_1157 rfl (lv_at hl 1 rfl) ?_
  refine lv_aload_n hx hb d_L_law_1158 rfl (lv_at hl 0 rfl) ?_
  refine lv_iload hx hb d_L_law_1159 (lv_at hl 4 rfl) ?_
  refine lv_iconst (v := 1) hx hb d_L_law_1161 (by decide) ?_
  refine lv_iadd hx hb d_L_law_1162 ?_
  rw [show nI (7 * j) + 1 = nI (7 * j + 1) from nI_add (7 * j) 1]
  refine va_sld hx hb hX hbl hbA hS (vp_in_nI (by omega) (by omega)) d_L_law_1163 ?_
  rw [nI_clamp (show 7 * j + 1 < 2 ^ 31 by omega)]
  refine lv_aload_n hx hb d_L_law_1164 rfl (lv_at hl 0 rfl) ?_
  refine lv_iload hx hb d_L_law_1165 (lv_at hl 4 rfl) ?_
  refine lv_iconst (v := 2) hx hb d_L_law_1167 (by decide) ?_
  refine lv_iadd hx hb d_L_law_1168 ?_
  rw [show nI (7 * j) + 2 = nI (7 * j + 2) from nI_add (7 * j) 2]
  refine va_sld hx hb hX hbl hbA hS (vp_in_nI (by omega) (by omega)) d_L_law_1169 ?_
  rw [nI_clamp (show 7 * j + 2 < 2 ^ 31 by omega)]
  refine lv_aload_n hx hb d_L_law_1170 rfl (lv_at hl 0 rfl) ?_
  refine lv_iload hx hb d_L_law_1171 (lv_at hl 4 rfl) ?_
  refine lv_iconst (v := 3) hx hb d_L_law_1173 (by decide) ?_
  refine lv_iadd hx hb d_L_law_1174 ?_
  rw [show nI (7 * j) + 3 = nI (7 * j + 3) from nI_add (7 * j) 3]
  refine va_sld hx hb hX hbl hbA hS (vp_in_nI (by omega) (by omega)) d_L_law_1175 ?_
  rw [nI_clamp (show 7 * j + 3 < 2 ^ 31 by omega)]
  refine lv_aload_n hx hb d_L_law_1176 rfl (lv_at hl 0 rfl) ?_
  refine lv_iload hx hb d_L_law_1177 (lv_at hl 4 rfl) ?_
  refine lv_iconst (v := 4) hx hb d_L_law_1179 (by decide) ?_
  refine lv_iadd hx hb d_L_law_1180 ?_
  rw [show nI (7 * j) + 4 = nI (7 * j + 4) from nI_add (7 * j) 4]
  refine va_sld hx hb hX hbl hbA hS (vp_in_nI (by omega) (by omega)) d_L_law_1181 ?_
  rw [nI_clamp (show 7 * j + 4 < 2 ^ 31 by omega)]
  refine lv_aload_n hx hb d_L_law_1182 rfl (lv_at hl 3 rfl) ?_
  refine cWr (vx_runSW (As := [.ref (aa 0), .int (xs (7 * j + 1)), .int (xs (7 * j + 2)), .int (xs (7 * j + 3)), .int (xs (7 * j + 4)), .ref o]) (rest := []) ⟨hx, hb, hml, hown, hts⟩ (c_L_body hlt hPc hdC ho hR.1 hVc (xs (7 * j + 1)) (xs (7 * j + 2)) (xs (7 * j + 3)) (xs (7 * j + 4))) (vx_cwSW 6 hts (wBW_goodS (fun _ h => h) ml_L_147 st_L_body ini_L cw_L_body) rfl rfl rfl (by decide +kernel) ⟨Nat.le_of_ble_eq_true rfl, Nat.le_of_ble_eq_true rfl⟩) (pSL hK hT hNc hAc hS _) rfl rfl hl.1 rfl (lv_room (Nat.le_of_ble_eq_true rfl)) d_L_law_1183 ⟨by show _ + 1 ≤ 1087; omega, by show _ + 6 ≤ 11544; omega⟩) hS hAc (fun H locs hPc hS hz hkp => ?_)
  have hPm := wM_kept hPm hdj hkp
  refine lv_istore (lv' := [(5, .int (nI (kTell (haB (kn 0) (xs (7 * j + 1)) && plB (xs (7 * j + 2)).toInt64 (xs (7 * j + 3)).toInt64 && !decide ((xs (7 * j + 4)) < 0))))), (0, .ref b), (1, .ref (aa 0)), (2, .ref (ab 0)), (3, .ref o), (4, .int (nI (7 * j)))]) hx hb d_L_law_1186 hl (by decide) rfl (fun ls hl => ?_)
  refine lv_aload_n hx hb d_L_law_1188 rfl (lv_at hl 3 rfl) ?_
  refine lv_aload_n hx hb d_L_law_1189 rfl (lv_at hl 1 rfl) ?_
  refine lv_iload hx hb d_L_law_1190 (lv_at hl 5 rfl) ?_
  refine lv_iconst (v := 1) hx hb d_L_law_1192 (by decide) ?_
  refine lv_iadd hx hb d_L_law_1193 ?_
  rw [show nI (7 * j) + 1 = nI (7 * j + 1) from nI_add (7 * j) 1]
  refine va_sld hx hb hX hbl hbA hS (vp_in_nI (by omega) (by omega)) d_L_law_1194 ?_
  rw [nI_clamp (show 7 * j + 1 < 2 ^ 31 by omega)]
  refine lv_aload_n hx hb d_L_law_1195 rfl (lv_at hl 1 rfl) ?_
  refine lv_iload hx hb d_L_law_1196 (lv_at hl 5 rfl) ?_
  refine lv_iconst (v := 2) hx hb d_L_law_1198 (by decide) ?_
  refine lv_iadd hx hb d_L_law_1199 ?_
  rw [show nI (7 * j) + 2 = nI (7 * j + 2) from nI_add (7 * j) 2]
  refine va_sld hx hb hX hbl hbA hS (vp_in_nI (by omega) (by omega)) d_L_law_1200 ?_
  rw [nI_clamp (show 7 * j + 2 < 2 ^ 31 by omega)]
  refine lv_aload_n hx hb d_L_law_1201 rfl (lv_at hl 1 rfl) ?_
  refine lv_iload hx hb d_L_law_1202 (lv_at hl 5 rfl) ?_
  refine lv_iconst (v := 3) hx hb d_L_law_1204 (by decide) ?_
  refine lv_iadd hx hb d_L_law_1205 ?_
  rw [show nI (7 * j) + 3 = nI (7 * j + 3) from nI_add (7 * j) 3]
  refine va_sld hx hb hX hbl hbA hS (vp_in_nI (by omega) (by omega)) d_L_law_1206 ?_
  rw [nI_clamp (show 7 * j + 3 < 2 ^ 31 by omega)]
  refine lv_aload_n hx hb d_L_law_1207 rfl (lv_at hl 1 rfl) ?_
  refine lv_iload hx hb d_L_law_1208 (lv_at hl 5 rfl) ?_
  refine lv_iconst (v := 4) hx hb d_L_law_1210 (by decide) ?_
  refine lv_iadd hx hb d_L_law_1211 ?_
  rw [show nI (7 * j) + 4 = nI (7 * j + 4) from nI_add (7 * j) 4]
  refine va_sld hx hb hX hbl hbA hS (vp_in_nI (by omega) (by omega)) d_L_law_1212 ?_
  rw [nI_clamp (show 7 * j + 4 < 2 ^ 31 by omega)]
  refine cW (W.runV (As := [.int (xs (7 * j + 1)), .int (xs (7 * j + 2)), .int (xs (7 * j + 3)), .int (xs (7 * j + 4))]) (rest := []) ⟨hx, hb, hml, hown, hts⟩ (c_M_body hPm hdM hR.2.1 hVm (xs (7 * j + 1)) (xs (7 * j + 2)) (xs (7 * j + 3)) (xs (7 * j + 4))) (cwV 4 hts (wB_goodV (fun _ h => h) ml_L_150 im_M_body se_M_body ini_M co_M_body) rfl rfl rfl (by decide +kernel) ⟨Nat.le_of_ble_eq_true rfl, Nat.le_of_ble_eq_true rfl⟩) (pV hK hPm (ci := 6) (q0 := 0) rfl rfl _) rfl rfl hl.1 rfl (lv_room (Nat.le_of_ble_eq_true rfl)) d_L_law_1213 ⟨by show _ + 1 + 0 ≤ 1087; omega, by show _ + 6 + 0 ≤ 11544; omega⟩) hS hAm (fun H locs hPm hS hz hkp => ?_)
  have hPc := wL_kept hPc hGl.1 hGl.2 hkp
  refine lv_istore (lv' := [(6, .int (if (haB (mk 0) (xs (7 * j + 1)) && ipB (xs (7 * j + 2)).toInt64 (xs (7 * j + 3)).toInt64 && !decide ((xs (7 * j + 4)) < 0)) = true then oI (kth (bdM mv (xs (7 * j + 1)) (xs (7 * j + 2)) (xs (7 * j + 3))) (xs (7 * j + 4)).toNatClampNeg (mn 2)) else 0)), (5, .int (nI (kTell (haB (kn 0) (xs (7 * j + 1)) && plB (xs (7 * j + 2)).toInt64 (xs (7 * j + 3)).toInt64 && !decide ((xs (7 * j + 4)) < 0))))), (0, .ref b), (1, .ref (aa 0)), (2, .ref (ab 0)), (3, .ref o), (4, .int (nI (7 * j)))]) hx hb d_L_law_1216 hl (by decide) rfl (fun ls hl => ?_)
  refine lv_aload_n hx hb d_L_law_1218 rfl (lv_at hl 4 rfl) ?_
  refine cR (W.runV (As := []) (rest := []) ⟨hx, hb, hml, hown, hts⟩ (c_M_thrown hPm) (cwV 0 hts (wB_goodV (fun _ h => h) ml_L_83 im_M_thrown se_M_thrown ini_M co_M_thrown) rfl rfl rfl (by decide +kernel) ⟨Nat.le_of_ble_eq_true rfl, Nat.le_of_ble_eq_true rfl⟩) (pV hK hPm (ci := 6) (q0 := 0) rfl rfl _) rfl rfl hl.1 rfl (lv_room (Nat.le_of_ble_eq_true rfl)) d_L_law_1219 ⟨by show _ + 1 + 0 ≤ 1087; omega, by show _ + 6 + 0 ≤ 11544; omega⟩) ?_
  refine lv_iload hx hb d_L_law_1222 (lv_at hl 1 rfl) ?_
  refine lv_icmp_eq (tgt := 1229) hx hb d_L_law_1224 (by decide) (fun c_1224 => ?_) (fun c_1224 => ?_)
  · refine lv_iload hx hb d_L_law_1229 (lv_at hl 1 rfl) ?_
    refine lv_if_ne (tgt := 1246) hx hb d_L_law_1231 (by decide) (fun c_1231 => ?_) (fun c_1231 => ?_)
    · refine lv_goto (tgt := 1249) hx hb d_L_law_1246 (by decide) ?_
      refine lv_iinc (v := (nI (7 * (j + 1)))) (lv' := [(4, .int (nI (7 * (j + 1)))), (6, .int (if (haB (mk 0) (xs (7 * j + 1)) && ipB (xs (7 * j + 2)).toInt64 (xs (7 * j + 3)).toInt64 && !decide ((xs (7 * j + 4)) < 0)) = true then oI (kth (bdM mv (xs (7 * j + 1)) (xs (7 * j + 2)) (xs (7 * j + 3))) (xs (7 * j + 4)).toNatClampNeg (mn 2)) else 0)), (5, .int (nI (kTell (haB (kn 0) (xs (7 * j + 1)) && plB (xs (7 * j + 2)).toInt64 (xs (7 * j + 3)).toInt64 && !decide ((xs (7 * j + 4)) < 0))))), (0, .ref b), (1, .ref (aa 0)), (2, .ref (ab 0)), (3, .ref o)]) hx hb d_L_law_1249 hl (k := 6) rfl (nI_add (7 * j) 7) (by decide) rfl (fun ls hl => ?_)
      refine lv_goto (tgt := 23) hx hb d_L_law_1252 (by decide) ?_
      exact hnext _ _ nn' _ _ mn' _ _ _ _ _ ls ⟨hPc, hPm, hS, hR'⟩ (by omega) (by omega) (lv_sub hl [3, 4, 5, 6, 0] rfl)
    · have hk0 := (nI_z (kTell_b _)).mp c_1231
      refine lv_aload_n hx hb d_L_law_1234 rfl (lv_at hl 5 rfl) ?_
      refine lv_iconst (v := 0) hx hb d_L_law_1235 (by decide) ?_
      refine va_lald hx hb hK hPc 22 2 rfl rfl (vp_in_nI (n := 0) (by decide) (by decide)) d_L_law_1236 ?_
      refine lv_iload hx hb d_L_law_1237 (lv_at hl 0 rfl) ?_
      refine lv_i2l (v := (if (haB (mk 0) (xs (7 * j + 1)) && ipB (xs (7 * j + 2)).toInt64 (xs (7 * j + 3)).toInt64 && !decide ((xs (7 * j + 4)) < 0)) = true then oI (kth (bdM mv (xs (7 * j + 1)) (xs (7 * j + 2)) (xs (7 * j + 3))) (xs (7 * j + 4)).toNatClampNeg (mn 2)) else 0).toInt64) hx hb d_L_law_1239 rfl ?_
      refine W.lcmp hx hb d_L_law_1240 ?_
      refine lv_if_eq (tgt := 1246) hx hb d_L_law_1241 (by decide) (fun c_1241 => ?_) (fun c_1241 => ?_)
      · refine lv_goto (tgt := 1249) hx hb d_L_law_1246 (by decide) ?_
        refine lv_iinc (v := (nI (7 * (j + 1)))) (lv' := [(4, .int (nI (7 * (j + 1)))), (6, .int (if (haB (mk 0) (xs (7 * j + 1)) && ipB (xs (7 * j + 2)).toInt64 (xs (7 * j + 3)).toInt64 && !decide ((xs (7 * j + 4)) < 0)) = true then oI (kth (bdM mv (xs (7 * j + 1)) (xs (7 * j + 2)) (xs (7 * j + 3))) (xs (7 * j + 4)).toNatClampNeg (mn 2)) else 0)), (5, .int (nI (kTell (haB (kn 0) (xs (7 * j + 1)) && plB (xs (7 * j + 2)).toInt64 (xs (7 * j + 3)).toInt64 && !decide ((xs (7 * j + 4)) < 0))))), (0, .ref b), (1, .ref (aa 0)), (2, .ref (ab 0)), (3, .ref o)]) hx hb d_L_law_1249 hl (k := 6) rfl (nI_add (7 * j) 7) (by decide) rfl (fun ls hl => ?_)
        refine lv_goto (tgt := 23) hx hb d_L_law_1252 (by decide) ?_
        exact hnext _ _ nn' _ _ mn' _ _ _ _ _ ls ⟨hPc, hPm, hS, hR'⟩ (by omega) (by omega) (lv_sub hl [3, 4, 5, 6, 0] rfl)
      · exact absurd (by rw [if_pos hk0]; exact (congrArg (fun z => lg_cmp z _) (s3 hk0)).trans (lg_self _)) c_1241
  · exact absurd ((show nI _ = nI _ by rw [← s1])) c_1224
end
