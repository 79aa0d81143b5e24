section
variable {l : Launch} {dC : Nat → ClassId} {dI : Nat → Nat → Nat} {H : Heap} {ab : Nat → Nat} {cI cZ cJ : ClassId} {mk : Nat → Int32} {mv : Ar} {mn : Nat → Nat}
set_option maxRecDepth 100000 in
set_option maxHeartbeats 4000000 in
theorem c_M_hasBody (hP : va_P (dC, dI) classes (wM ab cI cZ mk mv) H) (hM : okM mk mn) (hV : okV mn mv) {w : Nat} (hw : w < mn 2) (x y : Int32) : Met l y_M_hasBody (wB y_M_hasBody b_M_hasBody 11 (some .boolean)) ({ frames := 1, cells := 0, slots := 0, locals := 21 } : Room) (rP [.ref (ab 0), .int (nI w), .int x, .int y] H (kK dC dI cI cZ cJ)) (QcRead (bI (hbB mv w x y))) 0 0 noA := by
  refine Met.ofW (cc := b_M_hasBody) (maxL := 11) (ret := (some .boolean)) (by decide) rfl ?_
  intro p e s m args below meth c s₁ B hml hv
  obtain ⟨rfl, rfl, hK⟩ := hv
  have hx := B.exec
  have hb := B.bytes
  have hr := B.returns
  have hts0 := atoms_spec (ws := (wB y_M_hasBody b_M_hasBody 11 (some .boolean))) B.pre
  have hts : ∀ w9 ∈ BG, w9.before [.ref (ab 0), .int (nI w), .int x, .int y].toArray s = true := fun w9 hw9 => hts0 w9 (List.mem_cons_of_mem _ hw9)
  have hown : s.vm.findClass R_M = some m.cls := findClass_of_methodNamed B.named
  have hlocks := B.notSynchronized
  have hK : va_K (dC, dI) classes [(cI, .int), (cZ, .boolean), (cJ, .long)] s := hK
  have hl := lv_entry ([.ref (ab 0), .int (nI w), .int x, .int y]) (n := 11) (Nat.le_of_ble_eq_true rfl)
  rw [lg_entry_eq]
  generalize (lg_sl ([.ref (ab 0), .int (nI w), .int x, .int y]) ++ List.replicate (11 - (lg_sl ([.ref (ab 0), .int (nI w), .int x, .int y])).length) Slot.unset).toArray = ls at hl ⊢
  have hl : lv_has ls 11 [(0, .ref (ab 0)), (1, .int (nI w)), (2, .int x), (3, .int y)] := hl
  obtain ⟨eK, b0, b1, b2, b3, b4, b5⟩ := id hM
  refine lv_aload_n hx hb d_M_hasBody_0 rfl (lv_at hl 0 rfl) ?_
  refine va_get (D := (dC, dI)) (ci := 6) (v := .ref (ab 3)) (C := R_M) (T := F_M) (N := 20) hx hb hts i_M hown hK hP 0 rfl rfl 7 (by decide) (hts _ fl_M_16) (fun _ h9 => h9) rfl d_M_hasBody_1 ?_
  refine lv_aload_n hx hb d_M_hasBody_4 rfl (lv_at hl 0 rfl) ?_
  refine va_get (D := (dC, dI)) (ci := 6) (v := .ref (ab 5)) (C := R_M) (T := F_M) (N := 20) hx hb hts i_M hown hK hP 0 rfl rfl 10 (by decide) (hts _ fl_M_22) (fun _ h9 => h9) rfl d_M_hasBody_5 ?_
  refine lv_iload_n hx hb d_M_hasBody_8 rfl (lv_at hl 1 rfl) ?_
  refine va_iald hx hb hK hP 5 0 rfl rfl (vp_in_nI (by omega) (by omega)) d_M_hasBody_9 ?_
  rw [nI_clamp (show w < 2 ^ 31 by omega)]
  refine va_iald hx hb hK hP 3 0 rfl rfl (ixT hV b1 hw) d_M_hasBody_10 ?_
  refine lv_iconst (v := 2) hx hb d_M_hasBody_11 (by decide) ?_
  refine lv_idiv hx hb d_M_hasBody_12 (by decide) ?_
  rw [show mv 1 (mv 3 w).toNatClampNeg / 2 = haC mv w from rfl]
  refine lv_istore (lv' := [(4, .int (haC mv w)), (0, .ref (ab 0)), (1, .int (nI w)), (2, .int x), (3, .int y)]) hx hb d_M_hasBody_13 hl (by decide) rfl (fun ls hl => ?_)
  refine lv_aload_n hx hb d_M_hasBody_15 rfl (lv_at hl 1 rfl) ?_
  refine lv_iload_n hx hb d_M_hasBody_16 rfl (lv_at hl 2 rfl) ?_
  refine cR (W.runV (As := [.int (nI w)]) (rest := []) ⟨hx, hb, hml, hown, hts⟩ (c_M_isAcross hP (show w < 40 by omega)) (cwV 1 hts (wB_goodV (fun _ h => h) ml_M_132 im_M_isAcross se_M_isAcross ini_M co_M_isAcross) rfl rfl rfl (by decide +kernel) ⟨Nat.le_of_ble_eq_true rfl, Nat.le_of_ble_eq_true rfl⟩) (pV hK hP (ci := 6) (q0 := 0) rfl rfl _) rfl rfl hl.1 rfl (lv_room (Nat.le_of_ble_eq_true rfl)) d_M_hasBody_17 ⟨Nat.zero_le _, Nat.zero_le _⟩) ?_
  refine lv_istore (lv' := [(5, .int (bI (alX mv w))), (4, .int (haC mv w)), (0, .ref (ab 0)), (1, .int (nI w)), (2, .int x), (3, .int y)]) hx hb d_M_hasBody_20 hl (by decide) rfl (fun ls hl => ?_)
  refine lv_iload hx hb d_M_hasBody_22 (lv_at hl 0 rfl) ?_
  refine lv_if_eq (tgt := 36) hx hb d_M_hasBody_24 (by decide) (fun c_24 => ?_) (fun c_24 => ?_)
  · have a24 : alX mv w = false := bI_0.mp c_24
    refine lv_aload_n hx hb d_M_hasBody_36 rfl (lv_at hl 2 rfl) ?_
    refine va_get (D := (dC, dI)) (ci := 6) (v := .ref (ab 7)) (C := R_M) (T := F_M) (N := 20) hx hb hts i_M hown hK hP 0 rfl rfl 12 (by decide) (hts _ fl_M_28) (fun _ h9 => h9) rfl d_M_hasBody_37 ?_
    refine lv_iload_n hx hb d_M_hasBody_40 rfl (lv_at hl 3 rfl) ?_
    refine va_iald hx hb hK hP 7 0 rfl rfl (vp_in_nI (by omega) (by omega)) d_M_hasBody_41 ?_
    rw [nI_clamp (show w < 2 ^ 31 by omega)]
    refine lv_istore (lv' := [(6, .int ((mv 5) w)), (5, .int (bI (alX mv w))), (4, .int (haC mv w)), (0, .ref (ab 0)), (1, .int (nI w)), (2, .int x), (3, .int y)]) hx hb d_M_hasBody_42 hl (by decide) rfl (fun ls hl => ?_)
    refine lv_iload hx hb d_M_hasBody_44 (lv_at hl 1 rfl) ?_
    refine lv_if_eq (tgt := 58) hx hb d_M_hasBody_46 (by decide) (fun c_46 => ?_) (fun c_46 => ?_)
    · refine lv_aload_n hx hb d_M_hasBody_58 rfl (lv_at hl 3 rfl) ?_
      refine va_get (D := (dC, dI)) (ci := 6) (v := .ref (ab 9)) (C := R_M) (T := F_M) (N := 20) hx hb hts i_M hown hK hP 0 rfl rfl 14 (by decide) (hts _ fl_M_34) (fun _ h9 => h9) rfl d_M_hasBody_59 ?_
      refine lv_iload_n hx hb d_M_hasBody_62 rfl (lv_at hl 4 rfl) ?_
      refine va_iald hx hb hK hP 9 0 rfl rfl (vp_in_nI (by omega) (by omega)) d_M_hasBody_63 ?_
      rw [nI_clamp (show w < 2 ^ 31 by omega)]
      refine lv_istore (lv' := [(7, .int ((mv 7) w)), (6, .int ((mv 5) w)), (5, .int (bI (alX mv w))), (4, .int (haC mv w)), (0, .ref (ab 0)), (1, .int (nI w)), (2, .int x), (3, .int y)]) hx hb d_M_hasBody_64 hl (by decide) rfl (fun ls hl => ?_)
      refine lv_iload hx hb d_M_hasBody_66 (lv_at hl 2 rfl) ?_
      refine lv_if_eq (tgt := 76) hx hb d_M_hasBody_68 (by decide) (fun c_68 => ?_) (fun c_68 => ?_)
      · refine lv_iload_n hx hb d_M_hasBody_76 rfl (lv_at hl 6 rfl) ?_
        refine lv_i2l (v := x.toInt64) hx hb d_M_hasBody_77 rfl ?_
        refine lv_iload hx hb d_M_hasBody_78 (lv_at hl 2 rfl) ?_
        refine lv_if_eq (tgt := 92) hx hb d_M_hasBody_80 (by decide) (fun c_80 => ?_) (fun c_80 => ?_)
        · refine lv_aload_n hx hb d_M_hasBody_92 rfl (lv_at hl 4 rfl) ?_
          refine va_get (D := (dC, dI)) (ci := 6) (v := .ref (ab 6)) (C := R_M) (T := F_M) (N := 20) hx hb hts i_M hown hK hP 0 rfl rfl 11 (by decide) (hts _ fl_M_25) (fun _ h9 => h9) rfl d_M_hasBody_93 ?_
          refine lv_iload_n hx hb d_M_hasBody_96 rfl (lv_at hl 5 rfl) ?_
          refine va_iald hx hb hK hP 6 0 rfl rfl (vp_in_nI (by omega) (by omega)) d_M_hasBody_97 ?_
          rw [nI_clamp (show w < 2 ^ 31 by omega)]
          refine lv_i2l (v := ((mv 4) w).toInt64) hx hb d_M_hasBody_98 rfl ?_
          refine lv_lsub hx hb d_M_hasBody_99 ?_
          refine lv_lstore (lv' := [(8, .long ((x.toInt64) - (((mv 4) w).toInt64))), (7, .int ((mv 7) w)), (6, .int ((mv 5) w)), (5, .int (bI (alX mv w))), (4, .int (haC mv w)), (0, .ref (ab 0)), (1, .int (nI w)), (2, .int x), (3, .int y)]) hx hb d_M_hasBody_100 hl (by decide) rfl (fun ls hl => ?_)
          refine lv_iload hx hb d_M_hasBody_102 (lv_at hl 3 rfl) ?_
          refine lv_if_eq (tgt := 111) hx hb d_M_hasBody_104 (by decide) (fun c_104 => ?_) (fun c_104 => ?_)
          · refine lv_iload_n hx hb d_M_hasBody_111 rfl (lv_at hl 8 rfl) ?_
            refine lv_istore (lv' := [(10, .int y), (8, .long ((x.toInt64) - (((mv 4) w).toInt64))), (7, .int ((mv 7) w)), (6, .int ((mv 5) w)), (5, .int (bI (alX mv w))), (4, .int (haC mv w)), (0, .ref (ab 0)), (1, .int (nI w)), (2, .int x), (3, .int y)]) hx hb d_M_hasBody_112 hl (by decide) rfl (fun ls hl => ?_)
            refine lv_lload hx hb d_M_hasBody_114 (lv_at hl 1 rfl) ?_
            refine lv_iload hx hb d_M_hasBody_116 (lv_at hl 5 rfl) ?_
            refine lv_ineg hx hb d_M_hasBody_118 ?_
            refine lv_i2l (v := (-(haC mv w)).toInt64) hx hb d_M_hasBody_119 rfl ?_
            refine W.lcmp hx hb d_M_hasBody_120 ?_
            refine lv_if_lt (tgt := 175) hx hb d_M_hasBody_121 (by decide) (fun c_121 => ?_) (fun c_121 => ?_)
            · refine lv_iconst (v := 0) hx hb d_M_hasBody_175 (by decide) ?_
              have er : (bI (hbB mv w x y)) = 0 := by simp only [hbB, a24, if_true, if_false, Bool.false_eq_true]; (try simp only [if_pos c_139]); (try simp only [if_neg c_139]); simp only [bI, decide_eq_true c_24, decide_eq_true c_46, decide_eq_true c_68, decide_eq_true c_80, decide_eq_true c_104, decide_eq_true c_121, Bool.not_true, Bool.not_false, Bool.and_true, Bool.true_and, Bool.false_and, Bool.and_false, Bool.or_true, Bool.true_or, Bool.or_false, Bool.false_or, if_true, if_false, Bool.false_eq_true, Bool.true_eq_false]
              exact W.zret (v := 0) hx hb hr rfl (fun t ht hW => ⟨by rw [er], ht⟩) (fun q h => by cases h) d_M_hasBody_176
            · refine lv_lload hx hb d_M_hasBody_124 (lv_at hl 1 rfl) ?_
              refine lv_iload hx hb d_M_hasBody_126 (lv_at hl 5 rfl) ?_
              refine lv_i2l (v := (haC mv w).toInt64) hx hb d_M_hasBody_128 rfl ?_
              refine W.lcmp hx hb d_M_hasBody_129 ?_
              refine lv_if_gt (tgt := 175) hx hb d_M_hasBody_130 (by decide) (fun c_130 => ?_) (fun c_130 => ?_)
              · refine lv_iconst (v := 0) hx hb d_M_hasBody_175 (by decide) ?_
                have er : (bI (hbB mv w x y)) = 0 := by simp only [hbB, a24, if_true, if_false, Bool.false_eq_true]; (try simp only [if_pos c_139]); (try simp only [if_neg c_139]); simp only [bI, decide_eq_true c_24, decide_eq_true c_46, decide_eq_true c_68, decide_eq_true c_80, decide_eq_true c_104, decide_eq_false c_121, decide_eq_true c_130, Bool.not_true, Bool.not_false, Bool.and_true, Bool.true_and, Bool.false_and, Bool.and_false, Bool.or_true, Bool.true_or, Bool.or_false, Bool.false_or, if_true, if_false, Bool.false_eq_true, Bool.true_eq_false]
                exact W.zret (v := 0) hx hb hr rfl (fun t ht hW => ⟨by rw [er], ht⟩) (fun q h => by cases h) d_M_hasBody_176
              · refine lv_iload hx hb d_M_hasBody_133 (lv_at hl 0 rfl) ?_
                refine lv_iload hx hb d_M_hasBody_135 (lv_at hl 3 rfl) ?_
                refine lv_iload hx hb d_M_hasBody_137 (lv_at hl 2 rfl) ?_
                refine lv_icmp_ge (tgt := 147) hx hb d_M_hasBody_139 (by decide) (fun c_139 => ?_) (fun c_139 => ?_)
                · refine lv_iload hx hb d_M_hasBody_147 (lv_at hl 2 rfl) ?_
                  refine lv_icmp_lt (tgt := 175) hx hb d_M_hasBody_149 (by decide) (fun c_149 => ?_) (fun c_149 => ?_)
                  · refine lv_iconst (v := 0) hx hb d_M_hasBody_175 (by decide) ?_
                    have er : (bI (hbB mv w x y)) = 0 := by simp only [hbB, a24, if_true, if_false, Bool.false_eq_true]; (try simp only [if_pos c_139]); (try simp only [if_neg c_139]); simp only [bI, decide_eq_true c_24, decide_eq_true c_46, decide_eq_true c_68, decide_eq_true c_80, decide_eq_true c_104, decide_eq_false c_121, decide_eq_false c_130, decide_eq_true c_139, decide_eq_true c_149, Bool.not_true, Bool.not_false, Bool.and_true, Bool.true_and, Bool.false_and, Bool.and_false, Bool.or_true, Bool.true_or, Bool.or_false, Bool.false_or, if_true, if_false, Bool.false_eq_true, Bool.true_eq_false]
                    exact W.zret (v := 0) hx hb hr rfl (fun t ht hW => ⟨by rw [er], ht⟩) (fun q h => by cases h) d_M_hasBody_176
                  · refine lv_iload hx hb d_M_hasBody_152 (lv_at hl 0 rfl) ?_
                    refine lv_iload hx hb d_M_hasBody_154 (lv_at hl 3 rfl) ?_
                    refine lv_iload hx hb d_M_hasBody_156 (lv_at hl 2 rfl) ?_
                    refine lv_icmp_ge (tgt := 166) hx hb d_M_hasBody_158 (by decide) (fun c_158 => ?_) (fun c_158 => ?_)
                    · refine lv_iload hx hb d_M_hasBody_166 (lv_at hl 3 rfl) ?_
                      refine lv_icmp_gt (tgt := 175) hx hb d_M_hasBody_168 (by decide) (fun c_168 => ?_) (fun c_168 => ?_)
                      · refine lv_iconst (v := 0) hx hb d_M_hasBody_175 (by decide) ?_
                        have er : (bI (hbB mv w x y)) = 0 := by simp only [hbB, a24, if_true, if_false, Bool.false_eq_true]; (try simp only [if_pos c_139]); (try simp only [if_neg c_139]); simp only [bI, decide_eq_true c_24, decide_eq_true c_46, decide_eq_true c_68, decide_eq_true c_80, decide_eq_true c_104, decide_eq_false c_121, decide_eq_false c_130, decide_eq_true c_139, decide_eq_false c_149, decide_eq_true c_158, decide_eq_true c_168, Bool.not_true, Bool.not_false, Bool.and_true, Bool.true_and, Bool.false_and, Bool.and_false, Bool.or_true, Bool.true_or, Bool.or_false, Bool.false_or, if_true, if_false, Bool.false_eq_true, Bool.true_eq_false]
                        exact W.zret (v := 0) hx hb hr rfl (fun t ht hW => ⟨by rw [er], ht⟩) (fun q h => by cases h) d_M_hasBody_176
                      · refine lv_iconst (v := 1) hx hb d_M_hasBody_171 (by decide) ?_
                        refine lv_goto (tgt := 176) hx hb d_M_hasBody_172 (by decide) ?_
                        have er : (bI (hbB mv w x y)) = 1 := by simp only [hbB, a24, if_true, if_false, Bool.false_eq_true]; (try simp only [if_pos c_139]); (try simp only [if_neg c_139]); simp only [bI, decide_eq_true c_24, decide_eq_true c_46, decide_eq_true c_68, decide_eq_true c_80, decide_eq_true c_104, decide_eq_false c_121, decide_eq_false c_130, decide_eq_true c_139, decide_eq_false c_149, decide_eq_true c_158, decide_eq_false c_168, Bool.not_true, Bool.not_false, Bool.and_true, Bool.true_and, Bool.false_and, Bool.and_false, Bool.or_true, Bool.true_or, Bool.or_false, Bool.false_or, if_true, if_false, Bool.false_eq_true, Bool.true_eq_false]
                        exact W.zret (v := 1) hx hb hr rfl (fun t ht hW => ⟨by rw [er], ht⟩) (fun q h => by cases h) d_M_hasBody_176
                    · exact absurd c_158 (fun h => h c_139)
                · refine lv_iload hx hb d_M_hasBody_142 (lv_at hl 3 rfl) ?_
                  refine lv_goto (tgt := 149) hx hb d_M_hasBody_144 (by decide) ?_
                  refine lv_icmp_lt (tgt := 175) hx hb d_M_hasBody_149 (by decide) (fun c_149 => ?_) (fun c_149 => ?_)
                  · refine lv_iconst (v := 0) hx hb d_M_hasBody_175 (by decide) ?_
                    have er : (bI (hbB mv w x y)) = 0 := by simp only [hbB, a24, if_true, if_false, Bool.false_eq_true]; (try simp only [if_pos c_139]); (try simp only [if_neg c_139]); simp only [bI, decide_eq_true c_24, decide_eq_true c_46, decide_eq_true c_68, decide_eq_true c_80, decide_eq_true c_104, decide_eq_false c_121, decide_eq_false c_130, decide_eq_false c_139, decide_eq_true c_149, Bool.not_true, Bool.not_false, Bool.and_true, Bool.true_and, Bool.false_and, Bool.and_false, Bool.or_true, Bool.true_or, Bool.or_false, Bool.false_or, if_true, if_false, Bool.false_eq_true, Bool.true_eq_false]
                    exact W.zret (v := 0) hx hb hr rfl (fun t ht hW => ⟨by rw [er], ht⟩) (fun q h => by cases h) d_M_hasBody_176
                  · refine lv_iload hx hb d_M_hasBody_152 (lv_at hl 0 rfl) ?_
                    refine lv_iload hx hb d_M_hasBody_154 (lv_at hl 3 rfl) ?_
                    refine lv_iload hx hb d_M_hasBody_156 (lv_at hl 2 rfl) ?_
                    refine lv_icmp_ge (tgt := 166) hx hb d_M_hasBody_158 (by decide) (fun c_158 => ?_) (fun c_158 => ?_)
                    · exact absurd c_158 (c_139)
                    · refine lv_iload hx hb d_M_hasBody_161 (lv_at hl 2 rfl) ?_
                      refine lv_goto (tgt := 168) hx hb d_M_hasBody_163 (by decide) ?_
                      refine lv_icmp_gt (tgt := 175) hx hb d_M_hasBody_168 (by decide) (fun c_168 => ?_) (fun c_168 => ?_)
                      · refine lv_iconst (v := 0) hx hb d_M_hasBody_175 (by decide) ?_
                        have er : (bI (hbB mv w x y)) = 0 := by simp only [hbB, a24, if_true, if_false, Bool.false_eq_true]; (try simp only [if_pos c_139]); (try simp only [if_neg c_139]); simp only [bI, decide_eq_true c_24, decide_eq_true c_46, decide_eq_true c_68, decide_eq_true c_80, decide_eq_true c_104, decide_eq_false c_121, decide_eq_false c_130, decide_eq_false c_139, decide_eq_false c_149, decide_eq_false c_158, decide_eq_true c_168, Bool.not_true, Bool.not_false, Bool.and_true, Bool.true_and, Bool.false_and, Bool.and_false, Bool.or_true, Bool.true_or, Bool.or_false, Bool.false_or, if_true, if_false, Bool.false_eq_true, Bool.true_eq_false]
                        exact W.zret (v := 0) hx hb hr rfl (fun t ht hW => ⟨by rw [er], ht⟩) (fun q h => by cases h) d_M_hasBody_176
                      · refine lv_iconst (v := 1) hx hb d_M_hasBody_171 (by decide) ?_
                        refine lv_goto (tgt := 176) hx hb d_M_hasBody_172 (by decide) ?_
                        have er : (bI (hbB mv w x y)) = 1 := by simp only [hbB, a24, if_true, if_false, Bool.false_eq_true]; (try simp only [if_pos c_139]); (try simp only [if_neg c_139]); simp only [bI, decide_eq_true c_24, decide_eq_true c_46, decide_eq_true c_68, decide_eq_true c_80, decide_eq_true c_104, decide_eq_false c_121, decide_eq_false c_130, decide_eq_false c_139, decide_eq_false c_149, decide_eq_false c_158, decide_eq_false c_168, Bool.not_true, Bool.not_false, Bool.and_true, Bool.true_and, Bool.false_and, Bool.and_false, Bool.or_true, Bool.true_or, Bool.or_false, Bool.false_or, if_true, if_false, Bool.false_eq_true, Bool.true_eq_false]
                        exact W.zret (v := 1) hx hb hr rfl (fun t ht hW => ⟨by rw [er], ht⟩) (fun q h => by cases h) d_M_hasBody_176
          · exact absurd c_104 (fun h => h c_24)
        · exact absurd c_80 (fun h => h c_24)
      · exact absurd c_68 (fun h => h c_24)
    · exact absurd c_46 (fun h => h c_24)
  · have a24 : alX mv w = true := bI_n0.mp c_24
    refine lv_aload_n hx hb d_M_hasBody_27 rfl (lv_at hl 2 rfl) ?_
    refine va_get (D := (dC, dI)) (ci := 6) (v := .ref (ab 6)) (C := R_M) (T := F_M) (N := 20) hx hb hts i_M hown hK hP 0 rfl rfl 11 (by decide) (hts _ fl_M_25) (fun _ h9 => h9) rfl d_M_hasBody_28 ?_
    refine lv_iload_n hx hb d_M_hasBody_31 rfl (lv_at hl 3 rfl) ?_
    refine va_iald hx hb hK hP 6 0 rfl rfl (vp_in_nI (by omega) (by omega)) d_M_hasBody_32 ?_
    rw [nI_clamp (show w < 2 ^ 31 by omega)]
    refine lv_goto (tgt := 42) hx hb d_M_hasBody_33 (by decide) ?_
    refine lv_istore (lv' := [(6, .int ((mv 4) w)), (5, .int (bI (alX mv w))), (4, .int (haC mv w)), (0, .ref (ab 0)), (1, .int (nI w)), (2, .int x), (3, .int y)]) hx hb d_M_hasBody_42 hl (by decide) rfl (fun ls hl => ?_)
    refine lv_iload hx hb d_M_hasBody_44 (lv_at hl 1 rfl) ?_
    refine lv_if_eq (tgt := 58) hx hb d_M_hasBody_46 (by decide) (fun c_46 => ?_) (fun c_46 => ?_)
    · exact absurd c_46 (c_24)
    · refine lv_aload_n hx hb d_M_hasBody_49 rfl (lv_at hl 3 rfl) ?_
      refine va_get (D := (dC, dI)) (ci := 6) (v := .ref (ab 8)) (C := R_M) (T := F_M) (N := 20) hx hb hts i_M hown hK hP 0 rfl rfl 13 (by decide) (hts _ fl_M_31) (fun _ h9 => h9) rfl d_M_hasBody_50 ?_
      refine lv_iload_n hx hb d_M_hasBody_53 rfl (lv_at hl 4 rfl) ?_
      refine va_iald hx hb hK hP 8 0 rfl rfl (vp_in_nI (by omega) (by omega)) d_M_hasBody_54 ?_
      rw [nI_clamp (show w < 2 ^ 31 by omega)]
      refine lv_goto (tgt := 64) hx hb d_M_hasBody_55 (by decide) ?_
      refine lv_istore (lv' := [(7, .int ((mv 6) w)), (6, .int ((mv 4) w)), (5, .int (bI (alX mv w))), (4, .int (haC mv w)), (0, .ref (ab 0)), (1, .int (nI w)), (2, .int x), (3, .int y)]) hx hb d_M_hasBody_64 hl (by decide) rfl (fun ls hl => ?_)
      refine lv_iload hx hb d_M_hasBody_66 (lv_at hl 2 rfl) ?_
      refine lv_if_eq (tgt := 76) hx hb d_M_hasBody_68 (by decide) (fun c_68 => ?_) (fun c_68 => ?_)
      · exact absurd c_68 (c_24)
      · refine lv_iload_n hx hb d_M_hasBody_71 rfl (lv_at hl 7 rfl) ?_
        refine lv_i2l (v := y.toInt64) hx hb d_M_hasBody_72 rfl ?_
        refine lv_goto (tgt := 78) hx hb d_M_hasBody_73 (by decide) ?_
        refine lv_iload hx hb d_M_hasBody_78 (lv_at hl 2 rfl) ?_
        refine lv_if_eq (tgt := 92) hx hb d_M_hasBody_80 (by decide) (fun c_80 => ?_) (fun c_80 => ?_)
        · exact absurd c_80 (c_24)
        · refine lv_aload_n hx hb d_M_hasBody_83 rfl (lv_at hl 4 rfl) ?_
          refine va_get (D := (dC, dI)) (ci := 6) (v := .ref (ab 7)) (C := R_M) (T := F_M) (N := 20) hx hb hts i_M hown hK hP 0 rfl rfl 12 (by decide) (hts _ fl_M_28) (fun _ h9 => h9) rfl d_M_hasBody_84 ?_
          refine lv_iload_n hx hb d_M_hasBody_87 rfl (lv_at hl 5 rfl) ?_
          refine va_iald hx hb hK hP 7 0 rfl rfl (vp_in_nI (by omega) (by omega)) d_M_hasBody_88 ?_
          rw [nI_clamp (show w < 2 ^ 31 by omega)]
          refine lv_goto (tgt := 98) hx hb d_M_hasBody_89 (by decide) ?_
          refine lv_i2l (v := ((mv 5) w).toInt64) hx hb d_M_hasBody_98 rfl ?_
          refine lv_lsub hx hb d_M_hasBody_99 ?_
          refine lv_lstore (lv' := [(8, .long ((y.toInt64) - (((mv 5) w).toInt64))), (7, .int ((mv 6) w)), (6, .int ((mv 4) w)), (5, .int (bI (alX mv w))), (4, .int (haC mv w)), (0, .ref (ab 0)), (1, .int (nI w)), (2, .int x), (3, .int y)]) hx hb d_M_hasBody_100 hl (by decide) rfl (fun ls hl => ?_)
          refine lv_iload hx hb d_M_hasBody_102 (lv_at hl 3 rfl) ?_
          refine lv_if_eq (tgt := 111) hx hb d_M_hasBody_104 (by decide) (fun c_104 => ?_) (fun c_104 => ?_)
          · exact absurd c_104 (c_24)
          · refine lv_iload_n hx hb d_M_hasBody_107 rfl (lv_at hl 7 rfl) ?_
            refine lv_goto (tgt := 112) hx hb d_M_hasBody_108 (by decide) ?_
            refine lv_istore (lv' := [(10, .int x), (8, .long ((y.toInt64) - (((mv 5) w).toInt64))), (7, .int ((mv 6) w)), (6, .int ((mv 4) w)), (5, .int (bI (alX mv w))), (4, .int (haC mv w)), (0, .ref (ab 0)), (1, .int (nI w)), (2, .int x), (3, .int y)]) hx hb d_M_hasBody_112 hl (by decide) rfl (fun ls hl => ?_)
            refine lv_lload hx hb d_M_hasBody_114 (lv_at hl 1 rfl) ?_
            refine lv_iload hx hb d_M_hasBody_116 (lv_at hl 5 rfl) ?_
            refine lv_ineg hx hb d_M_hasBody_118 ?_
            refine lv_i2l (v := (-(haC mv w)).toInt64) hx hb d_M_hasBody_119 rfl ?_
            refine W.lcmp hx hb d_M_hasBody_120 ?_
            refine lv_if_lt (tgt := 175) hx hb d_M_hasBody_121 (by decide) (fun c_121 => ?_) (fun c_121 => ?_)
            · refine lv_iconst (v := 0) hx hb d_M_hasBody_175 (by decide) ?_
              have er : (bI (hbB mv w x y)) = 0 := by simp only [hbB, a24, if_true, if_false, Bool.false_eq_true]; (try simp only [if_pos c_139]); (try simp only [if_neg c_139]); simp only [bI, decide_eq_false c_24, decide_eq_false c_46, decide_eq_false c_68, decide_eq_false c_80, decide_eq_false c_104, decide_eq_true c_121, Bool.not_true, Bool.not_false, Bool.and_true, Bool.true_and, Bool.false_and, Bool.and_false, Bool.or_true, Bool.true_or, Bool.or_false, Bool.false_or, if_true, if_false, Bool.false_eq_true, Bool.true_eq_false]
              exact W.zret (v := 0) hx hb hr rfl (fun t ht hW => ⟨by rw [er], ht⟩) (fun q h => by cases h) d_M_hasBody_176
            · refine lv_lload hx hb d_M_hasBody_124 (lv_at hl 1 rfl) ?_
              refine lv_iload hx hb d_M_hasBody_126 (lv_at hl 5 rfl) ?_
              refine lv_i2l (v := (haC mv w).toInt64) hx hb d_M_hasBody_128 rfl ?_
              refine W.lcmp hx hb d_M_hasBody_129 ?_
              refine lv_if_gt (tgt := 175) hx hb d_M_hasBody_130 (by decide) (fun c_130 => ?_) (fun c_130 => ?_)
              · refine lv_iconst (v := 0) hx hb d_M_hasBody_175 (by decide) ?_
                have er : (bI (hbB mv w x y)) = 0 := by simp only [hbB, a24, if_true, if_false, Bool.false_eq_true]; (try simp only [if_pos c_139]); (try simp only [if_neg c_139]); simp only [bI, decide_eq_false c_24, decide_eq_false c_46, decide_eq_false c_68, decide_eq_false c_80, decide_eq_false c_104, decide_eq_false c_121, decide_eq_true c_130, Bool.not_true, Bool.not_false, Bool.and_true, Bool.true_and, Bool.false_and, Bool.and_false, Bool.or_true, Bool.true_or, Bool.or_false, Bool.false_or, if_true, if_false, Bool.false_eq_true, Bool.true_eq_false]
                exact W.zret (v := 0) hx hb hr rfl (fun t ht hW => ⟨by rw [er], ht⟩) (fun q h => by cases h) d_M_hasBody_176
              · refine lv_iload hx hb d_M_hasBody_133 (lv_at hl 0 rfl) ?_
                refine lv_iload hx hb d_M_hasBody_135 (lv_at hl 3 rfl) ?_
                refine lv_iload hx hb d_M_hasBody_137 (lv_at hl 2 rfl) ?_
                refine lv_icmp_ge (tgt := 147) hx hb d_M_hasBody_139 (by decide) (fun c_139 => ?_) (fun c_139 => ?_)
                · refine lv_iload hx hb d_M_hasBody_147 (lv_at hl 2 rfl) ?_
                  refine lv_icmp_lt (tgt := 175) hx hb d_M_hasBody_149 (by decide) (fun c_149 => ?_) (fun c_149 => ?_)
                  · refine lv_iconst (v := 0) hx hb d_M_hasBody_175 (by decide) ?_
                    have er : (bI (hbB mv w x y)) = 0 := by simp only [hbB, a24, if_true, if_false, Bool.false_eq_true]; (try simp only [if_pos c_139]); (try simp only [if_neg c_139]); simp only [bI, decide_eq_false c_24, decide_eq_false c_46, decide_eq_false c_68, decide_eq_false c_80, decide_eq_false c_104, decide_eq_false c_121, decide_eq_false c_130, decide_eq_true c_139, decide_eq_true c_149, Bool.not_true, Bool.not_false, Bool.and_true, Bool.true_and, Bool.false_and, Bool.and_false, Bool.or_true, Bool.true_or, Bool.or_false, Bool.false_or, if_true, if_false, Bool.false_eq_true, Bool.true_eq_false]
                    exact W.zret (v := 0) hx hb hr rfl (fun t ht hW => ⟨by rw [er], ht⟩) (fun q h => by cases h) d_M_hasBody_176
                  · refine lv_iload hx hb d_M_hasBody_152 (lv_at hl 0 rfl) ?_
                    refine lv_iload hx hb d_M_hasBody_154 (lv_at hl 3 rfl) ?_
                    refine lv_iload hx hb d_M_hasBody_156 (lv_at hl 2 rfl) ?_
                    refine lv_icmp_ge (tgt := 166) hx hb d_M_hasBody_158 (by decide) (fun c_158 => ?_) (fun c_158 => ?_)
                    · refine lv_iload hx hb d_M_hasBody_166 (lv_at hl 3 rfl) ?_
                      refine lv_icmp_gt (tgt := 175) hx hb d_M_hasBody_168 (by decide) (fun c_168 => ?_) (fun c_168 => ?_)
                      · refine lv_iconst (v := 0) hx hb d_M_hasBody_175 (by decide) ?_
                        have er : (bI (hbB mv w x y)) = 0 := by simp only [hbB, a24, if_true, if_false, Bool.false_eq_true]; (try simp only [if_pos c_139]); (try simp only [if_neg c_139]); simp only [bI, decide_eq_false c_24, decide_eq_false c_46, decide_eq_false c_68, decide_eq_false c_80, decide_eq_false c_104, decide_eq_false c_121, decide_eq_false c_130, decide_eq_true c_139, decide_eq_false c_149, decide_eq_true c_158, decide_eq_true c_168, Bool.not_true, Bool.not_false, Bool.and_true, Bool.true_and, Bool.false_and, Bool.and_false, Bool.or_true, Bool.true_or, Bool.or_false, Bool.false_or, if_true, if_false, Bool.false_eq_true, Bool.true_eq_false]
                        exact W.zret (v := 0) hx hb hr rfl (fun t ht hW => ⟨by rw [er], ht⟩) (fun q h => by cases h) d_M_hasBody_176
                      · refine lv_iconst (v := 1) hx hb d_M_hasBody_171 (by decide) ?_
                        refine lv_goto (tgt := 176) hx hb d_M_hasBody_172 (by decide) ?_
                        have er : (bI (hbB mv w x y)) = 1 := by simp only [hbB, a24, if_true, if_false, Bool.false_eq_true]; (try simp only [if_pos c_139]); (try simp only [if_neg c_139]); simp only [bI, decide_eq_false c_24, decide_eq_false c_46, decide_eq_false c_68, decide_eq_false c_80, decide_eq_false c_104, decide_eq_false c_121, decide_eq_false c_130, decide_eq_true c_139, decide_eq_false c_149, decide_eq_true c_158, decide_eq_false c_168, Bool.not_true, Bool.not_false, Bool.and_true, Bool.true_and, Bool.false_and, Bool.and_false, Bool.or_true, Bool.true_or, Bool.or_false, Bool.false_or, if_true, if_false, Bool.false_eq_true, Bool.true_eq_false]
                        exact W.zret (v := 1) hx hb hr rfl (fun t ht hW => ⟨by rw [er], ht⟩) (fun q h => by cases h) d_M_hasBody_176
                    · exact absurd c_158 (fun h => h c_139)
                · refine lv_iload hx hb d_M_hasBody_142 (lv_at hl 3 rfl) ?_
                  refine lv_goto (tgt := 149) hx hb d_M_hasBody_144 (by decide) ?_
                  refine lv_icmp_lt (tgt := 175) hx hb d_M_hasBody_149 (by decide) (fun c_149 => ?_) (fun c_149 => ?_)
                  · refine lv_iconst (v := 0) hx hb d_M_hasBody_175 (by decide) ?_
                    have er : (bI (hbB mv w x y)) = 0 := by simp only [hbB, a24, if_true, if_false, Bool.false_eq_true]; (try simp only [if_pos c_139]); (try simp only [if_neg c_139]); simp only [bI, decide_eq_false c_24, decide_eq_false c_46, decide_eq_false c_68, decide_eq_false c_80, decide_eq_false c_104, decide_eq_false c_121, decide_eq_false c_130, decide_eq_false c_139, decide_eq_true c_149, Bool.not_true, Bool.not_false, Bool.and_true, Bool.true_and, Bool.false_and, Bool.and_false, Bool.or_true, Bool.true_or, Bool.or_false, Bool.false_or, if_true, if_false, Bool.false_eq_true, Bool.true_eq_false]
                    exact W.zret (v := 0) hx hb hr rfl (fun t ht hW => ⟨by rw [er], ht⟩) (fun q h => by cases h) d_M_hasBody_176
                  · refine lv_iload hx hb d_M_hasBody_152 (lv_at hl 0 rfl) ?_
                    refine lv_iload hx hb d_M_hasBody_154 (lv_at hl 3 rfl) ?_
                    refine lv_iload hx hb d_M_hasBody_156 (lv_at hl 2 rfl) ?_
                    refine lv_icmp_ge (tgt := 166) hx hb d_M_hasBody_158 (by decide) (fun c_158 => ?_) (fun c_158 => ?_)
                    · exact absurd c_158 (c_139)
                    · refine lv_iload hx hb d_M_hasBody_161 (lv_at hl 2 rfl) ?_
                      refine lv_goto (tgt := 168) hx hb d_M_hasBody_163 (by decide) ?_
                      refine lv_icmp_gt (tgt := 175) hx hb d_M_hasBody_168 (by decide) (fun c_168 => ?_) (fun c_168 => ?_)
                      · refine lv_iconst (v := 0) hx hb d_M_hasBody_175 (by decide) ?_
                        have er : (bI (hbB mv w x y)) = 0 := by simp only [hbB, a24, if_true, if_false, Bool.false_eq_true]; (try simp only [if_pos c_139]); (try simp only [if_neg c_139]); simp only [bI, decide_eq_false c_24, decide_eq_false c_46, decide_eq_false c_68, decide_eq_false c_80, decide_eq_false c_104, decide_eq_false c_121, decide_eq_false c_130, decide_eq_false c_139, decide_eq_false c_149, decide_eq_false c_158, decide_eq_true c_168, Bool.not_true, Bool.not_false, Bool.and_true, Bool.true_and, Bool.false_and, Bool.and_false, Bool.or_true, Bool.true_or, Bool.or_false, Bool.false_or, if_true, if_false, Bool.false_eq_true, Bool.true_eq_false]
                        exact W.zret (v := 0) hx hb hr rfl (fun t ht hW => ⟨by rw [er], ht⟩) (fun q h => by cases h) d_M_hasBody_176
                      · refine lv_iconst (v := 1) hx hb d_M_hasBody_171 (by decide) ?_
                        refine lv_goto (tgt := 176) hx hb d_M_hasBody_172 (by decide) ?_
                        have er : (bI (hbB mv w x y)) = 1 := by simp only [hbB, a24, if_true, if_false, Bool.false_eq_true]; (try simp only [if_pos c_139]); (try simp only [if_neg c_139]); simp only [bI, decide_eq_false c_24, decide_eq_false c_46, decide_eq_false c_68, decide_eq_false c_80, decide_eq_false c_104, decide_eq_false c_121, decide_eq_false c_130, decide_eq_false c_139, decide_eq_false c_149, decide_eq_false c_158, decide_eq_false c_168, Bool.not_true, Bool.not_false, Bool.and_true, Bool.true_and, Bool.false_and, Bool.and_false, Bool.or_true, Bool.true_or, Bool.or_false, Bool.false_or, if_true, if_false, Bool.false_eq_true, Bool.true_eq_false]
                        exact W.zret (v := 1) hx hb hr rfl (fun t ht hW => ⟨by rw [er], ht⟩) (fun q h => by cases h) d_M_hasBody_176
set_option maxRecDepth 100000 in
set_option maxHeartbeats 4000000 in
theorem c_M_goes (hP : va_P (dC, dI) classes (wM ab cI cZ mk mv) H) (hdD : dD noT ab 14) (ra rb : Bool) {d : Nat} (e4 : mk 4 = nI d) (hd : d ≤ 200) : Met l y_M_goes (wB y_M_goes b_M_goes 3 (some .boolean)) ({ frames := 0, cells := 0, slots := 0, locals := 0 } : Room) (rP [.ref (ab 0), .int (bI ra), .int (bI rb)] H (kK dC dI cI cZ cJ)) (qW (some (.int (bI (decide (kAct ra rb d = 0))))) (aN ab 14) (fun H1 => va_P (dC, dI) classes (wM ab cI cZ (va_up mk 6 (nI (kAct ra rb d))) mv) H1)) 0 0 (aN ab 14) := by
  refine Met.ofW (cc := b_M_goes) (maxL := 3) (ret := (some .boolean)) (by decide) rfl ?_
  intro p e s m args below meth c s₁ B hml hv
  obtain ⟨rfl, rfl, hK⟩ := hv
  have hx := B.exec
  have hb := B.bytes
  have hr := B.returns
  have hts0 := atoms_spec (ws := (wB y_M_goes b_M_goes 3 (some .boolean))) B.pre
  have hts : ∀ w9 ∈ BG, w9.before [.ref (ab 0), .int (bI ra), .int (bI rb)].toArray s = true := fun w9 hw9 => hts0 w9 (List.mem_cons_of_mem _ hw9)
  have hown : s.vm.findClass R_M = some m.cls := findClass_of_methodNamed B.named
  have hlocks := B.notSynchronized
  have hK : va_K (dC, dI) classes [(cI, .int), (cZ, .boolean), (cJ, .long)] s := hK
  have hD : va_D (aN ab 14) (wM ab cI cZ mk mv) := wM_D (dD_aN hdD)
  have hS : va_S (aN ab 14) s.heap s.heap [] := va_S.rf
  have hl := lv_entry ([.ref (ab 0), .int (bI ra), .int (bI rb)]) (n := 3) (Nat.le_of_ble_eq_true rfl)
  rw [lg_entry_eq]
  generalize (lg_sl ([.ref (ab 0), .int (bI ra), .int (bI rb)]) ++ List.replicate (3 - (lg_sl ([.ref (ab 0), .int (bI ra), .int (bI rb)])).length) Slot.unset).toArray = ls at hl ⊢
  have hl : lv_has ls 3 [(0, .ref (ab 0)), (1, .int (bI ra)), (2, .int (bI rb))] := hl
  refine lv_aload_n hx hb d_M_goes_0 rfl (lv_at hl 0 rfl) ?_
  refine lv_iload_n hx hb d_M_goes_1 rfl (lv_at hl 1 rfl) ?_
  refine lv_if_ne (tgt := 9) hx hb d_M_goes_2 (by decide) (fun c_2 => ?_) (fun c_2 => ?_)
  · have a2 : ra = true := bI_n0.mp c_2
    refine lv_iload_n hx hb d_M_goes_9 rfl (lv_at hl 2 rfl) ?_
    refine lv_if_eq (tgt := 23) hx hb d_M_goes_10 (by decide) (fun c_10 => ?_) (fun c_10 => ?_)
    · have a10 : rb = false := bI_0.mp c_10
      have ek : kAct ra rb d = 2 := by simp [kAct, a2, a10]
      refine lv_iconst (v := 2) hx hb d_M_goes_23 (by decide) ?_
      refine lv_goto (tgt := 28) hx hb d_M_goes_24 (by decide) ?_
      refine va_put (D := (dC, dI)) (ci := 6) (v := .int 2) (ty := .int) (C := R_M) (T := F_M) (N := 20) hx hb hts i_M ty_M tok_M n_M hown hK hP hD hS 0 rfl rfl 0 (by decide) (hts _ fl_M_50) (fun _ h9 => h9) rfl (by decide +kernel) rfl rfl (Nat.le_of_ble_eq_true rfl) d_M_goes_28 (fun H locs hP hD hS => ?_)
      have hP : va_P (dC, dI) classes (wM ab cI cZ (va_up mk 6 2) mv) H := hP
      have hD : va_D (aN ab 14) (wM ab cI cZ (va_up mk 6 2) mv) := hD
      refine lv_aload_n hx hb d_M_goes_31 rfl (lv_at hl 0 rfl) ?_
      refine va_get (D := (dC, dI)) (ci := 6) (v := .int 2) (C := R_M) (T := F_M) (N := 20) hx hb hts i_M hown hK hP 0 rfl rfl 0 (by decide) (hts _ fl_M_50) (fun _ h9 => h9) rfl d_M_goes_32 ?_
      refine lv_if_ne (tgt := 42) hx hb d_M_goes_35 (by decide) (fun c_35 => ?_) (fun c_35 => ?_)
      · refine lv_iconst (v := 0) hx hb d_M_goes_42 (by decide) ?_
        have er : ((some (.int (bI (decide (kAct ra rb d = 0))))) : Option Value) = some (.int 0) := by rw [ek]; rfl
        have hPe : va_P (dC, dI) classes (wM ab cI cZ (va_up mk 6 (nI (kAct ra rb d))) mv) H := by rw [ek]; exact hP
        exact W.zret (v := 0) hx hb hr rfl (fun t ht hW => ⟨by rw [er], by rw [ht]; exact hPe, hS.F ht⟩) hS.2.2 d_M_goes_43
      · exact absurd c_35 (by decide)
    · have a10 : rb = true := bI_n0.mp c_10
      refine lv_aload_n hx hb d_M_goes_13 rfl (lv_at hl 0 rfl) ?_
      refine va_get (D := (dC, dI)) (ci := 6) (v := .int (nI d)) (C := R_M) (T := F_M) (N := 20) hx hb hts i_M hown hK hP 0 rfl rfl 2 (by decide) (hts _ fl_M_71) (fun _ h9 => h9) (by rw [← e4]; rfl) d_M_goes_14 ?_
      refine lv_sipush (v := 200) hx hb d_M_goes_17 (by decide) ?_
      refine lv_icmp_ne (tgt := 27) hx hb d_M_goes_20 (by decide) (fun c_20 => ?_) (fun c_20 => ?_)
      · have a20 : ¬ 200 ≤ d := fun h => c_20 (by rw [show d = 200 by omega]; rfl)
        have ek : kAct ra rb d = 0 := by simp [kAct, a2, a10, a20]
        refine lv_iconst (v := 0) hx hb d_M_goes_27 (by decide) ?_
        refine va_put (D := (dC, dI)) (ci := 6) (v := .int 0) (ty := .int) (C := R_M) (T := F_M) (N := 20) hx hb hts i_M ty_M tok_M n_M hown hK hP hD hS 0 rfl rfl 0 (by decide) (hts _ fl_M_50) (fun _ h9 => h9) rfl (by decide +kernel) rfl rfl (Nat.le_of_ble_eq_true rfl) d_M_goes_28 (fun H locs hP hD hS => ?_)
        have hP : va_P (dC, dI) classes (wM ab cI cZ (va_up mk 6 0) mv) H := hP
        have hD : va_D (aN ab 14) (wM ab cI cZ (va_up mk 6 0) mv) := hD
        refine lv_aload_n hx hb d_M_goes_31 rfl (lv_at hl 0 rfl) ?_
        refine va_get (D := (dC, dI)) (ci := 6) (v := .int 0) (C := R_M) (T := F_M) (N := 20) hx hb hts i_M hown hK hP 0 rfl rfl 0 (by decide) (hts _ fl_M_50) (fun _ h9 => h9) rfl d_M_goes_32 ?_
        refine lv_if_ne (tgt := 42) hx hb d_M_goes_35 (by decide) (fun c_35 => ?_) (fun c_35 => ?_)
        · exact absurd c_35 (by decide)
        · refine lv_iconst (v := 1) hx hb d_M_goes_38 (by decide) ?_
          refine lv_goto (tgt := 43) hx hb d_M_goes_39 (by decide) ?_
          have er : ((some (.int (bI (decide (kAct ra rb d = 0))))) : Option Value) = some (.int 1) := by rw [ek]; rfl
          have hPe : va_P (dC, dI) classes (wM ab cI cZ (va_up mk 6 (nI (kAct ra rb d))) mv) H := by rw [ek]; exact hP
          exact W.zret (v := 1) hx hb hr rfl (fun t ht hW => ⟨by rw [er], by rw [ht]; exact hPe, hS.F ht⟩) hS.2.2 d_M_goes_43
      · have a20 : d = 200 := (nI_eq (by omega) (by decide)).mp (show nI d = nI 200 from c_20)
        have ek : kAct ra rb d = 2 := by simp [kAct, a2, a10, a20]
        refine lv_iconst (v := 2) hx hb d_M_goes_23 (by decide) ?_
        refine lv_goto (tgt := 28) hx hb d_M_goes_24 (by decide) ?_
        refine va_put (D := (dC, dI)) (ci := 6) (v := .int 2) (ty := .int) (C := R_M) (T := F_M) (N := 20) hx hb hts i_M ty_M tok_M n_M hown hK hP hD hS 0 rfl rfl 0 (by decide) (hts _ fl_M_50) (fun _ h9 => h9) rfl (by decide +kernel) rfl rfl (Nat.le_of_ble_eq_true rfl) d_M_goes_28 (fun H locs hP hD hS => ?_)
        have hP : va_P (dC, dI) classes (wM ab cI cZ (va_up mk 6 2) mv) H := hP
        have hD : va_D (aN ab 14) (wM ab cI cZ (va_up mk 6 2) mv) := hD
        refine lv_aload_n hx hb d_M_goes_31 rfl (lv_at hl 0 rfl) ?_
        refine va_get (D := (dC, dI)) (ci := 6) (v := .int 2) (C := R_M) (T := F_M) (N := 20) hx hb hts i_M hown hK hP 0 rfl rfl 0 (by decide) (hts _ fl_M_50) (fun _ h9 => h9) rfl d_M_goes_32 ?_
        refine lv_if_ne (tgt := 42) hx hb d_M_goes_35 (by decide) (fun c_35 => ?_) (fun c_35 => ?_)
        · refine lv_iconst (v := 0) hx hb d_M_goes_42 (by decide) ?_
          have er : ((some (.int (bI (decide (kAct ra rb d = 0))))) : Option Value) = some (.int 0) := by rw [ek]; rfl
          have hPe : va_P (dC, dI) classes (wM ab cI cZ (va_up mk 6 (nI (kAct ra rb d))) mv) H := by rw [ek]; exact hP
          exact W.zret (v := 0) hx hb hr rfl (fun t ht hW => ⟨by rw [er], by rw [ht]; exact hPe, hS.F ht⟩) hS.2.2 d_M_goes_43
        · exact absurd c_35 (by decide)
  · have a2 : ra = false := bI_0.mp c_2
    have ek : kAct ra rb d = 1 := by simp [kAct, a2]
    refine lv_iconst (v := 1) hx hb d_M_goes_5 (by decide) ?_
    refine lv_goto (tgt := 28) hx hb d_M_goes_6 (by decide) ?_
    refine va_put (D := (dC, dI)) (ci := 6) (v := .int 1) (ty := .int) (C := R_M) (T := F_M) (N := 20) hx hb hts i_M ty_M tok_M n_M hown hK hP hD hS 0 rfl rfl 0 (by decide) (hts _ fl_M_50) (fun _ h9 => h9) rfl (by decide +kernel) rfl rfl (Nat.le_of_ble_eq_true rfl) d_M_goes_28 (fun H locs hP hD hS => ?_)
    have hP : va_P (dC, dI) classes (wM ab cI cZ (va_up mk 6 1) mv) H := hP
    have hD : va_D (aN ab 14) (wM ab cI cZ (va_up mk 6 1) mv) := hD
    refine lv_aload_n hx hb d_M_goes_31 rfl (lv_at hl 0 rfl) ?_
    refine va_get (D := (dC, dI)) (ci := 6) (v := .int 1) (C := R_M) (T := F_M) (N := 20) hx hb hts i_M hown hK hP 0 rfl rfl 0 (by decide) (hts _ fl_M_50) (fun _ h9 => h9) rfl d_M_goes_32 ?_
    refine lv_if_ne (tgt := 42) hx hb d_M_goes_35 (by decide) (fun c_35 => ?_) (fun c_35 => ?_)
    · refine lv_iconst (v := 0) hx hb d_M_goes_42 (by decide) ?_
      have er : ((some (.int (bI (decide (kAct ra rb d = 0))))) : Option Value) = some (.int 0) := by rw [ek]; rfl
      have hPe : va_P (dC, dI) classes (wM ab cI cZ (va_up mk 6 (nI (kAct ra rb d))) mv) H := by rw [ek]; exact hP
      exact W.zret (v := 0) hx hb hr rfl (fun t ht hW => ⟨by rw [er], by rw [ht]; exact hPe, hS.F ht⟩) hS.2.2 d_M_goes_43
    · exact absurd c_35 (by decide)
set_option maxRecDepth 100000 in
set_option maxHeartbeats 4000000 in
theorem c_M_tells (hP : va_P (dC, dI) classes (wM ab cI cZ mk mv) H) (hdD : dD noT ab 14) (ra : Bool) : Met l y_M_tells (wB y_M_tells b_M_tells 2 (some .boolean)) ({ frames := 0, cells := 0, slots := 0, locals := 0 } : Room) (rP [.ref (ab 0), .int (bI ra)] H (kK dC dI cI cZ cJ)) (qW (some (.int (bI ra))) (aN ab 14) (fun H1 => va_P (dC, dI) classes (wM ab cI cZ (va_up mk 6 (nI (kTell ra))) mv) H1)) 0 0 (aN ab 14) := by
  refine Met.ofW (cc := b_M_tells) (maxL := 2) (ret := (some .boolean)) (by decide) rfl ?_
  intro p e s m args below meth c s₁ B hml hv
  obtain ⟨rfl, rfl, hK⟩ := hv
  have hx := B.exec
  have hb := B.bytes
  have hr := B.returns
  have hts0 := atoms_spec (ws := (wB y_M_tells b_M_tells 2 (some .boolean))) B.pre
  have hts : ∀ w9 ∈ BG, w9.before [.ref (ab 0), .int (bI ra)].toArray s = true := fun w9 hw9 => hts0 w9 (List.mem_cons_of_mem _ hw9)
  have hown : s.vm.findClass R_M = some m.cls := findClass_of_methodNamed B.named
  have hlocks := B.notSynchronized
  have hK : va_K (dC, dI) classes [(cI, .int), (cZ, .boolean), (cJ, .long)] s := hK
  have hD : va_D (aN ab 14) (wM ab cI cZ mk mv) := wM_D (dD_aN hdD)
  have hS : va_S (aN ab 14) s.heap s.heap [] := va_S.rf
  have hl := lv_entry ([.ref (ab 0), .int (bI ra)]) (n := 2) (Nat.le_of_ble_eq_true rfl)
  rw [lg_entry_eq]
  generalize (lg_sl ([.ref (ab 0), .int (bI ra)]) ++ List.replicate (2 - (lg_sl ([.ref (ab 0), .int (bI ra)])).length) Slot.unset).toArray = ls at hl ⊢
  have hl : lv_has ls 2 [(0, .ref (ab 0)), (1, .int (bI ra))] := hl
  refine lv_aload_n hx hb d_M_tells_0 rfl (lv_at hl 0 rfl) ?_
  refine lv_iload_n hx hb d_M_tells_1 rfl (lv_at hl 1 rfl) ?_
  refine lv_if_eq (tgt := 9) hx hb d_M_tells_2 (by decide) (fun c_2 => ?_) (fun c_2 => ?_)
  · have a2 : ra = false := bI_0.mp c_2
    refine lv_iconst (v := 1) hx hb d_M_tells_9 (by decide) ?_
    refine va_put (D := (dC, dI)) (ci := 6) (v := .int 1) (ty := .int) (C := R_M) (T := F_M) (N := 20) hx hb hts i_M ty_M tok_M n_M hown hK hP hD hS 0 rfl rfl 0 (by decide) (hts _ fl_M_50) (fun _ h9 => h9) rfl (by decide +kernel) rfl rfl (Nat.le_of_ble_eq_true rfl) d_M_tells_10 (fun H locs hP hD hS => ?_)
    have hP : va_P (dC, dI) classes (wM ab cI cZ (va_up mk 6 1) mv) H := hP
    have hD : va_D (aN ab 14) (wM ab cI cZ (va_up mk 6 1) mv) := hD
    refine lv_iload_n hx hb d_M_tells_13 rfl (lv_at hl 1 rfl) ?_
    have er : ((some (.int (bI ra))) : Option Value) = some (.int (bI ra)) := by rfl
    have hPe : va_P (dC, dI) classes (wM ab cI cZ (va_up mk 6 (nI (kTell ra))) mv) H := by first | (rw [show nI (kTell ra) = 0 by subst a2; rfl]; exact hP) | (rw [show nI (kTell ra) = 1 by subst a2; rfl]; exact hP)
    exact W.zret (v := (bI ra)) hx hb hr (bI_nar _) (fun t ht hW => ⟨by rw [er], by rw [ht]; exact hPe, hS.F ht⟩) hS.2.2 d_M_tells_14
  · have a2 : ra = true := bI_n0.mp c_2
    refine lv_iconst (v := 0) hx hb d_M_tells_5 (by decide) ?_
    refine lv_goto (tgt := 10) hx hb d_M_tells_6 (by decide) ?_
    refine va_put (D := (dC, dI)) (ci := 6) (v := .int 0) (ty := .int) (C := R_M) (T := F_M) (N := 20) hx hb hts i_M ty_M tok_M n_M hown hK hP hD hS 0 rfl rfl 0 (by decide) (hts _ fl_M_50) (fun _ h9 => h9) rfl (by decide +kernel) rfl rfl (Nat.le_of_ble_eq_true rfl) d_M_tells_10 (fun H locs hP hD hS => ?_)
    have hP : va_P (dC, dI) classes (wM ab cI cZ (va_up mk 6 0) mv) H := hP
    have hD : va_D (aN ab 14) (wM ab cI cZ (va_up mk 6 0) mv) := hD
    refine lv_iload_n hx hb d_M_tells_13 rfl (lv_at hl 1 rfl) ?_
    have er : ((some (.int (bI ra))) : Option Value) = some (.int (bI ra)) := by rfl
    have hPe : va_P (dC, dI) classes (wM ab cI cZ (va_up mk 6 (nI (kTell ra))) mv) H := by first | (rw [show nI (kTell ra) = 0 by subst a2; rfl]; exact hP) | (rw [show nI (kTell ra) = 1 by subst a2; rfl]; exact hP)
    exact W.zret (v := (bI ra)) hx hb hr (bI_nar _) (fun t ht hW => ⟨by rw [er], by rw [ht]; exact hPe, hS.F ht⟩) hS.2.2 d_M_tells_14
set_option maxRecDepth 100000 in
set_option maxHeartbeats 4000000 in
theorem c_M_add (hP : va_P (dC, dI) classes (wM ab cI cZ mk mv) H) (hdD : dD noT ab 14) {r : Nat} (e2 : mk 2 = nI r) (hr2 : r < 40) (x1 x2 x3 x4 x5 x6 : Int32) : Met l y_M_add (wB y_M_add b_M_add 7 (some .int)) ({ frames := 0, cells := 0, slots := 0, locals := 0 } : Room) (rP [.ref (ab 0), .int x1, .int x2, .int x3, .int x4, .int x5, .int x6] H (kK dC dI cI cZ cJ)) (qW (some (.int (nI r))) (aN ab 14) (fun H1 => va_P (dC, dI) classes (wM ab cI cZ (va_up mk 2 (nI (r + 1))) (adV mv r x1 x2 x3 x4 x5 x6)) H1)) 0 0 (aN ab 14) := by
  refine Met.ofW (cc := b_M_add) (maxL := 7) (ret := (some .int)) (by decide) rfl ?_
  intro p e s m args below meth c s₁ B hml hv
  obtain ⟨rfl, rfl, hK⟩ := hv
  have hx := B.exec
  have hb := B.bytes
  have hr := B.returns
  have hts0 := atoms_spec (ws := (wB y_M_add b_M_add 7 (some .int))) B.pre
  have hts : ∀ w9 ∈ BG, w9.before [.ref (ab 0), .int x1, .int x2, .int x3, .int x4, .int x5, .int x6].toArray s = true := fun w9 hw9 => hts0 w9 (List.mem_cons_of_mem _ hw9)
  have hown : s.vm.findClass R_M = some m.cls := findClass_of_methodNamed B.named
  have hlocks := B.notSynchronized
  have hK : va_K (dC, dI) classes [(cI, .int), (cZ, .boolean), (cJ, .long)] s := hK
  have hD : va_D (aN ab 14) (wM ab cI cZ mk mv) := wM_D (dD_aN hdD)
  have hS : va_S (aN ab 14) s.heap s.heap [] := va_S.rf
  have hl := lv_entry ([.ref (ab 0), .int x1, .int x2, .int x3, .int x4, .int x5, .int x6]) (n := 7) (Nat.le_of_ble_eq_true rfl)
  rw [lg_entry_eq]
  generalize (lg_sl ([.ref (ab 0), .int x1, .int x2, .int x3, .int x4, .int x5, .int x6]) ++ List.replicate (7 - (lg_sl ([.ref (ab 0), .int x1, .int x2, .int x3, .int x4, .int x5, .int x6])).length) Slot.unset).toArray = ls at hl ⊢
  have hl : lv_has ls 7 [(0, .ref (ab 0)), (1, .int x1), (2, .int x2), (3, .int x3), (4, .int x4), (5, .int x5), (6, .int x6)] := hl
  refine lv_aload_n hx hb d_M_add_0 rfl (lv_at hl 0 rfl) ?_
  refine va_get (D := (dC, dI)) (ci := 6) (v := .ref (ab 4)) (C := R_M) (T := F_M) (N := 20) hx hb hts i_M hown hK hP 0 rfl rfl 9 (by decide) (hts _ fl_M_19) (fun _ h9 => h9) rfl d_M_add_1 ?_
  refine lv_aload_n hx hb d_M_add_4 rfl (lv_at hl 0 rfl) ?_
  refine va_get (D := (dC, dI)) (ci := 6) (v := .int (nI r)) (C := R_M) (T := F_M) (N := 20) hx hb hts i_M hown hK hP 0 rfl rfl 8 (by decide) (hts _ fl_M_60) (fun _ h9 => h9) (by rw [← e2]; rfl) d_M_add_5 ?_
  refine lv_iload_n hx hb d_M_add_8 rfl (lv_at hl 1 rfl) ?_
  refine va_iast hx hb hK hP hD hS 4 0 rfl rfl (vp_in_nI (by omega) (by omega)) d_M_add_9 (fun H locs hP hD hS => ?_)
  rw [nI_clamp (show r < 2 ^ 31 by omega)] at hP hD
  have hP : va_P (dC, dI) classes (wM ab cI cZ mk (va_up mv 2 (upd (mv 2) r x1))) H := hP
  have hD : va_D (aN ab 14) (wM ab cI cZ mk (va_up mv 2 (upd (mv 2) r x1))) := hD
  refine lv_aload_n hx hb d_M_add_10 rfl (lv_at hl 0 rfl) ?_
  refine va_get (D := (dC, dI)) (ci := 6) (v := .ref (ab 5)) (C := R_M) (T := F_M) (N := 20) hx hb hts i_M hown hK hP 0 rfl rfl 10 (by decide) (hts _ fl_M_22) (fun _ h9 => h9) rfl d_M_add_11 ?_
  refine lv_aload_n hx hb d_M_add_14 rfl (lv_at hl 0 rfl) ?_
  refine va_get (D := (dC, dI)) (ci := 6) (v := .int (nI r)) (C := R_M) (T := F_M) (N := 20) hx hb hts i_M hown hK hP 0 rfl rfl 8 (by decide) (hts _ fl_M_60) (fun _ h9 => h9) (by rw [← e2]; rfl) d_M_add_15 ?_
  refine lv_iload_n hx hb d_M_add_18 rfl (lv_at hl 2 rfl) ?_
  refine va_iast hx hb hK hP hD hS 5 0 rfl rfl (vp_in_nI (by omega) (by omega)) d_M_add_19 (fun H locs hP hD hS => ?_)
  rw [nI_clamp (show r < 2 ^ 31 by omega)] at hP hD
  have hP : va_P (dC, dI) classes (wM ab cI cZ mk (va_up (va_up mv 2 (upd (mv 2) r x1)) 3 (upd (mv 3) r x2))) H := hP
  have hD : va_D (aN ab 14) (wM ab cI cZ mk (va_up (va_up mv 2 (upd (mv 2) r x1)) 3 (upd (mv 3) r x2))) := hD
  refine lv_aload_n hx hb d_M_add_20 rfl (lv_at hl 0 rfl) ?_
  refine va_get (D := (dC, dI)) (ci := 6) (v := .ref (ab 6)) (C := R_M) (T := F_M) (N := 20) hx hb hts i_M hown hK hP 0 rfl rfl 11 (by decide) (hts _ fl_M_25) (fun _ h9 => h9) rfl d_M_add_21 ?_
  refine lv_aload_n hx hb d_M_add_24 rfl (lv_at hl 0 rfl) ?_
  refine va_get (D := (dC, dI)) (ci := 6) (v := .int (nI r)) (C := R_M) (T := F_M) (N := 20) hx hb hts i_M hown hK hP 0 rfl rfl 8 (by decide) (hts _ fl_M_60) (fun _ h9 => h9) (by rw [← e2]; rfl) d_M_add_25 ?_
  refine lv_iload_n hx hb d_M_add_28 rfl (lv_at hl 3 rfl) ?_
  refine va_iast hx hb hK hP hD hS 6 0 rfl rfl (vp_in_nI (by omega) (by omega)) d_M_add_29 (fun H locs hP hD hS => ?_)
  rw [nI_clamp (show r < 2 ^ 31 by omega)] at hP hD
  have hP : va_P (dC, dI) classes (wM ab cI cZ mk (va_up (va_up (va_up mv 2 (upd (mv 2) r x1)) 3 (upd (mv 3) r x2)) 4 (upd (mv 4) r x3))) H := hP
  have hD : va_D (aN ab 14) (wM ab cI cZ mk (va_up (va_up (va_up mv 2 (upd (mv 2) r x1)) 3 (upd (mv 3) r x2)) 4 (upd (mv 4) r x3))) := hD
  refine lv_aload_n hx hb d_M_add_30 rfl (lv_at hl 0 rfl) ?_
  refine va_get (D := (dC, dI)) (ci := 6) (v := .ref (ab 7)) (C := R_M) (T := F_M) (N := 20) hx hb hts i_M hown hK hP 0 rfl rfl 12 (by decide) (hts _ fl_M_28) (fun _ h9 => h9) rfl d_M_add_31 ?_
  refine lv_aload_n hx hb d_M_add_34 rfl (lv_at hl 0 rfl) ?_
  refine va_get (D := (dC, dI)) (ci := 6) (v := .int (nI r)) (C := R_M) (T := F_M) (N := 20) hx hb hts i_M hown hK hP 0 rfl rfl 8 (by decide) (hts _ fl_M_60) (fun _ h9 => h9) (by rw [← e2]; rfl) d_M_add_35 ?_
  refine lv_iload hx hb d_M_add_38 (lv_at hl 4 rfl) ?_
  refine va_iast hx hb hK hP hD hS 7 0 rfl rfl (vp_in_nI (by omega) (by omega)) d_M_add_40 (fun H locs hP hD hS => ?_)
  rw [nI_clamp (show r < 2 ^ 31 by omega)] at hP hD
  have hP : va_P (dC, dI) classes (wM ab cI cZ mk (va_up (va_up (va_up (va_up mv 2 (upd (mv 2) r x1)) 3 (upd (mv 3) r x2)) 4 (upd (mv 4) r x3)) 5 (upd (mv 5) r x4))) H := hP
  have hD : va_D (aN ab 14) (wM ab cI cZ mk (va_up (va_up (va_up (va_up mv 2 (upd (mv 2) r x1)) 3 (upd (mv 3) r x2)) 4 (upd (mv 4) r x3)) 5 (upd (mv 5) r x4))) := hD
  refine lv_aload_n hx hb d_M_add_41 rfl (lv_at hl 0 rfl) ?_
  refine va_get (D := (dC, dI)) (ci := 6) (v := .ref (ab 8)) (C := R_M) (T := F_M) (N := 20) hx hb hts i_M hown hK hP 0 rfl rfl 13 (by decide) (hts _ fl_M_31) (fun _ h9 => h9) rfl d_M_add_42 ?_
  refine lv_aload_n hx hb d_M_add_45 rfl (lv_at hl 0 rfl) ?_
  refine va_get (D := (dC, dI)) (ci := 6) (v := .int (nI r)) (C := R_M) (T := F_M) (N := 20) hx hb hts i_M hown hK hP 0 rfl rfl 8 (by decide) (hts _ fl_M_60) (fun _ h9 => h9) (by rw [← e2]; rfl) d_M_add_46 ?_
  refine lv_iload hx hb d_M_add_49 (lv_at hl 5 rfl) ?_
  refine va_iast hx hb hK hP hD hS 8 0 rfl rfl (vp_in_nI (by omega) (by omega)) d_M_add_51 (fun H locs hP hD hS => ?_)
  rw [nI_clamp (show r < 2 ^ 31 by omega)] at hP hD
  have hP : va_P (dC, dI) classes (wM ab cI cZ mk (va_up (va_up (va_up (va_up (va_up mv 2 (upd (mv 2) r x1)) 3 (upd (mv 3) r x2)) 4 (upd (mv 4) r x3)) 5 (upd (mv 5) r x4)) 6 (upd (mv 6) r x5))) H := hP
  have hD : va_D (aN ab 14) (wM ab cI cZ mk (va_up (va_up (va_up (va_up (va_up mv 2 (upd (mv 2) r x1)) 3 (upd (mv 3) r x2)) 4 (upd (mv 4) r x3)) 5 (upd (mv 5) r x4)) 6 (upd (mv 6) r x5))) := hD
  refine lv_aload_n hx hb d_M_add_52 rfl (lv_at hl 0 rfl) ?_
  refine va_get (D := (dC, dI)) (ci := 6) (v := .ref (ab 9)) (C := R_M) (T := F_M) (N := 20) hx hb hts i_M hown hK hP 0 rfl rfl 14 (by decide) (hts _ fl_M_34) (fun _ h9 => h9) rfl d_M_add_53 ?_
  refine lv_aload_n hx hb d_M_add_56 rfl (lv_at hl 0 rfl) ?_
  refine va_get (D := (dC, dI)) (ci := 6) (v := .int (nI r)) (C := R_M) (T := F_M) (N := 20) hx hb hts i_M hown hK hP 0 rfl rfl 8 (by decide) (hts _ fl_M_60) (fun _ h9 => h9) (by rw [← e2]; rfl) d_M_add_57 ?_
  refine lv_iload hx hb d_M_add_60 (lv_at hl 6 rfl) ?_
  refine va_iast hx hb hK hP hD hS 9 0 rfl rfl (vp_in_nI (by omega) (by omega)) d_M_add_62 (fun H locs hP hD hS => ?_)
  rw [nI_clamp (show r < 2 ^ 31 by omega)] at hP hD
  have hP : va_P (dC, dI) classes (wM ab cI cZ mk (va_up (va_up (va_up (va_up (va_up (va_up mv 2 (upd (mv 2) r x1)) 3 (upd (mv 3) r x2)) 4 (upd (mv 4) r x3)) 5 (upd (mv 5) r x4)) 6 (upd (mv 6) r x5)) 7 (upd (mv 7) r x6))) H := hP
  have hD : va_D (aN ab 14) (wM ab cI cZ mk (va_up (va_up (va_up (va_up (va_up (va_up mv 2 (upd (mv 2) r x1)) 3 (upd (mv 3) r x2)) 4 (upd (mv 4) r x3)) 5 (upd (mv 5) r x4)) 6 (upd (mv 6) r x5)) 7 (upd (mv 7) r x6))) := hD
  refine lv_aload_n hx hb d_M_add_63 rfl (lv_at hl 0 rfl) ?_
  refine va_get (D := (dC, dI)) (ci := 6) (v := .ref (ab 10)) (C := R_M) (T := F_M) (N := 20) hx hb hts i_M hown hK hP 0 rfl rfl 15 (by decide) (hts _ fl_M_37) (fun _ h9 => h9) rfl d_M_add_64 ?_
  refine lv_aload_n hx hb d_M_add_67 rfl (lv_at hl 0 rfl) ?_
  refine va_get (D := (dC, dI)) (ci := 6) (v := .int (nI r)) (C := R_M) (T := F_M) (N := 20) hx hb hts i_M hown hK hP 0 rfl rfl 8 (by decide) (hts _ fl_M_60) (fun _ h9 => h9) (by rw [← e2]; rfl) d_M_add_68 ?_
  refine lv_iconst (v := 1) hx hb d_M_add_71 (by decide) ?_
  refine va_zast hx hb hK hP hD hS 10 1 rfl rfl (vp_in_nI (by omega) (by omega)) d_M_add_72 (fun H locs hP hD hS => ?_)
  rw [show vp_nar .boolean 1 = 1 from rfl] at hP hD
  rw [nI_clamp (show r < 2 ^ 31 by omega)] at hP hD
  have hP : va_P (dC, dI) classes (wM ab cI cZ mk (va_up (va_up (va_up (va_up (va_up (va_up (va_up mv 2 (upd (mv 2) r x1)) 3 (upd (mv 3) r x2)) 4 (upd (mv 4) r x3)) 5 (upd (mv 5) r x4)) 6 (upd (mv 6) r x5)) 7 (upd (mv 7) r x6)) 8 (upd (mv 8) r 1))) H := hP
  have hD : va_D (aN ab 14) (wM ab cI cZ mk (va_up (va_up (va_up (va_up (va_up (va_up (va_up mv 2 (upd (mv 2) r x1)) 3 (upd (mv 3) r x2)) 4 (upd (mv 4) r x3)) 5 (upd (mv 5) r x4)) 6 (upd (mv 6) r x5)) 7 (upd (mv 7) r x6)) 8 (upd (mv 8) r 1))) := hD
  refine lv_aload_n hx hb d_M_add_73 rfl (lv_at hl 0 rfl) ?_
  refine lv_dup hx hb d_M_add_74 rfl ?_
  refine va_get (D := (dC, dI)) (ci := 6) (v := .int (nI r)) (C := R_M) (T := F_M) (N := 20) hx hb hts i_M hown hK hP 0 rfl rfl 8 (by decide) (hts _ fl_M_60) (fun _ h9 => h9) (by rw [← e2]; rfl) d_M_add_75 ?_
  refine lv_iconst (v := 1) hx hb d_M_add_78 (by decide) ?_
  refine lv_iadd hx hb d_M_add_79 ?_
  rw [nI_1]
  refine va_put (D := (dC, dI)) (ci := 6) (v := .int (nI (r + 1))) (ty := .int) (C := R_M) (T := F_M) (N := 20) hx hb hts i_M ty_M tok_M n_M hown hK hP hD hS 0 rfl rfl 8 (by decide) (hts _ fl_M_60) (fun _ h9 => h9) rfl (by decide +kernel) rfl rfl (Nat.le_of_ble_eq_true rfl) d_M_add_80 (fun H locs hP hD hS => ?_)
  have hP : va_P (dC, dI) classes (wM ab cI cZ (va_up mk 2 (nI (r + 1))) (va_up (va_up (va_up (va_up (va_up (va_up (va_up mv 2 (upd (mv 2) r x1)) 3 (upd (mv 3) r x2)) 4 (upd (mv 4) r x3)) 5 (upd (mv 5) r x4)) 6 (upd (mv 6) r x5)) 7 (upd (mv 7) r x6)) 8 (upd (mv 8) r 1))) H := hP
  have hD : va_D (aN ab 14) (wM ab cI cZ (va_up mk 2 (nI (r + 1))) (va_up (va_up (va_up (va_up (va_up (va_up (va_up mv 2 (upd (mv 2) r x1)) 3 (upd (mv 3) r x2)) 4 (upd (mv 4) r x3)) 5 (upd (mv 5) r x4)) 6 (upd (mv 6) r x5)) 7 (upd (mv 7) r x6)) 8 (upd (mv 8) r 1))) := hD
  refine lv_aload_n hx hb d_M_add_83 rfl (lv_at hl 0 rfl) ?_
  refine va_get (D := (dC, dI)) (ci := 6) (v := .int (nI (r + 1))) (C := R_M) (T := F_M) (N := 20) hx hb hts i_M hown hK hP 0 rfl rfl 8 (by decide) (hts _ fl_M_60) (fun _ h9 => h9) rfl d_M_add_84 ?_
  refine lv_iconst (v := 1) hx hb d_M_add_87 (by decide) ?_
  refine lv_isub hx hb d_M_add_88 ?_
  rw [nI_pred]
  have er : ((some (.int (nI r))) : Option Value) = some (.int (nI r)) := by rfl
  have hPe : va_P (dC, dI) classes (wM ab cI cZ (va_up mk 2 (nI (r + 1))) (adV mv r x1 x2 x3 x4 x5 x6)) H := by exact hP
  exact W.iret (v := (nI r)) hx hb hr (fun t ht hW => ⟨by rw [er], by rw [ht]; exact hPe, hS.F ht⟩) hS.2.2 d_M_add_89
set_option maxRecDepth 100000 in
set_option maxHeartbeats 4000000 in
theorem c_M_cut (hP : va_P (dC, dI) classes (wM ab cI cZ mk mv) H) (hdD : dD noT ab 14) {r : Nat} (e3 : mk 3 = nI r) (hr2 : r < 60) (x y z : Int32) : Met l y_M_cut (wB y_M_cut b_M_cut 4 (some .int)) ({ frames := 0, cells := 0, slots := 0, locals := 0 } : Room) (rP [.ref (ab 0), .int x, .int y, .int z] H (kK dC dI cI cZ cJ)) (qW (some (.int (nI r))) (aN ab 14) (fun H1 => va_P (dC, dI) classes (wM ab cI cZ (va_up mk 3 (nI (r + 1))) (owV mv r x y z)) H1)) 0 0 (aN ab 14) := by
  refine Met.ofW (cc := b_M_cut) (maxL := 4) (ret := (some .int)) (by decide) rfl ?_
  intro p e s m args below meth c s₁ B hml hv
  obtain ⟨rfl, rfl, hK⟩ := hv
  have hx := B.exec
  have hb := B.bytes
  have hr := B.returns
  have hts0 := atoms_spec (ws := (wB y_M_cut b_M_cut 4 (some .int))) B.pre
  have hts : ∀ w9 ∈ BG, w9.before [.ref (ab 0), .int x, .int y, .int z].toArray s = true := fun w9 hw9 => hts0 w9 (List.mem_cons_of_mem _ hw9)
  have hown : s.vm.findClass R_M = some m.cls := findClass_of_methodNamed B.named
  have hlocks := B.notSynchronized
  have hK : va_K (dC, dI) classes [(cI, .int), (cZ, .boolean), (cJ, .long)] s := hK
  have hD : va_D (aN ab 14) (wM ab cI cZ mk mv) := wM_D (dD_aN hdD)
  have hS : va_S (aN ab 14) s.heap s.heap [] := va_S.rf
  have hl := lv_entry ([.ref (ab 0), .int x, .int y, .int z]) (n := 4) (Nat.le_of_ble_eq_true rfl)
  rw [lg_entry_eq]
  generalize (lg_sl ([.ref (ab 0), .int x, .int y, .int z]) ++ List.replicate (4 - (lg_sl ([.ref (ab 0), .int x, .int y, .int z])).length) Slot.unset).toArray = ls at hl ⊢
  have hl : lv_has ls 4 [(0, .ref (ab 0)), (1, .int x), (2, .int y), (3, .int z)] := hl
  refine lv_aload_n hx hb d_M_cut_0 rfl (lv_at hl 0 rfl) ?_
  refine va_get (D := (dC, dI)) (ci := 6) (v := .ref (ab 11)) (C := R_M) (T := F_M) (N := 20) hx hb hts i_M hown hK hP 0 rfl rfl 17 (by decide) (hts _ fl_M_41) (fun _ h9 => h9) rfl d_M_cut_1 ?_
  refine lv_aload_n hx hb d_M_cut_4 rfl (lv_at hl 0 rfl) ?_
  refine va_get (D := (dC, dI)) (ci := 6) (v := .int (nI r)) (C := R_M) (T := F_M) (N := 20) hx hb hts i_M hown hK hP 0 rfl rfl 16 (by decide) (hts _ fl_M_81) (fun _ h9 => h9) (by rw [← e3]; rfl) d_M_cut_5 ?_
  refine lv_iload_n hx hb d_M_cut_8 rfl (lv_at hl 1 rfl) ?_
  refine va_iast hx hb hK hP hD hS 11 0 rfl rfl (vp_in_nI (by omega) (by omega)) d_M_cut_9 (fun H locs hP hD hS => ?_)
  rw [nI_clamp (show r < 2 ^ 31 by omega)] at hP hD
  have hP : va_P (dC, dI) classes (wM ab cI cZ mk (va_up mv 9 (upd (mv 9) r x))) H := hP
  have hD : va_D (aN ab 14) (wM ab cI cZ mk (va_up mv 9 (upd (mv 9) r x))) := hD
  refine lv_aload_n hx hb d_M_cut_10 rfl (lv_at hl 0 rfl) ?_
  refine va_get (D := (dC, dI)) (ci := 6) (v := .ref (ab 12)) (C := R_M) (T := F_M) (N := 20) hx hb hts i_M hown hK hP 0 rfl rfl 18 (by decide) (hts _ fl_M_44) (fun _ h9 => h9) rfl d_M_cut_11 ?_
  refine lv_aload_n hx hb d_M_cut_14 rfl (lv_at hl 0 rfl) ?_
  refine va_get (D := (dC, dI)) (ci := 6) (v := .int (nI r)) (C := R_M) (T := F_M) (N := 20) hx hb hts i_M hown hK hP 0 rfl rfl 16 (by decide) (hts _ fl_M_81) (fun _ h9 => h9) (by rw [← e3]; rfl) d_M_cut_15 ?_
  refine lv_iload_n hx hb d_M_cut_18 rfl (lv_at hl 2 rfl) ?_
  refine va_iast hx hb hK hP hD hS 12 0 rfl rfl (vp_in_nI (by omega) (by omega)) d_M_cut_19 (fun H locs hP hD hS => ?_)
  rw [nI_clamp (show r < 2 ^ 31 by omega)] at hP hD
  have hP : va_P (dC, dI) classes (wM ab cI cZ mk (va_up (va_up mv 9 (upd (mv 9) r x)) 10 (upd (mv 10) r y))) H := hP
  have hD : va_D (aN ab 14) (wM ab cI cZ mk (va_up (va_up mv 9 (upd (mv 9) r x)) 10 (upd (mv 10) r y))) := hD
  refine lv_aload_n hx hb d_M_cut_20 rfl (lv_at hl 0 rfl) ?_
  refine va_get (D := (dC, dI)) (ci := 6) (v := .ref (ab 13)) (C := R_M) (T := F_M) (N := 20) hx hb hts i_M hown hK hP 0 rfl rfl 19 (by decide) (hts _ fl_M_47) (fun _ h9 => h9) rfl d_M_cut_21 ?_
  refine lv_aload_n hx hb d_M_cut_24 rfl (lv_at hl 0 rfl) ?_
  refine va_get (D := (dC, dI)) (ci := 6) (v := .int (nI r)) (C := R_M) (T := F_M) (N := 20) hx hb hts i_M hown hK hP 0 rfl rfl 16 (by decide) (hts _ fl_M_81) (fun _ h9 => h9) (by rw [← e3]; rfl) d_M_cut_25 ?_
  refine lv_iload_n hx hb d_M_cut_28 rfl (lv_at hl 3 rfl) ?_
  refine va_iast hx hb hK hP hD hS 13 0 rfl rfl (vp_in_nI (by omega) (by omega)) d_M_cut_29 (fun H locs hP hD hS => ?_)
  rw [nI_clamp (show r < 2 ^ 31 by omega)] at hP hD
  have hP : va_P (dC, dI) classes (wM ab cI cZ mk (va_up (va_up (va_up mv 9 (upd (mv 9) r x)) 10 (upd (mv 10) r y)) 11 (upd (mv 11) r z))) H := hP
  have hD : va_D (aN ab 14) (wM ab cI cZ mk (va_up (va_up (va_up mv 9 (upd (mv 9) r x)) 10 (upd (mv 10) r y)) 11 (upd (mv 11) r z))) := hD
  refine lv_aload_n hx hb d_M_cut_30 rfl (lv_at hl 0 rfl) ?_
  refine lv_dup hx hb d_M_cut_31 rfl ?_
  refine va_get (D := (dC, dI)) (ci := 6) (v := .int (nI r)) (C := R_M) (T := F_M) (N := 20) hx hb hts i_M hown hK hP 0 rfl rfl 16 (by decide) (hts _ fl_M_81) (fun _ h9 => h9) (by rw [← e3]; rfl) d_M_cut_32 ?_
  refine lv_iconst (v := 1) hx hb d_M_cut_35 (by decide) ?_
  refine lv_iadd hx hb d_M_cut_36 ?_
  rw [nI_1]
  refine va_put (D := (dC, dI)) (ci := 6) (v := .int (nI (r + 1))) (ty := .int) (C := R_M) (T := F_M) (N := 20) hx hb hts i_M ty_M tok_M n_M hown hK hP hD hS 0 rfl rfl 16 (by decide) (hts _ fl_M_81) (fun _ h9 => h9) rfl (by decide +kernel) rfl rfl (Nat.le_of_ble_eq_true rfl) d_M_cut_37 (fun H locs hP hD hS => ?_)
  have hP : va_P (dC, dI) classes (wM ab cI cZ (va_up mk 3 (nI (r + 1))) (va_up (va_up (va_up mv 9 (upd (mv 9) r x)) 10 (upd (mv 10) r y)) 11 (upd (mv 11) r z))) H := hP
  have hD : va_D (aN ab 14) (wM ab cI cZ (va_up mk 3 (nI (r + 1))) (va_up (va_up (va_up mv 9 (upd (mv 9) r x)) 10 (upd (mv 10) r y)) 11 (upd (mv 11) r z))) := hD
  refine lv_aload_n hx hb d_M_cut_40 rfl (lv_at hl 0 rfl) ?_
  refine va_get (D := (dC, dI)) (ci := 6) (v := .int (nI (r + 1))) (C := R_M) (T := F_M) (N := 20) hx hb hts i_M hown hK hP 0 rfl rfl 16 (by decide) (hts _ fl_M_81) (fun _ h9 => h9) rfl d_M_cut_41 ?_
  refine lv_iconst (v := 1) hx hb d_M_cut_44 (by decide) ?_
  refine lv_isub hx hb d_M_cut_45 ?_
  rw [nI_pred]
  have er : ((some (.int (nI r))) : Option Value) = some (.int (nI r)) := by rfl
  have hPe : va_P (dC, dI) classes (wM ab cI cZ (va_up mk 3 (nI (r + 1))) (owV mv r x y z)) H := by exact hP
  exact W.iret (v := (nI r)) hx hb hr (fun t ht hW => ⟨by rw [er], by rw [ht]; exact hPe, hS.F ht⟩) hS.2.2 d_M_cut_46
set_option maxRecDepth 100000 in
set_option maxHeartbeats 4000000 in
theorem c_M_copied (hP : va_P (dC, dI) classes (wM ab cI cZ mk mv) H) (hdD : dD noT ab 14) (eK : ∀ i, i < 4 → mk i = nI (mn i)) (b2 : mn 2 ≤ 40) (b3 : mn 3 ≤ 60) (x y : Int32) (hB1 : ∀ i, i < mn 2 → thS (cpF x y i (mv, mn 2, mn 3)).1 x i = true → (cpF x y i (mv, mn 2, mn 3)).2.1 < 40) (hB2 : ∀ i, i < mn 2 → (cpF x y (i + 1) (mv, mn 2, mn 3)).2.2 ≤ 60) : Met l y_M_copied (wB y_M_copied b_M_copied 9 (some .int)) ({ frames := 1, cells := 0, slots := 0, locals := 26 } : Room) (rP [.ref (ab 0), .int x, .int y] H (kK dC dI cI cZ cJ)) (qW (some (.int (nI ((cpF x y (mn 2) (mv, mn 2, mn 3)).2.1 - mn 2)))) (aN ab 14) (fun H1 => va_P (dC, dI) classes (wM ab cI cZ (va_up (va_up mk 2 (nI (cpF x y (mn 2) (mv, mn 2, mn 3)).2.1)) 3 (nI (cpF x y (mn 2) (mv, mn 2, mn 3)).2.2)) (cpF x y (mn 2) (mv, mn 2, mn 3)).1) H1)) 0 0 (aN ab 14) := by
  refine Met.ofW (cc := b_M_copied) (maxL := 9) (ret := (some .int)) (by decide) rfl ?_
  intro p e s m args below meth c s₁ B hml hv
  obtain ⟨rfl, rfl, hK⟩ := hv
  have hx := B.exec
  have hb := B.bytes
  have hr := B.returns
  have hts0 := atoms_spec (ws := (wB y_M_copied b_M_copied 9 (some .int))) B.pre
  have hts : ∀ w9 ∈ BG, w9.before [.ref (ab 0), .int x, .int y].toArray s = true := fun w9 hw9 => hts0 w9 (List.mem_cons_of_mem _ hw9)
  have hown : s.vm.findClass R_M = some m.cls := findClass_of_methodNamed B.named
  have hlocks := B.notSynchronized
  have hK : va_K (dC, dI) classes [(cI, .int), (cZ, .boolean), (cJ, .long)] s := hK
  have hD : va_D (aN ab 14) (wM ab cI cZ mk mv) := wM_D (dD_aN hdD)
  have hS : va_S (aN ab 14) s.heap s.heap [] := va_S.rf
  have hl := lv_entry ([.ref (ab 0), .int x, .int y]) (n := 9) (Nat.le_of_ble_eq_true rfl)
  rw [lg_entry_eq]
  generalize (lg_sl ([.ref (ab 0), .int x, .int y]) ++ List.replicate (9 - (lg_sl ([.ref (ab 0), .int x, .int y])).length) Slot.unset).toArray = ls at hl ⊢
  have hl : lv_has ls 9 [(0, .ref (ab 0)), (1, .int x), (2, .int y)] := hl
  refine lv_aload_n hx hb d_M_copied_0 rfl (lv_at hl 0 rfl) ?_
  refine va_get (D := (dC, dI)) (ci := 6) (v := .int (nI (mn 2))) (C := R_M) (T := F_M) (N := 20) hx hb hts i_M hown hK hP 0 rfl rfl 8 (by decide) (hts _ fl_M_60) (fun _ h9 => h9) (by rw [← (eK 2 (by decide))]; rfl) d_M_copied_1 ?_
  refine lv_istore_n (lv' := [(3, .int (nI (mn 2))), (0, .ref (ab 0)), (1, .int x), (2, .int y)]) hx hb d_M_copied_4 rfl hl (by decide) rfl (fun ls hl => ?_)
  refine lv_iconst (v := 0) hx hb d_M_copied_5 (by decide) ?_
  refine lv_istore (lv' := [(4, .int 0), (3, .int (nI (mn 2))), (0, .ref (ab 0)), (1, .int x), (2, .int y)]) hx hb d_M_copied_6 hl (by decide) rfl (fun ls hl => ?_)
  refine lv_iconst (v := 0) hx hb d_M_copied_8 (by decide) ?_
  refine lv_istore (lv' := [(5, .int 0), (4, .int 0), (3, .int (nI (mn 2))), (0, .ref (ab 0)), (1, .int x), (2, .int y)]) hx hb d_M_copied_9 hl (by decide) rfl (fun ls hl => ?_)
  have loop_11 : ∀ (k9 i : Nat), mn 2 + 1 ≤ i + k9 → i ≤ mn 2 → ∀ (H : Heap) (locs : List Loc), va_P (dC, dI) classes (wM ab cI cZ (va_up (va_up mk 2 (nI (cpF x y i (mv, mn 2, mn 3)).2.1)) 3 (nI (cpF x y i (mv, mn 2, mn 3)).2.2)) (cpF x y i (mv, mn 2, mn 3)).1) H → va_S (aN ab 14) s.heap H locs → ∀ (ls : Array Slot), lv_has ls 9 [(0, .ref (ab 0)), (1, .int x), (2, .int y), (3, .int (nI (mn 2))), (4, .int (nI ((cpF x y i (mv, mn 2, mn 3)).2.1 - mn 2))), (5, .int (nI i))] → W p l e (headSpec (wB y_M_copied b_M_copied 9 (some .int)) ({ frames := 1, cells := 0, slots := 0, locals := 26 } : Room)).room s m [.ref (ab 0), .int x, .int y].toArray below meth c H locs 0 0 (MQ below (qW (some (.int (nI ((cpF x y (mn 2) (mv, mn 2, mn 3)).2.1 - mn 2)))) (aN ab 14) (fun H1 => va_P (dC, dI) classes (wM ab cI cZ (va_up (va_up mk 2 (nI (cpF x y (mn 2) (mv, mn 2, mn 3)).2.1)) 3 (nI (cpF x y (mn 2) (mv, mn 2, mn 3)).2.2)) (cpF x y (mn 2) (mv, mn 2, mn 3)).1) H1)) [.ref (ab 0), .int x, .int y].toArray s 0 0 (aN ab 14)) (F0 m 11 ls []) := by
    intro k9_11
    induction k9_11 with
    | zero => intro i  hk_11 hi H locs hP hS ls hl; exact absurd hk_11 (by omega)
    | succ k9_11 ih_11 =>
      intro i  hk_11 hi H locs hP hS ls hl
      have hD : va_D (aN ab 14) (wM ab cI cZ (va_up (va_up mk 2 (nI (cpF x y i (mv, mn 2, mn 3)).2.1)) 3 (nI (cpF x y i (mv, mn 2, mn 3)).2.2)) (cpF x y i (mv, mn 2, mn 3)).1) := wM_D (dD_aN hdD)
      refine lv_iload hx hb d_M_copied_11 (lv_at hl 5 rfl) ?_
      refine lv_iload_n hx hb d_M_copied_13 rfl (lv_at hl 3 rfl) ?_
      refine lv_icmp_ge (tgt := 144) hx hb d_M_copied_14 (by decide) (fun c_14 => ?_) (fun c_14 => ?_)
      · have hi2 : i = mn 2 := Nat.le_antisymm hi (geC rfl c_14 (by omega) (by omega))
        refine lv_iload hx hb d_M_copied_144 (lv_at hl 4 rfl) ?_
        have er : ((some (.int (nI ((cpF x y (mn 2) (mv, mn 2, mn 3)).2.1 - mn 2)))) : Option Value) = some (.int (nI ((cpF x y i (mv, mn 2, mn 3)).2.1 - mn 2))) := by have h9 : nI (cpF x y i (mv, mn 2, mn 3)).2.1 = nI (cpF x y i (mv, mn 2, mn 3)).2.1 := rfl; conv => rhs; rw [hi2]
        have hPe : va_P (dC, dI) classes (wM ab cI cZ (va_up (va_up mk 2 (nI (cpF x y (mn 2) (mv, mn 2, mn 3)).2.1)) 3 (nI (cpF x y (mn 2) (mv, mn 2, mn 3)).2.2)) (cpF x y (mn 2) (mv, mn 2, mn 3)).1) H := by have h9 := hP; rw [hi2] at h9; exact h9
        exact W.iret (v := (nI ((cpF x y i (mv, mn 2, mn 3)).2.1 - mn 2))) hx hb hr (fun t ht hW => ⟨by rw [er], by rw [ht]; exact hPe, hS.F ht⟩) hS.2.2 d_M_copied_146
      · have hi2 : i < mn 2 := ltC rfl c_14 (by omega) (by omega)
        refine lv_aload_n hx hb d_M_copied_17 rfl (lv_at hl 0 rfl) ?_
        refine va_get (D := (dC, dI)) (ci := 6) (v := .ref (ab 10)) (C := R_M) (T := F_M) (N := 20) hx hb hts i_M hown hK hP 0 rfl rfl 15 (by decide) (hts _ fl_M_37) (fun _ h9 => h9) rfl d_M_copied_18 ?_
        refine lv_iload hx hb d_M_copied_21 (lv_at hl 5 rfl) ?_
        refine va_zald hx hb hK hP 10 1 rfl rfl (vp_in_nI (by omega) (by omega)) d_M_copied_23 ?_
        rw [nI_clamp (show i < 2 ^ 31 by omega)]
        refine lv_if_eq (tgt := 138) hx hb d_M_copied_24 (by decide) (fun c_24 => ?_) (fun c_24 => ?_)
        · refine lv_iinc (v := (nI (i + 1))) (lv' := [(5, .int (nI (i + 1))), (0, .ref (ab 0)), (1, .int x), (2, .int y), (3, .int (nI (mn 2))), (4, .int (nI ((cpF x y i (mv, mn 2, mn 3)).2.1 - mn 2)))]) hx hb d_M_copied_138 hl (k := 5) rfl (nI_1 _) (by decide) rfl (fun ls hl => ?_)
          refine lv_goto (tgt := 11) hx hb d_M_copied_141 (by decide) ?_
          have eo : (cpF x y (i + 1) (mv, mn 2, mn 3)) = (cpF x y i (mv, mn 2, mn 3)) := cpF_f (by first | (simp [thS, c_24]; done) | (simp [thS, c_35]; done))
          rw [← eo] at hl hP
          exact ih_11 (i + 1) (by omega) (by omega) _ _ hP hS ls (lv_sub hl [1, 2, 3, 4, 5, 0] rfl)
        · refine lv_aload_n hx hb d_M_copied_27 rfl (lv_at hl 0 rfl) ?_
          refine va_get (D := (dC, dI)) (ci := 6) (v := .ref (ab 4)) (C := R_M) (T := F_M) (N := 20) hx hb hts i_M hown hK hP 0 rfl rfl 9 (by decide) (hts _ fl_M_19) (fun _ h9 => h9) rfl d_M_copied_28 ?_
          refine lv_iload hx hb d_M_copied_31 (lv_at hl 5 rfl) ?_
          refine va_iald hx hb hK hP 4 0 rfl rfl (vp_in_nI (by omega) (by omega)) d_M_copied_33 ?_
          rw [nI_clamp (show i < 2 ^ 31 by omega)]
          refine lv_iload_n hx hb d_M_copied_34 rfl (lv_at hl 1 rfl) ?_
          refine lv_icmp_ne (tgt := 138) hx hb d_M_copied_35 (by decide) (fun c_35 => ?_) (fun c_35 => ?_)
          · refine lv_iinc (v := (nI (i + 1))) (lv' := [(5, .int (nI (i + 1))), (0, .ref (ab 0)), (1, .int x), (2, .int y), (3, .int (nI (mn 2))), (4, .int (nI ((cpF x y i (mv, mn 2, mn 3)).2.1 - mn 2)))]) hx hb d_M_copied_138 hl (k := 5) rfl (nI_1 _) (by decide) rfl (fun ls hl => ?_)
            refine lv_goto (tgt := 11) hx hb d_M_copied_141 (by decide) ?_
            have eo : (cpF x y (i + 1) (mv, mn 2, mn 3)) = (cpF x y i (mv, mn 2, mn 3)) := cpF_f (by first | (simp [thS, c_24]; done) | (simp [thS, c_35]; done))
            rw [← eo] at hl hP
            exact ih_11 (i + 1) (by omega) (by omega) _ _ hP hS ls (lv_sub hl [1, 2, 3, 4, 5, 0] rfl)
          · have c_35 : (cpF x y i (mv, mn 2, mn 3)).1 2 i = x := by simpa using c_35
            have ht9 : thS (cpF x y i (mv, mn 2, mn 3)).1 x i = true := by simp [thS, c_24, c_35]
            have eo := cpF_t (y := y) ht9
            have hw9 := hB1 i hi2 ht9
            have hm9 : mn 2 ≤ (cpF x y i (mv, mn 2, mn 3)).2.1 := cpF_mono1 x y (mv, mn 2, mn 3) i
            have ho9 := hB2 i hi2
            rw [eo] at ho9
            have ho8 : (cpF x y i (mv, mn 2, mn 3)).2.2 ≤ 60 := by
              have e1 := ocF_mono (nI i) (nI (cpF x y i (mv, mn 2, mn 3)).2.1) ((adV (cpF x y i (mv, mn 2, mn 3)).1 (cpF x y i (mv, mn 2, mn 3)).2.1 y ((cpF x y i (mv, mn 2, mn 3)).1 3 i) ((cpF x y i (mv, mn 2, mn 3)).1 4 i) ((cpF x y i (mv, mn 2, mn 3)).1 5 i) ((cpF x y i (mv, mn 2, mn 3)).1 6 i) ((cpF x y i (mv, mn 2, mn 3)).1 7 i)), (cpF x y i (mv, mn 2, mn 3)).2.2) 0 (cpF x y i (mv, mn 2, mn 3)).2.2
              rw [Nat.zero_add] at e1
              exact Nat.le_trans e1 ho9
            refine lv_aload_n hx hb d_M_copied_38 rfl (lv_at hl 0 rfl) ?_
            refine lv_iload_n hx hb d_M_copied_39 rfl (lv_at hl 2 rfl) ?_
            refine lv_aload_n hx hb d_M_copied_40 rfl (lv_at hl 0 rfl) ?_
            refine va_get (D := (dC, dI)) (ci := 6) (v := .ref (ab 5)) (C := R_M) (T := F_M) (N := 20) hx hb hts i_M hown hK hP 0 rfl rfl 10 (by decide) (hts _ fl_M_22) (fun _ h9 => h9) rfl d_M_copied_41 ?_
            refine lv_iload hx hb d_M_copied_44 (lv_at hl 5 rfl) ?_
            refine va_iald hx hb hK hP 5 0 rfl rfl (vp_in_nI (by omega) (by omega)) d_M_copied_46 ?_
            rw [nI_clamp (show i < 2 ^ 31 by omega)]
            refine lv_aload_n hx hb d_M_copied_47 rfl (lv_at hl 0 rfl) ?_
            refine va_get (D := (dC, dI)) (ci := 6) (v := .ref (ab 6)) (C := R_M) (T := F_M) (N := 20) hx hb hts i_M hown hK hP 0 rfl rfl 11 (by decide) (hts _ fl_M_25) (fun _ h9 => h9) rfl d_M_copied_48 ?_
            refine lv_iload hx hb d_M_copied_51 (lv_at hl 5 rfl) ?_
            refine va_iald hx hb hK hP 6 0 rfl rfl (vp_in_nI (by omega) (by omega)) d_M_copied_53 ?_
            rw [nI_clamp (show i < 2 ^ 31 by omega)]
            refine lv_aload_n hx hb d_M_copied_54 rfl (lv_at hl 0 rfl) ?_
            refine va_get (D := (dC, dI)) (ci := 6) (v := .ref (ab 7)) (C := R_M) (T := F_M) (N := 20) hx hb hts i_M hown hK hP 0 rfl rfl 12 (by decide) (hts _ fl_M_28) (fun _ h9 => h9) rfl d_M_copied_55 ?_
            refine lv_iload hx hb d_M_copied_58 (lv_at hl 5 rfl) ?_
            refine va_iald hx hb hK hP 7 0 rfl rfl (vp_in_nI (by omega) (by omega)) d_M_copied_60 ?_
            rw [nI_clamp (show i < 2 ^ 31 by omega)]
            refine lv_aload_n hx hb d_M_copied_61 rfl (lv_at hl 0 rfl) ?_
            refine va_get (D := (dC, dI)) (ci := 6) (v := .ref (ab 8)) (C := R_M) (T := F_M) (N := 20) hx hb hts i_M hown hK hP 0 rfl rfl 13 (by decide) (hts _ fl_M_31) (fun _ h9 => h9) rfl d_M_copied_62 ?_
            refine lv_iload hx hb d_M_copied_65 (lv_at hl 5 rfl) ?_
            refine va_iald hx hb hK hP 8 0 rfl rfl (vp_in_nI (by omega) (by omega)) d_M_copied_67 ?_
            rw [nI_clamp (show i < 2 ^ 31 by omega)]
            refine lv_aload_n hx hb d_M_copied_68 rfl (lv_at hl 0 rfl) ?_
            refine va_get (D := (dC, dI)) (ci := 6) (v := .ref (ab 9)) (C := R_M) (T := F_M) (N := 20) hx hb hts i_M hown hK hP 0 rfl rfl 14 (by decide) (hts _ fl_M_34) (fun _ h9 => h9) rfl d_M_copied_69 ?_
            refine lv_iload hx hb d_M_copied_72 (lv_at hl 5 rfl) ?_
            refine va_iald hx hb hK hP 9 0 rfl rfl (vp_in_nI (by omega) (by omega)) d_M_copied_74 ?_
            rw [nI_clamp (show i < 2 ^ 31 by omega)]
            refine cW (W.runV (As := [.int y, .int (((cpF x y i (mv, mn 2, mn 3)).1 3) i), .int (((cpF x y i (mv, mn 2, mn 3)).1 4) i), .int (((cpF x y i (mv, mn 2, mn 3)).1 5) i), .int (((cpF x y i (mv, mn 2, mn 3)).1 6) i), .int (((cpF x y i (mv, mn 2, mn 3)).1 7) i)]) (rest := []) ⟨hx, hb, hml, hown, hts⟩ (c_M_add hP hdD (r := (cpF x y i (mv, mn 2, mn 3)).2.1) rfl hw9 _ _ _ _ _ _) (cwV 6 hts (wB_goodV (fun _ h => h) ml_M_84 im_M_add se_M_add ini_M co_M_add) rfl rfl rfl (by decide +kernel) ⟨Nat.le_of_ble_eq_true rfl, Nat.le_of_ble_eq_true rfl⟩) (pV hK hP (ci := 6) (q0 := 0) rfl rfl _) rfl rfl hl.1 rfl (lv_room (Nat.le_of_ble_eq_true rfl)) d_M_copied_75 ⟨Nat.zero_le _, Nat.zero_le _⟩) hS (fun _ h => h) (fun H locs hP hS _ _ => ?_)
            have hP : va_P (dC, dI) classes (wM ab cI cZ (va_up (va_up (va_up mk 2 (nI (cpF x y i (mv, mn 2, mn 3)).2.1)) 3 (nI (cpF x y i (mv, mn 2, mn 3)).2.2)) 2 (nI ((cpF x y i (mv, mn 2, mn 3)).2.1 + 1))) (adV (cpF x y i (mv, mn 2, mn 3)).1 (cpF x y i (mv, mn 2, mn 3)).2.1 y (((cpF x y i (mv, mn 2, mn 3)).1 3) i) (((cpF x y i (mv, mn 2, mn 3)).1 4) i) (((cpF x y i (mv, mn 2, mn 3)).1 5) i) (((cpF x y i (mv, mn 2, mn 3)).1 6) i) (((cpF x y i (mv, mn 2, mn 3)).1 7) i))) H := hP
            have hD : va_D (aN ab 14) (wM ab cI cZ (va_up (va_up (va_up mk 2 (nI (cpF x y i (mv, mn 2, mn 3)).2.1)) 3 (nI (cpF x y i (mv, mn 2, mn 3)).2.2)) 2 (nI ((cpF x y i (mv, mn 2, mn 3)).2.1 + 1))) (adV (cpF x y i (mv, mn 2, mn 3)).1 (cpF x y i (mv, mn 2, mn 3)).2.1 y (((cpF x y i (mv, mn 2, mn 3)).1 3) i) (((cpF x y i (mv, mn 2, mn 3)).1 4) i) (((cpF x y i (mv, mn 2, mn 3)).1 5) i) (((cpF x y i (mv, mn 2, mn 3)).1 6) i) (((cpF x y i (mv, mn 2, mn 3)).1 7) i))) := wM_D (dD_aN hdD)
            refine lv_istore (lv' := [(6, .int (nI (cpF x y i (mv, mn 2, mn 3)).2.1)), (0, .ref (ab 0)), (1, .int x), (2, .int y), (3, .int (nI (mn 2))), (4, .int (nI ((cpF x y i (mv, mn 2, mn 3)).2.1 - mn 2))), (5, .int (nI i))]) hx hb d_M_copied_78 hl (by decide) rfl (fun ls hl => ?_)
            refine lv_aload_n hx hb d_M_copied_80 rfl (lv_at hl 1 rfl) ?_
            refine va_get (D := (dC, dI)) (ci := 6) (v := .int ((va_up (va_up (va_up mk 2 (nI (cpF x y i (mv, mn 2, mn 3)).2.1)) 3 (nI (cpF x y i (mv, mn 2, mn 3)).2.2)) 2 (nI ((cpF x y i (mv, mn 2, mn 3)).2.1 + 1))) 3)) (C := R_M) (T := F_M) (N := 20) hx hb hts i_M hown hK hP 0 rfl rfl 16 (by decide) (hts _ fl_M_81) (fun _ h9 => h9) rfl d_M_copied_81 ?_
            refine lv_istore (lv' := [(7, .int ((va_up (va_up (va_up mk 2 (nI (cpF x y i (mv, mn 2, mn 3)).2.1)) 3 (nI (cpF x y i (mv, mn 2, mn 3)).2.2)) 2 (nI ((cpF x y i (mv, mn 2, mn 3)).2.1 + 1))) 3)), (6, .int (nI (cpF x y i (mv, mn 2, mn 3)).2.1)), (0, .ref (ab 0)), (1, .int x), (2, .int y), (3, .int (nI (mn 2))), (4, .int (nI ((cpF x y i (mv, mn 2, mn 3)).2.1 - mn 2))), (5, .int (nI i))]) hx hb d_M_copied_84 hl (by decide) rfl (fun ls hl => ?_)
            refine lv_iconst (v := 0) hx hb d_M_copied_86 (by decide) ?_
            refine lv_istore (lv' := [(8, .int 0), (7, .int ((va_up (va_up (va_up mk 2 (nI (cpF x y i (mv, mn 2, mn 3)).2.1)) 3 (nI (cpF x y i (mv, mn 2, mn 3)).2.2)) 2 (nI ((cpF x y i (mv, mn 2, mn 3)).2.1 + 1))) 3)), (6, .int (nI (cpF x y i (mv, mn 2, mn 3)).2.1)), (0, .ref (ab 0)), (1, .int x), (2, .int y), (3, .int (nI (mn 2))), (4, .int (nI ((cpF x y i (mv, mn 2, mn 3)).2.1 - mn 2))), (5, .int (nI i))]) hx hb d_M_copied_87 hl (by decide) rfl (fun ls hl => ?_)
            have loop_89 : ∀ (k9 j : Nat), (cpF x y i (mv, mn 2, mn 3)).2.2 + 1 ≤ j + k9 → j ≤ (cpF x y i (mv, mn 2, mn 3)).2.2 → ∀ (H : Heap) (locs : List Loc), va_P (dC, dI) classes (wM ab cI cZ (va_up (va_up mk 2 (nI ((cpF x y i (mv, mn 2, mn 3)).2.1 + 1))) 3 (nI (ocF (nI i) (nI (cpF x y i (mv, mn 2, mn 3)).2.1) j ((adV (cpF x y i (mv, mn 2, mn 3)).1 (cpF x y i (mv, mn 2, mn 3)).2.1 y ((cpF x y i (mv, mn 2, mn 3)).1 3 i) ((cpF x y i (mv, mn 2, mn 3)).1 4 i) ((cpF x y i (mv, mn 2, mn 3)).1 5 i) ((cpF x y i (mv, mn 2, mn 3)).1 6 i) ((cpF x y i (mv, mn 2, mn 3)).1 7 i)), (cpF x y i (mv, mn 2, mn 3)).2.2)).2)) (ocF (nI i) (nI (cpF x y i (mv, mn 2, mn 3)).2.1) j ((adV (cpF x y i (mv, mn 2, mn 3)).1 (cpF x y i (mv, mn 2, mn 3)).2.1 y ((cpF x y i (mv, mn 2, mn 3)).1 3 i) ((cpF x y i (mv, mn 2, mn 3)).1 4 i) ((cpF x y i (mv, mn 2, mn 3)).1 5 i) ((cpF x y i (mv, mn 2, mn 3)).1 6 i) ((cpF x y i (mv, mn 2, mn 3)).1 7 i)), (cpF x y i (mv, mn 2, mn 3)).2.2)).1) H → va_S (aN ab 14) s.heap H locs → ∀ (ls : Array Slot), lv_has ls 9 [(0, .ref (ab 0)), (1, .int x), (2, .int y), (3, .int (nI (mn 2))), (4, .int (nI ((cpF x y i (mv, mn 2, mn 3)).2.1 - mn 2))), (5, .int (nI i)), (6, .int (nI (cpF x y i (mv, mn 2, mn 3)).2.1)), (7, .int (nI (cpF x y i (mv, mn 2, mn 3)).2.2)), (8, .int (nI j))] → W p l e (headSpec (wB y_M_copied b_M_copied 9 (some .int)) ({ frames := 1, cells := 0, slots := 0, locals := 26 } : Room)).room s m [.ref (ab 0), .int x, .int y].toArray below meth c H locs 0 0 (MQ below (qW (some (.int (nI ((cpF x y (mn 2) (mv, mn 2, mn 3)).2.1 - mn 2)))) (aN ab 14) (fun H1 => va_P (dC, dI) classes (wM ab cI cZ (va_up (va_up mk 2 (nI (cpF x y (mn 2) (mv, mn 2, mn 3)).2.1)) 3 (nI (cpF x y (mn 2) (mv, mn 2, mn 3)).2.2)) (cpF x y (mn 2) (mv, mn 2, mn 3)).1) H1)) [.ref (ab 0), .int x, .int y].toArray s 0 0 (aN ab 14)) (F0 m 89 ls []) := by
              intro k9_89
              induction k9_89 with
              | zero => intro j  hk_89 hj H locs hP hS ls hl; exact absurd hk_89 (by omega)
              | succ k9_89 ih_89 =>
                intro j  hk_89 hj H locs hP hS ls hl
                have hD : va_D (aN ab 14) (wM ab cI cZ (va_up (va_up mk 2 (nI ((cpF x y i (mv, mn 2, mn 3)).2.1 + 1))) 3 (nI (ocF (nI i) (nI (cpF x y i (mv, mn 2, mn 3)).2.1) j ((adV (cpF x y i (mv, mn 2, mn 3)).1 (cpF x y i (mv, mn 2, mn 3)).2.1 y ((cpF x y i (mv, mn 2, mn 3)).1 3 i) ((cpF x y i (mv, mn 2, mn 3)).1 4 i) ((cpF x y i (mv, mn 2, mn 3)).1 5 i) ((cpF x y i (mv, mn 2, mn 3)).1 6 i) ((cpF x y i (mv, mn 2, mn 3)).1 7 i)), (cpF x y i (mv, mn 2, mn 3)).2.2)).2)) (ocF (nI i) (nI (cpF x y i (mv, mn 2, mn 3)).2.1) j ((adV (cpF x y i (mv, mn 2, mn 3)).1 (cpF x y i (mv, mn 2, mn 3)).2.1 y ((cpF x y i (mv, mn 2, mn 3)).1 3 i) ((cpF x y i (mv, mn 2, mn 3)).1 4 i) ((cpF x y i (mv, mn 2, mn 3)).1 5 i) ((cpF x y i (mv, mn 2, mn 3)).1 6 i) ((cpF x y i (mv, mn 2, mn 3)).1 7 i)), (cpF x y i (mv, mn 2, mn 3)).2.2)).1) := wM_D (dD_aN hdD)
                refine lv_iload hx hb d_M_copied_89 (lv_at hl 8 rfl) ?_
                refine lv_iload hx hb d_M_copied_91 (lv_at hl 7 rfl) ?_
                refine lv_icmp_ge (tgt := 135) hx hb d_M_copied_93 (by decide) (fun c_93 => ?_) (fun c_93 => ?_)
                · have hj2 : (cpF x y i (mv, mn 2, mn 3)).2.2 = j := Nat.le_antisymm (geC rfl c_93 (by omega) (by omega)) hj
                  refine lv_iinc (v := (nI (((cpF x y i (mv, mn 2, mn 3)).2.1 - mn 2) + 1))) (lv' := [(4, .int (nI (((cpF x y i (mv, mn 2, mn 3)).2.1 - mn 2) + 1))), (0, .ref (ab 0)), (1, .int x), (2, .int y), (3, .int (nI (mn 2))), (5, .int (nI i)), (6, .int (nI (cpF x y i (mv, mn 2, mn 3)).2.1)), (7, .int (nI (cpF x y i (mv, mn 2, mn 3)).2.2)), (8, .int (nI j))]) hx hb d_M_copied_135 hl (k := 4) rfl (nI_1 _) (by decide) rfl (fun ls hl => ?_)
                  refine lv_iinc (v := (nI (i + 1))) (lv' := [(5, .int (nI (i + 1))), (4, .int (nI (((cpF x y i (mv, mn 2, mn 3)).2.1 - mn 2) + 1))), (0, .ref (ab 0)), (1, .int x), (2, .int y), (3, .int (nI (mn 2))), (6, .int (nI (cpF x y i (mv, mn 2, mn 3)).2.1)), (7, .int (nI (cpF x y i (mv, mn 2, mn 3)).2.2)), (8, .int (nI j))]) hx hb d_M_copied_138 hl (k := 5) rfl (nI_1 _) (by decide) rfl (fun ls hl => ?_)
                  refine lv_goto (tgt := 11) hx hb d_M_copied_141 (by decide) ?_
                  have hl : lv_has ls 9 [(0, .ref (ab 0)), (1, .int x), (2, .int y), (3, .int (nI (mn 2))), (4, .int (nI ((cpF x y (i + 1) (mv, mn 2, mn 3)).2.1 - mn 2))), (5, .int (nI (i + 1)))] := by rw [show (cpF x y (i + 1) (mv, mn 2, mn 3)).2.1 - mn 2 = (cpF x y i (mv, mn 2, mn 3)).2.1 - mn 2 + 1 by rw [eo]; show (cpF x y i (mv, mn 2, mn 3)).2.1 + 1 - mn 2 = _; omega]; exact lv_sub hl [2, 3, 4, 5, 1, 0] rfl
                  have hP : va_P (dC, dI) classes (wM ab cI cZ (va_up (va_up mk 2 (nI (cpF x y (i + 1) (mv, mn 2, mn 3)).2.1)) 3 (nI (cpF x y (i + 1) (mv, mn 2, mn 3)).2.2)) (cpF x y (i + 1) (mv, mn 2, mn 3)).1) H := by rw [eo]; subst hj2; exact hP
                  exact ih_11 (i + 1) (by omega) (by omega) _ _ hP hS ls (lv_sub hl [0, 1, 2, 3, 4, 5] rfl)
                · have hj2 : j < (cpF x y i (mv, mn 2, mn 3)).2.2 := ltC rfl c_93 (by omega) (by omega)
                  refine lv_aload_n hx hb d_M_copied_96 rfl (lv_at hl 0 rfl) ?_
                  refine va_get (D := (dC, dI)) (ci := 6) (v := .ref (ab 11)) (C := R_M) (T := F_M) (N := 20) hx hb hts i_M hown hK hP 0 rfl rfl 17 (by decide) (hts _ fl_M_41) (fun _ h9 => h9) rfl d_M_copied_97 ?_
                  refine lv_iload hx hb d_M_copied_100 (lv_at hl 8 rfl) ?_
                  refine va_iald hx hb hK hP 11 0 rfl rfl (vp_in_nI (by omega) (by omega)) d_M_copied_102 ?_
                  rw [nI_clamp (show j < 2 ^ 31 by omega)]
                  refine lv_iload hx hb d_M_copied_103 (lv_at hl 5 rfl) ?_
                  refine lv_icmp_ne (tgt := 129) hx hb d_M_copied_105 (by decide) (fun c_105 => ?_) (fun c_105 => ?_)
                  · refine lv_iinc (v := (nI (j + 1))) (lv' := [(8, .int (nI (j + 1))), (0, .ref (ab 0)), (1, .int x), (2, .int y), (3, .int (nI (mn 2))), (4, .int (nI ((cpF x y i (mv, mn 2, mn 3)).2.1 - mn 2))), (5, .int (nI i)), (6, .int (nI (cpF x y i (mv, mn 2, mn 3)).2.1)), (7, .int (nI (cpF x y i (mv, mn 2, mn 3)).2.2))]) hx hb d_M_copied_129 hl (k := 8) rfl (nI_1 _) (by decide) rfl (fun ls hl => ?_)
                    refine lv_goto (tgt := 89) hx hb d_M_copied_132 (by decide) ?_
                    have eo2 := ocF_f (y := nI (cpF x y i (mv, mn 2, mn 3)).2.1) c_105
                    rw [← eo2] at hP
                    exact ih_89 (j + 1) (by omega) (by omega) _ _ hP hS ls (lv_sub hl [1, 2, 3, 4, 5, 6, 7, 8, 0] rfl)
                  · have c_105 : (ocF (nI i) (nI (cpF x y i (mv, mn 2, mn 3)).2.1) j ((adV (cpF x y i (mv, mn 2, mn 3)).1 (cpF x y i (mv, mn 2, mn 3)).2.1 y ((cpF x y i (mv, mn 2, mn 3)).1 3 i) ((cpF x y i (mv, mn 2, mn 3)).1 4 i) ((cpF x y i (mv, mn 2, mn 3)).1 5 i) ((cpF x y i (mv, mn 2, mn 3)).1 6 i) ((cpF x y i (mv, mn 2, mn 3)).1 7 i)), (cpF x y i (mv, mn 2, mn 3)).2.2)).1 9 j = nI i := by simpa using c_105
                    have hr9 : (ocF (nI i) (nI (cpF x y i (mv, mn 2, mn 3)).2.1) j ((adV (cpF x y i (mv, mn 2, mn 3)).1 (cpF x y i (mv, mn 2, mn 3)).2.1 y ((cpF x y i (mv, mn 2, mn 3)).1 3 i) ((cpF x y i (mv, mn 2, mn 3)).1 4 i) ((cpF x y i (mv, mn 2, mn 3)).1 5 i) ((cpF x y i (mv, mn 2, mn 3)).1 6 i) ((cpF x y i (mv, mn 2, mn 3)).1 7 i)), (cpF x y i (mv, mn 2, mn 3)).2.2)).2 < 60 := by
                      have e1 := ocF_mono (nI i) (nI (cpF x y i (mv, mn 2, mn 3)).2.1) ((adV (cpF x y i (mv, mn 2, mn 3)).1 (cpF x y i (mv, mn 2, mn 3)).2.1 y ((cpF x y i (mv, mn 2, mn 3)).1 3 i) ((cpF x y i (mv, mn 2, mn 3)).1 4 i) ((cpF x y i (mv, mn 2, mn 3)).1 5 i) ((cpF x y i (mv, mn 2, mn 3)).1 6 i) ((cpF x y i (mv, mn 2, mn 3)).1 7 i)), (cpF x y i (mv, mn 2, mn 3)).2.2) (j + 1) ((cpF x y i (mv, mn 2, mn 3)).2.2 - (j + 1))
                      rw [show j + 1 + ((cpF x y i (mv, mn 2, mn 3)).2.2 - (j + 1)) = (cpF x y i (mv, mn 2, mn 3)).2.2 by omega, ocF_t (y := nI (cpF x y i (mv, mn 2, mn 3)).2.1) c_105] at e1
                      exact Nat.lt_of_lt_of_le (Nat.lt_succ_self _) (Nat.le_trans e1 ho9)
                    refine lv_aload_n hx hb d_M_copied_108 rfl (lv_at hl 0 rfl) ?_
                    refine lv_iload hx hb d_M_copied_109 (lv_at hl 6 rfl) ?_
                    refine lv_aload_n hx hb d_M_copied_111 rfl (lv_at hl 0 rfl) ?_
                    refine va_get (D := (dC, dI)) (ci := 6) (v := .ref (ab 12)) (C := R_M) (T := F_M) (N := 20) hx hb hts i_M hown hK hP 0 rfl rfl 18 (by decide) (hts _ fl_M_44) (fun _ h9 => h9) rfl d_M_copied_112 ?_
                    refine lv_iload hx hb d_M_copied_115 (lv_at hl 8 rfl) ?_
                    refine va_iald hx hb hK hP 12 0 rfl rfl (vp_in_nI (by omega) (by omega)) d_M_copied_117 ?_
                    rw [nI_clamp (show j < 2 ^ 31 by omega)]
                    refine lv_aload_n hx hb d_M_copied_118 rfl (lv_at hl 0 rfl) ?_
                    refine va_get (D := (dC, dI)) (ci := 6) (v := .ref (ab 13)) (C := R_M) (T := F_M) (N := 20) hx hb hts i_M hown hK hP 0 rfl rfl 19 (by decide) (hts _ fl_M_47) (fun _ h9 => h9) rfl d_M_copied_119 ?_
                    refine lv_iload hx hb d_M_copied_122 (lv_at hl 8 rfl) ?_
                    refine va_iald hx hb hK hP 13 0 rfl rfl (vp_in_nI (by omega) (by omega)) d_M_copied_124 ?_
                    rw [nI_clamp (show j < 2 ^ 31 by omega)]
                    refine cW (W.runV (As := [.int (nI (cpF x y i (mv, mn 2, mn 3)).2.1), .int (((ocF (nI i) (nI (cpF x y i (mv, mn 2, mn 3)).2.1) j ((adV (cpF x y i (mv, mn 2, mn 3)).1 (cpF x y i (mv, mn 2, mn 3)).2.1 y ((cpF x y i (mv, mn 2, mn 3)).1 3 i) ((cpF x y i (mv, mn 2, mn 3)).1 4 i) ((cpF x y i (mv, mn 2, mn 3)).1 5 i) ((cpF x y i (mv, mn 2, mn 3)).1 6 i) ((cpF x y i (mv, mn 2, mn 3)).1 7 i)), (cpF x y i (mv, mn 2, mn 3)).2.2)).1 10) j), .int (((ocF (nI i) (nI (cpF x y i (mv, mn 2, mn 3)).2.1) j ((adV (cpF x y i (mv, mn 2, mn 3)).1 (cpF x y i (mv, mn 2, mn 3)).2.1 y ((cpF x y i (mv, mn 2, mn 3)).1 3 i) ((cpF x y i (mv, mn 2, mn 3)).1 4 i) ((cpF x y i (mv, mn 2, mn 3)).1 5 i) ((cpF x y i (mv, mn 2, mn 3)).1 6 i) ((cpF x y i (mv, mn 2, mn 3)).1 7 i)), (cpF x y i (mv, mn 2, mn 3)).2.2)).1 11) j)]) (rest := []) ⟨hx, hb, hml, hown, hts⟩ (c_M_cut hP hdD (r := (ocF (nI i) (nI (cpF x y i (mv, mn 2, mn 3)).2.1) j ((adV (cpF x y i (mv, mn 2, mn 3)).1 (cpF x y i (mv, mn 2, mn 3)).2.1 y ((cpF x y i (mv, mn 2, mn 3)).1 3 i) ((cpF x y i (mv, mn 2, mn 3)).1 4 i) ((cpF x y i (mv, mn 2, mn 3)).1 5 i) ((cpF x y i (mv, mn 2, mn 3)).1 6 i) ((cpF x y i (mv, mn 2, mn 3)).1 7 i)), (cpF x y i (mv, mn 2, mn 3)).2.2)).2) rfl hr9 _ _ _) (cwV 3 hts (wB_goodV (fun _ h => h) ml_M_88 im_M_cut se_M_cut ini_M co_M_cut) rfl rfl rfl (by decide +kernel) ⟨Nat.le_of_ble_eq_true rfl, Nat.le_of_ble_eq_true rfl⟩) (pV hK hP (ci := 6) (q0 := 0) rfl rfl _) rfl rfl hl.1 rfl (lv_room (Nat.le_of_ble_eq_true rfl)) d_M_copied_125 ⟨Nat.zero_le _, Nat.zero_le _⟩) hS (fun _ h => h) (fun H locs hP hS _ _ => ?_)
                    have hP : va_P (dC, dI) classes (wM ab cI cZ (va_up (va_up (va_up mk 2 (nI ((cpF x y i (mv, mn 2, mn 3)).2.1 + 1))) 3 (nI (ocF (nI i) (nI (cpF x y i (mv, mn 2, mn 3)).2.1) j ((adV (cpF x y i (mv, mn 2, mn 3)).1 (cpF x y i (mv, mn 2, mn 3)).2.1 y ((cpF x y i (mv, mn 2, mn 3)).1 3 i) ((cpF x y i (mv, mn 2, mn 3)).1 4 i) ((cpF x y i (mv, mn 2, mn 3)).1 5 i) ((cpF x y i (mv, mn 2, mn 3)).1 6 i) ((cpF x y i (mv, mn 2, mn 3)).1 7 i)), (cpF x y i (mv, mn 2, mn 3)).2.2)).2)) 3 (nI ((ocF (nI i) (nI (cpF x y i (mv, mn 2, mn 3)).2.1) j ((adV (cpF x y i (mv, mn 2, mn 3)).1 (cpF x y i (mv, mn 2, mn 3)).2.1 y ((cpF x y i (mv, mn 2, mn 3)).1 3 i) ((cpF x y i (mv, mn 2, mn 3)).1 4 i) ((cpF x y i (mv, mn 2, mn 3)).1 5 i) ((cpF x y i (mv, mn 2, mn 3)).1 6 i) ((cpF x y i (mv, mn 2, mn 3)).1 7 i)), (cpF x y i (mv, mn 2, mn 3)).2.2)).2 + 1))) (owV (ocF (nI i) (nI (cpF x y i (mv, mn 2, mn 3)).2.1) j ((adV (cpF x y i (mv, mn 2, mn 3)).1 (cpF x y i (mv, mn 2, mn 3)).2.1 y ((cpF x y i (mv, mn 2, mn 3)).1 3 i) ((cpF x y i (mv, mn 2, mn 3)).1 4 i) ((cpF x y i (mv, mn 2, mn 3)).1 5 i) ((cpF x y i (mv, mn 2, mn 3)).1 6 i) ((cpF x y i (mv, mn 2, mn 3)).1 7 i)), (cpF x y i (mv, mn 2, mn 3)).2.2)).1 (ocF (nI i) (nI (cpF x y i (mv, mn 2, mn 3)).2.1) j ((adV (cpF x y i (mv, mn 2, mn 3)).1 (cpF x y i (mv, mn 2, mn 3)).2.1 y ((cpF x y i (mv, mn 2, mn 3)).1 3 i) ((cpF x y i (mv, mn 2, mn 3)).1 4 i) ((cpF x y i (mv, mn 2, mn 3)).1 5 i) ((cpF x y i (mv, mn 2, mn 3)).1 6 i) ((cpF x y i (mv, mn 2, mn 3)).1 7 i)), (cpF x y i (mv, mn 2, mn 3)).2.2)).2 (nI (cpF x y i (mv, mn 2, mn 3)).2.1) (((ocF (nI i) (nI (cpF x y i (mv, mn 2, mn 3)).2.1) j ((adV (cpF x y i (mv, mn 2, mn 3)).1 (cpF x y i (mv, mn 2, mn 3)).2.1 y ((cpF x y i (mv, mn 2, mn 3)).1 3 i) ((cpF x y i (mv, mn 2, mn 3)).1 4 i) ((cpF x y i (mv, mn 2, mn 3)).1 5 i) ((cpF x y i (mv, mn 2, mn 3)).1 6 i) ((cpF x y i (mv, mn 2, mn 3)).1 7 i)), (cpF x y i (mv, mn 2, mn 3)).2.2)).1 10) j) (((ocF (nI i) (nI (cpF x y i (mv, mn 2, mn 3)).2.1) j ((adV (cpF x y i (mv, mn 2, mn 3)).1 (cpF x y i (mv, mn 2, mn 3)).2.1 y ((cpF x y i (mv, mn 2, mn 3)).1 3 i) ((cpF x y i (mv, mn 2, mn 3)).1 4 i) ((cpF x y i (mv, mn 2, mn 3)).1 5 i) ((cpF x y i (mv, mn 2, mn 3)).1 6 i) ((cpF x y i (mv, mn 2, mn 3)).1 7 i)), (cpF x y i (mv, mn 2, mn 3)).2.2)).1 11) j))) H := hP
                    have hD : va_D (aN ab 14) (wM ab cI cZ (va_up (va_up (va_up mk 2 (nI ((cpF x y i (mv, mn 2, mn 3)).2.1 + 1))) 3 (nI (ocF (nI i) (nI (cpF x y i (mv, mn 2, mn 3)).2.1) j ((adV (cpF x y i (mv, mn 2, mn 3)).1 (cpF x y i (mv, mn 2, mn 3)).2.1 y ((cpF x y i (mv, mn 2, mn 3)).1 3 i) ((cpF x y i (mv, mn 2, mn 3)).1 4 i) ((cpF x y i (mv, mn 2, mn 3)).1 5 i) ((cpF x y i (mv, mn 2, mn 3)).1 6 i) ((cpF x y i (mv, mn 2, mn 3)).1 7 i)), (cpF x y i (mv, mn 2, mn 3)).2.2)).2)) 3 (nI ((ocF (nI i) (nI (cpF x y i (mv, mn 2, mn 3)).2.1) j ((adV (cpF x y i (mv, mn 2, mn 3)).1 (cpF x y i (mv, mn 2, mn 3)).2.1 y ((cpF x y i (mv, mn 2, mn 3)).1 3 i) ((cpF x y i (mv, mn 2, mn 3)).1 4 i) ((cpF x y i (mv, mn 2, mn 3)).1 5 i) ((cpF x y i (mv, mn 2, mn 3)).1 6 i) ((cpF x y i (mv, mn 2, mn 3)).1 7 i)), (cpF x y i (mv, mn 2, mn 3)).2.2)).2 + 1))) (owV (ocF (nI i) (nI (cpF x y i (mv, mn 2, mn 3)).2.1) j ((adV (cpF x y i (mv, mn 2, mn 3)).1 (cpF x y i (mv, mn 2, mn 3)).2.1 y ((cpF x y i (mv, mn 2, mn 3)).1 3 i) ((cpF x y i (mv, mn 2, mn 3)).1 4 i) ((cpF x y i (mv, mn 2, mn 3)).1 5 i) ((cpF x y i (mv, mn 2, mn 3)).1 6 i) ((cpF x y i (mv, mn 2, mn 3)).1 7 i)), (cpF x y i (mv, mn 2, mn 3)).2.2)).1 (ocF (nI i) (nI (cpF x y i (mv, mn 2, mn 3)).2.1) j ((adV (cpF x y i (mv, mn 2, mn 3)).1 (cpF x y i (mv, mn 2, mn 3)).2.1 y ((cpF x y i (mv, mn 2, mn 3)).1 3 i) ((cpF x y i (mv, mn 2, mn 3)).1 4 i) ((cpF x y i (mv, mn 2, mn 3)).1 5 i) ((cpF x y i (mv, mn 2, mn 3)).1 6 i) ((cpF x y i (mv, mn 2, mn 3)).1 7 i)), (cpF x y i (mv, mn 2, mn 3)).2.2)).2 (nI (cpF x y i (mv, mn 2, mn 3)).2.1) (((ocF (nI i) (nI (cpF x y i (mv, mn 2, mn 3)).2.1) j ((adV (cpF x y i (mv, mn 2, mn 3)).1 (cpF x y i (mv, mn 2, mn 3)).2.1 y ((cpF x y i (mv, mn 2, mn 3)).1 3 i) ((cpF x y i (mv, mn 2, mn 3)).1 4 i) ((cpF x y i (mv, mn 2, mn 3)).1 5 i) ((cpF x y i (mv, mn 2, mn 3)).1 6 i) ((cpF x y i (mv, mn 2, mn 3)).1 7 i)), (cpF x y i (mv, mn 2, mn 3)).2.2)).1 10) j) (((ocF (nI i) (nI (cpF x y i (mv, mn 2, mn 3)).2.1) j ((adV (cpF x y i (mv, mn 2, mn 3)).1 (cpF x y i (mv, mn 2, mn 3)).2.1 y ((cpF x y i (mv, mn 2, mn 3)).1 3 i) ((cpF x y i (mv, mn 2, mn 3)).1 4 i) ((cpF x y i (mv, mn 2, mn 3)).1 5 i) ((cpF x y i (mv, mn 2, mn 3)).1 6 i) ((cpF x y i (mv, mn 2, mn 3)).1 7 i)), (cpF x y i (mv, mn 2, mn 3)).2.2)).1 11) j))) := wM_D (dD_aN hdD)
                    refine lv_pop hx hb d_M_copied_128 rfl ?_
                    refine lv_iinc (v := (nI (j + 1))) (lv' := [(8, .int (nI (j + 1))), (0, .ref (ab 0)), (1, .int x), (2, .int y), (3, .int (nI (mn 2))), (4, .int (nI ((cpF x y i (mv, mn 2, mn 3)).2.1 - mn 2))), (5, .int (nI i)), (6, .int (nI (cpF x y i (mv, mn 2, mn 3)).2.1)), (7, .int (nI (cpF x y i (mv, mn 2, mn 3)).2.2))]) hx hb d_M_copied_129 hl (k := 8) rfl (nI_1 _) (by decide) rfl (fun ls hl => ?_)
                    refine lv_goto (tgt := 89) hx hb d_M_copied_132 (by decide) ?_
                    have eo2 := ocF_t (y := nI (cpF x y i (mv, mn 2, mn 3)).2.1) c_105
                    have hP : va_P (dC, dI) classes (wM ab cI cZ (va_up (va_up mk 2 (nI ((cpF x y i (mv, mn 2, mn 3)).2.1 + 1))) 3 (nI (ocF (nI i) (nI (cpF x y i (mv, mn 2, mn 3)).2.1) (j + 1) ((adV (cpF x y i (mv, mn 2, mn 3)).1 (cpF x y i (mv, mn 2, mn 3)).2.1 y ((cpF x y i (mv, mn 2, mn 3)).1 3 i) ((cpF x y i (mv, mn 2, mn 3)).1 4 i) ((cpF x y i (mv, mn 2, mn 3)).1 5 i) ((cpF x y i (mv, mn 2, mn 3)).1 6 i) ((cpF x y i (mv, mn 2, mn 3)).1 7 i)), (cpF x y i (mv, mn 2, mn 3)).2.2)).2)) (ocF (nI i) (nI (cpF x y i (mv, mn 2, mn 3)).2.1) (j + 1) ((adV (cpF x y i (mv, mn 2, mn 3)).1 (cpF x y i (mv, mn 2, mn 3)).2.1 y ((cpF x y i (mv, mn 2, mn 3)).1 3 i) ((cpF x y i (mv, mn 2, mn 3)).1 4 i) ((cpF x y i (mv, mn 2, mn 3)).1 5 i) ((cpF x y i (mv, mn 2, mn 3)).1 6 i) ((cpF x y i (mv, mn 2, mn 3)).1 7 i)), (cpF x y i (mv, mn 2, mn 3)).2.2)).1) H := by rw [eo2, ← wM_of (lt7 rfl rfl rfl rfl rfl rfl rfl)]; exact hP
                    exact ih_89 (j + 1) (by omega) (by omega) _ _ hP hS ls (lv_sub hl [1, 2, 3, 4, 5, 6, 7, 8, 0] rfl)
            have hP : va_P (dC, dI) classes (wM ab cI cZ (va_up (va_up mk 2 (nI ((cpF x y i (mv, mn 2, mn 3)).2.1 + 1))) 3 (nI (ocF (nI i) (nI (cpF x y i (mv, mn 2, mn 3)).2.1) 0 ((adV (cpF x y i (mv, mn 2, mn 3)).1 (cpF x y i (mv, mn 2, mn 3)).2.1 y ((cpF x y i (mv, mn 2, mn 3)).1 3 i) ((cpF x y i (mv, mn 2, mn 3)).1 4 i) ((cpF x y i (mv, mn 2, mn 3)).1 5 i) ((cpF x y i (mv, mn 2, mn 3)).1 6 i) ((cpF x y i (mv, mn 2, mn 3)).1 7 i)), (cpF x y i (mv, mn 2, mn 3)).2.2)).2)) (ocF (nI i) (nI (cpF x y i (mv, mn 2, mn 3)).2.1) 0 ((adV (cpF x y i (mv, mn 2, mn 3)).1 (cpF x y i (mv, mn 2, mn 3)).2.1 y ((cpF x y i (mv, mn 2, mn 3)).1 3 i) ((cpF x y i (mv, mn 2, mn 3)).1 4 i) ((cpF x y i (mv, mn 2, mn 3)).1 5 i) ((cpF x y i (mv, mn 2, mn 3)).1 6 i) ((cpF x y i (mv, mn 2, mn 3)).1 7 i)), (cpF x y i (mv, mn 2, mn 3)).2.2)).1) H := by rw [← wM_of (lt7 rfl rfl rfl rfl rfl rfl rfl)]; exact hP
            exact loop_89 ((cpF x y i (mv, mn 2, mn 3)).2.2 + 1) 0 (by omega) (by omega) _ _ hP hS ls (lv_sub hl [3, 4, 5, 6, 7, 8, 2, 1, 0] rfl)
  have hP : va_P (dC, dI) classes (wM ab cI cZ (va_up (va_up mk 2 (nI (mn 2))) 3 (nI (mn 3))) mv) s.heap := by rw [← wM_of (mk := mk) (mk' := va_up (va_up mk 2 (nI (mn 2))) 3 (nI (mn 3))) (lt7 rfl rfl (eK 2 (by decide)) (eK 3 (by decide)) rfl rfl rfl)]; exact hP
  have hl : lv_has ls 9 [(0, .ref (ab 0)), (1, .int x), (2, .int y), (3, .int (nI (mn 2))), (4, .int (nI ((cpF x y 0 (mv, mn 2, mn 3)).2.1 - mn 2))), (5, .int (nI 0))] := by rw [cpF, Nat.sub_self]; exact lv_sub hl [3, 4, 5, 2, 1, 0] rfl
  exact loop_11 (mn 2 + 1) 0 (by omega) (by omega) _ _ hP hS ls (lv_sub hl [0, 1, 2, 3, 4, 5] rfl)
end
