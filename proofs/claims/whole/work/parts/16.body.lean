section
variable {l : Launch} {dC : Nat → ClassId} {dI : Nat → Nat → Nat} {H : Heap} {aa : Nat → Nat} {cI cZ cJ : ClassId} {kn : Nat → Int32} {vv : Nat → Nat → Int32} {nn : Nat → Nat} {AX : Nat → Prop}
set_option maxRecDepth 100000 in
set_option maxHeartbeats 4000000 in
theorem c_C_body (hlt : l.stackTraces = false) (hP : va_P (dC, dI) classes (wC aa cI cZ kn vv) H) (hdD : dD noT aa 22) (hI : okC kn nn) (hV : okV nn vv) (x1 x2 x3 x4 : Int32) : vx_Met l y_C_body (wB y_C_body b_C_body 7 (some .int)) ({ frames := 7, cells := 1, slots := 6, locals := 113 } : Room) (rP [.ref (aa 0), .int x1, .int x2, .int x3, .int x4] H (kT dC dI cI cZ cJ (aN aa 22))) (qT (kTell (haB (kn 0) x1 && plB x2.toInt64 x3.toInt64 && !decide (x4 < 0))) (some (.int (oI (kth (bdB kn vv x1 x2 x3) x4.toNatClampNeg (nn 2))))) (aN aa 22) (fun H1 => va_P (dC, dI) classes (wC aa cI cZ kn vv) H1)) (xT (kTell (haB (kn 0) x1 && plB x2.toInt64 x3.toInt64 && !decide (x4 < 0)))) 1 6 (aN aa 22) := by
  refine vx_ofW (cc := b_C_body) (maxL := 7) (ret := (some .int)) (by decide) rfl ?_
  intro p e s m args below meth c s₁ B hml hexc hv
  obtain ⟨rfl, rfl, hK, hT⟩ := hv
  have hx := B.exec
  have hb := B.bytes
  have hr := B.returns
  have hts0 := atoms_spec (ws := (wB y_C_body b_C_body 7 (some .int))) B.pre
  have hts : ∀ w9 ∈ BG, w9.before [.ref (aa 0), .int x1, .int x2, .int x3, .int x4].toArray s = true := fun w9 hw9 => hts0 w9 (List.mem_cons_of_mem _ hw9)
  have hown : s.vm.findClass R_C = some m.cls := findClass_of_methodNamed B.named
  have hlocks := B.notSynchronized
  have hK : va_K (dC, dI) classes [(cI, .int), (cZ, .boolean), (cJ, .long)] s := hK
  have hD : va_D (aN aa 22) (wC aa cI cZ kn vv) := wC_D (dD_aN hdD)
  have hS : va_S (aN aa 22) s.heap s.heap [] := va_S.rf
  have hl := lv_entry ([.ref (aa 0), .int x1, .int x2, .int x3, .int x4]) (n := 7) (Nat.le_of_ble_eq_true rfl)
  rw [lg_entry_eq]
  generalize (lg_sl ([.ref (aa 0), .int x1, .int x2, .int x3, .int x4]) ++ List.replicate (7 - (lg_sl ([.ref (aa 0), .int x1, .int x2, .int x3, .int x4])).length) Slot.unset).toArray = ls at hl ⊢
  have hl : lv_has ls 7 [(0, .ref (aa 0)), (1, .int x1), (2, .int x2), (3, .int x3), (4, .int x4)] := hl
  obtain ⟨eK, b0, b1, b2, b3, b4, b5⟩ := id hI
  refine lv_aload_n hx hb d_C_body_0 rfl (lv_at hl 0 rfl) ?_
  refine lv_iload_n hx hb d_C_body_1 rfl (lv_at hl 1 rfl) ?_
  by_cases h_2 : haB (kn 0) x1 = true
  · refine cV (W.runV (As := [.int x1]) (rest := []) ⟨hx, hb, hml, hown, hts⟩ (c_C_checkStorey_ok hP  x1 h_2) (cwV 1 hts (wB_goodV (fun _ h => h) ml_C_70 im_C_checkStorey se_C_checkStorey ini_C co_C_checkStorey) rfl rfl rfl (by decide +kernel) ⟨Nat.le_of_ble_eq_true rfl, Nat.le_of_ble_eq_true rfl⟩) (pV hK hP (ci := 0) (q0 := 0) rfl rfl _) rfl rfl hl.1 rfl (lv_room (Nat.le_of_ble_eq_true rfl)) d_C_body_2 ⟨Nat.le_of_ble_eq_true rfl, Nat.le_of_ble_eq_true rfl⟩) ?_
    refine lv_iload_n hx hb d_C_body_5 rfl (lv_at hl 2 rfl) ?_
    refine lv_i2l (v := x2.toInt64) hx hb d_C_body_6 rfl ?_
    refine lv_iload_n hx hb d_C_body_7 rfl (lv_at hl 3 rfl) ?_
    refine lv_i2l (v := x3.toInt64) hx hb d_C_body_8 rfl ?_
    by_cases h_9 : plB (x2.toInt64) (x3.toInt64) = true
    · refine cV (W.runS (As := [.long (x2.toInt64), .long (x3.toInt64)]) (rest := []) ⟨hx, hb, hml, hown, hts⟩ (c_C_checkPlace_ok   (x2.toInt64) (x3.toInt64) h_9) (cwS 2 hts (wB_goodS (fun _ h => h) ml_C_86 st_C_checkPlace ini_C co_C_checkPlace) rfl rfl rfl (by decide +kernel) ⟨Nat.le_of_ble_eq_true rfl, Nat.le_of_ble_eq_true rfl⟩) (pS hK _) rfl rfl hl.1 rfl (lv_room (Nat.le_of_ble_eq_true rfl)) d_C_body_9 ⟨Nat.le_of_ble_eq_true rfl, Nat.le_of_ble_eq_true rfl⟩) ?_
      refine lv_iload hx hb d_C_body_12 (lv_at hl 4 rfl) ?_
      refine lv_if_ge (tgt := 27) hx hb d_C_body_14 (by decide) (fun c_14 => ?_) (fun c_14 => ?_)
      · have h14 : ¬ x4 < 0 := fun h => by rw [Int32.lt_iff_toInt_lt] at h; rw [Int32.le_iff_toInt_le] at c_14; omega
        obtain ⟨q, hq, eq⟩ := nI_of h14
        rw [eq] at hl
        have ec : x4.toNatClampNeg = q := by rw [eq]; exact nI_clamp hq
        refine lv_iload hx hb d_C_body_27 (lv_at hl 4 rfl) ?_
        refine lv_istore (lv' := [(5, .int (nI q)), (0, .ref (aa 0)), (1, .int x1), (2, .int x2), (3, .int x3), (4, .int (nI q))]) hx hb d_C_body_29 hl (by decide) rfl (fun ls hl => ?_)
        refine lv_iconst (v := 0) hx hb d_C_body_31 (by decide) ?_
        refine lv_istore (lv' := [(6, .int 0), (5, .int (nI q)), (0, .ref (aa 0)), (1, .int x1), (2, .int x2), (3, .int x3), (4, .int (nI q))]) hx hb d_C_body_32 hl (by decide) rfl (fun ls hl => ?_)
        have loop_34 : ∀ (k9 i : Nat), nn 2 + 1 ≤ i + k9 → i ≤ nn 2 → fstN (fun i => (bdB kn vv x1 x2 x3) i && decide (cnt (bdB kn vv x1 x2 x3) i = q)) i = none → cnt (bdB kn vv x1 x2 x3) i ≤ q → ∀ (ls : Array Slot), lv_has ls 7 [(0, .ref (aa 0)), (1, .int x1), (2, .int x2), (3, .int x3), (5, .int (nI (q - cnt (bdB kn vv x1 x2 x3) i))), (6, .int (nI i))] → W p l e (headSpec (wB y_C_body b_C_body 7 (some .int)) ({ frames := 7, cells := 1, slots := 6, locals := 113 } : Room)).room s m [.ref (aa 0), .int x1, .int x2, .int x3, .int x4].toArray below meth c s.heap [] 0 0 (vx_MQ below (qT (kTell (haB (kn 0) x1 && plB x2.toInt64 x3.toInt64 && !decide (x4 < 0))) (some (.int (oI (kth (bdB kn vv x1 x2 x3) x4.toNatClampNeg (nn 2))))) (aN aa 22) (fun H1 => va_P (dC, dI) classes (wC aa cI cZ kn vv) H1)) (xT (kTell (haB (kn 0) x1 && plB x2.toInt64 x3.toInt64 && !decide (x4 < 0)))) [.ref (aa 0), .int x1, .int x2, .int x3, .int x4].toArray s 1 6 (aN aa 22)) (F0 m 34 ls []) := by
          intro k9
          induction k9 with
          | zero => intro i hk hi hf hc ls hl; exact absurd hk (by omega)
          | succ k9 ih =>
            intro i hk hi hf hc ls hl
            refine lv_iload hx hb d_C_body_34 (lv_at hl 5 rfl) ?_
            refine lv_aload_n hx hb d_C_body_36 rfl (lv_at hl 0 rfl) ?_
            refine va_get (D := (dC, dI)) (ci := 0) (v := .ref (aa 3)) (C := R_C) (T := F_C) (N := 5) hx hb hts i_C hown hK hP 0 rfl rfl 2 (by decide) (hts _ fl_C_26) (fun _ h9 => h9) rfl d_C_body_37 ?_
            refine va_get (D := (dC, dI)) (ci := 5) (v := .int (kn 2)) (C := R_W) (T := F_W) (N := 8) hx hb hts i_W hown hK hP 3 rfl rfl 7 (by decide) (hts _ fl_C_95) (fun _ h9 => h9) rfl d_C_body_40 ?_
            refine lv_icmp_ge (tgt := 87) hx hb d_C_body_43 (by decide) (fun c_43 => ?_) (fun c_43 => ?_)
            · have hi2 : nn 2 ≤ i := geC (eK 2 (by decide)) c_43 (by omega) (by omega)
              refine lv_iconst (v := (-1)) hx hb d_C_body_87 (by decide) ?_
              have ek : (kTell (haB (kn 0) x1 && plB x2.toInt64 x3.toInt64 && !decide (x4 < 0))) = 0 := by rw [kTell, h_2, h_9, decide_eq_false h14]; rfl
              have er : ((some (.int (oI (kth (bdB kn vv x1 x2 x3) x4.toNatClampNeg (nn 2))))) : Option Value) = some (.int (-1)) := by rw [ec, kth, show nn 2 = i by omega, hf]; rfl
              have hPe : va_P (dC, dI) classes (wC aa cI cZ kn vv) s.heap := by exact hP
              refine vx_ret ?_
              refine W.widen (k := 1) (n := 6) (Nat.zero_le _) (Nat.zero_le _) ?_
              exact W.iret (v := (-1)) hx hb hr (fun t ht hW => ⟨ek, by rw [er], by rw [ht]; exact hPe, hS.F ht⟩) hS.2.2 d_C_body_88
            · have hi2 : i < nn 2 := ltC (eK 2 (by decide)) c_43 (by omega) (by omega)
              refine lv_aload_n hx hb d_C_body_46 rfl (lv_at hl 0 rfl) ?_
              refine va_get (D := (dC, dI)) (ci := 0) (v := .ref (aa 3)) (C := R_C) (T := F_C) (N := 5) hx hb hts i_C hown hK hP 0 rfl rfl 2 (by decide) (hts _ fl_C_26) (fun _ h9 => h9) rfl d_C_body_47 ?_
              refine lv_iload hx hb d_C_body_50 (lv_at hl 5 rfl) ?_
              refine lv_iload_n hx hb d_C_body_52 rfl (lv_at hl 1 rfl) ?_
              refine cR (W.runV (As := [.int (nI i), .int x1]) (rest := []) ⟨hx, hb, hml, hown, hts⟩ (c_W_isOn hP hI (nI i) x1) (cwV 2 hts (wB_goodV (fun _ h => h) ml_C_219 im_W_isOn se_W_isOn ini_W co_W_isOn) rfl rfl rfl (by decide +kernel) ⟨Nat.le_of_ble_eq_true rfl, Nat.le_of_ble_eq_true rfl⟩) (pV hK hP (ci := 5) (q0 := 3) rfl rfl _) rfl rfl hl.1 rfl (lv_room (Nat.le_of_ble_eq_true rfl)) d_C_body_53 ⟨Nat.zero_le _, Nat.zero_le _⟩) ?_
              refine lv_if_eq (tgt := 81) hx hb d_C_body_56 (by decide) (fun c_56 => ?_) (fun c_56 => ?_)
              · refine lv_iinc (v := (nI (i + 1))) (lv' := [(6, .int (nI (i + 1))), (0, .ref (aa 0)), (1, .int x1), (2, .int x2), (3, .int x3), (5, .int (nI (q - cnt (bdB kn vv x1 x2 x3) i)))]) hx hb d_C_body_81 hl (k := 5) rfl (nI_1 _) (by decide) rfl (fun ls hl => ?_)
                refine lv_goto (tgt := 34) hx hb d_C_body_84 (by decide) ?_
                have hp9 : (bdB kn vv x1 x2 x3) i = false := by first | (simp [bdB, bI_0.mp c_56]; done) | (simp [bdB, bI_0.mp c_67]; done)
                rw [cnt_f (p := (bdB kn vv x1 x2 x3)) hp9] at hl hc
                have hn : fstN (fun i => (bdB kn vv x1 x2 x3) i && decide (cnt (bdB kn vv x1 x2 x3) i = q)) (i + 1) = none := fstN_none hf (by simp [hp9])
                exact ih (i + 1) (by omega) (by omega) hn hc ls (lv_sub hl [1, 2, 3, 4, 5, 0] rfl)
              · refine lv_aload_n hx hb d_C_body_59 rfl (lv_at hl 0 rfl) ?_
                refine lv_iload hx hb d_C_body_60 (lv_at hl 5 rfl) ?_
                refine lv_iload_n hx hb d_C_body_62 rfl (lv_at hl 2 rfl) ?_
                refine lv_iload_n hx hb d_C_body_63 rfl (lv_at hl 3 rfl) ?_
                refine cR (W.runV (As := [.int (nI i), .int x2, .int x3]) (rest := []) ⟨hx, hb, hml, hown, hts⟩ (c_C_covers hP hI hV hi2 x2 x3) (cwV 3 hts (wB_goodV (fun _ h => h) ml_C_223 im_C_covers se_C_covers ini_C co_C_covers) rfl rfl rfl (by decide +kernel) ⟨Nat.le_of_ble_eq_true rfl, Nat.le_of_ble_eq_true rfl⟩) (pV hK hP (ci := 0) (q0 := 0) rfl rfl _) rfl rfl hl.1 rfl (lv_room (Nat.le_of_ble_eq_true rfl)) d_C_body_64 ⟨Nat.zero_le _, Nat.zero_le _⟩) ?_
                refine lv_if_eq (tgt := 81) hx hb d_C_body_67 (by decide) (fun c_67 => ?_) (fun c_67 => ?_)
                · refine lv_iinc (v := (nI (i + 1))) (lv' := [(6, .int (nI (i + 1))), (0, .ref (aa 0)), (1, .int x1), (2, .int x2), (3, .int x3), (5, .int (nI (q - cnt (bdB kn vv x1 x2 x3) i)))]) hx hb d_C_body_81 hl (k := 5) rfl (nI_1 _) (by decide) rfl (fun ls hl => ?_)
                  refine lv_goto (tgt := 34) hx hb d_C_body_84 (by decide) ?_
                  have hp9 : (bdB kn vv x1 x2 x3) i = false := by first | (simp [bdB, bI_0.mp c_56]; done) | (simp [bdB, bI_0.mp c_67]; done)
                  rw [cnt_f (p := (bdB kn vv x1 x2 x3)) hp9] at hl hc
                  have hn : fstN (fun i => (bdB kn vv x1 x2 x3) i && decide (cnt (bdB kn vv x1 x2 x3) i = q)) (i + 1) = none := fstN_none hf (by simp [hp9])
                  exact ih (i + 1) (by omega) (by omega) hn hc ls (lv_sub hl [1, 2, 3, 4, 5, 0] rfl)
                · have hp9 : (bdB kn vv x1 x2 x3) i = true := by simp [bdB, bI_n0.mp c_56, bI_n0.mp c_67]
                  refine lv_iload hx hb d_C_body_70 (lv_at hl 4 rfl) ?_
                  refine lv_if_ne (tgt := 78) hx hb d_C_body_72 (by decide) (fun c_72 => ?_) (fun c_72 => ?_)
                  · have hq9 : 0 < q - cnt (bdB kn vv x1 x2 x3) i := Nat.pos_of_ne_zero (fun h => c_72 (by rw [h]; rfl))
                    refine lv_iinc (v := (nI (q - cnt (bdB kn vv x1 x2 x3) i - 1))) (lv' := [(5, .int (nI (q - cnt (bdB kn vv x1 x2 x3) i - 1))), (0, .ref (aa 0)), (1, .int x1), (2, .int x2), (3, .int x3), (6, .int (nI i))]) hx hb d_C_body_78 hl (k := 4) rfl (by exact sb_m1 hq9) (by decide) rfl (fun ls hl => ?_)
                    refine lv_iinc (v := (nI (i + 1))) (lv' := [(6, .int (nI (i + 1))), (5, .int (nI (q - cnt (bdB kn vv x1 x2 x3) i - 1))), (0, .ref (aa 0)), (1, .int x1), (2, .int x2), (3, .int x3)]) hx hb d_C_body_81 hl (k := 5) rfl (nI_1 _) (by decide) rfl (fun ls hl => ?_)
                    refine lv_goto (tgt := 34) hx hb d_C_body_84 (by decide) ?_
                    have hn : fstN (fun i => (bdB kn vv x1 x2 x3) i && decide (cnt (bdB kn vv x1 x2 x3) i = q)) (i + 1) = none := fstN_none hf (by simp [hp9]; omega)
                    rw [show q - cnt (bdB kn vv x1 x2 x3) i - 1 = q - cnt (bdB kn vv x1 x2 x3) (i + 1) by rw [← cnt_t (p := (bdB kn vv x1 x2 x3)) hp9]; omega] at hl
                    have hc : cnt (bdB kn vv x1 x2 x3) (i + 1) ≤ q := by rw [← cnt_t (p := (bdB kn vv x1 x2 x3)) hp9]; omega
                    exact ih (i + 1) (by omega) (by omega) hn hc ls (lv_sub hl [2, 3, 4, 5, 1, 0] rfl)
                  · have hq9 : q - cnt (bdB kn vv x1 x2 x3) i = 0 := (nI_eq (by omega) (by decide)).mp (show nI _ = nI 0 from c_72)
                    refine lv_iload hx hb d_C_body_75 (lv_at hl 5 rfl) ?_
                    have ek : (kTell (haB (kn 0) x1 && plB x2.toInt64 x3.toInt64 && !decide (x4 < 0))) = 0 := by rw [kTell, h_2, h_9, decide_eq_false h14]; rfl
                    have er : ((some (.int (oI (kth (bdB kn vv x1 x2 x3) x4.toNatClampNeg (nn 2))))) : Option Value) = some (.int (nI i)) := by rw [ec, kth, fstN_some hf (by simp [hp9]; omega) _ hi2]; rfl
                    have hPe : va_P (dC, dI) classes (wC aa cI cZ kn vv) s.heap := by exact hP
                    refine vx_ret ?_
                    refine W.widen (k := 1) (n := 6) (Nat.zero_le _) (Nat.zero_le _) ?_
                    exact W.iret (v := (nI i)) hx hb hr (fun t ht hW => ⟨ek, by rw [er], by rw [ht]; exact hPe, hS.F ht⟩) hS.2.2 d_C_body_77
        exact loop_34 (nn 2 + 1) 0 (by omega) (by omega) rfl (Nat.zero_le _) ls (lv_sub hl [2, 3, 4, 5, 1, 0] rfl)
      · have h14 : x4 < 0 := by rw [Int32.lt_iff_toInt_lt]; rw [Int32.le_iff_toInt_le] at c_14; omega
        have ek : (kTell (haB (kn 0) x1 && plB x2.toInt64 x3.toInt64 && !decide (x4 < 0))) = 1 := by simp [kTell, h_2, h_9, h14]
        exact thIA hx hb hlt hown hts hT hS (hl.1.trans hml.symm) (is := 217) (List.mem_of_getElem? (i := 25) rfl) d_C_body_17 d_C_body_20 d_C_body_21 d_C_body_23 d_C_body_26 hexc (Nat.le_of_ble_eq_true rfl) (Nat.le_of_ble_eq_true rfl) (Nat.le_of_ble_eq_true rfl) (Nat.le_of_ble_eq_true rfl) hlocks (fun t hal hz hkp => ⟨Or.inl ⟨ek, rfl⟩, hz, fun q hq _ => hkp q hq⟩) (fun z hz => by cases hz) (Nat.le_of_ble_eq_true rfl) (Nat.le_of_ble_eq_true rfl)
    · have h_9 : plB (x2.toInt64) (x3.toInt64) = false := by simpa using h_9
      have ek : (kTell (haB (kn 0) x1 && plB x2.toInt64 x3.toInt64 && !decide (x4 < 0))) = 1 := by simp [kTell, h_2, h_9]
      refine cX (vx_runS (As := [.long (x2.toInt64), .long (x3.toInt64)]) (rest := []) ⟨hx, hb, hml, hown, hts⟩ (c_C_checkPlace_no hlt   (x2.toInt64) (x3.toInt64) h_9) (cwS 2 hts (wB_goodS (fun _ h => h) ml_C_86 st_C_checkPlace ini_C co_C_checkPlace) rfl rfl rfl (by decide +kernel) ⟨Nat.le_of_ble_eq_true rfl, Nat.le_of_ble_eq_true rfl⟩) (pST hK hT hS _) rfl rfl hl.1 rfl (lv_room (Nat.le_of_ble_eq_true rfl)) d_C_body_9 ⟨Nat.le_of_ble_eq_true rfl, Nat.le_of_ble_eq_true rfl⟩) (fun ce q9 H1 locs1 hz hkp hlo hce hcv hcl => ?_)
      exact vx_out (fun x h => (hexc x h).elim) hlocks hce hcv hcl (fun t ht hal => ⟨Or.inl ⟨ek, rfl⟩, by rw [ht]; exact hz, fun q hq _ => by rw [ht]; exact hkp q hq⟩) (fun z hz9 => by cases hlo z hz9) (Nat.le_of_ble_eq_true rfl) (Nat.le_of_ble_eq_true rfl)
  · have h_2 : haB (kn 0) x1 = false := by simpa using h_2
    have ek : (kTell (haB (kn 0) x1 && plB x2.toInt64 x3.toInt64 && !decide (x4 < 0))) = 1 := by simp [kTell, h_2]
    refine cX (vx_runV (As := [.int x1]) (rest := []) ⟨hx, hb, hml, hown, hts⟩ (c_C_checkStorey_no hlt hP  x1 h_2) (cwV 1 hts (wB_goodV (fun _ h => h) ml_C_70 im_C_checkStorey se_C_checkStorey ini_C co_C_checkStorey) rfl rfl rfl (by decide +kernel) ⟨Nat.le_of_ble_eq_true rfl, Nat.le_of_ble_eq_true rfl⟩) (pVT hK hT hS hP (ci := 0) (q0 := 0) rfl rfl _) rfl rfl hl.1 rfl (lv_room (Nat.le_of_ble_eq_true rfl)) d_C_body_2 ⟨Nat.le_of_ble_eq_true rfl, Nat.le_of_ble_eq_true rfl⟩) (fun ce q9 H1 locs1 hz hkp hlo hce hcv hcl => ?_)
    exact vx_out (fun x h => (hexc x h).elim) hlocks hce hcv hcl (fun t ht hal => ⟨Or.inl ⟨ek, rfl⟩, by rw [ht]; exact hz, fun q hq _ => by rw [ht]; exact hkp q hq⟩) (fun z hz9 => by cases hlo z hz9) (Nat.le_of_ble_eq_true rfl) (Nat.le_of_ble_eq_true rfl)
end
