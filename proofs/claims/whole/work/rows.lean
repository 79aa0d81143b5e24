section
-- ===== PART A: goes FIRST, ahead of the names: the tables' words, and 'selects' of the private methods out of them =====
/-- a private method of a class that the tables say can be made, by its rows of tables_1 -/
def lw_okq (q : MethodName × Nat) : Prop := (q.1.cls ≠ "java/lang/invoke/MethodHandle" ∧ q.1.cls ≠ "java/lang/invoke/VarHandle") ∧ Cond.instantiable q.1.cls q.2 ∈ tables_1 ∧ Cond.privateMethod q.1 ∈ tables_1 ∧ Cond.instanceMethod q.1 ∈ tables_1
theorem lw_p0 : lw_okq (⟨"StoreyShapes", "step", "(II)V"⟩, 5) := ⟨⟨by decide +kernel, by decide +kernel⟩, List.mem_of_getElem? (i := 15) (by decide +kernel), List.mem_of_getElem? (i := 168) (by decide +kernel), List.mem_of_getElem? (i := 169) (by decide +kernel)⟩
theorem lw_p1 : lw_okq (⟨"StoreyShapes", "exchange", "(III)I"⟩, 5) := ⟨⟨by decide +kernel, by decide +kernel⟩, List.mem_of_getElem? (i := 15) (by decide +kernel), List.mem_of_getElem? (i := 176) (by decide +kernel), List.mem_of_getElem? (i := 177) (by decide +kernel)⟩
theorem lw_p2 : lw_okq (⟨"StoreyShapes", "goForward", "()V"⟩, 5) := ⟨⟨by decide +kernel, by decide +kernel⟩, List.mem_of_getElem? (i := 15) (by decide +kernel), List.mem_of_getElem? (i := 184) (by decide +kernel), List.mem_of_getElem? (i := 185) (by decide +kernel)⟩
theorem lw_p3 : lw_okq (⟨"StoreyShapes", "checkLevel", "(II)V"⟩, 5) := ⟨⟨by decide +kernel, by decide +kernel⟩, List.mem_of_getElem? (i := 15) (by decide +kernel), List.mem_of_getElem? (i := 197) (by decide +kernel), List.mem_of_getElem? (i := 198) (by decide +kernel)⟩
theorem lw_p4 : lw_okq (⟨"java/lang/Throwable", "fillInStackTrace", "(I)Ljava/lang/Throwable;"⟩, 6) := ⟨⟨by decide +kernel, by decide +kernel⟩, List.mem_of_getElem? (i := 238) (by decide +kernel), List.mem_of_getElem? (i := 236) (by decide +kernel), List.mem_of_getElem? (i := 237) (by decide +kernel)⟩
theorem lw_p5 : lw_okq (⟨"StoreyShapes", "checkRoomForAct", "()V"⟩, 5) := ⟨⟨by decide +kernel, by decide +kernel⟩, List.mem_of_getElem? (i := 15) (by decide +kernel), List.mem_of_getElem? (i := 289) (by decide +kernel), List.mem_of_getElem? (i := 290) (by decide +kernel)⟩
theorem lw_p6 : lw_okq (⟨"StoreyShapes", "perform", "(IIII)V"⟩, 5) := ⟨⟨by decide +kernel, by decide +kernel⟩, List.mem_of_getElem? (i := 15) (by decide +kernel), List.mem_of_getElem? (i := 294) (by decide +kernel), List.mem_of_getElem? (i := 295) (by decide +kernel)⟩
theorem lw_p7 : lw_okq (⟨"StoreyShapes", "checkStorey", "(I)V"⟩, 5) := ⟨⟨by decide +kernel, by decide +kernel⟩, List.mem_of_getElem? (i := 15) (by decide +kernel), List.mem_of_getElem? (i := 309) (by decide +kernel), List.mem_of_getElem? (i := 310) (by decide +kernel)⟩
theorem lw_p8 : lw_okq (⟨"StoreyShapes", "checkType", "(I)V"⟩, 5) := ⟨⟨by decide +kernel, by decide +kernel⟩, List.mem_of_getElem? (i := 15) (by decide +kernel), List.mem_of_getElem? (i := 337) (by decide +kernel), List.mem_of_getElem? (i := 338) (by decide +kernel)⟩
theorem lw_p9 : lw_okq (⟨"StoreyShapes", "checkWall", "(I)V"⟩, 5) := ⟨⟨by decide +kernel, by decide +kernel⟩, List.mem_of_getElem? (i := 15) (by decide +kernel), List.mem_of_getElem? (i := 372) (by decide +kernel), List.mem_of_getElem? (i := 373) (by decide +kernel)⟩
theorem lw_p10 : lw_okq (⟨"StoreyShapes", "openingsOn", "(I)I"⟩, 5) := ⟨⟨by decide +kernel, by decide +kernel⟩, List.mem_of_getElem? (i := 15) (by decide +kernel), List.mem_of_getElem? (i := 437) (by decide +kernel), List.mem_of_getElem? (i := 438) (by decide +kernel)⟩
theorem lw_p11 : lw_okq (⟨"StoreyShapes", "writeCopies", "(II)V"⟩, 5) := ⟨⟨by decide +kernel, by decide +kernel⟩, List.mem_of_getElem? (i := 15) (by decide +kernel), List.mem_of_getElem? (i := 444) (by decide +kernel), List.mem_of_getElem? (i := 445) (by decide +kernel)⟩
theorem lw_p12 : lw_okq (⟨"StoreyShapes", "netLength", "(I)J"⟩, 5) := ⟨⟨by decide +kernel, by decide +kernel⟩, List.mem_of_getElem? (i := 15) (by decide +kernel), List.mem_of_getElem? (i := 480) (by decide +kernel), List.mem_of_getElem? (i := 481) (by decide +kernel)⟩
theorem lw_p13 : lw_okq (⟨"StoreyShapes", "gainByJoin", "(II)I"⟩, 5) := ⟨⟨by decide +kernel, by decide +kernel⟩, List.mem_of_getElem? (i := 15) (by decide +kernel), List.mem_of_getElem? (i := 496) (by decide +kernel), List.mem_of_getElem? (i := 497) (by decide +kernel)⟩
theorem lw_p14 : lw_okq (⟨"StoreyShapes", "halfThickness", "(I)I"⟩, 5) := ⟨⟨by decide +kernel, by decide +kernel⟩, List.mem_of_getElem? (i := 15) (by decide +kernel), List.mem_of_getElem? (i := 500) (by decide +kernel), List.mem_of_getElem? (i := 501) (by decide +kernel)⟩
theorem lw_p15 : lw_okq (⟨"StoreyShapes", "area", "(I)J"⟩, 5) := ⟨⟨by decide +kernel, by decide +kernel⟩, List.mem_of_getElem? (i := 15) (by decide +kernel), List.mem_of_getElem? (i := 504) (by decide +kernel), List.mem_of_getElem? (i := 505) (by decide +kernel)⟩
def lw_privs_1 : List (MethodName × Nat) := [(⟨"StoreyShapes", "step", "(II)V"⟩, 5), (⟨"StoreyShapes", "exchange", "(III)I"⟩, 5), (⟨"StoreyShapes", "goForward", "()V"⟩, 5), (⟨"StoreyShapes", "checkLevel", "(II)V"⟩, 5), (⟨"java/lang/Throwable", "fillInStackTrace", "(I)Ljava/lang/Throwable;"⟩, 6), (⟨"StoreyShapes", "checkRoomForAct", "()V"⟩, 5), (⟨"StoreyShapes", "perform", "(IIII)V"⟩, 5), (⟨"StoreyShapes", "checkStorey", "(I)V"⟩, 5), (⟨"StoreyShapes", "checkType", "(I)V"⟩, 5), (⟨"StoreyShapes", "checkWall", "(I)V"⟩, 5), (⟨"StoreyShapes", "openingsOn", "(I)I"⟩, 5), (⟨"StoreyShapes", "writeCopies", "(II)V"⟩, 5), (⟨"StoreyShapes", "netLength", "(I)J"⟩, 5), (⟨"StoreyShapes", "gainByJoin", "(II)I"⟩, 5), (⟨"StoreyShapes", "halfThickness", "(I)I"⟩, 5), (⟨"StoreyShapes", "area", "(I)J"⟩, 5)]
theorem lw_r1 : ∀ q ∈ lw_privs_1, lw_okq q := List.forall_mem_cons.mpr ⟨lw_p0, List.forall_mem_cons.mpr ⟨lw_p1, List.forall_mem_cons.mpr ⟨lw_p2, List.forall_mem_cons.mpr ⟨lw_p3, List.forall_mem_cons.mpr ⟨lw_p4, List.forall_mem_cons.mpr ⟨lw_p5, List.forall_mem_cons.mpr ⟨lw_p6, List.forall_mem_cons.mpr ⟨lw_p7, List.forall_mem_cons.mpr ⟨lw_p8, List.forall_mem_cons.mpr ⟨lw_p9, List.forall_mem_cons.mpr ⟨lw_p10, List.forall_mem_cons.mpr ⟨lw_p11, List.forall_mem_cons.mpr ⟨lw_p12, List.forall_mem_cons.mpr ⟨lw_p13, List.forall_mem_cons.mpr ⟨lw_p14, List.forall_mem_cons.mpr ⟨lw_p15, fun _ h => absurd h List.not_mem_nil⟩⟩⟩⟩⟩⟩⟩⟩⟩⟩⟩⟩⟩⟩⟩⟩
theorem lw_p16 : lw_okq (⟨"StoreyShapes", "areaOf", "(I)J"⟩, 5) := ⟨⟨by decide +kernel, by decide +kernel⟩, List.mem_of_getElem? (i := 15) (by decide +kernel), List.mem_of_getElem? (i := 544) (by decide +kernel), List.mem_of_getElem? (i := 545) (by decide +kernel)⟩
theorem lw_p17 : lw_okq (⟨"StoreyShapes", "netLengthWith", "(I)J"⟩, 5) := ⟨⟨by decide +kernel, by decide +kernel⟩, List.mem_of_getElem? (i := 15) (by decide +kernel), List.mem_of_getElem? (i := 564) (by decide +kernel), List.mem_of_getElem? (i := 565) (by decide +kernel)⟩
theorem lw_p18 : lw_okq (⟨"StoreyShapes", "covers", "(III)Z"⟩, 5) := ⟨⟨by decide +kernel, by decide +kernel⟩, List.mem_of_getElem? (i := 15) (by decide +kernel), List.mem_of_getElem? (i := 578) (by decide +kernel), List.mem_of_getElem? (i := 579) (by decide +kernel)⟩
theorem lw_p19 : lw_okq (⟨"StoreyShapesModel", "goes", "(ZZ)Z"⟩, 20) := ⟨⟨by decide +kernel, by decide +kernel⟩, List.mem_of_getElem? (i := 586) (by decide +kernel), List.mem_of_getElem? (i := 666) (by decide +kernel), List.mem_of_getElem? (i := 667) (by decide +kernel)⟩
theorem lw_p20 : lw_okq (⟨"StoreyShapesModel", "act", "(IIIIIII)I"⟩, 20) := ⟨⟨by decide +kernel, by decide +kernel⟩, List.mem_of_getElem? (i := 586) (by decide +kernel), List.mem_of_getElem? (i := 670) (by decide +kernel), List.mem_of_getElem? (i := 671) (by decide +kernel)⟩
theorem lw_p21 : lw_okq (⟨"StoreyShapesModel", "draw", "(I)I"⟩, 20) := ⟨⟨by decide +kernel, by decide +kernel⟩, List.mem_of_getElem? (i := 586) (by decide +kernel), List.mem_of_getElem? (i := 674) (by decide +kernel), List.mem_of_getElem? (i := 675) (by decide +kernel)⟩
theorem lw_p22 : lw_okq (⟨"StoreyShapesModel", "add", "(IIIIII)I"⟩, 20) := ⟨⟨by decide +kernel, by decide +kernel⟩, List.mem_of_getElem? (i := 586) (by decide +kernel), List.mem_of_getElem? (i := 678) (by decide +kernel), List.mem_of_getElem? (i := 679) (by decide +kernel)⟩
theorem lw_p23 : lw_okq (⟨"StoreyShapesModel", "cut", "(III)I"⟩, 20) := ⟨⟨by decide +kernel, by decide +kernel⟩, List.mem_of_getElem? (i := 586) (by decide +kernel), List.mem_of_getElem? (i := 682) (by decide +kernel), List.mem_of_getElem? (i := 683) (by decide +kernel)⟩
theorem lw_p24 : lw_okq (⟨"StoreyShapesModel", "copied", "(II)I"⟩, 20) := ⟨⟨by decide +kernel, by decide +kernel⟩, List.mem_of_getElem? (i := 586) (by decide +kernel), List.mem_of_getElem? (i := 686) (by decide +kernel), List.mem_of_getElem? (i := 687) (by decide +kernel)⟩
theorem lw_p25 : lw_okq (⟨"StoreyShapesModel", "isStorey", "(I)Z"⟩, 20) := ⟨⟨by decide +kernel, by decide +kernel⟩, List.mem_of_getElem? (i := 586) (by decide +kernel), List.mem_of_getElem? (i := 694) (by decide +kernel), List.mem_of_getElem? (i := 695) (by decide +kernel)⟩
theorem lw_p26 : lw_okq (⟨"StoreyShapesModel", "isType", "(I)Z"⟩, 20) := ⟨⟨by decide +kernel, by decide +kernel⟩, List.mem_of_getElem? (i := 586) (by decide +kernel), List.mem_of_getElem? (i := 709) (by decide +kernel), List.mem_of_getElem? (i := 710) (by decide +kernel)⟩
theorem lw_p27 : lw_okq (⟨"StoreyShapesModel", "isWall", "(I)Z"⟩, 20) := ⟨⟨by decide +kernel, by decide +kernel⟩, List.mem_of_getElem? (i := 586) (by decide +kernel), List.mem_of_getElem? (i := 725) (by decide +kernel), List.mem_of_getElem? (i := 726) (by decide +kernel)⟩
theorem lw_p28 : lw_okq (⟨"StoreyShapesModel", "length", "(I)I"⟩, 20) := ⟨⟨by decide +kernel, by decide +kernel⟩, List.mem_of_getElem? (i := 586) (by decide +kernel), List.mem_of_getElem? (i := 741) (by decide +kernel), List.mem_of_getElem? (i := 742) (by decide +kernel)⟩
theorem lw_p29 : lw_okq (⟨"StoreyShapesModel", "cuts", "(I)I"⟩, 20) := ⟨⟨by decide +kernel, by decide +kernel⟩, List.mem_of_getElem? (i := 586) (by decide +kernel), List.mem_of_getElem? (i := 752) (by decide +kernel), List.mem_of_getElem? (i := 753) (by decide +kernel)⟩
theorem lw_p30 : lw_okq (⟨"StoreyShapesModel", "tells", "(Z)Z"⟩, 20) := ⟨⟨by decide +kernel, by decide +kernel⟩, List.mem_of_getElem? (i := 586) (by decide +kernel), List.mem_of_getElem? (i := 773) (by decide +kernel), List.mem_of_getElem? (i := 774) (by decide +kernel)⟩
theorem lw_p31 : lw_okq (⟨"StoreyShapesModel", "net", "(I)I"⟩, 20) := ⟨⟨by decide +kernel, by decide +kernel⟩, List.mem_of_getElem? (i := 586) (by decide +kernel), List.mem_of_getElem? (i := 782) (by decide +kernel), List.mem_of_getElem? (i := 783) (by decide +kernel)⟩
def lw_privs_2 : List (MethodName × Nat) := [(⟨"StoreyShapes", "areaOf", "(I)J"⟩, 5), (⟨"StoreyShapes", "netLengthWith", "(I)J"⟩, 5), (⟨"StoreyShapes", "covers", "(III)Z"⟩, 5), (⟨"StoreyShapesModel", "goes", "(ZZ)Z"⟩, 20), (⟨"StoreyShapesModel", "act", "(IIIIIII)I"⟩, 20), (⟨"StoreyShapesModel", "draw", "(I)I"⟩, 20), (⟨"StoreyShapesModel", "add", "(IIIIII)I"⟩, 20), (⟨"StoreyShapesModel", "cut", "(III)I"⟩, 20), (⟨"StoreyShapesModel", "copied", "(II)I"⟩, 20), (⟨"StoreyShapesModel", "isStorey", "(I)Z"⟩, 20), (⟨"StoreyShapesModel", "isType", "(I)Z"⟩, 20), (⟨"StoreyShapesModel", "isWall", "(I)Z"⟩, 20), (⟨"StoreyShapesModel", "length", "(I)I"⟩, 20), (⟨"StoreyShapesModel", "cuts", "(I)I"⟩, 20), (⟨"StoreyShapesModel", "tells", "(Z)Z"⟩, 20), (⟨"StoreyShapesModel", "net", "(I)I"⟩, 20)]
theorem lw_r2 : ∀ q ∈ lw_privs_2, lw_okq q := List.forall_mem_cons.mpr ⟨lw_p16, List.forall_mem_cons.mpr ⟨lw_p17, List.forall_mem_cons.mpr ⟨lw_p18, List.forall_mem_cons.mpr ⟨lw_p19, List.forall_mem_cons.mpr ⟨lw_p20, List.forall_mem_cons.mpr ⟨lw_p21, List.forall_mem_cons.mpr ⟨lw_p22, List.forall_mem_cons.mpr ⟨lw_p23, List.forall_mem_cons.mpr ⟨lw_p24, List.forall_mem_cons.mpr ⟨lw_p25, List.forall_mem_cons.mpr ⟨lw_p26, List.forall_mem_cons.mpr ⟨lw_p27, List.forall_mem_cons.mpr ⟨lw_p28, List.forall_mem_cons.mpr ⟨lw_p29, List.forall_mem_cons.mpr ⟨lw_p30, List.forall_mem_cons.mpr ⟨lw_p31, fun _ h => absurd h List.not_mem_nil⟩⟩⟩⟩⟩⟩⟩⟩⟩⟩⟩⟩⟩⟩⟩⟩
theorem lw_p32 : lw_okq (⟨"StoreyShapesModel", "joined", "(III)I"⟩, 20) := ⟨⟨by decide +kernel, by decide +kernel⟩, List.mem_of_getElem? (i := 586) (by decide +kernel), List.mem_of_getElem? (i := 786) (by decide +kernel), List.mem_of_getElem? (i := 787) (by decide +kernel)⟩
theorem lw_p33 : lw_okq (⟨"StoreyShapesModel", "isAcross", "(I)Z"⟩, 20) := ⟨⟨by decide +kernel, by decide +kernel⟩, List.mem_of_getElem? (i := 586) (by decide +kernel), List.mem_of_getElem? (i := 790) (by decide +kernel), List.mem_of_getElem? (i := 791) (by decide +kernel)⟩
theorem lw_p34 : lw_okq (⟨"StoreyShapesModel", "area", "(I)J"⟩, 20) := ⟨⟨by decide +kernel, by decide +kernel⟩, List.mem_of_getElem? (i := 586) (by decide +kernel), List.mem_of_getElem? (i := 794) (by decide +kernel), List.mem_of_getElem? (i := 795) (by decide +kernel)⟩
theorem lw_p35 : lw_okq (⟨"StoreyShapesModel", "height", "(I)I"⟩, 20) := ⟨⟨by decide +kernel, by decide +kernel⟩, List.mem_of_getElem? (i := 586) (by decide +kernel), List.mem_of_getElem? (i := 798) (by decide +kernel), List.mem_of_getElem? (i := 799) (by decide +kernel)⟩
theorem lw_p36 : lw_okq (⟨"StoreyShapesModel", "hasBody", "(III)Z"⟩, 20) := ⟨⟨by decide +kernel, by decide +kernel⟩, List.mem_of_getElem? (i := 586) (by decide +kernel), List.mem_of_getElem? (i := 820) (by decide +kernel), List.mem_of_getElem? (i := 821) (by decide +kernel)⟩
def lw_privs_3 : List (MethodName × Nat) := [(⟨"StoreyShapesModel", "joined", "(III)I"⟩, 20), (⟨"StoreyShapesModel", "isAcross", "(I)Z"⟩, 20), (⟨"StoreyShapesModel", "area", "(I)J"⟩, 20), (⟨"StoreyShapesModel", "height", "(I)I"⟩, 20), (⟨"StoreyShapesModel", "hasBody", "(III)Z"⟩, 20)]
theorem lw_r3 : ∀ q ∈ lw_privs_3, lw_okq q := List.forall_mem_cons.mpr ⟨lw_p32, List.forall_mem_cons.mpr ⟨lw_p33, List.forall_mem_cons.mpr ⟨lw_p34, List.forall_mem_cons.mpr ⟨lw_p35, List.forall_mem_cons.mpr ⟨lw_p36, fun _ h => absurd h List.not_mem_nil⟩⟩⟩⟩⟩
def lw_privs : List (MethodName × Nat) := lw_privs_1 ++ (lw_privs_2 ++ (lw_privs_3))
def lw_tbl : List Cond := k2_sels lw_privs ++ tables_1
theorem lw_privs_ok : ∀ q ∈ lw_privs, lw_okq q := by
  show ∀ q ∈ lw_privs_1 ++ (lw_privs_2 ++ (lw_privs_3)), lw_okq q
  exact List.forall_mem_append.mpr ⟨lw_r1, List.forall_mem_append.mpr ⟨lw_r2, lw_r3⟩⟩
/-! ===== BEGIN words of one list among another's, by their places ===== -/
theorem goodIn_r {big : List Cond} (ws : List Cond) (ps : List Nat) (hp : ws = ps.filterMap (fun i => big[i]?)) (h : ws.all goodWord = true) : GoodIn big ws := by
  intro w hw
  have h1 := List.all_eq_true.mp h w hw
  rw [hp] at hw
  obtain ⟨i, -, hi⟩ := List.mem_filterMap.mp hw
  have hm : w ∈ big := by first | exact List.mem_of_getElem? hi | exact List.getElem?_mem hi
  exact ⟨hm, good_of_word h1⟩
theorem goodIn_app {big a b : List Cond} (ha : GoodIn big a) (hb : GoodIn big b) : GoodIn big (a ++ b) := fun w h => (List.mem_append.mp h).elim (ha w) (hb w)
theorem goodIn_ca {big a b : List Cond} {c : Cond} (ha : GoodIn big (c :: a)) (hb : GoodIn big b) : GoodIn big (c :: (a ++ b)) := fun w h => (List.mem_cons.mp h).elim (fun e => ha w (List.mem_cons.mpr (Or.inl e))) (fun h => (List.mem_append.mp h).elim (fun h => ha w (List.mem_cons.mpr (Or.inr h))) (hb w))
theorem goodIn_sub {big ws : List Cond} (hm : ∀ w ∈ ws, w ∈ big) (h : ws.all goodWord = true) : GoodIn big ws := fun w hw => ⟨hm w hw, good_of_word (List.all_eq_true.mp h w hw)⟩
/-! ===== END ===== -/

/-! ===== BEGIN exceptions that leave a method, and their catching by the caller (launches without stack traces) ===== -/
section VXA
/-! The laws vx_back, vx_callV, vx_callS, vx_callSW, vx_throw0, vx_throwS follow proofs of the library, with one case more: JvmDerived/Free/Laws.lean (Back.of_free), Shelf42/LK1.lean (callV, callS), Shelf/KitTraced.lean (throwNew0V, throwNewS). -/
/-- where a method has thrown q: the class by its name, the cell, what was written, the world -/
def vx_T (XC : String → State → State → Prop) (st : State) (q : Addr) (t : State) (mc ms : Nat) (free : Addr → Prop) : Prop :=
  ∃ (E : String) (ce : Cell) (L : List Loc), XC E st t ∧ t.heap[q]? = some ce ∧ ce.vm = .none ∧ st.vm.findClass E = some ce.cls ∧ st.WarmedH t.vm ∧ st.sameButNew ({ t with vm := st.vm } : State) L mc ms ∧ ∀ z ∈ L, free z.base
def vx_Q (Qc : Array Value → State → Outcome → State → Prop) (XC : String → State → State → Prop) (mc ms : Nat) (free : Addr → Prop) : Array Value → State → Outcome → State → Prop := fun a st o t =>
  (Qc a st o t ∧ ∃ L, FrameEnd st o t L mc ms ∧ ∀ q ∈ L, free q.base) ∨ ∃ q, o = .threw q ∧ vx_T XC st q t mc ms free
/-- a callee that returns or throws -/
def vx_Met (l : Launch) (y : MethodName) (ws : List Cond) (rm : Room) (Pc : Array Value → State → Prop) (Qc : Array Value → State → Outcome → State → Prop) (XC : String → State → State → Prop) (mc ms : Nat) (free : Addr → Prop) : Prop :=
  MetFree l y (headSpec ws rm) Pc (fun _ _ _ _ _ => True) (vx_Q Qc XC mc ms free)
def vx_Post (XC : String → State → State → Prop) (mc ms : Nat) (free : Addr → Prop) : Pt → Array Value → Addr → Pt → Prop := fun A a q B =>
  ∃ (g : JFrame) (mk : MethodId) (t : State) (L : List Loc) (E : String) (ce : Cell), B.U.heap = t.heap ∧ B.U.vm = t.vm ∧ XC E (A.U.calling g mk a) t ∧ t.heap[q]? = some ce ∧ ce.vm = .none ∧ A.U.vm.findClass E = some ce.cls ∧ B.locs = A.locs ++ L ∧ (∀ z ∈ L, free z.base) ∧ B.cells = A.cells + mc ∧ B.slots = A.slots + ms
def vx_Back (l : Launch) (R : Room) (p : Program) (e : Env) (below : List Frame) (s : State) (sargs : Array Value) (y : MethodName) (len W9 : Nat)
    (Pre : Pt → Array Value → Prop) (Post : Pt → Array Value → Option Value → Pt → Prop) (PostX : Pt → Array Value → Addr → Pt → Prop) : Prop :=
  ∀ (m : MethodId) (meth : Method) (c : Code) (A : Pt) (g : JFrame) (ig : Instr) (mk : MethodId) (a : Array Value),
    Stand p l e R s m sargs below meth c A.U A.locs A.cells A.slots → g.method = m → g.locals.size = c.maxLocals → decode c.code g.pc = .ok (ig, len) →
    2 * g.monitorRoom + (g.stack.map fun v => v.category).sum ≤ W9 → A.U.methodNamed? y = some mk → Pre A a →
    (∃ (v : Option Value) (B : Pt), Stand p l e R s m sargs below meth c B.U B.locs B.cells B.slots ∧ Post A a v B ∧
      Steps p.tables e below (doInvoke e (A.U.setTop g) [] mk a).1 (B.U.setTop { g with pc := g.pc + len, stack := v.toList ++ g.stack })) ∨
    (∃ (q : Addr) (B : Pt), Stand p l e R s m sargs below meth c B.U B.locs B.cells B.slots ∧ PostX A a q B ∧
      Steps p.tables e below (doInvoke e (A.U.setTop g) [] mk a).1 ((B.U.setTop g).pushFrame (.throwing q)))
section Payer
variable {l : Launch} {R : Room} {p : Program} {e : Env} {below : List Frame} {s : State} {sargs : Array Value} {y : MethodName} {len W9 : Nat}
theorem vx_back {ws : List Cond} {rm : Room} {Pc : Array Value → State → Prop} {Qc : Array Value → State → Outcome → State → Prop} {XC : String → State → State → Prop} {mc ms : Nat} {free : Addr → Prop} {bytes : ByteArray} {maxL : Nat} {ret : Option FieldType}
    (hM : vx_Met l y ws rm Pc Qc XC mc ms free) (hblind : FrameBlind Pc) (hrc : rm.cells = mc) (hrs : rm.slots = ms)
    (hframes : rm.frames + 1 ≤ R.frames) (hlocals : W9 + (maxL + 11) + rm.locals ≤ R.locals)
    (hws : ∀ w ∈ ws, ∀ a' U, s.WarmedH U.vm → w.before a' U = true) (hcode : Cond.code y bytes maxL ret ∈ ws) (hinit : ∀ a' U, s.WarmedH U.vm → (Cond.initialized y.cls).before a' U = true) :
    vx_Back l R p e below s sargs y len W9 (PreOf R mc ms Pc) (PostOf Qc mc ms free) (vx_Post XC mc ms free) := by
  intro m meth c A g ig mk a X hg hsize hdg hW hn hp
  have h1 : (headSpec ws rm).pre.before a A.U = true := atoms_intro fun w hw => hws w hw _ _ X.warmed
  have h2 : (Cond.code y bytes maxL ret).before a A.U = true := hws _ hcode _ _ X.warmed
  have h3 : (Cond.initialized y.cls).before a A.U = true := hinit _ _ X.warmed
  have h4 : A.cells + (headSpec ws rm).room.cells ≤ R.cells := by rw [show (headSpec ws rm).room.cells = mc from hrc]; exact hp.1
  have h5 : A.slots + (headSpec ws rm).room.slots ≤ R.slots := by rw [show (headSpec ws rm).room.slots = ms from hrs]; exact hp.2.1
  have hPc : Pc a (A.U.calling g mk a) := hblind _ _ _ _ hp.2.2
  obtain ⟨U, Ls, c0, s0⟩ := A
  dsimp only [Pt.U, Pt.locs, Pt.cells, Pt.slots] at h1 h2 h3 h4 h5 X hn hPc ⊢
  obtain ⟨methY, cY, hmY, hcY, -, hlY, -, -, -, -⟩ := Cond.code_spec hn h2
  obtain ⟨kY, hkY, -⟩ := className_of_methodNamed hn
  have hinitY : kY.init = .initialized := Cond.initialized_spec (findClass_of_methodNamed hn) hkY h3
  have h : At U g.method c below := by rw [hg]; exact X.here
  have hlocals9 : W9 + (maxL + 11) + (headSpec ws rm).room.locals ≤ R.locals := hlocals
  have happ : (headSpec ws rm).appliesLoose y e.platform (U.calling g mk a) = true :=
    Spec.appliesLoose_calling (g := g) h hdg hn hkY hinitY
      (X.room_calling (g := g) (R' := (headSpec ws rm).room) hsize hmY hcY hframes (by rw [hlY]; omega) h4 h5) h1
  obtain ⟨mid, hmid⟩ := h.above
  have hfr : (U.setTop g).frames = (.java g :: mid) ++ below := by rw [State.frames_setTop' g h.top, hmid]; rfl
  obtain ⟨o, s₂, hsteps, -, hend, hq⟩ := Steps.callFree hM p X.admits X.cas X.clock (acts := []) hfr happ hPc trivial
  have hq' : vx_Q Qc XC mc ms free a (U.calling g mk a) o s₂ := hq
  rw [State.frames_setTop' g h.top] at hend
  obtain ⟨g₀, hg0⟩ := Option.isSome_iff_exists.mp h.top
  obtain ⟨r, hr⟩ := State.topJava?_eq_some.mp hg0
  have hr' : (({ U with heap := s₂.heap, slotsUsed := s₂.slotsUsed } : State).setVm s₂.vm).frames = .java g₀ :: r := hr
  rcases hq' with ⟨hqc, L, hfe, hL⟩ | ⟨q, rfl, E, ce, L, hx, hce, hcv, hcl, hW₂, hsm, hL⟩
  · obtain ⟨⟨v, rfl⟩, hW₂, e2, q2, q3, q4, q5, q6⟩ := id hfe
    have e3 : s₂ = ({ (U.calling g mk a).setFrames s₂.frames with heap := s₂.heap, slotsUsed := s₂.slotsUsed } : State).setVm s₂.vm := by
      have : s₂ = ({ s₂ with vm := (U.calling g mk a).vm } : State).setVm s₂.vm := rfl
      rw [e2] at this
      exact this
    obtain ⟨c₂, i₂, len₂, hc₂, hd₂, hf₂⟩ := hend
    have hW' : U.WarmedH s₂.vm := hW₂
    have hcc : c₂ = c := by
      have h1 : s₂.code? g.method = U.code? g.method := by
        rw [State.code?_eq, State.code?_eq, hW'.alike.method?]
      exact Option.some.inj (hc₂.symm.trans (h1.trans h.code))
    subst hcc
    have hlen : len₂ = len := by rw [hdg] at hd₂; cases hd₂; rfl
    subst hlen
    have hs₂ : s₂ = (({ U with heap := s₂.heap, slotsUsed := s₂.slotsUsed } : State).setVm s₂.vm).setTop { g with pc := g.pc + len₂, stack := v.toList ++ g.stack } := by
      refine e3.trans ?_
      rw [hf₂, State.calling_eq h.top, State.setFrames_setFrames, State.setTop_of_frames _ hr', hr]
      rfl
    have hsame : U.sameButNew ({ U with heap := s₂.heap, slotsUsed := s₂.slotsUsed } : State) L mc ms := by
      refine ⟨?_, q2, q3, q4, q5, q6⟩
      obtain ⟨t, ht, -⟩ := State.frames_cons hr
      show ({ U with heap := s₂.heap, slotsUsed := s₂.slotsUsed } : State) = { U.setFrames U.frames with heap := s₂.heap, slotsUsed := s₂.slotsUsed }
      rw [State.setFrames_self ht]
    subst hg
    refine Or.inl ⟨v, ⟨(({ U with heap := s₂.heap, slotsUsed := s₂.slotsUsed } : State).setVm s₂.vm), Ls ++ L, c0 + mc, s0 + ms⟩,
      ⟨X.admits, X.cas, X.clock, X.frames, X.room, X.hears, X.method, X.code, (X.here.setHeapUsed s₂.heap s₂.slotsUsed).setVm hW'.alike, X.tail, State.WarmedH.trans X.warmed hW', X.limits, X.bytes, X.same.trans (hsame.setVm s.vm)⟩,
      ⟨g, mk, s₂, L, rfl, rfl, hqc, rfl, hL, rfl, rfl⟩, ?_⟩
    show Steps p.tables e below _ ((({ U with heap := s₂.heap, slotsUsed := s₂.slotsUsed } : State).setVm s₂.vm).setTop { g with pc := g.pc + len₂, stack := v.toList ++ g.stack })
    rw [← hs₂]
    exact hsteps
  · obtain ⟨e2, q2, q3, q4, q5, q6⟩ := id hsm
    have e3 : s₂ = ({ (U.calling g mk a).setFrames s₂.frames with heap := s₂.heap, slotsUsed := s₂.slotsUsed } : State).setVm s₂.vm := by
      have : s₂ = ({ s₂ with vm := (U.calling g mk a).vm } : State).setVm s₂.vm := rfl
      rw [e2] at this
      exact this
    have hf₂ : s₂.frames = .throwing q :: .java g :: U.frames.tail := hend
    have hW' : U.WarmedH s₂.vm := hW₂
    have hs₂ : s₂ = ((({ U with heap := s₂.heap, slotsUsed := s₂.slotsUsed } : State).setVm s₂.vm).setTop g).pushFrame (.throwing q) := by
      refine e3.trans ?_
      rw [hf₂, State.calling_eq h.top, State.setFrames_setFrames, State.pushFrame, State.frames_setTop _ hr', State.setTop_of_frames _ hr', State.setFrames_setFrames, hr]
      rfl
    have hsame : U.sameButNew ({ U with heap := s₂.heap, slotsUsed := s₂.slotsUsed } : State) L mc ms := by
      refine ⟨?_, q2, q3, q4, q5, q6⟩
      obtain ⟨t, ht, -⟩ := State.frames_cons hr
      show ({ U with heap := s₂.heap, slotsUsed := s₂.slotsUsed } : State) = { U.setFrames U.frames with heap := s₂.heap, slotsUsed := s₂.slotsUsed }
      rw [State.setFrames_self ht]
    subst hg
    refine Or.inr ⟨q, ⟨(({ U with heap := s₂.heap, slotsUsed := s₂.slotsUsed } : State).setVm s₂.vm), Ls ++ L, c0 + mc, s0 + ms⟩,
      ⟨X.admits, X.cas, X.clock, X.frames, X.room, X.hears, X.method, X.code, (X.here.setHeapUsed s₂.heap s₂.slotsUsed).setVm hW'.alike, X.tail, State.WarmedH.trans X.warmed hW', X.limits, X.bytes, X.same.trans (hsame.setVm s.vm)⟩,
      ⟨g, mk, s₂, L, E, ce, rfl, rfl, hx, hce, hcv, hcl, rfl, hL, rfl, rfl⟩, ?_⟩
    show Steps p.tables e below _ (((({ U with heap := s₂.heap, slotsUsed := s₂.slotsUsed } : State).setVm s₂.vm).setTop g).pushFrame (.throwing q))
    rw [← hs₂]
    exact hsteps
end Payer
section Calls
variable {p : Program} {l : Launch} {e : Env} {R : Room} {s : State} {m : MethodId} {args : Array Value} {below : List Frame} {meth : Method} {c : Code} {T : State} {locs : List Loc} {cells slots : Nat}
theorem vx_callV (X : Stand p l e R s m args below meth c T locs cells slots) (hexec : p.tables.exec = Jvm.exec) {own C : String} {index : Nat} {y : MethodName} {bytes : ByteArray} {maxL : Nat} {ret : Option FieldType}
    (hown : s.vm.findClass own = some m.cls) (hlink : (Cond.methodLink own index y).before args s = true) (hinst : (Cond.instanceMethod y).before args s = true) (hsel : (Cond.selects C y y).before args s = true)
    (hcode : (Cond.code y bytes maxL ret).before args s = true) (hy : y.cls ≠ "java/lang/invoke/MethodHandle" ∧ y.cls ≠ "java/lang/invoke/VarHandle")
    {W9 : Nat} {Pre : Pt → Array Value → Prop} {Post : Pt → Array Value → Option Value → Pt → Prop} {PostX : Pt → Array Value → Addr → Pt → Prop} (hK : vx_Back l R p e below s args y 3 W9 Pre Post PostX)
    {b : Addr} {cellB : Cell} (hcell : T.heap[b]? = some cellB) (hobj : cellB.vm.isStatics = false) (hcls : s.vm.findClass C = some cellB.cls)
    {g : JFrame} (hg : g.method = m) (hsize : g.locals.size = c.maxLocals) {argsL rest : List Value} (hlen : ∀ sig, parseMethodDescriptor y.desc = some sig → argsL.length = sig.parameters.length)
    (hstack : g.stack = argsL.reverse ++ .ref b :: rest) (hW : 2 * g.monitorRoom + (rest.map fun v => v.category).sum ≤ W9) (hdg : decode c.code g.pc = .ok (.invokevirtual index, 3))
    (hpre : ∀ vm₁, s.WarmedH vm₁ → Pre ⟨T.setVm vm₁, locs, cells, slots⟩ (Value.ref b :: argsL).toArray) :
    (∃ (v : Option Value) (vm₁ : Vm) (B : Pt), s.WarmedH vm₁ ∧ Stand p l e R s m args below meth c B.U B.locs B.cells B.slots ∧ Post ⟨T.setVm vm₁, locs, cells, slots⟩ (Value.ref b :: argsL).toArray v B ∧
      ∀ target, Steps p.tables e below (B.U.setTop { g with pc := g.pc + 3, stack := v.toList ++ rest }) target → Steps p.tables e below (T.setTop g) target) ∨
    (∃ (q : Addr) (vm₁ : Vm) (B : Pt), s.WarmedH vm₁ ∧ Stand p l e R s m args below meth c B.U B.locs B.cells B.slots ∧ PostX ⟨T.setVm vm₁, locs, cells, slots⟩ (Value.ref b :: argsL).toArray q B ∧
      Steps p.tables e below (T.setTop g) ((B.U.setTop { g with stack := rest }).pushFrame (.throwing q))) := by
  obtain ⟨mk, methM, hnamed, hmethM, hstM, habM⟩ := Cond.instanceMethod_spec hinst
  obtain ⟨methM', cM, hmethM', -, -, -, -, -, -, hsigM⟩ := Cond.code_spec hnamed hcode
  cases hmethM.symm.trans hmethM'
  obtain ⟨c2, r2, m2, q1, q2, q3, q4, kP, hkP, hkPi⟩ := Cond.selects_spec hsel
  cases hcls.symm.trans q1
  cases (State.methodFound?_of_named hnamed hy).symm.trans q2
  cases hnamed.symm.trans q3
  have hselP : selectMethod e.platform s.vm cellB.cls mk = .method mk := by rw [Launch.admits_selectMethod X.admits]; exact q4
  obtain ⟨vm₁, X₁, hstep₁⟩ := X.invokevirtual hexec hown hlink hnamed hmethM hstM hkP hkPi hy (a := b) (cell := cellB) hcell
    (fun z h => by rw [h] at hobj; cases hobj) hselP hmethM habM hkP hkPi (g := g) hg (argsL := argsL) (rest := rest) (hlen _ hsigM) hstack hdg
  rcases hK m meth c ⟨T.setVm vm₁, locs, cells, slots⟩ { g with stack := rest } (.invokevirtual index) mk (Value.ref b :: argsL).toArray X₁ hg hsize hdg hW (X₁.named hnamed) (hpre vm₁ X₁.warmed) with ⟨v, B, X', hpost, hsteps⟩ | ⟨q, B, X', hpost, hsteps⟩
  · exact Or.inl ⟨v, vm₁, B, X₁.warmed, X', hpost, fun target h => hstep₁ _ fun acts => by rw [doInvoke_state]; exact hsteps.trans h⟩
  · exact Or.inr ⟨q, vm₁, B, X₁.warmed, X', hpost, hstep₁ _ fun acts => by rw [doInvoke_state]; exact hsteps⟩
theorem vx_callS (X : Stand p l e R s m args below meth c T locs cells slots) (hexec : p.tables.exec = Jvm.exec) {own : String} {index : Nat} {y : MethodName} {bytes : ByteArray} {maxL : Nat} {ret : Option FieldType}
    (hown : s.vm.findClass own = some m.cls) (hlink : (Cond.methodLink own index y).before args s = true) (hstat : (Cond.static y).before args s = true) (hinit : (Cond.initialized y.cls).before args s = true)
    (hcode : (Cond.code y bytes maxL ret).before args s = true) (hy : y.cls ≠ "java/lang/invoke/MethodHandle" ∧ y.cls ≠ "java/lang/invoke/VarHandle")
    {W9 : Nat} {Pre : Pt → Array Value → Prop} {Post : Pt → Array Value → Option Value → Pt → Prop} {PostX : Pt → Array Value → Addr → Pt → Prop} (hK : vx_Back l R p e below s args y 3 W9 Pre Post PostX)
    {g : JFrame} (hg : g.method = m) (hsize : g.locals.size = c.maxLocals) {argsL rest : List Value} (hlen : ∀ sig, parseMethodDescriptor y.desc = some sig → argsL.length = sig.parameters.length)
    (hstack : g.stack = argsL.reverse ++ rest) (hW : 2 * g.monitorRoom + (rest.map fun v => v.category).sum ≤ W9) (hdg : decode c.code g.pc = .ok (.invokestatic index, 3))
    (hpre : ∀ vm₁, s.WarmedH vm₁ → Pre ⟨T.setVm vm₁, locs, cells, slots⟩ argsL.toArray) :
    (∃ (v : Option Value) (vm₁ : Vm) (B : Pt), s.WarmedH vm₁ ∧ Stand p l e R s m args below meth c B.U B.locs B.cells B.slots ∧ Post ⟨T.setVm vm₁, locs, cells, slots⟩ argsL.toArray v B ∧
      ∀ target, Steps p.tables e below (B.U.setTop { g with pc := g.pc + 3, stack := v.toList ++ rest }) target → Steps p.tables e below (T.setTop g) target) ∨
    (∃ (q : Addr) (vm₁ : Vm) (B : Pt), s.WarmedH vm₁ ∧ Stand p l e R s m args below meth c B.U B.locs B.cells B.slots ∧ PostX ⟨T.setVm vm₁, locs, cells, slots⟩ argsL.toArray q B ∧
      Steps p.tables e below (T.setTop g) ((B.U.setTop { g with stack := rest }).pushFrame (.throwing q))) := by
  obtain ⟨mk, hnamed⟩ := Cond.code_named hcode
  obtain ⟨methM, cM, hmethM, -, -, -, -, -, -, hsigM⟩ := Cond.code_spec hnamed hcode
  have hstatic : methM.isStatic = true := Cond.static_spec hnamed hmethM hstat
  obtain ⟨kP, hkP, -⟩ := className_of_methodNamed hnamed
  have hinitP : kP.init = .initialized := Cond.initialized_spec (findClass_of_methodNamed hnamed) hkP hinit
  obtain ⟨vm₁, X₁, hstep₁⟩ := X.invokestatic hexec hown hlink hnamed hmethM hstatic hkP hinitP hy (g := g) hg (argsL := argsL) (rest := rest) (hlen _ hsigM) hstack hdg
  rcases hK m meth c ⟨T.setVm vm₁, locs, cells, slots⟩ { g with stack := rest } (.invokestatic index) mk argsL.toArray X₁ hg hsize hdg hW (X₁.named hnamed) (hpre vm₁ X₁.warmed) with ⟨v, B, X', hpost, hsteps⟩ | ⟨q, B, X', hpost, hsteps⟩
  · exact Or.inl ⟨v, vm₁, B, X₁.warmed, X', hpost, fun target h => hstep₁ _ fun acts => by rw [doInvoke_state]; exact hsteps.trans h⟩
  · exact Or.inr ⟨q, vm₁, B, X₁.warmed, X', hpost, hstep₁ _ fun acts => by rw [doInvoke_state]; exact hsteps⟩
end Calls
theorem vx_cls {s : State} {T : State} {vm₁ : Vm} {E : String} {k : ClassId} (hW : s.WarmedH vm₁) (h : (T.setVm vm₁).vm.findClass E = some k) : s.vm.findClass E = some k := by
  have h1 : vm₁.findClass E = some k := h
  rw [hW.alike.findClass] at h1
  exact h1
/-- the method's frame g, with q thrown over it -/
def vx_W (p : Program) (l : Launch) (e : Env) (R : Room) (s : State) (m : MethodId) (args : Array Value) (below : List Frame) (meth : Method) (c : Code) (H : Heap) (locs : List Loc) (cells slots : Nat) (Q : State → Prop) (g : JFrame) (q : Addr) : Prop :=
  ∀ T : State, T.heap = H → Stand p l e R s m args below meth c T locs cells slots → ∃ t, Steps p.tables e below ((T.setTop g).pushFrame (.throwing q)) t ∧ Q t
def vx_Run (p : Program) (l : Launch) (e : Env) (R : Room) (s : State) (m : MethodId) (args : Array Value) (below : List Frame) (meth : Method) (c : Code) (H : Heap) (locs : List Loc) (cells slots mc ms : Nat) (g : JFrame) (rest : List Value) (Qa : State → Outcome → State → Prop) (XC : String → State → State → Prop) (free : Addr → Prop) : Prop :=
  ∀ T : State, T.heap = H → Stand p l e R s m args below meth c T locs cells slots →
    (∃ (v : Option Value) (st₀ t T' : State) (L : List Loc), st₀.heap = H ∧ Stand p l e R s m args below meth c T' (locs ++ L) (cells + mc) (slots + ms) ∧ (∀ q ∈ L, free q.base) ∧ T'.heap = t.heap ∧ T'.vm = t.vm ∧ Qa st₀ (.returned v) t ∧
      Goes p e below T g T' { g with pc := g.pc + 3, stack := v.toList ++ rest }) ∨
    (∃ (q : Addr) (st₀ t T' : State) (L : List Loc) (E : String) (ce : Cell), st₀.heap = H ∧ Stand p l e R s m args below meth c T' (locs ++ L) (cells + mc) (slots + ms) ∧ (∀ z ∈ L, free z.base) ∧ T'.heap = t.heap ∧ T'.vm = t.vm ∧ XC E st₀ t ∧ t.heap[q]? = some ce ∧ ce.vm = .none ∧ s.vm.findClass E = some ce.cls ∧
      Steps p.tables e below (T.setTop g) ((T'.setTop { g with stack := rest }).pushFrame (.throwing q)))
def vx_X {S : Type} (px : S → Prop) (B : String → S → State → Prop) (A : Nat → Prop) : String → State → State → Prop := fun E st t => ∃ u : S, px u ∧ B E u t ∧ va_F A st t
section Runs
variable {p : Program} {l : Launch} {e : Env} {R : Room} {s : State} {m : MethodId} {args : Array Value} {below : List Frame} {meth : Method} {c : Code} {H : Heap} {locs : List Loc} {cells slots : Nat}
variable {y : MethodName} {bytes cc : ByteArray} {maxL nL mc ms n index : Nat} {ret : Option FieldType} {ws : List Cond} {rm : Room} {Pc : Array Value → State → Prop} {Qc : Array Value → State → Outcome → State → Prop} {XC : String → State → State → Prop} {free : Addr → Prop} {Ts : List Cond} {own C : String} {b : Addr} {As rest : List Value} {g : JFrame}
theorem vx_callBack (cb : CallB R s args own index y bytes maxL ret ws rm mc ms n) (hM : vx_Met l y ws rm Pc Qc XC mc ms free) (hbl : FrameBlind Pc) : vx_Back l R p e below s args y 3 8 (PreOf R mc ms Pc) (PostOf Qc mc ms free) (vx_Post XC mc ms free) := by
  obtain ⟨hrc, hrs, hfr, hlo, hws, hcw, -, hini, -⟩ := cb
  exact vx_back (bytes := bytes) (maxL := maxL) (ret := ret) hM hbl hrc hrs hfr hlo hws hcw (fun a' U hW => word_at hW (Or.inl (by first | rfl | simp [Cond.onTables, Cond.keeps, Cond.steady])) hini)
theorem vx_runV (S : CallFix p m c cc nL s args Ts own) (hM : vx_Met l y ws rm Pc Qc XC mc ms free) (cw : CallW R s args own C index y bytes maxL ret ws rm mc ms n) (hp : PreV s H C b Pc As)
    (hg : g.method = m) (hn : As.length = n) (hsize : g.locals.size = nL) (hstack : g.stack = As.reverse ++ .ref b :: rest) (hW : 2 * g.monitorRoom + (rest.map fun v => v.category).sum ≤ 8) (hdg : decode cc g.pc = .ok (.invokevirtual index, 3)) (hf : cells + mc ≤ R.cells ∧ slots + ms ≤ R.slots) :
    vx_Run p l e R s m args below meth c H locs cells slots mc ms g rest (Qc (Value.ref b :: As).toArray) XC free := by
  have hK : vx_Back l R p e below s args y 3 8 (PreOf R mc ms Pc) (PostOf Qc mc ms free) (vx_Post XC mc ms free) := vx_callBack cw.1 hM hp.1
  obtain ⟨⟨-, -, -, -, -, -, hcode, -, hy, hlen, hl⟩, hin, hse⟩ := cw
  obtain ⟨hx, hb, hml, ho, -⟩ := S
  obtain ⟨-, ⟨cellB, hcB, hoB, hclB⟩, hPc⟩ := hp
  intro T hT X
  rcases vx_callV X hx (C := C) (bytes := bytes) (maxL := maxL) (ret := ret) ho hl hin hse hcode hy hK (by rw [hT]; exact hcB) hoB hclB hg (hsize.trans hml.symm) (argsL := As) (rest := rest) (fun sig h => hn.trans (hlen sig h)) hstack hW (by rw [hb]; exact hdg)
    (fun vm₁ hW₁ => ⟨hf.1, hf.2, hPc (T.setVm vm₁) hT hW₁⟩) with ⟨v, vm₁, ⟨U', l2, c2, s2⟩, hW₁, X', ⟨g', mk, t, L, e1, e2, hq, h1, hL, h2, h3⟩, st⟩ | ⟨q, vm₁, ⟨U', l2, c2, s2⟩, hW₁, X', ⟨g', mk, t, L, E, ce, e1, e2, hq, hce, hcv, hcl, h1, hL, h2, h3⟩, st⟩
  · dsimp only [Pt.U, Pt.locs, Pt.cells, Pt.slots] at X' e1 e2 h1 h2 h3 st
    subst h1; subst h2; subst h3
    exact Or.inl ⟨v, (T.setVm vm₁).calling g' mk (Value.ref b :: As).toArray, t, U', L, hT, X', hL, e1, e2, hq, st⟩
  · dsimp only [Pt.U, Pt.locs, Pt.cells, Pt.slots] at X' e1 e2 h1 h2 h3 st hcl
    subst h1; subst h2; subst h3
    exact Or.inr ⟨q, (T.setVm vm₁).calling g' mk (Value.ref b :: As).toArray, t, U', L, E, ce, hT, X', hL, e1, e2, hq, hce, hcv, vx_cls hW₁ hcl, st⟩
theorem vx_runS (S : CallFix p m c cc nL s args Ts own) (hM : vx_Met l y ws rm Pc Qc XC mc ms free) (cw : CallB R s args own index y bytes maxL ret ws rm mc ms n ∧ (Cond.static y).before args s = true) (hp : PreS s H Pc As)
    (hg : g.method = m) (hn : As.length = n) (hsize : g.locals.size = nL) (hstack : g.stack = As.reverse ++ rest) (hW : 2 * g.monitorRoom + (rest.map fun v => v.category).sum ≤ 8) (hdg : decode cc g.pc = .ok (.invokestatic index, 3)) (hf : cells + mc ≤ R.cells ∧ slots + ms ≤ R.slots) :
    vx_Run p l e R s m args below meth c H locs cells slots mc ms g rest (Qc As.toArray) XC free := by
  have hK : vx_Back l R p e below s args y 3 8 (PreOf R mc ms Pc) (PostOf Qc mc ms free) (vx_Post XC mc ms free) := vx_callBack cw.1 hM hp.1
  obtain ⟨⟨-, -, -, -, -, -, hcode, hini, hy, hlen, hl⟩, hstt⟩ := cw
  obtain ⟨hx, hb, hml, ho, -⟩ := S
  intro T hT X
  rcases vx_callS X hx (bytes := bytes) (maxL := maxL) (ret := ret) ho hl hstt hini hcode hy hK hg (hsize.trans hml.symm) (argsL := As) (rest := rest) (fun sig h => hn.trans (hlen sig h)) hstack hW (by rw [hb]; exact hdg)
    (fun vm₁ hW₁ => ⟨hf.1, hf.2, hp.2 (T.setVm vm₁) hT hW₁⟩) with ⟨v, vm₁, ⟨U', l2, c2, s2⟩, hW₁, X', ⟨g', mk, t, L, e1, e2, hq, h1, hL, h2, h3⟩, st⟩ | ⟨q, vm₁, ⟨U', l2, c2, s2⟩, hW₁, X', ⟨g', mk, t, L, E, ce, e1, e2, hq, hce, hcv, hcl, h1, hL, h2, h3⟩, st⟩
  · dsimp only [Pt.U, Pt.locs, Pt.cells, Pt.slots] at X' e1 e2 h1 h2 h3 st
    subst h1; subst h2; subst h3
    exact Or.inl ⟨v, (T.setVm vm₁).calling g' mk As.toArray, t, U', L, hT, X', hL, e1, e2, hq, st⟩
  · dsimp only [Pt.U, Pt.locs, Pt.cells, Pt.slots] at X' e1 e2 h1 h2 h3 st hcl
    subst h1; subst h2; subst h3
    exact Or.inr ⟨q, (T.setVm vm₁).calling g' mk As.toArray, t, U', L, E, ce, hT, X', hL, e1, e2, hq, hce, hcv, vx_cls hW₁ hcl, st⟩
end Runs
section Rows
variable {p : Program} {l : Launch} {e : Env} {R : Room} {s : State} {m : MethodId} {args : Array Value} {below : List Frame} {meth : Method} {c : Code} {H : Heap} {locs : List Loc} {cells slots : Nat} {Q : State → Prop}
variable {mc ms : Nat} {free : Addr → Prop} {A0 A1 : Nat → Prop} {H0 : Heap} {a : Array Value} {pc : Nat} {ls : Array Slot} {st0 rest : List Value}
theorem vx_keep {st₀ t T' : State} {L : List Loc} (h0 : st₀.heap = H) (e1 : T'.heap = t.heap) (hS : va_S A0 H0 H locs) (hA : ∀ q, q < H.size → A1 q → A0 q) (hf : ∀ q, free q → A0 q) (hL : ∀ q ∈ L, free q.base) (hF : va_F A1 st₀ t) :
    H.size ≤ T'.heap.size ∧ (∀ q : Nat, q < H.size → ¬ A1 q → T'.heap[q]? = H[q]?) ∧ va_S A0 H0 T'.heap (locs ++ L) := by
  obtain ⟨hz, hk⟩ := hF
  rw [h0] at hz hk
  exact ⟨by rw [e1]; exact hz, fun q h1 h2 => by rw [e1]; exact hk q h1 h2,
    ⟨Nat.le_trans hS.1 (by rw [e1]; exact hz), fun q h1 h2 => by rw [e1, hk q (Nat.lt_of_lt_of_le h1 hS.1) (fun z => h2 (hA q (Nat.lt_of_lt_of_le h1 hS.1) z))]; exact hS.2.1 q h1 h2, fun q hq => by
      rcases List.mem_append.mp hq with h | h
      · exact hS.2.2 q h
      · exact hf _ (hL q h)⟩⟩
theorem vx_calli {S SX : Type} {post : Int32 → S → Prop} {px : SX → Prop} {B : S → State → Prop} {BX : String → SX → State → Prop} {AX : Nat → Prop} (hr : vx_Run p l e R s m args below meth c H locs cells slots mc ms (F0 m pc ls st0) rest (va_Qi post B A1 a) (vx_X px BX AX) free) (hS : va_S A0 H0 H locs) (hA : ∀ q, q < H.size → A1 q → A0 q) (hf : ∀ q, free q → A0 q) (hAX : ∀ q, q < H.size → AX q → A0 q)
    (kx : ∀ (E : String) (ce : Cell) (q9 : Addr) (u : SX) (t : State) (H1 : Heap) (locs1 : List Loc), t.heap = H1 → s.vm.Alike t.vm → px u → BX E u t → H.size ≤ H1.size → (∀ q : Nat, q < H.size → ¬ AX q → H1[q]? = H[q]?) → va_S A0 H0 H1 locs1 → H1[q9]? = some ce → ce.vm = .none → s.vm.findClass E = some ce.cls → vx_W p l e R s m args below meth c H1 locs1 (cells + mc) (slots + ms) Q (F0 m pc ls rest) q9)
    (kk : ∀ (r : Int32) (u : S) (t : State) (H1 : Heap) (locs1 : List Loc), t.heap = H1 → s.vm.Alike t.vm → post r u → B u t → H.size ≤ H1.size → (∀ q : Nat, q < H.size → ¬ A1 q → H1[q]? = H[q]?) → va_S A0 H0 H1 locs1 → W p l e R s m args below meth c H1 locs1 (cells + mc) (slots + ms) Q (F0 m (pc + 3) ls (.int r :: rest))) : W p l e R s m args below meth c H locs cells slots Q (F0 m pc ls st0) := by
  intro T hT X
  rcases hr T hT X with ⟨v, st₀, t, T', L, h0, X', hL, e1, e2, ⟨⟨r, u, hv, hp, hb⟩, hF⟩, st⟩ | ⟨q, st₀, t, T', L, E, ce, h0, X', hL, e1, e2, ⟨u, hp, hb, hF⟩, hce, hcv, hcl, st⟩
  · cases hv
    obtain ⟨k1, k2, k3⟩ := vx_keep h0 e1 hS hA hf hL hF
    obtain ⟨t2, a1, b1⟩ := kk r u t T'.heap (locs ++ L) e1.symm (by rw [← e2]; exact X'.warmed.alike) hp hb k1 k2 k3 T' rfl X'
    exact ⟨t2, st t2 a1, b1⟩
  · obtain ⟨k1, k2, k3⟩ := vx_keep h0 e1 hS hAX hf hL hF
    obtain ⟨t2, a1, b1⟩ := kx E ce q u t T'.heap (locs ++ L) e1.symm (by rw [← e2]; exact X'.warmed.alike) hp hb k1 k2 k3 (by rw [e1]; exact hce) hcv hcl T' rfl X'
    exact ⟨t2, st.trans a1, b1⟩
theorem vx_calll {S SX : Type} {post : Int64 → S → Prop} {px : SX → Prop} {B : S → State → Prop} {BX : String → SX → State → Prop} {AX : Nat → Prop} (hr : vx_Run p l e R s m args below meth c H locs cells slots mc ms (F0 m pc ls st0) rest (va_Ql post B A1 a) (vx_X px BX AX) free) (hS : va_S A0 H0 H locs) (hA : ∀ q, q < H.size → A1 q → A0 q) (hf : ∀ q, free q → A0 q) (hAX : ∀ q, q < H.size → AX q → A0 q)
    (kx : ∀ (E : String) (ce : Cell) (q9 : Addr) (u : SX) (t : State) (H1 : Heap) (locs1 : List Loc), t.heap = H1 → s.vm.Alike t.vm → px u → BX E u t → H.size ≤ H1.size → (∀ q : Nat, q < H.size → ¬ AX q → H1[q]? = H[q]?) → va_S A0 H0 H1 locs1 → H1[q9]? = some ce → ce.vm = .none → s.vm.findClass E = some ce.cls → vx_W p l e R s m args below meth c H1 locs1 (cells + mc) (slots + ms) Q (F0 m pc ls rest) q9)
    (kk : ∀ (r : Int64) (u : S) (t : State) (H1 : Heap) (locs1 : List Loc), t.heap = H1 → s.vm.Alike t.vm → post r u → B u t → H.size ≤ H1.size → (∀ q : Nat, q < H.size → ¬ A1 q → H1[q]? = H[q]?) → va_S A0 H0 H1 locs1 → W p l e R s m args below meth c H1 locs1 (cells + mc) (slots + ms) Q (F0 m (pc + 3) ls (.long r :: rest))) : W p l e R s m args below meth c H locs cells slots Q (F0 m pc ls st0) := by
  intro T hT X
  rcases hr T hT X with ⟨v, st₀, t, T', L, h0, X', hL, e1, e2, ⟨⟨r, u, hv, hp, hb⟩, hF⟩, st⟩ | ⟨q, st₀, t, T', L, E, ce, h0, X', hL, e1, e2, ⟨u, hp, hb, hF⟩, hce, hcv, hcl, st⟩
  · cases hv
    obtain ⟨k1, k2, k3⟩ := vx_keep h0 e1 hS hA hf hL hF
    obtain ⟨t2, a1, b1⟩ := kk r u t T'.heap (locs ++ L) e1.symm (by rw [← e2]; exact X'.warmed.alike) hp hb k1 k2 k3 T' rfl X'
    exact ⟨t2, st t2 a1, b1⟩
  · obtain ⟨k1, k2, k3⟩ := vx_keep h0 e1 hS hAX hf hL hF
    obtain ⟨t2, a1, b1⟩ := kx E ce q u t T'.heap (locs ++ L) e1.symm (by rw [← e2]; exact X'.warmed.alike) hp hb k1 k2 k3 (by rw [e1]; exact hce) hcv hcl T' rfl X'
    exact ⟨t2, st.trans a1, b1⟩
theorem vx_callf {S SX : Type} {post : UInt32 → S → Prop} {px : SX → Prop} {B : S → State → Prop} {BX : String → SX → State → Prop} {AX : Nat → Prop} (hr : vx_Run p l e R s m args below meth c H locs cells slots mc ms (F0 m pc ls st0) rest (va_Qf post B A1 a) (vx_X px BX AX) free) (hS : va_S A0 H0 H locs) (hA : ∀ q, q < H.size → A1 q → A0 q) (hf : ∀ q, free q → A0 q) (hAX : ∀ q, q < H.size → AX q → A0 q)
    (kx : ∀ (E : String) (ce : Cell) (q9 : Addr) (u : SX) (t : State) (H1 : Heap) (locs1 : List Loc), t.heap = H1 → s.vm.Alike t.vm → px u → BX E u t → H.size ≤ H1.size → (∀ q : Nat, q < H.size → ¬ AX q → H1[q]? = H[q]?) → va_S A0 H0 H1 locs1 → H1[q9]? = some ce → ce.vm = .none → s.vm.findClass E = some ce.cls → vx_W p l e R s m args below meth c H1 locs1 (cells + mc) (slots + ms) Q (F0 m pc ls rest) q9)
    (kk : ∀ (r : UInt32) (u : S) (t : State) (H1 : Heap) (locs1 : List Loc), t.heap = H1 → s.vm.Alike t.vm → post r u → B u t → H.size ≤ H1.size → (∀ q : Nat, q < H.size → ¬ A1 q → H1[q]? = H[q]?) → va_S A0 H0 H1 locs1 → W p l e R s m args below meth c H1 locs1 (cells + mc) (slots + ms) Q (F0 m (pc + 3) ls (.float r :: rest))) : W p l e R s m args below meth c H locs cells slots Q (F0 m pc ls st0) := by
  intro T hT X
  rcases hr T hT X with ⟨v, st₀, t, T', L, h0, X', hL, e1, e2, ⟨⟨r, u, hv, hp, hb⟩, hF⟩, st⟩ | ⟨q, st₀, t, T', L, E, ce, h0, X', hL, e1, e2, ⟨u, hp, hb, hF⟩, hce, hcv, hcl, st⟩
  · cases hv
    obtain ⟨k1, k2, k3⟩ := vx_keep h0 e1 hS hA hf hL hF
    obtain ⟨t2, a1, b1⟩ := kk r u t T'.heap (locs ++ L) e1.symm (by rw [← e2]; exact X'.warmed.alike) hp hb k1 k2 k3 T' rfl X'
    exact ⟨t2, st t2 a1, b1⟩
  · obtain ⟨k1, k2, k3⟩ := vx_keep h0 e1 hS hAX hf hL hF
    obtain ⟨t2, a1, b1⟩ := kx E ce q u t T'.heap (locs ++ L) e1.symm (by rw [← e2]; exact X'.warmed.alike) hp hb k1 k2 k3 (by rw [e1]; exact hce) hcv hcl T' rfl X'
    exact ⟨t2, st.trans a1, b1⟩
theorem vx_calld {S SX : Type} {post : UInt64 → S → Prop} {px : SX → Prop} {B : S → State → Prop} {BX : String → SX → State → Prop} {AX : Nat → Prop} (hr : vx_Run p l e R s m args below meth c H locs cells slots mc ms (F0 m pc ls st0) rest (va_Qd post B A1 a) (vx_X px BX AX) free) (hS : va_S A0 H0 H locs) (hA : ∀ q, q < H.size → A1 q → A0 q) (hf : ∀ q, free q → A0 q) (hAX : ∀ q, q < H.size → AX q → A0 q)
    (kx : ∀ (E : String) (ce : Cell) (q9 : Addr) (u : SX) (t : State) (H1 : Heap) (locs1 : List Loc), t.heap = H1 → s.vm.Alike t.vm → px u → BX E u t → H.size ≤ H1.size → (∀ q : Nat, q < H.size → ¬ AX q → H1[q]? = H[q]?) → va_S A0 H0 H1 locs1 → H1[q9]? = some ce → ce.vm = .none → s.vm.findClass E = some ce.cls → vx_W p l e R s m args below meth c H1 locs1 (cells + mc) (slots + ms) Q (F0 m pc ls rest) q9)
    (kk : ∀ (r : UInt64) (u : S) (t : State) (H1 : Heap) (locs1 : List Loc), t.heap = H1 → s.vm.Alike t.vm → post r u → B u t → H.size ≤ H1.size → (∀ q : Nat, q < H.size → ¬ A1 q → H1[q]? = H[q]?) → va_S A0 H0 H1 locs1 → W p l e R s m args below meth c H1 locs1 (cells + mc) (slots + ms) Q (F0 m (pc + 3) ls (.double r :: rest))) : W p l e R s m args below meth c H locs cells slots Q (F0 m pc ls st0) := by
  intro T hT X
  rcases hr T hT X with ⟨v, st₀, t, T', L, h0, X', hL, e1, e2, ⟨⟨r, u, hv, hp, hb⟩, hF⟩, st⟩ | ⟨q, st₀, t, T', L, E, ce, h0, X', hL, e1, e2, ⟨u, hp, hb, hF⟩, hce, hcv, hcl, st⟩
  · cases hv
    obtain ⟨k1, k2, k3⟩ := vx_keep h0 e1 hS hA hf hL hF
    obtain ⟨t2, a1, b1⟩ := kk r u t T'.heap (locs ++ L) e1.symm (by rw [← e2]; exact X'.warmed.alike) hp hb k1 k2 k3 T' rfl X'
    exact ⟨t2, st t2 a1, b1⟩
  · obtain ⟨k1, k2, k3⟩ := vx_keep h0 e1 hS hAX hf hL hF
    obtain ⟨t2, a1, b1⟩ := kx E ce q u t T'.heap (locs ++ L) e1.symm (by rw [← e2]; exact X'.warmed.alike) hp hb k1 k2 k3 (by rw [e1]; exact hce) hcv hcl T' rfl X'
    exact ⟨t2, st.trans a1, b1⟩
theorem vx_callv {S SX : Type} {post : S → Prop} {px : SX → Prop} {B : S → State → Prop} {BX : String → SX → State → Prop} {AX : Nat → Prop} (hr : vx_Run p l e R s m args below meth c H locs cells slots mc ms (F0 m pc ls st0) rest (va_Qv post B A1 a) (vx_X px BX AX) free) (hS : va_S A0 H0 H locs) (hA : ∀ q, q < H.size → A1 q → A0 q) (hf : ∀ q, free q → A0 q) (hAX : ∀ q, q < H.size → AX q → A0 q)
    (kx : ∀ (E : String) (ce : Cell) (q9 : Addr) (u : SX) (t : State) (H1 : Heap) (locs1 : List Loc), t.heap = H1 → s.vm.Alike t.vm → px u → BX E u t → H.size ≤ H1.size → (∀ q : Nat, q < H.size → ¬ AX q → H1[q]? = H[q]?) → va_S A0 H0 H1 locs1 → H1[q9]? = some ce → ce.vm = .none → s.vm.findClass E = some ce.cls → vx_W p l e R s m args below meth c H1 locs1 (cells + mc) (slots + ms) Q (F0 m pc ls rest) q9)
    (kk : ∀ (u : S) (t : State) (H1 : Heap) (locs1 : List Loc), t.heap = H1 → s.vm.Alike t.vm → post u → B u t → H.size ≤ H1.size → (∀ q : Nat, q < H.size → ¬ A1 q → H1[q]? = H[q]?) → va_S A0 H0 H1 locs1 → W p l e R s m args below meth c H1 locs1 (cells + mc) (slots + ms) Q (F0 m (pc + 3) ls (rest))) : W p l e R s m args below meth c H locs cells slots Q (F0 m pc ls st0) := by
  intro T hT X
  rcases hr T hT X with ⟨v, st₀, t, T', L, h0, X', hL, e1, e2, ⟨⟨u, hv, hp, hb⟩, hF⟩, st⟩ | ⟨q, st₀, t, T', L, E, ce, h0, X', hL, e1, e2, ⟨u, hp, hb, hF⟩, hce, hcv, hcl, st⟩
  · cases hv
    obtain ⟨k1, k2, k3⟩ := vx_keep h0 e1 hS hA hf hL hF
    obtain ⟨t2, a1, b1⟩ := kk u t T'.heap (locs ++ L) e1.symm (by rw [← e2]; exact X'.warmed.alike) hp hb k1 k2 k3 T' rfl X'
    exact ⟨t2, st t2 a1, b1⟩
  · obtain ⟨k1, k2, k3⟩ := vx_keep h0 e1 hS hAX hf hL hF
    obtain ⟨t2, a1, b1⟩ := kx E ce q u t T'.heap (locs ++ L) e1.symm (by rw [← e2]; exact X'.warmed.alike) hp hb k1 k2 k3 (by rw [e1]; exact hce) hcv hcl T' rfl X'
    exact ⟨t2, st.trans a1, b1⟩
/-- caught by the row x of this method's table; the rows ahead don't take it -/
theorem vx_catch {own name : String} {E : String} {ce : Cell} {q : Addr} (hown : s.vm.findClass own = some m.cls) (pre : List ExceptionTableEntry) (x : ExceptionTableEntry) (suf : List ExceptionTableEntry) (hsplit : c.exceptionTable.toList = pre ++ x :: suf)
    (hpass : ∀ z ∈ pre, covers z pc = false ∨ (z.catchType ≠ 0 ∧ ∃ nm : String, (Cond.classLink own z.catchType nm).before args s = true ∧ va_Nc E nm s)) (hx : covers x pc = true) (h0 : x.catchType ≠ 0)
    (hlink : (Cond.classLink own x.catchType name).before args s = true) (hcast : (Cond.castable E name).before args s = true) (hcell : H[q]? = some ce) (hv : ce.vm = .none) (hcl : s.vm.findClass E = some ce.cls)
    (kk : W p l e R s m args below meth c H locs cells slots Q (F0 m x.handlerPc ls [.ref q])) : vx_W p l e R s m args below meth c H locs cells slots Q (F0 m pc ls rest) q := by
  intro T hT X
  have hpl : e.platform.magicAccessors = ({} : Platform).magicAccessors := by rw [X.admits.platform]
  obtain ⟨c3, c4, hc3, hc4, hasg⟩ := Cond.castable_spec hcast
  cases Option.some.inj (hc3.symm.trans hcl)
  obtain ⟨c5, hc5, hcl5⟩ := Cond.classLink_spec hown hlink e.platform hpl
  cases Option.some.inj (hc4.symm.trans hc5)
  obtain ⟨vm', X', st⟩ := X.thenCaughtThrough q (g := F0 m pc ls rest) rfl (Steps.refl _) (by rw [hT]; exact hcell) (by rw [hv]; rfl) (by obtain ⟨k9, h9, -⟩ := Vm.findClass_spec hcl; exact ⟨k9, h9⟩) pre x suf hsplit
    (fun z hz => by
      rcases hpass z hz with h | ⟨hz0, nm, hl1, hn1⟩
      · exact Or.inl h
      · obtain ⟨c6, hc6, hcl6⟩ := Cond.classLink_spec hown hl1 e.platform hpl
        obtain ⟨a8, b8, h1, h2, h3⟩ := hn1
        cases Option.some.inj (h1.symm.trans hcl)
        cases Option.some.inj (h2.symm.trans hc6)
        exact Or.inr ⟨hz0, _, hcl6, h3⟩) hx (Or.inr ⟨h0, c4, hcl5, hasg⟩)
  obtain ⟨t, a1, b1⟩ := kk (T.setVm vm') hT X'
  exact ⟨t, st.trans a1, b1⟩
end Rows
section Ends
variable {p : Program} {l : Launch} {e : Env} {R : Room} {s : State} {m : MethodId} {args : Array Value} {below : List Frame} {meth : Method} {c : Code} {H : Heap} {locs : List Loc} {cells slots : Nat} {Q : State → Prop}
variable {mc ms : Nat} {free : Addr → Prop} {A0 A1 : Nat → Prop} {H0 : Heap} {a : Array Value} {ls : Array Slot} {st0 rest : List Value}
variable {Qc : Array Value → State → Outcome → State → Prop} {XC : String → State → State → Prop}
/-- what a body that may throw owes at its end -/
def vx_MQ (below : List Frame) (Qc : Array Value → State → Outcome → State → Prop) (XC : String → State → State → Prop) (a : Array Value) (s : State) (mc ms : Nat) (free : Addr → Prop) : State → Prop := fun t =>
  ∃ o, t.status = .running ∧ Ended t below o ∧ vx_Q Qc XC mc ms free a s o t
theorem vx_ret {g : JFrame} {mc ms : Nat} (k : W p l e R s m args below meth c H locs cells slots (MQ below Qc args s mc ms free) g) : W p l e R s m args below meth c H locs cells slots (vx_MQ below Qc XC args s mc ms free) g := by
  intro T hT X
  obtain ⟨t, a1, o, b1, b2, b3, b4⟩ := k T hT X
  exact ⟨t, a1, o, b1, b2, Or.inl ⟨b3, b4⟩⟩
/-- not caught here: it goes on to the caller -/
theorem vx_widen {g : JFrame} {q : Addr} {k n : Nat} (h1 : cells ≤ k) (h2 : slots ≤ n) (kk : vx_W p l e R s m args below meth c H locs k n Q g q) : vx_W p l e R s m args below meth c H locs cells slots Q g q := fun T hT X => kk T hT (stand_widen X h1 h2)
theorem vx_out {pc : Nat} {E : String} {ce : Cell} {q : Addr} {mc ms : Nat} (hout : ∀ x ∈ c.exceptionTable.toList, covers x pc = false) (hlocks : meth.locks = false) (hcell : H[q]? = some ce) (hv : ce.vm = .none) (hcl : s.vm.findClass E = some ce.cls)
    (hx : ∀ t : State, t.heap = H → s.vm.Alike t.vm → XC E s t) (hf : ∀ z ∈ locs, free z.base) (hc : cells ≤ mc) (hs : slots ≤ ms) :
    vx_W p l e R s m args below meth c H locs cells slots (vx_MQ below Qc XC args s mc ms free) (F0 m pc ls rest) q := by
  intro T hT X
  obtain ⟨st1, hrun, hend, hW, hsm⟩ := X.leaveThrown q (g := F0 m pc ls rest) rfl rfl rfl hout hlocks
  have hcell9 : (T.setFrames (.throwing q :: below)).heap[q]? = some ce := by
    show T.heap[q]? = some ce
    rw [hT]; exact hcell
  exact ⟨_, st1, .threw q, hrun, hend, Or.inr ⟨q, rfl, E, ce, locs, hx _ hT hW.alike, hcell9, hv, hcl, hW, hsm.mono hc hs, hf⟩⟩
theorem vx_frame {U : State} {k n : Nat} (h : s.sameButNew ({ U with vm := s.vm } : State) locs k n) : s.heap.size ≤ U.heap.size ∧ ∀ q : Nat, q < s.heap.size → (∀ z ∈ locs, z.base ≠ q) → U.heap[q]? = s.heap[q]? := by
  obtain ⟨-, h2, -, -, -, h6⟩ := h
  refine ⟨h2, fun q hq hz => ?_⟩
  obtain ⟨c9, e1, e2, e3, e4⟩ := h6 q _ (Array.getElem?_eq_getElem hq)
  have hs : c9.slots = (s.heap[q]).slots := Array.ext_getElem? fun i => e4 i fun hm => hz _ hm rfl
  have h9 : c9 = s.heap[q] := by
    rw [hs] at e2
    exact e2
  have e5 : U.heap[q]? = some c9 := e1
  rw [e5, h9, Array.getElem?_eq_getElem hq]
/-- the words of a throw but the four that speak of the heap -/
def vx_no (w : Cond) : Bool := decide (w ≠ .isRef (.static Bundle.tN "UNASSIGNED_STACK" Bundle.steD)) && decide (w ≠ .isRef (.static Bundle.tN "SUPPRESSED_SENTINEL" Bundle.listD)) && decide (w ≠ .laysStatic Bundle.tN "UNASSIGNED_STACK" Bundle.steD) && decide (w ≠ .laysStatic Bundle.tN "SUPPRESSED_SENTINEL" Bundle.listD)
def vx_at0 (own : String) (ic : Nat) (X : String) (names : List String) : List Cond := (Bundle.ownAtoms0 own ic X names).filter vx_no
def vx_atS (own : String) (ic : Nat) (X : String) (names : List String) : List Cond := (Bundle.ownAtoms own ic X names).filter vx_no
/-- a word that the tables alone decide, or a good one -/
def vx_ot (w : Cond) : Bool := w.onTables || goodWord w
theorem vx_ot_at {args a' : Array Value} {s U : State} {w : Cond} (hW : s.WarmedH U.vm) (hvm : s.vm = U.vm) (hg : vx_ot w = true) (h : w.before args s = true) : w.before a' U = true := by
  simp only [vx_ot, Bool.or_eq_true] at hg
  rcases hg with hg | hg
  · exact va_tabs hg hvm h
  · exact word_at hW (good_of_word hg) h
/-- a list's words: the good ones out of the method's own list, the others by premises of their own -/
theorem vx_hat {args : Array Value} {s : State} {L B : List Cond} (h1 : ∀ w ∈ L.filter goodWord, w.before args s = true) (h2 : ∀ w ∈ L.filter (fun w => !goodWord w), w ∈ B) (h3 : ∀ w ∈ B, w.before args s = true) : ∀ w ∈ L, w.before args s = true := by
  intro w hw
  by_cases g : goodWord w = true
  · exact h1 w (List.mem_filter.mpr ⟨hw, g⟩)
  · refine h3 w (h2 w (List.mem_filter.mpr ⟨hw, ?_⟩))
    show (!goodWord w) = true
    cases hgw : goodWord w
    · rfl
    · exact absurd hgw g
theorem vx_c {args : Array Value} {s : State} {w : Cond} {B : List Cond} (h : w.before args s = true) (t : ∀ w ∈ B, w.before args s = true) : ∀ w' ∈ w :: B, w'.before args s = true := fun w' h' => (List.mem_cons.mp h').elim (fun e => by rw [e]; exact h) (t w')
theorem vx_n {args : Array Value} {s : State} : ∀ w ∈ ([] : List Cond), w.before args s = true := fun _ h => nomatch h
theorem vx_own {args : Array Value} {s : State} {L : List Cond} (h1 : ∀ w ∈ L.filter vx_no, w.before args s = true)
    (hU : (Cond.isRef (.static Bundle.tN "UNASSIGNED_STACK" Bundle.steD)).before args s = true) (hN : (Cond.isRef (.static Bundle.tN "SUPPRESSED_SENTINEL" Bundle.listD)).before args s = true)
    (lU : (Cond.laysStatic Bundle.tN "UNASSIGNED_STACK" Bundle.steD).before args s = true) (lN : (Cond.laysStatic Bundle.tN "SUPPRESSED_SENTINEL" Bundle.listD).before args s = true) : ∀ w ∈ L, w.before args s = true := by
  intro w hw
  by_cases e1 : w = .isRef (.static Bundle.tN "UNASSIGNED_STACK" Bundle.steD)
  · rw [e1]; exact hU
  · by_cases e2 : w = .isRef (.static Bundle.tN "SUPPRESSED_SENTINEL" Bundle.listD)
    · rw [e2]; exact hN
    · by_cases e3 : w = .laysStatic Bundle.tN "UNASSIGNED_STACK" Bundle.steD
      · rw [e3]; exact lU
      · by_cases e4 : w = .laysStatic Bundle.tN "SUPPRESSED_SENTINEL" Bundle.listD
        · rw [e4]; exact lN
        · exact h1 w (List.mem_filter.mpr ⟨hw, by unfold vx_no; rw [decide_eq_true e1, decide_eq_true e2, decide_eq_true e3, decide_eq_true e4]; rfl⟩)
/-- where a static field lies, its class's statics cell in H -/
def vx_L (C n d : String) (A : Nat → Prop) (U : State) (H : Heap) : Prop := ∃ (c : ClassId) (k : Class) (i : Nat) (f : Field) (a : Nat) (cell : Cell), U.vm.findClass C = some c ∧ U.fieldFound? C n d = some (c, k, i, f) ∧ f.isStatic = true ∧ k.statics = some a ∧ H[a]? = some cell ∧ cell.vm.isStatics = true ∧ cell.cls = c ∧ f.slot < cell.slots.size ∧ k.staticTypes[f.slot]? = some f.type ∧ ¬ A a
theorem vx_L.moved {C n d : String} {A : Nat → Prop} {u U : State} {H : Heap} (hvm : u.vm.Alike U.vm) (h : vx_L C n d A u H) : vx_L C n d A U H := by
  obtain ⟨c, k, i, f, a, cell, h1, h2, h3, h4, h5, h6, h7, h8, h9, h10⟩ := h
  obtain ⟨k', hi', he⟩ := State.fieldFound?_setVm hvm h2
  exact ⟨c, k', i, f, a, cell, by rw [hvm.findClass]; exact h1, hi', h3, by rw [he]; exact h4, h5, h6, h7, h8, by rw [he]; exact h9, h10⟩
theorem vx_L.kept {C n d : String} {A : Nat → Prop} {U : State} {H H1 : Heap} (h : vx_L C n d A U H) (hq : ∀ a : Nat, a < H.size → ¬ A a → H1[a]? = H[a]?) : vx_L C n d A U H1 := by
  obtain ⟨c, k, i, f, a, cell, h1, h2, h3, h4, h5, h6, h7, h8, h9, h10⟩ := h
  exact ⟨c, k, i, f, a, cell, h1, h2, h3, h4, by rw [hq a (Array.getElem?_eq_some_iff.mp h5).1 h10]; exact h5, h6, h7, h8, h9, h10⟩
theorem vx_L.narrow {C n d : String} {A B : Nat → Prop} {U : State} {H : Heap} (h : vx_L C n d A U H) (hAB : ∀ q, B q → A q) : vx_L C n d B U H := by
  obtain ⟨c, k, i, f, a, cell, h1, h2, h3, h4, h5, h6, h7, h8, h9, h10⟩ := h
  exact ⟨c, k, i, f, a, cell, h1, h2, h3, h4, h5, h6, h7, h8, h9, fun z => h10 (hAB _ z)⟩
theorem vx_L.word {C n d : String} {A : Nat → Prop} {s : State} {args : Array Value} (h : vx_L C n d A s s.heap) : (Cond.laysStatic C n d).before args s = true := by
  obtain ⟨c, k, i, f, a, cell, h1, h2, h3, h4, h5, h6, h7, h8, h9, -⟩ := h
  show (Cond.laysStatic C n d).holds args s none s [] = true
  exact Cond.laysStatic_of h1 h2 h3 h4 h5 h6 h7 h8 h9
/-- .. and what it holds: null or some reference -/
def vx_Zq (C n d : String) (A : Nat → Prop) (U : State) (H : Heap) : Prop := va_Zq C n d A U H ∧ vx_L C n d A U H
theorem vx_Zq.moved {C n d : String} {A : Nat → Prop} {u U : State} {H : Heap} (hvm : u.vm.Alike U.vm) (h : vx_Zq C n d A u H) : vx_Zq C n d A U H := ⟨va_Zq.moved hvm h.1, vx_L.moved hvm h.2⟩
theorem vx_Zq.kept {C n d : String} {A : Nat → Prop} {U : State} {H H1 : Heap} (h : vx_Zq C n d A U H) (hq : ∀ a : Nat, a < H.size → ¬ A a → H1[a]? = H[a]?) : vx_Zq C n d A U H1 := ⟨va_Zq.kept h.1 hq, vx_L.kept h.2 hq⟩
theorem vx_Zq.narrow {C n d : String} {A B : Nat → Prop} {U : State} {H : Heap} (h : vx_Zq C n d A U H) (hAB : ∀ q, B q → A q) : vx_Zq C n d B U H := ⟨va_Zq.narrow h.1 hAB, vx_L.narrow h.2 hAB⟩
theorem vx_Zqof {args : Array Value} {s : State} {C n d : String} {A : Nat → Prop} (hl : (Cond.laysStatic C n d).before args s = true) (hini : (Cond.initialized C).before args s = true) (h : (Cond.isRef (.static C n d)).before args s = true) (hA : ∀ a : Nat, a < s.heap.size → ¬ A a) : vx_Zq C n d A s s.heap := by
  refine ⟨va_Zqof hl hini h hA, ?_⟩
  obtain ⟨c, k, i, f, a, cell, h1, h2, h3, h4, h5, h6, h7, h8, h9⟩ := Cond.laysStatic_spec hl
  exact ⟨c, k, i, f, a, cell, h1, h2, h3, h4, h5, h6, h7, h8, h9, hA a (Array.getElem?_eq_some_iff.mp h5).1⟩
theorem vx_isRef {C n d : String} {v : Value} {A : Nat → Prop} {s : State} {args : Array Value} (h : va_Z C n d v A s s.heap) (hv : v.isRef = true) : (Cond.isRef (.static C n d)).before args s = true := by
  obtain ⟨cf, kf, fi, f, a, cell, h1, h2, h3, h4, h5, h6, h7, -⟩ := h
  have he : (Term.static C n d).eval args s none [] s = some v := by
    simp [Term.eval, State.fieldNamed?, h1, h2, h4, h5, h6, h7]
  simp only [Cond.before, Cond.holds, Cond.value, he]
  cases v <;> simp_all [Value.isRef]
theorem vx_isRefq {C n d : String} {A : Nat → Prop} {s : State} {args : Array Value} (h : va_Zq C n d A s s.heap) : (Cond.isRef (.static C n d)).before args s = true := by
  rcases h with h | ⟨t, h⟩
  · exact vx_isRef h rfl
  · exact vx_isRef h rfl
/-- the same frame, seen from here: as if the method were called anew in this heap -/
theorem vx_rebase {T : State} (X : Stand p l e R s m args below meth c T locs cells slots) {R' : Room} (hf : R'.frames ≤ R.frames) (hl : R'.locals ≤ R.locals) (hc : cells + R'.cells ≤ R.cells) (hs : slots + R'.slots ≤ R.slots) :
    Stand p l e R' ((T.setVm s.vm).setFrames (.invoking m args :: below)) m args below meth c T [] 0 0 := by
  have htop : (T.setVm s.vm).topJava?.isSome := X.here.top
  have hF : ((T.setVm s.vm).setFrames (.invoking m args :: below)).frames = .invoking m args :: below := State.frames_setFrames _ (State.cur_lt_of_top htop)
  obtain ⟨g₀, hg0⟩ := Option.isSome_iff_exists.mp htop
  obtain ⟨r, hr⟩ := State.topJava?_eq_some.mp hg0
  have hl9 : e.platform.stackLimits (T.setVm s.vm).me = e.platform.stackLimits s.me := X.limits
  have hb9 : (T.setVm s.vm).me.stackBytes = s.me.stackBytes := X.bytes
  refine ⟨X.admits, X.cas, X.clock, hF, ?_, X.hears, X.method, X.code, X.here, X.tail, X.warmed, ?_, ?_, ?_⟩
  · have h := X.room
    have hU : ((T.setVm s.vm).setFrames (.invoking m args :: below)).localsInUse = s.localsInUse := by
      rw [State.localsInUse_invoking hF (meth := meth) (c := c) X.method X.code, State.localsInUse_invoking X.frames X.method X.code]
    simp only [State.hasRoom, Bool.and_eq_true, decide_eq_true_eq] at h ⊢
    obtain ⟨⟨⟨⟨h1, h2, h3, h4, h5, h6⟩, h7⟩, h8⟩, h9⟩ := h
    rw [X.frames, List.length_cons] at h2 h3
    have q1 := X.heapSize
    have q2 := X.used
    simp only [hF, hU, List.length_cons, State.stackLimits_setFrames, State.stackBytes_setFrames, hl9, hb9]
    refine ⟨⟨⟨⟨by omega, by omega, by omega, by omega, by omega, h6⟩, ?_⟩, ?_⟩, X.book⟩
    · show T.heap.size + R'.cells ≤ e.platform.maxCells
      omega
    · show T.slotsUsed + R'.slots ≤ e.platform.maxSlots
      omega
  · rw [State.stackLimits_setFrames]; rfl
  · rw [State.stackBytes_setFrames]; rfl
  · refine ⟨?_, Nat.le_refl _, Nat.le_refl _, ?_, ?_, fun a c9 h9 => ⟨c9, h9, rfl, rfl, fun _ _ => rfl⟩⟩
    · obtain ⟨t, ht, -⟩ := State.frames_cons hr
      show T.setVm s.vm = { ((T.setVm s.vm).setFrames (.invoking m args :: below)).setFrames (T.setVm s.vm).frames with heap := T.heap, slotsUsed := T.slotsUsed }
      rw [State.setFrames_setFrames, State.setFrames_self ht]
      rfl
    · show T.slotsUsed = T.slotsUsed + ((T.heap.toList.drop T.heap.size).map (·.slots.size)).sum
      rw [List.drop_eq_nil_of_le (Nat.le_of_eq Array.length_toList)]
      rfl
    · show ((T.heap.toList.drop T.heap.size).map (·.slots.size)).sum ≤ 0
      rw [List.drop_eq_nil_of_le (Nat.le_of_eq Array.length_toList)]
      exact Nat.le_refl _
/-- 'throw new E()': new; dup; invokespecial; athrow -/
theorem vx_throw0 {cc : ByteArray} {pc : Nat} (hexec : p.tables.exec = Jvm.exec) (hb : c.code = cc) (hl : l.stackTraces = false) {own cls : String} {names : List String} {ik ic mc ms : Nat} {A : Nat → Prop}
    (hown : s.vm.findClass own = some m.cls) (hcls : Bundle.fit cls = true) (hnames : ∀ n ∈ names, Bundle.fit n = true)
    (hk : (Cond.classLink own ik cls).before args s = true) (hini : (Cond.initialized cls).before args s = true) (hat : ∀ w ∈ vx_at0 own ic cls names, w.before args s = true)
    (hgood : ∀ w ∈ Cond.classLink own ik cls :: Cond.initialized cls :: vx_at0 own ic cls names, vx_ot w = true)
    (hU : vx_Zq Bundle.tN "UNASSIGNED_STACK" Bundle.steD A s s.heap) (hN : vx_Zq Bundle.tN "SUPPRESSED_SENTINEL" Bundle.listD A s s.heap) (hS : va_S A s.heap H locs) (hsize : ls.size = c.maxLocals)
    (d0 : decode cc pc = .ok (.new ik, 3)) (d3 : decode cc (pc + 3) = .ok (.dup, 1)) (d4 : decode cc (pc + 4) = .ok (.invokespecial ic, 3)) (d7 : decode cc (pc + 7) = .ok (.athrow, 1))
    (hout : ∀ x ∈ c.exceptionTable.toList, covers x (pc + 7) = false)
    (hRframes : names.length + 3 < R.frames) (hRlocals : (rest.map fun v => v.category).sum + (13 * (names.length + 1) + 42) ≤ R.locals) (hRcells : cells + 1 ≤ R.cells) (hRslots : slots + 6 ≤ R.slots) (hlocks : meth.locks = false)
    (hx : ∀ t : State, s.vm.Alike t.vm → H.size ≤ t.heap.size → (∀ q : Nat, q < H.size → t.heap[q]? = H[q]?) → XC cls s t)
    (hf : ∀ z ∈ locs, free z.base) (hc : cells + 1 ≤ mc) (hs : slots + 6 ≤ ms) :
    W p l e R s m args below meth c H locs cells slots (vx_MQ below Qc XC args s mc ms free) (F0 m pc ls rest) := by
  intro T hT X
  have htr : e.platform.stackTraces = false := (show e.platform.stackTraces = l.stackTraces by rw [X.admits.platform]).trans hl
  have Y := vx_rebase X (R' := { frames := R.frames, locals := R.locals, cells := 1, slots := 6 }) (Nat.le_refl _) (Nat.le_refl _) hRcells hRslots
  obtain ⟨s', hA⟩ : ∃ z, z = (T.setVm s.vm).setFrames (.invoking m args :: below) := ⟨_, rfl⟩
  rw [← hA] at Y
  have hvm : s'.vm = s.vm := by rw [hA]; rfl
  have hhp : s'.heap = H := by rw [hA]; exact hT
  have hW0 : s.WarmedH s'.vm := by rw [hvm]; exact State.WarmedH.refl s
  have hat' : ∀ w ∈ vx_at0 own ic cls names, w.before args s' = true := fun w hw => vx_ot_at hW0 hvm.symm (hgood w (List.mem_cons_of_mem _ (List.mem_cons_of_mem _ hw))) (hat w hw)
  have hk' : (Cond.classLink own ik cls).before args s' = true := vx_ot_at hW0 hvm.symm (hgood _ List.mem_cons_self) hk
  have hini' : (Cond.initialized cls).before args s' = true := vx_ot_at hW0 hvm.symm (hgood _ (List.mem_cons_of_mem _ List.mem_cons_self)) hini
  have hU' : vx_Zq Bundle.tN "UNASSIGNED_STACK" Bundle.steD A s' s'.heap := by rw [hhp]; exact vx_Zq.moved hW0.alike (hU.kept hS.2.1)
  have hN' : vx_Zq Bundle.tN "SUPPRESSED_SENTINEL" Bundle.listD A s' s'.heap := by rw [hhp]; exact vx_Zq.moved hW0.alike (hN.kept hS.2.1)
  have h : ∀ w ∈ Bundle.ownAtoms0 own ic cls names, w.before args s' = true := vx_own hat' (vx_isRefq hU'.1) (vx_isRefq hN'.1) hU'.2.word hN'.2.word
  have hown' : s'.vm.findClass own = some m.cls := by rw [hvm]; exact hown
  have hins : (Cond.instantiable cls 6).before args s' = true := h _ (by simp [Bundle.ownAtoms0])
  obtain ⟨vm₁, cX, kX, hfX, hkX, -, -, X₁, st1⟩ := Y.newCold hexec (own := own) (C := cls) (index := ik) (n := 6) hown' hk' hins hini'
    (g := F0 m pc ls rest) rfl (by rw [hb]; exact d0) (Nat.le_refl _) (Nat.le_refl _)
  generalize hT1 : (T.setVm vm₁).pushCell { cls := cX, slots := kX.instanceTypes.map defaultValue, vm := .none } = T1 at X₁ st1
  have hcat : (Value.ref T.heap.size).category = 1 := rfl
  have hcellA : T1.heap[T.heap.size]? = some (freshCell cX kX) := by rw [← hT1]; exact State.heap_pushCell_size _ _
  have d3' : decode c.code (pc + 3) = .ok (.dup, 1) := by rw [hb]; exact d3
  obtain ⟨U, hsteps, hrun, hend, hW, hsame, ce, hce, hO⟩ := X₁.ctorThrow0 hexec htr (own := own) (cls := cls) (names := names) (ic := ic) hown' hcls hnames h (fun x hx => nomatch hx) hfX hkX hcellA (by rw [hhp, hT]; exact Nat.le_refl _)
    (g := { method := m, pc := pc + 4, locals := ls, stack := .ref T.heap.size :: .ref T.heap.size :: rest, locked := none }) rfl hsize rfl rfl (rest := rest) rfl
    (by rw [hb]; exact d4) (by rw [hb]; exact d7) hout hRframes (by simp only [List.map_cons, List.sum_cons, hcat]; omega) hlocks
  obtain ⟨f1, f2⟩ := vx_frame hsame
  rw [hhp] at f1 f2
  have hWs : s.WarmedH U.vm := State.WarmedH.trans hW0 hW
  have hcl : s.vm.findClass cls = some ce.cls := by
    have h9 := hO.cls
    rw [hvm] at h9
    exact h9
  have hall : s.sameButNew ({ U with vm := s.vm } : State) locs mc ms := by
    subst hA
    obtain ⟨e1, e2⟩ := hsame
    rw [State.setFrames_setFrames] at e1
    have h2 : (T.setVm s.vm).sameButNew ({ U with vm := s.vm } : State) [] (0 + 1) (0 + 6) := ⟨e1, e2⟩
    have h3 := X.same.trans h2
    rw [List.append_nil] at h3
    exact h3.mono hc hs
  refine ⟨U, ?_, .threw T.heap.size, hrun, hend, Or.inr ⟨T.heap.size, rfl, cls, ce, locs, hx U hWs.alike f1 (fun q hq => f2 q hq (fun z hz => nomatch hz)), hce, hO.vm, hcl, hWs, hall, hf⟩⟩
  refine st1 _ ?_
  show Steps p.tables e below (T1.setTop { method := m, pc := pc + 3, locals := ls, stack := .ref T.heap.size :: rest, locked := none }) _
  jvm_step X₁.here [X₁.here.top, hexec, d3', Value.category]
  exact hsteps
/-- 'throw new E("text")': new; dup; ldc; invokespecial; athrow -/
theorem vx_throwS {cc : ByteArray} {pc : Nat} (hexec : p.tables.exec = Jvm.exec) (hb : c.code = cc) (hl : l.stackTraces = false) {own cls text : String} {names : List String} {ik is ic mc ms sa : Nat} {A : Nat → Prop}
    (hown : s.vm.findClass own = some m.cls) (hcls : Bundle.fit cls = true) (hnames : ∀ n ∈ names, Bundle.fit n = true)
    (hk : (Cond.classLink own ik cls).before args s = true) (hini : (Cond.initialized cls).before args s = true) (hstr : vk_R own is text sa s) (hat : ∀ w ∈ vx_atS own ic cls names, w.before args s = true)
    (hgood : ∀ w ∈ Cond.classLink own ik cls :: Cond.initialized cls :: vx_atS own ic cls names, vx_ot w = true)
    (hU : vx_Zq Bundle.tN "UNASSIGNED_STACK" Bundle.steD A s s.heap) (hN : vx_Zq Bundle.tN "SUPPRESSED_SENTINEL" Bundle.listD A s s.heap) (hS : va_S A s.heap H locs) (hsize : ls.size = c.maxLocals)
    (d0 : decode cc pc = .ok (.new ik, 3)) (d3 : decode cc (pc + 3) = .ok (.dup, 1)) (d4 : decode cc (pc + 4) = .ok (.ldc is, 2)) (d6 : decode cc (pc + 6) = .ok (.invokespecial ic, 3)) (d9 : decode cc (pc + 9) = .ok (.athrow, 1))
    (hout : ∀ x ∈ c.exceptionTable.toList, covers x (pc + 9) = false)
    (hRframes : names.length + 3 < R.frames) (hRlocals : (rest.map fun v => v.category).sum + (13 * (names.length + 1) + 43) ≤ R.locals) (hRcells : cells + 1 ≤ R.cells) (hRslots : slots + 6 ≤ R.slots) (hlocks : meth.locks = false)
    (hx : ∀ t : State, s.vm.Alike t.vm → H.size ≤ t.heap.size → (∀ q : Nat, q < H.size → t.heap[q]? = H[q]?) → XC cls s t)
    (hf : ∀ z ∈ locs, free z.base) (hc : cells + 1 ≤ mc) (hs : slots + 6 ≤ ms) :
    W p l e R s m args below meth c H locs cells slots (vx_MQ below Qc XC args s mc ms free) (F0 m pc ls rest) := by
  intro T hT X
  have htr : e.platform.stackTraces = false := (show e.platform.stackTraces = l.stackTraces by rw [X.admits.platform]).trans hl
  have Y := vx_rebase X (R' := { frames := R.frames, locals := R.locals, cells := 1, slots := 6 }) (Nat.le_refl _) (Nat.le_refl _) hRcells hRslots
  obtain ⟨s', hA⟩ : ∃ z, z = (T.setVm s.vm).setFrames (.invoking m args :: below) := ⟨_, rfl⟩
  rw [← hA] at Y
  have hvm : s'.vm = s.vm := by rw [hA]; rfl
  have hhp : s'.heap = H := by rw [hA]; exact hT
  have hW0 : s.WarmedH s'.vm := by rw [hvm]; exact State.WarmedH.refl s
  have hat' : ∀ w ∈ vx_atS own ic cls names, w.before args s' = true := fun w hw => vx_ot_at hW0 hvm.symm (hgood w (List.mem_cons_of_mem _ (List.mem_cons_of_mem _ hw))) (hat w hw)
  have hk' : (Cond.classLink own ik cls).before args s' = true := vx_ot_at hW0 hvm.symm (hgood _ List.mem_cons_self) hk
  have hini' : (Cond.initialized cls).before args s' = true := vx_ot_at hW0 hvm.symm (hgood _ (List.mem_cons_of_mem _ List.mem_cons_self)) hini
  have hU' : vx_Zq Bundle.tN "UNASSIGNED_STACK" Bundle.steD A s' s'.heap := by rw [hhp]; exact vx_Zq.moved hW0.alike (hU.kept hS.2.1)
  have hN' : vx_Zq Bundle.tN "SUPPRESSED_SENTINEL" Bundle.listD A s' s'.heap := by rw [hhp]; exact vx_Zq.moved hW0.alike (hN.kept hS.2.1)
  have h : ∀ w ∈ Bundle.ownAtoms own ic cls names, w.before args s' = true := vx_own hat' (vx_isRefq hU'.1) (vx_isRefq hN'.1) hU'.2.word hN'.2.word
  have hown' : s'.vm.findClass own = some m.cls := by rw [hvm]; exact hown
  have hins : (Cond.instantiable cls 6).before args s' = true := h _ (by simp [Bundle.ownAtoms])
  obtain ⟨vm₁, cX, kX, hfX, hkX, -, -, X₁, st1⟩ := Y.newCold hexec (own := own) (C := cls) (index := ik) (n := 6) hown' hk' hins hini'
    (g := F0 m pc ls rest) rfl (by rw [hb]; exact d0) (Nat.le_refl _) (Nat.le_refl _)
  generalize hT1 : (T.setVm vm₁).pushCell { cls := cX, slots := kX.instanceTypes.map defaultValue, vm := .none } = T1 at X₁ st1
  have hcat : (Value.ref T.heap.size).category = 1 := rfl
  have hcellA : T1.heap[T.heap.size]? = some (freshCell cX kX) := by rw [← hT1]; exact State.heap_pushCell_size _ _
  have d3' : decode c.code (pc + 3) = .ok (.dup, 1) := by rw [hb]; exact d3
  have d4' : decode c.code (pc + 4) = .ok (.ldc is, 2) := by rw [hb]; exact d4
  have hstr' : vk_R own is text sa s' := vk_R.warm hW0 hstr
  obtain ⟨U, hsteps, hrun, hend, hW, hsame, ce, hce, hO⟩ := X₁.ctorThrowS hexec htr (own := own) (cls := cls) (names := names) (ic := ic) hown' hcls hnames h (fun x hx => nomatch hx) hfX hkX hcellA (by rw [hhp, hT]; exact Nat.le_refl _) (msg := .ref sa) rfl
    (g := { method := m, pc := pc + 6, locals := ls, stack := .ref sa :: .ref T.heap.size :: .ref T.heap.size :: rest, locked := none }) rfl hsize rfl rfl (rest := rest) rfl
    (by rw [hb]; exact d6) (by rw [hb]; exact d9) hout hRframes (by simp only [List.map_cons, List.sum_cons, hcat]; omega) hlocks
  obtain ⟨f1, f2⟩ := vx_frame hsame
  rw [hhp] at f1 f2
  have hWs : s.WarmedH U.vm := State.WarmedH.trans hW0 hW
  have hcl : s.vm.findClass cls = some ce.cls := by
    have h9 := hO.cls
    rw [hvm] at h9
    exact h9
  have hall : s.sameButNew ({ U with vm := s.vm } : State) locs mc ms := by
    subst hA
    obtain ⟨e1, e2⟩ := hsame
    rw [State.setFrames_setFrames] at e1
    have h2 : (T.setVm s.vm).sameButNew ({ U with vm := s.vm } : State) [] (0 + 1) (0 + 6) := ⟨e1, e2⟩
    have h3 := X.same.trans h2
    rw [List.append_nil] at h3
    exact h3.mono hc hs
  refine ⟨U, ?_, .threw T.heap.size, hrun, hend, Or.inr ⟨T.heap.size, rfl, cls, ce, locs, hx U hWs.alike f1 (fun q hq => f2 q hq (fun z hz => nomatch hz)), hce, hO.vm, hcl, hWs, hall, hf⟩⟩
  refine st1 _ ?_
  show Steps p.tables e below (T1.setTop { method := m, pc := pc + 3, locals := ls, stack := .ref T.heap.size :: rest, locked := none }) _
  jvm_step X₁.here [X₁.here.top, hexec, d3', Value.category]
  exact X₁.ldcString hexec (own := own) (text := text) (index := is) (a := sa) hown' hstr'.1 hstr'.2
    (g := { method := m, pc := pc + 4, locals := ls, stack := .ref T.heap.size :: .ref T.heap.size :: rest, locked := none }) rfl d4' _ hsteps
/-- 'throw new E("text")', the text by a wide index -/
theorem vx_throwSW {cc : ByteArray} {pc : Nat} (hexec : p.tables.exec = Jvm.exec) (hb : c.code = cc) (hl : l.stackTraces = false) {own cls text : String} {names : List String} {ik is ic mc ms sa : Nat} {A : Nat → Prop}
    (hown : s.vm.findClass own = some m.cls) (hcls : Bundle.fit cls = true) (hnames : ∀ n ∈ names, Bundle.fit n = true)
    (hk : (Cond.classLink own ik cls).before args s = true) (hini : (Cond.initialized cls).before args s = true) (hstr : vk_R own is text sa s) (hat : ∀ w ∈ vx_atS own ic cls names, w.before args s = true)
    (hgood : ∀ w ∈ Cond.classLink own ik cls :: Cond.initialized cls :: vx_atS own ic cls names, vx_ot w = true)
    (hU : vx_Zq Bundle.tN "UNASSIGNED_STACK" Bundle.steD A s s.heap) (hN : vx_Zq Bundle.tN "SUPPRESSED_SENTINEL" Bundle.listD A s s.heap) (hS : va_S A s.heap H locs) (hsize : ls.size = c.maxLocals)
    (d0 : decode cc pc = .ok (.new ik, 3)) (d3 : decode cc (pc + 3) = .ok (.dup, 1)) (d4 : decode cc (pc + 4) = .ok (.ldc_w is, 3)) (d7 : decode cc (pc + 7) = .ok (.invokespecial ic, 3)) (d10 : decode cc (pc + 10) = .ok (.athrow, 1))
    (hout : ∀ x ∈ c.exceptionTable.toList, covers x (pc + 10) = false)
    (hRframes : names.length + 3 < R.frames) (hRlocals : (rest.map fun v => v.category).sum + (13 * (names.length + 1) + 43) ≤ R.locals) (hRcells : cells + 1 ≤ R.cells) (hRslots : slots + 6 ≤ R.slots) (hlocks : meth.locks = false)
    (hx : ∀ t : State, s.vm.Alike t.vm → H.size ≤ t.heap.size → (∀ q : Nat, q < H.size → t.heap[q]? = H[q]?) → XC cls s t)
    (hf : ∀ z ∈ locs, free z.base) (hc : cells + 1 ≤ mc) (hs : slots + 6 ≤ ms) :
    W p l e R s m args below meth c H locs cells slots (vx_MQ below Qc XC args s mc ms free) (F0 m pc ls rest) := by
  intro T hT X
  have htr : e.platform.stackTraces = false := (show e.platform.stackTraces = l.stackTraces by rw [X.admits.platform]).trans hl
  have Y := vx_rebase X (R' := { frames := R.frames, locals := R.locals, cells := 1, slots := 6 }) (Nat.le_refl _) (Nat.le_refl _) hRcells hRslots
  obtain ⟨s', hA⟩ : ∃ z, z = (T.setVm s.vm).setFrames (.invoking m args :: below) := ⟨_, rfl⟩
  rw [← hA] at Y
  have hvm : s'.vm = s.vm := by rw [hA]; rfl
  have hhp : s'.heap = H := by rw [hA]; exact hT
  have hW0 : s.WarmedH s'.vm := by rw [hvm]; exact State.WarmedH.refl s
  have hat' : ∀ w ∈ vx_atS own ic cls names, w.before args s' = true := fun w hw => vx_ot_at hW0 hvm.symm (hgood w (List.mem_cons_of_mem _ (List.mem_cons_of_mem _ hw))) (hat w hw)
  have hk' : (Cond.classLink own ik cls).before args s' = true := vx_ot_at hW0 hvm.symm (hgood _ List.mem_cons_self) hk
  have hini' : (Cond.initialized cls).before args s' = true := vx_ot_at hW0 hvm.symm (hgood _ (List.mem_cons_of_mem _ List.mem_cons_self)) hini
  have hU' : vx_Zq Bundle.tN "UNASSIGNED_STACK" Bundle.steD A s' s'.heap := by rw [hhp]; exact vx_Zq.moved hW0.alike (hU.kept hS.2.1)
  have hN' : vx_Zq Bundle.tN "SUPPRESSED_SENTINEL" Bundle.listD A s' s'.heap := by rw [hhp]; exact vx_Zq.moved hW0.alike (hN.kept hS.2.1)
  have h : ∀ w ∈ Bundle.ownAtoms own ic cls names, w.before args s' = true := vx_own hat' (vx_isRefq hU'.1) (vx_isRefq hN'.1) hU'.2.word hN'.2.word
  have hown' : s'.vm.findClass own = some m.cls := by rw [hvm]; exact hown
  have hins : (Cond.instantiable cls 6).before args s' = true := h _ (by simp [Bundle.ownAtoms])
  obtain ⟨vm₁, cX, kX, hfX, hkX, -, -, X₁, st1⟩ := Y.newCold hexec (own := own) (C := cls) (index := ik) (n := 6) hown' hk' hins hini'
    (g := F0 m pc ls rest) rfl (by rw [hb]; exact d0) (Nat.le_refl _) (Nat.le_refl _)
  generalize hT1 : (T.setVm vm₁).pushCell { cls := cX, slots := kX.instanceTypes.map defaultValue, vm := .none } = T1 at X₁ st1
  have hcat : (Value.ref T.heap.size).category = 1 := rfl
  have hcellA : T1.heap[T.heap.size]? = some (freshCell cX kX) := by rw [← hT1]; exact State.heap_pushCell_size _ _
  have d3' : decode c.code (pc + 3) = .ok (.dup, 1) := by rw [hb]; exact d3
  have d4' : decode c.code (pc + 4) = .ok (.ldc_w is, 3) := by rw [hb]; exact d4
  have hstr' : vk_R own is text sa s' := vk_R.warm hW0 hstr
  obtain ⟨U, hsteps, hrun, hend, hW, hsame, ce, hce, hO⟩ := X₁.ctorThrowS hexec htr (own := own) (cls := cls) (names := names) (ic := ic) hown' hcls hnames h (fun x hx => nomatch hx) hfX hkX hcellA (by rw [hhp, hT]; exact Nat.le_refl _) (msg := .ref sa) rfl
    (g := { method := m, pc := pc + 7, locals := ls, stack := .ref sa :: .ref T.heap.size :: .ref T.heap.size :: rest, locked := none }) rfl hsize rfl rfl (rest := rest) rfl
    (by rw [hb]; exact d7) (by rw [hb]; exact d10) hout hRframes (by simp only [List.map_cons, List.sum_cons, hcat]; omega) hlocks
  obtain ⟨f1, f2⟩ := vx_frame hsame
  rw [hhp] at f1 f2
  have hWs : s.WarmedH U.vm := State.WarmedH.trans hW0 hW
  have hcl : s.vm.findClass cls = some ce.cls := by
    have h9 := hO.cls
    rw [hvm] at h9
    exact h9
  have hall : s.sameButNew ({ U with vm := s.vm } : State) locs mc ms := by
    subst hA
    obtain ⟨e1, e2⟩ := hsame
    rw [State.setFrames_setFrames] at e1
    have h2 : (T.setVm s.vm).sameButNew ({ U with vm := s.vm } : State) [] (0 + 1) (0 + 6) := ⟨e1, e2⟩
    have h3 := X.same.trans h2
    rw [List.append_nil] at h3
    exact h3.mono hc hs
  refine ⟨U, ?_, .threw T.heap.size, hrun, hend, Or.inr ⟨T.heap.size, rfl, cls, ce, locs, hx U hWs.alike f1 (fun q hq => f2 q hq (fun z hz => nomatch hz)), hce, hO.vm, hcl, hWs, hall, hf⟩⟩
  refine st1 _ ?_
  show Steps p.tables e below (T1.setTop { method := m, pc := pc + 3, locals := ls, stack := .ref T.heap.size :: rest, locked := none }) _
  jvm_step X₁.here [X₁.here.top, hexec, d3', Value.category]
  exact X₁.ldcStringW hexec (own := own) (text := text) (index := is) (a := sa) hown' hstr'.1 hstr'.2
    (g := { method := m, pc := pc + 4, locals := ls, stack := .ref T.heap.size :: .ref T.heap.size :: rest, locked := none }) rfl d4' _ hsteps
end Ends
section Bodies
variable {l : Launch}
theorem vx_ofW {y : MethodName} {ws ws' : List Cond} {rm : Room} {Pc : Array Value → State → Prop} {Qc : Array Value → State → Outcome → State → Prop} {XC : String → State → State → Prop} {mc ms : Nat} {free : Addr → Prop} {cc : ByteArray} {maxL : Nat} {ret : Option FieldType}
    (hy : plainName y.cls = true) (hw : ws = Cond.code y cc maxL ret :: ws')
    (body : ∀ p e s m args below meth c s₁, BodyLoose p l y (headSpec ws rm) cc maxL ret e s m args below meth c s₁ → c.maxLocals = maxL → (∀ x ∈ c.exceptionTable.toList, False) → Pc args s →
      W p l e (headSpec ws rm).room s m args below meth c s.heap [] 0 0 (vx_MQ below Qc XC args s mc ms free) (entryFrame m args maxL)) : vx_Met l y ws rm Pc Qc XC mc ms free := by
  refine MetFree.of_bodyS (code := cc) (maxLocals := maxL) (ret := ret) hy ?_ ?_
  · intro args s m h hn
    obtain ⟨meth, c, h1, h2, h3, h4, h5, h6, -, -⟩ := Cond.code_spec hn (atoms_spec (ws := ws) h _ (by rw [hw]; exact List.mem_cons_self))
    exact ⟨meth, c, h1, h2, h3, h4, h5, h6⟩
  · intro p e s m args below meth c s₁ B hml hP _
    have hh0 : s₁.heap = s.heap := by rw [B.state]; rfl
    have ht : ∀ x ∈ c.exceptionTable.toList, False := by
      obtain ⟨meth9, c9, h1, h2, -, -, -, -, h7, -⟩ := Cond.code_spec B.named (atoms_spec (ws := ws) B.pre _ (by rw [hw]; exact List.mem_cons_self))
      cases Option.some.inj (h1.symm.trans B.method)
      cases Option.some.inj (h2.symm.trans (Stand.of_body B).code)
      intro x hx
      rw [Array.isEmpty_iff.mp h7] at hx
      cases hx
    obtain ⟨t, a1, o, b1, b2, b3⟩ := body p e s m args below meth c s₁ B hml ht hP s₁ hh0 (Stand.of_body B)
    exact ⟨t, o, a1, b1, b2, b3⟩
/-- the table of a body with handlers -/
theorem vx_table {p : Program} {x y : MethodName} {S : Spec} {cc bytes : ByteArray} {maxL maxL' : Nat} {ret ret' : Option FieldType} {e : Env} {s s₁ : State} {m : MethodId} {args : Array Value} {below : List Frame} {meth : Method} {c : Code} {hh : List (Nat × Nat × Nat × Nat)}
    (B : BodyLoose p l y S cc maxL ret e s m args below meth c s₁) (h : (Cond.codeWith y bytes maxL' ret' hh).before args s = true) : c.exceptionTable.toList = tableOf hh := by
  obtain ⟨m9, meth9, c9, hn9, h1, h2, -, -, h6, -⟩ := Cond.codeWith_spec h
  cases Option.some.inj (hn9.symm.trans B.named)
  cases Option.some.inj (h1.symm.trans B.method)
  cases Option.some.inj (h2.symm.trans (Stand.of_body B).code)
  rw [← h6, table_eq]
end Bodies
end VXA
/-! ===== END ===== -/
/-! ===== BEGIN a static call of a method with an exception table ===== -/
section VXS
variable {p : Program} {l : Launch} {e : Env} {R : Room} {s : State} {m : MethodId} {args : Array Value} {below : List Frame} {meth : Method} {c : Code} {T : State} {H : Heap} {locs : List Loc} {cells slots : Nat}
abbrev vx_CSW (R : Room) (s : State) (args : Array Value) (own : String) (index : Nat) (y : MethodName) (bytes : ByteArray) (maxL : Nat) (ret : Option FieldType) (hh : List (Nat × Nat × Nat × Nat)) (ws : List Cond) (rm : Room) (mc ms n : Nat) : Prop :=
  (rm.cells = mc ∧ rm.slots = ms ∧ rm.frames + 1 ≤ R.frames ∧ 8 + (maxL + 11) + rm.locals ≤ R.locals ∧ (∀ w ∈ ws, ∀ (a' : Array Value) (U : State), s.WarmedH U.vm → w.before a' U = true) ∧ Cond.codeWith y bytes maxL ret hh ∈ ws) ∧
  (Cond.codeWith y bytes maxL ret hh).before args s = true ∧ (Cond.initialized y.cls).before args s = true ∧ (y.cls ≠ "java/lang/invoke/MethodHandle" ∧ y.cls ≠ "java/lang/invoke/VarHandle") ∧
  (∀ sig, parseMethodDescriptor y.desc = some sig → n = sig.parameters.length) ∧ (Cond.methodLink own index y).before args s = true ∧ (Cond.static y).before args s = true
theorem vx_cwSW {own : String} {index maxL mc ms : Nat} {y : MethodName} {bytes : ByteArray} {ret : Option FieldType} {hh : List (Nat × Nat × Nat × Nat)} {Ts ws ws' : List Cond} {rm : Room} (n : Nat) (ht : ∀ w ∈ Ts, w.before args s = true) (hT : GoodIn Ts (va_wsS own index y ws)) (hw : ws = Cond.codeWith y bytes maxL ret hh :: ws') (hrc : rm.cells = mc) (hrs : rm.slots = ms)
    (hd : y.cls ≠ "java/lang/invoke/MethodHandle" ∧ y.cls ≠ "java/lang/invoke/VarHandle" ∧ (parseMethodDescriptor y.desc).map (fun d => d.parameters.length) = some n) (hR : rm.frames + 1 ≤ R.frames ∧ 8 + (maxL + 11) + rm.locals ≤ R.locals) :
    vx_CSW R s args own index y bytes maxL ret hh ws rm mc ms n := by
  have ok : ∀ w ∈ va_wsS own index y ws, w.before args s = true := fun w h => ht w (hT w h).1
  have hG : GoodIn Ts ws := fun w h => hT w (by unfold va_wsS; exact List.mem_append_right _ h)
  have hc : Cond.codeWith y bytes maxL ret hh ∈ ws := by rw [hw]; exact List.mem_cons_self
  refine ⟨⟨hrc, hrs, hR.1, hR.2, pay_in ht hG, hc⟩, ht _ (hG _ hc).1, ok _ (by simp [va_wsS]), ⟨hd.1, hd.2.1⟩, fun sig h => ?_, ok _ (by simp [va_wsS]), ok _ (by simp [va_wsS])⟩
  have h2 := hd.2.2
  rw [h] at h2
  exact (Option.some.inj h2).symm
theorem vx_callSW (X : Stand p l e R s m args below meth c T locs cells slots) (hexec : p.tables.exec = Jvm.exec) {own : String} {index : Nat} {y : MethodName} {bytes : ByteArray} {maxL : Nat} {ret : Option FieldType} {hh : List (Nat × Nat × Nat × Nat)}
    (hown : s.vm.findClass own = some m.cls) (hlink : (Cond.methodLink own index y).before args s = true) (hstat : (Cond.static y).before args s = true) (hinit : (Cond.initialized y.cls).before args s = true)
    (hcode : (Cond.codeWith y bytes maxL ret hh).before args s = true) (hy : y.cls ≠ "java/lang/invoke/MethodHandle" ∧ y.cls ≠ "java/lang/invoke/VarHandle")
    {W9 : Nat} {Pre : Pt → Array Value → Prop} {Post : Pt → Array Value → Option Value → Pt → Prop} (hK : Back l R p e below s args y 3 W9 Pre Post)
    {g : JFrame} (hg : g.method = m) (hsize : g.locals.size = c.maxLocals) {argsL rest : List Value} (hlen : ∀ sig, parseMethodDescriptor y.desc = some sig → argsL.length = sig.parameters.length)
    (hstack : g.stack = argsL.reverse ++ rest) (hW : 2 * g.monitorRoom + (rest.map fun v => v.category).sum ≤ W9) (hdg : decode c.code g.pc = .ok (.invokestatic index, 3))
    (hpre : ∀ vm₁, s.WarmedH vm₁ → Pre ⟨T.setVm vm₁, locs, cells, slots⟩ argsL.toArray) :
    ∃ (v : Option Value) (vm₁ : Vm) (B : Pt), s.WarmedH vm₁ ∧ Stand p l e R s m args below meth c B.U B.locs B.cells B.slots ∧ Post ⟨T.setVm vm₁, locs, cells, slots⟩ argsL.toArray v B ∧
      ∀ target, Steps p.tables e below (B.U.setTop { g with pc := g.pc + 3, stack := v.toList ++ rest }) target → Steps p.tables e below (T.setTop g) target := by
  obtain ⟨mk, methM, cM, hnamed, hmethM, -, -, -, -, -, -, hsigM⟩ := Cond.codeWith_spec hcode
  have hstatic : methM.isStatic = true := Cond.static_spec hnamed hmethM hstat
  obtain ⟨kP, hkP, -⟩ := className_of_methodNamed hnamed
  have hinitP : kP.init = .initialized := Cond.initialized_spec (findClass_of_methodNamed hnamed) hkP hinit
  obtain ⟨vm₁, X₁, hstep₁⟩ := X.invokestatic hexec hown hlink hnamed hmethM hstatic hkP hinitP hy (g := g) hg (argsL := argsL) (rest := rest) (hlen _ hsigM) hstack hdg
  obtain ⟨v, B, X', hpost, hsteps⟩ := hK m meth c ⟨T.setVm vm₁, locs, cells, slots⟩ { g with stack := rest } (.invokestatic index) mk argsL.toArray X₁ hg hsize hdg hW (X₁.named hnamed) (hpre vm₁ X₁.warmed)
  exact ⟨v, vm₁, B, X₁.warmed, X', hpost, fun target h => hstep₁ _ fun acts => by rw [doInvoke_state]; exact hsteps.trans h⟩
theorem vx_runSW {y : MethodName} {bytes cc : ByteArray} {maxL nL mc ms n index : Nat} {ret : Option FieldType} {hh : List (Nat × Nat × Nat × Nat)} {ws : List Cond} {rm : Room} {Pc : Array Value → State → Prop} {Qc : Array Value → State → Outcome → State → Prop} {free : Addr → Prop} {Ts : List Cond} {own : String} {As rest : List Value} {g : JFrame}
    (S : CallFix p m c cc nL s args Ts own) (hM : Met l y ws rm Pc Qc mc ms free) (cw : vx_CSW R s args own index y bytes maxL ret hh ws rm mc ms n) (hp : PreS s H Pc As)
    (hg : g.method = m) (hn : As.length = n) (hsize : g.locals.size = nL) (hstack : g.stack = As.reverse ++ rest) (hW : 2 * g.monitorRoom + (rest.map fun v => v.category).sum ≤ 8) (hdg : decode cc g.pc = .ok (.invokestatic index, 3)) (hf : cells + mc ≤ R.cells ∧ slots + ms ≤ R.slots) :
    va_Run p l e R s m args below meth c H locs cells slots mc ms g rest (Qc As.toArray) (free) := by
  obtain ⟨⟨hrc, hrs, hfr, hlo, hws, hcw⟩, hcode, hini, hy, hlen, hl, hstt⟩ := cw
  have hK : Back l R p e below s args y 3 8 (PreOf R mc ms Pc) (PostOf Qc mc ms free) := va_backW (hh := hh) (bytes := bytes) (maxL := maxL) (ret := ret) hM hp.1 hrc hrs hfr hlo hws hcw (fun a' U hW => word_at hW (Or.inl (by first | rfl | simp [Cond.onTables, Cond.keeps, Cond.steady])) hini)
  obtain ⟨hx, hb, hml, ho, -⟩ := S
  intro T hT X
  obtain ⟨v, vm₁, ⟨U', l2, c2, s2⟩, hW₁, X', ⟨g', mk, t, L, e1, e2, hq, h1, hL, h2, h3⟩, st⟩ := vx_callSW X hx (hh := hh) (bytes := bytes) (maxL := maxL) (ret := ret) ho hl hstt hini hcode hy hK hg (hsize.trans hml.symm) (argsL := As) (rest := rest) (fun sig h => hn.trans (hlen sig h)) hstack hW (by rw [hb]; exact hdg)
    (fun vm₁ hW₁ => ⟨hf.1, hf.2, hp.2 (T.setVm vm₁) hT hW₁⟩)
  dsimp only [Pt.U, Pt.locs, Pt.cells, Pt.slots] at X' e1 e2 h1 h2 h3 st
  subst h1; subst h2; subst h3
  exact ⟨v, (T.setVm vm₁).calling g' mk As.toArray, t, U', L, hT, X', hL, e1, e2, hq, st⟩
/-- not caught here, past rows that name other classes: it goes on to the caller -/
theorem vx_outP {p : Program} {l : Launch} {e : Env} {R : Room} {s : State} {m : MethodId} {args : Array Value} {below : List Frame} {meth : Method} {c : Code} {H : Heap} {locs : List Loc} {cells slots : Nat} {free : Addr → Prop} {ls : Array Slot} {rest : List Value} {Qc : Array Value → State → Outcome → State → Prop} {XC : String → State → State → Prop}
    {pc : Nat} {own E : String} {ce : Cell} {q : Addr} {mc ms : Nat} (hown : s.vm.findClass own = some m.cls) (hlocks : meth.locks = false)
    (hpass : ∀ z ∈ c.exceptionTable.toList, covers z pc = false ∨ (z.catchType ≠ 0 ∧ ∃ nm : String, (Cond.classLink own z.catchType nm).before args s = true ∧ va_Nc E nm s)) (hcell : H[q]? = some ce) (hv : ce.vm = .none) (hcl : s.vm.findClass E = some ce.cls)
    (hx : ∀ t : State, t.heap = H → s.vm.Alike t.vm → XC E s t) (hf : ∀ z ∈ locs, free z.base) (hc : cells ≤ mc) (hs : slots ≤ ms) :
    vx_W p l e R s m args below meth c H locs cells slots (vx_MQ below Qc XC args s mc ms free) (F0 m pc ls rest) q := by
  intro T hT X
  have hpl : e.platform.magicAccessors = ({} : Platform).magicAccessors := by rw [X.admits.platform]
  obtain ⟨vm', hW', X', st⟩ := X.outThrough hlocks q (g := F0 m pc ls rest) rfl rfl rfl (cell := ce) (by rw [hT]; exact hcell) (by rw [hv]; rfl)
    (by obtain ⟨k9, h9, -⟩ := Vm.findClass_spec hcl; exact ⟨k9, h9⟩) (fun z hz => by
      rcases hpass z hz with h | ⟨hz0, nm, hl1, hn1⟩
      · exact Or.inl h
      · obtain ⟨c6, hc6, hcl6⟩ := Cond.classLink_spec hown hl1 e.platform hpl
        obtain ⟨a8, b8, h1, h2, h3⟩ := hn1
        cases Option.some.inj (h1.symm.trans hcl)
        cases Option.some.inj (h2.symm.trans hc6)
        exact Or.inr ⟨hz0, _, hcl6, h3⟩)
  obtain ⟨g₀, hfr⟩ := X'.frames_eq
  have hcell9 : ((T.setVm vm').setFrames (.throwing q :: below)).heap[q]? = some ce := by
    show T.heap[q]? = some ce
    rw [hT]; exact hcell
  have hend : Ended ((T.setVm vm').setFrames (.throwing q :: below)) below (.threw q) := State.frames_setFrames _ (State.cur_lt_of_frames hfr)
  refine ⟨(T.setVm vm').setFrames (.throwing q :: below), ?_, .threw q, X'.here.running, hend, Or.inr ⟨q, rfl, E, ce, locs, hx _ hT (X'.ends _).1.alike, hcell9, hv, hcl, (X'.ends _).1, (X'.ends _).2.mono hc hs, hf⟩⟩
  rw [X.pushThrowing_eq]
  exact st
/-- a thing of a world lies in the heap -/
theorem vx_lt {D : va_G} {cl : List vw_C} {ws : va_W} {H1 : Heap} (h : va_P D cl ws H1) {k : Nat} {q : Nat × va_E} (hk : ws[k]? = some q) : q.1 < H1.size := (h k q hk).lt
end VXS
/-! ===== END ===== -/
/-! ===== BEGIN methods with a table of their own: called by a name, returning or throwing ===== -/
section VXH
/-! vx_backW, vx_callVX, vx_callSX, vx_callVW, vx_runVW, vx_runVX, vx_runSX, vx_ofWH follow the same proofs as their sisters above (Free/Laws.lean, Shelf42/LK1.lean); vx_outP calls Shelf42/NT130.lean (outThrough). -/
section
variable {l : Launch} {R : Room} {p : Program} {e : Env} {below : List Frame} {s : State} {sargs : Array Value} {y : MethodName} {len W9 : Nat}
theorem vx_backW {ws : List Cond} {rm : Room} {Pc : Array Value → State → Prop} {Qc : Array Value → State → Outcome → State → Prop} {XC : String → State → State → Prop} {mc ms : Nat} {free : Addr → Prop} {bytes : ByteArray} {maxL : Nat} {ret : Option FieldType} {hh : List (Nat × Nat × Nat × Nat)}
    (hM : vx_Met l y ws rm Pc Qc XC mc ms free) (hblind : FrameBlind Pc) (hrc : rm.cells = mc) (hrs : rm.slots = ms)
    (hframes : rm.frames + 1 ≤ R.frames) (hlocals : W9 + (maxL + 11) + rm.locals ≤ R.locals)
    (hws : ∀ w ∈ ws, ∀ a' U, s.WarmedH U.vm → w.before a' U = true) (hcode : Cond.codeWith y bytes maxL ret hh ∈ ws) (hinit : ∀ a' U, s.WarmedH U.vm → (Cond.initialized y.cls).before a' U = true) :
    vx_Back l R p e below s sargs y len W9 (PreOf R mc ms Pc) (PostOf Qc mc ms free) (vx_Post XC mc ms free) := by
  intro m meth c A g ig mk a X hg hsize hdg hW hn hp
  have h1 : (headSpec ws rm).pre.before a A.U = true := atoms_intro fun w hw => hws w hw _ _ X.warmed
  have h2 : (Cond.codeWith y bytes maxL ret hh).before a A.U = true := hws _ hcode _ _ X.warmed
  have h3 : (Cond.initialized y.cls).before a A.U = true := hinit _ _ X.warmed
  have h4 : A.cells + (headSpec ws rm).room.cells ≤ R.cells := by rw [show (headSpec ws rm).room.cells = mc from hrc]; exact hp.1
  have h5 : A.slots + (headSpec ws rm).room.slots ≤ R.slots := by rw [show (headSpec ws rm).room.slots = ms from hrs]; exact hp.2.1
  have hPc : Pc a (A.U.calling g mk a) := hblind _ _ _ _ hp.2.2
  obtain ⟨U, Ls, c0, s0⟩ := A
  dsimp only [Pt.U, Pt.locs, Pt.cells, Pt.slots] at h1 h2 h3 h4 h5 X hn hPc ⊢
  obtain ⟨m9, methY, cY, hn9, hmY, hcY, -, hlY, -⟩ := Cond.codeWith_spec h2
  cases Option.some.inj (hn9.symm.trans hn)
  obtain ⟨kY, hkY, -⟩ := className_of_methodNamed hn
  have hinitY : kY.init = .initialized := Cond.initialized_spec (findClass_of_methodNamed hn) hkY h3
  have h : At U g.method c below := by rw [hg]; exact X.here
  have hlocals9 : W9 + (maxL + 11) + (headSpec ws rm).room.locals ≤ R.locals := hlocals
  have happ : (headSpec ws rm).appliesLoose y e.platform (U.calling g mk a) = true :=
    Spec.appliesLoose_calling (g := g) h hdg hn hkY hinitY
      (X.room_calling (g := g) (R' := (headSpec ws rm).room) hsize hmY hcY hframes (by rw [hlY]; omega) h4 h5) h1
  obtain ⟨mid, hmid⟩ := h.above
  have hfr : (U.setTop g).frames = (.java g :: mid) ++ below := by rw [State.frames_setTop' g h.top, hmid]; rfl
  obtain ⟨o, s₂, hsteps, -, hend, hq⟩ := Steps.callFree hM p X.admits X.cas X.clock (acts := []) hfr happ hPc trivial
  have hq' : vx_Q Qc XC mc ms free a (U.calling g mk a) o s₂ := hq
  rw [State.frames_setTop' g h.top] at hend
  obtain ⟨g₀, hg0⟩ := Option.isSome_iff_exists.mp h.top
  obtain ⟨r, hr⟩ := State.topJava?_eq_some.mp hg0
  have hr' : (({ U with heap := s₂.heap, slotsUsed := s₂.slotsUsed } : State).setVm s₂.vm).frames = .java g₀ :: r := hr
  rcases hq' with ⟨hqc, L, hfe, hL⟩ | ⟨q, rfl, E, ce, L, hx, hce, hcv, hcl, hW₂, hsm, hL⟩
  · obtain ⟨⟨v, rfl⟩, hW₂, e2, q2, q3, q4, q5, q6⟩ := id hfe
    have e3 : s₂ = ({ (U.calling g mk a).setFrames s₂.frames with heap := s₂.heap, slotsUsed := s₂.slotsUsed } : State).setVm s₂.vm := by
      have : s₂ = ({ s₂ with vm := (U.calling g mk a).vm } : State).setVm s₂.vm := rfl
      rw [e2] at this
      exact this
    obtain ⟨c₂, i₂, len₂, hc₂, hd₂, hf₂⟩ := hend
    have hW' : U.WarmedH s₂.vm := hW₂
    have hcc : c₂ = c := by
      have h1 : s₂.code? g.method = U.code? g.method := by
        rw [State.code?_eq, State.code?_eq, hW'.alike.method?]
      exact Option.some.inj (hc₂.symm.trans (h1.trans h.code))
    subst hcc
    have hlen : len₂ = len := by rw [hdg] at hd₂; cases hd₂; rfl
    subst hlen
    have hs₂ : s₂ = (({ U with heap := s₂.heap, slotsUsed := s₂.slotsUsed } : State).setVm s₂.vm).setTop { g with pc := g.pc + len₂, stack := v.toList ++ g.stack } := by
      refine e3.trans ?_
      rw [hf₂, State.calling_eq h.top, State.setFrames_setFrames, State.setTop_of_frames _ hr', hr]
      rfl
    have hsame : U.sameButNew ({ U with heap := s₂.heap, slotsUsed := s₂.slotsUsed } : State) L mc ms := by
      refine ⟨?_, q2, q3, q4, q5, q6⟩
      obtain ⟨t, ht, -⟩ := State.frames_cons hr
      show ({ U with heap := s₂.heap, slotsUsed := s₂.slotsUsed } : State) = { U.setFrames U.frames with heap := s₂.heap, slotsUsed := s₂.slotsUsed }
      rw [State.setFrames_self ht]
    subst hg
    refine Or.inl ⟨v, ⟨(({ U with heap := s₂.heap, slotsUsed := s₂.slotsUsed } : State).setVm s₂.vm), Ls ++ L, c0 + mc, s0 + ms⟩,
      ⟨X.admits, X.cas, X.clock, X.frames, X.room, X.hears, X.method, X.code, (X.here.setHeapUsed s₂.heap s₂.slotsUsed).setVm hW'.alike, X.tail, State.WarmedH.trans X.warmed hW', X.limits, X.bytes, X.same.trans (hsame.setVm s.vm)⟩,
      ⟨g, mk, s₂, L, rfl, rfl, hqc, rfl, hL, rfl, rfl⟩, ?_⟩
    show Steps p.tables e below _ ((({ U with heap := s₂.heap, slotsUsed := s₂.slotsUsed } : State).setVm s₂.vm).setTop { g with pc := g.pc + len₂, stack := v.toList ++ g.stack })
    rw [← hs₂]
    exact hsteps
  · obtain ⟨e2, q2, q3, q4, q5, q6⟩ := id hsm
    have e3 : s₂ = ({ (U.calling g mk a).setFrames s₂.frames with heap := s₂.heap, slotsUsed := s₂.slotsUsed } : State).setVm s₂.vm := by
      have : s₂ = ({ s₂ with vm := (U.calling g mk a).vm } : State).setVm s₂.vm := rfl
      rw [e2] at this
      exact this
    have hf₂ : s₂.frames = .throwing q :: .java g :: U.frames.tail := hend
    have hW' : U.WarmedH s₂.vm := hW₂
    have hs₂ : s₂ = ((({ U with heap := s₂.heap, slotsUsed := s₂.slotsUsed } : State).setVm s₂.vm).setTop g).pushFrame (.throwing q) := by
      refine e3.trans ?_
      rw [hf₂, State.calling_eq h.top, State.setFrames_setFrames, State.pushFrame, State.frames_setTop _ hr', State.setTop_of_frames _ hr', State.setFrames_setFrames, hr]
      rfl
    have hsame : U.sameButNew ({ U with heap := s₂.heap, slotsUsed := s₂.slotsUsed } : State) L mc ms := by
      refine ⟨?_, q2, q3, q4, q5, q6⟩
      obtain ⟨t, ht, -⟩ := State.frames_cons hr
      show ({ U with heap := s₂.heap, slotsUsed := s₂.slotsUsed } : State) = { U.setFrames U.frames with heap := s₂.heap, slotsUsed := s₂.slotsUsed }
      rw [State.setFrames_self ht]
    subst hg
    refine Or.inr ⟨q, ⟨(({ U with heap := s₂.heap, slotsUsed := s₂.slotsUsed } : State).setVm s₂.vm), Ls ++ L, c0 + mc, s0 + ms⟩,
      ⟨X.admits, X.cas, X.clock, X.frames, X.room, X.hears, X.method, X.code, (X.here.setHeapUsed s₂.heap s₂.slotsUsed).setVm hW'.alike, X.tail, State.WarmedH.trans X.warmed hW', X.limits, X.bytes, X.same.trans (hsame.setVm s.vm)⟩,
      ⟨g, mk, s₂, L, E, ce, rfl, rfl, hx, hce, hcv, hcl, rfl, hL, rfl, rfl⟩, ?_⟩
    show Steps p.tables e below _ (((({ U with heap := s₂.heap, slotsUsed := s₂.slotsUsed } : State).setVm s₂.vm).setTop g).pushFrame (.throwing q))
    rw [← hs₂]
    exact hsteps
end
variable {p : Program} {l : Launch} {e : Env} {R : Room} {s : State} {m : MethodId} {args : Array Value} {below : List Frame} {meth : Method} {c : Code} {T : State} {H : Heap} {locs : List Loc} {cells slots : Nat}
theorem vx_callVX (X : Stand p l e R s m args below meth c T locs cells slots) (hexec : p.tables.exec = Jvm.exec) {own C : String} {index : Nat} {y : MethodName} {bytes : ByteArray} {maxL : Nat} {ret : Option FieldType} {hh : List (Nat × Nat × Nat × Nat)}
    (hown : s.vm.findClass own = some m.cls) (hlink : (Cond.methodLink own index y).before args s = true) (hinst : (Cond.instanceMethod y).before args s = true) (hsel : (Cond.selects C y y).before args s = true)
    (hcode : (Cond.codeWith y bytes maxL ret hh).before args s = true) (hy : y.cls ≠ "java/lang/invoke/MethodHandle" ∧ y.cls ≠ "java/lang/invoke/VarHandle")
    {W9 : Nat} {Pre : Pt → Array Value → Prop} {Post : Pt → Array Value → Option Value → Pt → Prop} {PostX : Pt → Array Value → Addr → Pt → Prop} (hK : vx_Back l R p e below s args y 3 W9 Pre Post PostX)
    {b : Addr} {cellB : Cell} (hcell : T.heap[b]? = some cellB) (hobj : cellB.vm.isStatics = false) (hcls : s.vm.findClass C = some cellB.cls)
    {g : JFrame} (hg : g.method = m) (hsize : g.locals.size = c.maxLocals) {argsL rest : List Value} (hlen : ∀ sig, parseMethodDescriptor y.desc = some sig → argsL.length = sig.parameters.length)
    (hstack : g.stack = argsL.reverse ++ .ref b :: rest) (hW : 2 * g.monitorRoom + (rest.map fun v => v.category).sum ≤ W9) (hdg : decode c.code g.pc = .ok (.invokevirtual index, 3))
    (hpre : ∀ vm₁, s.WarmedH vm₁ → Pre ⟨T.setVm vm₁, locs, cells, slots⟩ (Value.ref b :: argsL).toArray) :
    (∃ (v : Option Value) (vm₁ : Vm) (B : Pt), s.WarmedH vm₁ ∧ Stand p l e R s m args below meth c B.U B.locs B.cells B.slots ∧ Post ⟨T.setVm vm₁, locs, cells, slots⟩ (Value.ref b :: argsL).toArray v B ∧
      ∀ target, Steps p.tables e below (B.U.setTop { g with pc := g.pc + 3, stack := v.toList ++ rest }) target → Steps p.tables e below (T.setTop g) target) ∨
    (∃ (q : Addr) (vm₁ : Vm) (B : Pt), s.WarmedH vm₁ ∧ Stand p l e R s m args below meth c B.U B.locs B.cells B.slots ∧ PostX ⟨T.setVm vm₁, locs, cells, slots⟩ (Value.ref b :: argsL).toArray q B ∧
      Steps p.tables e below (T.setTop g) ((B.U.setTop { g with stack := rest }).pushFrame (.throwing q))) := by
  obtain ⟨mk, methM, hnamed, hmethM, hstM, habM⟩ := Cond.instanceMethod_spec hinst
  obtain ⟨m8, methM', cM, hn8, hmethM', -, -, -, -, -, -, hsigM⟩ := Cond.codeWith_spec hcode
  cases Option.some.inj (hn8.symm.trans hnamed)
  cases hmethM.symm.trans hmethM'
  obtain ⟨c2, r2, m2, q1, q2, q3, q4, kP, hkP, hkPi⟩ := Cond.selects_spec hsel
  cases hcls.symm.trans q1
  cases (State.methodFound?_of_named hnamed hy).symm.trans q2
  cases hnamed.symm.trans q3
  have hselP : selectMethod e.platform s.vm cellB.cls mk = .method mk := by rw [Launch.admits_selectMethod X.admits]; exact q4
  obtain ⟨vm₁, X₁, hstep₁⟩ := X.invokevirtual hexec hown hlink hnamed hmethM hstM hkP hkPi hy (a := b) (cell := cellB) hcell
    (fun z h => by rw [h] at hobj; cases hobj) hselP hmethM habM hkP hkPi (g := g) hg (argsL := argsL) (rest := rest) (hlen _ hsigM) hstack hdg
  rcases hK m meth c ⟨T.setVm vm₁, locs, cells, slots⟩ { g with stack := rest } (.invokevirtual index) mk (Value.ref b :: argsL).toArray X₁ hg hsize hdg hW (X₁.named hnamed) (hpre vm₁ X₁.warmed) with ⟨v, B, X', hpost, hsteps⟩ | ⟨q, B, X', hpost, hsteps⟩
  · exact Or.inl ⟨v, vm₁, B, X₁.warmed, X', hpost, fun target h => hstep₁ _ fun acts => by rw [doInvoke_state]; exact hsteps.trans h⟩
  · exact Or.inr ⟨q, vm₁, B, X₁.warmed, X', hpost, hstep₁ _ fun acts => by rw [doInvoke_state]; exact hsteps⟩
theorem vx_callSX (X : Stand p l e R s m args below meth c T locs cells slots) (hexec : p.tables.exec = Jvm.exec) {own : String} {index : Nat} {y : MethodName} {bytes : ByteArray} {maxL : Nat} {ret : Option FieldType} {hh : List (Nat × Nat × Nat × Nat)}
    (hown : s.vm.findClass own = some m.cls) (hlink : (Cond.methodLink own index y).before args s = true) (hstat : (Cond.static y).before args s = true) (hinit : (Cond.initialized y.cls).before args s = true)
    (hcode : (Cond.codeWith y bytes maxL ret hh).before args s = true) (hy : y.cls ≠ "java/lang/invoke/MethodHandle" ∧ y.cls ≠ "java/lang/invoke/VarHandle")
    {W9 : Nat} {Pre : Pt → Array Value → Prop} {Post : Pt → Array Value → Option Value → Pt → Prop} {PostX : Pt → Array Value → Addr → Pt → Prop} (hK : vx_Back l R p e below s args y 3 W9 Pre Post PostX)
    {g : JFrame} (hg : g.method = m) (hsize : g.locals.size = c.maxLocals) {argsL rest : List Value} (hlen : ∀ sig, parseMethodDescriptor y.desc = some sig → argsL.length = sig.parameters.length)
    (hstack : g.stack = argsL.reverse ++ rest) (hW : 2 * g.monitorRoom + (rest.map fun v => v.category).sum ≤ W9) (hdg : decode c.code g.pc = .ok (.invokestatic index, 3))
    (hpre : ∀ vm₁, s.WarmedH vm₁ → Pre ⟨T.setVm vm₁, locs, cells, slots⟩ argsL.toArray) :
    (∃ (v : Option Value) (vm₁ : Vm) (B : Pt), s.WarmedH vm₁ ∧ Stand p l e R s m args below meth c B.U B.locs B.cells B.slots ∧ Post ⟨T.setVm vm₁, locs, cells, slots⟩ argsL.toArray v B ∧
      ∀ target, Steps p.tables e below (B.U.setTop { g with pc := g.pc + 3, stack := v.toList ++ rest }) target → Steps p.tables e below (T.setTop g) target) ∨
    (∃ (q : Addr) (vm₁ : Vm) (B : Pt), s.WarmedH vm₁ ∧ Stand p l e R s m args below meth c B.U B.locs B.cells B.slots ∧ PostX ⟨T.setVm vm₁, locs, cells, slots⟩ argsL.toArray q B ∧
      Steps p.tables e below (T.setTop g) ((B.U.setTop { g with stack := rest }).pushFrame (.throwing q))) := by
  obtain ⟨mk, methM, cM, hnamed, hmethM, -, -, -, -, -, -, hsigM⟩ := Cond.codeWith_spec hcode
  have hstatic : methM.isStatic = true := Cond.static_spec hnamed hmethM hstat
  obtain ⟨kP, hkP, -⟩ := className_of_methodNamed hnamed
  have hinitP : kP.init = .initialized := Cond.initialized_spec (findClass_of_methodNamed hnamed) hkP hinit
  obtain ⟨vm₁, X₁, hstep₁⟩ := X.invokestatic hexec hown hlink hnamed hmethM hstatic hkP hinitP hy (g := g) hg (argsL := argsL) (rest := rest) (hlen _ hsigM) hstack hdg
  rcases hK m meth c ⟨T.setVm vm₁, locs, cells, slots⟩ { g with stack := rest } (.invokestatic index) mk argsL.toArray X₁ hg hsize hdg hW (X₁.named hnamed) (hpre vm₁ X₁.warmed) with ⟨v, B, X', hpost, hsteps⟩ | ⟨q, B, X', hpost, hsteps⟩
  · exact Or.inl ⟨v, vm₁, B, X₁.warmed, X', hpost, fun target h => hstep₁ _ fun acts => by rw [doInvoke_state]; exact hsteps.trans h⟩
  · exact Or.inr ⟨q, vm₁, B, X₁.warmed, X', hpost, hstep₁ _ fun acts => by rw [doInvoke_state]; exact hsteps⟩
theorem vx_callVW (X : Stand p l e R s m args below meth c T locs cells slots) (hexec : p.tables.exec = Jvm.exec) {own C : String} {index : Nat} {y : MethodName} {bytes : ByteArray} {maxL : Nat} {ret : Option FieldType} {hh : List (Nat × Nat × Nat × Nat)}
    (hown : s.vm.findClass own = some m.cls) (hlink : (Cond.methodLink own index y).before args s = true) (hinst : (Cond.instanceMethod y).before args s = true) (hsel : (Cond.selects C y y).before args s = true)
    (hcode : (Cond.codeWith y bytes maxL ret hh).before args s = true) (hy : y.cls ≠ "java/lang/invoke/MethodHandle" ∧ y.cls ≠ "java/lang/invoke/VarHandle")
    {W9 : Nat} {Pre : Pt → Array Value → Prop} {Post : Pt → Array Value → Option Value → Pt → Prop} (hK : Back l R p e below s args y 3 W9 Pre Post)
    {b : Addr} {cellB : Cell} (hcell : T.heap[b]? = some cellB) (hobj : cellB.vm.isStatics = false) (hcls : s.vm.findClass C = some cellB.cls)
    {g : JFrame} (hg : g.method = m) (hsize : g.locals.size = c.maxLocals) {argsL rest : List Value} (hlen : ∀ sig, parseMethodDescriptor y.desc = some sig → argsL.length = sig.parameters.length)
    (hstack : g.stack = argsL.reverse ++ .ref b :: rest) (hW : 2 * g.monitorRoom + (rest.map fun v => v.category).sum ≤ W9) (hdg : decode c.code g.pc = .ok (.invokevirtual index, 3))
    (hpre : ∀ vm₁, s.WarmedH vm₁ → Pre ⟨T.setVm vm₁, locs, cells, slots⟩ (Value.ref b :: argsL).toArray) :
    ∃ (v : Option Value) (vm₁ : Vm) (B : Pt), s.WarmedH vm₁ ∧ Stand p l e R s m args below meth c B.U B.locs B.cells B.slots ∧ Post ⟨T.setVm vm₁, locs, cells, slots⟩ (Value.ref b :: argsL).toArray v B ∧
      ∀ target, Steps p.tables e below (B.U.setTop { g with pc := g.pc + 3, stack := v.toList ++ rest }) target → Steps p.tables e below (T.setTop g) target := by
  obtain ⟨mk, methM, hnamed, hmethM, hstM, habM⟩ := Cond.instanceMethod_spec hinst
  obtain ⟨m8, methM', cM, hn8, hmethM', -, -, -, -, -, -, hsigM⟩ := Cond.codeWith_spec hcode
  cases Option.some.inj (hn8.symm.trans hnamed)
  cases hmethM.symm.trans hmethM'
  obtain ⟨c2, r2, m2, q1, q2, q3, q4, kP, hkP, hkPi⟩ := Cond.selects_spec hsel
  cases hcls.symm.trans q1
  cases (State.methodFound?_of_named hnamed hy).symm.trans q2
  cases hnamed.symm.trans q3
  have hselP : selectMethod e.platform s.vm cellB.cls mk = .method mk := by rw [Launch.admits_selectMethod X.admits]; exact q4
  obtain ⟨vm₁, X₁, hstep₁⟩ := X.invokevirtual hexec hown hlink hnamed hmethM hstM hkP hkPi hy (a := b) (cell := cellB) hcell
    (fun z h => by rw [h] at hobj; cases hobj) hselP hmethM habM hkP hkPi (g := g) hg (argsL := argsL) (rest := rest) (hlen _ hsigM) hstack hdg
  obtain ⟨v, B, X', hpost, hsteps⟩ := hK m meth c ⟨T.setVm vm₁, locs, cells, slots⟩ { g with stack := rest } (.invokevirtual index) mk (Value.ref b :: argsL).toArray X₁ hg hsize hdg hW (X₁.named hnamed) (hpre vm₁ X₁.warmed)
  exact ⟨v, vm₁, B, X₁.warmed, X', hpost, fun target h => hstep₁ _ fun acts => by rw [doInvoke_state]; exact hsteps.trans h⟩
abbrev vx_CVW (R : Room) (s : State) (args : Array Value) (own C : String) (index : Nat) (y : MethodName) (bytes : ByteArray) (maxL : Nat) (ret : Option FieldType) (hh : List (Nat × Nat × Nat × Nat)) (ws : List Cond) (rm : Room) (mc ms n : Nat) : Prop :=
  (rm.cells = mc ∧ rm.slots = ms ∧ rm.frames + 1 ≤ R.frames ∧ 8 + (maxL + 11) + rm.locals ≤ R.locals ∧ (∀ w ∈ ws, ∀ (a' : Array Value) (U : State), s.WarmedH U.vm → w.before a' U = true) ∧ Cond.codeWith y bytes maxL ret hh ∈ ws) ∧
  (Cond.codeWith y bytes maxL ret hh).before args s = true ∧ (Cond.initialized y.cls).before args s = true ∧ (y.cls ≠ "java/lang/invoke/MethodHandle" ∧ y.cls ≠ "java/lang/invoke/VarHandle") ∧
  (∀ sig, parseMethodDescriptor y.desc = some sig → n = sig.parameters.length) ∧ (Cond.methodLink own index y).before args s = true ∧ (Cond.instanceMethod y).before args s = true ∧ (Cond.selects C y y).before args s = true
theorem vx_cwVW {own C : String} {index maxL mc ms : Nat} {y : MethodName} {bytes : ByteArray} {ret : Option FieldType} {hh : List (Nat × Nat × Nat × Nat)} {Ts ws ws' : List Cond} {rm : Room} (n : Nat) (ht : ∀ w ∈ Ts, w.before args s = true) (hT : GoodIn Ts (wsV own index C y ws)) (hw : ws = Cond.codeWith y bytes maxL ret hh :: ws') (hrc : rm.cells = mc) (hrs : rm.slots = ms)
    (hd : y.cls = C ∧ y.cls ≠ "java/lang/invoke/MethodHandle" ∧ y.cls ≠ "java/lang/invoke/VarHandle" ∧ (parseMethodDescriptor y.desc).map (fun d => d.parameters.length) = some n) (hR : rm.frames + 1 ≤ R.frames ∧ 8 + (maxL + 11) + rm.locals ≤ R.locals) :
    vx_CVW R s args own C index y bytes maxL ret hh ws rm mc ms n := by
  obtain ⟨hC, hd⟩ := hd
  subst hC
  have ok : ∀ w ∈ wsV own index y.cls y ws, w.before args s = true := fun w h => ht w (hT w h).1
  have hG : GoodIn Ts ws := fun w h => hT w (by unfold wsV; exact List.mem_append_right _ h)
  have hc : Cond.codeWith y bytes maxL ret hh ∈ ws := by rw [hw]; exact List.mem_cons_self
  refine ⟨⟨hrc, hrs, hR.1, hR.2, pay_in ht hG, hc⟩, ht _ (hG _ hc).1, ok _ (by simp [wsV]), ⟨hd.1, hd.2.1⟩, fun sig h => ?_, ok _ (by simp [wsV]), ok _ (by simp [wsV]), ok _ (by simp [wsV])⟩
  have h2 := hd.2.2
  rw [h] at h2
  exact (Option.some.inj h2).symm
theorem vx_runVW {y : MethodName} {bytes cc : ByteArray} {maxL nL mc ms n index : Nat} {ret : Option FieldType} {hh : List (Nat × Nat × Nat × Nat)} {ws : List Cond} {rm : Room} {Pc : Array Value → State → Prop} {Qc : Array Value → State → Outcome → State → Prop} {free : Addr → Prop} {Ts : List Cond} {own C : String} {b : Addr} {As rest : List Value} {g : JFrame}
    (S : CallFix p m c cc nL s args Ts own) (hM : Met l y ws rm Pc Qc mc ms free) (cw : vx_CVW R s args own C index y bytes maxL ret hh ws rm mc ms n) (hp : PreV s H C b Pc As)
    (hg : g.method = m) (hn : As.length = n) (hsize : g.locals.size = nL) (hstack : g.stack = As.reverse ++ .ref b :: rest) (hW : 2 * g.monitorRoom + (rest.map fun v => v.category).sum ≤ 8) (hdg : decode cc g.pc = .ok (.invokevirtual index, 3)) (hf : cells + mc ≤ R.cells ∧ slots + ms ≤ R.slots) :
    va_Run p l e R s m args below meth c H locs cells slots mc ms g rest (Qc (Value.ref b :: As).toArray) free := by
  obtain ⟨⟨hrc, hrs, hfr, hlo, hws, hcw⟩, hcode, hini, hy, hlen, hl, hin, hse⟩ := cw
  have hK : Back l R p e below s args y 3 8 (PreOf R mc ms Pc) (PostOf Qc mc ms free) := va_backW (hh := hh) (bytes := bytes) (maxL := maxL) (ret := ret) hM hp.1 hrc hrs hfr hlo hws hcw (fun a' U hW => word_at hW (Or.inl (by first | rfl | simp [Cond.onTables, Cond.keeps, Cond.steady])) hini)
  obtain ⟨hx, hb, hml, ho, -⟩ := S
  obtain ⟨-, ⟨cellB, hcB, hoB, hclB⟩, hPc⟩ := hp
  intro T hT X
  obtain ⟨v, vm₁, ⟨U', l2, c2, s2⟩, hW₁, X', ⟨g', mk, t, L, e1, e2, hq, h1, hL, h2, h3⟩, st⟩ := vx_callVW X hx (C := C) (hh := hh) (bytes := bytes) (maxL := maxL) (ret := ret) ho hl hin hse hcode hy hK (by rw [hT]; exact hcB) hoB hclB hg (hsize.trans hml.symm) (argsL := As) (rest := rest) (fun sig h => hn.trans (hlen sig h)) hstack hW (by rw [hb]; exact hdg)
    (fun vm₁ hW₁ => ⟨hf.1, hf.2, hPc (T.setVm vm₁) hT hW₁⟩)
  dsimp only [Pt.U, Pt.locs, Pt.cells, Pt.slots] at X' e1 e2 h1 h2 h3 st
  subst h1; subst h2; subst h3
  exact ⟨v, (T.setVm vm₁).calling g' mk (Value.ref b :: As).toArray, t, U', L, hT, X', hL, e1, e2, hq, st⟩
section
variable {y : MethodName} {bytes cc : ByteArray} {maxL nL mc ms n index : Nat} {ret : Option FieldType} {ws : List Cond} {rm : Room} {Pc : Array Value → State → Prop} {Qc : Array Value → State → Outcome → State → Prop} {XC : String → State → State → Prop} {free : Addr → Prop} {Ts : List Cond} {own C : String} {b : Addr} {As rest : List Value} {g : JFrame}
theorem vx_runVX {hh : List (Nat × Nat × Nat × Nat)} (S : CallFix p m c cc nL s args Ts own) (hM : vx_Met l y ws rm Pc Qc XC mc ms free) (cw : vx_CVW R s args own C index y bytes maxL ret hh ws rm mc ms n) (hp : PreV s H C b Pc As)
    (hg : g.method = m) (hn : As.length = n) (hsize : g.locals.size = nL) (hstack : g.stack = As.reverse ++ .ref b :: rest) (hW : 2 * g.monitorRoom + (rest.map fun v => v.category).sum ≤ 8) (hdg : decode cc g.pc = .ok (.invokevirtual index, 3)) (hf : cells + mc ≤ R.cells ∧ slots + ms ≤ R.slots) :
    vx_Run p l e R s m args below meth c H locs cells slots mc ms g rest (Qc (Value.ref b :: As).toArray) XC free := by
  obtain ⟨⟨hrc, hrs, hfr, hlo, hws, hcw⟩, hcode, hini, hy, hlen, hl, hin, hse⟩ := cw
  have hK : vx_Back l R p e below s args y 3 8 (PreOf R mc ms Pc) (PostOf Qc mc ms free) (vx_Post XC mc ms free) := vx_backW (hh := hh) (bytes := bytes) (maxL := maxL) (ret := ret) hM hp.1 hrc hrs hfr hlo hws hcw (fun a' U hW => word_at hW (Or.inl (by first | rfl | simp [Cond.onTables, Cond.keeps, Cond.steady])) hini)
  obtain ⟨hx, hb, hml, ho, -⟩ := S
  obtain ⟨-, ⟨cellB, hcB, hoB, hclB⟩, hPc⟩ := hp
  intro T hT X
  rcases vx_callVX X hx (C := C) (hh := hh) (bytes := bytes) (maxL := maxL) (ret := ret) ho hl hin hse hcode hy hK (by rw [hT]; exact hcB) hoB hclB hg (hsize.trans hml.symm) (argsL := As) (rest := rest) (fun sig h => hn.trans (hlen sig h)) hstack hW (by rw [hb]; exact hdg)
    (fun vm₁ hW₁ => ⟨hf.1, hf.2, hPc (T.setVm vm₁) hT hW₁⟩) with ⟨v, vm₁, ⟨U', l2, c2, s2⟩, hW₁, X', ⟨g', mk, t, L, e1, e2, hq, h1, hL, h2, h3⟩, st⟩ | ⟨q, vm₁, ⟨U', l2, c2, s2⟩, hW₁, X', ⟨g', mk, t, L, E, ce, e1, e2, hq, hce, hcv, hcl, h1, hL, h2, h3⟩, st⟩
  · dsimp only [Pt.U, Pt.locs, Pt.cells, Pt.slots] at X' e1 e2 h1 h2 h3 st
    subst h1; subst h2; subst h3
    exact Or.inl ⟨v, (T.setVm vm₁).calling g' mk (Value.ref b :: As).toArray, t, U', L, hT, X', hL, e1, e2, hq, st⟩
  · dsimp only [Pt.U, Pt.locs, Pt.cells, Pt.slots] at X' e1 e2 h1 h2 h3 st hcl
    subst h1; subst h2; subst h3
    exact Or.inr ⟨q, (T.setVm vm₁).calling g' mk (Value.ref b :: As).toArray, t, U', L, E, ce, hT, X', hL, e1, e2, hq, hce, hcv, vx_cls hW₁ hcl, st⟩
theorem vx_runSX {hh : List (Nat × Nat × Nat × Nat)} (S : CallFix p m c cc nL s args Ts own) (hM : vx_Met l y ws rm Pc Qc XC mc ms free) (cw : vx_CSW R s args own index y bytes maxL ret hh ws rm mc ms n) (hp : PreS s H Pc As)
    (hg : g.method = m) (hn : As.length = n) (hsize : g.locals.size = nL) (hstack : g.stack = As.reverse ++ rest) (hW : 2 * g.monitorRoom + (rest.map fun v => v.category).sum ≤ 8) (hdg : decode cc g.pc = .ok (.invokestatic index, 3)) (hf : cells + mc ≤ R.cells ∧ slots + ms ≤ R.slots) :
    vx_Run p l e R s m args below meth c H locs cells slots mc ms g rest (Qc As.toArray) XC free := by
  obtain ⟨⟨hrc, hrs, hfr, hlo, hws, hcw⟩, hcode, hini, hy, hlen, hl, hstt⟩ := cw
  have hK : vx_Back l R p e below s args y 3 8 (PreOf R mc ms Pc) (PostOf Qc mc ms free) (vx_Post XC mc ms free) := vx_backW (hh := hh) (bytes := bytes) (maxL := maxL) (ret := ret) hM hp.1 hrc hrs hfr hlo hws hcw (fun a' U hW => word_at hW (Or.inl (by first | rfl | simp [Cond.onTables, Cond.keeps, Cond.steady])) hini)
  obtain ⟨hx, hb, hml, ho, -⟩ := S
  intro T hT X
  rcases vx_callSX X hx (hh := hh) (bytes := bytes) (maxL := maxL) (ret := ret) ho hl hstt hini hcode hy hK hg (hsize.trans hml.symm) (argsL := As) (rest := rest) (fun sig h => hn.trans (hlen sig h)) hstack hW (by rw [hb]; exact hdg)
    (fun vm₁ hW₁ => ⟨hf.1, hf.2, hp.2 (T.setVm vm₁) hT hW₁⟩) with ⟨v, vm₁, ⟨U', l2, c2, s2⟩, hW₁, X', ⟨g', mk, t, L, e1, e2, hq, h1, hL, h2, h3⟩, st⟩ | ⟨q, vm₁, ⟨U', l2, c2, s2⟩, hW₁, X', ⟨g', mk, t, L, E, ce, e1, e2, hq, hce, hcv, hcl, h1, hL, h2, h3⟩, st⟩
  · dsimp only [Pt.U, Pt.locs, Pt.cells, Pt.slots] at X' e1 e2 h1 h2 h3 st
    subst h1; subst h2; subst h3
    exact Or.inl ⟨v, (T.setVm vm₁).calling g' mk As.toArray, t, U', L, hT, X', hL, e1, e2, hq, st⟩
  · dsimp only [Pt.U, Pt.locs, Pt.cells, Pt.slots] at X' e1 e2 h1 h2 h3 st hcl
    subst h1; subst h2; subst h3
    exact Or.inr ⟨q, (T.setVm vm₁).calling g' mk As.toArray, t, U', L, E, ce, hT, X', hL, e1, e2, hq, hce, hcv, vx_cls hW₁ hcl, st⟩
end
end VXH
theorem vx_ofWH {l : Launch} {y : MethodName} {ws ws' : List Cond} {rm : Room} {Pc : Array Value → State → Prop} {Qc : Array Value → State → Outcome → State → Prop} {XC : String → State → State → Prop} {mc ms : Nat} {free : Addr → Prop} {cc : ByteArray} {maxL : Nat} {ret : Option FieldType} {hh : List (Nat × Nat × Nat × Nat)}
    (hy : plainName y.cls = true) (hw : ws = Cond.codeWith y cc maxL ret hh :: ws')
    (body : ∀ p e s m args below meth c s₁, BodyLoose p l y (headSpec ws rm) cc maxL ret e s m args below meth c s₁ → c.maxLocals = maxL → Pc args s →
      W p l e (headSpec ws rm).room s m args below meth c s.heap [] 0 0 (vx_MQ below Qc XC args s mc ms free) (entryFrame m args maxL)) : vx_Met l y ws rm Pc Qc XC mc ms free := by
  refine MetFree.of_bodyS (code := cc) (maxLocals := maxL) (ret := ret) hy ?_ ?_
  · intro args s m h hn
    obtain ⟨m9, meth, c, hn9, h1, h2, h3, h4, -, h5, h6, -⟩ := Cond.codeWith_spec (atoms_spec (ws := ws) h _ (by rw [hw]; exact List.mem_cons_self))
    cases hn.symm.trans hn9
    exact ⟨meth, c, h1, h2, h3, h4, h5, h6⟩
  · intro p e s m args below meth c s₁ B hml hP _
    have hh0 : s₁.heap = s.heap := by rw [B.state]; rfl
    obtain ⟨t, a1, o, b1, b2, b3⟩ := body p e s m args below meth c s₁ B hml hP s₁ hh0 (Stand.of_body B)
    exact ⟨t, o, a1, b1, b2, b3⟩
/-! ===== END ===== -/
end
section
/-! names: classes, fields in the order of the slots, types, methods and their codes -/
def R_C : String := "StoreyShapes"
def F_C : u_T := fun k => match k with
  | 0 => ("StoreyShapes", "storeys", "LStoreyShapes$Storeys;", true)
  | 1 => ("StoreyShapes", "types", "LStoreyShapes$Types;", true)
  | 2 => ("StoreyShapes", "walls", "LStoreyShapes$Walls;", true)
  | 3 => ("StoreyShapes", "openings", "LStoreyShapes$Openings;", true)
  | _ => ("StoreyShapes", "history", "LStoreyShapes$History;", true)
def ty_C : Nat → FieldType := fun k => match k with
  | 0 => (.object "StoreyShapes$Storeys")
  | 1 => (.object "StoreyShapes$Types")
  | 2 => (.object "StoreyShapes$Walls")
  | 3 => (.object "StoreyShapes$Openings")
  | _ => (.object "StoreyShapes$History")
def R_H : String := "StoreyShapes$History"
def F_H : u_T := fun k => match k with
  | 0 => ("StoreyShapes$History", "kinds", "[I", true)
  | 1 => ("StoreyShapes$History", "targets", "[I", true)
  | 2 => ("StoreyShapes$History", "firsts", "[I", true)
  | 3 => ("StoreyShapes$History", "seconds", "[I", true)
  | 4 => ("StoreyShapes$History", "done", "I", false)
  | _ => ("StoreyShapes$History", "held", "I", false)
def ty_H : Nat → FieldType := fun k => match k with
  | 0 => (.array .int)
  | 1 => (.array .int)
  | 2 => (.array .int)
  | 3 => (.array .int)
  | 4 => .int
  | _ => .int
def R_O : String := "StoreyShapes$Openings"
def F_O : u_T := fun k => match k with
  | 0 => ("StoreyShapes$Openings", "walls", "[I", true)
  | 1 => ("StoreyShapes$Openings", "starts", "[I", true)
  | 2 => ("StoreyShapes$Openings", "widths", "[I", true)
  | _ => ("StoreyShapes$Openings", "count", "I", false)
def ty_O : Nat → FieldType := fun k => match k with
  | 0 => (.array .int)
  | 1 => (.array .int)
  | 2 => (.array .int)
  | _ => .int
def R_S : String := "StoreyShapes$Storeys"
def F_S : u_T := fun k => match k with
  | 0 => ("StoreyShapes$Storeys", "levels", "[I", true)
  | _ => ("StoreyShapes$Storeys", "count", "I", false)
def ty_S : Nat → FieldType := fun k => match k with
  | 0 => (.array .int)
  | _ => .int
def R_T : String := "StoreyShapes$Types"
def F_T : u_T := fun k => match k with
  | 0 => ("StoreyShapes$Types", "thicknesses", "[I", true)
  | _ => ("StoreyShapes$Types", "count", "I", false)
def ty_T : Nat → FieldType := fun k => match k with
  | 0 => (.array .int)
  | _ => .int
def R_W : String := "StoreyShapes$Walls"
def F_W : u_T := fun k => match k with
  | 0 => ("StoreyShapes$Walls", "storeys", "[I", true)
  | 1 => ("StoreyShapes$Walls", "types", "[I", true)
  | 2 => ("StoreyShapes$Walls", "x0", "[I", true)
  | 3 => ("StoreyShapes$Walls", "y0", "[I", true)
  | 4 => ("StoreyShapes$Walls", "x1", "[I", true)
  | 5 => ("StoreyShapes$Walls", "y1", "[I", true)
  | 6 => ("StoreyShapes$Walls", "gone", "[Z", true)
  | _ => ("StoreyShapes$Walls", "count", "I", false)
def ty_W : Nat → FieldType := fun k => match k with
  | 0 => (.array .int)
  | 1 => (.array .int)
  | 2 => (.array .int)
  | 3 => (.array .int)
  | 4 => (.array .int)
  | 5 => (.array .int)
  | 6 => (.array .boolean)
  | _ => .int
def R_M : String := "StoreyShapesModel"
def F_M : u_T := fun k => match k with
  | 0 => ("StoreyShapesModel", "code", "I", false)
  | 1 => ("StoreyShapesModel", "acts", "[I", true)
  | 2 => ("StoreyShapesModel", "done", "I", false)
  | 3 => ("StoreyShapesModel", "undone", "I", false)
  | 4 => ("StoreyShapesModel", "storeys", "I", false)
  | 5 => ("StoreyShapesModel", "levels", "[I", true)
  | 6 => ("StoreyShapesModel", "types", "I", false)
  | 7 => ("StoreyShapesModel", "thick", "[I", true)
  | 8 => ("StoreyShapesModel", "walls", "I", false)
  | 9 => ("StoreyShapesModel", "storeyOf", "[I", true)
  | 10 => ("StoreyShapesModel", "typeOf", "[I", true)
  | 11 => ("StoreyShapesModel", "x0", "[I", true)
  | 12 => ("StoreyShapesModel", "y0", "[I", true)
  | 13 => ("StoreyShapesModel", "x1", "[I", true)
  | 14 => ("StoreyShapesModel", "y1", "[I", true)
  | 15 => ("StoreyShapesModel", "there", "[Z", true)
  | 16 => ("StoreyShapesModel", "openings", "I", false)
  | 17 => ("StoreyShapesModel", "wallOf", "[I", true)
  | 18 => ("StoreyShapesModel", "begin", "[I", true)
  | _ => ("StoreyShapesModel", "wide", "[I", true)
def ty_M : Nat → FieldType := fun k => match k with
  | 0 => .int
  | 1 => (.array .int)
  | 2 => .int
  | 3 => .int
  | 4 => .int
  | 5 => (.array .int)
  | 6 => .int
  | 7 => (.array .int)
  | 8 => .int
  | 9 => (.array .int)
  | 10 => (.array .int)
  | 11 => (.array .int)
  | 12 => (.array .int)
  | 13 => (.array .int)
  | 14 => (.array .int)
  | 15 => (.array .boolean)
  | 16 => .int
  | 17 => (.array .int)
  | 18 => (.array .int)
  | _ => (.array .int)
def R_L : String := "StoreyShapesLaw"
abbrev b_C_init : ByteArray := prog_1_method_1_code
def y_C_init : MethodName := ⟨R_C, "<init>", "()V"⟩
abbrev b_C_storey : ByteArray := prog_1_method_2_code
def y_C_storey : MethodName := ⟨R_C, "storey", "(I)I"⟩
abbrev b_C_level : ByteArray := prog_1_method_3_code
def y_C_level : MethodName := ⟨R_C, "level", "(II)V"⟩
abbrev b_C_type : ByteArray := prog_1_method_4_code
def y_C_type : MethodName := ⟨R_C, "type", "(I)I"⟩
abbrev b_C_thickness : ByteArray := prog_1_method_5_code
def y_C_thickness : MethodName := ⟨R_C, "thickness", "(II)V"⟩
abbrev b_C_wall : ByteArray := prog_1_method_6_code
def y_C_wall : MethodName := ⟨R_C, "wall", "(IIIIII)I"⟩
abbrev b_C_move : ByteArray := prog_1_method_7_code
def y_C_move : MethodName := ⟨R_C, "move", "(III)V"⟩
abbrev b_C_retype : ByteArray := prog_1_method_8_code
def y_C_retype : MethodName := ⟨R_C, "retype", "(II)V"⟩
abbrev b_C_remove : ByteArray := prog_1_method_9_code
def y_C_remove : MethodName := ⟨R_C, "remove", "(I)V"⟩
abbrev b_C_opening : ByteArray := prog_1_method_10_code
def y_C_opening : MethodName := ⟨R_C, "opening", "(III)I"⟩
abbrev b_C_copy : ByteArray := prog_1_method_11_code
def y_C_copy : MethodName := ⟨R_C, "copy", "(II)I"⟩
abbrev b_C_undo : ByteArray := prog_1_method_12_code
def y_C_undo : MethodName := ⟨R_C, "undo", "()Z"⟩
abbrev b_C_redo : ByteArray := prog_1_method_13_code
def y_C_redo : MethodName := ⟨R_C, "redo", "()Z"⟩
abbrev b_C_acts : ByteArray := prog_1_method_14_code
def y_C_acts : MethodName := ⟨R_C, "acts", "(I)I"⟩
abbrev b_C_many : ByteArray := prog_1_method_15_code
def y_C_many : MethodName := ⟨R_C, "many", "(I)I"⟩
abbrev b_C_wallAt : ByteArray := prog_1_method_16_code
def y_C_wallAt : MethodName := ⟨R_C, "wallAt", "(II)J"⟩
abbrev b_C_openingAt : ByteArray := prog_1_method_17_code
def y_C_openingAt : MethodName := ⟨R_C, "openingAt", "(II)I"⟩
abbrev b_C_storeyAt : ByteArray := prog_1_method_18_code
def y_C_storeyAt : MethodName := ⟨R_C, "storeyAt", "(II)J"⟩
abbrev b_C_typeAt : ByteArray := prog_1_method_19_code
def y_C_typeAt : MethodName := ⟨R_C, "typeAt", "(II)J"⟩
abbrev b_C_body : ByteArray := prog_1_method_20_code
def y_C_body : MethodName := ⟨R_C, "body", "(IIII)I"⟩
abbrev b_C_checkStorey : ByteArray := prog_1_method_21_code
def y_C_checkStorey : MethodName := ⟨R_C, "checkStorey", "(I)V"⟩
abbrev b_C_checkLevel : ByteArray := prog_1_method_22_code
def y_C_checkLevel : MethodName := ⟨R_C, "checkLevel", "(II)V"⟩
abbrev b_C_checkType : ByteArray := prog_1_method_23_code
def y_C_checkType : MethodName := ⟨R_C, "checkType", "(I)V"⟩
abbrev b_C_checkThickness : ByteArray := prog_1_method_24_code
def y_C_checkThickness : MethodName := ⟨R_C, "checkThickness", "(I)V"⟩
abbrev b_C_checkWall : ByteArray := prog_1_method_25_code
def y_C_checkWall : MethodName := ⟨R_C, "checkWall", "(I)V"⟩
abbrev b_C_checkPlace : ByteArray := prog_1_method_26_code
def y_C_checkPlace : MethodName := ⟨R_C, "checkPlace", "(JJ)V"⟩
abbrev b_C_checkRoomForAct : ByteArray := prog_1_method_27_code
def y_C_checkRoomForAct : MethodName := ⟨R_C, "checkRoomForAct", "()V"⟩
abbrev b_C_perform : ByteArray := prog_1_method_28_code
def y_C_perform : MethodName := ⟨R_C, "perform", "(IIII)V"⟩
abbrev b_C_goForward : ByteArray := prog_1_method_29_code
def y_C_goForward : MethodName := ⟨R_C, "goForward", "()V"⟩
abbrev b_C_step : ByteArray := prog_1_method_30_code
def y_C_step : MethodName := ⟨R_C, "step", "(II)V"⟩
abbrev b_C_exchange : ByteArray := prog_1_method_31_code
def y_C_exchange : MethodName := ⟨R_C, "exchange", "(III)I"⟩
abbrev b_C_writeCopies : ByteArray := prog_1_method_32_code
def y_C_writeCopies : MethodName := ⟨R_C, "writeCopies", "(II)V"⟩
abbrev b_C_openingsOn : ByteArray := prog_1_method_33_code
def y_C_openingsOn : MethodName := ⟨R_C, "openingsOn", "(I)I"⟩
abbrev b_C_netLength : ByteArray := prog_1_method_34_code
def y_C_netLength : MethodName := ⟨R_C, "netLength", "(I)J"⟩
abbrev b_C_gainByJoin : ByteArray := prog_1_method_35_code
def y_C_gainByJoin : MethodName := ⟨R_C, "gainByJoin", "(II)I"⟩
abbrev b_C_halfThickness : ByteArray := prog_1_method_36_code
def y_C_halfThickness : MethodName := ⟨R_C, "halfThickness", "(I)I"⟩
abbrev b_C_area : ByteArray := prog_1_method_37_code
def y_C_area : MethodName := ⟨R_C, "area", "(I)J"⟩
abbrev b_C_areaOf : ByteArray := prog_1_method_38_code
def y_C_areaOf : MethodName := ⟨R_C, "areaOf", "(I)J"⟩
abbrev b_C_netLengthWith : ByteArray := prog_1_method_39_code
def y_C_netLengthWith : MethodName := ⟨R_C, "netLengthWith", "(I)J"⟩
abbrev b_C_covers : ByteArray := prog_1_method_40_code
def y_C_covers : MethodName := ⟨R_C, "covers", "(III)Z"⟩
abbrev b_M_init : ByteArray := prog_8_method_1_code
def y_M_init : MethodName := ⟨R_M, "<init>", "()V"⟩
abbrev b_M_thrown : ByteArray := prog_8_method_2_code
def y_M_thrown : MethodName := ⟨R_M, "thrown", "()I"⟩
abbrev b_M_isIn : ByteArray := prog_8_method_3_code
def y_M_isIn : MethodName := ⟨R_M, "isIn", "(JJJ)Z"⟩
abbrev b_M_isStorey : ByteArray := prog_8_method_4_code
def y_M_isStorey : MethodName := ⟨R_M, "isStorey", "(I)Z"⟩
abbrev b_M_isType : ByteArray := prog_8_method_5_code
def y_M_isType : MethodName := ⟨R_M, "isType", "(I)Z"⟩
abbrev b_M_isWall : ByteArray := prog_8_method_6_code
def y_M_isWall : MethodName := ⟨R_M, "isWall", "(I)Z"⟩
abbrev b_M_isThick : ByteArray := prog_8_method_7_code
def y_M_isThick : MethodName := ⟨R_M, "isThick", "(I)Z"⟩
abbrev b_M_isPlace : ByteArray := prog_8_method_8_code
def y_M_isPlace : MethodName := ⟨R_M, "isPlace", "(JJ)Z"⟩
abbrev b_M_goes : ByteArray := prog_8_method_9_code
def y_M_goes : MethodName := ⟨R_M, "goes", "(ZZ)Z"⟩
abbrev b_M_act : ByteArray := prog_8_method_10_code
def y_M_act : MethodName := ⟨R_M, "act", "(IIIIIII)I"⟩
abbrev b_M_add : ByteArray := prog_8_method_11_code
def y_M_add : MethodName := ⟨R_M, "add", "(IIIIII)I"⟩
abbrev b_M_cut : ByteArray := prog_8_method_12_code
def y_M_cut : MethodName := ⟨R_M, "cut", "(III)I"⟩
abbrev b_M_copied : ByteArray := prog_8_method_13_code
def y_M_copied : MethodName := ⟨R_M, "copied", "(II)I"⟩
abbrev b_M_draw : ByteArray := prog_8_method_14_code
def y_M_draw : MethodName := ⟨R_M, "draw", "(I)I"⟩
abbrev b_M_storey : ByteArray := prog_8_method_15_code
def y_M_storey : MethodName := ⟨R_M, "storey", "(I)I"⟩
abbrev b_M_level : ByteArray := prog_8_method_16_code
def y_M_level : MethodName := ⟨R_M, "level", "(II)V"⟩
abbrev b_M_type : ByteArray := prog_8_method_17_code
def y_M_type : MethodName := ⟨R_M, "type", "(I)I"⟩
abbrev b_M_thickness : ByteArray := prog_8_method_18_code
def y_M_thickness : MethodName := ⟨R_M, "thickness", "(II)V"⟩
abbrev b_M_wall : ByteArray := prog_8_method_19_code
def y_M_wall : MethodName := ⟨R_M, "wall", "(IIIIII)I"⟩
abbrev b_M_move : ByteArray := prog_8_method_20_code
def y_M_move : MethodName := ⟨R_M, "move", "(III)V"⟩
abbrev b_M_retype : ByteArray := prog_8_method_21_code
def y_M_retype : MethodName := ⟨R_M, "retype", "(II)V"⟩
abbrev b_M_remove : ByteArray := prog_8_method_22_code
def y_M_remove : MethodName := ⟨R_M, "remove", "(I)V"⟩
abbrev b_M_opening : ByteArray := prog_8_method_23_code
def y_M_opening : MethodName := ⟨R_M, "opening", "(III)I"⟩
abbrev b_M_copy : ByteArray := prog_8_method_24_code
def y_M_copy : MethodName := ⟨R_M, "copy", "(II)I"⟩
abbrev b_M_undo : ByteArray := prog_8_method_25_code
def y_M_undo : MethodName := ⟨R_M, "undo", "()Z"⟩
abbrev b_M_redo : ByteArray := prog_8_method_26_code
def y_M_redo : MethodName := ⟨R_M, "redo", "()Z"⟩
abbrev b_M_acts : ByteArray := prog_8_method_27_code
def y_M_acts : MethodName := ⟨R_M, "acts", "(I)I"⟩
abbrev b_M_size : ByteArray := prog_8_method_28_code
def y_M_size : MethodName := ⟨R_M, "size", "(I)I"⟩
abbrev b_M_length : ByteArray := prog_8_method_29_code
def y_M_length : MethodName := ⟨R_M, "length", "(I)I"⟩
abbrev b_M_isAcross : ByteArray := prog_8_method_30_code
def y_M_isAcross : MethodName := ⟨R_M, "isAcross", "(I)Z"⟩
abbrev b_M_joined : ByteArray := prog_8_method_31_code
def y_M_joined : MethodName := ⟨R_M, "joined", "(III)I"⟩
abbrev b_M_net : ByteArray := prog_8_method_32_code
def y_M_net : MethodName := ⟨R_M, "net", "(I)I"⟩
abbrev b_M_height : ByteArray := prog_8_method_33_code
def y_M_height : MethodName := ⟨R_M, "height", "(I)I"⟩
abbrev b_M_cuts : ByteArray := prog_8_method_34_code
def y_M_cuts : MethodName := ⟨R_M, "cuts", "(I)I"⟩
abbrev b_M_area : ByteArray := prog_8_method_35_code
def y_M_area : MethodName := ⟨R_M, "area", "(I)J"⟩
abbrev b_M_tells : ByteArray := prog_8_method_36_code
def y_M_tells : MethodName := ⟨R_M, "tells", "(Z)Z"⟩
abbrev b_M_many : ByteArray := prog_8_method_37_code
def y_M_many : MethodName := ⟨R_M, "many", "(I)I"⟩
abbrev b_M_wallAt : ByteArray := prog_8_method_38_code
def y_M_wallAt : MethodName := ⟨R_M, "wallAt", "(II)J"⟩
abbrev b_M_openingAt : ByteArray := prog_8_method_39_code
def y_M_openingAt : MethodName := ⟨R_M, "openingAt", "(II)I"⟩
abbrev b_M_storeyAt : ByteArray := prog_8_method_40_code
def y_M_storeyAt : MethodName := ⟨R_M, "storeyAt", "(II)J"⟩
abbrev b_M_typeAt : ByteArray := prog_8_method_41_code
def y_M_typeAt : MethodName := ⟨R_M, "typeAt", "(II)J"⟩
abbrev b_M_hasBody : ByteArray := prog_8_method_42_code
def y_M_hasBody : MethodName := ⟨R_M, "hasBody", "(III)Z"⟩
abbrev b_M_body : ByteArray := prog_8_method_43_code
def y_M_body : MethodName := ⟨R_M, "body", "(IIII)I"⟩
abbrev b_H_init : ByteArray := prog_2_method_1_code
def y_H_init : MethodName := ⟨R_H, "<init>", "()V"⟩
abbrev b_H_write : ByteArray := prog_2_method_2_code
def y_H_write : MethodName := ⟨R_H, "write", "(IIII)V"⟩
abbrev b_O_init : ByteArray := prog_3_method_1_code
def y_O_init : MethodName := ⟨R_O, "<init>", "()V"⟩
abbrev b_O_has : ByteArray := prog_3_method_2_code
def y_O_has : MethodName := ⟨R_O, "has", "(I)Z"⟩
abbrev b_O_manyOf : ByteArray := prog_3_method_3_code
def y_O_manyOf : MethodName := ⟨R_O, "manyOf", "(I)I"⟩
abbrev b_O_widthOf : ByteArray := prog_3_method_4_code
def y_O_widthOf : MethodName := ⟨R_O, "widthOf", "(I)I"⟩
abbrev b_O_overlap : ByteArray := prog_3_method_5_code
def y_O_overlap : MethodName := ⟨R_O, "overlap", "(III)Z"⟩
abbrev b_O_write : ByteArray := prog_3_method_6_code
def y_O_write : MethodName := ⟨R_O, "write", "(IIII)V"⟩
abbrev b_O_writeCopies : ByteArray := prog_3_method_7_code
def y_O_writeCopies : MethodName := ⟨R_O, "writeCopies", "(III)I"⟩
abbrev b_S_init : ByteArray := prog_4_method_1_code
def y_S_init : MethodName := ⟨R_S, "<init>", "()V"⟩
abbrev b_S_has : ByteArray := prog_4_method_2_code
def y_S_has : MethodName := ⟨R_S, "has", "(I)Z"⟩
abbrev b_S_isBetweenNeighbours : ByteArray := prog_4_method_3_code
def y_S_isBetweenNeighbours : MethodName := ⟨R_S, "isBetweenNeighbours", "(II)Z"⟩
abbrev b_S_height : ByteArray := prog_4_method_4_code
def y_S_height : MethodName := ⟨R_S, "height", "(I)I"⟩
abbrev b_T_init : ByteArray := prog_5_method_1_code
def y_T_init : MethodName := ⟨R_T, "<init>", "()V"⟩
abbrev b_T_has : ByteArray := prog_5_method_2_code
def y_T_has : MethodName := ⟨R_T, "has", "(I)Z"⟩
abbrev b_W_init : ByteArray := prog_6_method_1_code
def y_W_init : MethodName := ⟨R_W, "<init>", "()V"⟩
abbrev b_W_isThere : ByteArray := prog_6_method_2_code
def y_W_isThere : MethodName := ⟨R_W, "isThere", "(I)Z"⟩
abbrev b_W_isOn : ByteArray := prog_6_method_3_code
def y_W_isOn : MethodName := ⟨R_W, "isOn", "(II)Z"⟩
abbrev b_W_isWith : ByteArray := prog_6_method_4_code
def y_W_isWith : MethodName := ⟨R_W, "isWith", "(II)Z"⟩
abbrev b_W_goesAlongX : ByteArray := prog_6_method_5_code
def y_W_goesAlongX : MethodName := ⟨R_W, "goesAlongX", "(I)Z"⟩
abbrev b_W_hasEndAt : ByteArray := prog_6_method_6_code
def y_W_hasEndAt : MethodName := ⟨R_W, "hasEndAt", "(III)Z"⟩
abbrev b_W_length : ByteArray := prog_6_method_7_code
def y_W_length : MethodName := ⟨R_W, "length", "(I)I"⟩
abbrev b_W_manyOn : ByteArray := prog_6_method_8_code
def y_W_manyOn : MethodName := ⟨R_W, "manyOn", "(I)I"⟩
abbrev b_W_manyWith : ByteArray := prog_6_method_9_code
def y_W_manyWith : MethodName := ⟨R_W, "manyWith", "(I)I"⟩
abbrev b_W_leastAcross : ByteArray := prog_6_method_10_code
def y_W_leastAcross : MethodName := ⟨R_W, "leastAcross", "(III)I"⟩
abbrev b_W_shift : ByteArray := prog_6_method_11_code
def y_W_shift : MethodName := ⟨R_W, "shift", "(III)V"⟩
abbrev b_W_writeNext : ByteArray := prog_6_method_12_code
def y_W_writeNext : MethodName := ⟨R_W, "writeNext", "(IIIIII)V"⟩
abbrev b_W_writeCopy : ByteArray := prog_6_method_13_code
def y_W_writeCopy : MethodName := ⟨R_W, "writeCopy", "(III)V"⟩
abbrev b_L_storey : ByteArray := method_3_code
def y_L_storey : MethodName := ⟨R_L, "storey", "(LStoreyShapes;I[J)I"⟩
abbrev b_L_level : ByteArray := method_4_code
def y_L_level : MethodName := ⟨R_L, "level", "(LStoreyShapes;II)I"⟩
abbrev b_L_type : ByteArray := method_5_code
def y_L_type : MethodName := ⟨R_L, "type", "(LStoreyShapes;I[J)I"⟩
abbrev b_L_thickness : ByteArray := method_6_code
def y_L_thickness : MethodName := ⟨R_L, "thickness", "(LStoreyShapes;II)I"⟩
abbrev b_L_wall : ByteArray := method_7_code
def y_L_wall : MethodName := ⟨R_L, "wall", "(LStoreyShapes;IIIIII[J)I"⟩
abbrev b_L_move : ByteArray := method_8_code
def y_L_move : MethodName := ⟨R_L, "move", "(LStoreyShapes;III)I"⟩
abbrev b_L_retype : ByteArray := method_9_code
def y_L_retype : MethodName := ⟨R_L, "retype", "(LStoreyShapes;II)I"⟩
abbrev b_L_remove : ByteArray := method_10_code
def y_L_remove : MethodName := ⟨R_L, "remove", "(LStoreyShapes;I)I"⟩
abbrev b_L_opening : ByteArray := method_11_code
def y_L_opening : MethodName := ⟨R_L, "opening", "(LStoreyShapes;III[J)I"⟩
abbrev b_L_copy : ByteArray := method_12_code
def y_L_copy : MethodName := ⟨R_L, "copy", "(LStoreyShapes;II[J)I"⟩
abbrev b_L_acts : ByteArray := method_13_code
def y_L_acts : MethodName := ⟨R_L, "acts", "(LStoreyShapes;I[J)I"⟩
abbrev b_L_many : ByteArray := method_14_code
def y_L_many : MethodName := ⟨R_L, "many", "(LStoreyShapes;I[J)I"⟩
abbrev b_L_wallAt : ByteArray := method_15_code
def y_L_wallAt : MethodName := ⟨R_L, "wallAt", "(LStoreyShapes;II[J)I"⟩
abbrev b_L_openingAt : ByteArray := method_16_code
def y_L_openingAt : MethodName := ⟨R_L, "openingAt", "(LStoreyShapes;II[J)I"⟩
abbrev b_L_storeyAt : ByteArray := method_17_code
def y_L_storeyAt : MethodName := ⟨R_L, "storeyAt", "(LStoreyShapes;II[J)I"⟩
abbrev b_L_typeAt : ByteArray := method_18_code
def y_L_typeAt : MethodName := ⟨R_L, "typeAt", "(LStoreyShapes;II[J)I"⟩
abbrev b_L_body : ByteArray := method_19_code
def y_L_body : MethodName := ⟨R_L, "body", "(LStoreyShapes;IIII[J)I"⟩
abbrev b_L_law : ByteArray := code
def y_L_law : MethodName := ⟨R_L, "law", "([I)Z"⟩
abbrev classes : List vw_C := [(R_C, F_C, 5), (R_H, F_H, 6), (R_O, F_O, 4), (R_S, F_S, 2), (R_T, F_T, 2), (R_W, F_W, 8), (R_M, F_M, 20)]
theorem n_C : ∀ a, a < 5 → ∀ b, b < 5 → a ≠ b → (F_C a).2.1 ≠ (F_C b).2.1 := by decide +kernel
theorem tok_C : ∀ k, k < 5 → parseFieldDescriptor (F_C k).2.2.1 = some (ty_C k) := by decide +kernel
theorem n_H : ∀ a, a < 6 → ∀ b, b < 6 → a ≠ b → (F_H a).2.1 ≠ (F_H b).2.1 := by decide +kernel
theorem tok_H : ∀ k, k < 6 → parseFieldDescriptor (F_H k).2.2.1 = some (ty_H k) := by decide +kernel
theorem n_O : ∀ a, a < 4 → ∀ b, b < 4 → a ≠ b → (F_O a).2.1 ≠ (F_O b).2.1 := by decide +kernel
theorem tok_O : ∀ k, k < 4 → parseFieldDescriptor (F_O k).2.2.1 = some (ty_O k) := by decide +kernel
theorem n_S : ∀ a, a < 2 → ∀ b, b < 2 → a ≠ b → (F_S a).2.1 ≠ (F_S b).2.1 := by decide +kernel
theorem tok_S : ∀ k, k < 2 → parseFieldDescriptor (F_S k).2.2.1 = some (ty_S k) := by decide +kernel
theorem n_T : ∀ a, a < 2 → ∀ b, b < 2 → a ≠ b → (F_T a).2.1 ≠ (F_T b).2.1 := by decide +kernel
theorem tok_T : ∀ k, k < 2 → parseFieldDescriptor (F_T k).2.2.1 = some (ty_T k) := by decide +kernel
theorem n_W : ∀ a, a < 8 → ∀ b, b < 8 → a ≠ b → (F_W a).2.1 ≠ (F_W b).2.1 := by decide +kernel
theorem tok_W : ∀ k, k < 8 → parseFieldDescriptor (F_W k).2.2.1 = some (ty_W k) := by decide +kernel
theorem n_M : ∀ a, a < 20 → ∀ b, b < 20 → a ≠ b → (F_M a).2.1 ≠ (F_M b).2.1 := by decide +kernel
theorem tok_M : ∀ k, k < 20 → parseFieldDescriptor (F_M k).2.2.1 = some (ty_M k) := by decide +kernel
/-! words: BG is what every method is given: the tables' good words -/
def BG : List Cond := lw_tbl.filter goodWord
theorem BG_tbl : ∀ w ∈ BG, w ∈ lw_tbl := fun w h => (List.mem_filter.mp h).1
theorem BG_ok : ∀ w ∈ BG, goodWord w = true := fun w h => (List.mem_filter.mp h).2
theorem BG_0 {w : Cond} (h : w ∈ k2_sels lw_privs) (g : goodWord w = true) : w ∈ BG := List.mem_filter.mpr ⟨List.mem_append_left _ h, g⟩
theorem BG_1 {w : Cond} (h : w ∈ tables_1_1) (g : goodWord w = true) : w ∈ BG := List.mem_filter.mpr ⟨List.mem_append_right _ (List.mem_append_left _ h), g⟩
theorem BG_2 {w : Cond} (h : w ∈ tables_1_2) (g : goodWord w = true) : w ∈ BG := List.mem_filter.mpr ⟨List.mem_append_right _ (List.mem_append_right _ (List.mem_append_left _ h)), g⟩
theorem BG_3 {w : Cond} (h : w ∈ tables_1_3) (g : goodWord w = true) : w ∈ BG := List.mem_filter.mpr ⟨List.mem_append_right _ (List.mem_append_right _ (List.mem_append_right _ (List.mem_append_left _ h))), g⟩
theorem BG_4 {w : Cond} (h : w ∈ tables_1_4) (g : goodWord w = true) : w ∈ BG := List.mem_filter.mpr ⟨List.mem_append_right _ (List.mem_append_right _ (List.mem_append_right _ (List.mem_append_right _ h))), g⟩
abbrev wB (y : MethodName) (b : ByteArray) (n : Nat) (r : Option FieldType) : List Cond := Cond.code y b n r :: BG
theorem wB_in {y : MethodName} {b : ByteArray} {n : Nat} {r : Option FieldType} (h : Cond.code y b n r ∈ BG) : ∀ w ∈ wB y b n r, w ∈ BG := fun w hw => (List.mem_cons.mp hw).elim (fun e => e ▸ h) id
theorem wB_good {Ts : List Cond} (hT : ∀ w ∈ BG, w ∈ Ts) {y : MethodName} {b : ByteArray} {n : Nat} {r : Option FieldType} (h : Cond.code y b n r ∈ BG) : GoodIn Ts (wB y b n r) := fun w hw => ⟨hT w (wB_in h w hw), good_of_word (BG_ok w (wB_in h w hw))⟩
theorem wB_goodV {Ts : List Cond} (hT : ∀ w ∈ BG, w ∈ Ts) {own C : String} {idx : Nat} {y : MethodName} {b : ByteArray} {n : Nat} {r : Option FieldType} (h1 : Cond.methodLink own idx y ∈ BG) (h2 : Cond.instanceMethod y ∈ BG) (h3 : Cond.selects C y y ∈ BG) (h4 : Cond.initialized C ∈ BG) (h : Cond.code y b n r ∈ BG) : GoodIn Ts (wsV own idx C y (wB y b n r)) := by
  have g : ∀ w ∈ BG, w ∈ Ts ∧ ((w.onTables && w.keeps) = true ∨ ∃ ty, w = .arrayClass ty) := fun w hw => ⟨hT w hw, good_of_word (BG_ok w hw)⟩
  intro w hw
  rcases List.mem_append.mp hw with hw | hw
  · rcases List.mem_cons.mp hw with rfl | hw
    · exact g _ h1
    rcases List.mem_cons.mp hw with rfl | hw
    · exact g _ h2
    rcases List.mem_cons.mp hw with rfl | hw
    · exact g _ h3
    rcases List.mem_cons.mp hw with rfl | hw
    · exact g _ h4
    · cases hw
  · exact wB_good hT h w hw
theorem wB_goodS {Ts : List Cond} (hT : ∀ w ∈ BG, w ∈ Ts) {own : String} {idx : Nat} {y : MethodName} {b : ByteArray} {n : Nat} {r : Option FieldType} (h1 : Cond.methodLink own idx y ∈ BG) (h2 : Cond.static y ∈ BG) (h4 : Cond.initialized own ∈ BG) (h : Cond.code y b n r ∈ BG) : GoodIn Ts (wsS own idx y (wB y b n r)) := by
  have g : ∀ w ∈ BG, w ∈ Ts ∧ ((w.onTables && w.keeps) = true ∨ ∃ ty, w = .arrayClass ty) := fun w hw => ⟨hT w hw, good_of_word (BG_ok w hw)⟩
  intro w hw
  rcases List.mem_append.mp hw with hw | hw
  · rcases List.mem_cons.mp hw with rfl | hw
    · exact g _ h1
    rcases List.mem_cons.mp hw with rfl | hw
    · exact g _ h2
    rcases List.mem_cons.mp hw with rfl | hw
    · exact g _ h4
    · cases hw
  · exact wB_good hT h w hw
theorem ini_L : Cond.initialized R_L ∈ BG := BG_1 (List.mem_of_getElem? (i := 0) rfl) rfl
theorem ini_C : Cond.initialized R_C ∈ BG := BG_1 (List.mem_of_getElem? (i := 1) rfl) rfl
theorem ini_S : Cond.initialized R_S ∈ BG := BG_1 (List.mem_of_getElem? (i := 2) rfl) rfl
theorem ini_T : Cond.initialized R_T ∈ BG := BG_1 (List.mem_of_getElem? (i := 3) rfl) rfl
theorem ini_W : Cond.initialized R_W ∈ BG := BG_1 (List.mem_of_getElem? (i := 4) rfl) rfl
theorem ini_O : Cond.initialized R_O ∈ BG := BG_1 (List.mem_of_getElem? (i := 5) rfl) rfl
theorem ini_H : Cond.initialized R_H ∈ BG := BG_1 (List.mem_of_getElem? (i := 6) rfl) rfl
theorem ini_M : Cond.initialized R_M ∈ BG := BG_1 (List.mem_of_getElem? (i := 7) rfl) rfl
theorem ini_Throwable : Cond.initialized "java/lang/Throwable" ∈ BG := BG_1 (List.mem_of_getElem? (i := 8) rfl) rfl
theorem ini_Exception : Cond.initialized "java/lang/Exception" ∈ BG := BG_1 (List.mem_of_getElem? (i := 9) rfl) rfl
theorem ini_RuntimeException : Cond.initialized "java/lang/RuntimeException" ∈ BG := BG_1 (List.mem_of_getElem? (i := 10) rfl) rfl
theorem ini_IllegalArgumentException : Cond.initialized "java/lang/IllegalArgumentException" ∈ BG := BG_1 (List.mem_of_getElem? (i := 11) rfl) rfl
theorem ini_IllegalStateException : Cond.initialized "java/lang/IllegalStateException" ∈ BG := BG_1 (List.mem_of_getElem? (i := 12) rfl) rfl
theorem ini_Math : Cond.initialized "java/lang/Math" ∈ BG := BG_1 (List.mem_of_getElem? (i := 13) rfl) rfl
theorem cl_L_8 : Cond.classLink R_L 8 R_C ∈ BG := BG_1 (List.mem_of_getElem? (i := 14) rfl) rfl
theorem ins_C : Cond.instantiable R_C 5 ∈ BG := BG_1 (List.mem_of_getElem? (i := 15) rfl) rfl
theorem ml_L_73 : Cond.methodLink R_L 73 y_C_init ∈ BG := BG_1 (List.mem_of_getElem? (i := 16) rfl) rfl
theorem im_C_init : Cond.instanceMethod y_C_init ∈ BG := BG_1 (List.mem_of_getElem? (i := 17) rfl) rfl
theorem co_C_init : Cond.code y_C_init b_C_init 1 none ∈ BG := BG_1 (List.mem_of_getElem? (i := 18) rfl) rfl
theorem ml_C_1 : Cond.methodLink R_C 1 ⟨"java/lang/Object", "<init>", "()V"⟩ ∈ BG := BG_1 (List.mem_of_getElem? (i := 19) rfl) rfl
theorem im_Object_initV : Cond.instanceMethod ⟨"java/lang/Object", "<init>", "()V"⟩ ∈ BG := BG_1 (List.mem_of_getElem? (i := 20) rfl) rfl
theorem co_Object_initV : Cond.code ⟨"java/lang/Object", "<init>", "()V"⟩ object_method_1_code 1 (Option.none : Option Jvm.ClassFile.FieldType) ∈ BG := BG_1 (List.mem_of_getElem? (i := 21) rfl) rfl
theorem cl_C_7 : Cond.classLink R_C 7 R_S ∈ BG := BG_1 (List.mem_of_getElem? (i := 22) rfl) rfl
theorem ins_S : Cond.instantiable R_S 2 ∈ BG := BG_1 (List.mem_of_getElem? (i := 23) rfl) rfl
theorem im_S_init : Cond.instanceMethod y_S_init ∈ BG := BG_1 (List.mem_of_getElem? (i := 25) rfl) rfl
theorem co_S_init : Cond.code y_S_init b_S_init 1 none ∈ BG := BG_1 (List.mem_of_getElem? (i := 26) rfl) rfl
theorem ml_S_3 : Cond.methodLink R_S 3 ⟨"java/lang/Object", "<init>", "()V"⟩ ∈ BG := BG_1 (List.mem_of_getElem? (i := 27) rfl) rfl
theorem fl_S_9 : Cond.fieldLink R_S 9 "StoreyShapes$Storeys" "levels" "[I" ∈ BG := BG_1 (List.mem_of_getElem? (i := 28) rfl) rfl
theorem fl_C_62 : Cond.fieldLink R_C 62 "StoreyShapes$Storeys" "levels" "[I" ∈ BG := BG_1 (List.mem_of_getElem? (i := 29) rfl) rfl
theorem fl_S_15 : Cond.fieldLink R_S 15 "StoreyShapes$Storeys" "count" "I" ∈ BG := BG_1 (List.mem_of_getElem? (i := 30) rfl) rfl
theorem fl_C_44 : Cond.fieldLink R_C 44 "StoreyShapes$Storeys" "count" "I" ∈ BG := BG_1 (List.mem_of_getElem? (i := 31) rfl) rfl
theorem ac_int : Cond.arrayClass .int ∈ BG := BG_1 (List.mem_of_getElem? (i := 37) rfl) rfl
theorem cl_C_16 : Cond.classLink R_C 16 R_T ∈ BG := BG_1 (List.mem_of_getElem? (i := 38) rfl) rfl
theorem ins_T : Cond.instantiable R_T 2 ∈ BG := BG_1 (List.mem_of_getElem? (i := 39) rfl) rfl
theorem im_T_init : Cond.instanceMethod y_T_init ∈ BG := BG_1 (List.mem_of_getElem? (i := 41) rfl) rfl
theorem co_T_init : Cond.code y_T_init b_T_init 1 none ∈ BG := BG_1 (List.mem_of_getElem? (i := 42) rfl) rfl
theorem ml_T_3 : Cond.methodLink R_T 3 ⟨"java/lang/Object", "<init>", "()V"⟩ ∈ BG := BG_1 (List.mem_of_getElem? (i := 43) rfl) rfl
theorem fl_T_9 : Cond.fieldLink R_T 9 "StoreyShapes$Types" "thicknesses" "[I" ∈ BG := BG_1 (List.mem_of_getElem? (i := 44) rfl) rfl
theorem fl_C_80 : Cond.fieldLink R_C 80 "StoreyShapes$Types" "thicknesses" "[I" ∈ BG := BG_1 (List.mem_of_getElem? (i := 45) rfl) rfl
theorem fl_T_15 : Cond.fieldLink R_T 15 "StoreyShapes$Types" "count" "I" ∈ BG := BG_1 (List.mem_of_getElem? (i := 46) rfl) rfl
theorem fl_C_74 : Cond.fieldLink R_C 74 "StoreyShapes$Types" "count" "I" ∈ BG := BG_1 (List.mem_of_getElem? (i := 47) rfl) rfl
theorem cl_C_23 : Cond.classLink R_C 23 R_W ∈ BG := BG_1 (List.mem_of_getElem? (i := 53) rfl) rfl
theorem ins_W : Cond.instantiable R_W 8 ∈ BG := BG_1 (List.mem_of_getElem? (i := 54) rfl) rfl
theorem im_W_init : Cond.instanceMethod y_W_init ∈ BG := BG_1 (List.mem_of_getElem? (i := 56) rfl) rfl
theorem co_W_init : Cond.code y_W_init b_W_init 1 none ∈ BG := BG_1 (List.mem_of_getElem? (i := 57) rfl) rfl
theorem ml_W_3 : Cond.methodLink R_W 3 ⟨"java/lang/Object", "<init>", "()V"⟩ ∈ BG := BG_1 (List.mem_of_getElem? (i := 58) rfl) rfl
theorem fl_W_9 : Cond.fieldLink R_W 9 "StoreyShapes$Walls" "storeys" "[I" ∈ BG := BG_1 (List.mem_of_getElem? (i := 59) rfl) rfl
theorem fl_C_166 : Cond.fieldLink R_C 166 "StoreyShapes$Walls" "storeys" "[I" ∈ BG := BG_1 (List.mem_of_getElem? (i := 60) rfl) rfl
theorem fl_W_15 : Cond.fieldLink R_W 15 "StoreyShapes$Walls" "types" "[I" ∈ BG := BG_1 (List.mem_of_getElem? (i := 61) rfl) rfl
theorem fl_C_168 : Cond.fieldLink R_C 168 "StoreyShapes$Walls" "types" "[I" ∈ BG := BG_1 (List.mem_of_getElem? (i := 62) rfl) rfl
theorem fl_W_18 : Cond.fieldLink R_W 18 "StoreyShapes$Walls" "x0" "[I" ∈ BG := BG_1 (List.mem_of_getElem? (i := 63) rfl) rfl
theorem fl_C_105 : Cond.fieldLink R_C 105 "StoreyShapes$Walls" "x0" "[I" ∈ BG := BG_1 (List.mem_of_getElem? (i := 64) rfl) rfl
theorem fl_W_21 : Cond.fieldLink R_W 21 "StoreyShapes$Walls" "y0" "[I" ∈ BG := BG_1 (List.mem_of_getElem? (i := 65) rfl) rfl
theorem fl_C_108 : Cond.fieldLink R_C 108 "StoreyShapes$Walls" "y0" "[I" ∈ BG := BG_1 (List.mem_of_getElem? (i := 66) rfl) rfl
theorem fl_W_24 : Cond.fieldLink R_W 24 "StoreyShapes$Walls" "x1" "[I" ∈ BG := BG_1 (List.mem_of_getElem? (i := 67) rfl) rfl
theorem fl_C_111 : Cond.fieldLink R_C 111 "StoreyShapes$Walls" "x1" "[I" ∈ BG := BG_1 (List.mem_of_getElem? (i := 68) rfl) rfl
theorem fl_W_27 : Cond.fieldLink R_W 27 "StoreyShapes$Walls" "y1" "[I" ∈ BG := BG_1 (List.mem_of_getElem? (i := 69) rfl) rfl
theorem fl_C_114 : Cond.fieldLink R_C 114 "StoreyShapes$Walls" "y1" "[I" ∈ BG := BG_1 (List.mem_of_getElem? (i := 70) rfl) rfl
theorem fl_W_30 : Cond.fieldLink R_W 30 "StoreyShapes$Walls" "gone" "[Z" ∈ BG := BG_1 (List.mem_of_getElem? (i := 71) rfl) rfl
theorem fl_C_268 : Cond.fieldLink R_C 268 "StoreyShapes$Walls" "gone" "[Z" ∈ BG := BG_1 (List.mem_of_getElem? (i := 72) rfl) rfl
theorem fl_W_34 : Cond.fieldLink R_W 34 "StoreyShapes$Walls" "count" "I" ∈ BG := BG_1 (List.mem_of_getElem? (i := 73) rfl) rfl
theorem fl_C_95 : Cond.fieldLink R_C 95 "StoreyShapes$Walls" "count" "I" ∈ BG := BG_1 (List.mem_of_getElem? (i := 74) rfl) rfl
theorem ac_boolean : Cond.arrayClass .boolean ∈ BG := BG_1 (List.mem_of_getElem? (i := 92) rfl) rfl
theorem cl_C_30 : Cond.classLink R_C 30 R_O ∈ BG := BG_1 (List.mem_of_getElem? (i := 93) rfl) rfl
theorem ins_O : Cond.instantiable R_O 4 ∈ BG := BG_1 (List.mem_of_getElem? (i := 94) rfl) rfl
theorem im_O_init : Cond.instanceMethod y_O_init ∈ BG := BG_1 (List.mem_of_getElem? (i := 96) rfl) rfl
theorem co_O_init : Cond.code y_O_init b_O_init 1 none ∈ BG := BG_1 (List.mem_of_getElem? (i := 97) rfl) rfl
theorem ml_O_3 : Cond.methodLink R_O 3 ⟨"java/lang/Object", "<init>", "()V"⟩ ∈ BG := BG_1 (List.mem_of_getElem? (i := 98) rfl) rfl
theorem fl_O_9 : Cond.fieldLink R_O 9 "StoreyShapes$Openings" "walls" "[I" ∈ BG := BG_1 (List.mem_of_getElem? (i := 99) rfl) rfl
theorem fl_C_186 : Cond.fieldLink R_C 186 "StoreyShapes$Openings" "walls" "[I" ∈ BG := BG_1 (List.mem_of_getElem? (i := 100) rfl) rfl
theorem fl_O_15 : Cond.fieldLink R_O 15 "StoreyShapes$Openings" "starts" "[I" ∈ BG := BG_1 (List.mem_of_getElem? (i := 101) rfl) rfl
theorem fl_C_193 : Cond.fieldLink R_C 193 "StoreyShapes$Openings" "starts" "[I" ∈ BG := BG_1 (List.mem_of_getElem? (i := 102) rfl) rfl
theorem fl_O_18 : Cond.fieldLink R_O 18 "StoreyShapes$Openings" "widths" "[I" ∈ BG := BG_1 (List.mem_of_getElem? (i := 103) rfl) rfl
theorem fl_C_196 : Cond.fieldLink R_C 196 "StoreyShapes$Openings" "widths" "[I" ∈ BG := BG_1 (List.mem_of_getElem? (i := 104) rfl) rfl
theorem fl_O_21 : Cond.fieldLink R_O 21 "StoreyShapes$Openings" "count" "I" ∈ BG := BG_1 (List.mem_of_getElem? (i := 105) rfl) rfl
theorem fl_C_123 : Cond.fieldLink R_C 123 "StoreyShapes$Openings" "count" "I" ∈ BG := BG_1 (List.mem_of_getElem? (i := 106) rfl) rfl
theorem cl_C_37 : Cond.classLink R_C 37 R_H ∈ BG := BG_1 (List.mem_of_getElem? (i := 116) rfl) rfl
theorem ins_H : Cond.instantiable R_H 6 ∈ BG := BG_1 (List.mem_of_getElem? (i := 117) rfl) rfl
theorem im_H_init : Cond.instanceMethod y_H_init ∈ BG := BG_1 (List.mem_of_getElem? (i := 119) rfl) rfl
theorem co_H_init : Cond.code y_H_init b_H_init 1 none ∈ BG := BG_1 (List.mem_of_getElem? (i := 120) rfl) rfl
theorem ml_H_3 : Cond.methodLink R_H 3 ⟨"java/lang/Object", "<init>", "()V"⟩ ∈ BG := BG_1 (List.mem_of_getElem? (i := 121) rfl) rfl
theorem fl_H_9 : Cond.fieldLink R_H 9 "StoreyShapes$History" "kinds" "[I" ∈ BG := BG_1 (List.mem_of_getElem? (i := 122) rfl) rfl
theorem fl_C_261 : Cond.fieldLink R_C 261 "StoreyShapes$History" "kinds" "[I" ∈ BG := BG_1 (List.mem_of_getElem? (i := 123) rfl) rfl
theorem fl_H_15 : Cond.fieldLink R_H 15 "StoreyShapes$History" "targets" "[I" ∈ BG := BG_1 (List.mem_of_getElem? (i := 124) rfl) rfl
theorem fl_C_252 : Cond.fieldLink R_C 252 "StoreyShapes$History" "targets" "[I" ∈ BG := BG_1 (List.mem_of_getElem? (i := 125) rfl) rfl
theorem fl_H_18 : Cond.fieldLink R_H 18 "StoreyShapes$History" "firsts" "[I" ∈ BG := BG_1 (List.mem_of_getElem? (i := 126) rfl) rfl
theorem fl_C_255 : Cond.fieldLink R_C 255 "StoreyShapes$History" "firsts" "[I" ∈ BG := BG_1 (List.mem_of_getElem? (i := 127) rfl) rfl
theorem fl_H_21 : Cond.fieldLink R_H 21 "StoreyShapes$History" "seconds" "[I" ∈ BG := BG_1 (List.mem_of_getElem? (i := 128) rfl) rfl
theorem fl_C_258 : Cond.fieldLink R_C 258 "StoreyShapes$History" "seconds" "[I" ∈ BG := BG_1 (List.mem_of_getElem? (i := 129) rfl) rfl
theorem fl_H_24 : Cond.fieldLink R_H 24 "StoreyShapes$History" "done" "I" ∈ BG := BG_1 (List.mem_of_getElem? (i := 130) rfl) rfl
theorem fl_C_150 : Cond.fieldLink R_C 150 "StoreyShapes$History" "done" "I" ∈ BG := BG_1 (List.mem_of_getElem? (i := 131) rfl) rfl
theorem fl_H_28 : Cond.fieldLink R_H 28 "StoreyShapes$History" "held" "I" ∈ BG := BG_1 (List.mem_of_getElem? (i := 132) rfl) rfl
theorem fl_C_156 : Cond.fieldLink R_C 156 "StoreyShapes$History" "held" "I" ∈ BG := BG_1 (List.mem_of_getElem? (i := 133) rfl) rfl
theorem fl_C_10 : Cond.fieldLink R_C 10 "StoreyShapes" "storeys" "LStoreyShapes$Storeys;" ∈ BG := BG_1 (List.mem_of_getElem? (i := 147) rfl) rfl
theorem fl_C_19 : Cond.fieldLink R_C 19 "StoreyShapes" "types" "LStoreyShapes$Types;" ∈ BG := BG_1 (List.mem_of_getElem? (i := 148) rfl) rfl
theorem fl_C_26 : Cond.fieldLink R_C 26 "StoreyShapes" "walls" "LStoreyShapes$Walls;" ∈ BG := BG_1 (List.mem_of_getElem? (i := 149) rfl) rfl
theorem fl_C_33 : Cond.fieldLink R_C 33 "StoreyShapes" "openings" "LStoreyShapes$Openings;" ∈ BG := BG_1 (List.mem_of_getElem? (i := 150) rfl) rfl
theorem fl_C_40 : Cond.fieldLink R_C 40 "StoreyShapes" "history" "LStoreyShapes$History;" ∈ BG := BG_1 (List.mem_of_getElem? (i := 151) rfl) rfl
theorem ml_L_120 : Cond.methodLink R_L 120 y_C_undo ∈ BG := BG_1 (List.mem_of_getElem? (i := 163) rfl) rfl
theorem im_C_undo : Cond.instanceMethod y_C_undo ∈ BG := BG_1 (List.mem_of_getElem? (i := 164) rfl) rfl
theorem se_C_undo : Cond.selects R_C y_C_undo y_C_undo ∈ BG := BG_1 (List.mem_of_getElem? (i := 165) rfl) rfl
theorem co_C_undo : Cond.code y_C_undo b_C_undo 1 (some .boolean) ∈ BG := BG_1 (List.mem_of_getElem? (i := 166) rfl) rfl
theorem ml_C_153 : Cond.methodLink R_C 153 y_C_step ∈ BG := BG_1 (List.mem_of_getElem? (i := 167) rfl) rfl
theorem im_C_step : Cond.instanceMethod y_C_step ∈ BG := BG_1 (List.mem_of_getElem? (i := 169) rfl) rfl
theorem co_C_step : Cond.code y_C_step b_C_step 6 none ∈ BG := BG_1 (List.mem_of_getElem? (i := 170) rfl) rfl
theorem ml_C_264 : Cond.methodLink R_C 264 y_W_shift ∈ BG := BG_1 (List.mem_of_getElem? (i := 171) rfl) rfl
theorem im_W_shift : Cond.instanceMethod y_W_shift ∈ BG := BG_1 (List.mem_of_getElem? (i := 172) rfl) rfl
theorem se_W_shift : Cond.selects R_W y_W_shift y_W_shift ∈ BG := BG_1 (List.mem_of_getElem? (i := 173) rfl) rfl
theorem co_W_shift : Cond.code y_W_shift b_W_shift 4 none ∈ BG := BG_1 (List.mem_of_getElem? (i := 174) rfl) rfl
theorem ml_C_272 : Cond.methodLink R_C 272 y_C_exchange ∈ BG := BG_1 (List.mem_of_getElem? (i := 175) rfl) rfl
theorem im_C_exchange : Cond.instanceMethod y_C_exchange ∈ BG := BG_1 (List.mem_of_getElem? (i := 177) rfl) rfl
theorem co_C_exchange : Cond.code y_C_exchange b_C_exchange 5 (some .int) ∈ BG := BG_1 (List.mem_of_getElem? (i := 178) rfl) rfl
theorem ml_L_125 : Cond.methodLink R_L 125 y_C_redo ∈ BG := BG_1 (List.mem_of_getElem? (i := 179) rfl) rfl
theorem im_C_redo : Cond.instanceMethod y_C_redo ∈ BG := BG_1 (List.mem_of_getElem? (i := 180) rfl) rfl
theorem se_C_redo : Cond.selects R_C y_C_redo y_C_redo ∈ BG := BG_1 (List.mem_of_getElem? (i := 181) rfl) rfl
theorem co_C_redo : Cond.code y_C_redo b_C_redo 1 (some .boolean) ∈ BG := BG_1 (List.mem_of_getElem? (i := 182) rfl) rfl
theorem ml_C_159 : Cond.methodLink R_C 159 y_C_goForward ∈ BG := BG_1 (List.mem_of_getElem? (i := 183) rfl) rfl
theorem im_C_goForward : Cond.instanceMethod y_C_goForward ∈ BG := BG_1 (List.mem_of_getElem? (i := 185) rfl) rfl
theorem co_C_goForward : Cond.code y_C_goForward b_C_goForward 1 none ∈ BG := BG_1 (List.mem_of_getElem? (i := 186) rfl) rfl
theorem ml_L_77 : Cond.methodLink R_L 77 y_L_storey ∈ BG := BG_1 (List.mem_of_getElem? (i := 187) rfl) rfl
theorem st_L_storey : Cond.static y_L_storey ∈ BG := BG_1 (List.mem_of_getElem? (i := 188) rfl) rfl
theorem cw_L_storey : Cond.codeWith y_L_storey b_L_storey 4 (some .int) [((0 : Nat), (9 : Nat), (12 : Nat), (13 : Nat)), ((0 : Nat), (9 : Nat), (15 : Nat), (15 : Nat))] ∈ BG := BG_1 (List.mem_of_getElem? (i := 189) rfl) rfl
theorem cl_L_13 : Cond.classLink R_L 13 "java/lang/IllegalArgumentException" ∈ BG := BG_1 (List.mem_of_getElem? (i := 190) rfl) rfl
theorem cl_L_15 : Cond.classLink R_L 15 "java/lang/IllegalStateException" ∈ BG := BG_1 (List.mem_of_getElem? (i := 191) rfl) rfl
theorem ml_L_7 : Cond.methodLink R_L 7 y_C_storey ∈ BG := BG_1 (List.mem_of_getElem? (i := 192) rfl) rfl
theorem im_C_storey : Cond.instanceMethod y_C_storey ∈ BG := BG_1 (List.mem_of_getElem? (i := 193) rfl) rfl
theorem se_C_storey : Cond.selects R_C y_C_storey y_C_storey ∈ BG := BG_1 (List.mem_of_getElem? (i := 194) rfl) rfl
theorem co_C_storey : Cond.code y_C_storey b_C_storey 3 (some .int) ∈ BG := BG_1 (List.mem_of_getElem? (i := 195) rfl) rfl
theorem ml_C_48 : Cond.methodLink R_C 48 y_C_checkLevel ∈ BG := BG_1 (List.mem_of_getElem? (i := 196) rfl) rfl
theorem im_C_checkLevel : Cond.instanceMethod y_C_checkLevel ∈ BG := BG_1 (List.mem_of_getElem? (i := 198) rfl) rfl
theorem co_C_checkLevel : Cond.code y_C_checkLevel b_C_checkLevel 3 none ∈ BG := BG_1 (List.mem_of_getElem? (i := 199) rfl) rfl
theorem cl_C_90 : Cond.classLink R_C 90 "java/lang/IllegalArgumentException" ∈ BG := BG_1 (List.mem_of_getElem? (i := 200) rfl) rfl
theorem ins_IllegalArgumentException : Cond.instantiable "java/lang/IllegalArgumentException" 6 ∈ BG := BG_1 (List.mem_of_getElem? (i := 201) rfl) rfl
theorem im_Throwable_initV : Cond.instanceMethod ⟨"java/lang/Throwable", "<init>", "()V"⟩ ∈ BG := BG_1 (List.mem_of_getElem? (i := 223) rfl) rfl
theorem im_Throwable_fillInStackTraceLjavalangThrowable : Cond.instanceMethod ⟨"java/lang/Throwable", "fillInStackTrace", "()Ljava/lang/Throwable;"⟩ ∈ BG := BG_1 (List.mem_of_getElem? (i := 231) rfl) rfl
theorem im_Throwable_fillInStackTraceILjavalangThrowable : Cond.instanceMethod ⟨"java/lang/Throwable", "fillInStackTrace", "(I)Ljava/lang/Throwable;"⟩ ∈ BG := BG_1 (List.mem_of_getElem? (i := 237) rfl) rfl
theorem ins_Throwable : Cond.instantiable "java/lang/Throwable" 6 ∈ BG := BG_1 (List.mem_of_getElem? (i := 238) rfl) rfl
theorem ml_C_94 : Cond.methodLink R_C 94 ⟨"java/lang/IllegalArgumentException", "<init>", "(Ljava/lang/String;)V"⟩ ∈ BG := BG_2 (List.mem_of_getElem? (i := 1) rfl) rfl
theorem im_IllegalArgumentException_initLjavalangStringV : Cond.instanceMethod ⟨"java/lang/IllegalArgumentException", "<init>", "(Ljava/lang/String;)V"⟩ ∈ BG := BG_2 (List.mem_of_getElem? (i := 2) rfl) rfl
theorem im_RuntimeException_initLjavalangStringV : Cond.instanceMethod ⟨"java/lang/RuntimeException", "<init>", "(Ljava/lang/String;)V"⟩ ∈ BG := BG_2 (List.mem_of_getElem? (i := 5) rfl) rfl
theorem im_Exception_initLjavalangStringV : Cond.instanceMethod ⟨"java/lang/Exception", "<init>", "(Ljava/lang/String;)V"⟩ ∈ BG := BG_2 (List.mem_of_getElem? (i := 8) rfl) rfl
theorem im_Throwable_initLjavalangStringV : Cond.instanceMethod ⟨"java/lang/Throwable", "<init>", "(Ljava/lang/String;)V"⟩ ∈ BG := BG_2 (List.mem_of_getElem? (i := 11) rfl) rfl
theorem ac_byte : Cond.arrayClass .byte ∈ BG := BG_2 (List.mem_of_getElem? (i := 26) rfl) rfl
theorem ml_C_231 : Cond.methodLink R_C 231 y_S_isBetweenNeighbours ∈ BG := BG_2 (List.mem_of_getElem? (i := 27) rfl) rfl
theorem im_S_isBetweenNeighbours : Cond.instanceMethod y_S_isBetweenNeighbours ∈ BG := BG_2 (List.mem_of_getElem? (i := 28) rfl) rfl
theorem se_S_isBetweenNeighbours : Cond.selects R_S y_S_isBetweenNeighbours y_S_isBetweenNeighbours ∈ BG := BG_2 (List.mem_of_getElem? (i := 29) rfl) rfl
theorem co_S_isBetweenNeighbours : Cond.code y_S_isBetweenNeighbours b_S_isBetweenNeighbours 3 (some .boolean) ∈ BG := BG_2 (List.mem_of_getElem? (i := 30) rfl) rfl
theorem cl_C_52 : Cond.classLink R_C 52 "java/lang/IllegalStateException" ∈ BG := BG_2 (List.mem_of_getElem? (i := 32) rfl) rfl
theorem ins_IllegalStateException : Cond.instantiable "java/lang/IllegalStateException" 6 ∈ BG := BG_2 (List.mem_of_getElem? (i := 33) rfl) rfl
theorem ml_C_56 : Cond.methodLink R_C 56 ⟨"java/lang/IllegalStateException", "<init>", "(Ljava/lang/String;)V"⟩ ∈ BG := BG_2 (List.mem_of_getElem? (i := 42) rfl) rfl
theorem im_IllegalStateException_initLjavalangStringV : Cond.instanceMethod ⟨"java/lang/IllegalStateException", "<init>", "(Ljava/lang/String;)V"⟩ ∈ BG := BG_2 (List.mem_of_getElem? (i := 43) rfl) rfl
theorem ml_C_59 : Cond.methodLink R_C 59 y_C_checkRoomForAct ∈ BG := BG_2 (List.mem_of_getElem? (i := 48) rfl) rfl
theorem im_C_checkRoomForAct : Cond.instanceMethod y_C_checkRoomForAct ∈ BG := BG_2 (List.mem_of_getElem? (i := 50) rfl) rfl
theorem co_C_checkRoomForAct : Cond.code y_C_checkRoomForAct b_C_checkRoomForAct 1 none ∈ BG := BG_2 (List.mem_of_getElem? (i := 51) rfl) rfl
theorem ml_C_66 : Cond.methodLink R_C 66 y_C_perform ∈ BG := BG_2 (List.mem_of_getElem? (i := 53) rfl) rfl
theorem im_C_perform : Cond.instanceMethod y_C_perform ∈ BG := BG_2 (List.mem_of_getElem? (i := 55) rfl) rfl
theorem co_C_perform : Cond.code y_C_perform b_C_perform 5 none ∈ BG := BG_2 (List.mem_of_getElem? (i := 56) rfl) rfl
theorem ml_C_251 : Cond.methodLink R_C 251 y_H_write ∈ BG := BG_2 (List.mem_of_getElem? (i := 57) rfl) rfl
theorem im_H_write : Cond.instanceMethod y_H_write ∈ BG := BG_2 (List.mem_of_getElem? (i := 58) rfl) rfl
theorem se_H_write : Cond.selects R_H y_H_write y_H_write ∈ BG := BG_2 (List.mem_of_getElem? (i := 59) rfl) rfl
theorem co_H_write : Cond.code y_H_write b_H_write 5 none ∈ BG := BG_2 (List.mem_of_getElem? (i := 60) rfl) rfl
theorem ml_L_87 : Cond.methodLink R_L 87 y_L_level ∈ BG := BG_2 (List.mem_of_getElem? (i := 61) rfl) rfl
theorem st_L_level : Cond.static y_L_level ∈ BG := BG_2 (List.mem_of_getElem? (i := 62) rfl) rfl
theorem cw_L_level : Cond.codeWith y_L_level b_L_level 4 (some .int) [((0 : Nat), (6 : Nat), (9 : Nat), (13 : Nat)), ((0 : Nat), (6 : Nat), (12 : Nat), (15 : Nat))] ∈ BG := BG_2 (List.mem_of_getElem? (i := 63) rfl) rfl
theorem ml_L_17 : Cond.methodLink R_L 17 y_C_level ∈ BG := BG_2 (List.mem_of_getElem? (i := 64) rfl) rfl
theorem im_C_level : Cond.instanceMethod y_C_level ∈ BG := BG_2 (List.mem_of_getElem? (i := 65) rfl) rfl
theorem se_C_level : Cond.selects R_C y_C_level y_C_level ∈ BG := BG_2 (List.mem_of_getElem? (i := 66) rfl) rfl
theorem co_C_level : Cond.code y_C_level b_C_level 3 none ∈ BG := BG_2 (List.mem_of_getElem? (i := 67) rfl) rfl
theorem ml_C_70 : Cond.methodLink R_C 70 y_C_checkStorey ∈ BG := BG_2 (List.mem_of_getElem? (i := 68) rfl) rfl
theorem im_C_checkStorey : Cond.instanceMethod y_C_checkStorey ∈ BG := BG_2 (List.mem_of_getElem? (i := 70) rfl) rfl
theorem co_C_checkStorey : Cond.code y_C_checkStorey b_C_checkStorey 2 none ∈ BG := BG_2 (List.mem_of_getElem? (i := 71) rfl) rfl
theorem ml_C_226 : Cond.methodLink R_C 226 y_S_has ∈ BG := BG_2 (List.mem_of_getElem? (i := 72) rfl) rfl
theorem im_S_has : Cond.instanceMethod y_S_has ∈ BG := BG_2 (List.mem_of_getElem? (i := 73) rfl) rfl
theorem se_S_has : Cond.selects R_S y_S_has y_S_has ∈ BG := BG_2 (List.mem_of_getElem? (i := 74) rfl) rfl
theorem co_S_has : Cond.code y_S_has b_S_has 2 (some .boolean) ∈ BG := BG_2 (List.mem_of_getElem? (i := 75) rfl) rfl
theorem ml_L_91 : Cond.methodLink R_L 91 y_L_type ∈ BG := BG_2 (List.mem_of_getElem? (i := 77) rfl) rfl
theorem st_L_type : Cond.static y_L_type ∈ BG := BG_2 (List.mem_of_getElem? (i := 78) rfl) rfl
theorem cw_L_type : Cond.codeWith y_L_type b_L_type 4 (some .int) [((0 : Nat), (9 : Nat), (12 : Nat), (13 : Nat)), ((0 : Nat), (9 : Nat), (15 : Nat), (15 : Nat))] ∈ BG := BG_2 (List.mem_of_getElem? (i := 79) rfl) rfl
theorem ml_L_21 : Cond.methodLink R_L 21 y_C_type ∈ BG := BG_2 (List.mem_of_getElem? (i := 80) rfl) rfl
theorem im_C_type : Cond.instanceMethod y_C_type ∈ BG := BG_2 (List.mem_of_getElem? (i := 81) rfl) rfl
theorem se_C_type : Cond.selects R_C y_C_type y_C_type ∈ BG := BG_2 (List.mem_of_getElem? (i := 82) rfl) rfl
theorem co_C_type : Cond.code y_C_type b_C_type 3 (some .int) ∈ BG := BG_2 (List.mem_of_getElem? (i := 83) rfl) rfl
theorem ml_C_75 : Cond.methodLink R_C 75 y_C_checkThickness ∈ BG := BG_2 (List.mem_of_getElem? (i := 84) rfl) rfl
theorem st_C_checkThickness : Cond.static y_C_checkThickness ∈ BG := BG_2 (List.mem_of_getElem? (i := 85) rfl) rfl
theorem co_C_checkThickness : Cond.code y_C_checkThickness b_C_checkThickness 1 none ∈ BG := BG_2 (List.mem_of_getElem? (i := 86) rfl) rfl
theorem ml_L_94 : Cond.methodLink R_L 94 y_L_thickness ∈ BG := BG_2 (List.mem_of_getElem? (i := 89) rfl) rfl
theorem st_L_thickness : Cond.static y_L_thickness ∈ BG := BG_2 (List.mem_of_getElem? (i := 90) rfl) rfl
theorem cw_L_thickness : Cond.codeWith y_L_thickness b_L_thickness 4 (some .int) [((0 : Nat), (6 : Nat), (9 : Nat), (13 : Nat)), ((0 : Nat), (6 : Nat), (12 : Nat), (15 : Nat))] ∈ BG := BG_2 (List.mem_of_getElem? (i := 91) rfl) rfl
theorem ml_L_24 : Cond.methodLink R_L 24 y_C_thickness ∈ BG := BG_2 (List.mem_of_getElem? (i := 92) rfl) rfl
theorem im_C_thickness : Cond.instanceMethod y_C_thickness ∈ BG := BG_2 (List.mem_of_getElem? (i := 93) rfl) rfl
theorem se_C_thickness : Cond.selects R_C y_C_thickness y_C_thickness ∈ BG := BG_2 (List.mem_of_getElem? (i := 94) rfl) rfl
theorem co_C_thickness : Cond.code y_C_thickness b_C_thickness 3 none ∈ BG := BG_2 (List.mem_of_getElem? (i := 95) rfl) rfl
theorem ml_C_83 : Cond.methodLink R_C 83 y_C_checkType ∈ BG := BG_2 (List.mem_of_getElem? (i := 96) rfl) rfl
theorem im_C_checkType : Cond.instanceMethod y_C_checkType ∈ BG := BG_2 (List.mem_of_getElem? (i := 98) rfl) rfl
theorem co_C_checkType : Cond.code y_C_checkType b_C_checkType 2 none ∈ BG := BG_2 (List.mem_of_getElem? (i := 99) rfl) rfl
theorem ml_C_236 : Cond.methodLink R_C 236 y_T_has ∈ BG := BG_2 (List.mem_of_getElem? (i := 100) rfl) rfl
theorem im_T_has : Cond.instanceMethod y_T_has ∈ BG := BG_2 (List.mem_of_getElem? (i := 101) rfl) rfl
theorem se_T_has : Cond.selects R_T y_T_has y_T_has ∈ BG := BG_2 (List.mem_of_getElem? (i := 102) rfl) rfl
theorem co_T_has : Cond.code y_T_has b_T_has 2 (some .boolean) ∈ BG := BG_2 (List.mem_of_getElem? (i := 103) rfl) rfl
theorem ml_L_97 : Cond.methodLink R_L 97 y_L_wall ∈ BG := BG_2 (List.mem_of_getElem? (i := 105) rfl) rfl
theorem st_L_wall : Cond.static y_L_wall ∈ BG := BG_2 (List.mem_of_getElem? (i := 106) rfl) rfl
theorem cw_L_wall : Cond.codeWith y_L_wall b_L_wall 9 (some .int) [((0 : Nat), (18 : Nat), (21 : Nat), (13 : Nat)), ((0 : Nat), (18 : Nat), (25 : Nat), (15 : Nat))] ∈ BG := BG_2 (List.mem_of_getElem? (i := 107) rfl) rfl
theorem ml_L_27 : Cond.methodLink R_L 27 y_C_wall ∈ BG := BG_2 (List.mem_of_getElem? (i := 108) rfl) rfl
theorem im_C_wall : Cond.instanceMethod y_C_wall ∈ BG := BG_2 (List.mem_of_getElem? (i := 109) rfl) rfl
theorem se_C_wall : Cond.selects R_C y_C_wall y_C_wall ∈ BG := BG_2 (List.mem_of_getElem? (i := 110) rfl) rfl
theorem co_C_wall : Cond.code y_C_wall b_C_wall 8 (some .int) ∈ BG := BG_2 (List.mem_of_getElem? (i := 111) rfl) rfl
theorem ml_C_86 : Cond.methodLink R_C 86 y_C_checkPlace ∈ BG := BG_2 (List.mem_of_getElem? (i := 112) rfl) rfl
theorem st_C_checkPlace : Cond.static y_C_checkPlace ∈ BG := BG_2 (List.mem_of_getElem? (i := 113) rfl) rfl
theorem co_C_checkPlace : Cond.code y_C_checkPlace b_C_checkPlace 4 none ∈ BG := BG_2 (List.mem_of_getElem? (i := 114) rfl) rfl
theorem kl_C_243 : Cond.constantLong R_C 243 (-1000 : Int64) ∈ BG := BG_2 (List.mem_of_getElem? (i := 115) rfl) rfl
theorem kl_C_245 : Cond.constantLong R_C 245 (1000 : Int64) ∈ BG := BG_2 (List.mem_of_getElem? (i := 116) rfl) rfl
theorem ml_C_98 : Cond.methodLink R_C 98 y_W_writeNext ∈ BG := BG_2 (List.mem_of_getElem? (i := 120) rfl) rfl
theorem im_W_writeNext : Cond.instanceMethod y_W_writeNext ∈ BG := BG_2 (List.mem_of_getElem? (i := 121) rfl) rfl
theorem se_W_writeNext : Cond.selects R_W y_W_writeNext y_W_writeNext ∈ BG := BG_2 (List.mem_of_getElem? (i := 122) rfl) rfl
theorem co_W_writeNext : Cond.code y_W_writeNext b_W_writeNext 7 none ∈ BG := BG_2 (List.mem_of_getElem? (i := 123) rfl) rfl
theorem ml_L_101 : Cond.methodLink R_L 101 y_L_move ∈ BG := BG_2 (List.mem_of_getElem? (i := 124) rfl) rfl
theorem st_L_move : Cond.static y_L_move ∈ BG := BG_2 (List.mem_of_getElem? (i := 125) rfl) rfl
theorem cw_L_move : Cond.codeWith y_L_move b_L_move 5 (some .int) [((0 : Nat), (7 : Nat), (10 : Nat), (13 : Nat)), ((0 : Nat), (7 : Nat), (14 : Nat), (15 : Nat))] ∈ BG := BG_2 (List.mem_of_getElem? (i := 126) rfl) rfl
theorem ml_L_31 : Cond.methodLink R_L 31 y_C_move ∈ BG := BG_2 (List.mem_of_getElem? (i := 127) rfl) rfl
theorem im_C_move : Cond.instanceMethod y_C_move ∈ BG := BG_2 (List.mem_of_getElem? (i := 128) rfl) rfl
theorem se_C_move : Cond.selects R_C y_C_move y_C_move ∈ BG := BG_2 (List.mem_of_getElem? (i := 129) rfl) rfl
theorem co_C_move : Cond.code y_C_move b_C_move 4 none ∈ BG := BG_2 (List.mem_of_getElem? (i := 130) rfl) rfl
theorem ml_C_102 : Cond.methodLink R_C 102 y_C_checkWall ∈ BG := BG_2 (List.mem_of_getElem? (i := 131) rfl) rfl
theorem im_C_checkWall : Cond.instanceMethod y_C_checkWall ∈ BG := BG_2 (List.mem_of_getElem? (i := 133) rfl) rfl
theorem co_C_checkWall : Cond.code y_C_checkWall b_C_checkWall 2 none ∈ BG := BG_2 (List.mem_of_getElem? (i := 134) rfl) rfl
theorem ml_C_188 : Cond.methodLink R_C 188 y_W_isThere ∈ BG := BG_2 (List.mem_of_getElem? (i := 135) rfl) rfl
theorem im_W_isThere : Cond.instanceMethod y_W_isThere ∈ BG := BG_2 (List.mem_of_getElem? (i := 136) rfl) rfl
theorem se_W_isThere : Cond.selects R_W y_W_isThere y_W_isThere ∈ BG := BG_2 (List.mem_of_getElem? (i := 137) rfl) rfl
theorem co_W_isThere : Cond.code y_W_isThere b_W_isThere 2 (some .boolean) ∈ BG := BG_2 (List.mem_of_getElem? (i := 138) rfl) rfl
theorem ml_L_105 : Cond.methodLink R_L 105 y_L_retype ∈ BG := BG_2 (List.mem_of_getElem? (i := 140) rfl) rfl
theorem st_L_retype : Cond.static y_L_retype ∈ BG := BG_2 (List.mem_of_getElem? (i := 141) rfl) rfl
theorem cw_L_retype : Cond.codeWith y_L_retype b_L_retype 4 (some .int) [((0 : Nat), (6 : Nat), (9 : Nat), (13 : Nat)), ((0 : Nat), (6 : Nat), (12 : Nat), (15 : Nat))] ∈ BG := BG_2 (List.mem_of_getElem? (i := 142) rfl) rfl
theorem ml_L_35 : Cond.methodLink R_L 35 y_C_retype ∈ BG := BG_2 (List.mem_of_getElem? (i := 143) rfl) rfl
theorem im_C_retype : Cond.instanceMethod y_C_retype ∈ BG := BG_2 (List.mem_of_getElem? (i := 144) rfl) rfl
theorem se_C_retype : Cond.selects R_C y_C_retype y_C_retype ∈ BG := BG_2 (List.mem_of_getElem? (i := 145) rfl) rfl
theorem co_C_retype : Cond.code y_C_retype b_C_retype 3 none ∈ BG := BG_2 (List.mem_of_getElem? (i := 146) rfl) rfl
theorem ml_L_108 : Cond.methodLink R_L 108 y_L_remove ∈ BG := BG_2 (List.mem_of_getElem? (i := 147) rfl) rfl
theorem st_L_remove : Cond.static y_L_remove ∈ BG := BG_2 (List.mem_of_getElem? (i := 148) rfl) rfl
theorem cw_L_remove : Cond.codeWith y_L_remove b_L_remove 3 (some .int) [((0 : Nat), (5 : Nat), (8 : Nat), (13 : Nat)), ((0 : Nat), (5 : Nat), (11 : Nat), (15 : Nat))] ∈ BG := BG_2 (List.mem_of_getElem? (i := 149) rfl) rfl
theorem ml_L_38 : Cond.methodLink R_L 38 y_C_remove ∈ BG := BG_2 (List.mem_of_getElem? (i := 150) rfl) rfl
theorem im_C_remove : Cond.instanceMethod y_C_remove ∈ BG := BG_2 (List.mem_of_getElem? (i := 151) rfl) rfl
theorem se_C_remove : Cond.selects R_C y_C_remove y_C_remove ∈ BG := BG_2 (List.mem_of_getElem? (i := 152) rfl) rfl
theorem co_C_remove : Cond.code y_C_remove b_C_remove 2 none ∈ BG := BG_2 (List.mem_of_getElem? (i := 153) rfl) rfl
theorem ml_L_112 : Cond.methodLink R_L 112 y_L_opening ∈ BG := BG_2 (List.mem_of_getElem? (i := 154) rfl) rfl
theorem st_L_opening : Cond.static y_L_opening ∈ BG := BG_2 (List.mem_of_getElem? (i := 155) rfl) rfl
theorem cw_L_opening : Cond.codeWith y_L_opening b_L_opening 6 (some .int) [((0 : Nat), (12 : Nat), (15 : Nat), (13 : Nat)), ((0 : Nat), (12 : Nat), (19 : Nat), (15 : Nat))] ∈ BG := BG_2 (List.mem_of_getElem? (i := 156) rfl) rfl
theorem ml_L_42 : Cond.methodLink R_L 42 y_C_opening ∈ BG := BG_2 (List.mem_of_getElem? (i := 157) rfl) rfl
theorem im_C_opening : Cond.instanceMethod y_C_opening ∈ BG := BG_2 (List.mem_of_getElem? (i := 158) rfl) rfl
theorem se_C_opening : Cond.selects R_C y_C_opening y_C_opening ∈ BG := BG_2 (List.mem_of_getElem? (i := 159) rfl) rfl
theorem co_C_opening : Cond.code y_C_opening b_C_opening 5 (some .int) ∈ BG := BG_2 (List.mem_of_getElem? (i := 160) rfl) rfl
theorem ml_C_117 : Cond.methodLink R_C 117 y_W_length ∈ BG := BG_2 (List.mem_of_getElem? (i := 161) rfl) rfl
theorem im_W_length : Cond.instanceMethod y_W_length ∈ BG := BG_2 (List.mem_of_getElem? (i := 162) rfl) rfl
theorem se_W_length : Cond.selects R_W y_W_length y_W_length ∈ BG := BG_2 (List.mem_of_getElem? (i := 163) rfl) rfl
theorem co_W_length : Cond.code y_W_length b_W_length 2 (some .int) ∈ BG := BG_2 (List.mem_of_getElem? (i := 164) rfl) rfl
theorem ml_W_42 : Cond.methodLink R_W 42 ⟨"java/lang/Math", "abs", "(I)I"⟩ ∈ BG := BG_2 (List.mem_of_getElem? (i := 165) rfl) rfl
theorem st_Math_absII : Cond.static ⟨"java/lang/Math", "abs", "(I)I"⟩ ∈ BG := BG_2 (List.mem_of_getElem? (i := 166) rfl) rfl
theorem co_Math_absII : Cond.code ⟨"java/lang/Math", "abs", "(I)I"⟩ prog_12_method_59_code 1 (Option.some Jvm.ClassFile.FieldType.int) ∈ BG := BG_2 (List.mem_of_getElem? (i := 167) rfl) rfl
theorem ml_C_124 : Cond.methodLink R_C 124 y_O_overlap ∈ BG := BG_2 (List.mem_of_getElem? (i := 169) rfl) rfl
theorem im_O_overlap : Cond.instanceMethod y_O_overlap ∈ BG := BG_2 (List.mem_of_getElem? (i := 170) rfl) rfl
theorem se_O_overlap : Cond.selects R_O y_O_overlap y_O_overlap ∈ BG := BG_2 (List.mem_of_getElem? (i := 171) rfl) rfl
theorem co_O_overlap : Cond.code y_O_overlap b_O_overlap 5 (some .boolean) ∈ BG := BG_2 (List.mem_of_getElem? (i := 172) rfl) rfl
theorem ml_C_132 : Cond.methodLink R_C 132 y_O_write ∈ BG := BG_2 (List.mem_of_getElem? (i := 175) rfl) rfl
theorem im_O_write : Cond.instanceMethod y_O_write ∈ BG := BG_2 (List.mem_of_getElem? (i := 176) rfl) rfl
theorem se_O_write : Cond.selects R_O y_O_write y_O_write ∈ BG := BG_2 (List.mem_of_getElem? (i := 177) rfl) rfl
theorem co_O_write : Cond.code y_O_write b_O_write 5 none ∈ BG := BG_2 (List.mem_of_getElem? (i := 178) rfl) rfl
theorem ml_L_116 : Cond.methodLink R_L 116 y_L_copy ∈ BG := BG_2 (List.mem_of_getElem? (i := 179) rfl) rfl
theorem st_L_copy : Cond.static y_L_copy ∈ BG := BG_2 (List.mem_of_getElem? (i := 180) rfl) rfl
theorem cw_L_copy : Cond.codeWith y_L_copy b_L_copy 5 (some .int) [((0 : Nat), (10 : Nat), (13 : Nat), (13 : Nat)), ((0 : Nat), (10 : Nat), (17 : Nat), (15 : Nat))] ∈ BG := BG_2 (List.mem_of_getElem? (i := 181) rfl) rfl
theorem ml_L_46 : Cond.methodLink R_L 46 y_C_copy ∈ BG := BG_2 (List.mem_of_getElem? (i := 182) rfl) rfl
theorem im_C_copy : Cond.instanceMethod y_C_copy ∈ BG := BG_2 (List.mem_of_getElem? (i := 183) rfl) rfl
theorem se_C_copy : Cond.selects R_C y_C_copy y_C_copy ∈ BG := BG_2 (List.mem_of_getElem? (i := 184) rfl) rfl
theorem co_C_copy : Cond.code y_C_copy b_C_copy 5 (some .int) ∈ BG := BG_2 (List.mem_of_getElem? (i := 185) rfl) rfl
theorem ml_C_137 : Cond.methodLink R_C 137 y_W_manyOn ∈ BG := BG_2 (List.mem_of_getElem? (i := 187) rfl) rfl
theorem im_W_manyOn : Cond.instanceMethod y_W_manyOn ∈ BG := BG_2 (List.mem_of_getElem? (i := 188) rfl) rfl
theorem se_W_manyOn : Cond.selects R_W y_W_manyOn y_W_manyOn ∈ BG := BG_2 (List.mem_of_getElem? (i := 189) rfl) rfl
theorem co_W_manyOn : Cond.code y_W_manyOn b_W_manyOn 4 (some .int) ∈ BG := BG_2 (List.mem_of_getElem? (i := 190) rfl) rfl
theorem ml_W_48 : Cond.methodLink R_W 48 y_W_isOn ∈ BG := BG_2 (List.mem_of_getElem? (i := 191) rfl) rfl
theorem im_W_isOn : Cond.instanceMethod y_W_isOn ∈ BG := BG_2 (List.mem_of_getElem? (i := 192) rfl) rfl
theorem se_W_isOn : Cond.selects R_W y_W_isOn y_W_isOn ∈ BG := BG_2 (List.mem_of_getElem? (i := 193) rfl) rfl
theorem co_W_isOn : Cond.code y_W_isOn b_W_isOn 3 (some .boolean) ∈ BG := BG_2 (List.mem_of_getElem? (i := 194) rfl) rfl
theorem ml_W_38 : Cond.methodLink R_W 38 y_W_isThere ∈ BG := BG_2 (List.mem_of_getElem? (i := 195) rfl) rfl
theorem ml_C_140 : Cond.methodLink R_C 140 y_C_openingsOn ∈ BG := BG_2 (List.mem_of_getElem? (i := 196) rfl) rfl
theorem im_C_openingsOn : Cond.instanceMethod y_C_openingsOn ∈ BG := BG_2 (List.mem_of_getElem? (i := 198) rfl) rfl
theorem co_C_openingsOn : Cond.code y_C_openingsOn b_C_openingsOn 4 (some .int) ∈ BG := BG_2 (List.mem_of_getElem? (i := 199) rfl) rfl
theorem ml_C_219 : Cond.methodLink R_C 219 y_W_isOn ∈ BG := BG_2 (List.mem_of_getElem? (i := 200) rfl) rfl
theorem ml_C_147 : Cond.methodLink R_C 147 y_C_writeCopies ∈ BG := BG_2 (List.mem_of_getElem? (i := 203) rfl) rfl
theorem im_C_writeCopies : Cond.instanceMethod y_C_writeCopies ∈ BG := BG_2 (List.mem_of_getElem? (i := 205) rfl) rfl
theorem co_C_writeCopies : Cond.code y_C_writeCopies b_C_writeCopies 6 none ∈ BG := BG_2 (List.mem_of_getElem? (i := 206) rfl) rfl
theorem ml_C_276 : Cond.methodLink R_C 276 y_W_writeCopy ∈ BG := BG_2 (List.mem_of_getElem? (i := 207) rfl) rfl
theorem im_W_writeCopy : Cond.instanceMethod y_W_writeCopy ∈ BG := BG_2 (List.mem_of_getElem? (i := 208) rfl) rfl
theorem se_W_writeCopy : Cond.selects R_W y_W_writeCopy y_W_writeCopy ∈ BG := BG_2 (List.mem_of_getElem? (i := 209) rfl) rfl
theorem co_W_writeCopy : Cond.code y_W_writeCopy b_W_writeCopy 4 none ∈ BG := BG_2 (List.mem_of_getElem? (i := 210) rfl) rfl
theorem ml_C_279 : Cond.methodLink R_C 279 y_O_writeCopies ∈ BG := BG_2 (List.mem_of_getElem? (i := 211) rfl) rfl
theorem im_O_writeCopies : Cond.instanceMethod y_O_writeCopies ∈ BG := BG_2 (List.mem_of_getElem? (i := 212) rfl) rfl
theorem se_O_writeCopies : Cond.selects R_O y_O_writeCopies y_O_writeCopies ∈ BG := BG_2 (List.mem_of_getElem? (i := 213) rfl) rfl
theorem co_O_writeCopies : Cond.code y_O_writeCopies b_O_writeCopies 6 (some .int) ∈ BG := BG_2 (List.mem_of_getElem? (i := 214) rfl) rfl
theorem ml_O_25 : Cond.methodLink R_O 25 y_O_write ∈ BG := BG_2 (List.mem_of_getElem? (i := 215) rfl) rfl
theorem ml_L_129 : Cond.methodLink R_L 129 y_L_acts ∈ BG := BG_2 (List.mem_of_getElem? (i := 216) rfl) rfl
theorem st_L_acts : Cond.static y_L_acts ∈ BG := BG_2 (List.mem_of_getElem? (i := 217) rfl) rfl
theorem cw_L_acts : Cond.codeWith y_L_acts b_L_acts 4 (some .int) [((0 : Nat), (9 : Nat), (12 : Nat), (13 : Nat))] ∈ BG := BG_2 (List.mem_of_getElem? (i := 218) rfl) rfl
theorem ml_L_50 : Cond.methodLink R_L 50 y_C_acts ∈ BG := BG_2 (List.mem_of_getElem? (i := 219) rfl) rfl
theorem im_C_acts : Cond.instanceMethod y_C_acts ∈ BG := BG_2 (List.mem_of_getElem? (i := 220) rfl) rfl
theorem se_C_acts : Cond.selects R_C y_C_acts y_C_acts ∈ BG := BG_2 (List.mem_of_getElem? (i := 221) rfl) rfl
theorem co_C_acts : Cond.code y_C_acts b_C_acts 2 (some .int) ∈ BG := BG_2 (List.mem_of_getElem? (i := 222) rfl) rfl
theorem ml_L_132 : Cond.methodLink R_L 132 y_L_many ∈ BG := BG_2 (List.mem_of_getElem? (i := 224) rfl) rfl
theorem st_L_many : Cond.static y_L_many ∈ BG := BG_2 (List.mem_of_getElem? (i := 225) rfl) rfl
theorem cw_L_many : Cond.codeWith y_L_many b_L_many 4 (some .int) [((0 : Nat), (9 : Nat), (12 : Nat), (13 : Nat))] ∈ BG := BG_2 (List.mem_of_getElem? (i := 226) rfl) rfl
theorem ml_L_53 : Cond.methodLink R_L 53 y_C_many ∈ BG := BG_2 (List.mem_of_getElem? (i := 227) rfl) rfl
theorem im_C_many : Cond.instanceMethod y_C_many ∈ BG := BG_2 (List.mem_of_getElem? (i := 228) rfl) rfl
theorem se_C_many : Cond.selects R_C y_C_many y_C_many ∈ BG := BG_2 (List.mem_of_getElem? (i := 229) rfl) rfl
theorem co_C_many : Cond.code y_C_many b_C_many 2 (some .int) ∈ BG := BG_2 (List.mem_of_getElem? (i := 230) rfl) rfl
theorem ml_L_135 : Cond.methodLink R_L 135 y_L_wallAt ∈ BG := BG_2 (List.mem_of_getElem? (i := 232) rfl) rfl
theorem st_L_wallAt : Cond.static y_L_wallAt ∈ BG := BG_2 (List.mem_of_getElem? (i := 233) rfl) rfl
theorem cw_L_wallAt : Cond.codeWith y_L_wallAt b_L_wallAt 5 (some .int) [((0 : Nat), (9 : Nat), (12 : Nat), (13 : Nat))] ∈ BG := BG_2 (List.mem_of_getElem? (i := 234) rfl) rfl
theorem ml_L_56 : Cond.methodLink R_L 56 y_C_wallAt ∈ BG := BG_2 (List.mem_of_getElem? (i := 235) rfl) rfl
theorem im_C_wallAt : Cond.instanceMethod y_C_wallAt ∈ BG := BG_2 (List.mem_of_getElem? (i := 236) rfl) rfl
theorem se_C_wallAt : Cond.selects R_C y_C_wallAt y_C_wallAt ∈ BG := BG_2 (List.mem_of_getElem? (i := 237) rfl) rfl
theorem co_C_wallAt : Cond.code y_C_wallAt b_C_wallAt 3 (some .long) ∈ BG := BG_2 (List.mem_of_getElem? (i := 238) rfl) rfl
theorem ml_C_170 : Cond.methodLink R_C 170 y_C_netLength ∈ BG := BG_2 (List.mem_of_getElem? (i := 239) rfl) rfl
theorem im_C_netLength : Cond.instanceMethod y_C_netLength ∈ BG := BG_3 (List.mem_of_getElem? (i := 1) rfl) rfl
theorem co_C_netLength : Cond.code y_C_netLength b_C_netLength 4 (some .long) ∈ BG := BG_3 (List.mem_of_getElem? (i := 2) rfl) rfl
theorem ml_C_281 : Cond.methodLink R_C 281 y_W_leastAcross ∈ BG := BG_3 (List.mem_of_getElem? (i := 3) rfl) rfl
theorem im_W_leastAcross : Cond.instanceMethod y_W_leastAcross ∈ BG := BG_3 (List.mem_of_getElem? (i := 4) rfl) rfl
theorem se_W_leastAcross : Cond.selects R_W y_W_leastAcross y_W_leastAcross ∈ BG := BG_3 (List.mem_of_getElem? (i := 5) rfl) rfl
theorem co_W_leastAcross : Cond.code y_W_leastAcross b_W_leastAcross 5 (some .int) ∈ BG := BG_3 (List.mem_of_getElem? (i := 6) rfl) rfl
theorem ml_W_55 : Cond.methodLink R_W 55 y_W_goesAlongX ∈ BG := BG_3 (List.mem_of_getElem? (i := 7) rfl) rfl
theorem im_W_goesAlongX : Cond.instanceMethod y_W_goesAlongX ∈ BG := BG_3 (List.mem_of_getElem? (i := 8) rfl) rfl
theorem se_W_goesAlongX : Cond.selects R_W y_W_goesAlongX y_W_goesAlongX ∈ BG := BG_3 (List.mem_of_getElem? (i := 9) rfl) rfl
theorem co_W_goesAlongX : Cond.code y_W_goesAlongX b_W_goesAlongX 2 (some .boolean) ∈ BG := BG_3 (List.mem_of_getElem? (i := 10) rfl) rfl
theorem ml_W_58 : Cond.methodLink R_W 58 y_W_hasEndAt ∈ BG := BG_3 (List.mem_of_getElem? (i := 11) rfl) rfl
theorem im_W_hasEndAt : Cond.instanceMethod y_W_hasEndAt ∈ BG := BG_3 (List.mem_of_getElem? (i := 12) rfl) rfl
theorem se_W_hasEndAt : Cond.selects R_W y_W_hasEndAt y_W_hasEndAt ∈ BG := BG_3 (List.mem_of_getElem? (i := 13) rfl) rfl
theorem co_W_hasEndAt : Cond.code y_W_hasEndAt b_W_hasEndAt 4 (some .boolean) ∈ BG := BG_3 (List.mem_of_getElem? (i := 14) rfl) rfl
theorem ml_C_284 : Cond.methodLink R_C 284 y_C_gainByJoin ∈ BG := BG_3 (List.mem_of_getElem? (i := 15) rfl) rfl
theorem im_C_gainByJoin : Cond.instanceMethod y_C_gainByJoin ∈ BG := BG_3 (List.mem_of_getElem? (i := 17) rfl) rfl
theorem co_C_gainByJoin : Cond.code y_C_gainByJoin b_C_gainByJoin 4 (some .int) ∈ BG := BG_3 (List.mem_of_getElem? (i := 18) rfl) rfl
theorem ml_C_288 : Cond.methodLink R_C 288 y_C_halfThickness ∈ BG := BG_3 (List.mem_of_getElem? (i := 19) rfl) rfl
theorem im_C_halfThickness : Cond.instanceMethod y_C_halfThickness ∈ BG := BG_3 (List.mem_of_getElem? (i := 21) rfl) rfl
theorem co_C_halfThickness : Cond.code y_C_halfThickness b_C_halfThickness 2 (some .int) ∈ BG := BG_3 (List.mem_of_getElem? (i := 22) rfl) rfl
theorem ml_C_174 : Cond.methodLink R_C 174 y_C_area ∈ BG := BG_3 (List.mem_of_getElem? (i := 23) rfl) rfl
theorem im_C_area : Cond.instanceMethod y_C_area ∈ BG := BG_3 (List.mem_of_getElem? (i := 25) rfl) rfl
theorem co_C_area : Cond.code y_C_area b_C_area 4 (some .long) ∈ BG := BG_3 (List.mem_of_getElem? (i := 26) rfl) rfl
theorem ml_C_201 : Cond.methodLink R_C 201 y_S_height ∈ BG := BG_3 (List.mem_of_getElem? (i := 27) rfl) rfl
theorem im_S_height : Cond.instanceMethod y_S_height ∈ BG := BG_3 (List.mem_of_getElem? (i := 28) rfl) rfl
theorem se_S_height : Cond.selects R_S y_S_height y_S_height ∈ BG := BG_3 (List.mem_of_getElem? (i := 29) rfl) rfl
theorem co_S_height : Cond.code y_S_height b_S_height 2 (some .int) ∈ BG := BG_3 (List.mem_of_getElem? (i := 30) rfl) rfl
theorem ml_C_291 : Cond.methodLink R_C 291 ⟨"java/lang/Math", "min", "(II)I"⟩ ∈ BG := BG_3 (List.mem_of_getElem? (i := 31) rfl) rfl
theorem st_Math_minIII : Cond.static ⟨"java/lang/Math", "min", "(II)I"⟩ ∈ BG := BG_3 (List.mem_of_getElem? (i := 32) rfl) rfl
theorem co_Math_minIII : Cond.code ⟨"java/lang/Math", "min", "(II)I"⟩ prog_12_method_69_code 2 (Option.some Jvm.ClassFile.FieldType.int) ∈ BG := BG_3 (List.mem_of_getElem? (i := 33) rfl) rfl
theorem ml_C_296 : Cond.methodLink R_C 296 y_O_widthOf ∈ BG := BG_3 (List.mem_of_getElem? (i := 34) rfl) rfl
theorem im_O_widthOf : Cond.instanceMethod y_O_widthOf ∈ BG := BG_3 (List.mem_of_getElem? (i := 35) rfl) rfl
theorem se_O_widthOf : Cond.selects R_O y_O_widthOf y_O_widthOf ∈ BG := BG_3 (List.mem_of_getElem? (i := 36) rfl) rfl
theorem co_O_widthOf : Cond.code y_O_widthOf b_O_widthOf 4 (some .int) ∈ BG := BG_3 (List.mem_of_getElem? (i := 37) rfl) rfl
theorem ml_C_177 : Cond.methodLink R_C 177 y_O_manyOf ∈ BG := BG_3 (List.mem_of_getElem? (i := 38) rfl) rfl
theorem im_O_manyOf : Cond.instanceMethod y_O_manyOf ∈ BG := BG_3 (List.mem_of_getElem? (i := 39) rfl) rfl
theorem se_O_manyOf : Cond.selects R_O y_O_manyOf y_O_manyOf ∈ BG := BG_3 (List.mem_of_getElem? (i := 40) rfl) rfl
theorem co_O_manyOf : Cond.code y_O_manyOf b_O_manyOf 4 (some .int) ∈ BG := BG_3 (List.mem_of_getElem? (i := 41) rfl) rfl
theorem ml_L_138 : Cond.methodLink R_L 138 y_L_openingAt ∈ BG := BG_3 (List.mem_of_getElem? (i := 43) rfl) rfl
theorem st_L_openingAt : Cond.static y_L_openingAt ∈ BG := BG_3 (List.mem_of_getElem? (i := 44) rfl) rfl
theorem cw_L_openingAt : Cond.codeWith y_L_openingAt b_L_openingAt 5 (some .int) [((0 : Nat), (10 : Nat), (13 : Nat), (13 : Nat))] ∈ BG := BG_3 (List.mem_of_getElem? (i := 45) rfl) rfl
theorem ml_L_60 : Cond.methodLink R_L 60 y_C_openingAt ∈ BG := BG_3 (List.mem_of_getElem? (i := 46) rfl) rfl
theorem im_C_openingAt : Cond.instanceMethod y_C_openingAt ∈ BG := BG_3 (List.mem_of_getElem? (i := 47) rfl) rfl
theorem se_C_openingAt : Cond.selects R_C y_C_openingAt y_C_openingAt ∈ BG := BG_3 (List.mem_of_getElem? (i := 48) rfl) rfl
theorem co_C_openingAt : Cond.code y_C_openingAt b_C_openingAt 3 (some .int) ∈ BG := BG_3 (List.mem_of_getElem? (i := 49) rfl) rfl
theorem ml_C_182 : Cond.methodLink R_C 182 y_O_has ∈ BG := BG_3 (List.mem_of_getElem? (i := 50) rfl) rfl
theorem im_O_has : Cond.instanceMethod y_O_has ∈ BG := BG_3 (List.mem_of_getElem? (i := 51) rfl) rfl
theorem se_O_has : Cond.selects R_O y_O_has y_O_has ∈ BG := BG_3 (List.mem_of_getElem? (i := 52) rfl) rfl
theorem co_O_has : Cond.code y_O_has b_O_has 2 (some .boolean) ∈ BG := BG_3 (List.mem_of_getElem? (i := 53) rfl) rfl
theorem ml_L_141 : Cond.methodLink R_L 141 y_L_storeyAt ∈ BG := BG_3 (List.mem_of_getElem? (i := 56) rfl) rfl
theorem st_L_storeyAt : Cond.static y_L_storeyAt ∈ BG := BG_3 (List.mem_of_getElem? (i := 57) rfl) rfl
theorem cw_L_storeyAt : Cond.codeWith y_L_storeyAt b_L_storeyAt 5 (some .int) [((0 : Nat), (9 : Nat), (12 : Nat), (13 : Nat))] ∈ BG := BG_3 (List.mem_of_getElem? (i := 58) rfl) rfl
theorem ml_L_63 : Cond.methodLink R_L 63 y_C_storeyAt ∈ BG := BG_3 (List.mem_of_getElem? (i := 59) rfl) rfl
theorem im_C_storeyAt : Cond.instanceMethod y_C_storeyAt ∈ BG := BG_3 (List.mem_of_getElem? (i := 60) rfl) rfl
theorem se_C_storeyAt : Cond.selects R_C y_C_storeyAt y_C_storeyAt ∈ BG := BG_3 (List.mem_of_getElem? (i := 61) rfl) rfl
theorem co_C_storeyAt : Cond.code y_C_storeyAt b_C_storeyAt 3 (some .long) ∈ BG := BG_3 (List.mem_of_getElem? (i := 62) rfl) rfl
theorem ml_C_204 : Cond.methodLink R_C 204 y_C_areaOf ∈ BG := BG_3 (List.mem_of_getElem? (i := 63) rfl) rfl
theorem im_C_areaOf : Cond.instanceMethod y_C_areaOf ∈ BG := BG_3 (List.mem_of_getElem? (i := 65) rfl) rfl
theorem co_C_areaOf : Cond.code y_C_areaOf b_C_areaOf 5 (some .long) ∈ BG := BG_3 (List.mem_of_getElem? (i := 66) rfl) rfl
theorem ml_L_144 : Cond.methodLink R_L 144 y_L_typeAt ∈ BG := BG_3 (List.mem_of_getElem? (i := 68) rfl) rfl
theorem st_L_typeAt : Cond.static y_L_typeAt ∈ BG := BG_3 (List.mem_of_getElem? (i := 69) rfl) rfl
theorem cw_L_typeAt : Cond.codeWith y_L_typeAt b_L_typeAt 5 (some .int) [((0 : Nat), (9 : Nat), (12 : Nat), (13 : Nat))] ∈ BG := BG_3 (List.mem_of_getElem? (i := 70) rfl) rfl
theorem ml_L_66 : Cond.methodLink R_L 66 y_C_typeAt ∈ BG := BG_3 (List.mem_of_getElem? (i := 71) rfl) rfl
theorem im_C_typeAt : Cond.instanceMethod y_C_typeAt ∈ BG := BG_3 (List.mem_of_getElem? (i := 72) rfl) rfl
theorem se_C_typeAt : Cond.selects R_C y_C_typeAt y_C_typeAt ∈ BG := BG_3 (List.mem_of_getElem? (i := 73) rfl) rfl
theorem co_C_typeAt : Cond.code y_C_typeAt b_C_typeAt 3 (some .long) ∈ BG := BG_3 (List.mem_of_getElem? (i := 74) rfl) rfl
theorem ml_C_209 : Cond.methodLink R_C 209 y_W_manyWith ∈ BG := BG_3 (List.mem_of_getElem? (i := 75) rfl) rfl
theorem im_W_manyWith : Cond.instanceMethod y_W_manyWith ∈ BG := BG_3 (List.mem_of_getElem? (i := 76) rfl) rfl
theorem se_W_manyWith : Cond.selects R_W y_W_manyWith y_W_manyWith ∈ BG := BG_3 (List.mem_of_getElem? (i := 77) rfl) rfl
theorem co_W_manyWith : Cond.code y_W_manyWith b_W_manyWith 4 (some .int) ∈ BG := BG_3 (List.mem_of_getElem? (i := 78) rfl) rfl
theorem ml_W_52 : Cond.methodLink R_W 52 y_W_isWith ∈ BG := BG_3 (List.mem_of_getElem? (i := 79) rfl) rfl
theorem im_W_isWith : Cond.instanceMethod y_W_isWith ∈ BG := BG_3 (List.mem_of_getElem? (i := 80) rfl) rfl
theorem se_W_isWith : Cond.selects R_W y_W_isWith y_W_isWith ∈ BG := BG_3 (List.mem_of_getElem? (i := 81) rfl) rfl
theorem co_W_isWith : Cond.code y_W_isWith b_W_isWith 3 (some .boolean) ∈ BG := BG_3 (List.mem_of_getElem? (i := 82) rfl) rfl
theorem ml_C_212 : Cond.methodLink R_C 212 y_C_netLengthWith ∈ BG := BG_3 (List.mem_of_getElem? (i := 83) rfl) rfl
theorem im_C_netLengthWith : Cond.instanceMethod y_C_netLengthWith ∈ BG := BG_3 (List.mem_of_getElem? (i := 85) rfl) rfl
theorem co_C_netLengthWith : Cond.code y_C_netLengthWith b_C_netLengthWith 5 (some .long) ∈ BG := BG_3 (List.mem_of_getElem? (i := 86) rfl) rfl
theorem ml_C_299 : Cond.methodLink R_C 299 y_W_isWith ∈ BG := BG_3 (List.mem_of_getElem? (i := 87) rfl) rfl
theorem ml_L_147 : Cond.methodLink R_L 147 y_L_body ∈ BG := BG_3 (List.mem_of_getElem? (i := 89) rfl) rfl
theorem st_L_body : Cond.static y_L_body ∈ BG := BG_3 (List.mem_of_getElem? (i := 90) rfl) rfl
theorem cw_L_body : Cond.codeWith y_L_body b_L_body 7 (some .int) [((0 : Nat), (14 : Nat), (17 : Nat), (13 : Nat))] ∈ BG := BG_3 (List.mem_of_getElem? (i := 91) rfl) rfl
theorem ml_L_69 : Cond.methodLink R_L 69 y_C_body ∈ BG := BG_3 (List.mem_of_getElem? (i := 92) rfl) rfl
theorem im_C_body : Cond.instanceMethod y_C_body ∈ BG := BG_3 (List.mem_of_getElem? (i := 93) rfl) rfl
theorem se_C_body : Cond.selects R_C y_C_body y_C_body ∈ BG := BG_3 (List.mem_of_getElem? (i := 94) rfl) rfl
theorem co_C_body : Cond.code y_C_body b_C_body 7 (some .int) ∈ BG := BG_3 (List.mem_of_getElem? (i := 95) rfl) rfl
theorem ml_C_223 : Cond.methodLink R_C 223 y_C_covers ∈ BG := BG_3 (List.mem_of_getElem? (i := 97) rfl) rfl
theorem im_C_covers : Cond.instanceMethod y_C_covers ∈ BG := BG_3 (List.mem_of_getElem? (i := 99) rfl) rfl
theorem co_C_covers : Cond.code y_C_covers b_C_covers 7 (some .boolean) ∈ BG := BG_3 (List.mem_of_getElem? (i := 100) rfl) rfl
theorem ml_C_302 : Cond.methodLink R_C 302 y_W_goesAlongX ∈ BG := BG_3 (List.mem_of_getElem? (i := 101) rfl) rfl
theorem ml_C_305 : Cond.methodLink R_C 305 ⟨"java/lang/Math", "max", "(II)I"⟩ ∈ BG := BG_3 (List.mem_of_getElem? (i := 102) rfl) rfl
theorem st_Math_maxIII : Cond.static ⟨"java/lang/Math", "max", "(II)I"⟩ ∈ BG := BG_3 (List.mem_of_getElem? (i := 103) rfl) rfl
theorem co_Math_maxIII : Cond.code ⟨"java/lang/Math", "max", "(II)I"⟩ prog_12_method_65_code 2 (Option.some Jvm.ClassFile.FieldType.int) ∈ BG := BG_3 (List.mem_of_getElem? (i := 104) rfl) rfl
theorem cl_L_74 : Cond.classLink R_L 74 R_M ∈ BG := BG_3 (List.mem_of_getElem? (i := 105) rfl) rfl
theorem ins_M : Cond.instantiable R_M 20 ∈ BG := BG_3 (List.mem_of_getElem? (i := 106) rfl) rfl
theorem ml_L_76 : Cond.methodLink R_L 76 y_M_init ∈ BG := BG_3 (List.mem_of_getElem? (i := 107) rfl) rfl
theorem im_M_init : Cond.instanceMethod y_M_init ∈ BG := BG_3 (List.mem_of_getElem? (i := 108) rfl) rfl
theorem co_M_init : Cond.code y_M_init b_M_init 1 none ∈ BG := BG_3 (List.mem_of_getElem? (i := 109) rfl) rfl
theorem ml_M_1 : Cond.methodLink R_M 1 ⟨"java/lang/Object", "<init>", "()V"⟩ ∈ BG := BG_3 (List.mem_of_getElem? (i := 110) rfl) rfl
theorem fl_M_50 : Cond.fieldLink R_M 50 "StoreyShapesModel" "code" "I" ∈ BG := BG_3 (List.mem_of_getElem? (i := 111) rfl) rfl
theorem fl_M_7 : Cond.fieldLink R_M 7 "StoreyShapesModel" "acts" "[I" ∈ BG := BG_3 (List.mem_of_getElem? (i := 112) rfl) rfl
theorem fl_M_71 : Cond.fieldLink R_M 71 "StoreyShapesModel" "done" "I" ∈ BG := BG_3 (List.mem_of_getElem? (i := 113) rfl) rfl
theorem fl_M_74 : Cond.fieldLink R_M 74 "StoreyShapesModel" "undone" "I" ∈ BG := BG_3 (List.mem_of_getElem? (i := 114) rfl) rfl
theorem fl_M_54 : Cond.fieldLink R_M 54 "StoreyShapesModel" "storeys" "I" ∈ BG := BG_3 (List.mem_of_getElem? (i := 115) rfl) rfl
theorem fl_M_13 : Cond.fieldLink R_M 13 "StoreyShapesModel" "levels" "[I" ∈ BG := BG_3 (List.mem_of_getElem? (i := 116) rfl) rfl
theorem fl_M_57 : Cond.fieldLink R_M 57 "StoreyShapesModel" "types" "I" ∈ BG := BG_3 (List.mem_of_getElem? (i := 117) rfl) rfl
theorem fl_M_16 : Cond.fieldLink R_M 16 "StoreyShapesModel" "thick" "[I" ∈ BG := BG_3 (List.mem_of_getElem? (i := 118) rfl) rfl
theorem fl_M_60 : Cond.fieldLink R_M 60 "StoreyShapesModel" "walls" "I" ∈ BG := BG_3 (List.mem_of_getElem? (i := 119) rfl) rfl
theorem fl_M_19 : Cond.fieldLink R_M 19 "StoreyShapesModel" "storeyOf" "[I" ∈ BG := BG_3 (List.mem_of_getElem? (i := 120) rfl) rfl
theorem fl_M_22 : Cond.fieldLink R_M 22 "StoreyShapesModel" "typeOf" "[I" ∈ BG := BG_3 (List.mem_of_getElem? (i := 121) rfl) rfl
theorem fl_M_25 : Cond.fieldLink R_M 25 "StoreyShapesModel" "x0" "[I" ∈ BG := BG_3 (List.mem_of_getElem? (i := 122) rfl) rfl
theorem fl_M_28 : Cond.fieldLink R_M 28 "StoreyShapesModel" "y0" "[I" ∈ BG := BG_3 (List.mem_of_getElem? (i := 123) rfl) rfl
theorem fl_M_31 : Cond.fieldLink R_M 31 "StoreyShapesModel" "x1" "[I" ∈ BG := BG_3 (List.mem_of_getElem? (i := 124) rfl) rfl
theorem fl_M_34 : Cond.fieldLink R_M 34 "StoreyShapesModel" "y1" "[I" ∈ BG := BG_3 (List.mem_of_getElem? (i := 125) rfl) rfl
theorem fl_M_37 : Cond.fieldLink R_M 37 "StoreyShapesModel" "there" "[Z" ∈ BG := BG_3 (List.mem_of_getElem? (i := 126) rfl) rfl
theorem fl_M_81 : Cond.fieldLink R_M 81 "StoreyShapesModel" "openings" "I" ∈ BG := BG_3 (List.mem_of_getElem? (i := 127) rfl) rfl
theorem fl_M_41 : Cond.fieldLink R_M 41 "StoreyShapesModel" "wallOf" "[I" ∈ BG := BG_3 (List.mem_of_getElem? (i := 128) rfl) rfl
theorem fl_M_44 : Cond.fieldLink R_M 44 "StoreyShapesModel" "begin" "[I" ∈ BG := BG_3 (List.mem_of_getElem? (i := 129) rfl) rfl
theorem fl_M_47 : Cond.fieldLink R_M 47 "StoreyShapesModel" "wide" "[I" ∈ BG := BG_3 (List.mem_of_getElem? (i := 130) rfl) rfl
theorem ml_L_83 : Cond.methodLink R_L 83 y_M_thrown ∈ BG := BG_3 (List.mem_of_getElem? (i := 172) rfl) rfl
theorem im_M_thrown : Cond.instanceMethod y_M_thrown ∈ BG := BG_3 (List.mem_of_getElem? (i := 173) rfl) rfl
theorem se_M_thrown : Cond.selects R_M y_M_thrown y_M_thrown ∈ BG := BG_3 (List.mem_of_getElem? (i := 174) rfl) rfl
theorem co_M_thrown : Cond.code y_M_thrown b_M_thrown 1 (some .int) ∈ BG := BG_3 (List.mem_of_getElem? (i := 175) rfl) rfl
theorem ml_L_82 : Cond.methodLink R_L 82 y_M_storey ∈ BG := BG_3 (List.mem_of_getElem? (i := 176) rfl) rfl
theorem im_M_storey : Cond.instanceMethod y_M_storey ∈ BG := BG_3 (List.mem_of_getElem? (i := 177) rfl) rfl
theorem se_M_storey : Cond.selects R_M y_M_storey y_M_storey ∈ BG := BG_3 (List.mem_of_getElem? (i := 178) rfl) rfl
theorem co_M_storey : Cond.code y_M_storey b_M_storey 3 (some .int) ∈ BG := BG_3 (List.mem_of_getElem? (i := 179) rfl) rfl
theorem kl_M_63 : Cond.constantLong R_M 63 (-1000 : Int64) ∈ BG := BG_3 (List.mem_of_getElem? (i := 180) rfl) rfl
theorem kl_M_96 : Cond.constantLong R_M 96 (10000 : Int64) ∈ BG := BG_3 (List.mem_of_getElem? (i := 181) rfl) rfl
theorem ml_M_67 : Cond.methodLink R_M 67 y_M_isIn ∈ BG := BG_3 (List.mem_of_getElem? (i := 182) rfl) rfl
theorem st_M_isIn : Cond.static y_M_isIn ∈ BG := BG_3 (List.mem_of_getElem? (i := 183) rfl) rfl
theorem co_M_isIn : Cond.code y_M_isIn b_M_isIn 6 (some .boolean) ∈ BG := BG_3 (List.mem_of_getElem? (i := 184) rfl) rfl
theorem ml_M_98 : Cond.methodLink R_M 98 y_M_goes ∈ BG := BG_3 (List.mem_of_getElem? (i := 185) rfl) rfl
theorem im_M_goes : Cond.instanceMethod y_M_goes ∈ BG := BG_3 (List.mem_of_getElem? (i := 187) rfl) rfl
theorem co_M_goes : Cond.code y_M_goes b_M_goes 3 (some .boolean) ∈ BG := BG_3 (List.mem_of_getElem? (i := 188) rfl) rfl
theorem ml_M_102 : Cond.methodLink R_M 102 y_M_act ∈ BG := BG_3 (List.mem_of_getElem? (i := 189) rfl) rfl
theorem im_M_act : Cond.instanceMethod y_M_act ∈ BG := BG_3 (List.mem_of_getElem? (i := 191) rfl) rfl
theorem co_M_act : Cond.code y_M_act b_M_act 9 (some .int) ∈ BG := BG_3 (List.mem_of_getElem? (i := 192) rfl) rfl
theorem ml_M_77 : Cond.methodLink R_M 77 y_M_draw ∈ BG := BG_3 (List.mem_of_getElem? (i := 193) rfl) rfl
theorem im_M_draw : Cond.instanceMethod y_M_draw ∈ BG := BG_3 (List.mem_of_getElem? (i := 195) rfl) rfl
theorem co_M_draw : Cond.code y_M_draw b_M_draw 6 (some .int) ∈ BG := BG_3 (List.mem_of_getElem? (i := 196) rfl) rfl
theorem ml_M_84 : Cond.methodLink R_M 84 y_M_add ∈ BG := BG_3 (List.mem_of_getElem? (i := 197) rfl) rfl
theorem im_M_add : Cond.instanceMethod y_M_add ∈ BG := BG_3 (List.mem_of_getElem? (i := 199) rfl) rfl
theorem co_M_add : Cond.code y_M_add b_M_add 7 (some .int) ∈ BG := BG_3 (List.mem_of_getElem? (i := 200) rfl) rfl
theorem ml_M_88 : Cond.methodLink R_M 88 y_M_cut ∈ BG := BG_3 (List.mem_of_getElem? (i := 201) rfl) rfl
theorem im_M_cut : Cond.instanceMethod y_M_cut ∈ BG := BG_3 (List.mem_of_getElem? (i := 203) rfl) rfl
theorem co_M_cut : Cond.code y_M_cut b_M_cut 4 (some .int) ∈ BG := BG_3 (List.mem_of_getElem? (i := 204) rfl) rfl
theorem ml_M_92 : Cond.methodLink R_M 92 y_M_copied ∈ BG := BG_3 (List.mem_of_getElem? (i := 205) rfl) rfl
theorem im_M_copied : Cond.instanceMethod y_M_copied ∈ BG := BG_3 (List.mem_of_getElem? (i := 207) rfl) rfl
theorem co_M_copied : Cond.code y_M_copied b_M_copied 9 (some .int) ∈ BG := BG_3 (List.mem_of_getElem? (i := 208) rfl) rfl
theorem ml_L_90 : Cond.methodLink R_L 90 y_M_level ∈ BG := BG_3 (List.mem_of_getElem? (i := 209) rfl) rfl
theorem im_M_level : Cond.instanceMethod y_M_level ∈ BG := BG_3 (List.mem_of_getElem? (i := 210) rfl) rfl
theorem se_M_level : Cond.selects R_M y_M_level y_M_level ∈ BG := BG_3 (List.mem_of_getElem? (i := 211) rfl) rfl
theorem co_M_level : Cond.code y_M_level b_M_level 4 none ∈ BG := BG_3 (List.mem_of_getElem? (i := 212) rfl) rfl
theorem ml_M_106 : Cond.methodLink R_M 106 y_M_isStorey ∈ BG := BG_3 (List.mem_of_getElem? (i := 213) rfl) rfl
theorem im_M_isStorey : Cond.instanceMethod y_M_isStorey ∈ BG := BG_3 (List.mem_of_getElem? (i := 215) rfl) rfl
theorem co_M_isStorey : Cond.code y_M_isStorey b_M_isStorey 2 (some .boolean) ∈ BG := BG_3 (List.mem_of_getElem? (i := 216) rfl) rfl
theorem ml_L_93 : Cond.methodLink R_L 93 y_M_type ∈ BG := BG_3 (List.mem_of_getElem? (i := 217) rfl) rfl
theorem im_M_type : Cond.instanceMethod y_M_type ∈ BG := BG_3 (List.mem_of_getElem? (i := 218) rfl) rfl
theorem se_M_type : Cond.selects R_M y_M_type y_M_type ∈ BG := BG_3 (List.mem_of_getElem? (i := 219) rfl) rfl
theorem co_M_type : Cond.code y_M_type b_M_type 2 (some .int) ∈ BG := BG_3 (List.mem_of_getElem? (i := 220) rfl) rfl
theorem ml_M_110 : Cond.methodLink R_M 110 y_M_isThick ∈ BG := BG_3 (List.mem_of_getElem? (i := 221) rfl) rfl
theorem st_M_isThick : Cond.static y_M_isThick ∈ BG := BG_3 (List.mem_of_getElem? (i := 222) rfl) rfl
theorem co_M_isThick : Cond.code y_M_isThick b_M_isThick 1 (some .boolean) ∈ BG := BG_3 (List.mem_of_getElem? (i := 223) rfl) rfl
theorem ml_L_96 : Cond.methodLink R_L 96 y_M_thickness ∈ BG := BG_3 (List.mem_of_getElem? (i := 224) rfl) rfl
theorem im_M_thickness : Cond.instanceMethod y_M_thickness ∈ BG := BG_3 (List.mem_of_getElem? (i := 225) rfl) rfl
theorem se_M_thickness : Cond.selects R_M y_M_thickness y_M_thickness ∈ BG := BG_3 (List.mem_of_getElem? (i := 226) rfl) rfl
theorem co_M_thickness : Cond.code y_M_thickness b_M_thickness 3 none ∈ BG := BG_3 (List.mem_of_getElem? (i := 227) rfl) rfl
theorem ml_M_113 : Cond.methodLink R_M 113 y_M_isType ∈ BG := BG_3 (List.mem_of_getElem? (i := 228) rfl) rfl
theorem im_M_isType : Cond.instanceMethod y_M_isType ∈ BG := BG_3 (List.mem_of_getElem? (i := 230) rfl) rfl
theorem co_M_isType : Cond.code y_M_isType b_M_isType 2 (some .boolean) ∈ BG := BG_3 (List.mem_of_getElem? (i := 231) rfl) rfl
theorem ml_L_100 : Cond.methodLink R_L 100 y_M_wall ∈ BG := BG_3 (List.mem_of_getElem? (i := 232) rfl) rfl
theorem im_M_wall : Cond.instanceMethod y_M_wall ∈ BG := BG_3 (List.mem_of_getElem? (i := 233) rfl) rfl
theorem se_M_wall : Cond.selects R_M y_M_wall y_M_wall ∈ BG := BG_3 (List.mem_of_getElem? (i := 234) rfl) rfl
theorem co_M_wall : Cond.code y_M_wall b_M_wall 8 (some .int) ∈ BG := BG_3 (List.mem_of_getElem? (i := 235) rfl) rfl
theorem ml_M_116 : Cond.methodLink R_M 116 y_M_isPlace ∈ BG := BG_3 (List.mem_of_getElem? (i := 236) rfl) rfl
theorem st_M_isPlace : Cond.static y_M_isPlace ∈ BG := BG_3 (List.mem_of_getElem? (i := 237) rfl) rfl
theorem co_M_isPlace : Cond.code y_M_isPlace b_M_isPlace 4 (some .boolean) ∈ BG := BG_3 (List.mem_of_getElem? (i := 238) rfl) rfl
theorem kl_M_65 : Cond.constantLong R_M 65 (1000 : Int64) ∈ BG := BG_3 (List.mem_of_getElem? (i := 239) rfl) rfl
theorem ml_L_104 : Cond.methodLink R_L 104 y_M_move ∈ BG := BG_4 (List.mem_of_getElem? (i := 0) rfl) rfl
theorem im_M_move : Cond.instanceMethod y_M_move ∈ BG := BG_4 (List.mem_of_getElem? (i := 1) rfl) rfl
theorem se_M_move : Cond.selects R_M y_M_move y_M_move ∈ BG := BG_4 (List.mem_of_getElem? (i := 2) rfl) rfl
theorem co_M_move : Cond.code y_M_move b_M_move 5 none ∈ BG := BG_4 (List.mem_of_getElem? (i := 3) rfl) rfl
theorem ml_M_120 : Cond.methodLink R_M 120 y_M_isWall ∈ BG := BG_4 (List.mem_of_getElem? (i := 4) rfl) rfl
theorem im_M_isWall : Cond.instanceMethod y_M_isWall ∈ BG := BG_4 (List.mem_of_getElem? (i := 6) rfl) rfl
theorem co_M_isWall : Cond.code y_M_isWall b_M_isWall 2 (some .boolean) ∈ BG := BG_4 (List.mem_of_getElem? (i := 7) rfl) rfl
theorem ml_L_107 : Cond.methodLink R_L 107 y_M_retype ∈ BG := BG_4 (List.mem_of_getElem? (i := 8) rfl) rfl
theorem im_M_retype : Cond.instanceMethod y_M_retype ∈ BG := BG_4 (List.mem_of_getElem? (i := 9) rfl) rfl
theorem se_M_retype : Cond.selects R_M y_M_retype y_M_retype ∈ BG := BG_4 (List.mem_of_getElem? (i := 10) rfl) rfl
theorem co_M_retype : Cond.code y_M_retype b_M_retype 3 none ∈ BG := BG_4 (List.mem_of_getElem? (i := 11) rfl) rfl
theorem ml_L_111 : Cond.methodLink R_L 111 y_M_remove ∈ BG := BG_4 (List.mem_of_getElem? (i := 12) rfl) rfl
theorem im_M_remove : Cond.instanceMethod y_M_remove ∈ BG := BG_4 (List.mem_of_getElem? (i := 13) rfl) rfl
theorem se_M_remove : Cond.selects R_M y_M_remove y_M_remove ∈ BG := BG_4 (List.mem_of_getElem? (i := 14) rfl) rfl
theorem co_M_remove : Cond.code y_M_remove b_M_remove 2 none ∈ BG := BG_4 (List.mem_of_getElem? (i := 15) rfl) rfl
theorem ml_L_115 : Cond.methodLink R_L 115 y_M_opening ∈ BG := BG_4 (List.mem_of_getElem? (i := 16) rfl) rfl
theorem im_M_opening : Cond.instanceMethod y_M_opening ∈ BG := BG_4 (List.mem_of_getElem? (i := 17) rfl) rfl
theorem se_M_opening : Cond.selects R_M y_M_opening y_M_opening ∈ BG := BG_4 (List.mem_of_getElem? (i := 18) rfl) rfl
theorem co_M_opening : Cond.code y_M_opening b_M_opening 7 (some .int) ∈ BG := BG_4 (List.mem_of_getElem? (i := 19) rfl) rfl
theorem ml_M_123 : Cond.methodLink R_M 123 y_M_length ∈ BG := BG_4 (List.mem_of_getElem? (i := 20) rfl) rfl
theorem im_M_length : Cond.instanceMethod y_M_length ∈ BG := BG_4 (List.mem_of_getElem? (i := 22) rfl) rfl
theorem co_M_length : Cond.code y_M_length b_M_length 2 (some .int) ∈ BG := BG_4 (List.mem_of_getElem? (i := 23) rfl) rfl
theorem ml_M_129 : Cond.methodLink R_M 129 y_M_size ∈ BG := BG_4 (List.mem_of_getElem? (i := 24) rfl) rfl
theorem st_M_size : Cond.static y_M_size ∈ BG := BG_4 (List.mem_of_getElem? (i := 25) rfl) rfl
theorem co_M_size : Cond.code y_M_size b_M_size 1 (some .int) ∈ BG := BG_4 (List.mem_of_getElem? (i := 26) rfl) rfl
theorem ml_L_119 : Cond.methodLink R_L 119 y_M_copy ∈ BG := BG_4 (List.mem_of_getElem? (i := 27) rfl) rfl
theorem im_M_copy : Cond.instanceMethod y_M_copy ∈ BG := BG_4 (List.mem_of_getElem? (i := 28) rfl) rfl
theorem se_M_copy : Cond.selects R_M y_M_copy y_M_copy ∈ BG := BG_4 (List.mem_of_getElem? (i := 29) rfl) rfl
theorem co_M_copy : Cond.code y_M_copy b_M_copy 7 (some .int) ∈ BG := BG_4 (List.mem_of_getElem? (i := 30) rfl) rfl
theorem ml_M_126 : Cond.methodLink R_M 126 y_M_cuts ∈ BG := BG_4 (List.mem_of_getElem? (i := 31) rfl) rfl
theorem im_M_cuts : Cond.instanceMethod y_M_cuts ∈ BG := BG_4 (List.mem_of_getElem? (i := 33) rfl) rfl
theorem co_M_cuts : Cond.code y_M_cuts b_M_cuts 4 (some .int) ∈ BG := BG_4 (List.mem_of_getElem? (i := 34) rfl) rfl
theorem ml_L_124 : Cond.methodLink R_L 124 y_M_undo ∈ BG := BG_4 (List.mem_of_getElem? (i := 35) rfl) rfl
theorem im_M_undo : Cond.instanceMethod y_M_undo ∈ BG := BG_4 (List.mem_of_getElem? (i := 36) rfl) rfl
theorem se_M_undo : Cond.selects R_M y_M_undo y_M_undo ∈ BG := BG_4 (List.mem_of_getElem? (i := 37) rfl) rfl
theorem co_M_undo : Cond.code y_M_undo b_M_undo 2 (some .boolean) ∈ BG := BG_4 (List.mem_of_getElem? (i := 38) rfl) rfl
theorem ml_L_128 : Cond.methodLink R_L 128 y_M_redo ∈ BG := BG_4 (List.mem_of_getElem? (i := 39) rfl) rfl
theorem im_M_redo : Cond.instanceMethod y_M_redo ∈ BG := BG_4 (List.mem_of_getElem? (i := 40) rfl) rfl
theorem se_M_redo : Cond.selects R_M y_M_redo y_M_redo ∈ BG := BG_4 (List.mem_of_getElem? (i := 41) rfl) rfl
theorem co_M_redo : Cond.code y_M_redo b_M_redo 1 (some .boolean) ∈ BG := BG_4 (List.mem_of_getElem? (i := 42) rfl) rfl
theorem ml_L_131 : Cond.methodLink R_L 131 y_M_acts ∈ BG := BG_4 (List.mem_of_getElem? (i := 43) rfl) rfl
theorem im_M_acts : Cond.instanceMethod y_M_acts ∈ BG := BG_4 (List.mem_of_getElem? (i := 44) rfl) rfl
theorem se_M_acts : Cond.selects R_M y_M_acts y_M_acts ∈ BG := BG_4 (List.mem_of_getElem? (i := 45) rfl) rfl
theorem co_M_acts : Cond.code y_M_acts b_M_acts 2 (some .int) ∈ BG := BG_4 (List.mem_of_getElem? (i := 46) rfl) rfl
theorem ml_L_134 : Cond.methodLink R_L 134 y_M_many ∈ BG := BG_4 (List.mem_of_getElem? (i := 47) rfl) rfl
theorem im_M_many : Cond.instanceMethod y_M_many ∈ BG := BG_4 (List.mem_of_getElem? (i := 48) rfl) rfl
theorem se_M_many : Cond.selects R_M y_M_many y_M_many ∈ BG := BG_4 (List.mem_of_getElem? (i := 49) rfl) rfl
theorem co_M_many : Cond.code y_M_many b_M_many 2 (some .int) ∈ BG := BG_4 (List.mem_of_getElem? (i := 50) rfl) rfl
theorem kl_M_146 : Cond.constantLong R_M 146 (3 : Int64) ∈ BG := BG_4 (List.mem_of_getElem? (i := 51) rfl) rfl
theorem ml_M_148 : Cond.methodLink R_M 148 y_M_tells ∈ BG := BG_4 (List.mem_of_getElem? (i := 52) rfl) rfl
theorem im_M_tells : Cond.instanceMethod y_M_tells ∈ BG := BG_4 (List.mem_of_getElem? (i := 54) rfl) rfl
theorem co_M_tells : Cond.code y_M_tells b_M_tells 2 (some .boolean) ∈ BG := BG_4 (List.mem_of_getElem? (i := 55) rfl) rfl
theorem ml_L_137 : Cond.methodLink R_L 137 y_M_wallAt ∈ BG := BG_4 (List.mem_of_getElem? (i := 56) rfl) rfl
theorem im_M_wallAt : Cond.instanceMethod y_M_wallAt ∈ BG := BG_4 (List.mem_of_getElem? (i := 57) rfl) rfl
theorem se_M_wallAt : Cond.selects R_M y_M_wallAt y_M_wallAt ∈ BG := BG_4 (List.mem_of_getElem? (i := 58) rfl) rfl
theorem co_M_wallAt : Cond.code y_M_wallAt b_M_wallAt 3 (some .long) ∈ BG := BG_4 (List.mem_of_getElem? (i := 59) rfl) rfl
theorem kl_M_152 : Cond.constantLong R_M 152 (9 : Int64) ∈ BG := BG_4 (List.mem_of_getElem? (i := 60) rfl) rfl
theorem ml_M_141 : Cond.methodLink R_M 141 y_M_net ∈ BG := BG_4 (List.mem_of_getElem? (i := 61) rfl) rfl
theorem im_M_net : Cond.instanceMethod y_M_net ∈ BG := BG_4 (List.mem_of_getElem? (i := 63) rfl) rfl
theorem co_M_net : Cond.code y_M_net b_M_net 2 (some .int) ∈ BG := BG_4 (List.mem_of_getElem? (i := 64) rfl) rfl
theorem ml_M_135 : Cond.methodLink R_M 135 y_M_joined ∈ BG := BG_4 (List.mem_of_getElem? (i := 65) rfl) rfl
theorem im_M_joined : Cond.instanceMethod y_M_joined ∈ BG := BG_4 (List.mem_of_getElem? (i := 67) rfl) rfl
theorem co_M_joined : Cond.code y_M_joined b_M_joined 7 (some .int) ∈ BG := BG_4 (List.mem_of_getElem? (i := 68) rfl) rfl
theorem ml_M_132 : Cond.methodLink R_M 132 y_M_isAcross ∈ BG := BG_4 (List.mem_of_getElem? (i := 69) rfl) rfl
theorem im_M_isAcross : Cond.instanceMethod y_M_isAcross ∈ BG := BG_4 (List.mem_of_getElem? (i := 71) rfl) rfl
theorem co_M_isAcross : Cond.code y_M_isAcross b_M_isAcross 2 (some .boolean) ∈ BG := BG_4 (List.mem_of_getElem? (i := 72) rfl) rfl
theorem ml_M_154 : Cond.methodLink R_M 154 y_M_area ∈ BG := BG_4 (List.mem_of_getElem? (i := 73) rfl) rfl
theorem im_M_area : Cond.instanceMethod y_M_area ∈ BG := BG_4 (List.mem_of_getElem? (i := 75) rfl) rfl
theorem co_M_area : Cond.code y_M_area b_M_area 7 (some .long) ∈ BG := BG_4 (List.mem_of_getElem? (i := 76) rfl) rfl
theorem ml_M_138 : Cond.methodLink R_M 138 y_M_height ∈ BG := BG_4 (List.mem_of_getElem? (i := 77) rfl) rfl
theorem im_M_height : Cond.instanceMethod y_M_height ∈ BG := BG_4 (List.mem_of_getElem? (i := 79) rfl) rfl
theorem co_M_height : Cond.code y_M_height b_M_height 2 (some .int) ∈ BG := BG_4 (List.mem_of_getElem? (i := 80) rfl) rfl
theorem kl_M_144 : Cond.constantLong R_M 144 (200 : Int64) ∈ BG := BG_4 (List.mem_of_getElem? (i := 81) rfl) rfl
theorem ml_L_140 : Cond.methodLink R_L 140 y_M_openingAt ∈ BG := BG_4 (List.mem_of_getElem? (i := 82) rfl) rfl
theorem im_M_openingAt : Cond.instanceMethod y_M_openingAt ∈ BG := BG_4 (List.mem_of_getElem? (i := 83) rfl) rfl
theorem se_M_openingAt : Cond.selects R_M y_M_openingAt y_M_openingAt ∈ BG := BG_4 (List.mem_of_getElem? (i := 84) rfl) rfl
theorem co_M_openingAt : Cond.code y_M_openingAt b_M_openingAt 3 (some .int) ∈ BG := BG_4 (List.mem_of_getElem? (i := 85) rfl) rfl
theorem kl_M_158 : Cond.constantLong R_M 158 (2 : Int64) ∈ BG := BG_4 (List.mem_of_getElem? (i := 86) rfl) rfl
theorem ml_L_143 : Cond.methodLink R_L 143 y_M_storeyAt ∈ BG := BG_4 (List.mem_of_getElem? (i := 87) rfl) rfl
theorem im_M_storeyAt : Cond.instanceMethod y_M_storeyAt ∈ BG := BG_4 (List.mem_of_getElem? (i := 88) rfl) rfl
theorem se_M_storeyAt : Cond.selects R_M y_M_storeyAt y_M_storeyAt ∈ BG := BG_4 (List.mem_of_getElem? (i := 89) rfl) rfl
theorem co_M_storeyAt : Cond.code y_M_storeyAt b_M_storeyAt 8 (some .long) ∈ BG := BG_4 (List.mem_of_getElem? (i := 90) rfl) rfl
theorem ml_L_146 : Cond.methodLink R_L 146 y_M_typeAt ∈ BG := BG_4 (List.mem_of_getElem? (i := 91) rfl) rfl
theorem im_M_typeAt : Cond.instanceMethod y_M_typeAt ∈ BG := BG_4 (List.mem_of_getElem? (i := 92) rfl) rfl
theorem se_M_typeAt : Cond.selects R_M y_M_typeAt y_M_typeAt ∈ BG := BG_4 (List.mem_of_getElem? (i := 93) rfl) rfl
theorem co_M_typeAt : Cond.code y_M_typeAt b_M_typeAt 8 (some .long) ∈ BG := BG_4 (List.mem_of_getElem? (i := 94) rfl) rfl
theorem ml_L_150 : Cond.methodLink R_L 150 y_M_body ∈ BG := BG_4 (List.mem_of_getElem? (i := 95) rfl) rfl
theorem im_M_body : Cond.instanceMethod y_M_body ∈ BG := BG_4 (List.mem_of_getElem? (i := 96) rfl) rfl
theorem se_M_body : Cond.selects R_M y_M_body y_M_body ∈ BG := BG_4 (List.mem_of_getElem? (i := 97) rfl) rfl
theorem co_M_body : Cond.code y_M_body b_M_body 7 (some .int) ∈ BG := BG_4 (List.mem_of_getElem? (i := 98) rfl) rfl
theorem ml_M_160 : Cond.methodLink R_M 160 y_M_hasBody ∈ BG := BG_4 (List.mem_of_getElem? (i := 99) rfl) rfl
theorem im_M_hasBody : Cond.instanceMethod y_M_hasBody ∈ BG := BG_4 (List.mem_of_getElem? (i := 101) rfl) rfl
theorem co_M_hasBody : Cond.code y_M_hasBody b_M_hasBody 11 (some .boolean) ∈ BG := BG_4 (List.mem_of_getElem? (i := 102) rfl) rfl
theorem ac_long : Cond.arrayClass .long ∈ BG := BG_4 (List.mem_of_getElem? (i := 103) rfl) rfl
theorem se_C_step : Cond.selects R_C y_C_step y_C_step ∈ BG := BG_0 (List.mem_of_getElem? (i := 0) rfl) rfl
theorem se_C_exchange : Cond.selects R_C y_C_exchange y_C_exchange ∈ BG := BG_0 (List.mem_of_getElem? (i := 1) rfl) rfl
theorem se_C_goForward : Cond.selects R_C y_C_goForward y_C_goForward ∈ BG := BG_0 (List.mem_of_getElem? (i := 2) rfl) rfl
theorem se_C_checkLevel : Cond.selects R_C y_C_checkLevel y_C_checkLevel ∈ BG := BG_0 (List.mem_of_getElem? (i := 3) rfl) rfl
theorem se_C_checkRoomForAct : Cond.selects R_C y_C_checkRoomForAct y_C_checkRoomForAct ∈ BG := BG_0 (List.mem_of_getElem? (i := 5) rfl) rfl
theorem se_C_perform : Cond.selects R_C y_C_perform y_C_perform ∈ BG := BG_0 (List.mem_of_getElem? (i := 6) rfl) rfl
theorem se_C_checkStorey : Cond.selects R_C y_C_checkStorey y_C_checkStorey ∈ BG := BG_0 (List.mem_of_getElem? (i := 7) rfl) rfl
theorem se_C_checkType : Cond.selects R_C y_C_checkType y_C_checkType ∈ BG := BG_0 (List.mem_of_getElem? (i := 8) rfl) rfl
theorem se_C_checkWall : Cond.selects R_C y_C_checkWall y_C_checkWall ∈ BG := BG_0 (List.mem_of_getElem? (i := 9) rfl) rfl
theorem se_C_openingsOn : Cond.selects R_C y_C_openingsOn y_C_openingsOn ∈ BG := BG_0 (List.mem_of_getElem? (i := 10) rfl) rfl
theorem se_C_writeCopies : Cond.selects R_C y_C_writeCopies y_C_writeCopies ∈ BG := BG_0 (List.mem_of_getElem? (i := 11) rfl) rfl
theorem se_C_netLength : Cond.selects R_C y_C_netLength y_C_netLength ∈ BG := BG_0 (List.mem_of_getElem? (i := 12) rfl) rfl
theorem se_C_gainByJoin : Cond.selects R_C y_C_gainByJoin y_C_gainByJoin ∈ BG := BG_0 (List.mem_of_getElem? (i := 13) rfl) rfl
theorem se_C_halfThickness : Cond.selects R_C y_C_halfThickness y_C_halfThickness ∈ BG := BG_0 (List.mem_of_getElem? (i := 14) rfl) rfl
theorem se_C_area : Cond.selects R_C y_C_area y_C_area ∈ BG := BG_0 (List.mem_of_getElem? (i := 15) rfl) rfl
theorem se_C_areaOf : Cond.selects R_C y_C_areaOf y_C_areaOf ∈ BG := BG_0 (List.mem_of_getElem? (i := 16) rfl) rfl
theorem se_C_netLengthWith : Cond.selects R_C y_C_netLengthWith y_C_netLengthWith ∈ BG := BG_0 (List.mem_of_getElem? (i := 17) rfl) rfl
theorem se_C_covers : Cond.selects R_C y_C_covers y_C_covers ∈ BG := BG_0 (List.mem_of_getElem? (i := 18) rfl) rfl
theorem se_M_goes : Cond.selects R_M y_M_goes y_M_goes ∈ BG := BG_0 (List.mem_of_getElem? (i := 19) rfl) rfl
theorem se_M_act : Cond.selects R_M y_M_act y_M_act ∈ BG := BG_0 (List.mem_of_getElem? (i := 20) rfl) rfl
theorem se_M_draw : Cond.selects R_M y_M_draw y_M_draw ∈ BG := BG_0 (List.mem_of_getElem? (i := 21) rfl) rfl
theorem se_M_add : Cond.selects R_M y_M_add y_M_add ∈ BG := BG_0 (List.mem_of_getElem? (i := 22) rfl) rfl
theorem se_M_cut : Cond.selects R_M y_M_cut y_M_cut ∈ BG := BG_0 (List.mem_of_getElem? (i := 23) rfl) rfl
theorem se_M_copied : Cond.selects R_M y_M_copied y_M_copied ∈ BG := BG_0 (List.mem_of_getElem? (i := 24) rfl) rfl
theorem se_M_isStorey : Cond.selects R_M y_M_isStorey y_M_isStorey ∈ BG := BG_0 (List.mem_of_getElem? (i := 25) rfl) rfl
theorem se_M_isType : Cond.selects R_M y_M_isType y_M_isType ∈ BG := BG_0 (List.mem_of_getElem? (i := 26) rfl) rfl
theorem se_M_isWall : Cond.selects R_M y_M_isWall y_M_isWall ∈ BG := BG_0 (List.mem_of_getElem? (i := 27) rfl) rfl
theorem se_M_length : Cond.selects R_M y_M_length y_M_length ∈ BG := BG_0 (List.mem_of_getElem? (i := 28) rfl) rfl
theorem se_M_cuts : Cond.selects R_M y_M_cuts y_M_cuts ∈ BG := BG_0 (List.mem_of_getElem? (i := 29) rfl) rfl
theorem se_M_tells : Cond.selects R_M y_M_tells y_M_tells ∈ BG := BG_0 (List.mem_of_getElem? (i := 30) rfl) rfl
theorem se_M_net : Cond.selects R_M y_M_net y_M_net ∈ BG := BG_0 (List.mem_of_getElem? (i := 31) rfl) rfl
theorem se_M_joined : Cond.selects R_M y_M_joined y_M_joined ∈ BG := BG_0 (List.mem_of_getElem? (i := 32) rfl) rfl
theorem se_M_isAcross : Cond.selects R_M y_M_isAcross y_M_isAcross ∈ BG := BG_0 (List.mem_of_getElem? (i := 33) rfl) rfl
theorem se_M_area : Cond.selects R_M y_M_area y_M_area ∈ BG := BG_0 (List.mem_of_getElem? (i := 34) rfl) rfl
theorem se_M_height : Cond.selects R_M y_M_height y_M_height ∈ BG := BG_0 (List.mem_of_getElem? (i := 35) rfl) rfl
theorem se_M_hasBody : Cond.selects R_M y_M_hasBody y_M_hasBody ∈ BG := BG_0 (List.mem_of_getElem? (i := 36) rfl) rfl
theorem i_C : ∀ w ∈ u_ws R_C F_C 5, w ∈ BG := by
  intro w hw
  obtain ⟨k, hk, rfl⟩ := List.mem_map.mp hw
  rw [List.mem_range] at hk
  match k, hk with
  | 0, _ => exact BG_1 (List.mem_of_getElem? (i := 152) rfl) rfl
  | 1, _ => exact BG_1 (List.mem_of_getElem? (i := 154) rfl) rfl
  | 2, _ => exact BG_1 (List.mem_of_getElem? (i := 156) rfl) rfl
  | 3, _ => exact BG_1 (List.mem_of_getElem? (i := 158) rfl) rfl
  | 4, _ => exact BG_1 (List.mem_of_getElem? (i := 160) rfl) rfl
  | k + 5, h => exact absurd h (by omega)
theorem i_H : ∀ w ∈ u_ws R_H F_H 6, w ∈ BG := by
  intro w hw
  obtain ⟨k, hk, rfl⟩ := List.mem_map.mp hw
  rw [List.mem_range] at hk
  match k, hk with
  | 0, _ => exact BG_1 (List.mem_of_getElem? (i := 134) rfl) rfl
  | 1, _ => exact BG_1 (List.mem_of_getElem? (i := 136) rfl) rfl
  | 2, _ => exact BG_1 (List.mem_of_getElem? (i := 138) rfl) rfl
  | 3, _ => exact BG_1 (List.mem_of_getElem? (i := 140) rfl) rfl
  | 4, _ => exact BG_1 (List.mem_of_getElem? (i := 142) rfl) rfl
  | 5, _ => exact BG_1 (List.mem_of_getElem? (i := 144) rfl) rfl
  | k + 6, h => exact absurd h (by omega)
theorem i_O : ∀ w ∈ u_ws R_O F_O 4, w ∈ BG := by
  intro w hw
  obtain ⟨k, hk, rfl⟩ := List.mem_map.mp hw
  rw [List.mem_range] at hk
  match k, hk with
  | 0, _ => exact BG_1 (List.mem_of_getElem? (i := 107) rfl) rfl
  | 1, _ => exact BG_1 (List.mem_of_getElem? (i := 109) rfl) rfl
  | 2, _ => exact BG_1 (List.mem_of_getElem? (i := 111) rfl) rfl
  | 3, _ => exact BG_1 (List.mem_of_getElem? (i := 113) rfl) rfl
  | k + 4, h => exact absurd h (by omega)
theorem i_S : ∀ w ∈ u_ws R_S F_S 2, w ∈ BG := by
  intro w hw
  obtain ⟨k, hk, rfl⟩ := List.mem_map.mp hw
  rw [List.mem_range] at hk
  match k, hk with
  | 0, _ => exact BG_1 (List.mem_of_getElem? (i := 32) rfl) rfl
  | 1, _ => exact BG_1 (List.mem_of_getElem? (i := 34) rfl) rfl
  | k + 2, h => exact absurd h (by omega)
theorem i_T : ∀ w ∈ u_ws R_T F_T 2, w ∈ BG := by
  intro w hw
  obtain ⟨k, hk, rfl⟩ := List.mem_map.mp hw
  rw [List.mem_range] at hk
  match k, hk with
  | 0, _ => exact BG_1 (List.mem_of_getElem? (i := 48) rfl) rfl
  | 1, _ => exact BG_1 (List.mem_of_getElem? (i := 50) rfl) rfl
  | k + 2, h => exact absurd h (by omega)
theorem i_W : ∀ w ∈ u_ws R_W F_W 8, w ∈ BG := by
  intro w hw
  obtain ⟨k, hk, rfl⟩ := List.mem_map.mp hw
  rw [List.mem_range] at hk
  match k, hk with
  | 0, _ => exact BG_1 (List.mem_of_getElem? (i := 75) rfl) rfl
  | 1, _ => exact BG_1 (List.mem_of_getElem? (i := 77) rfl) rfl
  | 2, _ => exact BG_1 (List.mem_of_getElem? (i := 79) rfl) rfl
  | 3, _ => exact BG_1 (List.mem_of_getElem? (i := 81) rfl) rfl
  | 4, _ => exact BG_1 (List.mem_of_getElem? (i := 83) rfl) rfl
  | 5, _ => exact BG_1 (List.mem_of_getElem? (i := 85) rfl) rfl
  | 6, _ => exact BG_1 (List.mem_of_getElem? (i := 87) rfl) rfl
  | 7, _ => exact BG_1 (List.mem_of_getElem? (i := 89) rfl) rfl
  | k + 8, h => exact absurd h (by omega)
theorem i_M : ∀ w ∈ u_ws R_M F_M 20, w ∈ BG := by
  intro w hw
  obtain ⟨k, hk, rfl⟩ := List.mem_map.mp hw
  rw [List.mem_range] at hk
  match k, hk with
  | 0, _ => exact BG_3 (List.mem_of_getElem? (i := 131) rfl) rfl
  | 1, _ => exact BG_3 (List.mem_of_getElem? (i := 133) rfl) rfl
  | 2, _ => exact BG_3 (List.mem_of_getElem? (i := 135) rfl) rfl
  | 3, _ => exact BG_3 (List.mem_of_getElem? (i := 137) rfl) rfl
  | 4, _ => exact BG_3 (List.mem_of_getElem? (i := 139) rfl) rfl
  | 5, _ => exact BG_3 (List.mem_of_getElem? (i := 141) rfl) rfl
  | 6, _ => exact BG_3 (List.mem_of_getElem? (i := 143) rfl) rfl
  | 7, _ => exact BG_3 (List.mem_of_getElem? (i := 145) rfl) rfl
  | 8, _ => exact BG_3 (List.mem_of_getElem? (i := 147) rfl) rfl
  | 9, _ => exact BG_3 (List.mem_of_getElem? (i := 149) rfl) rfl
  | 10, _ => exact BG_3 (List.mem_of_getElem? (i := 151) rfl) rfl
  | 11, _ => exact BG_3 (List.mem_of_getElem? (i := 153) rfl) rfl
  | 12, _ => exact BG_3 (List.mem_of_getElem? (i := 155) rfl) rfl
  | 13, _ => exact BG_3 (List.mem_of_getElem? (i := 157) rfl) rfl
  | 14, _ => exact BG_3 (List.mem_of_getElem? (i := 159) rfl) rfl
  | 15, _ => exact BG_3 (List.mem_of_getElem? (i := 161) rfl) rfl
  | 16, _ => exact BG_3 (List.mem_of_getElem? (i := 163) rfl) rfl
  | 17, _ => exact BG_3 (List.mem_of_getElem? (i := 165) rfl) rfl
  | 18, _ => exact BG_3 (List.mem_of_getElem? (i := 167) rfl) rfl
  | 19, _ => exact BG_3 (List.mem_of_getElem? (i := 169) rfl) rfl
  | k + 20, h => exact absurd h (by omega)
end
section
theorem d_C_init_0 : decode b_C_init 0 = .ok (.aload_n 0, 1) := by decide +kernel
theorem d_C_init_1 : decode b_C_init 1 = .ok (.invokespecial 1, 3) := by decide +kernel
theorem d_C_init_4 : decode b_C_init 4 = .ok (.aload_n 0, 1) := by decide +kernel
theorem d_C_init_5 : decode b_C_init 5 = .ok (.new 7, 3) := by decide +kernel
theorem d_C_init_8 : decode b_C_init 8 = .ok (.dup, 1) := by decide +kernel
theorem d_C_init_9 : decode b_C_init 9 = .ok (.invokespecial 9, 3) := by decide +kernel
theorem d_C_init_12 : decode b_C_init 12 = .ok (.putfield 10, 3) := by decide +kernel
theorem d_C_init_15 : decode b_C_init 15 = .ok (.aload_n 0, 1) := by decide +kernel
theorem d_C_init_16 : decode b_C_init 16 = .ok (.new 16, 3) := by decide +kernel
theorem d_C_init_19 : decode b_C_init 19 = .ok (.dup, 1) := by decide +kernel
theorem d_C_init_20 : decode b_C_init 20 = .ok (.invokespecial 18, 3) := by decide +kernel
theorem d_C_init_23 : decode b_C_init 23 = .ok (.putfield 19, 3) := by decide +kernel
theorem d_C_init_26 : decode b_C_init 26 = .ok (.aload_n 0, 1) := by decide +kernel
theorem d_C_init_27 : decode b_C_init 27 = .ok (.new 23, 3) := by decide +kernel
theorem d_C_init_30 : decode b_C_init 30 = .ok (.dup, 1) := by decide +kernel
theorem d_C_init_31 : decode b_C_init 31 = .ok (.invokespecial 25, 3) := by decide +kernel
theorem d_C_init_34 : decode b_C_init 34 = .ok (.putfield 26, 3) := by decide +kernel
theorem d_C_init_37 : decode b_C_init 37 = .ok (.aload_n 0, 1) := by decide +kernel
theorem d_C_init_38 : decode b_C_init 38 = .ok (.new 30, 3) := by decide +kernel
theorem d_C_init_41 : decode b_C_init 41 = .ok (.dup, 1) := by decide +kernel
theorem d_C_init_42 : decode b_C_init 42 = .ok (.invokespecial 32, 3) := by decide +kernel
theorem d_C_init_45 : decode b_C_init 45 = .ok (.putfield 33, 3) := by decide +kernel
theorem d_C_init_48 : decode b_C_init 48 = .ok (.aload_n 0, 1) := by decide +kernel
theorem d_C_init_49 : decode b_C_init 49 = .ok (.new 37, 3) := by decide +kernel
theorem d_C_init_52 : decode b_C_init 52 = .ok (.dup, 1) := by decide +kernel
theorem d_C_init_53 : decode b_C_init 53 = .ok (.invokespecial 39, 3) := by decide +kernel
theorem d_C_init_56 : decode b_C_init 56 = .ok (.putfield 40, 3) := by decide +kernel
theorem d_C_init_59 : decode b_C_init 59 = .ok (.return_, 1) := by decide +kernel
theorem d_C_storey_0 : decode b_C_storey 0 = .ok (.aload_n 0, 1) := by decide +kernel
theorem d_C_storey_1 : decode b_C_storey 1 = .ok (.getfield 10, 3) := by decide +kernel
theorem d_C_storey_4 : decode b_C_storey 4 = .ok (.getfield 44, 3) := by decide +kernel
theorem d_C_storey_7 : decode b_C_storey 7 = .ok (.istore_n 2, 1) := by decide +kernel
theorem d_C_storey_8 : decode b_C_storey 8 = .ok (.aload_n 0, 1) := by decide +kernel
theorem d_C_storey_9 : decode b_C_storey 9 = .ok (.iload_n 2, 1) := by decide +kernel
theorem d_C_storey_10 : decode b_C_storey 10 = .ok (.iload_n 1, 1) := by decide +kernel
theorem d_C_storey_11 : decode b_C_storey 11 = .ok (.invokevirtual 48, 3) := by decide +kernel
theorem d_C_storey_14 : decode b_C_storey 14 = .ok (.iload_n 2, 1) := by decide +kernel
theorem d_C_storey_15 : decode b_C_storey 15 = .ok (.bipush 6, 2) := by decide +kernel
theorem d_C_storey_17 : decode b_C_storey 17 = .ok (.if_icmp .lt 13, 3) := by decide +kernel
theorem d_C_storey_20 : decode b_C_storey 20 = .ok (.new 52, 3) := by decide +kernel
theorem d_C_storey_23 : decode b_C_storey 23 = .ok (.dup, 1) := by decide +kernel
theorem d_C_storey_24 : decode b_C_storey 24 = .ok (.ldc 54, 2) := by decide +kernel
theorem d_C_storey_26 : decode b_C_storey 26 = .ok (.invokespecial 56, 3) := by decide +kernel
theorem d_C_storey_29 : decode b_C_storey 29 = .ok (.athrow, 1) := by decide +kernel
theorem d_C_storey_30 : decode b_C_storey 30 = .ok (.aload_n 0, 1) := by decide +kernel
theorem d_C_storey_31 : decode b_C_storey 31 = .ok (.invokevirtual 59, 3) := by decide +kernel
theorem d_C_storey_34 : decode b_C_storey 34 = .ok (.aload_n 0, 1) := by decide +kernel
theorem d_C_storey_35 : decode b_C_storey 35 = .ok (.getfield 10, 3) := by decide +kernel
theorem d_C_storey_38 : decode b_C_storey 38 = .ok (.getfield 62, 3) := by decide +kernel
theorem d_C_storey_41 : decode b_C_storey 41 = .ok (.iload_n 2, 1) := by decide +kernel
theorem d_C_storey_42 : decode b_C_storey 42 = .ok (.iload_n 1, 1) := by decide +kernel
theorem d_C_storey_43 : decode b_C_storey 43 = .ok (.iastore, 1) := by decide +kernel
theorem d_C_storey_44 : decode b_C_storey 44 = .ok (.aload_n 0, 1) := by decide +kernel
theorem d_C_storey_45 : decode b_C_storey 45 = .ok (.iconst 0, 1) := by decide +kernel
theorem d_C_storey_46 : decode b_C_storey 46 = .ok (.iload_n 2, 1) := by decide +kernel
theorem d_C_storey_47 : decode b_C_storey 47 = .ok (.iconst 0, 1) := by decide +kernel
theorem d_C_storey_48 : decode b_C_storey 48 = .ok (.iconst 0, 1) := by decide +kernel
theorem d_C_storey_49 : decode b_C_storey 49 = .ok (.invokevirtual 66, 3) := by decide +kernel
theorem d_C_storey_52 : decode b_C_storey 52 = .ok (.iload_n 2, 1) := by decide +kernel
theorem d_C_storey_53 : decode b_C_storey 53 = .ok (.ireturn, 1) := by decide +kernel
theorem d_C_level_0 : decode b_C_level 0 = .ok (.aload_n 0, 1) := by decide +kernel
theorem d_C_level_1 : decode b_C_level 1 = .ok (.iload_n 1, 1) := by decide +kernel
theorem d_C_level_2 : decode b_C_level 2 = .ok (.invokevirtual 70, 3) := by decide +kernel
theorem d_C_level_5 : decode b_C_level 5 = .ok (.aload_n 0, 1) := by decide +kernel
theorem d_C_level_6 : decode b_C_level 6 = .ok (.iload_n 1, 1) := by decide +kernel
theorem d_C_level_7 : decode b_C_level 7 = .ok (.iload_n 2, 1) := by decide +kernel
theorem d_C_level_8 : decode b_C_level 8 = .ok (.invokevirtual 48, 3) := by decide +kernel
theorem d_C_level_11 : decode b_C_level 11 = .ok (.aload_n 0, 1) := by decide +kernel
theorem d_C_level_12 : decode b_C_level 12 = .ok (.invokevirtual 59, 3) := by decide +kernel
theorem d_C_level_15 : decode b_C_level 15 = .ok (.aload_n 0, 1) := by decide +kernel
theorem d_C_level_16 : decode b_C_level 16 = .ok (.iconst 3, 1) := by decide +kernel
theorem d_C_level_17 : decode b_C_level 17 = .ok (.iload_n 1, 1) := by decide +kernel
theorem d_C_level_18 : decode b_C_level 18 = .ok (.iload_n 2, 1) := by decide +kernel
theorem d_C_level_19 : decode b_C_level 19 = .ok (.iconst 0, 1) := by decide +kernel
theorem d_C_level_20 : decode b_C_level 20 = .ok (.invokevirtual 66, 3) := by decide +kernel
theorem d_C_level_23 : decode b_C_level 23 = .ok (.return_, 1) := by decide +kernel
theorem d_C_type_0 : decode b_C_type 0 = .ok (.aload_n 0, 1) := by decide +kernel
theorem d_C_type_1 : decode b_C_type 1 = .ok (.getfield 19, 3) := by decide +kernel
theorem d_C_type_4 : decode b_C_type 4 = .ok (.getfield 74, 3) := by decide +kernel
theorem d_C_type_7 : decode b_C_type 7 = .ok (.istore_n 2, 1) := by decide +kernel
theorem d_C_type_8 : decode b_C_type 8 = .ok (.iload_n 1, 1) := by decide +kernel
theorem d_C_type_9 : decode b_C_type 9 = .ok (.invokestatic 75, 3) := by decide +kernel
theorem d_C_type_12 : decode b_C_type 12 = .ok (.iload_n 2, 1) := by decide +kernel
theorem d_C_type_13 : decode b_C_type 13 = .ok (.bipush 8, 2) := by decide +kernel
theorem d_C_type_15 : decode b_C_type 15 = .ok (.if_icmp .lt 13, 3) := by decide +kernel
theorem d_C_type_18 : decode b_C_type 18 = .ok (.new 52, 3) := by decide +kernel
theorem d_C_type_21 : decode b_C_type 21 = .ok (.dup, 1) := by decide +kernel
theorem d_C_type_22 : decode b_C_type 22 = .ok (.ldc 78, 2) := by decide +kernel
theorem d_C_type_24 : decode b_C_type 24 = .ok (.invokespecial 56, 3) := by decide +kernel
theorem d_C_type_27 : decode b_C_type 27 = .ok (.athrow, 1) := by decide +kernel
theorem d_C_type_28 : decode b_C_type 28 = .ok (.aload_n 0, 1) := by decide +kernel
theorem d_C_type_29 : decode b_C_type 29 = .ok (.invokevirtual 59, 3) := by decide +kernel
theorem d_C_type_32 : decode b_C_type 32 = .ok (.aload_n 0, 1) := by decide +kernel
theorem d_C_type_33 : decode b_C_type 33 = .ok (.getfield 19, 3) := by decide +kernel
theorem d_C_type_36 : decode b_C_type 36 = .ok (.getfield 80, 3) := by decide +kernel
theorem d_C_type_39 : decode b_C_type 39 = .ok (.iload_n 2, 1) := by decide +kernel
theorem d_C_type_40 : decode b_C_type 40 = .ok (.iload_n 1, 1) := by decide +kernel
theorem d_C_type_41 : decode b_C_type 41 = .ok (.iastore, 1) := by decide +kernel
theorem d_C_type_42 : decode b_C_type 42 = .ok (.aload_n 0, 1) := by decide +kernel
theorem d_C_type_43 : decode b_C_type 43 = .ok (.iconst 1, 1) := by decide +kernel
theorem d_C_type_44 : decode b_C_type 44 = .ok (.iload_n 2, 1) := by decide +kernel
theorem d_C_type_45 : decode b_C_type 45 = .ok (.iconst 0, 1) := by decide +kernel
theorem d_C_type_46 : decode b_C_type 46 = .ok (.iconst 0, 1) := by decide +kernel
theorem d_C_type_47 : decode b_C_type 47 = .ok (.invokevirtual 66, 3) := by decide +kernel
theorem d_C_type_50 : decode b_C_type 50 = .ok (.iload_n 2, 1) := by decide +kernel
theorem d_C_type_51 : decode b_C_type 51 = .ok (.ireturn, 1) := by decide +kernel
theorem d_C_thickness_0 : decode b_C_thickness 0 = .ok (.aload_n 0, 1) := by decide +kernel
theorem d_C_thickness_1 : decode b_C_thickness 1 = .ok (.iload_n 1, 1) := by decide +kernel
theorem d_C_thickness_2 : decode b_C_thickness 2 = .ok (.invokevirtual 83, 3) := by decide +kernel
theorem d_C_thickness_5 : decode b_C_thickness 5 = .ok (.iload_n 2, 1) := by decide +kernel
theorem d_C_thickness_6 : decode b_C_thickness 6 = .ok (.invokestatic 75, 3) := by decide +kernel
theorem d_C_thickness_9 : decode b_C_thickness 9 = .ok (.aload_n 0, 1) := by decide +kernel
theorem d_C_thickness_10 : decode b_C_thickness 10 = .ok (.invokevirtual 59, 3) := by decide +kernel
theorem d_C_thickness_13 : decode b_C_thickness 13 = .ok (.aload_n 0, 1) := by decide +kernel
theorem d_C_thickness_14 : decode b_C_thickness 14 = .ok (.iconst 4, 1) := by decide +kernel
theorem d_C_thickness_15 : decode b_C_thickness 15 = .ok (.iload_n 1, 1) := by decide +kernel
theorem d_C_thickness_16 : decode b_C_thickness 16 = .ok (.iload_n 2, 1) := by decide +kernel
theorem d_C_thickness_17 : decode b_C_thickness 17 = .ok (.iconst 0, 1) := by decide +kernel
theorem d_C_thickness_18 : decode b_C_thickness 18 = .ok (.invokevirtual 66, 3) := by decide +kernel
theorem d_C_thickness_21 : decode b_C_thickness 21 = .ok (.return_, 1) := by decide +kernel
theorem d_C_wall_0 : decode b_C_wall 0 = .ok (.aload_n 0, 1) := by decide +kernel
theorem d_C_wall_1 : decode b_C_wall 1 = .ok (.iload_n 1, 1) := by decide +kernel
theorem d_C_wall_2 : decode b_C_wall 2 = .ok (.invokevirtual 70, 3) := by decide +kernel
theorem d_C_wall_5 : decode b_C_wall 5 = .ok (.aload_n 0, 1) := by decide +kernel
theorem d_C_wall_6 : decode b_C_wall 6 = .ok (.iload_n 2, 1) := by decide +kernel
theorem d_C_wall_7 : decode b_C_wall 7 = .ok (.invokevirtual 83, 3) := by decide +kernel
theorem d_C_wall_10 : decode b_C_wall 10 = .ok (.iload_n 3, 1) := by decide +kernel
theorem d_C_wall_11 : decode b_C_wall 11 = .ok (.i2l, 1) := by decide +kernel
theorem d_C_wall_12 : decode b_C_wall 12 = .ok (.iload 4, 2) := by decide +kernel
theorem d_C_wall_14 : decode b_C_wall 14 = .ok (.i2l, 1) := by decide +kernel
theorem d_C_wall_15 : decode b_C_wall 15 = .ok (.invokestatic 86, 3) := by decide +kernel
theorem d_C_wall_18 : decode b_C_wall 18 = .ok (.iload 5, 2) := by decide +kernel
theorem d_C_wall_20 : decode b_C_wall 20 = .ok (.i2l, 1) := by decide +kernel
theorem d_C_wall_21 : decode b_C_wall 21 = .ok (.iload 6, 2) := by decide +kernel
theorem d_C_wall_23 : decode b_C_wall 23 = .ok (.i2l, 1) := by decide +kernel
theorem d_C_wall_24 : decode b_C_wall 24 = .ok (.invokestatic 86, 3) := by decide +kernel
theorem d_C_wall_27 : decode b_C_wall 27 = .ok (.iload_n 3, 1) := by decide +kernel
theorem d_C_wall_28 : decode b_C_wall 28 = .ok (.iload 5, 2) := by decide +kernel
theorem d_C_wall_30 : decode b_C_wall 30 = .ok (.if_icmp .ne 7, 3) := by decide +kernel
theorem d_C_wall_33 : decode b_C_wall 33 = .ok (.iconst 1, 1) := by decide +kernel
theorem d_C_wall_34 : decode b_C_wall 34 = .ok (.goto 4, 3) := by decide +kernel
theorem d_C_wall_37 : decode b_C_wall 37 = .ok (.iconst 0, 1) := by decide +kernel
theorem d_C_wall_38 : decode b_C_wall 38 = .ok (.iload 4, 2) := by decide +kernel
theorem d_C_wall_40 : decode b_C_wall 40 = .ok (.iload 6, 2) := by decide +kernel
theorem d_C_wall_42 : decode b_C_wall 42 = .ok (.if_icmp .ne 7, 3) := by decide +kernel
theorem d_C_wall_45 : decode b_C_wall 45 = .ok (.iconst 1, 1) := by decide +kernel
theorem d_C_wall_46 : decode b_C_wall 46 = .ok (.goto 4, 3) := by decide +kernel
theorem d_C_wall_49 : decode b_C_wall 49 = .ok (.iconst 0, 1) := by decide +kernel
theorem d_C_wall_50 : decode b_C_wall 50 = .ok (.if_icmp .ne 13, 3) := by decide +kernel
theorem d_C_wall_53 : decode b_C_wall 53 = .ok (.new 90, 3) := by decide +kernel
theorem d_C_wall_56 : decode b_C_wall 56 = .ok (.dup, 1) := by decide +kernel
theorem d_C_wall_57 : decode b_C_wall 57 = .ok (.ldc 92, 2) := by decide +kernel
theorem d_C_wall_59 : decode b_C_wall 59 = .ok (.invokespecial 94, 3) := by decide +kernel
theorem d_C_wall_62 : decode b_C_wall 62 = .ok (.athrow, 1) := by decide +kernel
theorem d_C_wall_63 : decode b_C_wall 63 = .ok (.aload_n 0, 1) := by decide +kernel
theorem d_C_wall_64 : decode b_C_wall 64 = .ok (.getfield 26, 3) := by decide +kernel
theorem d_C_wall_67 : decode b_C_wall 67 = .ok (.getfield 95, 3) := by decide +kernel
theorem d_C_wall_70 : decode b_C_wall 70 = .ok (.istore 7, 2) := by decide +kernel
theorem d_C_wall_72 : decode b_C_wall 72 = .ok (.iload 7, 2) := by decide +kernel
theorem d_C_wall_74 : decode b_C_wall 74 = .ok (.bipush 40, 2) := by decide +kernel
theorem d_C_wall_76 : decode b_C_wall 76 = .ok (.if_icmp .lt 13, 3) := by decide +kernel
theorem d_C_wall_79 : decode b_C_wall 79 = .ok (.new 52, 3) := by decide +kernel
theorem d_C_wall_82 : decode b_C_wall 82 = .ok (.dup, 1) := by decide +kernel
theorem d_C_wall_83 : decode b_C_wall 83 = .ok (.ldc 96, 2) := by decide +kernel
theorem d_C_wall_85 : decode b_C_wall 85 = .ok (.invokespecial 56, 3) := by decide +kernel
theorem d_C_wall_88 : decode b_C_wall 88 = .ok (.athrow, 1) := by decide +kernel
theorem d_C_wall_89 : decode b_C_wall 89 = .ok (.aload_n 0, 1) := by decide +kernel
theorem d_C_wall_90 : decode b_C_wall 90 = .ok (.invokevirtual 59, 3) := by decide +kernel
theorem d_C_wall_93 : decode b_C_wall 93 = .ok (.aload_n 0, 1) := by decide +kernel
theorem d_C_wall_94 : decode b_C_wall 94 = .ok (.getfield 26, 3) := by decide +kernel
theorem d_C_wall_97 : decode b_C_wall 97 = .ok (.iload_n 1, 1) := by decide +kernel
theorem d_C_wall_98 : decode b_C_wall 98 = .ok (.iload_n 2, 1) := by decide +kernel
theorem d_C_wall_99 : decode b_C_wall 99 = .ok (.iload_n 3, 1) := by decide +kernel
theorem d_C_wall_100 : decode b_C_wall 100 = .ok (.iload 4, 2) := by decide +kernel
theorem d_C_wall_102 : decode b_C_wall 102 = .ok (.iload 5, 2) := by decide +kernel
theorem d_C_wall_104 : decode b_C_wall 104 = .ok (.iload 6, 2) := by decide +kernel
theorem d_C_wall_106 : decode b_C_wall 106 = .ok (.invokevirtual 98, 3) := by decide +kernel
theorem d_C_wall_109 : decode b_C_wall 109 = .ok (.aload_n 0, 1) := by decide +kernel
theorem d_C_wall_110 : decode b_C_wall 110 = .ok (.iconst 2, 1) := by decide +kernel
theorem d_C_wall_111 : decode b_C_wall 111 = .ok (.iload 7, 2) := by decide +kernel
theorem d_C_wall_113 : decode b_C_wall 113 = .ok (.iconst 1, 1) := by decide +kernel
theorem d_C_wall_114 : decode b_C_wall 114 = .ok (.iconst 0, 1) := by decide +kernel
theorem d_C_wall_115 : decode b_C_wall 115 = .ok (.invokevirtual 66, 3) := by decide +kernel
theorem d_C_wall_118 : decode b_C_wall 118 = .ok (.iload 7, 2) := by decide +kernel
theorem d_C_wall_120 : decode b_C_wall 120 = .ok (.ireturn, 1) := by decide +kernel
theorem d_C_move_0 : decode b_C_move 0 = .ok (.aload_n 0, 1) := by decide +kernel
theorem d_C_move_1 : decode b_C_move 1 = .ok (.iload_n 1, 1) := by decide +kernel
theorem d_C_move_2 : decode b_C_move 2 = .ok (.invokevirtual 102, 3) := by decide +kernel
theorem d_C_move_5 : decode b_C_move 5 = .ok (.aload_n 0, 1) := by decide +kernel
theorem d_C_move_6 : decode b_C_move 6 = .ok (.getfield 26, 3) := by decide +kernel
theorem d_C_move_9 : decode b_C_move 9 = .ok (.getfield 105, 3) := by decide +kernel
theorem d_C_move_12 : decode b_C_move 12 = .ok (.iload_n 1, 1) := by decide +kernel
theorem d_C_move_13 : decode b_C_move 13 = .ok (.iaload, 1) := by decide +kernel
theorem d_C_move_14 : decode b_C_move 14 = .ok (.i2l, 1) := by decide +kernel
theorem d_C_move_15 : decode b_C_move 15 = .ok (.iload_n 2, 1) := by decide +kernel
theorem d_C_move_16 : decode b_C_move 16 = .ok (.i2l, 1) := by decide +kernel
theorem d_C_move_17 : decode b_C_move 17 = .ok (.ladd, 1) := by decide +kernel
theorem d_C_move_18 : decode b_C_move 18 = .ok (.aload_n 0, 1) := by decide +kernel
theorem d_C_move_19 : decode b_C_move 19 = .ok (.getfield 26, 3) := by decide +kernel
theorem d_C_move_22 : decode b_C_move 22 = .ok (.getfield 108, 3) := by decide +kernel
theorem d_C_move_25 : decode b_C_move 25 = .ok (.iload_n 1, 1) := by decide +kernel
theorem d_C_move_26 : decode b_C_move 26 = .ok (.iaload, 1) := by decide +kernel
theorem d_C_move_27 : decode b_C_move 27 = .ok (.i2l, 1) := by decide +kernel
theorem d_C_move_28 : decode b_C_move 28 = .ok (.iload_n 3, 1) := by decide +kernel
theorem d_C_move_29 : decode b_C_move 29 = .ok (.i2l, 1) := by decide +kernel
theorem d_C_move_30 : decode b_C_move 30 = .ok (.ladd, 1) := by decide +kernel
theorem d_C_move_31 : decode b_C_move 31 = .ok (.invokestatic 86, 3) := by decide +kernel
theorem d_C_move_34 : decode b_C_move 34 = .ok (.aload_n 0, 1) := by decide +kernel
theorem d_C_move_35 : decode b_C_move 35 = .ok (.getfield 26, 3) := by decide +kernel
theorem d_C_move_38 : decode b_C_move 38 = .ok (.getfield 111, 3) := by decide +kernel
theorem d_C_move_41 : decode b_C_move 41 = .ok (.iload_n 1, 1) := by decide +kernel
theorem d_C_move_42 : decode b_C_move 42 = .ok (.iaload, 1) := by decide +kernel
theorem d_C_move_43 : decode b_C_move 43 = .ok (.i2l, 1) := by decide +kernel
theorem d_C_move_44 : decode b_C_move 44 = .ok (.iload_n 2, 1) := by decide +kernel
theorem d_C_move_45 : decode b_C_move 45 = .ok (.i2l, 1) := by decide +kernel
theorem d_C_move_46 : decode b_C_move 46 = .ok (.ladd, 1) := by decide +kernel
theorem d_C_move_47 : decode b_C_move 47 = .ok (.aload_n 0, 1) := by decide +kernel
theorem d_C_move_48 : decode b_C_move 48 = .ok (.getfield 26, 3) := by decide +kernel
theorem d_C_move_51 : decode b_C_move 51 = .ok (.getfield 114, 3) := by decide +kernel
theorem d_C_move_54 : decode b_C_move 54 = .ok (.iload_n 1, 1) := by decide +kernel
theorem d_C_move_55 : decode b_C_move 55 = .ok (.iaload, 1) := by decide +kernel
theorem d_C_move_56 : decode b_C_move 56 = .ok (.i2l, 1) := by decide +kernel
theorem d_C_move_57 : decode b_C_move 57 = .ok (.iload_n 3, 1) := by decide +kernel
theorem d_C_move_58 : decode b_C_move 58 = .ok (.i2l, 1) := by decide +kernel
theorem d_C_move_59 : decode b_C_move 59 = .ok (.ladd, 1) := by decide +kernel
theorem d_C_move_60 : decode b_C_move 60 = .ok (.invokestatic 86, 3) := by decide +kernel
theorem d_C_move_63 : decode b_C_move 63 = .ok (.aload_n 0, 1) := by decide +kernel
theorem d_C_move_64 : decode b_C_move 64 = .ok (.invokevirtual 59, 3) := by decide +kernel
theorem d_C_move_67 : decode b_C_move 67 = .ok (.aload_n 0, 1) := by decide +kernel
theorem d_C_move_68 : decode b_C_move 68 = .ok (.bipush 6, 2) := by decide +kernel
theorem d_C_move_70 : decode b_C_move 70 = .ok (.iload_n 1, 1) := by decide +kernel
theorem d_C_move_71 : decode b_C_move 71 = .ok (.iload_n 2, 1) := by decide +kernel
theorem d_C_move_72 : decode b_C_move 72 = .ok (.iload_n 3, 1) := by decide +kernel
theorem d_C_move_73 : decode b_C_move 73 = .ok (.invokevirtual 66, 3) := by decide +kernel
theorem d_C_move_76 : decode b_C_move 76 = .ok (.return_, 1) := by decide +kernel
theorem d_C_retype_0 : decode b_C_retype 0 = .ok (.aload_n 0, 1) := by decide +kernel
theorem d_C_retype_1 : decode b_C_retype 1 = .ok (.iload_n 1, 1) := by decide +kernel
theorem d_C_retype_2 : decode b_C_retype 2 = .ok (.invokevirtual 102, 3) := by decide +kernel
theorem d_C_retype_5 : decode b_C_retype 5 = .ok (.aload_n 0, 1) := by decide +kernel
theorem d_C_retype_6 : decode b_C_retype 6 = .ok (.iload_n 2, 1) := by decide +kernel
theorem d_C_retype_7 : decode b_C_retype 7 = .ok (.invokevirtual 83, 3) := by decide +kernel
theorem d_C_retype_10 : decode b_C_retype 10 = .ok (.aload_n 0, 1) := by decide +kernel
theorem d_C_retype_11 : decode b_C_retype 11 = .ok (.invokevirtual 59, 3) := by decide +kernel
theorem d_C_retype_14 : decode b_C_retype 14 = .ok (.aload_n 0, 1) := by decide +kernel
theorem d_C_retype_15 : decode b_C_retype 15 = .ok (.iconst 5, 1) := by decide +kernel
theorem d_C_retype_16 : decode b_C_retype 16 = .ok (.iload_n 1, 1) := by decide +kernel
theorem d_C_retype_17 : decode b_C_retype 17 = .ok (.iload_n 2, 1) := by decide +kernel
theorem d_C_retype_18 : decode b_C_retype 18 = .ok (.iconst 0, 1) := by decide +kernel
theorem d_C_retype_19 : decode b_C_retype 19 = .ok (.invokevirtual 66, 3) := by decide +kernel
theorem d_C_retype_22 : decode b_C_retype 22 = .ok (.return_, 1) := by decide +kernel
theorem d_C_remove_0 : decode b_C_remove 0 = .ok (.aload_n 0, 1) := by decide +kernel
theorem d_C_remove_1 : decode b_C_remove 1 = .ok (.iload_n 1, 1) := by decide +kernel
theorem d_C_remove_2 : decode b_C_remove 2 = .ok (.invokevirtual 102, 3) := by decide +kernel
theorem d_C_remove_5 : decode b_C_remove 5 = .ok (.aload_n 0, 1) := by decide +kernel
theorem d_C_remove_6 : decode b_C_remove 6 = .ok (.invokevirtual 59, 3) := by decide +kernel
theorem d_C_remove_9 : decode b_C_remove 9 = .ok (.aload_n 0, 1) := by decide +kernel
theorem d_C_remove_10 : decode b_C_remove 10 = .ok (.bipush 7, 2) := by decide +kernel
theorem d_C_remove_12 : decode b_C_remove 12 = .ok (.iload_n 1, 1) := by decide +kernel
theorem d_C_remove_13 : decode b_C_remove 13 = .ok (.iconst 0, 1) := by decide +kernel
theorem d_C_remove_14 : decode b_C_remove 14 = .ok (.iconst 0, 1) := by decide +kernel
theorem d_C_remove_15 : decode b_C_remove 15 = .ok (.invokevirtual 66, 3) := by decide +kernel
theorem d_C_remove_18 : decode b_C_remove 18 = .ok (.return_, 1) := by decide +kernel
theorem d_C_opening_0 : decode b_C_opening 0 = .ok (.aload_n 0, 1) := by decide +kernel
theorem d_C_opening_1 : decode b_C_opening 1 = .ok (.iload_n 1, 1) := by decide +kernel
theorem d_C_opening_2 : decode b_C_opening 2 = .ok (.invokevirtual 102, 3) := by decide +kernel
theorem d_C_opening_5 : decode b_C_opening 5 = .ok (.iload_n 2, 1) := by decide +kernel
theorem d_C_opening_6 : decode b_C_opening 6 = .ok (.ifCond .lt 26, 3) := by decide +kernel
theorem d_C_opening_9 : decode b_C_opening 9 = .ok (.iload_n 3, 1) := by decide +kernel
theorem d_C_opening_10 : decode b_C_opening 10 = .ok (.iconst 1, 1) := by decide +kernel
theorem d_C_opening_11 : decode b_C_opening 11 = .ok (.if_icmp .lt 21, 3) := by decide +kernel
theorem d_C_opening_14 : decode b_C_opening 14 = .ok (.iload_n 2, 1) := by decide +kernel
theorem d_C_opening_15 : decode b_C_opening 15 = .ok (.i2l, 1) := by decide +kernel
theorem d_C_opening_16 : decode b_C_opening 16 = .ok (.iload_n 3, 1) := by decide +kernel
theorem d_C_opening_17 : decode b_C_opening 17 = .ok (.i2l, 1) := by decide +kernel
theorem d_C_opening_18 : decode b_C_opening 18 = .ok (.ladd, 1) := by decide +kernel
theorem d_C_opening_19 : decode b_C_opening 19 = .ok (.aload_n 0, 1) := by decide +kernel
theorem d_C_opening_20 : decode b_C_opening 20 = .ok (.getfield 26, 3) := by decide +kernel
theorem d_C_opening_23 : decode b_C_opening 23 = .ok (.iload_n 1, 1) := by decide +kernel
theorem d_C_opening_24 : decode b_C_opening 24 = .ok (.invokevirtual 117, 3) := by decide +kernel
theorem d_C_opening_27 : decode b_C_opening 27 = .ok (.i2l, 1) := by decide +kernel
theorem d_C_opening_28 : decode b_C_opening 28 = .ok (.lcmp, 1) := by decide +kernel
theorem d_C_opening_29 : decode b_C_opening 29 = .ok (.ifCond .le 13, 3) := by decide +kernel
theorem d_C_opening_32 : decode b_C_opening 32 = .ok (.new 90, 3) := by decide +kernel
theorem d_C_opening_35 : decode b_C_opening 35 = .ok (.dup, 1) := by decide +kernel
theorem d_C_opening_36 : decode b_C_opening 36 = .ok (.ldc 121, 2) := by decide +kernel
theorem d_C_opening_38 : decode b_C_opening 38 = .ok (.invokespecial 94, 3) := by decide +kernel
theorem d_C_opening_41 : decode b_C_opening 41 = .ok (.athrow, 1) := by decide +kernel
theorem d_C_opening_42 : decode b_C_opening 42 = .ok (.aload_n 0, 1) := by decide +kernel
theorem d_C_opening_43 : decode b_C_opening 43 = .ok (.getfield 33, 3) := by decide +kernel
theorem d_C_opening_46 : decode b_C_opening 46 = .ok (.getfield 123, 3) := by decide +kernel
theorem d_C_opening_49 : decode b_C_opening 49 = .ok (.istore 4, 2) := by decide +kernel
theorem d_C_opening_51 : decode b_C_opening 51 = .ok (.aload_n 0, 1) := by decide +kernel
theorem d_C_opening_52 : decode b_C_opening 52 = .ok (.getfield 33, 3) := by decide +kernel
theorem d_C_opening_55 : decode b_C_opening 55 = .ok (.iload_n 1, 1) := by decide +kernel
theorem d_C_opening_56 : decode b_C_opening 56 = .ok (.iload_n 2, 1) := by decide +kernel
theorem d_C_opening_57 : decode b_C_opening 57 = .ok (.iload_n 3, 1) := by decide +kernel
theorem d_C_opening_58 : decode b_C_opening 58 = .ok (.invokevirtual 124, 3) := by decide +kernel
theorem d_C_opening_61 : decode b_C_opening 61 = .ok (.ifCond .eq 13, 3) := by decide +kernel
theorem d_C_opening_64 : decode b_C_opening 64 = .ok (.new 52, 3) := by decide +kernel
theorem d_C_opening_67 : decode b_C_opening 67 = .ok (.dup, 1) := by decide +kernel
theorem d_C_opening_68 : decode b_C_opening 68 = .ok (.ldc 128, 2) := by decide +kernel
theorem d_C_opening_70 : decode b_C_opening 70 = .ok (.invokespecial 56, 3) := by decide +kernel
theorem d_C_opening_73 : decode b_C_opening 73 = .ok (.athrow, 1) := by decide +kernel
theorem d_C_opening_74 : decode b_C_opening 74 = .ok (.iload 4, 2) := by decide +kernel
theorem d_C_opening_76 : decode b_C_opening 76 = .ok (.bipush 60, 2) := by decide +kernel
theorem d_C_opening_78 : decode b_C_opening 78 = .ok (.if_icmp .lt 13, 3) := by decide +kernel
theorem d_C_opening_81 : decode b_C_opening 81 = .ok (.new 52, 3) := by decide +kernel
theorem d_C_opening_84 : decode b_C_opening 84 = .ok (.dup, 1) := by decide +kernel
theorem d_C_opening_85 : decode b_C_opening 85 = .ok (.ldc 130, 2) := by decide +kernel
theorem d_C_opening_87 : decode b_C_opening 87 = .ok (.invokespecial 56, 3) := by decide +kernel
theorem d_C_opening_90 : decode b_C_opening 90 = .ok (.athrow, 1) := by decide +kernel
theorem d_C_opening_91 : decode b_C_opening 91 = .ok (.aload_n 0, 1) := by decide +kernel
theorem d_C_opening_92 : decode b_C_opening 92 = .ok (.invokevirtual 59, 3) := by decide +kernel
theorem d_C_opening_95 : decode b_C_opening 95 = .ok (.aload_n 0, 1) := by decide +kernel
theorem d_C_opening_96 : decode b_C_opening 96 = .ok (.getfield 33, 3) := by decide +kernel
theorem d_C_opening_99 : decode b_C_opening 99 = .ok (.iload 4, 2) := by decide +kernel
theorem d_C_opening_101 : decode b_C_opening 101 = .ok (.iload_n 1, 1) := by decide +kernel
theorem d_C_opening_102 : decode b_C_opening 102 = .ok (.iload_n 2, 1) := by decide +kernel
theorem d_C_opening_103 : decode b_C_opening 103 = .ok (.iload_n 3, 1) := by decide +kernel
theorem d_C_opening_104 : decode b_C_opening 104 = .ok (.invokevirtual 132, 3) := by decide +kernel
theorem d_C_opening_107 : decode b_C_opening 107 = .ok (.aload_n 0, 1) := by decide +kernel
theorem d_C_opening_108 : decode b_C_opening 108 = .ok (.iconst 2, 1) := by decide +kernel
theorem d_C_opening_109 : decode b_C_opening 109 = .ok (.iload_n 1, 1) := by decide +kernel
theorem d_C_opening_110 : decode b_C_opening 110 = .ok (.iconst 0, 1) := by decide +kernel
theorem d_C_opening_111 : decode b_C_opening 111 = .ok (.iconst 1, 1) := by decide +kernel
theorem d_C_opening_112 : decode b_C_opening 112 = .ok (.invokevirtual 66, 3) := by decide +kernel
theorem d_C_opening_115 : decode b_C_opening 115 = .ok (.iload 4, 2) := by decide +kernel
theorem d_C_opening_117 : decode b_C_opening 117 = .ok (.ireturn, 1) := by decide +kernel
theorem d_C_copy_0 : decode b_C_copy 0 = .ok (.aload_n 0, 1) := by decide +kernel
theorem d_C_copy_1 : decode b_C_copy 1 = .ok (.iload_n 1, 1) := by decide +kernel
theorem d_C_copy_2 : decode b_C_copy 2 = .ok (.invokevirtual 70, 3) := by decide +kernel
theorem d_C_copy_5 : decode b_C_copy 5 = .ok (.aload_n 0, 1) := by decide +kernel
theorem d_C_copy_6 : decode b_C_copy 6 = .ok (.iload_n 2, 1) := by decide +kernel
theorem d_C_copy_7 : decode b_C_copy 7 = .ok (.invokevirtual 70, 3) := by decide +kernel
theorem d_C_copy_10 : decode b_C_copy 10 = .ok (.iload_n 1, 1) := by decide +kernel
theorem d_C_copy_11 : decode b_C_copy 11 = .ok (.iload_n 2, 1) := by decide +kernel
theorem d_C_copy_12 : decode b_C_copy 12 = .ok (.if_icmp .ne 13, 3) := by decide +kernel
theorem d_C_copy_15 : decode b_C_copy 15 = .ok (.new 90, 3) := by decide +kernel
theorem d_C_copy_18 : decode b_C_copy 18 = .ok (.dup, 1) := by decide +kernel
theorem d_C_copy_19 : decode b_C_copy 19 = .ok (.ldc 135, 2) := by decide +kernel
theorem d_C_copy_21 : decode b_C_copy 21 = .ok (.invokespecial 94, 3) := by decide +kernel
theorem d_C_copy_24 : decode b_C_copy 24 = .ok (.athrow, 1) := by decide +kernel
theorem d_C_copy_25 : decode b_C_copy 25 = .ok (.aload_n 0, 1) := by decide +kernel
theorem d_C_copy_26 : decode b_C_copy 26 = .ok (.getfield 26, 3) := by decide +kernel
theorem d_C_copy_29 : decode b_C_copy 29 = .ok (.iload_n 1, 1) := by decide +kernel
theorem d_C_copy_30 : decode b_C_copy 30 = .ok (.invokevirtual 137, 3) := by decide +kernel
theorem d_C_copy_33 : decode b_C_copy 33 = .ok (.istore_n 3, 1) := by decide +kernel
theorem d_C_copy_34 : decode b_C_copy 34 = .ok (.aload_n 0, 1) := by decide +kernel
theorem d_C_copy_35 : decode b_C_copy 35 = .ok (.iload_n 1, 1) := by decide +kernel
theorem d_C_copy_36 : decode b_C_copy 36 = .ok (.invokevirtual 140, 3) := by decide +kernel
theorem d_C_copy_39 : decode b_C_copy 39 = .ok (.istore 4, 2) := by decide +kernel
theorem d_C_copy_41 : decode b_C_copy 41 = .ok (.aload_n 0, 1) := by decide +kernel
theorem d_C_copy_42 : decode b_C_copy 42 = .ok (.getfield 26, 3) := by decide +kernel
theorem d_C_copy_45 : decode b_C_copy 45 = .ok (.getfield 95, 3) := by decide +kernel
theorem d_C_copy_48 : decode b_C_copy 48 = .ok (.iload_n 3, 1) := by decide +kernel
theorem d_C_copy_49 : decode b_C_copy 49 = .ok (.iadd, 1) := by decide +kernel
theorem d_C_copy_50 : decode b_C_copy 50 = .ok (.bipush 40, 2) := by decide +kernel
theorem d_C_copy_52 : decode b_C_copy 52 = .ok (.if_icmp .le 13, 3) := by decide +kernel
theorem d_C_copy_55 : decode b_C_copy 55 = .ok (.new 52, 3) := by decide +kernel
theorem d_C_copy_58 : decode b_C_copy 58 = .ok (.dup, 1) := by decide +kernel
theorem d_C_copy_59 : decode b_C_copy 59 = .ok (.ldc 143, 2) := by decide +kernel
theorem d_C_copy_61 : decode b_C_copy 61 = .ok (.invokespecial 56, 3) := by decide +kernel
theorem d_C_copy_64 : decode b_C_copy 64 = .ok (.athrow, 1) := by decide +kernel
theorem d_C_copy_65 : decode b_C_copy 65 = .ok (.aload_n 0, 1) := by decide +kernel
theorem d_C_copy_66 : decode b_C_copy 66 = .ok (.getfield 33, 3) := by decide +kernel
theorem d_C_copy_69 : decode b_C_copy 69 = .ok (.getfield 123, 3) := by decide +kernel
theorem d_C_copy_72 : decode b_C_copy 72 = .ok (.iload 4, 2) := by decide +kernel
theorem d_C_copy_74 : decode b_C_copy 74 = .ok (.iadd, 1) := by decide +kernel
theorem d_C_copy_75 : decode b_C_copy 75 = .ok (.bipush 60, 2) := by decide +kernel
theorem d_C_copy_77 : decode b_C_copy 77 = .ok (.if_icmp .le 13, 3) := by decide +kernel
theorem d_C_copy_80 : decode b_C_copy 80 = .ok (.new 52, 3) := by decide +kernel
theorem d_C_copy_83 : decode b_C_copy 83 = .ok (.dup, 1) := by decide +kernel
theorem d_C_copy_84 : decode b_C_copy 84 = .ok (.ldc 145, 2) := by decide +kernel
theorem d_C_copy_86 : decode b_C_copy 86 = .ok (.invokespecial 56, 3) := by decide +kernel
theorem d_C_copy_89 : decode b_C_copy 89 = .ok (.athrow, 1) := by decide +kernel
theorem d_C_copy_90 : decode b_C_copy 90 = .ok (.aload_n 0, 1) := by decide +kernel
theorem d_C_copy_91 : decode b_C_copy 91 = .ok (.invokevirtual 59, 3) := by decide +kernel
theorem d_C_copy_94 : decode b_C_copy 94 = .ok (.aload_n 0, 1) := by decide +kernel
theorem d_C_copy_95 : decode b_C_copy 95 = .ok (.iload_n 1, 1) := by decide +kernel
theorem d_C_copy_96 : decode b_C_copy 96 = .ok (.iload_n 2, 1) := by decide +kernel
theorem d_C_copy_97 : decode b_C_copy 97 = .ok (.invokevirtual 147, 3) := by decide +kernel
theorem d_C_copy_100 : decode b_C_copy 100 = .ok (.aload_n 0, 1) := by decide +kernel
theorem d_C_copy_101 : decode b_C_copy 101 = .ok (.iconst 2, 1) := by decide +kernel
theorem d_C_copy_102 : decode b_C_copy 102 = .ok (.iload_n 2, 1) := by decide +kernel
theorem d_C_copy_103 : decode b_C_copy 103 = .ok (.iload_n 3, 1) := by decide +kernel
theorem d_C_copy_104 : decode b_C_copy 104 = .ok (.iload 4, 2) := by decide +kernel
theorem d_C_copy_106 : decode b_C_copy 106 = .ok (.invokevirtual 66, 3) := by decide +kernel
theorem d_C_copy_109 : decode b_C_copy 109 = .ok (.iload_n 3, 1) := by decide +kernel
theorem d_C_copy_110 : decode b_C_copy 110 = .ok (.ireturn, 1) := by decide +kernel
theorem d_C_undo_0 : decode b_C_undo 0 = .ok (.aload_n 0, 1) := by decide +kernel
theorem d_C_undo_1 : decode b_C_undo 1 = .ok (.getfield 40, 3) := by decide +kernel
theorem d_C_undo_4 : decode b_C_undo 4 = .ok (.getfield 150, 3) := by decide +kernel
theorem d_C_undo_7 : decode b_C_undo 7 = .ok (.ifCond .gt 5, 3) := by decide +kernel
theorem d_C_undo_10 : decode b_C_undo 10 = .ok (.iconst 0, 1) := by decide +kernel
theorem d_C_undo_11 : decode b_C_undo 11 = .ok (.ireturn, 1) := by decide +kernel
theorem d_C_undo_12 : decode b_C_undo 12 = .ok (.aload_n 0, 1) := by decide +kernel
theorem d_C_undo_13 : decode b_C_undo 13 = .ok (.getfield 40, 3) := by decide +kernel
theorem d_C_undo_16 : decode b_C_undo 16 = .ok (.dup, 1) := by decide +kernel
theorem d_C_undo_17 : decode b_C_undo 17 = .ok (.getfield 150, 3) := by decide +kernel
theorem d_C_undo_20 : decode b_C_undo 20 = .ok (.iconst 1, 1) := by decide +kernel
theorem d_C_undo_21 : decode b_C_undo 21 = .ok (.isub, 1) := by decide +kernel
theorem d_C_undo_22 : decode b_C_undo 22 = .ok (.putfield 150, 3) := by decide +kernel
theorem d_C_undo_25 : decode b_C_undo 25 = .ok (.aload_n 0, 1) := by decide +kernel
theorem d_C_undo_26 : decode b_C_undo 26 = .ok (.aload_n 0, 1) := by decide +kernel
theorem d_C_undo_27 : decode b_C_undo 27 = .ok (.getfield 40, 3) := by decide +kernel
theorem d_C_undo_30 : decode b_C_undo 30 = .ok (.getfield 150, 3) := by decide +kernel
theorem d_C_undo_33 : decode b_C_undo 33 = .ok (.iconst (-1), 1) := by decide +kernel
theorem d_C_undo_34 : decode b_C_undo 34 = .ok (.invokevirtual 153, 3) := by decide +kernel
theorem d_C_undo_37 : decode b_C_undo 37 = .ok (.iconst 1, 1) := by decide +kernel
theorem d_C_undo_38 : decode b_C_undo 38 = .ok (.ireturn, 1) := by decide +kernel
theorem d_C_redo_0 : decode b_C_redo 0 = .ok (.aload_n 0, 1) := by decide +kernel
theorem d_C_redo_1 : decode b_C_redo 1 = .ok (.getfield 40, 3) := by decide +kernel
theorem d_C_redo_4 : decode b_C_redo 4 = .ok (.getfield 150, 3) := by decide +kernel
theorem d_C_redo_7 : decode b_C_redo 7 = .ok (.aload_n 0, 1) := by decide +kernel
theorem d_C_redo_8 : decode b_C_redo 8 = .ok (.getfield 40, 3) := by decide +kernel
theorem d_C_redo_11 : decode b_C_redo 11 = .ok (.getfield 156, 3) := by decide +kernel
theorem d_C_redo_14 : decode b_C_redo 14 = .ok (.if_icmp .lt 5, 3) := by decide +kernel
theorem d_C_redo_17 : decode b_C_redo 17 = .ok (.iconst 0, 1) := by decide +kernel
theorem d_C_redo_18 : decode b_C_redo 18 = .ok (.ireturn, 1) := by decide +kernel
theorem d_C_redo_19 : decode b_C_redo 19 = .ok (.aload_n 0, 1) := by decide +kernel
theorem d_C_redo_20 : decode b_C_redo 20 = .ok (.invokevirtual 159, 3) := by decide +kernel
theorem d_C_redo_23 : decode b_C_redo 23 = .ok (.iconst 1, 1) := by decide +kernel
theorem d_C_redo_24 : decode b_C_redo 24 = .ok (.ireturn, 1) := by decide +kernel
theorem d_C_acts_0 : decode b_C_acts 0 = .ok (.iload_n 1, 1) := by decide +kernel
theorem d_C_acts_1 : decode b_C_acts 1 = .ok (.lookupswitch 51 #[(0, 27), (1, 35)], 27) := by decide +kernel
theorem d_C_acts_28 : decode b_C_acts 28 = .ok (.aload_n 0, 1) := by decide +kernel
theorem d_C_acts_29 : decode b_C_acts 29 = .ok (.getfield 40, 3) := by decide +kernel
theorem d_C_acts_32 : decode b_C_acts 32 = .ok (.getfield 150, 3) := by decide +kernel
theorem d_C_acts_35 : decode b_C_acts 35 = .ok (.ireturn, 1) := by decide +kernel
theorem d_C_acts_36 : decode b_C_acts 36 = .ok (.aload_n 0, 1) := by decide +kernel
theorem d_C_acts_37 : decode b_C_acts 37 = .ok (.getfield 40, 3) := by decide +kernel
theorem d_C_acts_40 : decode b_C_acts 40 = .ok (.getfield 156, 3) := by decide +kernel
theorem d_C_acts_43 : decode b_C_acts 43 = .ok (.aload_n 0, 1) := by decide +kernel
theorem d_C_acts_44 : decode b_C_acts 44 = .ok (.getfield 40, 3) := by decide +kernel
theorem d_C_acts_47 : decode b_C_acts 47 = .ok (.getfield 150, 3) := by decide +kernel
theorem d_C_acts_50 : decode b_C_acts 50 = .ok (.isub, 1) := by decide +kernel
theorem d_C_acts_51 : decode b_C_acts 51 = .ok (.ireturn, 1) := by decide +kernel
theorem d_C_acts_52 : decode b_C_acts 52 = .ok (.new 90, 3) := by decide +kernel
theorem d_C_acts_55 : decode b_C_acts 55 = .ok (.dup, 1) := by decide +kernel
theorem d_C_acts_56 : decode b_C_acts 56 = .ok (.ldc 162, 2) := by decide +kernel
theorem d_C_acts_58 : decode b_C_acts 58 = .ok (.invokespecial 94, 3) := by decide +kernel
theorem d_C_acts_61 : decode b_C_acts 61 = .ok (.athrow, 1) := by decide +kernel
theorem d_C_many_0 : decode b_C_many 0 = .ok (.iload_n 1, 1) := by decide +kernel
theorem d_C_many_1 : decode b_C_many 1 = .ok (.tableswitch 63 0 3 #[31, 39, 47, 55], 31) := by decide +kernel
theorem d_C_many_32 : decode b_C_many 32 = .ok (.aload_n 0, 1) := by decide +kernel
theorem d_C_many_33 : decode b_C_many 33 = .ok (.getfield 10, 3) := by decide +kernel
theorem d_C_many_36 : decode b_C_many 36 = .ok (.getfield 44, 3) := by decide +kernel
theorem d_C_many_39 : decode b_C_many 39 = .ok (.ireturn, 1) := by decide +kernel
theorem d_C_many_40 : decode b_C_many 40 = .ok (.aload_n 0, 1) := by decide +kernel
theorem d_C_many_41 : decode b_C_many 41 = .ok (.getfield 19, 3) := by decide +kernel
theorem d_C_many_44 : decode b_C_many 44 = .ok (.getfield 74, 3) := by decide +kernel
theorem d_C_many_47 : decode b_C_many 47 = .ok (.ireturn, 1) := by decide +kernel
theorem d_C_many_48 : decode b_C_many 48 = .ok (.aload_n 0, 1) := by decide +kernel
theorem d_C_many_49 : decode b_C_many 49 = .ok (.getfield 26, 3) := by decide +kernel
theorem d_C_many_52 : decode b_C_many 52 = .ok (.getfield 95, 3) := by decide +kernel
theorem d_C_many_55 : decode b_C_many 55 = .ok (.ireturn, 1) := by decide +kernel
theorem d_C_many_56 : decode b_C_many 56 = .ok (.aload_n 0, 1) := by decide +kernel
theorem d_C_many_57 : decode b_C_many 57 = .ok (.getfield 33, 3) := by decide +kernel
theorem d_C_many_60 : decode b_C_many 60 = .ok (.getfield 123, 3) := by decide +kernel
theorem d_C_many_63 : decode b_C_many 63 = .ok (.ireturn, 1) := by decide +kernel
theorem d_C_many_64 : decode b_C_many 64 = .ok (.new 90, 3) := by decide +kernel
theorem d_C_many_67 : decode b_C_many 67 = .ok (.dup, 1) := by decide +kernel
theorem d_C_many_68 : decode b_C_many 68 = .ok (.ldc 164, 2) := by decide +kernel
theorem d_C_many_70 : decode b_C_many 70 = .ok (.invokespecial 94, 3) := by decide +kernel
theorem d_C_many_73 : decode b_C_many 73 = .ok (.athrow, 1) := by decide +kernel
theorem d_C_wallAt_0 : decode b_C_wallAt 0 = .ok (.aload_n 0, 1) := by decide +kernel
theorem d_C_wallAt_1 : decode b_C_wallAt 1 = .ok (.iload_n 1, 1) := by decide +kernel
theorem d_C_wallAt_2 : decode b_C_wallAt 2 = .ok (.invokevirtual 102, 3) := by decide +kernel
theorem d_C_wallAt_5 : decode b_C_wallAt 5 = .ok (.iload_n 2, 1) := by decide +kernel
theorem d_C_wallAt_6 : decode b_C_wallAt 6 = .ok (.tableswitch 152 0 9 #[54, 65, 76, 87, 98, 109, 120, 130, 136, 142], 54) := by decide +kernel
theorem d_C_wallAt_60 : decode b_C_wallAt 60 = .ok (.aload_n 0, 1) := by decide +kernel
theorem d_C_wallAt_61 : decode b_C_wallAt 61 = .ok (.getfield 26, 3) := by decide +kernel
theorem d_C_wallAt_64 : decode b_C_wallAt 64 = .ok (.getfield 166, 3) := by decide +kernel
theorem d_C_wallAt_67 : decode b_C_wallAt 67 = .ok (.iload_n 1, 1) := by decide +kernel
theorem d_C_wallAt_68 : decode b_C_wallAt 68 = .ok (.iaload, 1) := by decide +kernel
theorem d_C_wallAt_69 : decode b_C_wallAt 69 = .ok (.i2l, 1) := by decide +kernel
theorem d_C_wallAt_70 : decode b_C_wallAt 70 = .ok (.lreturn, 1) := by decide +kernel
theorem d_C_wallAt_71 : decode b_C_wallAt 71 = .ok (.aload_n 0, 1) := by decide +kernel
theorem d_C_wallAt_72 : decode b_C_wallAt 72 = .ok (.getfield 26, 3) := by decide +kernel
theorem d_C_wallAt_75 : decode b_C_wallAt 75 = .ok (.getfield 168, 3) := by decide +kernel
theorem d_C_wallAt_78 : decode b_C_wallAt 78 = .ok (.iload_n 1, 1) := by decide +kernel
theorem d_C_wallAt_79 : decode b_C_wallAt 79 = .ok (.iaload, 1) := by decide +kernel
theorem d_C_wallAt_80 : decode b_C_wallAt 80 = .ok (.i2l, 1) := by decide +kernel
theorem d_C_wallAt_81 : decode b_C_wallAt 81 = .ok (.lreturn, 1) := by decide +kernel
theorem d_C_wallAt_82 : decode b_C_wallAt 82 = .ok (.aload_n 0, 1) := by decide +kernel
theorem d_C_wallAt_83 : decode b_C_wallAt 83 = .ok (.getfield 26, 3) := by decide +kernel
theorem d_C_wallAt_86 : decode b_C_wallAt 86 = .ok (.getfield 105, 3) := by decide +kernel
theorem d_C_wallAt_89 : decode b_C_wallAt 89 = .ok (.iload_n 1, 1) := by decide +kernel
theorem d_C_wallAt_90 : decode b_C_wallAt 90 = .ok (.iaload, 1) := by decide +kernel
theorem d_C_wallAt_91 : decode b_C_wallAt 91 = .ok (.i2l, 1) := by decide +kernel
theorem d_C_wallAt_92 : decode b_C_wallAt 92 = .ok (.lreturn, 1) := by decide +kernel
theorem d_C_wallAt_93 : decode b_C_wallAt 93 = .ok (.aload_n 0, 1) := by decide +kernel
theorem d_C_wallAt_94 : decode b_C_wallAt 94 = .ok (.getfield 26, 3) := by decide +kernel
theorem d_C_wallAt_97 : decode b_C_wallAt 97 = .ok (.getfield 108, 3) := by decide +kernel
theorem d_C_wallAt_100 : decode b_C_wallAt 100 = .ok (.iload_n 1, 1) := by decide +kernel
theorem d_C_wallAt_101 : decode b_C_wallAt 101 = .ok (.iaload, 1) := by decide +kernel
theorem d_C_wallAt_102 : decode b_C_wallAt 102 = .ok (.i2l, 1) := by decide +kernel
theorem d_C_wallAt_103 : decode b_C_wallAt 103 = .ok (.lreturn, 1) := by decide +kernel
theorem d_C_wallAt_104 : decode b_C_wallAt 104 = .ok (.aload_n 0, 1) := by decide +kernel
theorem d_C_wallAt_105 : decode b_C_wallAt 105 = .ok (.getfield 26, 3) := by decide +kernel
theorem d_C_wallAt_108 : decode b_C_wallAt 108 = .ok (.getfield 111, 3) := by decide +kernel
theorem d_C_wallAt_111 : decode b_C_wallAt 111 = .ok (.iload_n 1, 1) := by decide +kernel
theorem d_C_wallAt_112 : decode b_C_wallAt 112 = .ok (.iaload, 1) := by decide +kernel
theorem d_C_wallAt_113 : decode b_C_wallAt 113 = .ok (.i2l, 1) := by decide +kernel
theorem d_C_wallAt_114 : decode b_C_wallAt 114 = .ok (.lreturn, 1) := by decide +kernel
theorem d_C_wallAt_115 : decode b_C_wallAt 115 = .ok (.aload_n 0, 1) := by decide +kernel
theorem d_C_wallAt_116 : decode b_C_wallAt 116 = .ok (.getfield 26, 3) := by decide +kernel
theorem d_C_wallAt_119 : decode b_C_wallAt 119 = .ok (.getfield 114, 3) := by decide +kernel
theorem d_C_wallAt_122 : decode b_C_wallAt 122 = .ok (.iload_n 1, 1) := by decide +kernel
theorem d_C_wallAt_123 : decode b_C_wallAt 123 = .ok (.iaload, 1) := by decide +kernel
theorem d_C_wallAt_124 : decode b_C_wallAt 124 = .ok (.i2l, 1) := by decide +kernel
theorem d_C_wallAt_125 : decode b_C_wallAt 125 = .ok (.lreturn, 1) := by decide +kernel
theorem d_C_wallAt_126 : decode b_C_wallAt 126 = .ok (.aload_n 0, 1) := by decide +kernel
theorem d_C_wallAt_127 : decode b_C_wallAt 127 = .ok (.getfield 26, 3) := by decide +kernel
theorem d_C_wallAt_130 : decode b_C_wallAt 130 = .ok (.iload_n 1, 1) := by decide +kernel
theorem d_C_wallAt_131 : decode b_C_wallAt 131 = .ok (.invokevirtual 117, 3) := by decide +kernel
theorem d_C_wallAt_134 : decode b_C_wallAt 134 = .ok (.i2l, 1) := by decide +kernel
theorem d_C_wallAt_135 : decode b_C_wallAt 135 = .ok (.lreturn, 1) := by decide +kernel
theorem d_C_wallAt_136 : decode b_C_wallAt 136 = .ok (.aload_n 0, 1) := by decide +kernel
theorem d_C_wallAt_137 : decode b_C_wallAt 137 = .ok (.iload_n 1, 1) := by decide +kernel
theorem d_C_wallAt_138 : decode b_C_wallAt 138 = .ok (.invokevirtual 170, 3) := by decide +kernel
theorem d_C_wallAt_141 : decode b_C_wallAt 141 = .ok (.lreturn, 1) := by decide +kernel
theorem d_C_wallAt_142 : decode b_C_wallAt 142 = .ok (.aload_n 0, 1) := by decide +kernel
theorem d_C_wallAt_143 : decode b_C_wallAt 143 = .ok (.iload_n 1, 1) := by decide +kernel
theorem d_C_wallAt_144 : decode b_C_wallAt 144 = .ok (.invokevirtual 174, 3) := by decide +kernel
theorem d_C_wallAt_147 : decode b_C_wallAt 147 = .ok (.lreturn, 1) := by decide +kernel
theorem d_C_wallAt_148 : decode b_C_wallAt 148 = .ok (.aload_n 0, 1) := by decide +kernel
theorem d_C_wallAt_149 : decode b_C_wallAt 149 = .ok (.getfield 33, 3) := by decide +kernel
theorem d_C_wallAt_152 : decode b_C_wallAt 152 = .ok (.iload_n 1, 1) := by decide +kernel
theorem d_C_wallAt_153 : decode b_C_wallAt 153 = .ok (.invokevirtual 177, 3) := by decide +kernel
theorem d_C_wallAt_156 : decode b_C_wallAt 156 = .ok (.i2l, 1) := by decide +kernel
theorem d_C_wallAt_157 : decode b_C_wallAt 157 = .ok (.lreturn, 1) := by decide +kernel
theorem d_C_wallAt_158 : decode b_C_wallAt 158 = .ok (.new 90, 3) := by decide +kernel
theorem d_C_wallAt_161 : decode b_C_wallAt 161 = .ok (.dup, 1) := by decide +kernel
theorem d_C_wallAt_162 : decode b_C_wallAt 162 = .ok (.ldc 180, 2) := by decide +kernel
theorem d_C_wallAt_164 : decode b_C_wallAt 164 = .ok (.invokespecial 94, 3) := by decide +kernel
theorem d_C_wallAt_167 : decode b_C_wallAt 167 = .ok (.athrow, 1) := by decide +kernel
theorem d_C_openingAt_0 : decode b_C_openingAt 0 = .ok (.aload_n 0, 1) := by decide +kernel
theorem d_C_openingAt_1 : decode b_C_openingAt 1 = .ok (.getfield 33, 3) := by decide +kernel
theorem d_C_openingAt_4 : decode b_C_openingAt 4 = .ok (.iload_n 1, 1) := by decide +kernel
theorem d_C_openingAt_5 : decode b_C_openingAt 5 = .ok (.invokevirtual 182, 3) := by decide +kernel
theorem d_C_openingAt_8 : decode b_C_openingAt 8 = .ok (.ifCond .eq 22, 3) := by decide +kernel
theorem d_C_openingAt_11 : decode b_C_openingAt 11 = .ok (.aload_n 0, 1) := by decide +kernel
theorem d_C_openingAt_12 : decode b_C_openingAt 12 = .ok (.getfield 26, 3) := by decide +kernel
theorem d_C_openingAt_15 : decode b_C_openingAt 15 = .ok (.aload_n 0, 1) := by decide +kernel
theorem d_C_openingAt_16 : decode b_C_openingAt 16 = .ok (.getfield 33, 3) := by decide +kernel
theorem d_C_openingAt_19 : decode b_C_openingAt 19 = .ok (.getfield 186, 3) := by decide +kernel
theorem d_C_openingAt_22 : decode b_C_openingAt 22 = .ok (.iload_n 1, 1) := by decide +kernel
theorem d_C_openingAt_23 : decode b_C_openingAt 23 = .ok (.iaload, 1) := by decide +kernel
theorem d_C_openingAt_24 : decode b_C_openingAt 24 = .ok (.invokevirtual 188, 3) := by decide +kernel
theorem d_C_openingAt_27 : decode b_C_openingAt 27 = .ok (.ifCond .ne 13, 3) := by decide +kernel
theorem d_C_openingAt_30 : decode b_C_openingAt 30 = .ok (.new 90, 3) := by decide +kernel
theorem d_C_openingAt_33 : decode b_C_openingAt 33 = .ok (.dup, 1) := by decide +kernel
theorem d_C_openingAt_34 : decode b_C_openingAt 34 = .ok (.ldc 191, 2) := by decide +kernel
theorem d_C_openingAt_36 : decode b_C_openingAt 36 = .ok (.invokespecial 94, 3) := by decide +kernel
theorem d_C_openingAt_39 : decode b_C_openingAt 39 = .ok (.athrow, 1) := by decide +kernel
theorem d_C_openingAt_40 : decode b_C_openingAt 40 = .ok (.iload_n 2, 1) := by decide +kernel
theorem d_C_openingAt_41 : decode b_C_openingAt 41 = .ok (.tableswitch 57 0 2 #[27, 37, 47], 27) := by decide +kernel
theorem d_C_openingAt_68 : decode b_C_openingAt 68 = .ok (.aload_n 0, 1) := by decide +kernel
theorem d_C_openingAt_69 : decode b_C_openingAt 69 = .ok (.getfield 33, 3) := by decide +kernel
theorem d_C_openingAt_72 : decode b_C_openingAt 72 = .ok (.getfield 186, 3) := by decide +kernel
theorem d_C_openingAt_75 : decode b_C_openingAt 75 = .ok (.iload_n 1, 1) := by decide +kernel
theorem d_C_openingAt_76 : decode b_C_openingAt 76 = .ok (.iaload, 1) := by decide +kernel
theorem d_C_openingAt_77 : decode b_C_openingAt 77 = .ok (.ireturn, 1) := by decide +kernel
theorem d_C_openingAt_78 : decode b_C_openingAt 78 = .ok (.aload_n 0, 1) := by decide +kernel
theorem d_C_openingAt_79 : decode b_C_openingAt 79 = .ok (.getfield 33, 3) := by decide +kernel
theorem d_C_openingAt_82 : decode b_C_openingAt 82 = .ok (.getfield 193, 3) := by decide +kernel
theorem d_C_openingAt_85 : decode b_C_openingAt 85 = .ok (.iload_n 1, 1) := by decide +kernel
theorem d_C_openingAt_86 : decode b_C_openingAt 86 = .ok (.iaload, 1) := by decide +kernel
theorem d_C_openingAt_87 : decode b_C_openingAt 87 = .ok (.ireturn, 1) := by decide +kernel
theorem d_C_openingAt_88 : decode b_C_openingAt 88 = .ok (.aload_n 0, 1) := by decide +kernel
theorem d_C_openingAt_89 : decode b_C_openingAt 89 = .ok (.getfield 33, 3) := by decide +kernel
theorem d_C_openingAt_92 : decode b_C_openingAt 92 = .ok (.getfield 196, 3) := by decide +kernel
theorem d_C_openingAt_95 : decode b_C_openingAt 95 = .ok (.iload_n 1, 1) := by decide +kernel
theorem d_C_openingAt_96 : decode b_C_openingAt 96 = .ok (.iaload, 1) := by decide +kernel
theorem d_C_openingAt_97 : decode b_C_openingAt 97 = .ok (.ireturn, 1) := by decide +kernel
theorem d_C_openingAt_98 : decode b_C_openingAt 98 = .ok (.new 90, 3) := by decide +kernel
theorem d_C_openingAt_101 : decode b_C_openingAt 101 = .ok (.dup, 1) := by decide +kernel
theorem d_C_openingAt_102 : decode b_C_openingAt 102 = .ok (.ldc 199, 2) := by decide +kernel
theorem d_C_openingAt_104 : decode b_C_openingAt 104 = .ok (.invokespecial 94, 3) := by decide +kernel
theorem d_C_openingAt_107 : decode b_C_openingAt 107 = .ok (.athrow, 1) := by decide +kernel
theorem d_C_storeyAt_0 : decode b_C_storeyAt 0 = .ok (.aload_n 0, 1) := by decide +kernel
theorem d_C_storeyAt_1 : decode b_C_storeyAt 1 = .ok (.iload_n 1, 1) := by decide +kernel
theorem d_C_storeyAt_2 : decode b_C_storeyAt 2 = .ok (.invokevirtual 70, 3) := by decide +kernel
theorem d_C_storeyAt_5 : decode b_C_storeyAt 5 = .ok (.iload_n 2, 1) := by decide +kernel
theorem d_C_storeyAt_6 : decode b_C_storeyAt 6 = .ok (.tableswitch 67 0 3 #[30, 41, 51, 61], 30) := by decide +kernel
theorem d_C_storeyAt_36 : decode b_C_storeyAt 36 = .ok (.aload_n 0, 1) := by decide +kernel
theorem d_C_storeyAt_37 : decode b_C_storeyAt 37 = .ok (.getfield 10, 3) := by decide +kernel
theorem d_C_storeyAt_40 : decode b_C_storeyAt 40 = .ok (.getfield 62, 3) := by decide +kernel
theorem d_C_storeyAt_43 : decode b_C_storeyAt 43 = .ok (.iload_n 1, 1) := by decide +kernel
theorem d_C_storeyAt_44 : decode b_C_storeyAt 44 = .ok (.iaload, 1) := by decide +kernel
theorem d_C_storeyAt_45 : decode b_C_storeyAt 45 = .ok (.i2l, 1) := by decide +kernel
theorem d_C_storeyAt_46 : decode b_C_storeyAt 46 = .ok (.lreturn, 1) := by decide +kernel
theorem d_C_storeyAt_47 : decode b_C_storeyAt 47 = .ok (.aload_n 0, 1) := by decide +kernel
theorem d_C_storeyAt_48 : decode b_C_storeyAt 48 = .ok (.getfield 10, 3) := by decide +kernel
theorem d_C_storeyAt_51 : decode b_C_storeyAt 51 = .ok (.iload_n 1, 1) := by decide +kernel
theorem d_C_storeyAt_52 : decode b_C_storeyAt 52 = .ok (.invokevirtual 201, 3) := by decide +kernel
theorem d_C_storeyAt_55 : decode b_C_storeyAt 55 = .ok (.i2l, 1) := by decide +kernel
theorem d_C_storeyAt_56 : decode b_C_storeyAt 56 = .ok (.lreturn, 1) := by decide +kernel
theorem d_C_storeyAt_57 : decode b_C_storeyAt 57 = .ok (.aload_n 0, 1) := by decide +kernel
theorem d_C_storeyAt_58 : decode b_C_storeyAt 58 = .ok (.getfield 26, 3) := by decide +kernel
theorem d_C_storeyAt_61 : decode b_C_storeyAt 61 = .ok (.iload_n 1, 1) := by decide +kernel
theorem d_C_storeyAt_62 : decode b_C_storeyAt 62 = .ok (.invokevirtual 137, 3) := by decide +kernel
theorem d_C_storeyAt_65 : decode b_C_storeyAt 65 = .ok (.i2l, 1) := by decide +kernel
theorem d_C_storeyAt_66 : decode b_C_storeyAt 66 = .ok (.lreturn, 1) := by decide +kernel
theorem d_C_storeyAt_67 : decode b_C_storeyAt 67 = .ok (.aload_n 0, 1) := by decide +kernel
theorem d_C_storeyAt_68 : decode b_C_storeyAt 68 = .ok (.iload_n 1, 1) := by decide +kernel
theorem d_C_storeyAt_69 : decode b_C_storeyAt 69 = .ok (.invokevirtual 204, 3) := by decide +kernel
theorem d_C_storeyAt_72 : decode b_C_storeyAt 72 = .ok (.lreturn, 1) := by decide +kernel
theorem d_C_storeyAt_73 : decode b_C_storeyAt 73 = .ok (.new 90, 3) := by decide +kernel
theorem d_C_storeyAt_76 : decode b_C_storeyAt 76 = .ok (.dup, 1) := by decide +kernel
theorem d_C_storeyAt_77 : decode b_C_storeyAt 77 = .ok (.ldc 207, 2) := by decide +kernel
theorem d_C_storeyAt_79 : decode b_C_storeyAt 79 = .ok (.invokespecial 94, 3) := by decide +kernel
theorem d_C_storeyAt_82 : decode b_C_storeyAt 82 = .ok (.athrow, 1) := by decide +kernel
theorem d_C_typeAt_0 : decode b_C_typeAt 0 = .ok (.aload_n 0, 1) := by decide +kernel
theorem d_C_typeAt_1 : decode b_C_typeAt 1 = .ok (.iload_n 1, 1) := by decide +kernel
theorem d_C_typeAt_2 : decode b_C_typeAt 2 = .ok (.invokevirtual 83, 3) := by decide +kernel
theorem d_C_typeAt_5 : decode b_C_typeAt 5 = .ok (.iload_n 2, 1) := by decide +kernel
theorem d_C_typeAt_6 : decode b_C_typeAt 6 = .ok (.tableswitch 53 0 2 #[26, 37, 47], 26) := by decide +kernel
theorem d_C_typeAt_32 : decode b_C_typeAt 32 = .ok (.aload_n 0, 1) := by decide +kernel
theorem d_C_typeAt_33 : decode b_C_typeAt 33 = .ok (.getfield 19, 3) := by decide +kernel
theorem d_C_typeAt_36 : decode b_C_typeAt 36 = .ok (.getfield 80, 3) := by decide +kernel
theorem d_C_typeAt_39 : decode b_C_typeAt 39 = .ok (.iload_n 1, 1) := by decide +kernel
theorem d_C_typeAt_40 : decode b_C_typeAt 40 = .ok (.iaload, 1) := by decide +kernel
theorem d_C_typeAt_41 : decode b_C_typeAt 41 = .ok (.i2l, 1) := by decide +kernel
theorem d_C_typeAt_42 : decode b_C_typeAt 42 = .ok (.lreturn, 1) := by decide +kernel
theorem d_C_typeAt_43 : decode b_C_typeAt 43 = .ok (.aload_n 0, 1) := by decide +kernel
theorem d_C_typeAt_44 : decode b_C_typeAt 44 = .ok (.getfield 26, 3) := by decide +kernel
theorem d_C_typeAt_47 : decode b_C_typeAt 47 = .ok (.iload_n 1, 1) := by decide +kernel
theorem d_C_typeAt_48 : decode b_C_typeAt 48 = .ok (.invokevirtual 209, 3) := by decide +kernel
theorem d_C_typeAt_51 : decode b_C_typeAt 51 = .ok (.i2l, 1) := by decide +kernel
theorem d_C_typeAt_52 : decode b_C_typeAt 52 = .ok (.lreturn, 1) := by decide +kernel
theorem d_C_typeAt_53 : decode b_C_typeAt 53 = .ok (.aload_n 0, 1) := by decide +kernel
theorem d_C_typeAt_54 : decode b_C_typeAt 54 = .ok (.iload_n 1, 1) := by decide +kernel
theorem d_C_typeAt_55 : decode b_C_typeAt 55 = .ok (.invokevirtual 212, 3) := by decide +kernel
theorem d_C_typeAt_58 : decode b_C_typeAt 58 = .ok (.lreturn, 1) := by decide +kernel
theorem d_C_typeAt_59 : decode b_C_typeAt 59 = .ok (.new 90, 3) := by decide +kernel
theorem d_C_typeAt_62 : decode b_C_typeAt 62 = .ok (.dup, 1) := by decide +kernel
theorem d_C_typeAt_63 : decode b_C_typeAt 63 = .ok (.ldc 215, 2) := by decide +kernel
theorem d_C_typeAt_65 : decode b_C_typeAt 65 = .ok (.invokespecial 94, 3) := by decide +kernel
theorem d_C_typeAt_68 : decode b_C_typeAt 68 = .ok (.athrow, 1) := by decide +kernel
theorem d_C_body_0 : decode b_C_body 0 = .ok (.aload_n 0, 1) := by decide +kernel
theorem d_C_body_1 : decode b_C_body 1 = .ok (.iload_n 1, 1) := by decide +kernel
theorem d_C_body_2 : decode b_C_body 2 = .ok (.invokevirtual 70, 3) := by decide +kernel
theorem d_C_body_5 : decode b_C_body 5 = .ok (.iload_n 2, 1) := by decide +kernel
theorem d_C_body_6 : decode b_C_body 6 = .ok (.i2l, 1) := by decide +kernel
theorem d_C_body_7 : decode b_C_body 7 = .ok (.iload_n 3, 1) := by decide +kernel
theorem d_C_body_8 : decode b_C_body 8 = .ok (.i2l, 1) := by decide +kernel
theorem d_C_body_9 : decode b_C_body 9 = .ok (.invokestatic 86, 3) := by decide +kernel
theorem d_C_body_12 : decode b_C_body 12 = .ok (.iload 4, 2) := by decide +kernel
theorem d_C_body_14 : decode b_C_body 14 = .ok (.ifCond .ge 13, 3) := by decide +kernel
theorem d_C_body_17 : decode b_C_body 17 = .ok (.new 90, 3) := by decide +kernel
theorem d_C_body_20 : decode b_C_body 20 = .ok (.dup, 1) := by decide +kernel
theorem d_C_body_21 : decode b_C_body 21 = .ok (.ldc 217, 2) := by decide +kernel
theorem d_C_body_23 : decode b_C_body 23 = .ok (.invokespecial 94, 3) := by decide +kernel
theorem d_C_body_26 : decode b_C_body 26 = .ok (.athrow, 1) := by decide +kernel
theorem d_C_body_27 : decode b_C_body 27 = .ok (.iload 4, 2) := by decide +kernel
theorem d_C_body_29 : decode b_C_body 29 = .ok (.istore 5, 2) := by decide +kernel
theorem d_C_body_31 : decode b_C_body 31 = .ok (.iconst 0, 1) := by decide +kernel
theorem d_C_body_32 : decode b_C_body 32 = .ok (.istore 6, 2) := by decide +kernel
theorem d_C_body_34 : decode b_C_body 34 = .ok (.iload 6, 2) := by decide +kernel
theorem d_C_body_36 : decode b_C_body 36 = .ok (.aload_n 0, 1) := by decide +kernel
theorem d_C_body_37 : decode b_C_body 37 = .ok (.getfield 26, 3) := by decide +kernel
theorem d_C_body_40 : decode b_C_body 40 = .ok (.getfield 95, 3) := by decide +kernel
theorem d_C_body_43 : decode b_C_body 43 = .ok (.if_icmp .ge 44, 3) := by decide +kernel
theorem d_C_body_46 : decode b_C_body 46 = .ok (.aload_n 0, 1) := by decide +kernel
theorem d_C_body_47 : decode b_C_body 47 = .ok (.getfield 26, 3) := by decide +kernel
theorem d_C_body_50 : decode b_C_body 50 = .ok (.iload 6, 2) := by decide +kernel
theorem d_C_body_52 : decode b_C_body 52 = .ok (.iload_n 1, 1) := by decide +kernel
theorem d_C_body_53 : decode b_C_body 53 = .ok (.invokevirtual 219, 3) := by decide +kernel
theorem d_C_body_56 : decode b_C_body 56 = .ok (.ifCond .eq 25, 3) := by decide +kernel
theorem d_C_body_59 : decode b_C_body 59 = .ok (.aload_n 0, 1) := by decide +kernel
theorem d_C_body_60 : decode b_C_body 60 = .ok (.iload 6, 2) := by decide +kernel
theorem d_C_body_62 : decode b_C_body 62 = .ok (.iload_n 2, 1) := by decide +kernel
theorem d_C_body_63 : decode b_C_body 63 = .ok (.iload_n 3, 1) := by decide +kernel
theorem d_C_body_64 : decode b_C_body 64 = .ok (.invokevirtual 223, 3) := by decide +kernel
theorem d_C_body_67 : decode b_C_body 67 = .ok (.ifCond .eq 14, 3) := by decide +kernel
theorem d_C_body_70 : decode b_C_body 70 = .ok (.iload 5, 2) := by decide +kernel
theorem d_C_body_72 : decode b_C_body 72 = .ok (.ifCond .ne 6, 3) := by decide +kernel
theorem d_C_body_75 : decode b_C_body 75 = .ok (.iload 6, 2) := by decide +kernel
theorem d_C_body_77 : decode b_C_body 77 = .ok (.ireturn, 1) := by decide +kernel
theorem d_C_body_78 : decode b_C_body 78 = .ok (.iinc 5 (-1), 3) := by decide +kernel
theorem d_C_body_81 : decode b_C_body 81 = .ok (.iinc 6 1, 3) := by decide +kernel
theorem d_C_body_84 : decode b_C_body 84 = .ok (.goto (-50), 3) := by decide +kernel
theorem d_C_body_87 : decode b_C_body 87 = .ok (.iconst (-1), 1) := by decide +kernel
theorem d_C_body_88 : decode b_C_body 88 = .ok (.ireturn, 1) := by decide +kernel
theorem d_C_checkStorey_0 : decode b_C_checkStorey 0 = .ok (.aload_n 0, 1) := by decide +kernel
theorem d_C_checkStorey_1 : decode b_C_checkStorey 1 = .ok (.getfield 10, 3) := by decide +kernel
theorem d_C_checkStorey_4 : decode b_C_checkStorey 4 = .ok (.iload_n 1, 1) := by decide +kernel
theorem d_C_checkStorey_5 : decode b_C_checkStorey 5 = .ok (.invokevirtual 226, 3) := by decide +kernel
theorem d_C_checkStorey_8 : decode b_C_checkStorey 8 = .ok (.ifCond .ne 13, 3) := by decide +kernel
theorem d_C_checkStorey_11 : decode b_C_checkStorey 11 = .ok (.new 90, 3) := by decide +kernel
theorem d_C_checkStorey_14 : decode b_C_checkStorey 14 = .ok (.dup, 1) := by decide +kernel
theorem d_C_checkStorey_15 : decode b_C_checkStorey 15 = .ok (.ldc 227, 2) := by decide +kernel
theorem d_C_checkStorey_17 : decode b_C_checkStorey 17 = .ok (.invokespecial 94, 3) := by decide +kernel
theorem d_C_checkStorey_20 : decode b_C_checkStorey 20 = .ok (.athrow, 1) := by decide +kernel
theorem d_C_checkStorey_21 : decode b_C_checkStorey 21 = .ok (.return_, 1) := by decide +kernel
theorem d_C_checkLevel_0 : decode b_C_checkLevel 0 = .ok (.iload_n 2, 1) := by decide +kernel
theorem d_C_checkLevel_1 : decode b_C_checkLevel 1 = .ok (.sipush (-1000), 3) := by decide +kernel
theorem d_C_checkLevel_4 : decode b_C_checkLevel 4 = .ok (.if_icmp .lt 10, 3) := by decide +kernel
theorem d_C_checkLevel_7 : decode b_C_checkLevel 7 = .ok (.iload_n 2, 1) := by decide +kernel
theorem d_C_checkLevel_8 : decode b_C_checkLevel 8 = .ok (.sipush 10000, 3) := by decide +kernel
theorem d_C_checkLevel_11 : decode b_C_checkLevel 11 = .ok (.if_icmp .le 13, 3) := by decide +kernel
theorem d_C_checkLevel_14 : decode b_C_checkLevel 14 = .ok (.new 90, 3) := by decide +kernel
theorem d_C_checkLevel_17 : decode b_C_checkLevel 17 = .ok (.dup, 1) := by decide +kernel
theorem d_C_checkLevel_18 : decode b_C_checkLevel 18 = .ok (.ldc 229, 2) := by decide +kernel
theorem d_C_checkLevel_20 : decode b_C_checkLevel 20 = .ok (.invokespecial 94, 3) := by decide +kernel
theorem d_C_checkLevel_23 : decode b_C_checkLevel 23 = .ok (.athrow, 1) := by decide +kernel
theorem d_C_checkLevel_24 : decode b_C_checkLevel 24 = .ok (.aload_n 0, 1) := by decide +kernel
theorem d_C_checkLevel_25 : decode b_C_checkLevel 25 = .ok (.getfield 10, 3) := by decide +kernel
theorem d_C_checkLevel_28 : decode b_C_checkLevel 28 = .ok (.iload_n 1, 1) := by decide +kernel
theorem d_C_checkLevel_29 : decode b_C_checkLevel 29 = .ok (.iload_n 2, 1) := by decide +kernel
theorem d_C_checkLevel_30 : decode b_C_checkLevel 30 = .ok (.invokevirtual 231, 3) := by decide +kernel
theorem d_C_checkLevel_33 : decode b_C_checkLevel 33 = .ok (.ifCond .ne 13, 3) := by decide +kernel
theorem d_C_checkLevel_36 : decode b_C_checkLevel 36 = .ok (.new 90, 3) := by decide +kernel
theorem d_C_checkLevel_39 : decode b_C_checkLevel 39 = .ok (.dup, 1) := by decide +kernel
theorem d_C_checkLevel_40 : decode b_C_checkLevel 40 = .ok (.ldc 234, 2) := by decide +kernel
theorem d_C_checkLevel_42 : decode b_C_checkLevel 42 = .ok (.invokespecial 94, 3) := by decide +kernel
theorem d_C_checkLevel_45 : decode b_C_checkLevel 45 = .ok (.athrow, 1) := by decide +kernel
theorem d_C_checkLevel_46 : decode b_C_checkLevel 46 = .ok (.return_, 1) := by decide +kernel
theorem d_C_checkType_0 : decode b_C_checkType 0 = .ok (.aload_n 0, 1) := by decide +kernel
theorem d_C_checkType_1 : decode b_C_checkType 1 = .ok (.getfield 19, 3) := by decide +kernel
theorem d_C_checkType_4 : decode b_C_checkType 4 = .ok (.iload_n 1, 1) := by decide +kernel
theorem d_C_checkType_5 : decode b_C_checkType 5 = .ok (.invokevirtual 236, 3) := by decide +kernel
theorem d_C_checkType_8 : decode b_C_checkType 8 = .ok (.ifCond .ne 13, 3) := by decide +kernel
theorem d_C_checkType_11 : decode b_C_checkType 11 = .ok (.new 90, 3) := by decide +kernel
theorem d_C_checkType_14 : decode b_C_checkType 14 = .ok (.dup, 1) := by decide +kernel
theorem d_C_checkType_15 : decode b_C_checkType 15 = .ok (.ldc 237, 2) := by decide +kernel
theorem d_C_checkType_17 : decode b_C_checkType 17 = .ok (.invokespecial 94, 3) := by decide +kernel
theorem d_C_checkType_20 : decode b_C_checkType 20 = .ok (.athrow, 1) := by decide +kernel
theorem d_C_checkType_21 : decode b_C_checkType 21 = .ok (.return_, 1) := by decide +kernel
theorem d_C_checkThickness_0 : decode b_C_checkThickness 0 = .ok (.iload_n 0, 1) := by decide +kernel
theorem d_C_checkThickness_1 : decode b_C_checkThickness 1 = .ok (.iconst 2, 1) := by decide +kernel
theorem d_C_checkThickness_2 : decode b_C_checkThickness 2 = .ok (.if_icmp .lt 15, 3) := by decide +kernel
theorem d_C_checkThickness_5 : decode b_C_checkThickness 5 = .ok (.iload_n 0, 1) := by decide +kernel
theorem d_C_checkThickness_6 : decode b_C_checkThickness 6 = .ok (.bipush 100, 2) := by decide +kernel
theorem d_C_checkThickness_8 : decode b_C_checkThickness 8 = .ok (.if_icmp .gt 9, 3) := by decide +kernel
theorem d_C_checkThickness_11 : decode b_C_checkThickness 11 = .ok (.iload_n 0, 1) := by decide +kernel
theorem d_C_checkThickness_12 : decode b_C_checkThickness 12 = .ok (.iconst 2, 1) := by decide +kernel
theorem d_C_checkThickness_13 : decode b_C_checkThickness 13 = .ok (.irem, 1) := by decide +kernel
theorem d_C_checkThickness_14 : decode b_C_checkThickness 14 = .ok (.ifCond .eq 13, 3) := by decide +kernel
theorem d_C_checkThickness_17 : decode b_C_checkThickness 17 = .ok (.new 90, 3) := by decide +kernel
theorem d_C_checkThickness_20 : decode b_C_checkThickness 20 = .ok (.dup, 1) := by decide +kernel
theorem d_C_checkThickness_21 : decode b_C_checkThickness 21 = .ok (.ldc 239, 2) := by decide +kernel
theorem d_C_checkThickness_23 : decode b_C_checkThickness 23 = .ok (.invokespecial 94, 3) := by decide +kernel
theorem d_C_checkThickness_26 : decode b_C_checkThickness 26 = .ok (.athrow, 1) := by decide +kernel
theorem d_C_checkThickness_27 : decode b_C_checkThickness 27 = .ok (.return_, 1) := by decide +kernel
theorem d_C_checkWall_0 : decode b_C_checkWall 0 = .ok (.aload_n 0, 1) := by decide +kernel
theorem d_C_checkWall_1 : decode b_C_checkWall 1 = .ok (.getfield 26, 3) := by decide +kernel
theorem d_C_checkWall_4 : decode b_C_checkWall 4 = .ok (.iload_n 1, 1) := by decide +kernel
theorem d_C_checkWall_5 : decode b_C_checkWall 5 = .ok (.invokevirtual 188, 3) := by decide +kernel
theorem d_C_checkWall_8 : decode b_C_checkWall 8 = .ok (.ifCond .ne 13, 3) := by decide +kernel
theorem d_C_checkWall_11 : decode b_C_checkWall 11 = .ok (.new 90, 3) := by decide +kernel
theorem d_C_checkWall_14 : decode b_C_checkWall 14 = .ok (.dup, 1) := by decide +kernel
theorem d_C_checkWall_15 : decode b_C_checkWall 15 = .ok (.ldc 241, 2) := by decide +kernel
theorem d_C_checkWall_17 : decode b_C_checkWall 17 = .ok (.invokespecial 94, 3) := by decide +kernel
theorem d_C_checkWall_20 : decode b_C_checkWall 20 = .ok (.athrow, 1) := by decide +kernel
theorem d_C_checkWall_21 : decode b_C_checkWall 21 = .ok (.return_, 1) := by decide +kernel
theorem d_C_checkPlace_0 : decode b_C_checkPlace 0 = .ok (.lload_n 0, 1) := by decide +kernel
theorem d_C_checkPlace_1 : decode b_C_checkPlace 1 = .ok (.ldc2_w 243, 3) := by decide +kernel
theorem d_C_checkPlace_4 : decode b_C_checkPlace 4 = .ok (.lcmp, 1) := by decide +kernel
theorem d_C_checkPlace_5 : decode b_C_checkPlace 5 = .ok (.ifCond .lt 27, 3) := by decide +kernel
theorem d_C_checkPlace_8 : decode b_C_checkPlace 8 = .ok (.lload_n 0, 1) := by decide +kernel
theorem d_C_checkPlace_9 : decode b_C_checkPlace 9 = .ok (.ldc2_w 245, 3) := by decide +kernel
theorem d_C_checkPlace_12 : decode b_C_checkPlace 12 = .ok (.lcmp, 1) := by decide +kernel
theorem d_C_checkPlace_13 : decode b_C_checkPlace 13 = .ok (.ifCond .gt 19, 3) := by decide +kernel
theorem d_C_checkPlace_16 : decode b_C_checkPlace 16 = .ok (.lload_n 2, 1) := by decide +kernel
theorem d_C_checkPlace_17 : decode b_C_checkPlace 17 = .ok (.ldc2_w 243, 3) := by decide +kernel
theorem d_C_checkPlace_20 : decode b_C_checkPlace 20 = .ok (.lcmp, 1) := by decide +kernel
theorem d_C_checkPlace_21 : decode b_C_checkPlace 21 = .ok (.ifCond .lt 11, 3) := by decide +kernel
theorem d_C_checkPlace_24 : decode b_C_checkPlace 24 = .ok (.lload_n 2, 1) := by decide +kernel
theorem d_C_checkPlace_25 : decode b_C_checkPlace 25 = .ok (.ldc2_w 245, 3) := by decide +kernel
theorem d_C_checkPlace_28 : decode b_C_checkPlace 28 = .ok (.lcmp, 1) := by decide +kernel
theorem d_C_checkPlace_29 : decode b_C_checkPlace 29 = .ok (.ifCond .le 13, 3) := by decide +kernel
theorem d_C_checkPlace_32 : decode b_C_checkPlace 32 = .ok (.new 90, 3) := by decide +kernel
theorem d_C_checkPlace_35 : decode b_C_checkPlace 35 = .ok (.dup, 1) := by decide +kernel
theorem d_C_checkPlace_36 : decode b_C_checkPlace 36 = .ok (.ldc 247, 2) := by decide +kernel
theorem d_C_checkPlace_38 : decode b_C_checkPlace 38 = .ok (.invokespecial 94, 3) := by decide +kernel
theorem d_C_checkPlace_41 : decode b_C_checkPlace 41 = .ok (.athrow, 1) := by decide +kernel
theorem d_C_checkPlace_42 : decode b_C_checkPlace 42 = .ok (.return_, 1) := by decide +kernel
theorem d_C_checkRoomForAct_0 : decode b_C_checkRoomForAct 0 = .ok (.aload_n 0, 1) := by decide +kernel
theorem d_C_checkRoomForAct_1 : decode b_C_checkRoomForAct 1 = .ok (.getfield 40, 3) := by decide +kernel
theorem d_C_checkRoomForAct_4 : decode b_C_checkRoomForAct 4 = .ok (.getfield 150, 3) := by decide +kernel
theorem d_C_checkRoomForAct_7 : decode b_C_checkRoomForAct 7 = .ok (.sipush 200, 3) := by decide +kernel
theorem d_C_checkRoomForAct_10 : decode b_C_checkRoomForAct 10 = .ok (.if_icmp .lt 13, 3) := by decide +kernel
theorem d_C_checkRoomForAct_13 : decode b_C_checkRoomForAct 13 = .ok (.new 52, 3) := by decide +kernel
theorem d_C_checkRoomForAct_16 : decode b_C_checkRoomForAct 16 = .ok (.dup, 1) := by decide +kernel
theorem d_C_checkRoomForAct_17 : decode b_C_checkRoomForAct 17 = .ok (.ldc 249, 2) := by decide +kernel
theorem d_C_checkRoomForAct_19 : decode b_C_checkRoomForAct 19 = .ok (.invokespecial 56, 3) := by decide +kernel
theorem d_C_checkRoomForAct_22 : decode b_C_checkRoomForAct 22 = .ok (.athrow, 1) := by decide +kernel
theorem d_C_checkRoomForAct_23 : decode b_C_checkRoomForAct 23 = .ok (.return_, 1) := by decide +kernel
theorem d_C_perform_0 : decode b_C_perform 0 = .ok (.aload_n 0, 1) := by decide +kernel
theorem d_C_perform_1 : decode b_C_perform 1 = .ok (.getfield 40, 3) := by decide +kernel
theorem d_C_perform_4 : decode b_C_perform 4 = .ok (.iload_n 1, 1) := by decide +kernel
theorem d_C_perform_5 : decode b_C_perform 5 = .ok (.iload_n 2, 1) := by decide +kernel
theorem d_C_perform_6 : decode b_C_perform 6 = .ok (.iload_n 3, 1) := by decide +kernel
theorem d_C_perform_7 : decode b_C_perform 7 = .ok (.iload 4, 2) := by decide +kernel
theorem d_C_perform_9 : decode b_C_perform 9 = .ok (.invokevirtual 251, 3) := by decide +kernel
theorem d_C_perform_12 : decode b_C_perform 12 = .ok (.aload_n 0, 1) := by decide +kernel
theorem d_C_perform_13 : decode b_C_perform 13 = .ok (.invokevirtual 159, 3) := by decide +kernel
theorem d_C_perform_16 : decode b_C_perform 16 = .ok (.return_, 1) := by decide +kernel
theorem d_C_goForward_0 : decode b_C_goForward 0 = .ok (.aload_n 0, 1) := by decide +kernel
theorem d_C_goForward_1 : decode b_C_goForward 1 = .ok (.aload_n 0, 1) := by decide +kernel
theorem d_C_goForward_2 : decode b_C_goForward 2 = .ok (.getfield 40, 3) := by decide +kernel
theorem d_C_goForward_5 : decode b_C_goForward 5 = .ok (.getfield 150, 3) := by decide +kernel
theorem d_C_goForward_8 : decode b_C_goForward 8 = .ok (.iconst 1, 1) := by decide +kernel
theorem d_C_goForward_9 : decode b_C_goForward 9 = .ok (.invokevirtual 153, 3) := by decide +kernel
theorem d_C_goForward_12 : decode b_C_goForward 12 = .ok (.aload_n 0, 1) := by decide +kernel
theorem d_C_goForward_13 : decode b_C_goForward 13 = .ok (.getfield 40, 3) := by decide +kernel
theorem d_C_goForward_16 : decode b_C_goForward 16 = .ok (.dup, 1) := by decide +kernel
theorem d_C_goForward_17 : decode b_C_goForward 17 = .ok (.getfield 150, 3) := by decide +kernel
theorem d_C_goForward_20 : decode b_C_goForward 20 = .ok (.iconst 1, 1) := by decide +kernel
theorem d_C_goForward_21 : decode b_C_goForward 21 = .ok (.iadd, 1) := by decide +kernel
theorem d_C_goForward_22 : decode b_C_goForward 22 = .ok (.putfield 150, 3) := by decide +kernel
theorem d_C_goForward_25 : decode b_C_goForward 25 = .ok (.return_, 1) := by decide +kernel
theorem d_C_step_0 : decode b_C_step 0 = .ok (.aload_n 0, 1) := by decide +kernel
theorem d_C_step_1 : decode b_C_step 1 = .ok (.getfield 40, 3) := by decide +kernel
theorem d_C_step_4 : decode b_C_step 4 = .ok (.getfield 252, 3) := by decide +kernel
theorem d_C_step_7 : decode b_C_step 7 = .ok (.iload_n 1, 1) := by decide +kernel
theorem d_C_step_8 : decode b_C_step 8 = .ok (.iaload, 1) := by decide +kernel
theorem d_C_step_9 : decode b_C_step 9 = .ok (.istore_n 3, 1) := by decide +kernel
theorem d_C_step_10 : decode b_C_step 10 = .ok (.aload_n 0, 1) := by decide +kernel
theorem d_C_step_11 : decode b_C_step 11 = .ok (.getfield 40, 3) := by decide +kernel
theorem d_C_step_14 : decode b_C_step 14 = .ok (.getfield 255, 3) := by decide +kernel
theorem d_C_step_17 : decode b_C_step 17 = .ok (.iload_n 1, 1) := by decide +kernel
theorem d_C_step_18 : decode b_C_step 18 = .ok (.iaload, 1) := by decide +kernel
theorem d_C_step_19 : decode b_C_step 19 = .ok (.istore 4, 2) := by decide +kernel
theorem d_C_step_21 : decode b_C_step 21 = .ok (.aload_n 0, 1) := by decide +kernel
theorem d_C_step_22 : decode b_C_step 22 = .ok (.getfield 40, 3) := by decide +kernel
theorem d_C_step_25 : decode b_C_step 25 = .ok (.getfield 258, 3) := by decide +kernel
theorem d_C_step_28 : decode b_C_step 28 = .ok (.iload_n 1, 1) := by decide +kernel
theorem d_C_step_29 : decode b_C_step 29 = .ok (.iaload, 1) := by decide +kernel
theorem d_C_step_30 : decode b_C_step 30 = .ok (.istore 5, 2) := by decide +kernel
theorem d_C_step_32 : decode b_C_step 32 = .ok (.aload_n 0, 1) := by decide +kernel
theorem d_C_step_33 : decode b_C_step 33 = .ok (.getfield 40, 3) := by decide +kernel
theorem d_C_step_36 : decode b_C_step 36 = .ok (.getfield 261, 3) := by decide +kernel
theorem d_C_step_39 : decode b_C_step 39 = .ok (.iload_n 1, 1) := by decide +kernel
theorem d_C_step_40 : decode b_C_step 40 = .ok (.iaload, 1) := by decide +kernel
theorem d_C_step_41 : decode b_C_step 41 = .ok (.tableswitch 155 0 7 #[47, 63, 79, 155, 155, 155, 114, 133], 47) := by decide +kernel
theorem d_C_step_88 : decode b_C_step 88 = .ok (.aload_n 0, 1) := by decide +kernel
theorem d_C_step_89 : decode b_C_step 89 = .ok (.getfield 10, 3) := by decide +kernel
theorem d_C_step_92 : decode b_C_step 92 = .ok (.dup, 1) := by decide +kernel
theorem d_C_step_93 : decode b_C_step 93 = .ok (.getfield 44, 3) := by decide +kernel
theorem d_C_step_96 : decode b_C_step 96 = .ok (.iload_n 2, 1) := by decide +kernel
theorem d_C_step_97 : decode b_C_step 97 = .ok (.iadd, 1) := by decide +kernel
theorem d_C_step_98 : decode b_C_step 98 = .ok (.putfield 44, 3) := by decide +kernel
theorem d_C_step_101 : decode b_C_step 101 = .ok (.goto 120, 3) := by decide +kernel
theorem d_C_step_104 : decode b_C_step 104 = .ok (.aload_n 0, 1) := by decide +kernel
theorem d_C_step_105 : decode b_C_step 105 = .ok (.getfield 19, 3) := by decide +kernel
theorem d_C_step_108 : decode b_C_step 108 = .ok (.dup, 1) := by decide +kernel
theorem d_C_step_109 : decode b_C_step 109 = .ok (.getfield 74, 3) := by decide +kernel
theorem d_C_step_112 : decode b_C_step 112 = .ok (.iload_n 2, 1) := by decide +kernel
theorem d_C_step_113 : decode b_C_step 113 = .ok (.iadd, 1) := by decide +kernel
theorem d_C_step_114 : decode b_C_step 114 = .ok (.putfield 74, 3) := by decide +kernel
theorem d_C_step_117 : decode b_C_step 117 = .ok (.goto 104, 3) := by decide +kernel
theorem d_C_step_120 : decode b_C_step 120 = .ok (.aload_n 0, 1) := by decide +kernel
theorem d_C_step_121 : decode b_C_step 121 = .ok (.getfield 26, 3) := by decide +kernel
theorem d_C_step_124 : decode b_C_step 124 = .ok (.dup, 1) := by decide +kernel
theorem d_C_step_125 : decode b_C_step 125 = .ok (.getfield 95, 3) := by decide +kernel
theorem d_C_step_128 : decode b_C_step 128 = .ok (.iload_n 2, 1) := by decide +kernel
theorem d_C_step_129 : decode b_C_step 129 = .ok (.iload 4, 2) := by decide +kernel
theorem d_C_step_131 : decode b_C_step 131 = .ok (.imul, 1) := by decide +kernel
theorem d_C_step_132 : decode b_C_step 132 = .ok (.iadd, 1) := by decide +kernel
theorem d_C_step_133 : decode b_C_step 133 = .ok (.putfield 95, 3) := by decide +kernel
theorem d_C_step_136 : decode b_C_step 136 = .ok (.aload_n 0, 1) := by decide +kernel
theorem d_C_step_137 : decode b_C_step 137 = .ok (.getfield 33, 3) := by decide +kernel
theorem d_C_step_140 : decode b_C_step 140 = .ok (.dup, 1) := by decide +kernel
theorem d_C_step_141 : decode b_C_step 141 = .ok (.getfield 123, 3) := by decide +kernel
theorem d_C_step_144 : decode b_C_step 144 = .ok (.iload_n 2, 1) := by decide +kernel
theorem d_C_step_145 : decode b_C_step 145 = .ok (.iload 5, 2) := by decide +kernel
theorem d_C_step_147 : decode b_C_step 147 = .ok (.imul, 1) := by decide +kernel
theorem d_C_step_148 : decode b_C_step 148 = .ok (.iadd, 1) := by decide +kernel
theorem d_C_step_149 : decode b_C_step 149 = .ok (.putfield 123, 3) := by decide +kernel
theorem d_C_step_152 : decode b_C_step 152 = .ok (.goto 69, 3) := by decide +kernel
theorem d_C_step_155 : decode b_C_step 155 = .ok (.aload_n 0, 1) := by decide +kernel
theorem d_C_step_156 : decode b_C_step 156 = .ok (.getfield 26, 3) := by decide +kernel
theorem d_C_step_159 : decode b_C_step 159 = .ok (.iload_n 3, 1) := by decide +kernel
theorem d_C_step_160 : decode b_C_step 160 = .ok (.iload_n 2, 1) := by decide +kernel
theorem d_C_step_161 : decode b_C_step 161 = .ok (.iload 4, 2) := by decide +kernel
theorem d_C_step_163 : decode b_C_step 163 = .ok (.imul, 1) := by decide +kernel
theorem d_C_step_164 : decode b_C_step 164 = .ok (.iload_n 2, 1) := by decide +kernel
theorem d_C_step_165 : decode b_C_step 165 = .ok (.iload 5, 2) := by decide +kernel
theorem d_C_step_167 : decode b_C_step 167 = .ok (.imul, 1) := by decide +kernel
theorem d_C_step_168 : decode b_C_step 168 = .ok (.invokevirtual 264, 3) := by decide +kernel
theorem d_C_step_171 : decode b_C_step 171 = .ok (.goto 50, 3) := by decide +kernel
theorem d_C_step_174 : decode b_C_step 174 = .ok (.aload_n 0, 1) := by decide +kernel
theorem d_C_step_175 : decode b_C_step 175 = .ok (.getfield 26, 3) := by decide +kernel
theorem d_C_step_178 : decode b_C_step 178 = .ok (.getfield 268, 3) := by decide +kernel
theorem d_C_step_181 : decode b_C_step 181 = .ok (.iload_n 3, 1) := by decide +kernel
theorem d_C_step_182 : decode b_C_step 182 = .ok (.iload_n 2, 1) := by decide +kernel
theorem d_C_step_183 : decode b_C_step 183 = .ok (.iconst 1, 1) := by decide +kernel
theorem d_C_step_184 : decode b_C_step 184 = .ok (.if_icmp .ne 7, 3) := by decide +kernel
theorem d_C_step_187 : decode b_C_step 187 = .ok (.iconst 1, 1) := by decide +kernel
theorem d_C_step_188 : decode b_C_step 188 = .ok (.goto 4, 3) := by decide +kernel
theorem d_C_step_191 : decode b_C_step 191 = .ok (.iconst 0, 1) := by decide +kernel
theorem d_C_step_192 : decode b_C_step 192 = .ok (.bastore, 1) := by decide +kernel
theorem d_C_step_193 : decode b_C_step 193 = .ok (.goto 28, 3) := by decide +kernel
theorem d_C_step_196 : decode b_C_step 196 = .ok (.aload_n 0, 1) := by decide +kernel
theorem d_C_step_197 : decode b_C_step 197 = .ok (.getfield 40, 3) := by decide +kernel
theorem d_C_step_200 : decode b_C_step 200 = .ok (.getfield 255, 3) := by decide +kernel
theorem d_C_step_203 : decode b_C_step 203 = .ok (.iload_n 1, 1) := by decide +kernel
theorem d_C_step_204 : decode b_C_step 204 = .ok (.aload_n 0, 1) := by decide +kernel
theorem d_C_step_205 : decode b_C_step 205 = .ok (.aload_n 0, 1) := by decide +kernel
theorem d_C_step_206 : decode b_C_step 206 = .ok (.getfield 40, 3) := by decide +kernel
theorem d_C_step_209 : decode b_C_step 209 = .ok (.getfield 261, 3) := by decide +kernel
theorem d_C_step_212 : decode b_C_step 212 = .ok (.iload_n 1, 1) := by decide +kernel
theorem d_C_step_213 : decode b_C_step 213 = .ok (.iaload, 1) := by decide +kernel
theorem d_C_step_214 : decode b_C_step 214 = .ok (.iload_n 3, 1) := by decide +kernel
theorem d_C_step_215 : decode b_C_step 215 = .ok (.iload 4, 2) := by decide +kernel
theorem d_C_step_217 : decode b_C_step 217 = .ok (.invokevirtual 272, 3) := by decide +kernel
theorem d_C_step_220 : decode b_C_step 220 = .ok (.iastore, 1) := by decide +kernel
theorem d_C_step_221 : decode b_C_step 221 = .ok (.return_, 1) := by decide +kernel
theorem d_C_exchange_0 : decode b_C_exchange 0 = .ok (.iload_n 1, 1) := by decide +kernel
theorem d_C_exchange_1 : decode b_C_exchange 1 = .ok (.iconst 3, 1) := by decide +kernel
theorem d_C_exchange_2 : decode b_C_exchange 2 = .ok (.if_icmp .ne 27, 3) := by decide +kernel
theorem d_C_exchange_5 : decode b_C_exchange 5 = .ok (.aload_n 0, 1) := by decide +kernel
theorem d_C_exchange_6 : decode b_C_exchange 6 = .ok (.getfield 10, 3) := by decide +kernel
theorem d_C_exchange_9 : decode b_C_exchange 9 = .ok (.getfield 62, 3) := by decide +kernel
theorem d_C_exchange_12 : decode b_C_exchange 12 = .ok (.iload_n 2, 1) := by decide +kernel
theorem d_C_exchange_13 : decode b_C_exchange 13 = .ok (.iaload, 1) := by decide +kernel
theorem d_C_exchange_14 : decode b_C_exchange 14 = .ok (.istore 4, 2) := by decide +kernel
theorem d_C_exchange_16 : decode b_C_exchange 16 = .ok (.aload_n 0, 1) := by decide +kernel
theorem d_C_exchange_17 : decode b_C_exchange 17 = .ok (.getfield 10, 3) := by decide +kernel
theorem d_C_exchange_20 : decode b_C_exchange 20 = .ok (.getfield 62, 3) := by decide +kernel
theorem d_C_exchange_23 : decode b_C_exchange 23 = .ok (.iload_n 2, 1) := by decide +kernel
theorem d_C_exchange_24 : decode b_C_exchange 24 = .ok (.iload_n 3, 1) := by decide +kernel
theorem d_C_exchange_25 : decode b_C_exchange 25 = .ok (.iastore, 1) := by decide +kernel
theorem d_C_exchange_26 : decode b_C_exchange 26 = .ok (.goto 53, 3) := by decide +kernel
theorem d_C_exchange_29 : decode b_C_exchange 29 = .ok (.iload_n 1, 1) := by decide +kernel
theorem d_C_exchange_30 : decode b_C_exchange 30 = .ok (.iconst 4, 1) := by decide +kernel
theorem d_C_exchange_31 : decode b_C_exchange 31 = .ok (.if_icmp .ne 27, 3) := by decide +kernel
theorem d_C_exchange_34 : decode b_C_exchange 34 = .ok (.aload_n 0, 1) := by decide +kernel
theorem d_C_exchange_35 : decode b_C_exchange 35 = .ok (.getfield 19, 3) := by decide +kernel
theorem d_C_exchange_38 : decode b_C_exchange 38 = .ok (.getfield 80, 3) := by decide +kernel
theorem d_C_exchange_41 : decode b_C_exchange 41 = .ok (.iload_n 2, 1) := by decide +kernel
theorem d_C_exchange_42 : decode b_C_exchange 42 = .ok (.iaload, 1) := by decide +kernel
theorem d_C_exchange_43 : decode b_C_exchange 43 = .ok (.istore 4, 2) := by decide +kernel
theorem d_C_exchange_45 : decode b_C_exchange 45 = .ok (.aload_n 0, 1) := by decide +kernel
theorem d_C_exchange_46 : decode b_C_exchange 46 = .ok (.getfield 19, 3) := by decide +kernel
theorem d_C_exchange_49 : decode b_C_exchange 49 = .ok (.getfield 80, 3) := by decide +kernel
theorem d_C_exchange_52 : decode b_C_exchange 52 = .ok (.iload_n 2, 1) := by decide +kernel
theorem d_C_exchange_53 : decode b_C_exchange 53 = .ok (.iload_n 3, 1) := by decide +kernel
theorem d_C_exchange_54 : decode b_C_exchange 54 = .ok (.iastore, 1) := by decide +kernel
theorem d_C_exchange_55 : decode b_C_exchange 55 = .ok (.goto 24, 3) := by decide +kernel
theorem d_C_exchange_58 : decode b_C_exchange 58 = .ok (.aload_n 0, 1) := by decide +kernel
theorem d_C_exchange_59 : decode b_C_exchange 59 = .ok (.getfield 26, 3) := by decide +kernel
theorem d_C_exchange_62 : decode b_C_exchange 62 = .ok (.getfield 168, 3) := by decide +kernel
theorem d_C_exchange_65 : decode b_C_exchange 65 = .ok (.iload_n 2, 1) := by decide +kernel
theorem d_C_exchange_66 : decode b_C_exchange 66 = .ok (.iaload, 1) := by decide +kernel
theorem d_C_exchange_67 : decode b_C_exchange 67 = .ok (.istore 4, 2) := by decide +kernel
theorem d_C_exchange_69 : decode b_C_exchange 69 = .ok (.aload_n 0, 1) := by decide +kernel
theorem d_C_exchange_70 : decode b_C_exchange 70 = .ok (.getfield 26, 3) := by decide +kernel
theorem d_C_exchange_73 : decode b_C_exchange 73 = .ok (.getfield 168, 3) := by decide +kernel
theorem d_C_exchange_76 : decode b_C_exchange 76 = .ok (.iload_n 2, 1) := by decide +kernel
theorem d_C_exchange_77 : decode b_C_exchange 77 = .ok (.iload_n 3, 1) := by decide +kernel
theorem d_C_exchange_78 : decode b_C_exchange 78 = .ok (.iastore, 1) := by decide +kernel
theorem d_C_exchange_79 : decode b_C_exchange 79 = .ok (.iload 4, 2) := by decide +kernel
theorem d_C_exchange_81 : decode b_C_exchange 81 = .ok (.ireturn, 1) := by decide +kernel
theorem d_C_writeCopies_0 : decode b_C_writeCopies 0 = .ok (.aload_n 0, 1) := by decide +kernel
theorem d_C_writeCopies_1 : decode b_C_writeCopies 1 = .ok (.getfield 26, 3) := by decide +kernel
theorem d_C_writeCopies_4 : decode b_C_writeCopies 4 = .ok (.getfield 95, 3) := by decide +kernel
theorem d_C_writeCopies_7 : decode b_C_writeCopies 7 = .ok (.istore_n 3, 1) := by decide +kernel
theorem d_C_writeCopies_8 : decode b_C_writeCopies 8 = .ok (.aload_n 0, 1) := by decide +kernel
theorem d_C_writeCopies_9 : decode b_C_writeCopies 9 = .ok (.getfield 33, 3) := by decide +kernel
theorem d_C_writeCopies_12 : decode b_C_writeCopies 12 = .ok (.getfield 123, 3) := by decide +kernel
theorem d_C_writeCopies_15 : decode b_C_writeCopies 15 = .ok (.istore 4, 2) := by decide +kernel
theorem d_C_writeCopies_17 : decode b_C_writeCopies 17 = .ok (.iconst 0, 1) := by decide +kernel
theorem d_C_writeCopies_18 : decode b_C_writeCopies 18 = .ok (.istore 5, 2) := by decide +kernel
theorem d_C_writeCopies_20 : decode b_C_writeCopies 20 = .ok (.iload 5, 2) := by decide +kernel
theorem d_C_writeCopies_22 : decode b_C_writeCopies 22 = .ok (.aload_n 0, 1) := by decide +kernel
theorem d_C_writeCopies_23 : decode b_C_writeCopies 23 = .ok (.getfield 26, 3) := by decide +kernel
theorem d_C_writeCopies_26 : decode b_C_writeCopies 26 = .ok (.getfield 95, 3) := by decide +kernel
theorem d_C_writeCopies_29 : decode b_C_writeCopies 29 = .ok (.if_icmp .ge 50, 3) := by decide +kernel
theorem d_C_writeCopies_32 : decode b_C_writeCopies 32 = .ok (.aload_n 0, 1) := by decide +kernel
theorem d_C_writeCopies_33 : decode b_C_writeCopies 33 = .ok (.getfield 26, 3) := by decide +kernel
theorem d_C_writeCopies_36 : decode b_C_writeCopies 36 = .ok (.iload 5, 2) := by decide +kernel
theorem d_C_writeCopies_38 : decode b_C_writeCopies 38 = .ok (.iload_n 1, 1) := by decide +kernel
theorem d_C_writeCopies_39 : decode b_C_writeCopies 39 = .ok (.invokevirtual 219, 3) := by decide +kernel
theorem d_C_writeCopies_42 : decode b_C_writeCopies 42 = .ok (.ifCond .eq 31, 3) := by decide +kernel
theorem d_C_writeCopies_45 : decode b_C_writeCopies 45 = .ok (.aload_n 0, 1) := by decide +kernel
theorem d_C_writeCopies_46 : decode b_C_writeCopies 46 = .ok (.getfield 26, 3) := by decide +kernel
theorem d_C_writeCopies_49 : decode b_C_writeCopies 49 = .ok (.iload 5, 2) := by decide +kernel
theorem d_C_writeCopies_51 : decode b_C_writeCopies 51 = .ok (.iload_n 3, 1) := by decide +kernel
theorem d_C_writeCopies_52 : decode b_C_writeCopies 52 = .ok (.iload_n 2, 1) := by decide +kernel
theorem d_C_writeCopies_53 : decode b_C_writeCopies 53 = .ok (.invokevirtual 276, 3) := by decide +kernel
theorem d_C_writeCopies_56 : decode b_C_writeCopies 56 = .ok (.aload_n 0, 1) := by decide +kernel
theorem d_C_writeCopies_57 : decode b_C_writeCopies 57 = .ok (.getfield 33, 3) := by decide +kernel
theorem d_C_writeCopies_60 : decode b_C_writeCopies 60 = .ok (.iload 5, 2) := by decide +kernel
theorem d_C_writeCopies_62 : decode b_C_writeCopies 62 = .ok (.iload_n 3, 1) := by decide +kernel
theorem d_C_writeCopies_63 : decode b_C_writeCopies 63 = .ok (.iload 4, 2) := by decide +kernel
theorem d_C_writeCopies_65 : decode b_C_writeCopies 65 = .ok (.invokevirtual 279, 3) := by decide +kernel
theorem d_C_writeCopies_68 : decode b_C_writeCopies 68 = .ok (.istore 4, 2) := by decide +kernel
theorem d_C_writeCopies_70 : decode b_C_writeCopies 70 = .ok (.iinc 3 1, 3) := by decide +kernel
theorem d_C_writeCopies_73 : decode b_C_writeCopies 73 = .ok (.iinc 5 1, 3) := by decide +kernel
theorem d_C_writeCopies_76 : decode b_C_writeCopies 76 = .ok (.goto (-56), 3) := by decide +kernel
theorem d_C_writeCopies_79 : decode b_C_writeCopies 79 = .ok (.return_, 1) := by decide +kernel
theorem d_C_openingsOn_0 : decode b_C_openingsOn 0 = .ok (.iconst 0, 1) := by decide +kernel
theorem d_C_openingsOn_1 : decode b_C_openingsOn 1 = .ok (.istore_n 2, 1) := by decide +kernel
theorem d_C_openingsOn_2 : decode b_C_openingsOn 2 = .ok (.iconst 0, 1) := by decide +kernel
theorem d_C_openingsOn_3 : decode b_C_openingsOn 3 = .ok (.istore_n 3, 1) := by decide +kernel
theorem d_C_openingsOn_4 : decode b_C_openingsOn 4 = .ok (.iload_n 3, 1) := by decide +kernel
theorem d_C_openingsOn_5 : decode b_C_openingsOn 5 = .ok (.aload_n 0, 1) := by decide +kernel
theorem d_C_openingsOn_6 : decode b_C_openingsOn 6 = .ok (.getfield 33, 3) := by decide +kernel
theorem d_C_openingsOn_9 : decode b_C_openingsOn 9 = .ok (.getfield 123, 3) := by decide +kernel
theorem d_C_openingsOn_12 : decode b_C_openingsOn 12 = .ok (.if_icmp .ge 32, 3) := by decide +kernel
theorem d_C_openingsOn_15 : decode b_C_openingsOn 15 = .ok (.aload_n 0, 1) := by decide +kernel
theorem d_C_openingsOn_16 : decode b_C_openingsOn 16 = .ok (.getfield 26, 3) := by decide +kernel
theorem d_C_openingsOn_19 : decode b_C_openingsOn 19 = .ok (.aload_n 0, 1) := by decide +kernel
theorem d_C_openingsOn_20 : decode b_C_openingsOn 20 = .ok (.getfield 33, 3) := by decide +kernel
theorem d_C_openingsOn_23 : decode b_C_openingsOn 23 = .ok (.getfield 186, 3) := by decide +kernel
theorem d_C_openingsOn_26 : decode b_C_openingsOn 26 = .ok (.iload_n 3, 1) := by decide +kernel
theorem d_C_openingsOn_27 : decode b_C_openingsOn 27 = .ok (.iaload, 1) := by decide +kernel
theorem d_C_openingsOn_28 : decode b_C_openingsOn 28 = .ok (.iload_n 1, 1) := by decide +kernel
theorem d_C_openingsOn_29 : decode b_C_openingsOn 29 = .ok (.invokevirtual 219, 3) := by decide +kernel
theorem d_C_openingsOn_32 : decode b_C_openingsOn 32 = .ok (.ifCond .eq 6, 3) := by decide +kernel
theorem d_C_openingsOn_35 : decode b_C_openingsOn 35 = .ok (.iinc 2 1, 3) := by decide +kernel
theorem d_C_openingsOn_38 : decode b_C_openingsOn 38 = .ok (.iinc 3 1, 3) := by decide +kernel
theorem d_C_openingsOn_41 : decode b_C_openingsOn 41 = .ok (.goto (-37), 3) := by decide +kernel
theorem d_C_openingsOn_44 : decode b_C_openingsOn 44 = .ok (.iload_n 2, 1) := by decide +kernel
theorem d_C_openingsOn_45 : decode b_C_openingsOn 45 = .ok (.ireturn, 1) := by decide +kernel
theorem d_C_netLength_0 : decode b_C_netLength 0 = .ok (.aload_n 0, 1) := by decide +kernel
theorem d_C_netLength_1 : decode b_C_netLength 1 = .ok (.getfield 26, 3) := by decide +kernel
theorem d_C_netLength_4 : decode b_C_netLength 4 = .ok (.iload_n 1, 1) := by decide +kernel
theorem d_C_netLength_5 : decode b_C_netLength 5 = .ok (.aload_n 0, 1) := by decide +kernel
theorem d_C_netLength_6 : decode b_C_netLength 6 = .ok (.getfield 26, 3) := by decide +kernel
theorem d_C_netLength_9 : decode b_C_netLength 9 = .ok (.getfield 105, 3) := by decide +kernel
theorem d_C_netLength_12 : decode b_C_netLength 12 = .ok (.iload_n 1, 1) := by decide +kernel
theorem d_C_netLength_13 : decode b_C_netLength 13 = .ok (.iaload, 1) := by decide +kernel
theorem d_C_netLength_14 : decode b_C_netLength 14 = .ok (.aload_n 0, 1) := by decide +kernel
theorem d_C_netLength_15 : decode b_C_netLength 15 = .ok (.getfield 26, 3) := by decide +kernel
theorem d_C_netLength_18 : decode b_C_netLength 18 = .ok (.getfield 108, 3) := by decide +kernel
theorem d_C_netLength_21 : decode b_C_netLength 21 = .ok (.iload_n 1, 1) := by decide +kernel
theorem d_C_netLength_22 : decode b_C_netLength 22 = .ok (.iaload, 1) := by decide +kernel
theorem d_C_netLength_23 : decode b_C_netLength 23 = .ok (.invokevirtual 281, 3) := by decide +kernel
theorem d_C_netLength_26 : decode b_C_netLength 26 = .ok (.istore_n 2, 1) := by decide +kernel
theorem d_C_netLength_27 : decode b_C_netLength 27 = .ok (.aload_n 0, 1) := by decide +kernel
theorem d_C_netLength_28 : decode b_C_netLength 28 = .ok (.getfield 26, 3) := by decide +kernel
theorem d_C_netLength_31 : decode b_C_netLength 31 = .ok (.iload_n 1, 1) := by decide +kernel
theorem d_C_netLength_32 : decode b_C_netLength 32 = .ok (.aload_n 0, 1) := by decide +kernel
theorem d_C_netLength_33 : decode b_C_netLength 33 = .ok (.getfield 26, 3) := by decide +kernel
theorem d_C_netLength_36 : decode b_C_netLength 36 = .ok (.getfield 111, 3) := by decide +kernel
theorem d_C_netLength_39 : decode b_C_netLength 39 = .ok (.iload_n 1, 1) := by decide +kernel
theorem d_C_netLength_40 : decode b_C_netLength 40 = .ok (.iaload, 1) := by decide +kernel
theorem d_C_netLength_41 : decode b_C_netLength 41 = .ok (.aload_n 0, 1) := by decide +kernel
theorem d_C_netLength_42 : decode b_C_netLength 42 = .ok (.getfield 26, 3) := by decide +kernel
theorem d_C_netLength_45 : decode b_C_netLength 45 = .ok (.getfield 114, 3) := by decide +kernel
theorem d_C_netLength_48 : decode b_C_netLength 48 = .ok (.iload_n 1, 1) := by decide +kernel
theorem d_C_netLength_49 : decode b_C_netLength 49 = .ok (.iaload, 1) := by decide +kernel
theorem d_C_netLength_50 : decode b_C_netLength 50 = .ok (.invokevirtual 281, 3) := by decide +kernel
theorem d_C_netLength_53 : decode b_C_netLength 53 = .ok (.istore_n 3, 1) := by decide +kernel
theorem d_C_netLength_54 : decode b_C_netLength 54 = .ok (.aload_n 0, 1) := by decide +kernel
theorem d_C_netLength_55 : decode b_C_netLength 55 = .ok (.getfield 26, 3) := by decide +kernel
theorem d_C_netLength_58 : decode b_C_netLength 58 = .ok (.iload_n 1, 1) := by decide +kernel
theorem d_C_netLength_59 : decode b_C_netLength 59 = .ok (.invokevirtual 117, 3) := by decide +kernel
theorem d_C_netLength_62 : decode b_C_netLength 62 = .ok (.i2l, 1) := by decide +kernel
theorem d_C_netLength_63 : decode b_C_netLength 63 = .ok (.aload_n 0, 1) := by decide +kernel
theorem d_C_netLength_64 : decode b_C_netLength 64 = .ok (.iload_n 1, 1) := by decide +kernel
theorem d_C_netLength_65 : decode b_C_netLength 65 = .ok (.iload_n 2, 1) := by decide +kernel
theorem d_C_netLength_66 : decode b_C_netLength 66 = .ok (.invokevirtual 284, 3) := by decide +kernel
theorem d_C_netLength_69 : decode b_C_netLength 69 = .ok (.i2l, 1) := by decide +kernel
theorem d_C_netLength_70 : decode b_C_netLength 70 = .ok (.ladd, 1) := by decide +kernel
theorem d_C_netLength_71 : decode b_C_netLength 71 = .ok (.aload_n 0, 1) := by decide +kernel
theorem d_C_netLength_72 : decode b_C_netLength 72 = .ok (.iload_n 1, 1) := by decide +kernel
theorem d_C_netLength_73 : decode b_C_netLength 73 = .ok (.iload_n 3, 1) := by decide +kernel
theorem d_C_netLength_74 : decode b_C_netLength 74 = .ok (.invokevirtual 284, 3) := by decide +kernel
theorem d_C_netLength_77 : decode b_C_netLength 77 = .ok (.i2l, 1) := by decide +kernel
theorem d_C_netLength_78 : decode b_C_netLength 78 = .ok (.ladd, 1) := by decide +kernel
theorem d_C_netLength_79 : decode b_C_netLength 79 = .ok (.lreturn, 1) := by decide +kernel
theorem d_C_gainByJoin_0 : decode b_C_gainByJoin 0 = .ok (.iload_n 2, 1) := by decide +kernel
theorem d_C_gainByJoin_1 : decode b_C_gainByJoin 1 = .ok (.iconst (-1), 1) := by decide +kernel
theorem d_C_gainByJoin_2 : decode b_C_gainByJoin 2 = .ok (.if_icmp .ne 5, 3) := by decide +kernel
theorem d_C_gainByJoin_5 : decode b_C_gainByJoin 5 = .ok (.iconst 0, 1) := by decide +kernel
theorem d_C_gainByJoin_6 : decode b_C_gainByJoin 6 = .ok (.ireturn, 1) := by decide +kernel
theorem d_C_gainByJoin_7 : decode b_C_gainByJoin 7 = .ok (.aload_n 0, 1) := by decide +kernel
theorem d_C_gainByJoin_8 : decode b_C_gainByJoin 8 = .ok (.iload_n 2, 1) := by decide +kernel
theorem d_C_gainByJoin_9 : decode b_C_gainByJoin 9 = .ok (.invokevirtual 288, 3) := by decide +kernel
theorem d_C_gainByJoin_12 : decode b_C_gainByJoin 12 = .ok (.istore_n 3, 1) := by decide +kernel
theorem d_C_gainByJoin_13 : decode b_C_gainByJoin 13 = .ok (.iload_n 2, 1) := by decide +kernel
theorem d_C_gainByJoin_14 : decode b_C_gainByJoin 14 = .ok (.iload_n 1, 1) := by decide +kernel
theorem d_C_gainByJoin_15 : decode b_C_gainByJoin 15 = .ok (.if_icmp .ge 8, 3) := by decide +kernel
theorem d_C_gainByJoin_18 : decode b_C_gainByJoin 18 = .ok (.iload_n 3, 1) := by decide +kernel
theorem d_C_gainByJoin_19 : decode b_C_gainByJoin 19 = .ok (.ineg, 1) := by decide +kernel
theorem d_C_gainByJoin_20 : decode b_C_gainByJoin 20 = .ok (.goto 4, 3) := by decide +kernel
theorem d_C_gainByJoin_23 : decode b_C_gainByJoin 23 = .ok (.iload_n 3, 1) := by decide +kernel
theorem d_C_gainByJoin_24 : decode b_C_gainByJoin 24 = .ok (.ireturn, 1) := by decide +kernel
theorem d_C_halfThickness_0 : decode b_C_halfThickness 0 = .ok (.aload_n 0, 1) := by decide +kernel
theorem d_C_halfThickness_1 : decode b_C_halfThickness 1 = .ok (.getfield 19, 3) := by decide +kernel
theorem d_C_halfThickness_4 : decode b_C_halfThickness 4 = .ok (.getfield 80, 3) := by decide +kernel
theorem d_C_halfThickness_7 : decode b_C_halfThickness 7 = .ok (.aload_n 0, 1) := by decide +kernel
theorem d_C_halfThickness_8 : decode b_C_halfThickness 8 = .ok (.getfield 26, 3) := by decide +kernel
theorem d_C_halfThickness_11 : decode b_C_halfThickness 11 = .ok (.getfield 168, 3) := by decide +kernel
theorem d_C_halfThickness_14 : decode b_C_halfThickness 14 = .ok (.iload_n 1, 1) := by decide +kernel
theorem d_C_halfThickness_15 : decode b_C_halfThickness 15 = .ok (.iaload, 1) := by decide +kernel
theorem d_C_halfThickness_16 : decode b_C_halfThickness 16 = .ok (.iaload, 1) := by decide +kernel
theorem d_C_halfThickness_17 : decode b_C_halfThickness 17 = .ok (.iconst 2, 1) := by decide +kernel
theorem d_C_halfThickness_18 : decode b_C_halfThickness 18 = .ok (.idiv, 1) := by decide +kernel
theorem d_C_halfThickness_19 : decode b_C_halfThickness 19 = .ok (.ireturn, 1) := by decide +kernel
theorem d_C_area_0 : decode b_C_area 0 = .ok (.aload_n 0, 1) := by decide +kernel
theorem d_C_area_1 : decode b_C_area 1 = .ok (.getfield 10, 3) := by decide +kernel
theorem d_C_area_4 : decode b_C_area 4 = .ok (.aload_n 0, 1) := by decide +kernel
theorem d_C_area_5 : decode b_C_area 5 = .ok (.getfield 26, 3) := by decide +kernel
theorem d_C_area_8 : decode b_C_area 8 = .ok (.getfield 166, 3) := by decide +kernel
theorem d_C_area_11 : decode b_C_area 11 = .ok (.iload_n 1, 1) := by decide +kernel
theorem d_C_area_12 : decode b_C_area 12 = .ok (.iaload, 1) := by decide +kernel
theorem d_C_area_13 : decode b_C_area 13 = .ok (.invokevirtual 201, 3) := by decide +kernel
theorem d_C_area_16 : decode b_C_area 16 = .ok (.istore_n 2, 1) := by decide +kernel
theorem d_C_area_17 : decode b_C_area 17 = .ok (.iload_n 2, 1) := by decide +kernel
theorem d_C_area_18 : decode b_C_area 18 = .ok (.sipush 200, 3) := by decide +kernel
theorem d_C_area_21 : decode b_C_area 21 = .ok (.invokestatic 291, 3) := by decide +kernel
theorem d_C_area_24 : decode b_C_area 24 = .ok (.istore_n 3, 1) := by decide +kernel
theorem d_C_area_25 : decode b_C_area 25 = .ok (.aload_n 0, 1) := by decide +kernel
theorem d_C_area_26 : decode b_C_area 26 = .ok (.iload_n 1, 1) := by decide +kernel
theorem d_C_area_27 : decode b_C_area 27 = .ok (.invokevirtual 170, 3) := by decide +kernel
theorem d_C_area_30 : decode b_C_area 30 = .ok (.iload_n 2, 1) := by decide +kernel
theorem d_C_area_31 : decode b_C_area 31 = .ok (.i2l, 1) := by decide +kernel
theorem d_C_area_32 : decode b_C_area 32 = .ok (.lmul, 1) := by decide +kernel
theorem d_C_area_33 : decode b_C_area 33 = .ok (.aload_n 0, 1) := by decide +kernel
theorem d_C_area_34 : decode b_C_area 34 = .ok (.getfield 33, 3) := by decide +kernel
theorem d_C_area_37 : decode b_C_area 37 = .ok (.iload_n 1, 1) := by decide +kernel
theorem d_C_area_38 : decode b_C_area 38 = .ok (.invokevirtual 296, 3) := by decide +kernel
theorem d_C_area_41 : decode b_C_area 41 = .ok (.i2l, 1) := by decide +kernel
theorem d_C_area_42 : decode b_C_area 42 = .ok (.iload_n 3, 1) := by decide +kernel
theorem d_C_area_43 : decode b_C_area 43 = .ok (.i2l, 1) := by decide +kernel
theorem d_C_area_44 : decode b_C_area 44 = .ok (.lmul, 1) := by decide +kernel
theorem d_C_area_45 : decode b_C_area 45 = .ok (.lsub, 1) := by decide +kernel
theorem d_C_area_46 : decode b_C_area 46 = .ok (.lreturn, 1) := by decide +kernel
theorem d_C_areaOf_0 : decode b_C_areaOf 0 = .ok (.lconst 0, 1) := by decide +kernel
theorem d_C_areaOf_1 : decode b_C_areaOf 1 = .ok (.lstore_n 2, 1) := by decide +kernel
theorem d_C_areaOf_2 : decode b_C_areaOf 2 = .ok (.iconst 0, 1) := by decide +kernel
theorem d_C_areaOf_3 : decode b_C_areaOf 3 = .ok (.istore 4, 2) := by decide +kernel
theorem d_C_areaOf_5 : decode b_C_areaOf 5 = .ok (.iload 4, 2) := by decide +kernel
theorem d_C_areaOf_7 : decode b_C_areaOf 7 = .ok (.aload_n 0, 1) := by decide +kernel
theorem d_C_areaOf_8 : decode b_C_areaOf 8 = .ok (.getfield 26, 3) := by decide +kernel
theorem d_C_areaOf_11 : decode b_C_areaOf 11 = .ok (.getfield 95, 3) := by decide +kernel
theorem d_C_areaOf_14 : decode b_C_areaOf 14 = .ok (.if_icmp .ge 31, 3) := by decide +kernel
theorem d_C_areaOf_17 : decode b_C_areaOf 17 = .ok (.aload_n 0, 1) := by decide +kernel
theorem d_C_areaOf_18 : decode b_C_areaOf 18 = .ok (.getfield 26, 3) := by decide +kernel
theorem d_C_areaOf_21 : decode b_C_areaOf 21 = .ok (.iload 4, 2) := by decide +kernel
theorem d_C_areaOf_23 : decode b_C_areaOf 23 = .ok (.iload_n 1, 1) := by decide +kernel
theorem d_C_areaOf_24 : decode b_C_areaOf 24 = .ok (.invokevirtual 219, 3) := by decide +kernel
theorem d_C_areaOf_27 : decode b_C_areaOf 27 = .ok (.ifCond .eq 12, 3) := by decide +kernel
theorem d_C_areaOf_30 : decode b_C_areaOf 30 = .ok (.lload_n 2, 1) := by decide +kernel
theorem d_C_areaOf_31 : decode b_C_areaOf 31 = .ok (.aload_n 0, 1) := by decide +kernel
theorem d_C_areaOf_32 : decode b_C_areaOf 32 = .ok (.iload 4, 2) := by decide +kernel
theorem d_C_areaOf_34 : decode b_C_areaOf 34 = .ok (.invokevirtual 174, 3) := by decide +kernel
theorem d_C_areaOf_37 : decode b_C_areaOf 37 = .ok (.ladd, 1) := by decide +kernel
theorem d_C_areaOf_38 : decode b_C_areaOf 38 = .ok (.lstore_n 2, 1) := by decide +kernel
theorem d_C_areaOf_39 : decode b_C_areaOf 39 = .ok (.iinc 4 1, 3) := by decide +kernel
theorem d_C_areaOf_42 : decode b_C_areaOf 42 = .ok (.goto (-37), 3) := by decide +kernel
theorem d_C_areaOf_45 : decode b_C_areaOf 45 = .ok (.lload_n 2, 1) := by decide +kernel
theorem d_C_areaOf_46 : decode b_C_areaOf 46 = .ok (.lreturn, 1) := by decide +kernel
theorem d_C_netLengthWith_0 : decode b_C_netLengthWith 0 = .ok (.lconst 0, 1) := by decide +kernel
theorem d_C_netLengthWith_1 : decode b_C_netLengthWith 1 = .ok (.lstore_n 2, 1) := by decide +kernel
theorem d_C_netLengthWith_2 : decode b_C_netLengthWith 2 = .ok (.iconst 0, 1) := by decide +kernel
theorem d_C_netLengthWith_3 : decode b_C_netLengthWith 3 = .ok (.istore 4, 2) := by decide +kernel
theorem d_C_netLengthWith_5 : decode b_C_netLengthWith 5 = .ok (.iload 4, 2) := by decide +kernel
theorem d_C_netLengthWith_7 : decode b_C_netLengthWith 7 = .ok (.aload_n 0, 1) := by decide +kernel
theorem d_C_netLengthWith_8 : decode b_C_netLengthWith 8 = .ok (.getfield 26, 3) := by decide +kernel
theorem d_C_netLengthWith_11 : decode b_C_netLengthWith 11 = .ok (.getfield 95, 3) := by decide +kernel
theorem d_C_netLengthWith_14 : decode b_C_netLengthWith 14 = .ok (.if_icmp .ge 31, 3) := by decide +kernel
theorem d_C_netLengthWith_17 : decode b_C_netLengthWith 17 = .ok (.aload_n 0, 1) := by decide +kernel
theorem d_C_netLengthWith_18 : decode b_C_netLengthWith 18 = .ok (.getfield 26, 3) := by decide +kernel
theorem d_C_netLengthWith_21 : decode b_C_netLengthWith 21 = .ok (.iload 4, 2) := by decide +kernel
theorem d_C_netLengthWith_23 : decode b_C_netLengthWith 23 = .ok (.iload_n 1, 1) := by decide +kernel
theorem d_C_netLengthWith_24 : decode b_C_netLengthWith 24 = .ok (.invokevirtual 299, 3) := by decide +kernel
theorem d_C_netLengthWith_27 : decode b_C_netLengthWith 27 = .ok (.ifCond .eq 12, 3) := by decide +kernel
theorem d_C_netLengthWith_30 : decode b_C_netLengthWith 30 = .ok (.lload_n 2, 1) := by decide +kernel
theorem d_C_netLengthWith_31 : decode b_C_netLengthWith 31 = .ok (.aload_n 0, 1) := by decide +kernel
theorem d_C_netLengthWith_32 : decode b_C_netLengthWith 32 = .ok (.iload 4, 2) := by decide +kernel
theorem d_C_netLengthWith_34 : decode b_C_netLengthWith 34 = .ok (.invokevirtual 170, 3) := by decide +kernel
theorem d_C_netLengthWith_37 : decode b_C_netLengthWith 37 = .ok (.ladd, 1) := by decide +kernel
theorem d_C_netLengthWith_38 : decode b_C_netLengthWith 38 = .ok (.lstore_n 2, 1) := by decide +kernel
theorem d_C_netLengthWith_39 : decode b_C_netLengthWith 39 = .ok (.iinc 4 1, 3) := by decide +kernel
theorem d_C_netLengthWith_42 : decode b_C_netLengthWith 42 = .ok (.goto (-37), 3) := by decide +kernel
theorem d_C_netLengthWith_45 : decode b_C_netLengthWith 45 = .ok (.lload_n 2, 1) := by decide +kernel
theorem d_C_netLengthWith_46 : decode b_C_netLengthWith 46 = .ok (.lreturn, 1) := by decide +kernel
theorem d_C_covers_0 : decode b_C_covers 0 = .ok (.aload_n 0, 1) := by decide +kernel
theorem d_C_covers_1 : decode b_C_covers 1 = .ok (.iload_n 1, 1) := by decide +kernel
theorem d_C_covers_2 : decode b_C_covers 2 = .ok (.invokevirtual 288, 3) := by decide +kernel
theorem d_C_covers_5 : decode b_C_covers 5 = .ok (.istore 4, 2) := by decide +kernel
theorem d_C_covers_7 : decode b_C_covers 7 = .ok (.aload_n 0, 1) := by decide +kernel
theorem d_C_covers_8 : decode b_C_covers 8 = .ok (.getfield 26, 3) := by decide +kernel
theorem d_C_covers_11 : decode b_C_covers 11 = .ok (.iload_n 1, 1) := by decide +kernel
theorem d_C_covers_12 : decode b_C_covers 12 = .ok (.invokevirtual 302, 3) := by decide +kernel
theorem d_C_covers_15 : decode b_C_covers 15 = .ok (.ifCond .eq 7, 3) := by decide +kernel
theorem d_C_covers_18 : decode b_C_covers 18 = .ok (.iconst 0, 1) := by decide +kernel
theorem d_C_covers_19 : decode b_C_covers 19 = .ok (.goto 5, 3) := by decide +kernel
theorem d_C_covers_22 : decode b_C_covers 22 = .ok (.iload 4, 2) := by decide +kernel
theorem d_C_covers_24 : decode b_C_covers 24 = .ok (.istore 5, 2) := by decide +kernel
theorem d_C_covers_26 : decode b_C_covers 26 = .ok (.aload_n 0, 1) := by decide +kernel
theorem d_C_covers_27 : decode b_C_covers 27 = .ok (.getfield 26, 3) := by decide +kernel
theorem d_C_covers_30 : decode b_C_covers 30 = .ok (.iload_n 1, 1) := by decide +kernel
theorem d_C_covers_31 : decode b_C_covers 31 = .ok (.invokevirtual 302, 3) := by decide +kernel
theorem d_C_covers_34 : decode b_C_covers 34 = .ok (.ifCond .eq 8, 3) := by decide +kernel
theorem d_C_covers_37 : decode b_C_covers 37 = .ok (.iload 4, 2) := by decide +kernel
theorem d_C_covers_39 : decode b_C_covers 39 = .ok (.goto 4, 3) := by decide +kernel
theorem d_C_covers_42 : decode b_C_covers 42 = .ok (.iconst 0, 1) := by decide +kernel
theorem d_C_covers_43 : decode b_C_covers 43 = .ok (.istore 6, 2) := by decide +kernel
theorem d_C_covers_45 : decode b_C_covers 45 = .ok (.iload_n 2, 1) := by decide +kernel
theorem d_C_covers_46 : decode b_C_covers 46 = .ok (.aload_n 0, 1) := by decide +kernel
end
section
theorem d_C_covers_47 : decode b_C_covers 47 = .ok (.getfield 26, 3) := by decide +kernel
theorem d_C_covers_50 : decode b_C_covers 50 = .ok (.getfield 105, 3) := by decide +kernel
theorem d_C_covers_53 : decode b_C_covers 53 = .ok (.iload_n 1, 1) := by decide +kernel
theorem d_C_covers_54 : decode b_C_covers 54 = .ok (.iaload, 1) := by decide +kernel
theorem d_C_covers_55 : decode b_C_covers 55 = .ok (.aload_n 0, 1) := by decide +kernel
theorem d_C_covers_56 : decode b_C_covers 56 = .ok (.getfield 26, 3) := by decide +kernel
theorem d_C_covers_59 : decode b_C_covers 59 = .ok (.getfield 111, 3) := by decide +kernel
theorem d_C_covers_62 : decode b_C_covers 62 = .ok (.iload_n 1, 1) := by decide +kernel
theorem d_C_covers_63 : decode b_C_covers 63 = .ok (.iaload, 1) := by decide +kernel
theorem d_C_covers_64 : decode b_C_covers 64 = .ok (.invokestatic 291, 3) := by decide +kernel
theorem d_C_covers_67 : decode b_C_covers 67 = .ok (.iload 5, 2) := by decide +kernel
theorem d_C_covers_69 : decode b_C_covers 69 = .ok (.isub, 1) := by decide +kernel
theorem d_C_covers_70 : decode b_C_covers 70 = .ok (.if_icmp .lt 91, 3) := by decide +kernel
theorem d_C_covers_73 : decode b_C_covers 73 = .ok (.iload_n 2, 1) := by decide +kernel
theorem d_C_covers_74 : decode b_C_covers 74 = .ok (.aload_n 0, 1) := by decide +kernel
theorem d_C_covers_75 : decode b_C_covers 75 = .ok (.getfield 26, 3) := by decide +kernel
theorem d_C_covers_78 : decode b_C_covers 78 = .ok (.getfield 105, 3) := by decide +kernel
theorem d_C_covers_81 : decode b_C_covers 81 = .ok (.iload_n 1, 1) := by decide +kernel
theorem d_C_covers_82 : decode b_C_covers 82 = .ok (.iaload, 1) := by decide +kernel
theorem d_C_covers_83 : decode b_C_covers 83 = .ok (.aload_n 0, 1) := by decide +kernel
theorem d_C_covers_84 : decode b_C_covers 84 = .ok (.getfield 26, 3) := by decide +kernel
theorem d_C_covers_87 : decode b_C_covers 87 = .ok (.getfield 111, 3) := by decide +kernel
theorem d_C_covers_90 : decode b_C_covers 90 = .ok (.iload_n 1, 1) := by decide +kernel
theorem d_C_covers_91 : decode b_C_covers 91 = .ok (.iaload, 1) := by decide +kernel
theorem d_C_covers_92 : decode b_C_covers 92 = .ok (.invokestatic 305, 3) := by decide +kernel
theorem d_C_covers_95 : decode b_C_covers 95 = .ok (.iload 5, 2) := by decide +kernel
theorem d_C_covers_97 : decode b_C_covers 97 = .ok (.iadd, 1) := by decide +kernel
theorem d_C_covers_98 : decode b_C_covers 98 = .ok (.if_icmp .gt 63, 3) := by decide +kernel
theorem d_C_covers_101 : decode b_C_covers 101 = .ok (.iload_n 3, 1) := by decide +kernel
theorem d_C_covers_102 : decode b_C_covers 102 = .ok (.aload_n 0, 1) := by decide +kernel
theorem d_C_covers_103 : decode b_C_covers 103 = .ok (.getfield 26, 3) := by decide +kernel
theorem d_C_covers_106 : decode b_C_covers 106 = .ok (.getfield 108, 3) := by decide +kernel
theorem d_C_covers_109 : decode b_C_covers 109 = .ok (.iload_n 1, 1) := by decide +kernel
theorem d_C_covers_110 : decode b_C_covers 110 = .ok (.iaload, 1) := by decide +kernel
theorem d_C_covers_111 : decode b_C_covers 111 = .ok (.aload_n 0, 1) := by decide +kernel
theorem d_C_covers_112 : decode b_C_covers 112 = .ok (.getfield 26, 3) := by decide +kernel
theorem d_C_covers_115 : decode b_C_covers 115 = .ok (.getfield 114, 3) := by decide +kernel
theorem d_C_covers_118 : decode b_C_covers 118 = .ok (.iload_n 1, 1) := by decide +kernel
theorem d_C_covers_119 : decode b_C_covers 119 = .ok (.iaload, 1) := by decide +kernel
theorem d_C_covers_120 : decode b_C_covers 120 = .ok (.invokestatic 291, 3) := by decide +kernel
theorem d_C_covers_123 : decode b_C_covers 123 = .ok (.iload 6, 2) := by decide +kernel
theorem d_C_covers_125 : decode b_C_covers 125 = .ok (.isub, 1) := by decide +kernel
theorem d_C_covers_126 : decode b_C_covers 126 = .ok (.if_icmp .lt 35, 3) := by decide +kernel
theorem d_C_covers_129 : decode b_C_covers 129 = .ok (.iload_n 3, 1) := by decide +kernel
theorem d_C_covers_130 : decode b_C_covers 130 = .ok (.aload_n 0, 1) := by decide +kernel
theorem d_C_covers_131 : decode b_C_covers 131 = .ok (.getfield 26, 3) := by decide +kernel
theorem d_C_covers_134 : decode b_C_covers 134 = .ok (.getfield 108, 3) := by decide +kernel
theorem d_C_covers_137 : decode b_C_covers 137 = .ok (.iload_n 1, 1) := by decide +kernel
theorem d_C_covers_138 : decode b_C_covers 138 = .ok (.iaload, 1) := by decide +kernel
theorem d_C_covers_139 : decode b_C_covers 139 = .ok (.aload_n 0, 1) := by decide +kernel
theorem d_C_covers_140 : decode b_C_covers 140 = .ok (.getfield 26, 3) := by decide +kernel
theorem d_C_covers_143 : decode b_C_covers 143 = .ok (.getfield 114, 3) := by decide +kernel
theorem d_C_covers_146 : decode b_C_covers 146 = .ok (.iload_n 1, 1) := by decide +kernel
theorem d_C_covers_147 : decode b_C_covers 147 = .ok (.iaload, 1) := by decide +kernel
theorem d_C_covers_148 : decode b_C_covers 148 = .ok (.invokestatic 305, 3) := by decide +kernel
theorem d_C_covers_151 : decode b_C_covers 151 = .ok (.iload 6, 2) := by decide +kernel
theorem d_C_covers_153 : decode b_C_covers 153 = .ok (.iadd, 1) := by decide +kernel
theorem d_C_covers_154 : decode b_C_covers 154 = .ok (.if_icmp .gt 7, 3) := by decide +kernel
theorem d_C_covers_157 : decode b_C_covers 157 = .ok (.iconst 1, 1) := by decide +kernel
theorem d_C_covers_158 : decode b_C_covers 158 = .ok (.goto 4, 3) := by decide +kernel
theorem d_C_covers_161 : decode b_C_covers 161 = .ok (.iconst 0, 1) := by decide +kernel
theorem d_C_covers_162 : decode b_C_covers 162 = .ok (.ireturn, 1) := by decide +kernel
theorem d_M_init_0 : decode b_M_init 0 = .ok (.aload_n 0, 1) := by decide +kernel
theorem d_M_init_1 : decode b_M_init 1 = .ok (.invokespecial 1, 3) := by decide +kernel
theorem d_M_init_4 : decode b_M_init 4 = .ok (.aload_n 0, 1) := by decide +kernel
theorem d_M_init_5 : decode b_M_init 5 = .ok (.sipush 1400, 3) := by decide +kernel
theorem d_M_init_8 : decode b_M_init 8 = .ok (.newarray .int, 2) := by decide +kernel
theorem d_M_init_10 : decode b_M_init 10 = .ok (.putfield 7, 3) := by decide +kernel
theorem d_M_init_13 : decode b_M_init 13 = .ok (.aload_n 0, 1) := by decide +kernel
theorem d_M_init_14 : decode b_M_init 14 = .ok (.bipush 6, 2) := by decide +kernel
theorem d_M_init_16 : decode b_M_init 16 = .ok (.newarray .int, 2) := by decide +kernel
theorem d_M_init_18 : decode b_M_init 18 = .ok (.putfield 13, 3) := by decide +kernel
theorem d_M_init_21 : decode b_M_init 21 = .ok (.aload_n 0, 1) := by decide +kernel
theorem d_M_init_22 : decode b_M_init 22 = .ok (.bipush 8, 2) := by decide +kernel
theorem d_M_init_24 : decode b_M_init 24 = .ok (.newarray .int, 2) := by decide +kernel
theorem d_M_init_26 : decode b_M_init 26 = .ok (.putfield 16, 3) := by decide +kernel
theorem d_M_init_29 : decode b_M_init 29 = .ok (.aload_n 0, 1) := by decide +kernel
theorem d_M_init_30 : decode b_M_init 30 = .ok (.bipush 40, 2) := by decide +kernel
theorem d_M_init_32 : decode b_M_init 32 = .ok (.newarray .int, 2) := by decide +kernel
theorem d_M_init_34 : decode b_M_init 34 = .ok (.putfield 19, 3) := by decide +kernel
theorem d_M_init_37 : decode b_M_init 37 = .ok (.aload_n 0, 1) := by decide +kernel
theorem d_M_init_38 : decode b_M_init 38 = .ok (.bipush 40, 2) := by decide +kernel
theorem d_M_init_40 : decode b_M_init 40 = .ok (.newarray .int, 2) := by decide +kernel
theorem d_M_init_42 : decode b_M_init 42 = .ok (.putfield 22, 3) := by decide +kernel
theorem d_M_init_45 : decode b_M_init 45 = .ok (.aload_n 0, 1) := by decide +kernel
theorem d_M_init_46 : decode b_M_init 46 = .ok (.bipush 40, 2) := by decide +kernel
theorem d_M_init_48 : decode b_M_init 48 = .ok (.newarray .int, 2) := by decide +kernel
theorem d_M_init_50 : decode b_M_init 50 = .ok (.putfield 25, 3) := by decide +kernel
theorem d_M_init_53 : decode b_M_init 53 = .ok (.aload_n 0, 1) := by decide +kernel
theorem d_M_init_54 : decode b_M_init 54 = .ok (.bipush 40, 2) := by decide +kernel
theorem d_M_init_56 : decode b_M_init 56 = .ok (.newarray .int, 2) := by decide +kernel
theorem d_M_init_58 : decode b_M_init 58 = .ok (.putfield 28, 3) := by decide +kernel
theorem d_M_init_61 : decode b_M_init 61 = .ok (.aload_n 0, 1) := by decide +kernel
theorem d_M_init_62 : decode b_M_init 62 = .ok (.bipush 40, 2) := by decide +kernel
theorem d_M_init_64 : decode b_M_init 64 = .ok (.newarray .int, 2) := by decide +kernel
theorem d_M_init_66 : decode b_M_init 66 = .ok (.putfield 31, 3) := by decide +kernel
theorem d_M_init_69 : decode b_M_init 69 = .ok (.aload_n 0, 1) := by decide +kernel
theorem d_M_init_70 : decode b_M_init 70 = .ok (.bipush 40, 2) := by decide +kernel
theorem d_M_init_72 : decode b_M_init 72 = .ok (.newarray .int, 2) := by decide +kernel
theorem d_M_init_74 : decode b_M_init 74 = .ok (.putfield 34, 3) := by decide +kernel
theorem d_M_init_77 : decode b_M_init 77 = .ok (.aload_n 0, 1) := by decide +kernel
theorem d_M_init_78 : decode b_M_init 78 = .ok (.bipush 40, 2) := by decide +kernel
theorem d_M_init_80 : decode b_M_init 80 = .ok (.newarray .boolean, 2) := by decide +kernel
theorem d_M_init_82 : decode b_M_init 82 = .ok (.putfield 37, 3) := by decide +kernel
theorem d_M_init_85 : decode b_M_init 85 = .ok (.aload_n 0, 1) := by decide +kernel
theorem d_M_init_86 : decode b_M_init 86 = .ok (.bipush 60, 2) := by decide +kernel
theorem d_M_init_88 : decode b_M_init 88 = .ok (.newarray .int, 2) := by decide +kernel
theorem d_M_init_90 : decode b_M_init 90 = .ok (.putfield 41, 3) := by decide +kernel
theorem d_M_init_93 : decode b_M_init 93 = .ok (.aload_n 0, 1) := by decide +kernel
theorem d_M_init_94 : decode b_M_init 94 = .ok (.bipush 60, 2) := by decide +kernel
theorem d_M_init_96 : decode b_M_init 96 = .ok (.newarray .int, 2) := by decide +kernel
theorem d_M_init_98 : decode b_M_init 98 = .ok (.putfield 44, 3) := by decide +kernel
theorem d_M_init_101 : decode b_M_init 101 = .ok (.aload_n 0, 1) := by decide +kernel
theorem d_M_init_102 : decode b_M_init 102 = .ok (.bipush 60, 2) := by decide +kernel
theorem d_M_init_104 : decode b_M_init 104 = .ok (.newarray .int, 2) := by decide +kernel
theorem d_M_init_106 : decode b_M_init 106 = .ok (.putfield 47, 3) := by decide +kernel
theorem d_M_init_109 : decode b_M_init 109 = .ok (.return_, 1) := by decide +kernel
theorem d_M_thrown_0 : decode b_M_thrown 0 = .ok (.aload_n 0, 1) := by decide +kernel
theorem d_M_thrown_1 : decode b_M_thrown 1 = .ok (.getfield 50, 3) := by decide +kernel
theorem d_M_thrown_4 : decode b_M_thrown 4 = .ok (.ireturn, 1) := by decide +kernel
theorem d_M_isIn_0 : decode b_M_isIn 0 = .ok (.lload_n 0, 1) := by decide +kernel
theorem d_M_isIn_1 : decode b_M_isIn 1 = .ok (.lload_n 2, 1) := by decide +kernel
theorem d_M_isIn_2 : decode b_M_isIn 2 = .ok (.lcmp, 1) := by decide +kernel
theorem d_M_isIn_3 : decode b_M_isIn 3 = .ok (.ifCond .lt 14, 3) := by decide +kernel
theorem d_M_isIn_6 : decode b_M_isIn 6 = .ok (.lload_n 0, 1) := by decide +kernel
theorem d_M_isIn_7 : decode b_M_isIn 7 = .ok (.lload 4, 2) := by decide +kernel
theorem d_M_isIn_9 : decode b_M_isIn 9 = .ok (.lcmp, 1) := by decide +kernel
theorem d_M_isIn_10 : decode b_M_isIn 10 = .ok (.ifCond .gt 7, 3) := by decide +kernel
theorem d_M_isIn_13 : decode b_M_isIn 13 = .ok (.iconst 1, 1) := by decide +kernel
theorem d_M_isIn_14 : decode b_M_isIn 14 = .ok (.goto 4, 3) := by decide +kernel
theorem d_M_isIn_17 : decode b_M_isIn 17 = .ok (.iconst 0, 1) := by decide +kernel
theorem d_M_isIn_18 : decode b_M_isIn 18 = .ok (.ireturn, 1) := by decide +kernel
theorem d_M_isStorey_0 : decode b_M_isStorey 0 = .ok (.iload_n 1, 1) := by decide +kernel
theorem d_M_isStorey_1 : decode b_M_isStorey 1 = .ok (.ifCond .lt 15, 3) := by decide +kernel
theorem d_M_isStorey_4 : decode b_M_isStorey 4 = .ok (.iload_n 1, 1) := by decide +kernel
theorem d_M_isStorey_5 : decode b_M_isStorey 5 = .ok (.aload_n 0, 1) := by decide +kernel
theorem d_M_isStorey_6 : decode b_M_isStorey 6 = .ok (.getfield 54, 3) := by decide +kernel
theorem d_M_isStorey_9 : decode b_M_isStorey 9 = .ok (.if_icmp .ge 7, 3) := by decide +kernel
theorem d_M_isStorey_12 : decode b_M_isStorey 12 = .ok (.iconst 1, 1) := by decide +kernel
theorem d_M_isStorey_13 : decode b_M_isStorey 13 = .ok (.goto 4, 3) := by decide +kernel
theorem d_M_isStorey_16 : decode b_M_isStorey 16 = .ok (.iconst 0, 1) := by decide +kernel
theorem d_M_isStorey_17 : decode b_M_isStorey 17 = .ok (.ireturn, 1) := by decide +kernel
theorem d_M_isType_0 : decode b_M_isType 0 = .ok (.iload_n 1, 1) := by decide +kernel
theorem d_M_isType_1 : decode b_M_isType 1 = .ok (.ifCond .lt 15, 3) := by decide +kernel
theorem d_M_isType_4 : decode b_M_isType 4 = .ok (.iload_n 1, 1) := by decide +kernel
theorem d_M_isType_5 : decode b_M_isType 5 = .ok (.aload_n 0, 1) := by decide +kernel
theorem d_M_isType_6 : decode b_M_isType 6 = .ok (.getfield 57, 3) := by decide +kernel
theorem d_M_isType_9 : decode b_M_isType 9 = .ok (.if_icmp .ge 7, 3) := by decide +kernel
theorem d_M_isType_12 : decode b_M_isType 12 = .ok (.iconst 1, 1) := by decide +kernel
theorem d_M_isType_13 : decode b_M_isType 13 = .ok (.goto 4, 3) := by decide +kernel
theorem d_M_isType_16 : decode b_M_isType 16 = .ok (.iconst 0, 1) := by decide +kernel
theorem d_M_isType_17 : decode b_M_isType 17 = .ok (.ireturn, 1) := by decide +kernel
theorem d_M_isWall_0 : decode b_M_isWall 0 = .ok (.iload_n 1, 1) := by decide +kernel
theorem d_M_isWall_1 : decode b_M_isWall 1 = .ok (.ifCond .lt 24, 3) := by decide +kernel
theorem d_M_isWall_4 : decode b_M_isWall 4 = .ok (.iload_n 1, 1) := by decide +kernel
theorem d_M_isWall_5 : decode b_M_isWall 5 = .ok (.aload_n 0, 1) := by decide +kernel
theorem d_M_isWall_6 : decode b_M_isWall 6 = .ok (.getfield 60, 3) := by decide +kernel
theorem d_M_isWall_9 : decode b_M_isWall 9 = .ok (.if_icmp .ge 16, 3) := by decide +kernel
theorem d_M_isWall_12 : decode b_M_isWall 12 = .ok (.aload_n 0, 1) := by decide +kernel
theorem d_M_isWall_13 : decode b_M_isWall 13 = .ok (.getfield 37, 3) := by decide +kernel
theorem d_M_isWall_16 : decode b_M_isWall 16 = .ok (.iload_n 1, 1) := by decide +kernel
theorem d_M_isWall_17 : decode b_M_isWall 17 = .ok (.baload, 1) := by decide +kernel
theorem d_M_isWall_18 : decode b_M_isWall 18 = .ok (.ifCond .eq 7, 3) := by decide +kernel
theorem d_M_isWall_21 : decode b_M_isWall 21 = .ok (.iconst 1, 1) := by decide +kernel
theorem d_M_isWall_22 : decode b_M_isWall 22 = .ok (.goto 4, 3) := by decide +kernel
theorem d_M_isWall_25 : decode b_M_isWall 25 = .ok (.iconst 0, 1) := by decide +kernel
theorem d_M_isWall_26 : decode b_M_isWall 26 = .ok (.ireturn, 1) := by decide +kernel
theorem d_M_isThick_0 : decode b_M_isThick 0 = .ok (.iload_n 0, 1) := by decide +kernel
theorem d_M_isThick_1 : decode b_M_isThick 1 = .ok (.iconst 2, 1) := by decide +kernel
theorem d_M_isThick_2 : decode b_M_isThick 2 = .ok (.if_icmp .lt 19, 3) := by decide +kernel
theorem d_M_isThick_5 : decode b_M_isThick 5 = .ok (.iload_n 0, 1) := by decide +kernel
theorem d_M_isThick_6 : decode b_M_isThick 6 = .ok (.bipush 100, 2) := by decide +kernel
theorem d_M_isThick_8 : decode b_M_isThick 8 = .ok (.if_icmp .gt 13, 3) := by decide +kernel
theorem d_M_isThick_11 : decode b_M_isThick 11 = .ok (.iload_n 0, 1) := by decide +kernel
theorem d_M_isThick_12 : decode b_M_isThick 12 = .ok (.iconst 2, 1) := by decide +kernel
theorem d_M_isThick_13 : decode b_M_isThick 13 = .ok (.irem, 1) := by decide +kernel
theorem d_M_isThick_14 : decode b_M_isThick 14 = .ok (.ifCond .ne 7, 3) := by decide +kernel
theorem d_M_isThick_17 : decode b_M_isThick 17 = .ok (.iconst 1, 1) := by decide +kernel
theorem d_M_isThick_18 : decode b_M_isThick 18 = .ok (.goto 4, 3) := by decide +kernel
theorem d_M_isThick_21 : decode b_M_isThick 21 = .ok (.iconst 0, 1) := by decide +kernel
theorem d_M_isThick_22 : decode b_M_isThick 22 = .ok (.ireturn, 1) := by decide +kernel
theorem d_M_isPlace_0 : decode b_M_isPlace 0 = .ok (.lload_n 0, 1) := by decide +kernel
theorem d_M_isPlace_1 : decode b_M_isPlace 1 = .ok (.ldc2_w 63, 3) := by decide +kernel
theorem d_M_isPlace_4 : decode b_M_isPlace 4 = .ok (.ldc2_w 65, 3) := by decide +kernel
theorem d_M_isPlace_7 : decode b_M_isPlace 7 = .ok (.invokestatic 67, 3) := by decide +kernel
theorem d_M_isPlace_10 : decode b_M_isPlace 10 = .ok (.ifCond .eq 20, 3) := by decide +kernel
theorem d_M_isPlace_13 : decode b_M_isPlace 13 = .ok (.lload_n 2, 1) := by decide +kernel
theorem d_M_isPlace_14 : decode b_M_isPlace 14 = .ok (.ldc2_w 63, 3) := by decide +kernel
theorem d_M_isPlace_17 : decode b_M_isPlace 17 = .ok (.ldc2_w 65, 3) := by decide +kernel
theorem d_M_isPlace_20 : decode b_M_isPlace 20 = .ok (.invokestatic 67, 3) := by decide +kernel
theorem d_M_isPlace_23 : decode b_M_isPlace 23 = .ok (.ifCond .eq 7, 3) := by decide +kernel
theorem d_M_isPlace_26 : decode b_M_isPlace 26 = .ok (.iconst 1, 1) := by decide +kernel
theorem d_M_isPlace_27 : decode b_M_isPlace 27 = .ok (.goto 4, 3) := by decide +kernel
theorem d_M_isPlace_30 : decode b_M_isPlace 30 = .ok (.iconst 0, 1) := by decide +kernel
theorem d_M_isPlace_31 : decode b_M_isPlace 31 = .ok (.ireturn, 1) := by decide +kernel
theorem d_M_goes_0 : decode b_M_goes 0 = .ok (.aload_n 0, 1) := by decide +kernel
theorem d_M_goes_1 : decode b_M_goes 1 = .ok (.iload_n 1, 1) := by decide +kernel
theorem d_M_goes_2 : decode b_M_goes 2 = .ok (.ifCond .ne 7, 3) := by decide +kernel
theorem d_M_goes_5 : decode b_M_goes 5 = .ok (.iconst 1, 1) := by decide +kernel
theorem d_M_goes_6 : decode b_M_goes 6 = .ok (.goto 22, 3) := by decide +kernel
theorem d_M_goes_9 : decode b_M_goes 9 = .ok (.iload_n 2, 1) := by decide +kernel
theorem d_M_goes_10 : decode b_M_goes 10 = .ok (.ifCond .eq 13, 3) := by decide +kernel
theorem d_M_goes_13 : decode b_M_goes 13 = .ok (.aload_n 0, 1) := by decide +kernel
theorem d_M_goes_14 : decode b_M_goes 14 = .ok (.getfield 71, 3) := by decide +kernel
theorem d_M_goes_17 : decode b_M_goes 17 = .ok (.sipush 200, 3) := by decide +kernel
theorem d_M_goes_20 : decode b_M_goes 20 = .ok (.if_icmp .ne 7, 3) := by decide +kernel
theorem d_M_goes_23 : decode b_M_goes 23 = .ok (.iconst 2, 1) := by decide +kernel
theorem d_M_goes_24 : decode b_M_goes 24 = .ok (.goto 4, 3) := by decide +kernel
theorem d_M_goes_27 : decode b_M_goes 27 = .ok (.iconst 0, 1) := by decide +kernel
theorem d_M_goes_28 : decode b_M_goes 28 = .ok (.putfield 50, 3) := by decide +kernel
theorem d_M_goes_31 : decode b_M_goes 31 = .ok (.aload_n 0, 1) := by decide +kernel
theorem d_M_goes_32 : decode b_M_goes 32 = .ok (.getfield 50, 3) := by decide +kernel
theorem d_M_goes_35 : decode b_M_goes 35 = .ok (.ifCond .ne 7, 3) := by decide +kernel
theorem d_M_goes_38 : decode b_M_goes 38 = .ok (.iconst 1, 1) := by decide +kernel
theorem d_M_goes_39 : decode b_M_goes 39 = .ok (.goto 4, 3) := by decide +kernel
theorem d_M_goes_42 : decode b_M_goes 42 = .ok (.iconst 0, 1) := by decide +kernel
theorem d_M_goes_43 : decode b_M_goes 43 = .ok (.ireturn, 1) := by decide +kernel
theorem d_M_act_0 : decode b_M_act 0 = .ok (.bipush 7, 2) := by decide +kernel
theorem d_M_act_2 : decode b_M_act 2 = .ok (.aload_n 0, 1) := by decide +kernel
theorem d_M_act_3 : decode b_M_act 3 = .ok (.getfield 71, 3) := by decide +kernel
theorem d_M_act_6 : decode b_M_act 6 = .ok (.imul, 1) := by decide +kernel
theorem d_M_act_7 : decode b_M_act 7 = .ok (.istore 8, 2) := by decide +kernel
theorem d_M_act_9 : decode b_M_act 9 = .ok (.aload_n 0, 1) := by decide +kernel
theorem d_M_act_10 : decode b_M_act 10 = .ok (.getfield 7, 3) := by decide +kernel
theorem d_M_act_13 : decode b_M_act 13 = .ok (.iload 8, 2) := by decide +kernel
theorem d_M_act_15 : decode b_M_act 15 = .ok (.iload_n 1, 1) := by decide +kernel
theorem d_M_act_16 : decode b_M_act 16 = .ok (.iastore, 1) := by decide +kernel
theorem d_M_act_17 : decode b_M_act 17 = .ok (.aload_n 0, 1) := by decide +kernel
theorem d_M_act_18 : decode b_M_act 18 = .ok (.getfield 7, 3) := by decide +kernel
theorem d_M_act_21 : decode b_M_act 21 = .ok (.iload 8, 2) := by decide +kernel
theorem d_M_act_23 : decode b_M_act 23 = .ok (.iconst 1, 1) := by decide +kernel
theorem d_M_act_24 : decode b_M_act 24 = .ok (.iadd, 1) := by decide +kernel
theorem d_M_act_25 : decode b_M_act 25 = .ok (.iload_n 2, 1) := by decide +kernel
theorem d_M_act_26 : decode b_M_act 26 = .ok (.iastore, 1) := by decide +kernel
theorem d_M_act_27 : decode b_M_act 27 = .ok (.aload_n 0, 1) := by decide +kernel
theorem d_M_act_28 : decode b_M_act 28 = .ok (.getfield 7, 3) := by decide +kernel
theorem d_M_act_31 : decode b_M_act 31 = .ok (.iload 8, 2) := by decide +kernel
theorem d_M_act_33 : decode b_M_act 33 = .ok (.iconst 2, 1) := by decide +kernel
theorem d_M_act_34 : decode b_M_act 34 = .ok (.iadd, 1) := by decide +kernel
theorem d_M_act_35 : decode b_M_act 35 = .ok (.iload_n 3, 1) := by decide +kernel
theorem d_M_act_36 : decode b_M_act 36 = .ok (.iastore, 1) := by decide +kernel
theorem d_M_act_37 : decode b_M_act 37 = .ok (.aload_n 0, 1) := by decide +kernel
theorem d_M_act_38 : decode b_M_act 38 = .ok (.getfield 7, 3) := by decide +kernel
theorem d_M_act_41 : decode b_M_act 41 = .ok (.iload 8, 2) := by decide +kernel
theorem d_M_act_43 : decode b_M_act 43 = .ok (.iconst 3, 1) := by decide +kernel
theorem d_M_act_44 : decode b_M_act 44 = .ok (.iadd, 1) := by decide +kernel
theorem d_M_act_45 : decode b_M_act 45 = .ok (.iload 4, 2) := by decide +kernel
theorem d_M_act_47 : decode b_M_act 47 = .ok (.iastore, 1) := by decide +kernel
theorem d_M_act_48 : decode b_M_act 48 = .ok (.aload_n 0, 1) := by decide +kernel
theorem d_M_act_49 : decode b_M_act 49 = .ok (.getfield 7, 3) := by decide +kernel
theorem d_M_act_52 : decode b_M_act 52 = .ok (.iload 8, 2) := by decide +kernel
theorem d_M_act_54 : decode b_M_act 54 = .ok (.iconst 4, 1) := by decide +kernel
theorem d_M_act_55 : decode b_M_act 55 = .ok (.iadd, 1) := by decide +kernel
theorem d_M_act_56 : decode b_M_act 56 = .ok (.iload 5, 2) := by decide +kernel
theorem d_M_act_58 : decode b_M_act 58 = .ok (.iastore, 1) := by decide +kernel
theorem d_M_act_59 : decode b_M_act 59 = .ok (.aload_n 0, 1) := by decide +kernel
theorem d_M_act_60 : decode b_M_act 60 = .ok (.getfield 7, 3) := by decide +kernel
theorem d_M_act_63 : decode b_M_act 63 = .ok (.iload 8, 2) := by decide +kernel
theorem d_M_act_65 : decode b_M_act 65 = .ok (.iconst 5, 1) := by decide +kernel
theorem d_M_act_66 : decode b_M_act 66 = .ok (.iadd, 1) := by decide +kernel
theorem d_M_act_67 : decode b_M_act 67 = .ok (.iload 6, 2) := by decide +kernel
theorem d_M_act_69 : decode b_M_act 69 = .ok (.iastore, 1) := by decide +kernel
theorem d_M_act_70 : decode b_M_act 70 = .ok (.aload_n 0, 1) := by decide +kernel
theorem d_M_act_71 : decode b_M_act 71 = .ok (.getfield 7, 3) := by decide +kernel
theorem d_M_act_74 : decode b_M_act 74 = .ok (.iload 8, 2) := by decide +kernel
theorem d_M_act_76 : decode b_M_act 76 = .ok (.bipush 6, 2) := by decide +kernel
theorem d_M_act_78 : decode b_M_act 78 = .ok (.iadd, 1) := by decide +kernel
theorem d_M_act_79 : decode b_M_act 79 = .ok (.iload 7, 2) := by decide +kernel
theorem d_M_act_81 : decode b_M_act 81 = .ok (.iastore, 1) := by decide +kernel
theorem d_M_act_82 : decode b_M_act 82 = .ok (.aload_n 0, 1) := by decide +kernel
theorem d_M_act_83 : decode b_M_act 83 = .ok (.dup, 1) := by decide +kernel
theorem d_M_act_84 : decode b_M_act 84 = .ok (.getfield 71, 3) := by decide +kernel
theorem d_M_act_87 : decode b_M_act 87 = .ok (.iconst 1, 1) := by decide +kernel
theorem d_M_act_88 : decode b_M_act 88 = .ok (.iadd, 1) := by decide +kernel
theorem d_M_act_89 : decode b_M_act 89 = .ok (.putfield 71, 3) := by decide +kernel
theorem d_M_act_92 : decode b_M_act 92 = .ok (.aload_n 0, 1) := by decide +kernel
theorem d_M_act_93 : decode b_M_act 93 = .ok (.iconst 0, 1) := by decide +kernel
theorem d_M_act_94 : decode b_M_act 94 = .ok (.putfield 74, 3) := by decide +kernel
theorem d_M_act_97 : decode b_M_act 97 = .ok (.aload_n 0, 1) := by decide +kernel
theorem d_M_act_98 : decode b_M_act 98 = .ok (.aload_n 0, 1) := by decide +kernel
theorem d_M_act_99 : decode b_M_act 99 = .ok (.getfield 71, 3) := by decide +kernel
theorem d_M_act_102 : decode b_M_act 102 = .ok (.iconst 1, 1) := by decide +kernel
theorem d_M_act_103 : decode b_M_act 103 = .ok (.isub, 1) := by decide +kernel
theorem d_M_act_104 : decode b_M_act 104 = .ok (.invokevirtual 77, 3) := by decide +kernel
theorem d_M_act_107 : decode b_M_act 107 = .ok (.ireturn, 1) := by decide +kernel
theorem d_M_add_0 : decode b_M_add 0 = .ok (.aload_n 0, 1) := by decide +kernel
theorem d_M_add_1 : decode b_M_add 1 = .ok (.getfield 19, 3) := by decide +kernel
theorem d_M_add_4 : decode b_M_add 4 = .ok (.aload_n 0, 1) := by decide +kernel
theorem d_M_add_5 : decode b_M_add 5 = .ok (.getfield 60, 3) := by decide +kernel
theorem d_M_add_8 : decode b_M_add 8 = .ok (.iload_n 1, 1) := by decide +kernel
theorem d_M_add_9 : decode b_M_add 9 = .ok (.iastore, 1) := by decide +kernel
theorem d_M_add_10 : decode b_M_add 10 = .ok (.aload_n 0, 1) := by decide +kernel
theorem d_M_add_11 : decode b_M_add 11 = .ok (.getfield 22, 3) := by decide +kernel
theorem d_M_add_14 : decode b_M_add 14 = .ok (.aload_n 0, 1) := by decide +kernel
theorem d_M_add_15 : decode b_M_add 15 = .ok (.getfield 60, 3) := by decide +kernel
theorem d_M_add_18 : decode b_M_add 18 = .ok (.iload_n 2, 1) := by decide +kernel
theorem d_M_add_19 : decode b_M_add 19 = .ok (.iastore, 1) := by decide +kernel
theorem d_M_add_20 : decode b_M_add 20 = .ok (.aload_n 0, 1) := by decide +kernel
theorem d_M_add_21 : decode b_M_add 21 = .ok (.getfield 25, 3) := by decide +kernel
theorem d_M_add_24 : decode b_M_add 24 = .ok (.aload_n 0, 1) := by decide +kernel
theorem d_M_add_25 : decode b_M_add 25 = .ok (.getfield 60, 3) := by decide +kernel
theorem d_M_add_28 : decode b_M_add 28 = .ok (.iload_n 3, 1) := by decide +kernel
theorem d_M_add_29 : decode b_M_add 29 = .ok (.iastore, 1) := by decide +kernel
theorem d_M_add_30 : decode b_M_add 30 = .ok (.aload_n 0, 1) := by decide +kernel
theorem d_M_add_31 : decode b_M_add 31 = .ok (.getfield 28, 3) := by decide +kernel
theorem d_M_add_34 : decode b_M_add 34 = .ok (.aload_n 0, 1) := by decide +kernel
theorem d_M_add_35 : decode b_M_add 35 = .ok (.getfield 60, 3) := by decide +kernel
theorem d_M_add_38 : decode b_M_add 38 = .ok (.iload 4, 2) := by decide +kernel
theorem d_M_add_40 : decode b_M_add 40 = .ok (.iastore, 1) := by decide +kernel
theorem d_M_add_41 : decode b_M_add 41 = .ok (.aload_n 0, 1) := by decide +kernel
theorem d_M_add_42 : decode b_M_add 42 = .ok (.getfield 31, 3) := by decide +kernel
theorem d_M_add_45 : decode b_M_add 45 = .ok (.aload_n 0, 1) := by decide +kernel
theorem d_M_add_46 : decode b_M_add 46 = .ok (.getfield 60, 3) := by decide +kernel
theorem d_M_add_49 : decode b_M_add 49 = .ok (.iload 5, 2) := by decide +kernel
theorem d_M_add_51 : decode b_M_add 51 = .ok (.iastore, 1) := by decide +kernel
theorem d_M_add_52 : decode b_M_add 52 = .ok (.aload_n 0, 1) := by decide +kernel
theorem d_M_add_53 : decode b_M_add 53 = .ok (.getfield 34, 3) := by decide +kernel
theorem d_M_add_56 : decode b_M_add 56 = .ok (.aload_n 0, 1) := by decide +kernel
theorem d_M_add_57 : decode b_M_add 57 = .ok (.getfield 60, 3) := by decide +kernel
theorem d_M_add_60 : decode b_M_add 60 = .ok (.iload 6, 2) := by decide +kernel
theorem d_M_add_62 : decode b_M_add 62 = .ok (.iastore, 1) := by decide +kernel
theorem d_M_add_63 : decode b_M_add 63 = .ok (.aload_n 0, 1) := by decide +kernel
theorem d_M_add_64 : decode b_M_add 64 = .ok (.getfield 37, 3) := by decide +kernel
theorem d_M_add_67 : decode b_M_add 67 = .ok (.aload_n 0, 1) := by decide +kernel
theorem d_M_add_68 : decode b_M_add 68 = .ok (.getfield 60, 3) := by decide +kernel
theorem d_M_add_71 : decode b_M_add 71 = .ok (.iconst 1, 1) := by decide +kernel
theorem d_M_add_72 : decode b_M_add 72 = .ok (.bastore, 1) := by decide +kernel
theorem d_M_add_73 : decode b_M_add 73 = .ok (.aload_n 0, 1) := by decide +kernel
theorem d_M_add_74 : decode b_M_add 74 = .ok (.dup, 1) := by decide +kernel
theorem d_M_add_75 : decode b_M_add 75 = .ok (.getfield 60, 3) := by decide +kernel
theorem d_M_add_78 : decode b_M_add 78 = .ok (.iconst 1, 1) := by decide +kernel
theorem d_M_add_79 : decode b_M_add 79 = .ok (.iadd, 1) := by decide +kernel
theorem d_M_add_80 : decode b_M_add 80 = .ok (.putfield 60, 3) := by decide +kernel
theorem d_M_add_83 : decode b_M_add 83 = .ok (.aload_n 0, 1) := by decide +kernel
theorem d_M_add_84 : decode b_M_add 84 = .ok (.getfield 60, 3) := by decide +kernel
theorem d_M_add_87 : decode b_M_add 87 = .ok (.iconst 1, 1) := by decide +kernel
theorem d_M_add_88 : decode b_M_add 88 = .ok (.isub, 1) := by decide +kernel
theorem d_M_add_89 : decode b_M_add 89 = .ok (.ireturn, 1) := by decide +kernel
theorem d_M_cut_0 : decode b_M_cut 0 = .ok (.aload_n 0, 1) := by decide +kernel
theorem d_M_cut_1 : decode b_M_cut 1 = .ok (.getfield 41, 3) := by decide +kernel
theorem d_M_cut_4 : decode b_M_cut 4 = .ok (.aload_n 0, 1) := by decide +kernel
theorem d_M_cut_5 : decode b_M_cut 5 = .ok (.getfield 81, 3) := by decide +kernel
theorem d_M_cut_8 : decode b_M_cut 8 = .ok (.iload_n 1, 1) := by decide +kernel
theorem d_M_cut_9 : decode b_M_cut 9 = .ok (.iastore, 1) := by decide +kernel
theorem d_M_cut_10 : decode b_M_cut 10 = .ok (.aload_n 0, 1) := by decide +kernel
theorem d_M_cut_11 : decode b_M_cut 11 = .ok (.getfield 44, 3) := by decide +kernel
theorem d_M_cut_14 : decode b_M_cut 14 = .ok (.aload_n 0, 1) := by decide +kernel
theorem d_M_cut_15 : decode b_M_cut 15 = .ok (.getfield 81, 3) := by decide +kernel
theorem d_M_cut_18 : decode b_M_cut 18 = .ok (.iload_n 2, 1) := by decide +kernel
theorem d_M_cut_19 : decode b_M_cut 19 = .ok (.iastore, 1) := by decide +kernel
theorem d_M_cut_20 : decode b_M_cut 20 = .ok (.aload_n 0, 1) := by decide +kernel
theorem d_M_cut_21 : decode b_M_cut 21 = .ok (.getfield 47, 3) := by decide +kernel
theorem d_M_cut_24 : decode b_M_cut 24 = .ok (.aload_n 0, 1) := by decide +kernel
theorem d_M_cut_25 : decode b_M_cut 25 = .ok (.getfield 81, 3) := by decide +kernel
theorem d_M_cut_28 : decode b_M_cut 28 = .ok (.iload_n 3, 1) := by decide +kernel
theorem d_M_cut_29 : decode b_M_cut 29 = .ok (.iastore, 1) := by decide +kernel
theorem d_M_cut_30 : decode b_M_cut 30 = .ok (.aload_n 0, 1) := by decide +kernel
theorem d_M_cut_31 : decode b_M_cut 31 = .ok (.dup, 1) := by decide +kernel
theorem d_M_cut_32 : decode b_M_cut 32 = .ok (.getfield 81, 3) := by decide +kernel
theorem d_M_cut_35 : decode b_M_cut 35 = .ok (.iconst 1, 1) := by decide +kernel
theorem d_M_cut_36 : decode b_M_cut 36 = .ok (.iadd, 1) := by decide +kernel
theorem d_M_cut_37 : decode b_M_cut 37 = .ok (.putfield 81, 3) := by decide +kernel
theorem d_M_cut_40 : decode b_M_cut 40 = .ok (.aload_n 0, 1) := by decide +kernel
theorem d_M_cut_41 : decode b_M_cut 41 = .ok (.getfield 81, 3) := by decide +kernel
theorem d_M_cut_44 : decode b_M_cut 44 = .ok (.iconst 1, 1) := by decide +kernel
theorem d_M_cut_45 : decode b_M_cut 45 = .ok (.isub, 1) := by decide +kernel
theorem d_M_cut_46 : decode b_M_cut 46 = .ok (.ireturn, 1) := by decide +kernel
theorem d_M_copied_0 : decode b_M_copied 0 = .ok (.aload_n 0, 1) := by decide +kernel
theorem d_M_copied_1 : decode b_M_copied 1 = .ok (.getfield 60, 3) := by decide +kernel
theorem d_M_copied_4 : decode b_M_copied 4 = .ok (.istore_n 3, 1) := by decide +kernel
theorem d_M_copied_5 : decode b_M_copied 5 = .ok (.iconst 0, 1) := by decide +kernel
theorem d_M_copied_6 : decode b_M_copied 6 = .ok (.istore 4, 2) := by decide +kernel
theorem d_M_copied_8 : decode b_M_copied 8 = .ok (.iconst 0, 1) := by decide +kernel
theorem d_M_copied_9 : decode b_M_copied 9 = .ok (.istore 5, 2) := by decide +kernel
theorem d_M_copied_11 : decode b_M_copied 11 = .ok (.iload 5, 2) := by decide +kernel
theorem d_M_copied_13 : decode b_M_copied 13 = .ok (.iload_n 3, 1) := by decide +kernel
theorem d_M_copied_14 : decode b_M_copied 14 = .ok (.if_icmp .ge 130, 3) := by decide +kernel
theorem d_M_copied_17 : decode b_M_copied 17 = .ok (.aload_n 0, 1) := by decide +kernel
theorem d_M_copied_18 : decode b_M_copied 18 = .ok (.getfield 37, 3) := by decide +kernel
theorem d_M_copied_21 : decode b_M_copied 21 = .ok (.iload 5, 2) := by decide +kernel
theorem d_M_copied_23 : decode b_M_copied 23 = .ok (.baload, 1) := by decide +kernel
theorem d_M_copied_24 : decode b_M_copied 24 = .ok (.ifCond .eq 114, 3) := by decide +kernel
theorem d_M_copied_27 : decode b_M_copied 27 = .ok (.aload_n 0, 1) := by decide +kernel
theorem d_M_copied_28 : decode b_M_copied 28 = .ok (.getfield 19, 3) := by decide +kernel
theorem d_M_copied_31 : decode b_M_copied 31 = .ok (.iload 5, 2) := by decide +kernel
theorem d_M_copied_33 : decode b_M_copied 33 = .ok (.iaload, 1) := by decide +kernel
theorem d_M_copied_34 : decode b_M_copied 34 = .ok (.iload_n 1, 1) := by decide +kernel
theorem d_M_copied_35 : decode b_M_copied 35 = .ok (.if_icmp .ne 103, 3) := by decide +kernel
theorem d_M_copied_38 : decode b_M_copied 38 = .ok (.aload_n 0, 1) := by decide +kernel
theorem d_M_copied_39 : decode b_M_copied 39 = .ok (.iload_n 2, 1) := by decide +kernel
theorem d_M_copied_40 : decode b_M_copied 40 = .ok (.aload_n 0, 1) := by decide +kernel
theorem d_M_copied_41 : decode b_M_copied 41 = .ok (.getfield 22, 3) := by decide +kernel
theorem d_M_copied_44 : decode b_M_copied 44 = .ok (.iload 5, 2) := by decide +kernel
theorem d_M_copied_46 : decode b_M_copied 46 = .ok (.iaload, 1) := by decide +kernel
theorem d_M_copied_47 : decode b_M_copied 47 = .ok (.aload_n 0, 1) := by decide +kernel
theorem d_M_copied_48 : decode b_M_copied 48 = .ok (.getfield 25, 3) := by decide +kernel
theorem d_M_copied_51 : decode b_M_copied 51 = .ok (.iload 5, 2) := by decide +kernel
theorem d_M_copied_53 : decode b_M_copied 53 = .ok (.iaload, 1) := by decide +kernel
theorem d_M_copied_54 : decode b_M_copied 54 = .ok (.aload_n 0, 1) := by decide +kernel
theorem d_M_copied_55 : decode b_M_copied 55 = .ok (.getfield 28, 3) := by decide +kernel
theorem d_M_copied_58 : decode b_M_copied 58 = .ok (.iload 5, 2) := by decide +kernel
theorem d_M_copied_60 : decode b_M_copied 60 = .ok (.iaload, 1) := by decide +kernel
theorem d_M_copied_61 : decode b_M_copied 61 = .ok (.aload_n 0, 1) := by decide +kernel
theorem d_M_copied_62 : decode b_M_copied 62 = .ok (.getfield 31, 3) := by decide +kernel
theorem d_M_copied_65 : decode b_M_copied 65 = .ok (.iload 5, 2) := by decide +kernel
theorem d_M_copied_67 : decode b_M_copied 67 = .ok (.iaload, 1) := by decide +kernel
theorem d_M_copied_68 : decode b_M_copied 68 = .ok (.aload_n 0, 1) := by decide +kernel
theorem d_M_copied_69 : decode b_M_copied 69 = .ok (.getfield 34, 3) := by decide +kernel
theorem d_M_copied_72 : decode b_M_copied 72 = .ok (.iload 5, 2) := by decide +kernel
theorem d_M_copied_74 : decode b_M_copied 74 = .ok (.iaload, 1) := by decide +kernel
theorem d_M_copied_75 : decode b_M_copied 75 = .ok (.invokevirtual 84, 3) := by decide +kernel
theorem d_M_copied_78 : decode b_M_copied 78 = .ok (.istore 6, 2) := by decide +kernel
theorem d_M_copied_80 : decode b_M_copied 80 = .ok (.aload_n 0, 1) := by decide +kernel
theorem d_M_copied_81 : decode b_M_copied 81 = .ok (.getfield 81, 3) := by decide +kernel
theorem d_M_copied_84 : decode b_M_copied 84 = .ok (.istore 7, 2) := by decide +kernel
theorem d_M_copied_86 : decode b_M_copied 86 = .ok (.iconst 0, 1) := by decide +kernel
theorem d_M_copied_87 : decode b_M_copied 87 = .ok (.istore 8, 2) := by decide +kernel
theorem d_M_copied_89 : decode b_M_copied 89 = .ok (.iload 8, 2) := by decide +kernel
theorem d_M_copied_91 : decode b_M_copied 91 = .ok (.iload 7, 2) := by decide +kernel
theorem d_M_copied_93 : decode b_M_copied 93 = .ok (.if_icmp .ge 42, 3) := by decide +kernel
theorem d_M_copied_96 : decode b_M_copied 96 = .ok (.aload_n 0, 1) := by decide +kernel
theorem d_M_copied_97 : decode b_M_copied 97 = .ok (.getfield 41, 3) := by decide +kernel
theorem d_M_copied_100 : decode b_M_copied 100 = .ok (.iload 8, 2) := by decide +kernel
theorem d_M_copied_102 : decode b_M_copied 102 = .ok (.iaload, 1) := by decide +kernel
theorem d_M_copied_103 : decode b_M_copied 103 = .ok (.iload 5, 2) := by decide +kernel
theorem d_M_copied_105 : decode b_M_copied 105 = .ok (.if_icmp .ne 24, 3) := by decide +kernel
theorem d_M_copied_108 : decode b_M_copied 108 = .ok (.aload_n 0, 1) := by decide +kernel
theorem d_M_copied_109 : decode b_M_copied 109 = .ok (.iload 6, 2) := by decide +kernel
theorem d_M_copied_111 : decode b_M_copied 111 = .ok (.aload_n 0, 1) := by decide +kernel
theorem d_M_copied_112 : decode b_M_copied 112 = .ok (.getfield 44, 3) := by decide +kernel
theorem d_M_copied_115 : decode b_M_copied 115 = .ok (.iload 8, 2) := by decide +kernel
theorem d_M_copied_117 : decode b_M_copied 117 = .ok (.iaload, 1) := by decide +kernel
theorem d_M_copied_118 : decode b_M_copied 118 = .ok (.aload_n 0, 1) := by decide +kernel
theorem d_M_copied_119 : decode b_M_copied 119 = .ok (.getfield 47, 3) := by decide +kernel
theorem d_M_copied_122 : decode b_M_copied 122 = .ok (.iload 8, 2) := by decide +kernel
theorem d_M_copied_124 : decode b_M_copied 124 = .ok (.iaload, 1) := by decide +kernel
theorem d_M_copied_125 : decode b_M_copied 125 = .ok (.invokevirtual 88, 3) := by decide +kernel
theorem d_M_copied_128 : decode b_M_copied 128 = .ok (.pop, 1) := by decide +kernel
theorem d_M_copied_129 : decode b_M_copied 129 = .ok (.iinc 8 1, 3) := by decide +kernel
theorem d_M_copied_132 : decode b_M_copied 132 = .ok (.goto (-43), 3) := by decide +kernel
theorem d_M_copied_135 : decode b_M_copied 135 = .ok (.iinc 4 1, 3) := by decide +kernel
theorem d_M_copied_138 : decode b_M_copied 138 = .ok (.iinc 5 1, 3) := by decide +kernel
theorem d_M_copied_141 : decode b_M_copied 141 = .ok (.goto (-130), 3) := by decide +kernel
theorem d_M_copied_144 : decode b_M_copied 144 = .ok (.iload 4, 2) := by decide +kernel
theorem d_M_copied_146 : decode b_M_copied 146 = .ok (.ireturn, 1) := by decide +kernel
theorem d_M_draw_0 : decode b_M_draw 0 = .ok (.bipush 7, 2) := by decide +kernel
theorem d_M_draw_2 : decode b_M_draw 2 = .ok (.iload_n 1, 1) := by decide +kernel
theorem d_M_draw_3 : decode b_M_draw 3 = .ok (.imul, 1) := by decide +kernel
theorem d_M_draw_4 : decode b_M_draw 4 = .ok (.istore_n 2, 1) := by decide +kernel
theorem d_M_draw_5 : decode b_M_draw 5 = .ok (.aload_n 0, 1) := by decide +kernel
theorem d_M_draw_6 : decode b_M_draw 6 = .ok (.getfield 7, 3) := by decide +kernel
theorem d_M_draw_9 : decode b_M_draw 9 = .ok (.iload_n 2, 1) := by decide +kernel
theorem d_M_draw_10 : decode b_M_draw 10 = .ok (.iconst 1, 1) := by decide +kernel
theorem d_M_draw_11 : decode b_M_draw 11 = .ok (.iadd, 1) := by decide +kernel
theorem d_M_draw_12 : decode b_M_draw 12 = .ok (.iaload, 1) := by decide +kernel
theorem d_M_draw_13 : decode b_M_draw 13 = .ok (.istore_n 3, 1) := by decide +kernel
theorem d_M_draw_14 : decode b_M_draw 14 = .ok (.aload_n 0, 1) := by decide +kernel
theorem d_M_draw_15 : decode b_M_draw 15 = .ok (.getfield 7, 3) := by decide +kernel
theorem d_M_draw_18 : decode b_M_draw 18 = .ok (.iload_n 2, 1) := by decide +kernel
theorem d_M_draw_19 : decode b_M_draw 19 = .ok (.iconst 2, 1) := by decide +kernel
theorem d_M_draw_20 : decode b_M_draw 20 = .ok (.iadd, 1) := by decide +kernel
theorem d_M_draw_21 : decode b_M_draw 21 = .ok (.iaload, 1) := by decide +kernel
theorem d_M_draw_22 : decode b_M_draw 22 = .ok (.istore 4, 2) := by decide +kernel
theorem d_M_draw_24 : decode b_M_draw 24 = .ok (.aload_n 0, 1) := by decide +kernel
theorem d_M_draw_25 : decode b_M_draw 25 = .ok (.getfield 7, 3) := by decide +kernel
theorem d_M_draw_28 : decode b_M_draw 28 = .ok (.iload_n 2, 1) := by decide +kernel
theorem d_M_draw_29 : decode b_M_draw 29 = .ok (.iconst 3, 1) := by decide +kernel
theorem d_M_draw_30 : decode b_M_draw 30 = .ok (.iadd, 1) := by decide +kernel
theorem d_M_draw_31 : decode b_M_draw 31 = .ok (.iaload, 1) := by decide +kernel
theorem d_M_draw_32 : decode b_M_draw 32 = .ok (.istore 5, 2) := by decide +kernel
theorem d_M_draw_34 : decode b_M_draw 34 = .ok (.aload_n 0, 1) := by decide +kernel
theorem d_M_draw_35 : decode b_M_draw 35 = .ok (.getfield 7, 3) := by decide +kernel
theorem d_M_draw_38 : decode b_M_draw 38 = .ok (.iload_n 2, 1) := by decide +kernel
theorem d_M_draw_39 : decode b_M_draw 39 = .ok (.iaload, 1) := by decide +kernel
theorem d_M_draw_40 : decode b_M_draw 40 = .ok (.tableswitch 236 0 8 #[52, 79, 89, 116, 126, 161, 207, 217, 226], 52) := by decide +kernel
theorem d_M_draw_92 : decode b_M_draw 92 = .ok (.aload_n 0, 1) := by decide +kernel
theorem d_M_draw_93 : decode b_M_draw 93 = .ok (.getfield 13, 3) := by decide +kernel
theorem d_M_draw_96 : decode b_M_draw 96 = .ok (.aload_n 0, 1) := by decide +kernel
theorem d_M_draw_97 : decode b_M_draw 97 = .ok (.getfield 54, 3) := by decide +kernel
theorem d_M_draw_100 : decode b_M_draw 100 = .ok (.iload_n 3, 1) := by decide +kernel
theorem d_M_draw_101 : decode b_M_draw 101 = .ok (.iastore, 1) := by decide +kernel
theorem d_M_draw_102 : decode b_M_draw 102 = .ok (.aload_n 0, 1) := by decide +kernel
theorem d_M_draw_103 : decode b_M_draw 103 = .ok (.dup, 1) := by decide +kernel
theorem d_M_draw_104 : decode b_M_draw 104 = .ok (.getfield 54, 3) := by decide +kernel
theorem d_M_draw_107 : decode b_M_draw 107 = .ok (.iconst 1, 1) := by decide +kernel
theorem d_M_draw_108 : decode b_M_draw 108 = .ok (.iadd, 1) := by decide +kernel
theorem d_M_draw_109 : decode b_M_draw 109 = .ok (.putfield 54, 3) := by decide +kernel
theorem d_M_draw_112 : decode b_M_draw 112 = .ok (.aload_n 0, 1) := by decide +kernel
theorem d_M_draw_113 : decode b_M_draw 113 = .ok (.getfield 54, 3) := by decide +kernel
theorem d_M_draw_116 : decode b_M_draw 116 = .ok (.iconst 1, 1) := by decide +kernel
theorem d_M_draw_117 : decode b_M_draw 117 = .ok (.isub, 1) := by decide +kernel
theorem d_M_draw_118 : decode b_M_draw 118 = .ok (.ireturn, 1) := by decide +kernel
theorem d_M_draw_119 : decode b_M_draw 119 = .ok (.aload_n 0, 1) := by decide +kernel
theorem d_M_draw_120 : decode b_M_draw 120 = .ok (.getfield 13, 3) := by decide +kernel
theorem d_M_draw_123 : decode b_M_draw 123 = .ok (.iload_n 3, 1) := by decide +kernel
theorem d_M_draw_124 : decode b_M_draw 124 = .ok (.iload 4, 2) := by decide +kernel
theorem d_M_draw_126 : decode b_M_draw 126 = .ok (.iastore, 1) := by decide +kernel
theorem d_M_draw_127 : decode b_M_draw 127 = .ok (.iconst 0, 1) := by decide +kernel
theorem d_M_draw_128 : decode b_M_draw 128 = .ok (.ireturn, 1) := by decide +kernel
theorem d_M_draw_129 : decode b_M_draw 129 = .ok (.aload_n 0, 1) := by decide +kernel
theorem d_M_draw_130 : decode b_M_draw 130 = .ok (.getfield 16, 3) := by decide +kernel
theorem d_M_draw_133 : decode b_M_draw 133 = .ok (.aload_n 0, 1) := by decide +kernel
theorem d_M_draw_134 : decode b_M_draw 134 = .ok (.getfield 57, 3) := by decide +kernel
theorem d_M_draw_137 : decode b_M_draw 137 = .ok (.iload_n 3, 1) := by decide +kernel
theorem d_M_draw_138 : decode b_M_draw 138 = .ok (.iastore, 1) := by decide +kernel
theorem d_M_draw_139 : decode b_M_draw 139 = .ok (.aload_n 0, 1) := by decide +kernel
theorem d_M_draw_140 : decode b_M_draw 140 = .ok (.dup, 1) := by decide +kernel
theorem d_M_draw_141 : decode b_M_draw 141 = .ok (.getfield 57, 3) := by decide +kernel
theorem d_M_draw_144 : decode b_M_draw 144 = .ok (.iconst 1, 1) := by decide +kernel
theorem d_M_draw_145 : decode b_M_draw 145 = .ok (.iadd, 1) := by decide +kernel
theorem d_M_draw_146 : decode b_M_draw 146 = .ok (.putfield 57, 3) := by decide +kernel
theorem d_M_draw_149 : decode b_M_draw 149 = .ok (.aload_n 0, 1) := by decide +kernel
theorem d_M_draw_150 : decode b_M_draw 150 = .ok (.getfield 57, 3) := by decide +kernel
theorem d_M_draw_153 : decode b_M_draw 153 = .ok (.iconst 1, 1) := by decide +kernel
theorem d_M_draw_154 : decode b_M_draw 154 = .ok (.isub, 1) := by decide +kernel
theorem d_M_draw_155 : decode b_M_draw 155 = .ok (.ireturn, 1) := by decide +kernel
theorem d_M_draw_156 : decode b_M_draw 156 = .ok (.aload_n 0, 1) := by decide +kernel
theorem d_M_draw_157 : decode b_M_draw 157 = .ok (.getfield 16, 3) := by decide +kernel
theorem d_M_draw_160 : decode b_M_draw 160 = .ok (.iload_n 3, 1) := by decide +kernel
theorem d_M_draw_161 : decode b_M_draw 161 = .ok (.iload 4, 2) := by decide +kernel
theorem d_M_draw_163 : decode b_M_draw 163 = .ok (.iastore, 1) := by decide +kernel
theorem d_M_draw_164 : decode b_M_draw 164 = .ok (.iconst 0, 1) := by decide +kernel
theorem d_M_draw_165 : decode b_M_draw 165 = .ok (.ireturn, 1) := by decide +kernel
theorem d_M_draw_166 : decode b_M_draw 166 = .ok (.aload_n 0, 1) := by decide +kernel
theorem d_M_draw_167 : decode b_M_draw 167 = .ok (.iload_n 3, 1) := by decide +kernel
theorem d_M_draw_168 : decode b_M_draw 168 = .ok (.iload 4, 2) := by decide +kernel
theorem d_M_draw_170 : decode b_M_draw 170 = .ok (.iload 5, 2) := by decide +kernel
theorem d_M_draw_172 : decode b_M_draw 172 = .ok (.aload_n 0, 1) := by decide +kernel
theorem d_M_draw_173 : decode b_M_draw 173 = .ok (.getfield 7, 3) := by decide +kernel
theorem d_M_draw_176 : decode b_M_draw 176 = .ok (.iload_n 2, 1) := by decide +kernel
theorem d_M_draw_177 : decode b_M_draw 177 = .ok (.iconst 4, 1) := by decide +kernel
theorem d_M_draw_178 : decode b_M_draw 178 = .ok (.iadd, 1) := by decide +kernel
theorem d_M_draw_179 : decode b_M_draw 179 = .ok (.iaload, 1) := by decide +kernel
theorem d_M_draw_180 : decode b_M_draw 180 = .ok (.aload_n 0, 1) := by decide +kernel
theorem d_M_draw_181 : decode b_M_draw 181 = .ok (.getfield 7, 3) := by decide +kernel
theorem d_M_draw_184 : decode b_M_draw 184 = .ok (.iload_n 2, 1) := by decide +kernel
theorem d_M_draw_185 : decode b_M_draw 185 = .ok (.iconst 5, 1) := by decide +kernel
theorem d_M_draw_186 : decode b_M_draw 186 = .ok (.iadd, 1) := by decide +kernel
theorem d_M_draw_187 : decode b_M_draw 187 = .ok (.iaload, 1) := by decide +kernel
theorem d_M_draw_188 : decode b_M_draw 188 = .ok (.aload_n 0, 1) := by decide +kernel
theorem d_M_draw_189 : decode b_M_draw 189 = .ok (.getfield 7, 3) := by decide +kernel
theorem d_M_draw_192 : decode b_M_draw 192 = .ok (.iload_n 2, 1) := by decide +kernel
theorem d_M_draw_193 : decode b_M_draw 193 = .ok (.bipush 6, 2) := by decide +kernel
theorem d_M_draw_195 : decode b_M_draw 195 = .ok (.iadd, 1) := by decide +kernel
theorem d_M_draw_196 : decode b_M_draw 196 = .ok (.iaload, 1) := by decide +kernel
theorem d_M_draw_197 : decode b_M_draw 197 = .ok (.invokevirtual 84, 3) := by decide +kernel
theorem d_M_draw_200 : decode b_M_draw 200 = .ok (.ireturn, 1) := by decide +kernel
theorem d_M_draw_201 : decode b_M_draw 201 = .ok (.aload_n 0, 1) := by decide +kernel
theorem d_M_draw_202 : decode b_M_draw 202 = .ok (.getfield 25, 3) := by decide +kernel
theorem d_M_draw_205 : decode b_M_draw 205 = .ok (.iload_n 3, 1) := by decide +kernel
theorem d_M_draw_206 : decode b_M_draw 206 = .ok (.dup2, 1) := by decide +kernel
theorem d_M_draw_207 : decode b_M_draw 207 = .ok (.iaload, 1) := by decide +kernel
theorem d_M_draw_208 : decode b_M_draw 208 = .ok (.iload 4, 2) := by decide +kernel
theorem d_M_draw_210 : decode b_M_draw 210 = .ok (.iadd, 1) := by decide +kernel
theorem d_M_draw_211 : decode b_M_draw 211 = .ok (.iastore, 1) := by decide +kernel
theorem d_M_draw_212 : decode b_M_draw 212 = .ok (.aload_n 0, 1) := by decide +kernel
theorem d_M_draw_213 : decode b_M_draw 213 = .ok (.getfield 31, 3) := by decide +kernel
theorem d_M_draw_216 : decode b_M_draw 216 = .ok (.iload_n 3, 1) := by decide +kernel
theorem d_M_draw_217 : decode b_M_draw 217 = .ok (.dup2, 1) := by decide +kernel
theorem d_M_draw_218 : decode b_M_draw 218 = .ok (.iaload, 1) := by decide +kernel
theorem d_M_draw_219 : decode b_M_draw 219 = .ok (.iload 4, 2) := by decide +kernel
theorem d_M_draw_221 : decode b_M_draw 221 = .ok (.iadd, 1) := by decide +kernel
theorem d_M_draw_222 : decode b_M_draw 222 = .ok (.iastore, 1) := by decide +kernel
theorem d_M_draw_223 : decode b_M_draw 223 = .ok (.aload_n 0, 1) := by decide +kernel
theorem d_M_draw_224 : decode b_M_draw 224 = .ok (.getfield 28, 3) := by decide +kernel
theorem d_M_draw_227 : decode b_M_draw 227 = .ok (.iload_n 3, 1) := by decide +kernel
theorem d_M_draw_228 : decode b_M_draw 228 = .ok (.dup2, 1) := by decide +kernel
theorem d_M_draw_229 : decode b_M_draw 229 = .ok (.iaload, 1) := by decide +kernel
theorem d_M_draw_230 : decode b_M_draw 230 = .ok (.iload 5, 2) := by decide +kernel
theorem d_M_draw_232 : decode b_M_draw 232 = .ok (.iadd, 1) := by decide +kernel
theorem d_M_draw_233 : decode b_M_draw 233 = .ok (.iastore, 1) := by decide +kernel
theorem d_M_draw_234 : decode b_M_draw 234 = .ok (.aload_n 0, 1) := by decide +kernel
theorem d_M_draw_235 : decode b_M_draw 235 = .ok (.getfield 34, 3) := by decide +kernel
theorem d_M_draw_238 : decode b_M_draw 238 = .ok (.iload_n 3, 1) := by decide +kernel
theorem d_M_draw_239 : decode b_M_draw 239 = .ok (.dup2, 1) := by decide +kernel
theorem d_M_draw_240 : decode b_M_draw 240 = .ok (.iaload, 1) := by decide +kernel
theorem d_M_draw_241 : decode b_M_draw 241 = .ok (.iload 5, 2) := by decide +kernel
theorem d_M_draw_243 : decode b_M_draw 243 = .ok (.iadd, 1) := by decide +kernel
theorem d_M_draw_244 : decode b_M_draw 244 = .ok (.iastore, 1) := by decide +kernel
theorem d_M_draw_245 : decode b_M_draw 245 = .ok (.iconst 0, 1) := by decide +kernel
theorem d_M_draw_246 : decode b_M_draw 246 = .ok (.ireturn, 1) := by decide +kernel
theorem d_M_draw_247 : decode b_M_draw 247 = .ok (.aload_n 0, 1) := by decide +kernel
theorem d_M_draw_248 : decode b_M_draw 248 = .ok (.getfield 22, 3) := by decide +kernel
theorem d_M_draw_251 : decode b_M_draw 251 = .ok (.iload_n 3, 1) := by decide +kernel
theorem d_M_draw_252 : decode b_M_draw 252 = .ok (.iload 4, 2) := by decide +kernel
theorem d_M_draw_254 : decode b_M_draw 254 = .ok (.iastore, 1) := by decide +kernel
theorem d_M_draw_255 : decode b_M_draw 255 = .ok (.iconst 0, 1) := by decide +kernel
theorem d_M_draw_256 : decode b_M_draw 256 = .ok (.ireturn, 1) := by decide +kernel
theorem d_M_draw_257 : decode b_M_draw 257 = .ok (.aload_n 0, 1) := by decide +kernel
theorem d_M_draw_258 : decode b_M_draw 258 = .ok (.getfield 37, 3) := by decide +kernel
theorem d_M_draw_261 : decode b_M_draw 261 = .ok (.iload_n 3, 1) := by decide +kernel
theorem d_M_draw_262 : decode b_M_draw 262 = .ok (.iconst 0, 1) := by decide +kernel
theorem d_M_draw_263 : decode b_M_draw 263 = .ok (.bastore, 1) := by decide +kernel
theorem d_M_draw_264 : decode b_M_draw 264 = .ok (.iconst 0, 1) := by decide +kernel
theorem d_M_draw_265 : decode b_M_draw 265 = .ok (.ireturn, 1) := by decide +kernel
theorem d_M_draw_266 : decode b_M_draw 266 = .ok (.aload_n 0, 1) := by decide +kernel
theorem d_M_draw_267 : decode b_M_draw 267 = .ok (.iload_n 3, 1) := by decide +kernel
theorem d_M_draw_268 : decode b_M_draw 268 = .ok (.iload 4, 2) := by decide +kernel
theorem d_M_draw_270 : decode b_M_draw 270 = .ok (.iload 5, 2) := by decide +kernel
theorem d_M_draw_272 : decode b_M_draw 272 = .ok (.invokevirtual 88, 3) := by decide +kernel
theorem d_M_draw_275 : decode b_M_draw 275 = .ok (.ireturn, 1) := by decide +kernel
theorem d_M_draw_276 : decode b_M_draw 276 = .ok (.aload_n 0, 1) := by decide +kernel
theorem d_M_draw_277 : decode b_M_draw 277 = .ok (.iload_n 3, 1) := by decide +kernel
theorem d_M_draw_278 : decode b_M_draw 278 = .ok (.iload 4, 2) := by decide +kernel
theorem d_M_draw_280 : decode b_M_draw 280 = .ok (.invokevirtual 92, 3) := by decide +kernel
theorem d_M_draw_283 : decode b_M_draw 283 = .ok (.ireturn, 1) := by decide +kernel
theorem d_M_storey_0 : decode b_M_storey 0 = .ok (.iload_n 1, 1) := by decide +kernel
theorem d_M_storey_1 : decode b_M_storey 1 = .ok (.i2l, 1) := by decide +kernel
theorem d_M_storey_2 : decode b_M_storey 2 = .ok (.ldc2_w 63, 3) := by decide +kernel
theorem d_M_storey_5 : decode b_M_storey 5 = .ok (.ldc2_w 96, 3) := by decide +kernel
theorem d_M_storey_8 : decode b_M_storey 8 = .ok (.invokestatic 67, 3) := by decide +kernel
theorem d_M_storey_11 : decode b_M_storey 11 = .ok (.ifCond .eq 29, 3) := by decide +kernel
theorem d_M_storey_14 : decode b_M_storey 14 = .ok (.aload_n 0, 1) := by decide +kernel
theorem d_M_storey_15 : decode b_M_storey 15 = .ok (.getfield 54, 3) := by decide +kernel
theorem d_M_storey_18 : decode b_M_storey 18 = .ok (.ifCond .eq 18, 3) := by decide +kernel
theorem d_M_storey_21 : decode b_M_storey 21 = .ok (.iload_n 1, 1) := by decide +kernel
theorem d_M_storey_22 : decode b_M_storey 22 = .ok (.aload_n 0, 1) := by decide +kernel
theorem d_M_storey_23 : decode b_M_storey 23 = .ok (.getfield 13, 3) := by decide +kernel
theorem d_M_storey_26 : decode b_M_storey 26 = .ok (.aload_n 0, 1) := by decide +kernel
theorem d_M_storey_27 : decode b_M_storey 27 = .ok (.getfield 54, 3) := by decide +kernel
theorem d_M_storey_30 : decode b_M_storey 30 = .ok (.iconst 1, 1) := by decide +kernel
theorem d_M_storey_31 : decode b_M_storey 31 = .ok (.isub, 1) := by decide +kernel
theorem d_M_storey_32 : decode b_M_storey 32 = .ok (.iaload, 1) := by decide +kernel
theorem d_M_storey_33 : decode b_M_storey 33 = .ok (.if_icmp .le 7, 3) := by decide +kernel
theorem d_M_storey_36 : decode b_M_storey 36 = .ok (.iconst 1, 1) := by decide +kernel
theorem d_M_storey_37 : decode b_M_storey 37 = .ok (.goto 4, 3) := by decide +kernel
theorem d_M_storey_40 : decode b_M_storey 40 = .ok (.iconst 0, 1) := by decide +kernel
theorem d_M_storey_41 : decode b_M_storey 41 = .ok (.istore_n 2, 1) := by decide +kernel
theorem d_M_storey_42 : decode b_M_storey 42 = .ok (.aload_n 0, 1) := by decide +kernel
theorem d_M_storey_43 : decode b_M_storey 43 = .ok (.iload_n 2, 1) := by decide +kernel
theorem d_M_storey_44 : decode b_M_storey 44 = .ok (.aload_n 0, 1) := by decide +kernel
theorem d_M_storey_45 : decode b_M_storey 45 = .ok (.getfield 54, 3) := by decide +kernel
theorem d_M_storey_48 : decode b_M_storey 48 = .ok (.bipush 6, 2) := by decide +kernel
theorem d_M_storey_50 : decode b_M_storey 50 = .ok (.if_icmp .ge 7, 3) := by decide +kernel
theorem d_M_storey_53 : decode b_M_storey 53 = .ok (.iconst 1, 1) := by decide +kernel
theorem d_M_storey_54 : decode b_M_storey 54 = .ok (.goto 4, 3) := by decide +kernel
theorem d_M_storey_57 : decode b_M_storey 57 = .ok (.iconst 0, 1) := by decide +kernel
theorem d_M_storey_58 : decode b_M_storey 58 = .ok (.invokevirtual 98, 3) := by decide +kernel
theorem d_M_storey_61 : decode b_M_storey 61 = .ok (.ifCond .eq 17, 3) := by decide +kernel
theorem d_M_storey_64 : decode b_M_storey 64 = .ok (.aload_n 0, 1) := by decide +kernel
theorem d_M_storey_65 : decode b_M_storey 65 = .ok (.iconst 0, 1) := by decide +kernel
theorem d_M_storey_66 : decode b_M_storey 66 = .ok (.iload_n 1, 1) := by decide +kernel
theorem d_M_storey_67 : decode b_M_storey 67 = .ok (.iconst 0, 1) := by decide +kernel
theorem d_M_storey_68 : decode b_M_storey 68 = .ok (.iconst 0, 1) := by decide +kernel
theorem d_M_storey_69 : decode b_M_storey 69 = .ok (.iconst 0, 1) := by decide +kernel
theorem d_M_storey_70 : decode b_M_storey 70 = .ok (.iconst 0, 1) := by decide +kernel
theorem d_M_storey_71 : decode b_M_storey 71 = .ok (.iconst 0, 1) := by decide +kernel
theorem d_M_storey_72 : decode b_M_storey 72 = .ok (.invokevirtual 102, 3) := by decide +kernel
theorem d_M_storey_75 : decode b_M_storey 75 = .ok (.goto 4, 3) := by decide +kernel
theorem d_M_storey_78 : decode b_M_storey 78 = .ok (.iconst 0, 1) := by decide +kernel
theorem d_M_storey_79 : decode b_M_storey 79 = .ok (.ireturn, 1) := by decide +kernel
theorem d_M_level_0 : decode b_M_level 0 = .ok (.aload_n 0, 1) := by decide +kernel
theorem d_M_level_1 : decode b_M_level 1 = .ok (.iload_n 1, 1) := by decide +kernel
theorem d_M_level_2 : decode b_M_level 2 = .ok (.invokevirtual 106, 3) := by decide +kernel
theorem d_M_level_5 : decode b_M_level 5 = .ok (.ifCond .eq 21, 3) := by decide +kernel
theorem d_M_level_8 : decode b_M_level 8 = .ok (.iload_n 2, 1) := by decide +kernel
theorem d_M_level_9 : decode b_M_level 9 = .ok (.i2l, 1) := by decide +kernel
theorem d_M_level_10 : decode b_M_level 10 = .ok (.ldc2_w 63, 3) := by decide +kernel
theorem d_M_level_13 : decode b_M_level 13 = .ok (.ldc2_w 96, 3) := by decide +kernel
theorem d_M_level_16 : decode b_M_level 16 = .ok (.invokestatic 67, 3) := by decide +kernel
theorem d_M_level_19 : decode b_M_level 19 = .ok (.ifCond .eq 7, 3) := by decide +kernel
theorem d_M_level_22 : decode b_M_level 22 = .ok (.iconst 1, 1) := by decide +kernel
theorem d_M_level_23 : decode b_M_level 23 = .ok (.goto 4, 3) := by decide +kernel
theorem d_M_level_26 : decode b_M_level 26 = .ok (.iconst 0, 1) := by decide +kernel
theorem d_M_level_27 : decode b_M_level 27 = .ok (.istore_n 3, 1) := by decide +kernel
theorem d_M_level_28 : decode b_M_level 28 = .ok (.iload_n 3, 1) := by decide +kernel
theorem d_M_level_29 : decode b_M_level 29 = .ok (.ifCond .eq 45, 3) := by decide +kernel
theorem d_M_level_32 : decode b_M_level 32 = .ok (.iload_n 1, 1) := by decide +kernel
theorem d_M_level_33 : decode b_M_level 33 = .ok (.ifCond .eq 15, 3) := by decide +kernel
theorem d_M_level_36 : decode b_M_level 36 = .ok (.iload_n 2, 1) := by decide +kernel
theorem d_M_level_37 : decode b_M_level 37 = .ok (.aload_n 0, 1) := by decide +kernel
theorem d_M_level_38 : decode b_M_level 38 = .ok (.getfield 13, 3) := by decide +kernel
theorem d_M_level_41 : decode b_M_level 41 = .ok (.iload_n 1, 1) := by decide +kernel
theorem d_M_level_42 : decode b_M_level 42 = .ok (.iconst 1, 1) := by decide +kernel
theorem d_M_level_43 : decode b_M_level 43 = .ok (.isub, 1) := by decide +kernel
theorem d_M_level_44 : decode b_M_level 44 = .ok (.iaload, 1) := by decide +kernel
theorem d_M_level_45 : decode b_M_level 45 = .ok (.if_icmp .le 29, 3) := by decide +kernel
theorem d_M_level_48 : decode b_M_level 48 = .ok (.iload_n 1, 1) := by decide +kernel
theorem d_M_level_49 : decode b_M_level 49 = .ok (.iconst 1, 1) := by decide +kernel
theorem d_M_level_50 : decode b_M_level 50 = .ok (.iadd, 1) := by decide +kernel
theorem d_M_level_51 : decode b_M_level 51 = .ok (.aload_n 0, 1) := by decide +kernel
theorem d_M_level_52 : decode b_M_level 52 = .ok (.getfield 54, 3) := by decide +kernel
theorem d_M_level_55 : decode b_M_level 55 = .ok (.if_icmp .ge 15, 3) := by decide +kernel
theorem d_M_level_58 : decode b_M_level 58 = .ok (.iload_n 2, 1) := by decide +kernel
theorem d_M_level_59 : decode b_M_level 59 = .ok (.aload_n 0, 1) := by decide +kernel
theorem d_M_level_60 : decode b_M_level 60 = .ok (.getfield 13, 3) := by decide +kernel
theorem d_M_level_63 : decode b_M_level 63 = .ok (.iload_n 1, 1) := by decide +kernel
theorem d_M_level_64 : decode b_M_level 64 = .ok (.iconst 1, 1) := by decide +kernel
theorem d_M_level_65 : decode b_M_level 65 = .ok (.iadd, 1) := by decide +kernel
theorem d_M_level_66 : decode b_M_level 66 = .ok (.iaload, 1) := by decide +kernel
theorem d_M_level_67 : decode b_M_level 67 = .ok (.if_icmp .ge 7, 3) := by decide +kernel
theorem d_M_level_70 : decode b_M_level 70 = .ok (.iconst 1, 1) := by decide +kernel
theorem d_M_level_71 : decode b_M_level 71 = .ok (.goto 4, 3) := by decide +kernel
theorem d_M_level_74 : decode b_M_level 74 = .ok (.iconst 0, 1) := by decide +kernel
theorem d_M_level_75 : decode b_M_level 75 = .ok (.istore_n 3, 1) := by decide +kernel
theorem d_M_level_76 : decode b_M_level 76 = .ok (.aload_n 0, 1) := by decide +kernel
theorem d_M_level_77 : decode b_M_level 77 = .ok (.iload_n 3, 1) := by decide +kernel
theorem d_M_level_78 : decode b_M_level 78 = .ok (.iconst 1, 1) := by decide +kernel
theorem d_M_level_79 : decode b_M_level 79 = .ok (.invokevirtual 98, 3) := by decide +kernel
theorem d_M_level_82 : decode b_M_level 82 = .ok (.ifCond .eq 15, 3) := by decide +kernel
theorem d_M_level_85 : decode b_M_level 85 = .ok (.aload_n 0, 1) := by decide +kernel
theorem d_M_level_86 : decode b_M_level 86 = .ok (.iconst 1, 1) := by decide +kernel
theorem d_M_level_87 : decode b_M_level 87 = .ok (.iload_n 1, 1) := by decide +kernel
theorem d_M_level_88 : decode b_M_level 88 = .ok (.iload_n 2, 1) := by decide +kernel
theorem d_M_level_89 : decode b_M_level 89 = .ok (.iconst 0, 1) := by decide +kernel
theorem d_M_level_90 : decode b_M_level 90 = .ok (.iconst 0, 1) := by decide +kernel
theorem d_M_level_91 : decode b_M_level 91 = .ok (.iconst 0, 1) := by decide +kernel
theorem d_M_level_92 : decode b_M_level 92 = .ok (.iconst 0, 1) := by decide +kernel
theorem d_M_level_93 : decode b_M_level 93 = .ok (.invokevirtual 102, 3) := by decide +kernel
theorem d_M_level_96 : decode b_M_level 96 = .ok (.pop, 1) := by decide +kernel
theorem d_M_level_97 : decode b_M_level 97 = .ok (.return_, 1) := by decide +kernel
theorem d_M_type_0 : decode b_M_type 0 = .ok (.aload_n 0, 1) := by decide +kernel
theorem d_M_type_1 : decode b_M_type 1 = .ok (.iload_n 1, 1) := by decide +kernel
theorem d_M_type_2 : decode b_M_type 2 = .ok (.invokestatic 110, 3) := by decide +kernel
theorem d_M_type_5 : decode b_M_type 5 = .ok (.aload_n 0, 1) := by decide +kernel
theorem d_M_type_6 : decode b_M_type 6 = .ok (.getfield 57, 3) := by decide +kernel
theorem d_M_type_9 : decode b_M_type 9 = .ok (.bipush 8, 2) := by decide +kernel
theorem d_M_type_11 : decode b_M_type 11 = .ok (.if_icmp .ge 7, 3) := by decide +kernel
theorem d_M_type_14 : decode b_M_type 14 = .ok (.iconst 1, 1) := by decide +kernel
theorem d_M_type_15 : decode b_M_type 15 = .ok (.goto 4, 3) := by decide +kernel
theorem d_M_type_18 : decode b_M_type 18 = .ok (.iconst 0, 1) := by decide +kernel
theorem d_M_type_19 : decode b_M_type 19 = .ok (.invokevirtual 98, 3) := by decide +kernel
theorem d_M_type_22 : decode b_M_type 22 = .ok (.ifCond .eq 17, 3) := by decide +kernel
theorem d_M_type_25 : decode b_M_type 25 = .ok (.aload_n 0, 1) := by decide +kernel
theorem d_M_type_26 : decode b_M_type 26 = .ok (.iconst 2, 1) := by decide +kernel
theorem d_M_type_27 : decode b_M_type 27 = .ok (.iload_n 1, 1) := by decide +kernel
theorem d_M_type_28 : decode b_M_type 28 = .ok (.iconst 0, 1) := by decide +kernel
theorem d_M_type_29 : decode b_M_type 29 = .ok (.iconst 0, 1) := by decide +kernel
theorem d_M_type_30 : decode b_M_type 30 = .ok (.iconst 0, 1) := by decide +kernel
theorem d_M_type_31 : decode b_M_type 31 = .ok (.iconst 0, 1) := by decide +kernel
theorem d_M_type_32 : decode b_M_type 32 = .ok (.iconst 0, 1) := by decide +kernel
theorem d_M_type_33 : decode b_M_type 33 = .ok (.invokevirtual 102, 3) := by decide +kernel
theorem d_M_type_36 : decode b_M_type 36 = .ok (.goto 4, 3) := by decide +kernel
theorem d_M_type_39 : decode b_M_type 39 = .ok (.iconst 0, 1) := by decide +kernel
theorem d_M_type_40 : decode b_M_type 40 = .ok (.ireturn, 1) := by decide +kernel
theorem d_M_thickness_0 : decode b_M_thickness 0 = .ok (.aload_n 0, 1) := by decide +kernel
theorem d_M_thickness_1 : decode b_M_thickness 1 = .ok (.aload_n 0, 1) := by decide +kernel
theorem d_M_thickness_2 : decode b_M_thickness 2 = .ok (.iload_n 1, 1) := by decide +kernel
theorem d_M_thickness_3 : decode b_M_thickness 3 = .ok (.invokevirtual 113, 3) := by decide +kernel
theorem d_M_thickness_6 : decode b_M_thickness 6 = .ok (.ifCond .eq 14, 3) := by decide +kernel
theorem d_M_thickness_9 : decode b_M_thickness 9 = .ok (.iload_n 2, 1) := by decide +kernel
theorem d_M_thickness_10 : decode b_M_thickness 10 = .ok (.invokestatic 110, 3) := by decide +kernel
theorem d_M_thickness_13 : decode b_M_thickness 13 = .ok (.ifCond .eq 7, 3) := by decide +kernel
theorem d_M_thickness_16 : decode b_M_thickness 16 = .ok (.iconst 1, 1) := by decide +kernel
theorem d_M_thickness_17 : decode b_M_thickness 17 = .ok (.goto 4, 3) := by decide +kernel
theorem d_M_thickness_20 : decode b_M_thickness 20 = .ok (.iconst 0, 1) := by decide +kernel
theorem d_M_thickness_21 : decode b_M_thickness 21 = .ok (.iconst 1, 1) := by decide +kernel
theorem d_M_thickness_22 : decode b_M_thickness 22 = .ok (.invokevirtual 98, 3) := by decide +kernel
theorem d_M_thickness_25 : decode b_M_thickness 25 = .ok (.ifCond .eq 15, 3) := by decide +kernel
theorem d_M_thickness_28 : decode b_M_thickness 28 = .ok (.aload_n 0, 1) := by decide +kernel
theorem d_M_thickness_29 : decode b_M_thickness 29 = .ok (.iconst 3, 1) := by decide +kernel
theorem d_M_thickness_30 : decode b_M_thickness 30 = .ok (.iload_n 1, 1) := by decide +kernel
theorem d_M_thickness_31 : decode b_M_thickness 31 = .ok (.iload_n 2, 1) := by decide +kernel
theorem d_M_thickness_32 : decode b_M_thickness 32 = .ok (.iconst 0, 1) := by decide +kernel
theorem d_M_thickness_33 : decode b_M_thickness 33 = .ok (.iconst 0, 1) := by decide +kernel
theorem d_M_thickness_34 : decode b_M_thickness 34 = .ok (.iconst 0, 1) := by decide +kernel
theorem d_M_thickness_35 : decode b_M_thickness 35 = .ok (.iconst 0, 1) := by decide +kernel
theorem d_M_thickness_36 : decode b_M_thickness 36 = .ok (.invokevirtual 102, 3) := by decide +kernel
theorem d_M_thickness_39 : decode b_M_thickness 39 = .ok (.pop, 1) := by decide +kernel
theorem d_M_thickness_40 : decode b_M_thickness 40 = .ok (.return_, 1) := by decide +kernel
theorem d_M_wall_0 : decode b_M_wall 0 = .ok (.aload_n 0, 1) := by decide +kernel
theorem d_M_wall_1 : decode b_M_wall 1 = .ok (.iload_n 1, 1) := by decide +kernel
theorem d_M_wall_2 : decode b_M_wall 2 = .ok (.invokevirtual 106, 3) := by decide +kernel
theorem d_M_wall_5 : decode b_M_wall 5 = .ok (.ifCond .eq 64, 3) := by decide +kernel
theorem d_M_wall_8 : decode b_M_wall 8 = .ok (.aload_n 0, 1) := by decide +kernel
theorem d_M_wall_9 : decode b_M_wall 9 = .ok (.iload_n 2, 1) := by decide +kernel
theorem d_M_wall_10 : decode b_M_wall 10 = .ok (.invokevirtual 113, 3) := by decide +kernel
theorem d_M_wall_13 : decode b_M_wall 13 = .ok (.ifCond .eq 56, 3) := by decide +kernel
theorem d_M_wall_16 : decode b_M_wall 16 = .ok (.iload_n 3, 1) := by decide +kernel
theorem d_M_wall_17 : decode b_M_wall 17 = .ok (.i2l, 1) := by decide +kernel
theorem d_M_wall_18 : decode b_M_wall 18 = .ok (.iload 4, 2) := by decide +kernel
theorem d_M_wall_20 : decode b_M_wall 20 = .ok (.i2l, 1) := by decide +kernel
theorem d_M_wall_21 : decode b_M_wall 21 = .ok (.invokestatic 116, 3) := by decide +kernel
theorem d_M_wall_24 : decode b_M_wall 24 = .ok (.ifCond .eq 45, 3) := by decide +kernel
theorem d_M_wall_27 : decode b_M_wall 27 = .ok (.iload 5, 2) := by decide +kernel
theorem d_M_wall_29 : decode b_M_wall 29 = .ok (.i2l, 1) := by decide +kernel
theorem d_M_wall_30 : decode b_M_wall 30 = .ok (.iload 6, 2) := by decide +kernel
theorem d_M_wall_32 : decode b_M_wall 32 = .ok (.i2l, 1) := by decide +kernel
theorem d_M_wall_33 : decode b_M_wall 33 = .ok (.invokestatic 116, 3) := by decide +kernel
theorem d_M_wall_36 : decode b_M_wall 36 = .ok (.ifCond .eq 33, 3) := by decide +kernel
theorem d_M_wall_39 : decode b_M_wall 39 = .ok (.iload_n 3, 1) := by decide +kernel
theorem d_M_wall_40 : decode b_M_wall 40 = .ok (.iload 5, 2) := by decide +kernel
theorem d_M_wall_42 : decode b_M_wall 42 = .ok (.if_icmp .ne 7, 3) := by decide +kernel
theorem d_M_wall_45 : decode b_M_wall 45 = .ok (.iconst 1, 1) := by decide +kernel
theorem d_M_wall_46 : decode b_M_wall 46 = .ok (.goto 4, 3) := by decide +kernel
theorem d_M_wall_49 : decode b_M_wall 49 = .ok (.iconst 0, 1) := by decide +kernel
theorem d_M_wall_50 : decode b_M_wall 50 = .ok (.iload 4, 2) := by decide +kernel
theorem d_M_wall_52 : decode b_M_wall 52 = .ok (.iload 6, 2) := by decide +kernel
theorem d_M_wall_54 : decode b_M_wall 54 = .ok (.if_icmp .ne 7, 3) := by decide +kernel
theorem d_M_wall_57 : decode b_M_wall 57 = .ok (.iconst 1, 1) := by decide +kernel
theorem d_M_wall_58 : decode b_M_wall 58 = .ok (.goto 4, 3) := by decide +kernel
theorem d_M_wall_61 : decode b_M_wall 61 = .ok (.iconst 0, 1) := by decide +kernel
theorem d_M_wall_62 : decode b_M_wall 62 = .ok (.if_icmp .eq 7, 3) := by decide +kernel
theorem d_M_wall_65 : decode b_M_wall 65 = .ok (.iconst 1, 1) := by decide +kernel
theorem d_M_wall_66 : decode b_M_wall 66 = .ok (.goto 4, 3) := by decide +kernel
theorem d_M_wall_69 : decode b_M_wall 69 = .ok (.iconst 0, 1) := by decide +kernel
theorem d_M_wall_70 : decode b_M_wall 70 = .ok (.istore 7, 2) := by decide +kernel
theorem d_M_wall_72 : decode b_M_wall 72 = .ok (.aload_n 0, 1) := by decide +kernel
theorem d_M_wall_73 : decode b_M_wall 73 = .ok (.iload 7, 2) := by decide +kernel
theorem d_M_wall_75 : decode b_M_wall 75 = .ok (.aload_n 0, 1) := by decide +kernel
theorem d_M_wall_76 : decode b_M_wall 76 = .ok (.getfield 60, 3) := by decide +kernel
theorem d_M_wall_79 : decode b_M_wall 79 = .ok (.bipush 40, 2) := by decide +kernel
theorem d_M_wall_81 : decode b_M_wall 81 = .ok (.if_icmp .ge 7, 3) := by decide +kernel
theorem d_M_wall_84 : decode b_M_wall 84 = .ok (.iconst 1, 1) := by decide +kernel
theorem d_M_wall_85 : decode b_M_wall 85 = .ok (.goto 4, 3) := by decide +kernel
theorem d_M_wall_88 : decode b_M_wall 88 = .ok (.iconst 0, 1) := by decide +kernel
theorem d_M_wall_89 : decode b_M_wall 89 = .ok (.invokevirtual 98, 3) := by decide +kernel
theorem d_M_wall_92 : decode b_M_wall 92 = .ok (.ifCond .eq 20, 3) := by decide +kernel
theorem d_M_wall_95 : decode b_M_wall 95 = .ok (.aload_n 0, 1) := by decide +kernel
theorem d_M_wall_96 : decode b_M_wall 96 = .ok (.iconst 4, 1) := by decide +kernel
theorem d_M_wall_97 : decode b_M_wall 97 = .ok (.iload_n 1, 1) := by decide +kernel
theorem d_M_wall_98 : decode b_M_wall 98 = .ok (.iload_n 2, 1) := by decide +kernel
theorem d_M_wall_99 : decode b_M_wall 99 = .ok (.iload_n 3, 1) := by decide +kernel
theorem d_M_wall_100 : decode b_M_wall 100 = .ok (.iload 4, 2) := by decide +kernel
theorem d_M_wall_102 : decode b_M_wall 102 = .ok (.iload 5, 2) := by decide +kernel
theorem d_M_wall_104 : decode b_M_wall 104 = .ok (.iload 6, 2) := by decide +kernel
theorem d_M_wall_106 : decode b_M_wall 106 = .ok (.invokevirtual 102, 3) := by decide +kernel
theorem d_M_wall_109 : decode b_M_wall 109 = .ok (.goto 4, 3) := by decide +kernel
theorem d_M_wall_112 : decode b_M_wall 112 = .ok (.iconst 0, 1) := by decide +kernel
theorem d_M_wall_113 : decode b_M_wall 113 = .ok (.ireturn, 1) := by decide +kernel
theorem d_M_move_0 : decode b_M_move 0 = .ok (.aload_n 0, 1) := by decide +kernel
theorem d_M_move_1 : decode b_M_move 1 = .ok (.iload_n 1, 1) := by decide +kernel
theorem d_M_move_2 : decode b_M_move 2 = .ok (.invokevirtual 120, 3) := by decide +kernel
theorem d_M_move_5 : decode b_M_move 5 = .ok (.istore 4, 2) := by decide +kernel
theorem d_M_move_7 : decode b_M_move 7 = .ok (.iload 4, 2) := by decide +kernel
theorem d_M_move_9 : decode b_M_move 9 = .ok (.ifCond .eq 59, 3) := by decide +kernel
theorem d_M_move_12 : decode b_M_move 12 = .ok (.aload_n 0, 1) := by decide +kernel
theorem d_M_move_13 : decode b_M_move 13 = .ok (.getfield 25, 3) := by decide +kernel
theorem d_M_move_16 : decode b_M_move 16 = .ok (.iload_n 1, 1) := by decide +kernel
theorem d_M_move_17 : decode b_M_move 17 = .ok (.iaload, 1) := by decide +kernel
theorem d_M_move_18 : decode b_M_move 18 = .ok (.i2l, 1) := by decide +kernel
theorem d_M_move_19 : decode b_M_move 19 = .ok (.iload_n 2, 1) := by decide +kernel
theorem d_M_move_20 : decode b_M_move 20 = .ok (.i2l, 1) := by decide +kernel
theorem d_M_move_21 : decode b_M_move 21 = .ok (.ladd, 1) := by decide +kernel
theorem d_M_move_22 : decode b_M_move 22 = .ok (.aload_n 0, 1) := by decide +kernel
theorem d_M_move_23 : decode b_M_move 23 = .ok (.getfield 28, 3) := by decide +kernel
theorem d_M_move_26 : decode b_M_move 26 = .ok (.iload_n 1, 1) := by decide +kernel
theorem d_M_move_27 : decode b_M_move 27 = .ok (.iaload, 1) := by decide +kernel
theorem d_M_move_28 : decode b_M_move 28 = .ok (.i2l, 1) := by decide +kernel
theorem d_M_move_29 : decode b_M_move 29 = .ok (.iload_n 3, 1) := by decide +kernel
theorem d_M_move_30 : decode b_M_move 30 = .ok (.i2l, 1) := by decide +kernel
theorem d_M_move_31 : decode b_M_move 31 = .ok (.ladd, 1) := by decide +kernel
theorem d_M_move_32 : decode b_M_move 32 = .ok (.invokestatic 116, 3) := by decide +kernel
theorem d_M_move_35 : decode b_M_move 35 = .ok (.ifCond .eq 33, 3) := by decide +kernel
theorem d_M_move_38 : decode b_M_move 38 = .ok (.aload_n 0, 1) := by decide +kernel
theorem d_M_move_39 : decode b_M_move 39 = .ok (.getfield 31, 3) := by decide +kernel
theorem d_M_move_42 : decode b_M_move 42 = .ok (.iload_n 1, 1) := by decide +kernel
theorem d_M_move_43 : decode b_M_move 43 = .ok (.iaload, 1) := by decide +kernel
theorem d_M_move_44 : decode b_M_move 44 = .ok (.i2l, 1) := by decide +kernel
theorem d_M_move_45 : decode b_M_move 45 = .ok (.iload_n 2, 1) := by decide +kernel
theorem d_M_move_46 : decode b_M_move 46 = .ok (.i2l, 1) := by decide +kernel
theorem d_M_move_47 : decode b_M_move 47 = .ok (.ladd, 1) := by decide +kernel
theorem d_M_move_48 : decode b_M_move 48 = .ok (.aload_n 0, 1) := by decide +kernel
theorem d_M_move_49 : decode b_M_move 49 = .ok (.getfield 34, 3) := by decide +kernel
theorem d_M_move_52 : decode b_M_move 52 = .ok (.iload_n 1, 1) := by decide +kernel
theorem d_M_move_53 : decode b_M_move 53 = .ok (.iaload, 1) := by decide +kernel
theorem d_M_move_54 : decode b_M_move 54 = .ok (.i2l, 1) := by decide +kernel
theorem d_M_move_55 : decode b_M_move 55 = .ok (.iload_n 3, 1) := by decide +kernel
theorem d_M_move_56 : decode b_M_move 56 = .ok (.i2l, 1) := by decide +kernel
theorem d_M_move_57 : decode b_M_move 57 = .ok (.ladd, 1) := by decide +kernel
theorem d_M_move_58 : decode b_M_move 58 = .ok (.invokestatic 116, 3) := by decide +kernel
theorem d_M_move_61 : decode b_M_move 61 = .ok (.ifCond .eq 7, 3) := by decide +kernel
theorem d_M_move_64 : decode b_M_move 64 = .ok (.iconst 1, 1) := by decide +kernel
theorem d_M_move_65 : decode b_M_move 65 = .ok (.goto 4, 3) := by decide +kernel
theorem d_M_move_68 : decode b_M_move 68 = .ok (.iconst 0, 1) := by decide +kernel
theorem d_M_move_69 : decode b_M_move 69 = .ok (.istore 4, 2) := by decide +kernel
theorem d_M_move_71 : decode b_M_move 71 = .ok (.aload_n 0, 1) := by decide +kernel
theorem d_M_move_72 : decode b_M_move 72 = .ok (.iload 4, 2) := by decide +kernel
theorem d_M_move_74 : decode b_M_move 74 = .ok (.iconst 1, 1) := by decide +kernel
theorem d_M_move_75 : decode b_M_move 75 = .ok (.invokevirtual 98, 3) := by decide +kernel
theorem d_M_move_78 : decode b_M_move 78 = .ok (.ifCond .eq 15, 3) := by decide +kernel
theorem d_M_move_81 : decode b_M_move 81 = .ok (.aload_n 0, 1) := by decide +kernel
theorem d_M_move_82 : decode b_M_move 82 = .ok (.iconst 5, 1) := by decide +kernel
theorem d_M_move_83 : decode b_M_move 83 = .ok (.iload_n 1, 1) := by decide +kernel
theorem d_M_move_84 : decode b_M_move 84 = .ok (.iload_n 2, 1) := by decide +kernel
theorem d_M_move_85 : decode b_M_move 85 = .ok (.iload_n 3, 1) := by decide +kernel
theorem d_M_move_86 : decode b_M_move 86 = .ok (.iconst 0, 1) := by decide +kernel
theorem d_M_move_87 : decode b_M_move 87 = .ok (.iconst 0, 1) := by decide +kernel
theorem d_M_move_88 : decode b_M_move 88 = .ok (.iconst 0, 1) := by decide +kernel
theorem d_M_move_89 : decode b_M_move 89 = .ok (.invokevirtual 102, 3) := by decide +kernel
theorem d_M_move_92 : decode b_M_move 92 = .ok (.pop, 1) := by decide +kernel
theorem d_M_move_93 : decode b_M_move 93 = .ok (.return_, 1) := by decide +kernel
theorem d_M_retype_0 : decode b_M_retype 0 = .ok (.aload_n 0, 1) := by decide +kernel
theorem d_M_retype_1 : decode b_M_retype 1 = .ok (.aload_n 0, 1) := by decide +kernel
theorem d_M_retype_2 : decode b_M_retype 2 = .ok (.iload_n 1, 1) := by decide +kernel
theorem d_M_retype_3 : decode b_M_retype 3 = .ok (.invokevirtual 120, 3) := by decide +kernel
theorem d_M_retype_6 : decode b_M_retype 6 = .ok (.ifCond .eq 15, 3) := by decide +kernel
theorem d_M_retype_9 : decode b_M_retype 9 = .ok (.aload_n 0, 1) := by decide +kernel
theorem d_M_retype_10 : decode b_M_retype 10 = .ok (.iload_n 2, 1) := by decide +kernel
theorem d_M_retype_11 : decode b_M_retype 11 = .ok (.invokevirtual 113, 3) := by decide +kernel
theorem d_M_retype_14 : decode b_M_retype 14 = .ok (.ifCond .eq 7, 3) := by decide +kernel
theorem d_M_retype_17 : decode b_M_retype 17 = .ok (.iconst 1, 1) := by decide +kernel
theorem d_M_retype_18 : decode b_M_retype 18 = .ok (.goto 4, 3) := by decide +kernel
theorem d_M_retype_21 : decode b_M_retype 21 = .ok (.iconst 0, 1) := by decide +kernel
theorem d_M_retype_22 : decode b_M_retype 22 = .ok (.iconst 1, 1) := by decide +kernel
theorem d_M_retype_23 : decode b_M_retype 23 = .ok (.invokevirtual 98, 3) := by decide +kernel
theorem d_M_retype_26 : decode b_M_retype 26 = .ok (.ifCond .eq 16, 3) := by decide +kernel
theorem d_M_retype_29 : decode b_M_retype 29 = .ok (.aload_n 0, 1) := by decide +kernel
theorem d_M_retype_30 : decode b_M_retype 30 = .ok (.bipush 6, 2) := by decide +kernel
theorem d_M_retype_32 : decode b_M_retype 32 = .ok (.iload_n 1, 1) := by decide +kernel
theorem d_M_retype_33 : decode b_M_retype 33 = .ok (.iload_n 2, 1) := by decide +kernel
theorem d_M_retype_34 : decode b_M_retype 34 = .ok (.iconst 0, 1) := by decide +kernel
theorem d_M_retype_35 : decode b_M_retype 35 = .ok (.iconst 0, 1) := by decide +kernel
theorem d_M_retype_36 : decode b_M_retype 36 = .ok (.iconst 0, 1) := by decide +kernel
theorem d_M_retype_37 : decode b_M_retype 37 = .ok (.iconst 0, 1) := by decide +kernel
theorem d_M_retype_38 : decode b_M_retype 38 = .ok (.invokevirtual 102, 3) := by decide +kernel
theorem d_M_retype_41 : decode b_M_retype 41 = .ok (.pop, 1) := by decide +kernel
theorem d_M_retype_42 : decode b_M_retype 42 = .ok (.return_, 1) := by decide +kernel
theorem d_M_remove_0 : decode b_M_remove 0 = .ok (.aload_n 0, 1) := by decide +kernel
theorem d_M_remove_1 : decode b_M_remove 1 = .ok (.aload_n 0, 1) := by decide +kernel
theorem d_M_remove_2 : decode b_M_remove 2 = .ok (.iload_n 1, 1) := by decide +kernel
theorem d_M_remove_3 : decode b_M_remove 3 = .ok (.invokevirtual 120, 3) := by decide +kernel
theorem d_M_remove_6 : decode b_M_remove 6 = .ok (.iconst 1, 1) := by decide +kernel
theorem d_M_remove_7 : decode b_M_remove 7 = .ok (.invokevirtual 98, 3) := by decide +kernel
theorem d_M_remove_10 : decode b_M_remove 10 = .ok (.ifCond .eq 16, 3) := by decide +kernel
theorem d_M_remove_13 : decode b_M_remove 13 = .ok (.aload_n 0, 1) := by decide +kernel
theorem d_M_remove_14 : decode b_M_remove 14 = .ok (.bipush 7, 2) := by decide +kernel
theorem d_M_remove_16 : decode b_M_remove 16 = .ok (.iload_n 1, 1) := by decide +kernel
theorem d_M_remove_17 : decode b_M_remove 17 = .ok (.iconst 0, 1) := by decide +kernel
theorem d_M_remove_18 : decode b_M_remove 18 = .ok (.iconst 0, 1) := by decide +kernel
theorem d_M_remove_19 : decode b_M_remove 19 = .ok (.iconst 0, 1) := by decide +kernel
theorem d_M_remove_20 : decode b_M_remove 20 = .ok (.iconst 0, 1) := by decide +kernel
theorem d_M_remove_21 : decode b_M_remove 21 = .ok (.iconst 0, 1) := by decide +kernel
theorem d_M_remove_22 : decode b_M_remove 22 = .ok (.invokevirtual 102, 3) := by decide +kernel
theorem d_M_remove_25 : decode b_M_remove 25 = .ok (.pop, 1) := by decide +kernel
theorem d_M_remove_26 : decode b_M_remove 26 = .ok (.return_, 1) := by decide +kernel
theorem d_M_opening_0 : decode b_M_opening 0 = .ok (.aload_n 0, 1) := by decide +kernel
theorem d_M_opening_1 : decode b_M_opening 1 = .ok (.iload_n 1, 1) := by decide +kernel
theorem d_M_opening_2 : decode b_M_opening 2 = .ok (.invokevirtual 120, 3) := by decide +kernel
theorem d_M_opening_5 : decode b_M_opening 5 = .ok (.ifCond .eq 31, 3) := by decide +kernel
theorem d_M_opening_8 : decode b_M_opening 8 = .ok (.iload_n 2, 1) := by decide +kernel
theorem d_M_opening_9 : decode b_M_opening 9 = .ok (.ifCond .lt 27, 3) := by decide +kernel
theorem d_M_opening_12 : decode b_M_opening 12 = .ok (.iload_n 3, 1) := by decide +kernel
theorem d_M_opening_13 : decode b_M_opening 13 = .ok (.iconst 1, 1) := by decide +kernel
theorem d_M_opening_14 : decode b_M_opening 14 = .ok (.if_icmp .lt 22, 3) := by decide +kernel
theorem d_M_opening_17 : decode b_M_opening 17 = .ok (.iload_n 2, 1) := by decide +kernel
theorem d_M_opening_18 : decode b_M_opening 18 = .ok (.i2l, 1) := by decide +kernel
theorem d_M_opening_19 : decode b_M_opening 19 = .ok (.iload_n 3, 1) := by decide +kernel
theorem d_M_opening_20 : decode b_M_opening 20 = .ok (.i2l, 1) := by decide +kernel
theorem d_M_opening_21 : decode b_M_opening 21 = .ok (.ladd, 1) := by decide +kernel
theorem d_M_opening_22 : decode b_M_opening 22 = .ok (.aload_n 0, 1) := by decide +kernel
theorem d_M_opening_23 : decode b_M_opening 23 = .ok (.iload_n 1, 1) := by decide +kernel
theorem d_M_opening_24 : decode b_M_opening 24 = .ok (.invokevirtual 123, 3) := by decide +kernel
theorem d_M_opening_27 : decode b_M_opening 27 = .ok (.i2l, 1) := by decide +kernel
theorem d_M_opening_28 : decode b_M_opening 28 = .ok (.lcmp, 1) := by decide +kernel
theorem d_M_opening_29 : decode b_M_opening 29 = .ok (.ifCond .gt 7, 3) := by decide +kernel
theorem d_M_opening_32 : decode b_M_opening 32 = .ok (.iconst 1, 1) := by decide +kernel
theorem d_M_opening_33 : decode b_M_opening 33 = .ok (.goto 4, 3) := by decide +kernel
theorem d_M_opening_36 : decode b_M_opening 36 = .ok (.iconst 0, 1) := by decide +kernel
theorem d_M_opening_37 : decode b_M_opening 37 = .ok (.istore 4, 2) := by decide +kernel
theorem d_M_opening_39 : decode b_M_opening 39 = .ok (.aload_n 0, 1) := by decide +kernel
theorem d_M_opening_40 : decode b_M_opening 40 = .ok (.getfield 81, 3) := by decide +kernel
theorem d_M_opening_43 : decode b_M_opening 43 = .ok (.bipush 60, 2) := by decide +kernel
theorem d_M_opening_45 : decode b_M_opening 45 = .ok (.if_icmp .ge 7, 3) := by decide +kernel
theorem d_M_opening_48 : decode b_M_opening 48 = .ok (.iconst 1, 1) := by decide +kernel
theorem d_M_opening_49 : decode b_M_opening 49 = .ok (.goto 4, 3) := by decide +kernel
theorem d_M_opening_52 : decode b_M_opening 52 = .ok (.iconst 0, 1) := by decide +kernel
theorem d_M_opening_53 : decode b_M_opening 53 = .ok (.istore 5, 2) := by decide +kernel
theorem d_M_opening_55 : decode b_M_opening 55 = .ok (.iconst 0, 1) := by decide +kernel
theorem d_M_opening_56 : decode b_M_opening 56 = .ok (.istore 6, 2) := by decide +kernel
theorem d_M_opening_58 : decode b_M_opening 58 = .ok (.iload 6, 2) := by decide +kernel
theorem d_M_opening_60 : decode b_M_opening 60 = .ok (.aload_n 0, 1) := by decide +kernel
theorem d_M_opening_61 : decode b_M_opening 61 = .ok (.getfield 81, 3) := by decide +kernel
theorem d_M_opening_64 : decode b_M_opening 64 = .ok (.if_icmp .ge 69, 3) := by decide +kernel
theorem d_M_opening_67 : decode b_M_opening 67 = .ok (.iload 4, 2) := by decide +kernel
theorem d_M_opening_69 : decode b_M_opening 69 = .ok (.ifCond .eq 64, 3) := by decide +kernel
theorem d_M_opening_72 : decode b_M_opening 72 = .ok (.iload 5, 2) := by decide +kernel
theorem d_M_opening_74 : decode b_M_opening 74 = .ok (.ifCond .eq 50, 3) := by decide +kernel
theorem d_M_opening_77 : decode b_M_opening 77 = .ok (.aload_n 0, 1) := by decide +kernel
theorem d_M_opening_78 : decode b_M_opening 78 = .ok (.getfield 41, 3) := by decide +kernel
theorem d_M_opening_81 : decode b_M_opening 81 = .ok (.iload 6, 2) := by decide +kernel
theorem d_M_opening_83 : decode b_M_opening 83 = .ok (.iaload, 1) := by decide +kernel
theorem d_M_opening_84 : decode b_M_opening 84 = .ok (.iload_n 1, 1) := by decide +kernel
theorem d_M_opening_85 : decode b_M_opening 85 = .ok (.if_icmp .ne 35, 3) := by decide +kernel
theorem d_M_opening_88 : decode b_M_opening 88 = .ok (.aload_n 0, 1) := by decide +kernel
theorem d_M_opening_89 : decode b_M_opening 89 = .ok (.getfield 44, 3) := by decide +kernel
theorem d_M_opening_92 : decode b_M_opening 92 = .ok (.iload 6, 2) := by decide +kernel
theorem d_M_opening_94 : decode b_M_opening 94 = .ok (.iaload, 1) := by decide +kernel
theorem d_M_opening_95 : decode b_M_opening 95 = .ok (.aload_n 0, 1) := by decide +kernel
theorem d_M_opening_96 : decode b_M_opening 96 = .ok (.getfield 47, 3) := by decide +kernel
theorem d_M_opening_99 : decode b_M_opening 99 = .ok (.iload 6, 2) := by decide +kernel
theorem d_M_opening_101 : decode b_M_opening 101 = .ok (.iaload, 1) := by decide +kernel
theorem d_M_opening_102 : decode b_M_opening 102 = .ok (.iadd, 1) := by decide +kernel
theorem d_M_opening_103 : decode b_M_opening 103 = .ok (.iload_n 2, 1) := by decide +kernel
theorem d_M_opening_104 : decode b_M_opening 104 = .ok (.if_icmp .le 16, 3) := by decide +kernel
theorem d_M_opening_107 : decode b_M_opening 107 = .ok (.iload_n 2, 1) := by decide +kernel
theorem d_M_opening_108 : decode b_M_opening 108 = .ok (.iload_n 3, 1) := by decide +kernel
theorem d_M_opening_109 : decode b_M_opening 109 = .ok (.iadd, 1) := by decide +kernel
theorem d_M_opening_110 : decode b_M_opening 110 = .ok (.aload_n 0, 1) := by decide +kernel
theorem d_M_opening_111 : decode b_M_opening 111 = .ok (.getfield 44, 3) := by decide +kernel
theorem d_M_opening_114 : decode b_M_opening 114 = .ok (.iload 6, 2) := by decide +kernel
theorem d_M_opening_116 : decode b_M_opening 116 = .ok (.iaload, 1) := by decide +kernel
theorem d_M_opening_117 : decode b_M_opening 117 = .ok (.if_icmp .gt 7, 3) := by decide +kernel
theorem d_M_opening_120 : decode b_M_opening 120 = .ok (.iconst 1, 1) := by decide +kernel
theorem d_M_opening_121 : decode b_M_opening 121 = .ok (.goto 4, 3) := by decide +kernel
theorem d_M_opening_124 : decode b_M_opening 124 = .ok (.iconst 0, 1) := by decide +kernel
theorem d_M_opening_125 : decode b_M_opening 125 = .ok (.istore 5, 2) := by decide +kernel
theorem d_M_opening_127 : decode b_M_opening 127 = .ok (.iinc 6 1, 3) := by decide +kernel
theorem d_M_opening_130 : decode b_M_opening 130 = .ok (.goto (-72), 3) := by decide +kernel
theorem d_M_opening_133 : decode b_M_opening 133 = .ok (.aload_n 0, 1) := by decide +kernel
theorem d_M_opening_134 : decode b_M_opening 134 = .ok (.iload 4, 2) := by decide +kernel
theorem d_M_opening_136 : decode b_M_opening 136 = .ok (.iload 5, 2) := by decide +kernel
theorem d_M_opening_138 : decode b_M_opening 138 = .ok (.invokevirtual 98, 3) := by decide +kernel
theorem d_M_opening_141 : decode b_M_opening 141 = .ok (.ifCond .eq 18, 3) := by decide +kernel
theorem d_M_opening_144 : decode b_M_opening 144 = .ok (.aload_n 0, 1) := by decide +kernel
theorem d_M_opening_145 : decode b_M_opening 145 = .ok (.bipush 8, 2) := by decide +kernel
theorem d_M_opening_147 : decode b_M_opening 147 = .ok (.iload_n 1, 1) := by decide +kernel
theorem d_M_opening_148 : decode b_M_opening 148 = .ok (.iload_n 2, 1) := by decide +kernel
theorem d_M_opening_149 : decode b_M_opening 149 = .ok (.iload_n 3, 1) := by decide +kernel
theorem d_M_opening_150 : decode b_M_opening 150 = .ok (.iconst 0, 1) := by decide +kernel
theorem d_M_opening_151 : decode b_M_opening 151 = .ok (.iconst 0, 1) := by decide +kernel
theorem d_M_opening_152 : decode b_M_opening 152 = .ok (.iconst 0, 1) := by decide +kernel
theorem d_M_opening_153 : decode b_M_opening 153 = .ok (.invokevirtual 102, 3) := by decide +kernel
theorem d_M_opening_156 : decode b_M_opening 156 = .ok (.goto 4, 3) := by decide +kernel
theorem d_M_opening_159 : decode b_M_opening 159 = .ok (.iconst 0, 1) := by decide +kernel
theorem d_M_opening_160 : decode b_M_opening 160 = .ok (.ireturn, 1) := by decide +kernel
theorem d_M_copy_0 : decode b_M_copy 0 = .ok (.aload_n 0, 1) := by decide +kernel
theorem d_M_copy_1 : decode b_M_copy 1 = .ok (.iload_n 1, 1) := by decide +kernel
theorem d_M_copy_2 : decode b_M_copy 2 = .ok (.invokevirtual 106, 3) := by decide +kernel
theorem d_M_copy_5 : decode b_M_copy 5 = .ok (.ifCond .eq 20, 3) := by decide +kernel
theorem d_M_copy_8 : decode b_M_copy 8 = .ok (.aload_n 0, 1) := by decide +kernel
theorem d_M_copy_9 : decode b_M_copy 9 = .ok (.iload_n 2, 1) := by decide +kernel
theorem d_M_copy_10 : decode b_M_copy 10 = .ok (.invokevirtual 106, 3) := by decide +kernel
theorem d_M_copy_13 : decode b_M_copy 13 = .ok (.ifCond .eq 12, 3) := by decide +kernel
theorem d_M_copy_16 : decode b_M_copy 16 = .ok (.iload_n 1, 1) := by decide +kernel
theorem d_M_copy_17 : decode b_M_copy 17 = .ok (.iload_n 2, 1) := by decide +kernel
theorem d_M_copy_18 : decode b_M_copy 18 = .ok (.if_icmp .eq 7, 3) := by decide +kernel
theorem d_M_copy_21 : decode b_M_copy 21 = .ok (.iconst 1, 1) := by decide +kernel
theorem d_M_copy_22 : decode b_M_copy 22 = .ok (.goto 4, 3) := by decide +kernel
theorem d_M_copy_25 : decode b_M_copy 25 = .ok (.iconst 0, 1) := by decide +kernel
theorem d_M_copy_26 : decode b_M_copy 26 = .ok (.istore_n 3, 1) := by decide +kernel
theorem d_M_copy_27 : decode b_M_copy 27 = .ok (.iconst 0, 1) := by decide +kernel
theorem d_M_copy_28 : decode b_M_copy 28 = .ok (.istore 4, 2) := by decide +kernel
theorem d_M_copy_30 : decode b_M_copy 30 = .ok (.iconst 0, 1) := by decide +kernel
theorem d_M_copy_31 : decode b_M_copy 31 = .ok (.istore 5, 2) := by decide +kernel
theorem d_M_copy_33 : decode b_M_copy 33 = .ok (.iconst 0, 1) := by decide +kernel
theorem d_M_copy_34 : decode b_M_copy 34 = .ok (.istore 6, 2) := by decide +kernel
theorem d_M_copy_36 : decode b_M_copy 36 = .ok (.iload 6, 2) := by decide +kernel
theorem d_M_copy_38 : decode b_M_copy 38 = .ok (.aload_n 0, 1) := by decide +kernel
theorem d_M_copy_39 : decode b_M_copy 39 = .ok (.getfield 60, 3) := by decide +kernel
theorem d_M_copy_42 : decode b_M_copy 42 = .ok (.if_icmp .ge 48, 3) := by decide +kernel
theorem d_M_copy_45 : decode b_M_copy 45 = .ok (.iload_n 3, 1) := by decide +kernel
theorem d_M_copy_46 : decode b_M_copy 46 = .ok (.ifCond .eq 38, 3) := by decide +kernel
theorem d_M_copy_49 : decode b_M_copy 49 = .ok (.aload_n 0, 1) := by decide +kernel
theorem d_M_copy_50 : decode b_M_copy 50 = .ok (.getfield 37, 3) := by decide +kernel
theorem d_M_copy_53 : decode b_M_copy 53 = .ok (.iload 6, 2) := by decide +kernel
theorem d_M_copy_55 : decode b_M_copy 55 = .ok (.baload, 1) := by decide +kernel
theorem d_M_copy_56 : decode b_M_copy 56 = .ok (.ifCond .eq 28, 3) := by decide +kernel
theorem d_M_copy_59 : decode b_M_copy 59 = .ok (.aload_n 0, 1) := by decide +kernel
theorem d_M_copy_60 : decode b_M_copy 60 = .ok (.getfield 19, 3) := by decide +kernel
theorem d_M_copy_63 : decode b_M_copy 63 = .ok (.iload 6, 2) := by decide +kernel
theorem d_M_copy_65 : decode b_M_copy 65 = .ok (.iaload, 1) := by decide +kernel
theorem d_M_copy_66 : decode b_M_copy 66 = .ok (.iload_n 1, 1) := by decide +kernel
theorem d_M_copy_67 : decode b_M_copy 67 = .ok (.if_icmp .ne 17, 3) := by decide +kernel
theorem d_M_copy_70 : decode b_M_copy 70 = .ok (.iinc 4 1, 3) := by decide +kernel
theorem d_M_copy_73 : decode b_M_copy 73 = .ok (.iload 5, 2) := by decide +kernel
theorem d_M_copy_75 : decode b_M_copy 75 = .ok (.aload_n 0, 1) := by decide +kernel
theorem d_M_copy_76 : decode b_M_copy 76 = .ok (.iload 6, 2) := by decide +kernel
theorem d_M_copy_78 : decode b_M_copy 78 = .ok (.invokevirtual 126, 3) := by decide +kernel
theorem d_M_copy_81 : decode b_M_copy 81 = .ok (.iadd, 1) := by decide +kernel
theorem d_M_copy_82 : decode b_M_copy 82 = .ok (.istore 5, 2) := by decide +kernel
theorem d_M_copy_84 : decode b_M_copy 84 = .ok (.iinc 6 1, 3) := by decide +kernel
theorem d_M_copy_87 : decode b_M_copy 87 = .ok (.goto (-51), 3) := by decide +kernel
theorem d_M_copy_90 : decode b_M_copy 90 = .ok (.aload_n 0, 1) := by decide +kernel
theorem d_M_copy_91 : decode b_M_copy 91 = .ok (.iload_n 3, 1) := by decide +kernel
theorem d_M_copy_92 : decode b_M_copy 92 = .ok (.aload_n 0, 1) := by decide +kernel
theorem d_M_copy_93 : decode b_M_copy 93 = .ok (.getfield 60, 3) := by decide +kernel
theorem d_M_copy_96 : decode b_M_copy 96 = .ok (.iload 4, 2) := by decide +kernel
theorem d_M_copy_98 : decode b_M_copy 98 = .ok (.iadd, 1) := by decide +kernel
theorem d_M_copy_99 : decode b_M_copy 99 = .ok (.bipush 40, 2) := by decide +kernel
theorem d_M_copy_101 : decode b_M_copy 101 = .ok (.if_icmp .gt 19, 3) := by decide +kernel
theorem d_M_copy_104 : decode b_M_copy 104 = .ok (.aload_n 0, 1) := by decide +kernel
theorem d_M_copy_105 : decode b_M_copy 105 = .ok (.getfield 81, 3) := by decide +kernel
theorem d_M_copy_108 : decode b_M_copy 108 = .ok (.iload 5, 2) := by decide +kernel
theorem d_M_copy_110 : decode b_M_copy 110 = .ok (.iadd, 1) := by decide +kernel
theorem d_M_copy_111 : decode b_M_copy 111 = .ok (.bipush 60, 2) := by decide +kernel
theorem d_M_copy_113 : decode b_M_copy 113 = .ok (.if_icmp .gt 7, 3) := by decide +kernel
theorem d_M_copy_116 : decode b_M_copy 116 = .ok (.iconst 1, 1) := by decide +kernel
theorem d_M_copy_117 : decode b_M_copy 117 = .ok (.goto 4, 3) := by decide +kernel
theorem d_M_copy_120 : decode b_M_copy 120 = .ok (.iconst 0, 1) := by decide +kernel
theorem d_M_copy_121 : decode b_M_copy 121 = .ok (.invokevirtual 98, 3) := by decide +kernel
theorem d_M_copy_124 : decode b_M_copy 124 = .ok (.ifCond .eq 18, 3) := by decide +kernel
theorem d_M_copy_127 : decode b_M_copy 127 = .ok (.aload_n 0, 1) := by decide +kernel
theorem d_M_copy_128 : decode b_M_copy 128 = .ok (.bipush 9, 2) := by decide +kernel
theorem d_M_copy_130 : decode b_M_copy 130 = .ok (.iload_n 1, 1) := by decide +kernel
theorem d_M_copy_131 : decode b_M_copy 131 = .ok (.iload_n 2, 1) := by decide +kernel
theorem d_M_copy_132 : decode b_M_copy 132 = .ok (.iconst 0, 1) := by decide +kernel
theorem d_M_copy_133 : decode b_M_copy 133 = .ok (.iconst 0, 1) := by decide +kernel
theorem d_M_copy_134 : decode b_M_copy 134 = .ok (.iconst 0, 1) := by decide +kernel
theorem d_M_copy_135 : decode b_M_copy 135 = .ok (.iconst 0, 1) := by decide +kernel
theorem d_M_copy_136 : decode b_M_copy 136 = .ok (.invokevirtual 102, 3) := by decide +kernel
theorem d_M_copy_139 : decode b_M_copy 139 = .ok (.goto 4, 3) := by decide +kernel
theorem d_M_copy_142 : decode b_M_copy 142 = .ok (.iconst 0, 1) := by decide +kernel
theorem d_M_copy_143 : decode b_M_copy 143 = .ok (.ireturn, 1) := by decide +kernel
theorem d_M_undo_0 : decode b_M_undo 0 = .ok (.aload_n 0, 1) := by decide +kernel
theorem d_M_undo_1 : decode b_M_undo 1 = .ok (.iconst 0, 1) := by decide +kernel
theorem d_M_undo_2 : decode b_M_undo 2 = .ok (.putfield 50, 3) := by decide +kernel
theorem d_M_undo_5 : decode b_M_undo 5 = .ok (.aload_n 0, 1) := by decide +kernel
theorem d_M_undo_6 : decode b_M_undo 6 = .ok (.getfield 71, 3) := by decide +kernel
theorem d_M_undo_9 : decode b_M_undo 9 = .ok (.ifCond .ne 5, 3) := by decide +kernel
theorem d_M_undo_12 : decode b_M_undo 12 = .ok (.iconst 0, 1) := by decide +kernel
theorem d_M_undo_13 : decode b_M_undo 13 = .ok (.ireturn, 1) := by decide +kernel
theorem d_M_undo_14 : decode b_M_undo 14 = .ok (.aload_n 0, 1) := by decide +kernel
theorem d_M_undo_15 : decode b_M_undo 15 = .ok (.dup, 1) := by decide +kernel
theorem d_M_undo_16 : decode b_M_undo 16 = .ok (.getfield 71, 3) := by decide +kernel
theorem d_M_undo_19 : decode b_M_undo 19 = .ok (.iconst 1, 1) := by decide +kernel
theorem d_M_undo_20 : decode b_M_undo 20 = .ok (.isub, 1) := by decide +kernel
theorem d_M_undo_21 : decode b_M_undo 21 = .ok (.putfield 71, 3) := by decide +kernel
theorem d_M_undo_24 : decode b_M_undo 24 = .ok (.aload_n 0, 1) := by decide +kernel
theorem d_M_undo_25 : decode b_M_undo 25 = .ok (.dup, 1) := by decide +kernel
theorem d_M_undo_26 : decode b_M_undo 26 = .ok (.getfield 74, 3) := by decide +kernel
theorem d_M_undo_29 : decode b_M_undo 29 = .ok (.iconst 1, 1) := by decide +kernel
theorem d_M_undo_30 : decode b_M_undo 30 = .ok (.iadd, 1) := by decide +kernel
theorem d_M_undo_31 : decode b_M_undo 31 = .ok (.putfield 74, 3) := by decide +kernel
theorem d_M_undo_34 : decode b_M_undo 34 = .ok (.aload_n 0, 1) := by decide +kernel
theorem d_M_undo_35 : decode b_M_undo 35 = .ok (.iconst 0, 1) := by decide +kernel
theorem d_M_undo_36 : decode b_M_undo 36 = .ok (.putfield 54, 3) := by decide +kernel
theorem d_M_undo_39 : decode b_M_undo 39 = .ok (.aload_n 0, 1) := by decide +kernel
theorem d_M_undo_40 : decode b_M_undo 40 = .ok (.iconst 0, 1) := by decide +kernel
theorem d_M_undo_41 : decode b_M_undo 41 = .ok (.putfield 57, 3) := by decide +kernel
theorem d_M_undo_44 : decode b_M_undo 44 = .ok (.aload_n 0, 1) := by decide +kernel
theorem d_M_undo_45 : decode b_M_undo 45 = .ok (.iconst 0, 1) := by decide +kernel
theorem d_M_undo_46 : decode b_M_undo 46 = .ok (.putfield 60, 3) := by decide +kernel
theorem d_M_undo_49 : decode b_M_undo 49 = .ok (.aload_n 0, 1) := by decide +kernel
theorem d_M_undo_50 : decode b_M_undo 50 = .ok (.iconst 0, 1) := by decide +kernel
theorem d_M_undo_51 : decode b_M_undo 51 = .ok (.putfield 81, 3) := by decide +kernel
theorem d_M_undo_54 : decode b_M_undo 54 = .ok (.iconst 0, 1) := by decide +kernel
theorem d_M_undo_55 : decode b_M_undo 55 = .ok (.istore_n 1, 1) := by decide +kernel
theorem d_M_undo_56 : decode b_M_undo 56 = .ok (.iload_n 1, 1) := by decide +kernel
theorem d_M_undo_57 : decode b_M_undo 57 = .ok (.aload_n 0, 1) := by decide +kernel
theorem d_M_undo_58 : decode b_M_undo 58 = .ok (.getfield 71, 3) := by decide +kernel
theorem d_M_undo_61 : decode b_M_undo 61 = .ok (.if_icmp .ge 15, 3) := by decide +kernel
theorem d_M_undo_64 : decode b_M_undo 64 = .ok (.aload_n 0, 1) := by decide +kernel
theorem d_M_undo_65 : decode b_M_undo 65 = .ok (.iload_n 1, 1) := by decide +kernel
theorem d_M_undo_66 : decode b_M_undo 66 = .ok (.invokevirtual 77, 3) := by decide +kernel
theorem d_M_undo_69 : decode b_M_undo 69 = .ok (.pop, 1) := by decide +kernel
theorem d_M_undo_70 : decode b_M_undo 70 = .ok (.iinc 1 1, 3) := by decide +kernel
theorem d_M_undo_73 : decode b_M_undo 73 = .ok (.goto (-17), 3) := by decide +kernel
theorem d_M_undo_76 : decode b_M_undo 76 = .ok (.iconst 1, 1) := by decide +kernel
theorem d_M_undo_77 : decode b_M_undo 77 = .ok (.ireturn, 1) := by decide +kernel
theorem d_M_redo_0 : decode b_M_redo 0 = .ok (.aload_n 0, 1) := by decide +kernel
theorem d_M_redo_1 : decode b_M_redo 1 = .ok (.iconst 0, 1) := by decide +kernel
theorem d_M_redo_2 : decode b_M_redo 2 = .ok (.putfield 50, 3) := by decide +kernel
theorem d_M_redo_5 : decode b_M_redo 5 = .ok (.aload_n 0, 1) := by decide +kernel
theorem d_M_redo_6 : decode b_M_redo 6 = .ok (.getfield 74, 3) := by decide +kernel
theorem d_M_redo_9 : decode b_M_redo 9 = .ok (.ifCond .ne 5, 3) := by decide +kernel
theorem d_M_redo_12 : decode b_M_redo 12 = .ok (.iconst 0, 1) := by decide +kernel
theorem d_M_redo_13 : decode b_M_redo 13 = .ok (.ireturn, 1) := by decide +kernel
theorem d_M_redo_14 : decode b_M_redo 14 = .ok (.aload_n 0, 1) := by decide +kernel
theorem d_M_redo_15 : decode b_M_redo 15 = .ok (.aload_n 0, 1) := by decide +kernel
theorem d_M_redo_16 : decode b_M_redo 16 = .ok (.getfield 71, 3) := by decide +kernel
theorem d_M_redo_19 : decode b_M_redo 19 = .ok (.invokevirtual 77, 3) := by decide +kernel
theorem d_M_redo_22 : decode b_M_redo 22 = .ok (.pop, 1) := by decide +kernel
theorem d_M_redo_23 : decode b_M_redo 23 = .ok (.aload_n 0, 1) := by decide +kernel
theorem d_M_redo_24 : decode b_M_redo 24 = .ok (.dup, 1) := by decide +kernel
theorem d_M_redo_25 : decode b_M_redo 25 = .ok (.getfield 71, 3) := by decide +kernel
theorem d_M_redo_28 : decode b_M_redo 28 = .ok (.iconst 1, 1) := by decide +kernel
theorem d_M_redo_29 : decode b_M_redo 29 = .ok (.iadd, 1) := by decide +kernel
theorem d_M_redo_30 : decode b_M_redo 30 = .ok (.putfield 71, 3) := by decide +kernel
theorem d_M_redo_33 : decode b_M_redo 33 = .ok (.aload_n 0, 1) := by decide +kernel
theorem d_M_redo_34 : decode b_M_redo 34 = .ok (.dup, 1) := by decide +kernel
theorem d_M_redo_35 : decode b_M_redo 35 = .ok (.getfield 74, 3) := by decide +kernel
theorem d_M_redo_38 : decode b_M_redo 38 = .ok (.iconst 1, 1) := by decide +kernel
theorem d_M_redo_39 : decode b_M_redo 39 = .ok (.isub, 1) := by decide +kernel
theorem d_M_redo_40 : decode b_M_redo 40 = .ok (.putfield 74, 3) := by decide +kernel
theorem d_M_redo_43 : decode b_M_redo 43 = .ok (.iconst 1, 1) := by decide +kernel
theorem d_M_redo_44 : decode b_M_redo 44 = .ok (.ireturn, 1) := by decide +kernel
theorem d_M_acts_0 : decode b_M_acts 0 = .ok (.aload_n 0, 1) := by decide +kernel
theorem d_M_acts_1 : decode b_M_acts 1 = .ok (.iload_n 1, 1) := by decide +kernel
theorem d_M_acts_2 : decode b_M_acts 2 = .ok (.ifCond .eq 8, 3) := by decide +kernel
theorem d_M_acts_5 : decode b_M_acts 5 = .ok (.iload_n 1, 1) := by decide +kernel
theorem d_M_acts_6 : decode b_M_acts 6 = .ok (.iconst 1, 1) := by decide +kernel
theorem d_M_acts_7 : decode b_M_acts 7 = .ok (.if_icmp .ne 7, 3) := by decide +kernel
theorem d_M_acts_10 : decode b_M_acts 10 = .ok (.iconst 0, 1) := by decide +kernel
theorem d_M_acts_11 : decode b_M_acts 11 = .ok (.goto 4, 3) := by decide +kernel
theorem d_M_acts_14 : decode b_M_acts 14 = .ok (.iconst 1, 1) := by decide +kernel
theorem d_M_acts_15 : decode b_M_acts 15 = .ok (.putfield 50, 3) := by decide +kernel
theorem d_M_acts_18 : decode b_M_acts 18 = .ok (.aload_n 0, 1) := by decide +kernel
theorem d_M_acts_19 : decode b_M_acts 19 = .ok (.getfield 50, 3) := by decide +kernel
theorem d_M_acts_22 : decode b_M_acts 22 = .ok (.ifCond .le 7, 3) := by decide +kernel
theorem d_M_acts_25 : decode b_M_acts 25 = .ok (.iconst 0, 1) := by decide +kernel
theorem d_M_acts_26 : decode b_M_acts 26 = .ok (.goto 18, 3) := by decide +kernel
theorem d_M_acts_29 : decode b_M_acts 29 = .ok (.iload_n 1, 1) := by decide +kernel
theorem d_M_acts_30 : decode b_M_acts 30 = .ok (.ifCond .ne 10, 3) := by decide +kernel
theorem d_M_acts_33 : decode b_M_acts 33 = .ok (.aload_n 0, 1) := by decide +kernel
theorem d_M_acts_34 : decode b_M_acts 34 = .ok (.getfield 71, 3) := by decide +kernel
theorem d_M_acts_37 : decode b_M_acts 37 = .ok (.goto 7, 3) := by decide +kernel
theorem d_M_acts_40 : decode b_M_acts 40 = .ok (.aload_n 0, 1) := by decide +kernel
theorem d_M_acts_41 : decode b_M_acts 41 = .ok (.getfield 74, 3) := by decide +kernel
theorem d_M_acts_44 : decode b_M_acts 44 = .ok (.ireturn, 1) := by decide +kernel
theorem d_M_size_0 : decode b_M_size 0 = .ok (.iload_n 0, 1) := by decide +kernel
theorem d_M_size_1 : decode b_M_size 1 = .ok (.ifCond .ge 8, 3) := by decide +kernel
theorem d_M_size_4 : decode b_M_size 4 = .ok (.iload_n 0, 1) := by decide +kernel
theorem d_M_size_5 : decode b_M_size 5 = .ok (.ineg, 1) := by decide +kernel
theorem d_M_size_6 : decode b_M_size 6 = .ok (.goto 4, 3) := by decide +kernel
theorem d_M_size_9 : decode b_M_size 9 = .ok (.iload_n 0, 1) := by decide +kernel
theorem d_M_size_10 : decode b_M_size 10 = .ok (.ireturn, 1) := by decide +kernel
theorem d_M_length_0 : decode b_M_length 0 = .ok (.aload_n 0, 1) := by decide +kernel
theorem d_M_length_1 : decode b_M_length 1 = .ok (.getfield 31, 3) := by decide +kernel
theorem d_M_length_4 : decode b_M_length 4 = .ok (.iload_n 1, 1) := by decide +kernel
end
section
theorem d_M_length_5 : decode b_M_length 5 = .ok (.iaload, 1) := by decide +kernel
theorem d_M_length_6 : decode b_M_length 6 = .ok (.aload_n 0, 1) := by decide +kernel
theorem d_M_length_7 : decode b_M_length 7 = .ok (.getfield 25, 3) := by decide +kernel
theorem d_M_length_10 : decode b_M_length 10 = .ok (.iload_n 1, 1) := by decide +kernel
theorem d_M_length_11 : decode b_M_length 11 = .ok (.iaload, 1) := by decide +kernel
theorem d_M_length_12 : decode b_M_length 12 = .ok (.isub, 1) := by decide +kernel
theorem d_M_length_13 : decode b_M_length 13 = .ok (.invokestatic 129, 3) := by decide +kernel
theorem d_M_length_16 : decode b_M_length 16 = .ok (.aload_n 0, 1) := by decide +kernel
theorem d_M_length_17 : decode b_M_length 17 = .ok (.getfield 34, 3) := by decide +kernel
theorem d_M_length_20 : decode b_M_length 20 = .ok (.iload_n 1, 1) := by decide +kernel
theorem d_M_length_21 : decode b_M_length 21 = .ok (.iaload, 1) := by decide +kernel
theorem d_M_length_22 : decode b_M_length 22 = .ok (.aload_n 0, 1) := by decide +kernel
theorem d_M_length_23 : decode b_M_length 23 = .ok (.getfield 28, 3) := by decide +kernel
theorem d_M_length_26 : decode b_M_length 26 = .ok (.iload_n 1, 1) := by decide +kernel
theorem d_M_length_27 : decode b_M_length 27 = .ok (.iaload, 1) := by decide +kernel
theorem d_M_length_28 : decode b_M_length 28 = .ok (.isub, 1) := by decide +kernel
theorem d_M_length_29 : decode b_M_length 29 = .ok (.invokestatic 129, 3) := by decide +kernel
theorem d_M_length_32 : decode b_M_length 32 = .ok (.iadd, 1) := by decide +kernel
theorem d_M_length_33 : decode b_M_length 33 = .ok (.ireturn, 1) := by decide +kernel
theorem d_M_isAcross_0 : decode b_M_isAcross 0 = .ok (.aload_n 0, 1) := by decide +kernel
theorem d_M_isAcross_1 : decode b_M_isAcross 1 = .ok (.getfield 28, 3) := by decide +kernel
theorem d_M_isAcross_4 : decode b_M_isAcross 4 = .ok (.iload_n 1, 1) := by decide +kernel
theorem d_M_isAcross_5 : decode b_M_isAcross 5 = .ok (.iaload, 1) := by decide +kernel
theorem d_M_isAcross_6 : decode b_M_isAcross 6 = .ok (.aload_n 0, 1) := by decide +kernel
theorem d_M_isAcross_7 : decode b_M_isAcross 7 = .ok (.getfield 34, 3) := by decide +kernel
theorem d_M_isAcross_10 : decode b_M_isAcross 10 = .ok (.iload_n 1, 1) := by decide +kernel
theorem d_M_isAcross_11 : decode b_M_isAcross 11 = .ok (.iaload, 1) := by decide +kernel
theorem d_M_isAcross_12 : decode b_M_isAcross 12 = .ok (.if_icmp .ne 7, 3) := by decide +kernel
theorem d_M_isAcross_15 : decode b_M_isAcross 15 = .ok (.iconst 1, 1) := by decide +kernel
theorem d_M_isAcross_16 : decode b_M_isAcross 16 = .ok (.goto 4, 3) := by decide +kernel
theorem d_M_isAcross_19 : decode b_M_isAcross 19 = .ok (.iconst 0, 1) := by decide +kernel
theorem d_M_isAcross_20 : decode b_M_isAcross 20 = .ok (.ireturn, 1) := by decide +kernel
theorem d_M_joined_0 : decode b_M_joined 0 = .ok (.iconst 0, 1) := by decide +kernel
theorem d_M_joined_1 : decode b_M_joined 1 = .ok (.istore 4, 2) := by decide +kernel
theorem d_M_joined_3 : decode b_M_joined 3 = .ok (.iload 4, 2) := by decide +kernel
theorem d_M_joined_5 : decode b_M_joined 5 = .ok (.aload_n 0, 1) := by decide +kernel
theorem d_M_joined_6 : decode b_M_joined 6 = .ok (.getfield 60, 3) := by decide +kernel
theorem d_M_joined_9 : decode b_M_joined 9 = .ok (.if_icmp .ge 136, 3) := by decide +kernel
theorem d_M_joined_12 : decode b_M_joined 12 = .ok (.aload_n 0, 1) := by decide +kernel
theorem d_M_joined_13 : decode b_M_joined 13 = .ok (.getfield 25, 3) := by decide +kernel
theorem d_M_joined_16 : decode b_M_joined 16 = .ok (.iload 4, 2) := by decide +kernel
theorem d_M_joined_18 : decode b_M_joined 18 = .ok (.iaload, 1) := by decide +kernel
theorem d_M_joined_19 : decode b_M_joined 19 = .ok (.iload_n 2, 1) := by decide +kernel
theorem d_M_joined_20 : decode b_M_joined 20 = .ok (.if_icmp .ne 14, 3) := by decide +kernel
theorem d_M_joined_23 : decode b_M_joined 23 = .ok (.aload_n 0, 1) := by decide +kernel
theorem d_M_joined_24 : decode b_M_joined 24 = .ok (.getfield 28, 3) := by decide +kernel
theorem d_M_joined_27 : decode b_M_joined 27 = .ok (.iload 4, 2) := by decide +kernel
theorem d_M_joined_29 : decode b_M_joined 29 = .ok (.iaload, 1) := by decide +kernel
theorem d_M_joined_30 : decode b_M_joined 30 = .ok (.iload_n 3, 1) := by decide +kernel
theorem d_M_joined_31 : decode b_M_joined 31 = .ok (.if_icmp .eq 25, 3) := by decide +kernel
theorem d_M_joined_34 : decode b_M_joined 34 = .ok (.aload_n 0, 1) := by decide +kernel
theorem d_M_joined_35 : decode b_M_joined 35 = .ok (.getfield 31, 3) := by decide +kernel
theorem d_M_joined_38 : decode b_M_joined 38 = .ok (.iload 4, 2) := by decide +kernel
theorem d_M_joined_40 : decode b_M_joined 40 = .ok (.iaload, 1) := by decide +kernel
theorem d_M_joined_41 : decode b_M_joined 41 = .ok (.iload_n 2, 1) := by decide +kernel
theorem d_M_joined_42 : decode b_M_joined 42 = .ok (.if_icmp .ne 18, 3) := by decide +kernel
theorem d_M_joined_45 : decode b_M_joined 45 = .ok (.aload_n 0, 1) := by decide +kernel
theorem d_M_joined_46 : decode b_M_joined 46 = .ok (.getfield 34, 3) := by decide +kernel
theorem d_M_joined_49 : decode b_M_joined 49 = .ok (.iload 4, 2) := by decide +kernel
theorem d_M_joined_51 : decode b_M_joined 51 = .ok (.iaload, 1) := by decide +kernel
theorem d_M_joined_52 : decode b_M_joined 52 = .ok (.iload_n 3, 1) := by decide +kernel
theorem d_M_joined_53 : decode b_M_joined 53 = .ok (.if_icmp .ne 7, 3) := by decide +kernel
theorem d_M_joined_56 : decode b_M_joined 56 = .ok (.iconst 1, 1) := by decide +kernel
theorem d_M_joined_57 : decode b_M_joined 57 = .ok (.goto 4, 3) := by decide +kernel
theorem d_M_joined_60 : decode b_M_joined 60 = .ok (.iconst 0, 1) := by decide +kernel
theorem d_M_joined_61 : decode b_M_joined 61 = .ok (.istore 5, 2) := by decide +kernel
theorem d_M_joined_63 : decode b_M_joined 63 = .ok (.aload_n 0, 1) := by decide +kernel
theorem d_M_joined_64 : decode b_M_joined 64 = .ok (.getfield 37, 3) := by decide +kernel
theorem d_M_joined_67 : decode b_M_joined 67 = .ok (.iload 4, 2) := by decide +kernel
theorem d_M_joined_69 : decode b_M_joined 69 = .ok (.baload, 1) := by decide +kernel
theorem d_M_joined_70 : decode b_M_joined 70 = .ok (.ifCond .eq 69, 3) := by decide +kernel
theorem d_M_joined_73 : decode b_M_joined 73 = .ok (.aload_n 0, 1) := by decide +kernel
theorem d_M_joined_74 : decode b_M_joined 74 = .ok (.getfield 19, 3) := by decide +kernel
theorem d_M_joined_77 : decode b_M_joined 77 = .ok (.iload 4, 2) := by decide +kernel
theorem d_M_joined_79 : decode b_M_joined 79 = .ok (.iaload, 1) := by decide +kernel
theorem d_M_joined_80 : decode b_M_joined 80 = .ok (.aload_n 0, 1) := by decide +kernel
theorem d_M_joined_81 : decode b_M_joined 81 = .ok (.getfield 19, 3) := by decide +kernel
theorem d_M_joined_84 : decode b_M_joined 84 = .ok (.iload_n 1, 1) := by decide +kernel
theorem d_M_joined_85 : decode b_M_joined 85 = .ok (.iaload, 1) := by decide +kernel
theorem d_M_joined_86 : decode b_M_joined 86 = .ok (.if_icmp .ne 53, 3) := by decide +kernel
theorem d_M_joined_89 : decode b_M_joined 89 = .ok (.aload_n 0, 1) := by decide +kernel
theorem d_M_joined_90 : decode b_M_joined 90 = .ok (.iload 4, 2) := by decide +kernel
theorem d_M_joined_92 : decode b_M_joined 92 = .ok (.invokevirtual 132, 3) := by decide +kernel
theorem d_M_joined_95 : decode b_M_joined 95 = .ok (.aload_n 0, 1) := by decide +kernel
theorem d_M_joined_96 : decode b_M_joined 96 = .ok (.iload_n 1, 1) := by decide +kernel
theorem d_M_joined_97 : decode b_M_joined 97 = .ok (.invokevirtual 132, 3) := by decide +kernel
theorem d_M_joined_100 : decode b_M_joined 100 = .ok (.if_icmp .eq 39, 3) := by decide +kernel
theorem d_M_joined_103 : decode b_M_joined 103 = .ok (.iload 5, 2) := by decide +kernel
theorem d_M_joined_105 : decode b_M_joined 105 = .ok (.ifCond .eq 34, 3) := by decide +kernel
theorem d_M_joined_108 : decode b_M_joined 108 = .ok (.aload_n 0, 1) := by decide +kernel
theorem d_M_joined_109 : decode b_M_joined 109 = .ok (.getfield 16, 3) := by decide +kernel
theorem d_M_joined_112 : decode b_M_joined 112 = .ok (.aload_n 0, 1) := by decide +kernel
theorem d_M_joined_113 : decode b_M_joined 113 = .ok (.getfield 22, 3) := by decide +kernel
theorem d_M_joined_116 : decode b_M_joined 116 = .ok (.iload 4, 2) := by decide +kernel
theorem d_M_joined_118 : decode b_M_joined 118 = .ok (.iaload, 1) := by decide +kernel
theorem d_M_joined_119 : decode b_M_joined 119 = .ok (.iaload, 1) := by decide +kernel
theorem d_M_joined_120 : decode b_M_joined 120 = .ok (.iconst 2, 1) := by decide +kernel
theorem d_M_joined_121 : decode b_M_joined 121 = .ok (.idiv, 1) := by decide +kernel
theorem d_M_joined_122 : decode b_M_joined 122 = .ok (.istore 6, 2) := by decide +kernel
theorem d_M_joined_124 : decode b_M_joined 124 = .ok (.iload 4, 2) := by decide +kernel
theorem d_M_joined_126 : decode b_M_joined 126 = .ok (.iload_n 1, 1) := by decide +kernel
theorem d_M_joined_127 : decode b_M_joined 127 = .ok (.if_icmp .ge 9, 3) := by decide +kernel
theorem d_M_joined_130 : decode b_M_joined 130 = .ok (.iload 6, 2) := by decide +kernel
theorem d_M_joined_132 : decode b_M_joined 132 = .ok (.ineg, 1) := by decide +kernel
theorem d_M_joined_133 : decode b_M_joined 133 = .ok (.goto 5, 3) := by decide +kernel
theorem d_M_joined_136 : decode b_M_joined 136 = .ok (.iload 6, 2) := by decide +kernel
theorem d_M_joined_138 : decode b_M_joined 138 = .ok (.ireturn, 1) := by decide +kernel
theorem d_M_joined_139 : decode b_M_joined 139 = .ok (.iinc 4 1, 3) := by decide +kernel
theorem d_M_joined_142 : decode b_M_joined 142 = .ok (.goto (-139), 3) := by decide +kernel
theorem d_M_joined_145 : decode b_M_joined 145 = .ok (.iconst 0, 1) := by decide +kernel
theorem d_M_joined_146 : decode b_M_joined 146 = .ok (.ireturn, 1) := by decide +kernel
theorem d_M_net_0 : decode b_M_net 0 = .ok (.aload_n 0, 1) := by decide +kernel
theorem d_M_net_1 : decode b_M_net 1 = .ok (.iload_n 1, 1) := by decide +kernel
theorem d_M_net_2 : decode b_M_net 2 = .ok (.invokevirtual 123, 3) := by decide +kernel
theorem d_M_net_5 : decode b_M_net 5 = .ok (.aload_n 0, 1) := by decide +kernel
theorem d_M_net_6 : decode b_M_net 6 = .ok (.iload_n 1, 1) := by decide +kernel
theorem d_M_net_7 : decode b_M_net 7 = .ok (.aload_n 0, 1) := by decide +kernel
theorem d_M_net_8 : decode b_M_net 8 = .ok (.getfield 25, 3) := by decide +kernel
theorem d_M_net_11 : decode b_M_net 11 = .ok (.iload_n 1, 1) := by decide +kernel
theorem d_M_net_12 : decode b_M_net 12 = .ok (.iaload, 1) := by decide +kernel
theorem d_M_net_13 : decode b_M_net 13 = .ok (.aload_n 0, 1) := by decide +kernel
theorem d_M_net_14 : decode b_M_net 14 = .ok (.getfield 28, 3) := by decide +kernel
theorem d_M_net_17 : decode b_M_net 17 = .ok (.iload_n 1, 1) := by decide +kernel
theorem d_M_net_18 : decode b_M_net 18 = .ok (.iaload, 1) := by decide +kernel
theorem d_M_net_19 : decode b_M_net 19 = .ok (.invokevirtual 135, 3) := by decide +kernel
theorem d_M_net_22 : decode b_M_net 22 = .ok (.iadd, 1) := by decide +kernel
theorem d_M_net_23 : decode b_M_net 23 = .ok (.aload_n 0, 1) := by decide +kernel
theorem d_M_net_24 : decode b_M_net 24 = .ok (.iload_n 1, 1) := by decide +kernel
theorem d_M_net_25 : decode b_M_net 25 = .ok (.aload_n 0, 1) := by decide +kernel
theorem d_M_net_26 : decode b_M_net 26 = .ok (.getfield 31, 3) := by decide +kernel
theorem d_M_net_29 : decode b_M_net 29 = .ok (.iload_n 1, 1) := by decide +kernel
theorem d_M_net_30 : decode b_M_net 30 = .ok (.iaload, 1) := by decide +kernel
theorem d_M_net_31 : decode b_M_net 31 = .ok (.aload_n 0, 1) := by decide +kernel
theorem d_M_net_32 : decode b_M_net 32 = .ok (.getfield 34, 3) := by decide +kernel
theorem d_M_net_35 : decode b_M_net 35 = .ok (.iload_n 1, 1) := by decide +kernel
theorem d_M_net_36 : decode b_M_net 36 = .ok (.iaload, 1) := by decide +kernel
theorem d_M_net_37 : decode b_M_net 37 = .ok (.invokevirtual 135, 3) := by decide +kernel
theorem d_M_net_40 : decode b_M_net 40 = .ok (.iadd, 1) := by decide +kernel
theorem d_M_net_41 : decode b_M_net 41 = .ok (.ireturn, 1) := by decide +kernel
theorem d_M_height_0 : decode b_M_height 0 = .ok (.iload_n 1, 1) := by decide +kernel
theorem d_M_height_1 : decode b_M_height 1 = .ok (.iconst 1, 1) := by decide +kernel
theorem d_M_height_2 : decode b_M_height 2 = .ok (.iadd, 1) := by decide +kernel
theorem d_M_height_3 : decode b_M_height 3 = .ok (.aload_n 0, 1) := by decide +kernel
theorem d_M_height_4 : decode b_M_height 4 = .ok (.getfield 54, 3) := by decide +kernel
theorem d_M_height_7 : decode b_M_height 7 = .ok (.if_icmp .ge 21, 3) := by decide +kernel
theorem d_M_height_10 : decode b_M_height 10 = .ok (.aload_n 0, 1) := by decide +kernel
theorem d_M_height_11 : decode b_M_height 11 = .ok (.getfield 13, 3) := by decide +kernel
theorem d_M_height_14 : decode b_M_height 14 = .ok (.iload_n 1, 1) := by decide +kernel
theorem d_M_height_15 : decode b_M_height 15 = .ok (.iconst 1, 1) := by decide +kernel
theorem d_M_height_16 : decode b_M_height 16 = .ok (.iadd, 1) := by decide +kernel
theorem d_M_height_17 : decode b_M_height 17 = .ok (.iaload, 1) := by decide +kernel
theorem d_M_height_18 : decode b_M_height 18 = .ok (.aload_n 0, 1) := by decide +kernel
theorem d_M_height_19 : decode b_M_height 19 = .ok (.getfield 13, 3) := by decide +kernel
theorem d_M_height_22 : decode b_M_height 22 = .ok (.iload_n 1, 1) := by decide +kernel
theorem d_M_height_23 : decode b_M_height 23 = .ok (.iaload, 1) := by decide +kernel
theorem d_M_height_24 : decode b_M_height 24 = .ok (.isub, 1) := by decide +kernel
theorem d_M_height_25 : decode b_M_height 25 = .ok (.goto 6, 3) := by decide +kernel
theorem d_M_height_28 : decode b_M_height 28 = .ok (.sipush 300, 3) := by decide +kernel
theorem d_M_height_31 : decode b_M_height 31 = .ok (.ireturn, 1) := by decide +kernel
theorem d_M_cuts_0 : decode b_M_cuts 0 = .ok (.iconst 0, 1) := by decide +kernel
theorem d_M_cuts_1 : decode b_M_cuts 1 = .ok (.istore_n 2, 1) := by decide +kernel
theorem d_M_cuts_2 : decode b_M_cuts 2 = .ok (.iconst 0, 1) := by decide +kernel
theorem d_M_cuts_3 : decode b_M_cuts 3 = .ok (.istore_n 3, 1) := by decide +kernel
theorem d_M_cuts_4 : decode b_M_cuts 4 = .ok (.iload_n 3, 1) := by decide +kernel
theorem d_M_cuts_5 : decode b_M_cuts 5 = .ok (.aload_n 0, 1) := by decide +kernel
theorem d_M_cuts_6 : decode b_M_cuts 6 = .ok (.getfield 81, 3) := by decide +kernel
theorem d_M_cuts_9 : decode b_M_cuts 9 = .ok (.if_icmp .ge 27, 3) := by decide +kernel
theorem d_M_cuts_12 : decode b_M_cuts 12 = .ok (.aload_n 0, 1) := by decide +kernel
theorem d_M_cuts_13 : decode b_M_cuts 13 = .ok (.getfield 41, 3) := by decide +kernel
theorem d_M_cuts_16 : decode b_M_cuts 16 = .ok (.iload_n 3, 1) := by decide +kernel
theorem d_M_cuts_17 : decode b_M_cuts 17 = .ok (.iaload, 1) := by decide +kernel
theorem d_M_cuts_18 : decode b_M_cuts 18 = .ok (.iload_n 1, 1) := by decide +kernel
theorem d_M_cuts_19 : decode b_M_cuts 19 = .ok (.if_icmp .ne 9, 3) := by decide +kernel
theorem d_M_cuts_22 : decode b_M_cuts 22 = .ok (.iload_n 2, 1) := by decide +kernel
theorem d_M_cuts_23 : decode b_M_cuts 23 = .ok (.iconst 1, 1) := by decide +kernel
theorem d_M_cuts_24 : decode b_M_cuts 24 = .ok (.iadd, 1) := by decide +kernel
theorem d_M_cuts_25 : decode b_M_cuts 25 = .ok (.goto 4, 3) := by decide +kernel
theorem d_M_cuts_28 : decode b_M_cuts 28 = .ok (.iload_n 2, 1) := by decide +kernel
theorem d_M_cuts_29 : decode b_M_cuts 29 = .ok (.istore_n 2, 1) := by decide +kernel
theorem d_M_cuts_30 : decode b_M_cuts 30 = .ok (.iinc 3 1, 3) := by decide +kernel
theorem d_M_cuts_33 : decode b_M_cuts 33 = .ok (.goto (-29), 3) := by decide +kernel
theorem d_M_cuts_36 : decode b_M_cuts 36 = .ok (.iload_n 2, 1) := by decide +kernel
theorem d_M_cuts_37 : decode b_M_cuts 37 = .ok (.ireturn, 1) := by decide +kernel
theorem d_M_area_0 : decode b_M_area 0 = .ok (.aload_n 0, 1) := by decide +kernel
theorem d_M_area_1 : decode b_M_area 1 = .ok (.aload_n 0, 1) := by decide +kernel
theorem d_M_area_2 : decode b_M_area 2 = .ok (.getfield 19, 3) := by decide +kernel
theorem d_M_area_5 : decode b_M_area 5 = .ok (.iload_n 1, 1) := by decide +kernel
theorem d_M_area_6 : decode b_M_area 6 = .ok (.iaload, 1) := by decide +kernel
theorem d_M_area_7 : decode b_M_area 7 = .ok (.invokevirtual 138, 3) := by decide +kernel
theorem d_M_area_10 : decode b_M_area 10 = .ok (.i2l, 1) := by decide +kernel
theorem d_M_area_11 : decode b_M_area 11 = .ok (.lstore_n 2, 1) := by decide +kernel
theorem d_M_area_12 : decode b_M_area 12 = .ok (.aload_n 0, 1) := by decide +kernel
theorem d_M_area_13 : decode b_M_area 13 = .ok (.iload_n 1, 1) := by decide +kernel
theorem d_M_area_14 : decode b_M_area 14 = .ok (.invokevirtual 141, 3) := by decide +kernel
theorem d_M_area_17 : decode b_M_area 17 = .ok (.i2l, 1) := by decide +kernel
theorem d_M_area_18 : decode b_M_area 18 = .ok (.lload_n 2, 1) := by decide +kernel
theorem d_M_area_19 : decode b_M_area 19 = .ok (.lmul, 1) := by decide +kernel
theorem d_M_area_20 : decode b_M_area 20 = .ok (.lstore 4, 2) := by decide +kernel
theorem d_M_area_22 : decode b_M_area 22 = .ok (.iconst 0, 1) := by decide +kernel
theorem d_M_area_23 : decode b_M_area 23 = .ok (.istore 6, 2) := by decide +kernel
theorem d_M_area_25 : decode b_M_area 25 = .ok (.iload 6, 2) := by decide +kernel
theorem d_M_area_27 : decode b_M_area 27 = .ok (.aload_n 0, 1) := by decide +kernel
theorem d_M_area_28 : decode b_M_area 28 = .ok (.getfield 81, 3) := by decide +kernel
theorem d_M_area_31 : decode b_M_area 31 = .ok (.if_icmp .ge 49, 3) := by decide +kernel
theorem d_M_area_34 : decode b_M_area 34 = .ok (.aload_n 0, 1) := by decide +kernel
theorem d_M_area_35 : decode b_M_area 35 = .ok (.getfield 41, 3) := by decide +kernel
theorem d_M_area_38 : decode b_M_area 38 = .ok (.iload 6, 2) := by decide +kernel
theorem d_M_area_40 : decode b_M_area 40 = .ok (.iaload, 1) := by decide +kernel
theorem d_M_area_41 : decode b_M_area 41 = .ok (.iload_n 1, 1) := by decide +kernel
theorem d_M_area_42 : decode b_M_area 42 = .ok (.if_icmp .ne 32, 3) := by decide +kernel
theorem d_M_area_45 : decode b_M_area 45 = .ok (.lload 4, 2) := by decide +kernel
theorem d_M_area_47 : decode b_M_area 47 = .ok (.aload_n 0, 1) := by decide +kernel
theorem d_M_area_48 : decode b_M_area 48 = .ok (.getfield 47, 3) := by decide +kernel
theorem d_M_area_51 : decode b_M_area 51 = .ok (.iload 6, 2) := by decide +kernel
theorem d_M_area_53 : decode b_M_area 53 = .ok (.iaload, 1) := by decide +kernel
theorem d_M_area_54 : decode b_M_area 54 = .ok (.i2l, 1) := by decide +kernel
theorem d_M_area_55 : decode b_M_area 55 = .ok (.lload_n 2, 1) := by decide +kernel
theorem d_M_area_56 : decode b_M_area 56 = .ok (.ldc2_w 144, 3) := by decide +kernel
theorem d_M_area_59 : decode b_M_area 59 = .ok (.lcmp, 1) := by decide +kernel
theorem d_M_area_60 : decode b_M_area 60 = .ok (.ifCond .ge 7, 3) := by decide +kernel
theorem d_M_area_63 : decode b_M_area 63 = .ok (.lload_n 2, 1) := by decide +kernel
theorem d_M_area_64 : decode b_M_area 64 = .ok (.goto 6, 3) := by decide +kernel
theorem d_M_area_67 : decode b_M_area 67 = .ok (.ldc2_w 144, 3) := by decide +kernel
theorem d_M_area_70 : decode b_M_area 70 = .ok (.lmul, 1) := by decide +kernel
theorem d_M_area_71 : decode b_M_area 71 = .ok (.lsub, 1) := by decide +kernel
theorem d_M_area_72 : decode b_M_area 72 = .ok (.lstore 4, 2) := by decide +kernel
theorem d_M_area_74 : decode b_M_area 74 = .ok (.iinc 6 1, 3) := by decide +kernel
theorem d_M_area_77 : decode b_M_area 77 = .ok (.goto (-52), 3) := by decide +kernel
theorem d_M_area_80 : decode b_M_area 80 = .ok (.lload 4, 2) := by decide +kernel
theorem d_M_area_82 : decode b_M_area 82 = .ok (.lreturn, 1) := by decide +kernel
theorem d_M_tells_0 : decode b_M_tells 0 = .ok (.aload_n 0, 1) := by decide +kernel
theorem d_M_tells_1 : decode b_M_tells 1 = .ok (.iload_n 1, 1) := by decide +kernel
theorem d_M_tells_2 : decode b_M_tells 2 = .ok (.ifCond .eq 7, 3) := by decide +kernel
theorem d_M_tells_5 : decode b_M_tells 5 = .ok (.iconst 0, 1) := by decide +kernel
theorem d_M_tells_6 : decode b_M_tells 6 = .ok (.goto 4, 3) := by decide +kernel
theorem d_M_tells_9 : decode b_M_tells 9 = .ok (.iconst 1, 1) := by decide +kernel
theorem d_M_tells_10 : decode b_M_tells 10 = .ok (.putfield 50, 3) := by decide +kernel
theorem d_M_tells_13 : decode b_M_tells 13 = .ok (.iload_n 1, 1) := by decide +kernel
theorem d_M_tells_14 : decode b_M_tells 14 = .ok (.ireturn, 1) := by decide +kernel
theorem d_M_many_0 : decode b_M_many 0 = .ok (.aload_n 0, 1) := by decide +kernel
theorem d_M_many_1 : decode b_M_many 1 = .ok (.iload_n 1, 1) := by decide +kernel
theorem d_M_many_2 : decode b_M_many 2 = .ok (.i2l, 1) := by decide +kernel
theorem d_M_many_3 : decode b_M_many 3 = .ok (.lconst 0, 1) := by decide +kernel
theorem d_M_many_4 : decode b_M_many 4 = .ok (.ldc2_w 146, 3) := by decide +kernel
theorem d_M_many_7 : decode b_M_many 7 = .ok (.invokestatic 67, 3) := by decide +kernel
theorem d_M_many_10 : decode b_M_many 10 = .ok (.invokevirtual 148, 3) := by decide +kernel
theorem d_M_many_13 : decode b_M_many 13 = .ok (.ifCond .ne 5, 3) := by decide +kernel
theorem d_M_many_16 : decode b_M_many 16 = .ok (.iconst 0, 1) := by decide +kernel
theorem d_M_many_17 : decode b_M_many 17 = .ok (.ireturn, 1) := by decide +kernel
theorem d_M_many_18 : decode b_M_many 18 = .ok (.iload_n 1, 1) := by decide +kernel
theorem d_M_many_19 : decode b_M_many 19 = .ok (.ifCond .ne 10, 3) := by decide +kernel
theorem d_M_many_22 : decode b_M_many 22 = .ok (.aload_n 0, 1) := by decide +kernel
theorem d_M_many_23 : decode b_M_many 23 = .ok (.getfield 54, 3) := by decide +kernel
theorem d_M_many_26 : decode b_M_many 26 = .ok (.goto 31, 3) := by decide +kernel
theorem d_M_many_29 : decode b_M_many 29 = .ok (.iload_n 1, 1) := by decide +kernel
theorem d_M_many_30 : decode b_M_many 30 = .ok (.iconst 1, 1) := by decide +kernel
theorem d_M_many_31 : decode b_M_many 31 = .ok (.if_icmp .ne 10, 3) := by decide +kernel
theorem d_M_many_34 : decode b_M_many 34 = .ok (.aload_n 0, 1) := by decide +kernel
theorem d_M_many_35 : decode b_M_many 35 = .ok (.getfield 57, 3) := by decide +kernel
theorem d_M_many_38 : decode b_M_many 38 = .ok (.goto 19, 3) := by decide +kernel
theorem d_M_many_41 : decode b_M_many 41 = .ok (.iload_n 1, 1) := by decide +kernel
theorem d_M_many_42 : decode b_M_many 42 = .ok (.iconst 2, 1) := by decide +kernel
theorem d_M_many_43 : decode b_M_many 43 = .ok (.if_icmp .ne 10, 3) := by decide +kernel
theorem d_M_many_46 : decode b_M_many 46 = .ok (.aload_n 0, 1) := by decide +kernel
theorem d_M_many_47 : decode b_M_many 47 = .ok (.getfield 60, 3) := by decide +kernel
theorem d_M_many_50 : decode b_M_many 50 = .ok (.goto 7, 3) := by decide +kernel
theorem d_M_many_53 : decode b_M_many 53 = .ok (.aload_n 0, 1) := by decide +kernel
theorem d_M_many_54 : decode b_M_many 54 = .ok (.getfield 81, 3) := by decide +kernel
theorem d_M_many_57 : decode b_M_many 57 = .ok (.ireturn, 1) := by decide +kernel
theorem d_M_wallAt_0 : decode b_M_wallAt 0 = .ok (.aload_n 0, 1) := by decide +kernel
theorem d_M_wallAt_1 : decode b_M_wallAt 1 = .ok (.aload_n 0, 1) := by decide +kernel
theorem d_M_wallAt_2 : decode b_M_wallAt 2 = .ok (.iload_n 1, 1) := by decide +kernel
theorem d_M_wallAt_3 : decode b_M_wallAt 3 = .ok (.invokevirtual 120, 3) := by decide +kernel
theorem d_M_wallAt_6 : decode b_M_wallAt 6 = .ok (.ifCond .eq 19, 3) := by decide +kernel
theorem d_M_wallAt_9 : decode b_M_wallAt 9 = .ok (.iload_n 2, 1) := by decide +kernel
theorem d_M_wallAt_10 : decode b_M_wallAt 10 = .ok (.i2l, 1) := by decide +kernel
theorem d_M_wallAt_11 : decode b_M_wallAt 11 = .ok (.lconst 0, 1) := by decide +kernel
theorem d_M_wallAt_12 : decode b_M_wallAt 12 = .ok (.ldc2_w 152, 3) := by decide +kernel
theorem d_M_wallAt_15 : decode b_M_wallAt 15 = .ok (.invokestatic 67, 3) := by decide +kernel
theorem d_M_wallAt_18 : decode b_M_wallAt 18 = .ok (.ifCond .eq 7, 3) := by decide +kernel
theorem d_M_wallAt_21 : decode b_M_wallAt 21 = .ok (.iconst 1, 1) := by decide +kernel
theorem d_M_wallAt_22 : decode b_M_wallAt 22 = .ok (.goto 4, 3) := by decide +kernel
theorem d_M_wallAt_25 : decode b_M_wallAt 25 = .ok (.iconst 0, 1) := by decide +kernel
theorem d_M_wallAt_26 : decode b_M_wallAt 26 = .ok (.invokevirtual 148, 3) := by decide +kernel
theorem d_M_wallAt_29 : decode b_M_wallAt 29 = .ok (.ifCond .ne 5, 3) := by decide +kernel
theorem d_M_wallAt_32 : decode b_M_wallAt 32 = .ok (.lconst 0, 1) := by decide +kernel
theorem d_M_wallAt_33 : decode b_M_wallAt 33 = .ok (.lreturn, 1) := by decide +kernel
theorem d_M_wallAt_34 : decode b_M_wallAt 34 = .ok (.iload_n 2, 1) := by decide +kernel
theorem d_M_wallAt_35 : decode b_M_wallAt 35 = .ok (.tableswitch 117 0 8 #[49, 57, 65, 73, 81, 89, 97, 104, 111], 49) := by decide +kernel
theorem d_M_wallAt_84 : decode b_M_wallAt 84 = .ok (.aload_n 0, 1) := by decide +kernel
theorem d_M_wallAt_85 : decode b_M_wallAt 85 = .ok (.getfield 19, 3) := by decide +kernel
theorem d_M_wallAt_88 : decode b_M_wallAt 88 = .ok (.iload_n 1, 1) := by decide +kernel
theorem d_M_wallAt_89 : decode b_M_wallAt 89 = .ok (.iaload, 1) := by decide +kernel
theorem d_M_wallAt_90 : decode b_M_wallAt 90 = .ok (.i2l, 1) := by decide +kernel
theorem d_M_wallAt_91 : decode b_M_wallAt 91 = .ok (.lreturn, 1) := by decide +kernel
theorem d_M_wallAt_92 : decode b_M_wallAt 92 = .ok (.aload_n 0, 1) := by decide +kernel
theorem d_M_wallAt_93 : decode b_M_wallAt 93 = .ok (.getfield 22, 3) := by decide +kernel
theorem d_M_wallAt_96 : decode b_M_wallAt 96 = .ok (.iload_n 1, 1) := by decide +kernel
theorem d_M_wallAt_97 : decode b_M_wallAt 97 = .ok (.iaload, 1) := by decide +kernel
theorem d_M_wallAt_98 : decode b_M_wallAt 98 = .ok (.i2l, 1) := by decide +kernel
theorem d_M_wallAt_99 : decode b_M_wallAt 99 = .ok (.lreturn, 1) := by decide +kernel
theorem d_M_wallAt_100 : decode b_M_wallAt 100 = .ok (.aload_n 0, 1) := by decide +kernel
theorem d_M_wallAt_101 : decode b_M_wallAt 101 = .ok (.getfield 25, 3) := by decide +kernel
theorem d_M_wallAt_104 : decode b_M_wallAt 104 = .ok (.iload_n 1, 1) := by decide +kernel
theorem d_M_wallAt_105 : decode b_M_wallAt 105 = .ok (.iaload, 1) := by decide +kernel
theorem d_M_wallAt_106 : decode b_M_wallAt 106 = .ok (.i2l, 1) := by decide +kernel
theorem d_M_wallAt_107 : decode b_M_wallAt 107 = .ok (.lreturn, 1) := by decide +kernel
theorem d_M_wallAt_108 : decode b_M_wallAt 108 = .ok (.aload_n 0, 1) := by decide +kernel
theorem d_M_wallAt_109 : decode b_M_wallAt 109 = .ok (.getfield 28, 3) := by decide +kernel
theorem d_M_wallAt_112 : decode b_M_wallAt 112 = .ok (.iload_n 1, 1) := by decide +kernel
theorem d_M_wallAt_113 : decode b_M_wallAt 113 = .ok (.iaload, 1) := by decide +kernel
theorem d_M_wallAt_114 : decode b_M_wallAt 114 = .ok (.i2l, 1) := by decide +kernel
theorem d_M_wallAt_115 : decode b_M_wallAt 115 = .ok (.lreturn, 1) := by decide +kernel
theorem d_M_wallAt_116 : decode b_M_wallAt 116 = .ok (.aload_n 0, 1) := by decide +kernel
theorem d_M_wallAt_117 : decode b_M_wallAt 117 = .ok (.getfield 31, 3) := by decide +kernel
theorem d_M_wallAt_120 : decode b_M_wallAt 120 = .ok (.iload_n 1, 1) := by decide +kernel
theorem d_M_wallAt_121 : decode b_M_wallAt 121 = .ok (.iaload, 1) := by decide +kernel
theorem d_M_wallAt_122 : decode b_M_wallAt 122 = .ok (.i2l, 1) := by decide +kernel
theorem d_M_wallAt_123 : decode b_M_wallAt 123 = .ok (.lreturn, 1) := by decide +kernel
theorem d_M_wallAt_124 : decode b_M_wallAt 124 = .ok (.aload_n 0, 1) := by decide +kernel
theorem d_M_wallAt_125 : decode b_M_wallAt 125 = .ok (.getfield 34, 3) := by decide +kernel
theorem d_M_wallAt_128 : decode b_M_wallAt 128 = .ok (.iload_n 1, 1) := by decide +kernel
theorem d_M_wallAt_129 : decode b_M_wallAt 129 = .ok (.iaload, 1) := by decide +kernel
theorem d_M_wallAt_130 : decode b_M_wallAt 130 = .ok (.i2l, 1) := by decide +kernel
theorem d_M_wallAt_131 : decode b_M_wallAt 131 = .ok (.lreturn, 1) := by decide +kernel
theorem d_M_wallAt_132 : decode b_M_wallAt 132 = .ok (.aload_n 0, 1) := by decide +kernel
theorem d_M_wallAt_133 : decode b_M_wallAt 133 = .ok (.iload_n 1, 1) := by decide +kernel
theorem d_M_wallAt_134 : decode b_M_wallAt 134 = .ok (.invokevirtual 123, 3) := by decide +kernel
theorem d_M_wallAt_137 : decode b_M_wallAt 137 = .ok (.i2l, 1) := by decide +kernel
theorem d_M_wallAt_138 : decode b_M_wallAt 138 = .ok (.lreturn, 1) := by decide +kernel
theorem d_M_wallAt_139 : decode b_M_wallAt 139 = .ok (.aload_n 0, 1) := by decide +kernel
theorem d_M_wallAt_140 : decode b_M_wallAt 140 = .ok (.iload_n 1, 1) := by decide +kernel
theorem d_M_wallAt_141 : decode b_M_wallAt 141 = .ok (.invokevirtual 141, 3) := by decide +kernel
theorem d_M_wallAt_144 : decode b_M_wallAt 144 = .ok (.i2l, 1) := by decide +kernel
theorem d_M_wallAt_145 : decode b_M_wallAt 145 = .ok (.lreturn, 1) := by decide +kernel
theorem d_M_wallAt_146 : decode b_M_wallAt 146 = .ok (.aload_n 0, 1) := by decide +kernel
theorem d_M_wallAt_147 : decode b_M_wallAt 147 = .ok (.iload_n 1, 1) := by decide +kernel
theorem d_M_wallAt_148 : decode b_M_wallAt 148 = .ok (.invokevirtual 154, 3) := by decide +kernel
theorem d_M_wallAt_151 : decode b_M_wallAt 151 = .ok (.lreturn, 1) := by decide +kernel
theorem d_M_wallAt_152 : decode b_M_wallAt 152 = .ok (.aload_n 0, 1) := by decide +kernel
theorem d_M_wallAt_153 : decode b_M_wallAt 153 = .ok (.iload_n 1, 1) := by decide +kernel
theorem d_M_wallAt_154 : decode b_M_wallAt 154 = .ok (.invokevirtual 126, 3) := by decide +kernel
theorem d_M_wallAt_157 : decode b_M_wallAt 157 = .ok (.i2l, 1) := by decide +kernel
theorem d_M_wallAt_158 : decode b_M_wallAt 158 = .ok (.lreturn, 1) := by decide +kernel
theorem d_M_openingAt_0 : decode b_M_openingAt 0 = .ok (.aload_n 0, 1) := by decide +kernel
theorem d_M_openingAt_1 : decode b_M_openingAt 1 = .ok (.iload_n 1, 1) := by decide +kernel
theorem d_M_openingAt_2 : decode b_M_openingAt 2 = .ok (.ifCond .lt 57, 3) := by decide +kernel
theorem d_M_openingAt_5 : decode b_M_openingAt 5 = .ok (.iload_n 1, 1) := by decide +kernel
theorem d_M_openingAt_6 : decode b_M_openingAt 6 = .ok (.aload_n 0, 1) := by decide +kernel
theorem d_M_openingAt_7 : decode b_M_openingAt 7 = .ok (.getfield 81, 3) := by decide +kernel
theorem d_M_openingAt_10 : decode b_M_openingAt 10 = .ok (.if_icmp .ge 49, 3) := by decide +kernel
theorem d_M_openingAt_13 : decode b_M_openingAt 13 = .ok (.iload_n 2, 1) := by decide +kernel
theorem d_M_openingAt_14 : decode b_M_openingAt 14 = .ok (.i2l, 1) := by decide +kernel
theorem d_M_openingAt_15 : decode b_M_openingAt 15 = .ok (.lconst 0, 1) := by decide +kernel
theorem d_M_openingAt_16 : decode b_M_openingAt 16 = .ok (.ldc2_w 158, 3) := by decide +kernel
theorem d_M_openingAt_19 : decode b_M_openingAt 19 = .ok (.invokestatic 67, 3) := by decide +kernel
theorem d_M_openingAt_22 : decode b_M_openingAt 22 = .ok (.ifCond .eq 37, 3) := by decide +kernel
theorem d_M_openingAt_25 : decode b_M_openingAt 25 = .ok (.aload_n 0, 1) := by decide +kernel
theorem d_M_openingAt_26 : decode b_M_openingAt 26 = .ok (.getfield 37, 3) := by decide +kernel
theorem d_M_openingAt_29 : decode b_M_openingAt 29 = .ok (.aload_n 0, 1) := by decide +kernel
theorem d_M_openingAt_30 : decode b_M_openingAt 30 = .ok (.getfield 41, 3) := by decide +kernel
theorem d_M_openingAt_33 : decode b_M_openingAt 33 = .ok (.iload_n 1, 1) := by decide +kernel
theorem d_M_openingAt_34 : decode b_M_openingAt 34 = .ok (.ifCond .lt 11, 3) := by decide +kernel
theorem d_M_openingAt_37 : decode b_M_openingAt 37 = .ok (.iload_n 1, 1) := by decide +kernel
theorem d_M_openingAt_38 : decode b_M_openingAt 38 = .ok (.aload_n 0, 1) := by decide +kernel
theorem d_M_openingAt_39 : decode b_M_openingAt 39 = .ok (.getfield 81, 3) := by decide +kernel
theorem d_M_openingAt_42 : decode b_M_openingAt 42 = .ok (.if_icmp .lt 7, 3) := by decide +kernel
theorem d_M_openingAt_45 : decode b_M_openingAt 45 = .ok (.iconst 0, 1) := by decide +kernel
theorem d_M_openingAt_46 : decode b_M_openingAt 46 = .ok (.goto 4, 3) := by decide +kernel
theorem d_M_openingAt_49 : decode b_M_openingAt 49 = .ok (.iload_n 1, 1) := by decide +kernel
theorem d_M_openingAt_50 : decode b_M_openingAt 50 = .ok (.iaload, 1) := by decide +kernel
theorem d_M_openingAt_51 : decode b_M_openingAt 51 = .ok (.baload, 1) := by decide +kernel
theorem d_M_openingAt_52 : decode b_M_openingAt 52 = .ok (.ifCond .eq 7, 3) := by decide +kernel
theorem d_M_openingAt_55 : decode b_M_openingAt 55 = .ok (.iconst 1, 1) := by decide +kernel
theorem d_M_openingAt_56 : decode b_M_openingAt 56 = .ok (.goto 4, 3) := by decide +kernel
theorem d_M_openingAt_59 : decode b_M_openingAt 59 = .ok (.iconst 0, 1) := by decide +kernel
theorem d_M_openingAt_60 : decode b_M_openingAt 60 = .ok (.invokevirtual 148, 3) := by decide +kernel
theorem d_M_openingAt_63 : decode b_M_openingAt 63 = .ok (.ifCond .ne 5, 3) := by decide +kernel
theorem d_M_openingAt_66 : decode b_M_openingAt 66 = .ok (.iconst 0, 1) := by decide +kernel
theorem d_M_openingAt_67 : decode b_M_openingAt 67 = .ok (.ireturn, 1) := by decide +kernel
theorem d_M_openingAt_68 : decode b_M_openingAt 68 = .ok (.iload_n 2, 1) := by decide +kernel
theorem d_M_openingAt_69 : decode b_M_openingAt 69 = .ok (.ifCond .ne 12, 3) := by decide +kernel
theorem d_M_openingAt_72 : decode b_M_openingAt 72 = .ok (.aload_n 0, 1) := by decide +kernel
theorem d_M_openingAt_73 : decode b_M_openingAt 73 = .ok (.getfield 41, 3) := by decide +kernel
theorem d_M_openingAt_76 : decode b_M_openingAt 76 = .ok (.iload_n 1, 1) := by decide +kernel
theorem d_M_openingAt_77 : decode b_M_openingAt 77 = .ok (.iaload, 1) := by decide +kernel
theorem d_M_openingAt_78 : decode b_M_openingAt 78 = .ok (.goto 23, 3) := by decide +kernel
theorem d_M_openingAt_81 : decode b_M_openingAt 81 = .ok (.iload_n 2, 1) := by decide +kernel
theorem d_M_openingAt_82 : decode b_M_openingAt 82 = .ok (.iconst 1, 1) := by decide +kernel
theorem d_M_openingAt_83 : decode b_M_openingAt 83 = .ok (.if_icmp .ne 12, 3) := by decide +kernel
theorem d_M_openingAt_86 : decode b_M_openingAt 86 = .ok (.aload_n 0, 1) := by decide +kernel
theorem d_M_openingAt_87 : decode b_M_openingAt 87 = .ok (.getfield 44, 3) := by decide +kernel
theorem d_M_openingAt_90 : decode b_M_openingAt 90 = .ok (.iload_n 1, 1) := by decide +kernel
theorem d_M_openingAt_91 : decode b_M_openingAt 91 = .ok (.iaload, 1) := by decide +kernel
theorem d_M_openingAt_92 : decode b_M_openingAt 92 = .ok (.goto 9, 3) := by decide +kernel
theorem d_M_openingAt_95 : decode b_M_openingAt 95 = .ok (.aload_n 0, 1) := by decide +kernel
theorem d_M_openingAt_96 : decode b_M_openingAt 96 = .ok (.getfield 47, 3) := by decide +kernel
theorem d_M_openingAt_99 : decode b_M_openingAt 99 = .ok (.iload_n 1, 1) := by decide +kernel
theorem d_M_openingAt_100 : decode b_M_openingAt 100 = .ok (.iaload, 1) := by decide +kernel
theorem d_M_openingAt_101 : decode b_M_openingAt 101 = .ok (.ireturn, 1) := by decide +kernel
theorem d_M_storeyAt_0 : decode b_M_storeyAt 0 = .ok (.aload_n 0, 1) := by decide +kernel
theorem d_M_storeyAt_1 : decode b_M_storeyAt 1 = .ok (.aload_n 0, 1) := by decide +kernel
theorem d_M_storeyAt_2 : decode b_M_storeyAt 2 = .ok (.iload_n 1, 1) := by decide +kernel
theorem d_M_storeyAt_3 : decode b_M_storeyAt 3 = .ok (.invokevirtual 106, 3) := by decide +kernel
theorem d_M_storeyAt_6 : decode b_M_storeyAt 6 = .ok (.ifCond .eq 19, 3) := by decide +kernel
theorem d_M_storeyAt_9 : decode b_M_storeyAt 9 = .ok (.iload_n 2, 1) := by decide +kernel
theorem d_M_storeyAt_10 : decode b_M_storeyAt 10 = .ok (.i2l, 1) := by decide +kernel
theorem d_M_storeyAt_11 : decode b_M_storeyAt 11 = .ok (.lconst 0, 1) := by decide +kernel
theorem d_M_storeyAt_12 : decode b_M_storeyAt 12 = .ok (.ldc2_w 146, 3) := by decide +kernel
theorem d_M_storeyAt_15 : decode b_M_storeyAt 15 = .ok (.invokestatic 67, 3) := by decide +kernel
theorem d_M_storeyAt_18 : decode b_M_storeyAt 18 = .ok (.ifCond .eq 7, 3) := by decide +kernel
theorem d_M_storeyAt_21 : decode b_M_storeyAt 21 = .ok (.iconst 1, 1) := by decide +kernel
theorem d_M_storeyAt_22 : decode b_M_storeyAt 22 = .ok (.goto 4, 3) := by decide +kernel
theorem d_M_storeyAt_25 : decode b_M_storeyAt 25 = .ok (.iconst 0, 1) := by decide +kernel
theorem d_M_storeyAt_26 : decode b_M_storeyAt 26 = .ok (.invokevirtual 148, 3) := by decide +kernel
theorem d_M_storeyAt_29 : decode b_M_storeyAt 29 = .ok (.ifCond .ne 5, 3) := by decide +kernel
theorem d_M_storeyAt_32 : decode b_M_storeyAt 32 = .ok (.lconst 0, 1) := by decide +kernel
theorem d_M_storeyAt_33 : decode b_M_storeyAt 33 = .ok (.lreturn, 1) := by decide +kernel
theorem d_M_storeyAt_34 : decode b_M_storeyAt 34 = .ok (.lconst 0, 1) := by decide +kernel
theorem d_M_storeyAt_35 : decode b_M_storeyAt 35 = .ok (.lstore_n 3, 1) := by decide +kernel
theorem d_M_storeyAt_36 : decode b_M_storeyAt 36 = .ok (.lconst 0, 1) := by decide +kernel
theorem d_M_storeyAt_37 : decode b_M_storeyAt 37 = .ok (.lstore 5, 2) := by decide +kernel
theorem d_M_storeyAt_39 : decode b_M_storeyAt 39 = .ok (.iconst 0, 1) := by decide +kernel
theorem d_M_storeyAt_40 : decode b_M_storeyAt 40 = .ok (.istore 7, 2) := by decide +kernel
theorem d_M_storeyAt_42 : decode b_M_storeyAt 42 = .ok (.iload 7, 2) := by decide +kernel
theorem d_M_storeyAt_44 : decode b_M_storeyAt 44 = .ok (.aload_n 0, 1) := by decide +kernel
theorem d_M_storeyAt_45 : decode b_M_storeyAt 45 = .ok (.getfield 60, 3) := by decide +kernel
theorem d_M_storeyAt_48 : decode b_M_storeyAt 48 = .ok (.if_icmp .ge 45, 3) := by decide +kernel
theorem d_M_storeyAt_51 : decode b_M_storeyAt 51 = .ok (.aload_n 0, 1) := by decide +kernel
theorem d_M_storeyAt_52 : decode b_M_storeyAt 52 = .ok (.getfield 37, 3) := by decide +kernel
theorem d_M_storeyAt_55 : decode b_M_storeyAt 55 = .ok (.iload 7, 2) := by decide +kernel
theorem d_M_storeyAt_57 : decode b_M_storeyAt 57 = .ok (.baload, 1) := by decide +kernel
theorem d_M_storeyAt_58 : decode b_M_storeyAt 58 = .ok (.ifCond .eq 29, 3) := by decide +kernel
theorem d_M_storeyAt_61 : decode b_M_storeyAt 61 = .ok (.aload_n 0, 1) := by decide +kernel
theorem d_M_storeyAt_62 : decode b_M_storeyAt 62 = .ok (.getfield 19, 3) := by decide +kernel
theorem d_M_storeyAt_65 : decode b_M_storeyAt 65 = .ok (.iload 7, 2) := by decide +kernel
theorem d_M_storeyAt_67 : decode b_M_storeyAt 67 = .ok (.iaload, 1) := by decide +kernel
theorem d_M_storeyAt_68 : decode b_M_storeyAt 68 = .ok (.iload_n 1, 1) := by decide +kernel
theorem d_M_storeyAt_69 : decode b_M_storeyAt 69 = .ok (.if_icmp .ne 18, 3) := by decide +kernel
theorem d_M_storeyAt_72 : decode b_M_storeyAt 72 = .ok (.lload_n 3, 1) := by decide +kernel
theorem d_M_storeyAt_73 : decode b_M_storeyAt 73 = .ok (.lconst 1, 1) := by decide +kernel
theorem d_M_storeyAt_74 : decode b_M_storeyAt 74 = .ok (.ladd, 1) := by decide +kernel
theorem d_M_storeyAt_75 : decode b_M_storeyAt 75 = .ok (.lstore_n 3, 1) := by decide +kernel
theorem d_M_storeyAt_76 : decode b_M_storeyAt 76 = .ok (.lload 5, 2) := by decide +kernel
theorem d_M_storeyAt_78 : decode b_M_storeyAt 78 = .ok (.aload_n 0, 1) := by decide +kernel
theorem d_M_storeyAt_79 : decode b_M_storeyAt 79 = .ok (.iload 7, 2) := by decide +kernel
theorem d_M_storeyAt_81 : decode b_M_storeyAt 81 = .ok (.invokevirtual 154, 3) := by decide +kernel
theorem d_M_storeyAt_84 : decode b_M_storeyAt 84 = .ok (.ladd, 1) := by decide +kernel
theorem d_M_storeyAt_85 : decode b_M_storeyAt 85 = .ok (.lstore 5, 2) := by decide +kernel
theorem d_M_storeyAt_87 : decode b_M_storeyAt 87 = .ok (.iinc 7 1, 3) := by decide +kernel
theorem d_M_storeyAt_90 : decode b_M_storeyAt 90 = .ok (.goto (-48), 3) := by decide +kernel
theorem d_M_storeyAt_93 : decode b_M_storeyAt 93 = .ok (.iload_n 2, 1) := by decide +kernel
theorem d_M_storeyAt_94 : decode b_M_storeyAt 94 = .ok (.ifCond .ne 13, 3) := by decide +kernel
theorem d_M_storeyAt_97 : decode b_M_storeyAt 97 = .ok (.aload_n 0, 1) := by decide +kernel
theorem d_M_storeyAt_98 : decode b_M_storeyAt 98 = .ok (.getfield 13, 3) := by decide +kernel
theorem d_M_storeyAt_101 : decode b_M_storeyAt 101 = .ok (.iload_n 1, 1) := by decide +kernel
theorem d_M_storeyAt_102 : decode b_M_storeyAt 102 = .ok (.iaload, 1) := by decide +kernel
theorem d_M_storeyAt_103 : decode b_M_storeyAt 103 = .ok (.i2l, 1) := by decide +kernel
theorem d_M_storeyAt_104 : decode b_M_storeyAt 104 = .ok (.goto 28, 3) := by decide +kernel
theorem d_M_storeyAt_107 : decode b_M_storeyAt 107 = .ok (.iload_n 2, 1) := by decide +kernel
theorem d_M_storeyAt_108 : decode b_M_storeyAt 108 = .ok (.iconst 1, 1) := by decide +kernel
theorem d_M_storeyAt_109 : decode b_M_storeyAt 109 = .ok (.if_icmp .ne 12, 3) := by decide +kernel
theorem d_M_storeyAt_112 : decode b_M_storeyAt 112 = .ok (.aload_n 0, 1) := by decide +kernel
theorem d_M_storeyAt_113 : decode b_M_storeyAt 113 = .ok (.iload_n 1, 1) := by decide +kernel
theorem d_M_storeyAt_114 : decode b_M_storeyAt 114 = .ok (.invokevirtual 138, 3) := by decide +kernel
theorem d_M_storeyAt_117 : decode b_M_storeyAt 117 = .ok (.i2l, 1) := by decide +kernel
theorem d_M_storeyAt_118 : decode b_M_storeyAt 118 = .ok (.goto 14, 3) := by decide +kernel
theorem d_M_storeyAt_121 : decode b_M_storeyAt 121 = .ok (.iload_n 2, 1) := by decide +kernel
theorem d_M_storeyAt_122 : decode b_M_storeyAt 122 = .ok (.iconst 2, 1) := by decide +kernel
theorem d_M_storeyAt_123 : decode b_M_storeyAt 123 = .ok (.if_icmp .ne 7, 3) := by decide +kernel
theorem d_M_storeyAt_126 : decode b_M_storeyAt 126 = .ok (.lload_n 3, 1) := by decide +kernel
theorem d_M_storeyAt_127 : decode b_M_storeyAt 127 = .ok (.goto 5, 3) := by decide +kernel
theorem d_M_storeyAt_130 : decode b_M_storeyAt 130 = .ok (.lload 5, 2) := by decide +kernel
theorem d_M_storeyAt_132 : decode b_M_storeyAt 132 = .ok (.lreturn, 1) := by decide +kernel
theorem d_M_typeAt_0 : decode b_M_typeAt 0 = .ok (.aload_n 0, 1) := by decide +kernel
theorem d_M_typeAt_1 : decode b_M_typeAt 1 = .ok (.aload_n 0, 1) := by decide +kernel
theorem d_M_typeAt_2 : decode b_M_typeAt 2 = .ok (.iload_n 1, 1) := by decide +kernel
theorem d_M_typeAt_3 : decode b_M_typeAt 3 = .ok (.invokevirtual 113, 3) := by decide +kernel
theorem d_M_typeAt_6 : decode b_M_typeAt 6 = .ok (.ifCond .eq 19, 3) := by decide +kernel
theorem d_M_typeAt_9 : decode b_M_typeAt 9 = .ok (.iload_n 2, 1) := by decide +kernel
theorem d_M_typeAt_10 : decode b_M_typeAt 10 = .ok (.i2l, 1) := by decide +kernel
theorem d_M_typeAt_11 : decode b_M_typeAt 11 = .ok (.lconst 0, 1) := by decide +kernel
theorem d_M_typeAt_12 : decode b_M_typeAt 12 = .ok (.ldc2_w 158, 3) := by decide +kernel
theorem d_M_typeAt_15 : decode b_M_typeAt 15 = .ok (.invokestatic 67, 3) := by decide +kernel
theorem d_M_typeAt_18 : decode b_M_typeAt 18 = .ok (.ifCond .eq 7, 3) := by decide +kernel
theorem d_M_typeAt_21 : decode b_M_typeAt 21 = .ok (.iconst 1, 1) := by decide +kernel
theorem d_M_typeAt_22 : decode b_M_typeAt 22 = .ok (.goto 4, 3) := by decide +kernel
theorem d_M_typeAt_25 : decode b_M_typeAt 25 = .ok (.iconst 0, 1) := by decide +kernel
theorem d_M_typeAt_26 : decode b_M_typeAt 26 = .ok (.invokevirtual 148, 3) := by decide +kernel
theorem d_M_typeAt_29 : decode b_M_typeAt 29 = .ok (.ifCond .ne 5, 3) := by decide +kernel
theorem d_M_typeAt_32 : decode b_M_typeAt 32 = .ok (.lconst 0, 1) := by decide +kernel
theorem d_M_typeAt_33 : decode b_M_typeAt 33 = .ok (.lreturn, 1) := by decide +kernel
theorem d_M_typeAt_34 : decode b_M_typeAt 34 = .ok (.lconst 0, 1) := by decide +kernel
theorem d_M_typeAt_35 : decode b_M_typeAt 35 = .ok (.lstore_n 3, 1) := by decide +kernel
theorem d_M_typeAt_36 : decode b_M_typeAt 36 = .ok (.lconst 0, 1) := by decide +kernel
theorem d_M_typeAt_37 : decode b_M_typeAt 37 = .ok (.lstore 5, 2) := by decide +kernel
theorem d_M_typeAt_39 : decode b_M_typeAt 39 = .ok (.iconst 0, 1) := by decide +kernel
theorem d_M_typeAt_40 : decode b_M_typeAt 40 = .ok (.istore 7, 2) := by decide +kernel
theorem d_M_typeAt_42 : decode b_M_typeAt 42 = .ok (.iload 7, 2) := by decide +kernel
theorem d_M_typeAt_44 : decode b_M_typeAt 44 = .ok (.aload_n 0, 1) := by decide +kernel
theorem d_M_typeAt_45 : decode b_M_typeAt 45 = .ok (.getfield 60, 3) := by decide +kernel
theorem d_M_typeAt_48 : decode b_M_typeAt 48 = .ok (.if_icmp .ge 46, 3) := by decide +kernel
theorem d_M_typeAt_51 : decode b_M_typeAt 51 = .ok (.aload_n 0, 1) := by decide +kernel
theorem d_M_typeAt_52 : decode b_M_typeAt 52 = .ok (.getfield 37, 3) := by decide +kernel
theorem d_M_typeAt_55 : decode b_M_typeAt 55 = .ok (.iload 7, 2) := by decide +kernel
theorem d_M_typeAt_57 : decode b_M_typeAt 57 = .ok (.baload, 1) := by decide +kernel
theorem d_M_typeAt_58 : decode b_M_typeAt 58 = .ok (.ifCond .eq 30, 3) := by decide +kernel
theorem d_M_typeAt_61 : decode b_M_typeAt 61 = .ok (.aload_n 0, 1) := by decide +kernel
theorem d_M_typeAt_62 : decode b_M_typeAt 62 = .ok (.getfield 22, 3) := by decide +kernel
theorem d_M_typeAt_65 : decode b_M_typeAt 65 = .ok (.iload 7, 2) := by decide +kernel
theorem d_M_typeAt_67 : decode b_M_typeAt 67 = .ok (.iaload, 1) := by decide +kernel
theorem d_M_typeAt_68 : decode b_M_typeAt 68 = .ok (.iload_n 1, 1) := by decide +kernel
theorem d_M_typeAt_69 : decode b_M_typeAt 69 = .ok (.if_icmp .ne 19, 3) := by decide +kernel
theorem d_M_typeAt_72 : decode b_M_typeAt 72 = .ok (.lload_n 3, 1) := by decide +kernel
theorem d_M_typeAt_73 : decode b_M_typeAt 73 = .ok (.lconst 1, 1) := by decide +kernel
theorem d_M_typeAt_74 : decode b_M_typeAt 74 = .ok (.ladd, 1) := by decide +kernel
theorem d_M_typeAt_75 : decode b_M_typeAt 75 = .ok (.lstore_n 3, 1) := by decide +kernel
theorem d_M_typeAt_76 : decode b_M_typeAt 76 = .ok (.lload 5, 2) := by decide +kernel
theorem d_M_typeAt_78 : decode b_M_typeAt 78 = .ok (.aload_n 0, 1) := by decide +kernel
theorem d_M_typeAt_79 : decode b_M_typeAt 79 = .ok (.iload 7, 2) := by decide +kernel
theorem d_M_typeAt_81 : decode b_M_typeAt 81 = .ok (.invokevirtual 141, 3) := by decide +kernel
theorem d_M_typeAt_84 : decode b_M_typeAt 84 = .ok (.i2l, 1) := by decide +kernel
theorem d_M_typeAt_85 : decode b_M_typeAt 85 = .ok (.ladd, 1) := by decide +kernel
theorem d_M_typeAt_86 : decode b_M_typeAt 86 = .ok (.lstore 5, 2) := by decide +kernel
theorem d_M_typeAt_88 : decode b_M_typeAt 88 = .ok (.iinc 7 1, 3) := by decide +kernel
theorem d_M_typeAt_91 : decode b_M_typeAt 91 = .ok (.goto (-49), 3) := by decide +kernel
theorem d_M_typeAt_94 : decode b_M_typeAt 94 = .ok (.iload_n 2, 1) := by decide +kernel
theorem d_M_typeAt_95 : decode b_M_typeAt 95 = .ok (.ifCond .ne 13, 3) := by decide +kernel
theorem d_M_typeAt_98 : decode b_M_typeAt 98 = .ok (.aload_n 0, 1) := by decide +kernel
theorem d_M_typeAt_99 : decode b_M_typeAt 99 = .ok (.getfield 16, 3) := by decide +kernel
theorem d_M_typeAt_102 : decode b_M_typeAt 102 = .ok (.iload_n 1, 1) := by decide +kernel
theorem d_M_typeAt_103 : decode b_M_typeAt 103 = .ok (.iaload, 1) := by decide +kernel
theorem d_M_typeAt_104 : decode b_M_typeAt 104 = .ok (.i2l, 1) := by decide +kernel
theorem d_M_typeAt_105 : decode b_M_typeAt 105 = .ok (.goto 14, 3) := by decide +kernel
theorem d_M_typeAt_108 : decode b_M_typeAt 108 = .ok (.iload_n 2, 1) := by decide +kernel
theorem d_M_typeAt_109 : decode b_M_typeAt 109 = .ok (.iconst 1, 1) := by decide +kernel
theorem d_M_typeAt_110 : decode b_M_typeAt 110 = .ok (.if_icmp .ne 7, 3) := by decide +kernel
theorem d_M_typeAt_113 : decode b_M_typeAt 113 = .ok (.lload_n 3, 1) := by decide +kernel
theorem d_M_typeAt_114 : decode b_M_typeAt 114 = .ok (.goto 5, 3) := by decide +kernel
theorem d_M_typeAt_117 : decode b_M_typeAt 117 = .ok (.lload 5, 2) := by decide +kernel
theorem d_M_typeAt_119 : decode b_M_typeAt 119 = .ok (.lreturn, 1) := by decide +kernel
theorem d_M_hasBody_0 : decode b_M_hasBody 0 = .ok (.aload_n 0, 1) := by decide +kernel
theorem d_M_hasBody_1 : decode b_M_hasBody 1 = .ok (.getfield 16, 3) := by decide +kernel
theorem d_M_hasBody_4 : decode b_M_hasBody 4 = .ok (.aload_n 0, 1) := by decide +kernel
theorem d_M_hasBody_5 : decode b_M_hasBody 5 = .ok (.getfield 22, 3) := by decide +kernel
theorem d_M_hasBody_8 : decode b_M_hasBody 8 = .ok (.iload_n 1, 1) := by decide +kernel
theorem d_M_hasBody_9 : decode b_M_hasBody 9 = .ok (.iaload, 1) := by decide +kernel
theorem d_M_hasBody_10 : decode b_M_hasBody 10 = .ok (.iaload, 1) := by decide +kernel
theorem d_M_hasBody_11 : decode b_M_hasBody 11 = .ok (.iconst 2, 1) := by decide +kernel
theorem d_M_hasBody_12 : decode b_M_hasBody 12 = .ok (.idiv, 1) := by decide +kernel
theorem d_M_hasBody_13 : decode b_M_hasBody 13 = .ok (.istore 4, 2) := by decide +kernel
theorem d_M_hasBody_15 : decode b_M_hasBody 15 = .ok (.aload_n 0, 1) := by decide +kernel
theorem d_M_hasBody_16 : decode b_M_hasBody 16 = .ok (.iload_n 1, 1) := by decide +kernel
theorem d_M_hasBody_17 : decode b_M_hasBody 17 = .ok (.invokevirtual 132, 3) := by decide +kernel
theorem d_M_hasBody_20 : decode b_M_hasBody 20 = .ok (.istore 5, 2) := by decide +kernel
theorem d_M_hasBody_22 : decode b_M_hasBody 22 = .ok (.iload 5, 2) := by decide +kernel
theorem d_M_hasBody_24 : decode b_M_hasBody 24 = .ok (.ifCond .eq 12, 3) := by decide +kernel
theorem d_M_hasBody_27 : decode b_M_hasBody 27 = .ok (.aload_n 0, 1) := by decide +kernel
theorem d_M_hasBody_28 : decode b_M_hasBody 28 = .ok (.getfield 25, 3) := by decide +kernel
theorem d_M_hasBody_31 : decode b_M_hasBody 31 = .ok (.iload_n 1, 1) := by decide +kernel
theorem d_M_hasBody_32 : decode b_M_hasBody 32 = .ok (.iaload, 1) := by decide +kernel
theorem d_M_hasBody_33 : decode b_M_hasBody 33 = .ok (.goto 9, 3) := by decide +kernel
theorem d_M_hasBody_36 : decode b_M_hasBody 36 = .ok (.aload_n 0, 1) := by decide +kernel
theorem d_M_hasBody_37 : decode b_M_hasBody 37 = .ok (.getfield 28, 3) := by decide +kernel
theorem d_M_hasBody_40 : decode b_M_hasBody 40 = .ok (.iload_n 1, 1) := by decide +kernel
theorem d_M_hasBody_41 : decode b_M_hasBody 41 = .ok (.iaload, 1) := by decide +kernel
theorem d_M_hasBody_42 : decode b_M_hasBody 42 = .ok (.istore 6, 2) := by decide +kernel
theorem d_M_hasBody_44 : decode b_M_hasBody 44 = .ok (.iload 5, 2) := by decide +kernel
theorem d_M_hasBody_46 : decode b_M_hasBody 46 = .ok (.ifCond .eq 12, 3) := by decide +kernel
theorem d_M_hasBody_49 : decode b_M_hasBody 49 = .ok (.aload_n 0, 1) := by decide +kernel
theorem d_M_hasBody_50 : decode b_M_hasBody 50 = .ok (.getfield 31, 3) := by decide +kernel
theorem d_M_hasBody_53 : decode b_M_hasBody 53 = .ok (.iload_n 1, 1) := by decide +kernel
theorem d_M_hasBody_54 : decode b_M_hasBody 54 = .ok (.iaload, 1) := by decide +kernel
theorem d_M_hasBody_55 : decode b_M_hasBody 55 = .ok (.goto 9, 3) := by decide +kernel
theorem d_M_hasBody_58 : decode b_M_hasBody 58 = .ok (.aload_n 0, 1) := by decide +kernel
theorem d_M_hasBody_59 : decode b_M_hasBody 59 = .ok (.getfield 34, 3) := by decide +kernel
theorem d_M_hasBody_62 : decode b_M_hasBody 62 = .ok (.iload_n 1, 1) := by decide +kernel
theorem d_M_hasBody_63 : decode b_M_hasBody 63 = .ok (.iaload, 1) := by decide +kernel
theorem d_M_hasBody_64 : decode b_M_hasBody 64 = .ok (.istore 7, 2) := by decide +kernel
theorem d_M_hasBody_66 : decode b_M_hasBody 66 = .ok (.iload 5, 2) := by decide +kernel
theorem d_M_hasBody_68 : decode b_M_hasBody 68 = .ok (.ifCond .eq 8, 3) := by decide +kernel
theorem d_M_hasBody_71 : decode b_M_hasBody 71 = .ok (.iload_n 3, 1) := by decide +kernel
theorem d_M_hasBody_72 : decode b_M_hasBody 72 = .ok (.i2l, 1) := by decide +kernel
theorem d_M_hasBody_73 : decode b_M_hasBody 73 = .ok (.goto 5, 3) := by decide +kernel
theorem d_M_hasBody_76 : decode b_M_hasBody 76 = .ok (.iload_n 2, 1) := by decide +kernel
theorem d_M_hasBody_77 : decode b_M_hasBody 77 = .ok (.i2l, 1) := by decide +kernel
theorem d_M_hasBody_78 : decode b_M_hasBody 78 = .ok (.iload 5, 2) := by decide +kernel
theorem d_M_hasBody_80 : decode b_M_hasBody 80 = .ok (.ifCond .eq 12, 3) := by decide +kernel
theorem d_M_hasBody_83 : decode b_M_hasBody 83 = .ok (.aload_n 0, 1) := by decide +kernel
theorem d_M_hasBody_84 : decode b_M_hasBody 84 = .ok (.getfield 28, 3) := by decide +kernel
theorem d_M_hasBody_87 : decode b_M_hasBody 87 = .ok (.iload_n 1, 1) := by decide +kernel
theorem d_M_hasBody_88 : decode b_M_hasBody 88 = .ok (.iaload, 1) := by decide +kernel
theorem d_M_hasBody_89 : decode b_M_hasBody 89 = .ok (.goto 9, 3) := by decide +kernel
theorem d_M_hasBody_92 : decode b_M_hasBody 92 = .ok (.aload_n 0, 1) := by decide +kernel
theorem d_M_hasBody_93 : decode b_M_hasBody 93 = .ok (.getfield 25, 3) := by decide +kernel
theorem d_M_hasBody_96 : decode b_M_hasBody 96 = .ok (.iload_n 1, 1) := by decide +kernel
theorem d_M_hasBody_97 : decode b_M_hasBody 97 = .ok (.iaload, 1) := by decide +kernel
theorem d_M_hasBody_98 : decode b_M_hasBody 98 = .ok (.i2l, 1) := by decide +kernel
theorem d_M_hasBody_99 : decode b_M_hasBody 99 = .ok (.lsub, 1) := by decide +kernel
theorem d_M_hasBody_100 : decode b_M_hasBody 100 = .ok (.lstore 8, 2) := by decide +kernel
theorem d_M_hasBody_102 : decode b_M_hasBody 102 = .ok (.iload 5, 2) := by decide +kernel
theorem d_M_hasBody_104 : decode b_M_hasBody 104 = .ok (.ifCond .eq 7, 3) := by decide +kernel
theorem d_M_hasBody_107 : decode b_M_hasBody 107 = .ok (.iload_n 2, 1) := by decide +kernel
theorem d_M_hasBody_108 : decode b_M_hasBody 108 = .ok (.goto 4, 3) := by decide +kernel
theorem d_M_hasBody_111 : decode b_M_hasBody 111 = .ok (.iload_n 3, 1) := by decide +kernel
theorem d_M_hasBody_112 : decode b_M_hasBody 112 = .ok (.istore 10, 2) := by decide +kernel
theorem d_M_hasBody_114 : decode b_M_hasBody 114 = .ok (.lload 8, 2) := by decide +kernel
theorem d_M_hasBody_116 : decode b_M_hasBody 116 = .ok (.iload 4, 2) := by decide +kernel
theorem d_M_hasBody_118 : decode b_M_hasBody 118 = .ok (.ineg, 1) := by decide +kernel
theorem d_M_hasBody_119 : decode b_M_hasBody 119 = .ok (.i2l, 1) := by decide +kernel
theorem d_M_hasBody_120 : decode b_M_hasBody 120 = .ok (.lcmp, 1) := by decide +kernel
theorem d_M_hasBody_121 : decode b_M_hasBody 121 = .ok (.ifCond .lt 54, 3) := by decide +kernel
theorem d_M_hasBody_124 : decode b_M_hasBody 124 = .ok (.lload 8, 2) := by decide +kernel
theorem d_M_hasBody_126 : decode b_M_hasBody 126 = .ok (.iload 4, 2) := by decide +kernel
theorem d_M_hasBody_128 : decode b_M_hasBody 128 = .ok (.i2l, 1) := by decide +kernel
theorem d_M_hasBody_129 : decode b_M_hasBody 129 = .ok (.lcmp, 1) := by decide +kernel
theorem d_M_hasBody_130 : decode b_M_hasBody 130 = .ok (.ifCond .gt 45, 3) := by decide +kernel
theorem d_M_hasBody_133 : decode b_M_hasBody 133 = .ok (.iload 10, 2) := by decide +kernel
theorem d_M_hasBody_135 : decode b_M_hasBody 135 = .ok (.iload 6, 2) := by decide +kernel
theorem d_M_hasBody_137 : decode b_M_hasBody 137 = .ok (.iload 7, 2) := by decide +kernel
theorem d_M_hasBody_139 : decode b_M_hasBody 139 = .ok (.if_icmp .ge 8, 3) := by decide +kernel
theorem d_M_hasBody_142 : decode b_M_hasBody 142 = .ok (.iload 6, 2) := by decide +kernel
theorem d_M_hasBody_144 : decode b_M_hasBody 144 = .ok (.goto 5, 3) := by decide +kernel
theorem d_M_hasBody_147 : decode b_M_hasBody 147 = .ok (.iload 7, 2) := by decide +kernel
theorem d_M_hasBody_149 : decode b_M_hasBody 149 = .ok (.if_icmp .lt 26, 3) := by decide +kernel
theorem d_M_hasBody_152 : decode b_M_hasBody 152 = .ok (.iload 10, 2) := by decide +kernel
theorem d_M_hasBody_154 : decode b_M_hasBody 154 = .ok (.iload 6, 2) := by decide +kernel
theorem d_M_hasBody_156 : decode b_M_hasBody 156 = .ok (.iload 7, 2) := by decide +kernel
theorem d_M_hasBody_158 : decode b_M_hasBody 158 = .ok (.if_icmp .ge 8, 3) := by decide +kernel
theorem d_M_hasBody_161 : decode b_M_hasBody 161 = .ok (.iload 7, 2) := by decide +kernel
theorem d_M_hasBody_163 : decode b_M_hasBody 163 = .ok (.goto 5, 3) := by decide +kernel
theorem d_M_hasBody_166 : decode b_M_hasBody 166 = .ok (.iload 6, 2) := by decide +kernel
theorem d_M_hasBody_168 : decode b_M_hasBody 168 = .ok (.if_icmp .gt 7, 3) := by decide +kernel
theorem d_M_hasBody_171 : decode b_M_hasBody 171 = .ok (.iconst 1, 1) := by decide +kernel
theorem d_M_hasBody_172 : decode b_M_hasBody 172 = .ok (.goto 4, 3) := by decide +kernel
theorem d_M_hasBody_175 : decode b_M_hasBody 175 = .ok (.iconst 0, 1) := by decide +kernel
theorem d_M_hasBody_176 : decode b_M_hasBody 176 = .ok (.ireturn, 1) := by decide +kernel
theorem d_M_body_0 : decode b_M_body 0 = .ok (.aload_n 0, 1) := by decide +kernel
theorem d_M_body_1 : decode b_M_body 1 = .ok (.aload_n 0, 1) := by decide +kernel
theorem d_M_body_2 : decode b_M_body 2 = .ok (.iload_n 1, 1) := by decide +kernel
theorem d_M_body_3 : decode b_M_body 3 = .ok (.invokevirtual 106, 3) := by decide +kernel
theorem d_M_body_6 : decode b_M_body 6 = .ok (.ifCond .eq 22, 3) := by decide +kernel
theorem d_M_body_9 : decode b_M_body 9 = .ok (.iload_n 2, 1) := by decide +kernel
theorem d_M_body_10 : decode b_M_body 10 = .ok (.i2l, 1) := by decide +kernel
theorem d_M_body_11 : decode b_M_body 11 = .ok (.iload_n 3, 1) := by decide +kernel
theorem d_M_body_12 : decode b_M_body 12 = .ok (.i2l, 1) := by decide +kernel
theorem d_M_body_13 : decode b_M_body 13 = .ok (.invokestatic 116, 3) := by decide +kernel
theorem d_M_body_16 : decode b_M_body 16 = .ok (.ifCond .eq 12, 3) := by decide +kernel
theorem d_M_body_19 : decode b_M_body 19 = .ok (.iload 4, 2) := by decide +kernel
theorem d_M_body_21 : decode b_M_body 21 = .ok (.ifCond .lt 7, 3) := by decide +kernel
theorem d_M_body_24 : decode b_M_body 24 = .ok (.iconst 1, 1) := by decide +kernel
theorem d_M_body_25 : decode b_M_body 25 = .ok (.goto 4, 3) := by decide +kernel
theorem d_M_body_28 : decode b_M_body 28 = .ok (.iconst 0, 1) := by decide +kernel
theorem d_M_body_29 : decode b_M_body 29 = .ok (.invokevirtual 148, 3) := by decide +kernel
theorem d_M_body_32 : decode b_M_body 32 = .ok (.ifCond .ne 5, 3) := by decide +kernel
theorem d_M_body_35 : decode b_M_body 35 = .ok (.iconst 0, 1) := by decide +kernel
theorem d_M_body_36 : decode b_M_body 36 = .ok (.ireturn, 1) := by decide +kernel
theorem d_M_body_37 : decode b_M_body 37 = .ok (.iload 4, 2) := by decide +kernel
theorem d_M_body_39 : decode b_M_body 39 = .ok (.istore 5, 2) := by decide +kernel
theorem d_M_body_41 : decode b_M_body 41 = .ok (.iconst 0, 1) := by decide +kernel
theorem d_M_body_42 : decode b_M_body 42 = .ok (.istore 6, 2) := by decide +kernel
theorem d_M_body_44 : decode b_M_body 44 = .ok (.iload 6, 2) := by decide +kernel
theorem d_M_body_46 : decode b_M_body 46 = .ok (.aload_n 0, 1) := by decide +kernel
theorem d_M_body_47 : decode b_M_body 47 = .ok (.getfield 60, 3) := by decide +kernel
theorem d_M_body_50 : decode b_M_body 50 = .ok (.if_icmp .ge 52, 3) := by decide +kernel
theorem d_M_body_53 : decode b_M_body 53 = .ok (.aload_n 0, 1) := by decide +kernel
theorem d_M_body_54 : decode b_M_body 54 = .ok (.getfield 37, 3) := by decide +kernel
theorem d_M_body_57 : decode b_M_body 57 = .ok (.iload 6, 2) := by decide +kernel
theorem d_M_body_59 : decode b_M_body 59 = .ok (.baload, 1) := by decide +kernel
theorem d_M_body_60 : decode b_M_body 60 = .ok (.ifCond .eq 36, 3) := by decide +kernel
theorem d_M_body_63 : decode b_M_body 63 = .ok (.aload_n 0, 1) := by decide +kernel
theorem d_M_body_64 : decode b_M_body 64 = .ok (.getfield 19, 3) := by decide +kernel
theorem d_M_body_67 : decode b_M_body 67 = .ok (.iload 6, 2) := by decide +kernel
theorem d_M_body_69 : decode b_M_body 69 = .ok (.iaload, 1) := by decide +kernel
theorem d_M_body_70 : decode b_M_body 70 = .ok (.iload_n 1, 1) := by decide +kernel
theorem d_M_body_71 : decode b_M_body 71 = .ok (.if_icmp .ne 25, 3) := by decide +kernel
theorem d_M_body_74 : decode b_M_body 74 = .ok (.aload_n 0, 1) := by decide +kernel
theorem d_M_body_75 : decode b_M_body 75 = .ok (.iload 6, 2) := by decide +kernel
theorem d_M_body_77 : decode b_M_body 77 = .ok (.iload_n 2, 1) := by decide +kernel
theorem d_M_body_78 : decode b_M_body 78 = .ok (.iload_n 3, 1) := by decide +kernel
theorem d_M_body_79 : decode b_M_body 79 = .ok (.invokevirtual 160, 3) := by decide +kernel
theorem d_M_body_82 : decode b_M_body 82 = .ok (.ifCond .eq 14, 3) := by decide +kernel
theorem d_M_body_85 : decode b_M_body 85 = .ok (.iload 5, 2) := by decide +kernel
theorem d_M_body_87 : decode b_M_body 87 = .ok (.ifCond .ne 6, 3) := by decide +kernel
theorem d_M_body_90 : decode b_M_body 90 = .ok (.iload 6, 2) := by decide +kernel
theorem d_M_body_92 : decode b_M_body 92 = .ok (.ireturn, 1) := by decide +kernel
theorem d_M_body_93 : decode b_M_body 93 = .ok (.iinc 5 (-1), 3) := by decide +kernel
theorem d_M_body_96 : decode b_M_body 96 = .ok (.iinc 6 1, 3) := by decide +kernel
theorem d_M_body_99 : decode b_M_body 99 = .ok (.goto (-55), 3) := by decide +kernel
theorem d_M_body_102 : decode b_M_body 102 = .ok (.iconst (-1), 1) := by decide +kernel
theorem d_M_body_103 : decode b_M_body 103 = .ok (.ireturn, 1) := by decide +kernel
theorem d_H_init_0 : decode b_H_init 0 = .ok (.aload_n 0, 1) := by decide +kernel
theorem d_H_init_1 : decode b_H_init 1 = .ok (.invokespecial 3, 3) := by decide +kernel
theorem d_H_init_4 : decode b_H_init 4 = .ok (.aload_n 0, 1) := by decide +kernel
theorem d_H_init_5 : decode b_H_init 5 = .ok (.sipush 200, 3) := by decide +kernel
theorem d_H_init_8 : decode b_H_init 8 = .ok (.newarray .int, 2) := by decide +kernel
theorem d_H_init_10 : decode b_H_init 10 = .ok (.putfield 9, 3) := by decide +kernel
theorem d_H_init_13 : decode b_H_init 13 = .ok (.aload_n 0, 1) := by decide +kernel
theorem d_H_init_14 : decode b_H_init 14 = .ok (.sipush 200, 3) := by decide +kernel
theorem d_H_init_17 : decode b_H_init 17 = .ok (.newarray .int, 2) := by decide +kernel
theorem d_H_init_19 : decode b_H_init 19 = .ok (.putfield 15, 3) := by decide +kernel
theorem d_H_init_22 : decode b_H_init 22 = .ok (.aload_n 0, 1) := by decide +kernel
theorem d_H_init_23 : decode b_H_init 23 = .ok (.sipush 200, 3) := by decide +kernel
theorem d_H_init_26 : decode b_H_init 26 = .ok (.newarray .int, 2) := by decide +kernel
theorem d_H_init_28 : decode b_H_init 28 = .ok (.putfield 18, 3) := by decide +kernel
theorem d_H_init_31 : decode b_H_init 31 = .ok (.aload_n 0, 1) := by decide +kernel
theorem d_H_init_32 : decode b_H_init 32 = .ok (.sipush 200, 3) := by decide +kernel
theorem d_H_init_35 : decode b_H_init 35 = .ok (.newarray .int, 2) := by decide +kernel
theorem d_H_init_37 : decode b_H_init 37 = .ok (.putfield 21, 3) := by decide +kernel
theorem d_H_init_40 : decode b_H_init 40 = .ok (.aload_n 0, 1) := by decide +kernel
theorem d_H_init_41 : decode b_H_init 41 = .ok (.iconst 0, 1) := by decide +kernel
theorem d_H_init_42 : decode b_H_init 42 = .ok (.putfield 24, 3) := by decide +kernel
theorem d_H_init_45 : decode b_H_init 45 = .ok (.aload_n 0, 1) := by decide +kernel
theorem d_H_init_46 : decode b_H_init 46 = .ok (.iconst 0, 1) := by decide +kernel
theorem d_H_init_47 : decode b_H_init 47 = .ok (.putfield 28, 3) := by decide +kernel
theorem d_H_init_50 : decode b_H_init 50 = .ok (.return_, 1) := by decide +kernel
theorem d_H_write_0 : decode b_H_write 0 = .ok (.aload_n 0, 1) := by decide +kernel
theorem d_H_write_1 : decode b_H_write 1 = .ok (.getfield 9, 3) := by decide +kernel
theorem d_H_write_4 : decode b_H_write 4 = .ok (.aload_n 0, 1) := by decide +kernel
theorem d_H_write_5 : decode b_H_write 5 = .ok (.getfield 24, 3) := by decide +kernel
theorem d_H_write_8 : decode b_H_write 8 = .ok (.iload_n 1, 1) := by decide +kernel
theorem d_H_write_9 : decode b_H_write 9 = .ok (.iastore, 1) := by decide +kernel
theorem d_H_write_10 : decode b_H_write 10 = .ok (.aload_n 0, 1) := by decide +kernel
theorem d_H_write_11 : decode b_H_write 11 = .ok (.getfield 15, 3) := by decide +kernel
theorem d_H_write_14 : decode b_H_write 14 = .ok (.aload_n 0, 1) := by decide +kernel
theorem d_H_write_15 : decode b_H_write 15 = .ok (.getfield 24, 3) := by decide +kernel
theorem d_H_write_18 : decode b_H_write 18 = .ok (.iload_n 2, 1) := by decide +kernel
theorem d_H_write_19 : decode b_H_write 19 = .ok (.iastore, 1) := by decide +kernel
theorem d_H_write_20 : decode b_H_write 20 = .ok (.aload_n 0, 1) := by decide +kernel
theorem d_H_write_21 : decode b_H_write 21 = .ok (.getfield 18, 3) := by decide +kernel
theorem d_H_write_24 : decode b_H_write 24 = .ok (.aload_n 0, 1) := by decide +kernel
theorem d_H_write_25 : decode b_H_write 25 = .ok (.getfield 24, 3) := by decide +kernel
theorem d_H_write_28 : decode b_H_write 28 = .ok (.iload_n 3, 1) := by decide +kernel
theorem d_H_write_29 : decode b_H_write 29 = .ok (.iastore, 1) := by decide +kernel
theorem d_H_write_30 : decode b_H_write 30 = .ok (.aload_n 0, 1) := by decide +kernel
theorem d_H_write_31 : decode b_H_write 31 = .ok (.getfield 21, 3) := by decide +kernel
theorem d_H_write_34 : decode b_H_write 34 = .ok (.aload_n 0, 1) := by decide +kernel
theorem d_H_write_35 : decode b_H_write 35 = .ok (.getfield 24, 3) := by decide +kernel
theorem d_H_write_38 : decode b_H_write 38 = .ok (.iload 4, 2) := by decide +kernel
theorem d_H_write_40 : decode b_H_write 40 = .ok (.iastore, 1) := by decide +kernel
theorem d_H_write_41 : decode b_H_write 41 = .ok (.aload_n 0, 1) := by decide +kernel
theorem d_H_write_42 : decode b_H_write 42 = .ok (.aload_n 0, 1) := by decide +kernel
theorem d_H_write_43 : decode b_H_write 43 = .ok (.getfield 24, 3) := by decide +kernel
theorem d_H_write_46 : decode b_H_write 46 = .ok (.iconst 1, 1) := by decide +kernel
theorem d_H_write_47 : decode b_H_write 47 = .ok (.iadd, 1) := by decide +kernel
theorem d_H_write_48 : decode b_H_write 48 = .ok (.putfield 28, 3) := by decide +kernel
theorem d_H_write_51 : decode b_H_write 51 = .ok (.return_, 1) := by decide +kernel
theorem d_O_init_0 : decode b_O_init 0 = .ok (.aload_n 0, 1) := by decide +kernel
theorem d_O_init_1 : decode b_O_init 1 = .ok (.invokespecial 3, 3) := by decide +kernel
theorem d_O_init_4 : decode b_O_init 4 = .ok (.aload_n 0, 1) := by decide +kernel
theorem d_O_init_5 : decode b_O_init 5 = .ok (.bipush 60, 2) := by decide +kernel
theorem d_O_init_7 : decode b_O_init 7 = .ok (.newarray .int, 2) := by decide +kernel
theorem d_O_init_9 : decode b_O_init 9 = .ok (.putfield 9, 3) := by decide +kernel
theorem d_O_init_12 : decode b_O_init 12 = .ok (.aload_n 0, 1) := by decide +kernel
theorem d_O_init_13 : decode b_O_init 13 = .ok (.bipush 60, 2) := by decide +kernel
theorem d_O_init_15 : decode b_O_init 15 = .ok (.newarray .int, 2) := by decide +kernel
theorem d_O_init_17 : decode b_O_init 17 = .ok (.putfield 15, 3) := by decide +kernel
theorem d_O_init_20 : decode b_O_init 20 = .ok (.aload_n 0, 1) := by decide +kernel
theorem d_O_init_21 : decode b_O_init 21 = .ok (.bipush 60, 2) := by decide +kernel
theorem d_O_init_23 : decode b_O_init 23 = .ok (.newarray .int, 2) := by decide +kernel
theorem d_O_init_25 : decode b_O_init 25 = .ok (.putfield 18, 3) := by decide +kernel
theorem d_O_init_28 : decode b_O_init 28 = .ok (.aload_n 0, 1) := by decide +kernel
theorem d_O_init_29 : decode b_O_init 29 = .ok (.iconst 0, 1) := by decide +kernel
theorem d_O_init_30 : decode b_O_init 30 = .ok (.putfield 21, 3) := by decide +kernel
theorem d_O_init_33 : decode b_O_init 33 = .ok (.return_, 1) := by decide +kernel
theorem d_O_has_0 : decode b_O_has 0 = .ok (.iload_n 1, 1) := by decide +kernel
theorem d_O_has_1 : decode b_O_has 1 = .ok (.ifCond .lt 15, 3) := by decide +kernel
theorem d_O_has_4 : decode b_O_has 4 = .ok (.iload_n 1, 1) := by decide +kernel
theorem d_O_has_5 : decode b_O_has 5 = .ok (.aload_n 0, 1) := by decide +kernel
theorem d_O_has_6 : decode b_O_has 6 = .ok (.getfield 21, 3) := by decide +kernel
theorem d_O_has_9 : decode b_O_has 9 = .ok (.if_icmp .ge 7, 3) := by decide +kernel
theorem d_O_has_12 : decode b_O_has 12 = .ok (.iconst 1, 1) := by decide +kernel
theorem d_O_has_13 : decode b_O_has 13 = .ok (.goto 4, 3) := by decide +kernel
theorem d_O_has_16 : decode b_O_has 16 = .ok (.iconst 0, 1) := by decide +kernel
theorem d_O_has_17 : decode b_O_has 17 = .ok (.ireturn, 1) := by decide +kernel
theorem d_O_manyOf_0 : decode b_O_manyOf 0 = .ok (.iconst 0, 1) := by decide +kernel
theorem d_O_manyOf_1 : decode b_O_manyOf 1 = .ok (.istore_n 2, 1) := by decide +kernel
theorem d_O_manyOf_2 : decode b_O_manyOf 2 = .ok (.iconst 0, 1) := by decide +kernel
theorem d_O_manyOf_3 : decode b_O_manyOf 3 = .ok (.istore_n 3, 1) := by decide +kernel
theorem d_O_manyOf_4 : decode b_O_manyOf 4 = .ok (.iload_n 3, 1) := by decide +kernel
theorem d_O_manyOf_5 : decode b_O_manyOf 5 = .ok (.aload_n 0, 1) := by decide +kernel
theorem d_O_manyOf_6 : decode b_O_manyOf 6 = .ok (.getfield 21, 3) := by decide +kernel
theorem d_O_manyOf_9 : decode b_O_manyOf 9 = .ok (.if_icmp .ge 22, 3) := by decide +kernel
theorem d_O_manyOf_12 : decode b_O_manyOf 12 = .ok (.aload_n 0, 1) := by decide +kernel
theorem d_O_manyOf_13 : decode b_O_manyOf 13 = .ok (.getfield 9, 3) := by decide +kernel
theorem d_O_manyOf_16 : decode b_O_manyOf 16 = .ok (.iload_n 3, 1) := by decide +kernel
theorem d_O_manyOf_17 : decode b_O_manyOf 17 = .ok (.iaload, 1) := by decide +kernel
theorem d_O_manyOf_18 : decode b_O_manyOf 18 = .ok (.iload_n 1, 1) := by decide +kernel
theorem d_O_manyOf_19 : decode b_O_manyOf 19 = .ok (.if_icmp .ne 6, 3) := by decide +kernel
theorem d_O_manyOf_22 : decode b_O_manyOf 22 = .ok (.iinc 2 1, 3) := by decide +kernel
theorem d_O_manyOf_25 : decode b_O_manyOf 25 = .ok (.iinc 3 1, 3) := by decide +kernel
theorem d_O_manyOf_28 : decode b_O_manyOf 28 = .ok (.goto (-24), 3) := by decide +kernel
theorem d_O_manyOf_31 : decode b_O_manyOf 31 = .ok (.iload_n 2, 1) := by decide +kernel
theorem d_O_manyOf_32 : decode b_O_manyOf 32 = .ok (.ireturn, 1) := by decide +kernel
theorem d_O_widthOf_0 : decode b_O_widthOf 0 = .ok (.iconst 0, 1) := by decide +kernel
theorem d_O_widthOf_1 : decode b_O_widthOf 1 = .ok (.istore_n 2, 1) := by decide +kernel
theorem d_O_widthOf_2 : decode b_O_widthOf 2 = .ok (.iconst 0, 1) := by decide +kernel
theorem d_O_widthOf_3 : decode b_O_widthOf 3 = .ok (.istore_n 3, 1) := by decide +kernel
theorem d_O_widthOf_4 : decode b_O_widthOf 4 = .ok (.iload_n 3, 1) := by decide +kernel
theorem d_O_widthOf_5 : decode b_O_widthOf 5 = .ok (.aload_n 0, 1) := by decide +kernel
theorem d_O_widthOf_6 : decode b_O_widthOf 6 = .ok (.getfield 21, 3) := by decide +kernel
theorem d_O_widthOf_9 : decode b_O_widthOf 9 = .ok (.if_icmp .ge 28, 3) := by decide +kernel
theorem d_O_widthOf_12 : decode b_O_widthOf 12 = .ok (.aload_n 0, 1) := by decide +kernel
theorem d_O_widthOf_13 : decode b_O_widthOf 13 = .ok (.getfield 9, 3) := by decide +kernel
theorem d_O_widthOf_16 : decode b_O_widthOf 16 = .ok (.iload_n 3, 1) := by decide +kernel
theorem d_O_widthOf_17 : decode b_O_widthOf 17 = .ok (.iaload, 1) := by decide +kernel
theorem d_O_widthOf_18 : decode b_O_widthOf 18 = .ok (.iload_n 1, 1) := by decide +kernel
theorem d_O_widthOf_19 : decode b_O_widthOf 19 = .ok (.if_icmp .ne 12, 3) := by decide +kernel
theorem d_O_widthOf_22 : decode b_O_widthOf 22 = .ok (.iload_n 2, 1) := by decide +kernel
theorem d_O_widthOf_23 : decode b_O_widthOf 23 = .ok (.aload_n 0, 1) := by decide +kernel
theorem d_O_widthOf_24 : decode b_O_widthOf 24 = .ok (.getfield 18, 3) := by decide +kernel
theorem d_O_widthOf_27 : decode b_O_widthOf 27 = .ok (.iload_n 3, 1) := by decide +kernel
theorem d_O_widthOf_28 : decode b_O_widthOf 28 = .ok (.iaload, 1) := by decide +kernel
theorem d_O_widthOf_29 : decode b_O_widthOf 29 = .ok (.iadd, 1) := by decide +kernel
theorem d_O_widthOf_30 : decode b_O_widthOf 30 = .ok (.istore_n 2, 1) := by decide +kernel
theorem d_O_widthOf_31 : decode b_O_widthOf 31 = .ok (.iinc 3 1, 3) := by decide +kernel
theorem d_O_widthOf_34 : decode b_O_widthOf 34 = .ok (.goto (-30), 3) := by decide +kernel
theorem d_O_widthOf_37 : decode b_O_widthOf 37 = .ok (.iload_n 2, 1) := by decide +kernel
theorem d_O_widthOf_38 : decode b_O_widthOf 38 = .ok (.ireturn, 1) := by decide +kernel
theorem d_O_overlap_0 : decode b_O_overlap 0 = .ok (.iconst 0, 1) := by decide +kernel
theorem d_O_overlap_1 : decode b_O_overlap 1 = .ok (.istore 4, 2) := by decide +kernel
theorem d_O_overlap_3 : decode b_O_overlap 3 = .ok (.iload 4, 2) := by decide +kernel
theorem d_O_overlap_5 : decode b_O_overlap 5 = .ok (.aload_n 0, 1) := by decide +kernel
theorem d_O_overlap_6 : decode b_O_overlap 6 = .ok (.getfield 21, 3) := by decide +kernel
theorem d_O_overlap_9 : decode b_O_overlap 9 = .ok (.if_icmp .ge 54, 3) := by decide +kernel
theorem d_O_overlap_12 : decode b_O_overlap 12 = .ok (.aload_n 0, 1) := by decide +kernel
theorem d_O_overlap_13 : decode b_O_overlap 13 = .ok (.getfield 9, 3) := by decide +kernel
theorem d_O_overlap_16 : decode b_O_overlap 16 = .ok (.iload 4, 2) := by decide +kernel
theorem d_O_overlap_18 : decode b_O_overlap 18 = .ok (.iaload, 1) := by decide +kernel
theorem d_O_overlap_19 : decode b_O_overlap 19 = .ok (.iload_n 1, 1) := by decide +kernel
theorem d_O_overlap_20 : decode b_O_overlap 20 = .ok (.if_icmp .ne 37, 3) := by decide +kernel
theorem d_O_overlap_23 : decode b_O_overlap 23 = .ok (.aload_n 0, 1) := by decide +kernel
theorem d_O_overlap_24 : decode b_O_overlap 24 = .ok (.getfield 15, 3) := by decide +kernel
theorem d_O_overlap_27 : decode b_O_overlap 27 = .ok (.iload 4, 2) := by decide +kernel
theorem d_O_overlap_29 : decode b_O_overlap 29 = .ok (.iaload, 1) := by decide +kernel
theorem d_O_overlap_30 : decode b_O_overlap 30 = .ok (.iload_n 2, 1) := by decide +kernel
theorem d_O_overlap_31 : decode b_O_overlap 31 = .ok (.iload_n 3, 1) := by decide +kernel
theorem d_O_overlap_32 : decode b_O_overlap 32 = .ok (.iadd, 1) := by decide +kernel
theorem d_O_overlap_33 : decode b_O_overlap 33 = .ok (.if_icmp .ge 24, 3) := by decide +kernel
theorem d_O_overlap_36 : decode b_O_overlap 36 = .ok (.iload_n 2, 1) := by decide +kernel
theorem d_O_overlap_37 : decode b_O_overlap 37 = .ok (.aload_n 0, 1) := by decide +kernel
theorem d_O_overlap_38 : decode b_O_overlap 38 = .ok (.getfield 15, 3) := by decide +kernel
theorem d_O_overlap_41 : decode b_O_overlap 41 = .ok (.iload 4, 2) := by decide +kernel
theorem d_O_overlap_43 : decode b_O_overlap 43 = .ok (.iaload, 1) := by decide +kernel
theorem d_O_overlap_44 : decode b_O_overlap 44 = .ok (.aload_n 0, 1) := by decide +kernel
theorem d_O_overlap_45 : decode b_O_overlap 45 = .ok (.getfield 18, 3) := by decide +kernel
theorem d_O_overlap_48 : decode b_O_overlap 48 = .ok (.iload 4, 2) := by decide +kernel
theorem d_O_overlap_50 : decode b_O_overlap 50 = .ok (.iaload, 1) := by decide +kernel
theorem d_O_overlap_51 : decode b_O_overlap 51 = .ok (.iadd, 1) := by decide +kernel
theorem d_O_overlap_52 : decode b_O_overlap 52 = .ok (.if_icmp .ge 5, 3) := by decide +kernel
theorem d_O_overlap_55 : decode b_O_overlap 55 = .ok (.iconst 1, 1) := by decide +kernel
theorem d_O_overlap_56 : decode b_O_overlap 56 = .ok (.ireturn, 1) := by decide +kernel
theorem d_O_overlap_57 : decode b_O_overlap 57 = .ok (.iinc 4 1, 3) := by decide +kernel
theorem d_O_overlap_60 : decode b_O_overlap 60 = .ok (.goto (-57), 3) := by decide +kernel
theorem d_O_overlap_63 : decode b_O_overlap 63 = .ok (.iconst 0, 1) := by decide +kernel
theorem d_O_overlap_64 : decode b_O_overlap 64 = .ok (.ireturn, 1) := by decide +kernel
theorem d_O_write_0 : decode b_O_write 0 = .ok (.aload_n 0, 1) := by decide +kernel
theorem d_O_write_1 : decode b_O_write 1 = .ok (.getfield 9, 3) := by decide +kernel
theorem d_O_write_4 : decode b_O_write 4 = .ok (.iload_n 1, 1) := by decide +kernel
theorem d_O_write_5 : decode b_O_write 5 = .ok (.iload_n 2, 1) := by decide +kernel
theorem d_O_write_6 : decode b_O_write 6 = .ok (.iastore, 1) := by decide +kernel
theorem d_O_write_7 : decode b_O_write 7 = .ok (.aload_n 0, 1) := by decide +kernel
theorem d_O_write_8 : decode b_O_write 8 = .ok (.getfield 15, 3) := by decide +kernel
theorem d_O_write_11 : decode b_O_write 11 = .ok (.iload_n 1, 1) := by decide +kernel
theorem d_O_write_12 : decode b_O_write 12 = .ok (.iload_n 3, 1) := by decide +kernel
theorem d_O_write_13 : decode b_O_write 13 = .ok (.iastore, 1) := by decide +kernel
theorem d_O_write_14 : decode b_O_write 14 = .ok (.aload_n 0, 1) := by decide +kernel
theorem d_O_write_15 : decode b_O_write 15 = .ok (.getfield 18, 3) := by decide +kernel
theorem d_O_write_18 : decode b_O_write 18 = .ok (.iload_n 1, 1) := by decide +kernel
theorem d_O_write_19 : decode b_O_write 19 = .ok (.iload 4, 2) := by decide +kernel
theorem d_O_write_21 : decode b_O_write 21 = .ok (.iastore, 1) := by decide +kernel
theorem d_O_write_22 : decode b_O_write 22 = .ok (.return_, 1) := by decide +kernel
theorem d_O_writeCopies_0 : decode b_O_writeCopies 0 = .ok (.iload_n 3, 1) := by decide +kernel
theorem d_O_writeCopies_1 : decode b_O_writeCopies 1 = .ok (.istore 4, 2) := by decide +kernel
theorem d_O_writeCopies_3 : decode b_O_writeCopies 3 = .ok (.iconst 0, 1) := by decide +kernel
theorem d_O_writeCopies_4 : decode b_O_writeCopies 4 = .ok (.istore 5, 2) := by decide +kernel
theorem d_O_writeCopies_6 : decode b_O_writeCopies 6 = .ok (.iload 5, 2) := by decide +kernel
theorem d_O_writeCopies_8 : decode b_O_writeCopies 8 = .ok (.aload_n 0, 1) := by decide +kernel
theorem d_O_writeCopies_9 : decode b_O_writeCopies 9 = .ok (.getfield 21, 3) := by decide +kernel
theorem d_O_writeCopies_12 : decode b_O_writeCopies 12 = .ok (.if_icmp .ge 44, 3) := by decide +kernel
theorem d_O_writeCopies_15 : decode b_O_writeCopies 15 = .ok (.aload_n 0, 1) := by decide +kernel
theorem d_O_writeCopies_16 : decode b_O_writeCopies 16 = .ok (.getfield 9, 3) := by decide +kernel
theorem d_O_writeCopies_19 : decode b_O_writeCopies 19 = .ok (.iload 5, 2) := by decide +kernel
theorem d_O_writeCopies_21 : decode b_O_writeCopies 21 = .ok (.iaload, 1) := by decide +kernel
theorem d_O_writeCopies_22 : decode b_O_writeCopies 22 = .ok (.iload_n 1, 1) := by decide +kernel
theorem d_O_writeCopies_23 : decode b_O_writeCopies 23 = .ok (.if_icmp .ne 27, 3) := by decide +kernel
theorem d_O_writeCopies_26 : decode b_O_writeCopies 26 = .ok (.aload_n 0, 1) := by decide +kernel
theorem d_O_writeCopies_27 : decode b_O_writeCopies 27 = .ok (.iload 4, 2) := by decide +kernel
theorem d_O_writeCopies_29 : decode b_O_writeCopies 29 = .ok (.iload_n 2, 1) := by decide +kernel
theorem d_O_writeCopies_30 : decode b_O_writeCopies 30 = .ok (.aload_n 0, 1) := by decide +kernel
theorem d_O_writeCopies_31 : decode b_O_writeCopies 31 = .ok (.getfield 15, 3) := by decide +kernel
theorem d_O_writeCopies_34 : decode b_O_writeCopies 34 = .ok (.iload 5, 2) := by decide +kernel
theorem d_O_writeCopies_36 : decode b_O_writeCopies 36 = .ok (.iaload, 1) := by decide +kernel
theorem d_O_writeCopies_37 : decode b_O_writeCopies 37 = .ok (.aload_n 0, 1) := by decide +kernel
theorem d_O_writeCopies_38 : decode b_O_writeCopies 38 = .ok (.getfield 18, 3) := by decide +kernel
theorem d_O_writeCopies_41 : decode b_O_writeCopies 41 = .ok (.iload 5, 2) := by decide +kernel
theorem d_O_writeCopies_43 : decode b_O_writeCopies 43 = .ok (.iaload, 1) := by decide +kernel
theorem d_O_writeCopies_44 : decode b_O_writeCopies 44 = .ok (.invokevirtual 25, 3) := by decide +kernel
theorem d_O_writeCopies_47 : decode b_O_writeCopies 47 = .ok (.iinc 4 1, 3) := by decide +kernel
theorem d_O_writeCopies_50 : decode b_O_writeCopies 50 = .ok (.iinc 5 1, 3) := by decide +kernel
theorem d_O_writeCopies_53 : decode b_O_writeCopies 53 = .ok (.goto (-47), 3) := by decide +kernel
theorem d_O_writeCopies_56 : decode b_O_writeCopies 56 = .ok (.iload 4, 2) := by decide +kernel
theorem d_O_writeCopies_58 : decode b_O_writeCopies 58 = .ok (.ireturn, 1) := by decide +kernel
theorem d_S_init_0 : decode b_S_init 0 = .ok (.aload_n 0, 1) := by decide +kernel
theorem d_S_init_1 : decode b_S_init 1 = .ok (.invokespecial 3, 3) := by decide +kernel
theorem d_S_init_4 : decode b_S_init 4 = .ok (.aload_n 0, 1) := by decide +kernel
theorem d_S_init_5 : decode b_S_init 5 = .ok (.bipush 6, 2) := by decide +kernel
theorem d_S_init_7 : decode b_S_init 7 = .ok (.newarray .int, 2) := by decide +kernel
theorem d_S_init_9 : decode b_S_init 9 = .ok (.putfield 9, 3) := by decide +kernel
theorem d_S_init_12 : decode b_S_init 12 = .ok (.aload_n 0, 1) := by decide +kernel
theorem d_S_init_13 : decode b_S_init 13 = .ok (.iconst 0, 1) := by decide +kernel
theorem d_S_init_14 : decode b_S_init 14 = .ok (.putfield 15, 3) := by decide +kernel
theorem d_S_init_17 : decode b_S_init 17 = .ok (.return_, 1) := by decide +kernel
theorem d_S_has_0 : decode b_S_has 0 = .ok (.iload_n 1, 1) := by decide +kernel
theorem d_S_has_1 : decode b_S_has 1 = .ok (.ifCond .lt 15, 3) := by decide +kernel
theorem d_S_has_4 : decode b_S_has 4 = .ok (.iload_n 1, 1) := by decide +kernel
theorem d_S_has_5 : decode b_S_has 5 = .ok (.aload_n 0, 1) := by decide +kernel
theorem d_S_has_6 : decode b_S_has 6 = .ok (.getfield 15, 3) := by decide +kernel
theorem d_S_has_9 : decode b_S_has 9 = .ok (.if_icmp .ge 7, 3) := by decide +kernel
theorem d_S_has_12 : decode b_S_has 12 = .ok (.iconst 1, 1) := by decide +kernel
theorem d_S_has_13 : decode b_S_has 13 = .ok (.goto 4, 3) := by decide +kernel
theorem d_S_has_16 : decode b_S_has 16 = .ok (.iconst 0, 1) := by decide +kernel
theorem d_S_has_17 : decode b_S_has 17 = .ok (.ireturn, 1) := by decide +kernel
theorem d_S_isBetweenNeighbours_0 : decode b_S_isBetweenNeighbours 0 = .ok (.iload_n 1, 1) := by decide +kernel
theorem d_S_isBetweenNeighbours_1 : decode b_S_isBetweenNeighbours 1 = .ok (.ifCond .eq 15, 3) := by decide +kernel
theorem d_S_isBetweenNeighbours_4 : decode b_S_isBetweenNeighbours 4 = .ok (.iload_n 2, 1) := by decide +kernel
theorem d_S_isBetweenNeighbours_5 : decode b_S_isBetweenNeighbours 5 = .ok (.aload_n 0, 1) := by decide +kernel
theorem d_S_isBetweenNeighbours_6 : decode b_S_isBetweenNeighbours 6 = .ok (.getfield 9, 3) := by decide +kernel
theorem d_S_isBetweenNeighbours_9 : decode b_S_isBetweenNeighbours 9 = .ok (.iload_n 1, 1) := by decide +kernel
theorem d_S_isBetweenNeighbours_10 : decode b_S_isBetweenNeighbours 10 = .ok (.iconst 1, 1) := by decide +kernel
theorem d_S_isBetweenNeighbours_11 : decode b_S_isBetweenNeighbours 11 = .ok (.isub, 1) := by decide +kernel
theorem d_S_isBetweenNeighbours_12 : decode b_S_isBetweenNeighbours 12 = .ok (.iaload, 1) := by decide +kernel
theorem d_S_isBetweenNeighbours_13 : decode b_S_isBetweenNeighbours 13 = .ok (.if_icmp .le 29, 3) := by decide +kernel
theorem d_S_isBetweenNeighbours_16 : decode b_S_isBetweenNeighbours 16 = .ok (.iload_n 1, 1) := by decide +kernel
theorem d_S_isBetweenNeighbours_17 : decode b_S_isBetweenNeighbours 17 = .ok (.iconst 1, 1) := by decide +kernel
theorem d_S_isBetweenNeighbours_18 : decode b_S_isBetweenNeighbours 18 = .ok (.iadd, 1) := by decide +kernel
theorem d_S_isBetweenNeighbours_19 : decode b_S_isBetweenNeighbours 19 = .ok (.aload_n 0, 1) := by decide +kernel
theorem d_S_isBetweenNeighbours_20 : decode b_S_isBetweenNeighbours 20 = .ok (.getfield 15, 3) := by decide +kernel
theorem d_S_isBetweenNeighbours_23 : decode b_S_isBetweenNeighbours 23 = .ok (.if_icmp .ge 15, 3) := by decide +kernel
theorem d_S_isBetweenNeighbours_26 : decode b_S_isBetweenNeighbours 26 = .ok (.iload_n 2, 1) := by decide +kernel
theorem d_S_isBetweenNeighbours_27 : decode b_S_isBetweenNeighbours 27 = .ok (.aload_n 0, 1) := by decide +kernel
theorem d_S_isBetweenNeighbours_28 : decode b_S_isBetweenNeighbours 28 = .ok (.getfield 9, 3) := by decide +kernel
theorem d_S_isBetweenNeighbours_31 : decode b_S_isBetweenNeighbours 31 = .ok (.iload_n 1, 1) := by decide +kernel
theorem d_S_isBetweenNeighbours_32 : decode b_S_isBetweenNeighbours 32 = .ok (.iconst 1, 1) := by decide +kernel
theorem d_S_isBetweenNeighbours_33 : decode b_S_isBetweenNeighbours 33 = .ok (.iadd, 1) := by decide +kernel
theorem d_S_isBetweenNeighbours_34 : decode b_S_isBetweenNeighbours 34 = .ok (.iaload, 1) := by decide +kernel
theorem d_S_isBetweenNeighbours_35 : decode b_S_isBetweenNeighbours 35 = .ok (.if_icmp .ge 7, 3) := by decide +kernel
theorem d_S_isBetweenNeighbours_38 : decode b_S_isBetweenNeighbours 38 = .ok (.iconst 1, 1) := by decide +kernel
theorem d_S_isBetweenNeighbours_39 : decode b_S_isBetweenNeighbours 39 = .ok (.goto 4, 3) := by decide +kernel
theorem d_S_isBetweenNeighbours_42 : decode b_S_isBetweenNeighbours 42 = .ok (.iconst 0, 1) := by decide +kernel
theorem d_S_isBetweenNeighbours_43 : decode b_S_isBetweenNeighbours 43 = .ok (.ireturn, 1) := by decide +kernel
theorem d_S_height_0 : decode b_S_height 0 = .ok (.iload_n 1, 1) := by decide +kernel
theorem d_S_height_1 : decode b_S_height 1 = .ok (.iconst 1, 1) := by decide +kernel
theorem d_S_height_2 : decode b_S_height 2 = .ok (.iadd, 1) := by decide +kernel
theorem d_S_height_3 : decode b_S_height 3 = .ok (.aload_n 0, 1) := by decide +kernel
theorem d_S_height_4 : decode b_S_height 4 = .ok (.getfield 15, 3) := by decide +kernel
theorem d_S_height_7 : decode b_S_height 7 = .ok (.if_icmp .ge 21, 3) := by decide +kernel
theorem d_S_height_10 : decode b_S_height 10 = .ok (.aload_n 0, 1) := by decide +kernel
theorem d_S_height_11 : decode b_S_height 11 = .ok (.getfield 9, 3) := by decide +kernel
theorem d_S_height_14 : decode b_S_height 14 = .ok (.iload_n 1, 1) := by decide +kernel
theorem d_S_height_15 : decode b_S_height 15 = .ok (.iconst 1, 1) := by decide +kernel
theorem d_S_height_16 : decode b_S_height 16 = .ok (.iadd, 1) := by decide +kernel
theorem d_S_height_17 : decode b_S_height 17 = .ok (.iaload, 1) := by decide +kernel
theorem d_S_height_18 : decode b_S_height 18 = .ok (.aload_n 0, 1) := by decide +kernel
theorem d_S_height_19 : decode b_S_height 19 = .ok (.getfield 9, 3) := by decide +kernel
theorem d_S_height_22 : decode b_S_height 22 = .ok (.iload_n 1, 1) := by decide +kernel
theorem d_S_height_23 : decode b_S_height 23 = .ok (.iaload, 1) := by decide +kernel
theorem d_S_height_24 : decode b_S_height 24 = .ok (.isub, 1) := by decide +kernel
theorem d_S_height_25 : decode b_S_height 25 = .ok (.goto 6, 3) := by decide +kernel
theorem d_S_height_28 : decode b_S_height 28 = .ok (.sipush 300, 3) := by decide +kernel
theorem d_S_height_31 : decode b_S_height 31 = .ok (.ireturn, 1) := by decide +kernel
theorem d_T_init_0 : decode b_T_init 0 = .ok (.aload_n 0, 1) := by decide +kernel
theorem d_T_init_1 : decode b_T_init 1 = .ok (.invokespecial 3, 3) := by decide +kernel
theorem d_T_init_4 : decode b_T_init 4 = .ok (.aload_n 0, 1) := by decide +kernel
theorem d_T_init_5 : decode b_T_init 5 = .ok (.bipush 8, 2) := by decide +kernel
theorem d_T_init_7 : decode b_T_init 7 = .ok (.newarray .int, 2) := by decide +kernel
theorem d_T_init_9 : decode b_T_init 9 = .ok (.putfield 9, 3) := by decide +kernel
theorem d_T_init_12 : decode b_T_init 12 = .ok (.aload_n 0, 1) := by decide +kernel
theorem d_T_init_13 : decode b_T_init 13 = .ok (.iconst 0, 1) := by decide +kernel
theorem d_T_init_14 : decode b_T_init 14 = .ok (.putfield 15, 3) := by decide +kernel
theorem d_T_init_17 : decode b_T_init 17 = .ok (.return_, 1) := by decide +kernel
theorem d_T_has_0 : decode b_T_has 0 = .ok (.iload_n 1, 1) := by decide +kernel
theorem d_T_has_1 : decode b_T_has 1 = .ok (.ifCond .lt 15, 3) := by decide +kernel
theorem d_T_has_4 : decode b_T_has 4 = .ok (.iload_n 1, 1) := by decide +kernel
theorem d_T_has_5 : decode b_T_has 5 = .ok (.aload_n 0, 1) := by decide +kernel
theorem d_T_has_6 : decode b_T_has 6 = .ok (.getfield 15, 3) := by decide +kernel
theorem d_T_has_9 : decode b_T_has 9 = .ok (.if_icmp .ge 7, 3) := by decide +kernel
theorem d_T_has_12 : decode b_T_has 12 = .ok (.iconst 1, 1) := by decide +kernel
theorem d_T_has_13 : decode b_T_has 13 = .ok (.goto 4, 3) := by decide +kernel
theorem d_T_has_16 : decode b_T_has 16 = .ok (.iconst 0, 1) := by decide +kernel
theorem d_T_has_17 : decode b_T_has 17 = .ok (.ireturn, 1) := by decide +kernel
theorem d_W_init_0 : decode b_W_init 0 = .ok (.aload_n 0, 1) := by decide +kernel
theorem d_W_init_1 : decode b_W_init 1 = .ok (.invokespecial 3, 3) := by decide +kernel
theorem d_W_init_4 : decode b_W_init 4 = .ok (.aload_n 0, 1) := by decide +kernel
theorem d_W_init_5 : decode b_W_init 5 = .ok (.bipush 40, 2) := by decide +kernel
theorem d_W_init_7 : decode b_W_init 7 = .ok (.newarray .int, 2) := by decide +kernel
theorem d_W_init_9 : decode b_W_init 9 = .ok (.putfield 9, 3) := by decide +kernel
theorem d_W_init_12 : decode b_W_init 12 = .ok (.aload_n 0, 1) := by decide +kernel
theorem d_W_init_13 : decode b_W_init 13 = .ok (.bipush 40, 2) := by decide +kernel
theorem d_W_init_15 : decode b_W_init 15 = .ok (.newarray .int, 2) := by decide +kernel
theorem d_W_init_17 : decode b_W_init 17 = .ok (.putfield 15, 3) := by decide +kernel
theorem d_W_init_20 : decode b_W_init 20 = .ok (.aload_n 0, 1) := by decide +kernel
theorem d_W_init_21 : decode b_W_init 21 = .ok (.bipush 40, 2) := by decide +kernel
theorem d_W_init_23 : decode b_W_init 23 = .ok (.newarray .int, 2) := by decide +kernel
theorem d_W_init_25 : decode b_W_init 25 = .ok (.putfield 18, 3) := by decide +kernel
theorem d_W_init_28 : decode b_W_init 28 = .ok (.aload_n 0, 1) := by decide +kernel
theorem d_W_init_29 : decode b_W_init 29 = .ok (.bipush 40, 2) := by decide +kernel
theorem d_W_init_31 : decode b_W_init 31 = .ok (.newarray .int, 2) := by decide +kernel
theorem d_W_init_33 : decode b_W_init 33 = .ok (.putfield 21, 3) := by decide +kernel
theorem d_W_init_36 : decode b_W_init 36 = .ok (.aload_n 0, 1) := by decide +kernel
theorem d_W_init_37 : decode b_W_init 37 = .ok (.bipush 40, 2) := by decide +kernel
theorem d_W_init_39 : decode b_W_init 39 = .ok (.newarray .int, 2) := by decide +kernel
theorem d_W_init_41 : decode b_W_init 41 = .ok (.putfield 24, 3) := by decide +kernel
theorem d_W_init_44 : decode b_W_init 44 = .ok (.aload_n 0, 1) := by decide +kernel
theorem d_W_init_45 : decode b_W_init 45 = .ok (.bipush 40, 2) := by decide +kernel
theorem d_W_init_47 : decode b_W_init 47 = .ok (.newarray .int, 2) := by decide +kernel
theorem d_W_init_49 : decode b_W_init 49 = .ok (.putfield 27, 3) := by decide +kernel
theorem d_W_init_52 : decode b_W_init 52 = .ok (.aload_n 0, 1) := by decide +kernel
theorem d_W_init_53 : decode b_W_init 53 = .ok (.bipush 40, 2) := by decide +kernel
theorem d_W_init_55 : decode b_W_init 55 = .ok (.newarray .boolean, 2) := by decide +kernel
theorem d_W_init_57 : decode b_W_init 57 = .ok (.putfield 30, 3) := by decide +kernel
theorem d_W_init_60 : decode b_W_init 60 = .ok (.aload_n 0, 1) := by decide +kernel
theorem d_W_init_61 : decode b_W_init 61 = .ok (.iconst 0, 1) := by decide +kernel
theorem d_W_init_62 : decode b_W_init 62 = .ok (.putfield 34, 3) := by decide +kernel
theorem d_W_init_65 : decode b_W_init 65 = .ok (.return_, 1) := by decide +kernel
theorem d_W_isThere_0 : decode b_W_isThere 0 = .ok (.iload_n 1, 1) := by decide +kernel
theorem d_W_isThere_1 : decode b_W_isThere 1 = .ok (.ifCond .lt 24, 3) := by decide +kernel
theorem d_W_isThere_4 : decode b_W_isThere 4 = .ok (.iload_n 1, 1) := by decide +kernel
theorem d_W_isThere_5 : decode b_W_isThere 5 = .ok (.aload_n 0, 1) := by decide +kernel
theorem d_W_isThere_6 : decode b_W_isThere 6 = .ok (.getfield 34, 3) := by decide +kernel
theorem d_W_isThere_9 : decode b_W_isThere 9 = .ok (.if_icmp .ge 16, 3) := by decide +kernel
theorem d_W_isThere_12 : decode b_W_isThere 12 = .ok (.aload_n 0, 1) := by decide +kernel
theorem d_W_isThere_13 : decode b_W_isThere 13 = .ok (.getfield 30, 3) := by decide +kernel
theorem d_W_isThere_16 : decode b_W_isThere 16 = .ok (.iload_n 1, 1) := by decide +kernel
theorem d_W_isThere_17 : decode b_W_isThere 17 = .ok (.baload, 1) := by decide +kernel
theorem d_W_isThere_18 : decode b_W_isThere 18 = .ok (.ifCond .ne 7, 3) := by decide +kernel
theorem d_W_isThere_21 : decode b_W_isThere 21 = .ok (.iconst 1, 1) := by decide +kernel
theorem d_W_isThere_22 : decode b_W_isThere 22 = .ok (.goto 4, 3) := by decide +kernel
theorem d_W_isThere_25 : decode b_W_isThere 25 = .ok (.iconst 0, 1) := by decide +kernel
theorem d_W_isThere_26 : decode b_W_isThere 26 = .ok (.ireturn, 1) := by decide +kernel
theorem d_W_isOn_0 : decode b_W_isOn 0 = .ok (.aload_n 0, 1) := by decide +kernel
theorem d_W_isOn_1 : decode b_W_isOn 1 = .ok (.iload_n 1, 1) := by decide +kernel
theorem d_W_isOn_2 : decode b_W_isOn 2 = .ok (.invokevirtual 38, 3) := by decide +kernel
theorem d_W_isOn_5 : decode b_W_isOn 5 = .ok (.ifCond .eq 17, 3) := by decide +kernel
theorem d_W_isOn_8 : decode b_W_isOn 8 = .ok (.aload_n 0, 1) := by decide +kernel
theorem d_W_isOn_9 : decode b_W_isOn 9 = .ok (.getfield 9, 3) := by decide +kernel
theorem d_W_isOn_12 : decode b_W_isOn 12 = .ok (.iload_n 1, 1) := by decide +kernel
theorem d_W_isOn_13 : decode b_W_isOn 13 = .ok (.iaload, 1) := by decide +kernel
theorem d_W_isOn_14 : decode b_W_isOn 14 = .ok (.iload_n 2, 1) := by decide +kernel
theorem d_W_isOn_15 : decode b_W_isOn 15 = .ok (.if_icmp .ne 7, 3) := by decide +kernel
theorem d_W_isOn_18 : decode b_W_isOn 18 = .ok (.iconst 1, 1) := by decide +kernel
theorem d_W_isOn_19 : decode b_W_isOn 19 = .ok (.goto 4, 3) := by decide +kernel
theorem d_W_isOn_22 : decode b_W_isOn 22 = .ok (.iconst 0, 1) := by decide +kernel
theorem d_W_isOn_23 : decode b_W_isOn 23 = .ok (.ireturn, 1) := by decide +kernel
theorem d_W_isWith_0 : decode b_W_isWith 0 = .ok (.aload_n 0, 1) := by decide +kernel
theorem d_W_isWith_1 : decode b_W_isWith 1 = .ok (.iload_n 1, 1) := by decide +kernel
theorem d_W_isWith_2 : decode b_W_isWith 2 = .ok (.invokevirtual 38, 3) := by decide +kernel
theorem d_W_isWith_5 : decode b_W_isWith 5 = .ok (.ifCond .eq 17, 3) := by decide +kernel
theorem d_W_isWith_8 : decode b_W_isWith 8 = .ok (.aload_n 0, 1) := by decide +kernel
theorem d_W_isWith_9 : decode b_W_isWith 9 = .ok (.getfield 15, 3) := by decide +kernel
theorem d_W_isWith_12 : decode b_W_isWith 12 = .ok (.iload_n 1, 1) := by decide +kernel
theorem d_W_isWith_13 : decode b_W_isWith 13 = .ok (.iaload, 1) := by decide +kernel
theorem d_W_isWith_14 : decode b_W_isWith 14 = .ok (.iload_n 2, 1) := by decide +kernel
theorem d_W_isWith_15 : decode b_W_isWith 15 = .ok (.if_icmp .ne 7, 3) := by decide +kernel
theorem d_W_isWith_18 : decode b_W_isWith 18 = .ok (.iconst 1, 1) := by decide +kernel
theorem d_W_isWith_19 : decode b_W_isWith 19 = .ok (.goto 4, 3) := by decide +kernel
theorem d_W_isWith_22 : decode b_W_isWith 22 = .ok (.iconst 0, 1) := by decide +kernel
theorem d_W_isWith_23 : decode b_W_isWith 23 = .ok (.ireturn, 1) := by decide +kernel
theorem d_W_goesAlongX_0 : decode b_W_goesAlongX 0 = .ok (.aload_n 0, 1) := by decide +kernel
theorem d_W_goesAlongX_1 : decode b_W_goesAlongX 1 = .ok (.getfield 21, 3) := by decide +kernel
theorem d_W_goesAlongX_4 : decode b_W_goesAlongX 4 = .ok (.iload_n 1, 1) := by decide +kernel
theorem d_W_goesAlongX_5 : decode b_W_goesAlongX 5 = .ok (.iaload, 1) := by decide +kernel
theorem d_W_goesAlongX_6 : decode b_W_goesAlongX 6 = .ok (.aload_n 0, 1) := by decide +kernel
theorem d_W_goesAlongX_7 : decode b_W_goesAlongX 7 = .ok (.getfield 27, 3) := by decide +kernel
theorem d_W_goesAlongX_10 : decode b_W_goesAlongX 10 = .ok (.iload_n 1, 1) := by decide +kernel
theorem d_W_goesAlongX_11 : decode b_W_goesAlongX 11 = .ok (.iaload, 1) := by decide +kernel
theorem d_W_goesAlongX_12 : decode b_W_goesAlongX 12 = .ok (.if_icmp .ne 7, 3) := by decide +kernel
theorem d_W_goesAlongX_15 : decode b_W_goesAlongX 15 = .ok (.iconst 1, 1) := by decide +kernel
theorem d_W_goesAlongX_16 : decode b_W_goesAlongX 16 = .ok (.goto 4, 3) := by decide +kernel
theorem d_W_goesAlongX_19 : decode b_W_goesAlongX 19 = .ok (.iconst 0, 1) := by decide +kernel
theorem d_W_goesAlongX_20 : decode b_W_goesAlongX 20 = .ok (.ireturn, 1) := by decide +kernel
theorem d_W_hasEndAt_0 : decode b_W_hasEndAt 0 = .ok (.aload_n 0, 1) := by decide +kernel
theorem d_W_hasEndAt_1 : decode b_W_hasEndAt 1 = .ok (.getfield 18, 3) := by decide +kernel
theorem d_W_hasEndAt_4 : decode b_W_hasEndAt 4 = .ok (.iload_n 1, 1) := by decide +kernel
theorem d_W_hasEndAt_5 : decode b_W_hasEndAt 5 = .ok (.iaload, 1) := by decide +kernel
theorem d_W_hasEndAt_6 : decode b_W_hasEndAt 6 = .ok (.iload_n 2, 1) := by decide +kernel
theorem d_W_hasEndAt_7 : decode b_W_hasEndAt 7 = .ok (.if_icmp .ne 13, 3) := by decide +kernel
theorem d_W_hasEndAt_10 : decode b_W_hasEndAt 10 = .ok (.aload_n 0, 1) := by decide +kernel
theorem d_W_hasEndAt_11 : decode b_W_hasEndAt 11 = .ok (.getfield 21, 3) := by decide +kernel
theorem d_W_hasEndAt_14 : decode b_W_hasEndAt 14 = .ok (.iload_n 1, 1) := by decide +kernel
theorem d_W_hasEndAt_15 : decode b_W_hasEndAt 15 = .ok (.iaload, 1) := by decide +kernel
theorem d_W_hasEndAt_16 : decode b_W_hasEndAt 16 = .ok (.iload_n 3, 1) := by decide +kernel
theorem d_W_hasEndAt_17 : decode b_W_hasEndAt 17 = .ok (.if_icmp .eq 23, 3) := by decide +kernel
theorem d_W_hasEndAt_20 : decode b_W_hasEndAt 20 = .ok (.aload_n 0, 1) := by decide +kernel
theorem d_W_hasEndAt_21 : decode b_W_hasEndAt 21 = .ok (.getfield 24, 3) := by decide +kernel
theorem d_W_hasEndAt_24 : decode b_W_hasEndAt 24 = .ok (.iload_n 1, 1) := by decide +kernel
theorem d_W_hasEndAt_25 : decode b_W_hasEndAt 25 = .ok (.iaload, 1) := by decide +kernel
theorem d_W_hasEndAt_26 : decode b_W_hasEndAt 26 = .ok (.iload_n 2, 1) := by decide +kernel
theorem d_W_hasEndAt_27 : decode b_W_hasEndAt 27 = .ok (.if_icmp .ne 17, 3) := by decide +kernel
theorem d_W_hasEndAt_30 : decode b_W_hasEndAt 30 = .ok (.aload_n 0, 1) := by decide +kernel
theorem d_W_hasEndAt_31 : decode b_W_hasEndAt 31 = .ok (.getfield 27, 3) := by decide +kernel
theorem d_W_hasEndAt_34 : decode b_W_hasEndAt 34 = .ok (.iload_n 1, 1) := by decide +kernel
theorem d_W_hasEndAt_35 : decode b_W_hasEndAt 35 = .ok (.iaload, 1) := by decide +kernel
theorem d_W_hasEndAt_36 : decode b_W_hasEndAt 36 = .ok (.iload_n 3, 1) := by decide +kernel
theorem d_W_hasEndAt_37 : decode b_W_hasEndAt 37 = .ok (.if_icmp .ne 7, 3) := by decide +kernel
theorem d_W_hasEndAt_40 : decode b_W_hasEndAt 40 = .ok (.iconst 1, 1) := by decide +kernel
theorem d_W_hasEndAt_41 : decode b_W_hasEndAt 41 = .ok (.goto 4, 3) := by decide +kernel
theorem d_W_hasEndAt_44 : decode b_W_hasEndAt 44 = .ok (.iconst 0, 1) := by decide +kernel
theorem d_W_hasEndAt_45 : decode b_W_hasEndAt 45 = .ok (.ireturn, 1) := by decide +kernel
theorem d_W_length_0 : decode b_W_length 0 = .ok (.aload_n 0, 1) := by decide +kernel
theorem d_W_length_1 : decode b_W_length 1 = .ok (.getfield 24, 3) := by decide +kernel
theorem d_W_length_4 : decode b_W_length 4 = .ok (.iload_n 1, 1) := by decide +kernel
theorem d_W_length_5 : decode b_W_length 5 = .ok (.iaload, 1) := by decide +kernel
theorem d_W_length_6 : decode b_W_length 6 = .ok (.aload_n 0, 1) := by decide +kernel
theorem d_W_length_7 : decode b_W_length 7 = .ok (.getfield 18, 3) := by decide +kernel
theorem d_W_length_10 : decode b_W_length 10 = .ok (.iload_n 1, 1) := by decide +kernel
theorem d_W_length_11 : decode b_W_length 11 = .ok (.iaload, 1) := by decide +kernel
theorem d_W_length_12 : decode b_W_length 12 = .ok (.isub, 1) := by decide +kernel
theorem d_W_length_13 : decode b_W_length 13 = .ok (.invokestatic 42, 3) := by decide +kernel
theorem d_W_length_16 : decode b_W_length 16 = .ok (.aload_n 0, 1) := by decide +kernel
theorem d_W_length_17 : decode b_W_length 17 = .ok (.getfield 27, 3) := by decide +kernel
theorem d_W_length_20 : decode b_W_length 20 = .ok (.iload_n 1, 1) := by decide +kernel
theorem d_W_length_21 : decode b_W_length 21 = .ok (.iaload, 1) := by decide +kernel
theorem d_W_length_22 : decode b_W_length 22 = .ok (.aload_n 0, 1) := by decide +kernel
theorem d_W_length_23 : decode b_W_length 23 = .ok (.getfield 21, 3) := by decide +kernel
theorem d_W_length_26 : decode b_W_length 26 = .ok (.iload_n 1, 1) := by decide +kernel
theorem d_W_length_27 : decode b_W_length 27 = .ok (.iaload, 1) := by decide +kernel
theorem d_W_length_28 : decode b_W_length 28 = .ok (.isub, 1) := by decide +kernel
theorem d_W_length_29 : decode b_W_length 29 = .ok (.invokestatic 42, 3) := by decide +kernel
theorem d_W_length_32 : decode b_W_length 32 = .ok (.iadd, 1) := by decide +kernel
theorem d_W_length_33 : decode b_W_length 33 = .ok (.ireturn, 1) := by decide +kernel
theorem d_W_manyOn_0 : decode b_W_manyOn 0 = .ok (.iconst 0, 1) := by decide +kernel
theorem d_W_manyOn_1 : decode b_W_manyOn 1 = .ok (.istore_n 2, 1) := by decide +kernel
theorem d_W_manyOn_2 : decode b_W_manyOn 2 = .ok (.iconst 0, 1) := by decide +kernel
theorem d_W_manyOn_3 : decode b_W_manyOn 3 = .ok (.istore_n 3, 1) := by decide +kernel
theorem d_W_manyOn_4 : decode b_W_manyOn 4 = .ok (.iload_n 3, 1) := by decide +kernel
theorem d_W_manyOn_5 : decode b_W_manyOn 5 = .ok (.aload_n 0, 1) := by decide +kernel
theorem d_W_manyOn_6 : decode b_W_manyOn 6 = .ok (.getfield 34, 3) := by decide +kernel
theorem d_W_manyOn_9 : decode b_W_manyOn 9 = .ok (.if_icmp .ge 21, 3) := by decide +kernel
theorem d_W_manyOn_12 : decode b_W_manyOn 12 = .ok (.aload_n 0, 1) := by decide +kernel
theorem d_W_manyOn_13 : decode b_W_manyOn 13 = .ok (.iload_n 3, 1) := by decide +kernel
theorem d_W_manyOn_14 : decode b_W_manyOn 14 = .ok (.iload_n 1, 1) := by decide +kernel
theorem d_W_manyOn_15 : decode b_W_manyOn 15 = .ok (.invokevirtual 48, 3) := by decide +kernel
theorem d_W_manyOn_18 : decode b_W_manyOn 18 = .ok (.ifCond .eq 6, 3) := by decide +kernel
theorem d_W_manyOn_21 : decode b_W_manyOn 21 = .ok (.iinc 2 1, 3) := by decide +kernel
theorem d_W_manyOn_24 : decode b_W_manyOn 24 = .ok (.iinc 3 1, 3) := by decide +kernel
theorem d_W_manyOn_27 : decode b_W_manyOn 27 = .ok (.goto (-23), 3) := by decide +kernel
theorem d_W_manyOn_30 : decode b_W_manyOn 30 = .ok (.iload_n 2, 1) := by decide +kernel
theorem d_W_manyOn_31 : decode b_W_manyOn 31 = .ok (.ireturn, 1) := by decide +kernel
theorem d_W_manyWith_0 : decode b_W_manyWith 0 = .ok (.iconst 0, 1) := by decide +kernel
theorem d_W_manyWith_1 : decode b_W_manyWith 1 = .ok (.istore_n 2, 1) := by decide +kernel
theorem d_W_manyWith_2 : decode b_W_manyWith 2 = .ok (.iconst 0, 1) := by decide +kernel
theorem d_W_manyWith_3 : decode b_W_manyWith 3 = .ok (.istore_n 3, 1) := by decide +kernel
theorem d_W_manyWith_4 : decode b_W_manyWith 4 = .ok (.iload_n 3, 1) := by decide +kernel
theorem d_W_manyWith_5 : decode b_W_manyWith 5 = .ok (.aload_n 0, 1) := by decide +kernel
theorem d_W_manyWith_6 : decode b_W_manyWith 6 = .ok (.getfield 34, 3) := by decide +kernel
theorem d_W_manyWith_9 : decode b_W_manyWith 9 = .ok (.if_icmp .ge 21, 3) := by decide +kernel
theorem d_W_manyWith_12 : decode b_W_manyWith 12 = .ok (.aload_n 0, 1) := by decide +kernel
theorem d_W_manyWith_13 : decode b_W_manyWith 13 = .ok (.iload_n 3, 1) := by decide +kernel
theorem d_W_manyWith_14 : decode b_W_manyWith 14 = .ok (.iload_n 1, 1) := by decide +kernel
theorem d_W_manyWith_15 : decode b_W_manyWith 15 = .ok (.invokevirtual 52, 3) := by decide +kernel
theorem d_W_manyWith_18 : decode b_W_manyWith 18 = .ok (.ifCond .eq 6, 3) := by decide +kernel
theorem d_W_manyWith_21 : decode b_W_manyWith 21 = .ok (.iinc 2 1, 3) := by decide +kernel
theorem d_W_manyWith_24 : decode b_W_manyWith 24 = .ok (.iinc 3 1, 3) := by decide +kernel
theorem d_W_manyWith_27 : decode b_W_manyWith 27 = .ok (.goto (-23), 3) := by decide +kernel
theorem d_W_manyWith_30 : decode b_W_manyWith 30 = .ok (.iload_n 2, 1) := by decide +kernel
theorem d_W_manyWith_31 : decode b_W_manyWith 31 = .ok (.ireturn, 1) := by decide +kernel
theorem d_W_leastAcross_0 : decode b_W_leastAcross 0 = .ok (.iconst 0, 1) := by decide +kernel
theorem d_W_leastAcross_1 : decode b_W_leastAcross 1 = .ok (.istore 4, 2) := by decide +kernel
theorem d_W_leastAcross_3 : decode b_W_leastAcross 3 = .ok (.iload 4, 2) := by decide +kernel
theorem d_W_leastAcross_5 : decode b_W_leastAcross 5 = .ok (.aload_n 0, 1) := by decide +kernel
theorem d_W_leastAcross_6 : decode b_W_leastAcross 6 = .ok (.getfield 34, 3) := by decide +kernel
theorem d_W_leastAcross_9 : decode b_W_leastAcross 9 = .ok (.if_icmp .ge 52, 3) := by decide +kernel
theorem d_W_leastAcross_12 : decode b_W_leastAcross 12 = .ok (.aload_n 0, 1) := by decide +kernel
theorem d_W_leastAcross_13 : decode b_W_leastAcross 13 = .ok (.iload 4, 2) := by decide +kernel
theorem d_W_leastAcross_15 : decode b_W_leastAcross 15 = .ok (.aload_n 0, 1) := by decide +kernel
theorem d_W_leastAcross_16 : decode b_W_leastAcross 16 = .ok (.getfield 9, 3) := by decide +kernel
theorem d_W_leastAcross_19 : decode b_W_leastAcross 19 = .ok (.iload_n 1, 1) := by decide +kernel
theorem d_W_leastAcross_20 : decode b_W_leastAcross 20 = .ok (.iaload, 1) := by decide +kernel
theorem d_W_leastAcross_21 : decode b_W_leastAcross 21 = .ok (.invokevirtual 48, 3) := by decide +kernel
theorem d_W_leastAcross_24 : decode b_W_leastAcross 24 = .ok (.ifCond .eq 31, 3) := by decide +kernel
theorem d_W_leastAcross_27 : decode b_W_leastAcross 27 = .ok (.aload_n 0, 1) := by decide +kernel
theorem d_W_leastAcross_28 : decode b_W_leastAcross 28 = .ok (.iload 4, 2) := by decide +kernel
theorem d_W_leastAcross_30 : decode b_W_leastAcross 30 = .ok (.invokevirtual 55, 3) := by decide +kernel
theorem d_W_leastAcross_33 : decode b_W_leastAcross 33 = .ok (.aload_n 0, 1) := by decide +kernel
theorem d_W_leastAcross_34 : decode b_W_leastAcross 34 = .ok (.iload_n 1, 1) := by decide +kernel
theorem d_W_leastAcross_35 : decode b_W_leastAcross 35 = .ok (.invokevirtual 55, 3) := by decide +kernel
theorem d_W_leastAcross_38 : decode b_W_leastAcross 38 = .ok (.if_icmp .eq 17, 3) := by decide +kernel
theorem d_W_leastAcross_41 : decode b_W_leastAcross 41 = .ok (.aload_n 0, 1) := by decide +kernel
theorem d_W_leastAcross_42 : decode b_W_leastAcross 42 = .ok (.iload 4, 2) := by decide +kernel
theorem d_W_leastAcross_44 : decode b_W_leastAcross 44 = .ok (.iload_n 2, 1) := by decide +kernel
theorem d_W_leastAcross_45 : decode b_W_leastAcross 45 = .ok (.iload_n 3, 1) := by decide +kernel
theorem d_W_leastAcross_46 : decode b_W_leastAcross 46 = .ok (.invokevirtual 58, 3) := by decide +kernel
theorem d_W_leastAcross_49 : decode b_W_leastAcross 49 = .ok (.ifCond .eq 6, 3) := by decide +kernel
theorem d_W_leastAcross_52 : decode b_W_leastAcross 52 = .ok (.iload 4, 2) := by decide +kernel
theorem d_W_leastAcross_54 : decode b_W_leastAcross 54 = .ok (.ireturn, 1) := by decide +kernel
theorem d_W_leastAcross_55 : decode b_W_leastAcross 55 = .ok (.iinc 4 1, 3) := by decide +kernel
theorem d_W_leastAcross_58 : decode b_W_leastAcross 58 = .ok (.goto (-55), 3) := by decide +kernel
theorem d_W_leastAcross_61 : decode b_W_leastAcross 61 = .ok (.iconst (-1), 1) := by decide +kernel
theorem d_W_leastAcross_62 : decode b_W_leastAcross 62 = .ok (.ireturn, 1) := by decide +kernel
end
section
theorem d_W_shift_0 : decode b_W_shift 0 = .ok (.aload_n 0, 1) := by decide +kernel
theorem d_W_shift_1 : decode b_W_shift 1 = .ok (.getfield 18, 3) := by decide +kernel
theorem d_W_shift_4 : decode b_W_shift 4 = .ok (.iload_n 1, 1) := by decide +kernel
theorem d_W_shift_5 : decode b_W_shift 5 = .ok (.dup2, 1) := by decide +kernel
theorem d_W_shift_6 : decode b_W_shift 6 = .ok (.iaload, 1) := by decide +kernel
theorem d_W_shift_7 : decode b_W_shift 7 = .ok (.iload_n 2, 1) := by decide +kernel
theorem d_W_shift_8 : decode b_W_shift 8 = .ok (.iadd, 1) := by decide +kernel
theorem d_W_shift_9 : decode b_W_shift 9 = .ok (.iastore, 1) := by decide +kernel
theorem d_W_shift_10 : decode b_W_shift 10 = .ok (.aload_n 0, 1) := by decide +kernel
theorem d_W_shift_11 : decode b_W_shift 11 = .ok (.getfield 21, 3) := by decide +kernel
theorem d_W_shift_14 : decode b_W_shift 14 = .ok (.iload_n 1, 1) := by decide +kernel
theorem d_W_shift_15 : decode b_W_shift 15 = .ok (.dup2, 1) := by decide +kernel
theorem d_W_shift_16 : decode b_W_shift 16 = .ok (.iaload, 1) := by decide +kernel
theorem d_W_shift_17 : decode b_W_shift 17 = .ok (.iload_n 3, 1) := by decide +kernel
theorem d_W_shift_18 : decode b_W_shift 18 = .ok (.iadd, 1) := by decide +kernel
theorem d_W_shift_19 : decode b_W_shift 19 = .ok (.iastore, 1) := by decide +kernel
theorem d_W_shift_20 : decode b_W_shift 20 = .ok (.aload_n 0, 1) := by decide +kernel
theorem d_W_shift_21 : decode b_W_shift 21 = .ok (.getfield 24, 3) := by decide +kernel
theorem d_W_shift_24 : decode b_W_shift 24 = .ok (.iload_n 1, 1) := by decide +kernel
theorem d_W_shift_25 : decode b_W_shift 25 = .ok (.dup2, 1) := by decide +kernel
theorem d_W_shift_26 : decode b_W_shift 26 = .ok (.iaload, 1) := by decide +kernel
theorem d_W_shift_27 : decode b_W_shift 27 = .ok (.iload_n 2, 1) := by decide +kernel
theorem d_W_shift_28 : decode b_W_shift 28 = .ok (.iadd, 1) := by decide +kernel
theorem d_W_shift_29 : decode b_W_shift 29 = .ok (.iastore, 1) := by decide +kernel
theorem d_W_shift_30 : decode b_W_shift 30 = .ok (.aload_n 0, 1) := by decide +kernel
theorem d_W_shift_31 : decode b_W_shift 31 = .ok (.getfield 27, 3) := by decide +kernel
theorem d_W_shift_34 : decode b_W_shift 34 = .ok (.iload_n 1, 1) := by decide +kernel
theorem d_W_shift_35 : decode b_W_shift 35 = .ok (.dup2, 1) := by decide +kernel
theorem d_W_shift_36 : decode b_W_shift 36 = .ok (.iaload, 1) := by decide +kernel
theorem d_W_shift_37 : decode b_W_shift 37 = .ok (.iload_n 3, 1) := by decide +kernel
theorem d_W_shift_38 : decode b_W_shift 38 = .ok (.iadd, 1) := by decide +kernel
theorem d_W_shift_39 : decode b_W_shift 39 = .ok (.iastore, 1) := by decide +kernel
theorem d_W_shift_40 : decode b_W_shift 40 = .ok (.return_, 1) := by decide +kernel
theorem d_W_writeNext_0 : decode b_W_writeNext 0 = .ok (.aload_n 0, 1) := by decide +kernel
theorem d_W_writeNext_1 : decode b_W_writeNext 1 = .ok (.getfield 9, 3) := by decide +kernel
theorem d_W_writeNext_4 : decode b_W_writeNext 4 = .ok (.aload_n 0, 1) := by decide +kernel
theorem d_W_writeNext_5 : decode b_W_writeNext 5 = .ok (.getfield 34, 3) := by decide +kernel
theorem d_W_writeNext_8 : decode b_W_writeNext 8 = .ok (.iload_n 1, 1) := by decide +kernel
theorem d_W_writeNext_9 : decode b_W_writeNext 9 = .ok (.iastore, 1) := by decide +kernel
theorem d_W_writeNext_10 : decode b_W_writeNext 10 = .ok (.aload_n 0, 1) := by decide +kernel
theorem d_W_writeNext_11 : decode b_W_writeNext 11 = .ok (.getfield 15, 3) := by decide +kernel
theorem d_W_writeNext_14 : decode b_W_writeNext 14 = .ok (.aload_n 0, 1) := by decide +kernel
theorem d_W_writeNext_15 : decode b_W_writeNext 15 = .ok (.getfield 34, 3) := by decide +kernel
theorem d_W_writeNext_18 : decode b_W_writeNext 18 = .ok (.iload_n 2, 1) := by decide +kernel
theorem d_W_writeNext_19 : decode b_W_writeNext 19 = .ok (.iastore, 1) := by decide +kernel
theorem d_W_writeNext_20 : decode b_W_writeNext 20 = .ok (.aload_n 0, 1) := by decide +kernel
theorem d_W_writeNext_21 : decode b_W_writeNext 21 = .ok (.getfield 18, 3) := by decide +kernel
theorem d_W_writeNext_24 : decode b_W_writeNext 24 = .ok (.aload_n 0, 1) := by decide +kernel
theorem d_W_writeNext_25 : decode b_W_writeNext 25 = .ok (.getfield 34, 3) := by decide +kernel
theorem d_W_writeNext_28 : decode b_W_writeNext 28 = .ok (.iload_n 3, 1) := by decide +kernel
theorem d_W_writeNext_29 : decode b_W_writeNext 29 = .ok (.iastore, 1) := by decide +kernel
theorem d_W_writeNext_30 : decode b_W_writeNext 30 = .ok (.aload_n 0, 1) := by decide +kernel
theorem d_W_writeNext_31 : decode b_W_writeNext 31 = .ok (.getfield 21, 3) := by decide +kernel
theorem d_W_writeNext_34 : decode b_W_writeNext 34 = .ok (.aload_n 0, 1) := by decide +kernel
theorem d_W_writeNext_35 : decode b_W_writeNext 35 = .ok (.getfield 34, 3) := by decide +kernel
theorem d_W_writeNext_38 : decode b_W_writeNext 38 = .ok (.iload 4, 2) := by decide +kernel
theorem d_W_writeNext_40 : decode b_W_writeNext 40 = .ok (.iastore, 1) := by decide +kernel
theorem d_W_writeNext_41 : decode b_W_writeNext 41 = .ok (.aload_n 0, 1) := by decide +kernel
theorem d_W_writeNext_42 : decode b_W_writeNext 42 = .ok (.getfield 24, 3) := by decide +kernel
theorem d_W_writeNext_45 : decode b_W_writeNext 45 = .ok (.aload_n 0, 1) := by decide +kernel
theorem d_W_writeNext_46 : decode b_W_writeNext 46 = .ok (.getfield 34, 3) := by decide +kernel
theorem d_W_writeNext_49 : decode b_W_writeNext 49 = .ok (.iload 5, 2) := by decide +kernel
theorem d_W_writeNext_51 : decode b_W_writeNext 51 = .ok (.iastore, 1) := by decide +kernel
theorem d_W_writeNext_52 : decode b_W_writeNext 52 = .ok (.aload_n 0, 1) := by decide +kernel
theorem d_W_writeNext_53 : decode b_W_writeNext 53 = .ok (.getfield 27, 3) := by decide +kernel
theorem d_W_writeNext_56 : decode b_W_writeNext 56 = .ok (.aload_n 0, 1) := by decide +kernel
theorem d_W_writeNext_57 : decode b_W_writeNext 57 = .ok (.getfield 34, 3) := by decide +kernel
theorem d_W_writeNext_60 : decode b_W_writeNext 60 = .ok (.iload 6, 2) := by decide +kernel
theorem d_W_writeNext_62 : decode b_W_writeNext 62 = .ok (.iastore, 1) := by decide +kernel
theorem d_W_writeNext_63 : decode b_W_writeNext 63 = .ok (.aload_n 0, 1) := by decide +kernel
theorem d_W_writeNext_64 : decode b_W_writeNext 64 = .ok (.getfield 30, 3) := by decide +kernel
theorem d_W_writeNext_67 : decode b_W_writeNext 67 = .ok (.aload_n 0, 1) := by decide +kernel
theorem d_W_writeNext_68 : decode b_W_writeNext 68 = .ok (.getfield 34, 3) := by decide +kernel
theorem d_W_writeNext_71 : decode b_W_writeNext 71 = .ok (.iconst 0, 1) := by decide +kernel
theorem d_W_writeNext_72 : decode b_W_writeNext 72 = .ok (.bastore, 1) := by decide +kernel
theorem d_W_writeNext_73 : decode b_W_writeNext 73 = .ok (.return_, 1) := by decide +kernel
theorem d_W_writeCopy_0 : decode b_W_writeCopy 0 = .ok (.aload_n 0, 1) := by decide +kernel
theorem d_W_writeCopy_1 : decode b_W_writeCopy 1 = .ok (.getfield 9, 3) := by decide +kernel
theorem d_W_writeCopy_4 : decode b_W_writeCopy 4 = .ok (.iload_n 2, 1) := by decide +kernel
theorem d_W_writeCopy_5 : decode b_W_writeCopy 5 = .ok (.iload_n 3, 1) := by decide +kernel
theorem d_W_writeCopy_6 : decode b_W_writeCopy 6 = .ok (.iastore, 1) := by decide +kernel
theorem d_W_writeCopy_7 : decode b_W_writeCopy 7 = .ok (.aload_n 0, 1) := by decide +kernel
theorem d_W_writeCopy_8 : decode b_W_writeCopy 8 = .ok (.getfield 15, 3) := by decide +kernel
theorem d_W_writeCopy_11 : decode b_W_writeCopy 11 = .ok (.iload_n 2, 1) := by decide +kernel
theorem d_W_writeCopy_12 : decode b_W_writeCopy 12 = .ok (.aload_n 0, 1) := by decide +kernel
theorem d_W_writeCopy_13 : decode b_W_writeCopy 13 = .ok (.getfield 15, 3) := by decide +kernel
theorem d_W_writeCopy_16 : decode b_W_writeCopy 16 = .ok (.iload_n 1, 1) := by decide +kernel
theorem d_W_writeCopy_17 : decode b_W_writeCopy 17 = .ok (.iaload, 1) := by decide +kernel
theorem d_W_writeCopy_18 : decode b_W_writeCopy 18 = .ok (.iastore, 1) := by decide +kernel
theorem d_W_writeCopy_19 : decode b_W_writeCopy 19 = .ok (.aload_n 0, 1) := by decide +kernel
theorem d_W_writeCopy_20 : decode b_W_writeCopy 20 = .ok (.getfield 18, 3) := by decide +kernel
theorem d_W_writeCopy_23 : decode b_W_writeCopy 23 = .ok (.iload_n 2, 1) := by decide +kernel
theorem d_W_writeCopy_24 : decode b_W_writeCopy 24 = .ok (.aload_n 0, 1) := by decide +kernel
theorem d_W_writeCopy_25 : decode b_W_writeCopy 25 = .ok (.getfield 18, 3) := by decide +kernel
theorem d_W_writeCopy_28 : decode b_W_writeCopy 28 = .ok (.iload_n 1, 1) := by decide +kernel
theorem d_W_writeCopy_29 : decode b_W_writeCopy 29 = .ok (.iaload, 1) := by decide +kernel
theorem d_W_writeCopy_30 : decode b_W_writeCopy 30 = .ok (.iastore, 1) := by decide +kernel
theorem d_W_writeCopy_31 : decode b_W_writeCopy 31 = .ok (.aload_n 0, 1) := by decide +kernel
theorem d_W_writeCopy_32 : decode b_W_writeCopy 32 = .ok (.getfield 21, 3) := by decide +kernel
theorem d_W_writeCopy_35 : decode b_W_writeCopy 35 = .ok (.iload_n 2, 1) := by decide +kernel
theorem d_W_writeCopy_36 : decode b_W_writeCopy 36 = .ok (.aload_n 0, 1) := by decide +kernel
theorem d_W_writeCopy_37 : decode b_W_writeCopy 37 = .ok (.getfield 21, 3) := by decide +kernel
theorem d_W_writeCopy_40 : decode b_W_writeCopy 40 = .ok (.iload_n 1, 1) := by decide +kernel
theorem d_W_writeCopy_41 : decode b_W_writeCopy 41 = .ok (.iaload, 1) := by decide +kernel
theorem d_W_writeCopy_42 : decode b_W_writeCopy 42 = .ok (.iastore, 1) := by decide +kernel
theorem d_W_writeCopy_43 : decode b_W_writeCopy 43 = .ok (.aload_n 0, 1) := by decide +kernel
theorem d_W_writeCopy_44 : decode b_W_writeCopy 44 = .ok (.getfield 24, 3) := by decide +kernel
theorem d_W_writeCopy_47 : decode b_W_writeCopy 47 = .ok (.iload_n 2, 1) := by decide +kernel
theorem d_W_writeCopy_48 : decode b_W_writeCopy 48 = .ok (.aload_n 0, 1) := by decide +kernel
theorem d_W_writeCopy_49 : decode b_W_writeCopy 49 = .ok (.getfield 24, 3) := by decide +kernel
theorem d_W_writeCopy_52 : decode b_W_writeCopy 52 = .ok (.iload_n 1, 1) := by decide +kernel
theorem d_W_writeCopy_53 : decode b_W_writeCopy 53 = .ok (.iaload, 1) := by decide +kernel
theorem d_W_writeCopy_54 : decode b_W_writeCopy 54 = .ok (.iastore, 1) := by decide +kernel
theorem d_W_writeCopy_55 : decode b_W_writeCopy 55 = .ok (.aload_n 0, 1) := by decide +kernel
theorem d_W_writeCopy_56 : decode b_W_writeCopy 56 = .ok (.getfield 27, 3) := by decide +kernel
theorem d_W_writeCopy_59 : decode b_W_writeCopy 59 = .ok (.iload_n 2, 1) := by decide +kernel
theorem d_W_writeCopy_60 : decode b_W_writeCopy 60 = .ok (.aload_n 0, 1) := by decide +kernel
theorem d_W_writeCopy_61 : decode b_W_writeCopy 61 = .ok (.getfield 27, 3) := by decide +kernel
theorem d_W_writeCopy_64 : decode b_W_writeCopy 64 = .ok (.iload_n 1, 1) := by decide +kernel
theorem d_W_writeCopy_65 : decode b_W_writeCopy 65 = .ok (.iaload, 1) := by decide +kernel
theorem d_W_writeCopy_66 : decode b_W_writeCopy 66 = .ok (.iastore, 1) := by decide +kernel
theorem d_W_writeCopy_67 : decode b_W_writeCopy 67 = .ok (.aload_n 0, 1) := by decide +kernel
theorem d_W_writeCopy_68 : decode b_W_writeCopy 68 = .ok (.getfield 30, 3) := by decide +kernel
theorem d_W_writeCopy_71 : decode b_W_writeCopy 71 = .ok (.iload_n 2, 1) := by decide +kernel
theorem d_W_writeCopy_72 : decode b_W_writeCopy 72 = .ok (.iconst 0, 1) := by decide +kernel
theorem d_W_writeCopy_73 : decode b_W_writeCopy 73 = .ok (.bastore, 1) := by decide +kernel
theorem d_W_writeCopy_74 : decode b_W_writeCopy 74 = .ok (.return_, 1) := by decide +kernel
theorem d_L_storey_0 : decode b_L_storey 0 = .ok (.aload_n 2, 1) := by decide +kernel
theorem d_L_storey_1 : decode b_L_storey 1 = .ok (.iconst 0, 1) := by decide +kernel
theorem d_L_storey_2 : decode b_L_storey 2 = .ok (.aload_n 0, 1) := by decide +kernel
theorem d_L_storey_3 : decode b_L_storey 3 = .ok (.iload_n 1, 1) := by decide +kernel
theorem d_L_storey_4 : decode b_L_storey 4 = .ok (.invokevirtual 7, 3) := by decide +kernel
theorem d_L_storey_7 : decode b_L_storey 7 = .ok (.i2l, 1) := by decide +kernel
theorem d_L_storey_8 : decode b_L_storey 8 = .ok (.lastore, 1) := by decide +kernel
theorem d_L_storey_9 : decode b_L_storey 9 = .ok (.goto 9, 3) := by decide +kernel
theorem d_L_storey_12 : decode b_L_storey 12 = .ok (.astore_n 3, 1) := by decide +kernel
theorem d_L_storey_13 : decode b_L_storey 13 = .ok (.iconst 1, 1) := by decide +kernel
theorem d_L_storey_14 : decode b_L_storey 14 = .ok (.ireturn, 1) := by decide +kernel
theorem d_L_storey_15 : decode b_L_storey 15 = .ok (.astore_n 3, 1) := by decide +kernel
theorem d_L_storey_16 : decode b_L_storey 16 = .ok (.iconst 2, 1) := by decide +kernel
theorem d_L_storey_17 : decode b_L_storey 17 = .ok (.ireturn, 1) := by decide +kernel
theorem d_L_storey_18 : decode b_L_storey 18 = .ok (.iconst 0, 1) := by decide +kernel
theorem d_L_storey_19 : decode b_L_storey 19 = .ok (.ireturn, 1) := by decide +kernel
theorem d_L_level_0 : decode b_L_level 0 = .ok (.aload_n 0, 1) := by decide +kernel
theorem d_L_level_1 : decode b_L_level 1 = .ok (.iload_n 1, 1) := by decide +kernel
theorem d_L_level_2 : decode b_L_level 2 = .ok (.iload_n 2, 1) := by decide +kernel
theorem d_L_level_3 : decode b_L_level 3 = .ok (.invokevirtual 17, 3) := by decide +kernel
theorem d_L_level_6 : decode b_L_level 6 = .ok (.goto 9, 3) := by decide +kernel
theorem d_L_level_9 : decode b_L_level 9 = .ok (.astore_n 3, 1) := by decide +kernel
theorem d_L_level_10 : decode b_L_level 10 = .ok (.iconst 1, 1) := by decide +kernel
theorem d_L_level_11 : decode b_L_level 11 = .ok (.ireturn, 1) := by decide +kernel
theorem d_L_level_12 : decode b_L_level 12 = .ok (.astore_n 3, 1) := by decide +kernel
theorem d_L_level_13 : decode b_L_level 13 = .ok (.iconst 2, 1) := by decide +kernel
theorem d_L_level_14 : decode b_L_level 14 = .ok (.ireturn, 1) := by decide +kernel
theorem d_L_level_15 : decode b_L_level 15 = .ok (.iconst 0, 1) := by decide +kernel
theorem d_L_level_16 : decode b_L_level 16 = .ok (.ireturn, 1) := by decide +kernel
theorem d_L_type_0 : decode b_L_type 0 = .ok (.aload_n 2, 1) := by decide +kernel
theorem d_L_type_1 : decode b_L_type 1 = .ok (.iconst 0, 1) := by decide +kernel
theorem d_L_type_2 : decode b_L_type 2 = .ok (.aload_n 0, 1) := by decide +kernel
theorem d_L_type_3 : decode b_L_type 3 = .ok (.iload_n 1, 1) := by decide +kernel
theorem d_L_type_4 : decode b_L_type 4 = .ok (.invokevirtual 21, 3) := by decide +kernel
theorem d_L_type_7 : decode b_L_type 7 = .ok (.i2l, 1) := by decide +kernel
theorem d_L_type_8 : decode b_L_type 8 = .ok (.lastore, 1) := by decide +kernel
theorem d_L_type_9 : decode b_L_type 9 = .ok (.goto 9, 3) := by decide +kernel
theorem d_L_type_12 : decode b_L_type 12 = .ok (.astore_n 3, 1) := by decide +kernel
theorem d_L_type_13 : decode b_L_type 13 = .ok (.iconst 1, 1) := by decide +kernel
theorem d_L_type_14 : decode b_L_type 14 = .ok (.ireturn, 1) := by decide +kernel
theorem d_L_type_15 : decode b_L_type 15 = .ok (.astore_n 3, 1) := by decide +kernel
theorem d_L_type_16 : decode b_L_type 16 = .ok (.iconst 2, 1) := by decide +kernel
theorem d_L_type_17 : decode b_L_type 17 = .ok (.ireturn, 1) := by decide +kernel
theorem d_L_type_18 : decode b_L_type 18 = .ok (.iconst 0, 1) := by decide +kernel
theorem d_L_type_19 : decode b_L_type 19 = .ok (.ireturn, 1) := by decide +kernel
theorem d_L_thickness_0 : decode b_L_thickness 0 = .ok (.aload_n 0, 1) := by decide +kernel
theorem d_L_thickness_1 : decode b_L_thickness 1 = .ok (.iload_n 1, 1) := by decide +kernel
theorem d_L_thickness_2 : decode b_L_thickness 2 = .ok (.iload_n 2, 1) := by decide +kernel
theorem d_L_thickness_3 : decode b_L_thickness 3 = .ok (.invokevirtual 24, 3) := by decide +kernel
theorem d_L_thickness_6 : decode b_L_thickness 6 = .ok (.goto 9, 3) := by decide +kernel
theorem d_L_thickness_9 : decode b_L_thickness 9 = .ok (.astore_n 3, 1) := by decide +kernel
theorem d_L_thickness_10 : decode b_L_thickness 10 = .ok (.iconst 1, 1) := by decide +kernel
theorem d_L_thickness_11 : decode b_L_thickness 11 = .ok (.ireturn, 1) := by decide +kernel
theorem d_L_thickness_12 : decode b_L_thickness 12 = .ok (.astore_n 3, 1) := by decide +kernel
theorem d_L_thickness_13 : decode b_L_thickness 13 = .ok (.iconst 2, 1) := by decide +kernel
theorem d_L_thickness_14 : decode b_L_thickness 14 = .ok (.ireturn, 1) := by decide +kernel
theorem d_L_thickness_15 : decode b_L_thickness 15 = .ok (.iconst 0, 1) := by decide +kernel
theorem d_L_thickness_16 : decode b_L_thickness 16 = .ok (.ireturn, 1) := by decide +kernel
theorem d_L_wall_0 : decode b_L_wall 0 = .ok (.aload 7, 2) := by decide +kernel
theorem d_L_wall_2 : decode b_L_wall 2 = .ok (.iconst 0, 1) := by decide +kernel
theorem d_L_wall_3 : decode b_L_wall 3 = .ok (.aload_n 0, 1) := by decide +kernel
theorem d_L_wall_4 : decode b_L_wall 4 = .ok (.iload_n 1, 1) := by decide +kernel
theorem d_L_wall_5 : decode b_L_wall 5 = .ok (.iload_n 2, 1) := by decide +kernel
theorem d_L_wall_6 : decode b_L_wall 6 = .ok (.iload_n 3, 1) := by decide +kernel
theorem d_L_wall_7 : decode b_L_wall 7 = .ok (.iload 4, 2) := by decide +kernel
theorem d_L_wall_9 : decode b_L_wall 9 = .ok (.iload 5, 2) := by decide +kernel
theorem d_L_wall_11 : decode b_L_wall 11 = .ok (.iload 6, 2) := by decide +kernel
theorem d_L_wall_13 : decode b_L_wall 13 = .ok (.invokevirtual 27, 3) := by decide +kernel
theorem d_L_wall_16 : decode b_L_wall 16 = .ok (.i2l, 1) := by decide +kernel
theorem d_L_wall_17 : decode b_L_wall 17 = .ok (.lastore, 1) := by decide +kernel
theorem d_L_wall_18 : decode b_L_wall 18 = .ok (.goto 11, 3) := by decide +kernel
theorem d_L_wall_21 : decode b_L_wall 21 = .ok (.astore 8, 2) := by decide +kernel
theorem d_L_wall_23 : decode b_L_wall 23 = .ok (.iconst 1, 1) := by decide +kernel
theorem d_L_wall_24 : decode b_L_wall 24 = .ok (.ireturn, 1) := by decide +kernel
theorem d_L_wall_25 : decode b_L_wall 25 = .ok (.astore 8, 2) := by decide +kernel
theorem d_L_wall_27 : decode b_L_wall 27 = .ok (.iconst 2, 1) := by decide +kernel
theorem d_L_wall_28 : decode b_L_wall 28 = .ok (.ireturn, 1) := by decide +kernel
theorem d_L_wall_29 : decode b_L_wall 29 = .ok (.iconst 0, 1) := by decide +kernel
theorem d_L_wall_30 : decode b_L_wall 30 = .ok (.ireturn, 1) := by decide +kernel
theorem d_L_move_0 : decode b_L_move 0 = .ok (.aload_n 0, 1) := by decide +kernel
theorem d_L_move_1 : decode b_L_move 1 = .ok (.iload_n 1, 1) := by decide +kernel
theorem d_L_move_2 : decode b_L_move 2 = .ok (.iload_n 2, 1) := by decide +kernel
theorem d_L_move_3 : decode b_L_move 3 = .ok (.iload_n 3, 1) := by decide +kernel
theorem d_L_move_4 : decode b_L_move 4 = .ok (.invokevirtual 31, 3) := by decide +kernel
theorem d_L_move_7 : decode b_L_move 7 = .ok (.goto 11, 3) := by decide +kernel
theorem d_L_move_10 : decode b_L_move 10 = .ok (.astore 4, 2) := by decide +kernel
theorem d_L_move_12 : decode b_L_move 12 = .ok (.iconst 1, 1) := by decide +kernel
theorem d_L_move_13 : decode b_L_move 13 = .ok (.ireturn, 1) := by decide +kernel
theorem d_L_move_14 : decode b_L_move 14 = .ok (.astore 4, 2) := by decide +kernel
theorem d_L_move_16 : decode b_L_move 16 = .ok (.iconst 2, 1) := by decide +kernel
theorem d_L_move_17 : decode b_L_move 17 = .ok (.ireturn, 1) := by decide +kernel
theorem d_L_move_18 : decode b_L_move 18 = .ok (.iconst 0, 1) := by decide +kernel
theorem d_L_move_19 : decode b_L_move 19 = .ok (.ireturn, 1) := by decide +kernel
theorem d_L_retype_0 : decode b_L_retype 0 = .ok (.aload_n 0, 1) := by decide +kernel
theorem d_L_retype_1 : decode b_L_retype 1 = .ok (.iload_n 1, 1) := by decide +kernel
theorem d_L_retype_2 : decode b_L_retype 2 = .ok (.iload_n 2, 1) := by decide +kernel
theorem d_L_retype_3 : decode b_L_retype 3 = .ok (.invokevirtual 35, 3) := by decide +kernel
theorem d_L_retype_6 : decode b_L_retype 6 = .ok (.goto 9, 3) := by decide +kernel
theorem d_L_retype_9 : decode b_L_retype 9 = .ok (.astore_n 3, 1) := by decide +kernel
theorem d_L_retype_10 : decode b_L_retype 10 = .ok (.iconst 1, 1) := by decide +kernel
theorem d_L_retype_11 : decode b_L_retype 11 = .ok (.ireturn, 1) := by decide +kernel
theorem d_L_retype_12 : decode b_L_retype 12 = .ok (.astore_n 3, 1) := by decide +kernel
theorem d_L_retype_13 : decode b_L_retype 13 = .ok (.iconst 2, 1) := by decide +kernel
theorem d_L_retype_14 : decode b_L_retype 14 = .ok (.ireturn, 1) := by decide +kernel
theorem d_L_retype_15 : decode b_L_retype 15 = .ok (.iconst 0, 1) := by decide +kernel
theorem d_L_retype_16 : decode b_L_retype 16 = .ok (.ireturn, 1) := by decide +kernel
theorem d_L_remove_0 : decode b_L_remove 0 = .ok (.aload_n 0, 1) := by decide +kernel
theorem d_L_remove_1 : decode b_L_remove 1 = .ok (.iload_n 1, 1) := by decide +kernel
theorem d_L_remove_2 : decode b_L_remove 2 = .ok (.invokevirtual 38, 3) := by decide +kernel
theorem d_L_remove_5 : decode b_L_remove 5 = .ok (.goto 9, 3) := by decide +kernel
theorem d_L_remove_8 : decode b_L_remove 8 = .ok (.astore_n 2, 1) := by decide +kernel
theorem d_L_remove_9 : decode b_L_remove 9 = .ok (.iconst 1, 1) := by decide +kernel
theorem d_L_remove_10 : decode b_L_remove 10 = .ok (.ireturn, 1) := by decide +kernel
theorem d_L_remove_11 : decode b_L_remove 11 = .ok (.astore_n 2, 1) := by decide +kernel
theorem d_L_remove_12 : decode b_L_remove 12 = .ok (.iconst 2, 1) := by decide +kernel
theorem d_L_remove_13 : decode b_L_remove 13 = .ok (.ireturn, 1) := by decide +kernel
theorem d_L_remove_14 : decode b_L_remove 14 = .ok (.iconst 0, 1) := by decide +kernel
theorem d_L_remove_15 : decode b_L_remove 15 = .ok (.ireturn, 1) := by decide +kernel
theorem d_L_opening_0 : decode b_L_opening 0 = .ok (.aload 4, 2) := by decide +kernel
theorem d_L_opening_2 : decode b_L_opening 2 = .ok (.iconst 0, 1) := by decide +kernel
theorem d_L_opening_3 : decode b_L_opening 3 = .ok (.aload_n 0, 1) := by decide +kernel
theorem d_L_opening_4 : decode b_L_opening 4 = .ok (.iload_n 1, 1) := by decide +kernel
theorem d_L_opening_5 : decode b_L_opening 5 = .ok (.iload_n 2, 1) := by decide +kernel
theorem d_L_opening_6 : decode b_L_opening 6 = .ok (.iload_n 3, 1) := by decide +kernel
theorem d_L_opening_7 : decode b_L_opening 7 = .ok (.invokevirtual 42, 3) := by decide +kernel
theorem d_L_opening_10 : decode b_L_opening 10 = .ok (.i2l, 1) := by decide +kernel
theorem d_L_opening_11 : decode b_L_opening 11 = .ok (.lastore, 1) := by decide +kernel
theorem d_L_opening_12 : decode b_L_opening 12 = .ok (.goto 11, 3) := by decide +kernel
theorem d_L_opening_15 : decode b_L_opening 15 = .ok (.astore 5, 2) := by decide +kernel
theorem d_L_opening_17 : decode b_L_opening 17 = .ok (.iconst 1, 1) := by decide +kernel
theorem d_L_opening_18 : decode b_L_opening 18 = .ok (.ireturn, 1) := by decide +kernel
theorem d_L_opening_19 : decode b_L_opening 19 = .ok (.astore 5, 2) := by decide +kernel
theorem d_L_opening_21 : decode b_L_opening 21 = .ok (.iconst 2, 1) := by decide +kernel
theorem d_L_opening_22 : decode b_L_opening 22 = .ok (.ireturn, 1) := by decide +kernel
theorem d_L_opening_23 : decode b_L_opening 23 = .ok (.iconst 0, 1) := by decide +kernel
theorem d_L_opening_24 : decode b_L_opening 24 = .ok (.ireturn, 1) := by decide +kernel
theorem d_L_copy_0 : decode b_L_copy 0 = .ok (.aload_n 3, 1) := by decide +kernel
theorem d_L_copy_1 : decode b_L_copy 1 = .ok (.iconst 0, 1) := by decide +kernel
theorem d_L_copy_2 : decode b_L_copy 2 = .ok (.aload_n 0, 1) := by decide +kernel
theorem d_L_copy_3 : decode b_L_copy 3 = .ok (.iload_n 1, 1) := by decide +kernel
theorem d_L_copy_4 : decode b_L_copy 4 = .ok (.iload_n 2, 1) := by decide +kernel
theorem d_L_copy_5 : decode b_L_copy 5 = .ok (.invokevirtual 46, 3) := by decide +kernel
theorem d_L_copy_8 : decode b_L_copy 8 = .ok (.i2l, 1) := by decide +kernel
theorem d_L_copy_9 : decode b_L_copy 9 = .ok (.lastore, 1) := by decide +kernel
theorem d_L_copy_10 : decode b_L_copy 10 = .ok (.goto 11, 3) := by decide +kernel
theorem d_L_copy_13 : decode b_L_copy 13 = .ok (.astore 4, 2) := by decide +kernel
theorem d_L_copy_15 : decode b_L_copy 15 = .ok (.iconst 1, 1) := by decide +kernel
theorem d_L_copy_16 : decode b_L_copy 16 = .ok (.ireturn, 1) := by decide +kernel
theorem d_L_copy_17 : decode b_L_copy 17 = .ok (.astore 4, 2) := by decide +kernel
theorem d_L_copy_19 : decode b_L_copy 19 = .ok (.iconst 2, 1) := by decide +kernel
theorem d_L_copy_20 : decode b_L_copy 20 = .ok (.ireturn, 1) := by decide +kernel
theorem d_L_copy_21 : decode b_L_copy 21 = .ok (.iconst 0, 1) := by decide +kernel
theorem d_L_copy_22 : decode b_L_copy 22 = .ok (.ireturn, 1) := by decide +kernel
theorem d_L_acts_0 : decode b_L_acts 0 = .ok (.aload_n 2, 1) := by decide +kernel
theorem d_L_acts_1 : decode b_L_acts 1 = .ok (.iconst 0, 1) := by decide +kernel
theorem d_L_acts_2 : decode b_L_acts 2 = .ok (.aload_n 0, 1) := by decide +kernel
theorem d_L_acts_3 : decode b_L_acts 3 = .ok (.iload_n 1, 1) := by decide +kernel
theorem d_L_acts_4 : decode b_L_acts 4 = .ok (.invokevirtual 50, 3) := by decide +kernel
theorem d_L_acts_7 : decode b_L_acts 7 = .ok (.i2l, 1) := by decide +kernel
theorem d_L_acts_8 : decode b_L_acts 8 = .ok (.lastore, 1) := by decide +kernel
theorem d_L_acts_9 : decode b_L_acts 9 = .ok (.goto 6, 3) := by decide +kernel
theorem d_L_acts_12 : decode b_L_acts 12 = .ok (.astore_n 3, 1) := by decide +kernel
theorem d_L_acts_13 : decode b_L_acts 13 = .ok (.iconst 1, 1) := by decide +kernel
theorem d_L_acts_14 : decode b_L_acts 14 = .ok (.ireturn, 1) := by decide +kernel
theorem d_L_acts_15 : decode b_L_acts 15 = .ok (.iconst 0, 1) := by decide +kernel
theorem d_L_acts_16 : decode b_L_acts 16 = .ok (.ireturn, 1) := by decide +kernel
theorem d_L_many_0 : decode b_L_many 0 = .ok (.aload_n 2, 1) := by decide +kernel
theorem d_L_many_1 : decode b_L_many 1 = .ok (.iconst 0, 1) := by decide +kernel
theorem d_L_many_2 : decode b_L_many 2 = .ok (.aload_n 0, 1) := by decide +kernel
theorem d_L_many_3 : decode b_L_many 3 = .ok (.iload_n 1, 1) := by decide +kernel
theorem d_L_many_4 : decode b_L_many 4 = .ok (.invokevirtual 53, 3) := by decide +kernel
theorem d_L_many_7 : decode b_L_many 7 = .ok (.i2l, 1) := by decide +kernel
theorem d_L_many_8 : decode b_L_many 8 = .ok (.lastore, 1) := by decide +kernel
theorem d_L_many_9 : decode b_L_many 9 = .ok (.goto 6, 3) := by decide +kernel
theorem d_L_many_12 : decode b_L_many 12 = .ok (.astore_n 3, 1) := by decide +kernel
theorem d_L_many_13 : decode b_L_many 13 = .ok (.iconst 1, 1) := by decide +kernel
theorem d_L_many_14 : decode b_L_many 14 = .ok (.ireturn, 1) := by decide +kernel
theorem d_L_many_15 : decode b_L_many 15 = .ok (.iconst 0, 1) := by decide +kernel
theorem d_L_many_16 : decode b_L_many 16 = .ok (.ireturn, 1) := by decide +kernel
theorem d_L_wallAt_0 : decode b_L_wallAt 0 = .ok (.aload_n 3, 1) := by decide +kernel
theorem d_L_wallAt_1 : decode b_L_wallAt 1 = .ok (.iconst 0, 1) := by decide +kernel
theorem d_L_wallAt_2 : decode b_L_wallAt 2 = .ok (.aload_n 0, 1) := by decide +kernel
theorem d_L_wallAt_3 : decode b_L_wallAt 3 = .ok (.iload_n 1, 1) := by decide +kernel
theorem d_L_wallAt_4 : decode b_L_wallAt 4 = .ok (.iload_n 2, 1) := by decide +kernel
theorem d_L_wallAt_5 : decode b_L_wallAt 5 = .ok (.invokevirtual 56, 3) := by decide +kernel
theorem d_L_wallAt_8 : decode b_L_wallAt 8 = .ok (.lastore, 1) := by decide +kernel
theorem d_L_wallAt_9 : decode b_L_wallAt 9 = .ok (.goto 7, 3) := by decide +kernel
theorem d_L_wallAt_12 : decode b_L_wallAt 12 = .ok (.astore 4, 2) := by decide +kernel
theorem d_L_wallAt_14 : decode b_L_wallAt 14 = .ok (.iconst 1, 1) := by decide +kernel
theorem d_L_wallAt_15 : decode b_L_wallAt 15 = .ok (.ireturn, 1) := by decide +kernel
theorem d_L_wallAt_16 : decode b_L_wallAt 16 = .ok (.iconst 0, 1) := by decide +kernel
theorem d_L_wallAt_17 : decode b_L_wallAt 17 = .ok (.ireturn, 1) := by decide +kernel
theorem d_L_openingAt_0 : decode b_L_openingAt 0 = .ok (.aload_n 3, 1) := by decide +kernel
theorem d_L_openingAt_1 : decode b_L_openingAt 1 = .ok (.iconst 0, 1) := by decide +kernel
theorem d_L_openingAt_2 : decode b_L_openingAt 2 = .ok (.aload_n 0, 1) := by decide +kernel
theorem d_L_openingAt_3 : decode b_L_openingAt 3 = .ok (.iload_n 1, 1) := by decide +kernel
theorem d_L_openingAt_4 : decode b_L_openingAt 4 = .ok (.iload_n 2, 1) := by decide +kernel
theorem d_L_openingAt_5 : decode b_L_openingAt 5 = .ok (.invokevirtual 60, 3) := by decide +kernel
theorem d_L_openingAt_8 : decode b_L_openingAt 8 = .ok (.i2l, 1) := by decide +kernel
theorem d_L_openingAt_9 : decode b_L_openingAt 9 = .ok (.lastore, 1) := by decide +kernel
theorem d_L_openingAt_10 : decode b_L_openingAt 10 = .ok (.goto 7, 3) := by decide +kernel
theorem d_L_openingAt_13 : decode b_L_openingAt 13 = .ok (.astore 4, 2) := by decide +kernel
theorem d_L_openingAt_15 : decode b_L_openingAt 15 = .ok (.iconst 1, 1) := by decide +kernel
theorem d_L_openingAt_16 : decode b_L_openingAt 16 = .ok (.ireturn, 1) := by decide +kernel
theorem d_L_openingAt_17 : decode b_L_openingAt 17 = .ok (.iconst 0, 1) := by decide +kernel
theorem d_L_openingAt_18 : decode b_L_openingAt 18 = .ok (.ireturn, 1) := by decide +kernel
theorem d_L_storeyAt_0 : decode b_L_storeyAt 0 = .ok (.aload_n 3, 1) := by decide +kernel
theorem d_L_storeyAt_1 : decode b_L_storeyAt 1 = .ok (.iconst 0, 1) := by decide +kernel
theorem d_L_storeyAt_2 : decode b_L_storeyAt 2 = .ok (.aload_n 0, 1) := by decide +kernel
theorem d_L_storeyAt_3 : decode b_L_storeyAt 3 = .ok (.iload_n 1, 1) := by decide +kernel
theorem d_L_storeyAt_4 : decode b_L_storeyAt 4 = .ok (.iload_n 2, 1) := by decide +kernel
theorem d_L_storeyAt_5 : decode b_L_storeyAt 5 = .ok (.invokevirtual 63, 3) := by decide +kernel
theorem d_L_storeyAt_8 : decode b_L_storeyAt 8 = .ok (.lastore, 1) := by decide +kernel
theorem d_L_storeyAt_9 : decode b_L_storeyAt 9 = .ok (.goto 7, 3) := by decide +kernel
theorem d_L_storeyAt_12 : decode b_L_storeyAt 12 = .ok (.astore 4, 2) := by decide +kernel
theorem d_L_storeyAt_14 : decode b_L_storeyAt 14 = .ok (.iconst 1, 1) := by decide +kernel
theorem d_L_storeyAt_15 : decode b_L_storeyAt 15 = .ok (.ireturn, 1) := by decide +kernel
theorem d_L_storeyAt_16 : decode b_L_storeyAt 16 = .ok (.iconst 0, 1) := by decide +kernel
theorem d_L_storeyAt_17 : decode b_L_storeyAt 17 = .ok (.ireturn, 1) := by decide +kernel
theorem d_L_typeAt_0 : decode b_L_typeAt 0 = .ok (.aload_n 3, 1) := by decide +kernel
theorem d_L_typeAt_1 : decode b_L_typeAt 1 = .ok (.iconst 0, 1) := by decide +kernel
theorem d_L_typeAt_2 : decode b_L_typeAt 2 = .ok (.aload_n 0, 1) := by decide +kernel
theorem d_L_typeAt_3 : decode b_L_typeAt 3 = .ok (.iload_n 1, 1) := by decide +kernel
theorem d_L_typeAt_4 : decode b_L_typeAt 4 = .ok (.iload_n 2, 1) := by decide +kernel
theorem d_L_typeAt_5 : decode b_L_typeAt 5 = .ok (.invokevirtual 66, 3) := by decide +kernel
theorem d_L_typeAt_8 : decode b_L_typeAt 8 = .ok (.lastore, 1) := by decide +kernel
theorem d_L_typeAt_9 : decode b_L_typeAt 9 = .ok (.goto 7, 3) := by decide +kernel
theorem d_L_typeAt_12 : decode b_L_typeAt 12 = .ok (.astore 4, 2) := by decide +kernel
theorem d_L_typeAt_14 : decode b_L_typeAt 14 = .ok (.iconst 1, 1) := by decide +kernel
theorem d_L_typeAt_15 : decode b_L_typeAt 15 = .ok (.ireturn, 1) := by decide +kernel
theorem d_L_typeAt_16 : decode b_L_typeAt 16 = .ok (.iconst 0, 1) := by decide +kernel
theorem d_L_typeAt_17 : decode b_L_typeAt 17 = .ok (.ireturn, 1) := by decide +kernel
theorem d_L_body_0 : decode b_L_body 0 = .ok (.aload 5, 2) := by decide +kernel
theorem d_L_body_2 : decode b_L_body 2 = .ok (.iconst 0, 1) := by decide +kernel
theorem d_L_body_3 : decode b_L_body 3 = .ok (.aload_n 0, 1) := by decide +kernel
theorem d_L_body_4 : decode b_L_body 4 = .ok (.iload_n 1, 1) := by decide +kernel
theorem d_L_body_5 : decode b_L_body 5 = .ok (.iload_n 2, 1) := by decide +kernel
theorem d_L_body_6 : decode b_L_body 6 = .ok (.iload_n 3, 1) := by decide +kernel
theorem d_L_body_7 : decode b_L_body 7 = .ok (.iload 4, 2) := by decide +kernel
theorem d_L_body_9 : decode b_L_body 9 = .ok (.invokevirtual 69, 3) := by decide +kernel
theorem d_L_body_12 : decode b_L_body 12 = .ok (.i2l, 1) := by decide +kernel
theorem d_L_body_13 : decode b_L_body 13 = .ok (.lastore, 1) := by decide +kernel
theorem d_L_body_14 : decode b_L_body 14 = .ok (.goto 7, 3) := by decide +kernel
theorem d_L_body_17 : decode b_L_body 17 = .ok (.astore 6, 2) := by decide +kernel
theorem d_L_body_19 : decode b_L_body 19 = .ok (.iconst 1, 1) := by decide +kernel
theorem d_L_body_20 : decode b_L_body 20 = .ok (.ireturn, 1) := by decide +kernel
theorem d_L_body_21 : decode b_L_body 21 = .ok (.iconst 0, 1) := by decide +kernel
theorem d_L_body_22 : decode b_L_body 22 = .ok (.ireturn, 1) := by decide +kernel
theorem d_L_law_0 : decode b_L_law 0 = .ok (.new 8, 3) := by decide +kernel
theorem d_L_law_3 : decode b_L_law 3 = .ok (.dup, 1) := by decide +kernel
theorem d_L_law_4 : decode b_L_law 4 = .ok (.invokespecial 73, 3) := by decide +kernel
theorem d_L_law_7 : decode b_L_law 7 = .ok (.astore_n 1, 1) := by decide +kernel
theorem d_L_law_8 : decode b_L_law 8 = .ok (.new 74, 3) := by decide +kernel
theorem d_L_law_11 : decode b_L_law 11 = .ok (.dup, 1) := by decide +kernel
theorem d_L_law_12 : decode b_L_law 12 = .ok (.invokespecial 76, 3) := by decide +kernel
theorem d_L_law_15 : decode b_L_law 15 = .ok (.astore_n 2, 1) := by decide +kernel
theorem d_L_law_16 : decode b_L_law 16 = .ok (.iconst 1, 1) := by decide +kernel
theorem d_L_law_17 : decode b_L_law 17 = .ok (.newarray .long, 2) := by decide +kernel
theorem d_L_law_19 : decode b_L_law 19 = .ok (.astore_n 3, 1) := by decide +kernel
theorem d_L_law_20 : decode b_L_law 20 = .ok (.iconst 0, 1) := by decide +kernel
theorem d_L_law_21 : decode b_L_law 21 = .ok (.istore 4, 2) := by decide +kernel
theorem d_L_law_23 : decode b_L_law 23 = .ok (.iload 4, 2) := by decide +kernel
theorem d_L_law_25 : decode b_L_law 25 = .ok (.aload_n 0, 1) := by decide +kernel
theorem d_L_law_26 : decode b_L_law 26 = .ok (.arraylength, 1) := by decide +kernel
theorem d_L_law_27 : decode b_L_law 27 = .ok (.bipush 7, 2) := by decide +kernel
theorem d_L_law_29 : decode b_L_law 29 = .ok (.isub, 1) := by decide +kernel
theorem d_L_law_30 : decode b_L_law 30 = .ok (.if_icmp .gt 1225, 3) := by decide +kernel
theorem d_L_law_33 : decode b_L_law 33 = .ok (.aload_n 0, 1) := by decide +kernel
theorem d_L_law_34 : decode b_L_law 34 = .ok (.iload 4, 2) := by decide +kernel
theorem d_L_law_36 : decode b_L_law 36 = .ok (.iaload, 1) := by decide +kernel
theorem d_L_law_37 : decode b_L_law 37 = .ok (.bipush 31, 2) := by decide +kernel
theorem d_L_law_39 : decode b_L_law 39 = .ok (.iand, 1) := by decide +kernel
theorem d_L_law_40 : decode b_L_law 40 = .ok (.tableswitch 1209 0 18 #[92, 148, 196, 252, 300, 418, 478, 526, 562, 642, 710, 723, 736, 792, 848, 915, 983, 1050, 1117], 92) := by decide +kernel
theorem d_L_law_132 : decode b_L_law 132 = .ok (.aload_n 1, 1) := by decide +kernel
theorem d_L_law_133 : decode b_L_law 133 = .ok (.aload_n 0, 1) := by decide +kernel
theorem d_L_law_134 : decode b_L_law 134 = .ok (.iload 4, 2) := by decide +kernel
theorem d_L_law_136 : decode b_L_law 136 = .ok (.iconst 1, 1) := by decide +kernel
theorem d_L_law_137 : decode b_L_law 137 = .ok (.iadd, 1) := by decide +kernel
theorem d_L_law_138 : decode b_L_law 138 = .ok (.iaload, 1) := by decide +kernel
theorem d_L_law_139 : decode b_L_law 139 = .ok (.aload_n 3, 1) := by decide +kernel
theorem d_L_law_140 : decode b_L_law 140 = .ok (.invokestatic 77, 3) := by decide +kernel
theorem d_L_law_143 : decode b_L_law 143 = .ok (.istore 5, 2) := by decide +kernel
theorem d_L_law_145 : decode b_L_law 145 = .ok (.aload_n 2, 1) := by decide +kernel
theorem d_L_law_146 : decode b_L_law 146 = .ok (.aload_n 0, 1) := by decide +kernel
theorem d_L_law_147 : decode b_L_law 147 = .ok (.iload 4, 2) := by decide +kernel
theorem d_L_law_149 : decode b_L_law 149 = .ok (.iconst 1, 1) := by decide +kernel
theorem d_L_law_150 : decode b_L_law 150 = .ok (.iadd, 1) := by decide +kernel
theorem d_L_law_151 : decode b_L_law 151 = .ok (.iaload, 1) := by decide +kernel
theorem d_L_law_152 : decode b_L_law 152 = .ok (.invokevirtual 82, 3) := by decide +kernel
theorem d_L_law_155 : decode b_L_law 155 = .ok (.istore 6, 2) := by decide +kernel
theorem d_L_law_157 : decode b_L_law 157 = .ok (.aload_n 2, 1) := by decide +kernel
theorem d_L_law_158 : decode b_L_law 158 = .ok (.invokevirtual 83, 3) := by decide +kernel
theorem d_L_law_161 : decode b_L_law 161 = .ok (.iload 5, 2) := by decide +kernel
theorem d_L_law_163 : decode b_L_law 163 = .ok (.if_icmp .eq 5, 3) := by decide +kernel
theorem d_L_law_166 : decode b_L_law 166 = .ok (.iconst 0, 1) := by decide +kernel
theorem d_L_law_167 : decode b_L_law 167 = .ok (.ireturn, 1) := by decide +kernel
theorem d_L_law_168 : decode b_L_law 168 = .ok (.iload 5, 2) := by decide +kernel
theorem d_L_law_170 : decode b_L_law 170 = .ok (.ifCond .ne 15, 3) := by decide +kernel
theorem d_L_law_173 : decode b_L_law 173 = .ok (.aload_n 3, 1) := by decide +kernel
theorem d_L_law_174 : decode b_L_law 174 = .ok (.iconst 0, 1) := by decide +kernel
theorem d_L_law_175 : decode b_L_law 175 = .ok (.laload, 1) := by decide +kernel
theorem d_L_law_176 : decode b_L_law 176 = .ok (.iload 6, 2) := by decide +kernel
theorem d_L_law_178 : decode b_L_law 178 = .ok (.i2l, 1) := by decide +kernel
theorem d_L_law_179 : decode b_L_law 179 = .ok (.lcmp, 1) := by decide +kernel
theorem d_L_law_180 : decode b_L_law 180 = .ok (.ifCond .eq 5, 3) := by decide +kernel
theorem d_L_law_183 : decode b_L_law 183 = .ok (.iconst 0, 1) := by decide +kernel
theorem d_L_law_184 : decode b_L_law 184 = .ok (.ireturn, 1) := by decide +kernel
theorem d_L_law_185 : decode b_L_law 185 = .ok (.goto 1064, 3) := by decide +kernel
theorem d_L_law_188 : decode b_L_law 188 = .ok (.aload_n 1, 1) := by decide +kernel
theorem d_L_law_189 : decode b_L_law 189 = .ok (.aload_n 0, 1) := by decide +kernel
theorem d_L_law_190 : decode b_L_law 190 = .ok (.iload 4, 2) := by decide +kernel
theorem d_L_law_192 : decode b_L_law 192 = .ok (.iconst 1, 1) := by decide +kernel
theorem d_L_law_193 : decode b_L_law 193 = .ok (.iadd, 1) := by decide +kernel
theorem d_L_law_194 : decode b_L_law 194 = .ok (.iaload, 1) := by decide +kernel
theorem d_L_law_195 : decode b_L_law 195 = .ok (.aload_n 0, 1) := by decide +kernel
theorem d_L_law_196 : decode b_L_law 196 = .ok (.iload 4, 2) := by decide +kernel
theorem d_L_law_198 : decode b_L_law 198 = .ok (.iconst 2, 1) := by decide +kernel
theorem d_L_law_199 : decode b_L_law 199 = .ok (.iadd, 1) := by decide +kernel
theorem d_L_law_200 : decode b_L_law 200 = .ok (.iaload, 1) := by decide +kernel
theorem d_L_law_201 : decode b_L_law 201 = .ok (.invokestatic 87, 3) := by decide +kernel
theorem d_L_law_204 : decode b_L_law 204 = .ok (.istore 5, 2) := by decide +kernel
theorem d_L_law_206 : decode b_L_law 206 = .ok (.aload_n 2, 1) := by decide +kernel
theorem d_L_law_207 : decode b_L_law 207 = .ok (.aload_n 0, 1) := by decide +kernel
theorem d_L_law_208 : decode b_L_law 208 = .ok (.iload 4, 2) := by decide +kernel
theorem d_L_law_210 : decode b_L_law 210 = .ok (.iconst 1, 1) := by decide +kernel
theorem d_L_law_211 : decode b_L_law 211 = .ok (.iadd, 1) := by decide +kernel
theorem d_L_law_212 : decode b_L_law 212 = .ok (.iaload, 1) := by decide +kernel
theorem d_L_law_213 : decode b_L_law 213 = .ok (.aload_n 0, 1) := by decide +kernel
theorem d_L_law_214 : decode b_L_law 214 = .ok (.iload 4, 2) := by decide +kernel
theorem d_L_law_216 : decode b_L_law 216 = .ok (.iconst 2, 1) := by decide +kernel
theorem d_L_law_217 : decode b_L_law 217 = .ok (.iadd, 1) := by decide +kernel
theorem d_L_law_218 : decode b_L_law 218 = .ok (.iaload, 1) := by decide +kernel
theorem d_L_law_219 : decode b_L_law 219 = .ok (.invokevirtual 90, 3) := by decide +kernel
theorem d_L_law_222 : decode b_L_law 222 = .ok (.aload_n 2, 1) := by decide +kernel
theorem d_L_law_223 : decode b_L_law 223 = .ok (.invokevirtual 83, 3) := by decide +kernel
theorem d_L_law_226 : decode b_L_law 226 = .ok (.iload 5, 2) := by decide +kernel
theorem d_L_law_228 : decode b_L_law 228 = .ok (.if_icmp .eq 5, 3) := by decide +kernel
theorem d_L_law_231 : decode b_L_law 231 = .ok (.iconst 0, 1) := by decide +kernel
theorem d_L_law_232 : decode b_L_law 232 = .ok (.ireturn, 1) := by decide +kernel
theorem d_L_law_233 : decode b_L_law 233 = .ok (.goto 1016, 3) := by decide +kernel
theorem d_L_law_236 : decode b_L_law 236 = .ok (.aload_n 1, 1) := by decide +kernel
theorem d_L_law_237 : decode b_L_law 237 = .ok (.aload_n 0, 1) := by decide +kernel
theorem d_L_law_238 : decode b_L_law 238 = .ok (.iload 4, 2) := by decide +kernel
theorem d_L_law_240 : decode b_L_law 240 = .ok (.iconst 1, 1) := by decide +kernel
theorem d_L_law_241 : decode b_L_law 241 = .ok (.iadd, 1) := by decide +kernel
theorem d_L_law_242 : decode b_L_law 242 = .ok (.iaload, 1) := by decide +kernel
theorem d_L_law_243 : decode b_L_law 243 = .ok (.aload_n 3, 1) := by decide +kernel
theorem d_L_law_244 : decode b_L_law 244 = .ok (.invokestatic 91, 3) := by decide +kernel
theorem d_L_law_247 : decode b_L_law 247 = .ok (.istore 5, 2) := by decide +kernel
theorem d_L_law_249 : decode b_L_law 249 = .ok (.aload_n 2, 1) := by decide +kernel
theorem d_L_law_250 : decode b_L_law 250 = .ok (.aload_n 0, 1) := by decide +kernel
theorem d_L_law_251 : decode b_L_law 251 = .ok (.iload 4, 2) := by decide +kernel
theorem d_L_law_253 : decode b_L_law 253 = .ok (.iconst 1, 1) := by decide +kernel
theorem d_L_law_254 : decode b_L_law 254 = .ok (.iadd, 1) := by decide +kernel
theorem d_L_law_255 : decode b_L_law 255 = .ok (.iaload, 1) := by decide +kernel
theorem d_L_law_256 : decode b_L_law 256 = .ok (.invokevirtual 93, 3) := by decide +kernel
theorem d_L_law_259 : decode b_L_law 259 = .ok (.istore 6, 2) := by decide +kernel
theorem d_L_law_261 : decode b_L_law 261 = .ok (.aload_n 2, 1) := by decide +kernel
theorem d_L_law_262 : decode b_L_law 262 = .ok (.invokevirtual 83, 3) := by decide +kernel
theorem d_L_law_265 : decode b_L_law 265 = .ok (.iload 5, 2) := by decide +kernel
theorem d_L_law_267 : decode b_L_law 267 = .ok (.if_icmp .eq 5, 3) := by decide +kernel
theorem d_L_law_270 : decode b_L_law 270 = .ok (.iconst 0, 1) := by decide +kernel
theorem d_L_law_271 : decode b_L_law 271 = .ok (.ireturn, 1) := by decide +kernel
theorem d_L_law_272 : decode b_L_law 272 = .ok (.iload 5, 2) := by decide +kernel
theorem d_L_law_274 : decode b_L_law 274 = .ok (.ifCond .ne 15, 3) := by decide +kernel
theorem d_L_law_277 : decode b_L_law 277 = .ok (.aload_n 3, 1) := by decide +kernel
theorem d_L_law_278 : decode b_L_law 278 = .ok (.iconst 0, 1) := by decide +kernel
theorem d_L_law_279 : decode b_L_law 279 = .ok (.laload, 1) := by decide +kernel
theorem d_L_law_280 : decode b_L_law 280 = .ok (.iload 6, 2) := by decide +kernel
theorem d_L_law_282 : decode b_L_law 282 = .ok (.i2l, 1) := by decide +kernel
theorem d_L_law_283 : decode b_L_law 283 = .ok (.lcmp, 1) := by decide +kernel
theorem d_L_law_284 : decode b_L_law 284 = .ok (.ifCond .eq 5, 3) := by decide +kernel
theorem d_L_law_287 : decode b_L_law 287 = .ok (.iconst 0, 1) := by decide +kernel
theorem d_L_law_288 : decode b_L_law 288 = .ok (.ireturn, 1) := by decide +kernel
theorem d_L_law_289 : decode b_L_law 289 = .ok (.goto 960, 3) := by decide +kernel
theorem d_L_law_292 : decode b_L_law 292 = .ok (.aload_n 1, 1) := by decide +kernel
theorem d_L_law_293 : decode b_L_law 293 = .ok (.aload_n 0, 1) := by decide +kernel
theorem d_L_law_294 : decode b_L_law 294 = .ok (.iload 4, 2) := by decide +kernel
theorem d_L_law_296 : decode b_L_law 296 = .ok (.iconst 1, 1) := by decide +kernel
theorem d_L_law_297 : decode b_L_law 297 = .ok (.iadd, 1) := by decide +kernel
theorem d_L_law_298 : decode b_L_law 298 = .ok (.iaload, 1) := by decide +kernel
theorem d_L_law_299 : decode b_L_law 299 = .ok (.aload_n 0, 1) := by decide +kernel
theorem d_L_law_300 : decode b_L_law 300 = .ok (.iload 4, 2) := by decide +kernel
theorem d_L_law_302 : decode b_L_law 302 = .ok (.iconst 2, 1) := by decide +kernel
theorem d_L_law_303 : decode b_L_law 303 = .ok (.iadd, 1) := by decide +kernel
theorem d_L_law_304 : decode b_L_law 304 = .ok (.iaload, 1) := by decide +kernel
theorem d_L_law_305 : decode b_L_law 305 = .ok (.invokestatic 94, 3) := by decide +kernel
theorem d_L_law_308 : decode b_L_law 308 = .ok (.istore 5, 2) := by decide +kernel
theorem d_L_law_310 : decode b_L_law 310 = .ok (.aload_n 2, 1) := by decide +kernel
theorem d_L_law_311 : decode b_L_law 311 = .ok (.aload_n 0, 1) := by decide +kernel
theorem d_L_law_312 : decode b_L_law 312 = .ok (.iload 4, 2) := by decide +kernel
theorem d_L_law_314 : decode b_L_law 314 = .ok (.iconst 1, 1) := by decide +kernel
theorem d_L_law_315 : decode b_L_law 315 = .ok (.iadd, 1) := by decide +kernel
theorem d_L_law_316 : decode b_L_law 316 = .ok (.iaload, 1) := by decide +kernel
theorem d_L_law_317 : decode b_L_law 317 = .ok (.aload_n 0, 1) := by decide +kernel
theorem d_L_law_318 : decode b_L_law 318 = .ok (.iload 4, 2) := by decide +kernel
theorem d_L_law_320 : decode b_L_law 320 = .ok (.iconst 2, 1) := by decide +kernel
theorem d_L_law_321 : decode b_L_law 321 = .ok (.iadd, 1) := by decide +kernel
theorem d_L_law_322 : decode b_L_law 322 = .ok (.iaload, 1) := by decide +kernel
theorem d_L_law_323 : decode b_L_law 323 = .ok (.invokevirtual 96, 3) := by decide +kernel
theorem d_L_law_326 : decode b_L_law 326 = .ok (.aload_n 2, 1) := by decide +kernel
theorem d_L_law_327 : decode b_L_law 327 = .ok (.invokevirtual 83, 3) := by decide +kernel
theorem d_L_law_330 : decode b_L_law 330 = .ok (.iload 5, 2) := by decide +kernel
theorem d_L_law_332 : decode b_L_law 332 = .ok (.if_icmp .eq 5, 3) := by decide +kernel
theorem d_L_law_335 : decode b_L_law 335 = .ok (.iconst 0, 1) := by decide +kernel
theorem d_L_law_336 : decode b_L_law 336 = .ok (.ireturn, 1) := by decide +kernel
theorem d_L_law_337 : decode b_L_law 337 = .ok (.goto 912, 3) := by decide +kernel
theorem d_L_law_340 : decode b_L_law 340 = .ok (.aload_n 1, 1) := by decide +kernel
theorem d_L_law_341 : decode b_L_law 341 = .ok (.aload_n 0, 1) := by decide +kernel
theorem d_L_law_342 : decode b_L_law 342 = .ok (.iload 4, 2) := by decide +kernel
theorem d_L_law_344 : decode b_L_law 344 = .ok (.iconst 1, 1) := by decide +kernel
theorem d_L_law_345 : decode b_L_law 345 = .ok (.iadd, 1) := by decide +kernel
theorem d_L_law_346 : decode b_L_law 346 = .ok (.iaload, 1) := by decide +kernel
theorem d_L_law_347 : decode b_L_law 347 = .ok (.aload_n 0, 1) := by decide +kernel
theorem d_L_law_348 : decode b_L_law 348 = .ok (.iload 4, 2) := by decide +kernel
theorem d_L_law_350 : decode b_L_law 350 = .ok (.iconst 2, 1) := by decide +kernel
theorem d_L_law_351 : decode b_L_law 351 = .ok (.iadd, 1) := by decide +kernel
theorem d_L_law_352 : decode b_L_law 352 = .ok (.iaload, 1) := by decide +kernel
theorem d_L_law_353 : decode b_L_law 353 = .ok (.aload_n 0, 1) := by decide +kernel
theorem d_L_law_354 : decode b_L_law 354 = .ok (.iload 4, 2) := by decide +kernel
theorem d_L_law_356 : decode b_L_law 356 = .ok (.iconst 3, 1) := by decide +kernel
theorem d_L_law_357 : decode b_L_law 357 = .ok (.iadd, 1) := by decide +kernel
theorem d_L_law_358 : decode b_L_law 358 = .ok (.iaload, 1) := by decide +kernel
theorem d_L_law_359 : decode b_L_law 359 = .ok (.aload_n 0, 1) := by decide +kernel
theorem d_L_law_360 : decode b_L_law 360 = .ok (.iload 4, 2) := by decide +kernel
theorem d_L_law_362 : decode b_L_law 362 = .ok (.iconst 4, 1) := by decide +kernel
theorem d_L_law_363 : decode b_L_law 363 = .ok (.iadd, 1) := by decide +kernel
theorem d_L_law_364 : decode b_L_law 364 = .ok (.iaload, 1) := by decide +kernel
theorem d_L_law_365 : decode b_L_law 365 = .ok (.aload_n 0, 1) := by decide +kernel
theorem d_L_law_366 : decode b_L_law 366 = .ok (.iload 4, 2) := by decide +kernel
theorem d_L_law_368 : decode b_L_law 368 = .ok (.iconst 5, 1) := by decide +kernel
theorem d_L_law_369 : decode b_L_law 369 = .ok (.iadd, 1) := by decide +kernel
theorem d_L_law_370 : decode b_L_law 370 = .ok (.iaload, 1) := by decide +kernel
theorem d_L_law_371 : decode b_L_law 371 = .ok (.aload_n 0, 1) := by decide +kernel
theorem d_L_law_372 : decode b_L_law 372 = .ok (.iload 4, 2) := by decide +kernel
theorem d_L_law_374 : decode b_L_law 374 = .ok (.bipush 6, 2) := by decide +kernel
theorem d_L_law_376 : decode b_L_law 376 = .ok (.iadd, 1) := by decide +kernel
theorem d_L_law_377 : decode b_L_law 377 = .ok (.iaload, 1) := by decide +kernel
theorem d_L_law_378 : decode b_L_law 378 = .ok (.aload_n 3, 1) := by decide +kernel
theorem d_L_law_379 : decode b_L_law 379 = .ok (.invokestatic 97, 3) := by decide +kernel
theorem d_L_law_382 : decode b_L_law 382 = .ok (.istore 5, 2) := by decide +kernel
theorem d_L_law_384 : decode b_L_law 384 = .ok (.aload_n 2, 1) := by decide +kernel
theorem d_L_law_385 : decode b_L_law 385 = .ok (.aload_n 0, 1) := by decide +kernel
theorem d_L_law_386 : decode b_L_law 386 = .ok (.iload 4, 2) := by decide +kernel
theorem d_L_law_388 : decode b_L_law 388 = .ok (.iconst 1, 1) := by decide +kernel
theorem d_L_law_389 : decode b_L_law 389 = .ok (.iadd, 1) := by decide +kernel
theorem d_L_law_390 : decode b_L_law 390 = .ok (.iaload, 1) := by decide +kernel
theorem d_L_law_391 : decode b_L_law 391 = .ok (.aload_n 0, 1) := by decide +kernel
theorem d_L_law_392 : decode b_L_law 392 = .ok (.iload 4, 2) := by decide +kernel
theorem d_L_law_394 : decode b_L_law 394 = .ok (.iconst 2, 1) := by decide +kernel
theorem d_L_law_395 : decode b_L_law 395 = .ok (.iadd, 1) := by decide +kernel
theorem d_L_law_396 : decode b_L_law 396 = .ok (.iaload, 1) := by decide +kernel
theorem d_L_law_397 : decode b_L_law 397 = .ok (.aload_n 0, 1) := by decide +kernel
theorem d_L_law_398 : decode b_L_law 398 = .ok (.iload 4, 2) := by decide +kernel
theorem d_L_law_400 : decode b_L_law 400 = .ok (.iconst 3, 1) := by decide +kernel
theorem d_L_law_401 : decode b_L_law 401 = .ok (.iadd, 1) := by decide +kernel
theorem d_L_law_402 : decode b_L_law 402 = .ok (.iaload, 1) := by decide +kernel
theorem d_L_law_403 : decode b_L_law 403 = .ok (.aload_n 0, 1) := by decide +kernel
theorem d_L_law_404 : decode b_L_law 404 = .ok (.iload 4, 2) := by decide +kernel
theorem d_L_law_406 : decode b_L_law 406 = .ok (.iconst 4, 1) := by decide +kernel
theorem d_L_law_407 : decode b_L_law 407 = .ok (.iadd, 1) := by decide +kernel
theorem d_L_law_408 : decode b_L_law 408 = .ok (.iaload, 1) := by decide +kernel
theorem d_L_law_409 : decode b_L_law 409 = .ok (.aload_n 0, 1) := by decide +kernel
theorem d_L_law_410 : decode b_L_law 410 = .ok (.iload 4, 2) := by decide +kernel
theorem d_L_law_412 : decode b_L_law 412 = .ok (.iconst 5, 1) := by decide +kernel
theorem d_L_law_413 : decode b_L_law 413 = .ok (.iadd, 1) := by decide +kernel
theorem d_L_law_414 : decode b_L_law 414 = .ok (.iaload, 1) := by decide +kernel
theorem d_L_law_415 : decode b_L_law 415 = .ok (.aload_n 0, 1) := by decide +kernel
theorem d_L_law_416 : decode b_L_law 416 = .ok (.iload 4, 2) := by decide +kernel
theorem d_L_law_418 : decode b_L_law 418 = .ok (.bipush 6, 2) := by decide +kernel
theorem d_L_law_420 : decode b_L_law 420 = .ok (.iadd, 1) := by decide +kernel
theorem d_L_law_421 : decode b_L_law 421 = .ok (.iaload, 1) := by decide +kernel
theorem d_L_law_422 : decode b_L_law 422 = .ok (.invokevirtual 100, 3) := by decide +kernel
theorem d_L_law_425 : decode b_L_law 425 = .ok (.istore 6, 2) := by decide +kernel
theorem d_L_law_427 : decode b_L_law 427 = .ok (.aload_n 2, 1) := by decide +kernel
theorem d_L_law_428 : decode b_L_law 428 = .ok (.invokevirtual 83, 3) := by decide +kernel
theorem d_L_law_431 : decode b_L_law 431 = .ok (.iload 5, 2) := by decide +kernel
theorem d_L_law_433 : decode b_L_law 433 = .ok (.if_icmp .eq 5, 3) := by decide +kernel
theorem d_L_law_436 : decode b_L_law 436 = .ok (.iconst 0, 1) := by decide +kernel
theorem d_L_law_437 : decode b_L_law 437 = .ok (.ireturn, 1) := by decide +kernel
theorem d_L_law_438 : decode b_L_law 438 = .ok (.iload 5, 2) := by decide +kernel
theorem d_L_law_440 : decode b_L_law 440 = .ok (.ifCond .ne 15, 3) := by decide +kernel
theorem d_L_law_443 : decode b_L_law 443 = .ok (.aload_n 3, 1) := by decide +kernel
theorem d_L_law_444 : decode b_L_law 444 = .ok (.iconst 0, 1) := by decide +kernel
theorem d_L_law_445 : decode b_L_law 445 = .ok (.laload, 1) := by decide +kernel
theorem d_L_law_446 : decode b_L_law 446 = .ok (.iload 6, 2) := by decide +kernel
theorem d_L_law_448 : decode b_L_law 448 = .ok (.i2l, 1) := by decide +kernel
theorem d_L_law_449 : decode b_L_law 449 = .ok (.lcmp, 1) := by decide +kernel
theorem d_L_law_450 : decode b_L_law 450 = .ok (.ifCond .eq 5, 3) := by decide +kernel
theorem d_L_law_453 : decode b_L_law 453 = .ok (.iconst 0, 1) := by decide +kernel
theorem d_L_law_454 : decode b_L_law 454 = .ok (.ireturn, 1) := by decide +kernel
theorem d_L_law_455 : decode b_L_law 455 = .ok (.goto 794, 3) := by decide +kernel
theorem d_L_law_458 : decode b_L_law 458 = .ok (.aload_n 1, 1) := by decide +kernel
theorem d_L_law_459 : decode b_L_law 459 = .ok (.aload_n 0, 1) := by decide +kernel
theorem d_L_law_460 : decode b_L_law 460 = .ok (.iload 4, 2) := by decide +kernel
theorem d_L_law_462 : decode b_L_law 462 = .ok (.iconst 1, 1) := by decide +kernel
theorem d_L_law_463 : decode b_L_law 463 = .ok (.iadd, 1) := by decide +kernel
theorem d_L_law_464 : decode b_L_law 464 = .ok (.iaload, 1) := by decide +kernel
theorem d_L_law_465 : decode b_L_law 465 = .ok (.aload_n 0, 1) := by decide +kernel
theorem d_L_law_466 : decode b_L_law 466 = .ok (.iload 4, 2) := by decide +kernel
theorem d_L_law_468 : decode b_L_law 468 = .ok (.iconst 2, 1) := by decide +kernel
theorem d_L_law_469 : decode b_L_law 469 = .ok (.iadd, 1) := by decide +kernel
theorem d_L_law_470 : decode b_L_law 470 = .ok (.iaload, 1) := by decide +kernel
theorem d_L_law_471 : decode b_L_law 471 = .ok (.aload_n 0, 1) := by decide +kernel
theorem d_L_law_472 : decode b_L_law 472 = .ok (.iload 4, 2) := by decide +kernel
theorem d_L_law_474 : decode b_L_law 474 = .ok (.iconst 3, 1) := by decide +kernel
theorem d_L_law_475 : decode b_L_law 475 = .ok (.iadd, 1) := by decide +kernel
theorem d_L_law_476 : decode b_L_law 476 = .ok (.iaload, 1) := by decide +kernel
theorem d_L_law_477 : decode b_L_law 477 = .ok (.invokestatic 101, 3) := by decide +kernel
theorem d_L_law_480 : decode b_L_law 480 = .ok (.istore 5, 2) := by decide +kernel
theorem d_L_law_482 : decode b_L_law 482 = .ok (.aload_n 2, 1) := by decide +kernel
theorem d_L_law_483 : decode b_L_law 483 = .ok (.aload_n 0, 1) := by decide +kernel
theorem d_L_law_484 : decode b_L_law 484 = .ok (.iload 4, 2) := by decide +kernel
theorem d_L_law_486 : decode b_L_law 486 = .ok (.iconst 1, 1) := by decide +kernel
theorem d_L_law_487 : decode b_L_law 487 = .ok (.iadd, 1) := by decide +kernel
theorem d_L_law_488 : decode b_L_law 488 = .ok (.iaload, 1) := by decide +kernel
theorem d_L_law_489 : decode b_L_law 489 = .ok (.aload_n 0, 1) := by decide +kernel
theorem d_L_law_490 : decode b_L_law 490 = .ok (.iload 4, 2) := by decide +kernel
theorem d_L_law_492 : decode b_L_law 492 = .ok (.iconst 2, 1) := by decide +kernel
theorem d_L_law_493 : decode b_L_law 493 = .ok (.iadd, 1) := by decide +kernel
theorem d_L_law_494 : decode b_L_law 494 = .ok (.iaload, 1) := by decide +kernel
theorem d_L_law_495 : decode b_L_law 495 = .ok (.aload_n 0, 1) := by decide +kernel
theorem d_L_law_496 : decode b_L_law 496 = .ok (.iload 4, 2) := by decide +kernel
theorem d_L_law_498 : decode b_L_law 498 = .ok (.iconst 3, 1) := by decide +kernel
theorem d_L_law_499 : decode b_L_law 499 = .ok (.iadd, 1) := by decide +kernel
theorem d_L_law_500 : decode b_L_law 500 = .ok (.iaload, 1) := by decide +kernel
theorem d_L_law_501 : decode b_L_law 501 = .ok (.invokevirtual 104, 3) := by decide +kernel
theorem d_L_law_504 : decode b_L_law 504 = .ok (.aload_n 2, 1) := by decide +kernel
theorem d_L_law_505 : decode b_L_law 505 = .ok (.invokevirtual 83, 3) := by decide +kernel
theorem d_L_law_508 : decode b_L_law 508 = .ok (.iload 5, 2) := by decide +kernel
theorem d_L_law_510 : decode b_L_law 510 = .ok (.if_icmp .eq 5, 3) := by decide +kernel
theorem d_L_law_513 : decode b_L_law 513 = .ok (.iconst 0, 1) := by decide +kernel
theorem d_L_law_514 : decode b_L_law 514 = .ok (.ireturn, 1) := by decide +kernel
theorem d_L_law_515 : decode b_L_law 515 = .ok (.goto 734, 3) := by decide +kernel
theorem d_L_law_518 : decode b_L_law 518 = .ok (.aload_n 1, 1) := by decide +kernel
theorem d_L_law_519 : decode b_L_law 519 = .ok (.aload_n 0, 1) := by decide +kernel
theorem d_L_law_520 : decode b_L_law 520 = .ok (.iload 4, 2) := by decide +kernel
theorem d_L_law_522 : decode b_L_law 522 = .ok (.iconst 1, 1) := by decide +kernel
theorem d_L_law_523 : decode b_L_law 523 = .ok (.iadd, 1) := by decide +kernel
theorem d_L_law_524 : decode b_L_law 524 = .ok (.iaload, 1) := by decide +kernel
theorem d_L_law_525 : decode b_L_law 525 = .ok (.aload_n 0, 1) := by decide +kernel
theorem d_L_law_526 : decode b_L_law 526 = .ok (.iload 4, 2) := by decide +kernel
theorem d_L_law_528 : decode b_L_law 528 = .ok (.iconst 2, 1) := by decide +kernel
theorem d_L_law_529 : decode b_L_law 529 = .ok (.iadd, 1) := by decide +kernel
theorem d_L_law_530 : decode b_L_law 530 = .ok (.iaload, 1) := by decide +kernel
theorem d_L_law_531 : decode b_L_law 531 = .ok (.invokestatic 105, 3) := by decide +kernel
theorem d_L_law_534 : decode b_L_law 534 = .ok (.istore 5, 2) := by decide +kernel
theorem d_L_law_536 : decode b_L_law 536 = .ok (.aload_n 2, 1) := by decide +kernel
theorem d_L_law_537 : decode b_L_law 537 = .ok (.aload_n 0, 1) := by decide +kernel
theorem d_L_law_538 : decode b_L_law 538 = .ok (.iload 4, 2) := by decide +kernel
theorem d_L_law_540 : decode b_L_law 540 = .ok (.iconst 1, 1) := by decide +kernel
theorem d_L_law_541 : decode b_L_law 541 = .ok (.iadd, 1) := by decide +kernel
theorem d_L_law_542 : decode b_L_law 542 = .ok (.iaload, 1) := by decide +kernel
theorem d_L_law_543 : decode b_L_law 543 = .ok (.aload_n 0, 1) := by decide +kernel
theorem d_L_law_544 : decode b_L_law 544 = .ok (.iload 4, 2) := by decide +kernel
theorem d_L_law_546 : decode b_L_law 546 = .ok (.iconst 2, 1) := by decide +kernel
theorem d_L_law_547 : decode b_L_law 547 = .ok (.iadd, 1) := by decide +kernel
theorem d_L_law_548 : decode b_L_law 548 = .ok (.iaload, 1) := by decide +kernel
theorem d_L_law_549 : decode b_L_law 549 = .ok (.invokevirtual 107, 3) := by decide +kernel
theorem d_L_law_552 : decode b_L_law 552 = .ok (.aload_n 2, 1) := by decide +kernel
theorem d_L_law_553 : decode b_L_law 553 = .ok (.invokevirtual 83, 3) := by decide +kernel
theorem d_L_law_556 : decode b_L_law 556 = .ok (.iload 5, 2) := by decide +kernel
theorem d_L_law_558 : decode b_L_law 558 = .ok (.if_icmp .eq 5, 3) := by decide +kernel
theorem d_L_law_561 : decode b_L_law 561 = .ok (.iconst 0, 1) := by decide +kernel
theorem d_L_law_562 : decode b_L_law 562 = .ok (.ireturn, 1) := by decide +kernel
theorem d_L_law_563 : decode b_L_law 563 = .ok (.goto 686, 3) := by decide +kernel
theorem d_L_law_566 : decode b_L_law 566 = .ok (.aload_n 1, 1) := by decide +kernel
theorem d_L_law_567 : decode b_L_law 567 = .ok (.aload_n 0, 1) := by decide +kernel
theorem d_L_law_568 : decode b_L_law 568 = .ok (.iload 4, 2) := by decide +kernel
theorem d_L_law_570 : decode b_L_law 570 = .ok (.iconst 1, 1) := by decide +kernel
theorem d_L_law_571 : decode b_L_law 571 = .ok (.iadd, 1) := by decide +kernel
theorem d_L_law_572 : decode b_L_law 572 = .ok (.iaload, 1) := by decide +kernel
theorem d_L_law_573 : decode b_L_law 573 = .ok (.invokestatic 108, 3) := by decide +kernel
theorem d_L_law_576 : decode b_L_law 576 = .ok (.istore 5, 2) := by decide +kernel
theorem d_L_law_578 : decode b_L_law 578 = .ok (.aload_n 2, 1) := by decide +kernel
theorem d_L_law_579 : decode b_L_law 579 = .ok (.aload_n 0, 1) := by decide +kernel
theorem d_L_law_580 : decode b_L_law 580 = .ok (.iload 4, 2) := by decide +kernel
theorem d_L_law_582 : decode b_L_law 582 = .ok (.iconst 1, 1) := by decide +kernel
theorem d_L_law_583 : decode b_L_law 583 = .ok (.iadd, 1) := by decide +kernel
theorem d_L_law_584 : decode b_L_law 584 = .ok (.iaload, 1) := by decide +kernel
theorem d_L_law_585 : decode b_L_law 585 = .ok (.invokevirtual 111, 3) := by decide +kernel
theorem d_L_law_588 : decode b_L_law 588 = .ok (.aload_n 2, 1) := by decide +kernel
theorem d_L_law_589 : decode b_L_law 589 = .ok (.invokevirtual 83, 3) := by decide +kernel
theorem d_L_law_592 : decode b_L_law 592 = .ok (.iload 5, 2) := by decide +kernel
theorem d_L_law_594 : decode b_L_law 594 = .ok (.if_icmp .eq 5, 3) := by decide +kernel
theorem d_L_law_597 : decode b_L_law 597 = .ok (.iconst 0, 1) := by decide +kernel
theorem d_L_law_598 : decode b_L_law 598 = .ok (.ireturn, 1) := by decide +kernel
theorem d_L_law_599 : decode b_L_law 599 = .ok (.goto 650, 3) := by decide +kernel
theorem d_L_law_602 : decode b_L_law 602 = .ok (.aload_n 1, 1) := by decide +kernel
theorem d_L_law_603 : decode b_L_law 603 = .ok (.aload_n 0, 1) := by decide +kernel
theorem d_L_law_604 : decode b_L_law 604 = .ok (.iload 4, 2) := by decide +kernel
theorem d_L_law_606 : decode b_L_law 606 = .ok (.iconst 1, 1) := by decide +kernel
theorem d_L_law_607 : decode b_L_law 607 = .ok (.iadd, 1) := by decide +kernel
theorem d_L_law_608 : decode b_L_law 608 = .ok (.iaload, 1) := by decide +kernel
theorem d_L_law_609 : decode b_L_law 609 = .ok (.aload_n 0, 1) := by decide +kernel
theorem d_L_law_610 : decode b_L_law 610 = .ok (.iload 4, 2) := by decide +kernel
theorem d_L_law_612 : decode b_L_law 612 = .ok (.iconst 2, 1) := by decide +kernel
theorem d_L_law_613 : decode b_L_law 613 = .ok (.iadd, 1) := by decide +kernel
theorem d_L_law_614 : decode b_L_law 614 = .ok (.iaload, 1) := by decide +kernel
theorem d_L_law_615 : decode b_L_law 615 = .ok (.aload_n 0, 1) := by decide +kernel
theorem d_L_law_616 : decode b_L_law 616 = .ok (.iload 4, 2) := by decide +kernel
theorem d_L_law_618 : decode b_L_law 618 = .ok (.iconst 3, 1) := by decide +kernel
theorem d_L_law_619 : decode b_L_law 619 = .ok (.iadd, 1) := by decide +kernel
theorem d_L_law_620 : decode b_L_law 620 = .ok (.iaload, 1) := by decide +kernel
theorem d_L_law_621 : decode b_L_law 621 = .ok (.aload_n 3, 1) := by decide +kernel
theorem d_L_law_622 : decode b_L_law 622 = .ok (.invokestatic 112, 3) := by decide +kernel
theorem d_L_law_625 : decode b_L_law 625 = .ok (.istore 5, 2) := by decide +kernel
theorem d_L_law_627 : decode b_L_law 627 = .ok (.aload_n 2, 1) := by decide +kernel
theorem d_L_law_628 : decode b_L_law 628 = .ok (.aload_n 0, 1) := by decide +kernel
theorem d_L_law_629 : decode b_L_law 629 = .ok (.iload 4, 2) := by decide +kernel
theorem d_L_law_631 : decode b_L_law 631 = .ok (.iconst 1, 1) := by decide +kernel
theorem d_L_law_632 : decode b_L_law 632 = .ok (.iadd, 1) := by decide +kernel
theorem d_L_law_633 : decode b_L_law 633 = .ok (.iaload, 1) := by decide +kernel
theorem d_L_law_634 : decode b_L_law 634 = .ok (.aload_n 0, 1) := by decide +kernel
theorem d_L_law_635 : decode b_L_law 635 = .ok (.iload 4, 2) := by decide +kernel
theorem d_L_law_637 : decode b_L_law 637 = .ok (.iconst 2, 1) := by decide +kernel
theorem d_L_law_638 : decode b_L_law 638 = .ok (.iadd, 1) := by decide +kernel
theorem d_L_law_639 : decode b_L_law 639 = .ok (.iaload, 1) := by decide +kernel
theorem d_L_law_640 : decode b_L_law 640 = .ok (.aload_n 0, 1) := by decide +kernel
theorem d_L_law_641 : decode b_L_law 641 = .ok (.iload 4, 2) := by decide +kernel
theorem d_L_law_643 : decode b_L_law 643 = .ok (.iconst 3, 1) := by decide +kernel
theorem d_L_law_644 : decode b_L_law 644 = .ok (.iadd, 1) := by decide +kernel
theorem d_L_law_645 : decode b_L_law 645 = .ok (.iaload, 1) := by decide +kernel
theorem d_L_law_646 : decode b_L_law 646 = .ok (.invokevirtual 115, 3) := by decide +kernel
theorem d_L_law_649 : decode b_L_law 649 = .ok (.istore 6, 2) := by decide +kernel
theorem d_L_law_651 : decode b_L_law 651 = .ok (.aload_n 2, 1) := by decide +kernel
theorem d_L_law_652 : decode b_L_law 652 = .ok (.invokevirtual 83, 3) := by decide +kernel
theorem d_L_law_655 : decode b_L_law 655 = .ok (.iload 5, 2) := by decide +kernel
theorem d_L_law_657 : decode b_L_law 657 = .ok (.if_icmp .eq 5, 3) := by decide +kernel
theorem d_L_law_660 : decode b_L_law 660 = .ok (.iconst 0, 1) := by decide +kernel
theorem d_L_law_661 : decode b_L_law 661 = .ok (.ireturn, 1) := by decide +kernel
theorem d_L_law_662 : decode b_L_law 662 = .ok (.iload 5, 2) := by decide +kernel
theorem d_L_law_664 : decode b_L_law 664 = .ok (.ifCond .ne 15, 3) := by decide +kernel
theorem d_L_law_667 : decode b_L_law 667 = .ok (.aload_n 3, 1) := by decide +kernel
theorem d_L_law_668 : decode b_L_law 668 = .ok (.iconst 0, 1) := by decide +kernel
theorem d_L_law_669 : decode b_L_law 669 = .ok (.laload, 1) := by decide +kernel
theorem d_L_law_670 : decode b_L_law 670 = .ok (.iload 6, 2) := by decide +kernel
theorem d_L_law_672 : decode b_L_law 672 = .ok (.i2l, 1) := by decide +kernel
theorem d_L_law_673 : decode b_L_law 673 = .ok (.lcmp, 1) := by decide +kernel
theorem d_L_law_674 : decode b_L_law 674 = .ok (.ifCond .eq 5, 3) := by decide +kernel
theorem d_L_law_677 : decode b_L_law 677 = .ok (.iconst 0, 1) := by decide +kernel
theorem d_L_law_678 : decode b_L_law 678 = .ok (.ireturn, 1) := by decide +kernel
theorem d_L_law_679 : decode b_L_law 679 = .ok (.goto 570, 3) := by decide +kernel
theorem d_L_law_682 : decode b_L_law 682 = .ok (.aload_n 1, 1) := by decide +kernel
theorem d_L_law_683 : decode b_L_law 683 = .ok (.aload_n 0, 1) := by decide +kernel
theorem d_L_law_684 : decode b_L_law 684 = .ok (.iload 4, 2) := by decide +kernel
theorem d_L_law_686 : decode b_L_law 686 = .ok (.iconst 1, 1) := by decide +kernel
theorem d_L_law_687 : decode b_L_law 687 = .ok (.iadd, 1) := by decide +kernel
theorem d_L_law_688 : decode b_L_law 688 = .ok (.iaload, 1) := by decide +kernel
theorem d_L_law_689 : decode b_L_law 689 = .ok (.aload_n 0, 1) := by decide +kernel
theorem d_L_law_690 : decode b_L_law 690 = .ok (.iload 4, 2) := by decide +kernel
theorem d_L_law_692 : decode b_L_law 692 = .ok (.iconst 2, 1) := by decide +kernel
theorem d_L_law_693 : decode b_L_law 693 = .ok (.iadd, 1) := by decide +kernel
theorem d_L_law_694 : decode b_L_law 694 = .ok (.iaload, 1) := by decide +kernel
theorem d_L_law_695 : decode b_L_law 695 = .ok (.aload_n 3, 1) := by decide +kernel
theorem d_L_law_696 : decode b_L_law 696 = .ok (.invokestatic 116, 3) := by decide +kernel
theorem d_L_law_699 : decode b_L_law 699 = .ok (.istore 5, 2) := by decide +kernel
theorem d_L_law_701 : decode b_L_law 701 = .ok (.aload_n 2, 1) := by decide +kernel
theorem d_L_law_702 : decode b_L_law 702 = .ok (.aload_n 0, 1) := by decide +kernel
theorem d_L_law_703 : decode b_L_law 703 = .ok (.iload 4, 2) := by decide +kernel
theorem d_L_law_705 : decode b_L_law 705 = .ok (.iconst 1, 1) := by decide +kernel
theorem d_L_law_706 : decode b_L_law 706 = .ok (.iadd, 1) := by decide +kernel
theorem d_L_law_707 : decode b_L_law 707 = .ok (.iaload, 1) := by decide +kernel
theorem d_L_law_708 : decode b_L_law 708 = .ok (.aload_n 0, 1) := by decide +kernel
theorem d_L_law_709 : decode b_L_law 709 = .ok (.iload 4, 2) := by decide +kernel
theorem d_L_law_711 : decode b_L_law 711 = .ok (.iconst 2, 1) := by decide +kernel
theorem d_L_law_712 : decode b_L_law 712 = .ok (.iadd, 1) := by decide +kernel
theorem d_L_law_713 : decode b_L_law 713 = .ok (.iaload, 1) := by decide +kernel
theorem d_L_law_714 : decode b_L_law 714 = .ok (.invokevirtual 119, 3) := by decide +kernel
theorem d_L_law_717 : decode b_L_law 717 = .ok (.istore 6, 2) := by decide +kernel
theorem d_L_law_719 : decode b_L_law 719 = .ok (.aload_n 2, 1) := by decide +kernel
theorem d_L_law_720 : decode b_L_law 720 = .ok (.invokevirtual 83, 3) := by decide +kernel
theorem d_L_law_723 : decode b_L_law 723 = .ok (.iload 5, 2) := by decide +kernel
theorem d_L_law_725 : decode b_L_law 725 = .ok (.if_icmp .eq 5, 3) := by decide +kernel
theorem d_L_law_728 : decode b_L_law 728 = .ok (.iconst 0, 1) := by decide +kernel
theorem d_L_law_729 : decode b_L_law 729 = .ok (.ireturn, 1) := by decide +kernel
theorem d_L_law_730 : decode b_L_law 730 = .ok (.iload 5, 2) := by decide +kernel
theorem d_L_law_732 : decode b_L_law 732 = .ok (.ifCond .ne 15, 3) := by decide +kernel
theorem d_L_law_735 : decode b_L_law 735 = .ok (.aload_n 3, 1) := by decide +kernel
theorem d_L_law_736 : decode b_L_law 736 = .ok (.iconst 0, 1) := by decide +kernel
theorem d_L_law_737 : decode b_L_law 737 = .ok (.laload, 1) := by decide +kernel
theorem d_L_law_738 : decode b_L_law 738 = .ok (.iload 6, 2) := by decide +kernel
theorem d_L_law_740 : decode b_L_law 740 = .ok (.i2l, 1) := by decide +kernel
theorem d_L_law_741 : decode b_L_law 741 = .ok (.lcmp, 1) := by decide +kernel
theorem d_L_law_742 : decode b_L_law 742 = .ok (.ifCond .eq 5, 3) := by decide +kernel
theorem d_L_law_745 : decode b_L_law 745 = .ok (.iconst 0, 1) := by decide +kernel
theorem d_L_law_746 : decode b_L_law 746 = .ok (.ireturn, 1) := by decide +kernel
theorem d_L_law_747 : decode b_L_law 747 = .ok (.goto 502, 3) := by decide +kernel
theorem d_L_law_750 : decode b_L_law 750 = .ok (.aload_n 1, 1) := by decide +kernel
theorem d_L_law_751 : decode b_L_law 751 = .ok (.invokevirtual 120, 3) := by decide +kernel
theorem d_L_law_754 : decode b_L_law 754 = .ok (.aload_n 2, 1) := by decide +kernel
theorem d_L_law_755 : decode b_L_law 755 = .ok (.invokevirtual 124, 3) := by decide +kernel
theorem d_L_law_758 : decode b_L_law 758 = .ok (.if_icmp .eq 491, 3) := by decide +kernel
theorem d_L_law_761 : decode b_L_law 761 = .ok (.iconst 0, 1) := by decide +kernel
theorem d_L_law_762 : decode b_L_law 762 = .ok (.ireturn, 1) := by decide +kernel
theorem d_L_law_763 : decode b_L_law 763 = .ok (.aload_n 1, 1) := by decide +kernel
theorem d_L_law_764 : decode b_L_law 764 = .ok (.invokevirtual 125, 3) := by decide +kernel
theorem d_L_law_767 : decode b_L_law 767 = .ok (.aload_n 2, 1) := by decide +kernel
theorem d_L_law_768 : decode b_L_law 768 = .ok (.invokevirtual 128, 3) := by decide +kernel
theorem d_L_law_771 : decode b_L_law 771 = .ok (.if_icmp .eq 478, 3) := by decide +kernel
theorem d_L_law_774 : decode b_L_law 774 = .ok (.iconst 0, 1) := by decide +kernel
theorem d_L_law_775 : decode b_L_law 775 = .ok (.ireturn, 1) := by decide +kernel
theorem d_L_law_776 : decode b_L_law 776 = .ok (.aload_n 1, 1) := by decide +kernel
theorem d_L_law_777 : decode b_L_law 777 = .ok (.aload_n 0, 1) := by decide +kernel
theorem d_L_law_778 : decode b_L_law 778 = .ok (.iload 4, 2) := by decide +kernel
theorem d_L_law_780 : decode b_L_law 780 = .ok (.iconst 1, 1) := by decide +kernel
theorem d_L_law_781 : decode b_L_law 781 = .ok (.iadd, 1) := by decide +kernel
theorem d_L_law_782 : decode b_L_law 782 = .ok (.iaload, 1) := by decide +kernel
theorem d_L_law_783 : decode b_L_law 783 = .ok (.aload_n 3, 1) := by decide +kernel
theorem d_L_law_784 : decode b_L_law 784 = .ok (.invokestatic 129, 3) := by decide +kernel
theorem d_L_law_787 : decode b_L_law 787 = .ok (.istore 5, 2) := by decide +kernel
theorem d_L_law_789 : decode b_L_law 789 = .ok (.aload_n 2, 1) := by decide +kernel
theorem d_L_law_790 : decode b_L_law 790 = .ok (.aload_n 0, 1) := by decide +kernel
theorem d_L_law_791 : decode b_L_law 791 = .ok (.iload 4, 2) := by decide +kernel
theorem d_L_law_793 : decode b_L_law 793 = .ok (.iconst 1, 1) := by decide +kernel
theorem d_L_law_794 : decode b_L_law 794 = .ok (.iadd, 1) := by decide +kernel
theorem d_L_law_795 : decode b_L_law 795 = .ok (.iaload, 1) := by decide +kernel
theorem d_L_law_796 : decode b_L_law 796 = .ok (.invokevirtual 131, 3) := by decide +kernel
theorem d_L_law_799 : decode b_L_law 799 = .ok (.istore 6, 2) := by decide +kernel
theorem d_L_law_801 : decode b_L_law 801 = .ok (.aload_n 2, 1) := by decide +kernel
theorem d_L_law_802 : decode b_L_law 802 = .ok (.invokevirtual 83, 3) := by decide +kernel
theorem d_L_law_805 : decode b_L_law 805 = .ok (.iload 5, 2) := by decide +kernel
theorem d_L_law_807 : decode b_L_law 807 = .ok (.if_icmp .eq 5, 3) := by decide +kernel
theorem d_L_law_810 : decode b_L_law 810 = .ok (.iconst 0, 1) := by decide +kernel
theorem d_L_law_811 : decode b_L_law 811 = .ok (.ireturn, 1) := by decide +kernel
theorem d_L_law_812 : decode b_L_law 812 = .ok (.iload 5, 2) := by decide +kernel
theorem d_L_law_814 : decode b_L_law 814 = .ok (.ifCond .ne 15, 3) := by decide +kernel
theorem d_L_law_817 : decode b_L_law 817 = .ok (.aload_n 3, 1) := by decide +kernel
theorem d_L_law_818 : decode b_L_law 818 = .ok (.iconst 0, 1) := by decide +kernel
theorem d_L_law_819 : decode b_L_law 819 = .ok (.laload, 1) := by decide +kernel
theorem d_L_law_820 : decode b_L_law 820 = .ok (.iload 6, 2) := by decide +kernel
theorem d_L_law_822 : decode b_L_law 822 = .ok (.i2l, 1) := by decide +kernel
theorem d_L_law_823 : decode b_L_law 823 = .ok (.lcmp, 1) := by decide +kernel
theorem d_L_law_824 : decode b_L_law 824 = .ok (.ifCond .eq 5, 3) := by decide +kernel
theorem d_L_law_827 : decode b_L_law 827 = .ok (.iconst 0, 1) := by decide +kernel
theorem d_L_law_828 : decode b_L_law 828 = .ok (.ireturn, 1) := by decide +kernel
theorem d_L_law_829 : decode b_L_law 829 = .ok (.goto 420, 3) := by decide +kernel
theorem d_L_law_832 : decode b_L_law 832 = .ok (.aload_n 1, 1) := by decide +kernel
theorem d_L_law_833 : decode b_L_law 833 = .ok (.aload_n 0, 1) := by decide +kernel
theorem d_L_law_834 : decode b_L_law 834 = .ok (.iload 4, 2) := by decide +kernel
theorem d_L_law_836 : decode b_L_law 836 = .ok (.iconst 1, 1) := by decide +kernel
theorem d_L_law_837 : decode b_L_law 837 = .ok (.iadd, 1) := by decide +kernel
theorem d_L_law_838 : decode b_L_law 838 = .ok (.iaload, 1) := by decide +kernel
theorem d_L_law_839 : decode b_L_law 839 = .ok (.aload_n 3, 1) := by decide +kernel
theorem d_L_law_840 : decode b_L_law 840 = .ok (.invokestatic 132, 3) := by decide +kernel
theorem d_L_law_843 : decode b_L_law 843 = .ok (.istore 5, 2) := by decide +kernel
theorem d_L_law_845 : decode b_L_law 845 = .ok (.aload_n 2, 1) := by decide +kernel
theorem d_L_law_846 : decode b_L_law 846 = .ok (.aload_n 0, 1) := by decide +kernel
theorem d_L_law_847 : decode b_L_law 847 = .ok (.iload 4, 2) := by decide +kernel
theorem d_L_law_849 : decode b_L_law 849 = .ok (.iconst 1, 1) := by decide +kernel
theorem d_L_law_850 : decode b_L_law 850 = .ok (.iadd, 1) := by decide +kernel
theorem d_L_law_851 : decode b_L_law 851 = .ok (.iaload, 1) := by decide +kernel
theorem d_L_law_852 : decode b_L_law 852 = .ok (.invokevirtual 134, 3) := by decide +kernel
theorem d_L_law_855 : decode b_L_law 855 = .ok (.istore 6, 2) := by decide +kernel
theorem d_L_law_857 : decode b_L_law 857 = .ok (.aload_n 2, 1) := by decide +kernel
theorem d_L_law_858 : decode b_L_law 858 = .ok (.invokevirtual 83, 3) := by decide +kernel
theorem d_L_law_861 : decode b_L_law 861 = .ok (.iload 5, 2) := by decide +kernel
theorem d_L_law_863 : decode b_L_law 863 = .ok (.if_icmp .eq 5, 3) := by decide +kernel
theorem d_L_law_866 : decode b_L_law 866 = .ok (.iconst 0, 1) := by decide +kernel
theorem d_L_law_867 : decode b_L_law 867 = .ok (.ireturn, 1) := by decide +kernel
theorem d_L_law_868 : decode b_L_law 868 = .ok (.iload 5, 2) := by decide +kernel
theorem d_L_law_870 : decode b_L_law 870 = .ok (.ifCond .ne 15, 3) := by decide +kernel
theorem d_L_law_873 : decode b_L_law 873 = .ok (.aload_n 3, 1) := by decide +kernel
theorem d_L_law_874 : decode b_L_law 874 = .ok (.iconst 0, 1) := by decide +kernel
theorem d_L_law_875 : decode b_L_law 875 = .ok (.laload, 1) := by decide +kernel
theorem d_L_law_876 : decode b_L_law 876 = .ok (.iload 6, 2) := by decide +kernel
theorem d_L_law_878 : decode b_L_law 878 = .ok (.i2l, 1) := by decide +kernel
theorem d_L_law_879 : decode b_L_law 879 = .ok (.lcmp, 1) := by decide +kernel
theorem d_L_law_880 : decode b_L_law 880 = .ok (.ifCond .eq 5, 3) := by decide +kernel
theorem d_L_law_883 : decode b_L_law 883 = .ok (.iconst 0, 1) := by decide +kernel
theorem d_L_law_884 : decode b_L_law 884 = .ok (.ireturn, 1) := by decide +kernel
theorem d_L_law_885 : decode b_L_law 885 = .ok (.goto 364, 3) := by decide +kernel
theorem d_L_law_888 : decode b_L_law 888 = .ok (.aload_n 1, 1) := by decide +kernel
theorem d_L_law_889 : decode b_L_law 889 = .ok (.aload_n 0, 1) := by decide +kernel
theorem d_L_law_890 : decode b_L_law 890 = .ok (.iload 4, 2) := by decide +kernel
theorem d_L_law_892 : decode b_L_law 892 = .ok (.iconst 1, 1) := by decide +kernel
theorem d_L_law_893 : decode b_L_law 893 = .ok (.iadd, 1) := by decide +kernel
theorem d_L_law_894 : decode b_L_law 894 = .ok (.iaload, 1) := by decide +kernel
theorem d_L_law_895 : decode b_L_law 895 = .ok (.aload_n 0, 1) := by decide +kernel
theorem d_L_law_896 : decode b_L_law 896 = .ok (.iload 4, 2) := by decide +kernel
theorem d_L_law_898 : decode b_L_law 898 = .ok (.iconst 2, 1) := by decide +kernel
theorem d_L_law_899 : decode b_L_law 899 = .ok (.iadd, 1) := by decide +kernel
theorem d_L_law_900 : decode b_L_law 900 = .ok (.iaload, 1) := by decide +kernel
theorem d_L_law_901 : decode b_L_law 901 = .ok (.aload_n 3, 1) := by decide +kernel
theorem d_L_law_902 : decode b_L_law 902 = .ok (.invokestatic 135, 3) := by decide +kernel
theorem d_L_law_905 : decode b_L_law 905 = .ok (.istore 5, 2) := by decide +kernel
theorem d_L_law_907 : decode b_L_law 907 = .ok (.aload_n 2, 1) := by decide +kernel
theorem d_L_law_908 : decode b_L_law 908 = .ok (.aload_n 0, 1) := by decide +kernel
theorem d_L_law_909 : decode b_L_law 909 = .ok (.iload 4, 2) := by decide +kernel
theorem d_L_law_911 : decode b_L_law 911 = .ok (.iconst 1, 1) := by decide +kernel
theorem d_L_law_912 : decode b_L_law 912 = .ok (.iadd, 1) := by decide +kernel
theorem d_L_law_913 : decode b_L_law 913 = .ok (.iaload, 1) := by decide +kernel
theorem d_L_law_914 : decode b_L_law 914 = .ok (.aload_n 0, 1) := by decide +kernel
theorem d_L_law_915 : decode b_L_law 915 = .ok (.iload 4, 2) := by decide +kernel
theorem d_L_law_917 : decode b_L_law 917 = .ok (.iconst 2, 1) := by decide +kernel
theorem d_L_law_918 : decode b_L_law 918 = .ok (.iadd, 1) := by decide +kernel
theorem d_L_law_919 : decode b_L_law 919 = .ok (.iaload, 1) := by decide +kernel
theorem d_L_law_920 : decode b_L_law 920 = .ok (.invokevirtual 137, 3) := by decide +kernel
theorem d_L_law_923 : decode b_L_law 923 = .ok (.lstore 6, 2) := by decide +kernel
theorem d_L_law_925 : decode b_L_law 925 = .ok (.aload_n 2, 1) := by decide +kernel
theorem d_L_law_926 : decode b_L_law 926 = .ok (.invokevirtual 83, 3) := by decide +kernel
theorem d_L_law_929 : decode b_L_law 929 = .ok (.iload 5, 2) := by decide +kernel
theorem d_L_law_931 : decode b_L_law 931 = .ok (.if_icmp .eq 5, 3) := by decide +kernel
theorem d_L_law_934 : decode b_L_law 934 = .ok (.iconst 0, 1) := by decide +kernel
theorem d_L_law_935 : decode b_L_law 935 = .ok (.ireturn, 1) := by decide +kernel
theorem d_L_law_936 : decode b_L_law 936 = .ok (.iload 5, 2) := by decide +kernel
theorem d_L_law_938 : decode b_L_law 938 = .ok (.ifCond .ne 14, 3) := by decide +kernel
theorem d_L_law_941 : decode b_L_law 941 = .ok (.aload_n 3, 1) := by decide +kernel
theorem d_L_law_942 : decode b_L_law 942 = .ok (.iconst 0, 1) := by decide +kernel
theorem d_L_law_943 : decode b_L_law 943 = .ok (.laload, 1) := by decide +kernel
theorem d_L_law_944 : decode b_L_law 944 = .ok (.lload 6, 2) := by decide +kernel
theorem d_L_law_946 : decode b_L_law 946 = .ok (.lcmp, 1) := by decide +kernel
theorem d_L_law_947 : decode b_L_law 947 = .ok (.ifCond .eq 5, 3) := by decide +kernel
theorem d_L_law_950 : decode b_L_law 950 = .ok (.iconst 0, 1) := by decide +kernel
theorem d_L_law_951 : decode b_L_law 951 = .ok (.ireturn, 1) := by decide +kernel
theorem d_L_law_952 : decode b_L_law 952 = .ok (.goto 297, 3) := by decide +kernel
theorem d_L_law_955 : decode b_L_law 955 = .ok (.aload_n 1, 1) := by decide +kernel
theorem d_L_law_956 : decode b_L_law 956 = .ok (.aload_n 0, 1) := by decide +kernel
theorem d_L_law_957 : decode b_L_law 957 = .ok (.iload 4, 2) := by decide +kernel
theorem d_L_law_959 : decode b_L_law 959 = .ok (.iconst 1, 1) := by decide +kernel
theorem d_L_law_960 : decode b_L_law 960 = .ok (.iadd, 1) := by decide +kernel
theorem d_L_law_961 : decode b_L_law 961 = .ok (.iaload, 1) := by decide +kernel
theorem d_L_law_962 : decode b_L_law 962 = .ok (.aload_n 0, 1) := by decide +kernel
theorem d_L_law_963 : decode b_L_law 963 = .ok (.iload 4, 2) := by decide +kernel
theorem d_L_law_965 : decode b_L_law 965 = .ok (.iconst 2, 1) := by decide +kernel
theorem d_L_law_966 : decode b_L_law 966 = .ok (.iadd, 1) := by decide +kernel
theorem d_L_law_967 : decode b_L_law 967 = .ok (.iaload, 1) := by decide +kernel
theorem d_L_law_968 : decode b_L_law 968 = .ok (.aload_n 3, 1) := by decide +kernel
theorem d_L_law_969 : decode b_L_law 969 = .ok (.invokestatic 138, 3) := by decide +kernel
theorem d_L_law_972 : decode b_L_law 972 = .ok (.istore 5, 2) := by decide +kernel
theorem d_L_law_974 : decode b_L_law 974 = .ok (.aload_n 2, 1) := by decide +kernel
theorem d_L_law_975 : decode b_L_law 975 = .ok (.aload_n 0, 1) := by decide +kernel
theorem d_L_law_976 : decode b_L_law 976 = .ok (.iload 4, 2) := by decide +kernel
theorem d_L_law_978 : decode b_L_law 978 = .ok (.iconst 1, 1) := by decide +kernel
theorem d_L_law_979 : decode b_L_law 979 = .ok (.iadd, 1) := by decide +kernel
theorem d_L_law_980 : decode b_L_law 980 = .ok (.iaload, 1) := by decide +kernel
theorem d_L_law_981 : decode b_L_law 981 = .ok (.aload_n 0, 1) := by decide +kernel
theorem d_L_law_982 : decode b_L_law 982 = .ok (.iload 4, 2) := by decide +kernel
theorem d_L_law_984 : decode b_L_law 984 = .ok (.iconst 2, 1) := by decide +kernel
theorem d_L_law_985 : decode b_L_law 985 = .ok (.iadd, 1) := by decide +kernel
theorem d_L_law_986 : decode b_L_law 986 = .ok (.iaload, 1) := by decide +kernel
theorem d_L_law_987 : decode b_L_law 987 = .ok (.invokevirtual 140, 3) := by decide +kernel
theorem d_L_law_990 : decode b_L_law 990 = .ok (.istore 6, 2) := by decide +kernel
theorem d_L_law_992 : decode b_L_law 992 = .ok (.aload_n 2, 1) := by decide +kernel
theorem d_L_law_993 : decode b_L_law 993 = .ok (.invokevirtual 83, 3) := by decide +kernel
theorem d_L_law_996 : decode b_L_law 996 = .ok (.iload 5, 2) := by decide +kernel
theorem d_L_law_998 : decode b_L_law 998 = .ok (.if_icmp .eq 5, 3) := by decide +kernel
theorem d_L_law_1001 : decode b_L_law 1001 = .ok (.iconst 0, 1) := by decide +kernel
theorem d_L_law_1002 : decode b_L_law 1002 = .ok (.ireturn, 1) := by decide +kernel
theorem d_L_law_1003 : decode b_L_law 1003 = .ok (.iload 5, 2) := by decide +kernel
theorem d_L_law_1005 : decode b_L_law 1005 = .ok (.ifCond .ne 15, 3) := by decide +kernel
theorem d_L_law_1008 : decode b_L_law 1008 = .ok (.aload_n 3, 1) := by decide +kernel
theorem d_L_law_1009 : decode b_L_law 1009 = .ok (.iconst 0, 1) := by decide +kernel
theorem d_L_law_1010 : decode b_L_law 1010 = .ok (.laload, 1) := by decide +kernel
theorem d_L_law_1011 : decode b_L_law 1011 = .ok (.iload 6, 2) := by decide +kernel
theorem d_L_law_1013 : decode b_L_law 1013 = .ok (.i2l, 1) := by decide +kernel
theorem d_L_law_1014 : decode b_L_law 1014 = .ok (.lcmp, 1) := by decide +kernel
theorem d_L_law_1015 : decode b_L_law 1015 = .ok (.ifCond .eq 5, 3) := by decide +kernel
theorem d_L_law_1018 : decode b_L_law 1018 = .ok (.iconst 0, 1) := by decide +kernel
theorem d_L_law_1019 : decode b_L_law 1019 = .ok (.ireturn, 1) := by decide +kernel
theorem d_L_law_1020 : decode b_L_law 1020 = .ok (.goto 229, 3) := by decide +kernel
theorem d_L_law_1023 : decode b_L_law 1023 = .ok (.aload_n 1, 1) := by decide +kernel
theorem d_L_law_1024 : decode b_L_law 1024 = .ok (.aload_n 0, 1) := by decide +kernel
theorem d_L_law_1025 : decode b_L_law 1025 = .ok (.iload 4, 2) := by decide +kernel
theorem d_L_law_1027 : decode b_L_law 1027 = .ok (.iconst 1, 1) := by decide +kernel
theorem d_L_law_1028 : decode b_L_law 1028 = .ok (.iadd, 1) := by decide +kernel
theorem d_L_law_1029 : decode b_L_law 1029 = .ok (.iaload, 1) := by decide +kernel
theorem d_L_law_1030 : decode b_L_law 1030 = .ok (.aload_n 0, 1) := by decide +kernel
theorem d_L_law_1031 : decode b_L_law 1031 = .ok (.iload 4, 2) := by decide +kernel
theorem d_L_law_1033 : decode b_L_law 1033 = .ok (.iconst 2, 1) := by decide +kernel
theorem d_L_law_1034 : decode b_L_law 1034 = .ok (.iadd, 1) := by decide +kernel
theorem d_L_law_1035 : decode b_L_law 1035 = .ok (.iaload, 1) := by decide +kernel
theorem d_L_law_1036 : decode b_L_law 1036 = .ok (.aload_n 3, 1) := by decide +kernel
theorem d_L_law_1037 : decode b_L_law 1037 = .ok (.invokestatic 141, 3) := by decide +kernel
theorem d_L_law_1040 : decode b_L_law 1040 = .ok (.istore 5, 2) := by decide +kernel
theorem d_L_law_1042 : decode b_L_law 1042 = .ok (.aload_n 2, 1) := by decide +kernel
theorem d_L_law_1043 : decode b_L_law 1043 = .ok (.aload_n 0, 1) := by decide +kernel
theorem d_L_law_1044 : decode b_L_law 1044 = .ok (.iload 4, 2) := by decide +kernel
theorem d_L_law_1046 : decode b_L_law 1046 = .ok (.iconst 1, 1) := by decide +kernel
theorem d_L_law_1047 : decode b_L_law 1047 = .ok (.iadd, 1) := by decide +kernel
theorem d_L_law_1048 : decode b_L_law 1048 = .ok (.iaload, 1) := by decide +kernel
theorem d_L_law_1049 : decode b_L_law 1049 = .ok (.aload_n 0, 1) := by decide +kernel
theorem d_L_law_1050 : decode b_L_law 1050 = .ok (.iload 4, 2) := by decide +kernel
theorem d_L_law_1052 : decode b_L_law 1052 = .ok (.iconst 2, 1) := by decide +kernel
theorem d_L_law_1053 : decode b_L_law 1053 = .ok (.iadd, 1) := by decide +kernel
theorem d_L_law_1054 : decode b_L_law 1054 = .ok (.iaload, 1) := by decide +kernel
theorem d_L_law_1055 : decode b_L_law 1055 = .ok (.invokevirtual 143, 3) := by decide +kernel
theorem d_L_law_1058 : decode b_L_law 1058 = .ok (.lstore 6, 2) := by decide +kernel
theorem d_L_law_1060 : decode b_L_law 1060 = .ok (.aload_n 2, 1) := by decide +kernel
theorem d_L_law_1061 : decode b_L_law 1061 = .ok (.invokevirtual 83, 3) := by decide +kernel
theorem d_L_law_1064 : decode b_L_law 1064 = .ok (.iload 5, 2) := by decide +kernel
theorem d_L_law_1066 : decode b_L_law 1066 = .ok (.if_icmp .eq 5, 3) := by decide +kernel
theorem d_L_law_1069 : decode b_L_law 1069 = .ok (.iconst 0, 1) := by decide +kernel
theorem d_L_law_1070 : decode b_L_law 1070 = .ok (.ireturn, 1) := by decide +kernel
theorem d_L_law_1071 : decode b_L_law 1071 = .ok (.iload 5, 2) := by decide +kernel
theorem d_L_law_1073 : decode b_L_law 1073 = .ok (.ifCond .ne 14, 3) := by decide +kernel
theorem d_L_law_1076 : decode b_L_law 1076 = .ok (.aload_n 3, 1) := by decide +kernel
theorem d_L_law_1077 : decode b_L_law 1077 = .ok (.iconst 0, 1) := by decide +kernel
theorem d_L_law_1078 : decode b_L_law 1078 = .ok (.laload, 1) := by decide +kernel
theorem d_L_law_1079 : decode b_L_law 1079 = .ok (.lload 6, 2) := by decide +kernel
theorem d_L_law_1081 : decode b_L_law 1081 = .ok (.lcmp, 1) := by decide +kernel
theorem d_L_law_1082 : decode b_L_law 1082 = .ok (.ifCond .eq 5, 3) := by decide +kernel
theorem d_L_law_1085 : decode b_L_law 1085 = .ok (.iconst 0, 1) := by decide +kernel
theorem d_L_law_1086 : decode b_L_law 1086 = .ok (.ireturn, 1) := by decide +kernel
theorem d_L_law_1087 : decode b_L_law 1087 = .ok (.goto 162, 3) := by decide +kernel
theorem d_L_law_1090 : decode b_L_law 1090 = .ok (.aload_n 1, 1) := by decide +kernel
theorem d_L_law_1091 : decode b_L_law 1091 = .ok (.aload_n 0, 1) := by decide +kernel
theorem d_L_law_1092 : decode b_L_law 1092 = .ok (.iload 4, 2) := by decide +kernel
theorem d_L_law_1094 : decode b_L_law 1094 = .ok (.iconst 1, 1) := by decide +kernel
theorem d_L_law_1095 : decode b_L_law 1095 = .ok (.iadd, 1) := by decide +kernel
theorem d_L_law_1096 : decode b_L_law 1096 = .ok (.iaload, 1) := by decide +kernel
theorem d_L_law_1097 : decode b_L_law 1097 = .ok (.aload_n 0, 1) := by decide +kernel
theorem d_L_law_1098 : decode b_L_law 1098 = .ok (.iload 4, 2) := by decide +kernel
theorem d_L_law_1100 : decode b_L_law 1100 = .ok (.iconst 2, 1) := by decide +kernel
theorem d_L_law_1101 : decode b_L_law 1101 = .ok (.iadd, 1) := by decide +kernel
theorem d_L_law_1102 : decode b_L_law 1102 = .ok (.iaload, 1) := by decide +kernel
theorem d_L_law_1103 : decode b_L_law 1103 = .ok (.aload_n 3, 1) := by decide +kernel
theorem d_L_law_1104 : decode b_L_law 1104 = .ok (.invokestatic 144, 3) := by decide +kernel
theorem d_L_law_1107 : decode b_L_law 1107 = .ok (.istore 5, 2) := by decide +kernel
theorem d_L_law_1109 : decode b_L_law 1109 = .ok (.aload_n 2, 1) := by decide +kernel
theorem d_L_law_1110 : decode b_L_law 1110 = .ok (.aload_n 0, 1) := by decide +kernel
theorem d_L_law_1111 : decode b_L_law 1111 = .ok (.iload 4, 2) := by decide +kernel
theorem d_L_law_1113 : decode b_L_law 1113 = .ok (.iconst 1, 1) := by decide +kernel
theorem d_L_law_1114 : decode b_L_law 1114 = .ok (.iadd, 1) := by decide +kernel
theorem d_L_law_1115 : decode b_L_law 1115 = .ok (.iaload, 1) := by decide +kernel
theorem d_L_law_1116 : decode b_L_law 1116 = .ok (.aload_n 0, 1) := by decide +kernel
theorem d_L_law_1117 : decode b_L_law 1117 = .ok (.iload 4, 2) := by decide +kernel
theorem d_L_law_1119 : decode b_L_law 1119 = .ok (.iconst 2, 1) := by decide +kernel
theorem d_L_law_1120 : decode b_L_law 1120 = .ok (.iadd, 1) := by decide +kernel
theorem d_L_law_1121 : decode b_L_law 1121 = .ok (.iaload, 1) := by decide +kernel
theorem d_L_law_1122 : decode b_L_law 1122 = .ok (.invokevirtual 146, 3) := by decide +kernel
theorem d_L_law_1125 : decode b_L_law 1125 = .ok (.lstore 6, 2) := by decide +kernel
theorem d_L_law_1127 : decode b_L_law 1127 = .ok (.aload_n 2, 1) := by decide +kernel
theorem d_L_law_1128 : decode b_L_law 1128 = .ok (.invokevirtual 83, 3) := by decide +kernel
theorem d_L_law_1131 : decode b_L_law 1131 = .ok (.iload 5, 2) := by decide +kernel
theorem d_L_law_1133 : decode b_L_law 1133 = .ok (.if_icmp .eq 5, 3) := by decide +kernel
theorem d_L_law_1136 : decode b_L_law 1136 = .ok (.iconst 0, 1) := by decide +kernel
theorem d_L_law_1137 : decode b_L_law 1137 = .ok (.ireturn, 1) := by decide +kernel
theorem d_L_law_1138 : decode b_L_law 1138 = .ok (.iload 5, 2) := by decide +kernel
theorem d_L_law_1140 : decode b_L_law 1140 = .ok (.ifCond .ne 14, 3) := by decide +kernel
theorem d_L_law_1143 : decode b_L_law 1143 = .ok (.aload_n 3, 1) := by decide +kernel
theorem d_L_law_1144 : decode b_L_law 1144 = .ok (.iconst 0, 1) := by decide +kernel
theorem d_L_law_1145 : decode b_L_law 1145 = .ok (.laload, 1) := by decide +kernel
theorem d_L_law_1146 : decode b_L_law 1146 = .ok (.lload 6, 2) := by decide +kernel
theorem d_L_law_1148 : decode b_L_law 1148 = .ok (.lcmp, 1) := by decide +kernel
theorem d_L_law_1149 : decode b_L_law 1149 = .ok (.ifCond .eq 5, 3) := by decide +kernel
theorem d_L_law_1152 : decode b_L_law 1152 = .ok (.iconst 0, 1) := by decide +kernel
theorem d_L_law_1153 : decode b_L_law 1153 = .ok (.ireturn, 1) := by decide +kernel
theorem d_L_law_1154 : decode b_L_law 1154 = .ok (.goto 95, 3) := by decide +kernel
theorem d_L_law_1157 : decode b_L_law 1157 = .ok (.aload_n 1, 1) := by decide +kernel
theorem d_L_law_1158 : decode b_L_law 1158 = .ok (.aload_n 0, 1) := by decide +kernel
theorem d_L_law_1159 : decode b_L_law 1159 = .ok (.iload 4, 2) := by decide +kernel
theorem d_L_law_1161 : decode b_L_law 1161 = .ok (.iconst 1, 1) := by decide +kernel
theorem d_L_law_1162 : decode b_L_law 1162 = .ok (.iadd, 1) := by decide +kernel
theorem d_L_law_1163 : decode b_L_law 1163 = .ok (.iaload, 1) := by decide +kernel
theorem d_L_law_1164 : decode b_L_law 1164 = .ok (.aload_n 0, 1) := by decide +kernel
theorem d_L_law_1165 : decode b_L_law 1165 = .ok (.iload 4, 2) := by decide +kernel
theorem d_L_law_1167 : decode b_L_law 1167 = .ok (.iconst 2, 1) := by decide +kernel
theorem d_L_law_1168 : decode b_L_law 1168 = .ok (.iadd, 1) := by decide +kernel
theorem d_L_law_1169 : decode b_L_law 1169 = .ok (.iaload, 1) := by decide +kernel
theorem d_L_law_1170 : decode b_L_law 1170 = .ok (.aload_n 0, 1) := by decide +kernel
theorem d_L_law_1171 : decode b_L_law 1171 = .ok (.iload 4, 2) := by decide +kernel
theorem d_L_law_1173 : decode b_L_law 1173 = .ok (.iconst 3, 1) := by decide +kernel
theorem d_L_law_1174 : decode b_L_law 1174 = .ok (.iadd, 1) := by decide +kernel
theorem d_L_law_1175 : decode b_L_law 1175 = .ok (.iaload, 1) := by decide +kernel
theorem d_L_law_1176 : decode b_L_law 1176 = .ok (.aload_n 0, 1) := by decide +kernel
theorem d_L_law_1177 : decode b_L_law 1177 = .ok (.iload 4, 2) := by decide +kernel
theorem d_L_law_1179 : decode b_L_law 1179 = .ok (.iconst 4, 1) := by decide +kernel
theorem d_L_law_1180 : decode b_L_law 1180 = .ok (.iadd, 1) := by decide +kernel
theorem d_L_law_1181 : decode b_L_law 1181 = .ok (.iaload, 1) := by decide +kernel
theorem d_L_law_1182 : decode b_L_law 1182 = .ok (.aload_n 3, 1) := by decide +kernel
theorem d_L_law_1183 : decode b_L_law 1183 = .ok (.invokestatic 147, 3) := by decide +kernel
theorem d_L_law_1186 : decode b_L_law 1186 = .ok (.istore 5, 2) := by decide +kernel
theorem d_L_law_1188 : decode b_L_law 1188 = .ok (.aload_n 2, 1) := by decide +kernel
theorem d_L_law_1189 : decode b_L_law 1189 = .ok (.aload_n 0, 1) := by decide +kernel
theorem d_L_law_1190 : decode b_L_law 1190 = .ok (.iload 4, 2) := by decide +kernel
theorem d_L_law_1192 : decode b_L_law 1192 = .ok (.iconst 1, 1) := by decide +kernel
theorem d_L_law_1193 : decode b_L_law 1193 = .ok (.iadd, 1) := by decide +kernel
theorem d_L_law_1194 : decode b_L_law 1194 = .ok (.iaload, 1) := by decide +kernel
theorem d_L_law_1195 : decode b_L_law 1195 = .ok (.aload_n 0, 1) := by decide +kernel
theorem d_L_law_1196 : decode b_L_law 1196 = .ok (.iload 4, 2) := by decide +kernel
theorem d_L_law_1198 : decode b_L_law 1198 = .ok (.iconst 2, 1) := by decide +kernel
theorem d_L_law_1199 : decode b_L_law 1199 = .ok (.iadd, 1) := by decide +kernel
theorem d_L_law_1200 : decode b_L_law 1200 = .ok (.iaload, 1) := by decide +kernel
theorem d_L_law_1201 : decode b_L_law 1201 = .ok (.aload_n 0, 1) := by decide +kernel
theorem d_L_law_1202 : decode b_L_law 1202 = .ok (.iload 4, 2) := by decide +kernel
theorem d_L_law_1204 : decode b_L_law 1204 = .ok (.iconst 3, 1) := by decide +kernel
theorem d_L_law_1205 : decode b_L_law 1205 = .ok (.iadd, 1) := by decide +kernel
theorem d_L_law_1206 : decode b_L_law 1206 = .ok (.iaload, 1) := by decide +kernel
theorem d_L_law_1207 : decode b_L_law 1207 = .ok (.aload_n 0, 1) := by decide +kernel
theorem d_L_law_1208 : decode b_L_law 1208 = .ok (.iload 4, 2) := by decide +kernel
theorem d_L_law_1210 : decode b_L_law 1210 = .ok (.iconst 4, 1) := by decide +kernel
theorem d_L_law_1211 : decode b_L_law 1211 = .ok (.iadd, 1) := by decide +kernel
theorem d_L_law_1212 : decode b_L_law 1212 = .ok (.iaload, 1) := by decide +kernel
theorem d_L_law_1213 : decode b_L_law 1213 = .ok (.invokevirtual 150, 3) := by decide +kernel
theorem d_L_law_1216 : decode b_L_law 1216 = .ok (.istore 6, 2) := by decide +kernel
theorem d_L_law_1218 : decode b_L_law 1218 = .ok (.aload_n 2, 1) := by decide +kernel
theorem d_L_law_1219 : decode b_L_law 1219 = .ok (.invokevirtual 83, 3) := by decide +kernel
theorem d_L_law_1222 : decode b_L_law 1222 = .ok (.iload 5, 2) := by decide +kernel
theorem d_L_law_1224 : decode b_L_law 1224 = .ok (.if_icmp .eq 5, 3) := by decide +kernel
theorem d_L_law_1227 : decode b_L_law 1227 = .ok (.iconst 0, 1) := by decide +kernel
theorem d_L_law_1228 : decode b_L_law 1228 = .ok (.ireturn, 1) := by decide +kernel
theorem d_L_law_1229 : decode b_L_law 1229 = .ok (.iload 5, 2) := by decide +kernel
theorem d_L_law_1231 : decode b_L_law 1231 = .ok (.ifCond .ne 15, 3) := by decide +kernel
theorem d_L_law_1234 : decode b_L_law 1234 = .ok (.aload_n 3, 1) := by decide +kernel
theorem d_L_law_1235 : decode b_L_law 1235 = .ok (.iconst 0, 1) := by decide +kernel
theorem d_L_law_1236 : decode b_L_law 1236 = .ok (.laload, 1) := by decide +kernel
theorem d_L_law_1237 : decode b_L_law 1237 = .ok (.iload 6, 2) := by decide +kernel
theorem d_L_law_1239 : decode b_L_law 1239 = .ok (.i2l, 1) := by decide +kernel
theorem d_L_law_1240 : decode b_L_law 1240 = .ok (.lcmp, 1) := by decide +kernel
theorem d_L_law_1241 : decode b_L_law 1241 = .ok (.ifCond .eq 5, 3) := by decide +kernel
theorem d_L_law_1244 : decode b_L_law 1244 = .ok (.iconst 0, 1) := by decide +kernel
theorem d_L_law_1245 : decode b_L_law 1245 = .ok (.ireturn, 1) := by decide +kernel
theorem d_L_law_1246 : decode b_L_law 1246 = .ok (.goto 3, 3) := by decide +kernel
theorem d_L_law_1249 : decode b_L_law 1249 = .ok (.iinc 4 7, 3) := by decide +kernel
theorem d_L_law_1252 : decode b_L_law 1252 = .ok (.goto (-1229), 3) := by decide +kernel
theorem d_L_law_1255 : decode b_L_law 1255 = .ok (.iconst 1, 1) := by decide +kernel
theorem d_L_law_1256 : decode b_L_law 1256 = .ok (.ireturn, 1) := by decide +kernel
end
section
/-! own words: contracts' starts and ends, calls, the two worlds -/
def bI (b : Bool) : Int32 := if b = true then 1 else 0
theorem bI_0 {b : Bool} : bI b = 0 ↔ b = false := by cases b <;> simp [bI]
theorem bI_n0 {b : Bool} : ¬ bI b = 0 ↔ b = true := by cases b <;> simp [bI]
theorem bI_nar (b : Bool) : narrow .boolean (.int (bI b)) = .int (bI b) := by cases b <;> rfl
theorem bI_inj {a b : Bool} : bI a = bI b ↔ a = b := by cases a <;> cases b <;> simp [bI]
def kK (dC : Nat → ClassId) (dI : Nat → Nat → Nat) (cI cZ cJ : ClassId) (U : State) : Prop := va_K (dC, dI) classes [(cI, .int), (cZ, .boolean), (cJ, .long)] U
def rP (av : List Value) (H : Heap) (K : State → Prop) : Array Value → State → Prop := fun v U => v = av.toArray ∧ U.heap = H ∧ K U
theorem kK_moved {dC : Nat → ClassId} {dI : Nat → Nat → Nat} {cI cZ cJ : ClassId} {u U : State} (hvm : u.vm.Alike U.vm) (h : kK dC dI cI cZ cJ u) : kK dC dI cI cZ cJ U := va_K.moved hvm h
theorem rP_blind {av : List Value} {H : Heap} {dC : Nat → ClassId} {dI : Nat → Nat → Nat} {cI cZ cJ : ClassId} : FrameBlind (rP av H (kK dC dI cI cZ cJ)) := fun a U g mk q => ⟨q.1, q.2.1, kK_moved (u := U) (U := U.calling g mk a) (Vm.Alike.refl U.vm) q.2.2⟩
def QcReadL (r : Int64) : Array Value → State → Outcome → State → Prop := fun _ st o t => o = .returned (some (.long r)) ∧ t.heap = st.heap
def qW (r : Option Value) (A : Nat → Prop) (P : Heap → Prop) : Array Value → State → Outcome → State → Prop := fun _ st o t => o = .returned r ∧ P t.heap ∧ va_F A st t
def noA : Nat → Prop := fun _ => False
section OWN
variable {p : Program} {l : Launch} {e : Env} {R : Room} {s : State} {m : MethodId} {args : Array Value} {below : List Frame} {meth : Method} {c : Code} {H : Heap} {locs : List Loc} {cells slots : Nat} {Q : State → Prop} {pc : Nat} {ls : Array Slot} {st0 rest : List Value} {a : Array Value} {A0 A1 : Nat → Prop} {H0 : Heap} {dC : Nat → ClassId} {dI : Nat → Nat → Nat} {cI cZ cJ : ClassId}
theorem pV (hK : kK dC dI cI cZ cJ s) {ws : va_W} (hP : va_P (dC, dI) classes ws H) {b q0 ci : Nat} {q : vw_C} {fs : List Value} (hc : classes[ci]? = some q) (he : ws[q0]? = some (b, .inr (ci, fs))) (As : List Value) : PreV s H q.1 b (rP (.ref b :: As) H (kK dC dI cI cZ cJ)) As := ⟨rP_blind, va_recv hK hP hc he, fun U hU hW => ⟨rfl, hU, kK_moved hW.alike hK⟩⟩
theorem pS (hK : kK dC dI cI cZ cJ s) (As : List Value) : PreS s H (rP As H (kK dC dI cI cZ cJ)) As := ⟨rP_blind, fun U hU hW => ⟨rfl, hU, kK_moved hW.alike hK⟩⟩
theorem cR {r : Int32} (hr : CallRun p l e R s m args below meth c H locs cells slots 0 0 (F0 m pc ls st0) rest (QcRead r a) noA) (kk : W p l e R s m args below meth c H locs cells slots Q (F0 m (pc + 3) ls (.int r :: rest))) : W p l e R s m args below meth c H locs cells slots Q (F0 m pc ls st0) := W.callR hr kk
theorem cRL {r : Int64} (hr : CallRun p l e R s m args below meth c H locs cells slots 0 0 (F0 m pc ls st0) rest (QcReadL r a) noA) (kk : W p l e R s m args below meth c H locs cells slots Q (F0 m (pc + 3) ls (.long r :: rest))) : W p l e R s m args below meth c H locs cells slots Q (F0 m pc ls st0) := by
  intro T hT X
  obtain ⟨v, st₀, t, T', L, h0, X', hL, e1, ⟨hv, hh⟩, st⟩ := hr T hT X
  cases hv
  obtain ⟨t2, a1, b1⟩ := kk T' (by rw [e1, hh, h0]) (Stand.forget X' (fun q h => (hL q h).elim))
  exact ⟨t2, st t2 a1, b1⟩
theorem cW {r : Option Value} {P : Heap → Prop} (hr : CallRun p l e R s m args below meth c H locs cells slots 0 0 (F0 m pc ls st0) rest (qW r A1 P a) A1) (hS : va_S A0 H0 H locs) (hA : ∀ q, A1 q → A0 q)
    (kk : ∀ (H1 : Heap) (locs1 : List Loc), P H1 → va_S A0 H0 H1 locs1 → H.size ≤ H1.size → (∀ q : Nat, q < H.size → ¬ A1 q → H1[q]? = H[q]?) → W p l e R s m args below meth c H1 locs1 cells slots Q (F0 m (pc + 3) ls (r.toList ++ rest))) : W p l e R s m args below meth c H locs cells slots Q (F0 m pc ls st0) := by
  intro T hT X
  obtain ⟨v, st₀, t, T', L, h0, X', hL, e1, ⟨hv, hp, hF⟩, st⟩ := hr T hT X
  cases hv
  obtain ⟨k1, k2, k3⟩ := vx_keep h0 e1 hS (fun q _ h => hA q h) hA hL hF
  obtain ⟨t2, a1, b1⟩ := kk T'.heap (locs ++ L) (by rw [e1]; exact hp) k3 k1 k2 T' rfl X'
  exact ⟨t2, st t2 a1, b1⟩
end OWN
/-- the class's cells: kn 0 .. 5 storeys, types, walls, openings, done, held; vv 0 levels, 1 thicknesses, 2 .. 8 walls' storeys, types, x0, y0, x1, y1, gone, 9 .. 11 openings' walls, starts, widths, 12 .. 15 acts' kinds, targets, firsts, seconds -/
def wC (aa : Nat → Nat) (cI cZ : ClassId) (kn : Nat → Int32) (vv : Nat → Nat → Int32) : va_W := [
  (aa 0, .inr (0, [.ref (aa 1), .ref (aa 2), .ref (aa 3), .ref (aa 4), .ref (aa 5)])),
  (aa 1, .inr (3, [.ref (aa 6), .int (kn 0)])),
  (aa 2, .inr (4, [.ref (aa 7), .int (kn 1)])),
  (aa 3, .inr (5, [.ref (aa 8), .ref (aa 9), .ref (aa 10), .ref (aa 11), .ref (aa 12), .ref (aa 13), .ref (aa 14), .int (kn 2)])),
  (aa 4, .inr (2, [.ref (aa 15), .ref (aa 16), .ref (aa 17), .int (kn 3)])),
  (aa 5, .inr (1, [.ref (aa 18), .ref (aa 19), .ref (aa 20), .ref (aa 21), .int (kn 4), .int (kn 5)])),
  (aa 6, .inl (cI, 6, .inl (vv 0))),
  (aa 7, .inl (cI, 8, .inl (vv 1))),
  (aa 8, .inl (cI, 40, .inl (vv 2))),
  (aa 9, .inl (cI, 40, .inl (vv 3))),
  (aa 10, .inl (cI, 40, .inl (vv 4))),
  (aa 11, .inl (cI, 40, .inl (vv 5))),
  (aa 12, .inl (cI, 40, .inl (vv 6))),
  (aa 13, .inl (cI, 40, .inl (vv 7))),
  (aa 14, .inl (cZ, 40, .inl (vv 8))),
  (aa 15, .inl (cI, 60, .inl (vv 9))),
  (aa 16, .inl (cI, 60, .inl (vv 10))),
  (aa 17, .inl (cI, 60, .inl (vv 11))),
  (aa 18, .inl (cI, 200, .inl (vv 12))),
  (aa 19, .inl (cI, 200, .inl (vv 13))),
  (aa 20, .inl (cI, 200, .inl (vv 14))),
  (aa 21, .inl (cI, 200, .inl (vv 15)))]
/-- the reference's cells: mk 0 .. 6 storeys, types, walls, openings, done, undone, code; mv 0 .. 11 as the class's (8: there), 12 the log of acts -/
def wM (ab : Nat → Nat) (cI cZ : ClassId) (mk : Nat → Int32) (mv : Nat → Nat → Int32) : va_W := [
  (ab 0, .inr (6, [.int (mk 6), .ref (ab 1), .int (mk 4), .int (mk 5), .int (mk 0), .ref (ab 2), .int (mk 1), .ref (ab 3), .int (mk 2), .ref (ab 4), .ref (ab 5), .ref (ab 6), .ref (ab 7), .ref (ab 8), .ref (ab 9), .ref (ab 10), .int (mk 3), .ref (ab 11), .ref (ab 12), .ref (ab 13)])),
  (ab 1, .inl (cI, 1400, .inl (mv 12))),
  (ab 2, .inl (cI, 6, .inl (mv 0))),
  (ab 3, .inl (cI, 8, .inl (mv 1))),
  (ab 4, .inl (cI, 40, .inl (mv 2))),
  (ab 5, .inl (cI, 40, .inl (mv 3))),
  (ab 6, .inl (cI, 40, .inl (mv 4))),
  (ab 7, .inl (cI, 40, .inl (mv 5))),
  (ab 8, .inl (cI, 40, .inl (mv 6))),
  (ab 9, .inl (cI, 40, .inl (mv 7))),
  (ab 10, .inl (cZ, 40, .inl (mv 8))),
  (ab 11, .inl (cI, 60, .inl (mv 9))),
  (ab 12, .inl (cI, 60, .inl (mv 10))),
  (ab 13, .inl (cI, 60, .inl (mv 11)))]
def dD (A : Nat → Prop) (aa : Nat → Nat) (n : Nat) : Prop := (∀ i j, i < n → j < n → aa i = aa j → i = j) ∧ ∀ i, i < n → A (aa i)
def aN (aa : Nat → Nat) (n : Nat) : Nat → Prop := fun q => ∃ i, i < n ∧ q = aa i
theorem dD_aN {A : Nat → Prop} {aa : Nat → Nat} {n : Nat} (h : dD A aa n) : dD (aN aa n) aa n := ⟨h.1, fun i hi => ⟨i, hi, rfl⟩⟩
theorem dD_D {A : Nat → Prop} {aa : Nat → Nat} {n : Nat} (h : dD A aa n) (ws : va_W) (hm : ws.map Prod.fst = (List.range n).map aa) : va_D A ws := by
  have key : ∀ (i : Nat) (q : Nat × va_E), ws[i]? = some q → i < n ∧ q.1 = aa i := by
    intro i q hq
    have h1 : (ws.map Prod.fst)[i]? = some q.1 := by rw [List.getElem?_map, hq]; rfl
    rw [hm, List.getElem?_map] at h1
    by_cases hi : i < n
    · rw [List.getElem?_range hi] at h1
      exact ⟨hi, (Option.some.inj h1).symm⟩
    · rw [List.getElem?_eq_none (by simp; omega)] at h1
      cases h1
  refine ⟨fun i j p q hi hj hpq => ?_, fun k q hk => ?_⟩
  · obtain ⟨h1, h2⟩ := key i p hi
    obtain ⟨h3, h4⟩ := key j q hj
    exact h.1 i j h1 h3 (by rw [← h2, ← h4]; exact hpq)
  · obtain ⟨h1, h2⟩ := key k q hk
    rw [h2]; exact h.2 k h1
theorem wC_D {A : Nat → Prop} {aa : Nat → Nat} {cI cZ : ClassId} {kn : Nat → Int32} {vv : Nat → Nat → Int32} (h : dD A aa 22) : va_D A (wC aa cI cZ kn vv) := dD_D h _ rfl
theorem wM_D {A : Nat → Prop} {ab : Nat → Nat} {cI cZ : ClassId} {mk : Nat → Int32} {mv : Nat → Nat → Int32} (h : dD A ab 14) : va_D A (wM ab cI cZ mk mv) := dD_D h _ rfl
end
section
/-! what the class's reading methods answer, said as the code computes it -/
def noT : Nat → Prop := fun _ => True
def cnt (p : Nat → Bool) : Nat → Nat
  | 0 => 0
  | n + 1 => cnt p n + (if p n = true then 1 else 0)
theorem cnt_t {p : Nat → Bool} {n : Nat} (h : p n = true) : cnt p n + 1 = cnt p (n + 1) := by simp [cnt, h]
theorem cnt_f {p : Nat → Bool} {n : Nat} (h : p n = false) : cnt p n = cnt p (n + 1) := by simp [cnt, h]
theorem cnt_le (p : Nat → Bool) (n : Nat) : cnt p n ≤ n := by
  induction n with
  | zero => simp [cnt]
  | succ n ih => simp only [cnt]; split <;> omega
theorem cnt_congr {p q : Nat → Bool} {n : Nat} (h : ∀ i, i < n → p i = q i) : cnt p n = cnt q n := by
  induction n with
  | zero => rfl
  | succ n ih => simp only [cnt]; rw [ih (fun i hi => h i (by omega)), h n (by omega)]
def fstN (p : Nat → Bool) : Nat → Option Nat
  | 0 => none
  | n + 1 => match fstN p n with
    | some j => some j
    | none => if p n = true then some n else none
theorem fstN_none {p : Nat → Bool} {n : Nat} (h : fstN p n = none) (hp : p n = false) : fstN p (n + 1) = none := by simp [fstN, h, hp]
theorem fstN_some {p : Nat → Bool} {i : Nat} (h : fstN p i = none) (hp : p i = true) : ∀ n, i < n → fstN p n = some i := by
  intro n
  induction n with
  | zero => intro hi; omega
  | succ n ih =>
    intro hi
    by_cases hn : i = n
    · subst hn; simp [fstN, h, hp]
    · simp [fstN, ih (by omega)]
theorem fstN_congr {p q : Nat → Bool} {n : Nat} (h : ∀ i, i < n → p i = q i) : fstN p n = fstN q n := by
  induction n with
  | zero => rfl
  | succ n ih => simp only [fstN]; rw [ih (fun i hi => h i (by omega)), h n (by omega)]
theorem fstN_spec {p : Nat → Bool} {n j : Nat} (h : fstN p n = some j) : j < n ∧ p j = true := by
  induction n with
  | zero => simp [fstN] at h
  | succ n ih =>
    simp only [fstN] at h
    cases hq : fstN p n with
    | some k => rw [hq] at h; cases h; have := ih hq; exact ⟨by omega, this.2⟩
    | none =>
      rw [hq] at h
      by_cases hp : p n = true
      · simp [hp] at h; subst h; exact ⟨by omega, hp⟩
      · simp [hp] at h
def oI (o : Option Nat) : Int32 := match o with
  | none => -1
  | some j => nI j
def sumL (p : Nat → Bool) (f : Nat → Int64) : Nat → Int64
  | 0 => 0
  | n + 1 => if p n = true then sumL p f n + f n else sumL p f n
theorem sumL_t {p : Nat → Bool} {f : Nat → Int64} {n : Nat} (h : p n = true) : sumL p f n + f n = sumL p f (n + 1) := by simp [sumL, h]
theorem sumL_f {p : Nat → Bool} {f : Nat → Int64} {n : Nat} (h : p n = false) : sumL p f n = sumL p f (n + 1) := by simp [sumL, h]
theorem sumL_congr {p q : Nat → Bool} {f g : Nat → Int64} {n : Nat} (h : ∀ i, i < n → p i = q i) (hf : ∀ i, i < n → p i = true → f i = g i) : sumL p f n = sumL q g n := by
  induction n with
  | zero => rfl
  | succ n ih =>
    simp only [sumL]
    rw [ih (fun i hi => h i (by omega)) (fun i hi => hf i (by omega)), ← h n (by omega)]
    by_cases hp : p n = true
    · rw [if_pos hp, if_pos hp, hf n (by omega) hp]
    · rw [if_neg hp, if_neg hp]
def sumI (p : Nat → Bool) (f : Nat → Int32) : Nat → Int32
  | 0 => 0
  | n + 1 => if p n = true then sumI p f n + f n else sumI p f n
theorem sumI_t {p : Nat → Bool} {f : Nat → Int32} {n : Nat} (h : p n = true) : sumI p f n + f n = sumI p f (n + 1) := by simp [sumI, h]
theorem sumI_f {p : Nat → Bool} {f : Nat → Int32} {n : Nat} (h : p n = false) : sumI p f n = sumI p f (n + 1) := by simp [sumI, h]
theorem sumI_congr {p q : Nat → Bool} {f g : Nat → Int32} {n : Nat} (h : ∀ i, i < n → p i = q i) (hf : ∀ i, i < n → p i = true → f i = g i) : sumI p f n = sumI q g n := by
  induction n with
  | zero => rfl
  | succ n ih =>
    simp only [sumI]
    rw [ih (fun i hi => h i (by omega)) (fun i hi => hf i (by omega)), ← h n (by omega)]
    by_cases hp : p n = true
    · rw [if_pos hp, if_pos hp, hf n (by omega) hp]
    · rw [if_neg hp, if_neg hp]
def okC (kn : Nat → Int32) (nn : Nat → Nat) : Prop := (∀ i, i < 6 → kn i = nI (nn i)) ∧ nn 0 ≤ 6 ∧ nn 1 ≤ 8 ∧ nn 2 ≤ 40 ∧ nn 3 ≤ 60 ∧ nn 4 ≤ nn 5 ∧ nn 5 ≤ 200
theorem ixW {w k : Int32} {n N : Nat} (h0 : ¬ w < 0) (h1 : ¬ k ≤ w) (ek : k = nI n) (hn : n ≤ N) (hN : N < 2 ^ 31) : vp_in w N := by
  rw [vp_in_iff]
  rw [Int32.lt_iff_toInt_lt] at h0
  rw [ek, Int32.le_iff_toInt_le, nI_toInt (by omega)] at h1
  have : (0 : Int32).toInt = 0 := rfl
  omega
theorem ltC {k : Int32} {n i : Nat} (e : k = nI n) (h : ¬ k ≤ nI i) (hi : i < 2 ^ 31) (hn : n < 2 ^ 31) : i < n := by
  rcases Nat.lt_or_ge i n with q | q
  · exact q
  · exact absurd (by rw [e]; exact nI_le q hi) h
theorem geC {k : Int32} {n i : Nat} (e : k = nI n) (h : k ≤ nI i) (hi : i < 2 ^ 31) (hn : n < 2 ^ 31) : n ≤ i := by
  rcases Nat.lt_or_ge i n with q | q
  · exact absurd (by rw [← e]; exact h) (nI_ge q hn)
  · exact q
def tW (kn : Nat → Int32) (vv : Nat → Nat → Int32) (w : Int32) : Bool := !decide (w < 0) && !decide (kn 2 ≤ w) && decide (vv 8 w.toNatClampNeg = 0)
def onB (kn : Nat → Int32) (vv : Nat → Nat → Int32) (w x : Int32) : Bool := tW kn vv w && decide (vv 2 w.toNatClampNeg = x)
def wiB (kn : Nat → Int32) (vv : Nat → Nat → Int32) (w x : Int32) : Bool := tW kn vv w && decide (vv 3 w.toNatClampNeg = x)
theorem tW_in {kn : Nat → Int32} {vv : Nat → Nat → Int32} {nn : Nat → Nat} {w : Int32} (hI : okC kn nn) (h : tW kn vv w = true) : vp_in w 40 := by
  simp only [tW, Bool.and_eq_true, Bool.not_eq_true', decide_eq_false_iff_not] at h
  exact ixW h.1.1 h.1.2 (hI.1 2 (by decide)) hI.2.2.2.1 (by decide)
def alX (vv : Nat → Nat → Int32) (w : Nat) : Bool := decide (vv 5 w = vv 7 w)
def enB (vv : Nat → Nat → Int32) (w : Nat) (x y : Int32) : Bool := (decide (vv 4 w = x) && decide (vv 5 w = y)) || (decide (vv 6 w = x) && decide (vv 7 w = y))
def abI (x : Int32) : Int32 := if 0 ≤ x then x else 0 - x
def leC (vv : Nat → Nat → Int32) (w : Nat) : Int32 := abI (vv 6 w - vv 4 w) + abI (vv 7 w - vv 5 w)
def acB (kn : Nat → Int32) (vv : Nat → Nat → Int32) (w : Nat) (x y : Int32) (i : Nat) : Bool := onB kn vv (nI i) (vv 2 w) && (alX vv i != alX vv w) && enB vv i x y
def okV (nn : Nat → Nat) (vv : Nat → Nat → Int32) : Prop := (∀ w, w < nn 2 → ∃ k, k < nn 0 ∧ vv 2 w = nI k) ∧ (∀ w, w < nn 2 → ∃ k, k < nn 1 ∧ vv 3 w = nI k)
def haB (k x : Int32) : Bool := !decide (x < 0) && !decide (k ≤ x)
def haC (vv : Nat → Nat → Int32) (w : Nat) : Int32 := vv 1 (vv 3 w).toNatClampNeg / 2
def gaC (vv : Nat → Nat → Int32) (w : Nat) (x : Int32) : Int32 := if x = -1 then 0 else if nI w ≤ x then haC vv x.toNatClampNeg else -haC vv x.toNatClampNeg
def lsC (kn : Nat → Int32) (vv : Nat → Nat → Int32) (nn : Nat → Nat) (w : Nat) (x y : Int32) : Int32 := oI (fstN (acB kn vv w x y) (nn 2))
theorem oI_or (p : Nat → Bool) (n : Nat) : oI (fstN p n) = -1 ∨ ∃ j, j < n ∧ oI (fstN p n) = nI j := by
  cases h : fstN p n with
  | none => exact Or.inl rfl
  | some j => exact Or.inr ⟨j, (fstN_spec h).1, rfl⟩
def neC (kn : Nat → Int32) (vv : Nat → Nat → Int32) (nn : Nat → Nat) (w : Nat) : Int64 := (leC vv w).toInt64 + (gaC vv w (lsC kn vv nn w (vv 4 w) (vv 5 w))).toInt64 + (gaC vv w (lsC kn vv nn w (vv 6 w) (vv 7 w))).toInt64
def heC (kn : Nat → Int32) (vv : Nat → Nat → Int32) (x : Nat) : Int32 := if kn 0 ≤ nI (x + 1) then 300 else vv 0 (x + 1) - vv 0 x
def wdC (vv : Nat → Nat → Int32) (nn : Nat → Nat) (x : Int32) : Int32 := sumI (fun i => decide (vv 9 i = x)) (vv 11) (nn 3)
def miI (a b : Int32) : Int32 := if b < a then b else a
def maI (a b : Int32) : Int32 := if a < b then b else a
def arC (kn : Nat → Int32) (vv : Nat → Nat → Int32) (nn : Nat → Nat) (w : Nat) : Int64 := neC kn vv nn w * (heC kn vv (vv 2 w).toNatClampNeg).toInt64 - (wdC vv nn (nI w)).toInt64 * (miI (heC kn vv (vv 2 w).toNatClampNeg) 200).toInt64
def ovB (vv : Nat → Nat → Int32) (x a b : Int32) (i : Nat) : Bool := decide (vv 9 i = x) && !decide (a + b ≤ vv 10 i) && !decide (vv 10 i + vv 11 i ≤ a)
def coB (vv : Nat → Nat → Int32) (w : Nat) (x y : Int32) : Bool :=
  !decide (x < miI (vv 4 w) (vv 6 w) - (if alX vv w = true then 0 else haC vv w)) && !decide (maI (vv 4 w) (vv 6 w) + (if alX vv w = true then 0 else haC vv w) < x) &&
  !decide (y < miI (vv 5 w) (vv 7 w) - (if alX vv w = true then haC vv w else 0)) && !decide (maI (vv 5 w) (vv 7 w) + (if alX vv w = true then haC vv w else 0) < y)
def bnB (kn : Nat → Int32) (vv : Nat → Nat → Int32) (k : Nat) (x : Int32) : Bool := (decide (k = 0) || !decide (x ≤ vv 0 (k - 1))) && (decide (kn 0 ≤ nI (k + 1)) || !decide (vv 0 (k + 1) ≤ x))
theorem ixT {vv : Nat → Nat → Int32} {nn : Nat → Nat} {w : Nat} (hV : okV nn vv) (h1 : nn 1 ≤ 8) (hw : w < nn 2) : vp_in (vv 3 w) 8 := by
  obtain ⟨k, hk, e⟩ := hV.2 w hw
  rw [e]; exact vp_in_nI (by omega) (by decide)
/-! what the class's writing methods do, said as the code does it -/
abbrev Ar : Type := Nat → Nat → Int32
def u1 (vv : Ar) (j i : Nat) (x : Int32) : Ar := va_up vv j (upd (vv j) i x)
def shV (vv : Ar) (w : Nat) (x y : Int32) : Ar := u1 (u1 (u1 (u1 vv 4 w (vv 4 w + x)) 5 w (vv 5 w + y)) 6 w (vv 6 w + x)) 7 w (vv 7 w + y)
def nwV (vv : Ar) (r : Nat) (a b c d e f : Int32) : Ar := u1 (u1 (u1 (u1 (u1 (u1 (u1 vv 2 r a) 3 r b) 4 r c) 5 r d) 6 r e) 7 r f) 8 r 0
def owV (vv : Ar) (r : Nat) (a b c : Int32) : Ar := u1 (u1 (u1 vv 9 r a) 10 r b) 11 r c
def hwV (vv : Ar) (r : Nat) (a b c d : Int32) : Ar := u1 (u1 (u1 (u1 vv 12 r a) 13 r b) 14 r c) 15 r d
def ocF (x y : Int32) : Nat → Ar × Nat → Ar × Nat
  | 0, z => z
  | i + 1, z => if (ocF x y i z).1 9 i = x then (owV (ocF x y i z).1 (ocF x y i z).2 y ((ocF x y i z).1 10 i) ((ocF x y i z).1 11 i), (ocF x y i z).2 + 1) else ocF x y i z
theorem ocF_t {x y : Int32} {i : Nat} {z : Ar × Nat} (h : (ocF x y i z).1 9 i = x) : ocF x y (i + 1) z = (owV (ocF x y i z).1 (ocF x y i z).2 y ((ocF x y i z).1 10 i) ((ocF x y i z).1 11 i), (ocF x y i z).2 + 1) := by rw [ocF, if_pos h]
theorem ocF_f {x y : Int32} {i : Nat} {z : Ar × Nat} (h : ¬ (ocF x y i z).1 9 i = x) : ocF x y (i + 1) z = ocF x y i z := by rw [ocF, if_neg h]
theorem ocF_mono (x y : Int32) (z : Ar × Nat) : ∀ (i k : Nat), (ocF x y i z).2 ≤ (ocF x y (i + k) z).2 := by
  intro i k
  induction k with
  | zero => exact Nat.le_refl _
  | succ k ih =>
    refine Nat.le_trans ih ?_
    by_cases h : (ocF x y (i + k) z).1 9 (i + k) = x
    · rw [← Nat.add_assoc, ocF_t h]; exact Nat.le_succ _
    · rw [← Nat.add_assoc, ocF_f h]; exact Nat.le_refl _
def wcS (n3 : Nat) (y : Int32) (i : Nat) (z : Ar × Nat × Nat) : Ar × Nat × Nat :=
  ((ocF (nI i) (nI z.2.1) n3 (nwV z.1 z.2.1 y (z.1 3 i) (z.1 4 i) (z.1 5 i) (z.1 6 i) (z.1 7 i), z.2.2)).1, z.2.1 + 1, (ocF (nI i) (nI z.2.1) n3 (nwV z.1 z.2.1 y (z.1 3 i) (z.1 4 i) (z.1 5 i) (z.1 6 i) (z.1 7 i), z.2.2)).2)
def wcF (kn : Nat → Int32) (n3 : Nat) (x y : Int32) : Nat → Ar × Nat × Nat → Ar × Nat × Nat
  | 0, z => z
  | i + 1, z => if onB kn (wcF kn n3 x y i z).1 (nI i) x = true then wcS n3 y i (wcF kn n3 x y i z) else wcF kn n3 x y i z
def exV (vv : Ar) (k : Int32) (t : Nat) (x : Int32) : Ar := if k = 3 then u1 vv 0 t x else if k = 4 then u1 vv 1 t x else u1 vv 3 t x
def exR (vv : Ar) (k : Int32) (t : Nat) : Int32 := if k = 3 then vv 0 t else if k = 4 then vv 1 t else vv 3 t
end
section
section
variable {l : Launch} {dC : Nat → ClassId} {dI : Nat → Nat → Nat} {H : Heap} {aa : Nat → Nat} {cI cZ cJ : ClassId} {kn : Nat → Int32} {vv : Nat → Nat → Int32} {nn : Nat → Nat}
set_option maxRecDepth 100000 in
set_option maxHeartbeats 4000000 in
theorem c_W_isThere (hP : va_P (dC, dI) classes (wC aa cI cZ kn vv) H) (hI : okC kn nn) (w : Int32) : Met l y_W_isThere (wB y_W_isThere b_W_isThere 2 (some .boolean)) ({ frames := 0, cells := 0, slots := 0, locals := 0 } : Room) (rP [.ref (aa 3), .int w] H (kK dC dI cI cZ cJ)) (QcRead (bI (tW kn vv w))) 0 0 noA := by
  refine Met.ofW (cc := b_W_isThere) (maxL := 2) (ret := (some .boolean)) (by decide) rfl ?_
  intro p e s m args below meth c s₁ B hml hv
  obtain ⟨rfl, rfl, hK⟩ := hv
  have hx := B.exec
  have hb := B.bytes
  have hr := B.returns
  have hts0 := atoms_spec (ws := (wB y_W_isThere b_W_isThere 2 (some .boolean))) B.pre
  have hts : ∀ w9 ∈ BG, w9.before [.ref (aa 3), .int w].toArray s = true := fun w9 hw9 => hts0 w9 (List.mem_cons_of_mem _ hw9)
  have hown : s.vm.findClass R_W = some m.cls := findClass_of_methodNamed B.named
  have hlocks := B.notSynchronized
  have hK : va_K (dC, dI) classes [(cI, .int), (cZ, .boolean), (cJ, .long)] s := hK
  have hl := lv_entry ([.ref (aa 3), .int w]) (n := 2) (Nat.le_of_ble_eq_true rfl)
  rw [lg_entry_eq]
  generalize (lg_sl ([.ref (aa 3), .int w]) ++ List.replicate (2 - (lg_sl ([.ref (aa 3), .int w])).length) Slot.unset).toArray = ls at hl ⊢
  have hl : lv_has ls 2 [(0, .ref (aa 3)), (1, .int w)] := hl
  obtain ⟨eK, b0, b1, b2, b3, b4, b5⟩ := id hI
  refine lv_iload_n hx hb d_W_isThere_0 rfl (lv_at hl 1 rfl) ?_
  refine lv_if_lt (tgt := 25) hx hb d_W_isThere_1 (by decide) (fun c_1 => ?_) (fun c_1 => ?_)
  · refine lv_iconst (v := 0) hx hb d_W_isThere_25 (by decide) ?_
    have er : (bI (tW kn vv w)) = 0 := by simp [bI, tW, c_1]
    exact W.zret (v := 0) hx hb hr rfl (fun t ht hW => ⟨by rw [er], ht⟩) (fun q h => by cases h) d_W_isThere_26
  · refine lv_iload_n hx hb d_W_isThere_4 rfl (lv_at hl 1 rfl) ?_
    refine lv_aload_n hx hb d_W_isThere_5 rfl (lv_at hl 0 rfl) ?_
    refine va_get (D := (dC, dI)) (ci := 5) (v := .int (kn 2)) (C := R_W) (T := F_W) (N := 8) hx hb hts i_W hown hK hP 3 rfl rfl 7 (by decide) (hts _ fl_W_34) (fun _ h9 => h9) rfl d_W_isThere_6 ?_
    refine lv_icmp_ge (tgt := 25) hx hb d_W_isThere_9 (by decide) (fun c_9 => ?_) (fun c_9 => ?_)
    · refine lv_iconst (v := 0) hx hb d_W_isThere_25 (by decide) ?_
      have er : (bI (tW kn vv w)) = 0 := by simp [bI, tW, c_1, c_9]
      exact W.zret (v := 0) hx hb hr rfl (fun t ht hW => ⟨by rw [er], ht⟩) (fun q h => by cases h) d_W_isThere_26
    · refine lv_aload_n hx hb d_W_isThere_12 rfl (lv_at hl 0 rfl) ?_
      refine va_get (D := (dC, dI)) (ci := 5) (v := .ref (aa 14)) (C := R_W) (T := F_W) (N := 8) hx hb hts i_W hown hK hP 3 rfl rfl 6 (by decide) (hts _ fl_W_30) (fun _ h9 => h9) rfl d_W_isThere_13 ?_
      refine lv_iload_n hx hb d_W_isThere_16 rfl (lv_at hl 1 rfl) ?_
      refine va_zald hx hb hK hP 14 1 rfl rfl (ixW c_1 c_9 (eK 2 (by decide)) b2 (by decide)) d_W_isThere_17 ?_
      refine lv_if_ne (tgt := 25) hx hb d_W_isThere_18 (by decide) (fun c_18 => ?_) (fun c_18 => ?_)
      · refine lv_iconst (v := 0) hx hb d_W_isThere_25 (by decide) ?_
        have er : (bI (tW kn vv w)) = 0 := by simp [bI, tW, c_1, c_9, c_18]
        exact W.zret (v := 0) hx hb hr rfl (fun t ht hW => ⟨by rw [er], ht⟩) (fun q h => by cases h) d_W_isThere_26
      · refine lv_iconst (v := 1) hx hb d_W_isThere_21 (by decide) ?_
        refine lv_goto (tgt := 26) hx hb d_W_isThere_22 (by decide) ?_
        have er : (bI (tW kn vv w)) = 1 := by simp [bI, tW, c_1, c_9, c_18]
        exact W.zret (v := 1) hx hb hr rfl (fun t ht hW => ⟨by rw [er], ht⟩) (fun q h => by cases h) d_W_isThere_26
set_option maxRecDepth 100000 in
set_option maxHeartbeats 4000000 in
theorem c_W_isOn (hP : va_P (dC, dI) classes (wC aa cI cZ kn vv) H) (hI : okC kn nn) (w x : Int32) : Met l y_W_isOn (wB y_W_isOn b_W_isOn 3 (some .boolean)) ({ frames := 1, cells := 0, slots := 0, locals := 21 } : Room) (rP [.ref (aa 3), .int w, .int x] H (kK dC dI cI cZ cJ)) (QcRead (bI (onB kn vv w x))) 0 0 noA := by
  refine Met.ofW (cc := b_W_isOn) (maxL := 3) (ret := (some .boolean)) (by decide) rfl ?_
  intro p e s m args below meth c s₁ B hml hv
  obtain ⟨rfl, rfl, hK⟩ := hv
  have hx := B.exec
  have hb := B.bytes
  have hr := B.returns
  have hts0 := atoms_spec (ws := (wB y_W_isOn b_W_isOn 3 (some .boolean))) B.pre
  have hts : ∀ w9 ∈ BG, w9.before [.ref (aa 3), .int w, .int x].toArray s = true := fun w9 hw9 => hts0 w9 (List.mem_cons_of_mem _ hw9)
  have hown : s.vm.findClass R_W = some m.cls := findClass_of_methodNamed B.named
  have hlocks := B.notSynchronized
  have hK : va_K (dC, dI) classes [(cI, .int), (cZ, .boolean), (cJ, .long)] s := hK
  have hl := lv_entry ([.ref (aa 3), .int w, .int x]) (n := 3) (Nat.le_of_ble_eq_true rfl)
  rw [lg_entry_eq]
  generalize (lg_sl ([.ref (aa 3), .int w, .int x]) ++ List.replicate (3 - (lg_sl ([.ref (aa 3), .int w, .int x])).length) Slot.unset).toArray = ls at hl ⊢
  have hl : lv_has ls 3 [(0, .ref (aa 3)), (1, .int w), (2, .int x)] := hl
  obtain ⟨eK, b0, b1, b2, b3, b4, b5⟩ := id hI
  refine lv_aload_n hx hb d_W_isOn_0 rfl (lv_at hl 0 rfl) ?_
  refine lv_iload_n hx hb d_W_isOn_1 rfl (lv_at hl 1 rfl) ?_
  refine cR (W.runV (As := [.int w]) (rest := []) ⟨hx, hb, hml, hown, hts⟩ (c_W_isThere hP hI w) (cwV 1 hts (wB_goodV (fun _ h => h) ml_W_38 im_W_isThere se_W_isThere ini_W co_W_isThere) rfl rfl rfl (by decide +kernel) ⟨Nat.le_of_ble_eq_true rfl, Nat.le_of_ble_eq_true rfl⟩) (pV hK hP (ci := 5) (q0 := 3) rfl rfl _) rfl rfl hl.1 rfl (lv_room (Nat.le_of_ble_eq_true rfl)) d_W_isOn_2 ⟨Nat.zero_le _, Nat.zero_le _⟩) ?_
  refine lv_if_eq (tgt := 22) hx hb d_W_isOn_5 (by decide) (fun c_5 => ?_) (fun c_5 => ?_)
  · refine lv_iconst (v := 0) hx hb d_W_isOn_22 (by decide) ?_
    have er : (bI (onB kn vv w x)) = 0 := by first | (simp [bI, onB, bI_0.mp c_5]; done) | (simp [bI, onB, bI_n0.mp c_5, c_5]; done)
    exact W.zret (v := 0) hx hb hr rfl (fun t ht hW => ⟨by rw [er], ht⟩) (fun q h => by cases h) d_W_isOn_23
  · refine lv_aload_n hx hb d_W_isOn_8 rfl (lv_at hl 0 rfl) ?_
    refine va_get (D := (dC, dI)) (ci := 5) (v := .ref (aa 8)) (C := R_W) (T := F_W) (N := 8) hx hb hts i_W hown hK hP 3 rfl rfl 0 (by decide) (hts _ fl_W_9) (fun _ h9 => h9) rfl d_W_isOn_9 ?_
    refine lv_iload_n hx hb d_W_isOn_12 rfl (lv_at hl 1 rfl) ?_
    refine va_iald hx hb hK hP 8 0 rfl rfl (tW_in hI (bI_n0.mp c_5)) d_W_isOn_13 ?_
    refine lv_iload_n hx hb d_W_isOn_14 rfl (lv_at hl 2 rfl) ?_
    refine lv_icmp_ne (tgt := 22) hx hb d_W_isOn_15 (by decide) (fun c_15 => ?_) (fun c_15 => ?_)
    · refine lv_iconst (v := 0) hx hb d_W_isOn_22 (by decide) ?_
      have er : (bI (onB kn vv w x)) = 0 := by first | (simp [bI, onB, bI_0.mp c_5]; done) | (simp [bI, onB, bI_n0.mp c_5, c_5, c_15]; done)
      exact W.zret (v := 0) hx hb hr rfl (fun t ht hW => ⟨by rw [er], ht⟩) (fun q h => by cases h) d_W_isOn_23
    · refine lv_iconst (v := 1) hx hb d_W_isOn_18 (by decide) ?_
      refine lv_goto (tgt := 23) hx hb d_W_isOn_19 (by decide) ?_
      have er : (bI (onB kn vv w x)) = 1 := by first | (simp [bI, onB, bI_0.mp c_5]; done) | (simp [bI, onB, bI_n0.mp c_5, c_5, c_15]; done)
      exact W.zret (v := 1) hx hb hr rfl (fun t ht hW => ⟨by rw [er], ht⟩) (fun q h => by cases h) d_W_isOn_23
set_option maxRecDepth 100000 in
set_option maxHeartbeats 4000000 in
theorem c_W_isWith (hP : va_P (dC, dI) classes (wC aa cI cZ kn vv) H) (hI : okC kn nn) (w x : Int32) : Met l y_W_isWith (wB y_W_isWith b_W_isWith 3 (some .boolean)) ({ frames := 1, cells := 0, slots := 0, locals := 21 } : Room) (rP [.ref (aa 3), .int w, .int x] H (kK dC dI cI cZ cJ)) (QcRead (bI (wiB kn vv w x))) 0 0 noA := by
  refine Met.ofW (cc := b_W_isWith) (maxL := 3) (ret := (some .boolean)) (by decide) rfl ?_
  intro p e s m args below meth c s₁ B hml hv
  obtain ⟨rfl, rfl, hK⟩ := hv
  have hx := B.exec
  have hb := B.bytes
  have hr := B.returns
  have hts0 := atoms_spec (ws := (wB y_W_isWith b_W_isWith 3 (some .boolean))) B.pre
  have hts : ∀ w9 ∈ BG, w9.before [.ref (aa 3), .int w, .int x].toArray s = true := fun w9 hw9 => hts0 w9 (List.mem_cons_of_mem _ hw9)
  have hown : s.vm.findClass R_W = some m.cls := findClass_of_methodNamed B.named
  have hlocks := B.notSynchronized
  have hK : va_K (dC, dI) classes [(cI, .int), (cZ, .boolean), (cJ, .long)] s := hK
  have hl := lv_entry ([.ref (aa 3), .int w, .int x]) (n := 3) (Nat.le_of_ble_eq_true rfl)
  rw [lg_entry_eq]
  generalize (lg_sl ([.ref (aa 3), .int w, .int x]) ++ List.replicate (3 - (lg_sl ([.ref (aa 3), .int w, .int x])).length) Slot.unset).toArray = ls at hl ⊢
  have hl : lv_has ls 3 [(0, .ref (aa 3)), (1, .int w), (2, .int x)] := hl
  obtain ⟨eK, b0, b1, b2, b3, b4, b5⟩ := id hI
  refine lv_aload_n hx hb d_W_isWith_0 rfl (lv_at hl 0 rfl) ?_
  refine lv_iload_n hx hb d_W_isWith_1 rfl (lv_at hl 1 rfl) ?_
  refine cR (W.runV (As := [.int w]) (rest := []) ⟨hx, hb, hml, hown, hts⟩ (c_W_isThere hP hI w) (cwV 1 hts (wB_goodV (fun _ h => h) ml_W_38 im_W_isThere se_W_isThere ini_W co_W_isThere) rfl rfl rfl (by decide +kernel) ⟨Nat.le_of_ble_eq_true rfl, Nat.le_of_ble_eq_true rfl⟩) (pV hK hP (ci := 5) (q0 := 3) rfl rfl _) rfl rfl hl.1 rfl (lv_room (Nat.le_of_ble_eq_true rfl)) d_W_isWith_2 ⟨Nat.zero_le _, Nat.zero_le _⟩) ?_
  refine lv_if_eq (tgt := 22) hx hb d_W_isWith_5 (by decide) (fun c_5 => ?_) (fun c_5 => ?_)
  · refine lv_iconst (v := 0) hx hb d_W_isWith_22 (by decide) ?_
    have er : (bI (wiB kn vv w x)) = 0 := by first | (simp [bI, wiB, bI_0.mp c_5]; done) | (simp [bI, wiB, bI_n0.mp c_5, c_5]; done)
    exact W.zret (v := 0) hx hb hr rfl (fun t ht hW => ⟨by rw [er], ht⟩) (fun q h => by cases h) d_W_isWith_23
  · refine lv_aload_n hx hb d_W_isWith_8 rfl (lv_at hl 0 rfl) ?_
    refine va_get (D := (dC, dI)) (ci := 5) (v := .ref (aa 9)) (C := R_W) (T := F_W) (N := 8) hx hb hts i_W hown hK hP 3 rfl rfl 1 (by decide) (hts _ fl_W_15) (fun _ h9 => h9) rfl d_W_isWith_9 ?_
    refine lv_iload_n hx hb d_W_isWith_12 rfl (lv_at hl 1 rfl) ?_
    refine va_iald hx hb hK hP 9 0 rfl rfl (tW_in hI (bI_n0.mp c_5)) d_W_isWith_13 ?_
    refine lv_iload_n hx hb d_W_isWith_14 rfl (lv_at hl 2 rfl) ?_
    refine lv_icmp_ne (tgt := 22) hx hb d_W_isWith_15 (by decide) (fun c_15 => ?_) (fun c_15 => ?_)
    · refine lv_iconst (v := 0) hx hb d_W_isWith_22 (by decide) ?_
      have er : (bI (wiB kn vv w x)) = 0 := by first | (simp [bI, wiB, bI_0.mp c_5]; done) | (simp [bI, wiB, bI_n0.mp c_5, c_5, c_15]; done)
      exact W.zret (v := 0) hx hb hr rfl (fun t ht hW => ⟨by rw [er], ht⟩) (fun q h => by cases h) d_W_isWith_23
    · refine lv_iconst (v := 1) hx hb d_W_isWith_18 (by decide) ?_
      refine lv_goto (tgt := 23) hx hb d_W_isWith_19 (by decide) ?_
      have er : (bI (wiB kn vv w x)) = 1 := by first | (simp [bI, wiB, bI_0.mp c_5]; done) | (simp [bI, wiB, bI_n0.mp c_5, c_5, c_15]; done)
      exact W.zret (v := 1) hx hb hr rfl (fun t ht hW => ⟨by rw [er], ht⟩) (fun q h => by cases h) d_W_isWith_23
set_option maxRecDepth 100000 in
set_option maxHeartbeats 4000000 in
theorem c_W_goesAlongX (hP : va_P (dC, dI) classes (wC aa cI cZ kn vv) H) {w : Nat} (hw : w < 40) : Met l y_W_goesAlongX (wB y_W_goesAlongX b_W_goesAlongX 2 (some .boolean)) ({ frames := 0, cells := 0, slots := 0, locals := 0 } : Room) (rP [.ref (aa 3), .int (nI w)] H (kK dC dI cI cZ cJ)) (QcRead (bI (alX vv w))) 0 0 noA := by
  refine Met.ofW (cc := b_W_goesAlongX) (maxL := 2) (ret := (some .boolean)) (by decide) rfl ?_
  intro p e s m args below meth c s₁ B hml hv
  obtain ⟨rfl, rfl, hK⟩ := hv
  have hx := B.exec
  have hb := B.bytes
  have hr := B.returns
  have hts0 := atoms_spec (ws := (wB y_W_goesAlongX b_W_goesAlongX 2 (some .boolean))) B.pre
  have hts : ∀ w9 ∈ BG, w9.before [.ref (aa 3), .int (nI w)].toArray s = true := fun w9 hw9 => hts0 w9 (List.mem_cons_of_mem _ hw9)
  have hown : s.vm.findClass R_W = some m.cls := findClass_of_methodNamed B.named
  have hlocks := B.notSynchronized
  have hK : va_K (dC, dI) classes [(cI, .int), (cZ, .boolean), (cJ, .long)] s := hK
  have hl := lv_entry ([.ref (aa 3), .int (nI w)]) (n := 2) (Nat.le_of_ble_eq_true rfl)
  rw [lg_entry_eq]
  generalize (lg_sl ([.ref (aa 3), .int (nI w)]) ++ List.replicate (2 - (lg_sl ([.ref (aa 3), .int (nI w)])).length) Slot.unset).toArray = ls at hl ⊢
  have hl : lv_has ls 2 [(0, .ref (aa 3)), (1, .int (nI w))] := hl
  refine lv_aload_n hx hb d_W_goesAlongX_0 rfl (lv_at hl 0 rfl) ?_
  refine va_get (D := (dC, dI)) (ci := 5) (v := .ref (aa 11)) (C := R_W) (T := F_W) (N := 8) hx hb hts i_W hown hK hP 3 rfl rfl 3 (by decide) (hts _ fl_W_21) (fun _ h9 => h9) rfl d_W_goesAlongX_1 ?_
  refine lv_iload_n hx hb d_W_goesAlongX_4 rfl (lv_at hl 1 rfl) ?_
  refine va_iald hx hb hK hP 11 0 rfl rfl (vp_in_nI (by omega) (by omega)) d_W_goesAlongX_5 ?_
  rw [nI_clamp (show w < 2 ^ 31 by omega)]
  refine lv_aload_n hx hb d_W_goesAlongX_6 rfl (lv_at hl 0 rfl) ?_
  refine va_get (D := (dC, dI)) (ci := 5) (v := .ref (aa 13)) (C := R_W) (T := F_W) (N := 8) hx hb hts i_W hown hK hP 3 rfl rfl 5 (by decide) (hts _ fl_W_27) (fun _ h9 => h9) rfl d_W_goesAlongX_7 ?_
  refine lv_iload_n hx hb d_W_goesAlongX_10 rfl (lv_at hl 1 rfl) ?_
  refine va_iald hx hb hK hP 13 0 rfl rfl (vp_in_nI (by omega) (by omega)) d_W_goesAlongX_11 ?_
  rw [nI_clamp (show w < 2 ^ 31 by omega)]
  refine lv_icmp_ne (tgt := 19) hx hb d_W_goesAlongX_12 (by decide) (fun c_12 => ?_) (fun c_12 => ?_)
  · refine lv_iconst (v := 0) hx hb d_W_goesAlongX_19 (by decide) ?_
    have er : (bI (alX vv w)) = 0 := by simp [bI, alX, c_12]
    exact W.zret (v := 0) hx hb hr rfl (fun t ht hW => ⟨by rw [er], ht⟩) (fun q h => by cases h) d_W_goesAlongX_20
  · refine lv_iconst (v := 1) hx hb d_W_goesAlongX_15 (by decide) ?_
    refine lv_goto (tgt := 20) hx hb d_W_goesAlongX_16 (by decide) ?_
    have er : (bI (alX vv w)) = 1 := by simp [bI, alX, c_12]
    exact W.zret (v := 1) hx hb hr rfl (fun t ht hW => ⟨by rw [er], ht⟩) (fun q h => by cases h) d_W_goesAlongX_20
set_option maxRecDepth 100000 in
set_option maxHeartbeats 4000000 in
theorem c_W_hasEndAt (hP : va_P (dC, dI) classes (wC aa cI cZ kn vv) H) {w : Nat} (hw : w < 40) (x y : Int32) : Met l y_W_hasEndAt (wB y_W_hasEndAt b_W_hasEndAt 4 (some .boolean)) ({ frames := 0, cells := 0, slots := 0, locals := 0 } : Room) (rP [.ref (aa 3), .int (nI w), .int x, .int y] H (kK dC dI cI cZ cJ)) (QcRead (bI (enB vv w x y))) 0 0 noA := by
  refine Met.ofW (cc := b_W_hasEndAt) (maxL := 4) (ret := (some .boolean)) (by decide) rfl ?_
  intro p e s m args below meth c s₁ B hml hv
  obtain ⟨rfl, rfl, hK⟩ := hv
  have hx := B.exec
  have hb := B.bytes
  have hr := B.returns
  have hts0 := atoms_spec (ws := (wB y_W_hasEndAt b_W_hasEndAt 4 (some .boolean))) B.pre
  have hts : ∀ w9 ∈ BG, w9.before [.ref (aa 3), .int (nI w), .int x, .int y].toArray s = true := fun w9 hw9 => hts0 w9 (List.mem_cons_of_mem _ hw9)
  have hown : s.vm.findClass R_W = some m.cls := findClass_of_methodNamed B.named
  have hlocks := B.notSynchronized
  have hK : va_K (dC, dI) classes [(cI, .int), (cZ, .boolean), (cJ, .long)] s := hK
  have hl := lv_entry ([.ref (aa 3), .int (nI w), .int x, .int y]) (n := 4) (Nat.le_of_ble_eq_true rfl)
  rw [lg_entry_eq]
  generalize (lg_sl ([.ref (aa 3), .int (nI w), .int x, .int y]) ++ List.replicate (4 - (lg_sl ([.ref (aa 3), .int (nI w), .int x, .int y])).length) Slot.unset).toArray = ls at hl ⊢
  have hl : lv_has ls 4 [(0, .ref (aa 3)), (1, .int (nI w)), (2, .int x), (3, .int y)] := hl
  refine lv_aload_n hx hb d_W_hasEndAt_0 rfl (lv_at hl 0 rfl) ?_
  refine va_get (D := (dC, dI)) (ci := 5) (v := .ref (aa 10)) (C := R_W) (T := F_W) (N := 8) hx hb hts i_W hown hK hP 3 rfl rfl 2 (by decide) (hts _ fl_W_18) (fun _ h9 => h9) rfl d_W_hasEndAt_1 ?_
  refine lv_iload_n hx hb d_W_hasEndAt_4 rfl (lv_at hl 1 rfl) ?_
  refine va_iald hx hb hK hP 10 0 rfl rfl (vp_in_nI (by omega) (by omega)) d_W_hasEndAt_5 ?_
  rw [nI_clamp (show w < 2 ^ 31 by omega)]
  refine lv_iload_n hx hb d_W_hasEndAt_6 rfl (lv_at hl 2 rfl) ?_
  refine lv_icmp_ne (tgt := 20) hx hb d_W_hasEndAt_7 (by decide) (fun c_7 => ?_) (fun c_7 => ?_)
  · refine lv_aload_n hx hb d_W_hasEndAt_20 rfl (lv_at hl 0 rfl) ?_
    refine va_get (D := (dC, dI)) (ci := 5) (v := .ref (aa 12)) (C := R_W) (T := F_W) (N := 8) hx hb hts i_W hown hK hP 3 rfl rfl 4 (by decide) (hts _ fl_W_24) (fun _ h9 => h9) rfl d_W_hasEndAt_21 ?_
    refine lv_iload_n hx hb d_W_hasEndAt_24 rfl (lv_at hl 1 rfl) ?_
    refine va_iald hx hb hK hP 12 0 rfl rfl (vp_in_nI (by omega) (by omega)) d_W_hasEndAt_25 ?_
    rw [nI_clamp (show w < 2 ^ 31 by omega)]
    refine lv_iload_n hx hb d_W_hasEndAt_26 rfl (lv_at hl 2 rfl) ?_
    refine lv_icmp_ne (tgt := 44) hx hb d_W_hasEndAt_27 (by decide) (fun c_27 => ?_) (fun c_27 => ?_)
    · refine lv_iconst (v := 0) hx hb d_W_hasEndAt_44 (by decide) ?_
      have er : (bI (enB vv w x y)) = 0 := by simp [bI, enB, c_7, c_27]
      exact W.zret (v := 0) hx hb hr rfl (fun t ht hW => ⟨by rw [er], ht⟩) (fun q h => by cases h) d_W_hasEndAt_45
    · refine lv_aload_n hx hb d_W_hasEndAt_30 rfl (lv_at hl 0 rfl) ?_
      refine va_get (D := (dC, dI)) (ci := 5) (v := .ref (aa 13)) (C := R_W) (T := F_W) (N := 8) hx hb hts i_W hown hK hP 3 rfl rfl 5 (by decide) (hts _ fl_W_27) (fun _ h9 => h9) rfl d_W_hasEndAt_31 ?_
      refine lv_iload_n hx hb d_W_hasEndAt_34 rfl (lv_at hl 1 rfl) ?_
      refine va_iald hx hb hK hP 13 0 rfl rfl (vp_in_nI (by omega) (by omega)) d_W_hasEndAt_35 ?_
      rw [nI_clamp (show w < 2 ^ 31 by omega)]
      refine lv_iload_n hx hb d_W_hasEndAt_36 rfl (lv_at hl 3 rfl) ?_
      refine lv_icmp_ne (tgt := 44) hx hb d_W_hasEndAt_37 (by decide) (fun c_37 => ?_) (fun c_37 => ?_)
      · refine lv_iconst (v := 0) hx hb d_W_hasEndAt_44 (by decide) ?_
        have er : (bI (enB vv w x y)) = 0 := by simp [bI, enB, c_7, c_27, c_37]
        exact W.zret (v := 0) hx hb hr rfl (fun t ht hW => ⟨by rw [er], ht⟩) (fun q h => by cases h) d_W_hasEndAt_45
      · refine lv_iconst (v := 1) hx hb d_W_hasEndAt_40 (by decide) ?_
        refine lv_goto (tgt := 45) hx hb d_W_hasEndAt_41 (by decide) ?_
        have er : (bI (enB vv w x y)) = 1 := by simp [bI, enB, c_7, c_27, c_37]
        exact W.zret (v := 1) hx hb hr rfl (fun t ht hW => ⟨by rw [er], ht⟩) (fun q h => by cases h) d_W_hasEndAt_45
  · refine lv_aload_n hx hb d_W_hasEndAt_10 rfl (lv_at hl 0 rfl) ?_
    refine va_get (D := (dC, dI)) (ci := 5) (v := .ref (aa 11)) (C := R_W) (T := F_W) (N := 8) hx hb hts i_W hown hK hP 3 rfl rfl 3 (by decide) (hts _ fl_W_21) (fun _ h9 => h9) rfl d_W_hasEndAt_11 ?_
    refine lv_iload_n hx hb d_W_hasEndAt_14 rfl (lv_at hl 1 rfl) ?_
    refine va_iald hx hb hK hP 11 0 rfl rfl (vp_in_nI (by omega) (by omega)) d_W_hasEndAt_15 ?_
    rw [nI_clamp (show w < 2 ^ 31 by omega)]
    refine lv_iload_n hx hb d_W_hasEndAt_16 rfl (lv_at hl 3 rfl) ?_
    refine lv_icmp_eq (tgt := 40) hx hb d_W_hasEndAt_17 (by decide) (fun c_17 => ?_) (fun c_17 => ?_)
    · refine lv_iconst (v := 1) hx hb d_W_hasEndAt_40 (by decide) ?_
      refine lv_goto (tgt := 45) hx hb d_W_hasEndAt_41 (by decide) ?_
      have er : (bI (enB vv w x y)) = 1 := by simp [bI, enB, c_7, c_17]
      exact W.zret (v := 1) hx hb hr rfl (fun t ht hW => ⟨by rw [er], ht⟩) (fun q h => by cases h) d_W_hasEndAt_45
    · refine lv_aload_n hx hb d_W_hasEndAt_20 rfl (lv_at hl 0 rfl) ?_
      refine va_get (D := (dC, dI)) (ci := 5) (v := .ref (aa 12)) (C := R_W) (T := F_W) (N := 8) hx hb hts i_W hown hK hP 3 rfl rfl 4 (by decide) (hts _ fl_W_24) (fun _ h9 => h9) rfl d_W_hasEndAt_21 ?_
      refine lv_iload_n hx hb d_W_hasEndAt_24 rfl (lv_at hl 1 rfl) ?_
      refine va_iald hx hb hK hP 12 0 rfl rfl (vp_in_nI (by omega) (by omega)) d_W_hasEndAt_25 ?_
      rw [nI_clamp (show w < 2 ^ 31 by omega)]
      refine lv_iload_n hx hb d_W_hasEndAt_26 rfl (lv_at hl 2 rfl) ?_
      refine lv_icmp_ne (tgt := 44) hx hb d_W_hasEndAt_27 (by decide) (fun c_27 => ?_) (fun c_27 => ?_)
      · refine lv_iconst (v := 0) hx hb d_W_hasEndAt_44 (by decide) ?_
        have er : (bI (enB vv w x y)) = 0 := by simp [bI, enB, c_7, c_17, c_27]
        exact W.zret (v := 0) hx hb hr rfl (fun t ht hW => ⟨by rw [er], ht⟩) (fun q h => by cases h) d_W_hasEndAt_45
      · refine lv_aload_n hx hb d_W_hasEndAt_30 rfl (lv_at hl 0 rfl) ?_
        refine va_get (D := (dC, dI)) (ci := 5) (v := .ref (aa 13)) (C := R_W) (T := F_W) (N := 8) hx hb hts i_W hown hK hP 3 rfl rfl 5 (by decide) (hts _ fl_W_27) (fun _ h9 => h9) rfl d_W_hasEndAt_31 ?_
        refine lv_iload_n hx hb d_W_hasEndAt_34 rfl (lv_at hl 1 rfl) ?_
        refine va_iald hx hb hK hP 13 0 rfl rfl (vp_in_nI (by omega) (by omega)) d_W_hasEndAt_35 ?_
        rw [nI_clamp (show w < 2 ^ 31 by omega)]
        refine lv_iload_n hx hb d_W_hasEndAt_36 rfl (lv_at hl 3 rfl) ?_
        refine lv_icmp_ne (tgt := 44) hx hb d_W_hasEndAt_37 (by decide) (fun c_37 => ?_) (fun c_37 => ?_)
        · refine lv_iconst (v := 0) hx hb d_W_hasEndAt_44 (by decide) ?_
          have er : (bI (enB vv w x y)) = 0 := by simp [bI, enB, c_7, c_17, c_27, c_37]
          exact W.zret (v := 0) hx hb hr rfl (fun t ht hW => ⟨by rw [er], ht⟩) (fun q h => by cases h) d_W_hasEndAt_45
        · refine lv_iconst (v := 1) hx hb d_W_hasEndAt_40 (by decide) ?_
          refine lv_goto (tgt := 45) hx hb d_W_hasEndAt_41 (by decide) ?_
          have er : (bI (enB vv w x y)) = 1 := by simp [bI, enB, c_7, c_17, c_27, c_37]
          exact W.zret (v := 1) hx hb hr rfl (fun t ht hW => ⟨by rw [er], ht⟩) (fun q h => by cases h) d_W_hasEndAt_45
set_option maxRecDepth 100000 in
set_option maxHeartbeats 4000000 in
theorem c_W_length (hP : va_P (dC, dI) classes (wC aa cI cZ kn vv) H) {w : Nat} (hw : w < 40) : Met l y_W_length (wB y_W_length b_W_length 2 (some .int)) ({ frames := 1, cells := 0, slots := 0, locals := 21 } : Room) (rP [.ref (aa 3), .int (nI w)] H (kK dC dI cI cZ cJ)) (QcRead (leC vv w)) 0 0 noA := by
  refine Met.ofW (cc := b_W_length) (maxL := 2) (ret := (some .int)) (by decide) rfl ?_
  intro p e s m args below meth c s₁ B hml hv
  obtain ⟨rfl, rfl, hK⟩ := hv
  have hx := B.exec
  have hb := B.bytes
  have hr := B.returns
  have hts0 := atoms_spec (ws := (wB y_W_length b_W_length 2 (some .int))) B.pre
  have hts : ∀ w9 ∈ BG, w9.before [.ref (aa 3), .int (nI w)].toArray s = true := fun w9 hw9 => hts0 w9 (List.mem_cons_of_mem _ hw9)
  have hown : s.vm.findClass R_W = some m.cls := findClass_of_methodNamed B.named
  have hlocks := B.notSynchronized
  have hK : va_K (dC, dI) classes [(cI, .int), (cZ, .boolean), (cJ, .long)] s := hK
  have hl := lv_entry ([.ref (aa 3), .int (nI w)]) (n := 2) (Nat.le_of_ble_eq_true rfl)
  rw [lg_entry_eq]
  generalize (lg_sl ([.ref (aa 3), .int (nI w)]) ++ List.replicate (2 - (lg_sl ([.ref (aa 3), .int (nI w)])).length) Slot.unset).toArray = ls at hl ⊢
  have hl : lv_has ls 2 [(0, .ref (aa 3)), (1, .int (nI w))] := hl
  refine lv_aload_n hx hb d_W_length_0 rfl (lv_at hl 0 rfl) ?_
  refine va_get (D := (dC, dI)) (ci := 5) (v := .ref (aa 12)) (C := R_W) (T := F_W) (N := 8) hx hb hts i_W hown hK hP 3 rfl rfl 4 (by decide) (hts _ fl_W_24) (fun _ h9 => h9) rfl d_W_length_1 ?_
  refine lv_iload_n hx hb d_W_length_4 rfl (lv_at hl 1 rfl) ?_
  refine va_iald hx hb hK hP 12 0 rfl rfl (vp_in_nI (by omega) (by omega)) d_W_length_5 ?_
  rw [nI_clamp (show w < 2 ^ 31 by omega)]
  refine lv_aload_n hx hb d_W_length_6 rfl (lv_at hl 0 rfl) ?_
  refine va_get (D := (dC, dI)) (ci := 5) (v := .ref (aa 10)) (C := R_W) (T := F_W) (N := 8) hx hb hts i_W hown hK hP 3 rfl rfl 2 (by decide) (hts _ fl_W_18) (fun _ h9 => h9) rfl d_W_length_7 ?_
  refine lv_iload_n hx hb d_W_length_10 rfl (lv_at hl 1 rfl) ?_
  refine va_iald hx hb hK hP 10 0 rfl rfl (vp_in_nI (by omega) (by omega)) d_W_length_11 ?_
  rw [nI_clamp (show w < 2 ^ 31 by omega)]
  refine lv_isub hx hb d_W_length_12 ?_
  refine va_mabs hx hb (by rw [hml]; exact hl.1.symm) hown (hts _ ml_W_42) (hts _ st_Math_absII) (hts _ ini_Math) (hts _ co_Math_absII) (Nat.le_of_ble_eq_true rfl) (Nat.le_of_ble_eq_true rfl) (Nat.zero_le _) (Nat.zero_le _) d_W_length_13 ?_
  refine lv_aload_n hx hb d_W_length_16 rfl (lv_at hl 0 rfl) ?_
  refine va_get (D := (dC, dI)) (ci := 5) (v := .ref (aa 13)) (C := R_W) (T := F_W) (N := 8) hx hb hts i_W hown hK hP 3 rfl rfl 5 (by decide) (hts _ fl_W_27) (fun _ h9 => h9) rfl d_W_length_17 ?_
  refine lv_iload_n hx hb d_W_length_20 rfl (lv_at hl 1 rfl) ?_
  refine va_iald hx hb hK hP 13 0 rfl rfl (vp_in_nI (by omega) (by omega)) d_W_length_21 ?_
  rw [nI_clamp (show w < 2 ^ 31 by omega)]
  refine lv_aload_n hx hb d_W_length_22 rfl (lv_at hl 0 rfl) ?_
  refine va_get (D := (dC, dI)) (ci := 5) (v := .ref (aa 11)) (C := R_W) (T := F_W) (N := 8) hx hb hts i_W hown hK hP 3 rfl rfl 3 (by decide) (hts _ fl_W_21) (fun _ h9 => h9) rfl d_W_length_23 ?_
  refine lv_iload_n hx hb d_W_length_26 rfl (lv_at hl 1 rfl) ?_
  refine va_iald hx hb hK hP 11 0 rfl rfl (vp_in_nI (by omega) (by omega)) d_W_length_27 ?_
  rw [nI_clamp (show w < 2 ^ 31 by omega)]
  refine lv_isub hx hb d_W_length_28 ?_
  refine va_mabs hx hb (by rw [hml]; exact hl.1.symm) hown (hts _ ml_W_42) (hts _ st_Math_absII) (hts _ ini_Math) (hts _ co_Math_absII) (Nat.le_of_ble_eq_true rfl) (Nat.le_of_ble_eq_true rfl) (Nat.zero_le _) (Nat.zero_le _) d_W_length_29 ?_
  refine lv_iadd hx hb d_W_length_32 ?_
  have er : (leC vv w) = ((if 0 ≤ (((vv 6) w) - ((vv 4) w)) then (((vv 6) w) - ((vv 4) w)) else 0 - (((vv 6) w) - ((vv 4) w))) + (if 0 ≤ (((vv 7) w) - ((vv 5) w)) then (((vv 7) w) - ((vv 5) w)) else 0 - (((vv 7) w) - ((vv 5) w)))) := by rfl
  exact W.iret (v := ((if 0 ≤ (((vv 6) w) - ((vv 4) w)) then (((vv 6) w) - ((vv 4) w)) else 0 - (((vv 6) w) - ((vv 4) w))) + (if 0 ≤ (((vv 7) w) - ((vv 5) w)) then (((vv 7) w) - ((vv 5) w)) else 0 - (((vv 7) w) - ((vv 5) w))))) hx hb hr (fun t ht hW => ⟨by rw [er], ht⟩) (fun q h => by cases h) d_W_length_33
set_option maxRecDepth 100000 in
set_option maxHeartbeats 4000000 in
theorem c_W_manyOn (hP : va_P (dC, dI) classes (wC aa cI cZ kn vv) H) (hI : okC kn nn) (x : Int32) : Met l y_W_manyOn (wB y_W_manyOn b_W_manyOn 4 (some .int)) ({ frames := 2, cells := 0, slots := 0, locals := 43 } : Room) (rP [.ref (aa 3), .int x] H (kK dC dI cI cZ cJ)) (QcRead (nI (cnt (fun i => onB kn vv (nI i) x) (nn 2)))) 0 0 noA := by
  refine Met.ofW (cc := b_W_manyOn) (maxL := 4) (ret := (some .int)) (by decide) rfl ?_
  intro p e s m args below meth c s₁ B hml hv
  obtain ⟨rfl, rfl, hK⟩ := hv
  have hx := B.exec
  have hb := B.bytes
  have hr := B.returns
  have hts0 := atoms_spec (ws := (wB y_W_manyOn b_W_manyOn 4 (some .int))) B.pre
  have hts : ∀ w9 ∈ BG, w9.before [.ref (aa 3), .int x].toArray s = true := fun w9 hw9 => hts0 w9 (List.mem_cons_of_mem _ hw9)
  have hown : s.vm.findClass R_W = some m.cls := findClass_of_methodNamed B.named
  have hlocks := B.notSynchronized
  have hK : va_K (dC, dI) classes [(cI, .int), (cZ, .boolean), (cJ, .long)] s := hK
  have hl := lv_entry ([.ref (aa 3), .int x]) (n := 4) (Nat.le_of_ble_eq_true rfl)
  rw [lg_entry_eq]
  generalize (lg_sl ([.ref (aa 3), .int x]) ++ List.replicate (4 - (lg_sl ([.ref (aa 3), .int x])).length) Slot.unset).toArray = ls at hl ⊢
  have hl : lv_has ls 4 [(0, .ref (aa 3)), (1, .int x)] := hl
  obtain ⟨eK, b0, b1, b2, b3, b4, b5⟩ := id hI
  refine lv_iconst (v := 0) hx hb d_W_manyOn_0 (by decide) ?_
  refine lv_istore_n (lv' := [(2, .int 0), (0, .ref (aa 3)), (1, .int x)]) hx hb d_W_manyOn_1 rfl hl (by decide) rfl (fun ls hl => ?_)
  refine lv_iconst (v := 0) hx hb d_W_manyOn_2 (by decide) ?_
  refine lv_istore_n (lv' := [(3, .int 0), (2, .int 0), (0, .ref (aa 3)), (1, .int x)]) hx hb d_W_manyOn_3 rfl hl (by decide) rfl (fun ls hl => ?_)
  have loop_4 : ∀ (k9 i : Nat), nn 2 + 1 ≤ i + k9 → i ≤ nn 2 → ∀ (ls : Array Slot), lv_has ls 4 [(0, .ref (aa 3)), (1, .int x), (2, .int (nI (cnt (fun i => onB kn vv (nI i) x) i))), (3, .int (nI i))] → W p l e (headSpec (wB y_W_manyOn b_W_manyOn 4 (some .int)) ({ frames := 2, cells := 0, slots := 0, locals := 43 } : Room)).room s m [.ref (aa 3), .int x].toArray below meth c s.heap [] 0 0 (MQ below (QcRead (nI (cnt (fun i => onB kn vv (nI i) x) (nn 2)))) [.ref (aa 3), .int x].toArray s 0 0 noA) (F0 m 4 ls []) := by
    intro k9
    induction k9 with
    | zero => intro i hk hi ls hl; exact absurd hk (by omega)
    | succ k9 ih =>
      intro i hk hi ls hl
      refine lv_iload_n hx hb d_W_manyOn_4 rfl (lv_at hl 3 rfl) ?_
      refine lv_aload_n hx hb d_W_manyOn_5 rfl (lv_at hl 0 rfl) ?_
      refine va_get (D := (dC, dI)) (ci := 5) (v := .int (kn 2)) (C := R_W) (T := F_W) (N := 8) hx hb hts i_W hown hK hP 3 rfl rfl 7 (by decide) (hts _ fl_W_34) (fun _ h9 => h9) rfl d_W_manyOn_6 ?_
      refine lv_icmp_ge (tgt := 30) hx hb d_W_manyOn_9 (by decide) (fun c_9 => ?_) (fun c_9 => ?_)
      · have hi2 : nn 2 ≤ i := geC (eK 2 (by decide)) c_9 (by omega) (by omega)
        refine lv_iload_n hx hb d_W_manyOn_30 rfl (lv_at hl 2 rfl) ?_
        have er : (nI (cnt (fun i => onB kn vv (nI i) x) (nn 2))) = (nI (cnt (fun i => onB kn vv (nI i) x) i)) := by rw [show i = nn 2 by omega]
        exact W.iret (v := (nI (cnt (fun i => onB kn vv (nI i) x) i))) hx hb hr (fun t ht hW => ⟨by rw [er], ht⟩) (fun q h => by cases h) d_W_manyOn_31
      · have hi2 : i < nn 2 := ltC (eK 2 (by decide)) c_9 (by omega) (by omega)
        refine lv_aload_n hx hb d_W_manyOn_12 rfl (lv_at hl 0 rfl) ?_
        refine lv_iload_n hx hb d_W_manyOn_13 rfl (lv_at hl 3 rfl) ?_
        refine lv_iload_n hx hb d_W_manyOn_14 rfl (lv_at hl 1 rfl) ?_
        refine cR (W.runV (As := [.int (nI i), .int x]) (rest := []) ⟨hx, hb, hml, hown, hts⟩ (c_W_isOn hP hI (nI i) x) (cwV 2 hts (wB_goodV (fun _ h => h) ml_W_48 im_W_isOn se_W_isOn ini_W co_W_isOn) rfl rfl rfl (by decide +kernel) ⟨Nat.le_of_ble_eq_true rfl, Nat.le_of_ble_eq_true rfl⟩) (pV hK hP (ci := 5) (q0 := 3) rfl rfl _) rfl rfl hl.1 rfl (lv_room (Nat.le_of_ble_eq_true rfl)) d_W_manyOn_15 ⟨Nat.zero_le _, Nat.zero_le _⟩) ?_
        refine lv_if_eq (tgt := 24) hx hb d_W_manyOn_18 (by decide) (fun c_18 => ?_) (fun c_18 => ?_)
        · refine lv_iinc (v := (nI (i + 1))) (lv' := [(3, .int (nI (i + 1))), (0, .ref (aa 3)), (1, .int x), (2, .int (nI (cnt (fun i => onB kn vv (nI i) x) i)))]) hx hb d_W_manyOn_24 hl (k := 3) rfl (nI_1 _) (by decide) rfl (fun ls hl => ?_)
          refine lv_goto (tgt := 4) hx hb d_W_manyOn_27 (by decide) ?_
          rw [cnt_f (p := (fun i => onB kn vv (nI i) x)) (bI_0.mp c_18)] at hl
          exact ih (i + 1) (by omega) (by omega) ls (lv_sub hl [1, 2, 3, 0] rfl)
        · refine lv_iinc (v := (nI ((cnt (fun i => onB kn vv (nI i) x) i) + 1))) (lv' := [(2, .int (nI ((cnt (fun i => onB kn vv (nI i) x) i) + 1))), (0, .ref (aa 3)), (1, .int x), (3, .int (nI i))]) hx hb d_W_manyOn_21 hl (k := 2) rfl (nI_1 _) (by decide) rfl (fun ls hl => ?_)
          refine lv_iinc (v := (nI (i + 1))) (lv' := [(3, .int (nI (i + 1))), (2, .int (nI ((cnt (fun i => onB kn vv (nI i) x) i) + 1))), (0, .ref (aa 3)), (1, .int x)]) hx hb d_W_manyOn_24 hl (k := 3) rfl (nI_1 _) (by decide) rfl (fun ls hl => ?_)
          refine lv_goto (tgt := 4) hx hb d_W_manyOn_27 (by decide) ?_
          rw [cnt_t (p := (fun i => onB kn vv (nI i) x)) (bI_n0.mp c_18)] at hl
          exact ih (i + 1) (by omega) (by omega) ls (lv_sub hl [2, 3, 1, 0] rfl)
  exact loop_4 (nn 2 + 1) 0 (by omega) (by omega) ls (lv_sub hl [2, 3, 1, 0] rfl)
set_option maxRecDepth 100000 in
set_option maxHeartbeats 4000000 in
theorem c_W_manyWith (hP : va_P (dC, dI) classes (wC aa cI cZ kn vv) H) (hI : okC kn nn) (x : Int32) : Met l y_W_manyWith (wB y_W_manyWith b_W_manyWith 4 (some .int)) ({ frames := 2, cells := 0, slots := 0, locals := 43 } : Room) (rP [.ref (aa 3), .int x] H (kK dC dI cI cZ cJ)) (QcRead (nI (cnt (fun i => wiB kn vv (nI i) x) (nn 2)))) 0 0 noA := by
  refine Met.ofW (cc := b_W_manyWith) (maxL := 4) (ret := (some .int)) (by decide) rfl ?_
  intro p e s m args below meth c s₁ B hml hv
  obtain ⟨rfl, rfl, hK⟩ := hv
  have hx := B.exec
  have hb := B.bytes
  have hr := B.returns
  have hts0 := atoms_spec (ws := (wB y_W_manyWith b_W_manyWith 4 (some .int))) B.pre
  have hts : ∀ w9 ∈ BG, w9.before [.ref (aa 3), .int x].toArray s = true := fun w9 hw9 => hts0 w9 (List.mem_cons_of_mem _ hw9)
  have hown : s.vm.findClass R_W = some m.cls := findClass_of_methodNamed B.named
  have hlocks := B.notSynchronized
  have hK : va_K (dC, dI) classes [(cI, .int), (cZ, .boolean), (cJ, .long)] s := hK
  have hl := lv_entry ([.ref (aa 3), .int x]) (n := 4) (Nat.le_of_ble_eq_true rfl)
  rw [lg_entry_eq]
  generalize (lg_sl ([.ref (aa 3), .int x]) ++ List.replicate (4 - (lg_sl ([.ref (aa 3), .int x])).length) Slot.unset).toArray = ls at hl ⊢
  have hl : lv_has ls 4 [(0, .ref (aa 3)), (1, .int x)] := hl
  obtain ⟨eK, b0, b1, b2, b3, b4, b5⟩ := id hI
  refine lv_iconst (v := 0) hx hb d_W_manyWith_0 (by decide) ?_
  refine lv_istore_n (lv' := [(2, .int 0), (0, .ref (aa 3)), (1, .int x)]) hx hb d_W_manyWith_1 rfl hl (by decide) rfl (fun ls hl => ?_)
  refine lv_iconst (v := 0) hx hb d_W_manyWith_2 (by decide) ?_
  refine lv_istore_n (lv' := [(3, .int 0), (2, .int 0), (0, .ref (aa 3)), (1, .int x)]) hx hb d_W_manyWith_3 rfl hl (by decide) rfl (fun ls hl => ?_)
  have loop_4 : ∀ (k9 i : Nat), nn 2 + 1 ≤ i + k9 → i ≤ nn 2 → ∀ (ls : Array Slot), lv_has ls 4 [(0, .ref (aa 3)), (1, .int x), (2, .int (nI (cnt (fun i => wiB kn vv (nI i) x) i))), (3, .int (nI i))] → W p l e (headSpec (wB y_W_manyWith b_W_manyWith 4 (some .int)) ({ frames := 2, cells := 0, slots := 0, locals := 43 } : Room)).room s m [.ref (aa 3), .int x].toArray below meth c s.heap [] 0 0 (MQ below (QcRead (nI (cnt (fun i => wiB kn vv (nI i) x) (nn 2)))) [.ref (aa 3), .int x].toArray s 0 0 noA) (F0 m 4 ls []) := by
    intro k9
    induction k9 with
    | zero => intro i hk hi ls hl; exact absurd hk (by omega)
    | succ k9 ih =>
      intro i hk hi ls hl
      refine lv_iload_n hx hb d_W_manyWith_4 rfl (lv_at hl 3 rfl) ?_
      refine lv_aload_n hx hb d_W_manyWith_5 rfl (lv_at hl 0 rfl) ?_
      refine va_get (D := (dC, dI)) (ci := 5) (v := .int (kn 2)) (C := R_W) (T := F_W) (N := 8) hx hb hts i_W hown hK hP 3 rfl rfl 7 (by decide) (hts _ fl_W_34) (fun _ h9 => h9) rfl d_W_manyWith_6 ?_
      refine lv_icmp_ge (tgt := 30) hx hb d_W_manyWith_9 (by decide) (fun c_9 => ?_) (fun c_9 => ?_)
      · have hi2 : nn 2 ≤ i := geC (eK 2 (by decide)) c_9 (by omega) (by omega)
        refine lv_iload_n hx hb d_W_manyWith_30 rfl (lv_at hl 2 rfl) ?_
        have er : (nI (cnt (fun i => wiB kn vv (nI i) x) (nn 2))) = (nI (cnt (fun i => wiB kn vv (nI i) x) i)) := by rw [show i = nn 2 by omega]
        exact W.iret (v := (nI (cnt (fun i => wiB kn vv (nI i) x) i))) hx hb hr (fun t ht hW => ⟨by rw [er], ht⟩) (fun q h => by cases h) d_W_manyWith_31
      · have hi2 : i < nn 2 := ltC (eK 2 (by decide)) c_9 (by omega) (by omega)
        refine lv_aload_n hx hb d_W_manyWith_12 rfl (lv_at hl 0 rfl) ?_
        refine lv_iload_n hx hb d_W_manyWith_13 rfl (lv_at hl 3 rfl) ?_
        refine lv_iload_n hx hb d_W_manyWith_14 rfl (lv_at hl 1 rfl) ?_
        refine cR (W.runV (As := [.int (nI i), .int x]) (rest := []) ⟨hx, hb, hml, hown, hts⟩ (c_W_isWith hP hI (nI i) x) (cwV 2 hts (wB_goodV (fun _ h => h) ml_W_52 im_W_isWith se_W_isWith ini_W co_W_isWith) rfl rfl rfl (by decide +kernel) ⟨Nat.le_of_ble_eq_true rfl, Nat.le_of_ble_eq_true rfl⟩) (pV hK hP (ci := 5) (q0 := 3) rfl rfl _) rfl rfl hl.1 rfl (lv_room (Nat.le_of_ble_eq_true rfl)) d_W_manyWith_15 ⟨Nat.zero_le _, Nat.zero_le _⟩) ?_
        refine lv_if_eq (tgt := 24) hx hb d_W_manyWith_18 (by decide) (fun c_18 => ?_) (fun c_18 => ?_)
        · refine lv_iinc (v := (nI (i + 1))) (lv' := [(3, .int (nI (i + 1))), (0, .ref (aa 3)), (1, .int x), (2, .int (nI (cnt (fun i => wiB kn vv (nI i) x) i)))]) hx hb d_W_manyWith_24 hl (k := 3) rfl (nI_1 _) (by decide) rfl (fun ls hl => ?_)
          refine lv_goto (tgt := 4) hx hb d_W_manyWith_27 (by decide) ?_
          rw [cnt_f (p := (fun i => wiB kn vv (nI i) x)) (bI_0.mp c_18)] at hl
          exact ih (i + 1) (by omega) (by omega) ls (lv_sub hl [1, 2, 3, 0] rfl)
        · refine lv_iinc (v := (nI ((cnt (fun i => wiB kn vv (nI i) x) i) + 1))) (lv' := [(2, .int (nI ((cnt (fun i => wiB kn vv (nI i) x) i) + 1))), (0, .ref (aa 3)), (1, .int x), (3, .int (nI i))]) hx hb d_W_manyWith_21 hl (k := 2) rfl (nI_1 _) (by decide) rfl (fun ls hl => ?_)
          refine lv_iinc (v := (nI (i + 1))) (lv' := [(3, .int (nI (i + 1))), (2, .int (nI ((cnt (fun i => wiB kn vv (nI i) x) i) + 1))), (0, .ref (aa 3)), (1, .int x)]) hx hb d_W_manyWith_24 hl (k := 3) rfl (nI_1 _) (by decide) rfl (fun ls hl => ?_)
          refine lv_goto (tgt := 4) hx hb d_W_manyWith_27 (by decide) ?_
          rw [cnt_t (p := (fun i => wiB kn vv (nI i) x)) (bI_n0.mp c_18)] at hl
          exact ih (i + 1) (by omega) (by omega) ls (lv_sub hl [2, 3, 1, 0] rfl)
  exact loop_4 (nn 2 + 1) 0 (by omega) (by omega) ls (lv_sub hl [2, 3, 1, 0] rfl)
set_option maxRecDepth 100000 in
set_option maxHeartbeats 4000000 in
theorem c_W_leastAcross (hP : va_P (dC, dI) classes (wC aa cI cZ kn vv) H) (hI : okC kn nn) {w : Nat} (hw : w < 40) (x y : Int32) : Met l y_W_leastAcross (wB y_W_leastAcross b_W_leastAcross 5 (some .int)) ({ frames := 2, cells := 0, slots := 0, locals := 43 } : Room) (rP [.ref (aa 3), .int (nI w), .int x, .int y] H (kK dC dI cI cZ cJ)) (QcRead (oI (fstN (acB kn vv w x y) (nn 2)))) 0 0 noA := by
  refine Met.ofW (cc := b_W_leastAcross) (maxL := 5) (ret := (some .int)) (by decide) rfl ?_
  intro p e s m args below meth c s₁ B hml hv
  obtain ⟨rfl, rfl, hK⟩ := hv
  have hx := B.exec
  have hb := B.bytes
  have hr := B.returns
  have hts0 := atoms_spec (ws := (wB y_W_leastAcross b_W_leastAcross 5 (some .int))) B.pre
  have hts : ∀ w9 ∈ BG, w9.before [.ref (aa 3), .int (nI w), .int x, .int y].toArray s = true := fun w9 hw9 => hts0 w9 (List.mem_cons_of_mem _ hw9)
  have hown : s.vm.findClass R_W = some m.cls := findClass_of_methodNamed B.named
  have hlocks := B.notSynchronized
  have hK : va_K (dC, dI) classes [(cI, .int), (cZ, .boolean), (cJ, .long)] s := hK
  have hl := lv_entry ([.ref (aa 3), .int (nI w), .int x, .int y]) (n := 5) (Nat.le_of_ble_eq_true rfl)
  rw [lg_entry_eq]
  generalize (lg_sl ([.ref (aa 3), .int (nI w), .int x, .int y]) ++ List.replicate (5 - (lg_sl ([.ref (aa 3), .int (nI w), .int x, .int y])).length) Slot.unset).toArray = ls at hl ⊢
  have hl : lv_has ls 5 [(0, .ref (aa 3)), (1, .int (nI w)), (2, .int x), (3, .int y)] := hl
  obtain ⟨eK, b0, b1, b2, b3, b4, b5⟩ := id hI
  refine lv_iconst (v := 0) hx hb d_W_leastAcross_0 (by decide) ?_
  refine lv_istore (lv' := [(4, .int 0), (0, .ref (aa 3)), (1, .int (nI w)), (2, .int x), (3, .int y)]) hx hb d_W_leastAcross_1 hl (by decide) rfl (fun ls hl => ?_)
  have loop_3 : ∀ (k9 i : Nat), nn 2 + 1 ≤ i + k9 → i ≤ nn 2 → fstN (acB kn vv w x y) i = none → ∀ (ls : Array Slot), lv_has ls 5 [(0, .ref (aa 3)), (1, .int (nI w)), (2, .int x), (3, .int y), (4, .int (nI i))] → W p l e (headSpec (wB y_W_leastAcross b_W_leastAcross 5 (some .int)) ({ frames := 2, cells := 0, slots := 0, locals := 43 } : Room)).room s m [.ref (aa 3), .int (nI w), .int x, .int y].toArray below meth c s.heap [] 0 0 (MQ below (QcRead (oI (fstN (acB kn vv w x y) (nn 2)))) [.ref (aa 3), .int (nI w), .int x, .int y].toArray s 0 0 noA) (F0 m 3 ls []) := by
    intro k9
    induction k9 with
    | zero => intro i hk hi hf ls hl; exact absurd hk (by omega)
    | succ k9 ih =>
      intro i hk hi hf ls hl
      refine lv_iload hx hb d_W_leastAcross_3 (lv_at hl 4 rfl) ?_
      refine lv_aload_n hx hb d_W_leastAcross_5 rfl (lv_at hl 0 rfl) ?_
      refine va_get (D := (dC, dI)) (ci := 5) (v := .int (kn 2)) (C := R_W) (T := F_W) (N := 8) hx hb hts i_W hown hK hP 3 rfl rfl 7 (by decide) (hts _ fl_W_34) (fun _ h9 => h9) rfl d_W_leastAcross_6 ?_
      refine lv_icmp_ge (tgt := 61) hx hb d_W_leastAcross_9 (by decide) (fun c_9 => ?_) (fun c_9 => ?_)
      · have hi2 : nn 2 ≤ i := geC (eK 2 (by decide)) c_9 (by omega) (by omega)
        refine lv_iconst (v := (-1)) hx hb d_W_leastAcross_61 (by decide) ?_
        have er : (oI (fstN (acB kn vv w x y) (nn 2))) = (-1) := by rw [show nn 2 = i by omega, hf]; rfl
        exact W.iret (v := (-1)) hx hb hr (fun t ht hW => ⟨by rw [er], ht⟩) (fun q h => by cases h) d_W_leastAcross_62
      · have hi2 : i < nn 2 := ltC (eK 2 (by decide)) c_9 (by omega) (by omega)
        refine lv_aload_n hx hb d_W_leastAcross_12 rfl (lv_at hl 0 rfl) ?_
        refine lv_iload hx hb d_W_leastAcross_13 (lv_at hl 4 rfl) ?_
        refine lv_aload_n hx hb d_W_leastAcross_15 rfl (lv_at hl 0 rfl) ?_
        refine va_get (D := (dC, dI)) (ci := 5) (v := .ref (aa 8)) (C := R_W) (T := F_W) (N := 8) hx hb hts i_W hown hK hP 3 rfl rfl 0 (by decide) (hts _ fl_W_9) (fun _ h9 => h9) rfl d_W_leastAcross_16 ?_
        refine lv_iload_n hx hb d_W_leastAcross_19 rfl (lv_at hl 1 rfl) ?_
        refine va_iald hx hb hK hP 8 0 rfl rfl (vp_in_nI (by omega) (by omega)) d_W_leastAcross_20 ?_
        rw [nI_clamp (show w < 2 ^ 31 by omega)]
        refine cR (W.runV (As := [.int (nI i), .int ((vv 2) w)]) (rest := []) ⟨hx, hb, hml, hown, hts⟩ (c_W_isOn hP hI (nI i) ((vv 2) w)) (cwV 2 hts (wB_goodV (fun _ h => h) ml_W_48 im_W_isOn se_W_isOn ini_W co_W_isOn) rfl rfl rfl (by decide +kernel) ⟨Nat.le_of_ble_eq_true rfl, Nat.le_of_ble_eq_true rfl⟩) (pV hK hP (ci := 5) (q0 := 3) rfl rfl _) rfl rfl hl.1 rfl (lv_room (Nat.le_of_ble_eq_true rfl)) d_W_leastAcross_21 ⟨Nat.zero_le _, Nat.zero_le _⟩) ?_
        refine lv_if_eq (tgt := 55) hx hb d_W_leastAcross_24 (by decide) (fun c_24 => ?_) (fun c_24 => ?_)
        · refine lv_iinc (v := (nI (i + 1))) (lv' := [(4, .int (nI (i + 1))), (0, .ref (aa 3)), (1, .int (nI w)), (2, .int x), (3, .int y)]) hx hb d_W_leastAcross_55 hl (k := 4) rfl (nI_1 _) (by decide) rfl (fun ls hl => ?_)
          refine lv_goto (tgt := 3) hx hb d_W_leastAcross_58 (by decide) ?_
          have hn : fstN (acB kn vv w x y) (i + 1) = none := fstN_none hf (by first | (simp [acB, bI_0.mp c_24]; done) | (simp [acB, bI_n0.mp c_24, bI_inj.mp c_38]; done) | (simp [acB, bI_0.mp c_49]; done))
          exact ih (i + 1) (by omega) (by omega) hn ls (lv_sub hl [1, 2, 3, 4, 0] rfl)
        · refine lv_aload_n hx hb d_W_leastAcross_27 rfl (lv_at hl 0 rfl) ?_
          refine lv_iload hx hb d_W_leastAcross_28 (lv_at hl 4 rfl) ?_
          refine cR (W.runV (As := [.int (nI i)]) (rest := []) ⟨hx, hb, hml, hown, hts⟩ (c_W_goesAlongX hP (show i < 40 by omega)) (cwV 1 hts (wB_goodV (fun _ h => h) ml_W_55 im_W_goesAlongX se_W_goesAlongX ini_W co_W_goesAlongX) rfl rfl rfl (by decide +kernel) ⟨Nat.le_of_ble_eq_true rfl, Nat.le_of_ble_eq_true rfl⟩) (pV hK hP (ci := 5) (q0 := 3) rfl rfl _) rfl rfl hl.1 rfl (lv_room (Nat.le_of_ble_eq_true rfl)) d_W_leastAcross_30 ⟨Nat.zero_le _, Nat.zero_le _⟩) ?_
          refine lv_aload_n hx hb d_W_leastAcross_33 rfl (lv_at hl 0 rfl) ?_
          refine lv_iload_n hx hb d_W_leastAcross_34 rfl (lv_at hl 1 rfl) ?_
          refine cR (W.runV (As := [.int (nI w)]) (rest := [.int (bI (alX vv i))]) ⟨hx, hb, hml, hown, hts⟩ (c_W_goesAlongX hP hw) (cwV 1 hts (wB_goodV (fun _ h => h) ml_W_55 im_W_goesAlongX se_W_goesAlongX ini_W co_W_goesAlongX) rfl rfl rfl (by decide +kernel) ⟨Nat.le_of_ble_eq_true rfl, Nat.le_of_ble_eq_true rfl⟩) (pV hK hP (ci := 5) (q0 := 3) rfl rfl _) rfl rfl hl.1 rfl (lv_room (Nat.le_of_ble_eq_true rfl)) d_W_leastAcross_35 ⟨Nat.zero_le _, Nat.zero_le _⟩) ?_
          refine lv_icmp_eq (tgt := 55) hx hb d_W_leastAcross_38 (by decide) (fun c_38 => ?_) (fun c_38 => ?_)
          · refine lv_iinc (v := (nI (i + 1))) (lv' := [(4, .int (nI (i + 1))), (0, .ref (aa 3)), (1, .int (nI w)), (2, .int x), (3, .int y)]) hx hb d_W_leastAcross_55 hl (k := 4) rfl (nI_1 _) (by decide) rfl (fun ls hl => ?_)
            refine lv_goto (tgt := 3) hx hb d_W_leastAcross_58 (by decide) ?_
            have hn : fstN (acB kn vv w x y) (i + 1) = none := fstN_none hf (by first | (simp [acB, bI_0.mp c_24]; done) | (simp [acB, bI_n0.mp c_24, bI_inj.mp c_38]; done) | (simp [acB, bI_0.mp c_49]; done))
            exact ih (i + 1) (by omega) (by omega) hn ls (lv_sub hl [1, 2, 3, 4, 0] rfl)
          · refine lv_aload_n hx hb d_W_leastAcross_41 rfl (lv_at hl 0 rfl) ?_
            refine lv_iload hx hb d_W_leastAcross_42 (lv_at hl 4 rfl) ?_
            refine lv_iload_n hx hb d_W_leastAcross_44 rfl (lv_at hl 2 rfl) ?_
            refine lv_iload_n hx hb d_W_leastAcross_45 rfl (lv_at hl 3 rfl) ?_
            refine cR (W.runV (As := [.int (nI i), .int x, .int y]) (rest := []) ⟨hx, hb, hml, hown, hts⟩ (c_W_hasEndAt hP (show i < 40 by omega) x y) (cwV 3 hts (wB_goodV (fun _ h => h) ml_W_58 im_W_hasEndAt se_W_hasEndAt ini_W co_W_hasEndAt) rfl rfl rfl (by decide +kernel) ⟨Nat.le_of_ble_eq_true rfl, Nat.le_of_ble_eq_true rfl⟩) (pV hK hP (ci := 5) (q0 := 3) rfl rfl _) rfl rfl hl.1 rfl (lv_room (Nat.le_of_ble_eq_true rfl)) d_W_leastAcross_46 ⟨Nat.zero_le _, Nat.zero_le _⟩) ?_
            refine lv_if_eq (tgt := 55) hx hb d_W_leastAcross_49 (by decide) (fun c_49 => ?_) (fun c_49 => ?_)
            · refine lv_iinc (v := (nI (i + 1))) (lv' := [(4, .int (nI (i + 1))), (0, .ref (aa 3)), (1, .int (nI w)), (2, .int x), (3, .int y)]) hx hb d_W_leastAcross_55 hl (k := 4) rfl (nI_1 _) (by decide) rfl (fun ls hl => ?_)
              refine lv_goto (tgt := 3) hx hb d_W_leastAcross_58 (by decide) ?_
              have hn : fstN (acB kn vv w x y) (i + 1) = none := fstN_none hf (by first | (simp [acB, bI_0.mp c_24]; done) | (simp [acB, bI_n0.mp c_24, bI_inj.mp c_38]; done) | (simp [acB, bI_0.mp c_49]; done))
              exact ih (i + 1) (by omega) (by omega) hn ls (lv_sub hl [1, 2, 3, 4, 0] rfl)
            · refine lv_iload hx hb d_W_leastAcross_52 (lv_at hl 4 rfl) ?_
              have er : (oI (fstN (acB kn vv w x y) (nn 2))) = (nI i) := by rw [fstN_some hf (by simp [acB, bI_n0.mp c_24, bI_n0.mp c_49]; exact fun h => c_38 (by rw [h])) _ hi2]; rfl
              exact W.iret (v := (nI i)) hx hb hr (fun t ht hW => ⟨by rw [er], ht⟩) (fun q h => by cases h) d_W_leastAcross_54
  exact loop_3 (nn 2 + 1) 0 (by omega) (by omega) rfl ls (lv_sub hl [1, 2, 3, 4, 0] rfl)
end
end
section
section
variable {l : Launch} {dC : Nat → ClassId} {dI : Nat → Nat → Nat} {H : Heap} {aa : Nat → Nat} {cI cZ cJ : ClassId} {kn : Nat → Int32} {vv : Nat → Nat → Int32} {nn : Nat → Nat}
set_option maxRecDepth 100000 in
set_option maxHeartbeats 4000000 in
theorem c_O_has (hP : va_P (dC, dI) classes (wC aa cI cZ kn vv) H) (x : Int32) : Met l y_O_has (wB y_O_has b_O_has 2 (some .boolean)) ({ frames := 0, cells := 0, slots := 0, locals := 0 } : Room) (rP [.ref (aa 4), .int x] H (kK dC dI cI cZ cJ)) (QcRead (bI (haB (kn 3) x))) 0 0 noA := by
  refine Met.ofW (cc := b_O_has) (maxL := 2) (ret := (some .boolean)) (by decide) rfl ?_
  intro p e s m args below meth c s₁ B hml hv
  obtain ⟨rfl, rfl, hK⟩ := hv
  have hx := B.exec
  have hb := B.bytes
  have hr := B.returns
  have hts0 := atoms_spec (ws := (wB y_O_has b_O_has 2 (some .boolean))) B.pre
  have hts : ∀ w9 ∈ BG, w9.before [.ref (aa 4), .int x].toArray s = true := fun w9 hw9 => hts0 w9 (List.mem_cons_of_mem _ hw9)
  have hown : s.vm.findClass R_O = some m.cls := findClass_of_methodNamed B.named
  have hlocks := B.notSynchronized
  have hK : va_K (dC, dI) classes [(cI, .int), (cZ, .boolean), (cJ, .long)] s := hK
  have hl := lv_entry ([.ref (aa 4), .int x]) (n := 2) (Nat.le_of_ble_eq_true rfl)
  rw [lg_entry_eq]
  generalize (lg_sl ([.ref (aa 4), .int x]) ++ List.replicate (2 - (lg_sl ([.ref (aa 4), .int x])).length) Slot.unset).toArray = ls at hl ⊢
  have hl : lv_has ls 2 [(0, .ref (aa 4)), (1, .int x)] := hl
  refine lv_iload_n hx hb d_O_has_0 rfl (lv_at hl 1 rfl) ?_
  refine lv_if_lt (tgt := 16) hx hb d_O_has_1 (by decide) (fun c_1 => ?_) (fun c_1 => ?_)
  · refine lv_iconst (v := 0) hx hb d_O_has_16 (by decide) ?_
    have er : (bI (haB (kn 3) x)) = 0 := by simp [bI, haB, c_1]
    exact W.zret (v := 0) hx hb hr rfl (fun t ht hW => ⟨by rw [er], ht⟩) (fun q h => by cases h) d_O_has_17
  · refine lv_iload_n hx hb d_O_has_4 rfl (lv_at hl 1 rfl) ?_
    refine lv_aload_n hx hb d_O_has_5 rfl (lv_at hl 0 rfl) ?_
    refine va_get (D := (dC, dI)) (ci := 2) (v := .int (kn 3)) (C := R_O) (T := F_O) (N := 4) hx hb hts i_O hown hK hP 4 rfl rfl 3 (by decide) (hts _ fl_O_21) (fun _ h9 => h9) rfl d_O_has_6 ?_
    refine lv_icmp_ge (tgt := 16) hx hb d_O_has_9 (by decide) (fun c_9 => ?_) (fun c_9 => ?_)
    · refine lv_iconst (v := 0) hx hb d_O_has_16 (by decide) ?_
      have er : (bI (haB (kn 3) x)) = 0 := by simp [bI, haB, c_1, c_9]
      exact W.zret (v := 0) hx hb hr rfl (fun t ht hW => ⟨by rw [er], ht⟩) (fun q h => by cases h) d_O_has_17
    · refine lv_iconst (v := 1) hx hb d_O_has_12 (by decide) ?_
      refine lv_goto (tgt := 17) hx hb d_O_has_13 (by decide) ?_
      have er : (bI (haB (kn 3) x)) = 1 := by simp [bI, haB, c_1, c_9]
      exact W.zret (v := 1) hx hb hr rfl (fun t ht hW => ⟨by rw [er], ht⟩) (fun q h => by cases h) d_O_has_17
set_option maxRecDepth 100000 in
set_option maxHeartbeats 4000000 in
theorem c_S_has (hP : va_P (dC, dI) classes (wC aa cI cZ kn vv) H) (x : Int32) : Met l y_S_has (wB y_S_has b_S_has 2 (some .boolean)) ({ frames := 0, cells := 0, slots := 0, locals := 0 } : Room) (rP [.ref (aa 1), .int x] H (kK dC dI cI cZ cJ)) (QcRead (bI (haB (kn 0) x))) 0 0 noA := by
  refine Met.ofW (cc := b_S_has) (maxL := 2) (ret := (some .boolean)) (by decide) rfl ?_
  intro p e s m args below meth c s₁ B hml hv
  obtain ⟨rfl, rfl, hK⟩ := hv
  have hx := B.exec
  have hb := B.bytes
  have hr := B.returns
  have hts0 := atoms_spec (ws := (wB y_S_has b_S_has 2 (some .boolean))) B.pre
  have hts : ∀ w9 ∈ BG, w9.before [.ref (aa 1), .int x].toArray s = true := fun w9 hw9 => hts0 w9 (List.mem_cons_of_mem _ hw9)
  have hown : s.vm.findClass R_S = some m.cls := findClass_of_methodNamed B.named
  have hlocks := B.notSynchronized
  have hK : va_K (dC, dI) classes [(cI, .int), (cZ, .boolean), (cJ, .long)] s := hK
  have hl := lv_entry ([.ref (aa 1), .int x]) (n := 2) (Nat.le_of_ble_eq_true rfl)
  rw [lg_entry_eq]
  generalize (lg_sl ([.ref (aa 1), .int x]) ++ List.replicate (2 - (lg_sl ([.ref (aa 1), .int x])).length) Slot.unset).toArray = ls at hl ⊢
  have hl : lv_has ls 2 [(0, .ref (aa 1)), (1, .int x)] := hl
  refine lv_iload_n hx hb d_S_has_0 rfl (lv_at hl 1 rfl) ?_
  refine lv_if_lt (tgt := 16) hx hb d_S_has_1 (by decide) (fun c_1 => ?_) (fun c_1 => ?_)
  · refine lv_iconst (v := 0) hx hb d_S_has_16 (by decide) ?_
    have er : (bI (haB (kn 0) x)) = 0 := by simp [bI, haB, c_1]
    exact W.zret (v := 0) hx hb hr rfl (fun t ht hW => ⟨by rw [er], ht⟩) (fun q h => by cases h) d_S_has_17
  · refine lv_iload_n hx hb d_S_has_4 rfl (lv_at hl 1 rfl) ?_
    refine lv_aload_n hx hb d_S_has_5 rfl (lv_at hl 0 rfl) ?_
    refine va_get (D := (dC, dI)) (ci := 3) (v := .int (kn 0)) (C := R_S) (T := F_S) (N := 2) hx hb hts i_S hown hK hP 1 rfl rfl 1 (by decide) (hts _ fl_S_15) (fun _ h9 => h9) rfl d_S_has_6 ?_
    refine lv_icmp_ge (tgt := 16) hx hb d_S_has_9 (by decide) (fun c_9 => ?_) (fun c_9 => ?_)
    · refine lv_iconst (v := 0) hx hb d_S_has_16 (by decide) ?_
      have er : (bI (haB (kn 0) x)) = 0 := by simp [bI, haB, c_1, c_9]
      exact W.zret (v := 0) hx hb hr rfl (fun t ht hW => ⟨by rw [er], ht⟩) (fun q h => by cases h) d_S_has_17
    · refine lv_iconst (v := 1) hx hb d_S_has_12 (by decide) ?_
      refine lv_goto (tgt := 17) hx hb d_S_has_13 (by decide) ?_
      have er : (bI (haB (kn 0) x)) = 1 := by simp [bI, haB, c_1, c_9]
      exact W.zret (v := 1) hx hb hr rfl (fun t ht hW => ⟨by rw [er], ht⟩) (fun q h => by cases h) d_S_has_17
set_option maxRecDepth 100000 in
set_option maxHeartbeats 4000000 in
theorem c_T_has (hP : va_P (dC, dI) classes (wC aa cI cZ kn vv) H) (x : Int32) : Met l y_T_has (wB y_T_has b_T_has 2 (some .boolean)) ({ frames := 0, cells := 0, slots := 0, locals := 0 } : Room) (rP [.ref (aa 2), .int x] H (kK dC dI cI cZ cJ)) (QcRead (bI (haB (kn 1) x))) 0 0 noA := by
  refine Met.ofW (cc := b_T_has) (maxL := 2) (ret := (some .boolean)) (by decide) rfl ?_
  intro p e s m args below meth c s₁ B hml hv
  obtain ⟨rfl, rfl, hK⟩ := hv
  have hx := B.exec
  have hb := B.bytes
  have hr := B.returns
  have hts0 := atoms_spec (ws := (wB y_T_has b_T_has 2 (some .boolean))) B.pre
  have hts : ∀ w9 ∈ BG, w9.before [.ref (aa 2), .int x].toArray s = true := fun w9 hw9 => hts0 w9 (List.mem_cons_of_mem _ hw9)
  have hown : s.vm.findClass R_T = some m.cls := findClass_of_methodNamed B.named
  have hlocks := B.notSynchronized
  have hK : va_K (dC, dI) classes [(cI, .int), (cZ, .boolean), (cJ, .long)] s := hK
  have hl := lv_entry ([.ref (aa 2), .int x]) (n := 2) (Nat.le_of_ble_eq_true rfl)
  rw [lg_entry_eq]
  generalize (lg_sl ([.ref (aa 2), .int x]) ++ List.replicate (2 - (lg_sl ([.ref (aa 2), .int x])).length) Slot.unset).toArray = ls at hl ⊢
  have hl : lv_has ls 2 [(0, .ref (aa 2)), (1, .int x)] := hl
  refine lv_iload_n hx hb d_T_has_0 rfl (lv_at hl 1 rfl) ?_
  refine lv_if_lt (tgt := 16) hx hb d_T_has_1 (by decide) (fun c_1 => ?_) (fun c_1 => ?_)
  · refine lv_iconst (v := 0) hx hb d_T_has_16 (by decide) ?_
    have er : (bI (haB (kn 1) x)) = 0 := by simp [bI, haB, c_1]
    exact W.zret (v := 0) hx hb hr rfl (fun t ht hW => ⟨by rw [er], ht⟩) (fun q h => by cases h) d_T_has_17
  · refine lv_iload_n hx hb d_T_has_4 rfl (lv_at hl 1 rfl) ?_
    refine lv_aload_n hx hb d_T_has_5 rfl (lv_at hl 0 rfl) ?_
    refine va_get (D := (dC, dI)) (ci := 4) (v := .int (kn 1)) (C := R_T) (T := F_T) (N := 2) hx hb hts i_T hown hK hP 2 rfl rfl 1 (by decide) (hts _ fl_T_15) (fun _ h9 => h9) rfl d_T_has_6 ?_
    refine lv_icmp_ge (tgt := 16) hx hb d_T_has_9 (by decide) (fun c_9 => ?_) (fun c_9 => ?_)
    · refine lv_iconst (v := 0) hx hb d_T_has_16 (by decide) ?_
      have er : (bI (haB (kn 1) x)) = 0 := by simp [bI, haB, c_1, c_9]
      exact W.zret (v := 0) hx hb hr rfl (fun t ht hW => ⟨by rw [er], ht⟩) (fun q h => by cases h) d_T_has_17
    · refine lv_iconst (v := 1) hx hb d_T_has_12 (by decide) ?_
      refine lv_goto (tgt := 17) hx hb d_T_has_13 (by decide) ?_
      have er : (bI (haB (kn 1) x)) = 1 := by simp [bI, haB, c_1, c_9]
      exact W.zret (v := 1) hx hb hr rfl (fun t ht hW => ⟨by rw [er], ht⟩) (fun q h => by cases h) d_T_has_17
set_option maxRecDepth 100000 in
set_option maxHeartbeats 4000000 in
theorem c_O_manyOf (hP : va_P (dC, dI) classes (wC aa cI cZ kn vv) H) (hI : okC kn nn) (x : Int32) : Met l y_O_manyOf (wB y_O_manyOf b_O_manyOf 4 (some .int)) ({ frames := 0, cells := 0, slots := 0, locals := 0 } : Room) (rP [.ref (aa 4), .int x] H (kK dC dI cI cZ cJ)) (QcRead (nI (cnt (fun i => decide (vv 9 i = x)) (nn 3)))) 0 0 noA := by
  refine Met.ofW (cc := b_O_manyOf) (maxL := 4) (ret := (some .int)) (by decide) rfl ?_
  intro p e s m args below meth c s₁ B hml hv
  obtain ⟨rfl, rfl, hK⟩ := hv
  have hx := B.exec
  have hb := B.bytes
  have hr := B.returns
  have hts0 := atoms_spec (ws := (wB y_O_manyOf b_O_manyOf 4 (some .int))) B.pre
  have hts : ∀ w9 ∈ BG, w9.before [.ref (aa 4), .int x].toArray s = true := fun w9 hw9 => hts0 w9 (List.mem_cons_of_mem _ hw9)
  have hown : s.vm.findClass R_O = some m.cls := findClass_of_methodNamed B.named
  have hlocks := B.notSynchronized
  have hK : va_K (dC, dI) classes [(cI, .int), (cZ, .boolean), (cJ, .long)] s := hK
  have hl := lv_entry ([.ref (aa 4), .int x]) (n := 4) (Nat.le_of_ble_eq_true rfl)
  rw [lg_entry_eq]
  generalize (lg_sl ([.ref (aa 4), .int x]) ++ List.replicate (4 - (lg_sl ([.ref (aa 4), .int x])).length) Slot.unset).toArray = ls at hl ⊢
  have hl : lv_has ls 4 [(0, .ref (aa 4)), (1, .int x)] := hl
  obtain ⟨eK, b0, b1, b2, b3, b4, b5⟩ := id hI
  refine lv_iconst (v := 0) hx hb d_O_manyOf_0 (by decide) ?_
  refine lv_istore_n (lv' := [(2, .int 0), (0, .ref (aa 4)), (1, .int x)]) hx hb d_O_manyOf_1 rfl hl (by decide) rfl (fun ls hl => ?_)
  refine lv_iconst (v := 0) hx hb d_O_manyOf_2 (by decide) ?_
  refine lv_istore_n (lv' := [(3, .int 0), (2, .int 0), (0, .ref (aa 4)), (1, .int x)]) hx hb d_O_manyOf_3 rfl hl (by decide) rfl (fun ls hl => ?_)
  have loop_4 : ∀ (k9 i : Nat), nn 3 + 1 ≤ i + k9 → i ≤ nn 3 → ∀ (ls : Array Slot), lv_has ls 4 [(0, .ref (aa 4)), (1, .int x), (2, .int (nI (cnt (fun i => decide (vv 9 i = x)) i))), (3, .int (nI i))] → W p l e (headSpec (wB y_O_manyOf b_O_manyOf 4 (some .int)) ({ frames := 0, cells := 0, slots := 0, locals := 0 } : Room)).room s m [.ref (aa 4), .int x].toArray below meth c s.heap [] 0 0 (MQ below (QcRead (nI (cnt (fun i => decide (vv 9 i = x)) (nn 3)))) [.ref (aa 4), .int x].toArray s 0 0 noA) (F0 m 4 ls []) := by
    intro k9
    induction k9 with
    | zero => intro i hk hi ls hl; exact absurd hk (by omega)
    | succ k9 ih =>
      intro i hk hi ls hl
      refine lv_iload_n hx hb d_O_manyOf_4 rfl (lv_at hl 3 rfl) ?_
      refine lv_aload_n hx hb d_O_manyOf_5 rfl (lv_at hl 0 rfl) ?_
      refine va_get (D := (dC, dI)) (ci := 2) (v := .int (kn 3)) (C := R_O) (T := F_O) (N := 4) hx hb hts i_O hown hK hP 4 rfl rfl 3 (by decide) (hts _ fl_O_21) (fun _ h9 => h9) rfl d_O_manyOf_6 ?_
      refine lv_icmp_ge (tgt := 31) hx hb d_O_manyOf_9 (by decide) (fun c_9 => ?_) (fun c_9 => ?_)
      · have hi2 : nn 3 ≤ i := geC (eK 3 (by decide)) c_9 (by omega) (by omega)
        refine lv_iload_n hx hb d_O_manyOf_31 rfl (lv_at hl 2 rfl) ?_
        have er : (nI (cnt (fun i => decide (vv 9 i = x)) (nn 3))) = (nI (cnt (fun i => decide (vv 9 i = x)) i)) := by rw [show i = nn 3 by omega]
        exact W.iret (v := (nI (cnt (fun i => decide (vv 9 i = x)) i))) hx hb hr (fun t ht hW => ⟨by rw [er], ht⟩) (fun q h => by cases h) d_O_manyOf_32
      · have hi2 : i < nn 3 := ltC (eK 3 (by decide)) c_9 (by omega) (by omega)
        refine lv_aload_n hx hb d_O_manyOf_12 rfl (lv_at hl 0 rfl) ?_
        refine va_get (D := (dC, dI)) (ci := 2) (v := .ref (aa 15)) (C := R_O) (T := F_O) (N := 4) hx hb hts i_O hown hK hP 4 rfl rfl 0 (by decide) (hts _ fl_O_9) (fun _ h9 => h9) rfl d_O_manyOf_13 ?_
        refine lv_iload_n hx hb d_O_manyOf_16 rfl (lv_at hl 3 rfl) ?_
        refine va_iald hx hb hK hP 15 0 rfl rfl (vp_in_nI (by omega) (by omega)) d_O_manyOf_17 ?_
        rw [nI_clamp (show i < 2 ^ 31 by omega)]
        refine lv_iload_n hx hb d_O_manyOf_18 rfl (lv_at hl 1 rfl) ?_
        refine lv_icmp_ne (tgt := 25) hx hb d_O_manyOf_19 (by decide) (fun c_19 => ?_) (fun c_19 => ?_)
        · refine lv_iinc (v := (nI (i + 1))) (lv' := [(3, .int (nI (i + 1))), (0, .ref (aa 4)), (1, .int x), (2, .int (nI (cnt (fun i => decide (vv 9 i = x)) i)))]) hx hb d_O_manyOf_25 hl (k := 3) rfl (nI_1 _) (by decide) rfl (fun ls hl => ?_)
          refine lv_goto (tgt := 4) hx hb d_O_manyOf_28 (by decide) ?_
          rw [cnt_f (p := (fun i => decide (vv 9 i = x))) (by simpa using c_19)] at hl
          exact ih (i + 1) (by omega) (by omega) ls (lv_sub hl [1, 2, 3, 0] rfl)
        · refine lv_iinc (v := (nI ((cnt (fun i => decide (vv 9 i = x)) i) + 1))) (lv' := [(2, .int (nI ((cnt (fun i => decide (vv 9 i = x)) i) + 1))), (0, .ref (aa 4)), (1, .int x), (3, .int (nI i))]) hx hb d_O_manyOf_22 hl (k := 2) rfl (nI_1 _) (by decide) rfl (fun ls hl => ?_)
          refine lv_iinc (v := (nI (i + 1))) (lv' := [(3, .int (nI (i + 1))), (2, .int (nI ((cnt (fun i => decide (vv 9 i = x)) i) + 1))), (0, .ref (aa 4)), (1, .int x)]) hx hb d_O_manyOf_25 hl (k := 3) rfl (nI_1 _) (by decide) rfl (fun ls hl => ?_)
          refine lv_goto (tgt := 4) hx hb d_O_manyOf_28 (by decide) ?_
          rw [cnt_t (p := (fun i => decide (vv 9 i = x))) (by simpa using c_19)] at hl
          exact ih (i + 1) (by omega) (by omega) ls (lv_sub hl [2, 3, 1, 0] rfl)
  exact loop_4 (nn 3 + 1) 0 (by omega) (by omega) ls (lv_sub hl [2, 3, 1, 0] rfl)
set_option maxRecDepth 100000 in
set_option maxHeartbeats 4000000 in
theorem c_O_widthOf (hP : va_P (dC, dI) classes (wC aa cI cZ kn vv) H) (hI : okC kn nn) (x : Int32) : Met l y_O_widthOf (wB y_O_widthOf b_O_widthOf 4 (some .int)) ({ frames := 0, cells := 0, slots := 0, locals := 0 } : Room) (rP [.ref (aa 4), .int x] H (kK dC dI cI cZ cJ)) (QcRead (wdC vv nn x)) 0 0 noA := by
  refine Met.ofW (cc := b_O_widthOf) (maxL := 4) (ret := (some .int)) (by decide) rfl ?_
  intro p e s m args below meth c s₁ B hml hv
  obtain ⟨rfl, rfl, hK⟩ := hv
  have hx := B.exec
  have hb := B.bytes
  have hr := B.returns
  have hts0 := atoms_spec (ws := (wB y_O_widthOf b_O_widthOf 4 (some .int))) B.pre
  have hts : ∀ w9 ∈ BG, w9.before [.ref (aa 4), .int x].toArray s = true := fun w9 hw9 => hts0 w9 (List.mem_cons_of_mem _ hw9)
  have hown : s.vm.findClass R_O = some m.cls := findClass_of_methodNamed B.named
  have hlocks := B.notSynchronized
  have hK : va_K (dC, dI) classes [(cI, .int), (cZ, .boolean), (cJ, .long)] s := hK
  have hl := lv_entry ([.ref (aa 4), .int x]) (n := 4) (Nat.le_of_ble_eq_true rfl)
  rw [lg_entry_eq]
  generalize (lg_sl ([.ref (aa 4), .int x]) ++ List.replicate (4 - (lg_sl ([.ref (aa 4), .int x])).length) Slot.unset).toArray = ls at hl ⊢
  have hl : lv_has ls 4 [(0, .ref (aa 4)), (1, .int x)] := hl
  obtain ⟨eK, b0, b1, b2, b3, b4, b5⟩ := id hI
  refine lv_iconst (v := 0) hx hb d_O_widthOf_0 (by decide) ?_
  refine lv_istore_n (lv' := [(2, .int 0), (0, .ref (aa 4)), (1, .int x)]) hx hb d_O_widthOf_1 rfl hl (by decide) rfl (fun ls hl => ?_)
  refine lv_iconst (v := 0) hx hb d_O_widthOf_2 (by decide) ?_
  refine lv_istore_n (lv' := [(3, .int 0), (2, .int 0), (0, .ref (aa 4)), (1, .int x)]) hx hb d_O_widthOf_3 rfl hl (by decide) rfl (fun ls hl => ?_)
  have loop_4 : ∀ (k9 i : Nat), nn 3 + 1 ≤ i + k9 → i ≤ nn 3 → ∀ (ls : Array Slot), lv_has ls 4 [(0, .ref (aa 4)), (1, .int x), (2, .int (sumI (fun i => decide (vv 9 i = x)) (vv 11) i)), (3, .int (nI i))] → W p l e (headSpec (wB y_O_widthOf b_O_widthOf 4 (some .int)) ({ frames := 0, cells := 0, slots := 0, locals := 0 } : Room)).room s m [.ref (aa 4), .int x].toArray below meth c s.heap [] 0 0 (MQ below (QcRead (wdC vv nn x)) [.ref (aa 4), .int x].toArray s 0 0 noA) (F0 m 4 ls []) := by
    intro k9
    induction k9 with
    | zero => intro i hk hi ls hl; exact absurd hk (by omega)
    | succ k9 ih =>
      intro i hk hi ls hl
      refine lv_iload_n hx hb d_O_widthOf_4 rfl (lv_at hl 3 rfl) ?_
      refine lv_aload_n hx hb d_O_widthOf_5 rfl (lv_at hl 0 rfl) ?_
      refine va_get (D := (dC, dI)) (ci := 2) (v := .int (kn 3)) (C := R_O) (T := F_O) (N := 4) hx hb hts i_O hown hK hP 4 rfl rfl 3 (by decide) (hts _ fl_O_21) (fun _ h9 => h9) rfl d_O_widthOf_6 ?_
      refine lv_icmp_ge (tgt := 37) hx hb d_O_widthOf_9 (by decide) (fun c_9 => ?_) (fun c_9 => ?_)
      · have hi2 : nn 3 ≤ i := geC (eK 3 (by decide)) c_9 (by omega) (by omega)
        refine lv_iload_n hx hb d_O_widthOf_37 rfl (lv_at hl 2 rfl) ?_
        have er : (wdC vv nn x) = (sumI (fun i => decide (vv 9 i = x)) (vv 11) i) := by rw [wdC, show i = nn 3 by omega]
        exact W.iret (v := (sumI (fun i => decide (vv 9 i = x)) (vv 11) i)) hx hb hr (fun t ht hW => ⟨by rw [er], ht⟩) (fun q h => by cases h) d_O_widthOf_38
      · have hi2 : i < nn 3 := ltC (eK 3 (by decide)) c_9 (by omega) (by omega)
        refine lv_aload_n hx hb d_O_widthOf_12 rfl (lv_at hl 0 rfl) ?_
        refine va_get (D := (dC, dI)) (ci := 2) (v := .ref (aa 15)) (C := R_O) (T := F_O) (N := 4) hx hb hts i_O hown hK hP 4 rfl rfl 0 (by decide) (hts _ fl_O_9) (fun _ h9 => h9) rfl d_O_widthOf_13 ?_
        refine lv_iload_n hx hb d_O_widthOf_16 rfl (lv_at hl 3 rfl) ?_
        refine va_iald hx hb hK hP 15 0 rfl rfl (vp_in_nI (by omega) (by omega)) d_O_widthOf_17 ?_
        rw [nI_clamp (show i < 2 ^ 31 by omega)]
        refine lv_iload_n hx hb d_O_widthOf_18 rfl (lv_at hl 1 rfl) ?_
        refine lv_icmp_ne (tgt := 31) hx hb d_O_widthOf_19 (by decide) (fun c_19 => ?_) (fun c_19 => ?_)
        · refine lv_iinc (v := (nI (i + 1))) (lv' := [(3, .int (nI (i + 1))), (0, .ref (aa 4)), (1, .int x), (2, .int (sumI (fun i => decide (vv 9 i = x)) (vv 11) i))]) hx hb d_O_widthOf_31 hl (k := 3) rfl (nI_1 _) (by decide) rfl (fun ls hl => ?_)
          refine lv_goto (tgt := 4) hx hb d_O_widthOf_34 (by decide) ?_
          rw [sumI_f (p := (fun i => decide (vv 9 i = x))) (f := vv 11) (n := i) (by simpa using c_19)] at hl
          exact ih (i + 1) (by omega) (by omega) ls (lv_sub hl [1, 2, 3, 0] rfl)
        · refine lv_iload_n hx hb d_O_widthOf_22 rfl (lv_at hl 2 rfl) ?_
          refine lv_aload_n hx hb d_O_widthOf_23 rfl (lv_at hl 0 rfl) ?_
          refine va_get (D := (dC, dI)) (ci := 2) (v := .ref (aa 17)) (C := R_O) (T := F_O) (N := 4) hx hb hts i_O hown hK hP 4 rfl rfl 2 (by decide) (hts _ fl_O_18) (fun _ h9 => h9) rfl d_O_widthOf_24 ?_
          refine lv_iload_n hx hb d_O_widthOf_27 rfl (lv_at hl 3 rfl) ?_
          refine va_iald hx hb hK hP 17 0 rfl rfl (vp_in_nI (by omega) (by omega)) d_O_widthOf_28 ?_
          rw [nI_clamp (show i < 2 ^ 31 by omega)]
          refine lv_iadd hx hb d_O_widthOf_29 ?_
          refine lv_istore_n (lv' := [(2, .int ((sumI (fun i => decide (vv 9 i = x)) (vv 11) i) + ((vv 11) i))), (0, .ref (aa 4)), (1, .int x), (3, .int (nI i))]) hx hb d_O_widthOf_30 rfl hl (by decide) rfl (fun ls hl => ?_)
          refine lv_iinc (v := (nI (i + 1))) (lv' := [(3, .int (nI (i + 1))), (2, .int ((sumI (fun i => decide (vv 9 i = x)) (vv 11) i) + ((vv 11) i))), (0, .ref (aa 4)), (1, .int x)]) hx hb d_O_widthOf_31 hl (k := 3) rfl (nI_1 _) (by decide) rfl (fun ls hl => ?_)
          refine lv_goto (tgt := 4) hx hb d_O_widthOf_34 (by decide) ?_
          rw [sumI_t (p := (fun i => decide (vv 9 i = x))) (f := vv 11) (n := i) (by simpa using c_19)] at hl
          exact ih (i + 1) (by omega) (by omega) ls (lv_sub hl [2, 3, 1, 0] rfl)
  exact loop_4 (nn 3 + 1) 0 (by omega) (by omega) ls (lv_sub hl [2, 3, 1, 0] rfl)
set_option maxRecDepth 100000 in
set_option maxHeartbeats 4000000 in
theorem c_O_overlap (hP : va_P (dC, dI) classes (wC aa cI cZ kn vv) H) (hI : okC kn nn) (x y z : Int32) : Met l y_O_overlap (wB y_O_overlap b_O_overlap 5 (some .boolean)) ({ frames := 0, cells := 0, slots := 0, locals := 0 } : Room) (rP [.ref (aa 4), .int x, .int y, .int z] H (kK dC dI cI cZ cJ)) (QcRead (bI (fstN (ovB vv x y z) (nn 3)).isSome)) 0 0 noA := by
  refine Met.ofW (cc := b_O_overlap) (maxL := 5) (ret := (some .boolean)) (by decide) rfl ?_
  intro p e s m args below meth c s₁ B hml hv
  obtain ⟨rfl, rfl, hK⟩ := hv
  have hx := B.exec
  have hb := B.bytes
  have hr := B.returns
  have hts0 := atoms_spec (ws := (wB y_O_overlap b_O_overlap 5 (some .boolean))) B.pre
  have hts : ∀ w9 ∈ BG, w9.before [.ref (aa 4), .int x, .int y, .int z].toArray s = true := fun w9 hw9 => hts0 w9 (List.mem_cons_of_mem _ hw9)
  have hown : s.vm.findClass R_O = some m.cls := findClass_of_methodNamed B.named
  have hlocks := B.notSynchronized
  have hK : va_K (dC, dI) classes [(cI, .int), (cZ, .boolean), (cJ, .long)] s := hK
  have hl := lv_entry ([.ref (aa 4), .int x, .int y, .int z]) (n := 5) (Nat.le_of_ble_eq_true rfl)
  rw [lg_entry_eq]
  generalize (lg_sl ([.ref (aa 4), .int x, .int y, .int z]) ++ List.replicate (5 - (lg_sl ([.ref (aa 4), .int x, .int y, .int z])).length) Slot.unset).toArray = ls at hl ⊢
  have hl : lv_has ls 5 [(0, .ref (aa 4)), (1, .int x), (2, .int y), (3, .int z)] := hl
  obtain ⟨eK, b0, b1, b2, b3, b4, b5⟩ := id hI
  refine lv_iconst (v := 0) hx hb d_O_overlap_0 (by decide) ?_
  refine lv_istore (lv' := [(4, .int 0), (0, .ref (aa 4)), (1, .int x), (2, .int y), (3, .int z)]) hx hb d_O_overlap_1 hl (by decide) rfl (fun ls hl => ?_)
  have loop_3 : ∀ (k9 i : Nat), nn 3 + 1 ≤ i + k9 → i ≤ nn 3 → fstN (ovB vv x y z) i = none → ∀ (ls : Array Slot), lv_has ls 5 [(0, .ref (aa 4)), (1, .int x), (2, .int y), (3, .int z), (4, .int (nI i))] → W p l e (headSpec (wB y_O_overlap b_O_overlap 5 (some .boolean)) ({ frames := 0, cells := 0, slots := 0, locals := 0 } : Room)).room s m [.ref (aa 4), .int x, .int y, .int z].toArray below meth c s.heap [] 0 0 (MQ below (QcRead (bI (fstN (ovB vv x y z) (nn 3)).isSome)) [.ref (aa 4), .int x, .int y, .int z].toArray s 0 0 noA) (F0 m 3 ls []) := by
    intro k9
    induction k9 with
    | zero => intro i hk hi hf ls hl; exact absurd hk (by omega)
    | succ k9 ih =>
      intro i hk hi hf ls hl
      refine lv_iload hx hb d_O_overlap_3 (lv_at hl 4 rfl) ?_
      refine lv_aload_n hx hb d_O_overlap_5 rfl (lv_at hl 0 rfl) ?_
      refine va_get (D := (dC, dI)) (ci := 2) (v := .int (kn 3)) (C := R_O) (T := F_O) (N := 4) hx hb hts i_O hown hK hP 4 rfl rfl 3 (by decide) (hts _ fl_O_21) (fun _ h9 => h9) rfl d_O_overlap_6 ?_
      refine lv_icmp_ge (tgt := 63) hx hb d_O_overlap_9 (by decide) (fun c_9 => ?_) (fun c_9 => ?_)
      · have hi2 : nn 3 ≤ i := geC (eK 3 (by decide)) c_9 (by omega) (by omega)
        refine lv_iconst (v := 0) hx hb d_O_overlap_63 (by decide) ?_
        have er : (bI (fstN (ovB vv x y z) (nn 3)).isSome) = 0 := by rw [show nn 3 = i by omega, hf]; rfl
        exact W.zret (v := 0) hx hb hr rfl (fun t ht hW => ⟨by rw [er], ht⟩) (fun q h => by cases h) d_O_overlap_64
      · have hi2 : i < nn 3 := ltC (eK 3 (by decide)) c_9 (by omega) (by omega)
        refine lv_aload_n hx hb d_O_overlap_12 rfl (lv_at hl 0 rfl) ?_
        refine va_get (D := (dC, dI)) (ci := 2) (v := .ref (aa 15)) (C := R_O) (T := F_O) (N := 4) hx hb hts i_O hown hK hP 4 rfl rfl 0 (by decide) (hts _ fl_O_9) (fun _ h9 => h9) rfl d_O_overlap_13 ?_
        refine lv_iload hx hb d_O_overlap_16 (lv_at hl 4 rfl) ?_
        refine va_iald hx hb hK hP 15 0 rfl rfl (vp_in_nI (by omega) (by omega)) d_O_overlap_18 ?_
        rw [nI_clamp (show i < 2 ^ 31 by omega)]
        refine lv_iload_n hx hb d_O_overlap_19 rfl (lv_at hl 1 rfl) ?_
        refine lv_icmp_ne (tgt := 57) hx hb d_O_overlap_20 (by decide) (fun c_20 => ?_) (fun c_20 => ?_)
        · refine lv_iinc (v := (nI (i + 1))) (lv' := [(4, .int (nI (i + 1))), (0, .ref (aa 4)), (1, .int x), (2, .int y), (3, .int z)]) hx hb d_O_overlap_57 hl (k := 4) rfl (nI_1 _) (by decide) rfl (fun ls hl => ?_)
          refine lv_goto (tgt := 3) hx hb d_O_overlap_60 (by decide) ?_
          have hn : fstN (ovB vv x y z) (i + 1) = none := fstN_none hf (by simp [ovB, c_20])
          exact ih (i + 1) (by omega) (by omega) hn ls (lv_sub hl [1, 2, 3, 4, 0] rfl)
        · refine lv_aload_n hx hb d_O_overlap_23 rfl (lv_at hl 0 rfl) ?_
          refine va_get (D := (dC, dI)) (ci := 2) (v := .ref (aa 16)) (C := R_O) (T := F_O) (N := 4) hx hb hts i_O hown hK hP 4 rfl rfl 1 (by decide) (hts _ fl_O_15) (fun _ h9 => h9) rfl d_O_overlap_24 ?_
          refine lv_iload hx hb d_O_overlap_27 (lv_at hl 4 rfl) ?_
          refine va_iald hx hb hK hP 16 0 rfl rfl (vp_in_nI (by omega) (by omega)) d_O_overlap_29 ?_
          rw [nI_clamp (show i < 2 ^ 31 by omega)]
          refine lv_iload_n hx hb d_O_overlap_30 rfl (lv_at hl 2 rfl) ?_
          refine lv_iload_n hx hb d_O_overlap_31 rfl (lv_at hl 3 rfl) ?_
          refine lv_iadd hx hb d_O_overlap_32 ?_
          refine lv_icmp_ge (tgt := 57) hx hb d_O_overlap_33 (by decide) (fun c_33 => ?_) (fun c_33 => ?_)
          · refine lv_iinc (v := (nI (i + 1))) (lv' := [(4, .int (nI (i + 1))), (0, .ref (aa 4)), (1, .int x), (2, .int y), (3, .int z)]) hx hb d_O_overlap_57 hl (k := 4) rfl (nI_1 _) (by decide) rfl (fun ls hl => ?_)
            refine lv_goto (tgt := 3) hx hb d_O_overlap_60 (by decide) ?_
            have hn : fstN (ovB vv x y z) (i + 1) = none := fstN_none hf (by simp [ovB, c_20, c_33])
            exact ih (i + 1) (by omega) (by omega) hn ls (lv_sub hl [1, 2, 3, 4, 0] rfl)
          · refine lv_iload_n hx hb d_O_overlap_36 rfl (lv_at hl 2 rfl) ?_
            refine lv_aload_n hx hb d_O_overlap_37 rfl (lv_at hl 0 rfl) ?_
            refine va_get (D := (dC, dI)) (ci := 2) (v := .ref (aa 16)) (C := R_O) (T := F_O) (N := 4) hx hb hts i_O hown hK hP 4 rfl rfl 1 (by decide) (hts _ fl_O_15) (fun _ h9 => h9) rfl d_O_overlap_38 ?_
            refine lv_iload hx hb d_O_overlap_41 (lv_at hl 4 rfl) ?_
            refine va_iald hx hb hK hP 16 0 rfl rfl (vp_in_nI (by omega) (by omega)) d_O_overlap_43 ?_
            rw [nI_clamp (show i < 2 ^ 31 by omega)]
            refine lv_aload_n hx hb d_O_overlap_44 rfl (lv_at hl 0 rfl) ?_
            refine va_get (D := (dC, dI)) (ci := 2) (v := .ref (aa 17)) (C := R_O) (T := F_O) (N := 4) hx hb hts i_O hown hK hP 4 rfl rfl 2 (by decide) (hts _ fl_O_18) (fun _ h9 => h9) rfl d_O_overlap_45 ?_
            refine lv_iload hx hb d_O_overlap_48 (lv_at hl 4 rfl) ?_
            refine va_iald hx hb hK hP 17 0 rfl rfl (vp_in_nI (by omega) (by omega)) d_O_overlap_50 ?_
            rw [nI_clamp (show i < 2 ^ 31 by omega)]
            refine lv_iadd hx hb d_O_overlap_51 ?_
            refine lv_icmp_ge (tgt := 57) hx hb d_O_overlap_52 (by decide) (fun c_52 => ?_) (fun c_52 => ?_)
            · refine lv_iinc (v := (nI (i + 1))) (lv' := [(4, .int (nI (i + 1))), (0, .ref (aa 4)), (1, .int x), (2, .int y), (3, .int z)]) hx hb d_O_overlap_57 hl (k := 4) rfl (nI_1 _) (by decide) rfl (fun ls hl => ?_)
              refine lv_goto (tgt := 3) hx hb d_O_overlap_60 (by decide) ?_
              have hn : fstN (ovB vv x y z) (i + 1) = none := fstN_none hf (by simp [ovB, c_20, c_33, c_52])
              exact ih (i + 1) (by omega) (by omega) hn ls (lv_sub hl [1, 2, 3, 4, 0] rfl)
            · refine lv_iconst (v := 1) hx hb d_O_overlap_55 (by decide) ?_
              have er : (bI (fstN (ovB vv x y z) (nn 3)).isSome) = 1 := by rw [fstN_some hf (by simp [ovB, c_20, c_33, c_52]) _ hi2]; rfl
              exact W.zret (v := 1) hx hb hr rfl (fun t ht hW => ⟨by rw [er], ht⟩) (fun q h => by cases h) d_O_overlap_56
  exact loop_3 (nn 3 + 1) 0 (by omega) (by omega) rfl ls (lv_sub hl [1, 2, 3, 4, 0] rfl)
set_option maxRecDepth 100000 in
set_option maxHeartbeats 4000000 in
theorem c_S_height (hP : va_P (dC, dI) classes (wC aa cI cZ kn vv) H) (hI : okC kn nn) {k : Nat} (hk : k < 6) : Met l y_S_height (wB y_S_height b_S_height 2 (some .int)) ({ frames := 0, cells := 0, slots := 0, locals := 0 } : Room) (rP [.ref (aa 1), .int (nI k)] H (kK dC dI cI cZ cJ)) (QcRead (heC kn vv k)) 0 0 noA := by
  refine Met.ofW (cc := b_S_height) (maxL := 2) (ret := (some .int)) (by decide) rfl ?_
  intro p e s m args below meth c s₁ B hml hv
  obtain ⟨rfl, rfl, hK⟩ := hv
  have hx := B.exec
  have hb := B.bytes
  have hr := B.returns
  have hts0 := atoms_spec (ws := (wB y_S_height b_S_height 2 (some .int))) B.pre
  have hts : ∀ w9 ∈ BG, w9.before [.ref (aa 1), .int (nI k)].toArray s = true := fun w9 hw9 => hts0 w9 (List.mem_cons_of_mem _ hw9)
  have hown : s.vm.findClass R_S = some m.cls := findClass_of_methodNamed B.named
  have hlocks := B.notSynchronized
  have hK : va_K (dC, dI) classes [(cI, .int), (cZ, .boolean), (cJ, .long)] s := hK
  have hl := lv_entry ([.ref (aa 1), .int (nI k)]) (n := 2) (Nat.le_of_ble_eq_true rfl)
  rw [lg_entry_eq]
  generalize (lg_sl ([.ref (aa 1), .int (nI k)]) ++ List.replicate (2 - (lg_sl ([.ref (aa 1), .int (nI k)])).length) Slot.unset).toArray = ls at hl ⊢
  have hl : lv_has ls 2 [(0, .ref (aa 1)), (1, .int (nI k))] := hl
  obtain ⟨eK, b0, b1, b2, b3, b4, b5⟩ := id hI
  refine lv_iload_n hx hb d_S_height_0 rfl (lv_at hl 1 rfl) ?_
  refine lv_iconst (v := 1) hx hb d_S_height_1 (by decide) ?_
  refine lv_iadd hx hb d_S_height_2 ?_
  rw [nI_1]
  refine lv_aload_n hx hb d_S_height_3 rfl (lv_at hl 0 rfl) ?_
  refine va_get (D := (dC, dI)) (ci := 3) (v := .int (kn 0)) (C := R_S) (T := F_S) (N := 2) hx hb hts i_S hown hK hP 1 rfl rfl 1 (by decide) (hts _ fl_S_15) (fun _ h9 => h9) rfl d_S_height_4 ?_
  refine lv_icmp_ge (tgt := 28) hx hb d_S_height_7 (by decide) (fun c_7 => ?_) (fun c_7 => ?_)
  · refine lv_sipush (v := 300) hx hb d_S_height_28 (by decide) ?_
    have er : (heC kn vv k) = 300 := by simp [heC, c_7]
    exact W.iret (v := 300) hx hb hr (fun t ht hW => ⟨by rw [er], ht⟩) (fun q h => by cases h) d_S_height_31
  · have hk2 : k + 1 < nn 0 := ltC (eK 0 (by decide)) c_7 (by omega) (by omega)
    refine lv_aload_n hx hb d_S_height_10 rfl (lv_at hl 0 rfl) ?_
    refine va_get (D := (dC, dI)) (ci := 3) (v := .ref (aa 6)) (C := R_S) (T := F_S) (N := 2) hx hb hts i_S hown hK hP 1 rfl rfl 0 (by decide) (hts _ fl_S_9) (fun _ h9 => h9) rfl d_S_height_11 ?_
    refine lv_iload_n hx hb d_S_height_14 rfl (lv_at hl 1 rfl) ?_
    refine lv_iconst (v := 1) hx hb d_S_height_15 (by decide) ?_
    refine lv_iadd hx hb d_S_height_16 ?_
    rw [nI_1]
    refine va_iald hx hb hK hP 6 0 rfl rfl (vp_in_nI (by omega) (by omega)) d_S_height_17 ?_
    rw [nI_clamp (show (k + 1) < 2 ^ 31 by omega)]
    refine lv_aload_n hx hb d_S_height_18 rfl (lv_at hl 0 rfl) ?_
    refine va_get (D := (dC, dI)) (ci := 3) (v := .ref (aa 6)) (C := R_S) (T := F_S) (N := 2) hx hb hts i_S hown hK hP 1 rfl rfl 0 (by decide) (hts _ fl_S_9) (fun _ h9 => h9) rfl d_S_height_19 ?_
    refine lv_iload_n hx hb d_S_height_22 rfl (lv_at hl 1 rfl) ?_
    refine va_iald hx hb hK hP 6 0 rfl rfl (vp_in_nI (by omega) (by omega)) d_S_height_23 ?_
    rw [nI_clamp (show k < 2 ^ 31 by omega)]
    refine lv_isub hx hb d_S_height_24 ?_
    refine lv_goto (tgt := 31) hx hb d_S_height_25 (by decide) ?_
    have er : (heC kn vv k) = (((vv 0) (k + 1)) - ((vv 0) k)) := by simp [heC, c_7]
    exact W.iret (v := (((vv 0) (k + 1)) - ((vv 0) k))) hx hb hr (fun t ht hW => ⟨by rw [er], ht⟩) (fun q h => by cases h) d_S_height_31
set_option maxRecDepth 100000 in
set_option maxHeartbeats 4000000 in
theorem c_S_isBetweenNeighbours (hP : va_P (dC, dI) classes (wC aa cI cZ kn vv) H) (hI : okC kn nn) {k : Nat} (hk : k ≤ nn 0) (x : Int32) : Met l y_S_isBetweenNeighbours (wB y_S_isBetweenNeighbours b_S_isBetweenNeighbours 3 (some .boolean)) ({ frames := 0, cells := 0, slots := 0, locals := 0 } : Room) (rP [.ref (aa 1), .int (nI k), .int x] H (kK dC dI cI cZ cJ)) (QcRead (bI (bnB kn vv k x))) 0 0 noA := by
  refine Met.ofW (cc := b_S_isBetweenNeighbours) (maxL := 3) (ret := (some .boolean)) (by decide) rfl ?_
  intro p e s m args below meth c s₁ B hml hv
  obtain ⟨rfl, rfl, hK⟩ := hv
  have hx := B.exec
  have hb := B.bytes
  have hr := B.returns
  have hts0 := atoms_spec (ws := (wB y_S_isBetweenNeighbours b_S_isBetweenNeighbours 3 (some .boolean))) B.pre
  have hts : ∀ w9 ∈ BG, w9.before [.ref (aa 1), .int (nI k), .int x].toArray s = true := fun w9 hw9 => hts0 w9 (List.mem_cons_of_mem _ hw9)
  have hown : s.vm.findClass R_S = some m.cls := findClass_of_methodNamed B.named
  have hlocks := B.notSynchronized
  have hK : va_K (dC, dI) classes [(cI, .int), (cZ, .boolean), (cJ, .long)] s := hK
  have hl := lv_entry ([.ref (aa 1), .int (nI k), .int x]) (n := 3) (Nat.le_of_ble_eq_true rfl)
  rw [lg_entry_eq]
  generalize (lg_sl ([.ref (aa 1), .int (nI k), .int x]) ++ List.replicate (3 - (lg_sl ([.ref (aa 1), .int (nI k), .int x])).length) Slot.unset).toArray = ls at hl ⊢
  have hl : lv_has ls 3 [(0, .ref (aa 1)), (1, .int (nI k)), (2, .int x)] := hl
  obtain ⟨eK, b0, b1, b2, b3, b4, b5⟩ := id hI
  refine lv_iload_n hx hb d_S_isBetweenNeighbours_0 rfl (lv_at hl 1 rfl) ?_
  refine lv_if_eq (tgt := 16) hx hb d_S_isBetweenNeighbours_1 (by decide) (fun c_1 => ?_) (fun c_1 => ?_)
  · have hk0 : k = 0 := (nI_eq (by omega) (by decide)).mp (show nI k = nI 0 from c_1)
    have hkd : decide (k = 0) = true := decide_eq_true hk0
    refine lv_iload_n hx hb d_S_isBetweenNeighbours_16 rfl (lv_at hl 1 rfl) ?_
    refine lv_iconst (v := 1) hx hb d_S_isBetweenNeighbours_17 (by decide) ?_
    refine lv_iadd hx hb d_S_isBetweenNeighbours_18 ?_
    rw [nI_1]
    refine lv_aload_n hx hb d_S_isBetweenNeighbours_19 rfl (lv_at hl 0 rfl) ?_
    refine va_get (D := (dC, dI)) (ci := 3) (v := .int (kn 0)) (C := R_S) (T := F_S) (N := 2) hx hb hts i_S hown hK hP 1 rfl rfl 1 (by decide) (hts _ fl_S_15) (fun _ h9 => h9) rfl d_S_isBetweenNeighbours_20 ?_
    refine lv_icmp_ge (tgt := 38) hx hb d_S_isBetweenNeighbours_23 (by decide) (fun c_23 => ?_) (fun c_23 => ?_)
    · refine lv_iconst (v := 1) hx hb d_S_isBetweenNeighbours_38 (by decide) ?_
      refine lv_goto (tgt := 43) hx hb d_S_isBetweenNeighbours_39 (by decide) ?_
      have er : (bI (bnB kn vv k x)) = 1 := by simp only [bI, bnB, hkd, decide_eq_true c_1, decide_eq_true c_23, Bool.not_true, Bool.not_false, Bool.and_true, Bool.true_and, Bool.false_and, Bool.and_false, Bool.or_true, Bool.true_or, Bool.or_false, Bool.false_or, if_true, if_false, Bool.false_eq_true, Bool.true_eq_false]
      exact W.zret (v := 1) hx hb hr rfl (fun t ht hW => ⟨by rw [er], ht⟩) (fun q h => by cases h) d_S_isBetweenNeighbours_43
    · have hk2 : k + 1 < nn 0 := ltC (eK 0 (by decide)) c_23 (by omega) (by omega)
      refine lv_iload_n hx hb d_S_isBetweenNeighbours_26 rfl (lv_at hl 2 rfl) ?_
      refine lv_aload_n hx hb d_S_isBetweenNeighbours_27 rfl (lv_at hl 0 rfl) ?_
      refine va_get (D := (dC, dI)) (ci := 3) (v := .ref (aa 6)) (C := R_S) (T := F_S) (N := 2) hx hb hts i_S hown hK hP 1 rfl rfl 0 (by decide) (hts _ fl_S_9) (fun _ h9 => h9) rfl d_S_isBetweenNeighbours_28 ?_
      refine lv_iload_n hx hb d_S_isBetweenNeighbours_31 rfl (lv_at hl 1 rfl) ?_
      refine lv_iconst (v := 1) hx hb d_S_isBetweenNeighbours_32 (by decide) ?_
      refine lv_iadd hx hb d_S_isBetweenNeighbours_33 ?_
      rw [nI_1]
      refine va_iald hx hb hK hP 6 0 rfl rfl (vp_in_nI (by omega) (by omega)) d_S_isBetweenNeighbours_34 ?_
      rw [nI_clamp (show (k + 1) < 2 ^ 31 by omega)]
      refine lv_icmp_ge (tgt := 42) hx hb d_S_isBetweenNeighbours_35 (by decide) (fun c_35 => ?_) (fun c_35 => ?_)
      · refine lv_iconst (v := 0) hx hb d_S_isBetweenNeighbours_42 (by decide) ?_
        have er : (bI (bnB kn vv k x)) = 0 := by simp only [bI, bnB, hkd, decide_eq_true c_1, decide_eq_false c_23, decide_eq_true c_35, Bool.not_true, Bool.not_false, Bool.and_true, Bool.true_and, Bool.false_and, Bool.and_false, Bool.or_true, Bool.true_or, Bool.or_false, Bool.false_or, if_true, if_false, Bool.false_eq_true, Bool.true_eq_false]
        exact W.zret (v := 0) hx hb hr rfl (fun t ht hW => ⟨by rw [er], ht⟩) (fun q h => by cases h) d_S_isBetweenNeighbours_43
      · refine lv_iconst (v := 1) hx hb d_S_isBetweenNeighbours_38 (by decide) ?_
        refine lv_goto (tgt := 43) hx hb d_S_isBetweenNeighbours_39 (by decide) ?_
        have er : (bI (bnB kn vv k x)) = 1 := by simp only [bI, bnB, hkd, decide_eq_true c_1, decide_eq_false c_23, decide_eq_false c_35, Bool.not_true, Bool.not_false, Bool.and_true, Bool.true_and, Bool.false_and, Bool.and_false, Bool.or_true, Bool.true_or, Bool.or_false, Bool.false_or, if_true, if_false, Bool.false_eq_true, Bool.true_eq_false]
        exact W.zret (v := 1) hx hb hr rfl (fun t ht hW => ⟨by rw [er], ht⟩) (fun q h => by cases h) d_S_isBetweenNeighbours_43
  · have hk0 : ¬ k = 0 := fun h => c_1 (by rw [h]; rfl)
    have hkd : decide (k = 0) = false := decide_eq_false hk0
    refine lv_iload_n hx hb d_S_isBetweenNeighbours_4 rfl (lv_at hl 2 rfl) ?_
    refine lv_aload_n hx hb d_S_isBetweenNeighbours_5 rfl (lv_at hl 0 rfl) ?_
    refine va_get (D := (dC, dI)) (ci := 3) (v := .ref (aa 6)) (C := R_S) (T := F_S) (N := 2) hx hb hts i_S hown hK hP 1 rfl rfl 0 (by decide) (hts _ fl_S_9) (fun _ h9 => h9) rfl d_S_isBetweenNeighbours_6 ?_
    refine lv_iload_n hx hb d_S_isBetweenNeighbours_9 rfl (lv_at hl 1 rfl) ?_
    refine lv_iconst (v := 1) hx hb d_S_isBetweenNeighbours_10 (by decide) ?_
    refine lv_isub hx hb d_S_isBetweenNeighbours_11 ?_
    rw [show nI k - 1 = nI (k - 1) from pk_sub (a := k) (b := 1) (by omega)]
    refine va_iald hx hb hK hP 6 0 rfl rfl (vp_in_nI (by omega) (by omega)) d_S_isBetweenNeighbours_12 ?_
    rw [nI_clamp (show (k - 1) < 2 ^ 31 by omega)]
    refine lv_icmp_le (tgt := 42) hx hb d_S_isBetweenNeighbours_13 (by decide) (fun c_13 => ?_) (fun c_13 => ?_)
    · refine lv_iconst (v := 0) hx hb d_S_isBetweenNeighbours_42 (by decide) ?_
      have er : (bI (bnB kn vv k x)) = 0 := by simp only [bI, bnB, hkd, decide_eq_false c_1, decide_eq_true c_13, Bool.not_true, Bool.not_false, Bool.and_true, Bool.true_and, Bool.false_and, Bool.and_false, Bool.or_true, Bool.true_or, Bool.or_false, Bool.false_or, if_true, if_false, Bool.false_eq_true, Bool.true_eq_false]
      exact W.zret (v := 0) hx hb hr rfl (fun t ht hW => ⟨by rw [er], ht⟩) (fun q h => by cases h) d_S_isBetweenNeighbours_43
    · refine lv_iload_n hx hb d_S_isBetweenNeighbours_16 rfl (lv_at hl 1 rfl) ?_
      refine lv_iconst (v := 1) hx hb d_S_isBetweenNeighbours_17 (by decide) ?_
      refine lv_iadd hx hb d_S_isBetweenNeighbours_18 ?_
      rw [nI_1]
      refine lv_aload_n hx hb d_S_isBetweenNeighbours_19 rfl (lv_at hl 0 rfl) ?_
      refine va_get (D := (dC, dI)) (ci := 3) (v := .int (kn 0)) (C := R_S) (T := F_S) (N := 2) hx hb hts i_S hown hK hP 1 rfl rfl 1 (by decide) (hts _ fl_S_15) (fun _ h9 => h9) rfl d_S_isBetweenNeighbours_20 ?_
      refine lv_icmp_ge (tgt := 38) hx hb d_S_isBetweenNeighbours_23 (by decide) (fun c_23 => ?_) (fun c_23 => ?_)
      · refine lv_iconst (v := 1) hx hb d_S_isBetweenNeighbours_38 (by decide) ?_
        refine lv_goto (tgt := 43) hx hb d_S_isBetweenNeighbours_39 (by decide) ?_
        have er : (bI (bnB kn vv k x)) = 1 := by simp only [bI, bnB, hkd, decide_eq_false c_1, decide_eq_false c_13, decide_eq_true c_23, Bool.not_true, Bool.not_false, Bool.and_true, Bool.true_and, Bool.false_and, Bool.and_false, Bool.or_true, Bool.true_or, Bool.or_false, Bool.false_or, if_true, if_false, Bool.false_eq_true, Bool.true_eq_false]
        exact W.zret (v := 1) hx hb hr rfl (fun t ht hW => ⟨by rw [er], ht⟩) (fun q h => by cases h) d_S_isBetweenNeighbours_43
      · have hk2 : k + 1 < nn 0 := ltC (eK 0 (by decide)) c_23 (by omega) (by omega)
        refine lv_iload_n hx hb d_S_isBetweenNeighbours_26 rfl (lv_at hl 2 rfl) ?_
        refine lv_aload_n hx hb d_S_isBetweenNeighbours_27 rfl (lv_at hl 0 rfl) ?_
        refine va_get (D := (dC, dI)) (ci := 3) (v := .ref (aa 6)) (C := R_S) (T := F_S) (N := 2) hx hb hts i_S hown hK hP 1 rfl rfl 0 (by decide) (hts _ fl_S_9) (fun _ h9 => h9) rfl d_S_isBetweenNeighbours_28 ?_
        refine lv_iload_n hx hb d_S_isBetweenNeighbours_31 rfl (lv_at hl 1 rfl) ?_
        refine lv_iconst (v := 1) hx hb d_S_isBetweenNeighbours_32 (by decide) ?_
        refine lv_iadd hx hb d_S_isBetweenNeighbours_33 ?_
        rw [nI_1]
        refine va_iald hx hb hK hP 6 0 rfl rfl (vp_in_nI (by omega) (by omega)) d_S_isBetweenNeighbours_34 ?_
        rw [nI_clamp (show (k + 1) < 2 ^ 31 by omega)]
        refine lv_icmp_ge (tgt := 42) hx hb d_S_isBetweenNeighbours_35 (by decide) (fun c_35 => ?_) (fun c_35 => ?_)
        · refine lv_iconst (v := 0) hx hb d_S_isBetweenNeighbours_42 (by decide) ?_
          have er : (bI (bnB kn vv k x)) = 0 := by simp only [bI, bnB, hkd, decide_eq_false c_1, decide_eq_false c_13, decide_eq_false c_23, decide_eq_true c_35, Bool.not_true, Bool.not_false, Bool.and_true, Bool.true_and, Bool.false_and, Bool.and_false, Bool.or_true, Bool.true_or, Bool.or_false, Bool.false_or, if_true, if_false, Bool.false_eq_true, Bool.true_eq_false]
          exact W.zret (v := 0) hx hb hr rfl (fun t ht hW => ⟨by rw [er], ht⟩) (fun q h => by cases h) d_S_isBetweenNeighbours_43
        · refine lv_iconst (v := 1) hx hb d_S_isBetweenNeighbours_38 (by decide) ?_
          refine lv_goto (tgt := 43) hx hb d_S_isBetweenNeighbours_39 (by decide) ?_
          have er : (bI (bnB kn vv k x)) = 1 := by simp only [bI, bnB, hkd, decide_eq_false c_1, decide_eq_false c_13, decide_eq_false c_23, decide_eq_false c_35, Bool.not_true, Bool.not_false, Bool.and_true, Bool.true_and, Bool.false_and, Bool.and_false, Bool.or_true, Bool.true_or, Bool.or_false, Bool.false_or, if_true, if_false, Bool.false_eq_true, Bool.true_eq_false]
          exact W.zret (v := 1) hx hb hr rfl (fun t ht hW => ⟨by rw [er], ht⟩) (fun q h => by cases h) d_S_isBetweenNeighbours_43
set_option maxRecDepth 100000 in
set_option maxHeartbeats 4000000 in
theorem c_C_openingsOn (hP : va_P (dC, dI) classes (wC aa cI cZ kn vv) H) (hI : okC kn nn) (x : Int32) : Met l y_C_openingsOn (wB y_C_openingsOn b_C_openingsOn 4 (some .int)) ({ frames := 2, cells := 0, slots := 0, locals := 43 } : Room) (rP [.ref (aa 0), .int x] H (kK dC dI cI cZ cJ)) (QcRead (nI (cnt (fun i => onB kn vv (vv 9 i) x) (nn 3)))) 0 0 noA := by
  refine Met.ofW (cc := b_C_openingsOn) (maxL := 4) (ret := (some .int)) (by decide) rfl ?_
  intro p e s m args below meth c s₁ B hml hv
  obtain ⟨rfl, rfl, hK⟩ := hv
  have hx := B.exec
  have hb := B.bytes
  have hr := B.returns
  have hts0 := atoms_spec (ws := (wB y_C_openingsOn b_C_openingsOn 4 (some .int))) B.pre
  have hts : ∀ w9 ∈ BG, w9.before [.ref (aa 0), .int x].toArray s = true := fun w9 hw9 => hts0 w9 (List.mem_cons_of_mem _ hw9)
  have hown : s.vm.findClass R_C = some m.cls := findClass_of_methodNamed B.named
  have hlocks := B.notSynchronized
  have hK : va_K (dC, dI) classes [(cI, .int), (cZ, .boolean), (cJ, .long)] s := hK
  have hl := lv_entry ([.ref (aa 0), .int x]) (n := 4) (Nat.le_of_ble_eq_true rfl)
  rw [lg_entry_eq]
  generalize (lg_sl ([.ref (aa 0), .int x]) ++ List.replicate (4 - (lg_sl ([.ref (aa 0), .int x])).length) Slot.unset).toArray = ls at hl ⊢
  have hl : lv_has ls 4 [(0, .ref (aa 0)), (1, .int x)] := hl
  obtain ⟨eK, b0, b1, b2, b3, b4, b5⟩ := id hI
  refine lv_iconst (v := 0) hx hb d_C_openingsOn_0 (by decide) ?_
  refine lv_istore_n (lv' := [(2, .int 0), (0, .ref (aa 0)), (1, .int x)]) hx hb d_C_openingsOn_1 rfl hl (by decide) rfl (fun ls hl => ?_)
  refine lv_iconst (v := 0) hx hb d_C_openingsOn_2 (by decide) ?_
  refine lv_istore_n (lv' := [(3, .int 0), (2, .int 0), (0, .ref (aa 0)), (1, .int x)]) hx hb d_C_openingsOn_3 rfl hl (by decide) rfl (fun ls hl => ?_)
  have loop_4 : ∀ (k9 i : Nat), nn 3 + 1 ≤ i + k9 → i ≤ nn 3 → ∀ (ls : Array Slot), lv_has ls 4 [(0, .ref (aa 0)), (1, .int x), (2, .int (nI (cnt (fun i => onB kn vv (vv 9 i) x) i))), (3, .int (nI i))] → W p l e (headSpec (wB y_C_openingsOn b_C_openingsOn 4 (some .int)) ({ frames := 2, cells := 0, slots := 0, locals := 43 } : Room)).room s m [.ref (aa 0), .int x].toArray below meth c s.heap [] 0 0 (MQ below (QcRead (nI (cnt (fun i => onB kn vv (vv 9 i) x) (nn 3)))) [.ref (aa 0), .int x].toArray s 0 0 noA) (F0 m 4 ls []) := by
    intro k9
    induction k9 with
    | zero => intro i hk hi ls hl; exact absurd hk (by omega)
    | succ k9 ih =>
      intro i hk hi ls hl
      refine lv_iload_n hx hb d_C_openingsOn_4 rfl (lv_at hl 3 rfl) ?_
      refine lv_aload_n hx hb d_C_openingsOn_5 rfl (lv_at hl 0 rfl) ?_
      refine va_get (D := (dC, dI)) (ci := 0) (v := .ref (aa 4)) (C := R_C) (T := F_C) (N := 5) hx hb hts i_C hown hK hP 0 rfl rfl 3 (by decide) (hts _ fl_C_33) (fun _ h9 => h9) rfl d_C_openingsOn_6 ?_
      refine va_get (D := (dC, dI)) (ci := 2) (v := .int (kn 3)) (C := R_O) (T := F_O) (N := 4) hx hb hts i_O hown hK hP 4 rfl rfl 3 (by decide) (hts _ fl_C_123) (fun _ h9 => h9) rfl d_C_openingsOn_9 ?_
      refine lv_icmp_ge (tgt := 44) hx hb d_C_openingsOn_12 (by decide) (fun c_12 => ?_) (fun c_12 => ?_)
      · have hi2 : nn 3 ≤ i := geC (eK 3 (by decide)) c_12 (by omega) (by omega)
        refine lv_iload_n hx hb d_C_openingsOn_44 rfl (lv_at hl 2 rfl) ?_
        have er : (nI (cnt (fun i => onB kn vv (vv 9 i) x) (nn 3))) = (nI (cnt (fun i => onB kn vv (vv 9 i) x) i)) := by rw [show i = nn 3 by omega]
        exact W.iret (v := (nI (cnt (fun i => onB kn vv (vv 9 i) x) i))) hx hb hr (fun t ht hW => ⟨by rw [er], ht⟩) (fun q h => by cases h) d_C_openingsOn_45
      · have hi2 : i < nn 3 := ltC (eK 3 (by decide)) c_12 (by omega) (by omega)
        refine lv_aload_n hx hb d_C_openingsOn_15 rfl (lv_at hl 0 rfl) ?_
        refine va_get (D := (dC, dI)) (ci := 0) (v := .ref (aa 3)) (C := R_C) (T := F_C) (N := 5) hx hb hts i_C hown hK hP 0 rfl rfl 2 (by decide) (hts _ fl_C_26) (fun _ h9 => h9) rfl d_C_openingsOn_16 ?_
        refine lv_aload_n hx hb d_C_openingsOn_19 rfl (lv_at hl 0 rfl) ?_
        refine va_get (D := (dC, dI)) (ci := 0) (v := .ref (aa 4)) (C := R_C) (T := F_C) (N := 5) hx hb hts i_C hown hK hP 0 rfl rfl 3 (by decide) (hts _ fl_C_33) (fun _ h9 => h9) rfl d_C_openingsOn_20 ?_
        refine va_get (D := (dC, dI)) (ci := 2) (v := .ref (aa 15)) (C := R_O) (T := F_O) (N := 4) hx hb hts i_O hown hK hP 4 rfl rfl 0 (by decide) (hts _ fl_C_186) (fun _ h9 => h9) rfl d_C_openingsOn_23 ?_
        refine lv_iload_n hx hb d_C_openingsOn_26 rfl (lv_at hl 3 rfl) ?_
        refine va_iald hx hb hK hP 15 0 rfl rfl (vp_in_nI (by omega) (by omega)) d_C_openingsOn_27 ?_
        rw [nI_clamp (show i < 2 ^ 31 by omega)]
        refine lv_iload_n hx hb d_C_openingsOn_28 rfl (lv_at hl 1 rfl) ?_
        refine cR (W.runV (As := [.int ((vv 9) i), .int x]) (rest := []) ⟨hx, hb, hml, hown, hts⟩ (c_W_isOn hP hI ((vv 9) i) x) (cwV 2 hts (wB_goodV (fun _ h => h) ml_C_219 im_W_isOn se_W_isOn ini_W co_W_isOn) rfl rfl rfl (by decide +kernel) ⟨Nat.le_of_ble_eq_true rfl, Nat.le_of_ble_eq_true rfl⟩) (pV hK hP (ci := 5) (q0 := 3) rfl rfl _) rfl rfl hl.1 rfl (lv_room (Nat.le_of_ble_eq_true rfl)) d_C_openingsOn_29 ⟨Nat.zero_le _, Nat.zero_le _⟩) ?_
        refine lv_if_eq (tgt := 38) hx hb d_C_openingsOn_32 (by decide) (fun c_32 => ?_) (fun c_32 => ?_)
        · refine lv_iinc (v := (nI (i + 1))) (lv' := [(3, .int (nI (i + 1))), (0, .ref (aa 0)), (1, .int x), (2, .int (nI (cnt (fun i => onB kn vv (vv 9 i) x) i)))]) hx hb d_C_openingsOn_38 hl (k := 3) rfl (nI_1 _) (by decide) rfl (fun ls hl => ?_)
          refine lv_goto (tgt := 4) hx hb d_C_openingsOn_41 (by decide) ?_
          rw [cnt_f (p := (fun i => onB kn vv (vv 9 i) x)) (bI_0.mp c_32)] at hl
          exact ih (i + 1) (by omega) (by omega) ls (lv_sub hl [1, 2, 3, 0] rfl)
        · refine lv_iinc (v := (nI ((cnt (fun i => onB kn vv (vv 9 i) x) i) + 1))) (lv' := [(2, .int (nI ((cnt (fun i => onB kn vv (vv 9 i) x) i) + 1))), (0, .ref (aa 0)), (1, .int x), (3, .int (nI i))]) hx hb d_C_openingsOn_35 hl (k := 2) rfl (nI_1 _) (by decide) rfl (fun ls hl => ?_)
          refine lv_iinc (v := (nI (i + 1))) (lv' := [(3, .int (nI (i + 1))), (2, .int (nI ((cnt (fun i => onB kn vv (vv 9 i) x) i) + 1))), (0, .ref (aa 0)), (1, .int x)]) hx hb d_C_openingsOn_38 hl (k := 3) rfl (nI_1 _) (by decide) rfl (fun ls hl => ?_)
          refine lv_goto (tgt := 4) hx hb d_C_openingsOn_41 (by decide) ?_
          rw [cnt_t (p := (fun i => onB kn vv (vv 9 i) x)) (bI_n0.mp c_32)] at hl
          exact ih (i + 1) (by omega) (by omega) ls (lv_sub hl [2, 3, 1, 0] rfl)
  exact loop_4 (nn 3 + 1) 0 (by omega) (by omega) ls (lv_sub hl [2, 3, 1, 0] rfl)
set_option maxRecDepth 100000 in
set_option maxHeartbeats 4000000 in
theorem c_C_halfThickness (hP : va_P (dC, dI) classes (wC aa cI cZ kn vv) H) (hI : okC kn nn) (hV : okV nn vv) {w : Nat} (hw : w < nn 2) : Met l y_C_halfThickness (wB y_C_halfThickness b_C_halfThickness 2 (some .int)) ({ frames := 0, cells := 0, slots := 0, locals := 0 } : Room) (rP [.ref (aa 0), .int (nI w)] H (kK dC dI cI cZ cJ)) (QcRead (haC vv w)) 0 0 noA := by
  refine Met.ofW (cc := b_C_halfThickness) (maxL := 2) (ret := (some .int)) (by decide) rfl ?_
  intro p e s m args below meth c s₁ B hml hv
  obtain ⟨rfl, rfl, hK⟩ := hv
  have hx := B.exec
  have hb := B.bytes
  have hr := B.returns
  have hts0 := atoms_spec (ws := (wB y_C_halfThickness b_C_halfThickness 2 (some .int))) B.pre
  have hts : ∀ w9 ∈ BG, w9.before [.ref (aa 0), .int (nI w)].toArray s = true := fun w9 hw9 => hts0 w9 (List.mem_cons_of_mem _ hw9)
  have hown : s.vm.findClass R_C = some m.cls := findClass_of_methodNamed B.named
  have hlocks := B.notSynchronized
  have hK : va_K (dC, dI) classes [(cI, .int), (cZ, .boolean), (cJ, .long)] s := hK
  have hl := lv_entry ([.ref (aa 0), .int (nI w)]) (n := 2) (Nat.le_of_ble_eq_true rfl)
  rw [lg_entry_eq]
  generalize (lg_sl ([.ref (aa 0), .int (nI w)]) ++ List.replicate (2 - (lg_sl ([.ref (aa 0), .int (nI w)])).length) Slot.unset).toArray = ls at hl ⊢
  have hl : lv_has ls 2 [(0, .ref (aa 0)), (1, .int (nI w))] := hl
  obtain ⟨eK, b0, b1, b2, b3, b4, b5⟩ := id hI
  refine lv_aload_n hx hb d_C_halfThickness_0 rfl (lv_at hl 0 rfl) ?_
  refine va_get (D := (dC, dI)) (ci := 0) (v := .ref (aa 2)) (C := R_C) (T := F_C) (N := 5) hx hb hts i_C hown hK hP 0 rfl rfl 1 (by decide) (hts _ fl_C_19) (fun _ h9 => h9) rfl d_C_halfThickness_1 ?_
  refine va_get (D := (dC, dI)) (ci := 4) (v := .ref (aa 7)) (C := R_T) (T := F_T) (N := 2) hx hb hts i_T hown hK hP 2 rfl rfl 0 (by decide) (hts _ fl_C_80) (fun _ h9 => h9) rfl d_C_halfThickness_4 ?_
  refine lv_aload_n hx hb d_C_halfThickness_7 rfl (lv_at hl 0 rfl) ?_
  refine va_get (D := (dC, dI)) (ci := 0) (v := .ref (aa 3)) (C := R_C) (T := F_C) (N := 5) hx hb hts i_C hown hK hP 0 rfl rfl 2 (by decide) (hts _ fl_C_26) (fun _ h9 => h9) rfl d_C_halfThickness_8 ?_
  refine va_get (D := (dC, dI)) (ci := 5) (v := .ref (aa 9)) (C := R_W) (T := F_W) (N := 8) hx hb hts i_W hown hK hP 3 rfl rfl 1 (by decide) (hts _ fl_C_168) (fun _ h9 => h9) rfl d_C_halfThickness_11 ?_
  refine lv_iload_n hx hb d_C_halfThickness_14 rfl (lv_at hl 1 rfl) ?_
  refine va_iald hx hb hK hP 9 0 rfl rfl (vp_in_nI (by omega) (by omega)) d_C_halfThickness_15 ?_
  rw [nI_clamp (show w < 2 ^ 31 by omega)]
  refine va_iald hx hb hK hP 7 0 rfl rfl (ixT hV b1 hw) d_C_halfThickness_16 ?_
  refine lv_iconst (v := 2) hx hb d_C_halfThickness_17 (by decide) ?_
  refine lv_idiv hx hb d_C_halfThickness_18 (by decide) ?_
  have er : (haC vv w) = (((vv 1) ((vv 3) w).toNatClampNeg) / 2) := by rfl
  exact W.iret (v := (((vv 1) ((vv 3) w).toNatClampNeg) / 2)) hx hb hr (fun t ht hW => ⟨by rw [er], ht⟩) (fun q h => by cases h) d_C_halfThickness_19
set_option maxRecDepth 100000 in
set_option maxHeartbeats 4000000 in
theorem c_C_gainByJoin (hP : va_P (dC, dI) classes (wC aa cI cZ kn vv) H) (hI : okC kn nn) (hV : okV nn vv) {w : Nat} (hw : w < nn 2) {x : Int32} (hx9 : x = -1 ∨ ∃ j, j < nn 2 ∧ x = nI j) : Met l y_C_gainByJoin (wB y_C_gainByJoin b_C_gainByJoin 4 (some .int)) ({ frames := 1, cells := 0, slots := 0, locals := 21 } : Room) (rP [.ref (aa 0), .int (nI w), .int x] H (kK dC dI cI cZ cJ)) (QcRead (gaC vv w x)) 0 0 noA := by
  refine Met.ofW (cc := b_C_gainByJoin) (maxL := 4) (ret := (some .int)) (by decide) rfl ?_
  intro p e s m args below meth c s₁ B hml hv
  obtain ⟨rfl, rfl, hK⟩ := hv
  have hx := B.exec
  have hb := B.bytes
  have hr := B.returns
  have hts0 := atoms_spec (ws := (wB y_C_gainByJoin b_C_gainByJoin 4 (some .int))) B.pre
  have hts : ∀ w9 ∈ BG, w9.before [.ref (aa 0), .int (nI w), .int x].toArray s = true := fun w9 hw9 => hts0 w9 (List.mem_cons_of_mem _ hw9)
  have hown : s.vm.findClass R_C = some m.cls := findClass_of_methodNamed B.named
  have hlocks := B.notSynchronized
  have hK : va_K (dC, dI) classes [(cI, .int), (cZ, .boolean), (cJ, .long)] s := hK
  have hl := lv_entry ([.ref (aa 0), .int (nI w), .int x]) (n := 4) (Nat.le_of_ble_eq_true rfl)
  rw [lg_entry_eq]
  generalize (lg_sl ([.ref (aa 0), .int (nI w), .int x]) ++ List.replicate (4 - (lg_sl ([.ref (aa 0), .int (nI w), .int x])).length) Slot.unset).toArray = ls at hl ⊢
  have hl : lv_has ls 4 [(0, .ref (aa 0)), (1, .int (nI w)), (2, .int x)] := hl
  obtain ⟨eK, b0, b1, b2, b3, b4, b5⟩ := id hI
  refine lv_iload_n hx hb d_C_gainByJoin_0 rfl (lv_at hl 2 rfl) ?_
  refine lv_iconst (v := (-1)) hx hb d_C_gainByJoin_1 (by decide) ?_
  refine lv_icmp_ne (tgt := 7) hx hb d_C_gainByJoin_2 (by decide) (fun c_2 => ?_) (fun c_2 => ?_)
  · obtain ⟨j, hj, ej⟩ := hx9.resolve_left c_2
    rw [ej] at hl
    refine lv_aload_n hx hb d_C_gainByJoin_7 rfl (lv_at hl 0 rfl) ?_
    refine lv_iload_n hx hb d_C_gainByJoin_8 rfl (lv_at hl 2 rfl) ?_
    refine cR (W.runV (As := [.int (nI j)]) (rest := []) ⟨hx, hb, hml, hown, hts⟩ (c_C_halfThickness hP hI hV hj) (cwV 1 hts (wB_goodV (fun _ h => h) ml_C_288 im_C_halfThickness se_C_halfThickness ini_C co_C_halfThickness) rfl rfl rfl (by decide +kernel) ⟨Nat.le_of_ble_eq_true rfl, Nat.le_of_ble_eq_true rfl⟩) (pV hK hP (ci := 0) (q0 := 0) rfl rfl _) rfl rfl hl.1 rfl (lv_room (Nat.le_of_ble_eq_true rfl)) d_C_gainByJoin_9 ⟨Nat.zero_le _, Nat.zero_le _⟩) ?_
    refine lv_istore_n (lv' := [(3, .int (haC vv j)), (0, .ref (aa 0)), (1, .int (nI w)), (2, .int (nI j))]) hx hb d_C_gainByJoin_12 rfl hl (by decide) rfl (fun ls hl => ?_)
    refine lv_iload_n hx hb d_C_gainByJoin_13 rfl (lv_at hl 3 rfl) ?_
    refine lv_iload_n hx hb d_C_gainByJoin_14 rfl (lv_at hl 2 rfl) ?_
    refine lv_icmp_ge (tgt := 23) hx hb d_C_gainByJoin_15 (by decide) (fun c_15 => ?_) (fun c_15 => ?_)
    · refine lv_iload_n hx hb d_C_gainByJoin_23 rfl (lv_at hl 0 rfl) ?_
      have er : (gaC vv w x) = (haC vv j) := by rw [gaC, if_neg c_2, ej, nI_clamp (show j < 2 ^ 31 by omega)]; simp [c_15]
      exact W.iret (v := (haC vv j)) hx hb hr (fun t ht hW => ⟨by rw [er], ht⟩) (fun q h => by cases h) d_C_gainByJoin_24
    · refine lv_iload_n hx hb d_C_gainByJoin_18 rfl (lv_at hl 0 rfl) ?_
      refine lv_ineg hx hb d_C_gainByJoin_19 ?_
      refine lv_goto (tgt := 24) hx hb d_C_gainByJoin_20 (by decide) ?_
      have er : (gaC vv w x) = (-(haC vv j)) := by rw [gaC, if_neg c_2, ej, nI_clamp (show j < 2 ^ 31 by omega)]; simp [c_15]
      exact W.iret (v := (-(haC vv j))) hx hb hr (fun t ht hW => ⟨by rw [er], ht⟩) (fun q h => by cases h) d_C_gainByJoin_24
  · refine lv_iconst (v := 0) hx hb d_C_gainByJoin_5 (by decide) ?_
    have er : (gaC vv w x) = 0 := by simp [gaC, c_2]
    exact W.iret (v := 0) hx hb hr (fun t ht hW => ⟨by rw [er], ht⟩) (fun q h => by cases h) d_C_gainByJoin_6
set_option maxRecDepth 100000 in
set_option maxHeartbeats 4000000 in
theorem c_C_netLength (hP : va_P (dC, dI) classes (wC aa cI cZ kn vv) H) (hI : okC kn nn) (hV : okV nn vv) {w : Nat} (hw : w < nn 2) : Met l y_C_netLength (wB y_C_netLength b_C_netLength 4 (some .long)) ({ frames := 3, cells := 0, slots := 0, locals := 67 } : Room) (rP [.ref (aa 0), .int (nI w)] H (kK dC dI cI cZ cJ)) (QcReadL (neC kn vv nn w)) 0 0 noA := by
  refine Met.ofW (cc := b_C_netLength) (maxL := 4) (ret := (some .long)) (by decide) rfl ?_
  intro p e s m args below meth c s₁ B hml hv
  obtain ⟨rfl, rfl, hK⟩ := hv
  have hx := B.exec
  have hb := B.bytes
  have hr := B.returns
  have hts0 := atoms_spec (ws := (wB y_C_netLength b_C_netLength 4 (some .long))) B.pre
  have hts : ∀ w9 ∈ BG, w9.before [.ref (aa 0), .int (nI w)].toArray s = true := fun w9 hw9 => hts0 w9 (List.mem_cons_of_mem _ hw9)
  have hown : s.vm.findClass R_C = some m.cls := findClass_of_methodNamed B.named
  have hlocks := B.notSynchronized
  have hK : va_K (dC, dI) classes [(cI, .int), (cZ, .boolean), (cJ, .long)] s := hK
  have hl := lv_entry ([.ref (aa 0), .int (nI w)]) (n := 4) (Nat.le_of_ble_eq_true rfl)
  rw [lg_entry_eq]
  generalize (lg_sl ([.ref (aa 0), .int (nI w)]) ++ List.replicate (4 - (lg_sl ([.ref (aa 0), .int (nI w)])).length) Slot.unset).toArray = ls at hl ⊢
  have hl : lv_has ls 4 [(0, .ref (aa 0)), (1, .int (nI w))] := hl
  obtain ⟨eK, b0, b1, b2, b3, b4, b5⟩ := id hI
  refine lv_aload_n hx hb d_C_netLength_0 rfl (lv_at hl 0 rfl) ?_
  refine va_get (D := (dC, dI)) (ci := 0) (v := .ref (aa 3)) (C := R_C) (T := F_C) (N := 5) hx hb hts i_C hown hK hP 0 rfl rfl 2 (by decide) (hts _ fl_C_26) (fun _ h9 => h9) rfl d_C_netLength_1 ?_
  refine lv_iload_n hx hb d_C_netLength_4 rfl (lv_at hl 1 rfl) ?_
  refine lv_aload_n hx hb d_C_netLength_5 rfl (lv_at hl 0 rfl) ?_
  refine va_get (D := (dC, dI)) (ci := 0) (v := .ref (aa 3)) (C := R_C) (T := F_C) (N := 5) hx hb hts i_C hown hK hP 0 rfl rfl 2 (by decide) (hts _ fl_C_26) (fun _ h9 => h9) rfl d_C_netLength_6 ?_
  refine va_get (D := (dC, dI)) (ci := 5) (v := .ref (aa 10)) (C := R_W) (T := F_W) (N := 8) hx hb hts i_W hown hK hP 3 rfl rfl 2 (by decide) (hts _ fl_C_105) (fun _ h9 => h9) rfl d_C_netLength_9 ?_
  refine lv_iload_n hx hb d_C_netLength_12 rfl (lv_at hl 1 rfl) ?_
  refine va_iald hx hb hK hP 10 0 rfl rfl (vp_in_nI (by omega) (by omega)) d_C_netLength_13 ?_
  rw [nI_clamp (show w < 2 ^ 31 by omega)]
  refine lv_aload_n hx hb d_C_netLength_14 rfl (lv_at hl 0 rfl) ?_
  refine va_get (D := (dC, dI)) (ci := 0) (v := .ref (aa 3)) (C := R_C) (T := F_C) (N := 5) hx hb hts i_C hown hK hP 0 rfl rfl 2 (by decide) (hts _ fl_C_26) (fun _ h9 => h9) rfl d_C_netLength_15 ?_
  refine va_get (D := (dC, dI)) (ci := 5) (v := .ref (aa 11)) (C := R_W) (T := F_W) (N := 8) hx hb hts i_W hown hK hP 3 rfl rfl 3 (by decide) (hts _ fl_C_108) (fun _ h9 => h9) rfl d_C_netLength_18 ?_
  refine lv_iload_n hx hb d_C_netLength_21 rfl (lv_at hl 1 rfl) ?_
  refine va_iald hx hb hK hP 11 0 rfl rfl (vp_in_nI (by omega) (by omega)) d_C_netLength_22 ?_
  rw [nI_clamp (show w < 2 ^ 31 by omega)]
  refine cR (W.runV (As := [.int (nI w), .int ((vv 4) w), .int ((vv 5) w)]) (rest := []) ⟨hx, hb, hml, hown, hts⟩ (c_W_leastAcross hP hI (show w < 40 by omega) (vv 4 w) (vv 5 w)) (cwV 3 hts (wB_goodV (fun _ h => h) ml_C_281 im_W_leastAcross se_W_leastAcross ini_W co_W_leastAcross) rfl rfl rfl (by decide +kernel) ⟨Nat.le_of_ble_eq_true rfl, Nat.le_of_ble_eq_true rfl⟩) (pV hK hP (ci := 5) (q0 := 3) rfl rfl _) rfl rfl hl.1 rfl (lv_room (Nat.le_of_ble_eq_true rfl)) d_C_netLength_23 ⟨Nat.zero_le _, Nat.zero_le _⟩) ?_
  refine lv_istore_n (lv' := [(2, .int (oI (fstN (acB kn vv w ((vv 4) w) ((vv 5) w)) (nn 2)))), (0, .ref (aa 0)), (1, .int (nI w))]) hx hb d_C_netLength_26 rfl hl (by decide) rfl (fun ls hl => ?_)
  refine lv_aload_n hx hb d_C_netLength_27 rfl (lv_at hl 1 rfl) ?_
  refine va_get (D := (dC, dI)) (ci := 0) (v := .ref (aa 3)) (C := R_C) (T := F_C) (N := 5) hx hb hts i_C hown hK hP 0 rfl rfl 2 (by decide) (hts _ fl_C_26) (fun _ h9 => h9) rfl d_C_netLength_28 ?_
  refine lv_iload_n hx hb d_C_netLength_31 rfl (lv_at hl 2 rfl) ?_
  refine lv_aload_n hx hb d_C_netLength_32 rfl (lv_at hl 1 rfl) ?_
  refine va_get (D := (dC, dI)) (ci := 0) (v := .ref (aa 3)) (C := R_C) (T := F_C) (N := 5) hx hb hts i_C hown hK hP 0 rfl rfl 2 (by decide) (hts _ fl_C_26) (fun _ h9 => h9) rfl d_C_netLength_33 ?_
  refine va_get (D := (dC, dI)) (ci := 5) (v := .ref (aa 12)) (C := R_W) (T := F_W) (N := 8) hx hb hts i_W hown hK hP 3 rfl rfl 4 (by decide) (hts _ fl_C_111) (fun _ h9 => h9) rfl d_C_netLength_36 ?_
  refine lv_iload_n hx hb d_C_netLength_39 rfl (lv_at hl 2 rfl) ?_
  refine va_iald hx hb hK hP 12 0 rfl rfl (vp_in_nI (by omega) (by omega)) d_C_netLength_40 ?_
  rw [nI_clamp (show w < 2 ^ 31 by omega)]
  refine lv_aload_n hx hb d_C_netLength_41 rfl (lv_at hl 1 rfl) ?_
  refine va_get (D := (dC, dI)) (ci := 0) (v := .ref (aa 3)) (C := R_C) (T := F_C) (N := 5) hx hb hts i_C hown hK hP 0 rfl rfl 2 (by decide) (hts _ fl_C_26) (fun _ h9 => h9) rfl d_C_netLength_42 ?_
  refine va_get (D := (dC, dI)) (ci := 5) (v := .ref (aa 13)) (C := R_W) (T := F_W) (N := 8) hx hb hts i_W hown hK hP 3 rfl rfl 5 (by decide) (hts _ fl_C_114) (fun _ h9 => h9) rfl d_C_netLength_45 ?_
  refine lv_iload_n hx hb d_C_netLength_48 rfl (lv_at hl 2 rfl) ?_
  refine va_iald hx hb hK hP 13 0 rfl rfl (vp_in_nI (by omega) (by omega)) d_C_netLength_49 ?_
  rw [nI_clamp (show w < 2 ^ 31 by omega)]
  refine cR (W.runV (As := [.int (nI w), .int ((vv 6) w), .int ((vv 7) w)]) (rest := []) ⟨hx, hb, hml, hown, hts⟩ (c_W_leastAcross hP hI (show w < 40 by omega) (vv 6 w) (vv 7 w)) (cwV 3 hts (wB_goodV (fun _ h => h) ml_C_281 im_W_leastAcross se_W_leastAcross ini_W co_W_leastAcross) rfl rfl rfl (by decide +kernel) ⟨Nat.le_of_ble_eq_true rfl, Nat.le_of_ble_eq_true rfl⟩) (pV hK hP (ci := 5) (q0 := 3) rfl rfl _) rfl rfl hl.1 rfl (lv_room (Nat.le_of_ble_eq_true rfl)) d_C_netLength_50 ⟨Nat.zero_le _, Nat.zero_le _⟩) ?_
  refine lv_istore_n (lv' := [(3, .int (oI (fstN (acB kn vv w ((vv 6) w) ((vv 7) w)) (nn 2)))), (2, .int (oI (fstN (acB kn vv w ((vv 4) w) ((vv 5) w)) (nn 2)))), (0, .ref (aa 0)), (1, .int (nI w))]) hx hb d_C_netLength_53 rfl hl (by decide) rfl (fun ls hl => ?_)
  refine lv_aload_n hx hb d_C_netLength_54 rfl (lv_at hl 2 rfl) ?_
  refine va_get (D := (dC, dI)) (ci := 0) (v := .ref (aa 3)) (C := R_C) (T := F_C) (N := 5) hx hb hts i_C hown hK hP 0 rfl rfl 2 (by decide) (hts _ fl_C_26) (fun _ h9 => h9) rfl d_C_netLength_55 ?_
  refine lv_iload_n hx hb d_C_netLength_58 rfl (lv_at hl 3 rfl) ?_
  refine cR (W.runV (As := [.int (nI w)]) (rest := []) ⟨hx, hb, hml, hown, hts⟩ (c_W_length hP (show w < 40 by omega)) (cwV 1 hts (wB_goodV (fun _ h => h) ml_C_117 im_W_length se_W_length ini_W co_W_length) rfl rfl rfl (by decide +kernel) ⟨Nat.le_of_ble_eq_true rfl, Nat.le_of_ble_eq_true rfl⟩) (pV hK hP (ci := 5) (q0 := 3) rfl rfl _) rfl rfl hl.1 rfl (lv_room (Nat.le_of_ble_eq_true rfl)) d_C_netLength_59 ⟨Nat.zero_le _, Nat.zero_le _⟩) ?_
  refine lv_i2l (v := (leC vv w).toInt64) hx hb d_C_netLength_62 rfl ?_
  refine lv_aload_n hx hb d_C_netLength_63 rfl (lv_at hl 2 rfl) ?_
  refine lv_iload_n hx hb d_C_netLength_64 rfl (lv_at hl 3 rfl) ?_
  refine lv_iload_n hx hb d_C_netLength_65 rfl (lv_at hl 1 rfl) ?_
  refine cR (W.runV (As := [.int (nI w), .int (oI (fstN (acB kn vv w ((vv 4) w) ((vv 5) w)) (nn 2)))]) (rest := [.long ((leC vv w).toInt64)]) ⟨hx, hb, hml, hown, hts⟩ (c_C_gainByJoin hP hI hV hw (oI_or _ _)) (cwV 2 hts (wB_goodV (fun _ h => h) ml_C_284 im_C_gainByJoin se_C_gainByJoin ini_C co_C_gainByJoin) rfl rfl rfl (by decide +kernel) ⟨Nat.le_of_ble_eq_true rfl, Nat.le_of_ble_eq_true rfl⟩) (pV hK hP (ci := 0) (q0 := 0) rfl rfl _) rfl rfl hl.1 rfl (lv_room (Nat.le_of_ble_eq_true rfl)) d_C_netLength_66 ⟨Nat.zero_le _, Nat.zero_le _⟩) ?_
  refine lv_i2l (v := (gaC vv w (oI (fstN (acB kn vv w ((vv 4) w) ((vv 5) w)) (nn 2)))).toInt64) hx hb d_C_netLength_69 rfl ?_
  refine lv_ladd hx hb d_C_netLength_70 ?_
  refine lv_aload_n hx hb d_C_netLength_71 rfl (lv_at hl 2 rfl) ?_
  refine lv_iload_n hx hb d_C_netLength_72 rfl (lv_at hl 3 rfl) ?_
  refine lv_iload_n hx hb d_C_netLength_73 rfl (lv_at hl 0 rfl) ?_
  refine cR (W.runV (As := [.int (nI w), .int (oI (fstN (acB kn vv w ((vv 6) w) ((vv 7) w)) (nn 2)))]) (rest := [.long (((leC vv w).toInt64) + ((gaC vv w (oI (fstN (acB kn vv w ((vv 4) w) ((vv 5) w)) (nn 2)))).toInt64))]) ⟨hx, hb, hml, hown, hts⟩ (c_C_gainByJoin hP hI hV hw (oI_or _ _)) (cwV 2 hts (wB_goodV (fun _ h => h) ml_C_284 im_C_gainByJoin se_C_gainByJoin ini_C co_C_gainByJoin) rfl rfl rfl (by decide +kernel) ⟨Nat.le_of_ble_eq_true rfl, Nat.le_of_ble_eq_true rfl⟩) (pV hK hP (ci := 0) (q0 := 0) rfl rfl _) rfl rfl hl.1 rfl (lv_room (Nat.le_of_ble_eq_true rfl)) d_C_netLength_74 ⟨Nat.zero_le _, Nat.zero_le _⟩) ?_
  refine lv_i2l (v := (gaC vv w (oI (fstN (acB kn vv w ((vv 6) w) ((vv 7) w)) (nn 2)))).toInt64) hx hb d_C_netLength_77 rfl ?_
  refine lv_ladd hx hb d_C_netLength_78 ?_
  have er : (neC kn vv nn w) = ((((leC vv w).toInt64) + ((gaC vv w (oI (fstN (acB kn vv w ((vv 4) w) ((vv 5) w)) (nn 2)))).toInt64)) + ((gaC vv w (oI (fstN (acB kn vv w ((vv 6) w) ((vv 7) w)) (nn 2)))).toInt64)) := by rfl
  exact W.lret (v := ((((leC vv w).toInt64) + ((gaC vv w (oI (fstN (acB kn vv w ((vv 4) w) ((vv 5) w)) (nn 2)))).toInt64)) + ((gaC vv w (oI (fstN (acB kn vv w ((vv 6) w) ((vv 7) w)) (nn 2)))).toInt64))) hx hb hr (fun t ht hW => ⟨by rw [er], ht⟩) (fun q h => by cases h) d_C_netLength_79
set_option maxRecDepth 100000 in
set_option maxHeartbeats 4000000 in
theorem c_C_area (hP : va_P (dC, dI) classes (wC aa cI cZ kn vv) H) (hI : okC kn nn) (hV : okV nn vv) {w : Nat} (hw : w < nn 2) : Met l y_C_area (wB y_C_area b_C_area 4 (some .long)) ({ frames := 4, cells := 0, slots := 0, locals := 90 } : Room) (rP [.ref (aa 0), .int (nI w)] H (kK dC dI cI cZ cJ)) (QcReadL (arC kn vv nn w)) 0 0 noA := by
  refine Met.ofW (cc := b_C_area) (maxL := 4) (ret := (some .long)) (by decide) rfl ?_
  intro p e s m args below meth c s₁ B hml hv
  obtain ⟨rfl, rfl, hK⟩ := hv
  have hx := B.exec
  have hb := B.bytes
  have hr := B.returns
  have hts0 := atoms_spec (ws := (wB y_C_area b_C_area 4 (some .long))) B.pre
  have hts : ∀ w9 ∈ BG, w9.before [.ref (aa 0), .int (nI w)].toArray s = true := fun w9 hw9 => hts0 w9 (List.mem_cons_of_mem _ hw9)
  have hown : s.vm.findClass R_C = some m.cls := findClass_of_methodNamed B.named
  have hlocks := B.notSynchronized
  have hK : va_K (dC, dI) classes [(cI, .int), (cZ, .boolean), (cJ, .long)] s := hK
  have hl := lv_entry ([.ref (aa 0), .int (nI w)]) (n := 4) (Nat.le_of_ble_eq_true rfl)
  rw [lg_entry_eq]
  generalize (lg_sl ([.ref (aa 0), .int (nI w)]) ++ List.replicate (4 - (lg_sl ([.ref (aa 0), .int (nI w)])).length) Slot.unset).toArray = ls at hl ⊢
  have hl : lv_has ls 4 [(0, .ref (aa 0)), (1, .int (nI w))] := hl
  obtain ⟨eK, b0, b1, b2, b3, b4, b5⟩ := id hI
  obtain ⟨k9, hk9, ek9⟩ := hV.1 w hw
  refine lv_aload_n hx hb d_C_area_0 rfl (lv_at hl 0 rfl) ?_
  refine va_get (D := (dC, dI)) (ci := 0) (v := .ref (aa 1)) (C := R_C) (T := F_C) (N := 5) hx hb hts i_C hown hK hP 0 rfl rfl 0 (by decide) (hts _ fl_C_10) (fun _ h9 => h9) rfl d_C_area_1 ?_
  refine lv_aload_n hx hb d_C_area_4 rfl (lv_at hl 0 rfl) ?_
  refine va_get (D := (dC, dI)) (ci := 0) (v := .ref (aa 3)) (C := R_C) (T := F_C) (N := 5) hx hb hts i_C hown hK hP 0 rfl rfl 2 (by decide) (hts _ fl_C_26) (fun _ h9 => h9) rfl d_C_area_5 ?_
  refine va_get (D := (dC, dI)) (ci := 5) (v := .ref (aa 8)) (C := R_W) (T := F_W) (N := 8) hx hb hts i_W hown hK hP 3 rfl rfl 0 (by decide) (hts _ fl_C_166) (fun _ h9 => h9) rfl d_C_area_8 ?_
  refine lv_iload_n hx hb d_C_area_11 rfl (lv_at hl 1 rfl) ?_
  refine va_iald hx hb hK hP 8 0 rfl rfl (vp_in_nI (by omega) (by omega)) d_C_area_12 ?_
  rw [nI_clamp (show w < 2 ^ 31 by omega)]
  rw [ek9]
  refine cR (W.runV (As := [.int (nI k9)]) (rest := []) ⟨hx, hb, hml, hown, hts⟩ (c_S_height hP hI (show k9 < 6 by omega)) (cwV 1 hts (wB_goodV (fun _ h => h) ml_C_201 im_S_height se_S_height ini_S co_S_height) rfl rfl rfl (by decide +kernel) ⟨Nat.le_of_ble_eq_true rfl, Nat.le_of_ble_eq_true rfl⟩) (pV hK hP (ci := 3) (q0 := 1) rfl rfl _) rfl rfl hl.1 rfl (lv_room (Nat.le_of_ble_eq_true rfl)) d_C_area_13 ⟨Nat.zero_le _, Nat.zero_le _⟩) ?_
  refine lv_istore_n (lv' := [(2, .int (heC kn vv k9)), (0, .ref (aa 0)), (1, .int (nI w))]) hx hb d_C_area_16 rfl hl (by decide) rfl (fun ls hl => ?_)
  refine lv_iload_n hx hb d_C_area_17 rfl (lv_at hl 0 rfl) ?_
  refine lv_sipush (v := 200) hx hb d_C_area_18 (by decide) ?_
  refine va_mmin hx hb (by rw [hml]; exact hl.1.symm) hown (hts _ ml_C_291) (hts _ st_Math_minIII) (hts _ ini_Math) (hts _ co_Math_minIII) (Nat.le_of_ble_eq_true rfl) (Nat.le_of_ble_eq_true rfl) (Nat.zero_le _) (Nat.zero_le _) d_C_area_21 ?_
  refine lv_istore_n (lv' := [(3, .int (if 200 < (heC kn vv k9) then 200 else (heC kn vv k9))), (2, .int (heC kn vv k9)), (0, .ref (aa 0)), (1, .int (nI w))]) hx hb d_C_area_24 rfl hl (by decide) rfl (fun ls hl => ?_)
  refine lv_aload_n hx hb d_C_area_25 rfl (lv_at hl 2 rfl) ?_
  refine lv_iload_n hx hb d_C_area_26 rfl (lv_at hl 3 rfl) ?_
  refine cRL (W.runV (As := [.int (nI w)]) (rest := []) ⟨hx, hb, hml, hown, hts⟩ (c_C_netLength hP hI hV hw) (cwV 1 hts (wB_goodV (fun _ h => h) ml_C_170 im_C_netLength se_C_netLength ini_C co_C_netLength) rfl rfl rfl (by decide +kernel) ⟨Nat.le_of_ble_eq_true rfl, Nat.le_of_ble_eq_true rfl⟩) (pV hK hP (ci := 0) (q0 := 0) rfl rfl _) rfl rfl hl.1 rfl (lv_room (Nat.le_of_ble_eq_true rfl)) d_C_area_27 ⟨Nat.zero_le _, Nat.zero_le _⟩) ?_
  refine lv_iload_n hx hb d_C_area_30 rfl (lv_at hl 1 rfl) ?_
  refine lv_i2l (v := (heC kn vv k9).toInt64) hx hb d_C_area_31 rfl ?_
  refine lv_lmul hx hb d_C_area_32 ?_
  refine lv_aload_n hx hb d_C_area_33 rfl (lv_at hl 2 rfl) ?_
  refine va_get (D := (dC, dI)) (ci := 0) (v := .ref (aa 4)) (C := R_C) (T := F_C) (N := 5) hx hb hts i_C hown hK hP 0 rfl rfl 3 (by decide) (hts _ fl_C_33) (fun _ h9 => h9) rfl d_C_area_34 ?_
  refine lv_iload_n hx hb d_C_area_37 rfl (lv_at hl 3 rfl) ?_
  refine cR (W.runV (As := [.int (nI w)]) (rest := [.long ((neC kn vv nn w) * ((heC kn vv k9).toInt64))]) ⟨hx, hb, hml, hown, hts⟩ (c_O_widthOf hP hI (nI w)) (cwV 1 hts (wB_goodV (fun _ h => h) ml_C_296 im_O_widthOf se_O_widthOf ini_O co_O_widthOf) rfl rfl rfl (by decide +kernel) ⟨Nat.le_of_ble_eq_true rfl, Nat.le_of_ble_eq_true rfl⟩) (pV hK hP (ci := 2) (q0 := 4) rfl rfl _) rfl rfl hl.1 rfl (lv_room (Nat.le_of_ble_eq_true rfl)) d_C_area_38 ⟨Nat.zero_le _, Nat.zero_le _⟩) ?_
  refine lv_i2l (v := (wdC vv nn (nI w)).toInt64) hx hb d_C_area_41 rfl ?_
  refine lv_iload_n hx hb d_C_area_42 rfl (lv_at hl 0 rfl) ?_
  refine lv_i2l (v := (if 200 < (heC kn vv k9) then 200 else (heC kn vv k9)).toInt64) hx hb d_C_area_43 rfl ?_
  refine lv_lmul hx hb d_C_area_44 ?_
  refine lv_lsub hx hb d_C_area_45 ?_
  have er : (arC kn vv nn w) = (((neC kn vv nn w) * ((heC kn vv k9).toInt64)) - (((wdC vv nn (nI w)).toInt64) * ((if 200 < (heC kn vv k9) then 200 else (heC kn vv k9)).toInt64))) := by rw [arC, ek9, nI_clamp (by omega)]; rfl
  exact W.lret (v := (((neC kn vv nn w) * ((heC kn vv k9).toInt64)) - (((wdC vv nn (nI w)).toInt64) * ((if 200 < (heC kn vv k9) then 200 else (heC kn vv k9)).toInt64)))) hx hb hr (fun t ht hW => ⟨by rw [er], ht⟩) (fun q h => by cases h) d_C_area_46
set_option maxRecDepth 100000 in
set_option maxHeartbeats 4000000 in
theorem c_C_areaOf (hP : va_P (dC, dI) classes (wC aa cI cZ kn vv) H) (hI : okC kn nn) (hV : okV nn vv) (x : Int32) : Met l y_C_areaOf (wB y_C_areaOf b_C_areaOf 5 (some .long)) ({ frames := 5, cells := 0, slots := 0, locals := 113 } : Room) (rP [.ref (aa 0), .int x] H (kK dC dI cI cZ cJ)) (QcReadL (sumL (fun i => onB kn vv (nI i) x) (arC kn vv nn) (nn 2))) 0 0 noA := by
  refine Met.ofW (cc := b_C_areaOf) (maxL := 5) (ret := (some .long)) (by decide) rfl ?_
  intro p e s m args below meth c s₁ B hml hv
  obtain ⟨rfl, rfl, hK⟩ := hv
  have hx := B.exec
  have hb := B.bytes
  have hr := B.returns
  have hts0 := atoms_spec (ws := (wB y_C_areaOf b_C_areaOf 5 (some .long))) B.pre
  have hts : ∀ w9 ∈ BG, w9.before [.ref (aa 0), .int x].toArray s = true := fun w9 hw9 => hts0 w9 (List.mem_cons_of_mem _ hw9)
  have hown : s.vm.findClass R_C = some m.cls := findClass_of_methodNamed B.named
  have hlocks := B.notSynchronized
  have hK : va_K (dC, dI) classes [(cI, .int), (cZ, .boolean), (cJ, .long)] s := hK
  have hl := lv_entry ([.ref (aa 0), .int x]) (n := 5) (Nat.le_of_ble_eq_true rfl)
  rw [lg_entry_eq]
  generalize (lg_sl ([.ref (aa 0), .int x]) ++ List.replicate (5 - (lg_sl ([.ref (aa 0), .int x])).length) Slot.unset).toArray = ls at hl ⊢
  have hl : lv_has ls 5 [(0, .ref (aa 0)), (1, .int x)] := hl
  obtain ⟨eK, b0, b1, b2, b3, b4, b5⟩ := id hI
  refine lv_lconst (v := 0) hx hb d_C_areaOf_0 (by decide) ?_
  refine lv_lstore_n (lv' := [(2, .long 0), (0, .ref (aa 0)), (1, .int x)]) hx hb d_C_areaOf_1 rfl hl (by decide) rfl (fun ls hl => ?_)
  refine lv_iconst (v := 0) hx hb d_C_areaOf_2 (by decide) ?_
  refine lv_istore (lv' := [(4, .int 0), (2, .long 0), (0, .ref (aa 0)), (1, .int x)]) hx hb d_C_areaOf_3 hl (by decide) rfl (fun ls hl => ?_)
  have loop_5 : ∀ (k9 i : Nat), nn 2 + 1 ≤ i + k9 → i ≤ nn 2 → ∀ (ls : Array Slot), lv_has ls 5 [(0, .ref (aa 0)), (1, .int x), (2, .long (sumL (fun i => onB kn vv (nI i) x) (arC kn vv nn) i)), (4, .int (nI i))] → W p l e (headSpec (wB y_C_areaOf b_C_areaOf 5 (some .long)) ({ frames := 5, cells := 0, slots := 0, locals := 113 } : Room)).room s m [.ref (aa 0), .int x].toArray below meth c s.heap [] 0 0 (MQ below (QcReadL (sumL (fun i => onB kn vv (nI i) x) (arC kn vv nn) (nn 2))) [.ref (aa 0), .int x].toArray s 0 0 noA) (F0 m 5 ls []) := by
    intro k9
    induction k9 with
    | zero => intro i hk hi ls hl; exact absurd hk (by omega)
    | succ k9 ih =>
      intro i hk hi ls hl
      refine lv_iload hx hb d_C_areaOf_5 (lv_at hl 3 rfl) ?_
      refine lv_aload_n hx hb d_C_areaOf_7 rfl (lv_at hl 0 rfl) ?_
      refine va_get (D := (dC, dI)) (ci := 0) (v := .ref (aa 3)) (C := R_C) (T := F_C) (N := 5) hx hb hts i_C hown hK hP 0 rfl rfl 2 (by decide) (hts _ fl_C_26) (fun _ h9 => h9) rfl d_C_areaOf_8 ?_
      refine va_get (D := (dC, dI)) (ci := 5) (v := .int (kn 2)) (C := R_W) (T := F_W) (N := 8) hx hb hts i_W hown hK hP 3 rfl rfl 7 (by decide) (hts _ fl_C_95) (fun _ h9 => h9) rfl d_C_areaOf_11 ?_
      refine lv_icmp_ge (tgt := 45) hx hb d_C_areaOf_14 (by decide) (fun c_14 => ?_) (fun c_14 => ?_)
      · have hi2 : nn 2 ≤ i := geC (eK 2 (by decide)) c_14 (by omega) (by omega)
        refine lv_lload_n hx hb d_C_areaOf_45 rfl (lv_at hl 2 rfl) ?_
        have er : (sumL (fun i => onB kn vv (nI i) x) (arC kn vv nn) (nn 2)) = (sumL (fun i => onB kn vv (nI i) x) (arC kn vv nn) i) := by rw [show i = nn 2 by omega]
        exact W.lret (v := (sumL (fun i => onB kn vv (nI i) x) (arC kn vv nn) i)) hx hb hr (fun t ht hW => ⟨by rw [er], ht⟩) (fun q h => by cases h) d_C_areaOf_46
      · have hi2 : i < nn 2 := ltC (eK 2 (by decide)) c_14 (by omega) (by omega)
        refine lv_aload_n hx hb d_C_areaOf_17 rfl (lv_at hl 0 rfl) ?_
        refine va_get (D := (dC, dI)) (ci := 0) (v := .ref (aa 3)) (C := R_C) (T := F_C) (N := 5) hx hb hts i_C hown hK hP 0 rfl rfl 2 (by decide) (hts _ fl_C_26) (fun _ h9 => h9) rfl d_C_areaOf_18 ?_
        refine lv_iload hx hb d_C_areaOf_21 (lv_at hl 3 rfl) ?_
        refine lv_iload_n hx hb d_C_areaOf_23 rfl (lv_at hl 1 rfl) ?_
        refine cR (W.runV (As := [.int (nI i), .int x]) (rest := []) ⟨hx, hb, hml, hown, hts⟩ (c_W_isOn hP hI (nI i) x) (cwV 2 hts (wB_goodV (fun _ h => h) ml_C_219 im_W_isOn se_W_isOn ini_W co_W_isOn) rfl rfl rfl (by decide +kernel) ⟨Nat.le_of_ble_eq_true rfl, Nat.le_of_ble_eq_true rfl⟩) (pV hK hP (ci := 5) (q0 := 3) rfl rfl _) rfl rfl hl.1 rfl (lv_room (Nat.le_of_ble_eq_true rfl)) d_C_areaOf_24 ⟨Nat.zero_le _, Nat.zero_le _⟩) ?_
        refine lv_if_eq (tgt := 39) hx hb d_C_areaOf_27 (by decide) (fun c_27 => ?_) (fun c_27 => ?_)
        · refine lv_iinc (v := (nI (i + 1))) (lv' := [(4, .int (nI (i + 1))), (0, .ref (aa 0)), (1, .int x), (2, .long (sumL (fun i => onB kn vv (nI i) x) (arC kn vv nn) i))]) hx hb d_C_areaOf_39 hl (k := 3) rfl (nI_1 _) (by decide) rfl (fun ls hl => ?_)
          refine lv_goto (tgt := 5) hx hb d_C_areaOf_42 (by decide) ?_
          rw [sumL_f (p := (fun i => onB kn vv (nI i) x)) (f := (arC kn vv nn)) (n := i) (bI_0.mp c_27)] at hl
          exact ih (i + 1) (by omega) (by omega) ls (lv_sub hl [1, 2, 3, 0] rfl)
        · refine lv_lload_n hx hb d_C_areaOf_30 rfl (lv_at hl 2 rfl) ?_
          refine lv_aload_n hx hb d_C_areaOf_31 rfl (lv_at hl 0 rfl) ?_
          refine lv_iload hx hb d_C_areaOf_32 (lv_at hl 3 rfl) ?_
          refine cRL (W.runV (As := [.int (nI i)]) (rest := [.long (sumL (fun i => onB kn vv (nI i) x) (arC kn vv nn) i)]) ⟨hx, hb, hml, hown, hts⟩ (c_C_area hP hI hV hi2) (cwV 1 hts (wB_goodV (fun _ h => h) ml_C_174 im_C_area se_C_area ini_C co_C_area) rfl rfl rfl (by decide +kernel) ⟨Nat.le_of_ble_eq_true rfl, Nat.le_of_ble_eq_true rfl⟩) (pV hK hP (ci := 0) (q0 := 0) rfl rfl _) rfl rfl hl.1 rfl (lv_room (Nat.le_of_ble_eq_true rfl)) d_C_areaOf_34 ⟨Nat.zero_le _, Nat.zero_le _⟩) ?_
          refine lv_ladd hx hb d_C_areaOf_37 ?_
          refine lv_lstore_n (lv' := [(2, .long ((sumL (fun i => onB kn vv (nI i) x) (arC kn vv nn) i) + (arC kn vv nn i))), (0, .ref (aa 0)), (1, .int x), (4, .int (nI i))]) hx hb d_C_areaOf_38 rfl hl (by decide) rfl (fun ls hl => ?_)
          refine lv_iinc (v := (nI (i + 1))) (lv' := [(4, .int (nI (i + 1))), (2, .long ((sumL (fun i => onB kn vv (nI i) x) (arC kn vv nn) i) + (arC kn vv nn i))), (0, .ref (aa 0)), (1, .int x)]) hx hb d_C_areaOf_39 hl (k := 3) rfl (nI_1 _) (by decide) rfl (fun ls hl => ?_)
          refine lv_goto (tgt := 5) hx hb d_C_areaOf_42 (by decide) ?_
          rw [sumL_t (p := (fun i => onB kn vv (nI i) x)) (f := (arC kn vv nn)) (n := i) (bI_n0.mp c_27)] at hl
          exact ih (i + 1) (by omega) (by omega) ls (lv_sub hl [2, 3, 1, 0] rfl)
  exact loop_5 (nn 2 + 1) 0 (by omega) (by omega) ls (lv_sub hl [2, 3, 1, 0] rfl)
set_option maxRecDepth 100000 in
set_option maxHeartbeats 4000000 in
theorem c_C_netLengthWith (hP : va_P (dC, dI) classes (wC aa cI cZ kn vv) H) (hI : okC kn nn) (hV : okV nn vv) (x : Int32) : Met l y_C_netLengthWith (wB y_C_netLengthWith b_C_netLengthWith 5 (some .long)) ({ frames := 4, cells := 0, slots := 0, locals := 90 } : Room) (rP [.ref (aa 0), .int x] H (kK dC dI cI cZ cJ)) (QcReadL (sumL (fun i => wiB kn vv (nI i) x) (neC kn vv nn) (nn 2))) 0 0 noA := by
  refine Met.ofW (cc := b_C_netLengthWith) (maxL := 5) (ret := (some .long)) (by decide) rfl ?_
  intro p e s m args below meth c s₁ B hml hv
  obtain ⟨rfl, rfl, hK⟩ := hv
  have hx := B.exec
  have hb := B.bytes
  have hr := B.returns
  have hts0 := atoms_spec (ws := (wB y_C_netLengthWith b_C_netLengthWith 5 (some .long))) B.pre
  have hts : ∀ w9 ∈ BG, w9.before [.ref (aa 0), .int x].toArray s = true := fun w9 hw9 => hts0 w9 (List.mem_cons_of_mem _ hw9)
  have hown : s.vm.findClass R_C = some m.cls := findClass_of_methodNamed B.named
  have hlocks := B.notSynchronized
  have hK : va_K (dC, dI) classes [(cI, .int), (cZ, .boolean), (cJ, .long)] s := hK
  have hl := lv_entry ([.ref (aa 0), .int x]) (n := 5) (Nat.le_of_ble_eq_true rfl)
  rw [lg_entry_eq]
  generalize (lg_sl ([.ref (aa 0), .int x]) ++ List.replicate (5 - (lg_sl ([.ref (aa 0), .int x])).length) Slot.unset).toArray = ls at hl ⊢
  have hl : lv_has ls 5 [(0, .ref (aa 0)), (1, .int x)] := hl
  obtain ⟨eK, b0, b1, b2, b3, b4, b5⟩ := id hI
  refine lv_lconst (v := 0) hx hb d_C_netLengthWith_0 (by decide) ?_
  refine lv_lstore_n (lv' := [(2, .long 0), (0, .ref (aa 0)), (1, .int x)]) hx hb d_C_netLengthWith_1 rfl hl (by decide) rfl (fun ls hl => ?_)
  refine lv_iconst (v := 0) hx hb d_C_netLengthWith_2 (by decide) ?_
  refine lv_istore (lv' := [(4, .int 0), (2, .long 0), (0, .ref (aa 0)), (1, .int x)]) hx hb d_C_netLengthWith_3 hl (by decide) rfl (fun ls hl => ?_)
  have loop_5 : ∀ (k9 i : Nat), nn 2 + 1 ≤ i + k9 → i ≤ nn 2 → ∀ (ls : Array Slot), lv_has ls 5 [(0, .ref (aa 0)), (1, .int x), (2, .long (sumL (fun i => wiB kn vv (nI i) x) (neC kn vv nn) i)), (4, .int (nI i))] → W p l e (headSpec (wB y_C_netLengthWith b_C_netLengthWith 5 (some .long)) ({ frames := 4, cells := 0, slots := 0, locals := 90 } : Room)).room s m [.ref (aa 0), .int x].toArray below meth c s.heap [] 0 0 (MQ below (QcReadL (sumL (fun i => wiB kn vv (nI i) x) (neC kn vv nn) (nn 2))) [.ref (aa 0), .int x].toArray s 0 0 noA) (F0 m 5 ls []) := by
    intro k9
    induction k9 with
    | zero => intro i hk hi ls hl; exact absurd hk (by omega)
    | succ k9 ih =>
      intro i hk hi ls hl
      refine lv_iload hx hb d_C_netLengthWith_5 (lv_at hl 3 rfl) ?_
      refine lv_aload_n hx hb d_C_netLengthWith_7 rfl (lv_at hl 0 rfl) ?_
      refine va_get (D := (dC, dI)) (ci := 0) (v := .ref (aa 3)) (C := R_C) (T := F_C) (N := 5) hx hb hts i_C hown hK hP 0 rfl rfl 2 (by decide) (hts _ fl_C_26) (fun _ h9 => h9) rfl d_C_netLengthWith_8 ?_
      refine va_get (D := (dC, dI)) (ci := 5) (v := .int (kn 2)) (C := R_W) (T := F_W) (N := 8) hx hb hts i_W hown hK hP 3 rfl rfl 7 (by decide) (hts _ fl_C_95) (fun _ h9 => h9) rfl d_C_netLengthWith_11 ?_
      refine lv_icmp_ge (tgt := 45) hx hb d_C_netLengthWith_14 (by decide) (fun c_14 => ?_) (fun c_14 => ?_)
      · have hi2 : nn 2 ≤ i := geC (eK 2 (by decide)) c_14 (by omega) (by omega)
        refine lv_lload_n hx hb d_C_netLengthWith_45 rfl (lv_at hl 2 rfl) ?_
        have er : (sumL (fun i => wiB kn vv (nI i) x) (neC kn vv nn) (nn 2)) = (sumL (fun i => wiB kn vv (nI i) x) (neC kn vv nn) i) := by rw [show i = nn 2 by omega]
        exact W.lret (v := (sumL (fun i => wiB kn vv (nI i) x) (neC kn vv nn) i)) hx hb hr (fun t ht hW => ⟨by rw [er], ht⟩) (fun q h => by cases h) d_C_netLengthWith_46
      · have hi2 : i < nn 2 := ltC (eK 2 (by decide)) c_14 (by omega) (by omega)
        refine lv_aload_n hx hb d_C_netLengthWith_17 rfl (lv_at hl 0 rfl) ?_
        refine va_get (D := (dC, dI)) (ci := 0) (v := .ref (aa 3)) (C := R_C) (T := F_C) (N := 5) hx hb hts i_C hown hK hP 0 rfl rfl 2 (by decide) (hts _ fl_C_26) (fun _ h9 => h9) rfl d_C_netLengthWith_18 ?_
        refine lv_iload hx hb d_C_netLengthWith_21 (lv_at hl 3 rfl) ?_
        refine lv_iload_n hx hb d_C_netLengthWith_23 rfl (lv_at hl 1 rfl) ?_
        refine cR (W.runV (As := [.int (nI i), .int x]) (rest := []) ⟨hx, hb, hml, hown, hts⟩ (c_W_isWith hP hI (nI i) x) (cwV 2 hts (wB_goodV (fun _ h => h) ml_C_299 im_W_isWith se_W_isWith ini_W co_W_isWith) rfl rfl rfl (by decide +kernel) ⟨Nat.le_of_ble_eq_true rfl, Nat.le_of_ble_eq_true rfl⟩) (pV hK hP (ci := 5) (q0 := 3) rfl rfl _) rfl rfl hl.1 rfl (lv_room (Nat.le_of_ble_eq_true rfl)) d_C_netLengthWith_24 ⟨Nat.zero_le _, Nat.zero_le _⟩) ?_
        refine lv_if_eq (tgt := 39) hx hb d_C_netLengthWith_27 (by decide) (fun c_27 => ?_) (fun c_27 => ?_)
        · refine lv_iinc (v := (nI (i + 1))) (lv' := [(4, .int (nI (i + 1))), (0, .ref (aa 0)), (1, .int x), (2, .long (sumL (fun i => wiB kn vv (nI i) x) (neC kn vv nn) i))]) hx hb d_C_netLengthWith_39 hl (k := 3) rfl (nI_1 _) (by decide) rfl (fun ls hl => ?_)
          refine lv_goto (tgt := 5) hx hb d_C_netLengthWith_42 (by decide) ?_
          rw [sumL_f (p := (fun i => wiB kn vv (nI i) x)) (f := (neC kn vv nn)) (n := i) (bI_0.mp c_27)] at hl
          exact ih (i + 1) (by omega) (by omega) ls (lv_sub hl [1, 2, 3, 0] rfl)
        · refine lv_lload_n hx hb d_C_netLengthWith_30 rfl (lv_at hl 2 rfl) ?_
          refine lv_aload_n hx hb d_C_netLengthWith_31 rfl (lv_at hl 0 rfl) ?_
          refine lv_iload hx hb d_C_netLengthWith_32 (lv_at hl 3 rfl) ?_
          refine cRL (W.runV (As := [.int (nI i)]) (rest := [.long (sumL (fun i => wiB kn vv (nI i) x) (neC kn vv nn) i)]) ⟨hx, hb, hml, hown, hts⟩ (c_C_netLength hP hI hV hi2) (cwV 1 hts (wB_goodV (fun _ h => h) ml_C_170 im_C_netLength se_C_netLength ini_C co_C_netLength) rfl rfl rfl (by decide +kernel) ⟨Nat.le_of_ble_eq_true rfl, Nat.le_of_ble_eq_true rfl⟩) (pV hK hP (ci := 0) (q0 := 0) rfl rfl _) rfl rfl hl.1 rfl (lv_room (Nat.le_of_ble_eq_true rfl)) d_C_netLengthWith_34 ⟨Nat.zero_le _, Nat.zero_le _⟩) ?_
          refine lv_ladd hx hb d_C_netLengthWith_37 ?_
          refine lv_lstore_n (lv' := [(2, .long ((sumL (fun i => wiB kn vv (nI i) x) (neC kn vv nn) i) + (neC kn vv nn i))), (0, .ref (aa 0)), (1, .int x), (4, .int (nI i))]) hx hb d_C_netLengthWith_38 rfl hl (by decide) rfl (fun ls hl => ?_)
          refine lv_iinc (v := (nI (i + 1))) (lv' := [(4, .int (nI (i + 1))), (2, .long ((sumL (fun i => wiB kn vv (nI i) x) (neC kn vv nn) i) + (neC kn vv nn i))), (0, .ref (aa 0)), (1, .int x)]) hx hb d_C_netLengthWith_39 hl (k := 3) rfl (nI_1 _) (by decide) rfl (fun ls hl => ?_)
          refine lv_goto (tgt := 5) hx hb d_C_netLengthWith_42 (by decide) ?_
          rw [sumL_t (p := (fun i => wiB kn vv (nI i) x)) (f := (neC kn vv nn)) (n := i) (bI_n0.mp c_27)] at hl
          exact ih (i + 1) (by omega) (by omega) ls (lv_sub hl [2, 3, 1, 0] rfl)
  exact loop_5 (nn 2 + 1) 0 (by omega) (by omega) ls (lv_sub hl [2, 3, 1, 0] rfl)
set_option maxRecDepth 100000 in
set_option maxHeartbeats 4000000 in
theorem c_C_covers (hP : va_P (dC, dI) classes (wC aa cI cZ kn vv) H) (hI : okC kn nn) (hV : okV nn vv) {w : Nat} (hw : w < nn 2) (x y : Int32) : Met l y_C_covers (wB y_C_covers b_C_covers 7 (some .boolean)) ({ frames := 1, cells := 0, slots := 0, locals := 21 } : Room) (rP [.ref (aa 0), .int (nI w), .int x, .int y] H (kK dC dI cI cZ cJ)) (QcRead (bI (coB vv w x y))) 0 0 noA := by
  refine Met.ofW (cc := b_C_covers) (maxL := 7) (ret := (some .boolean)) (by decide) rfl ?_
  intro p e s m args below meth c s₁ B hml hv
  obtain ⟨rfl, rfl, hK⟩ := hv
  have hx := B.exec
  have hb := B.bytes
  have hr := B.returns
  have hts0 := atoms_spec (ws := (wB y_C_covers b_C_covers 7 (some .boolean))) B.pre
  have hts : ∀ w9 ∈ BG, w9.before [.ref (aa 0), .int (nI w), .int x, .int y].toArray s = true := fun w9 hw9 => hts0 w9 (List.mem_cons_of_mem _ hw9)
  have hown : s.vm.findClass R_C = some m.cls := findClass_of_methodNamed B.named
  have hlocks := B.notSynchronized
  have hK : va_K (dC, dI) classes [(cI, .int), (cZ, .boolean), (cJ, .long)] s := hK
  have hl := lv_entry ([.ref (aa 0), .int (nI w), .int x, .int y]) (n := 7) (Nat.le_of_ble_eq_true rfl)
  rw [lg_entry_eq]
  generalize (lg_sl ([.ref (aa 0), .int (nI w), .int x, .int y]) ++ List.replicate (7 - (lg_sl ([.ref (aa 0), .int (nI w), .int x, .int y])).length) Slot.unset).toArray = ls at hl ⊢
  have hl : lv_has ls 7 [(0, .ref (aa 0)), (1, .int (nI w)), (2, .int x), (3, .int y)] := hl
  obtain ⟨eK, b0, b1, b2, b3, b4, b5⟩ := id hI
  refine lv_aload_n hx hb d_C_covers_0 rfl (lv_at hl 0 rfl) ?_
  refine lv_iload_n hx hb d_C_covers_1 rfl (lv_at hl 1 rfl) ?_
  refine cR (W.runV (As := [.int (nI w)]) (rest := []) ⟨hx, hb, hml, hown, hts⟩ (c_C_halfThickness hP hI hV hw) (cwV 1 hts (wB_goodV (fun _ h => h) ml_C_288 im_C_halfThickness se_C_halfThickness ini_C co_C_halfThickness) rfl rfl rfl (by decide +kernel) ⟨Nat.le_of_ble_eq_true rfl, Nat.le_of_ble_eq_true rfl⟩) (pV hK hP (ci := 0) (q0 := 0) rfl rfl _) rfl rfl hl.1 rfl (lv_room (Nat.le_of_ble_eq_true rfl)) d_C_covers_2 ⟨Nat.zero_le _, Nat.zero_le _⟩) ?_
  refine lv_istore (lv' := [(4, .int (haC vv w)), (0, .ref (aa 0)), (1, .int (nI w)), (2, .int x), (3, .int y)]) hx hb d_C_covers_5 hl (by decide) rfl (fun ls hl => ?_)
  refine lv_aload_n hx hb d_C_covers_7 rfl (lv_at hl 1 rfl) ?_
  refine va_get (D := (dC, dI)) (ci := 0) (v := .ref (aa 3)) (C := R_C) (T := F_C) (N := 5) hx hb hts i_C hown hK hP 0 rfl rfl 2 (by decide) (hts _ fl_C_26) (fun _ h9 => h9) rfl d_C_covers_8 ?_
  refine lv_iload_n hx hb d_C_covers_11 rfl (lv_at hl 2 rfl) ?_
  refine cR (W.runV (As := [.int (nI w)]) (rest := []) ⟨hx, hb, hml, hown, hts⟩ (c_W_goesAlongX hP (show w < 40 by omega)) (cwV 1 hts (wB_goodV (fun _ h => h) ml_C_302 im_W_goesAlongX se_W_goesAlongX ini_W co_W_goesAlongX) rfl rfl rfl (by decide +kernel) ⟨Nat.le_of_ble_eq_true rfl, Nat.le_of_ble_eq_true rfl⟩) (pV hK hP (ci := 5) (q0 := 3) rfl rfl _) rfl rfl hl.1 rfl (lv_room (Nat.le_of_ble_eq_true rfl)) d_C_covers_12 ⟨Nat.zero_le _, Nat.zero_le _⟩) ?_
  refine lv_if_eq (tgt := 22) hx hb d_C_covers_15 (by decide) (fun c_15 => ?_) (fun c_15 => ?_)
  · have a15 : alX vv w = false := bI_0.mp c_15
    refine lv_iload hx hb d_C_covers_22 (lv_at hl 0 rfl) ?_
    refine lv_istore (lv' := [(5, .int (haC vv w)), (4, .int (haC vv w)), (0, .ref (aa 0)), (1, .int (nI w)), (2, .int x), (3, .int y)]) hx hb d_C_covers_24 hl (by decide) rfl (fun ls hl => ?_)
    refine lv_aload_n hx hb d_C_covers_26 rfl (lv_at hl 2 rfl) ?_
    refine va_get (D := (dC, dI)) (ci := 0) (v := .ref (aa 3)) (C := R_C) (T := F_C) (N := 5) hx hb hts i_C hown hK hP 0 rfl rfl 2 (by decide) (hts _ fl_C_26) (fun _ h9 => h9) rfl d_C_covers_27 ?_
    refine lv_iload_n hx hb d_C_covers_30 rfl (lv_at hl 3 rfl) ?_
    refine cR (W.runV (As := [.int (nI w)]) (rest := []) ⟨hx, hb, hml, hown, hts⟩ (c_W_goesAlongX hP (show w < 40 by omega)) (cwV 1 hts (wB_goodV (fun _ h => h) ml_C_302 im_W_goesAlongX se_W_goesAlongX ini_W co_W_goesAlongX) rfl rfl rfl (by decide +kernel) ⟨Nat.le_of_ble_eq_true rfl, Nat.le_of_ble_eq_true rfl⟩) (pV hK hP (ci := 5) (q0 := 3) rfl rfl _) rfl rfl hl.1 rfl (lv_room (Nat.le_of_ble_eq_true rfl)) d_C_covers_31 ⟨Nat.zero_le _, Nat.zero_le _⟩) ?_
    refine lv_if_eq (tgt := 42) hx hb d_C_covers_34 (by decide) (fun c_34 => ?_) (fun c_34 => ?_)
    · refine lv_iconst (v := 0) hx hb d_C_covers_42 (by decide) ?_
      refine lv_istore (lv' := [(6, .int 0), (5, .int (haC vv w)), (4, .int (haC vv w)), (0, .ref (aa 0)), (1, .int (nI w)), (2, .int x), (3, .int y)]) hx hb d_C_covers_43 hl (by decide) rfl (fun ls hl => ?_)
      refine lv_iload_n hx hb d_C_covers_45 rfl (lv_at hl 5 rfl) ?_
      refine lv_aload_n hx hb d_C_covers_46 rfl (lv_at hl 3 rfl) ?_
      refine va_get (D := (dC, dI)) (ci := 0) (v := .ref (aa 3)) (C := R_C) (T := F_C) (N := 5) hx hb hts i_C hown hK hP 0 rfl rfl 2 (by decide) (hts _ fl_C_26) (fun _ h9 => h9) rfl d_C_covers_47 ?_
      refine va_get (D := (dC, dI)) (ci := 5) (v := .ref (aa 10)) (C := R_W) (T := F_W) (N := 8) hx hb hts i_W hown hK hP 3 rfl rfl 2 (by decide) (hts _ fl_C_105) (fun _ h9 => h9) rfl d_C_covers_50 ?_
      refine lv_iload_n hx hb d_C_covers_53 rfl (lv_at hl 4 rfl) ?_
      refine va_iald hx hb hK hP 10 0 rfl rfl (vp_in_nI (by omega) (by omega)) d_C_covers_54 ?_
      rw [nI_clamp (show w < 2 ^ 31 by omega)]
      refine lv_aload_n hx hb d_C_covers_55 rfl (lv_at hl 3 rfl) ?_
      refine va_get (D := (dC, dI)) (ci := 0) (v := .ref (aa 3)) (C := R_C) (T := F_C) (N := 5) hx hb hts i_C hown hK hP 0 rfl rfl 2 (by decide) (hts _ fl_C_26) (fun _ h9 => h9) rfl d_C_covers_56 ?_
      refine va_get (D := (dC, dI)) (ci := 5) (v := .ref (aa 12)) (C := R_W) (T := F_W) (N := 8) hx hb hts i_W hown hK hP 3 rfl rfl 4 (by decide) (hts _ fl_C_111) (fun _ h9 => h9) rfl d_C_covers_59 ?_
      refine lv_iload_n hx hb d_C_covers_62 rfl (lv_at hl 4 rfl) ?_
      refine va_iald hx hb hK hP 12 0 rfl rfl (vp_in_nI (by omega) (by omega)) d_C_covers_63 ?_
      rw [nI_clamp (show w < 2 ^ 31 by omega)]
      refine va_mmin hx hb (by rw [hml]; exact hl.1.symm) hown (hts _ ml_C_291) (hts _ st_Math_minIII) (hts _ ini_Math) (hts _ co_Math_minIII) (Nat.le_of_ble_eq_true rfl) (Nat.le_of_ble_eq_true rfl) (Nat.zero_le _) (Nat.zero_le _) d_C_covers_64 ?_
      refine lv_iload hx hb d_C_covers_67 (lv_at hl 1 rfl) ?_
      refine lv_isub hx hb d_C_covers_69 ?_
      refine lv_icmp_lt (tgt := 161) hx hb d_C_covers_70 (by decide) (fun c_70 => ?_) (fun c_70 => ?_)
      · refine lv_iconst (v := 0) hx hb d_C_covers_161 (by decide) ?_
        have er : (bI (coB vv w x y)) = 0 := by simp only [coB, miI, maI, bI, a15, decide_eq_true c_15, decide_eq_true c_34, decide_eq_true c_70, Bool.not_true, Bool.not_false, Bool.and_true, Bool.true_and, Bool.false_and, Bool.and_false, Bool.or_true, Bool.true_or, Bool.or_false, Bool.false_or, if_true, if_false, Bool.false_eq_true, Bool.true_eq_false]
        exact W.zret (v := 0) hx hb hr rfl (fun t ht hW => ⟨by rw [er], ht⟩) (fun q h => by cases h) d_C_covers_162
      · refine lv_iload_n hx hb d_C_covers_73 rfl (lv_at hl 5 rfl) ?_
        refine lv_aload_n hx hb d_C_covers_74 rfl (lv_at hl 3 rfl) ?_
        refine va_get (D := (dC, dI)) (ci := 0) (v := .ref (aa 3)) (C := R_C) (T := F_C) (N := 5) hx hb hts i_C hown hK hP 0 rfl rfl 2 (by decide) (hts _ fl_C_26) (fun _ h9 => h9) rfl d_C_covers_75 ?_
        refine va_get (D := (dC, dI)) (ci := 5) (v := .ref (aa 10)) (C := R_W) (T := F_W) (N := 8) hx hb hts i_W hown hK hP 3 rfl rfl 2 (by decide) (hts _ fl_C_105) (fun _ h9 => h9) rfl d_C_covers_78 ?_
        refine lv_iload_n hx hb d_C_covers_81 rfl (lv_at hl 4 rfl) ?_
        refine va_iald hx hb hK hP 10 0 rfl rfl (vp_in_nI (by omega) (by omega)) d_C_covers_82 ?_
        rw [nI_clamp (show w < 2 ^ 31 by omega)]
        refine lv_aload_n hx hb d_C_covers_83 rfl (lv_at hl 3 rfl) ?_
        refine va_get (D := (dC, dI)) (ci := 0) (v := .ref (aa 3)) (C := R_C) (T := F_C) (N := 5) hx hb hts i_C hown hK hP 0 rfl rfl 2 (by decide) (hts _ fl_C_26) (fun _ h9 => h9) rfl d_C_covers_84 ?_
        refine va_get (D := (dC, dI)) (ci := 5) (v := .ref (aa 12)) (C := R_W) (T := F_W) (N := 8) hx hb hts i_W hown hK hP 3 rfl rfl 4 (by decide) (hts _ fl_C_111) (fun _ h9 => h9) rfl d_C_covers_87 ?_
        refine lv_iload_n hx hb d_C_covers_90 rfl (lv_at hl 4 rfl) ?_
        refine va_iald hx hb hK hP 12 0 rfl rfl (vp_in_nI (by omega) (by omega)) d_C_covers_91 ?_
        rw [nI_clamp (show w < 2 ^ 31 by omega)]
        refine va_mmax hx hb (by rw [hml]; exact hl.1.symm) hown (hts _ ml_C_305) (hts _ st_Math_maxIII) (hts _ ini_Math) (hts _ co_Math_maxIII) (Nat.le_of_ble_eq_true rfl) (Nat.le_of_ble_eq_true rfl) (Nat.zero_le _) (Nat.zero_le _) d_C_covers_92 ?_
        refine lv_iload hx hb d_C_covers_95 (lv_at hl 1 rfl) ?_
        refine lv_iadd hx hb d_C_covers_97 ?_
        refine lv_icmp_gt (tgt := 161) hx hb d_C_covers_98 (by decide) (fun c_98 => ?_) (fun c_98 => ?_)
        · refine lv_iconst (v := 0) hx hb d_C_covers_161 (by decide) ?_
          have er : (bI (coB vv w x y)) = 0 := by simp only [coB, miI, maI, bI, a15, decide_eq_true c_15, decide_eq_true c_34, decide_eq_false c_70, decide_eq_true c_98, Bool.not_true, Bool.not_false, Bool.and_true, Bool.true_and, Bool.false_and, Bool.and_false, Bool.or_true, Bool.true_or, Bool.or_false, Bool.false_or, if_true, if_false, Bool.false_eq_true, Bool.true_eq_false]
          exact W.zret (v := 0) hx hb hr rfl (fun t ht hW => ⟨by rw [er], ht⟩) (fun q h => by cases h) d_C_covers_162
        · refine lv_iload_n hx hb d_C_covers_101 rfl (lv_at hl 6 rfl) ?_
          refine lv_aload_n hx hb d_C_covers_102 rfl (lv_at hl 3 rfl) ?_
          refine va_get (D := (dC, dI)) (ci := 0) (v := .ref (aa 3)) (C := R_C) (T := F_C) (N := 5) hx hb hts i_C hown hK hP 0 rfl rfl 2 (by decide) (hts _ fl_C_26) (fun _ h9 => h9) rfl d_C_covers_103 ?_
          refine va_get (D := (dC, dI)) (ci := 5) (v := .ref (aa 11)) (C := R_W) (T := F_W) (N := 8) hx hb hts i_W hown hK hP 3 rfl rfl 3 (by decide) (hts _ fl_C_108) (fun _ h9 => h9) rfl d_C_covers_106 ?_
          refine lv_iload_n hx hb d_C_covers_109 rfl (lv_at hl 4 rfl) ?_
          refine va_iald hx hb hK hP 11 0 rfl rfl (vp_in_nI (by omega) (by omega)) d_C_covers_110 ?_
          rw [nI_clamp (show w < 2 ^ 31 by omega)]
          refine lv_aload_n hx hb d_C_covers_111 rfl (lv_at hl 3 rfl) ?_
          refine va_get (D := (dC, dI)) (ci := 0) (v := .ref (aa 3)) (C := R_C) (T := F_C) (N := 5) hx hb hts i_C hown hK hP 0 rfl rfl 2 (by decide) (hts _ fl_C_26) (fun _ h9 => h9) rfl d_C_covers_112 ?_
          refine va_get (D := (dC, dI)) (ci := 5) (v := .ref (aa 13)) (C := R_W) (T := F_W) (N := 8) hx hb hts i_W hown hK hP 3 rfl rfl 5 (by decide) (hts _ fl_C_114) (fun _ h9 => h9) rfl d_C_covers_115 ?_
          refine lv_iload_n hx hb d_C_covers_118 rfl (lv_at hl 4 rfl) ?_
          refine va_iald hx hb hK hP 13 0 rfl rfl (vp_in_nI (by omega) (by omega)) d_C_covers_119 ?_
          rw [nI_clamp (show w < 2 ^ 31 by omega)]
          refine va_mmin hx hb (by rw [hml]; exact hl.1.symm) hown (hts _ ml_C_291) (hts _ st_Math_minIII) (hts _ ini_Math) (hts _ co_Math_minIII) (Nat.le_of_ble_eq_true rfl) (Nat.le_of_ble_eq_true rfl) (Nat.zero_le _) (Nat.zero_le _) d_C_covers_120 ?_
          refine lv_iload hx hb d_C_covers_123 (lv_at hl 0 rfl) ?_
          refine lv_isub hx hb d_C_covers_125 ?_
          refine lv_icmp_lt (tgt := 161) hx hb d_C_covers_126 (by decide) (fun c_126 => ?_) (fun c_126 => ?_)
          · refine lv_iconst (v := 0) hx hb d_C_covers_161 (by decide) ?_
            have er : (bI (coB vv w x y)) = 0 := by simp only [coB, miI, maI, bI, a15, decide_eq_true c_15, decide_eq_true c_34, decide_eq_false c_70, decide_eq_false c_98, decide_eq_true c_126, Bool.not_true, Bool.not_false, Bool.and_true, Bool.true_and, Bool.false_and, Bool.and_false, Bool.or_true, Bool.true_or, Bool.or_false, Bool.false_or, if_true, if_false, Bool.false_eq_true, Bool.true_eq_false]
            exact W.zret (v := 0) hx hb hr rfl (fun t ht hW => ⟨by rw [er], ht⟩) (fun q h => by cases h) d_C_covers_162
          · refine lv_iload_n hx hb d_C_covers_129 rfl (lv_at hl 6 rfl) ?_
            refine lv_aload_n hx hb d_C_covers_130 rfl (lv_at hl 3 rfl) ?_
            refine va_get (D := (dC, dI)) (ci := 0) (v := .ref (aa 3)) (C := R_C) (T := F_C) (N := 5) hx hb hts i_C hown hK hP 0 rfl rfl 2 (by decide) (hts _ fl_C_26) (fun _ h9 => h9) rfl d_C_covers_131 ?_
            refine va_get (D := (dC, dI)) (ci := 5) (v := .ref (aa 11)) (C := R_W) (T := F_W) (N := 8) hx hb hts i_W hown hK hP 3 rfl rfl 3 (by decide) (hts _ fl_C_108) (fun _ h9 => h9) rfl d_C_covers_134 ?_
            refine lv_iload_n hx hb d_C_covers_137 rfl (lv_at hl 4 rfl) ?_
            refine va_iald hx hb hK hP 11 0 rfl rfl (vp_in_nI (by omega) (by omega)) d_C_covers_138 ?_
            rw [nI_clamp (show w < 2 ^ 31 by omega)]
            refine lv_aload_n hx hb d_C_covers_139 rfl (lv_at hl 3 rfl) ?_
            refine va_get (D := (dC, dI)) (ci := 0) (v := .ref (aa 3)) (C := R_C) (T := F_C) (N := 5) hx hb hts i_C hown hK hP 0 rfl rfl 2 (by decide) (hts _ fl_C_26) (fun _ h9 => h9) rfl d_C_covers_140 ?_
            refine va_get (D := (dC, dI)) (ci := 5) (v := .ref (aa 13)) (C := R_W) (T := F_W) (N := 8) hx hb hts i_W hown hK hP 3 rfl rfl 5 (by decide) (hts _ fl_C_114) (fun _ h9 => h9) rfl d_C_covers_143 ?_
            refine lv_iload_n hx hb d_C_covers_146 rfl (lv_at hl 4 rfl) ?_
            refine va_iald hx hb hK hP 13 0 rfl rfl (vp_in_nI (by omega) (by omega)) d_C_covers_147 ?_
            rw [nI_clamp (show w < 2 ^ 31 by omega)]
            refine va_mmax hx hb (by rw [hml]; exact hl.1.symm) hown (hts _ ml_C_305) (hts _ st_Math_maxIII) (hts _ ini_Math) (hts _ co_Math_maxIII) (Nat.le_of_ble_eq_true rfl) (Nat.le_of_ble_eq_true rfl) (Nat.zero_le _) (Nat.zero_le _) d_C_covers_148 ?_
            refine lv_iload hx hb d_C_covers_151 (lv_at hl 0 rfl) ?_
            refine lv_iadd hx hb d_C_covers_153 ?_
            refine lv_icmp_gt (tgt := 161) hx hb d_C_covers_154 (by decide) (fun c_154 => ?_) (fun c_154 => ?_)
            · refine lv_iconst (v := 0) hx hb d_C_covers_161 (by decide) ?_
              have er : (bI (coB vv w x y)) = 0 := by simp only [coB, miI, maI, bI, a15, decide_eq_true c_15, decide_eq_true c_34, decide_eq_false c_70, decide_eq_false c_98, decide_eq_false c_126, decide_eq_true c_154, Bool.not_true, Bool.not_false, Bool.and_true, Bool.true_and, Bool.false_and, Bool.and_false, Bool.or_true, Bool.true_or, Bool.or_false, Bool.false_or, if_true, if_false, Bool.false_eq_true, Bool.true_eq_false]
              exact W.zret (v := 0) hx hb hr rfl (fun t ht hW => ⟨by rw [er], ht⟩) (fun q h => by cases h) d_C_covers_162
            · refine lv_iconst (v := 1) hx hb d_C_covers_157 (by decide) ?_
              refine lv_goto (tgt := 162) hx hb d_C_covers_158 (by decide) ?_
              have er : (bI (coB vv w x y)) = 1 := by simp only [coB, miI, maI, bI, a15, decide_eq_true c_15, decide_eq_true c_34, decide_eq_false c_70, decide_eq_false c_98, decide_eq_false c_126, decide_eq_false c_154, Bool.not_true, Bool.not_false, Bool.and_true, Bool.true_and, Bool.false_and, Bool.and_false, Bool.or_true, Bool.true_or, Bool.or_false, Bool.false_or, if_true, if_false, Bool.false_eq_true, Bool.true_eq_false]
              exact W.zret (v := 1) hx hb hr rfl (fun t ht hW => ⟨by rw [er], ht⟩) (fun q h => by cases h) d_C_covers_162
    · exact absurd c_34 (fun h => h c_15)
  · have a15 : alX vv w = true := bI_n0.mp c_15
    refine lv_iconst (v := 0) hx hb d_C_covers_18 (by decide) ?_
    refine lv_goto (tgt := 24) hx hb d_C_covers_19 (by decide) ?_
    refine lv_istore (lv' := [(5, .int 0), (4, .int (haC vv w)), (0, .ref (aa 0)), (1, .int (nI w)), (2, .int x), (3, .int y)]) hx hb d_C_covers_24 hl (by decide) rfl (fun ls hl => ?_)
    refine lv_aload_n hx hb d_C_covers_26 rfl (lv_at hl 2 rfl) ?_
    refine va_get (D := (dC, dI)) (ci := 0) (v := .ref (aa 3)) (C := R_C) (T := F_C) (N := 5) hx hb hts i_C hown hK hP 0 rfl rfl 2 (by decide) (hts _ fl_C_26) (fun _ h9 => h9) rfl d_C_covers_27 ?_
    refine lv_iload_n hx hb d_C_covers_30 rfl (lv_at hl 3 rfl) ?_
    refine cR (W.runV (As := [.int (nI w)]) (rest := []) ⟨hx, hb, hml, hown, hts⟩ (c_W_goesAlongX hP (show w < 40 by omega)) (cwV 1 hts (wB_goodV (fun _ h => h) ml_C_302 im_W_goesAlongX se_W_goesAlongX ini_W co_W_goesAlongX) rfl rfl rfl (by decide +kernel) ⟨Nat.le_of_ble_eq_true rfl, Nat.le_of_ble_eq_true rfl⟩) (pV hK hP (ci := 5) (q0 := 3) rfl rfl _) rfl rfl hl.1 rfl (lv_room (Nat.le_of_ble_eq_true rfl)) d_C_covers_31 ⟨Nat.zero_le _, Nat.zero_le _⟩) ?_
    refine lv_if_eq (tgt := 42) hx hb d_C_covers_34 (by decide) (fun c_34 => ?_) (fun c_34 => ?_)
    · exact absurd c_34 (c_15)
    · refine lv_iload hx hb d_C_covers_37 (lv_at hl 1 rfl) ?_
      refine lv_goto (tgt := 43) hx hb d_C_covers_39 (by decide) ?_
      refine lv_istore (lv' := [(6, .int (haC vv w)), (5, .int 0), (4, .int (haC vv w)), (0, .ref (aa 0)), (1, .int (nI w)), (2, .int x), (3, .int y)]) hx hb d_C_covers_43 hl (by decide) rfl (fun ls hl => ?_)
      refine lv_iload_n hx hb d_C_covers_45 rfl (lv_at hl 5 rfl) ?_
      refine lv_aload_n hx hb d_C_covers_46 rfl (lv_at hl 3 rfl) ?_
      refine va_get (D := (dC, dI)) (ci := 0) (v := .ref (aa 3)) (C := R_C) (T := F_C) (N := 5) hx hb hts i_C hown hK hP 0 rfl rfl 2 (by decide) (hts _ fl_C_26) (fun _ h9 => h9) rfl d_C_covers_47 ?_
      refine va_get (D := (dC, dI)) (ci := 5) (v := .ref (aa 10)) (C := R_W) (T := F_W) (N := 8) hx hb hts i_W hown hK hP 3 rfl rfl 2 (by decide) (hts _ fl_C_105) (fun _ h9 => h9) rfl d_C_covers_50 ?_
      refine lv_iload_n hx hb d_C_covers_53 rfl (lv_at hl 4 rfl) ?_
      refine va_iald hx hb hK hP 10 0 rfl rfl (vp_in_nI (by omega) (by omega)) d_C_covers_54 ?_
      rw [nI_clamp (show w < 2 ^ 31 by omega)]
      refine lv_aload_n hx hb d_C_covers_55 rfl (lv_at hl 3 rfl) ?_
      refine va_get (D := (dC, dI)) (ci := 0) (v := .ref (aa 3)) (C := R_C) (T := F_C) (N := 5) hx hb hts i_C hown hK hP 0 rfl rfl 2 (by decide) (hts _ fl_C_26) (fun _ h9 => h9) rfl d_C_covers_56 ?_
      refine va_get (D := (dC, dI)) (ci := 5) (v := .ref (aa 12)) (C := R_W) (T := F_W) (N := 8) hx hb hts i_W hown hK hP 3 rfl rfl 4 (by decide) (hts _ fl_C_111) (fun _ h9 => h9) rfl d_C_covers_59 ?_
      refine lv_iload_n hx hb d_C_covers_62 rfl (lv_at hl 4 rfl) ?_
      refine va_iald hx hb hK hP 12 0 rfl rfl (vp_in_nI (by omega) (by omega)) d_C_covers_63 ?_
      rw [nI_clamp (show w < 2 ^ 31 by omega)]
      refine va_mmin hx hb (by rw [hml]; exact hl.1.symm) hown (hts _ ml_C_291) (hts _ st_Math_minIII) (hts _ ini_Math) (hts _ co_Math_minIII) (Nat.le_of_ble_eq_true rfl) (Nat.le_of_ble_eq_true rfl) (Nat.zero_le _) (Nat.zero_le _) d_C_covers_64 ?_
      refine lv_iload hx hb d_C_covers_67 (lv_at hl 1 rfl) ?_
      refine lv_isub hx hb d_C_covers_69 ?_
      refine lv_icmp_lt (tgt := 161) hx hb d_C_covers_70 (by decide) (fun c_70 => ?_) (fun c_70 => ?_)
      · refine lv_iconst (v := 0) hx hb d_C_covers_161 (by decide) ?_
        have er : (bI (coB vv w x y)) = 0 := by simp only [coB, miI, maI, bI, a15, decide_eq_false c_15, decide_eq_false c_34, decide_eq_true c_70, Bool.not_true, Bool.not_false, Bool.and_true, Bool.true_and, Bool.false_and, Bool.and_false, Bool.or_true, Bool.true_or, Bool.or_false, Bool.false_or, if_true, if_false, Bool.false_eq_true, Bool.true_eq_false]
        exact W.zret (v := 0) hx hb hr rfl (fun t ht hW => ⟨by rw [er], ht⟩) (fun q h => by cases h) d_C_covers_162
      · refine lv_iload_n hx hb d_C_covers_73 rfl (lv_at hl 5 rfl) ?_
        refine lv_aload_n hx hb d_C_covers_74 rfl (lv_at hl 3 rfl) ?_
        refine va_get (D := (dC, dI)) (ci := 0) (v := .ref (aa 3)) (C := R_C) (T := F_C) (N := 5) hx hb hts i_C hown hK hP 0 rfl rfl 2 (by decide) (hts _ fl_C_26) (fun _ h9 => h9) rfl d_C_covers_75 ?_
        refine va_get (D := (dC, dI)) (ci := 5) (v := .ref (aa 10)) (C := R_W) (T := F_W) (N := 8) hx hb hts i_W hown hK hP 3 rfl rfl 2 (by decide) (hts _ fl_C_105) (fun _ h9 => h9) rfl d_C_covers_78 ?_
        refine lv_iload_n hx hb d_C_covers_81 rfl (lv_at hl 4 rfl) ?_
        refine va_iald hx hb hK hP 10 0 rfl rfl (vp_in_nI (by omega) (by omega)) d_C_covers_82 ?_
        rw [nI_clamp (show w < 2 ^ 31 by omega)]
        refine lv_aload_n hx hb d_C_covers_83 rfl (lv_at hl 3 rfl) ?_
        refine va_get (D := (dC, dI)) (ci := 0) (v := .ref (aa 3)) (C := R_C) (T := F_C) (N := 5) hx hb hts i_C hown hK hP 0 rfl rfl 2 (by decide) (hts _ fl_C_26) (fun _ h9 => h9) rfl d_C_covers_84 ?_
        refine va_get (D := (dC, dI)) (ci := 5) (v := .ref (aa 12)) (C := R_W) (T := F_W) (N := 8) hx hb hts i_W hown hK hP 3 rfl rfl 4 (by decide) (hts _ fl_C_111) (fun _ h9 => h9) rfl d_C_covers_87 ?_
        refine lv_iload_n hx hb d_C_covers_90 rfl (lv_at hl 4 rfl) ?_
        refine va_iald hx hb hK hP 12 0 rfl rfl (vp_in_nI (by omega) (by omega)) d_C_covers_91 ?_
        rw [nI_clamp (show w < 2 ^ 31 by omega)]
        refine va_mmax hx hb (by rw [hml]; exact hl.1.symm) hown (hts _ ml_C_305) (hts _ st_Math_maxIII) (hts _ ini_Math) (hts _ co_Math_maxIII) (Nat.le_of_ble_eq_true rfl) (Nat.le_of_ble_eq_true rfl) (Nat.zero_le _) (Nat.zero_le _) d_C_covers_92 ?_
        refine lv_iload hx hb d_C_covers_95 (lv_at hl 1 rfl) ?_
        refine lv_iadd hx hb d_C_covers_97 ?_
        refine lv_icmp_gt (tgt := 161) hx hb d_C_covers_98 (by decide) (fun c_98 => ?_) (fun c_98 => ?_)
        · refine lv_iconst (v := 0) hx hb d_C_covers_161 (by decide) ?_
          have er : (bI (coB vv w x y)) = 0 := by simp only [coB, miI, maI, bI, a15, decide_eq_false c_15, decide_eq_false c_34, decide_eq_false c_70, decide_eq_true c_98, Bool.not_true, Bool.not_false, Bool.and_true, Bool.true_and, Bool.false_and, Bool.and_false, Bool.or_true, Bool.true_or, Bool.or_false, Bool.false_or, if_true, if_false, Bool.false_eq_true, Bool.true_eq_false]
          exact W.zret (v := 0) hx hb hr rfl (fun t ht hW => ⟨by rw [er], ht⟩) (fun q h => by cases h) d_C_covers_162
        · refine lv_iload_n hx hb d_C_covers_101 rfl (lv_at hl 6 rfl) ?_
          refine lv_aload_n hx hb d_C_covers_102 rfl (lv_at hl 3 rfl) ?_
          refine va_get (D := (dC, dI)) (ci := 0) (v := .ref (aa 3)) (C := R_C) (T := F_C) (N := 5) hx hb hts i_C hown hK hP 0 rfl rfl 2 (by decide) (hts _ fl_C_26) (fun _ h9 => h9) rfl d_C_covers_103 ?_
          refine va_get (D := (dC, dI)) (ci := 5) (v := .ref (aa 11)) (C := R_W) (T := F_W) (N := 8) hx hb hts i_W hown hK hP 3 rfl rfl 3 (by decide) (hts _ fl_C_108) (fun _ h9 => h9) rfl d_C_covers_106 ?_
          refine lv_iload_n hx hb d_C_covers_109 rfl (lv_at hl 4 rfl) ?_
          refine va_iald hx hb hK hP 11 0 rfl rfl (vp_in_nI (by omega) (by omega)) d_C_covers_110 ?_
          rw [nI_clamp (show w < 2 ^ 31 by omega)]
          refine lv_aload_n hx hb d_C_covers_111 rfl (lv_at hl 3 rfl) ?_
          refine va_get (D := (dC, dI)) (ci := 0) (v := .ref (aa 3)) (C := R_C) (T := F_C) (N := 5) hx hb hts i_C hown hK hP 0 rfl rfl 2 (by decide) (hts _ fl_C_26) (fun _ h9 => h9) rfl d_C_covers_112 ?_
          refine va_get (D := (dC, dI)) (ci := 5) (v := .ref (aa 13)) (C := R_W) (T := F_W) (N := 8) hx hb hts i_W hown hK hP 3 rfl rfl 5 (by decide) (hts _ fl_C_114) (fun _ h9 => h9) rfl d_C_covers_115 ?_
          refine lv_iload_n hx hb d_C_covers_118 rfl (lv_at hl 4 rfl) ?_
          refine va_iald hx hb hK hP 13 0 rfl rfl (vp_in_nI (by omega) (by omega)) d_C_covers_119 ?_
          rw [nI_clamp (show w < 2 ^ 31 by omega)]
          refine va_mmin hx hb (by rw [hml]; exact hl.1.symm) hown (hts _ ml_C_291) (hts _ st_Math_minIII) (hts _ ini_Math) (hts _ co_Math_minIII) (Nat.le_of_ble_eq_true rfl) (Nat.le_of_ble_eq_true rfl) (Nat.zero_le _) (Nat.zero_le _) d_C_covers_120 ?_
          refine lv_iload hx hb d_C_covers_123 (lv_at hl 0 rfl) ?_
          refine lv_isub hx hb d_C_covers_125 ?_
          refine lv_icmp_lt (tgt := 161) hx hb d_C_covers_126 (by decide) (fun c_126 => ?_) (fun c_126 => ?_)
          · refine lv_iconst (v := 0) hx hb d_C_covers_161 (by decide) ?_
            have er : (bI (coB vv w x y)) = 0 := by simp only [coB, miI, maI, bI, a15, decide_eq_false c_15, decide_eq_false c_34, decide_eq_false c_70, decide_eq_false c_98, decide_eq_true c_126, Bool.not_true, Bool.not_false, Bool.and_true, Bool.true_and, Bool.false_and, Bool.and_false, Bool.or_true, Bool.true_or, Bool.or_false, Bool.false_or, if_true, if_false, Bool.false_eq_true, Bool.true_eq_false]
            exact W.zret (v := 0) hx hb hr rfl (fun t ht hW => ⟨by rw [er], ht⟩) (fun q h => by cases h) d_C_covers_162
          · refine lv_iload_n hx hb d_C_covers_129 rfl (lv_at hl 6 rfl) ?_
            refine lv_aload_n hx hb d_C_covers_130 rfl (lv_at hl 3 rfl) ?_
            refine va_get (D := (dC, dI)) (ci := 0) (v := .ref (aa 3)) (C := R_C) (T := F_C) (N := 5) hx hb hts i_C hown hK hP 0 rfl rfl 2 (by decide) (hts _ fl_C_26) (fun _ h9 => h9) rfl d_C_covers_131 ?_
            refine va_get (D := (dC, dI)) (ci := 5) (v := .ref (aa 11)) (C := R_W) (T := F_W) (N := 8) hx hb hts i_W hown hK hP 3 rfl rfl 3 (by decide) (hts _ fl_C_108) (fun _ h9 => h9) rfl d_C_covers_134 ?_
            refine lv_iload_n hx hb d_C_covers_137 rfl (lv_at hl 4 rfl) ?_
            refine va_iald hx hb hK hP 11 0 rfl rfl (vp_in_nI (by omega) (by omega)) d_C_covers_138 ?_
            rw [nI_clamp (show w < 2 ^ 31 by omega)]
            refine lv_aload_n hx hb d_C_covers_139 rfl (lv_at hl 3 rfl) ?_
            refine va_get (D := (dC, dI)) (ci := 0) (v := .ref (aa 3)) (C := R_C) (T := F_C) (N := 5) hx hb hts i_C hown hK hP 0 rfl rfl 2 (by decide) (hts _ fl_C_26) (fun _ h9 => h9) rfl d_C_covers_140 ?_
            refine va_get (D := (dC, dI)) (ci := 5) (v := .ref (aa 13)) (C := R_W) (T := F_W) (N := 8) hx hb hts i_W hown hK hP 3 rfl rfl 5 (by decide) (hts _ fl_C_114) (fun _ h9 => h9) rfl d_C_covers_143 ?_
            refine lv_iload_n hx hb d_C_covers_146 rfl (lv_at hl 4 rfl) ?_
            refine va_iald hx hb hK hP 13 0 rfl rfl (vp_in_nI (by omega) (by omega)) d_C_covers_147 ?_
            rw [nI_clamp (show w < 2 ^ 31 by omega)]
            refine va_mmax hx hb (by rw [hml]; exact hl.1.symm) hown (hts _ ml_C_305) (hts _ st_Math_maxIII) (hts _ ini_Math) (hts _ co_Math_maxIII) (Nat.le_of_ble_eq_true rfl) (Nat.le_of_ble_eq_true rfl) (Nat.zero_le _) (Nat.zero_le _) d_C_covers_148 ?_
            refine lv_iload hx hb d_C_covers_151 (lv_at hl 0 rfl) ?_
            refine lv_iadd hx hb d_C_covers_153 ?_
            refine lv_icmp_gt (tgt := 161) hx hb d_C_covers_154 (by decide) (fun c_154 => ?_) (fun c_154 => ?_)
            · refine lv_iconst (v := 0) hx hb d_C_covers_161 (by decide) ?_
              have er : (bI (coB vv w x y)) = 0 := by simp only [coB, miI, maI, bI, a15, decide_eq_false c_15, decide_eq_false c_34, decide_eq_false c_70, decide_eq_false c_98, decide_eq_false c_126, decide_eq_true c_154, Bool.not_true, Bool.not_false, Bool.and_true, Bool.true_and, Bool.false_and, Bool.and_false, Bool.or_true, Bool.true_or, Bool.or_false, Bool.false_or, if_true, if_false, Bool.false_eq_true, Bool.true_eq_false]
              exact W.zret (v := 0) hx hb hr rfl (fun t ht hW => ⟨by rw [er], ht⟩) (fun q h => by cases h) d_C_covers_162
            · refine lv_iconst (v := 1) hx hb d_C_covers_157 (by decide) ?_
              refine lv_goto (tgt := 162) hx hb d_C_covers_158 (by decide) ?_
              have er : (bI (coB vv w x y)) = 1 := by simp only [coB, miI, maI, bI, a15, decide_eq_false c_15, decide_eq_false c_34, decide_eq_false c_70, decide_eq_false c_98, decide_eq_false c_126, decide_eq_false c_154, Bool.not_true, Bool.not_false, Bool.and_true, Bool.true_and, Bool.false_and, Bool.and_false, Bool.or_true, Bool.true_or, Bool.or_false, Bool.false_or, if_true, if_false, Bool.false_eq_true, Bool.true_eq_false]
              exact W.zret (v := 1) hx hb hr rfl (fun t ht hW => ⟨by rw [er], ht⟩) (fun q h => by cases h) d_C_covers_162
end
end
section
section
variable {l : Launch} {dC : Nat → ClassId} {dI : Nat → Nat → Nat} {H : Heap} {aa : Nat → Nat} {cI cZ cJ : ClassId} {kn : Nat → Int32} {vv : Nat → Nat → Int32} {nn : Nat → Nat}
set_option maxRecDepth 100000 in
set_option maxHeartbeats 4000000 in
theorem c_W_shift (hP : va_P (dC, dI) classes (wC aa cI cZ kn vv) H) (hdD : dD noT aa 22) {w : Nat} (hw : w < 40) (x y : Int32) : Met l y_W_shift (wB y_W_shift b_W_shift 4 none) ({ frames := 0, cells := 0, slots := 0, locals := 0 } : Room) (rP [.ref (aa 3), .int (nI w), .int x, .int y] H (kK dC dI cI cZ cJ)) (qW none (aN aa 22) (fun H1 => va_P (dC, dI) classes (wC aa cI cZ kn (shV vv w x y)) H1)) 0 0 (aN aa 22) := by
  refine Met.ofW (cc := b_W_shift) (maxL := 4) (ret := none) (by decide) rfl ?_
  intro p e s m args below meth c s₁ B hml hv
  obtain ⟨rfl, rfl, hK⟩ := hv
  have hx := B.exec
  have hb := B.bytes
  have hr := B.returns
  have hts0 := atoms_spec (ws := (wB y_W_shift b_W_shift 4 none)) B.pre
  have hts : ∀ w9 ∈ BG, w9.before [.ref (aa 3), .int (nI w), .int x, .int y].toArray s = true := fun w9 hw9 => hts0 w9 (List.mem_cons_of_mem _ hw9)
  have hown : s.vm.findClass R_W = some m.cls := findClass_of_methodNamed B.named
  have hlocks := B.notSynchronized
  have hK : va_K (dC, dI) classes [(cI, .int), (cZ, .boolean), (cJ, .long)] s := hK
  have hD : va_D (aN aa 22) (wC aa cI cZ kn vv) := wC_D (dD_aN hdD)
  have hS : va_S (aN aa 22) s.heap s.heap [] := va_S.rf
  have hl := lv_entry ([.ref (aa 3), .int (nI w), .int x, .int y]) (n := 4) (Nat.le_of_ble_eq_true rfl)
  rw [lg_entry_eq]
  generalize (lg_sl ([.ref (aa 3), .int (nI w), .int x, .int y]) ++ List.replicate (4 - (lg_sl ([.ref (aa 3), .int (nI w), .int x, .int y])).length) Slot.unset).toArray = ls at hl ⊢
  have hl : lv_has ls 4 [(0, .ref (aa 3)), (1, .int (nI w)), (2, .int x), (3, .int y)] := hl
  refine lv_aload_n hx hb d_W_shift_0 rfl (lv_at hl 0 rfl) ?_
  refine va_get (D := (dC, dI)) (ci := 5) (v := .ref (aa 10)) (C := R_W) (T := F_W) (N := 8) hx hb hts i_W hown hK hP 3 rfl rfl 2 (by decide) (hts _ fl_W_18) (fun _ h9 => h9) rfl d_W_shift_1 ?_
  refine lv_iload_n hx hb d_W_shift_4 rfl (lv_at hl 1 rfl) ?_
  refine lv_dup2_11 hx hb d_W_shift_5 rfl rfl ?_
  refine va_iald hx hb hK hP 10 0 rfl rfl (vp_in_nI (by omega) (by omega)) d_W_shift_6 ?_
  rw [nI_clamp (show w < 2 ^ 31 by omega)]
  refine lv_iload_n hx hb d_W_shift_7 rfl (lv_at hl 2 rfl) ?_
  refine lv_iadd hx hb d_W_shift_8 ?_
  refine va_iast hx hb hK hP hD hS 10 0 rfl rfl (vp_in_nI (by omega) (by omega)) d_W_shift_9 (fun H locs hP hD hS => ?_)
  rw [nI_clamp (show w < 2 ^ 31 by omega)] at hP hD
  have hP : va_P (dC, dI) classes (wC aa cI cZ kn (va_up vv 4 (upd (vv 4) w (((vv 4) w) + x)))) H := hP
  have hD : va_D (aN aa 22) (wC aa cI cZ kn (va_up vv 4 (upd (vv 4) w (((vv 4) w) + x)))) := hD
  refine lv_aload_n hx hb d_W_shift_10 rfl (lv_at hl 0 rfl) ?_
  refine va_get (D := (dC, dI)) (ci := 5) (v := .ref (aa 11)) (C := R_W) (T := F_W) (N := 8) hx hb hts i_W hown hK hP 3 rfl rfl 3 (by decide) (hts _ fl_W_21) (fun _ h9 => h9) rfl d_W_shift_11 ?_
  refine lv_iload_n hx hb d_W_shift_14 rfl (lv_at hl 1 rfl) ?_
  refine lv_dup2_11 hx hb d_W_shift_15 rfl rfl ?_
  refine va_iald hx hb hK hP 11 0 rfl rfl (vp_in_nI (by omega) (by omega)) d_W_shift_16 ?_
  rw [nI_clamp (show w < 2 ^ 31 by omega)]
  refine lv_iload_n hx hb d_W_shift_17 rfl (lv_at hl 3 rfl) ?_
  refine lv_iadd hx hb d_W_shift_18 ?_
  refine va_iast hx hb hK hP hD hS 11 0 rfl rfl (vp_in_nI (by omega) (by omega)) d_W_shift_19 (fun H locs hP hD hS => ?_)
  rw [nI_clamp (show w < 2 ^ 31 by omega)] at hP hD
  have hP : va_P (dC, dI) classes (wC aa cI cZ kn (va_up (va_up vv 4 (upd (vv 4) w (((vv 4) w) + x))) 5 (upd (vv 5) w (((vv 5) w) + y)))) H := hP
  have hD : va_D (aN aa 22) (wC aa cI cZ kn (va_up (va_up vv 4 (upd (vv 4) w (((vv 4) w) + x))) 5 (upd (vv 5) w (((vv 5) w) + y)))) := hD
  refine lv_aload_n hx hb d_W_shift_20 rfl (lv_at hl 0 rfl) ?_
  refine va_get (D := (dC, dI)) (ci := 5) (v := .ref (aa 12)) (C := R_W) (T := F_W) (N := 8) hx hb hts i_W hown hK hP 3 rfl rfl 4 (by decide) (hts _ fl_W_24) (fun _ h9 => h9) rfl d_W_shift_21 ?_
  refine lv_iload_n hx hb d_W_shift_24 rfl (lv_at hl 1 rfl) ?_
  refine lv_dup2_11 hx hb d_W_shift_25 rfl rfl ?_
  refine va_iald hx hb hK hP 12 0 rfl rfl (vp_in_nI (by omega) (by omega)) d_W_shift_26 ?_
  rw [nI_clamp (show w < 2 ^ 31 by omega)]
  refine lv_iload_n hx hb d_W_shift_27 rfl (lv_at hl 2 rfl) ?_
  refine lv_iadd hx hb d_W_shift_28 ?_
  refine va_iast hx hb hK hP hD hS 12 0 rfl rfl (vp_in_nI (by omega) (by omega)) d_W_shift_29 (fun H locs hP hD hS => ?_)
  rw [nI_clamp (show w < 2 ^ 31 by omega)] at hP hD
  have hP : va_P (dC, dI) classes (wC aa cI cZ kn (va_up (va_up (va_up vv 4 (upd (vv 4) w (((vv 4) w) + x))) 5 (upd (vv 5) w (((vv 5) w) + y))) 6 (upd (vv 6) w (((vv 6) w) + x)))) H := hP
  have hD : va_D (aN aa 22) (wC aa cI cZ kn (va_up (va_up (va_up vv 4 (upd (vv 4) w (((vv 4) w) + x))) 5 (upd (vv 5) w (((vv 5) w) + y))) 6 (upd (vv 6) w (((vv 6) w) + x)))) := hD
  refine lv_aload_n hx hb d_W_shift_30 rfl (lv_at hl 0 rfl) ?_
  refine va_get (D := (dC, dI)) (ci := 5) (v := .ref (aa 13)) (C := R_W) (T := F_W) (N := 8) hx hb hts i_W hown hK hP 3 rfl rfl 5 (by decide) (hts _ fl_W_27) (fun _ h9 => h9) rfl d_W_shift_31 ?_
  refine lv_iload_n hx hb d_W_shift_34 rfl (lv_at hl 1 rfl) ?_
  refine lv_dup2_11 hx hb d_W_shift_35 rfl rfl ?_
  refine va_iald hx hb hK hP 13 0 rfl rfl (vp_in_nI (by omega) (by omega)) d_W_shift_36 ?_
  rw [nI_clamp (show w < 2 ^ 31 by omega)]
  refine lv_iload_n hx hb d_W_shift_37 rfl (lv_at hl 3 rfl) ?_
  refine lv_iadd hx hb d_W_shift_38 ?_
  refine va_iast hx hb hK hP hD hS 13 0 rfl rfl (vp_in_nI (by omega) (by omega)) d_W_shift_39 (fun H locs hP hD hS => ?_)
  rw [nI_clamp (show w < 2 ^ 31 by omega)] at hP hD
  have hP : va_P (dC, dI) classes (wC aa cI cZ kn (va_up (va_up (va_up (va_up vv 4 (upd (vv 4) w (((vv 4) w) + x))) 5 (upd (vv 5) w (((vv 5) w) + y))) 6 (upd (vv 6) w (((vv 6) w) + x))) 7 (upd (vv 7) w (((vv 7) w) + y)))) H := hP
  have hD : va_D (aN aa 22) (wC aa cI cZ kn (va_up (va_up (va_up (va_up vv 4 (upd (vv 4) w (((vv 4) w) + x))) 5 (upd (vv 5) w (((vv 5) w) + y))) 6 (upd (vv 6) w (((vv 6) w) + x))) 7 (upd (vv 7) w (((vv 7) w) + y)))) := hD
  have er : (none : Option Value) = none := by rfl
  have hPe : va_P (dC, dI) classes (wC aa cI cZ kn (shV vv w x y)) H := by exact hP
  exact W.vret hx hb hr (fun t ht hW => ⟨by rw [er], by rw [ht]; exact hPe, hS.F ht⟩) hS.2.2 d_W_shift_40
set_option maxRecDepth 100000 in
set_option maxHeartbeats 4000000 in
theorem c_W_writeNext (hP : va_P (dC, dI) classes (wC aa cI cZ kn vv) H) (hdD : dD noT aa 22) {r : Nat} (e2 : kn 2 = nI r) (hr2 : r < 40) (x1 x2 x3 x4 x5 x6 : Int32) : Met l y_W_writeNext (wB y_W_writeNext b_W_writeNext 7 none) ({ frames := 0, cells := 0, slots := 0, locals := 0 } : Room) (rP [.ref (aa 3), .int x1, .int x2, .int x3, .int x4, .int x5, .int x6] H (kK dC dI cI cZ cJ)) (qW none (aN aa 22) (fun H1 => va_P (dC, dI) classes (wC aa cI cZ kn (nwV vv r x1 x2 x3 x4 x5 x6)) H1)) 0 0 (aN aa 22) := by
  refine Met.ofW (cc := b_W_writeNext) (maxL := 7) (ret := none) (by decide) rfl ?_
  intro p e s m args below meth c s₁ B hml hv
  obtain ⟨rfl, rfl, hK⟩ := hv
  have hx := B.exec
  have hb := B.bytes
  have hr := B.returns
  have hts0 := atoms_spec (ws := (wB y_W_writeNext b_W_writeNext 7 none)) B.pre
  have hts : ∀ w9 ∈ BG, w9.before [.ref (aa 3), .int x1, .int x2, .int x3, .int x4, .int x5, .int x6].toArray s = true := fun w9 hw9 => hts0 w9 (List.mem_cons_of_mem _ hw9)
  have hown : s.vm.findClass R_W = some m.cls := findClass_of_methodNamed B.named
  have hlocks := B.notSynchronized
  have hK : va_K (dC, dI) classes [(cI, .int), (cZ, .boolean), (cJ, .long)] s := hK
  have hD : va_D (aN aa 22) (wC aa cI cZ kn vv) := wC_D (dD_aN hdD)
  have hS : va_S (aN aa 22) s.heap s.heap [] := va_S.rf
  have hl := lv_entry ([.ref (aa 3), .int x1, .int x2, .int x3, .int x4, .int x5, .int x6]) (n := 7) (Nat.le_of_ble_eq_true rfl)
  rw [lg_entry_eq]
  generalize (lg_sl ([.ref (aa 3), .int x1, .int x2, .int x3, .int x4, .int x5, .int x6]) ++ List.replicate (7 - (lg_sl ([.ref (aa 3), .int x1, .int x2, .int x3, .int x4, .int x5, .int x6])).length) Slot.unset).toArray = ls at hl ⊢
  have hl : lv_has ls 7 [(0, .ref (aa 3)), (1, .int x1), (2, .int x2), (3, .int x3), (4, .int x4), (5, .int x5), (6, .int x6)] := hl
  refine lv_aload_n hx hb d_W_writeNext_0 rfl (lv_at hl 0 rfl) ?_
  refine va_get (D := (dC, dI)) (ci := 5) (v := .ref (aa 8)) (C := R_W) (T := F_W) (N := 8) hx hb hts i_W hown hK hP 3 rfl rfl 0 (by decide) (hts _ fl_W_9) (fun _ h9 => h9) rfl d_W_writeNext_1 ?_
  refine lv_aload_n hx hb d_W_writeNext_4 rfl (lv_at hl 0 rfl) ?_
  refine va_get (D := (dC, dI)) (ci := 5) (v := .int (nI r)) (C := R_W) (T := F_W) (N := 8) hx hb hts i_W hown hK hP 3 rfl rfl 7 (by decide) (hts _ fl_W_34) (fun _ h9 => h9) (by rw [← e2]; rfl) d_W_writeNext_5 ?_
  refine lv_iload_n hx hb d_W_writeNext_8 rfl (lv_at hl 1 rfl) ?_
  refine va_iast hx hb hK hP hD hS 8 0 rfl rfl (vp_in_nI (by omega) (by omega)) d_W_writeNext_9 (fun H locs hP hD hS => ?_)
  rw [nI_clamp (show r < 2 ^ 31 by omega)] at hP hD
  have hP : va_P (dC, dI) classes (wC aa cI cZ kn (va_up vv 2 (upd (vv 2) r x1))) H := hP
  have hD : va_D (aN aa 22) (wC aa cI cZ kn (va_up vv 2 (upd (vv 2) r x1))) := hD
  refine lv_aload_n hx hb d_W_writeNext_10 rfl (lv_at hl 0 rfl) ?_
  refine va_get (D := (dC, dI)) (ci := 5) (v := .ref (aa 9)) (C := R_W) (T := F_W) (N := 8) hx hb hts i_W hown hK hP 3 rfl rfl 1 (by decide) (hts _ fl_W_15) (fun _ h9 => h9) rfl d_W_writeNext_11 ?_
  refine lv_aload_n hx hb d_W_writeNext_14 rfl (lv_at hl 0 rfl) ?_
  refine va_get (D := (dC, dI)) (ci := 5) (v := .int (nI r)) (C := R_W) (T := F_W) (N := 8) hx hb hts i_W hown hK hP 3 rfl rfl 7 (by decide) (hts _ fl_W_34) (fun _ h9 => h9) (by rw [← e2]; rfl) d_W_writeNext_15 ?_
  refine lv_iload_n hx hb d_W_writeNext_18 rfl (lv_at hl 2 rfl) ?_
  refine va_iast hx hb hK hP hD hS 9 0 rfl rfl (vp_in_nI (by omega) (by omega)) d_W_writeNext_19 (fun H locs hP hD hS => ?_)
  rw [nI_clamp (show r < 2 ^ 31 by omega)] at hP hD
  have hP : va_P (dC, dI) classes (wC aa cI cZ kn (va_up (va_up vv 2 (upd (vv 2) r x1)) 3 (upd (vv 3) r x2))) H := hP
  have hD : va_D (aN aa 22) (wC aa cI cZ kn (va_up (va_up vv 2 (upd (vv 2) r x1)) 3 (upd (vv 3) r x2))) := hD
  refine lv_aload_n hx hb d_W_writeNext_20 rfl (lv_at hl 0 rfl) ?_
  refine va_get (D := (dC, dI)) (ci := 5) (v := .ref (aa 10)) (C := R_W) (T := F_W) (N := 8) hx hb hts i_W hown hK hP 3 rfl rfl 2 (by decide) (hts _ fl_W_18) (fun _ h9 => h9) rfl d_W_writeNext_21 ?_
  refine lv_aload_n hx hb d_W_writeNext_24 rfl (lv_at hl 0 rfl) ?_
  refine va_get (D := (dC, dI)) (ci := 5) (v := .int (nI r)) (C := R_W) (T := F_W) (N := 8) hx hb hts i_W hown hK hP 3 rfl rfl 7 (by decide) (hts _ fl_W_34) (fun _ h9 => h9) (by rw [← e2]; rfl) d_W_writeNext_25 ?_
  refine lv_iload_n hx hb d_W_writeNext_28 rfl (lv_at hl 3 rfl) ?_
  refine va_iast hx hb hK hP hD hS 10 0 rfl rfl (vp_in_nI (by omega) (by omega)) d_W_writeNext_29 (fun H locs hP hD hS => ?_)
  rw [nI_clamp (show r < 2 ^ 31 by omega)] at hP hD
  have hP : va_P (dC, dI) classes (wC aa cI cZ kn (va_up (va_up (va_up vv 2 (upd (vv 2) r x1)) 3 (upd (vv 3) r x2)) 4 (upd (vv 4) r x3))) H := hP
  have hD : va_D (aN aa 22) (wC aa cI cZ kn (va_up (va_up (va_up vv 2 (upd (vv 2) r x1)) 3 (upd (vv 3) r x2)) 4 (upd (vv 4) r x3))) := hD
  refine lv_aload_n hx hb d_W_writeNext_30 rfl (lv_at hl 0 rfl) ?_
  refine va_get (D := (dC, dI)) (ci := 5) (v := .ref (aa 11)) (C := R_W) (T := F_W) (N := 8) hx hb hts i_W hown hK hP 3 rfl rfl 3 (by decide) (hts _ fl_W_21) (fun _ h9 => h9) rfl d_W_writeNext_31 ?_
  refine lv_aload_n hx hb d_W_writeNext_34 rfl (lv_at hl 0 rfl) ?_
  refine va_get (D := (dC, dI)) (ci := 5) (v := .int (nI r)) (C := R_W) (T := F_W) (N := 8) hx hb hts i_W hown hK hP 3 rfl rfl 7 (by decide) (hts _ fl_W_34) (fun _ h9 => h9) (by rw [← e2]; rfl) d_W_writeNext_35 ?_
  refine lv_iload hx hb d_W_writeNext_38 (lv_at hl 4 rfl) ?_
  refine va_iast hx hb hK hP hD hS 11 0 rfl rfl (vp_in_nI (by omega) (by omega)) d_W_writeNext_40 (fun H locs hP hD hS => ?_)
  rw [nI_clamp (show r < 2 ^ 31 by omega)] at hP hD
  have hP : va_P (dC, dI) classes (wC aa cI cZ kn (va_up (va_up (va_up (va_up vv 2 (upd (vv 2) r x1)) 3 (upd (vv 3) r x2)) 4 (upd (vv 4) r x3)) 5 (upd (vv 5) r x4))) H := hP
  have hD : va_D (aN aa 22) (wC aa cI cZ kn (va_up (va_up (va_up (va_up vv 2 (upd (vv 2) r x1)) 3 (upd (vv 3) r x2)) 4 (upd (vv 4) r x3)) 5 (upd (vv 5) r x4))) := hD
  refine lv_aload_n hx hb d_W_writeNext_41 rfl (lv_at hl 0 rfl) ?_
  refine va_get (D := (dC, dI)) (ci := 5) (v := .ref (aa 12)) (C := R_W) (T := F_W) (N := 8) hx hb hts i_W hown hK hP 3 rfl rfl 4 (by decide) (hts _ fl_W_24) (fun _ h9 => h9) rfl d_W_writeNext_42 ?_
  refine lv_aload_n hx hb d_W_writeNext_45 rfl (lv_at hl 0 rfl) ?_
  refine va_get (D := (dC, dI)) (ci := 5) (v := .int (nI r)) (C := R_W) (T := F_W) (N := 8) hx hb hts i_W hown hK hP 3 rfl rfl 7 (by decide) (hts _ fl_W_34) (fun _ h9 => h9) (by rw [← e2]; rfl) d_W_writeNext_46 ?_
  refine lv_iload hx hb d_W_writeNext_49 (lv_at hl 5 rfl) ?_
  refine va_iast hx hb hK hP hD hS 12 0 rfl rfl (vp_in_nI (by omega) (by omega)) d_W_writeNext_51 (fun H locs hP hD hS => ?_)
  rw [nI_clamp (show r < 2 ^ 31 by omega)] at hP hD
  have hP : va_P (dC, dI) classes (wC aa cI cZ kn (va_up (va_up (va_up (va_up (va_up vv 2 (upd (vv 2) r x1)) 3 (upd (vv 3) r x2)) 4 (upd (vv 4) r x3)) 5 (upd (vv 5) r x4)) 6 (upd (vv 6) r x5))) H := hP
  have hD : va_D (aN aa 22) (wC aa cI cZ kn (va_up (va_up (va_up (va_up (va_up vv 2 (upd (vv 2) r x1)) 3 (upd (vv 3) r x2)) 4 (upd (vv 4) r x3)) 5 (upd (vv 5) r x4)) 6 (upd (vv 6) r x5))) := hD
  refine lv_aload_n hx hb d_W_writeNext_52 rfl (lv_at hl 0 rfl) ?_
  refine va_get (D := (dC, dI)) (ci := 5) (v := .ref (aa 13)) (C := R_W) (T := F_W) (N := 8) hx hb hts i_W hown hK hP 3 rfl rfl 5 (by decide) (hts _ fl_W_27) (fun _ h9 => h9) rfl d_W_writeNext_53 ?_
  refine lv_aload_n hx hb d_W_writeNext_56 rfl (lv_at hl 0 rfl) ?_
  refine va_get (D := (dC, dI)) (ci := 5) (v := .int (nI r)) (C := R_W) (T := F_W) (N := 8) hx hb hts i_W hown hK hP 3 rfl rfl 7 (by decide) (hts _ fl_W_34) (fun _ h9 => h9) (by rw [← e2]; rfl) d_W_writeNext_57 ?_
  refine lv_iload hx hb d_W_writeNext_60 (lv_at hl 6 rfl) ?_
  refine va_iast hx hb hK hP hD hS 13 0 rfl rfl (vp_in_nI (by omega) (by omega)) d_W_writeNext_62 (fun H locs hP hD hS => ?_)
  rw [nI_clamp (show r < 2 ^ 31 by omega)] at hP hD
  have hP : va_P (dC, dI) classes (wC aa cI cZ kn (va_up (va_up (va_up (va_up (va_up (va_up vv 2 (upd (vv 2) r x1)) 3 (upd (vv 3) r x2)) 4 (upd (vv 4) r x3)) 5 (upd (vv 5) r x4)) 6 (upd (vv 6) r x5)) 7 (upd (vv 7) r x6))) H := hP
  have hD : va_D (aN aa 22) (wC aa cI cZ kn (va_up (va_up (va_up (va_up (va_up (va_up vv 2 (upd (vv 2) r x1)) 3 (upd (vv 3) r x2)) 4 (upd (vv 4) r x3)) 5 (upd (vv 5) r x4)) 6 (upd (vv 6) r x5)) 7 (upd (vv 7) r x6))) := hD
  refine lv_aload_n hx hb d_W_writeNext_63 rfl (lv_at hl 0 rfl) ?_
  refine va_get (D := (dC, dI)) (ci := 5) (v := .ref (aa 14)) (C := R_W) (T := F_W) (N := 8) hx hb hts i_W hown hK hP 3 rfl rfl 6 (by decide) (hts _ fl_W_30) (fun _ h9 => h9) rfl d_W_writeNext_64 ?_
  refine lv_aload_n hx hb d_W_writeNext_67 rfl (lv_at hl 0 rfl) ?_
  refine va_get (D := (dC, dI)) (ci := 5) (v := .int (nI r)) (C := R_W) (T := F_W) (N := 8) hx hb hts i_W hown hK hP 3 rfl rfl 7 (by decide) (hts _ fl_W_34) (fun _ h9 => h9) (by rw [← e2]; rfl) d_W_writeNext_68 ?_
  refine lv_iconst (v := 0) hx hb d_W_writeNext_71 (by decide) ?_
  refine va_zast hx hb hK hP hD hS 14 1 rfl rfl (vp_in_nI (by omega) (by omega)) d_W_writeNext_72 (fun H locs hP hD hS => ?_)
  rw [show vp_nar .boolean 0 = 0 from rfl] at hP hD
  rw [nI_clamp (show r < 2 ^ 31 by omega)] at hP hD
  have hP : va_P (dC, dI) classes (wC aa cI cZ kn (va_up (va_up (va_up (va_up (va_up (va_up (va_up vv 2 (upd (vv 2) r x1)) 3 (upd (vv 3) r x2)) 4 (upd (vv 4) r x3)) 5 (upd (vv 5) r x4)) 6 (upd (vv 6) r x5)) 7 (upd (vv 7) r x6)) 8 (upd (vv 8) r 0))) H := hP
  have hD : va_D (aN aa 22) (wC aa cI cZ kn (va_up (va_up (va_up (va_up (va_up (va_up (va_up vv 2 (upd (vv 2) r x1)) 3 (upd (vv 3) r x2)) 4 (upd (vv 4) r x3)) 5 (upd (vv 5) r x4)) 6 (upd (vv 6) r x5)) 7 (upd (vv 7) r x6)) 8 (upd (vv 8) r 0))) := hD
  have er : (none : Option Value) = none := by rfl
  have hPe : va_P (dC, dI) classes (wC aa cI cZ kn (nwV vv r x1 x2 x3 x4 x5 x6)) H := by exact hP
  exact W.vret hx hb hr (fun t ht hW => ⟨by rw [er], by rw [ht]; exact hPe, hS.F ht⟩) hS.2.2 d_W_writeNext_73
set_option maxRecDepth 100000 in
set_option maxHeartbeats 4000000 in
theorem c_W_writeCopy (hP : va_P (dC, dI) classes (wC aa cI cZ kn vv) H) (hdD : dD noT aa 22) {w r : Nat} (hw : w < 40) (hr2 : r < 40) (x : Int32) : Met l y_W_writeCopy (wB y_W_writeCopy b_W_writeCopy 4 none) ({ frames := 0, cells := 0, slots := 0, locals := 0 } : Room) (rP [.ref (aa 3), .int (nI w), .int (nI r), .int x] H (kK dC dI cI cZ cJ)) (qW none (aN aa 22) (fun H1 => va_P (dC, dI) classes (wC aa cI cZ kn (nwV vv r x (vv 3 w) (vv 4 w) (vv 5 w) (vv 6 w) (vv 7 w))) H1)) 0 0 (aN aa 22) := by
  refine Met.ofW (cc := b_W_writeCopy) (maxL := 4) (ret := none) (by decide) rfl ?_
  intro p e s m args below meth c s₁ B hml hv
  obtain ⟨rfl, rfl, hK⟩ := hv
  have hx := B.exec
  have hb := B.bytes
  have hr := B.returns
  have hts0 := atoms_spec (ws := (wB y_W_writeCopy b_W_writeCopy 4 none)) B.pre
  have hts : ∀ w9 ∈ BG, w9.before [.ref (aa 3), .int (nI w), .int (nI r), .int x].toArray s = true := fun w9 hw9 => hts0 w9 (List.mem_cons_of_mem _ hw9)
  have hown : s.vm.findClass R_W = some m.cls := findClass_of_methodNamed B.named
  have hlocks := B.notSynchronized
  have hK : va_K (dC, dI) classes [(cI, .int), (cZ, .boolean), (cJ, .long)] s := hK
  have hD : va_D (aN aa 22) (wC aa cI cZ kn vv) := wC_D (dD_aN hdD)
  have hS : va_S (aN aa 22) s.heap s.heap [] := va_S.rf
  have hl := lv_entry ([.ref (aa 3), .int (nI w), .int (nI r), .int x]) (n := 4) (Nat.le_of_ble_eq_true rfl)
  rw [lg_entry_eq]
  generalize (lg_sl ([.ref (aa 3), .int (nI w), .int (nI r), .int x]) ++ List.replicate (4 - (lg_sl ([.ref (aa 3), .int (nI w), .int (nI r), .int x])).length) Slot.unset).toArray = ls at hl ⊢
  have hl : lv_has ls 4 [(0, .ref (aa 3)), (1, .int (nI w)), (2, .int (nI r)), (3, .int x)] := hl
  refine lv_aload_n hx hb d_W_writeCopy_0 rfl (lv_at hl 0 rfl) ?_
  refine va_get (D := (dC, dI)) (ci := 5) (v := .ref (aa 8)) (C := R_W) (T := F_W) (N := 8) hx hb hts i_W hown hK hP 3 rfl rfl 0 (by decide) (hts _ fl_W_9) (fun _ h9 => h9) rfl d_W_writeCopy_1 ?_
  refine lv_iload_n hx hb d_W_writeCopy_4 rfl (lv_at hl 2 rfl) ?_
  refine lv_iload_n hx hb d_W_writeCopy_5 rfl (lv_at hl 3 rfl) ?_
  refine va_iast hx hb hK hP hD hS 8 0 rfl rfl (vp_in_nI (by omega) (by omega)) d_W_writeCopy_6 (fun H locs hP hD hS => ?_)
  rw [nI_clamp (show r < 2 ^ 31 by omega)] at hP hD
  have hP : va_P (dC, dI) classes (wC aa cI cZ kn (va_up vv 2 (upd (vv 2) r x))) H := hP
  have hD : va_D (aN aa 22) (wC aa cI cZ kn (va_up vv 2 (upd (vv 2) r x))) := hD
  refine lv_aload_n hx hb d_W_writeCopy_7 rfl (lv_at hl 0 rfl) ?_
  refine va_get (D := (dC, dI)) (ci := 5) (v := .ref (aa 9)) (C := R_W) (T := F_W) (N := 8) hx hb hts i_W hown hK hP 3 rfl rfl 1 (by decide) (hts _ fl_W_15) (fun _ h9 => h9) rfl d_W_writeCopy_8 ?_
  refine lv_iload_n hx hb d_W_writeCopy_11 rfl (lv_at hl 2 rfl) ?_
  refine lv_aload_n hx hb d_W_writeCopy_12 rfl (lv_at hl 0 rfl) ?_
  refine va_get (D := (dC, dI)) (ci := 5) (v := .ref (aa 9)) (C := R_W) (T := F_W) (N := 8) hx hb hts i_W hown hK hP 3 rfl rfl 1 (by decide) (hts _ fl_W_15) (fun _ h9 => h9) rfl d_W_writeCopy_13 ?_
  refine lv_iload_n hx hb d_W_writeCopy_16 rfl (lv_at hl 1 rfl) ?_
  refine va_iald hx hb hK hP 9 0 rfl rfl (vp_in_nI (by omega) (by omega)) d_W_writeCopy_17 ?_
  rw [nI_clamp (show w < 2 ^ 31 by omega)]
  refine va_iast hx hb hK hP hD hS 9 0 rfl rfl (vp_in_nI (by omega) (by omega)) d_W_writeCopy_18 (fun H locs hP hD hS => ?_)
  rw [nI_clamp (show r < 2 ^ 31 by omega)] at hP hD
  have hP : va_P (dC, dI) classes (wC aa cI cZ kn (va_up (va_up vv 2 (upd (vv 2) r x)) 3 (upd (vv 3) r ((vv 3) w)))) H := hP
  have hD : va_D (aN aa 22) (wC aa cI cZ kn (va_up (va_up vv 2 (upd (vv 2) r x)) 3 (upd (vv 3) r ((vv 3) w)))) := hD
  refine lv_aload_n hx hb d_W_writeCopy_19 rfl (lv_at hl 0 rfl) ?_
  refine va_get (D := (dC, dI)) (ci := 5) (v := .ref (aa 10)) (C := R_W) (T := F_W) (N := 8) hx hb hts i_W hown hK hP 3 rfl rfl 2 (by decide) (hts _ fl_W_18) (fun _ h9 => h9) rfl d_W_writeCopy_20 ?_
  refine lv_iload_n hx hb d_W_writeCopy_23 rfl (lv_at hl 2 rfl) ?_
  refine lv_aload_n hx hb d_W_writeCopy_24 rfl (lv_at hl 0 rfl) ?_
  refine va_get (D := (dC, dI)) (ci := 5) (v := .ref (aa 10)) (C := R_W) (T := F_W) (N := 8) hx hb hts i_W hown hK hP 3 rfl rfl 2 (by decide) (hts _ fl_W_18) (fun _ h9 => h9) rfl d_W_writeCopy_25 ?_
  refine lv_iload_n hx hb d_W_writeCopy_28 rfl (lv_at hl 1 rfl) ?_
  refine va_iald hx hb hK hP 10 0 rfl rfl (vp_in_nI (by omega) (by omega)) d_W_writeCopy_29 ?_
  rw [nI_clamp (show w < 2 ^ 31 by omega)]
  refine va_iast hx hb hK hP hD hS 10 0 rfl rfl (vp_in_nI (by omega) (by omega)) d_W_writeCopy_30 (fun H locs hP hD hS => ?_)
  rw [nI_clamp (show r < 2 ^ 31 by omega)] at hP hD
  have hP : va_P (dC, dI) classes (wC aa cI cZ kn (va_up (va_up (va_up vv 2 (upd (vv 2) r x)) 3 (upd (vv 3) r ((vv 3) w))) 4 (upd (vv 4) r ((vv 4) w)))) H := hP
  have hD : va_D (aN aa 22) (wC aa cI cZ kn (va_up (va_up (va_up vv 2 (upd (vv 2) r x)) 3 (upd (vv 3) r ((vv 3) w))) 4 (upd (vv 4) r ((vv 4) w)))) := hD
  refine lv_aload_n hx hb d_W_writeCopy_31 rfl (lv_at hl 0 rfl) ?_
  refine va_get (D := (dC, dI)) (ci := 5) (v := .ref (aa 11)) (C := R_W) (T := F_W) (N := 8) hx hb hts i_W hown hK hP 3 rfl rfl 3 (by decide) (hts _ fl_W_21) (fun _ h9 => h9) rfl d_W_writeCopy_32 ?_
  refine lv_iload_n hx hb d_W_writeCopy_35 rfl (lv_at hl 2 rfl) ?_
  refine lv_aload_n hx hb d_W_writeCopy_36 rfl (lv_at hl 0 rfl) ?_
  refine va_get (D := (dC, dI)) (ci := 5) (v := .ref (aa 11)) (C := R_W) (T := F_W) (N := 8) hx hb hts i_W hown hK hP 3 rfl rfl 3 (by decide) (hts _ fl_W_21) (fun _ h9 => h9) rfl d_W_writeCopy_37 ?_
  refine lv_iload_n hx hb d_W_writeCopy_40 rfl (lv_at hl 1 rfl) ?_
  refine va_iald hx hb hK hP 11 0 rfl rfl (vp_in_nI (by omega) (by omega)) d_W_writeCopy_41 ?_
  rw [nI_clamp (show w < 2 ^ 31 by omega)]
  refine va_iast hx hb hK hP hD hS 11 0 rfl rfl (vp_in_nI (by omega) (by omega)) d_W_writeCopy_42 (fun H locs hP hD hS => ?_)
  rw [nI_clamp (show r < 2 ^ 31 by omega)] at hP hD
  have hP : va_P (dC, dI) classes (wC aa cI cZ kn (va_up (va_up (va_up (va_up vv 2 (upd (vv 2) r x)) 3 (upd (vv 3) r ((vv 3) w))) 4 (upd (vv 4) r ((vv 4) w))) 5 (upd (vv 5) r ((vv 5) w)))) H := hP
  have hD : va_D (aN aa 22) (wC aa cI cZ kn (va_up (va_up (va_up (va_up vv 2 (upd (vv 2) r x)) 3 (upd (vv 3) r ((vv 3) w))) 4 (upd (vv 4) r ((vv 4) w))) 5 (upd (vv 5) r ((vv 5) w)))) := hD
  refine lv_aload_n hx hb d_W_writeCopy_43 rfl (lv_at hl 0 rfl) ?_
  refine va_get (D := (dC, dI)) (ci := 5) (v := .ref (aa 12)) (C := R_W) (T := F_W) (N := 8) hx hb hts i_W hown hK hP 3 rfl rfl 4 (by decide) (hts _ fl_W_24) (fun _ h9 => h9) rfl d_W_writeCopy_44 ?_
  refine lv_iload_n hx hb d_W_writeCopy_47 rfl (lv_at hl 2 rfl) ?_
  refine lv_aload_n hx hb d_W_writeCopy_48 rfl (lv_at hl 0 rfl) ?_
  refine va_get (D := (dC, dI)) (ci := 5) (v := .ref (aa 12)) (C := R_W) (T := F_W) (N := 8) hx hb hts i_W hown hK hP 3 rfl rfl 4 (by decide) (hts _ fl_W_24) (fun _ h9 => h9) rfl d_W_writeCopy_49 ?_
  refine lv_iload_n hx hb d_W_writeCopy_52 rfl (lv_at hl 1 rfl) ?_
  refine va_iald hx hb hK hP 12 0 rfl rfl (vp_in_nI (by omega) (by omega)) d_W_writeCopy_53 ?_
  rw [nI_clamp (show w < 2 ^ 31 by omega)]
  refine va_iast hx hb hK hP hD hS 12 0 rfl rfl (vp_in_nI (by omega) (by omega)) d_W_writeCopy_54 (fun H locs hP hD hS => ?_)
  rw [nI_clamp (show r < 2 ^ 31 by omega)] at hP hD
  have hP : va_P (dC, dI) classes (wC aa cI cZ kn (va_up (va_up (va_up (va_up (va_up vv 2 (upd (vv 2) r x)) 3 (upd (vv 3) r ((vv 3) w))) 4 (upd (vv 4) r ((vv 4) w))) 5 (upd (vv 5) r ((vv 5) w))) 6 (upd (vv 6) r ((vv 6) w)))) H := hP
  have hD : va_D (aN aa 22) (wC aa cI cZ kn (va_up (va_up (va_up (va_up (va_up vv 2 (upd (vv 2) r x)) 3 (upd (vv 3) r ((vv 3) w))) 4 (upd (vv 4) r ((vv 4) w))) 5 (upd (vv 5) r ((vv 5) w))) 6 (upd (vv 6) r ((vv 6) w)))) := hD
  refine lv_aload_n hx hb d_W_writeCopy_55 rfl (lv_at hl 0 rfl) ?_
  refine va_get (D := (dC, dI)) (ci := 5) (v := .ref (aa 13)) (C := R_W) (T := F_W) (N := 8) hx hb hts i_W hown hK hP 3 rfl rfl 5 (by decide) (hts _ fl_W_27) (fun _ h9 => h9) rfl d_W_writeCopy_56 ?_
  refine lv_iload_n hx hb d_W_writeCopy_59 rfl (lv_at hl 2 rfl) ?_
  refine lv_aload_n hx hb d_W_writeCopy_60 rfl (lv_at hl 0 rfl) ?_
  refine va_get (D := (dC, dI)) (ci := 5) (v := .ref (aa 13)) (C := R_W) (T := F_W) (N := 8) hx hb hts i_W hown hK hP 3 rfl rfl 5 (by decide) (hts _ fl_W_27) (fun _ h9 => h9) rfl d_W_writeCopy_61 ?_
  refine lv_iload_n hx hb d_W_writeCopy_64 rfl (lv_at hl 1 rfl) ?_
  refine va_iald hx hb hK hP 13 0 rfl rfl (vp_in_nI (by omega) (by omega)) d_W_writeCopy_65 ?_
  rw [nI_clamp (show w < 2 ^ 31 by omega)]
  refine va_iast hx hb hK hP hD hS 13 0 rfl rfl (vp_in_nI (by omega) (by omega)) d_W_writeCopy_66 (fun H locs hP hD hS => ?_)
  rw [nI_clamp (show r < 2 ^ 31 by omega)] at hP hD
  have hP : va_P (dC, dI) classes (wC aa cI cZ kn (va_up (va_up (va_up (va_up (va_up (va_up vv 2 (upd (vv 2) r x)) 3 (upd (vv 3) r ((vv 3) w))) 4 (upd (vv 4) r ((vv 4) w))) 5 (upd (vv 5) r ((vv 5) w))) 6 (upd (vv 6) r ((vv 6) w))) 7 (upd (vv 7) r ((vv 7) w)))) H := hP
  have hD : va_D (aN aa 22) (wC aa cI cZ kn (va_up (va_up (va_up (va_up (va_up (va_up vv 2 (upd (vv 2) r x)) 3 (upd (vv 3) r ((vv 3) w))) 4 (upd (vv 4) r ((vv 4) w))) 5 (upd (vv 5) r ((vv 5) w))) 6 (upd (vv 6) r ((vv 6) w))) 7 (upd (vv 7) r ((vv 7) w)))) := hD
  refine lv_aload_n hx hb d_W_writeCopy_67 rfl (lv_at hl 0 rfl) ?_
  refine va_get (D := (dC, dI)) (ci := 5) (v := .ref (aa 14)) (C := R_W) (T := F_W) (N := 8) hx hb hts i_W hown hK hP 3 rfl rfl 6 (by decide) (hts _ fl_W_30) (fun _ h9 => h9) rfl d_W_writeCopy_68 ?_
  refine lv_iload_n hx hb d_W_writeCopy_71 rfl (lv_at hl 2 rfl) ?_
  refine lv_iconst (v := 0) hx hb d_W_writeCopy_72 (by decide) ?_
  refine va_zast hx hb hK hP hD hS 14 1 rfl rfl (vp_in_nI (by omega) (by omega)) d_W_writeCopy_73 (fun H locs hP hD hS => ?_)
  rw [show vp_nar .boolean 0 = 0 from rfl] at hP hD
  rw [nI_clamp (show r < 2 ^ 31 by omega)] at hP hD
  have hP : va_P (dC, dI) classes (wC aa cI cZ kn (va_up (va_up (va_up (va_up (va_up (va_up (va_up vv 2 (upd (vv 2) r x)) 3 (upd (vv 3) r ((vv 3) w))) 4 (upd (vv 4) r ((vv 4) w))) 5 (upd (vv 5) r ((vv 5) w))) 6 (upd (vv 6) r ((vv 6) w))) 7 (upd (vv 7) r ((vv 7) w))) 8 (upd (vv 8) r 0))) H := hP
  have hD : va_D (aN aa 22) (wC aa cI cZ kn (va_up (va_up (va_up (va_up (va_up (va_up (va_up vv 2 (upd (vv 2) r x)) 3 (upd (vv 3) r ((vv 3) w))) 4 (upd (vv 4) r ((vv 4) w))) 5 (upd (vv 5) r ((vv 5) w))) 6 (upd (vv 6) r ((vv 6) w))) 7 (upd (vv 7) r ((vv 7) w))) 8 (upd (vv 8) r 0))) := hD
  have er : (none : Option Value) = none := by rfl
  have hPe : va_P (dC, dI) classes (wC aa cI cZ kn (nwV vv r x (vv 3 w) (vv 4 w) (vv 5 w) (vv 6 w) (vv 7 w))) H := by exact hP
  exact W.vret hx hb hr (fun t ht hW => ⟨by rw [er], by rw [ht]; exact hPe, hS.F ht⟩) hS.2.2 d_W_writeCopy_74
set_option maxRecDepth 100000 in
set_option maxHeartbeats 4000000 in
theorem c_O_write (hP : va_P (dC, dI) classes (wC aa cI cZ kn vv) H) (hdD : dD noT aa 22) {r : Nat} (hr2 : r < 60) (x y z : Int32) : Met l y_O_write (wB y_O_write b_O_write 5 none) ({ frames := 0, cells := 0, slots := 0, locals := 0 } : Room) (rP [.ref (aa 4), .int (nI r), .int x, .int y, .int z] H (kK dC dI cI cZ cJ)) (qW none (aN aa 22) (fun H1 => va_P (dC, dI) classes (wC aa cI cZ kn (owV vv r x y z)) H1)) 0 0 (aN aa 22) := by
  refine Met.ofW (cc := b_O_write) (maxL := 5) (ret := none) (by decide) rfl ?_
  intro p e s m args below meth c s₁ B hml hv
  obtain ⟨rfl, rfl, hK⟩ := hv
  have hx := B.exec
  have hb := B.bytes
  have hr := B.returns
  have hts0 := atoms_spec (ws := (wB y_O_write b_O_write 5 none)) B.pre
  have hts : ∀ w9 ∈ BG, w9.before [.ref (aa 4), .int (nI r), .int x, .int y, .int z].toArray s = true := fun w9 hw9 => hts0 w9 (List.mem_cons_of_mem _ hw9)
  have hown : s.vm.findClass R_O = some m.cls := findClass_of_methodNamed B.named
  have hlocks := B.notSynchronized
  have hK : va_K (dC, dI) classes [(cI, .int), (cZ, .boolean), (cJ, .long)] s := hK
  have hD : va_D (aN aa 22) (wC aa cI cZ kn vv) := wC_D (dD_aN hdD)
  have hS : va_S (aN aa 22) s.heap s.heap [] := va_S.rf
  have hl := lv_entry ([.ref (aa 4), .int (nI r), .int x, .int y, .int z]) (n := 5) (Nat.le_of_ble_eq_true rfl)
  rw [lg_entry_eq]
  generalize (lg_sl ([.ref (aa 4), .int (nI r), .int x, .int y, .int z]) ++ List.replicate (5 - (lg_sl ([.ref (aa 4), .int (nI r), .int x, .int y, .int z])).length) Slot.unset).toArray = ls at hl ⊢
  have hl : lv_has ls 5 [(0, .ref (aa 4)), (1, .int (nI r)), (2, .int x), (3, .int y), (4, .int z)] := hl
  refine lv_aload_n hx hb d_O_write_0 rfl (lv_at hl 0 rfl) ?_
  refine va_get (D := (dC, dI)) (ci := 2) (v := .ref (aa 15)) (C := R_O) (T := F_O) (N := 4) hx hb hts i_O hown hK hP 4 rfl rfl 0 (by decide) (hts _ fl_O_9) (fun _ h9 => h9) rfl d_O_write_1 ?_
  refine lv_iload_n hx hb d_O_write_4 rfl (lv_at hl 1 rfl) ?_
  refine lv_iload_n hx hb d_O_write_5 rfl (lv_at hl 2 rfl) ?_
  refine va_iast hx hb hK hP hD hS 15 0 rfl rfl (vp_in_nI (by omega) (by omega)) d_O_write_6 (fun H locs hP hD hS => ?_)
  rw [nI_clamp (show r < 2 ^ 31 by omega)] at hP hD
  have hP : va_P (dC, dI) classes (wC aa cI cZ kn (va_up vv 9 (upd (vv 9) r x))) H := hP
  have hD : va_D (aN aa 22) (wC aa cI cZ kn (va_up vv 9 (upd (vv 9) r x))) := hD
  refine lv_aload_n hx hb d_O_write_7 rfl (lv_at hl 0 rfl) ?_
  refine va_get (D := (dC, dI)) (ci := 2) (v := .ref (aa 16)) (C := R_O) (T := F_O) (N := 4) hx hb hts i_O hown hK hP 4 rfl rfl 1 (by decide) (hts _ fl_O_15) (fun _ h9 => h9) rfl d_O_write_8 ?_
  refine lv_iload_n hx hb d_O_write_11 rfl (lv_at hl 1 rfl) ?_
  refine lv_iload_n hx hb d_O_write_12 rfl (lv_at hl 3 rfl) ?_
  refine va_iast hx hb hK hP hD hS 16 0 rfl rfl (vp_in_nI (by omega) (by omega)) d_O_write_13 (fun H locs hP hD hS => ?_)
  rw [nI_clamp (show r < 2 ^ 31 by omega)] at hP hD
  have hP : va_P (dC, dI) classes (wC aa cI cZ kn (va_up (va_up vv 9 (upd (vv 9) r x)) 10 (upd (vv 10) r y))) H := hP
  have hD : va_D (aN aa 22) (wC aa cI cZ kn (va_up (va_up vv 9 (upd (vv 9) r x)) 10 (upd (vv 10) r y))) := hD
  refine lv_aload_n hx hb d_O_write_14 rfl (lv_at hl 0 rfl) ?_
  refine va_get (D := (dC, dI)) (ci := 2) (v := .ref (aa 17)) (C := R_O) (T := F_O) (N := 4) hx hb hts i_O hown hK hP 4 rfl rfl 2 (by decide) (hts _ fl_O_18) (fun _ h9 => h9) rfl d_O_write_15 ?_
  refine lv_iload_n hx hb d_O_write_18 rfl (lv_at hl 1 rfl) ?_
  refine lv_iload hx hb d_O_write_19 (lv_at hl 4 rfl) ?_
  refine va_iast hx hb hK hP hD hS 17 0 rfl rfl (vp_in_nI (by omega) (by omega)) d_O_write_21 (fun H locs hP hD hS => ?_)
  rw [nI_clamp (show r < 2 ^ 31 by omega)] at hP hD
  have hP : va_P (dC, dI) classes (wC aa cI cZ kn (va_up (va_up (va_up vv 9 (upd (vv 9) r x)) 10 (upd (vv 10) r y)) 11 (upd (vv 11) r z))) H := hP
  have hD : va_D (aN aa 22) (wC aa cI cZ kn (va_up (va_up (va_up vv 9 (upd (vv 9) r x)) 10 (upd (vv 10) r y)) 11 (upd (vv 11) r z))) := hD
  have er : (none : Option Value) = none := by rfl
  have hPe : va_P (dC, dI) classes (wC aa cI cZ kn (owV vv r x y z)) H := by exact hP
  exact W.vret hx hb hr (fun t ht hW => ⟨by rw [er], by rw [ht]; exact hPe, hS.F ht⟩) hS.2.2 d_O_write_22
set_option maxRecDepth 100000 in
set_option maxHeartbeats 4000000 in
theorem c_H_write (hP : va_P (dC, dI) classes (wC aa cI cZ kn vv) H) (hdD : dD noT aa 22) {d : Nat} (e4 : kn 4 = nI d) (hd : d < 200) (x y z u : Int32) : Met l y_H_write (wB y_H_write b_H_write 5 none) ({ frames := 0, cells := 0, slots := 0, locals := 0 } : Room) (rP [.ref (aa 5), .int x, .int y, .int z, .int u] H (kK dC dI cI cZ cJ)) (qW none (aN aa 22) (fun H1 => va_P (dC, dI) classes (wC aa cI cZ (va_up kn 5 (nI d + 1)) (hwV vv d x y z u)) H1)) 0 0 (aN aa 22) := by
  refine Met.ofW (cc := b_H_write) (maxL := 5) (ret := none) (by decide) rfl ?_
  intro p e s m args below meth c s₁ B hml hv
  obtain ⟨rfl, rfl, hK⟩ := hv
  have hx := B.exec
  have hb := B.bytes
  have hr := B.returns
  have hts0 := atoms_spec (ws := (wB y_H_write b_H_write 5 none)) B.pre
  have hts : ∀ w9 ∈ BG, w9.before [.ref (aa 5), .int x, .int y, .int z, .int u].toArray s = true := fun w9 hw9 => hts0 w9 (List.mem_cons_of_mem _ hw9)
  have hown : s.vm.findClass R_H = some m.cls := findClass_of_methodNamed B.named
  have hlocks := B.notSynchronized
  have hK : va_K (dC, dI) classes [(cI, .int), (cZ, .boolean), (cJ, .long)] s := hK
  have hD : va_D (aN aa 22) (wC aa cI cZ kn vv) := wC_D (dD_aN hdD)
  have hS : va_S (aN aa 22) s.heap s.heap [] := va_S.rf
  have hl := lv_entry ([.ref (aa 5), .int x, .int y, .int z, .int u]) (n := 5) (Nat.le_of_ble_eq_true rfl)
  rw [lg_entry_eq]
  generalize (lg_sl ([.ref (aa 5), .int x, .int y, .int z, .int u]) ++ List.replicate (5 - (lg_sl ([.ref (aa 5), .int x, .int y, .int z, .int u])).length) Slot.unset).toArray = ls at hl ⊢
  have hl : lv_has ls 5 [(0, .ref (aa 5)), (1, .int x), (2, .int y), (3, .int z), (4, .int u)] := hl
  refine lv_aload_n hx hb d_H_write_0 rfl (lv_at hl 0 rfl) ?_
  refine va_get (D := (dC, dI)) (ci := 1) (v := .ref (aa 18)) (C := R_H) (T := F_H) (N := 6) hx hb hts i_H hown hK hP 5 rfl rfl 0 (by decide) (hts _ fl_H_9) (fun _ h9 => h9) rfl d_H_write_1 ?_
  refine lv_aload_n hx hb d_H_write_4 rfl (lv_at hl 0 rfl) ?_
  refine va_get (D := (dC, dI)) (ci := 1) (v := .int (nI d)) (C := R_H) (T := F_H) (N := 6) hx hb hts i_H hown hK hP 5 rfl rfl 4 (by decide) (hts _ fl_H_24) (fun _ h9 => h9) (by rw [← e4]; rfl) d_H_write_5 ?_
  refine lv_iload_n hx hb d_H_write_8 rfl (lv_at hl 1 rfl) ?_
  refine va_iast hx hb hK hP hD hS 18 0 rfl rfl (vp_in_nI (by omega) (by omega)) d_H_write_9 (fun H locs hP hD hS => ?_)
  rw [nI_clamp (show d < 2 ^ 31 by omega)] at hP hD
  have hP : va_P (dC, dI) classes (wC aa cI cZ kn (va_up vv 12 (upd (vv 12) d x))) H := hP
  have hD : va_D (aN aa 22) (wC aa cI cZ kn (va_up vv 12 (upd (vv 12) d x))) := hD
  refine lv_aload_n hx hb d_H_write_10 rfl (lv_at hl 0 rfl) ?_
  refine va_get (D := (dC, dI)) (ci := 1) (v := .ref (aa 19)) (C := R_H) (T := F_H) (N := 6) hx hb hts i_H hown hK hP 5 rfl rfl 1 (by decide) (hts _ fl_H_15) (fun _ h9 => h9) rfl d_H_write_11 ?_
  refine lv_aload_n hx hb d_H_write_14 rfl (lv_at hl 0 rfl) ?_
  refine va_get (D := (dC, dI)) (ci := 1) (v := .int (nI d)) (C := R_H) (T := F_H) (N := 6) hx hb hts i_H hown hK hP 5 rfl rfl 4 (by decide) (hts _ fl_H_24) (fun _ h9 => h9) (by rw [← e4]; rfl) d_H_write_15 ?_
  refine lv_iload_n hx hb d_H_write_18 rfl (lv_at hl 2 rfl) ?_
  refine va_iast hx hb hK hP hD hS 19 0 rfl rfl (vp_in_nI (by omega) (by omega)) d_H_write_19 (fun H locs hP hD hS => ?_)
  rw [nI_clamp (show d < 2 ^ 31 by omega)] at hP hD
  have hP : va_P (dC, dI) classes (wC aa cI cZ kn (va_up (va_up vv 12 (upd (vv 12) d x)) 13 (upd (vv 13) d y))) H := hP
  have hD : va_D (aN aa 22) (wC aa cI cZ kn (va_up (va_up vv 12 (upd (vv 12) d x)) 13 (upd (vv 13) d y))) := hD
  refine lv_aload_n hx hb d_H_write_20 rfl (lv_at hl 0 rfl) ?_
  refine va_get (D := (dC, dI)) (ci := 1) (v := .ref (aa 20)) (C := R_H) (T := F_H) (N := 6) hx hb hts i_H hown hK hP 5 rfl rfl 2 (by decide) (hts _ fl_H_18) (fun _ h9 => h9) rfl d_H_write_21 ?_
  refine lv_aload_n hx hb d_H_write_24 rfl (lv_at hl 0 rfl) ?_
  refine va_get (D := (dC, dI)) (ci := 1) (v := .int (nI d)) (C := R_H) (T := F_H) (N := 6) hx hb hts i_H hown hK hP 5 rfl rfl 4 (by decide) (hts _ fl_H_24) (fun _ h9 => h9) (by rw [← e4]; rfl) d_H_write_25 ?_
  refine lv_iload_n hx hb d_H_write_28 rfl (lv_at hl 3 rfl) ?_
  refine va_iast hx hb hK hP hD hS 20 0 rfl rfl (vp_in_nI (by omega) (by omega)) d_H_write_29 (fun H locs hP hD hS => ?_)
  rw [nI_clamp (show d < 2 ^ 31 by omega)] at hP hD
  have hP : va_P (dC, dI) classes (wC aa cI cZ kn (va_up (va_up (va_up vv 12 (upd (vv 12) d x)) 13 (upd (vv 13) d y)) 14 (upd (vv 14) d z))) H := hP
  have hD : va_D (aN aa 22) (wC aa cI cZ kn (va_up (va_up (va_up vv 12 (upd (vv 12) d x)) 13 (upd (vv 13) d y)) 14 (upd (vv 14) d z))) := hD
  refine lv_aload_n hx hb d_H_write_30 rfl (lv_at hl 0 rfl) ?_
  refine va_get (D := (dC, dI)) (ci := 1) (v := .ref (aa 21)) (C := R_H) (T := F_H) (N := 6) hx hb hts i_H hown hK hP 5 rfl rfl 3 (by decide) (hts _ fl_H_21) (fun _ h9 => h9) rfl d_H_write_31 ?_
  refine lv_aload_n hx hb d_H_write_34 rfl (lv_at hl 0 rfl) ?_
  refine va_get (D := (dC, dI)) (ci := 1) (v := .int (nI d)) (C := R_H) (T := F_H) (N := 6) hx hb hts i_H hown hK hP 5 rfl rfl 4 (by decide) (hts _ fl_H_24) (fun _ h9 => h9) (by rw [← e4]; rfl) d_H_write_35 ?_
  refine lv_iload hx hb d_H_write_38 (lv_at hl 4 rfl) ?_
  refine va_iast hx hb hK hP hD hS 21 0 rfl rfl (vp_in_nI (by omega) (by omega)) d_H_write_40 (fun H locs hP hD hS => ?_)
  rw [nI_clamp (show d < 2 ^ 31 by omega)] at hP hD
  have hP : va_P (dC, dI) classes (wC aa cI cZ kn (va_up (va_up (va_up (va_up vv 12 (upd (vv 12) d x)) 13 (upd (vv 13) d y)) 14 (upd (vv 14) d z)) 15 (upd (vv 15) d u))) H := hP
  have hD : va_D (aN aa 22) (wC aa cI cZ kn (va_up (va_up (va_up (va_up vv 12 (upd (vv 12) d x)) 13 (upd (vv 13) d y)) 14 (upd (vv 14) d z)) 15 (upd (vv 15) d u))) := hD
  refine lv_aload_n hx hb d_H_write_41 rfl (lv_at hl 0 rfl) ?_
  refine lv_aload_n hx hb d_H_write_42 rfl (lv_at hl 0 rfl) ?_
  refine va_get (D := (dC, dI)) (ci := 1) (v := .int (nI d)) (C := R_H) (T := F_H) (N := 6) hx hb hts i_H hown hK hP 5 rfl rfl 4 (by decide) (hts _ fl_H_24) (fun _ h9 => h9) (by rw [← e4]; rfl) d_H_write_43 ?_
  refine lv_iconst (v := 1) hx hb d_H_write_46 (by decide) ?_
  refine lv_iadd hx hb d_H_write_47 ?_
  refine va_put (D := (dC, dI)) (ci := 1) (v := .int ((nI d) + 1)) (ty := .int) (C := R_H) (T := F_H) (N := 6) hx hb hts i_H ty_H tok_H n_H hown hK hP hD hS 5 rfl rfl 5 (by decide) (hts _ fl_H_28) (fun _ h9 => h9) rfl (by decide +kernel) rfl rfl (Nat.le_of_ble_eq_true rfl) d_H_write_48 (fun H locs hP hD hS => ?_)
  have hP : va_P (dC, dI) classes (wC aa cI cZ (va_up kn 5 ((nI d) + 1)) (va_up (va_up (va_up (va_up vv 12 (upd (vv 12) d x)) 13 (upd (vv 13) d y)) 14 (upd (vv 14) d z)) 15 (upd (vv 15) d u))) H := hP
  have hD : va_D (aN aa 22) (wC aa cI cZ (va_up kn 5 ((nI d) + 1)) (va_up (va_up (va_up (va_up vv 12 (upd (vv 12) d x)) 13 (upd (vv 13) d y)) 14 (upd (vv 14) d z)) 15 (upd (vv 15) d u))) := hD
  have er : (none : Option Value) = none := by rfl
  have hPe : va_P (dC, dI) classes (wC aa cI cZ (va_up kn 5 (nI d + 1)) (hwV vv d x y z u)) H := by exact hP
  exact W.vret hx hb hr (fun t ht hW => ⟨by rw [er], by rw [ht]; exact hPe, hS.F ht⟩) hS.2.2 d_H_write_51
set_option maxRecDepth 100000 in
set_option maxHeartbeats 4000000 in
theorem c_C_exchange (hP : va_P (dC, dI) classes (wC aa cI cZ kn vv) H) (hdD : dD noT aa 22) {t : Nat} (x y : Int32) (h3 : x = 3 → t < 6) (h4 : x = 4 → t < 8) (h5 : t < 40) : Met l y_C_exchange (wB y_C_exchange b_C_exchange 5 (some .int)) ({ frames := 0, cells := 0, slots := 0, locals := 0 } : Room) (rP [.ref (aa 0), .int x, .int (nI t), .int y] H (kK dC dI cI cZ cJ)) (qW (some (.int (exR vv x t))) (aN aa 22) (fun H1 => va_P (dC, dI) classes (wC aa cI cZ kn (exV vv x t y)) H1)) 0 0 (aN aa 22) := by
  refine Met.ofW (cc := b_C_exchange) (maxL := 5) (ret := (some .int)) (by decide) rfl ?_
  intro p e s m args below meth c s₁ B hml hv
  obtain ⟨rfl, rfl, hK⟩ := hv
  have hx := B.exec
  have hb := B.bytes
  have hr := B.returns
  have hts0 := atoms_spec (ws := (wB y_C_exchange b_C_exchange 5 (some .int))) B.pre
  have hts : ∀ w9 ∈ BG, w9.before [.ref (aa 0), .int x, .int (nI t), .int y].toArray s = true := fun w9 hw9 => hts0 w9 (List.mem_cons_of_mem _ hw9)
  have hown : s.vm.findClass R_C = some m.cls := findClass_of_methodNamed B.named
  have hlocks := B.notSynchronized
  have hK : va_K (dC, dI) classes [(cI, .int), (cZ, .boolean), (cJ, .long)] s := hK
  have hD : va_D (aN aa 22) (wC aa cI cZ kn vv) := wC_D (dD_aN hdD)
  have hS : va_S (aN aa 22) s.heap s.heap [] := va_S.rf
  have hl := lv_entry ([.ref (aa 0), .int x, .int (nI t), .int y]) (n := 5) (Nat.le_of_ble_eq_true rfl)
  rw [lg_entry_eq]
  generalize (lg_sl ([.ref (aa 0), .int x, .int (nI t), .int y]) ++ List.replicate (5 - (lg_sl ([.ref (aa 0), .int x, .int (nI t), .int y])).length) Slot.unset).toArray = ls at hl ⊢
  have hl : lv_has ls 5 [(0, .ref (aa 0)), (1, .int x), (2, .int (nI t)), (3, .int y)] := hl
  refine lv_iload_n hx hb d_C_exchange_0 rfl (lv_at hl 1 rfl) ?_
  refine lv_iconst (v := 3) hx hb d_C_exchange_1 (by decide) ?_
  refine lv_icmp_ne (tgt := 29) hx hb d_C_exchange_2 (by decide) (fun c_2 => ?_) (fun c_2 => ?_)
  · refine lv_iload_n hx hb d_C_exchange_29 rfl (lv_at hl 1 rfl) ?_
    refine lv_iconst (v := 4) hx hb d_C_exchange_30 (by decide) ?_
    refine lv_icmp_ne (tgt := 58) hx hb d_C_exchange_31 (by decide) (fun c_31 => ?_) (fun c_31 => ?_)
    · refine lv_aload_n hx hb d_C_exchange_58 rfl (lv_at hl 0 rfl) ?_
      refine va_get (D := (dC, dI)) (ci := 0) (v := .ref (aa 3)) (C := R_C) (T := F_C) (N := 5) hx hb hts i_C hown hK hP 0 rfl rfl 2 (by decide) (hts _ fl_C_26) (fun _ h9 => h9) rfl d_C_exchange_59 ?_
      refine va_get (D := (dC, dI)) (ci := 5) (v := .ref (aa 9)) (C := R_W) (T := F_W) (N := 8) hx hb hts i_W hown hK hP 3 rfl rfl 1 (by decide) (hts _ fl_C_168) (fun _ h9 => h9) rfl d_C_exchange_62 ?_
      refine lv_iload_n hx hb d_C_exchange_65 rfl (lv_at hl 2 rfl) ?_
      refine va_iald hx hb hK hP 9 0 rfl rfl (vp_in_nI (by omega) (by omega)) d_C_exchange_66 ?_
      rw [nI_clamp (show t < 2 ^ 31 by omega)]
      refine lv_istore (lv' := [(4, .int ((vv 3) t)), (0, .ref (aa 0)), (1, .int x), (2, .int (nI t)), (3, .int y)]) hx hb d_C_exchange_67 hl (by decide) rfl (fun ls hl => ?_)
      refine lv_aload_n hx hb d_C_exchange_69 rfl (lv_at hl 1 rfl) ?_
      refine va_get (D := (dC, dI)) (ci := 0) (v := .ref (aa 3)) (C := R_C) (T := F_C) (N := 5) hx hb hts i_C hown hK hP 0 rfl rfl 2 (by decide) (hts _ fl_C_26) (fun _ h9 => h9) rfl d_C_exchange_70 ?_
      refine va_get (D := (dC, dI)) (ci := 5) (v := .ref (aa 9)) (C := R_W) (T := F_W) (N := 8) hx hb hts i_W hown hK hP 3 rfl rfl 1 (by decide) (hts _ fl_C_168) (fun _ h9 => h9) rfl d_C_exchange_73 ?_
      refine lv_iload_n hx hb d_C_exchange_76 rfl (lv_at hl 3 rfl) ?_
      refine lv_iload_n hx hb d_C_exchange_77 rfl (lv_at hl 4 rfl) ?_
      refine va_iast hx hb hK hP hD hS 9 0 rfl rfl (vp_in_nI (by omega) (by omega)) d_C_exchange_78 (fun H locs hP hD hS => ?_)
      rw [nI_clamp (show t < 2 ^ 31 by omega)] at hP hD
      have hP : va_P (dC, dI) classes (wC aa cI cZ kn (va_up vv 3 (upd (vv 3) t y))) H := hP
      have hD : va_D (aN aa 22) (wC aa cI cZ kn (va_up vv 3 (upd (vv 3) t y))) := hD
      refine lv_iload hx hb d_C_exchange_79 (lv_at hl 0 rfl) ?_
      have er : ((some (.int (exR vv x t))) : Option Value) = some (.int ((vv 3) t)) := by simp [exR, c_2, c_31]
      have hPe : va_P (dC, dI) classes (wC aa cI cZ kn (exV vv x t y)) H := by first | (rw [exV, if_pos c_2]; exact hP) | (rw [exV, if_neg c_2, if_pos c_31]; exact hP) | (rw [exV, if_neg c_2, if_neg c_31]; exact hP)
      exact W.iret (v := ((vv 3) t)) hx hb hr (fun t ht hW => ⟨by rw [er], by rw [ht]; exact hPe, hS.F ht⟩) hS.2.2 d_C_exchange_81
    · have c_31 : x = 4 := by simpa using c_31
      have h9 : t < 8 := h4 c_31
      refine lv_aload_n hx hb d_C_exchange_34 rfl (lv_at hl 0 rfl) ?_
      refine va_get (D := (dC, dI)) (ci := 0) (v := .ref (aa 2)) (C := R_C) (T := F_C) (N := 5) hx hb hts i_C hown hK hP 0 rfl rfl 1 (by decide) (hts _ fl_C_19) (fun _ h9 => h9) rfl d_C_exchange_35 ?_
      refine va_get (D := (dC, dI)) (ci := 4) (v := .ref (aa 7)) (C := R_T) (T := F_T) (N := 2) hx hb hts i_T hown hK hP 2 rfl rfl 0 (by decide) (hts _ fl_C_80) (fun _ h9 => h9) rfl d_C_exchange_38 ?_
      refine lv_iload_n hx hb d_C_exchange_41 rfl (lv_at hl 2 rfl) ?_
      refine va_iald hx hb hK hP 7 0 rfl rfl (vp_in_nI (by omega) (by omega)) d_C_exchange_42 ?_
      rw [nI_clamp (show t < 2 ^ 31 by omega)]
      refine lv_istore (lv' := [(4, .int ((vv 1) t)), (0, .ref (aa 0)), (1, .int x), (2, .int (nI t)), (3, .int y)]) hx hb d_C_exchange_43 hl (by decide) rfl (fun ls hl => ?_)
      refine lv_aload_n hx hb d_C_exchange_45 rfl (lv_at hl 1 rfl) ?_
      refine va_get (D := (dC, dI)) (ci := 0) (v := .ref (aa 2)) (C := R_C) (T := F_C) (N := 5) hx hb hts i_C hown hK hP 0 rfl rfl 1 (by decide) (hts _ fl_C_19) (fun _ h9 => h9) rfl d_C_exchange_46 ?_
      refine va_get (D := (dC, dI)) (ci := 4) (v := .ref (aa 7)) (C := R_T) (T := F_T) (N := 2) hx hb hts i_T hown hK hP 2 rfl rfl 0 (by decide) (hts _ fl_C_80) (fun _ h9 => h9) rfl d_C_exchange_49 ?_
      refine lv_iload_n hx hb d_C_exchange_52 rfl (lv_at hl 3 rfl) ?_
      refine lv_iload_n hx hb d_C_exchange_53 rfl (lv_at hl 4 rfl) ?_
      refine va_iast hx hb hK hP hD hS 7 0 rfl rfl (vp_in_nI (by omega) (by omega)) d_C_exchange_54 (fun H locs hP hD hS => ?_)
      rw [nI_clamp (show t < 2 ^ 31 by omega)] at hP hD
      have hP : va_P (dC, dI) classes (wC aa cI cZ kn (va_up vv 1 (upd (vv 1) t y))) H := hP
      have hD : va_D (aN aa 22) (wC aa cI cZ kn (va_up vv 1 (upd (vv 1) t y))) := hD
      refine lv_goto (tgt := 79) hx hb d_C_exchange_55 (by decide) ?_
      refine lv_iload hx hb d_C_exchange_79 (lv_at hl 0 rfl) ?_
      have er : ((some (.int (exR vv x t))) : Option Value) = some (.int ((vv 1) t)) := by simp [exR, c_2, c_31]
      have hPe : va_P (dC, dI) classes (wC aa cI cZ kn (exV vv x t y)) H := by first | (rw [exV, if_pos c_2]; exact hP) | (rw [exV, if_neg c_2, if_pos c_31]; exact hP) | (rw [exV, if_neg c_2, if_neg c_31]; exact hP)
      exact W.iret (v := ((vv 1) t)) hx hb hr (fun t ht hW => ⟨by rw [er], by rw [ht]; exact hPe, hS.F ht⟩) hS.2.2 d_C_exchange_81
  · have c_2 : x = 3 := by simpa using c_2
    have h9 : t < 6 := h3 c_2
    refine lv_aload_n hx hb d_C_exchange_5 rfl (lv_at hl 0 rfl) ?_
    refine va_get (D := (dC, dI)) (ci := 0) (v := .ref (aa 1)) (C := R_C) (T := F_C) (N := 5) hx hb hts i_C hown hK hP 0 rfl rfl 0 (by decide) (hts _ fl_C_10) (fun _ h9 => h9) rfl d_C_exchange_6 ?_
    refine va_get (D := (dC, dI)) (ci := 3) (v := .ref (aa 6)) (C := R_S) (T := F_S) (N := 2) hx hb hts i_S hown hK hP 1 rfl rfl 0 (by decide) (hts _ fl_C_62) (fun _ h9 => h9) rfl d_C_exchange_9 ?_
    refine lv_iload_n hx hb d_C_exchange_12 rfl (lv_at hl 2 rfl) ?_
    refine va_iald hx hb hK hP 6 0 rfl rfl (vp_in_nI (h3 c_2) (by decide)) d_C_exchange_13 ?_
    rw [nI_clamp (show t < 2 ^ 31 by omega)]
    refine lv_istore (lv' := [(4, .int ((vv 0) t)), (0, .ref (aa 0)), (1, .int x), (2, .int (nI t)), (3, .int y)]) hx hb d_C_exchange_14 hl (by decide) rfl (fun ls hl => ?_)
    refine lv_aload_n hx hb d_C_exchange_16 rfl (lv_at hl 1 rfl) ?_
    refine va_get (D := (dC, dI)) (ci := 0) (v := .ref (aa 1)) (C := R_C) (T := F_C) (N := 5) hx hb hts i_C hown hK hP 0 rfl rfl 0 (by decide) (hts _ fl_C_10) (fun _ h9 => h9) rfl d_C_exchange_17 ?_
    refine va_get (D := (dC, dI)) (ci := 3) (v := .ref (aa 6)) (C := R_S) (T := F_S) (N := 2) hx hb hts i_S hown hK hP 1 rfl rfl 0 (by decide) (hts _ fl_C_62) (fun _ h9 => h9) rfl d_C_exchange_20 ?_
    refine lv_iload_n hx hb d_C_exchange_23 rfl (lv_at hl 3 rfl) ?_
    refine lv_iload_n hx hb d_C_exchange_24 rfl (lv_at hl 4 rfl) ?_
    refine va_iast hx hb hK hP hD hS 6 0 rfl rfl (vp_in_nI (by omega) (by omega)) d_C_exchange_25 (fun H locs hP hD hS => ?_)
    rw [nI_clamp (show t < 2 ^ 31 by omega)] at hP hD
    have hP : va_P (dC, dI) classes (wC aa cI cZ kn (va_up vv 0 (upd (vv 0) t y))) H := hP
    have hD : va_D (aN aa 22) (wC aa cI cZ kn (va_up vv 0 (upd (vv 0) t y))) := hD
    refine lv_goto (tgt := 79) hx hb d_C_exchange_26 (by decide) ?_
    refine lv_iload hx hb d_C_exchange_79 (lv_at hl 0 rfl) ?_
    have er : ((some (.int (exR vv x t))) : Option Value) = some (.int ((vv 0) t)) := by simp [exR, c_2]
    have hPe : va_P (dC, dI) classes (wC aa cI cZ kn (exV vv x t y)) H := by first | (rw [exV, if_pos c_2]; exact hP) | (rw [exV, if_neg c_2, if_pos c_31]; exact hP) | (rw [exV, if_neg c_2, if_neg c_31]; exact hP)
    exact W.iret (v := ((vv 0) t)) hx hb hr (fun t ht hW => ⟨by rw [er], by rw [ht]; exact hPe, hS.F ht⟩) hS.2.2 d_C_exchange_81
set_option maxRecDepth 100000 in
set_option maxHeartbeats 4000000 in
theorem c_O_writeCopies (hP : va_P (dC, dI) classes (wC aa cI cZ kn vv) H) (hdD : dD noT aa 22) (hI : okC kn nn) (x y : Int32) {r : Nat} (hB : (ocF x y (nn 3) (vv, r)).2 ≤ 60) : Met l y_O_writeCopies (wB y_O_writeCopies b_O_writeCopies 6 (some .int)) ({ frames := 1, cells := 0, slots := 0, locals := 24 } : Room) (rP [.ref (aa 4), .int x, .int y, .int (nI r)] H (kK dC dI cI cZ cJ)) (qW (some (.int (nI (ocF x y (nn 3) (vv, r)).2))) (aN aa 22) (fun H1 => va_P (dC, dI) classes (wC aa cI cZ kn (ocF x y (nn 3) (vv, r)).1) H1)) 0 0 (aN aa 22) := by
  refine Met.ofW (cc := b_O_writeCopies) (maxL := 6) (ret := (some .int)) (by decide) rfl ?_
  intro p e s m args below meth c s₁ B hml hv
  obtain ⟨rfl, rfl, hK⟩ := hv
  have hx := B.exec
  have hb := B.bytes
  have hr := B.returns
  have hts0 := atoms_spec (ws := (wB y_O_writeCopies b_O_writeCopies 6 (some .int))) B.pre
  have hts : ∀ w9 ∈ BG, w9.before [.ref (aa 4), .int x, .int y, .int (nI r)].toArray s = true := fun w9 hw9 => hts0 w9 (List.mem_cons_of_mem _ hw9)
  have hown : s.vm.findClass R_O = some m.cls := findClass_of_methodNamed B.named
  have hlocks := B.notSynchronized
  have hK : va_K (dC, dI) classes [(cI, .int), (cZ, .boolean), (cJ, .long)] s := hK
  have hD : va_D (aN aa 22) (wC aa cI cZ kn vv) := wC_D (dD_aN hdD)
  have hS : va_S (aN aa 22) s.heap s.heap [] := va_S.rf
  have hl := lv_entry ([.ref (aa 4), .int x, .int y, .int (nI r)]) (n := 6) (Nat.le_of_ble_eq_true rfl)
  rw [lg_entry_eq]
  generalize (lg_sl ([.ref (aa 4), .int x, .int y, .int (nI r)]) ++ List.replicate (6 - (lg_sl ([.ref (aa 4), .int x, .int y, .int (nI r)])).length) Slot.unset).toArray = ls at hl ⊢
  have hl : lv_has ls 6 [(0, .ref (aa 4)), (1, .int x), (2, .int y), (3, .int (nI r))] := hl
  obtain ⟨eK, b0, b1, b2, b3, b4, b5⟩ := id hI
  refine lv_iload_n hx hb d_O_writeCopies_0 rfl (lv_at hl 3 rfl) ?_
  refine lv_istore (lv' := [(4, .int (nI r)), (0, .ref (aa 4)), (1, .int x), (2, .int y), (3, .int (nI r))]) hx hb d_O_writeCopies_1 hl (by decide) rfl (fun ls hl => ?_)
  refine lv_iconst (v := 0) hx hb d_O_writeCopies_3 (by decide) ?_
  refine lv_istore (lv' := [(5, .int 0), (4, .int (nI r)), (0, .ref (aa 4)), (1, .int x), (2, .int y), (3, .int (nI r))]) hx hb d_O_writeCopies_4 hl (by decide) rfl (fun ls hl => ?_)
  have loop_6 : ∀ (k9 i : Nat), nn 3 + 1 ≤ i + k9 → i ≤ nn 3 → ∀ (H : Heap) (locs : List Loc), va_P (dC, dI) classes (wC aa cI cZ kn (ocF x y i (vv, r)).1) H → va_S (aN aa 22) s.heap H locs → ∀ (ls : Array Slot), lv_has ls 6 [(0, .ref (aa 4)), (1, .int x), (2, .int y), (3, .int (nI r)), (4, .int (nI (ocF x y i (vv, r)).2)), (5, .int (nI i))] → W p l e (headSpec (wB y_O_writeCopies b_O_writeCopies 6 (some .int)) ({ frames := 1, cells := 0, slots := 0, locals := 24 } : Room)).room s m [.ref (aa 4), .int x, .int y, .int (nI r)].toArray below meth c H locs 0 0 (MQ below (qW (some (.int (nI (ocF x y (nn 3) (vv, r)).2))) (aN aa 22) (fun H1 => va_P (dC, dI) classes (wC aa cI cZ kn (ocF x y (nn 3) (vv, r)).1) H1)) [.ref (aa 4), .int x, .int y, .int (nI r)].toArray s 0 0 (aN aa 22)) (F0 m 6 ls []) := by
    intro k9
    induction k9 with
    | zero => intro i  hk hi H locs hP hS ls hl; exact absurd hk (by omega)
    | succ k9 ih =>
      intro i  hk hi H locs hP hS ls hl
      have hD : va_D (aN aa 22) (wC aa cI cZ kn (ocF x y i (vv, r)).1) := wC_D (dD_aN hdD)
      refine lv_iload hx hb d_O_writeCopies_6 (lv_at hl 5 rfl) ?_
      refine lv_aload_n hx hb d_O_writeCopies_8 rfl (lv_at hl 0 rfl) ?_
      refine va_get (D := (dC, dI)) (ci := 2) (v := .int (kn 3)) (C := R_O) (T := F_O) (N := 4) hx hb hts i_O hown hK hP 4 rfl rfl 3 (by decide) (hts _ fl_O_21) (fun _ h9 => h9) rfl d_O_writeCopies_9 ?_
      refine lv_icmp_ge (tgt := 56) hx hb d_O_writeCopies_12 (by decide) (fun c_12 => ?_) (fun c_12 => ?_)
      · have hi2 : i = nn 3 := Nat.le_antisymm hi (geC (eK 3 (by decide)) c_12 (by omega) (by omega))
        refine lv_iload hx hb d_O_writeCopies_56 (lv_at hl 4 rfl) ?_
        have er : ((some (.int (nI (ocF x y (nn 3) (vv, r)).2))) : Option Value) = some (.int (nI (ocF x y i (vv, r)).2)) := by rw [← hi2]
        have hPe : va_P (dC, dI) classes (wC aa cI cZ kn (ocF x y (nn 3) (vv, r)).1) H := by rw [← hi2]; exact hP
        exact W.iret (v := (nI (ocF x y i (vv, r)).2)) hx hb hr (fun t ht hW => ⟨by rw [er], by rw [ht]; exact hPe, hS.F ht⟩) hS.2.2 d_O_writeCopies_58
      · have hi2 : i < nn 3 := ltC (eK 3 (by decide)) c_12 (by omega) (by omega)
        refine lv_aload_n hx hb d_O_writeCopies_15 rfl (lv_at hl 0 rfl) ?_
        refine va_get (D := (dC, dI)) (ci := 2) (v := .ref (aa 15)) (C := R_O) (T := F_O) (N := 4) hx hb hts i_O hown hK hP 4 rfl rfl 0 (by decide) (hts _ fl_O_9) (fun _ h9 => h9) rfl d_O_writeCopies_16 ?_
        refine lv_iload hx hb d_O_writeCopies_19 (lv_at hl 5 rfl) ?_
        refine va_iald hx hb hK hP 15 0 rfl rfl (vp_in_nI (by omega) (by omega)) d_O_writeCopies_21 ?_
        rw [nI_clamp (show i < 2 ^ 31 by omega)]
        refine lv_iload_n hx hb d_O_writeCopies_22 rfl (lv_at hl 1 rfl) ?_
        refine lv_icmp_ne (tgt := 50) hx hb d_O_writeCopies_23 (by decide) (fun c_23 => ?_) (fun c_23 => ?_)
        · refine lv_iinc (v := (nI (i + 1))) (lv' := [(5, .int (nI (i + 1))), (0, .ref (aa 4)), (1, .int x), (2, .int y), (3, .int (nI r)), (4, .int (nI (ocF x y i (vv, r)).2))]) hx hb d_O_writeCopies_50 hl (k := 5) rfl (nI_1 _) (by decide) rfl (fun ls hl => ?_)
          refine lv_goto (tgt := 6) hx hb d_O_writeCopies_53 (by decide) ?_
          have eo := ocF_f (y := y) c_23
          rw [← eo] at hl hP
          exact ih (i + 1) (by omega) (by omega) _ _ hP hS ls (lv_sub hl [1, 2, 3, 4, 5, 0] rfl)
        · have c_23 : (ocF x y i (vv, r)).1 9 i = x := by simpa using c_23
          have hr9 : (ocF x y i (vv, r)).2 < 60 := by
            have e1 := ocF_mono x y (vv, r) (i + 1) (nn 3 - (i + 1))
            rw [show i + 1 + (nn 3 - (i + 1)) = nn 3 by omega, ocF_t (y := y) c_23] at e1
            exact Nat.lt_of_lt_of_le (Nat.lt_succ_self _) (Nat.le_trans e1 hB)
          refine lv_aload_n hx hb d_O_writeCopies_26 rfl (lv_at hl 0 rfl) ?_
          refine lv_iload hx hb d_O_writeCopies_27 (lv_at hl 4 rfl) ?_
          refine lv_iload_n hx hb d_O_writeCopies_29 rfl (lv_at hl 2 rfl) ?_
          refine lv_aload_n hx hb d_O_writeCopies_30 rfl (lv_at hl 0 rfl) ?_
          refine va_get (D := (dC, dI)) (ci := 2) (v := .ref (aa 16)) (C := R_O) (T := F_O) (N := 4) hx hb hts i_O hown hK hP 4 rfl rfl 1 (by decide) (hts _ fl_O_15) (fun _ h9 => h9) rfl d_O_writeCopies_31 ?_
          refine lv_iload hx hb d_O_writeCopies_34 (lv_at hl 5 rfl) ?_
          refine va_iald hx hb hK hP 16 0 rfl rfl (vp_in_nI (by omega) (by omega)) d_O_writeCopies_36 ?_
          rw [nI_clamp (show i < 2 ^ 31 by omega)]
          refine lv_aload_n hx hb d_O_writeCopies_37 rfl (lv_at hl 0 rfl) ?_
          refine va_get (D := (dC, dI)) (ci := 2) (v := .ref (aa 17)) (C := R_O) (T := F_O) (N := 4) hx hb hts i_O hown hK hP 4 rfl rfl 2 (by decide) (hts _ fl_O_18) (fun _ h9 => h9) rfl d_O_writeCopies_38 ?_
          refine lv_iload hx hb d_O_writeCopies_41 (lv_at hl 5 rfl) ?_
          refine va_iald hx hb hK hP 17 0 rfl rfl (vp_in_nI (by omega) (by omega)) d_O_writeCopies_43 ?_
          rw [nI_clamp (show i < 2 ^ 31 by omega)]
          refine cW (W.runV (As := [.int (nI (ocF x y i (vv, r)).2), .int y, .int (((ocF x y i (vv, r)).1 10) i), .int (((ocF x y i (vv, r)).1 11) i)]) (rest := []) ⟨hx, hb, hml, hown, hts⟩ (c_O_write hP hdD hr9 y _ _) (cwV 4 hts (wB_goodV (fun _ h => h) ml_O_25 im_O_write se_O_write ini_O co_O_write) rfl rfl rfl (by decide +kernel) ⟨Nat.le_of_ble_eq_true rfl, Nat.le_of_ble_eq_true rfl⟩) (pV hK hP (ci := 2) (q0 := 4) rfl rfl _) rfl rfl hl.1 rfl (lv_room (Nat.le_of_ble_eq_true rfl)) d_O_writeCopies_44 ⟨Nat.zero_le _, Nat.zero_le _⟩) hS (fun _ h => h) (fun H locs hP hS _ _ => ?_)
          have hP : va_P (dC, dI) classes (wC aa cI cZ kn (owV (ocF x y i (vv, r)).1 ((ocF x y i (vv, r)).2) y (((ocF x y i (vv, r)).1 10) i) (((ocF x y i (vv, r)).1 11) i))) H := hP
          have hD : va_D (aN aa 22) (wC aa cI cZ kn (owV (ocF x y i (vv, r)).1 ((ocF x y i (vv, r)).2) y (((ocF x y i (vv, r)).1 10) i) (((ocF x y i (vv, r)).1 11) i))) := wC_D (dD_aN hdD)
          refine lv_iinc (v := (nI ((ocF x y i (vv, r)).2 + 1))) (lv' := [(4, .int (nI ((ocF x y i (vv, r)).2 + 1))), (0, .ref (aa 4)), (1, .int x), (2, .int y), (3, .int (nI r)), (5, .int (nI i))]) hx hb d_O_writeCopies_47 hl (k := 4) rfl (nI_1 _) (by decide) rfl (fun ls hl => ?_)
          refine lv_iinc (v := (nI (i + 1))) (lv' := [(5, .int (nI (i + 1))), (4, .int (nI ((ocF x y i (vv, r)).2 + 1))), (0, .ref (aa 4)), (1, .int x), (2, .int y), (3, .int (nI r))]) hx hb d_O_writeCopies_50 hl (k := 5) rfl (nI_1 _) (by decide) rfl (fun ls hl => ?_)
          refine lv_goto (tgt := 6) hx hb d_O_writeCopies_53 (by decide) ?_
          have eo := ocF_t (y := y) c_23
          rw [show (ocF x y i (vv, r)).2 + 1 = (ocF x y (i + 1) (vv, r)).2 by rw [eo]] at hl
          have hP : va_P (dC, dI) classes (wC aa cI cZ kn (ocF x y (i + 1) (vv, r)).1) H := by rw [eo]; exact hP
          exact ih (i + 1) (by omega) (by omega) _ _ hP hS ls (lv_sub hl [2, 3, 4, 5, 1, 0] rfl)
  exact loop_6 (nn 3 + 1) 0 (by omega) (by omega) _ _ hP hS ls (lv_sub hl [2, 3, 4, 5, 1, 0] rfl)
end
end
section
section
variable {l : Launch} {dC : Nat → ClassId} {dI : Nat → Nat → Nat} {H : Heap} {aa : Nat → Nat} {cI cZ cJ : ClassId} {kn : Nat → Int32} {vv : Nat → Nat → Int32} {nn : Nat → Nat}
set_option maxRecDepth 100000 in
set_option maxHeartbeats 4000000 in
theorem c_C_step_0 (hP : va_P (dC, dI) classes (wC aa cI cZ kn vv) H) (hdD : dD noT aa 22) {q : Nat} (hq : q < 200) (x : Int32) (ek : vv 12 q = 0)  : Met l y_C_step (wB y_C_step b_C_step 6 none) ({ frames := 1, cells := 0, slots := 0, locals := 24 } : Room) (rP [.ref (aa 0), .int (nI q), .int x] H (kK dC dI cI cZ cJ)) (qW none (aN aa 22) (fun H1 => va_P (dC, dI) classes (wC aa cI cZ (va_up kn 0 (kn 0 + x)) vv) H1)) 0 0 (aN aa 22) := by
  refine Met.ofW (cc := b_C_step) (maxL := 6) (ret := none) (by decide) rfl ?_
  intro p e s m args below meth c s₁ B hml hv
  obtain ⟨rfl, rfl, hK⟩ := hv
  have hx := B.exec
  have hb := B.bytes
  have hr := B.returns
  have hts0 := atoms_spec (ws := (wB y_C_step b_C_step 6 none)) B.pre
  have hts : ∀ w9 ∈ BG, w9.before [.ref (aa 0), .int (nI q), .int x].toArray s = true := fun w9 hw9 => hts0 w9 (List.mem_cons_of_mem _ hw9)
  have hown : s.vm.findClass R_C = some m.cls := findClass_of_methodNamed B.named
  have hlocks := B.notSynchronized
  have hK : va_K (dC, dI) classes [(cI, .int), (cZ, .boolean), (cJ, .long)] s := hK
  have hD : va_D (aN aa 22) (wC aa cI cZ kn vv) := wC_D (dD_aN hdD)
  have hS : va_S (aN aa 22) s.heap s.heap [] := va_S.rf
  have hl := lv_entry ([.ref (aa 0), .int (nI q), .int x]) (n := 6) (Nat.le_of_ble_eq_true rfl)
  rw [lg_entry_eq]
  generalize (lg_sl ([.ref (aa 0), .int (nI q), .int x]) ++ List.replicate (6 - (lg_sl ([.ref (aa 0), .int (nI q), .int x])).length) Slot.unset).toArray = ls at hl ⊢
  have hl : lv_has ls 6 [(0, .ref (aa 0)), (1, .int (nI q)), (2, .int x)] := hl
  refine lv_aload_n hx hb d_C_step_0 rfl (lv_at hl 0 rfl) ?_
  refine va_get (D := (dC, dI)) (ci := 0) (v := .ref (aa 5)) (C := R_C) (T := F_C) (N := 5) hx hb hts i_C hown hK hP 0 rfl rfl 4 (by decide) (hts _ fl_C_40) (fun _ h9 => h9) rfl d_C_step_1 ?_
  refine va_get (D := (dC, dI)) (ci := 1) (v := .ref (aa 19)) (C := R_H) (T := F_H) (N := 6) hx hb hts i_H hown hK hP 5 rfl rfl 1 (by decide) (hts _ fl_C_252) (fun _ h9 => h9) rfl d_C_step_4 ?_
  refine lv_iload_n hx hb d_C_step_7 rfl (lv_at hl 1 rfl) ?_
  refine va_iald hx hb hK hP 19 0 rfl rfl (vp_in_nI (by omega) (by omega)) d_C_step_8 ?_
  rw [nI_clamp (show q < 2 ^ 31 by omega)]
  refine lv_istore_n (lv' := [(3, .int ((vv 13) q)), (0, .ref (aa 0)), (1, .int (nI q)), (2, .int x)]) hx hb d_C_step_9 rfl hl (by decide) rfl (fun ls hl => ?_)
  refine lv_aload_n hx hb d_C_step_10 rfl (lv_at hl 1 rfl) ?_
  refine va_get (D := (dC, dI)) (ci := 0) (v := .ref (aa 5)) (C := R_C) (T := F_C) (N := 5) hx hb hts i_C hown hK hP 0 rfl rfl 4 (by decide) (hts _ fl_C_40) (fun _ h9 => h9) rfl d_C_step_11 ?_
  refine va_get (D := (dC, dI)) (ci := 1) (v := .ref (aa 20)) (C := R_H) (T := F_H) (N := 6) hx hb hts i_H hown hK hP 5 rfl rfl 2 (by decide) (hts _ fl_C_255) (fun _ h9 => h9) rfl d_C_step_14 ?_
  refine lv_iload_n hx hb d_C_step_17 rfl (lv_at hl 2 rfl) ?_
  refine va_iald hx hb hK hP 20 0 rfl rfl (vp_in_nI (by omega) (by omega)) d_C_step_18 ?_
  rw [nI_clamp (show q < 2 ^ 31 by omega)]
  refine lv_istore (lv' := [(4, .int ((vv 14) q)), (3, .int ((vv 13) q)), (0, .ref (aa 0)), (1, .int (nI q)), (2, .int x)]) hx hb d_C_step_19 hl (by decide) rfl (fun ls hl => ?_)
  refine lv_aload_n hx hb d_C_step_21 rfl (lv_at hl 2 rfl) ?_
  refine va_get (D := (dC, dI)) (ci := 0) (v := .ref (aa 5)) (C := R_C) (T := F_C) (N := 5) hx hb hts i_C hown hK hP 0 rfl rfl 4 (by decide) (hts _ fl_C_40) (fun _ h9 => h9) rfl d_C_step_22 ?_
  refine va_get (D := (dC, dI)) (ci := 1) (v := .ref (aa 21)) (C := R_H) (T := F_H) (N := 6) hx hb hts i_H hown hK hP 5 rfl rfl 3 (by decide) (hts _ fl_C_258) (fun _ h9 => h9) rfl d_C_step_25 ?_
  refine lv_iload_n hx hb d_C_step_28 rfl (lv_at hl 3 rfl) ?_
  refine va_iald hx hb hK hP 21 0 rfl rfl (vp_in_nI (by omega) (by omega)) d_C_step_29 ?_
  rw [nI_clamp (show q < 2 ^ 31 by omega)]
  refine lv_istore (lv' := [(5, .int ((vv 15) q)), (4, .int ((vv 14) q)), (3, .int ((vv 13) q)), (0, .ref (aa 0)), (1, .int (nI q)), (2, .int x)]) hx hb d_C_step_30 hl (by decide) rfl (fun ls hl => ?_)
  refine lv_aload_n hx hb d_C_step_32 rfl (lv_at hl 3 rfl) ?_
  refine va_get (D := (dC, dI)) (ci := 0) (v := .ref (aa 5)) (C := R_C) (T := F_C) (N := 5) hx hb hts i_C hown hK hP 0 rfl rfl 4 (by decide) (hts _ fl_C_40) (fun _ h9 => h9) rfl d_C_step_33 ?_
  refine va_get (D := (dC, dI)) (ci := 1) (v := .ref (aa 18)) (C := R_H) (T := F_H) (N := 6) hx hb hts i_H hown hK hP 5 rfl rfl 0 (by decide) (hts _ fl_C_261) (fun _ h9 => h9) rfl d_C_step_36 ?_
  refine lv_iload_n hx hb d_C_step_39 rfl (lv_at hl 4 rfl) ?_
  refine va_iald hx hb hK hP 18 0 rfl rfl (vp_in_nI (by omega) (by omega)) d_C_step_40 ?_
  rw [nI_clamp (show q < 2 ^ 31 by omega)]
  refine lv_tableIn (off := 47) (tgt := 88) hx hb d_C_step_41 (by rw [ek]; decide) (by rw [ek]; decide) (by rw [ek]; decide) (by decide) ?_
  refine lv_aload_n hx hb d_C_step_88 rfl (lv_at hl 3 rfl) ?_
  refine va_get (D := (dC, dI)) (ci := 0) (v := .ref (aa 1)) (C := R_C) (T := F_C) (N := 5) hx hb hts i_C hown hK hP 0 rfl rfl 0 (by decide) (hts _ fl_C_10) (fun _ h9 => h9) rfl d_C_step_89 ?_
  refine lv_dup hx hb d_C_step_92 rfl ?_
  refine va_get (D := (dC, dI)) (ci := 3) (v := .int (kn 0)) (C := R_S) (T := F_S) (N := 2) hx hb hts i_S hown hK hP 1 rfl rfl 1 (by decide) (hts _ fl_C_44) (fun _ h9 => h9) rfl d_C_step_93 ?_
  refine lv_iload_n hx hb d_C_step_96 rfl (lv_at hl 5 rfl) ?_
  refine lv_iadd hx hb d_C_step_97 ?_
  refine va_put (D := (dC, dI)) (ci := 3) (v := .int ((kn 0) + x)) (ty := .int) (C := R_S) (T := F_S) (N := 2) hx hb hts i_S ty_S tok_S n_S hown hK hP hD hS 1 rfl rfl 1 (by decide) (hts _ fl_C_44) (fun _ h9 => h9) rfl (by decide +kernel) rfl rfl (Nat.le_of_ble_eq_true rfl) d_C_step_98 (fun H locs hP hD hS => ?_)
  have hP : va_P (dC, dI) classes (wC aa cI cZ (va_up kn 0 ((kn 0) + x)) vv) H := hP
  have hD : va_D (aN aa 22) (wC aa cI cZ (va_up kn 0 ((kn 0) + x)) vv) := hD
  refine lv_goto (tgt := 221) hx hb d_C_step_101 (by decide) ?_
  have er : (none : Option Value) = none := by rfl
  have hPe : va_P (dC, dI) classes (wC aa cI cZ (va_up kn 0 (kn 0 + x)) vv) H := by exact hP
  exact W.vret hx hb hr (fun t ht hW => ⟨by rw [er], by rw [ht]; exact hPe, hS.F ht⟩) hS.2.2 d_C_step_221
set_option maxRecDepth 100000 in
set_option maxHeartbeats 4000000 in
theorem c_C_step_1 (hP : va_P (dC, dI) classes (wC aa cI cZ kn vv) H) (hdD : dD noT aa 22) {q : Nat} (hq : q < 200) (x : Int32) (ek : vv 12 q = 1)  : Met l y_C_step (wB y_C_step b_C_step 6 none) ({ frames := 1, cells := 0, slots := 0, locals := 24 } : Room) (rP [.ref (aa 0), .int (nI q), .int x] H (kK dC dI cI cZ cJ)) (qW none (aN aa 22) (fun H1 => va_P (dC, dI) classes (wC aa cI cZ (va_up kn 1 (kn 1 + x)) vv) H1)) 0 0 (aN aa 22) := by
  refine Met.ofW (cc := b_C_step) (maxL := 6) (ret := none) (by decide) rfl ?_
  intro p e s m args below meth c s₁ B hml hv
  obtain ⟨rfl, rfl, hK⟩ := hv
  have hx := B.exec
  have hb := B.bytes
  have hr := B.returns
  have hts0 := atoms_spec (ws := (wB y_C_step b_C_step 6 none)) B.pre
  have hts : ∀ w9 ∈ BG, w9.before [.ref (aa 0), .int (nI q), .int x].toArray s = true := fun w9 hw9 => hts0 w9 (List.mem_cons_of_mem _ hw9)
  have hown : s.vm.findClass R_C = some m.cls := findClass_of_methodNamed B.named
  have hlocks := B.notSynchronized
  have hK : va_K (dC, dI) classes [(cI, .int), (cZ, .boolean), (cJ, .long)] s := hK
  have hD : va_D (aN aa 22) (wC aa cI cZ kn vv) := wC_D (dD_aN hdD)
  have hS : va_S (aN aa 22) s.heap s.heap [] := va_S.rf
  have hl := lv_entry ([.ref (aa 0), .int (nI q), .int x]) (n := 6) (Nat.le_of_ble_eq_true rfl)
  rw [lg_entry_eq]
  generalize (lg_sl ([.ref (aa 0), .int (nI q), .int x]) ++ List.replicate (6 - (lg_sl ([.ref (aa 0), .int (nI q), .int x])).length) Slot.unset).toArray = ls at hl ⊢
  have hl : lv_has ls 6 [(0, .ref (aa 0)), (1, .int (nI q)), (2, .int x)] := hl
  refine lv_aload_n hx hb d_C_step_0 rfl (lv_at hl 0 rfl) ?_
  refine va_get (D := (dC, dI)) (ci := 0) (v := .ref (aa 5)) (C := R_C) (T := F_C) (N := 5) hx hb hts i_C hown hK hP 0 rfl rfl 4 (by decide) (hts _ fl_C_40) (fun _ h9 => h9) rfl d_C_step_1 ?_
  refine va_get (D := (dC, dI)) (ci := 1) (v := .ref (aa 19)) (C := R_H) (T := F_H) (N := 6) hx hb hts i_H hown hK hP 5 rfl rfl 1 (by decide) (hts _ fl_C_252) (fun _ h9 => h9) rfl d_C_step_4 ?_
  refine lv_iload_n hx hb d_C_step_7 rfl (lv_at hl 1 rfl) ?_
  refine va_iald hx hb hK hP 19 0 rfl rfl (vp_in_nI (by omega) (by omega)) d_C_step_8 ?_
  rw [nI_clamp (show q < 2 ^ 31 by omega)]
  refine lv_istore_n (lv' := [(3, .int ((vv 13) q)), (0, .ref (aa 0)), (1, .int (nI q)), (2, .int x)]) hx hb d_C_step_9 rfl hl (by decide) rfl (fun ls hl => ?_)
  refine lv_aload_n hx hb d_C_step_10 rfl (lv_at hl 1 rfl) ?_
  refine va_get (D := (dC, dI)) (ci := 0) (v := .ref (aa 5)) (C := R_C) (T := F_C) (N := 5) hx hb hts i_C hown hK hP 0 rfl rfl 4 (by decide) (hts _ fl_C_40) (fun _ h9 => h9) rfl d_C_step_11 ?_
  refine va_get (D := (dC, dI)) (ci := 1) (v := .ref (aa 20)) (C := R_H) (T := F_H) (N := 6) hx hb hts i_H hown hK hP 5 rfl rfl 2 (by decide) (hts _ fl_C_255) (fun _ h9 => h9) rfl d_C_step_14 ?_
  refine lv_iload_n hx hb d_C_step_17 rfl (lv_at hl 2 rfl) ?_
  refine va_iald hx hb hK hP 20 0 rfl rfl (vp_in_nI (by omega) (by omega)) d_C_step_18 ?_
  rw [nI_clamp (show q < 2 ^ 31 by omega)]
  refine lv_istore (lv' := [(4, .int ((vv 14) q)), (3, .int ((vv 13) q)), (0, .ref (aa 0)), (1, .int (nI q)), (2, .int x)]) hx hb d_C_step_19 hl (by decide) rfl (fun ls hl => ?_)
  refine lv_aload_n hx hb d_C_step_21 rfl (lv_at hl 2 rfl) ?_
  refine va_get (D := (dC, dI)) (ci := 0) (v := .ref (aa 5)) (C := R_C) (T := F_C) (N := 5) hx hb hts i_C hown hK hP 0 rfl rfl 4 (by decide) (hts _ fl_C_40) (fun _ h9 => h9) rfl d_C_step_22 ?_
  refine va_get (D := (dC, dI)) (ci := 1) (v := .ref (aa 21)) (C := R_H) (T := F_H) (N := 6) hx hb hts i_H hown hK hP 5 rfl rfl 3 (by decide) (hts _ fl_C_258) (fun _ h9 => h9) rfl d_C_step_25 ?_
  refine lv_iload_n hx hb d_C_step_28 rfl (lv_at hl 3 rfl) ?_
  refine va_iald hx hb hK hP 21 0 rfl rfl (vp_in_nI (by omega) (by omega)) d_C_step_29 ?_
  rw [nI_clamp (show q < 2 ^ 31 by omega)]
  refine lv_istore (lv' := [(5, .int ((vv 15) q)), (4, .int ((vv 14) q)), (3, .int ((vv 13) q)), (0, .ref (aa 0)), (1, .int (nI q)), (2, .int x)]) hx hb d_C_step_30 hl (by decide) rfl (fun ls hl => ?_)
  refine lv_aload_n hx hb d_C_step_32 rfl (lv_at hl 3 rfl) ?_
  refine va_get (D := (dC, dI)) (ci := 0) (v := .ref (aa 5)) (C := R_C) (T := F_C) (N := 5) hx hb hts i_C hown hK hP 0 rfl rfl 4 (by decide) (hts _ fl_C_40) (fun _ h9 => h9) rfl d_C_step_33 ?_
  refine va_get (D := (dC, dI)) (ci := 1) (v := .ref (aa 18)) (C := R_H) (T := F_H) (N := 6) hx hb hts i_H hown hK hP 5 rfl rfl 0 (by decide) (hts _ fl_C_261) (fun _ h9 => h9) rfl d_C_step_36 ?_
  refine lv_iload_n hx hb d_C_step_39 rfl (lv_at hl 4 rfl) ?_
  refine va_iald hx hb hK hP 18 0 rfl rfl (vp_in_nI (by omega) (by omega)) d_C_step_40 ?_
  rw [nI_clamp (show q < 2 ^ 31 by omega)]
  refine lv_tableIn (off := 63) (tgt := 104) hx hb d_C_step_41 (by rw [ek]; decide) (by rw [ek]; decide) (by rw [ek]; decide) (by decide) ?_
  refine lv_aload_n hx hb d_C_step_104 rfl (lv_at hl 3 rfl) ?_
  refine va_get (D := (dC, dI)) (ci := 0) (v := .ref (aa 2)) (C := R_C) (T := F_C) (N := 5) hx hb hts i_C hown hK hP 0 rfl rfl 1 (by decide) (hts _ fl_C_19) (fun _ h9 => h9) rfl d_C_step_105 ?_
  refine lv_dup hx hb d_C_step_108 rfl ?_
  refine va_get (D := (dC, dI)) (ci := 4) (v := .int (kn 1)) (C := R_T) (T := F_T) (N := 2) hx hb hts i_T hown hK hP 2 rfl rfl 1 (by decide) (hts _ fl_C_74) (fun _ h9 => h9) rfl d_C_step_109 ?_
  refine lv_iload_n hx hb d_C_step_112 rfl (lv_at hl 5 rfl) ?_
  refine lv_iadd hx hb d_C_step_113 ?_
  refine va_put (D := (dC, dI)) (ci := 4) (v := .int ((kn 1) + x)) (ty := .int) (C := R_T) (T := F_T) (N := 2) hx hb hts i_T ty_T tok_T n_T hown hK hP hD hS 2 rfl rfl 1 (by decide) (hts _ fl_C_74) (fun _ h9 => h9) rfl (by decide +kernel) rfl rfl (Nat.le_of_ble_eq_true rfl) d_C_step_114 (fun H locs hP hD hS => ?_)
  have hP : va_P (dC, dI) classes (wC aa cI cZ (va_up kn 1 ((kn 1) + x)) vv) H := hP
  have hD : va_D (aN aa 22) (wC aa cI cZ (va_up kn 1 ((kn 1) + x)) vv) := hD
  refine lv_goto (tgt := 221) hx hb d_C_step_117 (by decide) ?_
  have er : (none : Option Value) = none := by rfl
  have hPe : va_P (dC, dI) classes (wC aa cI cZ (va_up kn 1 (kn 1 + x)) vv) H := by exact hP
  exact W.vret hx hb hr (fun t ht hW => ⟨by rw [er], by rw [ht]; exact hPe, hS.F ht⟩) hS.2.2 d_C_step_221
set_option maxRecDepth 100000 in
set_option maxHeartbeats 4000000 in
theorem c_C_step_2 (hP : va_P (dC, dI) classes (wC aa cI cZ kn vv) H) (hdD : dD noT aa 22) {q : Nat} (hq : q < 200) (x : Int32) (ek : vv 12 q = 2)  : Met l y_C_step (wB y_C_step b_C_step 6 none) ({ frames := 1, cells := 0, slots := 0, locals := 24 } : Room) (rP [.ref (aa 0), .int (nI q), .int x] H (kK dC dI cI cZ cJ)) (qW none (aN aa 22) (fun H1 => va_P (dC, dI) classes (wC aa cI cZ (va_up (va_up kn 2 (kn 2 + x * vv 14 q)) 3 (kn 3 + x * vv 15 q)) vv) H1)) 0 0 (aN aa 22) := by
  refine Met.ofW (cc := b_C_step) (maxL := 6) (ret := none) (by decide) rfl ?_
  intro p e s m args below meth c s₁ B hml hv
  obtain ⟨rfl, rfl, hK⟩ := hv
  have hx := B.exec
  have hb := B.bytes
  have hr := B.returns
  have hts0 := atoms_spec (ws := (wB y_C_step b_C_step 6 none)) B.pre
  have hts : ∀ w9 ∈ BG, w9.before [.ref (aa 0), .int (nI q), .int x].toArray s = true := fun w9 hw9 => hts0 w9 (List.mem_cons_of_mem _ hw9)
  have hown : s.vm.findClass R_C = some m.cls := findClass_of_methodNamed B.named
  have hlocks := B.notSynchronized
  have hK : va_K (dC, dI) classes [(cI, .int), (cZ, .boolean), (cJ, .long)] s := hK
  have hD : va_D (aN aa 22) (wC aa cI cZ kn vv) := wC_D (dD_aN hdD)
  have hS : va_S (aN aa 22) s.heap s.heap [] := va_S.rf
  have hl := lv_entry ([.ref (aa 0), .int (nI q), .int x]) (n := 6) (Nat.le_of_ble_eq_true rfl)
  rw [lg_entry_eq]
  generalize (lg_sl ([.ref (aa 0), .int (nI q), .int x]) ++ List.replicate (6 - (lg_sl ([.ref (aa 0), .int (nI q), .int x])).length) Slot.unset).toArray = ls at hl ⊢
  have hl : lv_has ls 6 [(0, .ref (aa 0)), (1, .int (nI q)), (2, .int x)] := hl
  refine lv_aload_n hx hb d_C_step_0 rfl (lv_at hl 0 rfl) ?_
  refine va_get (D := (dC, dI)) (ci := 0) (v := .ref (aa 5)) (C := R_C) (T := F_C) (N := 5) hx hb hts i_C hown hK hP 0 rfl rfl 4 (by decide) (hts _ fl_C_40) (fun _ h9 => h9) rfl d_C_step_1 ?_
  refine va_get (D := (dC, dI)) (ci := 1) (v := .ref (aa 19)) (C := R_H) (T := F_H) (N := 6) hx hb hts i_H hown hK hP 5 rfl rfl 1 (by decide) (hts _ fl_C_252) (fun _ h9 => h9) rfl d_C_step_4 ?_
  refine lv_iload_n hx hb d_C_step_7 rfl (lv_at hl 1 rfl) ?_
  refine va_iald hx hb hK hP 19 0 rfl rfl (vp_in_nI (by omega) (by omega)) d_C_step_8 ?_
  rw [nI_clamp (show q < 2 ^ 31 by omega)]
  refine lv_istore_n (lv' := [(3, .int ((vv 13) q)), (0, .ref (aa 0)), (1, .int (nI q)), (2, .int x)]) hx hb d_C_step_9 rfl hl (by decide) rfl (fun ls hl => ?_)
  refine lv_aload_n hx hb d_C_step_10 rfl (lv_at hl 1 rfl) ?_
  refine va_get (D := (dC, dI)) (ci := 0) (v := .ref (aa 5)) (C := R_C) (T := F_C) (N := 5) hx hb hts i_C hown hK hP 0 rfl rfl 4 (by decide) (hts _ fl_C_40) (fun _ h9 => h9) rfl d_C_step_11 ?_
  refine va_get (D := (dC, dI)) (ci := 1) (v := .ref (aa 20)) (C := R_H) (T := F_H) (N := 6) hx hb hts i_H hown hK hP 5 rfl rfl 2 (by decide) (hts _ fl_C_255) (fun _ h9 => h9) rfl d_C_step_14 ?_
  refine lv_iload_n hx hb d_C_step_17 rfl (lv_at hl 2 rfl) ?_
  refine va_iald hx hb hK hP 20 0 rfl rfl (vp_in_nI (by omega) (by omega)) d_C_step_18 ?_
  rw [nI_clamp (show q < 2 ^ 31 by omega)]
  refine lv_istore (lv' := [(4, .int ((vv 14) q)), (3, .int ((vv 13) q)), (0, .ref (aa 0)), (1, .int (nI q)), (2, .int x)]) hx hb d_C_step_19 hl (by decide) rfl (fun ls hl => ?_)
  refine lv_aload_n hx hb d_C_step_21 rfl (lv_at hl 2 rfl) ?_
  refine va_get (D := (dC, dI)) (ci := 0) (v := .ref (aa 5)) (C := R_C) (T := F_C) (N := 5) hx hb hts i_C hown hK hP 0 rfl rfl 4 (by decide) (hts _ fl_C_40) (fun _ h9 => h9) rfl d_C_step_22 ?_
  refine va_get (D := (dC, dI)) (ci := 1) (v := .ref (aa 21)) (C := R_H) (T := F_H) (N := 6) hx hb hts i_H hown hK hP 5 rfl rfl 3 (by decide) (hts _ fl_C_258) (fun _ h9 => h9) rfl d_C_step_25 ?_
  refine lv_iload_n hx hb d_C_step_28 rfl (lv_at hl 3 rfl) ?_
  refine va_iald hx hb hK hP 21 0 rfl rfl (vp_in_nI (by omega) (by omega)) d_C_step_29 ?_
  rw [nI_clamp (show q < 2 ^ 31 by omega)]
  refine lv_istore (lv' := [(5, .int ((vv 15) q)), (4, .int ((vv 14) q)), (3, .int ((vv 13) q)), (0, .ref (aa 0)), (1, .int (nI q)), (2, .int x)]) hx hb d_C_step_30 hl (by decide) rfl (fun ls hl => ?_)
  refine lv_aload_n hx hb d_C_step_32 rfl (lv_at hl 3 rfl) ?_
  refine va_get (D := (dC, dI)) (ci := 0) (v := .ref (aa 5)) (C := R_C) (T := F_C) (N := 5) hx hb hts i_C hown hK hP 0 rfl rfl 4 (by decide) (hts _ fl_C_40) (fun _ h9 => h9) rfl d_C_step_33 ?_
  refine va_get (D := (dC, dI)) (ci := 1) (v := .ref (aa 18)) (C := R_H) (T := F_H) (N := 6) hx hb hts i_H hown hK hP 5 rfl rfl 0 (by decide) (hts _ fl_C_261) (fun _ h9 => h9) rfl d_C_step_36 ?_
  refine lv_iload_n hx hb d_C_step_39 rfl (lv_at hl 4 rfl) ?_
  refine va_iald hx hb hK hP 18 0 rfl rfl (vp_in_nI (by omega) (by omega)) d_C_step_40 ?_
  rw [nI_clamp (show q < 2 ^ 31 by omega)]
  refine lv_tableIn (off := 79) (tgt := 120) hx hb d_C_step_41 (by rw [ek]; decide) (by rw [ek]; decide) (by rw [ek]; decide) (by decide) ?_
  refine lv_aload_n hx hb d_C_step_120 rfl (lv_at hl 3 rfl) ?_
  refine va_get (D := (dC, dI)) (ci := 0) (v := .ref (aa 3)) (C := R_C) (T := F_C) (N := 5) hx hb hts i_C hown hK hP 0 rfl rfl 2 (by decide) (hts _ fl_C_26) (fun _ h9 => h9) rfl d_C_step_121 ?_
  refine lv_dup hx hb d_C_step_124 rfl ?_
  refine va_get (D := (dC, dI)) (ci := 5) (v := .int (kn 2)) (C := R_W) (T := F_W) (N := 8) hx hb hts i_W hown hK hP 3 rfl rfl 7 (by decide) (hts _ fl_C_95) (fun _ h9 => h9) rfl d_C_step_125 ?_
  refine lv_iload_n hx hb d_C_step_128 rfl (lv_at hl 5 rfl) ?_
  refine lv_iload hx hb d_C_step_129 (lv_at hl 1 rfl) ?_
  refine lv_imul hx hb d_C_step_131 ?_
  refine lv_iadd hx hb d_C_step_132 ?_
  refine va_put (D := (dC, dI)) (ci := 5) (v := .int ((kn 2) + (x * ((vv 14) q)))) (ty := .int) (C := R_W) (T := F_W) (N := 8) hx hb hts i_W ty_W tok_W n_W hown hK hP hD hS 3 rfl rfl 7 (by decide) (hts _ fl_C_95) (fun _ h9 => h9) rfl (by decide +kernel) rfl rfl (Nat.le_of_ble_eq_true rfl) d_C_step_133 (fun H locs hP hD hS => ?_)
  have hP : va_P (dC, dI) classes (wC aa cI cZ (va_up kn 2 ((kn 2) + (x * ((vv 14) q)))) vv) H := hP
  have hD : va_D (aN aa 22) (wC aa cI cZ (va_up kn 2 ((kn 2) + (x * ((vv 14) q)))) vv) := hD
  refine lv_aload_n hx hb d_C_step_136 rfl (lv_at hl 3 rfl) ?_
  refine va_get (D := (dC, dI)) (ci := 0) (v := .ref (aa 4)) (C := R_C) (T := F_C) (N := 5) hx hb hts i_C hown hK hP 0 rfl rfl 3 (by decide) (hts _ fl_C_33) (fun _ h9 => h9) rfl d_C_step_137 ?_
  refine lv_dup hx hb d_C_step_140 rfl ?_
  refine va_get (D := (dC, dI)) (ci := 2) (v := .int (kn 3)) (C := R_O) (T := F_O) (N := 4) hx hb hts i_O hown hK hP 4 rfl rfl 3 (by decide) (hts _ fl_C_123) (fun _ h9 => h9) rfl d_C_step_141 ?_
  refine lv_iload_n hx hb d_C_step_144 rfl (lv_at hl 5 rfl) ?_
  refine lv_iload hx hb d_C_step_145 (lv_at hl 0 rfl) ?_
  refine lv_imul hx hb d_C_step_147 ?_
  refine lv_iadd hx hb d_C_step_148 ?_
  refine va_put (D := (dC, dI)) (ci := 2) (v := .int ((kn 3) + (x * ((vv 15) q)))) (ty := .int) (C := R_O) (T := F_O) (N := 4) hx hb hts i_O ty_O tok_O n_O hown hK hP hD hS 4 rfl rfl 3 (by decide) (hts _ fl_C_123) (fun _ h9 => h9) rfl (by decide +kernel) rfl rfl (Nat.le_of_ble_eq_true rfl) d_C_step_149 (fun H locs hP hD hS => ?_)
  have hP : va_P (dC, dI) classes (wC aa cI cZ (va_up (va_up kn 2 ((kn 2) + (x * ((vv 14) q)))) 3 ((kn 3) + (x * ((vv 15) q)))) vv) H := hP
  have hD : va_D (aN aa 22) (wC aa cI cZ (va_up (va_up kn 2 ((kn 2) + (x * ((vv 14) q)))) 3 ((kn 3) + (x * ((vv 15) q)))) vv) := hD
  refine lv_goto (tgt := 221) hx hb d_C_step_152 (by decide) ?_
  have er : (none : Option Value) = none := by rfl
  have hPe : va_P (dC, dI) classes (wC aa cI cZ (va_up (va_up kn 2 (kn 2 + x * vv 14 q)) 3 (kn 3 + x * vv 15 q)) vv) H := by exact hP
  exact W.vret hx hb hr (fun t ht hW => ⟨by rw [er], by rw [ht]; exact hPe, hS.F ht⟩) hS.2.2 d_C_step_221
set_option maxRecDepth 100000 in
set_option maxHeartbeats 4000000 in
theorem c_C_step_3 (hP : va_P (dC, dI) classes (wC aa cI cZ kn vv) H) (hdD : dD noT aa 22) {q : Nat} (hq : q < 200) (x : Int32) (ek : vv 12 q = 3) {t : Nat} (et : vv 13 q = nI t) (ht : t < 6) : Met l y_C_step (wB y_C_step b_C_step 6 none) ({ frames := 1, cells := 0, slots := 0, locals := 24 } : Room) (rP [.ref (aa 0), .int (nI q), .int x] H (kK dC dI cI cZ cJ)) (qW none (aN aa 22) (fun H1 => va_P (dC, dI) classes (wC aa cI cZ kn (u1 (exV vv 3 t (vv 14 q)) 14 q (exR vv 3 t))) H1)) 0 0 (aN aa 22) := by
  refine Met.ofW (cc := b_C_step) (maxL := 6) (ret := none) (by decide) rfl ?_
  intro p e s m args below meth c s₁ B hml hv
  obtain ⟨rfl, rfl, hK⟩ := hv
  have hx := B.exec
  have hb := B.bytes
  have hr := B.returns
  have hts0 := atoms_spec (ws := (wB y_C_step b_C_step 6 none)) B.pre
  have hts : ∀ w9 ∈ BG, w9.before [.ref (aa 0), .int (nI q), .int x].toArray s = true := fun w9 hw9 => hts0 w9 (List.mem_cons_of_mem _ hw9)
  have hown : s.vm.findClass R_C = some m.cls := findClass_of_methodNamed B.named
  have hlocks := B.notSynchronized
  have hK : va_K (dC, dI) classes [(cI, .int), (cZ, .boolean), (cJ, .long)] s := hK
  have hD : va_D (aN aa 22) (wC aa cI cZ kn vv) := wC_D (dD_aN hdD)
  have hS : va_S (aN aa 22) s.heap s.heap [] := va_S.rf
  have hl := lv_entry ([.ref (aa 0), .int (nI q), .int x]) (n := 6) (Nat.le_of_ble_eq_true rfl)
  rw [lg_entry_eq]
  generalize (lg_sl ([.ref (aa 0), .int (nI q), .int x]) ++ List.replicate (6 - (lg_sl ([.ref (aa 0), .int (nI q), .int x])).length) Slot.unset).toArray = ls at hl ⊢
  have hl : lv_has ls 6 [(0, .ref (aa 0)), (1, .int (nI q)), (2, .int x)] := hl
  refine lv_aload_n hx hb d_C_step_0 rfl (lv_at hl 0 rfl) ?_
  refine va_get (D := (dC, dI)) (ci := 0) (v := .ref (aa 5)) (C := R_C) (T := F_C) (N := 5) hx hb hts i_C hown hK hP 0 rfl rfl 4 (by decide) (hts _ fl_C_40) (fun _ h9 => h9) rfl d_C_step_1 ?_
  refine va_get (D := (dC, dI)) (ci := 1) (v := .ref (aa 19)) (C := R_H) (T := F_H) (N := 6) hx hb hts i_H hown hK hP 5 rfl rfl 1 (by decide) (hts _ fl_C_252) (fun _ h9 => h9) rfl d_C_step_4 ?_
  refine lv_iload_n hx hb d_C_step_7 rfl (lv_at hl 1 rfl) ?_
  refine va_iald hx hb hK hP 19 0 rfl rfl (vp_in_nI (by omega) (by omega)) d_C_step_8 ?_
  rw [nI_clamp (show q < 2 ^ 31 by omega)]
  rw [et]
  refine lv_istore_n (lv' := [(3, .int (nI t)), (0, .ref (aa 0)), (1, .int (nI q)), (2, .int x)]) hx hb d_C_step_9 rfl hl (by decide) rfl (fun ls hl => ?_)
  refine lv_aload_n hx hb d_C_step_10 rfl (lv_at hl 1 rfl) ?_
  refine va_get (D := (dC, dI)) (ci := 0) (v := .ref (aa 5)) (C := R_C) (T := F_C) (N := 5) hx hb hts i_C hown hK hP 0 rfl rfl 4 (by decide) (hts _ fl_C_40) (fun _ h9 => h9) rfl d_C_step_11 ?_
  refine va_get (D := (dC, dI)) (ci := 1) (v := .ref (aa 20)) (C := R_H) (T := F_H) (N := 6) hx hb hts i_H hown hK hP 5 rfl rfl 2 (by decide) (hts _ fl_C_255) (fun _ h9 => h9) rfl d_C_step_14 ?_
  refine lv_iload_n hx hb d_C_step_17 rfl (lv_at hl 2 rfl) ?_
  refine va_iald hx hb hK hP 20 0 rfl rfl (vp_in_nI (by omega) (by omega)) d_C_step_18 ?_
  rw [nI_clamp (show q < 2 ^ 31 by omega)]
  refine lv_istore (lv' := [(4, .int ((vv 14) q)), (3, .int (nI t)), (0, .ref (aa 0)), (1, .int (nI q)), (2, .int x)]) hx hb d_C_step_19 hl (by decide) rfl (fun ls hl => ?_)
  refine lv_aload_n hx hb d_C_step_21 rfl (lv_at hl 2 rfl) ?_
  refine va_get (D := (dC, dI)) (ci := 0) (v := .ref (aa 5)) (C := R_C) (T := F_C) (N := 5) hx hb hts i_C hown hK hP 0 rfl rfl 4 (by decide) (hts _ fl_C_40) (fun _ h9 => h9) rfl d_C_step_22 ?_
  refine va_get (D := (dC, dI)) (ci := 1) (v := .ref (aa 21)) (C := R_H) (T := F_H) (N := 6) hx hb hts i_H hown hK hP 5 rfl rfl 3 (by decide) (hts _ fl_C_258) (fun _ h9 => h9) rfl d_C_step_25 ?_
  refine lv_iload_n hx hb d_C_step_28 rfl (lv_at hl 3 rfl) ?_
  refine va_iald hx hb hK hP 21 0 rfl rfl (vp_in_nI (by omega) (by omega)) d_C_step_29 ?_
  rw [nI_clamp (show q < 2 ^ 31 by omega)]
  refine lv_istore (lv' := [(5, .int ((vv 15) q)), (4, .int ((vv 14) q)), (3, .int (nI t)), (0, .ref (aa 0)), (1, .int (nI q)), (2, .int x)]) hx hb d_C_step_30 hl (by decide) rfl (fun ls hl => ?_)
  refine lv_aload_n hx hb d_C_step_32 rfl (lv_at hl 3 rfl) ?_
  refine va_get (D := (dC, dI)) (ci := 0) (v := .ref (aa 5)) (C := R_C) (T := F_C) (N := 5) hx hb hts i_C hown hK hP 0 rfl rfl 4 (by decide) (hts _ fl_C_40) (fun _ h9 => h9) rfl d_C_step_33 ?_
  refine va_get (D := (dC, dI)) (ci := 1) (v := .ref (aa 18)) (C := R_H) (T := F_H) (N := 6) hx hb hts i_H hown hK hP 5 rfl rfl 0 (by decide) (hts _ fl_C_261) (fun _ h9 => h9) rfl d_C_step_36 ?_
  refine lv_iload_n hx hb d_C_step_39 rfl (lv_at hl 4 rfl) ?_
  refine va_iald hx hb hK hP 18 0 rfl rfl (vp_in_nI (by omega) (by omega)) d_C_step_40 ?_
  rw [nI_clamp (show q < 2 ^ 31 by omega)]
  refine lv_tableIn (off := 155) (tgt := 196) hx hb d_C_step_41 (by rw [ek]; decide) (by rw [ek]; decide) (by rw [ek]; decide) (by decide) ?_
  refine lv_aload_n hx hb d_C_step_196 rfl (lv_at hl 3 rfl) ?_
  refine va_get (D := (dC, dI)) (ci := 0) (v := .ref (aa 5)) (C := R_C) (T := F_C) (N := 5) hx hb hts i_C hown hK hP 0 rfl rfl 4 (by decide) (hts _ fl_C_40) (fun _ h9 => h9) rfl d_C_step_197 ?_
  refine va_get (D := (dC, dI)) (ci := 1) (v := .ref (aa 20)) (C := R_H) (T := F_H) (N := 6) hx hb hts i_H hown hK hP 5 rfl rfl 2 (by decide) (hts _ fl_C_255) (fun _ h9 => h9) rfl d_C_step_200 ?_
  refine lv_iload_n hx hb d_C_step_203 rfl (lv_at hl 4 rfl) ?_
  refine lv_aload_n hx hb d_C_step_204 rfl (lv_at hl 3 rfl) ?_
  refine lv_aload_n hx hb d_C_step_205 rfl (lv_at hl 3 rfl) ?_
  refine va_get (D := (dC, dI)) (ci := 0) (v := .ref (aa 5)) (C := R_C) (T := F_C) (N := 5) hx hb hts i_C hown hK hP 0 rfl rfl 4 (by decide) (hts _ fl_C_40) (fun _ h9 => h9) rfl d_C_step_206 ?_
  refine va_get (D := (dC, dI)) (ci := 1) (v := .ref (aa 18)) (C := R_H) (T := F_H) (N := 6) hx hb hts i_H hown hK hP 5 rfl rfl 0 (by decide) (hts _ fl_C_261) (fun _ h9 => h9) rfl d_C_step_209 ?_
  refine lv_iload_n hx hb d_C_step_212 rfl (lv_at hl 4 rfl) ?_
  refine va_iald hx hb hK hP 18 0 rfl rfl (vp_in_nI (by omega) (by omega)) d_C_step_213 ?_
  rw [nI_clamp (show q < 2 ^ 31 by omega)]
  rw [ek]
  refine lv_iload_n hx hb d_C_step_214 rfl (lv_at hl 2 rfl) ?_
  refine lv_iload hx hb d_C_step_215 (lv_at hl 1 rfl) ?_
  refine cW (W.runV (As := [.int 3, .int (nI t), .int ((vv 14) q)]) (rest := [.int (nI q), .ref (aa 20)]) ⟨hx, hb, hml, hown, hts⟩ (c_C_exchange hP hdD 3 _ (fun h => by first | exact ht | omega | exact absurd h (by decide)) (fun h => by first | exact ht | omega | exact absurd h (by decide)) (by omega)) (cwV 3 hts (wB_goodV (fun _ h => h) ml_C_272 im_C_exchange se_C_exchange ini_C co_C_exchange) rfl rfl rfl (by decide +kernel) ⟨Nat.le_of_ble_eq_true rfl, Nat.le_of_ble_eq_true rfl⟩) (pV hK hP (ci := 0) (q0 := 0) rfl rfl _) rfl rfl hl.1 rfl (lv_room (Nat.le_of_ble_eq_true rfl)) d_C_step_217 ⟨Nat.zero_le _, Nat.zero_le _⟩) hS (fun _ h => h) (fun H locs hP hS _ _ => ?_)
  have hP : va_P (dC, dI) classes (wC aa cI cZ kn (exV vv 3 t ((vv 14) q))) H := hP
  have hD : va_D (aN aa 22) (wC aa cI cZ kn (exV vv 3 t ((vv 14) q))) := wC_D (dD_aN hdD)
  refine va_iast hx hb hK hP hD hS 20 0 rfl rfl (vp_in_nI (by omega) (by omega)) d_C_step_220 (fun H locs hP hD hS => ?_)
  rw [nI_clamp (show q < 2 ^ 31 by omega)] at hP hD
  have hP : va_P (dC, dI) classes (wC aa cI cZ kn (va_up (exV vv 3 t ((vv 14) q)) 14 (upd ((exV vv 3 t ((vv 14) q)) 14) q (exR vv 3 t)))) H := hP
  have hD : va_D (aN aa 22) (wC aa cI cZ kn (va_up (exV vv 3 t ((vv 14) q)) 14 (upd ((exV vv 3 t ((vv 14) q)) 14) q (exR vv 3 t)))) := hD
  have er : (none : Option Value) = none := by rfl
  have hPe : va_P (dC, dI) classes (wC aa cI cZ kn (u1 (exV vv 3 t (vv 14 q)) 14 q (exR vv 3 t))) H := by exact hP
  exact W.vret hx hb hr (fun t ht hW => ⟨by rw [er], by rw [ht]; exact hPe, hS.F ht⟩) hS.2.2 d_C_step_221
set_option maxRecDepth 100000 in
set_option maxHeartbeats 4000000 in
theorem c_C_step_4 (hP : va_P (dC, dI) classes (wC aa cI cZ kn vv) H) (hdD : dD noT aa 22) {q : Nat} (hq : q < 200) (x : Int32) (ek : vv 12 q = 4) {t : Nat} (et : vv 13 q = nI t) (ht : t < 8) : Met l y_C_step (wB y_C_step b_C_step 6 none) ({ frames := 1, cells := 0, slots := 0, locals := 24 } : Room) (rP [.ref (aa 0), .int (nI q), .int x] H (kK dC dI cI cZ cJ)) (qW none (aN aa 22) (fun H1 => va_P (dC, dI) classes (wC aa cI cZ kn (u1 (exV vv 4 t (vv 14 q)) 14 q (exR vv 4 t))) H1)) 0 0 (aN aa 22) := by
  refine Met.ofW (cc := b_C_step) (maxL := 6) (ret := none) (by decide) rfl ?_
  intro p e s m args below meth c s₁ B hml hv
  obtain ⟨rfl, rfl, hK⟩ := hv
  have hx := B.exec
  have hb := B.bytes
  have hr := B.returns
  have hts0 := atoms_spec (ws := (wB y_C_step b_C_step 6 none)) B.pre
  have hts : ∀ w9 ∈ BG, w9.before [.ref (aa 0), .int (nI q), .int x].toArray s = true := fun w9 hw9 => hts0 w9 (List.mem_cons_of_mem _ hw9)
  have hown : s.vm.findClass R_C = some m.cls := findClass_of_methodNamed B.named
  have hlocks := B.notSynchronized
  have hK : va_K (dC, dI) classes [(cI, .int), (cZ, .boolean), (cJ, .long)] s := hK
  have hD : va_D (aN aa 22) (wC aa cI cZ kn vv) := wC_D (dD_aN hdD)
  have hS : va_S (aN aa 22) s.heap s.heap [] := va_S.rf
  have hl := lv_entry ([.ref (aa 0), .int (nI q), .int x]) (n := 6) (Nat.le_of_ble_eq_true rfl)
  rw [lg_entry_eq]
  generalize (lg_sl ([.ref (aa 0), .int (nI q), .int x]) ++ List.replicate (6 - (lg_sl ([.ref (aa 0), .int (nI q), .int x])).length) Slot.unset).toArray = ls at hl ⊢
  have hl : lv_has ls 6 [(0, .ref (aa 0)), (1, .int (nI q)), (2, .int x)] := hl
  refine lv_aload_n hx hb d_C_step_0 rfl (lv_at hl 0 rfl) ?_
  refine va_get (D := (dC, dI)) (ci := 0) (v := .ref (aa 5)) (C := R_C) (T := F_C) (N := 5) hx hb hts i_C hown hK hP 0 rfl rfl 4 (by decide) (hts _ fl_C_40) (fun _ h9 => h9) rfl d_C_step_1 ?_
  refine va_get (D := (dC, dI)) (ci := 1) (v := .ref (aa 19)) (C := R_H) (T := F_H) (N := 6) hx hb hts i_H hown hK hP 5 rfl rfl 1 (by decide) (hts _ fl_C_252) (fun _ h9 => h9) rfl d_C_step_4 ?_
  refine lv_iload_n hx hb d_C_step_7 rfl (lv_at hl 1 rfl) ?_
  refine va_iald hx hb hK hP 19 0 rfl rfl (vp_in_nI (by omega) (by omega)) d_C_step_8 ?_
  rw [nI_clamp (show q < 2 ^ 31 by omega)]
  rw [et]
  refine lv_istore_n (lv' := [(3, .int (nI t)), (0, .ref (aa 0)), (1, .int (nI q)), (2, .int x)]) hx hb d_C_step_9 rfl hl (by decide) rfl (fun ls hl => ?_)
  refine lv_aload_n hx hb d_C_step_10 rfl (lv_at hl 1 rfl) ?_
  refine va_get (D := (dC, dI)) (ci := 0) (v := .ref (aa 5)) (C := R_C) (T := F_C) (N := 5) hx hb hts i_C hown hK hP 0 rfl rfl 4 (by decide) (hts _ fl_C_40) (fun _ h9 => h9) rfl d_C_step_11 ?_
  refine va_get (D := (dC, dI)) (ci := 1) (v := .ref (aa 20)) (C := R_H) (T := F_H) (N := 6) hx hb hts i_H hown hK hP 5 rfl rfl 2 (by decide) (hts _ fl_C_255) (fun _ h9 => h9) rfl d_C_step_14 ?_
  refine lv_iload_n hx hb d_C_step_17 rfl (lv_at hl 2 rfl) ?_
  refine va_iald hx hb hK hP 20 0 rfl rfl (vp_in_nI (by omega) (by omega)) d_C_step_18 ?_
  rw [nI_clamp (show q < 2 ^ 31 by omega)]
  refine lv_istore (lv' := [(4, .int ((vv 14) q)), (3, .int (nI t)), (0, .ref (aa 0)), (1, .int (nI q)), (2, .int x)]) hx hb d_C_step_19 hl (by decide) rfl (fun ls hl => ?_)
  refine lv_aload_n hx hb d_C_step_21 rfl (lv_at hl 2 rfl) ?_
  refine va_get (D := (dC, dI)) (ci := 0) (v := .ref (aa 5)) (C := R_C) (T := F_C) (N := 5) hx hb hts i_C hown hK hP 0 rfl rfl 4 (by decide) (hts _ fl_C_40) (fun _ h9 => h9) rfl d_C_step_22 ?_
  refine va_get (D := (dC, dI)) (ci := 1) (v := .ref (aa 21)) (C := R_H) (T := F_H) (N := 6) hx hb hts i_H hown hK hP 5 rfl rfl 3 (by decide) (hts _ fl_C_258) (fun _ h9 => h9) rfl d_C_step_25 ?_
  refine lv_iload_n hx hb d_C_step_28 rfl (lv_at hl 3 rfl) ?_
  refine va_iald hx hb hK hP 21 0 rfl rfl (vp_in_nI (by omega) (by omega)) d_C_step_29 ?_
  rw [nI_clamp (show q < 2 ^ 31 by omega)]
  refine lv_istore (lv' := [(5, .int ((vv 15) q)), (4, .int ((vv 14) q)), (3, .int (nI t)), (0, .ref (aa 0)), (1, .int (nI q)), (2, .int x)]) hx hb d_C_step_30 hl (by decide) rfl (fun ls hl => ?_)
  refine lv_aload_n hx hb d_C_step_32 rfl (lv_at hl 3 rfl) ?_
  refine va_get (D := (dC, dI)) (ci := 0) (v := .ref (aa 5)) (C := R_C) (T := F_C) (N := 5) hx hb hts i_C hown hK hP 0 rfl rfl 4 (by decide) (hts _ fl_C_40) (fun _ h9 => h9) rfl d_C_step_33 ?_
  refine va_get (D := (dC, dI)) (ci := 1) (v := .ref (aa 18)) (C := R_H) (T := F_H) (N := 6) hx hb hts i_H hown hK hP 5 rfl rfl 0 (by decide) (hts _ fl_C_261) (fun _ h9 => h9) rfl d_C_step_36 ?_
  refine lv_iload_n hx hb d_C_step_39 rfl (lv_at hl 4 rfl) ?_
  refine va_iald hx hb hK hP 18 0 rfl rfl (vp_in_nI (by omega) (by omega)) d_C_step_40 ?_
  rw [nI_clamp (show q < 2 ^ 31 by omega)]
  refine lv_tableIn (off := 155) (tgt := 196) hx hb d_C_step_41 (by rw [ek]; decide) (by rw [ek]; decide) (by rw [ek]; decide) (by decide) ?_
  refine lv_aload_n hx hb d_C_step_196 rfl (lv_at hl 3 rfl) ?_
  refine va_get (D := (dC, dI)) (ci := 0) (v := .ref (aa 5)) (C := R_C) (T := F_C) (N := 5) hx hb hts i_C hown hK hP 0 rfl rfl 4 (by decide) (hts _ fl_C_40) (fun _ h9 => h9) rfl d_C_step_197 ?_
  refine va_get (D := (dC, dI)) (ci := 1) (v := .ref (aa 20)) (C := R_H) (T := F_H) (N := 6) hx hb hts i_H hown hK hP 5 rfl rfl 2 (by decide) (hts _ fl_C_255) (fun _ h9 => h9) rfl d_C_step_200 ?_
  refine lv_iload_n hx hb d_C_step_203 rfl (lv_at hl 4 rfl) ?_
  refine lv_aload_n hx hb d_C_step_204 rfl (lv_at hl 3 rfl) ?_
  refine lv_aload_n hx hb d_C_step_205 rfl (lv_at hl 3 rfl) ?_
  refine va_get (D := (dC, dI)) (ci := 0) (v := .ref (aa 5)) (C := R_C) (T := F_C) (N := 5) hx hb hts i_C hown hK hP 0 rfl rfl 4 (by decide) (hts _ fl_C_40) (fun _ h9 => h9) rfl d_C_step_206 ?_
  refine va_get (D := (dC, dI)) (ci := 1) (v := .ref (aa 18)) (C := R_H) (T := F_H) (N := 6) hx hb hts i_H hown hK hP 5 rfl rfl 0 (by decide) (hts _ fl_C_261) (fun _ h9 => h9) rfl d_C_step_209 ?_
  refine lv_iload_n hx hb d_C_step_212 rfl (lv_at hl 4 rfl) ?_
  refine va_iald hx hb hK hP 18 0 rfl rfl (vp_in_nI (by omega) (by omega)) d_C_step_213 ?_
  rw [nI_clamp (show q < 2 ^ 31 by omega)]
  rw [ek]
  refine lv_iload_n hx hb d_C_step_214 rfl (lv_at hl 2 rfl) ?_
  refine lv_iload hx hb d_C_step_215 (lv_at hl 1 rfl) ?_
  refine cW (W.runV (As := [.int 4, .int (nI t), .int ((vv 14) q)]) (rest := [.int (nI q), .ref (aa 20)]) ⟨hx, hb, hml, hown, hts⟩ (c_C_exchange hP hdD 4 _ (fun h => by first | exact ht | omega | exact absurd h (by decide)) (fun h => by first | exact ht | omega | exact absurd h (by decide)) (by omega)) (cwV 3 hts (wB_goodV (fun _ h => h) ml_C_272 im_C_exchange se_C_exchange ini_C co_C_exchange) rfl rfl rfl (by decide +kernel) ⟨Nat.le_of_ble_eq_true rfl, Nat.le_of_ble_eq_true rfl⟩) (pV hK hP (ci := 0) (q0 := 0) rfl rfl _) rfl rfl hl.1 rfl (lv_room (Nat.le_of_ble_eq_true rfl)) d_C_step_217 ⟨Nat.zero_le _, Nat.zero_le _⟩) hS (fun _ h => h) (fun H locs hP hS _ _ => ?_)
  have hP : va_P (dC, dI) classes (wC aa cI cZ kn (exV vv 4 t ((vv 14) q))) H := hP
  have hD : va_D (aN aa 22) (wC aa cI cZ kn (exV vv 4 t ((vv 14) q))) := wC_D (dD_aN hdD)
  refine va_iast hx hb hK hP hD hS 20 0 rfl rfl (vp_in_nI (by omega) (by omega)) d_C_step_220 (fun H locs hP hD hS => ?_)
  rw [nI_clamp (show q < 2 ^ 31 by omega)] at hP hD
  have hP : va_P (dC, dI) classes (wC aa cI cZ kn (va_up (exV vv 4 t ((vv 14) q)) 14 (upd ((exV vv 4 t ((vv 14) q)) 14) q (exR vv 4 t)))) H := hP
  have hD : va_D (aN aa 22) (wC aa cI cZ kn (va_up (exV vv 4 t ((vv 14) q)) 14 (upd ((exV vv 4 t ((vv 14) q)) 14) q (exR vv 4 t)))) := hD
  have er : (none : Option Value) = none := by rfl
  have hPe : va_P (dC, dI) classes (wC aa cI cZ kn (u1 (exV vv 4 t (vv 14 q)) 14 q (exR vv 4 t))) H := by exact hP
  exact W.vret hx hb hr (fun t ht hW => ⟨by rw [er], by rw [ht]; exact hPe, hS.F ht⟩) hS.2.2 d_C_step_221
set_option maxRecDepth 100000 in
set_option maxHeartbeats 4000000 in
theorem c_C_step_5 (hP : va_P (dC, dI) classes (wC aa cI cZ kn vv) H) (hdD : dD noT aa 22) {q : Nat} (hq : q < 200) (x : Int32) (ek : vv 12 q = 5) {t : Nat} (et : vv 13 q = nI t) (ht : t < 40) : Met l y_C_step (wB y_C_step b_C_step 6 none) ({ frames := 1, cells := 0, slots := 0, locals := 24 } : Room) (rP [.ref (aa 0), .int (nI q), .int x] H (kK dC dI cI cZ cJ)) (qW none (aN aa 22) (fun H1 => va_P (dC, dI) classes (wC aa cI cZ kn (u1 (exV vv 5 t (vv 14 q)) 14 q (exR vv 5 t))) H1)) 0 0 (aN aa 22) := by
  refine Met.ofW (cc := b_C_step) (maxL := 6) (ret := none) (by decide) rfl ?_
  intro p e s m args below meth c s₁ B hml hv
  obtain ⟨rfl, rfl, hK⟩ := hv
  have hx := B.exec
  have hb := B.bytes
  have hr := B.returns
  have hts0 := atoms_spec (ws := (wB y_C_step b_C_step 6 none)) B.pre
  have hts : ∀ w9 ∈ BG, w9.before [.ref (aa 0), .int (nI q), .int x].toArray s = true := fun w9 hw9 => hts0 w9 (List.mem_cons_of_mem _ hw9)
  have hown : s.vm.findClass R_C = some m.cls := findClass_of_methodNamed B.named
  have hlocks := B.notSynchronized
  have hK : va_K (dC, dI) classes [(cI, .int), (cZ, .boolean), (cJ, .long)] s := hK
  have hD : va_D (aN aa 22) (wC aa cI cZ kn vv) := wC_D (dD_aN hdD)
  have hS : va_S (aN aa 22) s.heap s.heap [] := va_S.rf
  have hl := lv_entry ([.ref (aa 0), .int (nI q), .int x]) (n := 6) (Nat.le_of_ble_eq_true rfl)
  rw [lg_entry_eq]
  generalize (lg_sl ([.ref (aa 0), .int (nI q), .int x]) ++ List.replicate (6 - (lg_sl ([.ref (aa 0), .int (nI q), .int x])).length) Slot.unset).toArray = ls at hl ⊢
  have hl : lv_has ls 6 [(0, .ref (aa 0)), (1, .int (nI q)), (2, .int x)] := hl
  refine lv_aload_n hx hb d_C_step_0 rfl (lv_at hl 0 rfl) ?_
  refine va_get (D := (dC, dI)) (ci := 0) (v := .ref (aa 5)) (C := R_C) (T := F_C) (N := 5) hx hb hts i_C hown hK hP 0 rfl rfl 4 (by decide) (hts _ fl_C_40) (fun _ h9 => h9) rfl d_C_step_1 ?_
  refine va_get (D := (dC, dI)) (ci := 1) (v := .ref (aa 19)) (C := R_H) (T := F_H) (N := 6) hx hb hts i_H hown hK hP 5 rfl rfl 1 (by decide) (hts _ fl_C_252) (fun _ h9 => h9) rfl d_C_step_4 ?_
  refine lv_iload_n hx hb d_C_step_7 rfl (lv_at hl 1 rfl) ?_
  refine va_iald hx hb hK hP 19 0 rfl rfl (vp_in_nI (by omega) (by omega)) d_C_step_8 ?_
  rw [nI_clamp (show q < 2 ^ 31 by omega)]
  rw [et]
  refine lv_istore_n (lv' := [(3, .int (nI t)), (0, .ref (aa 0)), (1, .int (nI q)), (2, .int x)]) hx hb d_C_step_9 rfl hl (by decide) rfl (fun ls hl => ?_)
  refine lv_aload_n hx hb d_C_step_10 rfl (lv_at hl 1 rfl) ?_
  refine va_get (D := (dC, dI)) (ci := 0) (v := .ref (aa 5)) (C := R_C) (T := F_C) (N := 5) hx hb hts i_C hown hK hP 0 rfl rfl 4 (by decide) (hts _ fl_C_40) (fun _ h9 => h9) rfl d_C_step_11 ?_
  refine va_get (D := (dC, dI)) (ci := 1) (v := .ref (aa 20)) (C := R_H) (T := F_H) (N := 6) hx hb hts i_H hown hK hP 5 rfl rfl 2 (by decide) (hts _ fl_C_255) (fun _ h9 => h9) rfl d_C_step_14 ?_
  refine lv_iload_n hx hb d_C_step_17 rfl (lv_at hl 2 rfl) ?_
  refine va_iald hx hb hK hP 20 0 rfl rfl (vp_in_nI (by omega) (by omega)) d_C_step_18 ?_
  rw [nI_clamp (show q < 2 ^ 31 by omega)]
  refine lv_istore (lv' := [(4, .int ((vv 14) q)), (3, .int (nI t)), (0, .ref (aa 0)), (1, .int (nI q)), (2, .int x)]) hx hb d_C_step_19 hl (by decide) rfl (fun ls hl => ?_)
  refine lv_aload_n hx hb d_C_step_21 rfl (lv_at hl 2 rfl) ?_
  refine va_get (D := (dC, dI)) (ci := 0) (v := .ref (aa 5)) (C := R_C) (T := F_C) (N := 5) hx hb hts i_C hown hK hP 0 rfl rfl 4 (by decide) (hts _ fl_C_40) (fun _ h9 => h9) rfl d_C_step_22 ?_
  refine va_get (D := (dC, dI)) (ci := 1) (v := .ref (aa 21)) (C := R_H) (T := F_H) (N := 6) hx hb hts i_H hown hK hP 5 rfl rfl 3 (by decide) (hts _ fl_C_258) (fun _ h9 => h9) rfl d_C_step_25 ?_
  refine lv_iload_n hx hb d_C_step_28 rfl (lv_at hl 3 rfl) ?_
  refine va_iald hx hb hK hP 21 0 rfl rfl (vp_in_nI (by omega) (by omega)) d_C_step_29 ?_
  rw [nI_clamp (show q < 2 ^ 31 by omega)]
  refine lv_istore (lv' := [(5, .int ((vv 15) q)), (4, .int ((vv 14) q)), (3, .int (nI t)), (0, .ref (aa 0)), (1, .int (nI q)), (2, .int x)]) hx hb d_C_step_30 hl (by decide) rfl (fun ls hl => ?_)
  refine lv_aload_n hx hb d_C_step_32 rfl (lv_at hl 3 rfl) ?_
  refine va_get (D := (dC, dI)) (ci := 0) (v := .ref (aa 5)) (C := R_C) (T := F_C) (N := 5) hx hb hts i_C hown hK hP 0 rfl rfl 4 (by decide) (hts _ fl_C_40) (fun _ h9 => h9) rfl d_C_step_33 ?_
  refine va_get (D := (dC, dI)) (ci := 1) (v := .ref (aa 18)) (C := R_H) (T := F_H) (N := 6) hx hb hts i_H hown hK hP 5 rfl rfl 0 (by decide) (hts _ fl_C_261) (fun _ h9 => h9) rfl d_C_step_36 ?_
  refine lv_iload_n hx hb d_C_step_39 rfl (lv_at hl 4 rfl) ?_
  refine va_iald hx hb hK hP 18 0 rfl rfl (vp_in_nI (by omega) (by omega)) d_C_step_40 ?_
  rw [nI_clamp (show q < 2 ^ 31 by omega)]
  refine lv_tableIn (off := 155) (tgt := 196) hx hb d_C_step_41 (by rw [ek]; decide) (by rw [ek]; decide) (by rw [ek]; decide) (by decide) ?_
  refine lv_aload_n hx hb d_C_step_196 rfl (lv_at hl 3 rfl) ?_
  refine va_get (D := (dC, dI)) (ci := 0) (v := .ref (aa 5)) (C := R_C) (T := F_C) (N := 5) hx hb hts i_C hown hK hP 0 rfl rfl 4 (by decide) (hts _ fl_C_40) (fun _ h9 => h9) rfl d_C_step_197 ?_
  refine va_get (D := (dC, dI)) (ci := 1) (v := .ref (aa 20)) (C := R_H) (T := F_H) (N := 6) hx hb hts i_H hown hK hP 5 rfl rfl 2 (by decide) (hts _ fl_C_255) (fun _ h9 => h9) rfl d_C_step_200 ?_
  refine lv_iload_n hx hb d_C_step_203 rfl (lv_at hl 4 rfl) ?_
  refine lv_aload_n hx hb d_C_step_204 rfl (lv_at hl 3 rfl) ?_
  refine lv_aload_n hx hb d_C_step_205 rfl (lv_at hl 3 rfl) ?_
  refine va_get (D := (dC, dI)) (ci := 0) (v := .ref (aa 5)) (C := R_C) (T := F_C) (N := 5) hx hb hts i_C hown hK hP 0 rfl rfl 4 (by decide) (hts _ fl_C_40) (fun _ h9 => h9) rfl d_C_step_206 ?_
  refine va_get (D := (dC, dI)) (ci := 1) (v := .ref (aa 18)) (C := R_H) (T := F_H) (N := 6) hx hb hts i_H hown hK hP 5 rfl rfl 0 (by decide) (hts _ fl_C_261) (fun _ h9 => h9) rfl d_C_step_209 ?_
  refine lv_iload_n hx hb d_C_step_212 rfl (lv_at hl 4 rfl) ?_
  refine va_iald hx hb hK hP 18 0 rfl rfl (vp_in_nI (by omega) (by omega)) d_C_step_213 ?_
  rw [nI_clamp (show q < 2 ^ 31 by omega)]
  rw [ek]
  refine lv_iload_n hx hb d_C_step_214 rfl (lv_at hl 2 rfl) ?_
  refine lv_iload hx hb d_C_step_215 (lv_at hl 1 rfl) ?_
  refine cW (W.runV (As := [.int 5, .int (nI t), .int ((vv 14) q)]) (rest := [.int (nI q), .ref (aa 20)]) ⟨hx, hb, hml, hown, hts⟩ (c_C_exchange hP hdD 5 _ (fun h => by first | exact ht | omega | exact absurd h (by decide)) (fun h => by first | exact ht | omega | exact absurd h (by decide)) (by omega)) (cwV 3 hts (wB_goodV (fun _ h => h) ml_C_272 im_C_exchange se_C_exchange ini_C co_C_exchange) rfl rfl rfl (by decide +kernel) ⟨Nat.le_of_ble_eq_true rfl, Nat.le_of_ble_eq_true rfl⟩) (pV hK hP (ci := 0) (q0 := 0) rfl rfl _) rfl rfl hl.1 rfl (lv_room (Nat.le_of_ble_eq_true rfl)) d_C_step_217 ⟨Nat.zero_le _, Nat.zero_le _⟩) hS (fun _ h => h) (fun H locs hP hS _ _ => ?_)
  have hP : va_P (dC, dI) classes (wC aa cI cZ kn (exV vv 5 t ((vv 14) q))) H := hP
  have hD : va_D (aN aa 22) (wC aa cI cZ kn (exV vv 5 t ((vv 14) q))) := wC_D (dD_aN hdD)
  refine va_iast hx hb hK hP hD hS 20 0 rfl rfl (vp_in_nI (by omega) (by omega)) d_C_step_220 (fun H locs hP hD hS => ?_)
  rw [nI_clamp (show q < 2 ^ 31 by omega)] at hP hD
  have hP : va_P (dC, dI) classes (wC aa cI cZ kn (va_up (exV vv 5 t ((vv 14) q)) 14 (upd ((exV vv 5 t ((vv 14) q)) 14) q (exR vv 5 t)))) H := hP
  have hD : va_D (aN aa 22) (wC aa cI cZ kn (va_up (exV vv 5 t ((vv 14) q)) 14 (upd ((exV vv 5 t ((vv 14) q)) 14) q (exR vv 5 t)))) := hD
  have er : (none : Option Value) = none := by rfl
  have hPe : va_P (dC, dI) classes (wC aa cI cZ kn (u1 (exV vv 5 t (vv 14 q)) 14 q (exR vv 5 t))) H := by exact hP
  exact W.vret hx hb hr (fun t ht hW => ⟨by rw [er], by rw [ht]; exact hPe, hS.F ht⟩) hS.2.2 d_C_step_221
set_option maxRecDepth 100000 in
set_option maxHeartbeats 4000000 in
theorem c_C_step_6 (hP : va_P (dC, dI) classes (wC aa cI cZ kn vv) H) (hdD : dD noT aa 22) {q : Nat} (hq : q < 200) (x : Int32) (ek : vv 12 q = 6) {t : Nat} (et : vv 13 q = nI t) (ht : t < 40) : Met l y_C_step (wB y_C_step b_C_step 6 none) ({ frames := 1, cells := 0, slots := 0, locals := 24 } : Room) (rP [.ref (aa 0), .int (nI q), .int x] H (kK dC dI cI cZ cJ)) (qW none (aN aa 22) (fun H1 => va_P (dC, dI) classes (wC aa cI cZ kn (shV vv t (x * vv 14 q) (x * vv 15 q))) H1)) 0 0 (aN aa 22) := by
  refine Met.ofW (cc := b_C_step) (maxL := 6) (ret := none) (by decide) rfl ?_
  intro p e s m args below meth c s₁ B hml hv
  obtain ⟨rfl, rfl, hK⟩ := hv
  have hx := B.exec
  have hb := B.bytes
  have hr := B.returns
  have hts0 := atoms_spec (ws := (wB y_C_step b_C_step 6 none)) B.pre
  have hts : ∀ w9 ∈ BG, w9.before [.ref (aa 0), .int (nI q), .int x].toArray s = true := fun w9 hw9 => hts0 w9 (List.mem_cons_of_mem _ hw9)
  have hown : s.vm.findClass R_C = some m.cls := findClass_of_methodNamed B.named
  have hlocks := B.notSynchronized
  have hK : va_K (dC, dI) classes [(cI, .int), (cZ, .boolean), (cJ, .long)] s := hK
  have hD : va_D (aN aa 22) (wC aa cI cZ kn vv) := wC_D (dD_aN hdD)
  have hS : va_S (aN aa 22) s.heap s.heap [] := va_S.rf
  have hl := lv_entry ([.ref (aa 0), .int (nI q), .int x]) (n := 6) (Nat.le_of_ble_eq_true rfl)
  rw [lg_entry_eq]
  generalize (lg_sl ([.ref (aa 0), .int (nI q), .int x]) ++ List.replicate (6 - (lg_sl ([.ref (aa 0), .int (nI q), .int x])).length) Slot.unset).toArray = ls at hl ⊢
  have hl : lv_has ls 6 [(0, .ref (aa 0)), (1, .int (nI q)), (2, .int x)] := hl
  refine lv_aload_n hx hb d_C_step_0 rfl (lv_at hl 0 rfl) ?_
  refine va_get (D := (dC, dI)) (ci := 0) (v := .ref (aa 5)) (C := R_C) (T := F_C) (N := 5) hx hb hts i_C hown hK hP 0 rfl rfl 4 (by decide) (hts _ fl_C_40) (fun _ h9 => h9) rfl d_C_step_1 ?_
  refine va_get (D := (dC, dI)) (ci := 1) (v := .ref (aa 19)) (C := R_H) (T := F_H) (N := 6) hx hb hts i_H hown hK hP 5 rfl rfl 1 (by decide) (hts _ fl_C_252) (fun _ h9 => h9) rfl d_C_step_4 ?_
  refine lv_iload_n hx hb d_C_step_7 rfl (lv_at hl 1 rfl) ?_
  refine va_iald hx hb hK hP 19 0 rfl rfl (vp_in_nI (by omega) (by omega)) d_C_step_8 ?_
  rw [nI_clamp (show q < 2 ^ 31 by omega)]
  rw [et]
  refine lv_istore_n (lv' := [(3, .int (nI t)), (0, .ref (aa 0)), (1, .int (nI q)), (2, .int x)]) hx hb d_C_step_9 rfl hl (by decide) rfl (fun ls hl => ?_)
  refine lv_aload_n hx hb d_C_step_10 rfl (lv_at hl 1 rfl) ?_
  refine va_get (D := (dC, dI)) (ci := 0) (v := .ref (aa 5)) (C := R_C) (T := F_C) (N := 5) hx hb hts i_C hown hK hP 0 rfl rfl 4 (by decide) (hts _ fl_C_40) (fun _ h9 => h9) rfl d_C_step_11 ?_
  refine va_get (D := (dC, dI)) (ci := 1) (v := .ref (aa 20)) (C := R_H) (T := F_H) (N := 6) hx hb hts i_H hown hK hP 5 rfl rfl 2 (by decide) (hts _ fl_C_255) (fun _ h9 => h9) rfl d_C_step_14 ?_
  refine lv_iload_n hx hb d_C_step_17 rfl (lv_at hl 2 rfl) ?_
  refine va_iald hx hb hK hP 20 0 rfl rfl (vp_in_nI (by omega) (by omega)) d_C_step_18 ?_
  rw [nI_clamp (show q < 2 ^ 31 by omega)]
  refine lv_istore (lv' := [(4, .int ((vv 14) q)), (3, .int (nI t)), (0, .ref (aa 0)), (1, .int (nI q)), (2, .int x)]) hx hb d_C_step_19 hl (by decide) rfl (fun ls hl => ?_)
  refine lv_aload_n hx hb d_C_step_21 rfl (lv_at hl 2 rfl) ?_
  refine va_get (D := (dC, dI)) (ci := 0) (v := .ref (aa 5)) (C := R_C) (T := F_C) (N := 5) hx hb hts i_C hown hK hP 0 rfl rfl 4 (by decide) (hts _ fl_C_40) (fun _ h9 => h9) rfl d_C_step_22 ?_
  refine va_get (D := (dC, dI)) (ci := 1) (v := .ref (aa 21)) (C := R_H) (T := F_H) (N := 6) hx hb hts i_H hown hK hP 5 rfl rfl 3 (by decide) (hts _ fl_C_258) (fun _ h9 => h9) rfl d_C_step_25 ?_
  refine lv_iload_n hx hb d_C_step_28 rfl (lv_at hl 3 rfl) ?_
  refine va_iald hx hb hK hP 21 0 rfl rfl (vp_in_nI (by omega) (by omega)) d_C_step_29 ?_
  rw [nI_clamp (show q < 2 ^ 31 by omega)]
  refine lv_istore (lv' := [(5, .int ((vv 15) q)), (4, .int ((vv 14) q)), (3, .int (nI t)), (0, .ref (aa 0)), (1, .int (nI q)), (2, .int x)]) hx hb d_C_step_30 hl (by decide) rfl (fun ls hl => ?_)
  refine lv_aload_n hx hb d_C_step_32 rfl (lv_at hl 3 rfl) ?_
  refine va_get (D := (dC, dI)) (ci := 0) (v := .ref (aa 5)) (C := R_C) (T := F_C) (N := 5) hx hb hts i_C hown hK hP 0 rfl rfl 4 (by decide) (hts _ fl_C_40) (fun _ h9 => h9) rfl d_C_step_33 ?_
  refine va_get (D := (dC, dI)) (ci := 1) (v := .ref (aa 18)) (C := R_H) (T := F_H) (N := 6) hx hb hts i_H hown hK hP 5 rfl rfl 0 (by decide) (hts _ fl_C_261) (fun _ h9 => h9) rfl d_C_step_36 ?_
  refine lv_iload_n hx hb d_C_step_39 rfl (lv_at hl 4 rfl) ?_
  refine va_iald hx hb hK hP 18 0 rfl rfl (vp_in_nI (by omega) (by omega)) d_C_step_40 ?_
  rw [nI_clamp (show q < 2 ^ 31 by omega)]
  refine lv_tableIn (off := 114) (tgt := 155) hx hb d_C_step_41 (by rw [ek]; decide) (by rw [ek]; decide) (by rw [ek]; decide) (by decide) ?_
  refine lv_aload_n hx hb d_C_step_155 rfl (lv_at hl 3 rfl) ?_
  refine va_get (D := (dC, dI)) (ci := 0) (v := .ref (aa 3)) (C := R_C) (T := F_C) (N := 5) hx hb hts i_C hown hK hP 0 rfl rfl 2 (by decide) (hts _ fl_C_26) (fun _ h9 => h9) rfl d_C_step_156 ?_
  refine lv_iload_n hx hb d_C_step_159 rfl (lv_at hl 2 rfl) ?_
  refine lv_iload_n hx hb d_C_step_160 rfl (lv_at hl 5 rfl) ?_
  refine lv_iload hx hb d_C_step_161 (lv_at hl 1 rfl) ?_
  refine lv_imul hx hb d_C_step_163 ?_
  refine lv_iload_n hx hb d_C_step_164 rfl (lv_at hl 5 rfl) ?_
  refine lv_iload hx hb d_C_step_165 (lv_at hl 0 rfl) ?_
  refine lv_imul hx hb d_C_step_167 ?_
  refine cW (W.runV (As := [.int (nI t), .int (x * ((vv 14) q)), .int (x * ((vv 15) q))]) (rest := []) ⟨hx, hb, hml, hown, hts⟩ (c_W_shift hP hdD ht _ _) (cwV 3 hts (wB_goodV (fun _ h => h) ml_C_264 im_W_shift se_W_shift ini_W co_W_shift) rfl rfl rfl (by decide +kernel) ⟨Nat.le_of_ble_eq_true rfl, Nat.le_of_ble_eq_true rfl⟩) (pV hK hP (ci := 5) (q0 := 3) rfl rfl _) rfl rfl hl.1 rfl (lv_room (Nat.le_of_ble_eq_true rfl)) d_C_step_168 ⟨Nat.zero_le _, Nat.zero_le _⟩) hS (fun _ h => h) (fun H locs hP hS _ _ => ?_)
  have hP : va_P (dC, dI) classes (wC aa cI cZ kn (shV vv t (x * ((vv 14) q)) (x * ((vv 15) q)))) H := hP
  have hD : va_D (aN aa 22) (wC aa cI cZ kn (shV vv t (x * ((vv 14) q)) (x * ((vv 15) q)))) := wC_D (dD_aN hdD)
  refine lv_goto (tgt := 221) hx hb d_C_step_171 (by decide) ?_
  have er : (none : Option Value) = none := by rfl
  have hPe : va_P (dC, dI) classes (wC aa cI cZ kn (shV vv t (x * vv 14 q) (x * vv 15 q))) H := by exact hP
  exact W.vret hx hb hr (fun t ht hW => ⟨by rw [er], by rw [ht]; exact hPe, hS.F ht⟩) hS.2.2 d_C_step_221
set_option maxRecDepth 100000 in
set_option maxHeartbeats 4000000 in
theorem c_C_step_7 (hP : va_P (dC, dI) classes (wC aa cI cZ kn vv) H) (hdD : dD noT aa 22) {q : Nat} (hq : q < 200) (x : Int32) (ek : vv 12 q = 7) {t : Nat} (et : vv 13 q = nI t) (ht : t < 40) : Met l y_C_step (wB y_C_step b_C_step 6 none) ({ frames := 1, cells := 0, slots := 0, locals := 24 } : Room) (rP [.ref (aa 0), .int (nI q), .int x] H (kK dC dI cI cZ cJ)) (qW none (aN aa 22) (fun H1 => va_P (dC, dI) classes (wC aa cI cZ kn (u1 vv 8 t (if x = 1 then 1 else 0))) H1)) 0 0 (aN aa 22) := by
  refine Met.ofW (cc := b_C_step) (maxL := 6) (ret := none) (by decide) rfl ?_
  intro p e s m args below meth c s₁ B hml hv
  obtain ⟨rfl, rfl, hK⟩ := hv
  have hx := B.exec
  have hb := B.bytes
  have hr := B.returns
  have hts0 := atoms_spec (ws := (wB y_C_step b_C_step 6 none)) B.pre
  have hts : ∀ w9 ∈ BG, w9.before [.ref (aa 0), .int (nI q), .int x].toArray s = true := fun w9 hw9 => hts0 w9 (List.mem_cons_of_mem _ hw9)
  have hown : s.vm.findClass R_C = some m.cls := findClass_of_methodNamed B.named
  have hlocks := B.notSynchronized
  have hK : va_K (dC, dI) classes [(cI, .int), (cZ, .boolean), (cJ, .long)] s := hK
  have hD : va_D (aN aa 22) (wC aa cI cZ kn vv) := wC_D (dD_aN hdD)
  have hS : va_S (aN aa 22) s.heap s.heap [] := va_S.rf
  have hl := lv_entry ([.ref (aa 0), .int (nI q), .int x]) (n := 6) (Nat.le_of_ble_eq_true rfl)
  rw [lg_entry_eq]
  generalize (lg_sl ([.ref (aa 0), .int (nI q), .int x]) ++ List.replicate (6 - (lg_sl ([.ref (aa 0), .int (nI q), .int x])).length) Slot.unset).toArray = ls at hl ⊢
  have hl : lv_has ls 6 [(0, .ref (aa 0)), (1, .int (nI q)), (2, .int x)] := hl
  refine lv_aload_n hx hb d_C_step_0 rfl (lv_at hl 0 rfl) ?_
  refine va_get (D := (dC, dI)) (ci := 0) (v := .ref (aa 5)) (C := R_C) (T := F_C) (N := 5) hx hb hts i_C hown hK hP 0 rfl rfl 4 (by decide) (hts _ fl_C_40) (fun _ h9 => h9) rfl d_C_step_1 ?_
  refine va_get (D := (dC, dI)) (ci := 1) (v := .ref (aa 19)) (C := R_H) (T := F_H) (N := 6) hx hb hts i_H hown hK hP 5 rfl rfl 1 (by decide) (hts _ fl_C_252) (fun _ h9 => h9) rfl d_C_step_4 ?_
  refine lv_iload_n hx hb d_C_step_7 rfl (lv_at hl 1 rfl) ?_
  refine va_iald hx hb hK hP 19 0 rfl rfl (vp_in_nI (by omega) (by omega)) d_C_step_8 ?_
  rw [nI_clamp (show q < 2 ^ 31 by omega)]
  rw [et]
  refine lv_istore_n (lv' := [(3, .int (nI t)), (0, .ref (aa 0)), (1, .int (nI q)), (2, .int x)]) hx hb d_C_step_9 rfl hl (by decide) rfl (fun ls hl => ?_)
  refine lv_aload_n hx hb d_C_step_10 rfl (lv_at hl 1 rfl) ?_
  refine va_get (D := (dC, dI)) (ci := 0) (v := .ref (aa 5)) (C := R_C) (T := F_C) (N := 5) hx hb hts i_C hown hK hP 0 rfl rfl 4 (by decide) (hts _ fl_C_40) (fun _ h9 => h9) rfl d_C_step_11 ?_
  refine va_get (D := (dC, dI)) (ci := 1) (v := .ref (aa 20)) (C := R_H) (T := F_H) (N := 6) hx hb hts i_H hown hK hP 5 rfl rfl 2 (by decide) (hts _ fl_C_255) (fun _ h9 => h9) rfl d_C_step_14 ?_
  refine lv_iload_n hx hb d_C_step_17 rfl (lv_at hl 2 rfl) ?_
  refine va_iald hx hb hK hP 20 0 rfl rfl (vp_in_nI (by omega) (by omega)) d_C_step_18 ?_
  rw [nI_clamp (show q < 2 ^ 31 by omega)]
  refine lv_istore (lv' := [(4, .int ((vv 14) q)), (3, .int (nI t)), (0, .ref (aa 0)), (1, .int (nI q)), (2, .int x)]) hx hb d_C_step_19 hl (by decide) rfl (fun ls hl => ?_)
  refine lv_aload_n hx hb d_C_step_21 rfl (lv_at hl 2 rfl) ?_
  refine va_get (D := (dC, dI)) (ci := 0) (v := .ref (aa 5)) (C := R_C) (T := F_C) (N := 5) hx hb hts i_C hown hK hP 0 rfl rfl 4 (by decide) (hts _ fl_C_40) (fun _ h9 => h9) rfl d_C_step_22 ?_
  refine va_get (D := (dC, dI)) (ci := 1) (v := .ref (aa 21)) (C := R_H) (T := F_H) (N := 6) hx hb hts i_H hown hK hP 5 rfl rfl 3 (by decide) (hts _ fl_C_258) (fun _ h9 => h9) rfl d_C_step_25 ?_
  refine lv_iload_n hx hb d_C_step_28 rfl (lv_at hl 3 rfl) ?_
  refine va_iald hx hb hK hP 21 0 rfl rfl (vp_in_nI (by omega) (by omega)) d_C_step_29 ?_
  rw [nI_clamp (show q < 2 ^ 31 by omega)]
  refine lv_istore (lv' := [(5, .int ((vv 15) q)), (4, .int ((vv 14) q)), (3, .int (nI t)), (0, .ref (aa 0)), (1, .int (nI q)), (2, .int x)]) hx hb d_C_step_30 hl (by decide) rfl (fun ls hl => ?_)
  refine lv_aload_n hx hb d_C_step_32 rfl (lv_at hl 3 rfl) ?_
  refine va_get (D := (dC, dI)) (ci := 0) (v := .ref (aa 5)) (C := R_C) (T := F_C) (N := 5) hx hb hts i_C hown hK hP 0 rfl rfl 4 (by decide) (hts _ fl_C_40) (fun _ h9 => h9) rfl d_C_step_33 ?_
  refine va_get (D := (dC, dI)) (ci := 1) (v := .ref (aa 18)) (C := R_H) (T := F_H) (N := 6) hx hb hts i_H hown hK hP 5 rfl rfl 0 (by decide) (hts _ fl_C_261) (fun _ h9 => h9) rfl d_C_step_36 ?_
  refine lv_iload_n hx hb d_C_step_39 rfl (lv_at hl 4 rfl) ?_
  refine va_iald hx hb hK hP 18 0 rfl rfl (vp_in_nI (by omega) (by omega)) d_C_step_40 ?_
  rw [nI_clamp (show q < 2 ^ 31 by omega)]
  refine lv_tableIn (off := 133) (tgt := 174) hx hb d_C_step_41 (by rw [ek]; decide) (by rw [ek]; decide) (by rw [ek]; decide) (by decide) ?_
  refine lv_aload_n hx hb d_C_step_174 rfl (lv_at hl 3 rfl) ?_
  refine va_get (D := (dC, dI)) (ci := 0) (v := .ref (aa 3)) (C := R_C) (T := F_C) (N := 5) hx hb hts i_C hown hK hP 0 rfl rfl 2 (by decide) (hts _ fl_C_26) (fun _ h9 => h9) rfl d_C_step_175 ?_
  refine va_get (D := (dC, dI)) (ci := 5) (v := .ref (aa 14)) (C := R_W) (T := F_W) (N := 8) hx hb hts i_W hown hK hP 3 rfl rfl 6 (by decide) (hts _ fl_C_268) (fun _ h9 => h9) rfl d_C_step_178 ?_
  refine lv_iload_n hx hb d_C_step_181 rfl (lv_at hl 2 rfl) ?_
  refine lv_iload_n hx hb d_C_step_182 rfl (lv_at hl 5 rfl) ?_
  refine lv_iconst (v := 1) hx hb d_C_step_183 (by decide) ?_
  refine lv_icmp_ne (tgt := 191) hx hb d_C_step_184 (by decide) (fun c_184 => ?_) (fun c_184 => ?_)
  · refine lv_iconst (v := 0) hx hb d_C_step_191 (by decide) ?_
    refine va_zast hx hb hK hP hD hS 14 1 rfl rfl (vp_in_nI (by omega) (by omega)) d_C_step_192 (fun H locs hP hD hS => ?_)
    rw [show vp_nar .boolean 0 = 0 from rfl] at hP hD
    rw [nI_clamp (show t < 2 ^ 31 by omega)] at hP hD
    have hP : va_P (dC, dI) classes (wC aa cI cZ kn (va_up vv 8 (upd (vv 8) t 0))) H := hP
    have hD : va_D (aN aa 22) (wC aa cI cZ kn (va_up vv 8 (upd (vv 8) t 0))) := hD
    refine lv_goto (tgt := 221) hx hb d_C_step_193 (by decide) ?_
    have er : (none : Option Value) = none := by rfl
    have hPe : va_P (dC, dI) classes (wC aa cI cZ kn (u1 vv 8 t (if x = 1 then 1 else 0))) H := by first | (rw [if_pos c_184]; exact hP) | (rw [if_neg c_184]; exact hP)
    exact W.vret hx hb hr (fun t ht hW => ⟨by rw [er], by rw [ht]; exact hPe, hS.F ht⟩) hS.2.2 d_C_step_221
  · have c_184 : x = 1 := by simpa using c_184
    refine lv_iconst (v := 1) hx hb d_C_step_187 (by decide) ?_
    refine lv_goto (tgt := 192) hx hb d_C_step_188 (by decide) ?_
    refine va_zast hx hb hK hP hD hS 14 1 rfl rfl (vp_in_nI (by omega) (by omega)) d_C_step_192 (fun H locs hP hD hS => ?_)
    rw [show vp_nar .boolean 1 = 1 from rfl] at hP hD
    rw [nI_clamp (show t < 2 ^ 31 by omega)] at hP hD
    have hP : va_P (dC, dI) classes (wC aa cI cZ kn (va_up vv 8 (upd (vv 8) t 1))) H := hP
    have hD : va_D (aN aa 22) (wC aa cI cZ kn (va_up vv 8 (upd (vv 8) t 1))) := hD
    refine lv_goto (tgt := 221) hx hb d_C_step_193 (by decide) ?_
    have er : (none : Option Value) = none := by rfl
    have hPe : va_P (dC, dI) classes (wC aa cI cZ kn (u1 vv 8 t (if x = 1 then 1 else 0))) H := by first | (rw [if_pos c_184]; exact hP) | (rw [if_neg c_184]; exact hP)
    exact W.vret hx hb hr (fun t ht hW => ⟨by rw [er], by rw [ht]; exact hPe, hS.F ht⟩) hS.2.2 d_C_step_221
def stK (kn : Nat → Int32) (vv : Ar) (q : Nat) (x : Int32) : Nat → Int32 := if vv 12 q = 0 then va_up kn 0 (kn 0 + x) else if vv 12 q = 1 then va_up kn 1 (kn 1 + x) else if vv 12 q = 2 then va_up (va_up kn 2 (kn 2 + x * vv 14 q)) 3 (kn 3 + x * vv 15 q) else kn
def stV (vv : Ar) (q : Nat) (x : Int32) : Ar := if vv 12 q = 0 ∨ vv 12 q = 1 ∨ vv 12 q = 2 then vv else if vv 12 q = 6 then shV vv (vv 13 q).toNatClampNeg (x * vv 14 q) (x * vv 15 q) else if vv 12 q = 7 then u1 vv 8 (vv 13 q).toNatClampNeg (if x = 1 then 1 else 0) else u1 (exV vv (vv 12 q) (vv 13 q).toNatClampNeg (vv 14 q)) 14 q (exR vv (vv 12 q) (vv 13 q).toNatClampNeg)
/-- an act that can be done or undone -/
def okA (vv : Ar) (q : Nat) : Prop := vv 12 q = 0 ∨ vv 12 q = 1 ∨ vv 12 q = 2 ∨ ∃ t, vv 13 q = nI t ∧ ((vv 12 q = 3 ∧ t < 6) ∨ (vv 12 q = 4 ∧ t < 8) ∨ (vv 12 q = 5 ∧ t < 40) ∨ (vv 12 q = 6 ∧ t < 40) ∨ (vv 12 q = 7 ∧ t < 40))
theorem c_C_step (hP : va_P (dC, dI) classes (wC aa cI cZ kn vv) H) (hdD : dD noT aa 22) {q : Nat} (hq : q < 200) (x : Int32) (hA : okA vv q) : Met l y_C_step (wB y_C_step b_C_step 6 none) ({ frames := 1, cells := 0, slots := 0, locals := 24 } : Room) (rP [.ref (aa 0), .int (nI q), .int x] H (kK dC dI cI cZ cJ)) (qW none (aN aa 22) (fun H1 => va_P (dC, dI) classes (wC aa cI cZ (stK kn vv q x) (stV vv q x)) H1)) 0 0 (aN aa 22) := by
  rcases hA with e | e | e | ⟨t, et, ⟨e, ht⟩ | ⟨e, ht⟩ | ⟨e, ht⟩ | ⟨e, ht⟩ | ⟨e, ht⟩⟩
  · rw [show stK kn vv q x = va_up kn 0 (kn 0 + x) by simp [stK, e], show stV vv q x = vv by simp [stV, e]]
    exact c_C_step_0 hP hdD hq x e
  · rw [show stK kn vv q x = va_up kn 1 (kn 1 + x) by simp [stK, e], show stV vv q x = vv by simp [stV, e]]
    exact c_C_step_1 hP hdD hq x e
  · rw [show stK kn vv q x = va_up (va_up kn 2 (kn 2 + x * vv 14 q)) 3 (kn 3 + x * vv 15 q) by simp [stK, e], show stV vv q x = vv by simp [stV, e]]
    exact c_C_step_2 hP hdD hq x e
  · rw [show stK kn vv q x = kn by simp [stK, e], show stV vv q x = u1 (exV vv 3 t (vv 14 q)) 14 q (exR vv 3 t) by simp [stV, e, et, nI_clamp (show t < 2 ^ 31 by omega)]]
    exact c_C_step_3 hP hdD hq x e et ht
  · rw [show stK kn vv q x = kn by simp [stK, e], show stV vv q x = u1 (exV vv 4 t (vv 14 q)) 14 q (exR vv 4 t) by simp [stV, e, et, nI_clamp (show t < 2 ^ 31 by omega)]]
    exact c_C_step_4 hP hdD hq x e et ht
  · rw [show stK kn vv q x = kn by simp [stK, e], show stV vv q x = u1 (exV vv 5 t (vv 14 q)) 14 q (exR vv 5 t) by simp [stV, e, et, nI_clamp (show t < 2 ^ 31 by omega)]]
    exact c_C_step_5 hP hdD hq x e et ht
  · rw [show stK kn vv q x = kn by simp [stK, e], show stV vv q x = shV vv t (x * vv 14 q) (x * vv 15 q) by simp [stV, e, et, nI_clamp (show t < 2 ^ 31 by omega)]]
    exact c_C_step_6 hP hdD hq x e et ht
  · rw [show stK kn vv q x = kn by simp [stK, e], show stV vv q x = u1 vv 8 t (if x = 1 then 1 else 0) by simp [stV, e, et, nI_clamp (show t < 2 ^ 31 by omega)]]
    exact c_C_step_7 hP hdD hq x e et ht

set_option maxRecDepth 100000 in
set_option maxHeartbeats 4000000 in
theorem c_C_goForward (hP : va_P (dC, dI) classes (wC aa cI cZ kn vv) H) (hdD : dD noT aa 22) {d : Nat} (e4 : kn 4 = nI d) (hd : d < 200) (hA : okA vv d) : Met l y_C_goForward (wB y_C_goForward b_C_goForward 1 none) ({ frames := 2, cells := 0, slots := 0, locals := 49 } : Room) (rP [.ref (aa 0)] H (kK dC dI cI cZ cJ)) (qW none (aN aa 22) (fun H1 => va_P (dC, dI) classes (wC aa cI cZ (va_up (stK kn vv d 1) 4 (stK kn vv d 1 4 + 1)) (stV vv d 1)) H1)) 0 0 (aN aa 22) := by
  refine Met.ofW (cc := b_C_goForward) (maxL := 1) (ret := none) (by decide) rfl ?_
  intro p e s m args below meth c s₁ B hml hv
  obtain ⟨rfl, rfl, hK⟩ := hv
  have hx := B.exec
  have hb := B.bytes
  have hr := B.returns
  have hts0 := atoms_spec (ws := (wB y_C_goForward b_C_goForward 1 none)) B.pre
  have hts : ∀ w9 ∈ BG, w9.before [.ref (aa 0)].toArray s = true := fun w9 hw9 => hts0 w9 (List.mem_cons_of_mem _ hw9)
  have hown : s.vm.findClass R_C = some m.cls := findClass_of_methodNamed B.named
  have hlocks := B.notSynchronized
  have hK : va_K (dC, dI) classes [(cI, .int), (cZ, .boolean), (cJ, .long)] s := hK
  have hD : va_D (aN aa 22) (wC aa cI cZ kn vv) := wC_D (dD_aN hdD)
  have hS : va_S (aN aa 22) s.heap s.heap [] := va_S.rf
  have hl := lv_entry ([.ref (aa 0)]) (n := 1) (Nat.le_of_ble_eq_true rfl)
  rw [lg_entry_eq]
  generalize (lg_sl ([.ref (aa 0)]) ++ List.replicate (1 - (lg_sl ([.ref (aa 0)])).length) Slot.unset).toArray = ls at hl ⊢
  have hl : lv_has ls 1 [(0, .ref (aa 0))] := hl
  refine lv_aload_n hx hb d_C_goForward_0 rfl (lv_at hl 0 rfl) ?_
  refine lv_aload_n hx hb d_C_goForward_1 rfl (lv_at hl 0 rfl) ?_
  refine va_get (D := (dC, dI)) (ci := 0) (v := .ref (aa 5)) (C := R_C) (T := F_C) (N := 5) hx hb hts i_C hown hK hP 0 rfl rfl 4 (by decide) (hts _ fl_C_40) (fun _ h9 => h9) rfl d_C_goForward_2 ?_
  refine va_get (D := (dC, dI)) (ci := 1) (v := .int (nI d)) (C := R_H) (T := F_H) (N := 6) hx hb hts i_H hown hK hP 5 rfl rfl 4 (by decide) (hts _ fl_C_150) (fun _ h9 => h9) (by rw [← e4]; rfl) d_C_goForward_5 ?_
  refine lv_iconst (v := 1) hx hb d_C_goForward_8 (by decide) ?_
  refine cW (W.runV (As := [.int (nI d), .int 1]) (rest := []) ⟨hx, hb, hml, hown, hts⟩ (c_C_step hP hdD hd 1 hA) (cwV 2 hts (wB_goodV (fun _ h => h) ml_C_153 im_C_step se_C_step ini_C co_C_step) rfl rfl rfl (by decide +kernel) ⟨Nat.le_of_ble_eq_true rfl, Nat.le_of_ble_eq_true rfl⟩) (pV hK hP (ci := 0) (q0 := 0) rfl rfl _) rfl rfl hl.1 rfl (lv_room (Nat.le_of_ble_eq_true rfl)) d_C_goForward_9 ⟨Nat.zero_le _, Nat.zero_le _⟩) hS (fun _ h => h) (fun H locs hP hS _ _ => ?_)
  have hP : va_P (dC, dI) classes (wC aa cI cZ (stK kn vv d 1) (stV vv d 1)) H := hP
  have hD : va_D (aN aa 22) (wC aa cI cZ (stK kn vv d 1) (stV vv d 1)) := wC_D (dD_aN hdD)
  refine lv_aload_n hx hb d_C_goForward_12 rfl (lv_at hl 0 rfl) ?_
  refine va_get (D := (dC, dI)) (ci := 0) (v := .ref (aa 5)) (C := R_C) (T := F_C) (N := 5) hx hb hts i_C hown hK hP 0 rfl rfl 4 (by decide) (hts _ fl_C_40) (fun _ h9 => h9) rfl d_C_goForward_13 ?_
  refine lv_dup hx hb d_C_goForward_16 rfl ?_
  refine va_get (D := (dC, dI)) (ci := 1) (v := .int ((stK kn vv d 1) 4)) (C := R_H) (T := F_H) (N := 6) hx hb hts i_H hown hK hP 5 rfl rfl 4 (by decide) (hts _ fl_C_150) (fun _ h9 => h9) rfl d_C_goForward_17 ?_
  refine lv_iconst (v := 1) hx hb d_C_goForward_20 (by decide) ?_
  refine lv_iadd hx hb d_C_goForward_21 ?_
  refine va_put (D := (dC, dI)) (ci := 1) (v := .int (((stK kn vv d 1) 4) + 1)) (ty := .int) (C := R_H) (T := F_H) (N := 6) hx hb hts i_H ty_H tok_H n_H hown hK hP hD hS 5 rfl rfl 4 (by decide) (hts _ fl_C_150) (fun _ h9 => h9) rfl (by decide +kernel) rfl rfl (Nat.le_of_ble_eq_true rfl) d_C_goForward_22 (fun H locs hP hD hS => ?_)
  have hP : va_P (dC, dI) classes (wC aa cI cZ (va_up (stK kn vv d 1) 4 (((stK kn vv d 1) 4) + 1)) (stV vv d 1)) H := hP
  have hD : va_D (aN aa 22) (wC aa cI cZ (va_up (stK kn vv d 1) 4 (((stK kn vv d 1) 4) + 1)) (stV vv d 1)) := hD
  have er : (none : Option Value) = none := by rfl
  have hPe : va_P (dC, dI) classes (wC aa cI cZ (va_up (stK kn vv d 1) 4 (stK kn vv d 1 4 + 1)) (stV vv d 1)) H := by exact hP
  exact W.vret hx hb hr (fun t ht hW => ⟨by rw [er], by rw [ht]; exact hPe, hS.F ht⟩) hS.2.2 d_C_goForward_25
set_option maxRecDepth 100000 in
set_option maxHeartbeats 4000000 in
theorem c_C_perform (hP : va_P (dC, dI) classes (wC aa cI cZ kn vv) H) (hdD : dD noT aa 22) {d : Nat} (e4 : kn 4 = nI d) (hd : d < 200) (x y z u : Int32) (hA : okA (hwV vv d x y z u) d) : Met l y_C_perform (wB y_C_perform b_C_perform 5 none) ({ frames := 3, cells := 0, slots := 0, locals := 69 } : Room) (rP [.ref (aa 0), .int x, .int y, .int z, .int u] H (kK dC dI cI cZ cJ)) (qW none (aN aa 22) (fun H1 => va_P (dC, dI) classes (wC aa cI cZ (va_up (stK (va_up kn 5 (nI d + 1)) (hwV vv d x y z u) d 1) 4 (stK (va_up kn 5 (nI d + 1)) (hwV vv d x y z u) d 1 4 + 1)) (stV (hwV vv d x y z u) d 1)) H1)) 0 0 (aN aa 22) := by
  refine Met.ofW (cc := b_C_perform) (maxL := 5) (ret := none) (by decide) rfl ?_
  intro p e s m args below meth c s₁ B hml hv
  obtain ⟨rfl, rfl, hK⟩ := hv
  have hx := B.exec
  have hb := B.bytes
  have hr := B.returns
  have hts0 := atoms_spec (ws := (wB y_C_perform b_C_perform 5 none)) B.pre
  have hts : ∀ w9 ∈ BG, w9.before [.ref (aa 0), .int x, .int y, .int z, .int u].toArray s = true := fun w9 hw9 => hts0 w9 (List.mem_cons_of_mem _ hw9)
  have hown : s.vm.findClass R_C = some m.cls := findClass_of_methodNamed B.named
  have hlocks := B.notSynchronized
  have hK : va_K (dC, dI) classes [(cI, .int), (cZ, .boolean), (cJ, .long)] s := hK
  have hD : va_D (aN aa 22) (wC aa cI cZ kn vv) := wC_D (dD_aN hdD)
  have hS : va_S (aN aa 22) s.heap s.heap [] := va_S.rf
  have hl := lv_entry ([.ref (aa 0), .int x, .int y, .int z, .int u]) (n := 5) (Nat.le_of_ble_eq_true rfl)
  rw [lg_entry_eq]
  generalize (lg_sl ([.ref (aa 0), .int x, .int y, .int z, .int u]) ++ List.replicate (5 - (lg_sl ([.ref (aa 0), .int x, .int y, .int z, .int u])).length) Slot.unset).toArray = ls at hl ⊢
  have hl : lv_has ls 5 [(0, .ref (aa 0)), (1, .int x), (2, .int y), (3, .int z), (4, .int u)] := hl
  refine lv_aload_n hx hb d_C_perform_0 rfl (lv_at hl 0 rfl) ?_
  refine va_get (D := (dC, dI)) (ci := 0) (v := .ref (aa 5)) (C := R_C) (T := F_C) (N := 5) hx hb hts i_C hown hK hP 0 rfl rfl 4 (by decide) (hts _ fl_C_40) (fun _ h9 => h9) rfl d_C_perform_1 ?_
  refine lv_iload_n hx hb d_C_perform_4 rfl (lv_at hl 1 rfl) ?_
  refine lv_iload_n hx hb d_C_perform_5 rfl (lv_at hl 2 rfl) ?_
  refine lv_iload_n hx hb d_C_perform_6 rfl (lv_at hl 3 rfl) ?_
  refine lv_iload hx hb d_C_perform_7 (lv_at hl 4 rfl) ?_
  refine cW (W.runV (As := [.int x, .int y, .int z, .int u]) (rest := []) ⟨hx, hb, hml, hown, hts⟩ (c_H_write hP hdD e4 hd x y z u) (cwV 4 hts (wB_goodV (fun _ h => h) ml_C_251 im_H_write se_H_write ini_H co_H_write) rfl rfl rfl (by decide +kernel) ⟨Nat.le_of_ble_eq_true rfl, Nat.le_of_ble_eq_true rfl⟩) (pV hK hP (ci := 1) (q0 := 5) rfl rfl _) rfl rfl hl.1 rfl (lv_room (Nat.le_of_ble_eq_true rfl)) d_C_perform_9 ⟨Nat.zero_le _, Nat.zero_le _⟩) hS (fun _ h => h) (fun H locs hP hS _ _ => ?_)
  have hP : va_P (dC, dI) classes (wC aa cI cZ (va_up kn 5 (nI d + 1)) (hwV vv d x y z u)) H := hP
  have hD : va_D (aN aa 22) (wC aa cI cZ (va_up kn 5 (nI d + 1)) (hwV vv d x y z u)) := wC_D (dD_aN hdD)
  refine lv_aload_n hx hb d_C_perform_12 rfl (lv_at hl 0 rfl) ?_
  refine cW (W.runV (As := []) (rest := []) ⟨hx, hb, hml, hown, hts⟩ (c_C_goForward hP hdD (d := d) (show va_up kn 5 (nI d + 1) 4 = nI d from e4) hd hA) (cwV 0 hts (wB_goodV (fun _ h => h) ml_C_159 im_C_goForward se_C_goForward ini_C co_C_goForward) rfl rfl rfl (by decide +kernel) ⟨Nat.le_of_ble_eq_true rfl, Nat.le_of_ble_eq_true rfl⟩) (pV hK hP (ci := 0) (q0 := 0) rfl rfl _) rfl rfl hl.1 rfl (lv_room (Nat.le_of_ble_eq_true rfl)) d_C_perform_13 ⟨Nat.zero_le _, Nat.zero_le _⟩) hS (fun _ h => h) (fun H locs hP hS _ _ => ?_)
  have hP : va_P (dC, dI) classes (wC aa cI cZ (va_up (stK (va_up kn 5 (nI d + 1)) (hwV vv d x y z u) d 1) 4 (stK (va_up kn 5 (nI d + 1)) (hwV vv d x y z u) d 1 4 + 1)) (stV (hwV vv d x y z u) d 1)) H := hP
  have hD : va_D (aN aa 22) (wC aa cI cZ (va_up (stK (va_up kn 5 (nI d + 1)) (hwV vv d x y z u) d 1) 4 (stK (va_up kn 5 (nI d + 1)) (hwV vv d x y z u) d 1 4 + 1)) (stV (hwV vv d x y z u) d 1)) := wC_D (dD_aN hdD)
  have er : (none : Option Value) = none := by rfl
  have hPe : va_P (dC, dI) classes (wC aa cI cZ (va_up (stK (va_up kn 5 (nI d + 1)) (hwV vv d x y z u) d 1) 4 (stK (va_up kn 5 (nI d + 1)) (hwV vv d x y z u) d 1 4 + 1)) (stV (hwV vv d x y z u) d 1)) H := by exact hP
  exact W.vret hx hb hr (fun t ht hW => ⟨by rw [er], by rw [ht]; exact hPe, hS.F ht⟩) hS.2.2 d_C_perform_16
set_option maxRecDepth 100000 in
set_option maxHeartbeats 4000000 in
theorem c_C_writeCopies (hP : va_P (dC, dI) classes (wC aa cI cZ kn vv) H) (hdD : dD noT aa 22) (hI : okC kn nn) (x y : Int32) (hB1 : ∀ i, i < nn 2 → onB kn (wcF kn (nn 3) x y i (vv, nn 2, nn 3)).1 (nI i) x = true → (wcF kn (nn 3) x y i (vv, nn 2, nn 3)).2.1 < 40) (hB2 : ∀ i, i < nn 2 → (wcF kn (nn 3) x y (i + 1) (vv, nn 2, nn 3)).2.2 ≤ 60) : Met l y_C_writeCopies (wB y_C_writeCopies b_C_writeCopies 6 none) ({ frames := 2, cells := 0, slots := 0, locals := 49 } : Room) (rP [.ref (aa 0), .int x, .int y] H (kK dC dI cI cZ cJ)) (qW none (aN aa 22) (fun H1 => va_P (dC, dI) classes (wC aa cI cZ kn (wcF kn (nn 3) x y (nn 2) (vv, nn 2, nn 3)).1) H1)) 0 0 (aN aa 22) := by
  refine Met.ofW (cc := b_C_writeCopies) (maxL := 6) (ret := none) (by decide) rfl ?_
  intro p e s m args below meth c s₁ B hml hv
  obtain ⟨rfl, rfl, hK⟩ := hv
  have hx := B.exec
  have hb := B.bytes
  have hr := B.returns
  have hts0 := atoms_spec (ws := (wB y_C_writeCopies b_C_writeCopies 6 none)) B.pre
  have hts : ∀ w9 ∈ BG, w9.before [.ref (aa 0), .int x, .int y].toArray s = true := fun w9 hw9 => hts0 w9 (List.mem_cons_of_mem _ hw9)
  have hown : s.vm.findClass R_C = some m.cls := findClass_of_methodNamed B.named
  have hlocks := B.notSynchronized
  have hK : va_K (dC, dI) classes [(cI, .int), (cZ, .boolean), (cJ, .long)] s := hK
  have hD : va_D (aN aa 22) (wC aa cI cZ kn vv) := wC_D (dD_aN hdD)
  have hS : va_S (aN aa 22) s.heap s.heap [] := va_S.rf
  have hl := lv_entry ([.ref (aa 0), .int x, .int y]) (n := 6) (Nat.le_of_ble_eq_true rfl)
  rw [lg_entry_eq]
  generalize (lg_sl ([.ref (aa 0), .int x, .int y]) ++ List.replicate (6 - (lg_sl ([.ref (aa 0), .int x, .int y])).length) Slot.unset).toArray = ls at hl ⊢
  have hl : lv_has ls 6 [(0, .ref (aa 0)), (1, .int x), (2, .int y)] := hl
  obtain ⟨eK, b0, b1, b2, b3, b4, b5⟩ := id hI
  refine lv_aload_n hx hb d_C_writeCopies_0 rfl (lv_at hl 0 rfl) ?_
  refine va_get (D := (dC, dI)) (ci := 0) (v := .ref (aa 3)) (C := R_C) (T := F_C) (N := 5) hx hb hts i_C hown hK hP 0 rfl rfl 2 (by decide) (hts _ fl_C_26) (fun _ h9 => h9) rfl d_C_writeCopies_1 ?_
  refine va_get (D := (dC, dI)) (ci := 5) (v := .int (nI (nn 2))) (C := R_W) (T := F_W) (N := 8) hx hb hts i_W hown hK hP 3 rfl rfl 7 (by decide) (hts _ fl_C_95) (fun _ h9 => h9) (by rw [← (eK 2 (by decide))]; rfl) d_C_writeCopies_4 ?_
  refine lv_istore_n (lv' := [(3, .int (nI (nn 2))), (0, .ref (aa 0)), (1, .int x), (2, .int y)]) hx hb d_C_writeCopies_7 rfl hl (by decide) rfl (fun ls hl => ?_)
  refine lv_aload_n hx hb d_C_writeCopies_8 rfl (lv_at hl 1 rfl) ?_
  refine va_get (D := (dC, dI)) (ci := 0) (v := .ref (aa 4)) (C := R_C) (T := F_C) (N := 5) hx hb hts i_C hown hK hP 0 rfl rfl 3 (by decide) (hts _ fl_C_33) (fun _ h9 => h9) rfl d_C_writeCopies_9 ?_
  refine va_get (D := (dC, dI)) (ci := 2) (v := .int (nI (nn 3))) (C := R_O) (T := F_O) (N := 4) hx hb hts i_O hown hK hP 4 rfl rfl 3 (by decide) (hts _ fl_C_123) (fun _ h9 => h9) (by rw [← (eK 3 (by decide))]; rfl) d_C_writeCopies_12 ?_
  refine lv_istore (lv' := [(4, .int (nI (nn 3))), (3, .int (nI (nn 2))), (0, .ref (aa 0)), (1, .int x), (2, .int y)]) hx hb d_C_writeCopies_15 hl (by decide) rfl (fun ls hl => ?_)
  refine lv_iconst (v := 0) hx hb d_C_writeCopies_17 (by decide) ?_
  refine lv_istore (lv' := [(5, .int 0), (4, .int (nI (nn 3))), (3, .int (nI (nn 2))), (0, .ref (aa 0)), (1, .int x), (2, .int y)]) hx hb d_C_writeCopies_18 hl (by decide) rfl (fun ls hl => ?_)
  have loop_20 : ∀ (k9 i : Nat), nn 2 + 1 ≤ i + k9 → i ≤ nn 2 → ∀ (H : Heap) (locs : List Loc), va_P (dC, dI) classes (wC aa cI cZ kn (wcF kn (nn 3) x y i (vv, nn 2, nn 3)).1) H → va_S (aN aa 22) s.heap H locs → ∀ (ls : Array Slot), lv_has ls 6 [(0, .ref (aa 0)), (1, .int x), (2, .int y), (3, .int (nI (wcF kn (nn 3) x y i (vv, nn 2, nn 3)).2.1)), (4, .int (nI (wcF kn (nn 3) x y i (vv, nn 2, nn 3)).2.2)), (5, .int (nI i))] → W p l e (headSpec (wB y_C_writeCopies b_C_writeCopies 6 none) ({ frames := 2, cells := 0, slots := 0, locals := 49 } : Room)).room s m [.ref (aa 0), .int x, .int y].toArray below meth c H locs 0 0 (MQ below (qW none (aN aa 22) (fun H1 => va_P (dC, dI) classes (wC aa cI cZ kn (wcF kn (nn 3) x y (nn 2) (vv, nn 2, nn 3)).1) H1)) [.ref (aa 0), .int x, .int y].toArray s 0 0 (aN aa 22)) (F0 m 20 ls []) := by
    intro k9
    induction k9 with
    | zero => intro i  hk hi H locs hP hS ls hl; exact absurd hk (by omega)
    | succ k9 ih =>
      intro i  hk hi H locs hP hS ls hl
      have hD : va_D (aN aa 22) (wC aa cI cZ kn (wcF kn (nn 3) x y i (vv, nn 2, nn 3)).1) := wC_D (dD_aN hdD)
      refine lv_iload hx hb d_C_writeCopies_20 (lv_at hl 5 rfl) ?_
      refine lv_aload_n hx hb d_C_writeCopies_22 rfl (lv_at hl 0 rfl) ?_
      refine va_get (D := (dC, dI)) (ci := 0) (v := .ref (aa 3)) (C := R_C) (T := F_C) (N := 5) hx hb hts i_C hown hK hP 0 rfl rfl 2 (by decide) (hts _ fl_C_26) (fun _ h9 => h9) rfl d_C_writeCopies_23 ?_
      refine va_get (D := (dC, dI)) (ci := 5) (v := .int (kn 2)) (C := R_W) (T := F_W) (N := 8) hx hb hts i_W hown hK hP 3 rfl rfl 7 (by decide) (hts _ fl_C_95) (fun _ h9 => h9) rfl d_C_writeCopies_26 ?_
      refine lv_icmp_ge (tgt := 79) hx hb d_C_writeCopies_29 (by decide) (fun c_29 => ?_) (fun c_29 => ?_)
      · have hi2 : i = nn 2 := Nat.le_antisymm hi (geC (eK 2 (by decide)) c_29 (by omega) (by omega))
        have er : (none : Option Value) = none := by rfl
        have hPe : va_P (dC, dI) classes (wC aa cI cZ kn (wcF kn (nn 3) x y (nn 2) (vv, nn 2, nn 3)).1) H := by have h9 := hP; rw [hi2] at h9; exact h9
        exact W.vret hx hb hr (fun t ht hW => ⟨by rw [er], by rw [ht]; exact hPe, hS.F ht⟩) hS.2.2 d_C_writeCopies_79
      · have hi2 : i < nn 2 := ltC (eK 2 (by decide)) c_29 (by omega) (by omega)
        refine lv_aload_n hx hb d_C_writeCopies_32 rfl (lv_at hl 0 rfl) ?_
        refine va_get (D := (dC, dI)) (ci := 0) (v := .ref (aa 3)) (C := R_C) (T := F_C) (N := 5) hx hb hts i_C hown hK hP 0 rfl rfl 2 (by decide) (hts _ fl_C_26) (fun _ h9 => h9) rfl d_C_writeCopies_33 ?_
        refine lv_iload hx hb d_C_writeCopies_36 (lv_at hl 5 rfl) ?_
        refine lv_iload_n hx hb d_C_writeCopies_38 rfl (lv_at hl 1 rfl) ?_
        refine cR (W.runV (As := [.int (nI i), .int x]) (rest := []) ⟨hx, hb, hml, hown, hts⟩ (c_W_isOn hP hI (nI i) x) (cwV 2 hts (wB_goodV (fun _ h => h) ml_C_219 im_W_isOn se_W_isOn ini_W co_W_isOn) rfl rfl rfl (by decide +kernel) ⟨Nat.le_of_ble_eq_true rfl, Nat.le_of_ble_eq_true rfl⟩) (pV hK hP (ci := 5) (q0 := 3) rfl rfl _) rfl rfl hl.1 rfl (lv_room (Nat.le_of_ble_eq_true rfl)) d_C_writeCopies_39 ⟨Nat.zero_le _, Nat.zero_le _⟩) ?_
        refine lv_if_eq (tgt := 73) hx hb d_C_writeCopies_42 (by decide) (fun c_42 => ?_) (fun c_42 => ?_)
        · refine lv_iinc (v := (nI (i + 1))) (lv' := [(5, .int (nI (i + 1))), (0, .ref (aa 0)), (1, .int x), (2, .int y), (3, .int (nI (wcF kn (nn 3) x y i (vv, nn 2, nn 3)).2.1)), (4, .int (nI (wcF kn (nn 3) x y i (vv, nn 2, nn 3)).2.2))]) hx hb d_C_writeCopies_73 hl (k := 5) rfl (nI_1 _) (by decide) rfl (fun ls hl => ?_)
          refine lv_goto (tgt := 20) hx hb d_C_writeCopies_76 (by decide) ?_
          have eo : wcF kn (nn 3) x y (i + 1) (vv, nn 2, nn 3) = wcF kn (nn 3) x y i (vv, nn 2, nn 3) := by rw [wcF, if_neg (by rw [bI_0.mp c_42]; decide)]
          rw [← eo] at hl hP
          exact ih (i + 1) (by omega) (by omega) _ _ hP hS ls (lv_sub hl [1, 2, 3, 4, 5, 0] rfl)
        · have hw9 := hB1 i hi2 (bI_n0.mp c_42)
          have ho9 := hB2 i hi2
          rw [wcF, if_pos (bI_n0.mp c_42)] at ho9
          refine lv_aload_n hx hb d_C_writeCopies_45 rfl (lv_at hl 0 rfl) ?_
          refine va_get (D := (dC, dI)) (ci := 0) (v := .ref (aa 3)) (C := R_C) (T := F_C) (N := 5) hx hb hts i_C hown hK hP 0 rfl rfl 2 (by decide) (hts _ fl_C_26) (fun _ h9 => h9) rfl d_C_writeCopies_46 ?_
          refine lv_iload hx hb d_C_writeCopies_49 (lv_at hl 5 rfl) ?_
          refine lv_iload_n hx hb d_C_writeCopies_51 rfl (lv_at hl 3 rfl) ?_
          refine lv_iload_n hx hb d_C_writeCopies_52 rfl (lv_at hl 2 rfl) ?_
          refine cW (W.runV (As := [.int (nI i), .int (nI (wcF kn (nn 3) x y i (vv, nn 2, nn 3)).2.1), .int y]) (rest := []) ⟨hx, hb, hml, hown, hts⟩ (c_W_writeCopy hP hdD (show i < 40 by omega) hw9 y) (cwV 3 hts (wB_goodV (fun _ h => h) ml_C_276 im_W_writeCopy se_W_writeCopy ini_W co_W_writeCopy) rfl rfl rfl (by decide +kernel) ⟨Nat.le_of_ble_eq_true rfl, Nat.le_of_ble_eq_true rfl⟩) (pV hK hP (ci := 5) (q0 := 3) rfl rfl _) rfl rfl hl.1 rfl (lv_room (Nat.le_of_ble_eq_true rfl)) d_C_writeCopies_53 ⟨Nat.zero_le _, Nat.zero_le _⟩) hS (fun _ h => h) (fun H locs hP hS _ _ => ?_)
          have hP : va_P (dC, dI) classes (wC aa cI cZ kn (nwV (wcF kn (nn 3) x y i (vv, nn 2, nn 3)).1 ((wcF kn (nn 3) x y i (vv, nn 2, nn 3)).2.1) y ((wcF kn (nn 3) x y i (vv, nn 2, nn 3)).1 3 i) ((wcF kn (nn 3) x y i (vv, nn 2, nn 3)).1 4 i) ((wcF kn (nn 3) x y i (vv, nn 2, nn 3)).1 5 i) ((wcF kn (nn 3) x y i (vv, nn 2, nn 3)).1 6 i) ((wcF kn (nn 3) x y i (vv, nn 2, nn 3)).1 7 i))) H := hP
          have hD : va_D (aN aa 22) (wC aa cI cZ kn (nwV (wcF kn (nn 3) x y i (vv, nn 2, nn 3)).1 ((wcF kn (nn 3) x y i (vv, nn 2, nn 3)).2.1) y ((wcF kn (nn 3) x y i (vv, nn 2, nn 3)).1 3 i) ((wcF kn (nn 3) x y i (vv, nn 2, nn 3)).1 4 i) ((wcF kn (nn 3) x y i (vv, nn 2, nn 3)).1 5 i) ((wcF kn (nn 3) x y i (vv, nn 2, nn 3)).1 6 i) ((wcF kn (nn 3) x y i (vv, nn 2, nn 3)).1 7 i))) := wC_D (dD_aN hdD)
          refine lv_aload_n hx hb d_C_writeCopies_56 rfl (lv_at hl 0 rfl) ?_
          refine va_get (D := (dC, dI)) (ci := 0) (v := .ref (aa 4)) (C := R_C) (T := F_C) (N := 5) hx hb hts i_C hown hK hP 0 rfl rfl 3 (by decide) (hts _ fl_C_33) (fun _ h9 => h9) rfl d_C_writeCopies_57 ?_
          refine lv_iload hx hb d_C_writeCopies_60 (lv_at hl 5 rfl) ?_
          refine lv_iload_n hx hb d_C_writeCopies_62 rfl (lv_at hl 3 rfl) ?_
          refine lv_iload hx hb d_C_writeCopies_63 (lv_at hl 4 rfl) ?_
          refine cW (W.runV (As := [.int (nI i), .int (nI (wcF kn (nn 3) x y i (vv, nn 2, nn 3)).2.1), .int (nI (wcF kn (nn 3) x y i (vv, nn 2, nn 3)).2.2)]) (rest := []) ⟨hx, hb, hml, hown, hts⟩ (c_O_writeCopies hP hdD hI (nI i) _ ho9) (cwV 3 hts (wB_goodV (fun _ h => h) ml_C_279 im_O_writeCopies se_O_writeCopies ini_O co_O_writeCopies) rfl rfl rfl (by decide +kernel) ⟨Nat.le_of_ble_eq_true rfl, Nat.le_of_ble_eq_true rfl⟩) (pV hK hP (ci := 2) (q0 := 4) rfl rfl _) rfl rfl hl.1 rfl (lv_room (Nat.le_of_ble_eq_true rfl)) d_C_writeCopies_65 ⟨Nat.zero_le _, Nat.zero_le _⟩) hS (fun _ h => h) (fun H locs hP hS _ _ => ?_)
          have hP : va_P (dC, dI) classes (wC aa cI cZ kn (ocF (nI i) (nI (wcF kn (nn 3) x y i (vv, nn 2, nn 3)).2.1) (nn 3) ((nwV (wcF kn (nn 3) x y i (vv, nn 2, nn 3)).1 ((wcF kn (nn 3) x y i (vv, nn 2, nn 3)).2.1) y ((wcF kn (nn 3) x y i (vv, nn 2, nn 3)).1 3 i) ((wcF kn (nn 3) x y i (vv, nn 2, nn 3)).1 4 i) ((wcF kn (nn 3) x y i (vv, nn 2, nn 3)).1 5 i) ((wcF kn (nn 3) x y i (vv, nn 2, nn 3)).1 6 i) ((wcF kn (nn 3) x y i (vv, nn 2, nn 3)).1 7 i)), ((wcF kn (nn 3) x y i (vv, nn 2, nn 3)).2.2))).1) H := hP
          have hD : va_D (aN aa 22) (wC aa cI cZ kn (ocF (nI i) (nI (wcF kn (nn 3) x y i (vv, nn 2, nn 3)).2.1) (nn 3) ((nwV (wcF kn (nn 3) x y i (vv, nn 2, nn 3)).1 ((wcF kn (nn 3) x y i (vv, nn 2, nn 3)).2.1) y ((wcF kn (nn 3) x y i (vv, nn 2, nn 3)).1 3 i) ((wcF kn (nn 3) x y i (vv, nn 2, nn 3)).1 4 i) ((wcF kn (nn 3) x y i (vv, nn 2, nn 3)).1 5 i) ((wcF kn (nn 3) x y i (vv, nn 2, nn 3)).1 6 i) ((wcF kn (nn 3) x y i (vv, nn 2, nn 3)).1 7 i)), ((wcF kn (nn 3) x y i (vv, nn 2, nn 3)).2.2))).1) := wC_D (dD_aN hdD)
          refine lv_istore (lv' := [(4, .int (nI (ocF (nI i) (nI (wcF kn (nn 3) x y i (vv, nn 2, nn 3)).2.1) (nn 3) ((nwV (wcF kn (nn 3) x y i (vv, nn 2, nn 3)).1 ((wcF kn (nn 3) x y i (vv, nn 2, nn 3)).2.1) y ((wcF kn (nn 3) x y i (vv, nn 2, nn 3)).1 3 i) ((wcF kn (nn 3) x y i (vv, nn 2, nn 3)).1 4 i) ((wcF kn (nn 3) x y i (vv, nn 2, nn 3)).1 5 i) ((wcF kn (nn 3) x y i (vv, nn 2, nn 3)).1 6 i) ((wcF kn (nn 3) x y i (vv, nn 2, nn 3)).1 7 i)), ((wcF kn (nn 3) x y i (vv, nn 2, nn 3)).2.2))).2)), (0, .ref (aa 0)), (1, .int x), (2, .int y), (3, .int (nI (wcF kn (nn 3) x y i (vv, nn 2, nn 3)).2.1)), (5, .int (nI i))]) hx hb d_C_writeCopies_68 hl (by decide) rfl (fun ls hl => ?_)
          refine lv_iinc (v := (nI ((wcF kn (nn 3) x y i (vv, nn 2, nn 3)).2.1 + 1))) (lv' := [(3, .int (nI ((wcF kn (nn 3) x y i (vv, nn 2, nn 3)).2.1 + 1))), (4, .int (nI (ocF (nI i) (nI (wcF kn (nn 3) x y i (vv, nn 2, nn 3)).2.1) (nn 3) ((nwV (wcF kn (nn 3) x y i (vv, nn 2, nn 3)).1 ((wcF kn (nn 3) x y i (vv, nn 2, nn 3)).2.1) y ((wcF kn (nn 3) x y i (vv, nn 2, nn 3)).1 3 i) ((wcF kn (nn 3) x y i (vv, nn 2, nn 3)).1 4 i) ((wcF kn (nn 3) x y i (vv, nn 2, nn 3)).1 5 i) ((wcF kn (nn 3) x y i (vv, nn 2, nn 3)).1 6 i) ((wcF kn (nn 3) x y i (vv, nn 2, nn 3)).1 7 i)), ((wcF kn (nn 3) x y i (vv, nn 2, nn 3)).2.2))).2)), (0, .ref (aa 0)), (1, .int x), (2, .int y), (5, .int (nI i))]) hx hb d_C_writeCopies_70 hl (k := 4) rfl (nI_1 _) (by decide) rfl (fun ls hl => ?_)
          refine lv_iinc (v := (nI (i + 1))) (lv' := [(5, .int (nI (i + 1))), (3, .int (nI ((wcF kn (nn 3) x y i (vv, nn 2, nn 3)).2.1 + 1))), (4, .int (nI (ocF (nI i) (nI (wcF kn (nn 3) x y i (vv, nn 2, nn 3)).2.1) (nn 3) ((nwV (wcF kn (nn 3) x y i (vv, nn 2, nn 3)).1 ((wcF kn (nn 3) x y i (vv, nn 2, nn 3)).2.1) y ((wcF kn (nn 3) x y i (vv, nn 2, nn 3)).1 3 i) ((wcF kn (nn 3) x y i (vv, nn 2, nn 3)).1 4 i) ((wcF kn (nn 3) x y i (vv, nn 2, nn 3)).1 5 i) ((wcF kn (nn 3) x y i (vv, nn 2, nn 3)).1 6 i) ((wcF kn (nn 3) x y i (vv, nn 2, nn 3)).1 7 i)), ((wcF kn (nn 3) x y i (vv, nn 2, nn 3)).2.2))).2)), (0, .ref (aa 0)), (1, .int x), (2, .int y)]) hx hb d_C_writeCopies_73 hl (k := 5) rfl (nI_1 _) (by decide) rfl (fun ls hl => ?_)
          refine lv_goto (tgt := 20) hx hb d_C_writeCopies_76 (by decide) ?_
          have eo : wcF kn (nn 3) x y (i + 1) (vv, nn 2, nn 3) = wcS (nn 3) y i (wcF kn (nn 3) x y i (vv, nn 2, nn 3)) := by rw [wcF, if_pos (bI_n0.mp c_42)]
          have hl : lv_has ls 6 [(0, .ref (aa 0)), (1, .int x), (2, .int y), (3, .int (nI (wcF kn (nn 3) x y (i + 1) (vv, nn 2, nn 3)).2.1)), (4, .int (nI (wcF kn (nn 3) x y (i + 1) (vv, nn 2, nn 3)).2.2)), (5, .int (nI (i + 1)))] := by rw [eo]; exact lv_sub hl [3, 4, 5, 1, 2, 0] rfl
          have hP : va_P (dC, dI) classes (wC aa cI cZ kn (wcF kn (nn 3) x y (i + 1) (vv, nn 2, nn 3)).1) H := by rw [eo]; exact hP
          exact ih (i + 1) (by omega) (by omega) _ _ hP hS ls (lv_sub hl [0, 1, 2, 3, 4, 5] rfl)
  exact loop_20 (nn 2 + 1) 0 (by omega) (by omega) _ _ hP hS ls (lv_sub hl [3, 4, 5, 2, 1, 0] rfl)
end
end
section
/-! what a throw of the class needs, and what a method that may throw says -/
abbrev eIA : String := "java/lang/IllegalArgumentException"
abbrev eIS : String := "java/lang/IllegalStateException"
abbrev eNs : List String := ["java/lang/RuntimeException", "java/lang/Exception"]
def xB : List Cond := [.declares ⟨"java/lang/RuntimeException", "<init>", "(Ljava/lang/String;)V"⟩, .declares ⟨"java/lang/Exception", "<init>", "(Ljava/lang/String;)V"⟩, .declares ⟨"java/lang/Throwable", "<init>", "(Ljava/lang/String;)V"⟩, .castable eIA eIA, .castable eIS eIS]
def xS : List (Nat × String) := [(229, "a level is -1000 .. 10000"), (234, "a storey is above the one before and below the next"), (54, "there are 6 storeys"), (249, "200 acts are held"), (227, "there is no such storey"), (239, "a thickness is an even number 2 .. 100"), (78, "there are 8 types"), (237, "there is no such type"), (247, "a coordinate is -1000 .. 1000"), (92, "a wall goes along x or along y"), (96, "there are 40 walls"), (241, "there is no such wall"), (121, "an opening lies within its wall"), (128, "openings of a wall do not overlap"), (130, "there are 60 openings"), (135, "a storey is not copied onto itself"), (143, "there would be more than 40 walls"), (145, "there would be more than 60 openings"), (162, "acts are done (0) or undone (1)"), (164, "what is counted is 0 .. 3"), (180, "what is told of a wall is 0 .. 9"), (191, "there is no such opening"), (199, "what is told of an opening is 0 .. 2"), (207, "what is told of a storey is 0 .. 3"), (215, "what is told of a type is 0 .. 2"), (217, "walls are counted from 0")]
theorem xB_ot : ∀ w ∈ xB, w.onTables = true := by decide +kernel
theorem xB_warm {w : Cond} (hw : w ∈ xB) {s U : State} (hW : s.WarmedH U.vm) (h : va_Nw w s) : va_Nw w U := by
  simp only [xB, List.mem_cons, List.mem_nil_iff, or_false] at hw
  rcases hw with rfl | rfl | rfl | rfl | rfl
  · exact va_Nw.warmD hW h
  · exact va_Nw.warmD hW h
  · exact va_Nw.warmD hW h
  · exact va_Nw.warmC hW h
  · exact va_Nw.warmC hW h
def TX (A : Nat → Prop) (U : State) (H : Heap) : Prop := vx_Zq Bundle.tN "UNASSIGNED_STACK" Bundle.steD A U H ∧ vx_Zq Bundle.tN "SUPPRESSED_SENTINEL" Bundle.listD A U H ∧ (∀ w ∈ xB, va_Nw w U) ∧ ∀ q ∈ xS, ∃ sa, vk_R R_C q.1 q.2 sa U
theorem TX.warm {A : Nat → Prop} {s U : State} {H : Heap} (hW : s.WarmedH U.vm) (h : TX A s H) : TX A U H := ⟨h.1.moved hW.alike, h.2.1.moved hW.alike, fun w hw => xB_warm hw hW (h.2.2.1 w hw), fun q hq => (h.2.2.2 q hq).elim fun sa e => ⟨sa, e.warm hW⟩⟩
theorem TX.same {A : Nat → Prop} {s U : State} {H : Heap} (hv : s.vm = U.vm) (h : TX A s H) : TX A U H := ⟨h.1.moved (hv ▸ Vm.Alike.refl s.vm), h.2.1.moved (hv ▸ Vm.Alike.refl s.vm), fun w hw => (h.2.2.1 w hw).same (xB_ot w hw) hv, fun q hq => (h.2.2.2 q hq).elim fun sa e => ⟨sa, e.same hv.symm⟩⟩
theorem TX.kept {A : Nat → Prop} {U : State} {H H1 : Heap} (h : TX A U H) (hq : ∀ a : Nat, a < H.size → ¬ A a → H1[a]? = H[a]?) : TX A U H1 := ⟨h.1.kept hq, h.2.1.kept hq, h.2.2⟩
theorem TX.narrow {A B : Nat → Prop} {U : State} {H : Heap} (h : TX A U H) (hAB : ∀ q, B q → A q) : TX B U H := ⟨h.1.narrow hAB, h.2.1.narrow hAB, h.2.2⟩
def kT (dC : Nat → ClassId) (dI : Nat → Nat → Nat) (cI cZ cJ : ClassId) (A : Nat → Prop) (U : State) : Prop := kK dC dI cI cZ cJ U ∧ TX A U U.heap
theorem kT_blind {av : List Value} {H : Heap} {dC : Nat → ClassId} {dI : Nat → Nat → Nat} {cI cZ cJ : ClassId} {A : Nat → Prop} : FrameBlind (rP av H (kT dC dI cI cZ cJ A)) := fun a U g mk q => ⟨q.1, q.2.1, kK_moved (u := U) (U := U.calling g mk a) (Vm.Alike.refl U.vm) q.2.2.1, TX.same (s := U) (U := U.calling g mk a) rfl q.2.2.2⟩
def QcVoid : Array Value → State → Outcome → State → Prop := fun _ st o t => o = .returned none ∧ t.heap = st.heap
def QcNo : Array Value → State → Outcome → State → Prop := fun _ _ _ _ => False
def xE (E0 : String) : String → State → State → Prop := fun E st t => E = E0 ∧ va_F noA st t
def qT (k : Nat) (r : Option Value) (A : Nat → Prop) (P : Heap → Prop) : Array Value → State → Outcome → State → Prop := fun _ st o t => k = 0 ∧ o = .returned r ∧ P t.heap ∧ va_F A st t
def xT (k : Nat) : String → State → State → Prop := fun E st t => ((k = 1 ∧ E = eIA) ∨ (k = 2 ∧ E = eIS)) ∧ va_F noA st t
theorem xat_IA : ∀ w ∈ (vx_atS R_C 94 eIA eNs).filter goodWord, w ∈ lw_tbl := by decide +kernel
theorem xat_IS : ∀ w ∈ (vx_atS R_C 56 eIS eNs).filter goodWord, w ∈ lw_tbl := by decide +kernel
theorem xnb_IA : ∀ w ∈ (vx_atS R_C 94 eIA eNs).filter (fun w => !goodWord w), w ∈ xB := by decide +kernel
theorem xnb_IS : ∀ w ∈ (vx_atS R_C 56 eIS eNs).filter (fun w => !goodWord w), w ∈ xB := by decide +kernel
theorem xgo_IA : ∀ w ∈ Cond.classLink R_C 90 eIA :: Cond.initialized eIA :: vx_atS R_C 94 eIA eNs, vx_ot w = true := by decide +kernel
theorem xgo_IS : ∀ w ∈ Cond.classLink R_C 52 eIS :: Cond.initialized eIS :: vx_atS R_C 56 eIS eNs, vx_ot w = true := by decide +kernel
section THR
variable {p : Program} {l : Launch} {e : Env} {R : Room} {s : State} {m : MethodId} {args : Array Value} {below : List Frame} {meth : Method} {c : Code} {H : Heap} {locs : List Loc} {cells slots : Nat} {Q : State → Prop} {pc : Nat} {ls : Array Slot} {st0 rest : List Value} {a : Array Value} {A0 A1 : Nat → Prop} {H0 : Heap} {dC : Nat → ClassId} {dI : Nat → Nat → Nat} {cI cZ cJ : ClassId} {Qc : Array Value → State → Outcome → State → Prop} {XC : String → State → State → Prop} {free : Addr → Prop} {cc : ByteArray} {A : Nat → Prop} {mc ms : Nat}
theorem thIA (hx : p.tables.exec = Jvm.exec) (hb : c.code = cc) (hlt : l.stackTraces = false) (hown : s.vm.findClass R_C = some m.cls) (hts : ∀ w ∈ BG, w.before args s = true) (hT : TX A s s.heap) (hS : va_S A s.heap H locs) (hsize : ls.size = c.maxLocals) {is : Nat} {text : String} (hm : (is, text) ∈ xS)
    (d0 : decode cc pc = .ok (.new 90, 3)) (d3 : decode cc (pc + 3) = .ok (.dup, 1)) (d4 : decode cc (pc + 4) = .ok (.ldc is, 2)) (d6 : decode cc (pc + 6) = .ok (.invokespecial 94, 3)) (d9 : decode cc (pc + 9) = .ok (.athrow, 1))
    (hout : ∀ x ∈ c.exceptionTable.toList, False) (hRf : 5 < R.frames) (hRl : (rest.map fun v => v.category).sum + 82 ≤ R.locals) (hRc : cells + 1 ≤ R.cells) (hRs : slots + 6 ≤ R.slots) (hlocks : meth.locks = false)
    (hX : ∀ t : State, s.vm.Alike t.vm → H.size ≤ t.heap.size → (∀ q : Nat, q < H.size → t.heap[q]? = H[q]?) → XC eIA s t) (hf : ∀ z ∈ locs, free z.base) (hc : cells + 1 ≤ mc) (hs : slots + 6 ≤ ms) :
    W p l e R s m args below meth c H locs cells slots (vx_MQ below Qc XC args s mc ms free) (F0 m pc ls rest) := by
  obtain ⟨sa, hstr⟩ := hT.2.2.2 _ hm
  refine vx_throwS (own := R_C) (cls := eIA) (names := eNs) (ik := 90) (ic := 94) (sa := sa) hx hb hlt hown (by decide) (by decide) (hts _ cl_C_90) (hts _ ini_IllegalArgumentException) hstr ?_ xgo_IA hT.1 hT.2.1 hS hsize d0 d3 d4 d6 d9 (fun x h => (hout x h).elim) hRf hRl hRc hRs hlocks hX hf hc hs
  exact vx_hat (fun w hw => hts w (List.mem_filter.mpr ⟨xat_IA w hw, (List.mem_filter.mp hw).2⟩)) xnb_IA (fun w hw => (hT.2.2.1 w hw).use (xB_ot w hw))
theorem thIS (hx : p.tables.exec = Jvm.exec) (hb : c.code = cc) (hlt : l.stackTraces = false) (hown : s.vm.findClass R_C = some m.cls) (hts : ∀ w ∈ BG, w.before args s = true) (hT : TX A s s.heap) (hS : va_S A s.heap H locs) (hsize : ls.size = c.maxLocals) {is : Nat} {text : String} (hm : (is, text) ∈ xS)
    (d0 : decode cc pc = .ok (.new 52, 3)) (d3 : decode cc (pc + 3) = .ok (.dup, 1)) (d4 : decode cc (pc + 4) = .ok (.ldc is, 2)) (d6 : decode cc (pc + 6) = .ok (.invokespecial 56, 3)) (d9 : decode cc (pc + 9) = .ok (.athrow, 1))
    (hout : ∀ x ∈ c.exceptionTable.toList, False) (hRf : 5 < R.frames) (hRl : (rest.map fun v => v.category).sum + 82 ≤ R.locals) (hRc : cells + 1 ≤ R.cells) (hRs : slots + 6 ≤ R.slots) (hlocks : meth.locks = false)
    (hX : ∀ t : State, s.vm.Alike t.vm → H.size ≤ t.heap.size → (∀ q : Nat, q < H.size → t.heap[q]? = H[q]?) → XC eIS s t) (hf : ∀ z ∈ locs, free z.base) (hc : cells + 1 ≤ mc) (hs : slots + 6 ≤ ms) :
    W p l e R s m args below meth c H locs cells slots (vx_MQ below Qc XC args s mc ms free) (F0 m pc ls rest) := by
  obtain ⟨sa, hstr⟩ := hT.2.2.2 _ hm
  refine vx_throwS (own := R_C) (cls := eIS) (names := eNs) (ik := 52) (ic := 56) (sa := sa) hx hb hlt hown (by decide) (by decide) (hts _ cl_C_52) (hts _ ini_IllegalStateException) hstr ?_ xgo_IS hT.1 hT.2.1 hS hsize d0 d3 d4 d6 d9 (fun x h => (hout x h).elim) hRf hRl hRc hRs hlocks hX hf hc hs
  exact vx_hat (fun w hw => hts w (List.mem_filter.mpr ⟨xat_IS w hw, (List.mem_filter.mp hw).2⟩)) xnb_IS (fun w hw => (hT.2.2.1 w hw).use (xB_ot w hw))
theorem cV (hr : CallRun p l e R s m args below meth c H locs cells slots 0 0 (F0 m pc ls st0) rest (QcVoid a) noA) (kk : W p l e R s m args below meth c H locs cells slots Q (F0 m (pc + 3) ls rest)) : W p l e R s m args below meth c H locs cells slots Q (F0 m pc ls st0) := by
  intro T hT X
  obtain ⟨v, st₀, t, T', L, h0, X', hL, e1, ⟨hv, hh⟩, st⟩ := hr T hT X
  cases hv
  obtain ⟨t2, a1, b1⟩ := kk T' (by rw [e1, hh, h0]) (Stand.forget X' (fun q h => (hL q h).elim))
  exact ⟨t2, st t2 a1, b1⟩
theorem cX {E0 : String} (hr : vx_Run p l e R s m args below meth c H locs cells slots 1 6 (F0 m pc ls st0) rest (QcNo a) (xE E0) noA)
    (kx : ∀ (ce : Cell) (q9 : Addr) (H1 : Heap) (locs1 : List Loc), H.size ≤ H1.size → (∀ q : Nat, q < H.size → H1[q]? = H[q]?) → (∀ z ∈ locs1, z ∈ locs) → H1[q9]? = some ce → ce.vm = .none → s.vm.findClass E0 = some ce.cls → vx_W p l e R s m args below meth c H1 locs1 (cells + 1) (slots + 6) Q (F0 m pc ls rest) q9) : W p l e R s m args below meth c H locs cells slots Q (F0 m pc ls st0) := by
  intro T hT X
  rcases hr T hT X with ⟨v, st₀, t, T', L, h0, X', hL, e1, e2, hq, st⟩ | ⟨q, st₀, t, T', L, E, ce, h0, X', hL, e1, e2, ⟨hE, hF⟩, hce, hcv, hcl, st⟩
  · exact hq.elim
  · subst hE
    obtain ⟨t2, a1, b1⟩ := kx ce q T'.heap (locs ++ L) (by rw [e1, ← h0]; exact hF.1) (fun q hq => by rw [e1, ← h0]; exact hF.2 q (by rw [h0]; exact hq) (fun h => h)) (fun z hz => (List.mem_append.mp hz).elim id (fun h => (hL z h).elim)) (by rw [e1]; exact hce) hcv hcl T' rfl X'
    exact ⟨t2, st.trans a1, b1⟩
theorem cT {k : Nat} {r : Option Value} {P : Heap → Prop} (hr : vx_Run p l e R s m args below meth c H locs cells slots 1 6 (F0 m pc ls st0) rest (qT k r A1 P a) (xT k) A1) (hS : va_S A0 H0 H locs) (hA : ∀ q, A1 q → A0 q)
    (kx : ∀ (E : String) (ce : Cell) (q9 : Addr) (H1 : Heap) (locs1 : List Loc), ((k = 1 ∧ E = eIA) ∨ (k = 2 ∧ E = eIS)) → H.size ≤ H1.size → (∀ q : Nat, q < H.size → H1[q]? = H[q]?) → va_S A0 H0 H1 locs1 → H1[q9]? = some ce → ce.vm = .none → s.vm.findClass E = some ce.cls → vx_W p l e R s m args below meth c H1 locs1 (cells + 1) (slots + 6) Q (F0 m pc ls rest) q9)
    (kk : k = 0 → ∀ (H1 : Heap) (locs1 : List Loc), P H1 → va_S A0 H0 H1 locs1 → H.size ≤ H1.size → (∀ q : Nat, q < H.size → ¬ A1 q → H1[q]? = H[q]?) → W p l e R s m args below meth c H1 locs1 (cells + 1) (slots + 6) Q (F0 m (pc + 3) ls (r.toList ++ rest))) : W p l e R s m args below meth c H locs cells slots Q (F0 m pc ls st0) := by
  intro T hT X
  rcases hr T hT X with ⟨v, st₀, t, T', L, h0, X', hL, e1, e2, ⟨hk, hv, hp, hF⟩, st⟩ | ⟨q, st₀, t, T', L, E, ce, h0, X', hL, e1, e2, ⟨hE, hF⟩, hce, hcv, hcl, st⟩
  · cases hv
    obtain ⟨k1, k2, k3⟩ := vx_keep h0 e1 hS (fun q _ h => hA q h) hA hL hF
    obtain ⟨t2, a1, b1⟩ := kk hk T'.heap (locs ++ L) (by rw [e1]; exact hp) k3 k1 k2 T' rfl X'
    exact ⟨t2, st t2 a1, b1⟩
  · obtain ⟨k1, k2, k3⟩ := vx_keep (A1 := noA) h0 e1 hS (fun q _ h => h.elim) hA hL hF
    obtain ⟨t2, a1, b1⟩ := kx E ce q T'.heap (locs ++ L) hE k1 (fun q hq => k2 q hq (fun h => h)) k3 (by rw [e1]; exact hce) hcv hcl T' rfl X'
    exact ⟨t2, st.trans a1, b1⟩
theorem pVT (hK : kK dC dI cI cZ cJ s) (hT : TX A s s.heap) (hS : va_S A s.heap H locs) {ws : va_W} (hP : va_P (dC, dI) classes ws H) {b q0 ci : Nat} {q : vw_C} {fs : List Value} (hc : classes[ci]? = some q) (he : ws[q0]? = some (b, .inr (ci, fs))) (As : List Value) : PreV s H q.1 b (rP (.ref b :: As) H (kT dC dI cI cZ cJ A)) As := ⟨kT_blind, va_recv hK hP hc he, fun U hU hW => ⟨rfl, hU, kK_moved hW.alike hK, by rw [hU]; exact (hT.kept hS.2.1).warm hW⟩⟩
theorem pST (hK : kK dC dI cI cZ cJ s) (hT : TX A s s.heap) (hS : va_S A s.heap H locs) (As : List Value) : PreS s H (rP As H (kT dC dI cI cZ cJ A)) As := ⟨kT_blind, fun U hU hW => ⟨rfl, hU, kK_moved hW.alike hK, by rw [hU]; exact (hT.kept hS.2.1).warm hW⟩⟩
end THR
end
