section
-- ===== PART A: goes FIRST, ahead of the names: the tables' words, and 'selects' of the private methods out of them =====
/-- a private method of a class that the tables say can be made, by its rows of tables_1 -/
def lw_okq (q : MethodName × Nat) : Prop := (q.1.cls ≠ "java/lang/invoke/MethodHandle" ∧ q.1.cls ≠ "java/lang/invoke/VarHandle") ∧ Cond.instantiable q.1.cls q.2 ∈ tables_1 ∧ Cond.privateMethod q.1 ∈ tables_1 ∧ Cond.instanceMethod q.1 ∈ tables_1
theorem lw_p0 : lw_okq (⟨"FaceAtlas$SegmentMap", "meet", "(II)Z"⟩, 3) := ⟨⟨by decide +kernel, by decide +kernel⟩, List.mem_of_getElem? (i := 15) (by decide +kernel), List.mem_of_getElem? (i := 76) (by decide +kernel), List.mem_of_getElem? (i := 77) (by decide +kernel)⟩
theorem lw_p1 : lw_okq (⟨"FaceAtlas$SegmentMap", "haveSameEnds", "(II)Z"⟩, 3) := ⟨⟨by decide +kernel, by decide +kernel⟩, List.mem_of_getElem? (i := 15) (by decide +kernel), List.mem_of_getElem? (i := 80) (by decide +kernel), List.mem_of_getElem? (i := 81) (by decide +kernel)⟩
theorem lw_p2 : lw_okq (⟨"FaceAtlas$SegmentMap", "sameTail", "(II)Z"⟩, 3) := ⟨⟨by decide +kernel, by decide +kernel⟩, List.mem_of_getElem? (i := 15) (by decide +kernel), List.mem_of_getElem? (i := 84) (by decide +kernel), List.mem_of_getElem? (i := 85) (by decide +kernel)⟩
theorem lw_p3 : lw_okq (⟨"FaceAtlas$SegmentMap", "holdsAnEndOf", "(II)Z"⟩, 3) := ⟨⟨by decide +kernel, by decide +kernel⟩, List.mem_of_getElem? (i := 15) (by decide +kernel), List.mem_of_getElem? (i := 88) (by decide +kernel), List.mem_of_getElem? (i := 89) (by decide +kernel)⟩
theorem lw_p4 : lw_okq (⟨"FaceAtlas$SegmentMap", "isInside", "(III)Z"⟩, 3) := ⟨⟨by decide +kernel, by decide +kernel⟩, List.mem_of_getElem? (i := 15) (by decide +kernel), List.mem_of_getElem? (i := 92) (by decide +kernel), List.mem_of_getElem? (i := 93) (by decide +kernel)⟩
theorem lw_p5 : lw_okq (⟨"FaceAtlas$SegmentMap", "leftness", "(III)I"⟩, 3) := ⟨⟨by decide +kernel, by decide +kernel⟩, List.mem_of_getElem? (i := 15) (by decide +kernel), List.mem_of_getElem? (i := 96) (by decide +kernel), List.mem_of_getElem? (i := 97) (by decide +kernel)⟩
theorem lw_p6 : lw_okq (⟨"FaceAtlas$SegmentMap", "partsTheEndsOf", "(II)Z"⟩, 3) := ⟨⟨by decide +kernel, by decide +kernel⟩, List.mem_of_getElem? (i := 15) (by decide +kernel), List.mem_of_getElem? (i := 111) (by decide +kernel), List.mem_of_getElem? (i := 112) (by decide +kernel)⟩
theorem lw_p7 : lw_okq (⟨"FaceAtlas", "regroup", "()V"⟩, 3) := ⟨⟨by decide +kernel, by decide +kernel⟩, List.mem_of_getElem? (i := 7) (by decide +kernel), List.mem_of_getElem? (i := 119) (by decide +kernel), List.mem_of_getElem? (i := 120) (by decide +kernel)⟩
theorem lw_p8 : lw_okq (⟨"FaceAtlas", "joinWithNextAroundTail", "(I)V"⟩, 3) := ⟨⟨by decide +kernel, by decide +kernel⟩, List.mem_of_getElem? (i := 7) (by decide +kernel), List.mem_of_getElem? (i := 128) (by decide +kernel), List.mem_of_getElem? (i := 129) (by decide +kernel)⟩
theorem lw_p9 : lw_okq (⟨"FaceAtlas$SegmentMap", "comesSooner", "(IIII)Z"⟩, 3) := ⟨⟨by decide +kernel, by decide +kernel⟩, List.mem_of_getElem? (i := 15) (by decide +kernel), List.mem_of_getElem? (i := 138) (by decide +kernel), List.mem_of_getElem? (i := 139) (by decide +kernel)⟩
theorem lw_p10 : lw_okq (⟨"FaceAtlas", "joinWithWhatIsAbove", "(I)V"⟩, 3) := ⟨⟨by decide +kernel, by decide +kernel⟩, List.mem_of_getElem? (i := 7) (by decide +kernel), List.mem_of_getElem? (i := 149) (by decide +kernel), List.mem_of_getElem? (i := 150) (by decide +kernel)⟩
theorem lw_p11 : lw_okq (⟨"FaceAtlas", "sideSeenFrom", "(II)I"⟩, 3) := ⟨⟨by decide +kernel, by decide +kernel⟩, List.mem_of_getElem? (i := 7) (by decide +kernel), List.mem_of_getElem? (i := 226) (by decide +kernel), List.mem_of_getElem? (i := 227) (by decide +kernel)⟩
theorem lw_p12 : lw_okq (⟨"FaceAtlasModel", "meet", "(II)Z"⟩, 11) := ⟨⟨by decide +kernel, by decide +kernel⟩, List.mem_of_getElem? (i := 250) (by decide +kernel), List.mem_of_getElem? (i := 297) (by decide +kernel), List.mem_of_getElem? (i := 298) (by decide +kernel)⟩
theorem lw_p13 : lw_okq (⟨"FaceAtlasModel", "isInside", "(III)Z"⟩, 11) := ⟨⟨by decide +kernel, by decide +kernel⟩, List.mem_of_getElem? (i := 250) (by decide +kernel), List.mem_of_getElem? (i := 301) (by decide +kernel), List.mem_of_getElem? (i := 302) (by decide +kernel)⟩
theorem lw_p14 : lw_okq (⟨"FaceAtlasModel", "side", "(III)I"⟩, 11) := ⟨⟨by decide +kernel, by decide +kernel⟩, List.mem_of_getElem? (i := 250) (by decide +kernel), List.mem_of_getElem? (i := 305) (by decide +kernel), List.mem_of_getElem? (i := 306) (by decide +kernel)⟩
theorem lw_p15 : lw_okq (⟨"FaceAtlasModel", "isEnd", "(III)Z"⟩, 11) := ⟨⟨by decide +kernel, by decide +kernel⟩, List.mem_of_getElem? (i := 250) (by decide +kernel), List.mem_of_getElem? (i := 312) (by decide +kernel), List.mem_of_getElem? (i := 313) (by decide +kernel)⟩
def lw_privs_1 : List (MethodName × Nat) := [(⟨"FaceAtlas$SegmentMap", "meet", "(II)Z"⟩, 3), (⟨"FaceAtlas$SegmentMap", "haveSameEnds", "(II)Z"⟩, 3), (⟨"FaceAtlas$SegmentMap", "sameTail", "(II)Z"⟩, 3), (⟨"FaceAtlas$SegmentMap", "holdsAnEndOf", "(II)Z"⟩, 3), (⟨"FaceAtlas$SegmentMap", "isInside", "(III)Z"⟩, 3), (⟨"FaceAtlas$SegmentMap", "leftness", "(III)I"⟩, 3), (⟨"FaceAtlas$SegmentMap", "partsTheEndsOf", "(II)Z"⟩, 3), (⟨"FaceAtlas", "regroup", "()V"⟩, 3), (⟨"FaceAtlas", "joinWithNextAroundTail", "(I)V"⟩, 3), (⟨"FaceAtlas$SegmentMap", "comesSooner", "(IIII)Z"⟩, 3), (⟨"FaceAtlas", "joinWithWhatIsAbove", "(I)V"⟩, 3), (⟨"FaceAtlas", "sideSeenFrom", "(II)I"⟩, 3), (⟨"FaceAtlasModel", "meet", "(II)Z"⟩, 11), (⟨"FaceAtlasModel", "isInside", "(III)Z"⟩, 11), (⟨"FaceAtlasModel", "side", "(III)I"⟩, 11), (⟨"FaceAtlasModel", "isEnd", "(III)Z"⟩, 11)]
theorem lw_r1 : ∀ q ∈ lw_privs_1, lw_okq q := List.forall_mem_cons.mpr ⟨lw_p0, List.forall_mem_cons.mpr ⟨lw_p1, List.forall_mem_cons.mpr ⟨lw_p2, List.forall_mem_cons.mpr ⟨lw_p3, List.forall_mem_cons.mpr ⟨lw_p4, List.forall_mem_cons.mpr ⟨lw_p5, List.forall_mem_cons.mpr ⟨lw_p6, List.forall_mem_cons.mpr ⟨lw_p7, List.forall_mem_cons.mpr ⟨lw_p8, List.forall_mem_cons.mpr ⟨lw_p9, List.forall_mem_cons.mpr ⟨lw_p10, List.forall_mem_cons.mpr ⟨lw_p11, List.forall_mem_cons.mpr ⟨lw_p12, List.forall_mem_cons.mpr ⟨lw_p13, List.forall_mem_cons.mpr ⟨lw_p14, List.forall_mem_cons.mpr ⟨lw_p15, fun _ h => absurd h List.not_mem_nil⟩⟩⟩⟩⟩⟩⟩⟩⟩⟩⟩⟩⟩⟩⟩⟩
theorem lw_p16 : lw_okq (⟨"FaceAtlasModel", "isSegment", "(I)Z"⟩, 11) := ⟨⟨by decide +kernel, by decide +kernel⟩, List.mem_of_getElem? (i := 250) (by decide +kernel), List.mem_of_getElem? (i := 320) (by decide +kernel), List.mem_of_getElem? (i := 321) (by decide +kernel)⟩
theorem lw_p17 : lw_okq (⟨"FaceAtlasModel", "firstAt", "(II)I"⟩, 11) := ⟨⟨by decide +kernel, by decide +kernel⟩, List.mem_of_getElem? (i := 250) (by decide +kernel), List.mem_of_getElem? (i := 332) (by decide +kernel), List.mem_of_getElem? (i := 333) (by decide +kernel)⟩
theorem lw_p18 : lw_okq (⟨"FaceAtlasModel", "partOf", "(I)I"⟩, 11) := ⟨⟨by decide +kernel, by decide +kernel⟩, List.mem_of_getElem? (i := 250) (by decide +kernel), List.mem_of_getElem? (i := 340) (by decide +kernel), List.mem_of_getElem? (i := 341) (by decide +kernel)⟩
theorem lw_p19 : lw_okq (⟨"FaceAtlasModel", "touch", "(II)Z"⟩, 11) := ⟨⟨by decide +kernel, by decide +kernel⟩, List.mem_of_getElem? (i := 250) (by decide +kernel), List.mem_of_getElem? (i := 344) (by decide +kernel), List.mem_of_getElem? (i := 345) (by decide +kernel)⟩
theorem lw_p20 : lw_okq (⟨"FaceAtlasModel", "look", "()V"⟩, 11) := ⟨⟨by decide +kernel, by decide +kernel⟩, List.mem_of_getElem? (i := 250) (by decide +kernel), List.mem_of_getElem? (i := 352) (by decide +kernel), List.mem_of_getElem? (i := 353) (by decide +kernel)⟩
theorem lw_p21 : lw_okq (⟨"FaceAtlasModel", "addLine", "(I)V"⟩, 11) := ⟨⟨by decide +kernel, by decide +kernel⟩, List.mem_of_getElem? (i := 250) (by decide +kernel), List.mem_of_getElem? (i := 356) (by decide +kernel), List.mem_of_getElem? (i := 357) (by decide +kernel)⟩
theorem lw_p22 : lw_okq (⟨"FaceAtlasModel", "fill", "(I)V"⟩, 11) := ⟨⟨by decide +kernel, by decide +kernel⟩, List.mem_of_getElem? (i := 250) (by decide +kernel), List.mem_of_getElem? (i := 360) (by decide +kernel), List.mem_of_getElem? (i := 361) (by decide +kernel)⟩
theorem lw_p23 : lw_okq (⟨"FaceAtlasModel", "below", "(III)Z"⟩, 11) := ⟨⟨by decide +kernel, by decide +kernel⟩, List.mem_of_getElem? (i := 250) (by decide +kernel), List.mem_of_getElem? (i := 364) (by decide +kernel), List.mem_of_getElem? (i := 365) (by decide +kernel)⟩
theorem lw_p24 : lw_okq (⟨"FaceAtlasModel", "width", "(I)I"⟩, 11) := ⟨⟨by decide +kernel, by decide +kernel⟩, List.mem_of_getElem? (i := 250) (by decide +kernel), List.mem_of_getElem? (i := 368) (by decide +kernel), List.mem_of_getElem? (i := 369) (by decide +kernel)⟩
theorem lw_p25 : lw_okq (⟨"FaceAtlasModel", "open", "(III)Z"⟩, 11) := ⟨⟨by decide +kernel, by decide +kernel⟩, List.mem_of_getElem? (i := 250) (by decide +kernel), List.mem_of_getElem? (i := 375) (by decide +kernel), List.mem_of_getElem? (i := 376) (by decide +kernel)⟩
theorem lw_p26 : lw_okq (⟨"FaceAtlasModel", "floorRise", "(III)I"⟩, 11) := ⟨⟨by decide +kernel, by decide +kernel⟩, List.mem_of_getElem? (i := 250) (by decide +kernel), List.mem_of_getElem? (i := 379) (by decide +kernel), List.mem_of_getElem? (i := 380) (by decide +kernel)⟩
theorem lw_p27 : lw_okq (⟨"FaceAtlasModel", "rise", "(II)I"⟩, 11) := ⟨⟨by decide +kernel, by decide +kernel⟩, List.mem_of_getElem? (i := 250) (by decide +kernel), List.mem_of_getElem? (i := 384) (by decide +kernel), List.mem_of_getElem? (i := 385) (by decide +kernel)⟩
theorem lw_p28 : lw_okq (⟨"FaceAtlasModel", "floorWidth", "(II)I"⟩, 11) := ⟨⟨by decide +kernel, by decide +kernel⟩, List.mem_of_getElem? (i := 250) (by decide +kernel), List.mem_of_getElem? (i := 388) (by decide +kernel), List.mem_of_getElem? (i := 389) (by decide +kernel)⟩
theorem lw_p29 : lw_okq (⟨"FaceAtlasModel", "roofRise", "(III)I"⟩, 11) := ⟨⟨by decide +kernel, by decide +kernel⟩, List.mem_of_getElem? (i := 250) (by decide +kernel), List.mem_of_getElem? (i := 392) (by decide +kernel), List.mem_of_getElem? (i := 393) (by decide +kernel)⟩
theorem lw_p30 : lw_okq (⟨"FaceAtlasModel", "roofWidth", "(II)I"⟩, 11) := ⟨⟨by decide +kernel, by decide +kernel⟩, List.mem_of_getElem? (i := 250) (by decide +kernel), List.mem_of_getElem? (i := 397) (by decide +kernel), List.mem_of_getElem? (i := 398) (by decide +kernel)⟩
theorem lw_p31 : lw_okq (⟨"FaceAtlasModel", "isUpright", "(I)Z"⟩, 11) := ⟨⟨by decide +kernel, by decide +kernel⟩, List.mem_of_getElem? (i := 250) (by decide +kernel), List.mem_of_getElem? (i := 401) (by decide +kernel), List.mem_of_getElem? (i := 402) (by decide +kernel)⟩
def lw_privs_2 : List (MethodName × Nat) := [(⟨"FaceAtlasModel", "isSegment", "(I)Z"⟩, 11), (⟨"FaceAtlasModel", "firstAt", "(II)I"⟩, 11), (⟨"FaceAtlasModel", "partOf", "(I)I"⟩, 11), (⟨"FaceAtlasModel", "touch", "(II)Z"⟩, 11), (⟨"FaceAtlasModel", "look", "()V"⟩, 11), (⟨"FaceAtlasModel", "addLine", "(I)V"⟩, 11), (⟨"FaceAtlasModel", "fill", "(I)V"⟩, 11), (⟨"FaceAtlasModel", "below", "(III)Z"⟩, 11), (⟨"FaceAtlasModel", "width", "(I)I"⟩, 11), (⟨"FaceAtlasModel", "open", "(III)Z"⟩, 11), (⟨"FaceAtlasModel", "floorRise", "(III)I"⟩, 11), (⟨"FaceAtlasModel", "rise", "(II)I"⟩, 11), (⟨"FaceAtlasModel", "floorWidth", "(II)I"⟩, 11), (⟨"FaceAtlasModel", "roofRise", "(III)I"⟩, 11), (⟨"FaceAtlasModel", "roofWidth", "(II)I"⟩, 11), (⟨"FaceAtlasModel", "isUpright", "(I)Z"⟩, 11)]
theorem lw_r2 : ∀ q ∈ lw_privs_2, lw_okq q := List.forall_mem_cons.mpr ⟨lw_p16, List.forall_mem_cons.mpr ⟨lw_p17, List.forall_mem_cons.mpr ⟨lw_p18, List.forall_mem_cons.mpr ⟨lw_p19, List.forall_mem_cons.mpr ⟨lw_p20, List.forall_mem_cons.mpr ⟨lw_p21, List.forall_mem_cons.mpr ⟨lw_p22, List.forall_mem_cons.mpr ⟨lw_p23, List.forall_mem_cons.mpr ⟨lw_p24, List.forall_mem_cons.mpr ⟨lw_p25, List.forall_mem_cons.mpr ⟨lw_p26, List.forall_mem_cons.mpr ⟨lw_p27, List.forall_mem_cons.mpr ⟨lw_p28, List.forall_mem_cons.mpr ⟨lw_p29, List.forall_mem_cons.mpr ⟨lw_p30, List.forall_mem_cons.mpr ⟨lw_p31, fun _ h => absurd h List.not_mem_nil⟩⟩⟩⟩⟩⟩⟩⟩⟩⟩⟩⟩⟩⟩⟩⟩
theorem lw_p32 : lw_okq (⟨"FaceAtlasModel", "face", "(I)I"⟩, 11) := ⟨⟨by decide +kernel, by decide +kernel⟩, List.mem_of_getElem? (i := 250) (by decide +kernel), List.mem_of_getElem? (i := 405) (by decide +kernel), List.mem_of_getElem? (i := 406) (by decide +kernel)⟩
theorem lw_p33 : lw_okq (⟨"FaceAtlasModel", "endings", "(II)I"⟩, 11) := ⟨⟨by decide +kernel, by decide +kernel⟩, List.mem_of_getElem? (i := 250) (by decide +kernel), List.mem_of_getElem? (i := 413) (by decide +kernel), List.mem_of_getElem? (i := 414) (by decide +kernel)⟩
theorem lw_p34 : lw_okq (⟨"FaceAtlasModel", "isFree", "(II)Z"⟩, 11) := ⟨⟨by decide +kernel, by decide +kernel⟩, List.mem_of_getElem? (i := 250) (by decide +kernel), List.mem_of_getElem? (i := 421) (by decide +kernel), List.mem_of_getElem? (i := 422) (by decide +kernel)⟩
theorem lw_p35 : lw_okq (⟨"FaceAtlasModel", "faceAt", "(II)I"⟩, 11) := ⟨⟨by decide +kernel, by decide +kernel⟩, List.mem_of_getElem? (i := 250) (by decide +kernel), List.mem_of_getElem? (i := 425) (by decide +kernel), List.mem_of_getElem? (i := 426) (by decide +kernel)⟩
theorem lw_p36 : lw_okq (⟨"FaceAtlasModel", "cellAt", "(III)I"⟩, 11) := ⟨⟨by decide +kernel, by decide +kernel⟩, List.mem_of_getElem? (i := 250) (by decide +kernel), List.mem_of_getElem? (i := 429) (by decide +kernel), List.mem_of_getElem? (i := 430) (by decide +kernel)⟩
theorem lw_p37 : lw_okq (⟨"FaceAtlasModel", "refusal", "(II)I"⟩, 11) := ⟨⟨by decide +kernel, by decide +kernel⟩, List.mem_of_getElem? (i := 250) (by decide +kernel), List.mem_of_getElem? (i := 437) (by decide +kernel), List.mem_of_getElem? (i := 438) (by decide +kernel)⟩
theorem lw_p38 : lw_okq (⟨"FaceAtlasModel", "faceBy", "(II)I"⟩, 11) := ⟨⟨by decide +kernel, by decide +kernel⟩, List.mem_of_getElem? (i := 250) (by decide +kernel), List.mem_of_getElem? (i := 441) (by decide +kernel), List.mem_of_getElem? (i := 442) (by decide +kernel)⟩
theorem lw_p39 : lw_okq (⟨"FaceAtlasModel", "sides", "(II)I"⟩, 11) := ⟨⟨by decide +kernel, by decide +kernel⟩, List.mem_of_getElem? (i := 250) (by decide +kernel), List.mem_of_getElem? (i := 449) (by decide +kernel), List.mem_of_getElem? (i := 450) (by decide +kernel)⟩
def lw_privs_3 : List (MethodName × Nat) := [(⟨"FaceAtlasModel", "face", "(I)I"⟩, 11), (⟨"FaceAtlasModel", "endings", "(II)I"⟩, 11), (⟨"FaceAtlasModel", "isFree", "(II)Z"⟩, 11), (⟨"FaceAtlasModel", "faceAt", "(II)I"⟩, 11), (⟨"FaceAtlasModel", "cellAt", "(III)I"⟩, 11), (⟨"FaceAtlasModel", "refusal", "(II)I"⟩, 11), (⟨"FaceAtlasModel", "faceBy", "(II)I"⟩, 11), (⟨"FaceAtlasModel", "sides", "(II)I"⟩, 11)]
theorem lw_r3 : ∀ q ∈ lw_privs_3, lw_okq q := List.forall_mem_cons.mpr ⟨lw_p32, List.forall_mem_cons.mpr ⟨lw_p33, List.forall_mem_cons.mpr ⟨lw_p34, List.forall_mem_cons.mpr ⟨lw_p35, List.forall_mem_cons.mpr ⟨lw_p36, List.forall_mem_cons.mpr ⟨lw_p37, List.forall_mem_cons.mpr ⟨lw_p38, List.forall_mem_cons.mpr ⟨lw_p39, fun _ h => absurd h List.not_mem_nil⟩⟩⟩⟩⟩⟩⟩⟩
def lw_privs : List (MethodName × Nat) := lw_privs_1 ++ (lw_privs_2 ++ (lw_privs_3))
def lw_tbl : List Cond := k2_sels lw_privs ++ tables_1
theorem lw_privs_ok : ∀ q ∈ lw_privs, lw_okq q := by
  show ∀ q ∈ lw_privs_1 ++ (lw_privs_2 ++ (lw_privs_3)), lw_okq q
  exact List.forall_mem_append.mpr ⟨lw_r1, List.forall_mem_append.mpr ⟨lw_r2, lw_r3⟩⟩
/-- the words that calls may hand on -/
def TBL : List Cond := lw_tbl.filter goodWord
theorem tbl_in {w : Cond} (h : w ∈ lw_tbl) (g : goodWord w = true) : w ∈ TBL := List.mem_filter.mpr ⟨h, g⟩
theorem tbl_out {w : Cond} (h : w ∈ TBL) : w ∈ lw_tbl := (List.mem_filter.mp h).1
theorem tbl_good {w : Cond} (h : w ∈ TBL) : goodWord w = true := (List.mem_filter.mp h).2
end
section
def R_G : String := "FaceAtlas$Groups"
def F_G : u_T := fun k => match k with
  | _ => ("FaceAtlas$Groups", "leaders", "[I", true)
def t_G : Nat → FieldType := fun k => match k with
  | _ => .array .int
theorem n_G : ∀ a, a < 1 → ∀ b, b < 1 → a ≠ b → (F_G a).2.1 ≠ (F_G b).2.1 := by decide +kernel
theorem tok_G : ∀ k, k < 1 → parseFieldDescriptor (F_G k).2.2.1 = some (t_G k) := by decide +kernel
theorem in0_G : ∀ w ∈ u_ws R_G F_G 1, w ∈ lw_tbl := by decide +kernel
theorem ing_G : ∀ w ∈ u_ws R_G F_G 1, goodWord w = true := by decide +kernel
theorem in_G : ∀ w ∈ u_ws R_G F_G 1, w ∈ TBL := fun w h => tbl_in (in0_G w h) (ing_G w h)
abbrev b_G_init : ByteArray := prog_2_method_1_code
def y_G_init : MethodName := ⟨R_G, "<init>", "(I)V"⟩
abbrev b_G_scatter : ByteArray := prog_2_method_2_code
def y_G_scatter : MethodName := ⟨R_G, "scatter", "()V"⟩
abbrev b_G_join : ByteArray := prog_2_method_3_code
def y_G_join : MethodName := ⟨R_G, "join", "(II)V"⟩
abbrev b_G_together : ByteArray := prog_2_method_4_code
def y_G_together : MethodName := ⟨R_G, "together", "(II)Z"⟩
abbrev b_G_isLeader : ByteArray := prog_2_method_5_code
def y_G_isLeader : MethodName := ⟨R_G, "isLeader", "(I)Z"⟩
def R_M : String := "FaceAtlas$SegmentMap"
def F_M : u_T := fun k => match k with
  | 0 => ("FaceAtlas$SegmentMap", "used", "[Z", true)
  | 1 => ("FaceAtlas$SegmentMap", "xs", "[I", true)
  | _ => ("FaceAtlas$SegmentMap", "ys", "[I", true)
def t_M : Nat → FieldType := fun k => match k with
  | 0 => .array .boolean
  | 1 => .array .int
  | _ => .array .int
theorem n_M : ∀ a, a < 3 → ∀ b, b < 3 → a ≠ b → (F_M a).2.1 ≠ (F_M b).2.1 := by decide +kernel
theorem tok_M : ∀ k, k < 3 → parseFieldDescriptor (F_M k).2.2.1 = some (t_M k) := by decide +kernel
theorem in0_M : ∀ w ∈ u_ws R_M F_M 3, w ∈ lw_tbl := by decide +kernel
theorem ing_M : ∀ w ∈ u_ws R_M F_M 3, goodWord w = true := by decide +kernel
theorem in_M : ∀ w ∈ u_ws R_M F_M 3, w ∈ TBL := fun w h => tbl_in (in0_M w h) (ing_M w h)
abbrev b_M_init : ByteArray := prog_3_method_1_code
def y_M_init : MethodName := ⟨R_M, "<init>", "()V"⟩
abbrev b_M_has : ByteArray := prog_3_method_2_code
def y_M_has : MethodName := ⟨R_M, "has", "(I)Z"⟩
abbrev b_M_hasArrow : ByteArray := prog_3_method_3_code
def y_M_hasArrow : MethodName := ⟨R_M, "hasArrow", "(I)Z"⟩
abbrev b_M_tailX : ByteArray := prog_3_method_4_code
def y_M_tailX : MethodName := ⟨R_M, "tailX", "(I)I"⟩
abbrev b_M_tailY : ByteArray := prog_3_method_5_code
def y_M_tailY : MethodName := ⟨R_M, "tailY", "(I)I"⟩
abbrev b_M_stepX : ByteArray := prog_3_method_6_code
def y_M_stepX : MethodName := ⟨R_M, "stepX", "(I)I"⟩
abbrev b_M_stepY : ByteArray := prog_3_method_7_code
def y_M_stepY : MethodName := ⟨R_M, "stepY", "(I)I"⟩
abbrev b_M_leastUnusedNumber : ByteArray := prog_3_method_8_code
def y_M_leastUnusedNumber : MethodName := ⟨R_M, "leastUnusedNumber", "()I"⟩
abbrev b_M_sketch : ByteArray := prog_3_method_9_code
def y_M_sketch : MethodName := ⟨R_M, "sketch", "(IIIII)V"⟩
abbrev b_M_setUsed : ByteArray := prog_3_method_10_code
def y_M_setUsed : MethodName := ⟨R_M, "setUsed", "(IZ)V"⟩
abbrev b_M_leastMeeting : ByteArray := prog_3_method_11_code
def y_M_leastMeeting : MethodName := ⟨R_M, "leastMeeting", "(I)I"⟩
abbrev b_M_meet : ByteArray := prog_3_method_12_code
def y_M_meet : MethodName := ⟨R_M, "meet", "(II)Z"⟩
abbrev b_M_haveSameEnds : ByteArray := prog_3_method_13_code
def y_M_haveSameEnds : MethodName := ⟨R_M, "haveSameEnds", "(II)Z"⟩
abbrev b_M_holdsAnEndOf : ByteArray := prog_3_method_14_code
def y_M_holdsAnEndOf : MethodName := ⟨R_M, "holdsAnEndOf", "(II)Z"⟩
abbrev b_M_partsTheEndsOf : ByteArray := prog_3_method_15_code
def y_M_partsTheEndsOf : MethodName := ⟨R_M, "partsTheEndsOf", "(II)Z"⟩
abbrev b_M_isInside : ByteArray := prog_3_method_16_code
def y_M_isInside : MethodName := ⟨R_M, "isInside", "(III)Z"⟩
abbrev b_M_leftness : ByteArray := prog_3_method_17_code
def y_M_leftness : MethodName := ⟨R_M, "leftness", "(III)I"⟩
abbrev b_M_sameTail : ByteArray := prog_3_method_18_code
def y_M_sameTail : MethodName := ⟨R_M, "sameTail", "(II)Z"⟩
abbrev b_M_isFirstOfItsVertex : ByteArray := prog_3_method_19_code
def y_M_isFirstOfItsVertex : MethodName := ⟨R_M, "isFirstOfItsVertex", "(I)Z"⟩
abbrev b_M_startsAtPeak : ByteArray := prog_3_method_20_code
def y_M_startsAtPeak : MethodName := ⟨R_M, "startsAtPeak", "(I)Z"⟩
abbrev b_M_endsAt : ByteArray := prog_3_method_21_code
def y_M_endsAt : MethodName := ⟨R_M, "endsAt", "(II)I"⟩
abbrev b_M_segmentAround : ByteArray := prog_3_method_22_code
def y_M_segmentAround : MethodName := ⟨R_M, "segmentAround", "(II)I"⟩
abbrev b_M_struckAbove : ByteArray := prog_3_method_23_code
def y_M_struckAbove : MethodName := ⟨R_M, "struckAbove", "(II)I"⟩
abbrev b_M_sideAbove : ByteArray := prog_3_method_24_code
def y_M_sideAbove : MethodName := ⟨R_M, "sideAbove", "(II)I"⟩
abbrev b_M_sideFacing : ByteArray := prog_3_method_25_code
def y_M_sideFacing : MethodName := ⟨R_M, "sideFacing", "(III)I"⟩
abbrev b_M_comesSooner : ByteArray := prog_3_method_26_code
def y_M_comesSooner : MethodName := ⟨R_M, "comesSooner", "(IIII)Z"⟩
abbrev b_M_turnRank : ByteArray := prog_3_method_27_code
def y_M_turnRank : MethodName := ⟨R_M, "turnRank", "(IIII)I"⟩
abbrev b_M_sweep : ByteArray := prog_3_method_28_code
def y_M_sweep : MethodName := ⟨R_M, "sweep", "(I)I"⟩
abbrev b_M_cross : ByteArray := prog_3_method_29_code
def y_M_cross : MethodName := ⟨R_M, "cross", "(IIII)I"⟩
def R_A : String := "FaceAtlas"
def F_A : u_T := fun k => match k with
  | 0 => ("FaceAtlas", "map", "LFaceAtlas$SegmentMap;", true)
  | 1 => ("FaceAtlas", "sidesByFace", "LFaceAtlas$Groups;", true)
  | _ => ("FaceAtlas", "segmentsByPart", "LFaceAtlas$Groups;", true)
def t_A : Nat → FieldType := fun k => match k with
  | 0 => .object "FaceAtlas$SegmentMap"
  | 1 => .object "FaceAtlas$Groups"
  | _ => .object "FaceAtlas$Groups"
theorem n_A : ∀ a, a < 3 → ∀ b, b < 3 → a ≠ b → (F_A a).2.1 ≠ (F_A b).2.1 := by decide +kernel
theorem tok_A : ∀ k, k < 3 → parseFieldDescriptor (F_A k).2.2.1 = some (t_A k) := by decide +kernel
theorem in0_A : ∀ w ∈ u_ws R_A F_A 3, w ∈ lw_tbl := by decide +kernel
theorem ing_A : ∀ w ∈ u_ws R_A F_A 3, goodWord w = true := by decide +kernel
theorem in_A : ∀ w ∈ u_ws R_A F_A 3, w ∈ TBL := fun w h => tbl_in (in0_A w h) (ing_A w h)
abbrev b_A_init : ByteArray := prog_1_method_1_code
def y_A_init : MethodName := ⟨R_A, "<init>", "()V"⟩
abbrev b_A_add : ByteArray := prog_1_method_2_code
def y_A_add : MethodName := ⟨R_A, "add", "(IIII)I"⟩
abbrev b_A_remove : ByteArray := prog_1_method_3_code
def y_A_remove : MethodName := ⟨R_A, "remove", "(I)Z"⟩
abbrev b_A_segments : ByteArray := prog_1_method_4_code
def y_A_segments : MethodName := ⟨R_A, "segments", "()I"⟩
abbrev b_A_vertices : ByteArray := prog_1_method_5_code
def y_A_vertices : MethodName := ⟨R_A, "vertices", "()I"⟩
abbrev b_A_parts : ByteArray := prog_1_method_6_code
def y_A_parts : MethodName := ⟨R_A, "parts", "()I"⟩
abbrev b_A_faces : ByteArray := prog_1_method_7_code
def y_A_faces : MethodName := ⟨R_A, "faces", "()I"⟩
abbrev b_A_find : ByteArray := prog_1_method_8_code
def y_A_find : MethodName := ⟨R_A, "find", "(II)I"⟩
abbrev b_A_same : ByteArray := prog_1_method_9_code
def y_A_same : MethodName := ⟨R_A, "same", "(IIII)Z"⟩
abbrev b_A_area : ByteArray := prog_1_method_10_code
def y_A_area : MethodName := ⟨R_A, "area", "(II)I"⟩
abbrev b_A_border : ByteArray := prog_1_method_11_code
def y_A_border : MethodName := ⟨R_A, "border", "(II)I"⟩
abbrev b_A_touches : ByteArray := prog_1_method_12_code
def y_A_touches : MethodName := ⟨R_A, "touches", "(III)I"⟩
abbrev b_A_isNearby : ByteArray := prog_1_method_13_code
def y_A_isNearby : MethodName := ⟨R_A, "isNearby", "(II)Z"⟩
abbrev b_A_sideSeenFrom : ByteArray := prog_1_method_14_code
def y_A_sideSeenFrom : MethodName := ⟨R_A, "sideSeenFrom", "(II)I"⟩
abbrev b_A_regroup : ByteArray := prog_1_method_15_code
def y_A_regroup : MethodName := ⟨R_A, "regroup", "()V"⟩
abbrev b_A_joinWithNextAroundTail : ByteArray := prog_1_method_16_code
def y_A_joinWithNextAroundTail : MethodName := ⟨R_A, "joinWithNextAroundTail", "(I)V"⟩
abbrev b_A_joinWithWhatIsAbove : ByteArray := prog_1_method_17_code
def y_A_joinWithWhatIsAbove : MethodName := ⟨R_A, "joinWithWhatIsAbove", "(I)V"⟩
def R_R : String := "FaceAtlasModel"
def F_R : u_T := fun k => match k with
  | 0 => ("FaceAtlasModel", "used", "[Z", true)
  | 1 => ("FaceAtlasModel", "ax", "[I", true)
  | 2 => ("FaceAtlasModel", "ay", "[I", true)
  | 3 => ("FaceAtlasModel", "bx", "[I", true)
  | 4 => ("FaceAtlasModel", "by", "[I", true)
  | 5 => ("FaceAtlasModel", "known", "Z", false)
  | 6 => ("FaceAtlasModel", "lines", "I", false)
  | 7 => ("FaceAtlasModel", "line", "[I", true)
  | 8 => ("FaceAtlasModel", "across", "[I", true)
  | 9 => ("FaceAtlasModel", "many", "[I", true)
  | _ => ("FaceAtlasModel", "same", "[I", true)
def t_R : Nat → FieldType := fun k => match k with
  | 0 => .array .boolean
  | 1 => .array .int
  | 2 => .array .int
  | 3 => .array .int
  | 4 => .array .int
  | 5 => .boolean
  | 6 => .int
  | 7 => .array .int
  | 8 => .array .int
  | 9 => .array .int
  | _ => .array .int
theorem n_R : ∀ a, a < 11 → ∀ b, b < 11 → a ≠ b → (F_R a).2.1 ≠ (F_R b).2.1 := by decide +kernel
theorem tok_R : ∀ k, k < 11 → parseFieldDescriptor (F_R k).2.2.1 = some (t_R k) := by decide +kernel
theorem in0_R : ∀ w ∈ u_ws R_R F_R 11, w ∈ lw_tbl := by decide +kernel
theorem ing_R : ∀ w ∈ u_ws R_R F_R 11, goodWord w = true := by decide +kernel
theorem in_R : ∀ w ∈ u_ws R_R F_R 11, w ∈ TBL := fun w h => tbl_in (in0_R w h) (ing_R w h)
abbrev b_R_init : ByteArray := prog_5_method_1_code
def y_R_init : MethodName := ⟨R_R, "<init>", "()V"⟩
abbrev b_R_near : ByteArray := prog_5_method_2_code
def y_R_near : MethodName := ⟨R_R, "near", "(I)Z"⟩
abbrev b_R_sign : ByteArray := prog_5_method_3_code
def y_R_sign : MethodName := ⟨R_R, "sign", "(I)I"⟩
abbrev b_R_side : ByteArray := prog_5_method_4_code
def y_R_side : MethodName := ⟨R_R, "side", "(III)I"⟩
abbrev b_R_isEnd : ByteArray := prog_5_method_5_code
def y_R_isEnd : MethodName := ⟨R_R, "isEnd", "(III)Z"⟩
abbrev b_R_isInside : ByteArray := prog_5_method_6_code
def y_R_isInside : MethodName := ⟨R_R, "isInside", "(III)Z"⟩
abbrev b_R_meet : ByteArray := prog_5_method_7_code
def y_R_meet : MethodName := ⟨R_R, "meet", "(II)Z"⟩
abbrev b_R_add : ByteArray := prog_5_method_8_code
def y_R_add : MethodName := ⟨R_R, "add", "(IIII)I"⟩
abbrev b_R_isSegment : ByteArray := prog_5_method_9_code
def y_R_isSegment : MethodName := ⟨R_R, "isSegment", "(I)Z"⟩
abbrev b_R_remove : ByteArray := prog_5_method_10_code
def y_R_remove : MethodName := ⟨R_R, "remove", "(I)Z"⟩
abbrev b_R_segments : ByteArray := prog_5_method_11_code
def y_R_segments : MethodName := ⟨R_R, "segments", "()I"⟩
abbrev b_R_endings : ByteArray := prog_5_method_12_code
def y_R_endings : MethodName := ⟨R_R, "endings", "(II)I"⟩
abbrev b_R_firstAt : ByteArray := prog_5_method_13_code
def y_R_firstAt : MethodName := ⟨R_R, "firstAt", "(II)I"⟩
abbrev b_R_vertices : ByteArray := prog_5_method_14_code
def y_R_vertices : MethodName := ⟨R_R, "vertices", "()I"⟩
abbrev b_R_touch : ByteArray := prog_5_method_15_code
def y_R_touch : MethodName := ⟨R_R, "touch", "(II)Z"⟩
abbrev b_R_partOf : ByteArray := prog_5_method_16_code
def y_R_partOf : MethodName := ⟨R_R, "partOf", "(I)I"⟩
abbrev b_R_parts : ByteArray := prog_5_method_17_code
def y_R_parts : MethodName := ⟨R_R, "parts", "()I"⟩
abbrev b_R_isUpright : ByteArray := prog_5_method_18_code
def y_R_isUpright : MethodName := ⟨R_R, "isUpright", "(I)Z"⟩
abbrev b_R_rise : ByteArray := prog_5_method_19_code
def y_R_rise : MethodName := ⟨R_R, "rise", "(II)I"⟩
abbrev b_R_width : ByteArray := prog_5_method_20_code
def y_R_width : MethodName := ⟨R_R, "width", "(I)I"⟩
abbrev b_R_floorRise : ByteArray := prog_5_method_21_code
def y_R_floorRise : MethodName := ⟨R_R, "floorRise", "(III)I"⟩
abbrev b_R_floorWidth : ByteArray := prog_5_method_22_code
def y_R_floorWidth : MethodName := ⟨R_R, "floorWidth", "(II)I"⟩
abbrev b_R_roofRise : ByteArray := prog_5_method_23_code
def y_R_roofRise : MethodName := ⟨R_R, "roofRise", "(III)I"⟩
abbrev b_R_roofWidth : ByteArray := prog_5_method_24_code
def y_R_roofWidth : MethodName := ⟨R_R, "roofWidth", "(II)I"⟩
abbrev b_R_less : ByteArray := prog_5_method_25_code
def y_R_less : MethodName := ⟨R_R, "less", "(IIII)Z"⟩
abbrev b_R_addLine : ByteArray := prog_5_method_26_code
def y_R_addLine : MethodName := ⟨R_R, "addLine", "(I)V"⟩
abbrev b_R_below : ByteArray := prog_5_method_27_code
def y_R_below : MethodName := ⟨R_R, "below", "(III)Z"⟩
abbrev b_R_fill : ByteArray := prog_5_method_28_code
def y_R_fill : MethodName := ⟨R_R, "fill", "(I)V"⟩
abbrev b_R_face : ByteArray := prog_5_method_29_code
def y_R_face : MethodName := ⟨R_R, "face", "(I)I"⟩
abbrev b_R_open : ByteArray := prog_5_method_30_code
def y_R_open : MethodName := ⟨R_R, "open", "(III)Z"⟩
abbrev b_R_look : ByteArray := prog_5_method_31_code
def y_R_look : MethodName := ⟨R_R, "look", "()V"⟩
abbrev b_R_faces : ByteArray := prog_5_method_32_code
def y_R_faces : MethodName := ⟨R_R, "faces", "()I"⟩
abbrev b_R_cellAt : ByteArray := prog_5_method_33_code
def y_R_cellAt : MethodName := ⟨R_R, "cellAt", "(III)I"⟩
abbrev b_R_faceAt : ByteArray := prog_5_method_34_code
def y_R_faceAt : MethodName := ⟨R_R, "faceAt", "(II)I"⟩
abbrev b_R_faceBy : ByteArray := prog_5_method_35_code
def y_R_faceBy : MethodName := ⟨R_R, "faceBy", "(II)I"⟩
abbrev b_R_isFree : ByteArray := prog_5_method_36_code
def y_R_isFree : MethodName := ⟨R_R, "isFree", "(II)Z"⟩
abbrev b_R_find : ByteArray := prog_5_method_37_code
def y_R_find : MethodName := ⟨R_R, "find", "(II)I"⟩
abbrev b_R_same : ByteArray := prog_5_method_38_code
def y_R_same : MethodName := ⟨R_R, "same", "(IIII)Z"⟩
abbrev b_R_refusal : ByteArray := prog_5_method_39_code
def y_R_refusal : MethodName := ⟨R_R, "refusal", "(II)I"⟩
abbrev b_R_area : ByteArray := prog_5_method_40_code
def y_R_area : MethodName := ⟨R_R, "area", "(II)I"⟩
abbrev b_R_sides : ByteArray := prog_5_method_41_code
def y_R_sides : MethodName := ⟨R_R, "sides", "(II)I"⟩
abbrev b_R_border : ByteArray := prog_5_method_42_code
def y_R_border : MethodName := ⟨R_R, "border", "(II)I"⟩
abbrev b_R_touches : ByteArray := prog_5_method_43_code
def y_R_touches : MethodName := ⟨R_R, "touches", "(III)I"⟩
def R_L : String := "FaceAtlasLaw"
abbrev CLS : List vw_C := [(R_G, F_G, 1), (R_M, F_M, 3), (R_A, F_A, 3), (R_R, F_R, 11)]
end
section
theorem kV_y_M_meet : Cond.selects R_M y_M_meet y_M_meet ∈ TBL := tbl_in (List.mem_append_left _ (List.mem_of_getElem? (i := 0) (by rfl))) rfl
theorem kV_y_M_haveSameEnds : Cond.selects R_M y_M_haveSameEnds y_M_haveSameEnds ∈ TBL := tbl_in (List.mem_append_left _ (List.mem_of_getElem? (i := 1) (by rfl))) rfl
theorem kV_y_M_sameTail : Cond.selects R_M y_M_sameTail y_M_sameTail ∈ TBL := tbl_in (List.mem_append_left _ (List.mem_of_getElem? (i := 2) (by rfl))) rfl
theorem kV_y_M_holdsAnEndOf : Cond.selects R_M y_M_holdsAnEndOf y_M_holdsAnEndOf ∈ TBL := tbl_in (List.mem_append_left _ (List.mem_of_getElem? (i := 3) (by rfl))) rfl
theorem kV_y_M_isInside : Cond.selects R_M y_M_isInside y_M_isInside ∈ TBL := tbl_in (List.mem_append_left _ (List.mem_of_getElem? (i := 4) (by rfl))) rfl
theorem kV_y_M_leftness : Cond.selects R_M y_M_leftness y_M_leftness ∈ TBL := tbl_in (List.mem_append_left _ (List.mem_of_getElem? (i := 5) (by rfl))) rfl
theorem kV_y_M_partsTheEndsOf : Cond.selects R_M y_M_partsTheEndsOf y_M_partsTheEndsOf ∈ TBL := tbl_in (List.mem_append_left _ (List.mem_of_getElem? (i := 6) (by rfl))) rfl
theorem kV_y_A_regroup : Cond.selects R_A y_A_regroup y_A_regroup ∈ TBL := tbl_in (List.mem_append_left _ (List.mem_of_getElem? (i := 7) (by rfl))) rfl
theorem kV_y_A_joinWithNextAroundTail : Cond.selects R_A y_A_joinWithNextAroundTail y_A_joinWithNextAroundTail ∈ TBL := tbl_in (List.mem_append_left _ (List.mem_of_getElem? (i := 8) (by rfl))) rfl
theorem kV_y_M_comesSooner : Cond.selects R_M y_M_comesSooner y_M_comesSooner ∈ TBL := tbl_in (List.mem_append_left _ (List.mem_of_getElem? (i := 9) (by rfl))) rfl
theorem kV_y_A_joinWithWhatIsAbove : Cond.selects R_A y_A_joinWithWhatIsAbove y_A_joinWithWhatIsAbove ∈ TBL := tbl_in (List.mem_append_left _ (List.mem_of_getElem? (i := 10) (by rfl))) rfl
theorem kV_y_A_sideSeenFrom : Cond.selects R_A y_A_sideSeenFrom y_A_sideSeenFrom ∈ TBL := tbl_in (List.mem_append_left _ (List.mem_of_getElem? (i := 11) (by rfl))) rfl
theorem kV_y_R_meet : Cond.selects R_R y_R_meet y_R_meet ∈ TBL := tbl_in (List.mem_append_left _ (List.mem_of_getElem? (i := 12) (by rfl))) rfl
theorem kV_y_R_isInside : Cond.selects R_R y_R_isInside y_R_isInside ∈ TBL := tbl_in (List.mem_append_left _ (List.mem_of_getElem? (i := 13) (by rfl))) rfl
theorem kV_y_R_side : Cond.selects R_R y_R_side y_R_side ∈ TBL := tbl_in (List.mem_append_left _ (List.mem_of_getElem? (i := 14) (by rfl))) rfl
theorem kV_y_R_isEnd : Cond.selects R_R y_R_isEnd y_R_isEnd ∈ TBL := tbl_in (List.mem_append_left _ (List.mem_of_getElem? (i := 15) (by rfl))) rfl
theorem kV_y_R_isSegment : Cond.selects R_R y_R_isSegment y_R_isSegment ∈ TBL := tbl_in (List.mem_append_left _ (List.mem_of_getElem? (i := 16) (by rfl))) rfl
theorem kV_y_R_firstAt : Cond.selects R_R y_R_firstAt y_R_firstAt ∈ TBL := tbl_in (List.mem_append_left _ (List.mem_of_getElem? (i := 17) (by rfl))) rfl
theorem kV_y_R_partOf : Cond.selects R_R y_R_partOf y_R_partOf ∈ TBL := tbl_in (List.mem_append_left _ (List.mem_of_getElem? (i := 18) (by rfl))) rfl
theorem kV_y_R_touch : Cond.selects R_R y_R_touch y_R_touch ∈ TBL := tbl_in (List.mem_append_left _ (List.mem_of_getElem? (i := 19) (by rfl))) rfl
theorem kV_y_R_look : Cond.selects R_R y_R_look y_R_look ∈ TBL := tbl_in (List.mem_append_left _ (List.mem_of_getElem? (i := 20) (by rfl))) rfl
theorem kV_y_R_addLine : Cond.selects R_R y_R_addLine y_R_addLine ∈ TBL := tbl_in (List.mem_append_left _ (List.mem_of_getElem? (i := 21) (by rfl))) rfl
theorem kV_y_R_fill : Cond.selects R_R y_R_fill y_R_fill ∈ TBL := tbl_in (List.mem_append_left _ (List.mem_of_getElem? (i := 22) (by rfl))) rfl
theorem kV_y_R_below : Cond.selects R_R y_R_below y_R_below ∈ TBL := tbl_in (List.mem_append_left _ (List.mem_of_getElem? (i := 23) (by rfl))) rfl
theorem kV_y_R_width : Cond.selects R_R y_R_width y_R_width ∈ TBL := tbl_in (List.mem_append_left _ (List.mem_of_getElem? (i := 24) (by rfl))) rfl
theorem kV_y_R_open : Cond.selects R_R y_R_open y_R_open ∈ TBL := tbl_in (List.mem_append_left _ (List.mem_of_getElem? (i := 25) (by rfl))) rfl
theorem kV_y_R_floorRise : Cond.selects R_R y_R_floorRise y_R_floorRise ∈ TBL := tbl_in (List.mem_append_left _ (List.mem_of_getElem? (i := 26) (by rfl))) rfl
theorem kV_y_R_rise : Cond.selects R_R y_R_rise y_R_rise ∈ TBL := tbl_in (List.mem_append_left _ (List.mem_of_getElem? (i := 27) (by rfl))) rfl
theorem kV_y_R_floorWidth : Cond.selects R_R y_R_floorWidth y_R_floorWidth ∈ TBL := tbl_in (List.mem_append_left _ (List.mem_of_getElem? (i := 28) (by rfl))) rfl
theorem kV_y_R_roofRise : Cond.selects R_R y_R_roofRise y_R_roofRise ∈ TBL := tbl_in (List.mem_append_left _ (List.mem_of_getElem? (i := 29) (by rfl))) rfl
theorem kV_y_R_roofWidth : Cond.selects R_R y_R_roofWidth y_R_roofWidth ∈ TBL := tbl_in (List.mem_append_left _ (List.mem_of_getElem? (i := 30) (by rfl))) rfl
theorem kV_y_R_isUpright : Cond.selects R_R y_R_isUpright y_R_isUpright ∈ TBL := tbl_in (List.mem_append_left _ (List.mem_of_getElem? (i := 31) (by rfl))) rfl
theorem kV_y_R_face : Cond.selects R_R y_R_face y_R_face ∈ TBL := tbl_in (List.mem_append_left _ (List.mem_of_getElem? (i := 32) (by rfl))) rfl
theorem kV_y_R_endings : Cond.selects R_R y_R_endings y_R_endings ∈ TBL := tbl_in (List.mem_append_left _ (List.mem_of_getElem? (i := 33) (by rfl))) rfl
theorem kV_y_R_isFree : Cond.selects R_R y_R_isFree y_R_isFree ∈ TBL := tbl_in (List.mem_append_left _ (List.mem_of_getElem? (i := 34) (by rfl))) rfl
theorem kV_y_R_faceAt : Cond.selects R_R y_R_faceAt y_R_faceAt ∈ TBL := tbl_in (List.mem_append_left _ (List.mem_of_getElem? (i := 35) (by rfl))) rfl
theorem kV_y_R_cellAt : Cond.selects R_R y_R_cellAt y_R_cellAt ∈ TBL := tbl_in (List.mem_append_left _ (List.mem_of_getElem? (i := 36) (by rfl))) rfl
theorem kV_y_R_refusal : Cond.selects R_R y_R_refusal y_R_refusal ∈ TBL := tbl_in (List.mem_append_left _ (List.mem_of_getElem? (i := 37) (by rfl))) rfl
theorem kV_y_R_faceBy : Cond.selects R_R y_R_faceBy y_R_faceBy ∈ TBL := tbl_in (List.mem_append_left _ (List.mem_of_getElem? (i := 38) (by rfl))) rfl
theorem kV_y_R_sides : Cond.selects R_R y_R_sides y_R_sides ∈ TBL := tbl_in (List.mem_append_left _ (List.mem_of_getElem? (i := 39) (by rfl))) rfl
theorem kI_L : Cond.initialized R_L ∈ TBL := tbl_in (List.mem_append_right _ (List.mem_append_left _ (List.mem_of_getElem? (i := 0) (by rfl)))) rfl
theorem kI_A : Cond.initialized R_A ∈ TBL := tbl_in (List.mem_append_right _ (List.mem_append_left _ (List.mem_of_getElem? (i := 1) (by rfl)))) rfl
theorem kI_M : Cond.initialized R_M ∈ TBL := tbl_in (List.mem_append_right _ (List.mem_append_left _ (List.mem_of_getElem? (i := 2) (by rfl)))) rfl
theorem kI_G : Cond.initialized R_G ∈ TBL := tbl_in (List.mem_append_right _ (List.mem_append_left _ (List.mem_of_getElem? (i := 3) (by rfl)))) rfl
theorem kI_R : Cond.initialized R_R ∈ TBL := tbl_in (List.mem_append_right _ (List.mem_append_left _ (List.mem_of_getElem? (i := 4) (by rfl)))) rfl
theorem kI_java_lang_Math : Cond.initialized "java/lang/Math" ∈ TBL := tbl_in (List.mem_append_right _ (List.mem_append_left _ (List.mem_of_getElem? (i := 5) (by rfl)))) rfl
theorem kC_L_7 : Cond.classLink R_L 7 R_A ∈ TBL := tbl_in (List.mem_append_right _ (List.mem_append_left _ (List.mem_of_getElem? (i := 6) (by rfl)))) rfl
theorem kN_A : Cond.instantiable R_A 3 ∈ TBL := tbl_in (List.mem_append_right _ (List.mem_append_left _ (List.mem_of_getElem? (i := 7) (by rfl)))) rfl
theorem kL_L_9 : Cond.methodLink R_L 9 y_A_init ∈ TBL := tbl_in (List.mem_append_right _ (List.mem_append_left _ (List.mem_of_getElem? (i := 8) (by rfl)))) rfl
theorem kM_y_A_init : Cond.instanceMethod y_A_init ∈ TBL := tbl_in (List.mem_append_right _ (List.mem_append_left _ (List.mem_of_getElem? (i := 9) (by rfl)))) rfl
theorem kY_y_A_init : Cond.code y_A_init b_A_init 1 none ∈ TBL := tbl_in (List.mem_append_right _ (List.mem_append_left _ (List.mem_of_getElem? (i := 10) (by rfl)))) rfl
theorem kL_A_3 : Cond.methodLink R_A 3 objectInit ∈ TBL := tbl_in (List.mem_append_right _ (List.mem_append_left _ (List.mem_of_getElem? (i := 11) (by rfl)))) rfl
theorem kM_objectInit : Cond.instanceMethod objectInit ∈ TBL := tbl_in (List.mem_append_right _ (List.mem_append_left _ (List.mem_of_getElem? (i := 12) (by rfl)))) rfl
theorem kY_objectInit : Cond.code objectInit ⟨#[0xb1]⟩ 1 none ∈ TBL := tbl_in (List.mem_append_right _ (List.mem_append_left _ (List.mem_of_getElem? (i := 13) (by rfl)))) rfl
theorem kC_A_9 : Cond.classLink R_A 9 R_M ∈ TBL := tbl_in (List.mem_append_right _ (List.mem_append_left _ (List.mem_of_getElem? (i := 14) (by rfl)))) rfl
theorem kN_M : Cond.instantiable R_M 3 ∈ TBL := tbl_in (List.mem_append_right _ (List.mem_append_left _ (List.mem_of_getElem? (i := 15) (by rfl)))) rfl
theorem kLN_A_11 : Cond.methodLinkNest R_A 11 y_M_init R_A ∈ lw_tbl := List.mem_append_right _ (List.mem_append_left _ (List.mem_of_getElem? (i := 16) (by rfl)))
theorem kM_y_M_init : Cond.instanceMethod y_M_init ∈ TBL := tbl_in (List.mem_append_right _ (List.mem_append_left _ (List.mem_of_getElem? (i := 17) (by rfl)))) rfl
theorem kY_y_M_init : Cond.code y_M_init b_M_init 1 none ∈ TBL := tbl_in (List.mem_append_right _ (List.mem_append_left _ (List.mem_of_getElem? (i := 18) (by rfl)))) rfl
theorem kL_M_3 : Cond.methodLink R_M 3 objectInit ∈ TBL := tbl_in (List.mem_append_right _ (List.mem_append_left _ (List.mem_of_getElem? (i := 19) (by rfl)))) rfl
theorem kF_M_9 : Cond.fieldLink R_M 9 R_M "used" "[Z" ∈ TBL := tbl_in (List.mem_append_right _ (List.mem_append_left _ (List.mem_of_getElem? (i := 20) (by rfl)))) rfl
theorem kF_M_15 : Cond.fieldLink R_M 15 R_M "xs" "[I" ∈ TBL := tbl_in (List.mem_append_right _ (List.mem_append_left _ (List.mem_of_getElem? (i := 21) (by rfl)))) rfl
theorem kF_M_19 : Cond.fieldLink R_M 19 R_M "ys" "[I" ∈ TBL := tbl_in (List.mem_append_right _ (List.mem_append_left _ (List.mem_of_getElem? (i := 22) (by rfl)))) rfl
theorem kA_boolean : Cond.arrayClass .boolean ∈ TBL := tbl_in (List.mem_append_right _ (List.mem_append_left _ (List.mem_of_getElem? (i := 30) (by rfl)))) rfl
theorem kA_int : Cond.arrayClass .int ∈ TBL := tbl_in (List.mem_append_right _ (List.mem_append_left _ (List.mem_of_getElem? (i := 31) (by rfl)))) rfl
theorem kC_A_16 : Cond.classLink R_A 16 R_G ∈ TBL := tbl_in (List.mem_append_right _ (List.mem_append_left _ (List.mem_of_getElem? (i := 32) (by rfl)))) rfl
theorem kN_G : Cond.instantiable R_G 1 ∈ TBL := tbl_in (List.mem_append_right _ (List.mem_append_left _ (List.mem_of_getElem? (i := 33) (by rfl)))) rfl
theorem kL_A_18 : Cond.methodLink R_A 18 y_G_init ∈ TBL := tbl_in (List.mem_append_right _ (List.mem_append_left _ (List.mem_of_getElem? (i := 34) (by rfl)))) rfl
theorem kM_y_G_init : Cond.instanceMethod y_G_init ∈ TBL := tbl_in (List.mem_append_right _ (List.mem_append_left _ (List.mem_of_getElem? (i := 35) (by rfl)))) rfl
theorem kY_y_G_init : Cond.code y_G_init b_G_init 2 none ∈ TBL := tbl_in (List.mem_append_right _ (List.mem_append_left _ (List.mem_of_getElem? (i := 36) (by rfl)))) rfl
theorem kL_G_1 : Cond.methodLink R_G 1 objectInit ∈ TBL := tbl_in (List.mem_append_right _ (List.mem_append_left _ (List.mem_of_getElem? (i := 37) (by rfl)))) rfl
theorem kL_G_13 : Cond.methodLink R_G 13 y_G_scatter ∈ TBL := tbl_in (List.mem_append_right _ (List.mem_append_left _ (List.mem_of_getElem? (i := 38) (by rfl)))) rfl
theorem kM_y_G_scatter : Cond.instanceMethod y_G_scatter ∈ TBL := tbl_in (List.mem_append_right _ (List.mem_append_left _ (List.mem_of_getElem? (i := 39) (by rfl)))) rfl
theorem kV_y_G_scatter : Cond.selects R_G y_G_scatter y_G_scatter ∈ TBL := tbl_in (List.mem_append_right _ (List.mem_append_left _ (List.mem_of_getElem? (i := 40) (by rfl)))) rfl
theorem kY_y_G_scatter : Cond.code y_G_scatter b_G_scatter 2 none ∈ TBL := tbl_in (List.mem_append_right _ (List.mem_append_left _ (List.mem_of_getElem? (i := 41) (by rfl)))) rfl
theorem kF_G_7 : Cond.fieldLink R_G 7 R_G "leaders" "[I" ∈ TBL := tbl_in (List.mem_append_right _ (List.mem_append_left _ (List.mem_of_getElem? (i := 42) (by rfl)))) rfl
theorem kF_A_12 : Cond.fieldLink R_A 12 R_A "map" "LFaceAtlas$SegmentMap;" ∈ TBL := tbl_in (List.mem_append_right _ (List.mem_append_left _ (List.mem_of_getElem? (i := 46) (by rfl)))) rfl
theorem kF_A_21 : Cond.fieldLink R_A 21 R_A "sidesByFace" "LFaceAtlas$Groups;" ∈ TBL := tbl_in (List.mem_append_right _ (List.mem_append_left _ (List.mem_of_getElem? (i := 47) (by rfl)))) rfl
theorem kF_A_25 : Cond.fieldLink R_A 25 R_A "segmentsByPart" "LFaceAtlas$Groups;" ∈ TBL := tbl_in (List.mem_append_right _ (List.mem_append_left _ (List.mem_of_getElem? (i := 48) (by rfl)))) rfl
theorem kL_L_13 : Cond.methodLink R_L 13 y_A_add ∈ TBL := tbl_in (List.mem_append_right _ (List.mem_append_left _ (List.mem_of_getElem? (i := 56) (by rfl)))) rfl
theorem kM_y_A_add : Cond.instanceMethod y_A_add ∈ TBL := tbl_in (List.mem_append_right _ (List.mem_append_left _ (List.mem_of_getElem? (i := 57) (by rfl)))) rfl
theorem kV_y_A_add : Cond.selects R_A y_A_add y_A_add ∈ TBL := tbl_in (List.mem_append_right _ (List.mem_append_left _ (List.mem_of_getElem? (i := 58) (by rfl)))) rfl
theorem kY_y_A_add : Cond.code y_A_add b_A_add 7 (some .int) ∈ TBL := tbl_in (List.mem_append_right _ (List.mem_append_left _ (List.mem_of_getElem? (i := 59) (by rfl)))) rfl
theorem kL_A_28 : Cond.methodLink R_A 28 y_A_isNearby ∈ TBL := tbl_in (List.mem_append_right _ (List.mem_append_left _ (List.mem_of_getElem? (i := 60) (by rfl)))) rfl
theorem kS_y_A_isNearby : Cond.static y_A_isNearby ∈ TBL := tbl_in (List.mem_append_right _ (List.mem_append_left _ (List.mem_of_getElem? (i := 61) (by rfl)))) rfl
theorem kY_y_A_isNearby : Cond.code y_A_isNearby b_A_isNearby 2 (some .boolean) ∈ TBL := tbl_in (List.mem_append_right _ (List.mem_append_left _ (List.mem_of_getElem? (i := 62) (by rfl)))) rfl
theorem kL_A_32 : Cond.methodLink R_A 32 y_M_leastUnusedNumber ∈ TBL := tbl_in (List.mem_append_right _ (List.mem_append_left _ (List.mem_of_getElem? (i := 63) (by rfl)))) rfl
theorem kM_y_M_leastUnusedNumber : Cond.instanceMethod y_M_leastUnusedNumber ∈ TBL := tbl_in (List.mem_append_right _ (List.mem_append_left _ (List.mem_of_getElem? (i := 64) (by rfl)))) rfl
theorem kV_y_M_leastUnusedNumber : Cond.selects R_M y_M_leastUnusedNumber y_M_leastUnusedNumber ∈ TBL := tbl_in (List.mem_append_right _ (List.mem_append_left _ (List.mem_of_getElem? (i := 65) (by rfl)))) rfl
theorem kY_y_M_leastUnusedNumber : Cond.code y_M_leastUnusedNumber b_M_leastUnusedNumber 2 (some .int) ∈ TBL := tbl_in (List.mem_append_right _ (List.mem_append_left _ (List.mem_of_getElem? (i := 66) (by rfl)))) rfl
theorem kL_A_36 : Cond.methodLink R_A 36 y_M_sketch ∈ TBL := tbl_in (List.mem_append_right _ (List.mem_append_left _ (List.mem_of_getElem? (i := 67) (by rfl)))) rfl
theorem kM_y_M_sketch : Cond.instanceMethod y_M_sketch ∈ TBL := tbl_in (List.mem_append_right _ (List.mem_append_left _ (List.mem_of_getElem? (i := 68) (by rfl)))) rfl
theorem kV_y_M_sketch : Cond.selects R_M y_M_sketch y_M_sketch ∈ TBL := tbl_in (List.mem_append_right _ (List.mem_append_left _ (List.mem_of_getElem? (i := 69) (by rfl)))) rfl
theorem kY_y_M_sketch : Cond.code y_M_sketch b_M_sketch 8 none ∈ TBL := tbl_in (List.mem_append_right _ (List.mem_append_left _ (List.mem_of_getElem? (i := 70) (by rfl)))) rfl
theorem kL_A_40 : Cond.methodLink R_A 40 y_M_leastMeeting ∈ TBL := tbl_in (List.mem_append_right _ (List.mem_append_left _ (List.mem_of_getElem? (i := 71) (by rfl)))) rfl
theorem kM_y_M_leastMeeting : Cond.instanceMethod y_M_leastMeeting ∈ TBL := tbl_in (List.mem_append_right _ (List.mem_append_left _ (List.mem_of_getElem? (i := 72) (by rfl)))) rfl
theorem kV_y_M_leastMeeting : Cond.selects R_M y_M_leastMeeting y_M_leastMeeting ∈ TBL := tbl_in (List.mem_append_right _ (List.mem_append_left _ (List.mem_of_getElem? (i := 73) (by rfl)))) rfl
theorem kY_y_M_leastMeeting : Cond.code y_M_leastMeeting b_M_leastMeeting 3 (some .int) ∈ TBL := tbl_in (List.mem_append_right _ (List.mem_append_left _ (List.mem_of_getElem? (i := 74) (by rfl)))) rfl
theorem kL_M_22 : Cond.methodLink R_M 22 y_M_meet ∈ TBL := tbl_in (List.mem_append_right _ (List.mem_append_left _ (List.mem_of_getElem? (i := 75) (by rfl)))) rfl
theorem kM_y_M_meet : Cond.instanceMethod y_M_meet ∈ TBL := tbl_in (List.mem_append_right _ (List.mem_append_left _ (List.mem_of_getElem? (i := 77) (by rfl)))) rfl
theorem kY_y_M_meet : Cond.code y_M_meet b_M_meet 3 (some .boolean) ∈ TBL := tbl_in (List.mem_append_right _ (List.mem_append_left _ (List.mem_of_getElem? (i := 78) (by rfl)))) rfl
theorem kL_M_26 : Cond.methodLink R_M 26 y_M_haveSameEnds ∈ TBL := tbl_in (List.mem_append_right _ (List.mem_append_left _ (List.mem_of_getElem? (i := 79) (by rfl)))) rfl
theorem kM_y_M_haveSameEnds : Cond.instanceMethod y_M_haveSameEnds ∈ TBL := tbl_in (List.mem_append_right _ (List.mem_append_left _ (List.mem_of_getElem? (i := 81) (by rfl)))) rfl
theorem kY_y_M_haveSameEnds : Cond.code y_M_haveSameEnds b_M_haveSameEnds 3 (some .boolean) ∈ TBL := tbl_in (List.mem_append_right _ (List.mem_append_left _ (List.mem_of_getElem? (i := 82) (by rfl)))) rfl
theorem kL_M_35 : Cond.methodLink R_M 35 y_M_sameTail ∈ TBL := tbl_in (List.mem_append_right _ (List.mem_append_left _ (List.mem_of_getElem? (i := 83) (by rfl)))) rfl
theorem kM_y_M_sameTail : Cond.instanceMethod y_M_sameTail ∈ TBL := tbl_in (List.mem_append_right _ (List.mem_append_left _ (List.mem_of_getElem? (i := 85) (by rfl)))) rfl
theorem kY_y_M_sameTail : Cond.code y_M_sameTail b_M_sameTail 3 (some .boolean) ∈ TBL := tbl_in (List.mem_append_right _ (List.mem_append_left _ (List.mem_of_getElem? (i := 86) (by rfl)))) rfl
theorem kL_M_29 : Cond.methodLink R_M 29 y_M_holdsAnEndOf ∈ TBL := tbl_in (List.mem_append_right _ (List.mem_append_left _ (List.mem_of_getElem? (i := 87) (by rfl)))) rfl
theorem kM_y_M_holdsAnEndOf : Cond.instanceMethod y_M_holdsAnEndOf ∈ TBL := tbl_in (List.mem_append_right _ (List.mem_append_left _ (List.mem_of_getElem? (i := 89) (by rfl)))) rfl
theorem kY_y_M_holdsAnEndOf : Cond.code y_M_holdsAnEndOf b_M_holdsAnEndOf 3 (some .boolean) ∈ TBL := tbl_in (List.mem_append_right _ (List.mem_append_left _ (List.mem_of_getElem? (i := 90) (by rfl)))) rfl
theorem kL_M_38 : Cond.methodLink R_M 38 y_M_isInside ∈ TBL := tbl_in (List.mem_append_right _ (List.mem_append_left _ (List.mem_of_getElem? (i := 91) (by rfl)))) rfl
theorem kM_y_M_isInside : Cond.instanceMethod y_M_isInside ∈ TBL := tbl_in (List.mem_append_right _ (List.mem_append_left _ (List.mem_of_getElem? (i := 93) (by rfl)))) rfl
theorem kY_y_M_isInside : Cond.code y_M_isInside b_M_isInside 6 (some .boolean) ∈ TBL := tbl_in (List.mem_append_right _ (List.mem_append_left _ (List.mem_of_getElem? (i := 94) (by rfl)))) rfl
theorem kL_M_42 : Cond.methodLink R_M 42 y_M_leftness ∈ TBL := tbl_in (List.mem_append_right _ (List.mem_append_left _ (List.mem_of_getElem? (i := 95) (by rfl)))) rfl
theorem kM_y_M_leftness : Cond.instanceMethod y_M_leftness ∈ TBL := tbl_in (List.mem_append_right _ (List.mem_append_left _ (List.mem_of_getElem? (i := 97) (by rfl)))) rfl
theorem kY_y_M_leftness : Cond.code y_M_leftness b_M_leftness 5 (some .int) ∈ TBL := tbl_in (List.mem_append_right _ (List.mem_append_left _ (List.mem_of_getElem? (i := 98) (by rfl)))) rfl
theorem kL_M_46 : Cond.methodLink R_M 46 y_M_stepX ∈ TBL := tbl_in (List.mem_append_right _ (List.mem_append_left _ (List.mem_of_getElem? (i := 99) (by rfl)))) rfl
theorem kM_y_M_stepX : Cond.instanceMethod y_M_stepX ∈ TBL := tbl_in (List.mem_append_right _ (List.mem_append_left _ (List.mem_of_getElem? (i := 100) (by rfl)))) rfl
theorem kV_y_M_stepX : Cond.selects R_M y_M_stepX y_M_stepX ∈ TBL := tbl_in (List.mem_append_right _ (List.mem_append_left _ (List.mem_of_getElem? (i := 101) (by rfl)))) rfl
theorem kY_y_M_stepX : Cond.code y_M_stepX b_M_stepX 2 (some .int) ∈ TBL := tbl_in (List.mem_append_right _ (List.mem_append_left _ (List.mem_of_getElem? (i := 102) (by rfl)))) rfl
theorem kL_M_50 : Cond.methodLink R_M 50 y_M_stepY ∈ TBL := tbl_in (List.mem_append_right _ (List.mem_append_left _ (List.mem_of_getElem? (i := 103) (by rfl)))) rfl
theorem kM_y_M_stepY : Cond.instanceMethod y_M_stepY ∈ TBL := tbl_in (List.mem_append_right _ (List.mem_append_left _ (List.mem_of_getElem? (i := 104) (by rfl)))) rfl
theorem kV_y_M_stepY : Cond.selects R_M y_M_stepY y_M_stepY ∈ TBL := tbl_in (List.mem_append_right _ (List.mem_append_left _ (List.mem_of_getElem? (i := 105) (by rfl)))) rfl
theorem kY_y_M_stepY : Cond.code y_M_stepY b_M_stepY 2 (some .int) ∈ TBL := tbl_in (List.mem_append_right _ (List.mem_append_left _ (List.mem_of_getElem? (i := 106) (by rfl)))) rfl
theorem kL_M_53 : Cond.methodLink R_M 53 y_M_cross ∈ TBL := tbl_in (List.mem_append_right _ (List.mem_append_left _ (List.mem_of_getElem? (i := 107) (by rfl)))) rfl
theorem kS_y_M_cross : Cond.static y_M_cross ∈ TBL := tbl_in (List.mem_append_right _ (List.mem_append_left _ (List.mem_of_getElem? (i := 108) (by rfl)))) rfl
theorem kY_y_M_cross : Cond.code y_M_cross b_M_cross 4 (some .int) ∈ TBL := tbl_in (List.mem_append_right _ (List.mem_append_left _ (List.mem_of_getElem? (i := 109) (by rfl)))) rfl
theorem kL_M_32 : Cond.methodLink R_M 32 y_M_partsTheEndsOf ∈ TBL := tbl_in (List.mem_append_right _ (List.mem_append_left _ (List.mem_of_getElem? (i := 110) (by rfl)))) rfl
theorem kM_y_M_partsTheEndsOf : Cond.instanceMethod y_M_partsTheEndsOf ∈ TBL := tbl_in (List.mem_append_right _ (List.mem_append_left _ (List.mem_of_getElem? (i := 112) (by rfl)))) rfl
theorem kY_y_M_partsTheEndsOf : Cond.code y_M_partsTheEndsOf b_M_partsTheEndsOf 5 (some .boolean) ∈ TBL := tbl_in (List.mem_append_right _ (List.mem_append_left _ (List.mem_of_getElem? (i := 113) (by rfl)))) rfl
theorem kL_A_44 : Cond.methodLink R_A 44 y_M_setUsed ∈ TBL := tbl_in (List.mem_append_right _ (List.mem_append_left _ (List.mem_of_getElem? (i := 114) (by rfl)))) rfl
theorem kM_y_M_setUsed : Cond.instanceMethod y_M_setUsed ∈ TBL := tbl_in (List.mem_append_right _ (List.mem_append_left _ (List.mem_of_getElem? (i := 115) (by rfl)))) rfl
theorem kV_y_M_setUsed : Cond.selects R_M y_M_setUsed y_M_setUsed ∈ TBL := tbl_in (List.mem_append_right _ (List.mem_append_left _ (List.mem_of_getElem? (i := 116) (by rfl)))) rfl
theorem kY_y_M_setUsed : Cond.code y_M_setUsed b_M_setUsed 3 none ∈ TBL := tbl_in (List.mem_append_right _ (List.mem_append_left _ (List.mem_of_getElem? (i := 117) (by rfl)))) rfl
theorem kL_A_48 : Cond.methodLink R_A 48 y_A_regroup ∈ TBL := tbl_in (List.mem_append_right _ (List.mem_append_left _ (List.mem_of_getElem? (i := 118) (by rfl)))) rfl
theorem kM_y_A_regroup : Cond.instanceMethod y_A_regroup ∈ TBL := tbl_in (List.mem_append_right _ (List.mem_append_left _ (List.mem_of_getElem? (i := 120) (by rfl)))) rfl
theorem kY_y_A_regroup : Cond.code y_A_regroup b_A_regroup 2 none ∈ TBL := tbl_in (List.mem_append_right _ (List.mem_append_left _ (List.mem_of_getElem? (i := 121) (by rfl)))) rfl
theorem kL_A_86 : Cond.methodLink R_A 86 y_G_scatter ∈ TBL := tbl_in (List.mem_append_right _ (List.mem_append_left _ (List.mem_of_getElem? (i := 122) (by rfl)))) rfl
theorem kL_A_55 : Cond.methodLink R_A 55 y_M_hasArrow ∈ TBL := tbl_in (List.mem_append_right _ (List.mem_append_left _ (List.mem_of_getElem? (i := 123) (by rfl)))) rfl
theorem kM_y_M_hasArrow : Cond.instanceMethod y_M_hasArrow ∈ TBL := tbl_in (List.mem_append_right _ (List.mem_append_left _ (List.mem_of_getElem? (i := 124) (by rfl)))) rfl
theorem kV_y_M_hasArrow : Cond.selects R_M y_M_hasArrow y_M_hasArrow ∈ TBL := tbl_in (List.mem_append_right _ (List.mem_append_left _ (List.mem_of_getElem? (i := 125) (by rfl)))) rfl
theorem kY_y_M_hasArrow : Cond.code y_M_hasArrow b_M_hasArrow 2 (some .boolean) ∈ TBL := tbl_in (List.mem_append_right _ (List.mem_append_left _ (List.mem_of_getElem? (i := 126) (by rfl)))) rfl
theorem kL_A_89 : Cond.methodLink R_A 89 y_A_joinWithNextAroundTail ∈ TBL := tbl_in (List.mem_append_right _ (List.mem_append_left _ (List.mem_of_getElem? (i := 127) (by rfl)))) rfl
theorem kM_y_A_joinWithNextAroundTail : Cond.instanceMethod y_A_joinWithNextAroundTail ∈ TBL := tbl_in (List.mem_append_right _ (List.mem_append_left _ (List.mem_of_getElem? (i := 129) (by rfl)))) rfl
theorem kY_y_A_joinWithNextAroundTail : Cond.code y_A_joinWithNextAroundTail b_A_joinWithNextAroundTail 3 none ∈ TBL := tbl_in (List.mem_append_right _ (List.mem_append_left _ (List.mem_of_getElem? (i := 130) (by rfl)))) rfl
theorem kL_A_95 : Cond.methodLink R_A 95 y_M_stepX ∈ TBL := tbl_in (List.mem_append_right _ (List.mem_append_left _ (List.mem_of_getElem? (i := 131) (by rfl)))) rfl
theorem kL_A_98 : Cond.methodLink R_A 98 y_M_stepY ∈ TBL := tbl_in (List.mem_append_right _ (List.mem_append_left _ (List.mem_of_getElem? (i := 132) (by rfl)))) rfl
theorem kL_A_101 : Cond.methodLink R_A 101 y_M_sideFacing ∈ TBL := tbl_in (List.mem_append_right _ (List.mem_append_left _ (List.mem_of_getElem? (i := 133) (by rfl)))) rfl
theorem kM_y_M_sideFacing : Cond.instanceMethod y_M_sideFacing ∈ TBL := tbl_in (List.mem_append_right _ (List.mem_append_left _ (List.mem_of_getElem? (i := 134) (by rfl)))) rfl
theorem kV_y_M_sideFacing : Cond.selects R_M y_M_sideFacing y_M_sideFacing ∈ TBL := tbl_in (List.mem_append_right _ (List.mem_append_left _ (List.mem_of_getElem? (i := 135) (by rfl)))) rfl
theorem kY_y_M_sideFacing : Cond.code y_M_sideFacing b_M_sideFacing 6 (some .int) ∈ TBL := tbl_in (List.mem_append_right _ (List.mem_append_left _ (List.mem_of_getElem? (i := 136) (by rfl)))) rfl
theorem kL_M_69 : Cond.methodLink R_M 69 y_M_comesSooner ∈ TBL := tbl_in (List.mem_append_right _ (List.mem_append_left _ (List.mem_of_getElem? (i := 137) (by rfl)))) rfl
theorem kM_y_M_comesSooner : Cond.instanceMethod y_M_comesSooner ∈ TBL := tbl_in (List.mem_append_right _ (List.mem_append_left _ (List.mem_of_getElem? (i := 139) (by rfl)))) rfl
theorem kY_y_M_comesSooner : Cond.code y_M_comesSooner b_M_comesSooner 7 (some .boolean) ∈ TBL := tbl_in (List.mem_append_right _ (List.mem_append_left _ (List.mem_of_getElem? (i := 140) (by rfl)))) rfl
theorem kL_M_73 : Cond.methodLink R_M 73 y_M_turnRank ∈ TBL := tbl_in (List.mem_append_right _ (List.mem_append_left _ (List.mem_of_getElem? (i := 141) (by rfl)))) rfl
theorem kS_y_M_turnRank : Cond.static y_M_turnRank ∈ TBL := tbl_in (List.mem_append_right _ (List.mem_append_left _ (List.mem_of_getElem? (i := 142) (by rfl)))) rfl
theorem kY_y_M_turnRank : Cond.code y_M_turnRank b_M_turnRank 5 (some .int) ∈ TBL := tbl_in (List.mem_append_right _ (List.mem_append_left _ (List.mem_of_getElem? (i := 143) (by rfl)))) rfl
theorem kL_A_105 : Cond.methodLink R_A 105 y_G_join ∈ TBL := tbl_in (List.mem_append_right _ (List.mem_append_left _ (List.mem_of_getElem? (i := 144) (by rfl)))) rfl
theorem kM_y_G_join : Cond.instanceMethod y_G_join ∈ TBL := tbl_in (List.mem_append_right _ (List.mem_append_left _ (List.mem_of_getElem? (i := 145) (by rfl)))) rfl
theorem kV_y_G_join : Cond.selects R_G y_G_join y_G_join ∈ TBL := tbl_in (List.mem_append_right _ (List.mem_append_left _ (List.mem_of_getElem? (i := 146) (by rfl)))) rfl
theorem kY_y_G_join : Cond.code y_G_join b_G_join 6 none ∈ TBL := tbl_in (List.mem_append_right _ (List.mem_append_left _ (List.mem_of_getElem? (i := 147) (by rfl)))) rfl
theorem kL_A_92 : Cond.methodLink R_A 92 y_A_joinWithWhatIsAbove ∈ TBL := tbl_in (List.mem_append_right _ (List.mem_append_left _ (List.mem_of_getElem? (i := 148) (by rfl)))) rfl
theorem kM_y_A_joinWithWhatIsAbove : Cond.instanceMethod y_A_joinWithWhatIsAbove ∈ TBL := tbl_in (List.mem_append_right _ (List.mem_append_left _ (List.mem_of_getElem? (i := 150) (by rfl)))) rfl
theorem kY_y_A_joinWithWhatIsAbove : Cond.code y_A_joinWithWhatIsAbove b_A_joinWithWhatIsAbove 3 none ∈ TBL := tbl_in (List.mem_append_right _ (List.mem_append_left _ (List.mem_of_getElem? (i := 151) (by rfl)))) rfl
theorem kL_A_109 : Cond.methodLink R_A 109 y_M_startsAtPeak ∈ TBL := tbl_in (List.mem_append_right _ (List.mem_append_left _ (List.mem_of_getElem? (i := 152) (by rfl)))) rfl
theorem kM_y_M_startsAtPeak : Cond.instanceMethod y_M_startsAtPeak ∈ TBL := tbl_in (List.mem_append_right _ (List.mem_append_left _ (List.mem_of_getElem? (i := 153) (by rfl)))) rfl
theorem kV_y_M_startsAtPeak : Cond.selects R_M y_M_startsAtPeak y_M_startsAtPeak ∈ TBL := tbl_in (List.mem_append_right _ (List.mem_append_left _ (List.mem_of_getElem? (i := 154) (by rfl)))) rfl
theorem kY_y_M_startsAtPeak : Cond.code y_M_startsAtPeak b_M_startsAtPeak 3 (some .boolean) ∈ TBL := tbl_in (List.mem_append_right _ (List.mem_append_left _ (List.mem_of_getElem? (i := 155) (by rfl)))) rfl
theorem kL_A_112 : Cond.methodLink R_A 112 y_M_tailX ∈ TBL := tbl_in (List.mem_append_right _ (List.mem_append_left _ (List.mem_of_getElem? (i := 156) (by rfl)))) rfl
theorem kM_y_M_tailX : Cond.instanceMethod y_M_tailX ∈ TBL := tbl_in (List.mem_append_right _ (List.mem_append_left _ (List.mem_of_getElem? (i := 157) (by rfl)))) rfl
theorem kV_y_M_tailX : Cond.selects R_M y_M_tailX y_M_tailX ∈ TBL := tbl_in (List.mem_append_right _ (List.mem_append_left _ (List.mem_of_getElem? (i := 158) (by rfl)))) rfl
theorem kY_y_M_tailX : Cond.code y_M_tailX b_M_tailX 2 (some .int) ∈ TBL := tbl_in (List.mem_append_right _ (List.mem_append_left _ (List.mem_of_getElem? (i := 159) (by rfl)))) rfl
theorem kL_A_115 : Cond.methodLink R_A 115 y_M_tailY ∈ TBL := tbl_in (List.mem_append_right _ (List.mem_append_left _ (List.mem_of_getElem? (i := 160) (by rfl)))) rfl
theorem kM_y_M_tailY : Cond.instanceMethod y_M_tailY ∈ TBL := tbl_in (List.mem_append_right _ (List.mem_append_left _ (List.mem_of_getElem? (i := 161) (by rfl)))) rfl
theorem kV_y_M_tailY : Cond.selects R_M y_M_tailY y_M_tailY ∈ TBL := tbl_in (List.mem_append_right _ (List.mem_append_left _ (List.mem_of_getElem? (i := 162) (by rfl)))) rfl
theorem kY_y_M_tailY : Cond.code y_M_tailY b_M_tailY 2 (some .int) ∈ TBL := tbl_in (List.mem_append_right _ (List.mem_append_left _ (List.mem_of_getElem? (i := 163) (by rfl)))) rfl
theorem kL_A_83 : Cond.methodLink R_A 83 y_M_sideAbove ∈ TBL := tbl_in (List.mem_append_right _ (List.mem_append_left _ (List.mem_of_getElem? (i := 164) (by rfl)))) rfl
theorem kM_y_M_sideAbove : Cond.instanceMethod y_M_sideAbove ∈ TBL := tbl_in (List.mem_append_right _ (List.mem_append_left _ (List.mem_of_getElem? (i := 165) (by rfl)))) rfl
theorem kV_y_M_sideAbove : Cond.selects R_M y_M_sideAbove y_M_sideAbove ∈ TBL := tbl_in (List.mem_append_right _ (List.mem_append_left _ (List.mem_of_getElem? (i := 166) (by rfl)))) rfl
theorem kY_y_M_sideAbove : Cond.code y_M_sideAbove b_M_sideAbove 6 (some .int) ∈ TBL := tbl_in (List.mem_append_right _ (List.mem_append_left _ (List.mem_of_getElem? (i := 167) (by rfl)))) rfl
theorem kL_M_63 : Cond.methodLink R_M 63 y_M_struckAbove ∈ TBL := tbl_in (List.mem_append_right _ (List.mem_append_left _ (List.mem_of_getElem? (i := 168) (by rfl)))) rfl
theorem kM_y_M_struckAbove : Cond.instanceMethod y_M_struckAbove ∈ TBL := tbl_in (List.mem_append_right _ (List.mem_append_left _ (List.mem_of_getElem? (i := 169) (by rfl)))) rfl
theorem kV_y_M_struckAbove : Cond.selects R_M y_M_struckAbove y_M_struckAbove ∈ TBL := tbl_in (List.mem_append_right _ (List.mem_append_left _ (List.mem_of_getElem? (i := 170) (by rfl)))) rfl
theorem kY_y_M_struckAbove : Cond.code y_M_struckAbove b_M_struckAbove 10 (some .int) ∈ TBL := tbl_in (List.mem_append_right _ (List.mem_append_left _ (List.mem_of_getElem? (i := 171) (by rfl)))) rfl
theorem kL_M_57 : Cond.methodLink R_M 57 Lib.Math.max.name ∈ TBL := tbl_in (List.mem_append_right _ (List.mem_append_left _ (List.mem_of_getElem? (i := 172) (by rfl)))) rfl
theorem kS_Lib_Math_max_name : Cond.static Lib.Math.max.name ∈ TBL := tbl_in (List.mem_append_right _ (List.mem_append_left _ (List.mem_of_getElem? (i := 173) (by rfl)))) rfl
theorem kY_Lib_Math_max_name : Cond.code Lib.Math.max.name Lib.Math.max.code 2 (some .int) ∈ TBL := tbl_in (List.mem_append_right _ (List.mem_append_left _ (List.mem_of_getElem? (i := 174) (by rfl)))) rfl
theorem kL_M_66 : Cond.methodLink R_M 66 y_M_sideFacing ∈ TBL := tbl_in (List.mem_append_right _ (List.mem_append_left _ (List.mem_of_getElem? (i := 175) (by rfl)))) rfl
theorem kL_L_18 : Cond.methodLink R_L 18 y_A_remove ∈ TBL := tbl_in (List.mem_append_right _ (List.mem_append_left _ (List.mem_of_getElem? (i := 176) (by rfl)))) rfl
theorem kM_y_A_remove : Cond.instanceMethod y_A_remove ∈ TBL := tbl_in (List.mem_append_right _ (List.mem_append_left _ (List.mem_of_getElem? (i := 177) (by rfl)))) rfl
theorem kV_y_A_remove : Cond.selects R_A y_A_remove y_A_remove ∈ TBL := tbl_in (List.mem_append_right _ (List.mem_append_left _ (List.mem_of_getElem? (i := 178) (by rfl)))) rfl
theorem kY_y_A_remove : Cond.code y_A_remove b_A_remove 2 (some .boolean) ∈ TBL := tbl_in (List.mem_append_right _ (List.mem_append_left _ (List.mem_of_getElem? (i := 179) (by rfl)))) rfl
theorem kL_A_51 : Cond.methodLink R_A 51 y_M_has ∈ TBL := tbl_in (List.mem_append_right _ (List.mem_append_left _ (List.mem_of_getElem? (i := 180) (by rfl)))) rfl
theorem kM_y_M_has : Cond.instanceMethod y_M_has ∈ TBL := tbl_in (List.mem_append_right _ (List.mem_append_left _ (List.mem_of_getElem? (i := 181) (by rfl)))) rfl
theorem kV_y_M_has : Cond.selects R_M y_M_has y_M_has ∈ TBL := tbl_in (List.mem_append_right _ (List.mem_append_left _ (List.mem_of_getElem? (i := 182) (by rfl)))) rfl
theorem kY_y_M_has : Cond.code y_M_has b_M_has 2 (some .boolean) ∈ TBL := tbl_in (List.mem_append_right _ (List.mem_append_left _ (List.mem_of_getElem? (i := 183) (by rfl)))) rfl
theorem kL_L_23 : Cond.methodLink R_L 23 y_A_segments ∈ TBL := tbl_in (List.mem_append_right _ (List.mem_append_left _ (List.mem_of_getElem? (i := 184) (by rfl)))) rfl
theorem kM_y_A_segments : Cond.instanceMethod y_A_segments ∈ TBL := tbl_in (List.mem_append_right _ (List.mem_append_left _ (List.mem_of_getElem? (i := 185) (by rfl)))) rfl
theorem kV_y_A_segments : Cond.selects R_A y_A_segments y_A_segments ∈ TBL := tbl_in (List.mem_append_right _ (List.mem_append_left _ (List.mem_of_getElem? (i := 186) (by rfl)))) rfl
theorem kY_y_A_segments : Cond.code y_A_segments b_A_segments 3 (some .int) ∈ TBL := tbl_in (List.mem_append_right _ (List.mem_append_left _ (List.mem_of_getElem? (i := 187) (by rfl)))) rfl
theorem kL_L_28 : Cond.methodLink R_L 28 y_A_vertices ∈ TBL := tbl_in (List.mem_append_right _ (List.mem_append_left _ (List.mem_of_getElem? (i := 188) (by rfl)))) rfl
theorem kM_y_A_vertices : Cond.instanceMethod y_A_vertices ∈ TBL := tbl_in (List.mem_append_right _ (List.mem_append_left _ (List.mem_of_getElem? (i := 189) (by rfl)))) rfl
theorem kV_y_A_vertices : Cond.selects R_A y_A_vertices y_A_vertices ∈ TBL := tbl_in (List.mem_append_right _ (List.mem_append_left _ (List.mem_of_getElem? (i := 190) (by rfl)))) rfl
theorem kY_y_A_vertices : Cond.code y_A_vertices b_A_vertices 3 (some .int) ∈ TBL := tbl_in (List.mem_append_right _ (List.mem_append_left _ (List.mem_of_getElem? (i := 191) (by rfl)))) rfl
theorem kL_A_58 : Cond.methodLink R_A 58 y_M_isFirstOfItsVertex ∈ TBL := tbl_in (List.mem_append_right _ (List.mem_append_left _ (List.mem_of_getElem? (i := 192) (by rfl)))) rfl
theorem kM_y_M_isFirstOfItsVertex : Cond.instanceMethod y_M_isFirstOfItsVertex ∈ TBL := tbl_in (List.mem_append_right _ (List.mem_append_left _ (List.mem_of_getElem? (i := 193) (by rfl)))) rfl
theorem kV_y_M_isFirstOfItsVertex : Cond.selects R_M y_M_isFirstOfItsVertex y_M_isFirstOfItsVertex ∈ TBL := tbl_in (List.mem_append_right _ (List.mem_append_left _ (List.mem_of_getElem? (i := 194) (by rfl)))) rfl
theorem kY_y_M_isFirstOfItsVertex : Cond.code y_M_isFirstOfItsVertex b_M_isFirstOfItsVertex 3 (some .boolean) ∈ TBL := tbl_in (List.mem_append_right _ (List.mem_append_left _ (List.mem_of_getElem? (i := 195) (by rfl)))) rfl
theorem kL_L_32 : Cond.methodLink R_L 32 y_A_parts ∈ TBL := tbl_in (List.mem_append_right _ (List.mem_append_left _ (List.mem_of_getElem? (i := 196) (by rfl)))) rfl
theorem kM_y_A_parts : Cond.instanceMethod y_A_parts ∈ TBL := tbl_in (List.mem_append_right _ (List.mem_append_left _ (List.mem_of_getElem? (i := 197) (by rfl)))) rfl
theorem kV_y_A_parts : Cond.selects R_A y_A_parts y_A_parts ∈ TBL := tbl_in (List.mem_append_right _ (List.mem_append_left _ (List.mem_of_getElem? (i := 198) (by rfl)))) rfl
theorem kY_y_A_parts : Cond.code y_A_parts b_A_parts 3 (some .int) ∈ TBL := tbl_in (List.mem_append_right _ (List.mem_append_left _ (List.mem_of_getElem? (i := 199) (by rfl)))) rfl
theorem kL_A_61 : Cond.methodLink R_A 61 y_G_isLeader ∈ TBL := tbl_in (List.mem_append_right _ (List.mem_append_left _ (List.mem_of_getElem? (i := 200) (by rfl)))) rfl
theorem kM_y_G_isLeader : Cond.instanceMethod y_G_isLeader ∈ TBL := tbl_in (List.mem_append_right _ (List.mem_append_left _ (List.mem_of_getElem? (i := 201) (by rfl)))) rfl
theorem kV_y_G_isLeader : Cond.selects R_G y_G_isLeader y_G_isLeader ∈ TBL := tbl_in (List.mem_append_right _ (List.mem_append_left _ (List.mem_of_getElem? (i := 202) (by rfl)))) rfl
theorem kY_y_G_isLeader : Cond.code y_G_isLeader b_G_isLeader 2 (some .boolean) ∈ TBL := tbl_in (List.mem_append_right _ (List.mem_append_left _ (List.mem_of_getElem? (i := 203) (by rfl)))) rfl
theorem kL_L_36 : Cond.methodLink R_L 36 y_A_faces ∈ TBL := tbl_in (List.mem_append_right _ (List.mem_append_left _ (List.mem_of_getElem? (i := 204) (by rfl)))) rfl
theorem kM_y_A_faces : Cond.instanceMethod y_A_faces ∈ TBL := tbl_in (List.mem_append_right _ (List.mem_append_left _ (List.mem_of_getElem? (i := 205) (by rfl)))) rfl
theorem kV_y_A_faces : Cond.selects R_A y_A_faces y_A_faces ∈ TBL := tbl_in (List.mem_append_right _ (List.mem_append_left _ (List.mem_of_getElem? (i := 206) (by rfl)))) rfl
theorem kY_y_A_faces : Cond.code y_A_faces b_A_faces 3 (some .int) ∈ TBL := tbl_in (List.mem_append_right _ (List.mem_append_left _ (List.mem_of_getElem? (i := 207) (by rfl)))) rfl
theorem kL_L_40 : Cond.methodLink R_L 40 y_A_find ∈ TBL := tbl_in (List.mem_append_right _ (List.mem_append_left _ (List.mem_of_getElem? (i := 208) (by rfl)))) rfl
theorem kM_y_A_find : Cond.instanceMethod y_A_find ∈ TBL := tbl_in (List.mem_append_right _ (List.mem_append_left _ (List.mem_of_getElem? (i := 209) (by rfl)))) rfl
theorem kV_y_A_find : Cond.selects R_A y_A_find y_A_find ∈ TBL := tbl_in (List.mem_append_right _ (List.mem_append_left _ (List.mem_of_getElem? (i := 210) (by rfl)))) rfl
theorem kY_y_A_find : Cond.code y_A_find b_A_find 5 (some .int) ∈ TBL := tbl_in (List.mem_append_right _ (List.mem_append_left _ (List.mem_of_getElem? (i := 211) (by rfl)))) rfl
theorem kL_A_64 : Cond.methodLink R_A 64 y_M_endsAt ∈ TBL := tbl_in (List.mem_append_right _ (List.mem_append_left _ (List.mem_of_getElem? (i := 212) (by rfl)))) rfl
theorem kM_y_M_endsAt : Cond.instanceMethod y_M_endsAt ∈ TBL := tbl_in (List.mem_append_right _ (List.mem_append_left _ (List.mem_of_getElem? (i := 213) (by rfl)))) rfl
theorem kV_y_M_endsAt : Cond.selects R_M y_M_endsAt y_M_endsAt ∈ TBL := tbl_in (List.mem_append_right _ (List.mem_append_left _ (List.mem_of_getElem? (i := 214) (by rfl)))) rfl
theorem kY_y_M_endsAt : Cond.code y_M_endsAt b_M_endsAt 5 (some .int) ∈ TBL := tbl_in (List.mem_append_right _ (List.mem_append_left _ (List.mem_of_getElem? (i := 215) (by rfl)))) rfl
theorem kL_A_68 : Cond.methodLink R_A 68 y_M_segmentAround ∈ TBL := tbl_in (List.mem_append_right _ (List.mem_append_left _ (List.mem_of_getElem? (i := 216) (by rfl)))) rfl
theorem kM_y_M_segmentAround : Cond.instanceMethod y_M_segmentAround ∈ TBL := tbl_in (List.mem_append_right _ (List.mem_append_left _ (List.mem_of_getElem? (i := 217) (by rfl)))) rfl
theorem kV_y_M_segmentAround : Cond.selects R_M y_M_segmentAround y_M_segmentAround ∈ TBL := tbl_in (List.mem_append_right _ (List.mem_append_left _ (List.mem_of_getElem? (i := 218) (by rfl)))) rfl
theorem kY_y_M_segmentAround : Cond.code y_M_segmentAround b_M_segmentAround 4 (some .int) ∈ TBL := tbl_in (List.mem_append_right _ (List.mem_append_left _ (List.mem_of_getElem? (i := 219) (by rfl)))) rfl
theorem kL_A_71 : Cond.methodLink R_A 71 y_M_struckAbove ∈ TBL := tbl_in (List.mem_append_right _ (List.mem_append_left _ (List.mem_of_getElem? (i := 220) (by rfl)))) rfl
theorem kL_L_45 : Cond.methodLink R_L 45 y_A_same ∈ TBL := tbl_in (List.mem_append_right _ (List.mem_append_left _ (List.mem_of_getElem? (i := 221) (by rfl)))) rfl
theorem kM_y_A_same : Cond.instanceMethod y_A_same ∈ TBL := tbl_in (List.mem_append_right _ (List.mem_append_left _ (List.mem_of_getElem? (i := 222) (by rfl)))) rfl
theorem kV_y_A_same : Cond.selects R_A y_A_same y_A_same ∈ TBL := tbl_in (List.mem_append_right _ (List.mem_append_left _ (List.mem_of_getElem? (i := 223) (by rfl)))) rfl
theorem kY_y_A_same : Cond.code y_A_same b_A_same 7 (some .boolean) ∈ TBL := tbl_in (List.mem_append_right _ (List.mem_append_left _ (List.mem_of_getElem? (i := 224) (by rfl)))) rfl
theorem kL_A_74 : Cond.methodLink R_A 74 y_A_sideSeenFrom ∈ TBL := tbl_in (List.mem_append_right _ (List.mem_append_left _ (List.mem_of_getElem? (i := 225) (by rfl)))) rfl
theorem kM_y_A_sideSeenFrom : Cond.instanceMethod y_A_sideSeenFrom ∈ TBL := tbl_in (List.mem_append_right _ (List.mem_append_left _ (List.mem_of_getElem? (i := 227) (by rfl)))) rfl
theorem kY_y_A_sideSeenFrom : Cond.code y_A_sideSeenFrom b_A_sideSeenFrom 3 (some .int) ∈ TBL := tbl_in (List.mem_append_right _ (List.mem_append_left _ (List.mem_of_getElem? (i := 228) (by rfl)))) rfl
theorem kL_A_77 : Cond.methodLink R_A 77 y_G_together ∈ TBL := tbl_in (List.mem_append_right _ (List.mem_append_left _ (List.mem_of_getElem? (i := 229) (by rfl)))) rfl
theorem kM_y_G_together : Cond.instanceMethod y_G_together ∈ TBL := tbl_in (List.mem_append_right _ (List.mem_append_left _ (List.mem_of_getElem? (i := 230) (by rfl)))) rfl
theorem kV_y_G_together : Cond.selects R_G y_G_together y_G_together ∈ TBL := tbl_in (List.mem_append_right _ (List.mem_append_left _ (List.mem_of_getElem? (i := 231) (by rfl)))) rfl
theorem kY_y_G_together : Cond.code y_G_together b_G_together 3 (some .boolean) ∈ TBL := tbl_in (List.mem_append_right _ (List.mem_append_left _ (List.mem_of_getElem? (i := 232) (by rfl)))) rfl
theorem kL_L_50 : Cond.methodLink R_L 50 y_A_area ∈ TBL := tbl_in (List.mem_append_right _ (List.mem_append_left _ (List.mem_of_getElem? (i := 233) (by rfl)))) rfl
theorem kM_y_A_area : Cond.instanceMethod y_A_area ∈ TBL := tbl_in (List.mem_append_right _ (List.mem_append_left _ (List.mem_of_getElem? (i := 234) (by rfl)))) rfl
theorem kV_y_A_area : Cond.selects R_A y_A_area y_A_area ∈ TBL := tbl_in (List.mem_append_right _ (List.mem_append_left _ (List.mem_of_getElem? (i := 235) (by rfl)))) rfl
theorem kY_y_A_area : Cond.code y_A_area b_A_area 6 (some .int) ∈ TBL := tbl_in (List.mem_append_right _ (List.mem_append_left _ (List.mem_of_getElem? (i := 236) (by rfl)))) rfl
theorem kL_A_80 : Cond.methodLink R_A 80 y_M_sweep ∈ TBL := tbl_in (List.mem_append_right _ (List.mem_append_left _ (List.mem_of_getElem? (i := 237) (by rfl)))) rfl
theorem kM_y_M_sweep : Cond.instanceMethod y_M_sweep ∈ TBL := tbl_in (List.mem_append_right _ (List.mem_append_left _ (List.mem_of_getElem? (i := 238) (by rfl)))) rfl
theorem kV_y_M_sweep : Cond.selects R_M y_M_sweep y_M_sweep ∈ TBL := tbl_in (List.mem_append_right _ (List.mem_append_left _ (List.mem_of_getElem? (i := 239) (by rfl)))) rfl
theorem kY_y_M_sweep : Cond.code y_M_sweep b_M_sweep 2 (some .int) ∈ TBL := tbl_in (List.mem_append_right _ (List.mem_append_right _ (List.mem_of_getElem? (i := 0) (by rfl)))) rfl
theorem kL_L_54 : Cond.methodLink R_L 54 y_A_border ∈ TBL := tbl_in (List.mem_append_right _ (List.mem_append_right _ (List.mem_of_getElem? (i := 1) (by rfl)))) rfl
theorem kM_y_A_border : Cond.instanceMethod y_A_border ∈ TBL := tbl_in (List.mem_append_right _ (List.mem_append_right _ (List.mem_of_getElem? (i := 2) (by rfl)))) rfl
theorem kV_y_A_border : Cond.selects R_A y_A_border y_A_border ∈ TBL := tbl_in (List.mem_append_right _ (List.mem_append_right _ (List.mem_of_getElem? (i := 3) (by rfl)))) rfl
theorem kY_y_A_border : Cond.code y_A_border b_A_border 6 (some .int) ∈ TBL := tbl_in (List.mem_append_right _ (List.mem_append_right _ (List.mem_of_getElem? (i := 4) (by rfl)))) rfl
theorem kL_L_58 : Cond.methodLink R_L 58 y_A_touches ∈ TBL := tbl_in (List.mem_append_right _ (List.mem_append_right _ (List.mem_of_getElem? (i := 5) (by rfl)))) rfl
theorem kM_y_A_touches : Cond.instanceMethod y_A_touches ∈ TBL := tbl_in (List.mem_append_right _ (List.mem_append_right _ (List.mem_of_getElem? (i := 6) (by rfl)))) rfl
theorem kV_y_A_touches : Cond.selects R_A y_A_touches y_A_touches ∈ TBL := tbl_in (List.mem_append_right _ (List.mem_append_right _ (List.mem_of_getElem? (i := 7) (by rfl)))) rfl
theorem kY_y_A_touches : Cond.code y_A_touches b_A_touches 7 (some .int) ∈ TBL := tbl_in (List.mem_append_right _ (List.mem_append_right _ (List.mem_of_getElem? (i := 8) (by rfl)))) rfl
theorem kC_L_10 : Cond.classLink R_L 10 R_R ∈ TBL := tbl_in (List.mem_append_right _ (List.mem_append_right _ (List.mem_of_getElem? (i := 9) (by rfl)))) rfl
theorem kN_R : Cond.instantiable R_R 11 ∈ TBL := tbl_in (List.mem_append_right _ (List.mem_append_right _ (List.mem_of_getElem? (i := 10) (by rfl)))) rfl
theorem kL_L_12 : Cond.methodLink R_L 12 y_R_init ∈ TBL := tbl_in (List.mem_append_right _ (List.mem_append_right _ (List.mem_of_getElem? (i := 11) (by rfl)))) rfl
theorem kM_y_R_init : Cond.instanceMethod y_R_init ∈ TBL := tbl_in (List.mem_append_right _ (List.mem_append_right _ (List.mem_of_getElem? (i := 12) (by rfl)))) rfl
theorem kY_y_R_init : Cond.code y_R_init b_R_init 1 none ∈ TBL := tbl_in (List.mem_append_right _ (List.mem_append_right _ (List.mem_of_getElem? (i := 13) (by rfl)))) rfl
theorem kL_R_1 : Cond.methodLink R_R 1 objectInit ∈ TBL := tbl_in (List.mem_append_right _ (List.mem_append_right _ (List.mem_of_getElem? (i := 14) (by rfl)))) rfl
theorem kF_R_7 : Cond.fieldLink R_R 7 R_R "used" "[Z" ∈ TBL := tbl_in (List.mem_append_right _ (List.mem_append_right _ (List.mem_of_getElem? (i := 15) (by rfl)))) rfl
theorem kF_R_13 : Cond.fieldLink R_R 13 R_R "ax" "[I" ∈ TBL := tbl_in (List.mem_append_right _ (List.mem_append_right _ (List.mem_of_getElem? (i := 16) (by rfl)))) rfl
theorem kF_R_17 : Cond.fieldLink R_R 17 R_R "ay" "[I" ∈ TBL := tbl_in (List.mem_append_right _ (List.mem_append_right _ (List.mem_of_getElem? (i := 17) (by rfl)))) rfl
theorem kF_R_20 : Cond.fieldLink R_R 20 R_R "bx" "[I" ∈ TBL := tbl_in (List.mem_append_right _ (List.mem_append_right _ (List.mem_of_getElem? (i := 18) (by rfl)))) rfl
theorem kF_R_23 : Cond.fieldLink R_R 23 R_R "by" "[I" ∈ TBL := tbl_in (List.mem_append_right _ (List.mem_append_right _ (List.mem_of_getElem? (i := 19) (by rfl)))) rfl
theorem kF_R_61 : Cond.fieldLink R_R 61 R_R "known" "Z" ∈ TBL := tbl_in (List.mem_append_right _ (List.mem_append_right _ (List.mem_of_getElem? (i := 20) (by rfl)))) rfl
theorem kF_R_86 : Cond.fieldLink R_R 86 R_R "lines" "I" ∈ TBL := tbl_in (List.mem_append_right _ (List.mem_append_right _ (List.mem_of_getElem? (i := 21) (by rfl)))) rfl
theorem kF_R_26 : Cond.fieldLink R_R 26 R_R "line" "[I" ∈ TBL := tbl_in (List.mem_append_right _ (List.mem_append_right _ (List.mem_of_getElem? (i := 22) (by rfl)))) rfl
theorem kF_R_29 : Cond.fieldLink R_R 29 R_R "across" "[I" ∈ TBL := tbl_in (List.mem_append_right _ (List.mem_append_right _ (List.mem_of_getElem? (i := 23) (by rfl)))) rfl
theorem kF_R_32 : Cond.fieldLink R_R 32 R_R "many" "[I" ∈ TBL := tbl_in (List.mem_append_right _ (List.mem_append_right _ (List.mem_of_getElem? (i := 24) (by rfl)))) rfl
theorem kF_R_35 : Cond.fieldLink R_R 35 R_R "same" "[I" ∈ TBL := tbl_in (List.mem_append_right _ (List.mem_append_right _ (List.mem_of_getElem? (i := 25) (by rfl)))) rfl
theorem kL_L_17 : Cond.methodLink R_L 17 y_R_add ∈ TBL := tbl_in (List.mem_append_right _ (List.mem_append_right _ (List.mem_of_getElem? (i := 49) (by rfl)))) rfl
theorem kM_y_R_add : Cond.instanceMethod y_R_add ∈ TBL := tbl_in (List.mem_append_right _ (List.mem_append_right _ (List.mem_of_getElem? (i := 50) (by rfl)))) rfl
theorem kV_y_R_add : Cond.selects R_R y_R_add y_R_add ∈ TBL := tbl_in (List.mem_append_right _ (List.mem_append_right _ (List.mem_of_getElem? (i := 51) (by rfl)))) rfl
theorem kY_y_R_add : Cond.code y_R_add b_R_add 8 (some .int) ∈ TBL := tbl_in (List.mem_append_right _ (List.mem_append_right _ (List.mem_of_getElem? (i := 52) (by rfl)))) rfl
theorem kL_R_53 : Cond.methodLink R_R 53 y_R_near ∈ TBL := tbl_in (List.mem_append_right _ (List.mem_append_right _ (List.mem_of_getElem? (i := 53) (by rfl)))) rfl
theorem kS_y_R_near : Cond.static y_R_near ∈ TBL := tbl_in (List.mem_append_right _ (List.mem_append_right _ (List.mem_of_getElem? (i := 54) (by rfl)))) rfl
theorem kY_y_R_near : Cond.code y_R_near b_R_near 1 (some .boolean) ∈ TBL := tbl_in (List.mem_append_right _ (List.mem_append_right _ (List.mem_of_getElem? (i := 55) (by rfl)))) rfl
theorem kL_R_57 : Cond.methodLink R_R 57 y_R_meet ∈ TBL := tbl_in (List.mem_append_right _ (List.mem_append_right _ (List.mem_of_getElem? (i := 56) (by rfl)))) rfl
theorem kM_y_R_meet : Cond.instanceMethod y_R_meet ∈ TBL := tbl_in (List.mem_append_right _ (List.mem_append_right _ (List.mem_of_getElem? (i := 58) (by rfl)))) rfl
theorem kY_y_R_meet : Cond.code y_R_meet b_R_meet 3 (some .boolean) ∈ TBL := tbl_in (List.mem_append_right _ (List.mem_append_right _ (List.mem_of_getElem? (i := 59) (by rfl)))) rfl
theorem kL_R_50 : Cond.methodLink R_R 50 y_R_isInside ∈ TBL := tbl_in (List.mem_append_right _ (List.mem_append_right _ (List.mem_of_getElem? (i := 60) (by rfl)))) rfl
theorem kM_y_R_isInside : Cond.instanceMethod y_R_isInside ∈ TBL := tbl_in (List.mem_append_right _ (List.mem_append_right _ (List.mem_of_getElem? (i := 62) (by rfl)))) rfl
theorem kY_y_R_isInside : Cond.code y_R_isInside b_R_isInside 6 (some .boolean) ∈ TBL := tbl_in (List.mem_append_right _ (List.mem_append_right _ (List.mem_of_getElem? (i := 63) (by rfl)))) rfl
theorem kL_R_42 : Cond.methodLink R_R 42 y_R_side ∈ TBL := tbl_in (List.mem_append_right _ (List.mem_append_right _ (List.mem_of_getElem? (i := 64) (by rfl)))) rfl
theorem kM_y_R_side : Cond.instanceMethod y_R_side ∈ TBL := tbl_in (List.mem_append_right _ (List.mem_append_right _ (List.mem_of_getElem? (i := 66) (by rfl)))) rfl
theorem kY_y_R_side : Cond.code y_R_side b_R_side 4 (some .int) ∈ TBL := tbl_in (List.mem_append_right _ (List.mem_append_right _ (List.mem_of_getElem? (i := 67) (by rfl)))) rfl
theorem kL_R_38 : Cond.methodLink R_R 38 y_R_sign ∈ TBL := tbl_in (List.mem_append_right _ (List.mem_append_right _ (List.mem_of_getElem? (i := 68) (by rfl)))) rfl
theorem kS_y_R_sign : Cond.static y_R_sign ∈ TBL := tbl_in (List.mem_append_right _ (List.mem_append_right _ (List.mem_of_getElem? (i := 69) (by rfl)))) rfl
theorem kY_y_R_sign : Cond.code y_R_sign b_R_sign 1 (some .int) ∈ TBL := tbl_in (List.mem_append_right _ (List.mem_append_right _ (List.mem_of_getElem? (i := 70) (by rfl)))) rfl
theorem kL_R_46 : Cond.methodLink R_R 46 y_R_isEnd ∈ TBL := tbl_in (List.mem_append_right _ (List.mem_append_right _ (List.mem_of_getElem? (i := 71) (by rfl)))) rfl
theorem kM_y_R_isEnd : Cond.instanceMethod y_R_isEnd ∈ TBL := tbl_in (List.mem_append_right _ (List.mem_append_right _ (List.mem_of_getElem? (i := 73) (by rfl)))) rfl
theorem kY_y_R_isEnd : Cond.code y_R_isEnd b_R_isEnd 4 (some .boolean) ∈ TBL := tbl_in (List.mem_append_right _ (List.mem_append_right _ (List.mem_of_getElem? (i := 74) (by rfl)))) rfl
theorem kL_L_22 : Cond.methodLink R_L 22 y_R_remove ∈ TBL := tbl_in (List.mem_append_right _ (List.mem_append_right _ (List.mem_of_getElem? (i := 75) (by rfl)))) rfl
theorem kM_y_R_remove : Cond.instanceMethod y_R_remove ∈ TBL := tbl_in (List.mem_append_right _ (List.mem_append_right _ (List.mem_of_getElem? (i := 76) (by rfl)))) rfl
theorem kV_y_R_remove : Cond.selects R_R y_R_remove y_R_remove ∈ TBL := tbl_in (List.mem_append_right _ (List.mem_append_right _ (List.mem_of_getElem? (i := 77) (by rfl)))) rfl
theorem kY_y_R_remove : Cond.code y_R_remove b_R_remove 2 (some .boolean) ∈ TBL := tbl_in (List.mem_append_right _ (List.mem_append_right _ (List.mem_of_getElem? (i := 78) (by rfl)))) rfl
theorem kL_R_65 : Cond.methodLink R_R 65 y_R_isSegment ∈ TBL := tbl_in (List.mem_append_right _ (List.mem_append_right _ (List.mem_of_getElem? (i := 79) (by rfl)))) rfl
theorem kM_y_R_isSegment : Cond.instanceMethod y_R_isSegment ∈ TBL := tbl_in (List.mem_append_right _ (List.mem_append_right _ (List.mem_of_getElem? (i := 81) (by rfl)))) rfl
theorem kY_y_R_isSegment : Cond.code y_R_isSegment b_R_isSegment 2 (some .boolean) ∈ TBL := tbl_in (List.mem_append_right _ (List.mem_append_right _ (List.mem_of_getElem? (i := 82) (by rfl)))) rfl
theorem kL_L_27 : Cond.methodLink R_L 27 y_R_segments ∈ TBL := tbl_in (List.mem_append_right _ (List.mem_append_right _ (List.mem_of_getElem? (i := 83) (by rfl)))) rfl
theorem kM_y_R_segments : Cond.instanceMethod y_R_segments ∈ TBL := tbl_in (List.mem_append_right _ (List.mem_append_right _ (List.mem_of_getElem? (i := 84) (by rfl)))) rfl
theorem kV_y_R_segments : Cond.selects R_R y_R_segments y_R_segments ∈ TBL := tbl_in (List.mem_append_right _ (List.mem_append_right _ (List.mem_of_getElem? (i := 85) (by rfl)))) rfl
theorem kY_y_R_segments : Cond.code y_R_segments b_R_segments 3 (some .int) ∈ TBL := tbl_in (List.mem_append_right _ (List.mem_append_right _ (List.mem_of_getElem? (i := 86) (by rfl)))) rfl
theorem kL_L_31 : Cond.methodLink R_L 31 y_R_vertices ∈ TBL := tbl_in (List.mem_append_right _ (List.mem_append_right _ (List.mem_of_getElem? (i := 87) (by rfl)))) rfl
theorem kM_y_R_vertices : Cond.instanceMethod y_R_vertices ∈ TBL := tbl_in (List.mem_append_right _ (List.mem_append_right _ (List.mem_of_getElem? (i := 88) (by rfl)))) rfl
theorem kV_y_R_vertices : Cond.selects R_R y_R_vertices y_R_vertices ∈ TBL := tbl_in (List.mem_append_right _ (List.mem_append_right _ (List.mem_of_getElem? (i := 89) (by rfl)))) rfl
theorem kY_y_R_vertices : Cond.code y_R_vertices b_R_vertices 3 (some .int) ∈ TBL := tbl_in (List.mem_append_right _ (List.mem_append_right _ (List.mem_of_getElem? (i := 90) (by rfl)))) rfl
theorem kL_R_68 : Cond.methodLink R_R 68 y_R_firstAt ∈ TBL := tbl_in (List.mem_append_right _ (List.mem_append_right _ (List.mem_of_getElem? (i := 91) (by rfl)))) rfl
theorem kM_y_R_firstAt : Cond.instanceMethod y_R_firstAt ∈ TBL := tbl_in (List.mem_append_right _ (List.mem_append_right _ (List.mem_of_getElem? (i := 93) (by rfl)))) rfl
theorem kY_y_R_firstAt : Cond.code y_R_firstAt b_R_firstAt 5 (some .int) ∈ TBL := tbl_in (List.mem_append_right _ (List.mem_append_right _ (List.mem_of_getElem? (i := 94) (by rfl)))) rfl
theorem kL_L_35 : Cond.methodLink R_L 35 y_R_parts ∈ TBL := tbl_in (List.mem_append_right _ (List.mem_append_right _ (List.mem_of_getElem? (i := 95) (by rfl)))) rfl
theorem kM_y_R_parts : Cond.instanceMethod y_R_parts ∈ TBL := tbl_in (List.mem_append_right _ (List.mem_append_right _ (List.mem_of_getElem? (i := 96) (by rfl)))) rfl
theorem kV_y_R_parts : Cond.selects R_R y_R_parts y_R_parts ∈ TBL := tbl_in (List.mem_append_right _ (List.mem_append_right _ (List.mem_of_getElem? (i := 97) (by rfl)))) rfl
theorem kY_y_R_parts : Cond.code y_R_parts b_R_parts 3 (some .int) ∈ TBL := tbl_in (List.mem_append_right _ (List.mem_append_right _ (List.mem_of_getElem? (i := 98) (by rfl)))) rfl
theorem kL_R_75 : Cond.methodLink R_R 75 y_R_partOf ∈ TBL := tbl_in (List.mem_append_right _ (List.mem_append_right _ (List.mem_of_getElem? (i := 99) (by rfl)))) rfl
theorem kM_y_R_partOf : Cond.instanceMethod y_R_partOf ∈ TBL := tbl_in (List.mem_append_right _ (List.mem_append_right _ (List.mem_of_getElem? (i := 101) (by rfl)))) rfl
theorem kY_y_R_partOf : Cond.code y_R_partOf b_R_partOf 7 (some .int) ∈ TBL := tbl_in (List.mem_append_right _ (List.mem_append_right _ (List.mem_of_getElem? (i := 102) (by rfl)))) rfl
theorem kL_R_72 : Cond.methodLink R_R 72 y_R_touch ∈ TBL := tbl_in (List.mem_append_right _ (List.mem_append_right _ (List.mem_of_getElem? (i := 103) (by rfl)))) rfl
theorem kM_y_R_touch : Cond.instanceMethod y_R_touch ∈ TBL := tbl_in (List.mem_append_right _ (List.mem_append_right _ (List.mem_of_getElem? (i := 105) (by rfl)))) rfl
theorem kY_y_R_touch : Cond.code y_R_touch b_R_touch 3 (some .boolean) ∈ TBL := tbl_in (List.mem_append_right _ (List.mem_append_right _ (List.mem_of_getElem? (i := 106) (by rfl)))) rfl
theorem kL_L_39 : Cond.methodLink R_L 39 y_R_faces ∈ TBL := tbl_in (List.mem_append_right _ (List.mem_append_right _ (List.mem_of_getElem? (i := 107) (by rfl)))) rfl
theorem kM_y_R_faces : Cond.instanceMethod y_R_faces ∈ TBL := tbl_in (List.mem_append_right _ (List.mem_append_right _ (List.mem_of_getElem? (i := 108) (by rfl)))) rfl
theorem kV_y_R_faces : Cond.selects R_R y_R_faces y_R_faces ∈ TBL := tbl_in (List.mem_append_right _ (List.mem_append_right _ (List.mem_of_getElem? (i := 109) (by rfl)))) rfl
theorem kY_y_R_faces : Cond.code y_R_faces b_R_faces 4 (some .int) ∈ TBL := tbl_in (List.mem_append_right _ (List.mem_append_right _ (List.mem_of_getElem? (i := 110) (by rfl)))) rfl
theorem kL_R_125 : Cond.methodLink R_R 125 y_R_look ∈ TBL := tbl_in (List.mem_append_right _ (List.mem_append_right _ (List.mem_of_getElem? (i := 111) (by rfl)))) rfl
theorem kM_y_R_look : Cond.instanceMethod y_R_look ∈ TBL := tbl_in (List.mem_append_right _ (List.mem_append_right _ (List.mem_of_getElem? (i := 113) (by rfl)))) rfl
theorem kY_y_R_look : Cond.code y_R_look b_R_look 4 none ∈ TBL := tbl_in (List.mem_append_right _ (List.mem_append_right _ (List.mem_of_getElem? (i := 114) (by rfl)))) rfl
theorem kL_R_112 : Cond.methodLink R_R 112 y_R_addLine ∈ TBL := tbl_in (List.mem_append_right _ (List.mem_append_right _ (List.mem_of_getElem? (i := 115) (by rfl)))) rfl
theorem kM_y_R_addLine : Cond.instanceMethod y_R_addLine ∈ TBL := tbl_in (List.mem_append_right _ (List.mem_append_right _ (List.mem_of_getElem? (i := 117) (by rfl)))) rfl
theorem kY_y_R_addLine : Cond.code y_R_addLine b_R_addLine 4 none ∈ TBL := tbl_in (List.mem_append_right _ (List.mem_append_right _ (List.mem_of_getElem? (i := 118) (by rfl)))) rfl
theorem kL_R_116 : Cond.methodLink R_R 116 y_R_fill ∈ TBL := tbl_in (List.mem_append_right _ (List.mem_append_right _ (List.mem_of_getElem? (i := 119) (by rfl)))) rfl
theorem kM_y_R_fill : Cond.instanceMethod y_R_fill ∈ TBL := tbl_in (List.mem_append_right _ (List.mem_append_right _ (List.mem_of_getElem? (i := 121) (by rfl)))) rfl
theorem kY_y_R_fill : Cond.code y_R_fill b_R_fill 6 none ∈ TBL := tbl_in (List.mem_append_right _ (List.mem_append_right _ (List.mem_of_getElem? (i := 122) (by rfl)))) rfl
theorem kL_R_94 : Cond.methodLink R_R 94 y_R_below ∈ TBL := tbl_in (List.mem_append_right _ (List.mem_append_right _ (List.mem_of_getElem? (i := 123) (by rfl)))) rfl
theorem kM_y_R_below : Cond.instanceMethod y_R_below ∈ TBL := tbl_in (List.mem_append_right _ (List.mem_append_right _ (List.mem_of_getElem? (i := 125) (by rfl)))) rfl
theorem kY_y_R_below : Cond.code y_R_below b_R_below 6 (some .boolean) ∈ TBL := tbl_in (List.mem_append_right _ (List.mem_append_right _ (List.mem_of_getElem? (i := 126) (by rfl)))) rfl
theorem kL_R_82 : Cond.methodLink R_R 82 y_R_width ∈ TBL := tbl_in (List.mem_append_right _ (List.mem_append_right _ (List.mem_of_getElem? (i := 127) (by rfl)))) rfl
theorem kM_y_R_width : Cond.instanceMethod y_R_width ∈ TBL := tbl_in (List.mem_append_right _ (List.mem_append_right _ (List.mem_of_getElem? (i := 129) (by rfl)))) rfl
theorem kY_y_R_width : Cond.code y_R_width b_R_width 2 (some .int) ∈ TBL := tbl_in (List.mem_append_right _ (List.mem_append_right _ (List.mem_of_getElem? (i := 130) (by rfl)))) rfl
theorem kL_R_90 : Cond.methodLink R_R 90 y_R_less ∈ TBL := tbl_in (List.mem_append_right _ (List.mem_append_right _ (List.mem_of_getElem? (i := 131) (by rfl)))) rfl
theorem kS_y_R_less : Cond.static y_R_less ∈ TBL := tbl_in (List.mem_append_right _ (List.mem_append_right _ (List.mem_of_getElem? (i := 132) (by rfl)))) rfl
theorem kY_y_R_less : Cond.code y_R_less b_R_less 4 (some .boolean) ∈ TBL := tbl_in (List.mem_append_right _ (List.mem_append_right _ (List.mem_of_getElem? (i := 133) (by rfl)))) rfl
theorem kL_R_119 : Cond.methodLink R_R 119 y_R_open ∈ TBL := tbl_in (List.mem_append_right _ (List.mem_append_right _ (List.mem_of_getElem? (i := 134) (by rfl)))) rfl
theorem kM_y_R_open : Cond.instanceMethod y_R_open ∈ TBL := tbl_in (List.mem_append_right _ (List.mem_append_right _ (List.mem_of_getElem? (i := 136) (by rfl)))) rfl
theorem kY_y_R_open : Cond.code y_R_open b_R_open 16 (some .boolean) ∈ TBL := tbl_in (List.mem_append_right _ (List.mem_append_right _ (List.mem_of_getElem? (i := 137) (by rfl)))) rfl
theorem kL_R_97 : Cond.methodLink R_R 97 y_R_floorRise ∈ TBL := tbl_in (List.mem_append_right _ (List.mem_append_right _ (List.mem_of_getElem? (i := 138) (by rfl)))) rfl
theorem kM_y_R_floorRise : Cond.instanceMethod y_R_floorRise ∈ TBL := tbl_in (List.mem_append_right _ (List.mem_append_right _ (List.mem_of_getElem? (i := 140) (by rfl)))) rfl
theorem kY_y_R_floorRise : Cond.code y_R_floorRise b_R_floorRise 4 (some .int) ∈ TBL := tbl_in (List.mem_append_right _ (List.mem_append_right _ (List.mem_of_getElem? (i := 141) (by rfl)))) rfl
theorem kK_R_78 : Cond.constant R_R 78 (-1000000) ∈ TBL := tbl_in (List.mem_append_right _ (List.mem_append_right _ (List.mem_of_getElem? (i := 142) (by rfl)))) rfl
theorem kL_R_79 : Cond.methodLink R_R 79 y_R_rise ∈ TBL := tbl_in (List.mem_append_right _ (List.mem_append_right _ (List.mem_of_getElem? (i := 143) (by rfl)))) rfl
theorem kM_y_R_rise : Cond.instanceMethod y_R_rise ∈ TBL := tbl_in (List.mem_append_right _ (List.mem_append_right _ (List.mem_of_getElem? (i := 145) (by rfl)))) rfl
theorem kY_y_R_rise : Cond.code y_R_rise b_R_rise 3 (some .int) ∈ TBL := tbl_in (List.mem_append_right _ (List.mem_append_right _ (List.mem_of_getElem? (i := 146) (by rfl)))) rfl
theorem kL_R_100 : Cond.methodLink R_R 100 y_R_floorWidth ∈ TBL := tbl_in (List.mem_append_right _ (List.mem_append_right _ (List.mem_of_getElem? (i := 147) (by rfl)))) rfl
theorem kM_y_R_floorWidth : Cond.instanceMethod y_R_floorWidth ∈ TBL := tbl_in (List.mem_append_right _ (List.mem_append_right _ (List.mem_of_getElem? (i := 149) (by rfl)))) rfl
theorem kY_y_R_floorWidth : Cond.code y_R_floorWidth b_R_floorWidth 3 (some .int) ∈ TBL := tbl_in (List.mem_append_right _ (List.mem_append_right _ (List.mem_of_getElem? (i := 150) (by rfl)))) rfl
theorem kL_R_103 : Cond.methodLink R_R 103 y_R_roofRise ∈ TBL := tbl_in (List.mem_append_right _ (List.mem_append_right _ (List.mem_of_getElem? (i := 151) (by rfl)))) rfl
theorem kM_y_R_roofRise : Cond.instanceMethod y_R_roofRise ∈ TBL := tbl_in (List.mem_append_right _ (List.mem_append_right _ (List.mem_of_getElem? (i := 153) (by rfl)))) rfl
theorem kY_y_R_roofRise : Cond.code y_R_roofRise b_R_roofRise 4 (some .int) ∈ TBL := tbl_in (List.mem_append_right _ (List.mem_append_right _ (List.mem_of_getElem? (i := 154) (by rfl)))) rfl
theorem kK_R_85 : Cond.constant R_R 85 (1000000) ∈ TBL := tbl_in (List.mem_append_right _ (List.mem_append_right _ (List.mem_of_getElem? (i := 155) (by rfl)))) rfl
theorem kL_R_106 : Cond.methodLink R_R 106 y_R_roofWidth ∈ TBL := tbl_in (List.mem_append_right _ (List.mem_append_right _ (List.mem_of_getElem? (i := 156) (by rfl)))) rfl
theorem kM_y_R_roofWidth : Cond.instanceMethod y_R_roofWidth ∈ TBL := tbl_in (List.mem_append_right _ (List.mem_append_right _ (List.mem_of_getElem? (i := 158) (by rfl)))) rfl
theorem kY_y_R_roofWidth : Cond.code y_R_roofWidth b_R_roofWidth 3 (some .int) ∈ TBL := tbl_in (List.mem_append_right _ (List.mem_append_right _ (List.mem_of_getElem? (i := 159) (by rfl)))) rfl
theorem kL_R_109 : Cond.methodLink R_R 109 y_R_isUpright ∈ TBL := tbl_in (List.mem_append_right _ (List.mem_append_right _ (List.mem_of_getElem? (i := 160) (by rfl)))) rfl
theorem kM_y_R_isUpright : Cond.instanceMethod y_R_isUpright ∈ TBL := tbl_in (List.mem_append_right _ (List.mem_append_right _ (List.mem_of_getElem? (i := 162) (by rfl)))) rfl
theorem kY_y_R_isUpright : Cond.code y_R_isUpright b_R_isUpright 2 (some .boolean) ∈ TBL := tbl_in (List.mem_append_right _ (List.mem_append_right _ (List.mem_of_getElem? (i := 163) (by rfl)))) rfl
theorem kL_R_122 : Cond.methodLink R_R 122 y_R_face ∈ TBL := tbl_in (List.mem_append_right _ (List.mem_append_right _ (List.mem_of_getElem? (i := 164) (by rfl)))) rfl
theorem kM_y_R_face : Cond.instanceMethod y_R_face ∈ TBL := tbl_in (List.mem_append_right _ (List.mem_append_right _ (List.mem_of_getElem? (i := 166) (by rfl)))) rfl
theorem kY_y_R_face : Cond.code y_R_face b_R_face 3 (some .int) ∈ TBL := tbl_in (List.mem_append_right _ (List.mem_append_right _ (List.mem_of_getElem? (i := 167) (by rfl)))) rfl
theorem kL_L_44 : Cond.methodLink R_L 44 y_R_find ∈ TBL := tbl_in (List.mem_append_right _ (List.mem_append_right _ (List.mem_of_getElem? (i := 168) (by rfl)))) rfl
theorem kM_y_R_find : Cond.instanceMethod y_R_find ∈ TBL := tbl_in (List.mem_append_right _ (List.mem_append_right _ (List.mem_of_getElem? (i := 169) (by rfl)))) rfl
theorem kV_y_R_find : Cond.selects R_R y_R_find y_R_find ∈ TBL := tbl_in (List.mem_append_right _ (List.mem_append_right _ (List.mem_of_getElem? (i := 170) (by rfl)))) rfl
theorem kY_y_R_find : Cond.code y_R_find b_R_find 10 (some .int) ∈ TBL := tbl_in (List.mem_append_right _ (List.mem_append_right _ (List.mem_of_getElem? (i := 171) (by rfl)))) rfl
theorem kL_R_131 : Cond.methodLink R_R 131 y_R_endings ∈ TBL := tbl_in (List.mem_append_right _ (List.mem_append_right _ (List.mem_of_getElem? (i := 172) (by rfl)))) rfl
theorem kM_y_R_endings : Cond.instanceMethod y_R_endings ∈ TBL := tbl_in (List.mem_append_right _ (List.mem_append_right _ (List.mem_of_getElem? (i := 174) (by rfl)))) rfl
theorem kY_y_R_endings : Cond.code y_R_endings b_R_endings 5 (some .int) ∈ TBL := tbl_in (List.mem_append_right _ (List.mem_append_right _ (List.mem_of_getElem? (i := 175) (by rfl)))) rfl
theorem kL_L_49 : Cond.methodLink R_L 49 y_R_same ∈ TBL := tbl_in (List.mem_append_right _ (List.mem_append_right _ (List.mem_of_getElem? (i := 176) (by rfl)))) rfl
theorem kM_y_R_same : Cond.instanceMethod y_R_same ∈ TBL := tbl_in (List.mem_append_right _ (List.mem_append_right _ (List.mem_of_getElem? (i := 177) (by rfl)))) rfl
theorem kV_y_R_same : Cond.selects R_R y_R_same y_R_same ∈ TBL := tbl_in (List.mem_append_right _ (List.mem_append_right _ (List.mem_of_getElem? (i := 178) (by rfl)))) rfl
theorem kY_y_R_same : Cond.code y_R_same b_R_same 5 (some .boolean) ∈ TBL := tbl_in (List.mem_append_right _ (List.mem_append_right _ (List.mem_of_getElem? (i := 179) (by rfl)))) rfl
theorem kL_R_134 : Cond.methodLink R_R 134 y_R_isFree ∈ TBL := tbl_in (List.mem_append_right _ (List.mem_append_right _ (List.mem_of_getElem? (i := 180) (by rfl)))) rfl
theorem kM_y_R_isFree : Cond.instanceMethod y_R_isFree ∈ TBL := tbl_in (List.mem_append_right _ (List.mem_append_right _ (List.mem_of_getElem? (i := 182) (by rfl)))) rfl
theorem kY_y_R_isFree : Cond.code y_R_isFree b_R_isFree 5 (some .boolean) ∈ TBL := tbl_in (List.mem_append_right _ (List.mem_append_right _ (List.mem_of_getElem? (i := 183) (by rfl)))) rfl
theorem kL_R_137 : Cond.methodLink R_R 137 y_R_faceAt ∈ TBL := tbl_in (List.mem_append_right _ (List.mem_append_right _ (List.mem_of_getElem? (i := 184) (by rfl)))) rfl
theorem kM_y_R_faceAt : Cond.instanceMethod y_R_faceAt ∈ TBL := tbl_in (List.mem_append_right _ (List.mem_append_right _ (List.mem_of_getElem? (i := 186) (by rfl)))) rfl
theorem kY_y_R_faceAt : Cond.code y_R_faceAt b_R_faceAt 4 (some .int) ∈ TBL := tbl_in (List.mem_append_right _ (List.mem_append_right _ (List.mem_of_getElem? (i := 187) (by rfl)))) rfl
theorem kL_R_128 : Cond.methodLink R_R 128 y_R_cellAt ∈ TBL := tbl_in (List.mem_append_right _ (List.mem_append_right _ (List.mem_of_getElem? (i := 188) (by rfl)))) rfl
theorem kM_y_R_cellAt : Cond.instanceMethod y_R_cellAt ∈ TBL := tbl_in (List.mem_append_right _ (List.mem_append_right _ (List.mem_of_getElem? (i := 190) (by rfl)))) rfl
theorem kY_y_R_cellAt : Cond.code y_R_cellAt b_R_cellAt 7 (some .int) ∈ TBL := tbl_in (List.mem_append_right _ (List.mem_append_right _ (List.mem_of_getElem? (i := 191) (by rfl)))) rfl
theorem kL_L_53 : Cond.methodLink R_L 53 y_R_area ∈ TBL := tbl_in (List.mem_append_right _ (List.mem_append_right _ (List.mem_of_getElem? (i := 192) (by rfl)))) rfl
theorem kM_y_R_area : Cond.instanceMethod y_R_area ∈ TBL := tbl_in (List.mem_append_right _ (List.mem_append_right _ (List.mem_of_getElem? (i := 193) (by rfl)))) rfl
theorem kV_y_R_area : Cond.selects R_R y_R_area y_R_area ∈ TBL := tbl_in (List.mem_append_right _ (List.mem_append_right _ (List.mem_of_getElem? (i := 194) (by rfl)))) rfl
theorem kY_y_R_area : Cond.code y_R_area b_R_area 7 (some .int) ∈ TBL := tbl_in (List.mem_append_right _ (List.mem_append_right _ (List.mem_of_getElem? (i := 195) (by rfl)))) rfl
theorem kL_R_140 : Cond.methodLink R_R 140 y_R_refusal ∈ TBL := tbl_in (List.mem_append_right _ (List.mem_append_right _ (List.mem_of_getElem? (i := 196) (by rfl)))) rfl
theorem kM_y_R_refusal : Cond.instanceMethod y_R_refusal ∈ TBL := tbl_in (List.mem_append_right _ (List.mem_append_right _ (List.mem_of_getElem? (i := 198) (by rfl)))) rfl
theorem kY_y_R_refusal : Cond.code y_R_refusal b_R_refusal 3 (some .int) ∈ TBL := tbl_in (List.mem_append_right _ (List.mem_append_right _ (List.mem_of_getElem? (i := 199) (by rfl)))) rfl
theorem kL_R_143 : Cond.methodLink R_R 143 y_R_faceBy ∈ TBL := tbl_in (List.mem_append_right _ (List.mem_append_right _ (List.mem_of_getElem? (i := 200) (by rfl)))) rfl
theorem kM_y_R_faceBy : Cond.instanceMethod y_R_faceBy ∈ TBL := tbl_in (List.mem_append_right _ (List.mem_append_right _ (List.mem_of_getElem? (i := 202) (by rfl)))) rfl
theorem kY_y_R_faceBy : Cond.code y_R_faceBy b_R_faceBy 5 (some .int) ∈ TBL := tbl_in (List.mem_append_right _ (List.mem_append_right _ (List.mem_of_getElem? (i := 203) (by rfl)))) rfl
theorem kL_L_57 : Cond.methodLink R_L 57 y_R_border ∈ TBL := tbl_in (List.mem_append_right _ (List.mem_append_right _ (List.mem_of_getElem? (i := 204) (by rfl)))) rfl
theorem kM_y_R_border : Cond.instanceMethod y_R_border ∈ TBL := tbl_in (List.mem_append_right _ (List.mem_append_right _ (List.mem_of_getElem? (i := 205) (by rfl)))) rfl
theorem kV_y_R_border : Cond.selects R_R y_R_border y_R_border ∈ TBL := tbl_in (List.mem_append_right _ (List.mem_append_right _ (List.mem_of_getElem? (i := 206) (by rfl)))) rfl
theorem kY_y_R_border : Cond.code y_R_border b_R_border 7 (some .int) ∈ TBL := tbl_in (List.mem_append_right _ (List.mem_append_right _ (List.mem_of_getElem? (i := 207) (by rfl)))) rfl
theorem kL_R_146 : Cond.methodLink R_R 146 y_R_sides ∈ TBL := tbl_in (List.mem_append_right _ (List.mem_append_right _ (List.mem_of_getElem? (i := 208) (by rfl)))) rfl
theorem kM_y_R_sides : Cond.instanceMethod y_R_sides ∈ TBL := tbl_in (List.mem_append_right _ (List.mem_append_right _ (List.mem_of_getElem? (i := 210) (by rfl)))) rfl
theorem kY_y_R_sides : Cond.code y_R_sides b_R_sides 3 (some .int) ∈ TBL := tbl_in (List.mem_append_right _ (List.mem_append_right _ (List.mem_of_getElem? (i := 211) (by rfl)))) rfl
theorem kL_L_62 : Cond.methodLink R_L 62 y_R_touches ∈ TBL := tbl_in (List.mem_append_right _ (List.mem_append_right _ (List.mem_of_getElem? (i := 212) (by rfl)))) rfl
theorem kM_y_R_touches : Cond.instanceMethod y_R_touches ∈ TBL := tbl_in (List.mem_append_right _ (List.mem_append_right _ (List.mem_of_getElem? (i := 213) (by rfl)))) rfl
theorem kV_y_R_touches : Cond.selects R_R y_R_touches y_R_touches ∈ TBL := tbl_in (List.mem_append_right _ (List.mem_append_right _ (List.mem_of_getElem? (i := 214) (by rfl)))) rfl
theorem kY_y_R_touches : Cond.code y_R_touches b_R_touches 4 (some .int) ∈ TBL := tbl_in (List.mem_append_right _ (List.mem_append_right _ (List.mem_of_getElem? (i := 215) (by rfl)))) rfl
end
section
theorem d_G_init_0 : decode b_G_init 0 = .ok (.aload_n 0, 1) := by decide +kernel
theorem d_G_init_1 : decode b_G_init 1 = .ok (.invokespecial 1, 3) := by decide +kernel
theorem d_G_init_4 : decode b_G_init 4 = .ok (.aload_n 0, 1) := by decide +kernel
theorem d_G_init_5 : decode b_G_init 5 = .ok (.iload_n 1, 1) := by decide +kernel
theorem d_G_init_6 : decode b_G_init 6 = .ok (.newarray .int, 2) := by decide +kernel
theorem d_G_init_8 : decode b_G_init 8 = .ok (.putfield 7, 3) := by decide +kernel
theorem d_G_init_11 : decode b_G_init 11 = .ok (.aload_n 0, 1) := by decide +kernel
theorem d_G_init_12 : decode b_G_init 12 = .ok (.invokevirtual 13, 3) := by decide +kernel
theorem d_G_init_15 : decode b_G_init 15 = .ok (.return_, 1) := by decide +kernel
theorem d_G_scatter_0 : decode b_G_scatter 0 = .ok (.iconst 0, 1) := by decide +kernel
theorem d_G_scatter_1 : decode b_G_scatter 1 = .ok (.istore_n 1, 1) := by decide +kernel
theorem d_G_scatter_2 : decode b_G_scatter 2 = .ok (.iload_n 1, 1) := by decide +kernel
theorem d_G_scatter_3 : decode b_G_scatter 3 = .ok (.aload_n 0, 1) := by decide +kernel
theorem d_G_scatter_4 : decode b_G_scatter 4 = .ok (.getfield 7, 3) := by decide +kernel
theorem d_G_scatter_7 : decode b_G_scatter 7 = .ok (.arraylength, 1) := by decide +kernel
theorem d_G_scatter_8 : decode b_G_scatter 8 = .ok (.if_icmp .ge 16, 3) := by decide +kernel
theorem d_G_scatter_11 : decode b_G_scatter 11 = .ok (.aload_n 0, 1) := by decide +kernel
theorem d_G_scatter_12 : decode b_G_scatter 12 = .ok (.getfield 7, 3) := by decide +kernel
theorem d_G_scatter_15 : decode b_G_scatter 15 = .ok (.iload_n 1, 1) := by decide +kernel
theorem d_G_scatter_16 : decode b_G_scatter 16 = .ok (.iload_n 1, 1) := by decide +kernel
theorem d_G_scatter_17 : decode b_G_scatter 17 = .ok (.iastore, 1) := by decide +kernel
theorem d_G_scatter_18 : decode b_G_scatter 18 = .ok (.iinc 1 1, 3) := by decide +kernel
theorem d_G_scatter_21 : decode b_G_scatter 21 = .ok (.goto (-19), 3) := by decide +kernel
theorem d_G_scatter_24 : decode b_G_scatter 24 = .ok (.return_, 1) := by decide +kernel
theorem d_G_join_0 : decode b_G_join 0 = .ok (.aload_n 0, 1) := by decide +kernel
theorem d_G_join_1 : decode b_G_join 1 = .ok (.getfield 7, 3) := by decide +kernel
theorem d_G_join_4 : decode b_G_join 4 = .ok (.iload_n 1, 1) := by decide +kernel
theorem d_G_join_5 : decode b_G_join 5 = .ok (.iaload, 1) := by decide +kernel
theorem d_G_join_6 : decode b_G_join 6 = .ok (.istore_n 3, 1) := by decide +kernel
theorem d_G_join_7 : decode b_G_join 7 = .ok (.aload_n 0, 1) := by decide +kernel
theorem d_G_join_8 : decode b_G_join 8 = .ok (.getfield 7, 3) := by decide +kernel
theorem d_G_join_11 : decode b_G_join 11 = .ok (.iload_n 2, 1) := by decide +kernel
theorem d_G_join_12 : decode b_G_join 12 = .ok (.iaload, 1) := by decide +kernel
theorem d_G_join_13 : decode b_G_join 13 = .ok (.istore 4, 2) := by decide +kernel
theorem d_G_join_15 : decode b_G_join 15 = .ok (.iload_n 3, 1) := by decide +kernel
theorem d_G_join_16 : decode b_G_join 16 = .ok (.iload 4, 2) := by decide +kernel
theorem d_G_join_18 : decode b_G_join 18 = .ok (.if_icmp .ne 4, 3) := by decide +kernel
theorem d_G_join_21 : decode b_G_join 21 = .ok (.return_, 1) := by decide +kernel
theorem d_G_join_22 : decode b_G_join 22 = .ok (.iconst 0, 1) := by decide +kernel
theorem d_G_join_23 : decode b_G_join 23 = .ok (.istore 5, 2) := by decide +kernel
theorem d_G_join_25 : decode b_G_join 25 = .ok (.iload 5, 2) := by decide +kernel
theorem d_G_join_27 : decode b_G_join 27 = .ok (.aload_n 0, 1) := by decide +kernel
theorem d_G_join_28 : decode b_G_join 28 = .ok (.getfield 7, 3) := by decide +kernel
theorem d_G_join_31 : decode b_G_join 31 = .ok (.arraylength, 1) := by decide +kernel
theorem d_G_join_32 : decode b_G_join 32 = .ok (.if_icmp .ge 29, 3) := by decide +kernel
theorem d_G_join_35 : decode b_G_join 35 = .ok (.aload_n 0, 1) := by decide +kernel
theorem d_G_join_36 : decode b_G_join 36 = .ok (.getfield 7, 3) := by decide +kernel
theorem d_G_join_39 : decode b_G_join 39 = .ok (.iload 5, 2) := by decide +kernel
theorem d_G_join_41 : decode b_G_join 41 = .ok (.iaload, 1) := by decide +kernel
theorem d_G_join_42 : decode b_G_join 42 = .ok (.iload_n 3, 1) := by decide +kernel
theorem d_G_join_43 : decode b_G_join 43 = .ok (.if_icmp .ne 12, 3) := by decide +kernel
theorem d_G_join_46 : decode b_G_join 46 = .ok (.aload_n 0, 1) := by decide +kernel
theorem d_G_join_47 : decode b_G_join 47 = .ok (.getfield 7, 3) := by decide +kernel
theorem d_G_join_50 : decode b_G_join 50 = .ok (.iload 5, 2) := by decide +kernel
theorem d_G_join_52 : decode b_G_join 52 = .ok (.iload 4, 2) := by decide +kernel
theorem d_G_join_54 : decode b_G_join 54 = .ok (.iastore, 1) := by decide +kernel
theorem d_G_join_55 : decode b_G_join 55 = .ok (.iinc 5 1, 3) := by decide +kernel
theorem d_G_join_58 : decode b_G_join 58 = .ok (.goto (-33), 3) := by decide +kernel
theorem d_G_join_61 : decode b_G_join 61 = .ok (.return_, 1) := by decide +kernel
theorem d_G_together_0 : decode b_G_together 0 = .ok (.aload_n 0, 1) := by decide +kernel
theorem d_G_together_1 : decode b_G_together 1 = .ok (.getfield 7, 3) := by decide +kernel
theorem d_G_together_4 : decode b_G_together 4 = .ok (.iload_n 1, 1) := by decide +kernel
theorem d_G_together_5 : decode b_G_together 5 = .ok (.iaload, 1) := by decide +kernel
theorem d_G_together_6 : decode b_G_together 6 = .ok (.aload_n 0, 1) := by decide +kernel
theorem d_G_together_7 : decode b_G_together 7 = .ok (.getfield 7, 3) := by decide +kernel
theorem d_G_together_10 : decode b_G_together 10 = .ok (.iload_n 2, 1) := by decide +kernel
theorem d_G_together_11 : decode b_G_together 11 = .ok (.iaload, 1) := by decide +kernel
theorem d_G_together_12 : decode b_G_together 12 = .ok (.if_icmp .ne 7, 3) := by decide +kernel
theorem d_G_together_15 : decode b_G_together 15 = .ok (.iconst 1, 1) := by decide +kernel
theorem d_G_together_16 : decode b_G_together 16 = .ok (.goto 4, 3) := by decide +kernel
theorem d_G_together_19 : decode b_G_together 19 = .ok (.iconst 0, 1) := by decide +kernel
theorem d_G_together_20 : decode b_G_together 20 = .ok (.ireturn, 1) := by decide +kernel
theorem d_G_isLeader_0 : decode b_G_isLeader 0 = .ok (.aload_n 0, 1) := by decide +kernel
theorem d_G_isLeader_1 : decode b_G_isLeader 1 = .ok (.getfield 7, 3) := by decide +kernel
theorem d_G_isLeader_4 : decode b_G_isLeader 4 = .ok (.iload_n 1, 1) := by decide +kernel
theorem d_G_isLeader_5 : decode b_G_isLeader 5 = .ok (.iaload, 1) := by decide +kernel
theorem d_G_isLeader_6 : decode b_G_isLeader 6 = .ok (.iload_n 1, 1) := by decide +kernel
theorem d_G_isLeader_7 : decode b_G_isLeader 7 = .ok (.if_icmp .ne 7, 3) := by decide +kernel
theorem d_G_isLeader_10 : decode b_G_isLeader 10 = .ok (.iconst 1, 1) := by decide +kernel
theorem d_G_isLeader_11 : decode b_G_isLeader 11 = .ok (.goto 4, 3) := by decide +kernel
theorem d_G_isLeader_14 : decode b_G_isLeader 14 = .ok (.iconst 0, 1) := by decide +kernel
theorem d_G_isLeader_15 : decode b_G_isLeader 15 = .ok (.ireturn, 1) := by decide +kernel
theorem d_M_init_0 : decode b_M_init 0 = .ok (.aload_n 0, 1) := by decide +kernel
theorem d_M_init_1 : decode b_M_init 1 = .ok (.invokespecial 3, 3) := by decide +kernel
theorem d_M_init_4 : decode b_M_init 4 = .ok (.aload_n 0, 1) := by decide +kernel
theorem d_M_init_5 : decode b_M_init 5 = .ok (.bipush 20, 2) := by decide +kernel
theorem d_M_init_7 : decode b_M_init 7 = .ok (.newarray .boolean, 2) := by decide +kernel
theorem d_M_init_9 : decode b_M_init 9 = .ok (.putfield 9, 3) := by decide +kernel
theorem d_M_init_12 : decode b_M_init 12 = .ok (.aload_n 0, 1) := by decide +kernel
theorem d_M_init_13 : decode b_M_init 13 = .ok (.bipush 40, 2) := by decide +kernel
theorem d_M_init_15 : decode b_M_init 15 = .ok (.newarray .int, 2) := by decide +kernel
theorem d_M_init_17 : decode b_M_init 17 = .ok (.putfield 15, 3) := by decide +kernel
theorem d_M_init_20 : decode b_M_init 20 = .ok (.aload_n 0, 1) := by decide +kernel
theorem d_M_init_21 : decode b_M_init 21 = .ok (.bipush 40, 2) := by decide +kernel
theorem d_M_init_23 : decode b_M_init 23 = .ok (.newarray .int, 2) := by decide +kernel
theorem d_M_init_25 : decode b_M_init 25 = .ok (.putfield 19, 3) := by decide +kernel
theorem d_M_init_28 : decode b_M_init 28 = .ok (.return_, 1) := by decide +kernel
theorem d_M_has_0 : decode b_M_has 0 = .ok (.iload_n 1, 1) := by decide +kernel
theorem d_M_has_1 : decode b_M_has 1 = .ok (.ifCond .lt 22, 3) := by decide +kernel
theorem d_M_has_4 : decode b_M_has 4 = .ok (.iload_n 1, 1) := by decide +kernel
theorem d_M_has_5 : decode b_M_has 5 = .ok (.bipush 20, 2) := by decide +kernel
theorem d_M_has_7 : decode b_M_has 7 = .ok (.if_icmp .ge 16, 3) := by decide +kernel
theorem d_M_has_10 : decode b_M_has 10 = .ok (.aload_n 0, 1) := by decide +kernel
theorem d_M_has_11 : decode b_M_has 11 = .ok (.getfield 9, 3) := by decide +kernel
theorem d_M_has_14 : decode b_M_has 14 = .ok (.iload_n 1, 1) := by decide +kernel
theorem d_M_has_15 : decode b_M_has 15 = .ok (.baload, 1) := by decide +kernel
theorem d_M_has_16 : decode b_M_has 16 = .ok (.ifCond .eq 7, 3) := by decide +kernel
theorem d_M_has_19 : decode b_M_has 19 = .ok (.iconst 1, 1) := by decide +kernel
theorem d_M_has_20 : decode b_M_has 20 = .ok (.goto 4, 3) := by decide +kernel
theorem d_M_has_23 : decode b_M_has 23 = .ok (.iconst 0, 1) := by decide +kernel
theorem d_M_has_24 : decode b_M_has 24 = .ok (.ireturn, 1) := by decide +kernel
theorem d_M_hasArrow_0 : decode b_M_hasArrow 0 = .ok (.aload_n 0, 1) := by decide +kernel
theorem d_M_hasArrow_1 : decode b_M_hasArrow 1 = .ok (.getfield 9, 3) := by decide +kernel
theorem d_M_hasArrow_4 : decode b_M_hasArrow 4 = .ok (.iload_n 1, 1) := by decide +kernel
theorem d_M_hasArrow_5 : decode b_M_hasArrow 5 = .ok (.iconst 2, 1) := by decide +kernel
theorem d_M_hasArrow_6 : decode b_M_hasArrow 6 = .ok (.idiv, 1) := by decide +kernel
theorem d_M_hasArrow_7 : decode b_M_hasArrow 7 = .ok (.baload, 1) := by decide +kernel
theorem d_M_hasArrow_8 : decode b_M_hasArrow 8 = .ok (.ireturn, 1) := by decide +kernel
theorem d_M_tailX_0 : decode b_M_tailX 0 = .ok (.aload_n 0, 1) := by decide +kernel
theorem d_M_tailX_1 : decode b_M_tailX 1 = .ok (.getfield 15, 3) := by decide +kernel
theorem d_M_tailX_4 : decode b_M_tailX 4 = .ok (.iload_n 1, 1) := by decide +kernel
theorem d_M_tailX_5 : decode b_M_tailX 5 = .ok (.iaload, 1) := by decide +kernel
theorem d_M_tailX_6 : decode b_M_tailX 6 = .ok (.ireturn, 1) := by decide +kernel
theorem d_M_tailY_0 : decode b_M_tailY 0 = .ok (.aload_n 0, 1) := by decide +kernel
theorem d_M_tailY_1 : decode b_M_tailY 1 = .ok (.getfield 19, 3) := by decide +kernel
theorem d_M_tailY_4 : decode b_M_tailY 4 = .ok (.iload_n 1, 1) := by decide +kernel
theorem d_M_tailY_5 : decode b_M_tailY 5 = .ok (.iaload, 1) := by decide +kernel
theorem d_M_tailY_6 : decode b_M_tailY 6 = .ok (.ireturn, 1) := by decide +kernel
theorem d_M_stepX_0 : decode b_M_stepX 0 = .ok (.aload_n 0, 1) := by decide +kernel
theorem d_M_stepX_1 : decode b_M_stepX 1 = .ok (.getfield 15, 3) := by decide +kernel
theorem d_M_stepX_4 : decode b_M_stepX 4 = .ok (.iload_n 1, 1) := by decide +kernel
theorem d_M_stepX_5 : decode b_M_stepX 5 = .ok (.iconst 1, 1) := by decide +kernel
theorem d_M_stepX_6 : decode b_M_stepX 6 = .ok (.ixor, 1) := by decide +kernel
theorem d_M_stepX_7 : decode b_M_stepX 7 = .ok (.iaload, 1) := by decide +kernel
theorem d_M_stepX_8 : decode b_M_stepX 8 = .ok (.aload_n 0, 1) := by decide +kernel
theorem d_M_stepX_9 : decode b_M_stepX 9 = .ok (.getfield 15, 3) := by decide +kernel
theorem d_M_stepX_12 : decode b_M_stepX 12 = .ok (.iload_n 1, 1) := by decide +kernel
theorem d_M_stepX_13 : decode b_M_stepX 13 = .ok (.iaload, 1) := by decide +kernel
theorem d_M_stepX_14 : decode b_M_stepX 14 = .ok (.isub, 1) := by decide +kernel
theorem d_M_stepX_15 : decode b_M_stepX 15 = .ok (.ireturn, 1) := by decide +kernel
theorem d_M_stepY_0 : decode b_M_stepY 0 = .ok (.aload_n 0, 1) := by decide +kernel
theorem d_M_stepY_1 : decode b_M_stepY 1 = .ok (.getfield 19, 3) := by decide +kernel
theorem d_M_stepY_4 : decode b_M_stepY 4 = .ok (.iload_n 1, 1) := by decide +kernel
theorem d_M_stepY_5 : decode b_M_stepY 5 = .ok (.iconst 1, 1) := by decide +kernel
theorem d_M_stepY_6 : decode b_M_stepY 6 = .ok (.ixor, 1) := by decide +kernel
theorem d_M_stepY_7 : decode b_M_stepY 7 = .ok (.iaload, 1) := by decide +kernel
theorem d_M_stepY_8 : decode b_M_stepY 8 = .ok (.aload_n 0, 1) := by decide +kernel
theorem d_M_stepY_9 : decode b_M_stepY 9 = .ok (.getfield 19, 3) := by decide +kernel
theorem d_M_stepY_12 : decode b_M_stepY 12 = .ok (.iload_n 1, 1) := by decide +kernel
theorem d_M_stepY_13 : decode b_M_stepY 13 = .ok (.iaload, 1) := by decide +kernel
theorem d_M_stepY_14 : decode b_M_stepY 14 = .ok (.isub, 1) := by decide +kernel
theorem d_M_stepY_15 : decode b_M_stepY 15 = .ok (.ireturn, 1) := by decide +kernel
theorem d_M_leastUnusedNumber_0 : decode b_M_leastUnusedNumber 0 = .ok (.iconst 0, 1) := by decide +kernel
theorem d_M_leastUnusedNumber_1 : decode b_M_leastUnusedNumber 1 = .ok (.istore_n 1, 1) := by decide +kernel
theorem d_M_leastUnusedNumber_2 : decode b_M_leastUnusedNumber 2 = .ok (.iload_n 1, 1) := by decide +kernel
theorem d_M_leastUnusedNumber_3 : decode b_M_leastUnusedNumber 3 = .ok (.bipush 20, 2) := by decide +kernel
theorem d_M_leastUnusedNumber_5 : decode b_M_leastUnusedNumber 5 = .ok (.if_icmp .ge 20, 3) := by decide +kernel
theorem d_M_leastUnusedNumber_8 : decode b_M_leastUnusedNumber 8 = .ok (.aload_n 0, 1) := by decide +kernel
theorem d_M_leastUnusedNumber_9 : decode b_M_leastUnusedNumber 9 = .ok (.getfield 9, 3) := by decide +kernel
theorem d_M_leastUnusedNumber_12 : decode b_M_leastUnusedNumber 12 = .ok (.iload_n 1, 1) := by decide +kernel
theorem d_M_leastUnusedNumber_13 : decode b_M_leastUnusedNumber 13 = .ok (.baload, 1) := by decide +kernel
theorem d_M_leastUnusedNumber_14 : decode b_M_leastUnusedNumber 14 = .ok (.ifCond .ne 5, 3) := by decide +kernel
theorem d_M_leastUnusedNumber_17 : decode b_M_leastUnusedNumber 17 = .ok (.iload_n 1, 1) := by decide +kernel
theorem d_M_leastUnusedNumber_18 : decode b_M_leastUnusedNumber 18 = .ok (.ireturn, 1) := by decide +kernel
theorem d_M_leastUnusedNumber_19 : decode b_M_leastUnusedNumber 19 = .ok (.iinc 1 1, 3) := by decide +kernel
theorem d_M_leastUnusedNumber_22 : decode b_M_leastUnusedNumber 22 = .ok (.goto (-20), 3) := by decide +kernel
theorem d_M_leastUnusedNumber_25 : decode b_M_leastUnusedNumber 25 = .ok (.iconst (-1), 1) := by decide +kernel
theorem d_M_leastUnusedNumber_26 : decode b_M_leastUnusedNumber 26 = .ok (.ireturn, 1) := by decide +kernel
theorem d_M_sketch_0 : decode b_M_sketch 0 = .ok (.iload_n 2, 1) := by decide +kernel
theorem d_M_sketch_1 : decode b_M_sketch 1 = .ok (.iload 4, 2) := by decide +kernel
theorem d_M_sketch_3 : decode b_M_sketch 3 = .ok (.if_icmp .lt 15, 3) := by decide +kernel
theorem d_M_sketch_6 : decode b_M_sketch 6 = .ok (.iload_n 2, 1) := by decide +kernel
theorem d_M_sketch_7 : decode b_M_sketch 7 = .ok (.iload 4, 2) := by decide +kernel
theorem d_M_sketch_9 : decode b_M_sketch 9 = .ok (.if_icmp .ne 13, 3) := by decide +kernel
theorem d_M_sketch_12 : decode b_M_sketch 12 = .ok (.iload_n 3, 1) := by decide +kernel
theorem d_M_sketch_13 : decode b_M_sketch 13 = .ok (.iload 5, 2) := by decide +kernel
theorem d_M_sketch_15 : decode b_M_sketch 15 = .ok (.if_icmp .ge 7, 3) := by decide +kernel
theorem d_M_sketch_18 : decode b_M_sketch 18 = .ok (.iconst 1, 1) := by decide +kernel
theorem d_M_sketch_19 : decode b_M_sketch 19 = .ok (.goto 4, 3) := by decide +kernel
theorem d_M_sketch_22 : decode b_M_sketch 22 = .ok (.iconst 0, 1) := by decide +kernel
theorem d_M_sketch_23 : decode b_M_sketch 23 = .ok (.istore 6, 2) := by decide +kernel
theorem d_M_sketch_25 : decode b_M_sketch 25 = .ok (.iload 6, 2) := by decide +kernel
theorem d_M_sketch_27 : decode b_M_sketch 27 = .ok (.ifCond .eq 9, 3) := by decide +kernel
theorem d_M_sketch_30 : decode b_M_sketch 30 = .ok (.iconst 2, 1) := by decide +kernel
theorem d_M_sketch_31 : decode b_M_sketch 31 = .ok (.iload_n 1, 1) := by decide +kernel
theorem d_M_sketch_32 : decode b_M_sketch 32 = .ok (.imul, 1) := by decide +kernel
theorem d_M_sketch_33 : decode b_M_sketch 33 = .ok (.goto 8, 3) := by decide +kernel
theorem d_M_sketch_36 : decode b_M_sketch 36 = .ok (.iconst 2, 1) := by decide +kernel
theorem d_M_sketch_37 : decode b_M_sketch 37 = .ok (.iload_n 1, 1) := by decide +kernel
theorem d_M_sketch_38 : decode b_M_sketch 38 = .ok (.imul, 1) := by decide +kernel
theorem d_M_sketch_39 : decode b_M_sketch 39 = .ok (.iconst 1, 1) := by decide +kernel
theorem d_M_sketch_40 : decode b_M_sketch 40 = .ok (.iadd, 1) := by decide +kernel
theorem d_M_sketch_41 : decode b_M_sketch 41 = .ok (.istore 7, 2) := by decide +kernel
theorem d_M_sketch_43 : decode b_M_sketch 43 = .ok (.aload_n 0, 1) := by decide +kernel
theorem d_M_sketch_44 : decode b_M_sketch 44 = .ok (.getfield 15, 3) := by decide +kernel
theorem d_M_sketch_47 : decode b_M_sketch 47 = .ok (.iload 7, 2) := by decide +kernel
theorem d_M_sketch_49 : decode b_M_sketch 49 = .ok (.iload_n 2, 1) := by decide +kernel
theorem d_M_sketch_50 : decode b_M_sketch 50 = .ok (.iastore, 1) := by decide +kernel
theorem d_M_sketch_51 : decode b_M_sketch 51 = .ok (.aload_n 0, 1) := by decide +kernel
theorem d_M_sketch_52 : decode b_M_sketch 52 = .ok (.getfield 19, 3) := by decide +kernel
theorem d_M_sketch_55 : decode b_M_sketch 55 = .ok (.iload 7, 2) := by decide +kernel
theorem d_M_sketch_57 : decode b_M_sketch 57 = .ok (.iload_n 3, 1) := by decide +kernel
theorem d_M_sketch_58 : decode b_M_sketch 58 = .ok (.iastore, 1) := by decide +kernel
theorem d_M_sketch_59 : decode b_M_sketch 59 = .ok (.aload_n 0, 1) := by decide +kernel
theorem d_M_sketch_60 : decode b_M_sketch 60 = .ok (.getfield 15, 3) := by decide +kernel
theorem d_M_sketch_63 : decode b_M_sketch 63 = .ok (.iload 7, 2) := by decide +kernel
theorem d_M_sketch_65 : decode b_M_sketch 65 = .ok (.iconst 1, 1) := by decide +kernel
theorem d_M_sketch_66 : decode b_M_sketch 66 = .ok (.ixor, 1) := by decide +kernel
theorem d_M_sketch_67 : decode b_M_sketch 67 = .ok (.iload 4, 2) := by decide +kernel
theorem d_M_sketch_69 : decode b_M_sketch 69 = .ok (.iastore, 1) := by decide +kernel
theorem d_M_sketch_70 : decode b_M_sketch 70 = .ok (.aload_n 0, 1) := by decide +kernel
theorem d_M_sketch_71 : decode b_M_sketch 71 = .ok (.getfield 19, 3) := by decide +kernel
theorem d_M_sketch_74 : decode b_M_sketch 74 = .ok (.iload 7, 2) := by decide +kernel
theorem d_M_sketch_76 : decode b_M_sketch 76 = .ok (.iconst 1, 1) := by decide +kernel
theorem d_M_sketch_77 : decode b_M_sketch 77 = .ok (.ixor, 1) := by decide +kernel
theorem d_M_sketch_78 : decode b_M_sketch 78 = .ok (.iload 5, 2) := by decide +kernel
theorem d_M_sketch_80 : decode b_M_sketch 80 = .ok (.iastore, 1) := by decide +kernel
theorem d_M_sketch_81 : decode b_M_sketch 81 = .ok (.return_, 1) := by decide +kernel
theorem d_M_setUsed_0 : decode b_M_setUsed 0 = .ok (.aload_n 0, 1) := by decide +kernel
theorem d_M_setUsed_1 : decode b_M_setUsed 1 = .ok (.getfield 9, 3) := by decide +kernel
theorem d_M_setUsed_4 : decode b_M_setUsed 4 = .ok (.iload_n 1, 1) := by decide +kernel
theorem d_M_setUsed_5 : decode b_M_setUsed 5 = .ok (.iload_n 2, 1) := by decide +kernel
theorem d_M_setUsed_6 : decode b_M_setUsed 6 = .ok (.bastore, 1) := by decide +kernel
theorem d_M_setUsed_7 : decode b_M_setUsed 7 = .ok (.return_, 1) := by decide +kernel
theorem d_M_leastMeeting_0 : decode b_M_leastMeeting 0 = .ok (.iconst 0, 1) := by decide +kernel
theorem d_M_leastMeeting_1 : decode b_M_leastMeeting 1 = .ok (.istore_n 2, 1) := by decide +kernel
theorem d_M_leastMeeting_2 : decode b_M_leastMeeting 2 = .ok (.iload_n 2, 1) := by decide +kernel
theorem d_M_leastMeeting_3 : decode b_M_leastMeeting 3 = .ok (.bipush 20, 2) := by decide +kernel
theorem d_M_leastMeeting_5 : decode b_M_leastMeeting 5 = .ok (.if_icmp .ge 29, 3) := by decide +kernel
theorem d_M_leastMeeting_8 : decode b_M_leastMeeting 8 = .ok (.aload_n 0, 1) := by decide +kernel
theorem d_M_leastMeeting_9 : decode b_M_leastMeeting 9 = .ok (.getfield 9, 3) := by decide +kernel
theorem d_M_leastMeeting_12 : decode b_M_leastMeeting 12 = .ok (.iload_n 2, 1) := by decide +kernel
theorem d_M_leastMeeting_13 : decode b_M_leastMeeting 13 = .ok (.baload, 1) := by decide +kernel
theorem d_M_leastMeeting_14 : decode b_M_leastMeeting 14 = .ok (.ifCond .eq 14, 3) := by decide +kernel
theorem d_M_leastMeeting_17 : decode b_M_leastMeeting 17 = .ok (.aload_n 0, 1) := by decide +kernel
theorem d_M_leastMeeting_18 : decode b_M_leastMeeting 18 = .ok (.iload_n 2, 1) := by decide +kernel
theorem d_M_leastMeeting_19 : decode b_M_leastMeeting 19 = .ok (.iload_n 1, 1) := by decide +kernel
theorem d_M_leastMeeting_20 : decode b_M_leastMeeting 20 = .ok (.invokevirtual 22, 3) := by decide +kernel
theorem d_M_leastMeeting_23 : decode b_M_leastMeeting 23 = .ok (.ifCond .eq 5, 3) := by decide +kernel
theorem d_M_leastMeeting_26 : decode b_M_leastMeeting 26 = .ok (.iload_n 2, 1) := by decide +kernel
theorem d_M_leastMeeting_27 : decode b_M_leastMeeting 27 = .ok (.ireturn, 1) := by decide +kernel
theorem d_M_leastMeeting_28 : decode b_M_leastMeeting 28 = .ok (.iinc 2 1, 3) := by decide +kernel
theorem d_M_leastMeeting_31 : decode b_M_leastMeeting 31 = .ok (.goto (-29), 3) := by decide +kernel
theorem d_M_leastMeeting_34 : decode b_M_leastMeeting 34 = .ok (.iconst (-1), 1) := by decide +kernel
theorem d_M_leastMeeting_35 : decode b_M_leastMeeting 35 = .ok (.ireturn, 1) := by decide +kernel
theorem d_M_meet_0 : decode b_M_meet 0 = .ok (.aload_n 0, 1) := by decide +kernel
theorem d_M_meet_1 : decode b_M_meet 1 = .ok (.iload_n 1, 1) := by decide +kernel
theorem d_M_meet_2 : decode b_M_meet 2 = .ok (.iload_n 2, 1) := by decide +kernel
theorem d_M_meet_3 : decode b_M_meet 3 = .ok (.invokevirtual 26, 3) := by decide +kernel
theorem d_M_meet_6 : decode b_M_meet 6 = .ok (.ifCond .ne 39, 3) := by decide +kernel
theorem d_M_meet_9 : decode b_M_meet 9 = .ok (.aload_n 0, 1) := by decide +kernel
theorem d_M_meet_10 : decode b_M_meet 10 = .ok (.iload_n 1, 1) := by decide +kernel
theorem d_M_meet_11 : decode b_M_meet 11 = .ok (.iload_n 2, 1) := by decide +kernel
theorem d_M_meet_12 : decode b_M_meet 12 = .ok (.invokevirtual 29, 3) := by decide +kernel
theorem d_M_meet_15 : decode b_M_meet 15 = .ok (.ifCond .ne 30, 3) := by decide +kernel
theorem d_M_meet_18 : decode b_M_meet 18 = .ok (.aload_n 0, 1) := by decide +kernel
theorem d_M_meet_19 : decode b_M_meet 19 = .ok (.iload_n 2, 1) := by decide +kernel
theorem d_M_meet_20 : decode b_M_meet 20 = .ok (.iload_n 1, 1) := by decide +kernel
theorem d_M_meet_21 : decode b_M_meet 21 = .ok (.invokevirtual 29, 3) := by decide +kernel
theorem d_M_meet_24 : decode b_M_meet 24 = .ok (.ifCond .ne 21, 3) := by decide +kernel
theorem d_M_meet_27 : decode b_M_meet 27 = .ok (.aload_n 0, 1) := by decide +kernel
theorem d_M_meet_28 : decode b_M_meet 28 = .ok (.iload_n 1, 1) := by decide +kernel
theorem d_M_meet_29 : decode b_M_meet 29 = .ok (.iload_n 2, 1) := by decide +kernel
theorem d_M_meet_30 : decode b_M_meet 30 = .ok (.invokevirtual 32, 3) := by decide +kernel
theorem d_M_meet_33 : decode b_M_meet 33 = .ok (.ifCond .eq 16, 3) := by decide +kernel
theorem d_M_meet_36 : decode b_M_meet 36 = .ok (.aload_n 0, 1) := by decide +kernel
theorem d_M_meet_37 : decode b_M_meet 37 = .ok (.iload_n 2, 1) := by decide +kernel
theorem d_M_meet_38 : decode b_M_meet 38 = .ok (.iload_n 1, 1) := by decide +kernel
theorem d_M_meet_39 : decode b_M_meet 39 = .ok (.invokevirtual 32, 3) := by decide +kernel
theorem d_M_meet_42 : decode b_M_meet 42 = .ok (.ifCond .eq 7, 3) := by decide +kernel
theorem d_M_meet_45 : decode b_M_meet 45 = .ok (.iconst 1, 1) := by decide +kernel
theorem d_M_meet_46 : decode b_M_meet 46 = .ok (.goto 4, 3) := by decide +kernel
theorem d_M_meet_49 : decode b_M_meet 49 = .ok (.iconst 0, 1) := by decide +kernel
theorem d_M_meet_50 : decode b_M_meet 50 = .ok (.ireturn, 1) := by decide +kernel
theorem d_M_haveSameEnds_0 : decode b_M_haveSameEnds 0 = .ok (.aload_n 0, 1) := by decide +kernel
theorem d_M_haveSameEnds_1 : decode b_M_haveSameEnds 1 = .ok (.iconst 2, 1) := by decide +kernel
theorem d_M_haveSameEnds_2 : decode b_M_haveSameEnds 2 = .ok (.iload_n 1, 1) := by decide +kernel
theorem d_M_haveSameEnds_3 : decode b_M_haveSameEnds 3 = .ok (.imul, 1) := by decide +kernel
theorem d_M_haveSameEnds_4 : decode b_M_haveSameEnds 4 = .ok (.iconst 2, 1) := by decide +kernel
theorem d_M_haveSameEnds_5 : decode b_M_haveSameEnds 5 = .ok (.iload_n 2, 1) := by decide +kernel
theorem d_M_haveSameEnds_6 : decode b_M_haveSameEnds 6 = .ok (.imul, 1) := by decide +kernel
theorem d_M_haveSameEnds_7 : decode b_M_haveSameEnds 7 = .ok (.invokevirtual 35, 3) := by decide +kernel
theorem d_M_haveSameEnds_10 : decode b_M_haveSameEnds 10 = .ok (.ifCond .eq 24, 3) := by decide +kernel
theorem d_M_haveSameEnds_13 : decode b_M_haveSameEnds 13 = .ok (.aload_n 0, 1) := by decide +kernel
theorem d_M_haveSameEnds_14 : decode b_M_haveSameEnds 14 = .ok (.iconst 2, 1) := by decide +kernel
theorem d_M_haveSameEnds_15 : decode b_M_haveSameEnds 15 = .ok (.iload_n 1, 1) := by decide +kernel
theorem d_M_haveSameEnds_16 : decode b_M_haveSameEnds 16 = .ok (.imul, 1) := by decide +kernel
theorem d_M_haveSameEnds_17 : decode b_M_haveSameEnds 17 = .ok (.iconst 1, 1) := by decide +kernel
theorem d_M_haveSameEnds_18 : decode b_M_haveSameEnds 18 = .ok (.iadd, 1) := by decide +kernel
theorem d_M_haveSameEnds_19 : decode b_M_haveSameEnds 19 = .ok (.iconst 2, 1) := by decide +kernel
theorem d_M_haveSameEnds_20 : decode b_M_haveSameEnds 20 = .ok (.iload_n 2, 1) := by decide +kernel
theorem d_M_haveSameEnds_21 : decode b_M_haveSameEnds 21 = .ok (.imul, 1) := by decide +kernel
theorem d_M_haveSameEnds_22 : decode b_M_haveSameEnds 22 = .ok (.iconst 1, 1) := by decide +kernel
theorem d_M_haveSameEnds_23 : decode b_M_haveSameEnds 23 = .ok (.iadd, 1) := by decide +kernel
theorem d_M_haveSameEnds_24 : decode b_M_haveSameEnds 24 = .ok (.invokevirtual 35, 3) := by decide +kernel
theorem d_M_haveSameEnds_27 : decode b_M_haveSameEnds 27 = .ok (.ifCond .eq 7, 3) := by decide +kernel
theorem d_M_haveSameEnds_30 : decode b_M_haveSameEnds 30 = .ok (.iconst 1, 1) := by decide +kernel
theorem d_M_haveSameEnds_31 : decode b_M_haveSameEnds 31 = .ok (.goto 4, 3) := by decide +kernel
theorem d_M_haveSameEnds_34 : decode b_M_haveSameEnds 34 = .ok (.iconst 0, 1) := by decide +kernel
theorem d_M_haveSameEnds_35 : decode b_M_haveSameEnds 35 = .ok (.ireturn, 1) := by decide +kernel
theorem d_M_holdsAnEndOf_0 : decode b_M_holdsAnEndOf 0 = .ok (.aload_n 0, 1) := by decide +kernel
theorem d_M_holdsAnEndOf_1 : decode b_M_holdsAnEndOf 1 = .ok (.iload_n 1, 1) := by decide +kernel
theorem d_M_holdsAnEndOf_2 : decode b_M_holdsAnEndOf 2 = .ok (.aload_n 0, 1) := by decide +kernel
theorem d_M_holdsAnEndOf_3 : decode b_M_holdsAnEndOf 3 = .ok (.getfield 15, 3) := by decide +kernel
theorem d_M_holdsAnEndOf_6 : decode b_M_holdsAnEndOf 6 = .ok (.iconst 2, 1) := by decide +kernel
theorem d_M_holdsAnEndOf_7 : decode b_M_holdsAnEndOf 7 = .ok (.iload_n 2, 1) := by decide +kernel
theorem d_M_holdsAnEndOf_8 : decode b_M_holdsAnEndOf 8 = .ok (.imul, 1) := by decide +kernel
theorem d_M_holdsAnEndOf_9 : decode b_M_holdsAnEndOf 9 = .ok (.iaload, 1) := by decide +kernel
theorem d_M_holdsAnEndOf_10 : decode b_M_holdsAnEndOf 10 = .ok (.aload_n 0, 1) := by decide +kernel
theorem d_M_holdsAnEndOf_11 : decode b_M_holdsAnEndOf 11 = .ok (.getfield 19, 3) := by decide +kernel
theorem d_M_holdsAnEndOf_14 : decode b_M_holdsAnEndOf 14 = .ok (.iconst 2, 1) := by decide +kernel
theorem d_M_holdsAnEndOf_15 : decode b_M_holdsAnEndOf 15 = .ok (.iload_n 2, 1) := by decide +kernel
theorem d_M_holdsAnEndOf_16 : decode b_M_holdsAnEndOf 16 = .ok (.imul, 1) := by decide +kernel
theorem d_M_holdsAnEndOf_17 : decode b_M_holdsAnEndOf 17 = .ok (.iaload, 1) := by decide +kernel
theorem d_M_holdsAnEndOf_18 : decode b_M_holdsAnEndOf 18 = .ok (.invokevirtual 38, 3) := by decide +kernel
theorem d_M_holdsAnEndOf_21 : decode b_M_holdsAnEndOf 21 = .ok (.ifCond .ne 31, 3) := by decide +kernel
theorem d_M_holdsAnEndOf_24 : decode b_M_holdsAnEndOf 24 = .ok (.aload_n 0, 1) := by decide +kernel
theorem d_M_holdsAnEndOf_25 : decode b_M_holdsAnEndOf 25 = .ok (.iload_n 1, 1) := by decide +kernel
theorem d_M_holdsAnEndOf_26 : decode b_M_holdsAnEndOf 26 = .ok (.aload_n 0, 1) := by decide +kernel
theorem d_M_holdsAnEndOf_27 : decode b_M_holdsAnEndOf 27 = .ok (.getfield 15, 3) := by decide +kernel
theorem d_M_holdsAnEndOf_30 : decode b_M_holdsAnEndOf 30 = .ok (.iconst 2, 1) := by decide +kernel
theorem d_M_holdsAnEndOf_31 : decode b_M_holdsAnEndOf 31 = .ok (.iload_n 2, 1) := by decide +kernel
theorem d_M_holdsAnEndOf_32 : decode b_M_holdsAnEndOf 32 = .ok (.imul, 1) := by decide +kernel
theorem d_M_holdsAnEndOf_33 : decode b_M_holdsAnEndOf 33 = .ok (.iconst 1, 1) := by decide +kernel
theorem d_M_holdsAnEndOf_34 : decode b_M_holdsAnEndOf 34 = .ok (.iadd, 1) := by decide +kernel
theorem d_M_holdsAnEndOf_35 : decode b_M_holdsAnEndOf 35 = .ok (.iaload, 1) := by decide +kernel
theorem d_M_holdsAnEndOf_36 : decode b_M_holdsAnEndOf 36 = .ok (.aload_n 0, 1) := by decide +kernel
theorem d_M_holdsAnEndOf_37 : decode b_M_holdsAnEndOf 37 = .ok (.getfield 19, 3) := by decide +kernel
theorem d_M_holdsAnEndOf_40 : decode b_M_holdsAnEndOf 40 = .ok (.iconst 2, 1) := by decide +kernel
theorem d_M_holdsAnEndOf_41 : decode b_M_holdsAnEndOf 41 = .ok (.iload_n 2, 1) := by decide +kernel
theorem d_M_holdsAnEndOf_42 : decode b_M_holdsAnEndOf 42 = .ok (.imul, 1) := by decide +kernel
theorem d_M_holdsAnEndOf_43 : decode b_M_holdsAnEndOf 43 = .ok (.iconst 1, 1) := by decide +kernel
theorem d_M_holdsAnEndOf_44 : decode b_M_holdsAnEndOf 44 = .ok (.iadd, 1) := by decide +kernel
theorem d_M_holdsAnEndOf_45 : decode b_M_holdsAnEndOf 45 = .ok (.iaload, 1) := by decide +kernel
theorem d_M_holdsAnEndOf_46 : decode b_M_holdsAnEndOf 46 = .ok (.invokevirtual 38, 3) := by decide +kernel
theorem d_M_holdsAnEndOf_49 : decode b_M_holdsAnEndOf 49 = .ok (.ifCond .eq 7, 3) := by decide +kernel
theorem d_M_holdsAnEndOf_52 : decode b_M_holdsAnEndOf 52 = .ok (.iconst 1, 1) := by decide +kernel
theorem d_M_holdsAnEndOf_53 : decode b_M_holdsAnEndOf 53 = .ok (.goto 4, 3) := by decide +kernel
theorem d_M_holdsAnEndOf_56 : decode b_M_holdsAnEndOf 56 = .ok (.iconst 0, 1) := by decide +kernel
theorem d_M_holdsAnEndOf_57 : decode b_M_holdsAnEndOf 57 = .ok (.ireturn, 1) := by decide +kernel
theorem d_M_partsTheEndsOf_0 : decode b_M_partsTheEndsOf 0 = .ok (.aload_n 0, 1) := by decide +kernel
theorem d_M_partsTheEndsOf_1 : decode b_M_partsTheEndsOf 1 = .ok (.iload_n 1, 1) := by decide +kernel
theorem d_M_partsTheEndsOf_2 : decode b_M_partsTheEndsOf 2 = .ok (.aload_n 0, 1) := by decide +kernel
theorem d_M_partsTheEndsOf_3 : decode b_M_partsTheEndsOf 3 = .ok (.getfield 15, 3) := by decide +kernel
theorem d_M_partsTheEndsOf_6 : decode b_M_partsTheEndsOf 6 = .ok (.iconst 2, 1) := by decide +kernel
theorem d_M_partsTheEndsOf_7 : decode b_M_partsTheEndsOf 7 = .ok (.iload_n 2, 1) := by decide +kernel
theorem d_M_partsTheEndsOf_8 : decode b_M_partsTheEndsOf 8 = .ok (.imul, 1) := by decide +kernel
theorem d_M_partsTheEndsOf_9 : decode b_M_partsTheEndsOf 9 = .ok (.iaload, 1) := by decide +kernel
theorem d_M_partsTheEndsOf_10 : decode b_M_partsTheEndsOf 10 = .ok (.aload_n 0, 1) := by decide +kernel
theorem d_M_partsTheEndsOf_11 : decode b_M_partsTheEndsOf 11 = .ok (.getfield 19, 3) := by decide +kernel
theorem d_M_partsTheEndsOf_14 : decode b_M_partsTheEndsOf 14 = .ok (.iconst 2, 1) := by decide +kernel
theorem d_M_partsTheEndsOf_15 : decode b_M_partsTheEndsOf 15 = .ok (.iload_n 2, 1) := by decide +kernel
theorem d_M_partsTheEndsOf_16 : decode b_M_partsTheEndsOf 16 = .ok (.imul, 1) := by decide +kernel
theorem d_M_partsTheEndsOf_17 : decode b_M_partsTheEndsOf 17 = .ok (.iaload, 1) := by decide +kernel
theorem d_M_partsTheEndsOf_18 : decode b_M_partsTheEndsOf 18 = .ok (.invokevirtual 42, 3) := by decide +kernel
theorem d_M_partsTheEndsOf_21 : decode b_M_partsTheEndsOf 21 = .ok (.istore_n 3, 1) := by decide +kernel
theorem d_M_partsTheEndsOf_22 : decode b_M_partsTheEndsOf 22 = .ok (.aload_n 0, 1) := by decide +kernel
theorem d_M_partsTheEndsOf_23 : decode b_M_partsTheEndsOf 23 = .ok (.iload_n 1, 1) := by decide +kernel
theorem d_M_partsTheEndsOf_24 : decode b_M_partsTheEndsOf 24 = .ok (.aload_n 0, 1) := by decide +kernel
theorem d_M_partsTheEndsOf_25 : decode b_M_partsTheEndsOf 25 = .ok (.getfield 15, 3) := by decide +kernel
theorem d_M_partsTheEndsOf_28 : decode b_M_partsTheEndsOf 28 = .ok (.iconst 2, 1) := by decide +kernel
theorem d_M_partsTheEndsOf_29 : decode b_M_partsTheEndsOf 29 = .ok (.iload_n 2, 1) := by decide +kernel
theorem d_M_partsTheEndsOf_30 : decode b_M_partsTheEndsOf 30 = .ok (.imul, 1) := by decide +kernel
theorem d_M_partsTheEndsOf_31 : decode b_M_partsTheEndsOf 31 = .ok (.iconst 1, 1) := by decide +kernel
theorem d_M_partsTheEndsOf_32 : decode b_M_partsTheEndsOf 32 = .ok (.iadd, 1) := by decide +kernel
theorem d_M_partsTheEndsOf_33 : decode b_M_partsTheEndsOf 33 = .ok (.iaload, 1) := by decide +kernel
theorem d_M_partsTheEndsOf_34 : decode b_M_partsTheEndsOf 34 = .ok (.aload_n 0, 1) := by decide +kernel
theorem d_M_partsTheEndsOf_35 : decode b_M_partsTheEndsOf 35 = .ok (.getfield 19, 3) := by decide +kernel
theorem d_M_partsTheEndsOf_38 : decode b_M_partsTheEndsOf 38 = .ok (.iconst 2, 1) := by decide +kernel
theorem d_M_partsTheEndsOf_39 : decode b_M_partsTheEndsOf 39 = .ok (.iload_n 2, 1) := by decide +kernel
theorem d_M_partsTheEndsOf_40 : decode b_M_partsTheEndsOf 40 = .ok (.imul, 1) := by decide +kernel
theorem d_M_partsTheEndsOf_41 : decode b_M_partsTheEndsOf 41 = .ok (.iconst 1, 1) := by decide +kernel
theorem d_M_partsTheEndsOf_42 : decode b_M_partsTheEndsOf 42 = .ok (.iadd, 1) := by decide +kernel
theorem d_M_partsTheEndsOf_43 : decode b_M_partsTheEndsOf 43 = .ok (.iaload, 1) := by decide +kernel
theorem d_M_partsTheEndsOf_44 : decode b_M_partsTheEndsOf 44 = .ok (.invokevirtual 42, 3) := by decide +kernel
theorem d_M_partsTheEndsOf_47 : decode b_M_partsTheEndsOf 47 = .ok (.istore 4, 2) := by decide +kernel
theorem d_M_partsTheEndsOf_49 : decode b_M_partsTheEndsOf 49 = .ok (.iload_n 3, 1) := by decide +kernel
theorem d_M_partsTheEndsOf_50 : decode b_M_partsTheEndsOf 50 = .ok (.ifCond .ge 8, 3) := by decide +kernel
theorem d_M_partsTheEndsOf_53 : decode b_M_partsTheEndsOf 53 = .ok (.iload 4, 2) := by decide +kernel
theorem d_M_partsTheEndsOf_55 : decode b_M_partsTheEndsOf 55 = .ok (.ifCond .gt 12, 3) := by decide +kernel
theorem d_M_partsTheEndsOf_58 : decode b_M_partsTheEndsOf 58 = .ok (.iload_n 3, 1) := by decide +kernel
theorem d_M_partsTheEndsOf_59 : decode b_M_partsTheEndsOf 59 = .ok (.ifCond .le 12, 3) := by decide +kernel
theorem d_M_partsTheEndsOf_62 : decode b_M_partsTheEndsOf 62 = .ok (.iload 4, 2) := by decide +kernel
theorem d_M_partsTheEndsOf_64 : decode b_M_partsTheEndsOf 64 = .ok (.ifCond .ge 7, 3) := by decide +kernel
theorem d_M_partsTheEndsOf_67 : decode b_M_partsTheEndsOf 67 = .ok (.iconst 1, 1) := by decide +kernel
theorem d_M_partsTheEndsOf_68 : decode b_M_partsTheEndsOf 68 = .ok (.goto 4, 3) := by decide +kernel
theorem d_M_partsTheEndsOf_71 : decode b_M_partsTheEndsOf 71 = .ok (.iconst 0, 1) := by decide +kernel
theorem d_M_partsTheEndsOf_72 : decode b_M_partsTheEndsOf 72 = .ok (.ireturn, 1) := by decide +kernel
theorem d_M_isInside_0 : decode b_M_isInside 0 = .ok (.iconst 2, 1) := by decide +kernel
theorem d_M_isInside_1 : decode b_M_isInside 1 = .ok (.iload_n 1, 1) := by decide +kernel
theorem d_M_isInside_2 : decode b_M_isInside 2 = .ok (.imul, 1) := by decide +kernel
theorem d_M_isInside_3 : decode b_M_isInside 3 = .ok (.istore 4, 2) := by decide +kernel
theorem d_M_isInside_5 : decode b_M_isInside 5 = .ok (.iconst 2, 1) := by decide +kernel
theorem d_M_isInside_6 : decode b_M_isInside 6 = .ok (.iload_n 1, 1) := by decide +kernel
theorem d_M_isInside_7 : decode b_M_isInside 7 = .ok (.imul, 1) := by decide +kernel
theorem d_M_isInside_8 : decode b_M_isInside 8 = .ok (.iconst 1, 1) := by decide +kernel
theorem d_M_isInside_9 : decode b_M_isInside 9 = .ok (.iadd, 1) := by decide +kernel
theorem d_M_isInside_10 : decode b_M_isInside 10 = .ok (.istore 5, 2) := by decide +kernel
theorem d_M_isInside_12 : decode b_M_isInside 12 = .ok (.aload_n 0, 1) := by decide +kernel
theorem d_M_isInside_13 : decode b_M_isInside 13 = .ok (.iload_n 1, 1) := by decide +kernel
theorem d_M_isInside_14 : decode b_M_isInside 14 = .ok (.iload_n 2, 1) := by decide +kernel
theorem d_M_isInside_15 : decode b_M_isInside 15 = .ok (.iload_n 3, 1) := by decide +kernel
theorem d_M_isInside_16 : decode b_M_isInside 16 = .ok (.invokevirtual 42, 3) := by decide +kernel
theorem d_M_isInside_19 : decode b_M_isInside 19 = .ok (.ifCond .ne 49, 3) := by decide +kernel
theorem d_M_isInside_22 : decode b_M_isInside 22 = .ok (.aload_n 0, 1) := by decide +kernel
theorem d_M_isInside_23 : decode b_M_isInside 23 = .ok (.getfield 15, 3) := by decide +kernel
theorem d_M_isInside_26 : decode b_M_isInside 26 = .ok (.iload 4, 2) := by decide +kernel
theorem d_M_isInside_28 : decode b_M_isInside 28 = .ok (.iaload, 1) := by decide +kernel
theorem d_M_isInside_29 : decode b_M_isInside 29 = .ok (.iload_n 2, 1) := by decide +kernel
theorem d_M_isInside_30 : decode b_M_isInside 30 = .ok (.isub, 1) := by decide +kernel
theorem d_M_isInside_31 : decode b_M_isInside 31 = .ok (.aload_n 0, 1) := by decide +kernel
theorem d_M_isInside_32 : decode b_M_isInside 32 = .ok (.getfield 15, 3) := by decide +kernel
theorem d_M_isInside_35 : decode b_M_isInside 35 = .ok (.iload 5, 2) := by decide +kernel
theorem d_M_isInside_37 : decode b_M_isInside 37 = .ok (.iaload, 1) := by decide +kernel
theorem d_M_isInside_38 : decode b_M_isInside 38 = .ok (.iload_n 2, 1) := by decide +kernel
theorem d_M_isInside_39 : decode b_M_isInside 39 = .ok (.isub, 1) := by decide +kernel
theorem d_M_isInside_40 : decode b_M_isInside 40 = .ok (.imul, 1) := by decide +kernel
theorem d_M_isInside_41 : decode b_M_isInside 41 = .ok (.aload_n 0, 1) := by decide +kernel
theorem d_M_isInside_42 : decode b_M_isInside 42 = .ok (.getfield 19, 3) := by decide +kernel
theorem d_M_isInside_45 : decode b_M_isInside 45 = .ok (.iload 4, 2) := by decide +kernel
theorem d_M_isInside_47 : decode b_M_isInside 47 = .ok (.iaload, 1) := by decide +kernel
theorem d_M_isInside_48 : decode b_M_isInside 48 = .ok (.iload_n 3, 1) := by decide +kernel
theorem d_M_isInside_49 : decode b_M_isInside 49 = .ok (.isub, 1) := by decide +kernel
theorem d_M_isInside_50 : decode b_M_isInside 50 = .ok (.aload_n 0, 1) := by decide +kernel
theorem d_M_isInside_51 : decode b_M_isInside 51 = .ok (.getfield 19, 3) := by decide +kernel
theorem d_M_isInside_54 : decode b_M_isInside 54 = .ok (.iload 5, 2) := by decide +kernel
theorem d_M_isInside_56 : decode b_M_isInside 56 = .ok (.iaload, 1) := by decide +kernel
theorem d_M_isInside_57 : decode b_M_isInside 57 = .ok (.iload_n 3, 1) := by decide +kernel
theorem d_M_isInside_58 : decode b_M_isInside 58 = .ok (.isub, 1) := by decide +kernel
theorem d_M_isInside_59 : decode b_M_isInside 59 = .ok (.imul, 1) := by decide +kernel
theorem d_M_isInside_60 : decode b_M_isInside 60 = .ok (.iadd, 1) := by decide +kernel
theorem d_M_isInside_61 : decode b_M_isInside 61 = .ok (.ifCond .ge 7, 3) := by decide +kernel
theorem d_M_isInside_64 : decode b_M_isInside 64 = .ok (.iconst 1, 1) := by decide +kernel
theorem d_M_isInside_65 : decode b_M_isInside 65 = .ok (.goto 4, 3) := by decide +kernel
theorem d_M_isInside_68 : decode b_M_isInside 68 = .ok (.iconst 0, 1) := by decide +kernel
theorem d_M_isInside_69 : decode b_M_isInside 69 = .ok (.ireturn, 1) := by decide +kernel
theorem d_M_leftness_0 : decode b_M_leftness 0 = .ok (.iconst 2, 1) := by decide +kernel
theorem d_M_leftness_1 : decode b_M_leftness 1 = .ok (.iload_n 1, 1) := by decide +kernel
theorem d_M_leftness_2 : decode b_M_leftness 2 = .ok (.imul, 1) := by decide +kernel
theorem d_M_leftness_3 : decode b_M_leftness 3 = .ok (.istore 4, 2) := by decide +kernel
theorem d_M_leftness_5 : decode b_M_leftness 5 = .ok (.aload_n 0, 1) := by decide +kernel
theorem d_M_leftness_6 : decode b_M_leftness 6 = .ok (.iload 4, 2) := by decide +kernel
theorem d_M_leftness_8 : decode b_M_leftness 8 = .ok (.invokevirtual 46, 3) := by decide +kernel
theorem d_M_leftness_11 : decode b_M_leftness 11 = .ok (.aload_n 0, 1) := by decide +kernel
theorem d_M_leftness_12 : decode b_M_leftness 12 = .ok (.iload 4, 2) := by decide +kernel
theorem d_M_leftness_14 : decode b_M_leftness 14 = .ok (.invokevirtual 50, 3) := by decide +kernel
theorem d_M_leftness_17 : decode b_M_leftness 17 = .ok (.iload_n 2, 1) := by decide +kernel
theorem d_M_leftness_18 : decode b_M_leftness 18 = .ok (.aload_n 0, 1) := by decide +kernel
theorem d_M_leftness_19 : decode b_M_leftness 19 = .ok (.getfield 15, 3) := by decide +kernel
theorem d_M_leftness_22 : decode b_M_leftness 22 = .ok (.iload 4, 2) := by decide +kernel
theorem d_M_leftness_24 : decode b_M_leftness 24 = .ok (.iaload, 1) := by decide +kernel
theorem d_M_leftness_25 : decode b_M_leftness 25 = .ok (.isub, 1) := by decide +kernel
theorem d_M_leftness_26 : decode b_M_leftness 26 = .ok (.iload_n 3, 1) := by decide +kernel
theorem d_M_leftness_27 : decode b_M_leftness 27 = .ok (.aload_n 0, 1) := by decide +kernel
theorem d_M_leftness_28 : decode b_M_leftness 28 = .ok (.getfield 19, 3) := by decide +kernel
theorem d_M_leftness_31 : decode b_M_leftness 31 = .ok (.iload 4, 2) := by decide +kernel
theorem d_M_leftness_33 : decode b_M_leftness 33 = .ok (.iaload, 1) := by decide +kernel
theorem d_M_leftness_34 : decode b_M_leftness 34 = .ok (.isub, 1) := by decide +kernel
theorem d_M_leftness_35 : decode b_M_leftness 35 = .ok (.invokestatic 53, 3) := by decide +kernel
theorem d_M_leftness_38 : decode b_M_leftness 38 = .ok (.ireturn, 1) := by decide +kernel
theorem d_M_sameTail_0 : decode b_M_sameTail 0 = .ok (.aload_n 0, 1) := by decide +kernel
theorem d_M_sameTail_1 : decode b_M_sameTail 1 = .ok (.getfield 15, 3) := by decide +kernel
theorem d_M_sameTail_4 : decode b_M_sameTail 4 = .ok (.iload_n 1, 1) := by decide +kernel
theorem d_M_sameTail_5 : decode b_M_sameTail 5 = .ok (.iaload, 1) := by decide +kernel
theorem d_M_sameTail_6 : decode b_M_sameTail 6 = .ok (.aload_n 0, 1) := by decide +kernel
theorem d_M_sameTail_7 : decode b_M_sameTail 7 = .ok (.getfield 15, 3) := by decide +kernel
theorem d_M_sameTail_10 : decode b_M_sameTail 10 = .ok (.iload_n 2, 1) := by decide +kernel
theorem d_M_sameTail_11 : decode b_M_sameTail 11 = .ok (.iaload, 1) := by decide +kernel
theorem d_M_sameTail_12 : decode b_M_sameTail 12 = .ok (.if_icmp .ne 22, 3) := by decide +kernel
theorem d_M_sameTail_15 : decode b_M_sameTail 15 = .ok (.aload_n 0, 1) := by decide +kernel
theorem d_M_sameTail_16 : decode b_M_sameTail 16 = .ok (.getfield 19, 3) := by decide +kernel
theorem d_M_sameTail_19 : decode b_M_sameTail 19 = .ok (.iload_n 1, 1) := by decide +kernel
theorem d_M_sameTail_20 : decode b_M_sameTail 20 = .ok (.iaload, 1) := by decide +kernel
theorem d_M_sameTail_21 : decode b_M_sameTail 21 = .ok (.aload_n 0, 1) := by decide +kernel
theorem d_M_sameTail_22 : decode b_M_sameTail 22 = .ok (.getfield 19, 3) := by decide +kernel
theorem d_M_sameTail_25 : decode b_M_sameTail 25 = .ok (.iload_n 2, 1) := by decide +kernel
theorem d_M_sameTail_26 : decode b_M_sameTail 26 = .ok (.iaload, 1) := by decide +kernel
theorem d_M_sameTail_27 : decode b_M_sameTail 27 = .ok (.if_icmp .ne 7, 3) := by decide +kernel
theorem d_M_sameTail_30 : decode b_M_sameTail 30 = .ok (.iconst 1, 1) := by decide +kernel
theorem d_M_sameTail_31 : decode b_M_sameTail 31 = .ok (.goto 4, 3) := by decide +kernel
theorem d_M_sameTail_34 : decode b_M_sameTail 34 = .ok (.iconst 0, 1) := by decide +kernel
theorem d_M_sameTail_35 : decode b_M_sameTail 35 = .ok (.ireturn, 1) := by decide +kernel
theorem d_M_isFirstOfItsVertex_0 : decode b_M_isFirstOfItsVertex 0 = .ok (.iconst 0, 1) := by decide +kernel
theorem d_M_isFirstOfItsVertex_1 : decode b_M_isFirstOfItsVertex 1 = .ok (.istore_n 2, 1) := by decide +kernel
theorem d_M_isFirstOfItsVertex_2 : decode b_M_isFirstOfItsVertex 2 = .ok (.iload_n 2, 1) := by decide +kernel
theorem d_M_isFirstOfItsVertex_3 : decode b_M_isFirstOfItsVertex 3 = .ok (.iload_n 1, 1) := by decide +kernel
theorem d_M_isFirstOfItsVertex_4 : decode b_M_isFirstOfItsVertex 4 = .ok (.if_icmp .ge 31, 3) := by decide +kernel
theorem d_M_isFirstOfItsVertex_7 : decode b_M_isFirstOfItsVertex 7 = .ok (.aload_n 0, 1) := by decide +kernel
theorem d_M_isFirstOfItsVertex_8 : decode b_M_isFirstOfItsVertex 8 = .ok (.getfield 9, 3) := by decide +kernel
theorem d_M_isFirstOfItsVertex_11 : decode b_M_isFirstOfItsVertex 11 = .ok (.iload_n 2, 1) := by decide +kernel
theorem d_M_isFirstOfItsVertex_12 : decode b_M_isFirstOfItsVertex 12 = .ok (.iconst 2, 1) := by decide +kernel
theorem d_M_isFirstOfItsVertex_13 : decode b_M_isFirstOfItsVertex 13 = .ok (.idiv, 1) := by decide +kernel
theorem d_M_isFirstOfItsVertex_14 : decode b_M_isFirstOfItsVertex 14 = .ok (.baload, 1) := by decide +kernel
theorem d_M_isFirstOfItsVertex_15 : decode b_M_isFirstOfItsVertex 15 = .ok (.ifCond .eq 14, 3) := by decide +kernel
theorem d_M_isFirstOfItsVertex_18 : decode b_M_isFirstOfItsVertex 18 = .ok (.aload_n 0, 1) := by decide +kernel
theorem d_M_isFirstOfItsVertex_19 : decode b_M_isFirstOfItsVertex 19 = .ok (.iload_n 1, 1) := by decide +kernel
theorem d_M_isFirstOfItsVertex_20 : decode b_M_isFirstOfItsVertex 20 = .ok (.iload_n 2, 1) := by decide +kernel
theorem d_M_isFirstOfItsVertex_21 : decode b_M_isFirstOfItsVertex 21 = .ok (.invokevirtual 35, 3) := by decide +kernel
theorem d_M_isFirstOfItsVertex_24 : decode b_M_isFirstOfItsVertex 24 = .ok (.ifCond .eq 5, 3) := by decide +kernel
theorem d_M_isFirstOfItsVertex_27 : decode b_M_isFirstOfItsVertex 27 = .ok (.iconst 0, 1) := by decide +kernel
theorem d_M_isFirstOfItsVertex_28 : decode b_M_isFirstOfItsVertex 28 = .ok (.ireturn, 1) := by decide +kernel
theorem d_M_isFirstOfItsVertex_29 : decode b_M_isFirstOfItsVertex 29 = .ok (.iinc 2 1, 3) := by decide +kernel
theorem d_M_isFirstOfItsVertex_32 : decode b_M_isFirstOfItsVertex 32 = .ok (.goto (-30), 3) := by decide +kernel
theorem d_M_isFirstOfItsVertex_35 : decode b_M_isFirstOfItsVertex 35 = .ok (.iconst 1, 1) := by decide +kernel
theorem d_M_isFirstOfItsVertex_36 : decode b_M_isFirstOfItsVertex 36 = .ok (.ireturn, 1) := by decide +kernel
theorem d_M_startsAtPeak_0 : decode b_M_startsAtPeak 0 = .ok (.iconst 0, 1) := by decide +kernel
theorem d_M_startsAtPeak_1 : decode b_M_startsAtPeak 1 = .ok (.istore_n 2, 1) := by decide +kernel
theorem d_M_startsAtPeak_2 : decode b_M_startsAtPeak 2 = .ok (.iload_n 2, 1) := by decide +kernel
theorem d_M_startsAtPeak_3 : decode b_M_startsAtPeak 3 = .ok (.bipush 40, 2) := by decide +kernel
theorem d_M_startsAtPeak_5 : decode b_M_startsAtPeak 5 = .ok (.if_icmp .ge 39, 3) := by decide +kernel
theorem d_M_startsAtPeak_8 : decode b_M_startsAtPeak 8 = .ok (.aload_n 0, 1) := by decide +kernel
theorem d_M_startsAtPeak_9 : decode b_M_startsAtPeak 9 = .ok (.getfield 9, 3) := by decide +kernel
theorem d_M_startsAtPeak_12 : decode b_M_startsAtPeak 12 = .ok (.iload_n 2, 1) := by decide +kernel
theorem d_M_startsAtPeak_13 : decode b_M_startsAtPeak 13 = .ok (.iconst 2, 1) := by decide +kernel
theorem d_M_startsAtPeak_14 : decode b_M_startsAtPeak 14 = .ok (.idiv, 1) := by decide +kernel
theorem d_M_startsAtPeak_15 : decode b_M_startsAtPeak 15 = .ok (.baload, 1) := by decide +kernel
theorem d_M_startsAtPeak_16 : decode b_M_startsAtPeak 16 = .ok (.ifCond .eq 22, 3) := by decide +kernel
theorem d_M_startsAtPeak_19 : decode b_M_startsAtPeak 19 = .ok (.aload_n 0, 1) := by decide +kernel
theorem d_M_startsAtPeak_20 : decode b_M_startsAtPeak 20 = .ok (.iload_n 1, 1) := by decide +kernel
theorem d_M_startsAtPeak_21 : decode b_M_startsAtPeak 21 = .ok (.iload_n 2, 1) := by decide +kernel
theorem d_M_startsAtPeak_22 : decode b_M_startsAtPeak 22 = .ok (.invokevirtual 35, 3) := by decide +kernel
theorem d_M_startsAtPeak_25 : decode b_M_startsAtPeak 25 = .ok (.ifCond .eq 13, 3) := by decide +kernel
theorem d_M_startsAtPeak_28 : decode b_M_startsAtPeak 28 = .ok (.aload_n 0, 1) := by decide +kernel
theorem d_M_startsAtPeak_29 : decode b_M_startsAtPeak 29 = .ok (.iload_n 2, 1) := by decide +kernel
theorem d_M_startsAtPeak_30 : decode b_M_startsAtPeak 30 = .ok (.invokevirtual 50, 3) := by decide +kernel
theorem d_M_startsAtPeak_33 : decode b_M_startsAtPeak 33 = .ok (.ifCond .le 5, 3) := by decide +kernel
theorem d_M_startsAtPeak_36 : decode b_M_startsAtPeak 36 = .ok (.iconst 0, 1) := by decide +kernel
theorem d_M_startsAtPeak_37 : decode b_M_startsAtPeak 37 = .ok (.ireturn, 1) := by decide +kernel
theorem d_M_startsAtPeak_38 : decode b_M_startsAtPeak 38 = .ok (.iinc 2 1, 3) := by decide +kernel
theorem d_M_startsAtPeak_41 : decode b_M_startsAtPeak 41 = .ok (.goto (-39), 3) := by decide +kernel
theorem d_M_startsAtPeak_44 : decode b_M_startsAtPeak 44 = .ok (.iconst 1, 1) := by decide +kernel
theorem d_M_startsAtPeak_45 : decode b_M_startsAtPeak 45 = .ok (.ireturn, 1) := by decide +kernel
theorem d_M_endsAt_0 : decode b_M_endsAt 0 = .ok (.iconst 0, 1) := by decide +kernel
theorem d_M_endsAt_1 : decode b_M_endsAt 1 = .ok (.istore_n 3, 1) := by decide +kernel
theorem d_M_endsAt_2 : decode b_M_endsAt 2 = .ok (.iconst 0, 1) := by decide +kernel
theorem d_M_endsAt_3 : decode b_M_endsAt 3 = .ok (.istore 4, 2) := by decide +kernel
theorem d_M_endsAt_5 : decode b_M_endsAt 5 = .ok (.iload 4, 2) := by decide +kernel
theorem d_M_endsAt_7 : decode b_M_endsAt 7 = .ok (.bipush 40, 2) := by decide +kernel
theorem d_M_endsAt_9 : decode b_M_endsAt 9 = .ok (.if_icmp .ge 46, 3) := by decide +kernel
theorem d_M_endsAt_12 : decode b_M_endsAt 12 = .ok (.aload_n 0, 1) := by decide +kernel
theorem d_M_endsAt_13 : decode b_M_endsAt 13 = .ok (.getfield 9, 3) := by decide +kernel
theorem d_M_endsAt_16 : decode b_M_endsAt 16 = .ok (.iload 4, 2) := by decide +kernel
theorem d_M_endsAt_18 : decode b_M_endsAt 18 = .ok (.iconst 2, 1) := by decide +kernel
theorem d_M_endsAt_19 : decode b_M_endsAt 19 = .ok (.idiv, 1) := by decide +kernel
theorem d_M_endsAt_20 : decode b_M_endsAt 20 = .ok (.baload, 1) := by decide +kernel
theorem d_M_endsAt_21 : decode b_M_endsAt 21 = .ok (.ifCond .eq 28, 3) := by decide +kernel
theorem d_M_endsAt_24 : decode b_M_endsAt 24 = .ok (.aload_n 0, 1) := by decide +kernel
theorem d_M_endsAt_25 : decode b_M_endsAt 25 = .ok (.getfield 15, 3) := by decide +kernel
theorem d_M_endsAt_28 : decode b_M_endsAt 28 = .ok (.iload 4, 2) := by decide +kernel
theorem d_M_endsAt_30 : decode b_M_endsAt 30 = .ok (.iaload, 1) := by decide +kernel
theorem d_M_endsAt_31 : decode b_M_endsAt 31 = .ok (.iload_n 1, 1) := by decide +kernel
theorem d_M_endsAt_32 : decode b_M_endsAt 32 = .ok (.if_icmp .ne 17, 3) := by decide +kernel
theorem d_M_endsAt_35 : decode b_M_endsAt 35 = .ok (.aload_n 0, 1) := by decide +kernel
theorem d_M_endsAt_36 : decode b_M_endsAt 36 = .ok (.getfield 19, 3) := by decide +kernel
theorem d_M_endsAt_39 : decode b_M_endsAt 39 = .ok (.iload 4, 2) := by decide +kernel
theorem d_M_endsAt_41 : decode b_M_endsAt 41 = .ok (.iaload, 1) := by decide +kernel
theorem d_M_endsAt_42 : decode b_M_endsAt 42 = .ok (.iload_n 2, 1) := by decide +kernel
theorem d_M_endsAt_43 : decode b_M_endsAt 43 = .ok (.if_icmp .ne 6, 3) := by decide +kernel
theorem d_M_endsAt_46 : decode b_M_endsAt 46 = .ok (.iinc 3 1, 3) := by decide +kernel
theorem d_M_endsAt_49 : decode b_M_endsAt 49 = .ok (.iinc 4 1, 3) := by decide +kernel
theorem d_M_endsAt_52 : decode b_M_endsAt 52 = .ok (.goto (-47), 3) := by decide +kernel
theorem d_M_endsAt_55 : decode b_M_endsAt 55 = .ok (.iload_n 3, 1) := by decide +kernel
theorem d_M_endsAt_56 : decode b_M_endsAt 56 = .ok (.ireturn, 1) := by decide +kernel
theorem d_M_segmentAround_0 : decode b_M_segmentAround 0 = .ok (.iconst 0, 1) := by decide +kernel
theorem d_M_segmentAround_1 : decode b_M_segmentAround 1 = .ok (.istore_n 3, 1) := by decide +kernel
theorem d_M_segmentAround_2 : decode b_M_segmentAround 2 = .ok (.iload_n 3, 1) := by decide +kernel
theorem d_M_segmentAround_3 : decode b_M_segmentAround 3 = .ok (.bipush 20, 2) := by decide +kernel
theorem d_M_segmentAround_5 : decode b_M_segmentAround 5 = .ok (.if_icmp .ge 30, 3) := by decide +kernel
theorem d_M_segmentAround_8 : decode b_M_segmentAround 8 = .ok (.aload_n 0, 1) := by decide +kernel
theorem d_M_segmentAround_9 : decode b_M_segmentAround 9 = .ok (.getfield 9, 3) := by decide +kernel
theorem d_M_segmentAround_12 : decode b_M_segmentAround 12 = .ok (.iload_n 3, 1) := by decide +kernel
theorem d_M_segmentAround_13 : decode b_M_segmentAround 13 = .ok (.baload, 1) := by decide +kernel
theorem d_M_segmentAround_14 : decode b_M_segmentAround 14 = .ok (.ifCond .eq 15, 3) := by decide +kernel
theorem d_M_segmentAround_17 : decode b_M_segmentAround 17 = .ok (.aload_n 0, 1) := by decide +kernel
theorem d_M_segmentAround_18 : decode b_M_segmentAround 18 = .ok (.iload_n 3, 1) := by decide +kernel
theorem d_M_segmentAround_19 : decode b_M_segmentAround 19 = .ok (.iload_n 1, 1) := by decide +kernel
theorem d_M_segmentAround_20 : decode b_M_segmentAround 20 = .ok (.iload_n 2, 1) := by decide +kernel
theorem d_M_segmentAround_21 : decode b_M_segmentAround 21 = .ok (.invokevirtual 38, 3) := by decide +kernel
theorem d_M_segmentAround_24 : decode b_M_segmentAround 24 = .ok (.ifCond .eq 5, 3) := by decide +kernel
theorem d_M_segmentAround_27 : decode b_M_segmentAround 27 = .ok (.iload_n 3, 1) := by decide +kernel
theorem d_M_segmentAround_28 : decode b_M_segmentAround 28 = .ok (.ireturn, 1) := by decide +kernel
theorem d_M_segmentAround_29 : decode b_M_segmentAround 29 = .ok (.iinc 3 1, 3) := by decide +kernel
theorem d_M_segmentAround_32 : decode b_M_segmentAround 32 = .ok (.goto (-30), 3) := by decide +kernel
theorem d_M_segmentAround_35 : decode b_M_segmentAround 35 = .ok (.iconst (-1), 1) := by decide +kernel
theorem d_M_segmentAround_36 : decode b_M_segmentAround 36 = .ok (.ireturn, 1) := by decide +kernel
theorem d_M_struckAbove_0 : decode b_M_struckAbove 0 = .ok (.iconst (-1), 1) := by decide +kernel
theorem d_M_struckAbove_1 : decode b_M_struckAbove 1 = .ok (.istore_n 3, 1) := by decide +kernel
theorem d_M_struckAbove_2 : decode b_M_struckAbove 2 = .ok (.iconst 0, 1) := by decide +kernel
theorem d_M_struckAbove_3 : decode b_M_struckAbove 3 = .ok (.istore 4, 2) := by decide +kernel
theorem d_M_struckAbove_5 : decode b_M_struckAbove 5 = .ok (.iconst 1, 1) := by decide +kernel
theorem d_M_struckAbove_6 : decode b_M_struckAbove 6 = .ok (.istore 5, 2) := by decide +kernel
theorem d_M_struckAbove_8 : decode b_M_struckAbove 8 = .ok (.iconst 0, 1) := by decide +kernel
theorem d_M_struckAbove_9 : decode b_M_struckAbove 9 = .ok (.istore 6, 2) := by decide +kernel
theorem d_M_struckAbove_11 : decode b_M_struckAbove 11 = .ok (.iload 6, 2) := by decide +kernel
theorem d_M_struckAbove_13 : decode b_M_struckAbove 13 = .ok (.bipush 20, 2) := by decide +kernel
theorem d_M_struckAbove_15 : decode b_M_struckAbove 15 = .ok (.if_icmp .ge 129, 3) := by decide +kernel
theorem d_M_struckAbove_18 : decode b_M_struckAbove 18 = .ok (.iconst 2, 1) := by decide +kernel
theorem d_M_struckAbove_19 : decode b_M_struckAbove 19 = .ok (.iload 6, 2) := by decide +kernel
theorem d_M_struckAbove_21 : decode b_M_struckAbove 21 = .ok (.imul, 1) := by decide +kernel
theorem d_M_struckAbove_22 : decode b_M_struckAbove 22 = .ok (.istore 7, 2) := by decide +kernel
theorem d_M_struckAbove_24 : decode b_M_struckAbove 24 = .ok (.aload_n 0, 1) := by decide +kernel
theorem d_M_struckAbove_25 : decode b_M_struckAbove 25 = .ok (.getfield 9, 3) := by decide +kernel
theorem d_M_struckAbove_28 : decode b_M_struckAbove 28 = .ok (.iload 6, 2) := by decide +kernel
theorem d_M_struckAbove_30 : decode b_M_struckAbove 30 = .ok (.baload, 1) := by decide +kernel
theorem d_M_struckAbove_31 : decode b_M_struckAbove 31 = .ok (.ifCond .eq 107, 3) := by decide +kernel
theorem d_M_struckAbove_34 : decode b_M_struckAbove 34 = .ok (.iload_n 1, 1) := by decide +kernel
theorem d_M_struckAbove_35 : decode b_M_struckAbove 35 = .ok (.aload_n 0, 1) := by decide +kernel
theorem d_M_struckAbove_36 : decode b_M_struckAbove 36 = .ok (.getfield 15, 3) := by decide +kernel
theorem d_M_struckAbove_39 : decode b_M_struckAbove 39 = .ok (.iload 7, 2) := by decide +kernel
theorem d_M_struckAbove_41 : decode b_M_struckAbove 41 = .ok (.iaload, 1) := by decide +kernel
theorem d_M_struckAbove_42 : decode b_M_struckAbove 42 = .ok (.if_icmp .lt 96, 3) := by decide +kernel
theorem d_M_struckAbove_45 : decode b_M_struckAbove 45 = .ok (.iload_n 1, 1) := by decide +kernel
theorem d_M_struckAbove_46 : decode b_M_struckAbove 46 = .ok (.aload_n 0, 1) := by decide +kernel
theorem d_M_struckAbove_47 : decode b_M_struckAbove 47 = .ok (.getfield 15, 3) := by decide +kernel
theorem d_M_struckAbove_50 : decode b_M_struckAbove 50 = .ok (.iload 7, 2) := by decide +kernel
theorem d_M_struckAbove_52 : decode b_M_struckAbove 52 = .ok (.iconst 1, 1) := by decide +kernel
theorem d_M_struckAbove_53 : decode b_M_struckAbove 53 = .ok (.iadd, 1) := by decide +kernel
theorem d_M_struckAbove_54 : decode b_M_struckAbove 54 = .ok (.iaload, 1) := by decide +kernel
theorem d_M_struckAbove_55 : decode b_M_struckAbove 55 = .ok (.if_icmp .le 6, 3) := by decide +kernel
theorem d_M_struckAbove_58 : decode b_M_struckAbove 58 = .ok (.goto 80, 3) := by decide +kernel
theorem d_M_struckAbove_61 : decode b_M_struckAbove 61 = .ok (.iconst 1, 1) := by decide +kernel
theorem d_M_struckAbove_62 : decode b_M_struckAbove 62 = .ok (.aload_n 0, 1) := by decide +kernel
theorem d_M_struckAbove_63 : decode b_M_struckAbove 63 = .ok (.iload 7, 2) := by decide +kernel
theorem d_M_struckAbove_65 : decode b_M_struckAbove 65 = .ok (.invokevirtual 46, 3) := by decide +kernel
theorem d_M_struckAbove_68 : decode b_M_struckAbove 68 = .ok (.invokestatic 57, 3) := by decide +kernel
theorem d_M_struckAbove_71 : decode b_M_struckAbove 71 = .ok (.istore 8, 2) := by decide +kernel
theorem d_M_struckAbove_73 : decode b_M_struckAbove 73 = .ok (.aload_n 0, 1) := by decide +kernel
theorem d_M_struckAbove_74 : decode b_M_struckAbove 74 = .ok (.getfield 19, 3) := by decide +kernel
theorem d_M_struckAbove_77 : decode b_M_struckAbove 77 = .ok (.iload 7, 2) := by decide +kernel
theorem d_M_struckAbove_79 : decode b_M_struckAbove 79 = .ok (.iaload, 1) := by decide +kernel
theorem d_M_struckAbove_80 : decode b_M_struckAbove 80 = .ok (.iload_n 2, 1) := by decide +kernel
theorem d_M_struckAbove_81 : decode b_M_struckAbove 81 = .ok (.isub, 1) := by decide +kernel
theorem d_M_struckAbove_82 : decode b_M_struckAbove 82 = .ok (.iload 8, 2) := by decide +kernel
theorem d_M_struckAbove_84 : decode b_M_struckAbove 84 = .ok (.imul, 1) := by decide +kernel
theorem d_M_struckAbove_85 : decode b_M_struckAbove 85 = .ok (.aload_n 0, 1) := by decide +kernel
theorem d_M_struckAbove_86 : decode b_M_struckAbove 86 = .ok (.iload 7, 2) := by decide +kernel
theorem d_M_struckAbove_88 : decode b_M_struckAbove 88 = .ok (.invokevirtual 50, 3) := by decide +kernel
theorem d_M_struckAbove_91 : decode b_M_struckAbove 91 = .ok (.iload_n 1, 1) := by decide +kernel
theorem d_M_struckAbove_92 : decode b_M_struckAbove 92 = .ok (.aload_n 0, 1) := by decide +kernel
theorem d_M_struckAbove_93 : decode b_M_struckAbove 93 = .ok (.getfield 15, 3) := by decide +kernel
theorem d_M_struckAbove_96 : decode b_M_struckAbove 96 = .ok (.iload 7, 2) := by decide +kernel
theorem d_M_struckAbove_98 : decode b_M_struckAbove 98 = .ok (.iaload, 1) := by decide +kernel
theorem d_M_struckAbove_99 : decode b_M_struckAbove 99 = .ok (.isub, 1) := by decide +kernel
theorem d_M_struckAbove_100 : decode b_M_struckAbove 100 = .ok (.imul, 1) := by decide +kernel
theorem d_M_struckAbove_101 : decode b_M_struckAbove 101 = .ok (.iadd, 1) := by decide +kernel
theorem d_M_struckAbove_102 : decode b_M_struckAbove 102 = .ok (.istore 9, 2) := by decide +kernel
theorem d_M_struckAbove_104 : decode b_M_struckAbove 104 = .ok (.iload 9, 2) := by decide +kernel
theorem d_M_struckAbove_106 : decode b_M_struckAbove 106 = .ok (.ifCond .le 32, 3) := by decide +kernel
theorem d_M_struckAbove_109 : decode b_M_struckAbove 109 = .ok (.iload_n 3, 1) := by decide +kernel
theorem d_M_struckAbove_110 : decode b_M_struckAbove 110 = .ok (.iconst (-1), 1) := by decide +kernel
theorem d_M_struckAbove_111 : decode b_M_struckAbove 111 = .ok (.if_icmp .eq 16, 3) := by decide +kernel
theorem d_M_struckAbove_114 : decode b_M_struckAbove 114 = .ok (.iload 9, 2) := by decide +kernel
theorem d_M_struckAbove_116 : decode b_M_struckAbove 116 = .ok (.iload 5, 2) := by decide +kernel
theorem d_M_struckAbove_118 : decode b_M_struckAbove 118 = .ok (.imul, 1) := by decide +kernel
theorem d_M_struckAbove_119 : decode b_M_struckAbove 119 = .ok (.iload 4, 2) := by decide +kernel
theorem d_M_struckAbove_121 : decode b_M_struckAbove 121 = .ok (.iload 8, 2) := by decide +kernel
theorem d_M_struckAbove_123 : decode b_M_struckAbove 123 = .ok (.imul, 1) := by decide +kernel
theorem d_M_struckAbove_124 : decode b_M_struckAbove 124 = .ok (.if_icmp .ge 14, 3) := by decide +kernel
theorem d_M_struckAbove_127 : decode b_M_struckAbove 127 = .ok (.iload 6, 2) := by decide +kernel
theorem d_M_struckAbove_129 : decode b_M_struckAbove 129 = .ok (.istore_n 3, 1) := by decide +kernel
theorem d_M_struckAbove_130 : decode b_M_struckAbove 130 = .ok (.iload 9, 2) := by decide +kernel
theorem d_M_struckAbove_132 : decode b_M_struckAbove 132 = .ok (.istore 4, 2) := by decide +kernel
theorem d_M_struckAbove_134 : decode b_M_struckAbove 134 = .ok (.iload 8, 2) := by decide +kernel
theorem d_M_struckAbove_136 : decode b_M_struckAbove 136 = .ok (.istore 5, 2) := by decide +kernel
theorem d_M_struckAbove_138 : decode b_M_struckAbove 138 = .ok (.iinc 6 1, 3) := by decide +kernel
theorem d_M_struckAbove_141 : decode b_M_struckAbove 141 = .ok (.goto (-130), 3) := by decide +kernel
theorem d_M_struckAbove_144 : decode b_M_struckAbove 144 = .ok (.iload_n 3, 1) := by decide +kernel
theorem d_M_struckAbove_145 : decode b_M_struckAbove 145 = .ok (.ireturn, 1) := by decide +kernel
theorem d_M_sideAbove_0 : decode b_M_sideAbove 0 = .ok (.aload_n 0, 1) := by decide +kernel
theorem d_M_sideAbove_1 : decode b_M_sideAbove 1 = .ok (.iload_n 1, 1) := by decide +kernel
theorem d_M_sideAbove_2 : decode b_M_sideAbove 2 = .ok (.iload_n 2, 1) := by decide +kernel
theorem d_M_sideAbove_3 : decode b_M_sideAbove 3 = .ok (.invokevirtual 63, 3) := by decide +kernel
theorem d_M_sideAbove_6 : decode b_M_sideAbove 6 = .ok (.istore_n 3, 1) := by decide +kernel
theorem d_M_sideAbove_7 : decode b_M_sideAbove 7 = .ok (.iload_n 3, 1) := by decide +kernel
theorem d_M_sideAbove_8 : decode b_M_sideAbove 8 = .ok (.iconst (-1), 1) := by decide +kernel
theorem d_M_sideAbove_9 : decode b_M_sideAbove 9 = .ok (.if_icmp .ne 6, 3) := by decide +kernel
theorem d_M_sideAbove_12 : decode b_M_sideAbove 12 = .ok (.bipush 40, 2) := by decide +kernel
theorem d_M_sideAbove_14 : decode b_M_sideAbove 14 = .ok (.ireturn, 1) := by decide +kernel
theorem d_M_sideAbove_15 : decode b_M_sideAbove 15 = .ok (.iconst 2, 1) := by decide +kernel
theorem d_M_sideAbove_16 : decode b_M_sideAbove 16 = .ok (.iload_n 3, 1) := by decide +kernel
theorem d_M_sideAbove_17 : decode b_M_sideAbove 17 = .ok (.imul, 1) := by decide +kernel
theorem d_M_sideAbove_18 : decode b_M_sideAbove 18 = .ok (.istore 4, 2) := by decide +kernel
theorem d_M_sideAbove_20 : decode b_M_sideAbove 20 = .ok (.iconst 2, 1) := by decide +kernel
theorem d_M_sideAbove_21 : decode b_M_sideAbove 21 = .ok (.iload_n 3, 1) := by decide +kernel
theorem d_M_sideAbove_22 : decode b_M_sideAbove 22 = .ok (.imul, 1) := by decide +kernel
theorem d_M_sideAbove_23 : decode b_M_sideAbove 23 = .ok (.iconst 1, 1) := by decide +kernel
theorem d_M_sideAbove_24 : decode b_M_sideAbove 24 = .ok (.iadd, 1) := by decide +kernel
theorem d_M_sideAbove_25 : decode b_M_sideAbove 25 = .ok (.istore 5, 2) := by decide +kernel
theorem d_M_sideAbove_27 : decode b_M_sideAbove 27 = .ok (.iload_n 1, 1) := by decide +kernel
theorem d_M_sideAbove_28 : decode b_M_sideAbove 28 = .ok (.aload_n 0, 1) := by decide +kernel
theorem d_M_sideAbove_29 : decode b_M_sideAbove 29 = .ok (.getfield 15, 3) := by decide +kernel
theorem d_M_sideAbove_32 : decode b_M_sideAbove 32 = .ok (.iload 4, 2) := by decide +kernel
theorem d_M_sideAbove_34 : decode b_M_sideAbove 34 = .ok (.iaload, 1) := by decide +kernel
theorem d_M_sideAbove_35 : decode b_M_sideAbove 35 = .ok (.if_icmp .le 17, 3) := by decide +kernel
theorem d_M_sideAbove_38 : decode b_M_sideAbove 38 = .ok (.iload_n 1, 1) := by decide +kernel
theorem d_M_sideAbove_39 : decode b_M_sideAbove 39 = .ok (.aload_n 0, 1) := by decide +kernel
theorem d_M_sideAbove_40 : decode b_M_sideAbove 40 = .ok (.getfield 15, 3) := by decide +kernel
theorem d_M_sideAbove_43 : decode b_M_sideAbove 43 = .ok (.iload 5, 2) := by decide +kernel
theorem d_M_sideAbove_45 : decode b_M_sideAbove 45 = .ok (.iaload, 1) := by decide +kernel
theorem d_M_sideAbove_46 : decode b_M_sideAbove 46 = .ok (.if_icmp .ge 6, 3) := by decide +kernel
theorem d_M_sideAbove_49 : decode b_M_sideAbove 49 = .ok (.iload 5, 2) := by decide +kernel
theorem d_M_sideAbove_51 : decode b_M_sideAbove 51 = .ok (.ireturn, 1) := by decide +kernel
theorem d_M_sideAbove_52 : decode b_M_sideAbove 52 = .ok (.aload_n 0, 1) := by decide +kernel
theorem d_M_sideAbove_53 : decode b_M_sideAbove 53 = .ok (.iload_n 1, 1) := by decide +kernel
theorem d_M_sideAbove_54 : decode b_M_sideAbove 54 = .ok (.aload_n 0, 1) := by decide +kernel
theorem d_M_sideAbove_55 : decode b_M_sideAbove 55 = .ok (.getfield 15, 3) := by decide +kernel
theorem d_M_sideAbove_58 : decode b_M_sideAbove 58 = .ok (.iload 4, 2) := by decide +kernel
theorem d_M_sideAbove_60 : decode b_M_sideAbove 60 = .ok (.iaload, 1) := by decide +kernel
theorem d_M_sideAbove_61 : decode b_M_sideAbove 61 = .ok (.if_icmp .ne 8, 3) := by decide +kernel
theorem d_M_sideAbove_64 : decode b_M_sideAbove 64 = .ok (.iload 4, 2) := by decide +kernel
theorem d_M_sideAbove_66 : decode b_M_sideAbove 66 = .ok (.goto 5, 3) := by decide +kernel
theorem d_M_sideAbove_69 : decode b_M_sideAbove 69 = .ok (.iload 5, 2) := by decide +kernel
theorem d_M_sideAbove_71 : decode b_M_sideAbove 71 = .ok (.iconst 0, 1) := by decide +kernel
theorem d_M_sideAbove_72 : decode b_M_sideAbove 72 = .ok (.iconst (-1), 1) := by decide +kernel
theorem d_M_sideAbove_73 : decode b_M_sideAbove 73 = .ok (.invokevirtual 66, 3) := by decide +kernel
theorem d_M_sideAbove_76 : decode b_M_sideAbove 76 = .ok (.ireturn, 1) := by decide +kernel
theorem d_M_sideFacing_0 : decode b_M_sideFacing 0 = .ok (.iload_n 1, 1) := by decide +kernel
theorem d_M_sideFacing_1 : decode b_M_sideFacing 1 = .ok (.istore 4, 2) := by decide +kernel
theorem d_M_sideFacing_3 : decode b_M_sideFacing 3 = .ok (.iconst 0, 1) := by decide +kernel
theorem d_M_sideFacing_4 : decode b_M_sideFacing 4 = .ok (.istore 5, 2) := by decide +kernel
theorem d_M_sideFacing_6 : decode b_M_sideFacing 6 = .ok (.iload 5, 2) := by decide +kernel
theorem d_M_sideFacing_8 : decode b_M_sideFacing 8 = .ok (.bipush 40, 2) := by decide +kernel
theorem d_M_sideFacing_10 : decode b_M_sideFacing 10 = .ok (.if_icmp .ge 48, 3) := by decide +kernel
theorem d_M_sideFacing_13 : decode b_M_sideFacing 13 = .ok (.aload_n 0, 1) := by decide +kernel
theorem d_M_sideFacing_14 : decode b_M_sideFacing 14 = .ok (.getfield 9, 3) := by decide +kernel
theorem d_M_sideFacing_17 : decode b_M_sideFacing 17 = .ok (.iload 5, 2) := by decide +kernel
theorem d_M_sideFacing_19 : decode b_M_sideFacing 19 = .ok (.iconst 2, 1) := by decide +kernel
theorem d_M_sideFacing_20 : decode b_M_sideFacing 20 = .ok (.idiv, 1) := by decide +kernel
theorem d_M_sideFacing_21 : decode b_M_sideFacing 21 = .ok (.baload, 1) := by decide +kernel
theorem d_M_sideFacing_22 : decode b_M_sideFacing 22 = .ok (.ifCond .eq 30, 3) := by decide +kernel
theorem d_M_sideFacing_25 : decode b_M_sideFacing 25 = .ok (.aload_n 0, 1) := by decide +kernel
theorem d_M_sideFacing_26 : decode b_M_sideFacing 26 = .ok (.iload 5, 2) := by decide +kernel
theorem d_M_sideFacing_28 : decode b_M_sideFacing 28 = .ok (.iload_n 1, 1) := by decide +kernel
theorem d_M_sideFacing_29 : decode b_M_sideFacing 29 = .ok (.invokevirtual 35, 3) := by decide +kernel
theorem d_M_sideFacing_32 : decode b_M_sideFacing 32 = .ok (.ifCond .eq 20, 3) := by decide +kernel
theorem d_M_sideFacing_35 : decode b_M_sideFacing 35 = .ok (.aload_n 0, 1) := by decide +kernel
theorem d_M_sideFacing_36 : decode b_M_sideFacing 36 = .ok (.iload 5, 2) := by decide +kernel
theorem d_M_sideFacing_38 : decode b_M_sideFacing 38 = .ok (.iload 4, 2) := by decide +kernel
theorem d_M_sideFacing_40 : decode b_M_sideFacing 40 = .ok (.iload_n 2, 1) := by decide +kernel
theorem d_M_sideFacing_41 : decode b_M_sideFacing 41 = .ok (.iload_n 3, 1) := by decide +kernel
theorem d_M_sideFacing_42 : decode b_M_sideFacing 42 = .ok (.invokevirtual 69, 3) := by decide +kernel
theorem d_M_sideFacing_45 : decode b_M_sideFacing 45 = .ok (.ifCond .eq 7, 3) := by decide +kernel
theorem d_M_sideFacing_48 : decode b_M_sideFacing 48 = .ok (.iload 5, 2) := by decide +kernel
theorem d_M_sideFacing_50 : decode b_M_sideFacing 50 = .ok (.istore 4, 2) := by decide +kernel
theorem d_M_sideFacing_52 : decode b_M_sideFacing 52 = .ok (.iinc 5 1, 3) := by decide +kernel
theorem d_M_sideFacing_55 : decode b_M_sideFacing 55 = .ok (.goto (-49), 3) := by decide +kernel
theorem d_M_sideFacing_58 : decode b_M_sideFacing 58 = .ok (.iload 4, 2) := by decide +kernel
theorem d_M_sideFacing_60 : decode b_M_sideFacing 60 = .ok (.iconst 1, 1) := by decide +kernel
theorem d_M_sideFacing_61 : decode b_M_sideFacing 61 = .ok (.ixor, 1) := by decide +kernel
theorem d_M_sideFacing_62 : decode b_M_sideFacing 62 = .ok (.ireturn, 1) := by decide +kernel
theorem d_M_comesSooner_0 : decode b_M_comesSooner 0 = .ok (.iload_n 3, 1) := by decide +kernel
theorem d_M_comesSooner_1 : decode b_M_comesSooner 1 = .ok (.iload 4, 2) := by decide +kernel
theorem d_M_comesSooner_3 : decode b_M_comesSooner 3 = .ok (.aload_n 0, 1) := by decide +kernel
theorem d_M_comesSooner_4 : decode b_M_comesSooner 4 = .ok (.iload_n 1, 1) := by decide +kernel
theorem d_M_comesSooner_5 : decode b_M_comesSooner 5 = .ok (.invokevirtual 46, 3) := by decide +kernel
theorem d_M_comesSooner_8 : decode b_M_comesSooner 8 = .ok (.aload_n 0, 1) := by decide +kernel
theorem d_M_comesSooner_9 : decode b_M_comesSooner 9 = .ok (.iload_n 1, 1) := by decide +kernel
theorem d_M_comesSooner_10 : decode b_M_comesSooner 10 = .ok (.invokevirtual 50, 3) := by decide +kernel
theorem d_M_comesSooner_13 : decode b_M_comesSooner 13 = .ok (.invokestatic 73, 3) := by decide +kernel
theorem d_M_comesSooner_16 : decode b_M_comesSooner 16 = .ok (.istore 5, 2) := by decide +kernel
theorem d_M_comesSooner_18 : decode b_M_comesSooner 18 = .ok (.iload_n 3, 1) := by decide +kernel
theorem d_M_comesSooner_19 : decode b_M_comesSooner 19 = .ok (.iload 4, 2) := by decide +kernel
theorem d_M_comesSooner_21 : decode b_M_comesSooner 21 = .ok (.aload_n 0, 1) := by decide +kernel
theorem d_M_comesSooner_22 : decode b_M_comesSooner 22 = .ok (.iload_n 2, 1) := by decide +kernel
theorem d_M_comesSooner_23 : decode b_M_comesSooner 23 = .ok (.invokevirtual 46, 3) := by decide +kernel
theorem d_M_comesSooner_26 : decode b_M_comesSooner 26 = .ok (.aload_n 0, 1) := by decide +kernel
theorem d_M_comesSooner_27 : decode b_M_comesSooner 27 = .ok (.iload_n 2, 1) := by decide +kernel
theorem d_M_comesSooner_28 : decode b_M_comesSooner 28 = .ok (.invokevirtual 50, 3) := by decide +kernel
theorem d_M_comesSooner_31 : decode b_M_comesSooner 31 = .ok (.invokestatic 73, 3) := by decide +kernel
theorem d_M_comesSooner_34 : decode b_M_comesSooner 34 = .ok (.istore 6, 2) := by decide +kernel
theorem d_M_comesSooner_36 : decode b_M_comesSooner 36 = .ok (.iload 5, 2) := by decide +kernel
theorem d_M_comesSooner_38 : decode b_M_comesSooner 38 = .ok (.iload 6, 2) := by decide +kernel
theorem d_M_comesSooner_40 : decode b_M_comesSooner 40 = .ok (.if_icmp .eq 16, 3) := by decide +kernel
theorem d_M_comesSooner_43 : decode b_M_comesSooner 43 = .ok (.iload 5, 2) := by decide +kernel
theorem d_M_comesSooner_45 : decode b_M_comesSooner 45 = .ok (.iload 6, 2) := by decide +kernel
theorem d_M_comesSooner_47 : decode b_M_comesSooner 47 = .ok (.if_icmp .ge 7, 3) := by decide +kernel
theorem d_M_comesSooner_50 : decode b_M_comesSooner 50 = .ok (.iconst 1, 1) := by decide +kernel
theorem d_M_comesSooner_51 : decode b_M_comesSooner 51 = .ok (.goto 4, 3) := by decide +kernel
theorem d_M_comesSooner_54 : decode b_M_comesSooner 54 = .ok (.iconst 0, 1) := by decide +kernel
theorem d_M_comesSooner_55 : decode b_M_comesSooner 55 = .ok (.ireturn, 1) := by decide +kernel
theorem d_M_comesSooner_56 : decode b_M_comesSooner 56 = .ok (.aload_n 0, 1) := by decide +kernel
theorem d_M_comesSooner_57 : decode b_M_comesSooner 57 = .ok (.iload_n 1, 1) := by decide +kernel
theorem d_M_comesSooner_58 : decode b_M_comesSooner 58 = .ok (.invokevirtual 46, 3) := by decide +kernel
theorem d_M_comesSooner_61 : decode b_M_comesSooner 61 = .ok (.aload_n 0, 1) := by decide +kernel
theorem d_M_comesSooner_62 : decode b_M_comesSooner 62 = .ok (.iload_n 1, 1) := by decide +kernel
theorem d_M_comesSooner_63 : decode b_M_comesSooner 63 = .ok (.invokevirtual 50, 3) := by decide +kernel
theorem d_M_comesSooner_66 : decode b_M_comesSooner 66 = .ok (.aload_n 0, 1) := by decide +kernel
theorem d_M_comesSooner_67 : decode b_M_comesSooner 67 = .ok (.iload_n 2, 1) := by decide +kernel
theorem d_M_comesSooner_68 : decode b_M_comesSooner 68 = .ok (.invokevirtual 46, 3) := by decide +kernel
theorem d_M_comesSooner_71 : decode b_M_comesSooner 71 = .ok (.aload_n 0, 1) := by decide +kernel
theorem d_M_comesSooner_72 : decode b_M_comesSooner 72 = .ok (.iload_n 2, 1) := by decide +kernel
theorem d_M_comesSooner_73 : decode b_M_comesSooner 73 = .ok (.invokevirtual 50, 3) := by decide +kernel
theorem d_M_comesSooner_76 : decode b_M_comesSooner 76 = .ok (.invokestatic 53, 3) := by decide +kernel
theorem d_M_comesSooner_79 : decode b_M_comesSooner 79 = .ok (.ifCond .le 7, 3) := by decide +kernel
theorem d_M_comesSooner_82 : decode b_M_comesSooner 82 = .ok (.iconst 1, 1) := by decide +kernel
theorem d_M_comesSooner_83 : decode b_M_comesSooner 83 = .ok (.goto 4, 3) := by decide +kernel
theorem d_M_comesSooner_86 : decode b_M_comesSooner 86 = .ok (.iconst 0, 1) := by decide +kernel
theorem d_M_comesSooner_87 : decode b_M_comesSooner 87 = .ok (.ireturn, 1) := by decide +kernel
theorem d_M_turnRank_0 : decode b_M_turnRank 0 = .ok (.iload_n 0, 1) := by decide +kernel
theorem d_M_turnRank_1 : decode b_M_turnRank 1 = .ok (.iload_n 3, 1) := by decide +kernel
theorem d_M_turnRank_2 : decode b_M_turnRank 2 = .ok (.imul, 1) := by decide +kernel
theorem d_M_turnRank_3 : decode b_M_turnRank 3 = .ok (.iload_n 1, 1) := by decide +kernel
theorem d_M_turnRank_4 : decode b_M_turnRank 4 = .ok (.iload_n 2, 1) := by decide +kernel
theorem d_M_turnRank_5 : decode b_M_turnRank 5 = .ok (.imul, 1) := by decide +kernel
theorem d_M_turnRank_6 : decode b_M_turnRank 6 = .ok (.isub, 1) := by decide +kernel
theorem d_M_turnRank_7 : decode b_M_turnRank 7 = .ok (.istore 4, 2) := by decide +kernel
theorem d_M_turnRank_9 : decode b_M_turnRank 9 = .ok (.iload 4, 2) := by decide +kernel
theorem d_M_turnRank_11 : decode b_M_turnRank 11 = .ok (.ifCond .eq 14, 3) := by decide +kernel
theorem d_M_turnRank_14 : decode b_M_turnRank 14 = .ok (.iload 4, 2) := by decide +kernel
theorem d_M_turnRank_16 : decode b_M_turnRank 16 = .ok (.ifCond .le 7, 3) := by decide +kernel
theorem d_M_turnRank_19 : decode b_M_turnRank 19 = .ok (.iconst 1, 1) := by decide +kernel
theorem d_M_turnRank_20 : decode b_M_turnRank 20 = .ok (.goto 4, 3) := by decide +kernel
theorem d_M_turnRank_23 : decode b_M_turnRank 23 = .ok (.iconst 3, 1) := by decide +kernel
theorem d_M_turnRank_24 : decode b_M_turnRank 24 = .ok (.ireturn, 1) := by decide +kernel
theorem d_M_turnRank_25 : decode b_M_turnRank 25 = .ok (.iload_n 0, 1) := by decide +kernel
theorem d_M_turnRank_26 : decode b_M_turnRank 26 = .ok (.iload_n 2, 1) := by decide +kernel
theorem d_M_turnRank_27 : decode b_M_turnRank 27 = .ok (.imul, 1) := by decide +kernel
theorem d_M_turnRank_28 : decode b_M_turnRank 28 = .ok (.iload_n 1, 1) := by decide +kernel
theorem d_M_turnRank_29 : decode b_M_turnRank 29 = .ok (.iload_n 3, 1) := by decide +kernel
theorem d_M_turnRank_30 : decode b_M_turnRank 30 = .ok (.imul, 1) := by decide +kernel
theorem d_M_turnRank_31 : decode b_M_turnRank 31 = .ok (.iadd, 1) := by decide +kernel
theorem d_M_turnRank_32 : decode b_M_turnRank 32 = .ok (.ifCond .ge 7, 3) := by decide +kernel
theorem d_M_turnRank_35 : decode b_M_turnRank 35 = .ok (.iconst 2, 1) := by decide +kernel
theorem d_M_turnRank_36 : decode b_M_turnRank 36 = .ok (.goto 4, 3) := by decide +kernel
theorem d_M_turnRank_39 : decode b_M_turnRank 39 = .ok (.iconst 4, 1) := by decide +kernel
theorem d_M_turnRank_40 : decode b_M_turnRank 40 = .ok (.ireturn, 1) := by decide +kernel
theorem d_M_sweep_0 : decode b_M_sweep 0 = .ok (.aload_n 0, 1) := by decide +kernel
theorem d_M_sweep_1 : decode b_M_sweep 1 = .ok (.getfield 15, 3) := by decide +kernel
theorem d_M_sweep_4 : decode b_M_sweep 4 = .ok (.iload_n 1, 1) := by decide +kernel
theorem d_M_sweep_5 : decode b_M_sweep 5 = .ok (.iaload, 1) := by decide +kernel
theorem d_M_sweep_6 : decode b_M_sweep 6 = .ok (.aload_n 0, 1) := by decide +kernel
theorem d_M_sweep_7 : decode b_M_sweep 7 = .ok (.getfield 19, 3) := by decide +kernel
theorem d_M_sweep_10 : decode b_M_sweep 10 = .ok (.iload_n 1, 1) := by decide +kernel
theorem d_M_sweep_11 : decode b_M_sweep 11 = .ok (.iaload, 1) := by decide +kernel
theorem d_M_sweep_12 : decode b_M_sweep 12 = .ok (.aload_n 0, 1) := by decide +kernel
theorem d_M_sweep_13 : decode b_M_sweep 13 = .ok (.getfield 15, 3) := by decide +kernel
theorem d_M_sweep_16 : decode b_M_sweep 16 = .ok (.iload_n 1, 1) := by decide +kernel
theorem d_M_sweep_17 : decode b_M_sweep 17 = .ok (.iconst 1, 1) := by decide +kernel
theorem d_M_sweep_18 : decode b_M_sweep 18 = .ok (.ixor, 1) := by decide +kernel
theorem d_M_sweep_19 : decode b_M_sweep 19 = .ok (.iaload, 1) := by decide +kernel
theorem d_M_sweep_20 : decode b_M_sweep 20 = .ok (.aload_n 0, 1) := by decide +kernel
theorem d_M_sweep_21 : decode b_M_sweep 21 = .ok (.getfield 19, 3) := by decide +kernel
theorem d_M_sweep_24 : decode b_M_sweep 24 = .ok (.iload_n 1, 1) := by decide +kernel
theorem d_M_sweep_25 : decode b_M_sweep 25 = .ok (.iconst 1, 1) := by decide +kernel
theorem d_M_sweep_26 : decode b_M_sweep 26 = .ok (.ixor, 1) := by decide +kernel
theorem d_M_sweep_27 : decode b_M_sweep 27 = .ok (.iaload, 1) := by decide +kernel
theorem d_M_sweep_28 : decode b_M_sweep 28 = .ok (.invokestatic 53, 3) := by decide +kernel
theorem d_M_sweep_31 : decode b_M_sweep 31 = .ok (.ireturn, 1) := by decide +kernel
theorem d_M_cross_0 : decode b_M_cross 0 = .ok (.iload_n 0, 1) := by decide +kernel
theorem d_M_cross_1 : decode b_M_cross 1 = .ok (.iload_n 3, 1) := by decide +kernel
theorem d_M_cross_2 : decode b_M_cross 2 = .ok (.imul, 1) := by decide +kernel
theorem d_M_cross_3 : decode b_M_cross 3 = .ok (.iload_n 1, 1) := by decide +kernel
theorem d_M_cross_4 : decode b_M_cross 4 = .ok (.iload_n 2, 1) := by decide +kernel
theorem d_M_cross_5 : decode b_M_cross 5 = .ok (.imul, 1) := by decide +kernel
theorem d_M_cross_6 : decode b_M_cross 6 = .ok (.isub, 1) := by decide +kernel
theorem d_M_cross_7 : decode b_M_cross 7 = .ok (.ireturn, 1) := by decide +kernel
end
section
theorem d_A_init_0 : decode b_A_init 0 = .ok (.aload_n 0, 1) := by decide +kernel
theorem d_A_init_1 : decode b_A_init 1 = .ok (.invokespecial 3, 3) := by decide +kernel
theorem d_A_init_4 : decode b_A_init 4 = .ok (.aload_n 0, 1) := by decide +kernel
theorem d_A_init_5 : decode b_A_init 5 = .ok (.new 9, 3) := by decide +kernel
theorem d_A_init_8 : decode b_A_init 8 = .ok (.dup, 1) := by decide +kernel
theorem d_A_init_9 : decode b_A_init 9 = .ok (.invokespecial 11, 3) := by decide +kernel
theorem d_A_init_12 : decode b_A_init 12 = .ok (.putfield 12, 3) := by decide +kernel
theorem d_A_init_15 : decode b_A_init 15 = .ok (.aload_n 0, 1) := by decide +kernel
theorem d_A_init_16 : decode b_A_init 16 = .ok (.new 16, 3) := by decide +kernel
theorem d_A_init_19 : decode b_A_init 19 = .ok (.dup, 1) := by decide +kernel
theorem d_A_init_20 : decode b_A_init 20 = .ok (.bipush 41, 2) := by decide +kernel
theorem d_A_init_22 : decode b_A_init 22 = .ok (.invokespecial 18, 3) := by decide +kernel
theorem d_A_init_25 : decode b_A_init 25 = .ok (.putfield 21, 3) := by decide +kernel
theorem d_A_init_28 : decode b_A_init 28 = .ok (.aload_n 0, 1) := by decide +kernel
theorem d_A_init_29 : decode b_A_init 29 = .ok (.new 16, 3) := by decide +kernel
theorem d_A_init_32 : decode b_A_init 32 = .ok (.dup, 1) := by decide +kernel
theorem d_A_init_33 : decode b_A_init 33 = .ok (.bipush 20, 2) := by decide +kernel
theorem d_A_init_35 : decode b_A_init 35 = .ok (.invokespecial 18, 3) := by decide +kernel
theorem d_A_init_38 : decode b_A_init 38 = .ok (.putfield 25, 3) := by decide +kernel
theorem d_A_init_41 : decode b_A_init 41 = .ok (.return_, 1) := by decide +kernel
theorem d_A_add_0 : decode b_A_add 0 = .ok (.iload_n 1, 1) := by decide +kernel
theorem d_A_add_1 : decode b_A_add 1 = .ok (.iload_n 2, 1) := by decide +kernel
theorem d_A_add_2 : decode b_A_add 2 = .ok (.invokestatic 28, 3) := by decide +kernel
theorem d_A_add_5 : decode b_A_add 5 = .ok (.ifCond .eq 23, 3) := by decide +kernel
theorem d_A_add_8 : decode b_A_add 8 = .ok (.iload_n 3, 1) := by decide +kernel
theorem d_A_add_9 : decode b_A_add 9 = .ok (.iload 4, 2) := by decide +kernel
theorem d_A_add_11 : decode b_A_add 11 = .ok (.invokestatic 28, 3) := by decide +kernel
theorem d_A_add_14 : decode b_A_add 14 = .ok (.ifCond .eq 14, 3) := by decide +kernel
theorem d_A_add_17 : decode b_A_add 17 = .ok (.iload_n 1, 1) := by decide +kernel
theorem d_A_add_18 : decode b_A_add 18 = .ok (.iload_n 3, 1) := by decide +kernel
theorem d_A_add_19 : decode b_A_add 19 = .ok (.if_icmp .ne 12, 3) := by decide +kernel
theorem d_A_add_22 : decode b_A_add 22 = .ok (.iload_n 2, 1) := by decide +kernel
theorem d_A_add_23 : decode b_A_add 23 = .ok (.iload 4, 2) := by decide +kernel
theorem d_A_add_25 : decode b_A_add 25 = .ok (.if_icmp .ne 6, 3) := by decide +kernel
theorem d_A_add_28 : decode b_A_add 28 = .ok (.bipush (-2), 2) := by decide +kernel
theorem d_A_add_30 : decode b_A_add 30 = .ok (.ireturn, 1) := by decide +kernel
theorem d_A_add_31 : decode b_A_add 31 = .ok (.aload_n 0, 1) := by decide +kernel
theorem d_A_add_32 : decode b_A_add 32 = .ok (.getfield 12, 3) := by decide +kernel
theorem d_A_add_35 : decode b_A_add 35 = .ok (.invokevirtual 32, 3) := by decide +kernel
theorem d_A_add_38 : decode b_A_add 38 = .ok (.istore 5, 2) := by decide +kernel
theorem d_A_add_40 : decode b_A_add 40 = .ok (.iload 5, 2) := by decide +kernel
theorem d_A_add_42 : decode b_A_add 42 = .ok (.iconst (-1), 1) := by decide +kernel
theorem d_A_add_43 : decode b_A_add 43 = .ok (.if_icmp .ne 6, 3) := by decide +kernel
theorem d_A_add_46 : decode b_A_add 46 = .ok (.bipush (-3), 2) := by decide +kernel
theorem d_A_add_48 : decode b_A_add 48 = .ok (.ireturn, 1) := by decide +kernel
theorem d_A_add_49 : decode b_A_add 49 = .ok (.aload_n 0, 1) := by decide +kernel
theorem d_A_add_50 : decode b_A_add 50 = .ok (.getfield 12, 3) := by decide +kernel
theorem d_A_add_53 : decode b_A_add 53 = .ok (.iload 5, 2) := by decide +kernel
theorem d_A_add_55 : decode b_A_add 55 = .ok (.iload_n 1, 1) := by decide +kernel
theorem d_A_add_56 : decode b_A_add 56 = .ok (.iload_n 2, 1) := by decide +kernel
theorem d_A_add_57 : decode b_A_add 57 = .ok (.iload_n 3, 1) := by decide +kernel
theorem d_A_add_58 : decode b_A_add 58 = .ok (.iload 4, 2) := by decide +kernel
theorem d_A_add_60 : decode b_A_add 60 = .ok (.invokevirtual 36, 3) := by decide +kernel
theorem d_A_add_63 : decode b_A_add 63 = .ok (.aload_n 0, 1) := by decide +kernel
theorem d_A_add_64 : decode b_A_add 64 = .ok (.getfield 12, 3) := by decide +kernel
theorem d_A_add_67 : decode b_A_add 67 = .ok (.iload 5, 2) := by decide +kernel
theorem d_A_add_69 : decode b_A_add 69 = .ok (.invokevirtual 40, 3) := by decide +kernel
theorem d_A_add_72 : decode b_A_add 72 = .ok (.istore 6, 2) := by decide +kernel
theorem d_A_add_74 : decode b_A_add 74 = .ok (.iload 6, 2) := by decide +kernel
theorem d_A_add_76 : decode b_A_add 76 = .ok (.iconst (-1), 1) := by decide +kernel
theorem d_A_add_77 : decode b_A_add 77 = .ok (.if_icmp .eq 9, 3) := by decide +kernel
theorem d_A_add_80 : decode b_A_add 80 = .ok (.bipush (-10), 2) := by decide +kernel
theorem d_A_add_82 : decode b_A_add 82 = .ok (.iload 6, 2) := by decide +kernel
theorem d_A_add_84 : decode b_A_add 84 = .ok (.isub, 1) := by decide +kernel
theorem d_A_add_85 : decode b_A_add 85 = .ok (.ireturn, 1) := by decide +kernel
theorem d_A_add_86 : decode b_A_add 86 = .ok (.aload_n 0, 1) := by decide +kernel
theorem d_A_add_87 : decode b_A_add 87 = .ok (.getfield 12, 3) := by decide +kernel
theorem d_A_add_90 : decode b_A_add 90 = .ok (.iload 5, 2) := by decide +kernel
theorem d_A_add_92 : decode b_A_add 92 = .ok (.iconst 1, 1) := by decide +kernel
theorem d_A_add_93 : decode b_A_add 93 = .ok (.invokevirtual 44, 3) := by decide +kernel
theorem d_A_add_96 : decode b_A_add 96 = .ok (.aload_n 0, 1) := by decide +kernel
theorem d_A_add_97 : decode b_A_add 97 = .ok (.invokevirtual 48, 3) := by decide +kernel
theorem d_A_add_100 : decode b_A_add 100 = .ok (.iload 5, 2) := by decide +kernel
theorem d_A_add_102 : decode b_A_add 102 = .ok (.ireturn, 1) := by decide +kernel
theorem d_A_remove_0 : decode b_A_remove 0 = .ok (.aload_n 0, 1) := by decide +kernel
theorem d_A_remove_1 : decode b_A_remove 1 = .ok (.getfield 12, 3) := by decide +kernel
theorem d_A_remove_4 : decode b_A_remove 4 = .ok (.iload_n 1, 1) := by decide +kernel
theorem d_A_remove_5 : decode b_A_remove 5 = .ok (.invokevirtual 51, 3) := by decide +kernel
theorem d_A_remove_8 : decode b_A_remove 8 = .ok (.ifCond .ne 5, 3) := by decide +kernel
theorem d_A_remove_11 : decode b_A_remove 11 = .ok (.iconst 0, 1) := by decide +kernel
theorem d_A_remove_12 : decode b_A_remove 12 = .ok (.ireturn, 1) := by decide +kernel
theorem d_A_remove_13 : decode b_A_remove 13 = .ok (.aload_n 0, 1) := by decide +kernel
theorem d_A_remove_14 : decode b_A_remove 14 = .ok (.getfield 12, 3) := by decide +kernel
theorem d_A_remove_17 : decode b_A_remove 17 = .ok (.iload_n 1, 1) := by decide +kernel
theorem d_A_remove_18 : decode b_A_remove 18 = .ok (.iconst 0, 1) := by decide +kernel
theorem d_A_remove_19 : decode b_A_remove 19 = .ok (.invokevirtual 44, 3) := by decide +kernel
theorem d_A_remove_22 : decode b_A_remove 22 = .ok (.aload_n 0, 1) := by decide +kernel
theorem d_A_remove_23 : decode b_A_remove 23 = .ok (.invokevirtual 48, 3) := by decide +kernel
theorem d_A_remove_26 : decode b_A_remove 26 = .ok (.iconst 1, 1) := by decide +kernel
theorem d_A_remove_27 : decode b_A_remove 27 = .ok (.ireturn, 1) := by decide +kernel
theorem d_A_segments_0 : decode b_A_segments 0 = .ok (.iconst 0, 1) := by decide +kernel
theorem d_A_segments_1 : decode b_A_segments 1 = .ok (.istore_n 1, 1) := by decide +kernel
theorem d_A_segments_2 : decode b_A_segments 2 = .ok (.iconst 0, 1) := by decide +kernel
theorem d_A_segments_3 : decode b_A_segments 3 = .ok (.istore_n 2, 1) := by decide +kernel
theorem d_A_segments_4 : decode b_A_segments 4 = .ok (.iload_n 2, 1) := by decide +kernel
theorem d_A_segments_5 : decode b_A_segments 5 = .ok (.bipush 20, 2) := by decide +kernel
theorem d_A_segments_7 : decode b_A_segments 7 = .ok (.if_icmp .ge 23, 3) := by decide +kernel
theorem d_A_segments_10 : decode b_A_segments 10 = .ok (.aload_n 0, 1) := by decide +kernel
theorem d_A_segments_11 : decode b_A_segments 11 = .ok (.getfield 12, 3) := by decide +kernel
theorem d_A_segments_14 : decode b_A_segments 14 = .ok (.iload_n 2, 1) := by decide +kernel
theorem d_A_segments_15 : decode b_A_segments 15 = .ok (.invokevirtual 51, 3) := by decide +kernel
theorem d_A_segments_18 : decode b_A_segments 18 = .ok (.ifCond .eq 6, 3) := by decide +kernel
theorem d_A_segments_21 : decode b_A_segments 21 = .ok (.iinc 1 1, 3) := by decide +kernel
theorem d_A_segments_24 : decode b_A_segments 24 = .ok (.iinc 2 1, 3) := by decide +kernel
theorem d_A_segments_27 : decode b_A_segments 27 = .ok (.goto (-23), 3) := by decide +kernel
theorem d_A_segments_30 : decode b_A_segments 30 = .ok (.iload_n 1, 1) := by decide +kernel
theorem d_A_segments_31 : decode b_A_segments 31 = .ok (.ireturn, 1) := by decide +kernel
theorem d_A_vertices_0 : decode b_A_vertices 0 = .ok (.iconst 0, 1) := by decide +kernel
theorem d_A_vertices_1 : decode b_A_vertices 1 = .ok (.istore_n 1, 1) := by decide +kernel
theorem d_A_vertices_2 : decode b_A_vertices 2 = .ok (.iconst 0, 1) := by decide +kernel
theorem d_A_vertices_3 : decode b_A_vertices 3 = .ok (.istore_n 2, 1) := by decide +kernel
theorem d_A_vertices_4 : decode b_A_vertices 4 = .ok (.iload_n 2, 1) := by decide +kernel
theorem d_A_vertices_5 : decode b_A_vertices 5 = .ok (.bipush 40, 2) := by decide +kernel
theorem d_A_vertices_7 : decode b_A_vertices 7 = .ok (.if_icmp .ge 34, 3) := by decide +kernel
theorem d_A_vertices_10 : decode b_A_vertices 10 = .ok (.aload_n 0, 1) := by decide +kernel
theorem d_A_vertices_11 : decode b_A_vertices 11 = .ok (.getfield 12, 3) := by decide +kernel
theorem d_A_vertices_14 : decode b_A_vertices 14 = .ok (.iload_n 2, 1) := by decide +kernel
theorem d_A_vertices_15 : decode b_A_vertices 15 = .ok (.invokevirtual 55, 3) := by decide +kernel
theorem d_A_vertices_18 : decode b_A_vertices 18 = .ok (.ifCond .eq 17, 3) := by decide +kernel
theorem d_A_vertices_21 : decode b_A_vertices 21 = .ok (.aload_n 0, 1) := by decide +kernel
theorem d_A_vertices_22 : decode b_A_vertices 22 = .ok (.getfield 12, 3) := by decide +kernel
theorem d_A_vertices_25 : decode b_A_vertices 25 = .ok (.iload_n 2, 1) := by decide +kernel
theorem d_A_vertices_26 : decode b_A_vertices 26 = .ok (.invokevirtual 58, 3) := by decide +kernel
theorem d_A_vertices_29 : decode b_A_vertices 29 = .ok (.ifCond .eq 6, 3) := by decide +kernel
theorem d_A_vertices_32 : decode b_A_vertices 32 = .ok (.iinc 1 1, 3) := by decide +kernel
theorem d_A_vertices_35 : decode b_A_vertices 35 = .ok (.iinc 2 1, 3) := by decide +kernel
theorem d_A_vertices_38 : decode b_A_vertices 38 = .ok (.goto (-34), 3) := by decide +kernel
theorem d_A_vertices_41 : decode b_A_vertices 41 = .ok (.iload_n 1, 1) := by decide +kernel
theorem d_A_vertices_42 : decode b_A_vertices 42 = .ok (.ireturn, 1) := by decide +kernel
theorem d_A_parts_0 : decode b_A_parts 0 = .ok (.iconst 0, 1) := by decide +kernel
theorem d_A_parts_1 : decode b_A_parts 1 = .ok (.istore_n 1, 1) := by decide +kernel
theorem d_A_parts_2 : decode b_A_parts 2 = .ok (.iconst 0, 1) := by decide +kernel
theorem d_A_parts_3 : decode b_A_parts 3 = .ok (.istore_n 2, 1) := by decide +kernel
theorem d_A_parts_4 : decode b_A_parts 4 = .ok (.iload_n 2, 1) := by decide +kernel
theorem d_A_parts_5 : decode b_A_parts 5 = .ok (.bipush 20, 2) := by decide +kernel
theorem d_A_parts_7 : decode b_A_parts 7 = .ok (.if_icmp .ge 34, 3) := by decide +kernel
theorem d_A_parts_10 : decode b_A_parts 10 = .ok (.aload_n 0, 1) := by decide +kernel
theorem d_A_parts_11 : decode b_A_parts 11 = .ok (.getfield 12, 3) := by decide +kernel
theorem d_A_parts_14 : decode b_A_parts 14 = .ok (.iload_n 2, 1) := by decide +kernel
theorem d_A_parts_15 : decode b_A_parts 15 = .ok (.invokevirtual 51, 3) := by decide +kernel
theorem d_A_parts_18 : decode b_A_parts 18 = .ok (.ifCond .eq 17, 3) := by decide +kernel
theorem d_A_parts_21 : decode b_A_parts 21 = .ok (.aload_n 0, 1) := by decide +kernel
theorem d_A_parts_22 : decode b_A_parts 22 = .ok (.getfield 25, 3) := by decide +kernel
theorem d_A_parts_25 : decode b_A_parts 25 = .ok (.iload_n 2, 1) := by decide +kernel
theorem d_A_parts_26 : decode b_A_parts 26 = .ok (.invokevirtual 61, 3) := by decide +kernel
theorem d_A_parts_29 : decode b_A_parts 29 = .ok (.ifCond .eq 6, 3) := by decide +kernel
theorem d_A_parts_32 : decode b_A_parts 32 = .ok (.iinc 1 1, 3) := by decide +kernel
theorem d_A_parts_35 : decode b_A_parts 35 = .ok (.iinc 2 1, 3) := by decide +kernel
theorem d_A_parts_38 : decode b_A_parts 38 = .ok (.goto (-34), 3) := by decide +kernel
theorem d_A_parts_41 : decode b_A_parts 41 = .ok (.iload_n 1, 1) := by decide +kernel
theorem d_A_parts_42 : decode b_A_parts 42 = .ok (.ireturn, 1) := by decide +kernel
theorem d_A_faces_0 : decode b_A_faces 0 = .ok (.aload_n 0, 1) := by decide +kernel
theorem d_A_faces_1 : decode b_A_faces 1 = .ok (.getfield 21, 3) := by decide +kernel
theorem d_A_faces_4 : decode b_A_faces 4 = .ok (.bipush 40, 2) := by decide +kernel
theorem d_A_faces_6 : decode b_A_faces 6 = .ok (.invokevirtual 61, 3) := by decide +kernel
theorem d_A_faces_9 : decode b_A_faces 9 = .ok (.ifCond .eq 7, 3) := by decide +kernel
theorem d_A_faces_12 : decode b_A_faces 12 = .ok (.iconst 1, 1) := by decide +kernel
theorem d_A_faces_13 : decode b_A_faces 13 = .ok (.goto 4, 3) := by decide +kernel
theorem d_A_faces_16 : decode b_A_faces 16 = .ok (.iconst 0, 1) := by decide +kernel
theorem d_A_faces_17 : decode b_A_faces 17 = .ok (.istore_n 1, 1) := by decide +kernel
theorem d_A_faces_18 : decode b_A_faces 18 = .ok (.iconst 0, 1) := by decide +kernel
theorem d_A_faces_19 : decode b_A_faces 19 = .ok (.istore_n 2, 1) := by decide +kernel
theorem d_A_faces_20 : decode b_A_faces 20 = .ok (.iload_n 2, 1) := by decide +kernel
theorem d_A_faces_21 : decode b_A_faces 21 = .ok (.bipush 40, 2) := by decide +kernel
theorem d_A_faces_23 : decode b_A_faces 23 = .ok (.if_icmp .ge 34, 3) := by decide +kernel
theorem d_A_faces_26 : decode b_A_faces 26 = .ok (.aload_n 0, 1) := by decide +kernel
theorem d_A_faces_27 : decode b_A_faces 27 = .ok (.getfield 12, 3) := by decide +kernel
theorem d_A_faces_30 : decode b_A_faces 30 = .ok (.iload_n 2, 1) := by decide +kernel
theorem d_A_faces_31 : decode b_A_faces 31 = .ok (.invokevirtual 55, 3) := by decide +kernel
theorem d_A_faces_34 : decode b_A_faces 34 = .ok (.ifCond .eq 17, 3) := by decide +kernel
theorem d_A_faces_37 : decode b_A_faces 37 = .ok (.aload_n 0, 1) := by decide +kernel
theorem d_A_faces_38 : decode b_A_faces 38 = .ok (.getfield 21, 3) := by decide +kernel
theorem d_A_faces_41 : decode b_A_faces 41 = .ok (.iload_n 2, 1) := by decide +kernel
theorem d_A_faces_42 : decode b_A_faces 42 = .ok (.invokevirtual 61, 3) := by decide +kernel
theorem d_A_faces_45 : decode b_A_faces 45 = .ok (.ifCond .eq 6, 3) := by decide +kernel
theorem d_A_faces_48 : decode b_A_faces 48 = .ok (.iinc 1 1, 3) := by decide +kernel
theorem d_A_faces_51 : decode b_A_faces 51 = .ok (.iinc 2 1, 3) := by decide +kernel
theorem d_A_faces_54 : decode b_A_faces 54 = .ok (.goto (-34), 3) := by decide +kernel
theorem d_A_faces_57 : decode b_A_faces 57 = .ok (.iload_n 1, 1) := by decide +kernel
theorem d_A_faces_58 : decode b_A_faces 58 = .ok (.ireturn, 1) := by decide +kernel
theorem d_A_find_0 : decode b_A_find 0 = .ok (.iload_n 1, 1) := by decide +kernel
theorem d_A_find_1 : decode b_A_find 1 = .ok (.iload_n 2, 1) := by decide +kernel
theorem d_A_find_2 : decode b_A_find 2 = .ok (.invokestatic 28, 3) := by decide +kernel
theorem d_A_find_5 : decode b_A_find 5 = .ok (.ifCond .ne 6, 3) := by decide +kernel
theorem d_A_find_8 : decode b_A_find 8 = .ok (.bipush (-2), 2) := by decide +kernel
theorem d_A_find_10 : decode b_A_find 10 = .ok (.ireturn, 1) := by decide +kernel
theorem d_A_find_11 : decode b_A_find 11 = .ok (.aload_n 0, 1) := by decide +kernel
theorem d_A_find_12 : decode b_A_find 12 = .ok (.getfield 12, 3) := by decide +kernel
theorem d_A_find_15 : decode b_A_find 15 = .ok (.iload_n 1, 1) := by decide +kernel
theorem d_A_find_16 : decode b_A_find 16 = .ok (.iload_n 2, 1) := by decide +kernel
theorem d_A_find_17 : decode b_A_find 17 = .ok (.invokevirtual 64, 3) := by decide +kernel
theorem d_A_find_20 : decode b_A_find 20 = .ok (.istore_n 3, 1) := by decide +kernel
theorem d_A_find_21 : decode b_A_find 21 = .ok (.iload_n 3, 1) := by decide +kernel
theorem d_A_find_22 : decode b_A_find 22 = .ok (.ifCond .le 9, 3) := by decide +kernel
theorem d_A_find_25 : decode b_A_find 25 = .ok (.sipush 200, 3) := by decide +kernel
theorem d_A_find_28 : decode b_A_find 28 = .ok (.iload_n 3, 1) := by decide +kernel
theorem d_A_find_29 : decode b_A_find 29 = .ok (.iadd, 1) := by decide +kernel
theorem d_A_find_30 : decode b_A_find 30 = .ok (.ireturn, 1) := by decide +kernel
theorem d_A_find_31 : decode b_A_find 31 = .ok (.aload_n 0, 1) := by decide +kernel
theorem d_A_find_32 : decode b_A_find 32 = .ok (.getfield 12, 3) := by decide +kernel
theorem d_A_find_35 : decode b_A_find 35 = .ok (.iload_n 1, 1) := by decide +kernel
theorem d_A_find_36 : decode b_A_find 36 = .ok (.iload_n 2, 1) := by decide +kernel
theorem d_A_find_37 : decode b_A_find 37 = .ok (.invokevirtual 68, 3) := by decide +kernel
theorem d_A_find_40 : decode b_A_find 40 = .ok (.istore 4, 2) := by decide +kernel
theorem d_A_find_42 : decode b_A_find 42 = .ok (.iload 4, 2) := by decide +kernel
theorem d_A_find_44 : decode b_A_find 44 = .ok (.iconst (-1), 1) := by decide +kernel
theorem d_A_find_45 : decode b_A_find 45 = .ok (.if_icmp .eq 11, 3) := by decide +kernel
theorem d_A_find_48 : decode b_A_find 48 = .ok (.bipush 100, 2) := by decide +kernel
theorem d_A_find_50 : decode b_A_find 50 = .ok (.iload 4, 2) := by decide +kernel
theorem d_A_find_52 : decode b_A_find 52 = .ok (.iadd, 1) := by decide +kernel
theorem d_A_find_53 : decode b_A_find 53 = .ok (.goto 12, 3) := by decide +kernel
theorem d_A_find_56 : decode b_A_find 56 = .ok (.aload_n 0, 1) := by decide +kernel
theorem d_A_find_57 : decode b_A_find 57 = .ok (.getfield 12, 3) := by decide +kernel
theorem d_A_find_60 : decode b_A_find 60 = .ok (.iload_n 1, 1) := by decide +kernel
theorem d_A_find_61 : decode b_A_find 61 = .ok (.iload_n 2, 1) := by decide +kernel
theorem d_A_find_62 : decode b_A_find 62 = .ok (.invokevirtual 71, 3) := by decide +kernel
theorem d_A_find_65 : decode b_A_find 65 = .ok (.ireturn, 1) := by decide +kernel
theorem d_A_same_0 : decode b_A_same 0 = .ok (.aload_n 0, 1) := by decide +kernel
theorem d_A_same_1 : decode b_A_same 1 = .ok (.iload_n 1, 1) := by decide +kernel
theorem d_A_same_2 : decode b_A_same 2 = .ok (.iload_n 2, 1) := by decide +kernel
theorem d_A_same_3 : decode b_A_same 3 = .ok (.invokevirtual 74, 3) := by decide +kernel
theorem d_A_same_6 : decode b_A_same 6 = .ok (.istore 5, 2) := by decide +kernel
theorem d_A_same_8 : decode b_A_same 8 = .ok (.aload_n 0, 1) := by decide +kernel
theorem d_A_same_9 : decode b_A_same 9 = .ok (.iload_n 3, 1) := by decide +kernel
theorem d_A_same_10 : decode b_A_same 10 = .ok (.iload 4, 2) := by decide +kernel
theorem d_A_same_12 : decode b_A_same 12 = .ok (.invokevirtual 74, 3) := by decide +kernel
theorem d_A_same_15 : decode b_A_same 15 = .ok (.istore 6, 2) := by decide +kernel
theorem d_A_same_17 : decode b_A_same 17 = .ok (.iload 5, 2) := by decide +kernel
theorem d_A_same_19 : decode b_A_same 19 = .ok (.ifCond .lt 26, 3) := by decide +kernel
theorem d_A_same_22 : decode b_A_same 22 = .ok (.iload 6, 2) := by decide +kernel
theorem d_A_same_24 : decode b_A_same 24 = .ok (.ifCond .lt 21, 3) := by decide +kernel
theorem d_A_same_27 : decode b_A_same 27 = .ok (.aload_n 0, 1) := by decide +kernel
theorem d_A_same_28 : decode b_A_same 28 = .ok (.getfield 21, 3) := by decide +kernel
theorem d_A_same_31 : decode b_A_same 31 = .ok (.iload 5, 2) := by decide +kernel
theorem d_A_same_33 : decode b_A_same 33 = .ok (.iload 6, 2) := by decide +kernel
theorem d_A_same_35 : decode b_A_same 35 = .ok (.invokevirtual 77, 3) := by decide +kernel
theorem d_A_same_38 : decode b_A_same 38 = .ok (.ifCond .eq 7, 3) := by decide +kernel
theorem d_A_same_41 : decode b_A_same 41 = .ok (.iconst 1, 1) := by decide +kernel
theorem d_A_same_42 : decode b_A_same 42 = .ok (.goto 4, 3) := by decide +kernel
theorem d_A_same_45 : decode b_A_same 45 = .ok (.iconst 0, 1) := by decide +kernel
theorem d_A_same_46 : decode b_A_same 46 = .ok (.ireturn, 1) := by decide +kernel
theorem d_A_area_0 : decode b_A_area 0 = .ok (.aload_n 0, 1) := by decide +kernel
theorem d_A_area_1 : decode b_A_area 1 = .ok (.iload_n 1, 1) := by decide +kernel
theorem d_A_area_2 : decode b_A_area 2 = .ok (.iload_n 2, 1) := by decide +kernel
theorem d_A_area_3 : decode b_A_area 3 = .ok (.invokevirtual 74, 3) := by decide +kernel
theorem d_A_area_6 : decode b_A_area 6 = .ok (.istore_n 3, 1) := by decide +kernel
theorem d_A_area_7 : decode b_A_area 7 = .ok (.iload_n 3, 1) := by decide +kernel
theorem d_A_area_8 : decode b_A_area 8 = .ok (.ifCond .ge 5, 3) := by decide +kernel
theorem d_A_area_11 : decode b_A_area 11 = .ok (.iload_n 3, 1) := by decide +kernel
theorem d_A_area_12 : decode b_A_area 12 = .ok (.ireturn, 1) := by decide +kernel
theorem d_A_area_13 : decode b_A_area 13 = .ok (.aload_n 0, 1) := by decide +kernel
theorem d_A_area_14 : decode b_A_area 14 = .ok (.getfield 21, 3) := by decide +kernel
theorem d_A_area_17 : decode b_A_area 17 = .ok (.iload_n 3, 1) := by decide +kernel
theorem d_A_area_18 : decode b_A_area 18 = .ok (.bipush 40, 2) := by decide +kernel
theorem d_A_area_20 : decode b_A_area 20 = .ok (.invokevirtual 77, 3) := by decide +kernel
theorem d_A_area_23 : decode b_A_area 23 = .ok (.ifCond .eq 5, 3) := by decide +kernel
theorem d_A_area_26 : decode b_A_area 26 = .ok (.iconst 0, 1) := by decide +kernel
theorem d_A_area_27 : decode b_A_area 27 = .ok (.ireturn, 1) := by decide +kernel
theorem d_A_area_28 : decode b_A_area 28 = .ok (.iconst 0, 1) := by decide +kernel
theorem d_A_area_29 : decode b_A_area 29 = .ok (.istore 4, 2) := by decide +kernel
theorem d_A_area_31 : decode b_A_area 31 = .ok (.iconst 0, 1) := by decide +kernel
theorem d_A_area_32 : decode b_A_area 32 = .ok (.istore 5, 2) := by decide +kernel
theorem d_A_area_34 : decode b_A_area 34 = .ok (.iload 5, 2) := by decide +kernel
theorem d_A_area_36 : decode b_A_area 36 = .ok (.bipush 40, 2) := by decide +kernel
theorem d_A_area_38 : decode b_A_area 38 = .ok (.if_icmp .ge 48, 3) := by decide +kernel
theorem d_A_area_41 : decode b_A_area 41 = .ok (.aload_n 0, 1) := by decide +kernel
theorem d_A_area_42 : decode b_A_area 42 = .ok (.getfield 12, 3) := by decide +kernel
theorem d_A_area_45 : decode b_A_area 45 = .ok (.iload 5, 2) := by decide +kernel
theorem d_A_area_47 : decode b_A_area 47 = .ok (.invokevirtual 55, 3) := by decide +kernel
theorem d_A_area_50 : decode b_A_area 50 = .ok (.ifCond .eq 30, 3) := by decide +kernel
theorem d_A_area_53 : decode b_A_area 53 = .ok (.aload_n 0, 1) := by decide +kernel
theorem d_A_area_54 : decode b_A_area 54 = .ok (.getfield 21, 3) := by decide +kernel
theorem d_A_area_57 : decode b_A_area 57 = .ok (.iload_n 3, 1) := by decide +kernel
theorem d_A_area_58 : decode b_A_area 58 = .ok (.iload 5, 2) := by decide +kernel
theorem d_A_area_60 : decode b_A_area 60 = .ok (.invokevirtual 77, 3) := by decide +kernel
theorem d_A_area_63 : decode b_A_area 63 = .ok (.ifCond .eq 17, 3) := by decide +kernel
theorem d_A_area_66 : decode b_A_area 66 = .ok (.iload 4, 2) := by decide +kernel
theorem d_A_area_68 : decode b_A_area 68 = .ok (.aload_n 0, 1) := by decide +kernel
theorem d_A_area_69 : decode b_A_area 69 = .ok (.getfield 12, 3) := by decide +kernel
theorem d_A_area_72 : decode b_A_area 72 = .ok (.iload 5, 2) := by decide +kernel
theorem d_A_area_74 : decode b_A_area 74 = .ok (.invokevirtual 80, 3) := by decide +kernel
theorem d_A_area_77 : decode b_A_area 77 = .ok (.iadd, 1) := by decide +kernel
theorem d_A_area_78 : decode b_A_area 78 = .ok (.istore 4, 2) := by decide +kernel
theorem d_A_area_80 : decode b_A_area 80 = .ok (.iinc 5 1, 3) := by decide +kernel
theorem d_A_area_83 : decode b_A_area 83 = .ok (.goto (-49), 3) := by decide +kernel
theorem d_A_area_86 : decode b_A_area 86 = .ok (.iload 4, 2) := by decide +kernel
theorem d_A_area_88 : decode b_A_area 88 = .ok (.ireturn, 1) := by decide +kernel
theorem d_A_border_0 : decode b_A_border 0 = .ok (.aload_n 0, 1) := by decide +kernel
theorem d_A_border_1 : decode b_A_border 1 = .ok (.iload_n 1, 1) := by decide +kernel
theorem d_A_border_2 : decode b_A_border 2 = .ok (.iload_n 2, 1) := by decide +kernel
theorem d_A_border_3 : decode b_A_border 3 = .ok (.invokevirtual 74, 3) := by decide +kernel
theorem d_A_border_6 : decode b_A_border 6 = .ok (.istore_n 3, 1) := by decide +kernel
theorem d_A_border_7 : decode b_A_border 7 = .ok (.iload_n 3, 1) := by decide +kernel
theorem d_A_border_8 : decode b_A_border 8 = .ok (.ifCond .ge 5, 3) := by decide +kernel
theorem d_A_border_11 : decode b_A_border 11 = .ok (.iload_n 3, 1) := by decide +kernel
theorem d_A_border_12 : decode b_A_border 12 = .ok (.ireturn, 1) := by decide +kernel
theorem d_A_border_13 : decode b_A_border 13 = .ok (.iconst 0, 1) := by decide +kernel
theorem d_A_border_14 : decode b_A_border 14 = .ok (.istore 4, 2) := by decide +kernel
theorem d_A_border_16 : decode b_A_border 16 = .ok (.iconst 0, 1) := by decide +kernel
theorem d_A_border_17 : decode b_A_border 17 = .ok (.istore 5, 2) := by decide +kernel
theorem d_A_border_19 : decode b_A_border 19 = .ok (.iload 5, 2) := by decide +kernel
theorem d_A_border_21 : decode b_A_border 21 = .ok (.bipush 40, 2) := by decide +kernel
theorem d_A_border_23 : decode b_A_border 23 = .ok (.if_icmp .ge 37, 3) := by decide +kernel
theorem d_A_border_26 : decode b_A_border 26 = .ok (.aload_n 0, 1) := by decide +kernel
theorem d_A_border_27 : decode b_A_border 27 = .ok (.getfield 12, 3) := by decide +kernel
theorem d_A_border_30 : decode b_A_border 30 = .ok (.iload 5, 2) := by decide +kernel
theorem d_A_border_32 : decode b_A_border 32 = .ok (.invokevirtual 55, 3) := by decide +kernel
theorem d_A_border_35 : decode b_A_border 35 = .ok (.ifCond .eq 19, 3) := by decide +kernel
theorem d_A_border_38 : decode b_A_border 38 = .ok (.aload_n 0, 1) := by decide +kernel
theorem d_A_border_39 : decode b_A_border 39 = .ok (.getfield 21, 3) := by decide +kernel
theorem d_A_border_42 : decode b_A_border 42 = .ok (.iload_n 3, 1) := by decide +kernel
theorem d_A_border_43 : decode b_A_border 43 = .ok (.iload 5, 2) := by decide +kernel
theorem d_A_border_45 : decode b_A_border 45 = .ok (.invokevirtual 77, 3) := by decide +kernel
theorem d_A_border_48 : decode b_A_border 48 = .ok (.ifCond .eq 6, 3) := by decide +kernel
theorem d_A_border_51 : decode b_A_border 51 = .ok (.iinc 4 1, 3) := by decide +kernel
theorem d_A_border_54 : decode b_A_border 54 = .ok (.iinc 5 1, 3) := by decide +kernel
theorem d_A_border_57 : decode b_A_border 57 = .ok (.goto (-38), 3) := by decide +kernel
theorem d_A_border_60 : decode b_A_border 60 = .ok (.iload 4, 2) := by decide +kernel
theorem d_A_border_62 : decode b_A_border 62 = .ok (.ireturn, 1) := by decide +kernel
theorem d_A_touches_0 : decode b_A_touches 0 = .ok (.aload_n 0, 1) := by decide +kernel
theorem d_A_touches_1 : decode b_A_touches 1 = .ok (.iload_n 1, 1) := by decide +kernel
theorem d_A_touches_2 : decode b_A_touches 2 = .ok (.iload_n 2, 1) := by decide +kernel
theorem d_A_touches_3 : decode b_A_touches 3 = .ok (.invokevirtual 74, 3) := by decide +kernel
theorem d_A_touches_6 : decode b_A_touches 6 = .ok (.istore 4, 2) := by decide +kernel
theorem d_A_touches_8 : decode b_A_touches 8 = .ok (.iload 4, 2) := by decide +kernel
theorem d_A_touches_10 : decode b_A_touches 10 = .ok (.ifCond .ge 6, 3) := by decide +kernel
theorem d_A_touches_13 : decode b_A_touches 13 = .ok (.iload 4, 2) := by decide +kernel
theorem d_A_touches_15 : decode b_A_touches 15 = .ok (.ireturn, 1) := by decide +kernel
theorem d_A_touches_16 : decode b_A_touches 16 = .ok (.aload_n 0, 1) := by decide +kernel
theorem d_A_touches_17 : decode b_A_touches 17 = .ok (.getfield 12, 3) := by decide +kernel
theorem d_A_touches_20 : decode b_A_touches 20 = .ok (.iload_n 3, 1) := by decide +kernel
theorem d_A_touches_21 : decode b_A_touches 21 = .ok (.invokevirtual 51, 3) := by decide +kernel
theorem d_A_touches_24 : decode b_A_touches 24 = .ok (.ifCond .ne 5, 3) := by decide +kernel
theorem d_A_touches_27 : decode b_A_touches 27 = .ok (.iconst (-1), 1) := by decide +kernel
theorem d_A_touches_28 : decode b_A_touches 28 = .ok (.ireturn, 1) := by decide +kernel
theorem d_A_touches_29 : decode b_A_touches 29 = .ok (.aload_n 0, 1) := by decide +kernel
theorem d_A_touches_30 : decode b_A_touches 30 = .ok (.getfield 21, 3) := by decide +kernel
theorem d_A_touches_33 : decode b_A_touches 33 = .ok (.iload 4, 2) := by decide +kernel
theorem d_A_touches_35 : decode b_A_touches 35 = .ok (.iconst 2, 1) := by decide +kernel
theorem d_A_touches_36 : decode b_A_touches 36 = .ok (.iload_n 3, 1) := by decide +kernel
theorem d_A_touches_37 : decode b_A_touches 37 = .ok (.imul, 1) := by decide +kernel
theorem d_A_touches_38 : decode b_A_touches 38 = .ok (.invokevirtual 77, 3) := by decide +kernel
theorem d_A_touches_41 : decode b_A_touches 41 = .ok (.ifCond .eq 7, 3) := by decide +kernel
theorem d_A_touches_44 : decode b_A_touches 44 = .ok (.iconst 1, 1) := by decide +kernel
theorem d_A_touches_45 : decode b_A_touches 45 = .ok (.goto 4, 3) := by decide +kernel
theorem d_A_touches_48 : decode b_A_touches 48 = .ok (.iconst 0, 1) := by decide +kernel
theorem d_A_touches_49 : decode b_A_touches 49 = .ok (.istore 5, 2) := by decide +kernel
theorem d_A_touches_51 : decode b_A_touches 51 = .ok (.aload_n 0, 1) := by decide +kernel
theorem d_A_touches_52 : decode b_A_touches 52 = .ok (.getfield 21, 3) := by decide +kernel
theorem d_A_touches_55 : decode b_A_touches 55 = .ok (.iload 4, 2) := by decide +kernel
theorem d_A_touches_57 : decode b_A_touches 57 = .ok (.iconst 2, 1) := by decide +kernel
theorem d_A_touches_58 : decode b_A_touches 58 = .ok (.iload_n 3, 1) := by decide +kernel
theorem d_A_touches_59 : decode b_A_touches 59 = .ok (.imul, 1) := by decide +kernel
theorem d_A_touches_60 : decode b_A_touches 60 = .ok (.iconst 1, 1) := by decide +kernel
theorem d_A_touches_61 : decode b_A_touches 61 = .ok (.iadd, 1) := by decide +kernel
theorem d_A_touches_62 : decode b_A_touches 62 = .ok (.invokevirtual 77, 3) := by decide +kernel
theorem d_A_touches_65 : decode b_A_touches 65 = .ok (.ifCond .eq 7, 3) := by decide +kernel
theorem d_A_touches_68 : decode b_A_touches 68 = .ok (.iconst 2, 1) := by decide +kernel
theorem d_A_touches_69 : decode b_A_touches 69 = .ok (.goto 4, 3) := by decide +kernel
theorem d_A_touches_72 : decode b_A_touches 72 = .ok (.iconst 0, 1) := by decide +kernel
theorem d_A_touches_73 : decode b_A_touches 73 = .ok (.istore 6, 2) := by decide +kernel
theorem d_A_touches_75 : decode b_A_touches 75 = .ok (.iload 5, 2) := by decide +kernel
theorem d_A_touches_77 : decode b_A_touches 77 = .ok (.iload 6, 2) := by decide +kernel
theorem d_A_touches_79 : decode b_A_touches 79 = .ok (.iadd, 1) := by decide +kernel
theorem d_A_touches_80 : decode b_A_touches 80 = .ok (.ireturn, 1) := by decide +kernel
theorem d_A_isNearby_0 : decode b_A_isNearby 0 = .ok (.iload_n 0, 1) := by decide +kernel
theorem d_A_isNearby_1 : decode b_A_isNearby 1 = .ok (.bipush (-100), 2) := by decide +kernel
theorem d_A_isNearby_3 : decode b_A_isNearby 3 = .ok (.if_icmp .lt 25, 3) := by decide +kernel
theorem d_A_isNearby_6 : decode b_A_isNearby 6 = .ok (.iload_n 0, 1) := by decide +kernel
theorem d_A_isNearby_7 : decode b_A_isNearby 7 = .ok (.bipush 100, 2) := by decide +kernel
theorem d_A_isNearby_9 : decode b_A_isNearby 9 = .ok (.if_icmp .gt 19, 3) := by decide +kernel
theorem d_A_isNearby_12 : decode b_A_isNearby 12 = .ok (.iload_n 1, 1) := by decide +kernel
theorem d_A_isNearby_13 : decode b_A_isNearby 13 = .ok (.bipush (-100), 2) := by decide +kernel
theorem d_A_isNearby_15 : decode b_A_isNearby 15 = .ok (.if_icmp .lt 13, 3) := by decide +kernel
theorem d_A_isNearby_18 : decode b_A_isNearby 18 = .ok (.iload_n 1, 1) := by decide +kernel
theorem d_A_isNearby_19 : decode b_A_isNearby 19 = .ok (.bipush 100, 2) := by decide +kernel
theorem d_A_isNearby_21 : decode b_A_isNearby 21 = .ok (.if_icmp .gt 7, 3) := by decide +kernel
theorem d_A_isNearby_24 : decode b_A_isNearby 24 = .ok (.iconst 1, 1) := by decide +kernel
theorem d_A_isNearby_25 : decode b_A_isNearby 25 = .ok (.goto 4, 3) := by decide +kernel
theorem d_A_isNearby_28 : decode b_A_isNearby 28 = .ok (.iconst 0, 1) := by decide +kernel
theorem d_A_isNearby_29 : decode b_A_isNearby 29 = .ok (.ireturn, 1) := by decide +kernel
theorem d_A_sideSeenFrom_0 : decode b_A_sideSeenFrom 0 = .ok (.iload_n 1, 1) := by decide +kernel
theorem d_A_sideSeenFrom_1 : decode b_A_sideSeenFrom 1 = .ok (.iload_n 2, 1) := by decide +kernel
theorem d_A_sideSeenFrom_2 : decode b_A_sideSeenFrom 2 = .ok (.invokestatic 28, 3) := by decide +kernel
theorem d_A_sideSeenFrom_5 : decode b_A_sideSeenFrom 5 = .ok (.ifCond .ne 6, 3) := by decide +kernel
theorem d_A_sideSeenFrom_8 : decode b_A_sideSeenFrom 8 = .ok (.bipush (-2), 2) := by decide +kernel
theorem d_A_sideSeenFrom_10 : decode b_A_sideSeenFrom 10 = .ok (.ireturn, 1) := by decide +kernel
theorem d_A_sideSeenFrom_11 : decode b_A_sideSeenFrom 11 = .ok (.aload_n 0, 1) := by decide +kernel
theorem d_A_sideSeenFrom_12 : decode b_A_sideSeenFrom 12 = .ok (.getfield 12, 3) := by decide +kernel
theorem d_A_sideSeenFrom_15 : decode b_A_sideSeenFrom 15 = .ok (.iload_n 1, 1) := by decide +kernel
theorem d_A_sideSeenFrom_16 : decode b_A_sideSeenFrom 16 = .ok (.iload_n 2, 1) := by decide +kernel
theorem d_A_sideSeenFrom_17 : decode b_A_sideSeenFrom 17 = .ok (.invokevirtual 64, 3) := by decide +kernel
theorem d_A_sideSeenFrom_20 : decode b_A_sideSeenFrom 20 = .ok (.ifCond .gt 16, 3) := by decide +kernel
theorem d_A_sideSeenFrom_23 : decode b_A_sideSeenFrom 23 = .ok (.aload_n 0, 1) := by decide +kernel
theorem d_A_sideSeenFrom_24 : decode b_A_sideSeenFrom 24 = .ok (.getfield 12, 3) := by decide +kernel
theorem d_A_sideSeenFrom_27 : decode b_A_sideSeenFrom 27 = .ok (.iload_n 1, 1) := by decide +kernel
theorem d_A_sideSeenFrom_28 : decode b_A_sideSeenFrom 28 = .ok (.iload_n 2, 1) := by decide +kernel
theorem d_A_sideSeenFrom_29 : decode b_A_sideSeenFrom 29 = .ok (.invokevirtual 68, 3) := by decide +kernel
theorem d_A_sideSeenFrom_32 : decode b_A_sideSeenFrom 32 = .ok (.iconst (-1), 1) := by decide +kernel
theorem d_A_sideSeenFrom_33 : decode b_A_sideSeenFrom 33 = .ok (.if_icmp .eq 5, 3) := by decide +kernel
theorem d_A_sideSeenFrom_36 : decode b_A_sideSeenFrom 36 = .ok (.iconst (-1), 1) := by decide +kernel
theorem d_A_sideSeenFrom_37 : decode b_A_sideSeenFrom 37 = .ok (.ireturn, 1) := by decide +kernel
theorem d_A_sideSeenFrom_38 : decode b_A_sideSeenFrom 38 = .ok (.aload_n 0, 1) := by decide +kernel
theorem d_A_sideSeenFrom_39 : decode b_A_sideSeenFrom 39 = .ok (.getfield 12, 3) := by decide +kernel
theorem d_A_sideSeenFrom_42 : decode b_A_sideSeenFrom 42 = .ok (.iload_n 1, 1) := by decide +kernel
theorem d_A_sideSeenFrom_43 : decode b_A_sideSeenFrom 43 = .ok (.iload_n 2, 1) := by decide +kernel
theorem d_A_sideSeenFrom_44 : decode b_A_sideSeenFrom 44 = .ok (.invokevirtual 83, 3) := by decide +kernel
theorem d_A_sideSeenFrom_47 : decode b_A_sideSeenFrom 47 = .ok (.ireturn, 1) := by decide +kernel
theorem d_A_regroup_0 : decode b_A_regroup 0 = .ok (.aload_n 0, 1) := by decide +kernel
theorem d_A_regroup_1 : decode b_A_regroup 1 = .ok (.getfield 21, 3) := by decide +kernel
theorem d_A_regroup_4 : decode b_A_regroup 4 = .ok (.invokevirtual 86, 3) := by decide +kernel
theorem d_A_regroup_7 : decode b_A_regroup 7 = .ok (.aload_n 0, 1) := by decide +kernel
theorem d_A_regroup_8 : decode b_A_regroup 8 = .ok (.getfield 25, 3) := by decide +kernel
theorem d_A_regroup_11 : decode b_A_regroup 11 = .ok (.invokevirtual 86, 3) := by decide +kernel
theorem d_A_regroup_14 : decode b_A_regroup 14 = .ok (.iconst 0, 1) := by decide +kernel
theorem d_A_regroup_15 : decode b_A_regroup 15 = .ok (.istore_n 1, 1) := by decide +kernel
theorem d_A_regroup_16 : decode b_A_regroup 16 = .ok (.iload_n 1, 1) := by decide +kernel
theorem d_A_regroup_17 : decode b_A_regroup 17 = .ok (.bipush 40, 2) := by decide +kernel
theorem d_A_regroup_19 : decode b_A_regroup 19 = .ok (.if_icmp .ge 30, 3) := by decide +kernel
theorem d_A_regroup_22 : decode b_A_regroup 22 = .ok (.aload_n 0, 1) := by decide +kernel
theorem d_A_regroup_23 : decode b_A_regroup 23 = .ok (.getfield 12, 3) := by decide +kernel
theorem d_A_regroup_26 : decode b_A_regroup 26 = .ok (.iload_n 1, 1) := by decide +kernel
theorem d_A_regroup_27 : decode b_A_regroup 27 = .ok (.invokevirtual 55, 3) := by decide +kernel
theorem d_A_regroup_30 : decode b_A_regroup 30 = .ok (.ifCond .eq 13, 3) := by decide +kernel
theorem d_A_regroup_33 : decode b_A_regroup 33 = .ok (.aload_n 0, 1) := by decide +kernel
theorem d_A_regroup_34 : decode b_A_regroup 34 = .ok (.iload_n 1, 1) := by decide +kernel
theorem d_A_regroup_35 : decode b_A_regroup 35 = .ok (.invokevirtual 89, 3) := by decide +kernel
theorem d_A_regroup_38 : decode b_A_regroup 38 = .ok (.aload_n 0, 1) := by decide +kernel
theorem d_A_regroup_39 : decode b_A_regroup 39 = .ok (.iload_n 1, 1) := by decide +kernel
theorem d_A_regroup_40 : decode b_A_regroup 40 = .ok (.invokevirtual 92, 3) := by decide +kernel
theorem d_A_regroup_43 : decode b_A_regroup 43 = .ok (.iinc 1 1, 3) := by decide +kernel
theorem d_A_regroup_46 : decode b_A_regroup 46 = .ok (.goto (-30), 3) := by decide +kernel
theorem d_A_regroup_49 : decode b_A_regroup 49 = .ok (.return_, 1) := by decide +kernel
theorem d_A_joinWithNextAroundTail_0 : decode b_A_joinWithNextAroundTail 0 = .ok (.aload_n 0, 1) := by decide +kernel
theorem d_A_joinWithNextAroundTail_1 : decode b_A_joinWithNextAroundTail 1 = .ok (.getfield 12, 3) := by decide +kernel
theorem d_A_joinWithNextAroundTail_4 : decode b_A_joinWithNextAroundTail 4 = .ok (.iload_n 1, 1) := by decide +kernel
theorem d_A_joinWithNextAroundTail_5 : decode b_A_joinWithNextAroundTail 5 = .ok (.aload_n 0, 1) := by decide +kernel
theorem d_A_joinWithNextAroundTail_6 : decode b_A_joinWithNextAroundTail 6 = .ok (.getfield 12, 3) := by decide +kernel
theorem d_A_joinWithNextAroundTail_9 : decode b_A_joinWithNextAroundTail 9 = .ok (.iload_n 1, 1) := by decide +kernel
theorem d_A_joinWithNextAroundTail_10 : decode b_A_joinWithNextAroundTail 10 = .ok (.invokevirtual 95, 3) := by decide +kernel
theorem d_A_joinWithNextAroundTail_13 : decode b_A_joinWithNextAroundTail 13 = .ok (.aload_n 0, 1) := by decide +kernel
theorem d_A_joinWithNextAroundTail_14 : decode b_A_joinWithNextAroundTail 14 = .ok (.getfield 12, 3) := by decide +kernel
theorem d_A_joinWithNextAroundTail_17 : decode b_A_joinWithNextAroundTail 17 = .ok (.iload_n 1, 1) := by decide +kernel
theorem d_A_joinWithNextAroundTail_18 : decode b_A_joinWithNextAroundTail 18 = .ok (.invokevirtual 98, 3) := by decide +kernel
theorem d_A_joinWithNextAroundTail_21 : decode b_A_joinWithNextAroundTail 21 = .ok (.invokevirtual 101, 3) := by decide +kernel
theorem d_A_joinWithNextAroundTail_24 : decode b_A_joinWithNextAroundTail 24 = .ok (.istore_n 2, 1) := by decide +kernel
theorem d_A_joinWithNextAroundTail_25 : decode b_A_joinWithNextAroundTail 25 = .ok (.aload_n 0, 1) := by decide +kernel
theorem d_A_joinWithNextAroundTail_26 : decode b_A_joinWithNextAroundTail 26 = .ok (.getfield 21, 3) := by decide +kernel
theorem d_A_joinWithNextAroundTail_29 : decode b_A_joinWithNextAroundTail 29 = .ok (.iload_n 1, 1) := by decide +kernel
theorem d_A_joinWithNextAroundTail_30 : decode b_A_joinWithNextAroundTail 30 = .ok (.iload_n 2, 1) := by decide +kernel
theorem d_A_joinWithNextAroundTail_31 : decode b_A_joinWithNextAroundTail 31 = .ok (.invokevirtual 105, 3) := by decide +kernel
theorem d_A_joinWithNextAroundTail_34 : decode b_A_joinWithNextAroundTail 34 = .ok (.aload_n 0, 1) := by decide +kernel
theorem d_A_joinWithNextAroundTail_35 : decode b_A_joinWithNextAroundTail 35 = .ok (.getfield 25, 3) := by decide +kernel
theorem d_A_joinWithNextAroundTail_38 : decode b_A_joinWithNextAroundTail 38 = .ok (.iload_n 1, 1) := by decide +kernel
theorem d_A_joinWithNextAroundTail_39 : decode b_A_joinWithNextAroundTail 39 = .ok (.iconst 2, 1) := by decide +kernel
theorem d_A_joinWithNextAroundTail_40 : decode b_A_joinWithNextAroundTail 40 = .ok (.idiv, 1) := by decide +kernel
theorem d_A_joinWithNextAroundTail_41 : decode b_A_joinWithNextAroundTail 41 = .ok (.iload_n 2, 1) := by decide +kernel
theorem d_A_joinWithNextAroundTail_42 : decode b_A_joinWithNextAroundTail 42 = .ok (.iconst 2, 1) := by decide +kernel
theorem d_A_joinWithNextAroundTail_43 : decode b_A_joinWithNextAroundTail 43 = .ok (.idiv, 1) := by decide +kernel
theorem d_A_joinWithNextAroundTail_44 : decode b_A_joinWithNextAroundTail 44 = .ok (.invokevirtual 105, 3) := by decide +kernel
theorem d_A_joinWithNextAroundTail_47 : decode b_A_joinWithNextAroundTail 47 = .ok (.return_, 1) := by decide +kernel
theorem d_A_joinWithWhatIsAbove_0 : decode b_A_joinWithWhatIsAbove 0 = .ok (.aload_n 0, 1) := by decide +kernel
theorem d_A_joinWithWhatIsAbove_1 : decode b_A_joinWithWhatIsAbove 1 = .ok (.getfield 12, 3) := by decide +kernel
theorem d_A_joinWithWhatIsAbove_4 : decode b_A_joinWithWhatIsAbove 4 = .ok (.iload_n 1, 1) := by decide +kernel
theorem d_A_joinWithWhatIsAbove_5 : decode b_A_joinWithWhatIsAbove 5 = .ok (.invokevirtual 109, 3) := by decide +kernel
theorem d_A_joinWithWhatIsAbove_8 : decode b_A_joinWithWhatIsAbove 8 = .ok (.ifCond .eq 45, 3) := by decide +kernel
theorem d_A_joinWithWhatIsAbove_11 : decode b_A_joinWithWhatIsAbove 11 = .ok (.aload_n 0, 1) := by decide +kernel
theorem d_A_joinWithWhatIsAbove_12 : decode b_A_joinWithWhatIsAbove 12 = .ok (.getfield 12, 3) := by decide +kernel
theorem d_A_joinWithWhatIsAbove_15 : decode b_A_joinWithWhatIsAbove 15 = .ok (.iload_n 1, 1) := by decide +kernel
theorem d_A_joinWithWhatIsAbove_16 : decode b_A_joinWithWhatIsAbove 16 = .ok (.iconst 0, 1) := by decide +kernel
theorem d_A_joinWithWhatIsAbove_17 : decode b_A_joinWithWhatIsAbove 17 = .ok (.iconst 1, 1) := by decide +kernel
theorem d_A_joinWithWhatIsAbove_18 : decode b_A_joinWithWhatIsAbove 18 = .ok (.invokevirtual 101, 3) := by decide +kernel
theorem d_A_joinWithWhatIsAbove_21 : decode b_A_joinWithWhatIsAbove 21 = .ok (.istore_n 2, 1) := by decide +kernel
theorem d_A_joinWithWhatIsAbove_22 : decode b_A_joinWithWhatIsAbove 22 = .ok (.aload_n 0, 1) := by decide +kernel
theorem d_A_joinWithWhatIsAbove_23 : decode b_A_joinWithWhatIsAbove 23 = .ok (.getfield 21, 3) := by decide +kernel
theorem d_A_joinWithWhatIsAbove_26 : decode b_A_joinWithWhatIsAbove 26 = .ok (.iload_n 2, 1) := by decide +kernel
theorem d_A_joinWithWhatIsAbove_27 : decode b_A_joinWithWhatIsAbove 27 = .ok (.aload_n 0, 1) := by decide +kernel
theorem d_A_joinWithWhatIsAbove_28 : decode b_A_joinWithWhatIsAbove 28 = .ok (.getfield 12, 3) := by decide +kernel
theorem d_A_joinWithWhatIsAbove_31 : decode b_A_joinWithWhatIsAbove 31 = .ok (.aload_n 0, 1) := by decide +kernel
theorem d_A_joinWithWhatIsAbove_32 : decode b_A_joinWithWhatIsAbove 32 = .ok (.getfield 12, 3) := by decide +kernel
theorem d_A_joinWithWhatIsAbove_35 : decode b_A_joinWithWhatIsAbove 35 = .ok (.iload_n 1, 1) := by decide +kernel
theorem d_A_joinWithWhatIsAbove_36 : decode b_A_joinWithWhatIsAbove 36 = .ok (.invokevirtual 112, 3) := by decide +kernel
theorem d_A_joinWithWhatIsAbove_39 : decode b_A_joinWithWhatIsAbove 39 = .ok (.aload_n 0, 1) := by decide +kernel
theorem d_A_joinWithWhatIsAbove_40 : decode b_A_joinWithWhatIsAbove 40 = .ok (.getfield 12, 3) := by decide +kernel
theorem d_A_joinWithWhatIsAbove_43 : decode b_A_joinWithWhatIsAbove 43 = .ok (.iload_n 1, 1) := by decide +kernel
theorem d_A_joinWithWhatIsAbove_44 : decode b_A_joinWithWhatIsAbove 44 = .ok (.invokevirtual 115, 3) := by decide +kernel
theorem d_A_joinWithWhatIsAbove_47 : decode b_A_joinWithWhatIsAbove 47 = .ok (.invokevirtual 83, 3) := by decide +kernel
theorem d_A_joinWithWhatIsAbove_50 : decode b_A_joinWithWhatIsAbove 50 = .ok (.invokevirtual 105, 3) := by decide +kernel
theorem d_A_joinWithWhatIsAbove_53 : decode b_A_joinWithWhatIsAbove 53 = .ok (.return_, 1) := by decide +kernel
theorem d_L_law_0 : decode code 0 = .ok (.new 7, 3) := by decide +kernel
theorem d_L_law_3 : decode code 3 = .ok (.dup, 1) := by decide +kernel
theorem d_L_law_4 : decode code 4 = .ok (.invokespecial 9, 3) := by decide +kernel
theorem d_L_law_7 : decode code 7 = .ok (.astore_n 1, 1) := by decide +kernel
theorem d_L_law_8 : decode code 8 = .ok (.new 10, 3) := by decide +kernel
theorem d_L_law_11 : decode code 11 = .ok (.dup, 1) := by decide +kernel
theorem d_L_law_12 : decode code 12 = .ok (.invokespecial 12, 3) := by decide +kernel
theorem d_L_law_15 : decode code 15 = .ok (.astore_n 2, 1) := by decide +kernel
theorem d_L_law_16 : decode code 16 = .ok (.iconst 0, 1) := by decide +kernel
theorem d_L_law_17 : decode code 17 = .ok (.istore_n 3, 1) := by decide +kernel
theorem d_L_law_18 : decode code 18 = .ok (.iload_n 3, 1) := by decide +kernel
theorem d_L_law_19 : decode code 19 = .ok (.aload_n 0, 1) := by decide +kernel
theorem d_L_law_20 : decode code 20 = .ok (.arraylength, 1) := by decide +kernel
theorem d_L_law_21 : decode code 21 = .ok (.iconst 5, 1) := by decide +kernel
theorem d_L_law_22 : decode code 22 = .ok (.isub, 1) := by decide +kernel
theorem d_L_law_23 : decode code 23 = .ok (.if_icmp .gt 398, 3) := by decide +kernel
theorem d_L_law_26 : decode code 26 = .ok (.aload_n 0, 1) := by decide +kernel
theorem d_L_law_27 : decode code 27 = .ok (.iload_n 3, 1) := by decide +kernel
theorem d_L_law_28 : decode code 28 = .ok (.iaload, 1) := by decide +kernel
theorem d_L_law_29 : decode code 29 = .ok (.bipush 15, 2) := by decide +kernel
theorem d_L_law_31 : decode code 31 = .ok (.iand, 1) := by decide +kernel
theorem d_L_law_32 : decode code 32 = .ok (.tableswitch 383 0 10 #[60, 113, 136, 149, 162, 175, 188, 221, 274, 307, 340], 60) := by decide +kernel
theorem d_L_law_92 : decode code 92 = .ok (.aload_n 1, 1) := by decide +kernel
theorem d_L_law_93 : decode code 93 = .ok (.aload_n 0, 1) := by decide +kernel
theorem d_L_law_94 : decode code 94 = .ok (.iload_n 3, 1) := by decide +kernel
theorem d_L_law_95 : decode code 95 = .ok (.iconst 1, 1) := by decide +kernel
theorem d_L_law_96 : decode code 96 = .ok (.iadd, 1) := by decide +kernel
theorem d_L_law_97 : decode code 97 = .ok (.iaload, 1) := by decide +kernel
theorem d_L_law_98 : decode code 98 = .ok (.aload_n 0, 1) := by decide +kernel
theorem d_L_law_99 : decode code 99 = .ok (.iload_n 3, 1) := by decide +kernel
theorem d_L_law_100 : decode code 100 = .ok (.iconst 2, 1) := by decide +kernel
theorem d_L_law_101 : decode code 101 = .ok (.iadd, 1) := by decide +kernel
theorem d_L_law_102 : decode code 102 = .ok (.iaload, 1) := by decide +kernel
theorem d_L_law_103 : decode code 103 = .ok (.aload_n 0, 1) := by decide +kernel
theorem d_L_law_104 : decode code 104 = .ok (.iload_n 3, 1) := by decide +kernel
theorem d_L_law_105 : decode code 105 = .ok (.iconst 3, 1) := by decide +kernel
theorem d_L_law_106 : decode code 106 = .ok (.iadd, 1) := by decide +kernel
theorem d_L_law_107 : decode code 107 = .ok (.iaload, 1) := by decide +kernel
theorem d_L_law_108 : decode code 108 = .ok (.aload_n 0, 1) := by decide +kernel
theorem d_L_law_109 : decode code 109 = .ok (.iload_n 3, 1) := by decide +kernel
theorem d_L_law_110 : decode code 110 = .ok (.iconst 4, 1) := by decide +kernel
theorem d_L_law_111 : decode code 111 = .ok (.iadd, 1) := by decide +kernel
theorem d_L_law_112 : decode code 112 = .ok (.iaload, 1) := by decide +kernel
theorem d_L_law_113 : decode code 113 = .ok (.invokevirtual 13, 3) := by decide +kernel
theorem d_L_law_116 : decode code 116 = .ok (.aload_n 2, 1) := by decide +kernel
theorem d_L_law_117 : decode code 117 = .ok (.aload_n 0, 1) := by decide +kernel
theorem d_L_law_118 : decode code 118 = .ok (.iload_n 3, 1) := by decide +kernel
theorem d_L_law_119 : decode code 119 = .ok (.iconst 1, 1) := by decide +kernel
theorem d_L_law_120 : decode code 120 = .ok (.iadd, 1) := by decide +kernel
theorem d_L_law_121 : decode code 121 = .ok (.iaload, 1) := by decide +kernel
theorem d_L_law_122 : decode code 122 = .ok (.aload_n 0, 1) := by decide +kernel
theorem d_L_law_123 : decode code 123 = .ok (.iload_n 3, 1) := by decide +kernel
theorem d_L_law_124 : decode code 124 = .ok (.iconst 2, 1) := by decide +kernel
theorem d_L_law_125 : decode code 125 = .ok (.iadd, 1) := by decide +kernel
theorem d_L_law_126 : decode code 126 = .ok (.iaload, 1) := by decide +kernel
theorem d_L_law_127 : decode code 127 = .ok (.aload_n 0, 1) := by decide +kernel
theorem d_L_law_128 : decode code 128 = .ok (.iload_n 3, 1) := by decide +kernel
theorem d_L_law_129 : decode code 129 = .ok (.iconst 3, 1) := by decide +kernel
theorem d_L_law_130 : decode code 130 = .ok (.iadd, 1) := by decide +kernel
theorem d_L_law_131 : decode code 131 = .ok (.iaload, 1) := by decide +kernel
theorem d_L_law_132 : decode code 132 = .ok (.aload_n 0, 1) := by decide +kernel
theorem d_L_law_133 : decode code 133 = .ok (.iload_n 3, 1) := by decide +kernel
theorem d_L_law_134 : decode code 134 = .ok (.iconst 4, 1) := by decide +kernel
theorem d_L_law_135 : decode code 135 = .ok (.iadd, 1) := by decide +kernel
theorem d_L_law_136 : decode code 136 = .ok (.iaload, 1) := by decide +kernel
theorem d_L_law_137 : decode code 137 = .ok (.invokevirtual 17, 3) := by decide +kernel
theorem d_L_law_140 : decode code 140 = .ok (.if_icmp .eq 275, 3) := by decide +kernel
theorem d_L_law_143 : decode code 143 = .ok (.iconst 0, 1) := by decide +kernel
theorem d_L_law_144 : decode code 144 = .ok (.ireturn, 1) := by decide +kernel
theorem d_L_law_145 : decode code 145 = .ok (.aload_n 1, 1) := by decide +kernel
theorem d_L_law_146 : decode code 146 = .ok (.aload_n 0, 1) := by decide +kernel
theorem d_L_law_147 : decode code 147 = .ok (.iload_n 3, 1) := by decide +kernel
theorem d_L_law_148 : decode code 148 = .ok (.iconst 1, 1) := by decide +kernel
theorem d_L_law_149 : decode code 149 = .ok (.iadd, 1) := by decide +kernel
theorem d_L_law_150 : decode code 150 = .ok (.iaload, 1) := by decide +kernel
theorem d_L_law_151 : decode code 151 = .ok (.invokevirtual 18, 3) := by decide +kernel
theorem d_L_law_154 : decode code 154 = .ok (.aload_n 2, 1) := by decide +kernel
theorem d_L_law_155 : decode code 155 = .ok (.aload_n 0, 1) := by decide +kernel
theorem d_L_law_156 : decode code 156 = .ok (.iload_n 3, 1) := by decide +kernel
theorem d_L_law_157 : decode code 157 = .ok (.iconst 1, 1) := by decide +kernel
theorem d_L_law_158 : decode code 158 = .ok (.iadd, 1) := by decide +kernel
theorem d_L_law_159 : decode code 159 = .ok (.iaload, 1) := by decide +kernel
theorem d_L_law_160 : decode code 160 = .ok (.invokevirtual 22, 3) := by decide +kernel
theorem d_L_law_163 : decode code 163 = .ok (.if_icmp .eq 252, 3) := by decide +kernel
theorem d_L_law_166 : decode code 166 = .ok (.iconst 0, 1) := by decide +kernel
theorem d_L_law_167 : decode code 167 = .ok (.ireturn, 1) := by decide +kernel
theorem d_L_law_168 : decode code 168 = .ok (.aload_n 1, 1) := by decide +kernel
theorem d_L_law_169 : decode code 169 = .ok (.invokevirtual 23, 3) := by decide +kernel
theorem d_L_law_172 : decode code 172 = .ok (.aload_n 2, 1) := by decide +kernel
theorem d_L_law_173 : decode code 173 = .ok (.invokevirtual 27, 3) := by decide +kernel
theorem d_L_law_176 : decode code 176 = .ok (.if_icmp .eq 239, 3) := by decide +kernel
theorem d_L_law_179 : decode code 179 = .ok (.iconst 0, 1) := by decide +kernel
theorem d_L_law_180 : decode code 180 = .ok (.ireturn, 1) := by decide +kernel
theorem d_L_law_181 : decode code 181 = .ok (.aload_n 1, 1) := by decide +kernel
theorem d_L_law_182 : decode code 182 = .ok (.invokevirtual 28, 3) := by decide +kernel
theorem d_L_law_185 : decode code 185 = .ok (.aload_n 2, 1) := by decide +kernel
theorem d_L_law_186 : decode code 186 = .ok (.invokevirtual 31, 3) := by decide +kernel
theorem d_L_law_189 : decode code 189 = .ok (.if_icmp .eq 226, 3) := by decide +kernel
theorem d_L_law_192 : decode code 192 = .ok (.iconst 0, 1) := by decide +kernel
theorem d_L_law_193 : decode code 193 = .ok (.ireturn, 1) := by decide +kernel
theorem d_L_law_194 : decode code 194 = .ok (.aload_n 1, 1) := by decide +kernel
theorem d_L_law_195 : decode code 195 = .ok (.invokevirtual 32, 3) := by decide +kernel
theorem d_L_law_198 : decode code 198 = .ok (.aload_n 2, 1) := by decide +kernel
theorem d_L_law_199 : decode code 199 = .ok (.invokevirtual 35, 3) := by decide +kernel
theorem d_L_law_202 : decode code 202 = .ok (.if_icmp .eq 213, 3) := by decide +kernel
theorem d_L_law_205 : decode code 205 = .ok (.iconst 0, 1) := by decide +kernel
theorem d_L_law_206 : decode code 206 = .ok (.ireturn, 1) := by decide +kernel
theorem d_L_law_207 : decode code 207 = .ok (.aload_n 1, 1) := by decide +kernel
theorem d_L_law_208 : decode code 208 = .ok (.invokevirtual 36, 3) := by decide +kernel
theorem d_L_law_211 : decode code 211 = .ok (.aload_n 2, 1) := by decide +kernel
theorem d_L_law_212 : decode code 212 = .ok (.invokevirtual 39, 3) := by decide +kernel
theorem d_L_law_215 : decode code 215 = .ok (.if_icmp .eq 200, 3) := by decide +kernel
theorem d_L_law_218 : decode code 218 = .ok (.iconst 0, 1) := by decide +kernel
theorem d_L_law_219 : decode code 219 = .ok (.ireturn, 1) := by decide +kernel
theorem d_L_law_220 : decode code 220 = .ok (.aload_n 1, 1) := by decide +kernel
theorem d_L_law_221 : decode code 221 = .ok (.aload_n 0, 1) := by decide +kernel
theorem d_L_law_222 : decode code 222 = .ok (.iload_n 3, 1) := by decide +kernel
theorem d_L_law_223 : decode code 223 = .ok (.iconst 1, 1) := by decide +kernel
theorem d_L_law_224 : decode code 224 = .ok (.iadd, 1) := by decide +kernel
theorem d_L_law_225 : decode code 225 = .ok (.iaload, 1) := by decide +kernel
theorem d_L_law_226 : decode code 226 = .ok (.aload_n 0, 1) := by decide +kernel
theorem d_L_law_227 : decode code 227 = .ok (.iload_n 3, 1) := by decide +kernel
theorem d_L_law_228 : decode code 228 = .ok (.iconst 2, 1) := by decide +kernel
theorem d_L_law_229 : decode code 229 = .ok (.iadd, 1) := by decide +kernel
theorem d_L_law_230 : decode code 230 = .ok (.iaload, 1) := by decide +kernel
theorem d_L_law_231 : decode code 231 = .ok (.invokevirtual 40, 3) := by decide +kernel
theorem d_L_law_234 : decode code 234 = .ok (.aload_n 2, 1) := by decide +kernel
theorem d_L_law_235 : decode code 235 = .ok (.aload_n 0, 1) := by decide +kernel
theorem d_L_law_236 : decode code 236 = .ok (.iload_n 3, 1) := by decide +kernel
theorem d_L_law_237 : decode code 237 = .ok (.iconst 1, 1) := by decide +kernel
theorem d_L_law_238 : decode code 238 = .ok (.iadd, 1) := by decide +kernel
theorem d_L_law_239 : decode code 239 = .ok (.iaload, 1) := by decide +kernel
theorem d_L_law_240 : decode code 240 = .ok (.aload_n 0, 1) := by decide +kernel
theorem d_L_law_241 : decode code 241 = .ok (.iload_n 3, 1) := by decide +kernel
theorem d_L_law_242 : decode code 242 = .ok (.iconst 2, 1) := by decide +kernel
theorem d_L_law_243 : decode code 243 = .ok (.iadd, 1) := by decide +kernel
theorem d_L_law_244 : decode code 244 = .ok (.iaload, 1) := by decide +kernel
theorem d_L_law_245 : decode code 245 = .ok (.invokevirtual 44, 3) := by decide +kernel
theorem d_L_law_248 : decode code 248 = .ok (.if_icmp .eq 167, 3) := by decide +kernel
theorem d_L_law_251 : decode code 251 = .ok (.iconst 0, 1) := by decide +kernel
theorem d_L_law_252 : decode code 252 = .ok (.ireturn, 1) := by decide +kernel
theorem d_L_law_253 : decode code 253 = .ok (.aload_n 1, 1) := by decide +kernel
theorem d_L_law_254 : decode code 254 = .ok (.aload_n 0, 1) := by decide +kernel
theorem d_L_law_255 : decode code 255 = .ok (.iload_n 3, 1) := by decide +kernel
theorem d_L_law_256 : decode code 256 = .ok (.iconst 1, 1) := by decide +kernel
theorem d_L_law_257 : decode code 257 = .ok (.iadd, 1) := by decide +kernel
theorem d_L_law_258 : decode code 258 = .ok (.iaload, 1) := by decide +kernel
theorem d_L_law_259 : decode code 259 = .ok (.aload_n 0, 1) := by decide +kernel
theorem d_L_law_260 : decode code 260 = .ok (.iload_n 3, 1) := by decide +kernel
theorem d_L_law_261 : decode code 261 = .ok (.iconst 2, 1) := by decide +kernel
theorem d_L_law_262 : decode code 262 = .ok (.iadd, 1) := by decide +kernel
theorem d_L_law_263 : decode code 263 = .ok (.iaload, 1) := by decide +kernel
theorem d_L_law_264 : decode code 264 = .ok (.aload_n 0, 1) := by decide +kernel
theorem d_L_law_265 : decode code 265 = .ok (.iload_n 3, 1) := by decide +kernel
theorem d_L_law_266 : decode code 266 = .ok (.iconst 3, 1) := by decide +kernel
theorem d_L_law_267 : decode code 267 = .ok (.iadd, 1) := by decide +kernel
theorem d_L_law_268 : decode code 268 = .ok (.iaload, 1) := by decide +kernel
theorem d_L_law_269 : decode code 269 = .ok (.aload_n 0, 1) := by decide +kernel
theorem d_L_law_270 : decode code 270 = .ok (.iload_n 3, 1) := by decide +kernel
theorem d_L_law_271 : decode code 271 = .ok (.iconst 4, 1) := by decide +kernel
theorem d_L_law_272 : decode code 272 = .ok (.iadd, 1) := by decide +kernel
theorem d_L_law_273 : decode code 273 = .ok (.iaload, 1) := by decide +kernel
theorem d_L_law_274 : decode code 274 = .ok (.invokevirtual 45, 3) := by decide +kernel
theorem d_L_law_277 : decode code 277 = .ok (.aload_n 2, 1) := by decide +kernel
theorem d_L_law_278 : decode code 278 = .ok (.aload_n 0, 1) := by decide +kernel
theorem d_L_law_279 : decode code 279 = .ok (.iload_n 3, 1) := by decide +kernel
theorem d_L_law_280 : decode code 280 = .ok (.iconst 1, 1) := by decide +kernel
theorem d_L_law_281 : decode code 281 = .ok (.iadd, 1) := by decide +kernel
theorem d_L_law_282 : decode code 282 = .ok (.iaload, 1) := by decide +kernel
theorem d_L_law_283 : decode code 283 = .ok (.aload_n 0, 1) := by decide +kernel
theorem d_L_law_284 : decode code 284 = .ok (.iload_n 3, 1) := by decide +kernel
theorem d_L_law_285 : decode code 285 = .ok (.iconst 2, 1) := by decide +kernel
theorem d_L_law_286 : decode code 286 = .ok (.iadd, 1) := by decide +kernel
theorem d_L_law_287 : decode code 287 = .ok (.iaload, 1) := by decide +kernel
theorem d_L_law_288 : decode code 288 = .ok (.aload_n 0, 1) := by decide +kernel
theorem d_L_law_289 : decode code 289 = .ok (.iload_n 3, 1) := by decide +kernel
theorem d_L_law_290 : decode code 290 = .ok (.iconst 3, 1) := by decide +kernel
theorem d_L_law_291 : decode code 291 = .ok (.iadd, 1) := by decide +kernel
theorem d_L_law_292 : decode code 292 = .ok (.iaload, 1) := by decide +kernel
theorem d_L_law_293 : decode code 293 = .ok (.aload_n 0, 1) := by decide +kernel
theorem d_L_law_294 : decode code 294 = .ok (.iload_n 3, 1) := by decide +kernel
theorem d_L_law_295 : decode code 295 = .ok (.iconst 4, 1) := by decide +kernel
theorem d_L_law_296 : decode code 296 = .ok (.iadd, 1) := by decide +kernel
theorem d_L_law_297 : decode code 297 = .ok (.iaload, 1) := by decide +kernel
theorem d_L_law_298 : decode code 298 = .ok (.invokevirtual 49, 3) := by decide +kernel
theorem d_L_law_301 : decode code 301 = .ok (.if_icmp .eq 114, 3) := by decide +kernel
theorem d_L_law_304 : decode code 304 = .ok (.iconst 0, 1) := by decide +kernel
theorem d_L_law_305 : decode code 305 = .ok (.ireturn, 1) := by decide +kernel
theorem d_L_law_306 : decode code 306 = .ok (.aload_n 1, 1) := by decide +kernel
theorem d_L_law_307 : decode code 307 = .ok (.aload_n 0, 1) := by decide +kernel
theorem d_L_law_308 : decode code 308 = .ok (.iload_n 3, 1) := by decide +kernel
theorem d_L_law_309 : decode code 309 = .ok (.iconst 1, 1) := by decide +kernel
theorem d_L_law_310 : decode code 310 = .ok (.iadd, 1) := by decide +kernel
theorem d_L_law_311 : decode code 311 = .ok (.iaload, 1) := by decide +kernel
theorem d_L_law_312 : decode code 312 = .ok (.aload_n 0, 1) := by decide +kernel
theorem d_L_law_313 : decode code 313 = .ok (.iload_n 3, 1) := by decide +kernel
theorem d_L_law_314 : decode code 314 = .ok (.iconst 2, 1) := by decide +kernel
theorem d_L_law_315 : decode code 315 = .ok (.iadd, 1) := by decide +kernel
theorem d_L_law_316 : decode code 316 = .ok (.iaload, 1) := by decide +kernel
theorem d_L_law_317 : decode code 317 = .ok (.invokevirtual 50, 3) := by decide +kernel
theorem d_L_law_320 : decode code 320 = .ok (.aload_n 2, 1) := by decide +kernel
theorem d_L_law_321 : decode code 321 = .ok (.aload_n 0, 1) := by decide +kernel
theorem d_L_law_322 : decode code 322 = .ok (.iload_n 3, 1) := by decide +kernel
theorem d_L_law_323 : decode code 323 = .ok (.iconst 1, 1) := by decide +kernel
theorem d_L_law_324 : decode code 324 = .ok (.iadd, 1) := by decide +kernel
theorem d_L_law_325 : decode code 325 = .ok (.iaload, 1) := by decide +kernel
theorem d_L_law_326 : decode code 326 = .ok (.aload_n 0, 1) := by decide +kernel
theorem d_L_law_327 : decode code 327 = .ok (.iload_n 3, 1) := by decide +kernel
theorem d_L_law_328 : decode code 328 = .ok (.iconst 2, 1) := by decide +kernel
theorem d_L_law_329 : decode code 329 = .ok (.iadd, 1) := by decide +kernel
theorem d_L_law_330 : decode code 330 = .ok (.iaload, 1) := by decide +kernel
theorem d_L_law_331 : decode code 331 = .ok (.invokevirtual 53, 3) := by decide +kernel
theorem d_L_law_334 : decode code 334 = .ok (.if_icmp .eq 81, 3) := by decide +kernel
theorem d_L_law_337 : decode code 337 = .ok (.iconst 0, 1) := by decide +kernel
theorem d_L_law_338 : decode code 338 = .ok (.ireturn, 1) := by decide +kernel
theorem d_L_law_339 : decode code 339 = .ok (.aload_n 1, 1) := by decide +kernel
theorem d_L_law_340 : decode code 340 = .ok (.aload_n 0, 1) := by decide +kernel
theorem d_L_law_341 : decode code 341 = .ok (.iload_n 3, 1) := by decide +kernel
theorem d_L_law_342 : decode code 342 = .ok (.iconst 1, 1) := by decide +kernel
theorem d_L_law_343 : decode code 343 = .ok (.iadd, 1) := by decide +kernel
theorem d_L_law_344 : decode code 344 = .ok (.iaload, 1) := by decide +kernel
theorem d_L_law_345 : decode code 345 = .ok (.aload_n 0, 1) := by decide +kernel
theorem d_L_law_346 : decode code 346 = .ok (.iload_n 3, 1) := by decide +kernel
theorem d_L_law_347 : decode code 347 = .ok (.iconst 2, 1) := by decide +kernel
theorem d_L_law_348 : decode code 348 = .ok (.iadd, 1) := by decide +kernel
theorem d_L_law_349 : decode code 349 = .ok (.iaload, 1) := by decide +kernel
theorem d_L_law_350 : decode code 350 = .ok (.invokevirtual 54, 3) := by decide +kernel
theorem d_L_law_353 : decode code 353 = .ok (.aload_n 2, 1) := by decide +kernel
theorem d_L_law_354 : decode code 354 = .ok (.aload_n 0, 1) := by decide +kernel
theorem d_L_law_355 : decode code 355 = .ok (.iload_n 3, 1) := by decide +kernel
theorem d_L_law_356 : decode code 356 = .ok (.iconst 1, 1) := by decide +kernel
theorem d_L_law_357 : decode code 357 = .ok (.iadd, 1) := by decide +kernel
theorem d_L_law_358 : decode code 358 = .ok (.iaload, 1) := by decide +kernel
theorem d_L_law_359 : decode code 359 = .ok (.aload_n 0, 1) := by decide +kernel
theorem d_L_law_360 : decode code 360 = .ok (.iload_n 3, 1) := by decide +kernel
theorem d_L_law_361 : decode code 361 = .ok (.iconst 2, 1) := by decide +kernel
theorem d_L_law_362 : decode code 362 = .ok (.iadd, 1) := by decide +kernel
theorem d_L_law_363 : decode code 363 = .ok (.iaload, 1) := by decide +kernel
theorem d_L_law_364 : decode code 364 = .ok (.invokevirtual 57, 3) := by decide +kernel
theorem d_L_law_367 : decode code 367 = .ok (.if_icmp .eq 48, 3) := by decide +kernel
theorem d_L_law_370 : decode code 370 = .ok (.iconst 0, 1) := by decide +kernel
theorem d_L_law_371 : decode code 371 = .ok (.ireturn, 1) := by decide +kernel
theorem d_L_law_372 : decode code 372 = .ok (.aload_n 1, 1) := by decide +kernel
theorem d_L_law_373 : decode code 373 = .ok (.aload_n 0, 1) := by decide +kernel
theorem d_L_law_374 : decode code 374 = .ok (.iload_n 3, 1) := by decide +kernel
theorem d_L_law_375 : decode code 375 = .ok (.iconst 1, 1) := by decide +kernel
theorem d_L_law_376 : decode code 376 = .ok (.iadd, 1) := by decide +kernel
theorem d_L_law_377 : decode code 377 = .ok (.iaload, 1) := by decide +kernel
theorem d_L_law_378 : decode code 378 = .ok (.aload_n 0, 1) := by decide +kernel
theorem d_L_law_379 : decode code 379 = .ok (.iload_n 3, 1) := by decide +kernel
theorem d_L_law_380 : decode code 380 = .ok (.iconst 2, 1) := by decide +kernel
theorem d_L_law_381 : decode code 381 = .ok (.iadd, 1) := by decide +kernel
theorem d_L_law_382 : decode code 382 = .ok (.iaload, 1) := by decide +kernel
theorem d_L_law_383 : decode code 383 = .ok (.aload_n 0, 1) := by decide +kernel
theorem d_L_law_384 : decode code 384 = .ok (.iload_n 3, 1) := by decide +kernel
theorem d_L_law_385 : decode code 385 = .ok (.iconst 3, 1) := by decide +kernel
theorem d_L_law_386 : decode code 386 = .ok (.iadd, 1) := by decide +kernel
theorem d_L_law_387 : decode code 387 = .ok (.iaload, 1) := by decide +kernel
theorem d_L_law_388 : decode code 388 = .ok (.invokevirtual 58, 3) := by decide +kernel
theorem d_L_law_391 : decode code 391 = .ok (.aload_n 2, 1) := by decide +kernel
theorem d_L_law_392 : decode code 392 = .ok (.aload_n 0, 1) := by decide +kernel
theorem d_L_law_393 : decode code 393 = .ok (.iload_n 3, 1) := by decide +kernel
theorem d_L_law_394 : decode code 394 = .ok (.iconst 1, 1) := by decide +kernel
theorem d_L_law_395 : decode code 395 = .ok (.iadd, 1) := by decide +kernel
theorem d_L_law_396 : decode code 396 = .ok (.iaload, 1) := by decide +kernel
theorem d_L_law_397 : decode code 397 = .ok (.aload_n 0, 1) := by decide +kernel
theorem d_L_law_398 : decode code 398 = .ok (.iload_n 3, 1) := by decide +kernel
theorem d_L_law_399 : decode code 399 = .ok (.iconst 2, 1) := by decide +kernel
theorem d_L_law_400 : decode code 400 = .ok (.iadd, 1) := by decide +kernel
theorem d_L_law_401 : decode code 401 = .ok (.iaload, 1) := by decide +kernel
theorem d_L_law_402 : decode code 402 = .ok (.aload_n 0, 1) := by decide +kernel
theorem d_L_law_403 : decode code 403 = .ok (.iload_n 3, 1) := by decide +kernel
theorem d_L_law_404 : decode code 404 = .ok (.iconst 3, 1) := by decide +kernel
theorem d_L_law_405 : decode code 405 = .ok (.iadd, 1) := by decide +kernel
theorem d_L_law_406 : decode code 406 = .ok (.iaload, 1) := by decide +kernel
theorem d_L_law_407 : decode code 407 = .ok (.invokevirtual 62, 3) := by decide +kernel
theorem d_L_law_410 : decode code 410 = .ok (.if_icmp .eq 5, 3) := by decide +kernel
theorem d_L_law_413 : decode code 413 = .ok (.iconst 0, 1) := by decide +kernel
theorem d_L_law_414 : decode code 414 = .ok (.ireturn, 1) := by decide +kernel
theorem d_L_law_415 : decode code 415 = .ok (.iinc 3 5, 3) := by decide +kernel
theorem d_L_law_418 : decode code 418 = .ok (.goto (-400), 3) := by decide +kernel
theorem d_L_law_421 : decode code 421 = .ok (.iconst 1, 1) := by decide +kernel
theorem d_L_law_422 : decode code 422 = .ok (.ireturn, 1) := by decide +kernel
end
section
theorem d_R_init_0 : decode b_R_init 0 = .ok (.aload_n 0, 1) := by decide +kernel
theorem d_R_init_1 : decode b_R_init 1 = .ok (.invokespecial 1, 3) := by decide +kernel
theorem d_R_init_4 : decode b_R_init 4 = .ok (.aload_n 0, 1) := by decide +kernel
theorem d_R_init_5 : decode b_R_init 5 = .ok (.bipush 20, 2) := by decide +kernel
theorem d_R_init_7 : decode b_R_init 7 = .ok (.newarray .boolean, 2) := by decide +kernel
theorem d_R_init_9 : decode b_R_init 9 = .ok (.putfield 7, 3) := by decide +kernel
theorem d_R_init_12 : decode b_R_init 12 = .ok (.aload_n 0, 1) := by decide +kernel
theorem d_R_init_13 : decode b_R_init 13 = .ok (.bipush 20, 2) := by decide +kernel
theorem d_R_init_15 : decode b_R_init 15 = .ok (.newarray .int, 2) := by decide +kernel
theorem d_R_init_17 : decode b_R_init 17 = .ok (.putfield 13, 3) := by decide +kernel
theorem d_R_init_20 : decode b_R_init 20 = .ok (.aload_n 0, 1) := by decide +kernel
theorem d_R_init_21 : decode b_R_init 21 = .ok (.bipush 20, 2) := by decide +kernel
theorem d_R_init_23 : decode b_R_init 23 = .ok (.newarray .int, 2) := by decide +kernel
theorem d_R_init_25 : decode b_R_init 25 = .ok (.putfield 17, 3) := by decide +kernel
theorem d_R_init_28 : decode b_R_init 28 = .ok (.aload_n 0, 1) := by decide +kernel
theorem d_R_init_29 : decode b_R_init 29 = .ok (.bipush 20, 2) := by decide +kernel
theorem d_R_init_31 : decode b_R_init 31 = .ok (.newarray .int, 2) := by decide +kernel
theorem d_R_init_33 : decode b_R_init 33 = .ok (.putfield 20, 3) := by decide +kernel
theorem d_R_init_36 : decode b_R_init 36 = .ok (.aload_n 0, 1) := by decide +kernel
theorem d_R_init_37 : decode b_R_init 37 = .ok (.bipush 20, 2) := by decide +kernel
theorem d_R_init_39 : decode b_R_init 39 = .ok (.newarray .int, 2) := by decide +kernel
theorem d_R_init_41 : decode b_R_init 41 = .ok (.putfield 23, 3) := by decide +kernel
theorem d_R_init_44 : decode b_R_init 44 = .ok (.aload_n 0, 1) := by decide +kernel
theorem d_R_init_45 : decode b_R_init 45 = .ok (.bipush 40, 2) := by decide +kernel
theorem d_R_init_47 : decode b_R_init 47 = .ok (.newarray .int, 2) := by decide +kernel
theorem d_R_init_49 : decode b_R_init 49 = .ok (.putfield 26, 3) := by decide +kernel
theorem d_R_init_52 : decode b_R_init 52 = .ok (.aload_n 0, 1) := by decide +kernel
theorem d_R_init_53 : decode b_R_init 53 = .ok (.sipush 820, 3) := by decide +kernel
theorem d_R_init_56 : decode b_R_init 56 = .ok (.newarray .int, 2) := by decide +kernel
theorem d_R_init_58 : decode b_R_init 58 = .ok (.putfield 29, 3) := by decide +kernel
theorem d_R_init_61 : decode b_R_init 61 = .ok (.aload_n 0, 1) := by decide +kernel
theorem d_R_init_62 : decode b_R_init 62 = .ok (.bipush 41, 2) := by decide +kernel
theorem d_R_init_64 : decode b_R_init 64 = .ok (.newarray .int, 2) := by decide +kernel
theorem d_R_init_66 : decode b_R_init 66 = .ok (.putfield 32, 3) := by decide +kernel
theorem d_R_init_69 : decode b_R_init 69 = .ok (.aload_n 0, 1) := by decide +kernel
theorem d_R_init_70 : decode b_R_init 70 = .ok (.sipush 861, 3) := by decide +kernel
theorem d_R_init_73 : decode b_R_init 73 = .ok (.newarray .int, 2) := by decide +kernel
theorem d_R_init_75 : decode b_R_init 75 = .ok (.putfield 35, 3) := by decide +kernel
theorem d_R_init_78 : decode b_R_init 78 = .ok (.return_, 1) := by decide +kernel
theorem d_R_near_0 : decode b_R_near 0 = .ok (.iload_n 0, 1) := by decide +kernel
theorem d_R_near_1 : decode b_R_near 1 = .ok (.bipush (-100), 2) := by decide +kernel
theorem d_R_near_3 : decode b_R_near 3 = .ok (.if_icmp .lt 13, 3) := by decide +kernel
theorem d_R_near_6 : decode b_R_near 6 = .ok (.iload_n 0, 1) := by decide +kernel
theorem d_R_near_7 : decode b_R_near 7 = .ok (.bipush 100, 2) := by decide +kernel
theorem d_R_near_9 : decode b_R_near 9 = .ok (.if_icmp .gt 7, 3) := by decide +kernel
theorem d_R_near_12 : decode b_R_near 12 = .ok (.iconst 1, 1) := by decide +kernel
theorem d_R_near_13 : decode b_R_near 13 = .ok (.goto 4, 3) := by decide +kernel
theorem d_R_near_16 : decode b_R_near 16 = .ok (.iconst 0, 1) := by decide +kernel
theorem d_R_near_17 : decode b_R_near 17 = .ok (.ireturn, 1) := by decide +kernel
theorem d_R_sign_0 : decode b_R_sign 0 = .ok (.iload_n 0, 1) := by decide +kernel
theorem d_R_sign_1 : decode b_R_sign 1 = .ok (.ifCond .ge 7, 3) := by decide +kernel
theorem d_R_sign_4 : decode b_R_sign 4 = .ok (.iconst (-1), 1) := by decide +kernel
theorem d_R_sign_5 : decode b_R_sign 5 = .ok (.goto 12, 3) := by decide +kernel
theorem d_R_sign_8 : decode b_R_sign 8 = .ok (.iload_n 0, 1) := by decide +kernel
theorem d_R_sign_9 : decode b_R_sign 9 = .ok (.ifCond .le 7, 3) := by decide +kernel
theorem d_R_sign_12 : decode b_R_sign 12 = .ok (.iconst 1, 1) := by decide +kernel
theorem d_R_sign_13 : decode b_R_sign 13 = .ok (.goto 4, 3) := by decide +kernel
theorem d_R_sign_16 : decode b_R_sign 16 = .ok (.iconst 0, 1) := by decide +kernel
theorem d_R_sign_17 : decode b_R_sign 17 = .ok (.ireturn, 1) := by decide +kernel
theorem d_R_side_0 : decode b_R_side 0 = .ok (.aload_n 0, 1) := by decide +kernel
theorem d_R_side_1 : decode b_R_side 1 = .ok (.getfield 20, 3) := by decide +kernel
theorem d_R_side_4 : decode b_R_side 4 = .ok (.iload_n 1, 1) := by decide +kernel
theorem d_R_side_5 : decode b_R_side 5 = .ok (.iaload, 1) := by decide +kernel
theorem d_R_side_6 : decode b_R_side 6 = .ok (.aload_n 0, 1) := by decide +kernel
theorem d_R_side_7 : decode b_R_side 7 = .ok (.getfield 13, 3) := by decide +kernel
theorem d_R_side_10 : decode b_R_side 10 = .ok (.iload_n 1, 1) := by decide +kernel
theorem d_R_side_11 : decode b_R_side 11 = .ok (.iaload, 1) := by decide +kernel
theorem d_R_side_12 : decode b_R_side 12 = .ok (.isub, 1) := by decide +kernel
theorem d_R_side_13 : decode b_R_side 13 = .ok (.iload_n 3, 1) := by decide +kernel
theorem d_R_side_14 : decode b_R_side 14 = .ok (.aload_n 0, 1) := by decide +kernel
theorem d_R_side_15 : decode b_R_side 15 = .ok (.getfield 17, 3) := by decide +kernel
theorem d_R_side_18 : decode b_R_side 18 = .ok (.iload_n 1, 1) := by decide +kernel
theorem d_R_side_19 : decode b_R_side 19 = .ok (.iaload, 1) := by decide +kernel
theorem d_R_side_20 : decode b_R_side 20 = .ok (.isub, 1) := by decide +kernel
theorem d_R_side_21 : decode b_R_side 21 = .ok (.imul, 1) := by decide +kernel
theorem d_R_side_22 : decode b_R_side 22 = .ok (.aload_n 0, 1) := by decide +kernel
theorem d_R_side_23 : decode b_R_side 23 = .ok (.getfield 23, 3) := by decide +kernel
theorem d_R_side_26 : decode b_R_side 26 = .ok (.iload_n 1, 1) := by decide +kernel
theorem d_R_side_27 : decode b_R_side 27 = .ok (.iaload, 1) := by decide +kernel
theorem d_R_side_28 : decode b_R_side 28 = .ok (.aload_n 0, 1) := by decide +kernel
theorem d_R_side_29 : decode b_R_side 29 = .ok (.getfield 17, 3) := by decide +kernel
theorem d_R_side_32 : decode b_R_side 32 = .ok (.iload_n 1, 1) := by decide +kernel
theorem d_R_side_33 : decode b_R_side 33 = .ok (.iaload, 1) := by decide +kernel
theorem d_R_side_34 : decode b_R_side 34 = .ok (.isub, 1) := by decide +kernel
theorem d_R_side_35 : decode b_R_side 35 = .ok (.iload_n 2, 1) := by decide +kernel
theorem d_R_side_36 : decode b_R_side 36 = .ok (.aload_n 0, 1) := by decide +kernel
theorem d_R_side_37 : decode b_R_side 37 = .ok (.getfield 13, 3) := by decide +kernel
theorem d_R_side_40 : decode b_R_side 40 = .ok (.iload_n 1, 1) := by decide +kernel
theorem d_R_side_41 : decode b_R_side 41 = .ok (.iaload, 1) := by decide +kernel
theorem d_R_side_42 : decode b_R_side 42 = .ok (.isub, 1) := by decide +kernel
theorem d_R_side_43 : decode b_R_side 43 = .ok (.imul, 1) := by decide +kernel
theorem d_R_side_44 : decode b_R_side 44 = .ok (.isub, 1) := by decide +kernel
theorem d_R_side_45 : decode b_R_side 45 = .ok (.invokestatic 38, 3) := by decide +kernel
theorem d_R_side_48 : decode b_R_side 48 = .ok (.ireturn, 1) := by decide +kernel
theorem d_R_isEnd_0 : decode b_R_isEnd 0 = .ok (.iload_n 2, 1) := by decide +kernel
theorem d_R_isEnd_1 : decode b_R_isEnd 1 = .ok (.aload_n 0, 1) := by decide +kernel
theorem d_R_isEnd_2 : decode b_R_isEnd 2 = .ok (.getfield 13, 3) := by decide +kernel
theorem d_R_isEnd_5 : decode b_R_isEnd 5 = .ok (.iload_n 1, 1) := by decide +kernel
theorem d_R_isEnd_6 : decode b_R_isEnd 6 = .ok (.iaload, 1) := by decide +kernel
theorem d_R_isEnd_7 : decode b_R_isEnd 7 = .ok (.if_icmp .ne 13, 3) := by decide +kernel
theorem d_R_isEnd_10 : decode b_R_isEnd 10 = .ok (.iload_n 3, 1) := by decide +kernel
theorem d_R_isEnd_11 : decode b_R_isEnd 11 = .ok (.aload_n 0, 1) := by decide +kernel
theorem d_R_isEnd_12 : decode b_R_isEnd 12 = .ok (.getfield 17, 3) := by decide +kernel
theorem d_R_isEnd_15 : decode b_R_isEnd 15 = .ok (.iload_n 1, 1) := by decide +kernel
theorem d_R_isEnd_16 : decode b_R_isEnd 16 = .ok (.iaload, 1) := by decide +kernel
theorem d_R_isEnd_17 : decode b_R_isEnd 17 = .ok (.if_icmp .eq 23, 3) := by decide +kernel
theorem d_R_isEnd_20 : decode b_R_isEnd 20 = .ok (.iload_n 2, 1) := by decide +kernel
theorem d_R_isEnd_21 : decode b_R_isEnd 21 = .ok (.aload_n 0, 1) := by decide +kernel
theorem d_R_isEnd_22 : decode b_R_isEnd 22 = .ok (.getfield 20, 3) := by decide +kernel
theorem d_R_isEnd_25 : decode b_R_isEnd 25 = .ok (.iload_n 1, 1) := by decide +kernel
theorem d_R_isEnd_26 : decode b_R_isEnd 26 = .ok (.iaload, 1) := by decide +kernel
theorem d_R_isEnd_27 : decode b_R_isEnd 27 = .ok (.if_icmp .ne 17, 3) := by decide +kernel
theorem d_R_isEnd_30 : decode b_R_isEnd 30 = .ok (.iload_n 3, 1) := by decide +kernel
theorem d_R_isEnd_31 : decode b_R_isEnd 31 = .ok (.aload_n 0, 1) := by decide +kernel
theorem d_R_isEnd_32 : decode b_R_isEnd 32 = .ok (.getfield 23, 3) := by decide +kernel
theorem d_R_isEnd_35 : decode b_R_isEnd 35 = .ok (.iload_n 1, 1) := by decide +kernel
theorem d_R_isEnd_36 : decode b_R_isEnd 36 = .ok (.iaload, 1) := by decide +kernel
theorem d_R_isEnd_37 : decode b_R_isEnd 37 = .ok (.if_icmp .ne 7, 3) := by decide +kernel
theorem d_R_isEnd_40 : decode b_R_isEnd 40 = .ok (.iconst 1, 1) := by decide +kernel
theorem d_R_isEnd_41 : decode b_R_isEnd 41 = .ok (.goto 4, 3) := by decide +kernel
theorem d_R_isEnd_44 : decode b_R_isEnd 44 = .ok (.iconst 0, 1) := by decide +kernel
theorem d_R_isEnd_45 : decode b_R_isEnd 45 = .ok (.ireturn, 1) := by decide +kernel
theorem d_R_isInside_0 : decode b_R_isInside 0 = .ok (.aload_n 0, 1) := by decide +kernel
theorem d_R_isInside_1 : decode b_R_isInside 1 = .ok (.iload_n 1, 1) := by decide +kernel
theorem d_R_isInside_2 : decode b_R_isInside 2 = .ok (.iload_n 2, 1) := by decide +kernel
theorem d_R_isInside_3 : decode b_R_isInside 3 = .ok (.iload_n 3, 1) := by decide +kernel
theorem d_R_isInside_4 : decode b_R_isInside 4 = .ok (.invokevirtual 42, 3) := by decide +kernel
theorem d_R_isInside_7 : decode b_R_isInside 7 = .ok (.ifCond .ne 13, 3) := by decide +kernel
theorem d_R_isInside_10 : decode b_R_isInside 10 = .ok (.aload_n 0, 1) := by decide +kernel
theorem d_R_isInside_11 : decode b_R_isInside 11 = .ok (.iload_n 1, 1) := by decide +kernel
theorem d_R_isInside_12 : decode b_R_isInside 12 = .ok (.iload_n 2, 1) := by decide +kernel
theorem d_R_isInside_13 : decode b_R_isInside 13 = .ok (.iload_n 3, 1) := by decide +kernel
theorem d_R_isInside_14 : decode b_R_isInside 14 = .ok (.invokevirtual 46, 3) := by decide +kernel
theorem d_R_isInside_17 : decode b_R_isInside 17 = .ok (.ifCond .eq 5, 3) := by decide +kernel
theorem d_R_isInside_20 : decode b_R_isInside 20 = .ok (.iconst 0, 1) := by decide +kernel
theorem d_R_isInside_21 : decode b_R_isInside 21 = .ok (.ireturn, 1) := by decide +kernel
theorem d_R_isInside_22 : decode b_R_isInside 22 = .ok (.aload_n 0, 1) := by decide +kernel
theorem d_R_isInside_23 : decode b_R_isInside 23 = .ok (.getfield 17, 3) := by decide +kernel
theorem d_R_isInside_26 : decode b_R_isInside 26 = .ok (.iload_n 1, 1) := by decide +kernel
theorem d_R_isInside_27 : decode b_R_isInside 27 = .ok (.iaload, 1) := by decide +kernel
theorem d_R_isInside_28 : decode b_R_isInside 28 = .ok (.aload_n 0, 1) := by decide +kernel
theorem d_R_isInside_29 : decode b_R_isInside 29 = .ok (.getfield 23, 3) := by decide +kernel
theorem d_R_isInside_32 : decode b_R_isInside 32 = .ok (.iload_n 1, 1) := by decide +kernel
theorem d_R_isInside_33 : decode b_R_isInside 33 = .ok (.iaload, 1) := by decide +kernel
theorem d_R_isInside_34 : decode b_R_isInside 34 = .ok (.if_icmp .ge 12, 3) := by decide +kernel
theorem d_R_isInside_37 : decode b_R_isInside 37 = .ok (.aload_n 0, 1) := by decide +kernel
theorem d_R_isInside_38 : decode b_R_isInside 38 = .ok (.getfield 17, 3) := by decide +kernel
theorem d_R_isInside_41 : decode b_R_isInside 41 = .ok (.iload_n 1, 1) := by decide +kernel
theorem d_R_isInside_42 : decode b_R_isInside 42 = .ok (.iaload, 1) := by decide +kernel
theorem d_R_isInside_43 : decode b_R_isInside 43 = .ok (.goto 9, 3) := by decide +kernel
theorem d_R_isInside_46 : decode b_R_isInside 46 = .ok (.aload_n 0, 1) := by decide +kernel
theorem d_R_isInside_47 : decode b_R_isInside 47 = .ok (.getfield 23, 3) := by decide +kernel
theorem d_R_isInside_50 : decode b_R_isInside 50 = .ok (.iload_n 1, 1) := by decide +kernel
theorem d_R_isInside_51 : decode b_R_isInside 51 = .ok (.iaload, 1) := by decide +kernel
theorem d_R_isInside_52 : decode b_R_isInside 52 = .ok (.istore 4, 2) := by decide +kernel
theorem d_R_isInside_54 : decode b_R_isInside 54 = .ok (.aload_n 0, 1) := by decide +kernel
theorem d_R_isInside_55 : decode b_R_isInside 55 = .ok (.getfield 17, 3) := by decide +kernel
theorem d_R_isInside_58 : decode b_R_isInside 58 = .ok (.iload_n 1, 1) := by decide +kernel
theorem d_R_isInside_59 : decode b_R_isInside 59 = .ok (.iaload, 1) := by decide +kernel
theorem d_R_isInside_60 : decode b_R_isInside 60 = .ok (.aload_n 0, 1) := by decide +kernel
theorem d_R_isInside_61 : decode b_R_isInside 61 = .ok (.getfield 23, 3) := by decide +kernel
theorem d_R_isInside_64 : decode b_R_isInside 64 = .ok (.iload_n 1, 1) := by decide +kernel
theorem d_R_isInside_65 : decode b_R_isInside 65 = .ok (.iaload, 1) := by decide +kernel
theorem d_R_isInside_66 : decode b_R_isInside 66 = .ok (.if_icmp .ge 12, 3) := by decide +kernel
theorem d_R_isInside_69 : decode b_R_isInside 69 = .ok (.aload_n 0, 1) := by decide +kernel
theorem d_R_isInside_70 : decode b_R_isInside 70 = .ok (.getfield 23, 3) := by decide +kernel
theorem d_R_isInside_73 : decode b_R_isInside 73 = .ok (.iload_n 1, 1) := by decide +kernel
theorem d_R_isInside_74 : decode b_R_isInside 74 = .ok (.iaload, 1) := by decide +kernel
theorem d_R_isInside_75 : decode b_R_isInside 75 = .ok (.goto 9, 3) := by decide +kernel
theorem d_R_isInside_78 : decode b_R_isInside 78 = .ok (.aload_n 0, 1) := by decide +kernel
theorem d_R_isInside_79 : decode b_R_isInside 79 = .ok (.getfield 17, 3) := by decide +kernel
theorem d_R_isInside_82 : decode b_R_isInside 82 = .ok (.iload_n 1, 1) := by decide +kernel
theorem d_R_isInside_83 : decode b_R_isInside 83 = .ok (.iaload, 1) := by decide +kernel
theorem d_R_isInside_84 : decode b_R_isInside 84 = .ok (.istore 5, 2) := by decide +kernel
theorem d_R_isInside_86 : decode b_R_isInside 86 = .ok (.iload_n 2, 1) := by decide +kernel
theorem d_R_isInside_87 : decode b_R_isInside 87 = .ok (.aload_n 0, 1) := by decide +kernel
theorem d_R_isInside_88 : decode b_R_isInside 88 = .ok (.getfield 13, 3) := by decide +kernel
theorem d_R_isInside_91 : decode b_R_isInside 91 = .ok (.iload_n 1, 1) := by decide +kernel
theorem d_R_isInside_92 : decode b_R_isInside 92 = .ok (.iaload, 1) := by decide +kernel
theorem d_R_isInside_93 : decode b_R_isInside 93 = .ok (.if_icmp .lt 29, 3) := by decide +kernel
theorem d_R_isInside_96 : decode b_R_isInside 96 = .ok (.iload_n 2, 1) := by decide +kernel
theorem d_R_isInside_97 : decode b_R_isInside 97 = .ok (.aload_n 0, 1) := by decide +kernel
theorem d_R_isInside_98 : decode b_R_isInside 98 = .ok (.getfield 20, 3) := by decide +kernel
theorem d_R_isInside_101 : decode b_R_isInside 101 = .ok (.iload_n 1, 1) := by decide +kernel
theorem d_R_isInside_102 : decode b_R_isInside 102 = .ok (.iaload, 1) := by decide +kernel
theorem d_R_isInside_103 : decode b_R_isInside 103 = .ok (.if_icmp .gt 19, 3) := by decide +kernel
theorem d_R_isInside_106 : decode b_R_isInside 106 = .ok (.iload_n 3, 1) := by decide +kernel
theorem d_R_isInside_107 : decode b_R_isInside 107 = .ok (.iload 4, 2) := by decide +kernel
theorem d_R_isInside_109 : decode b_R_isInside 109 = .ok (.if_icmp .lt 13, 3) := by decide +kernel
theorem d_R_isInside_112 : decode b_R_isInside 112 = .ok (.iload_n 3, 1) := by decide +kernel
theorem d_R_isInside_113 : decode b_R_isInside 113 = .ok (.iload 5, 2) := by decide +kernel
theorem d_R_isInside_115 : decode b_R_isInside 115 = .ok (.if_icmp .gt 7, 3) := by decide +kernel
theorem d_R_isInside_118 : decode b_R_isInside 118 = .ok (.iconst 1, 1) := by decide +kernel
theorem d_R_isInside_119 : decode b_R_isInside 119 = .ok (.goto 4, 3) := by decide +kernel
theorem d_R_isInside_122 : decode b_R_isInside 122 = .ok (.iconst 0, 1) := by decide +kernel
theorem d_R_isInside_123 : decode b_R_isInside 123 = .ok (.ireturn, 1) := by decide +kernel
theorem d_R_meet_0 : decode b_R_meet 0 = .ok (.aload_n 0, 1) := by decide +kernel
theorem d_R_meet_1 : decode b_R_meet 1 = .ok (.iload_n 1, 1) := by decide +kernel
theorem d_R_meet_2 : decode b_R_meet 2 = .ok (.aload_n 0, 1) := by decide +kernel
theorem d_R_meet_3 : decode b_R_meet 3 = .ok (.getfield 13, 3) := by decide +kernel
theorem d_R_meet_6 : decode b_R_meet 6 = .ok (.iload_n 2, 1) := by decide +kernel
theorem d_R_meet_7 : decode b_R_meet 7 = .ok (.iaload, 1) := by decide +kernel
theorem d_R_meet_8 : decode b_R_meet 8 = .ok (.aload_n 0, 1) := by decide +kernel
theorem d_R_meet_9 : decode b_R_meet 9 = .ok (.getfield 17, 3) := by decide +kernel
theorem d_R_meet_12 : decode b_R_meet 12 = .ok (.iload_n 2, 1) := by decide +kernel
theorem d_R_meet_13 : decode b_R_meet 13 = .ok (.iaload, 1) := by decide +kernel
theorem d_R_meet_14 : decode b_R_meet 14 = .ok (.invokevirtual 50, 3) := by decide +kernel
theorem d_R_meet_17 : decode b_R_meet 17 = .ok (.ifCond .ne 63, 3) := by decide +kernel
theorem d_R_meet_20 : decode b_R_meet 20 = .ok (.aload_n 0, 1) := by decide +kernel
theorem d_R_meet_21 : decode b_R_meet 21 = .ok (.iload_n 1, 1) := by decide +kernel
theorem d_R_meet_22 : decode b_R_meet 22 = .ok (.aload_n 0, 1) := by decide +kernel
theorem d_R_meet_23 : decode b_R_meet 23 = .ok (.getfield 20, 3) := by decide +kernel
theorem d_R_meet_26 : decode b_R_meet 26 = .ok (.iload_n 2, 1) := by decide +kernel
theorem d_R_meet_27 : decode b_R_meet 27 = .ok (.iaload, 1) := by decide +kernel
theorem d_R_meet_28 : decode b_R_meet 28 = .ok (.aload_n 0, 1) := by decide +kernel
theorem d_R_meet_29 : decode b_R_meet 29 = .ok (.getfield 23, 3) := by decide +kernel
theorem d_R_meet_32 : decode b_R_meet 32 = .ok (.iload_n 2, 1) := by decide +kernel
theorem d_R_meet_33 : decode b_R_meet 33 = .ok (.iaload, 1) := by decide +kernel
theorem d_R_meet_34 : decode b_R_meet 34 = .ok (.invokevirtual 50, 3) := by decide +kernel
theorem d_R_meet_37 : decode b_R_meet 37 = .ok (.ifCond .ne 43, 3) := by decide +kernel
theorem d_R_meet_40 : decode b_R_meet 40 = .ok (.aload_n 0, 1) := by decide +kernel
theorem d_R_meet_41 : decode b_R_meet 41 = .ok (.iload_n 2, 1) := by decide +kernel
theorem d_R_meet_42 : decode b_R_meet 42 = .ok (.aload_n 0, 1) := by decide +kernel
theorem d_R_meet_43 : decode b_R_meet 43 = .ok (.getfield 13, 3) := by decide +kernel
theorem d_R_meet_46 : decode b_R_meet 46 = .ok (.iload_n 1, 1) := by decide +kernel
theorem d_R_meet_47 : decode b_R_meet 47 = .ok (.iaload, 1) := by decide +kernel
theorem d_R_meet_48 : decode b_R_meet 48 = .ok (.aload_n 0, 1) := by decide +kernel
theorem d_R_meet_49 : decode b_R_meet 49 = .ok (.getfield 17, 3) := by decide +kernel
theorem d_R_meet_52 : decode b_R_meet 52 = .ok (.iload_n 1, 1) := by decide +kernel
theorem d_R_meet_53 : decode b_R_meet 53 = .ok (.iaload, 1) := by decide +kernel
theorem d_R_meet_54 : decode b_R_meet 54 = .ok (.invokevirtual 50, 3) := by decide +kernel
theorem d_R_meet_57 : decode b_R_meet 57 = .ok (.ifCond .ne 23, 3) := by decide +kernel
theorem d_R_meet_60 : decode b_R_meet 60 = .ok (.aload_n 0, 1) := by decide +kernel
theorem d_R_meet_61 : decode b_R_meet 61 = .ok (.iload_n 2, 1) := by decide +kernel
theorem d_R_meet_62 : decode b_R_meet 62 = .ok (.aload_n 0, 1) := by decide +kernel
theorem d_R_meet_63 : decode b_R_meet 63 = .ok (.getfield 20, 3) := by decide +kernel
theorem d_R_meet_66 : decode b_R_meet 66 = .ok (.iload_n 1, 1) := by decide +kernel
theorem d_R_meet_67 : decode b_R_meet 67 = .ok (.iaload, 1) := by decide +kernel
theorem d_R_meet_68 : decode b_R_meet 68 = .ok (.aload_n 0, 1) := by decide +kernel
theorem d_R_meet_69 : decode b_R_meet 69 = .ok (.getfield 23, 3) := by decide +kernel
theorem d_R_meet_72 : decode b_R_meet 72 = .ok (.iload_n 1, 1) := by decide +kernel
theorem d_R_meet_73 : decode b_R_meet 73 = .ok (.iaload, 1) := by decide +kernel
theorem d_R_meet_74 : decode b_R_meet 74 = .ok (.invokevirtual 50, 3) := by decide +kernel
theorem d_R_meet_77 : decode b_R_meet 77 = .ok (.ifCond .eq 5, 3) := by decide +kernel
theorem d_R_meet_80 : decode b_R_meet 80 = .ok (.iconst 1, 1) := by decide +kernel
theorem d_R_meet_81 : decode b_R_meet 81 = .ok (.ireturn, 1) := by decide +kernel
theorem d_R_meet_82 : decode b_R_meet 82 = .ok (.aload_n 0, 1) := by decide +kernel
theorem d_R_meet_83 : decode b_R_meet 83 = .ok (.iload_n 1, 1) := by decide +kernel
theorem d_R_meet_84 : decode b_R_meet 84 = .ok (.aload_n 0, 1) := by decide +kernel
theorem d_R_meet_85 : decode b_R_meet 85 = .ok (.getfield 13, 3) := by decide +kernel
theorem d_R_meet_88 : decode b_R_meet 88 = .ok (.iload_n 2, 1) := by decide +kernel
theorem d_R_meet_89 : decode b_R_meet 89 = .ok (.iaload, 1) := by decide +kernel
theorem d_R_meet_90 : decode b_R_meet 90 = .ok (.aload_n 0, 1) := by decide +kernel
theorem d_R_meet_91 : decode b_R_meet 91 = .ok (.getfield 17, 3) := by decide +kernel
theorem d_R_meet_94 : decode b_R_meet 94 = .ok (.iload_n 2, 1) := by decide +kernel
theorem d_R_meet_95 : decode b_R_meet 95 = .ok (.iaload, 1) := by decide +kernel
theorem d_R_meet_96 : decode b_R_meet 96 = .ok (.invokevirtual 46, 3) := by decide +kernel
theorem d_R_meet_99 : decode b_R_meet 99 = .ok (.ifCond .eq 25, 3) := by decide +kernel
theorem d_R_meet_102 : decode b_R_meet 102 = .ok (.aload_n 0, 1) := by decide +kernel
theorem d_R_meet_103 : decode b_R_meet 103 = .ok (.iload_n 1, 1) := by decide +kernel
theorem d_R_meet_104 : decode b_R_meet 104 = .ok (.aload_n 0, 1) := by decide +kernel
theorem d_R_meet_105 : decode b_R_meet 105 = .ok (.getfield 20, 3) := by decide +kernel
theorem d_R_meet_108 : decode b_R_meet 108 = .ok (.iload_n 2, 1) := by decide +kernel
theorem d_R_meet_109 : decode b_R_meet 109 = .ok (.iaload, 1) := by decide +kernel
theorem d_R_meet_110 : decode b_R_meet 110 = .ok (.aload_n 0, 1) := by decide +kernel
theorem d_R_meet_111 : decode b_R_meet 111 = .ok (.getfield 23, 3) := by decide +kernel
theorem d_R_meet_114 : decode b_R_meet 114 = .ok (.iload_n 2, 1) := by decide +kernel
theorem d_R_meet_115 : decode b_R_meet 115 = .ok (.iaload, 1) := by decide +kernel
theorem d_R_meet_116 : decode b_R_meet 116 = .ok (.invokevirtual 46, 3) := by decide +kernel
theorem d_R_meet_119 : decode b_R_meet 119 = .ok (.ifCond .eq 5, 3) := by decide +kernel
theorem d_R_meet_122 : decode b_R_meet 122 = .ok (.iconst 1, 1) := by decide +kernel
theorem d_R_meet_123 : decode b_R_meet 123 = .ok (.ireturn, 1) := by decide +kernel
theorem d_R_meet_124 : decode b_R_meet 124 = .ok (.aload_n 0, 1) := by decide +kernel
theorem d_R_meet_125 : decode b_R_meet 125 = .ok (.iload_n 1, 1) := by decide +kernel
theorem d_R_meet_126 : decode b_R_meet 126 = .ok (.aload_n 0, 1) := by decide +kernel
theorem d_R_meet_127 : decode b_R_meet 127 = .ok (.getfield 13, 3) := by decide +kernel
theorem d_R_meet_130 : decode b_R_meet 130 = .ok (.iload_n 2, 1) := by decide +kernel
theorem d_R_meet_131 : decode b_R_meet 131 = .ok (.iaload, 1) := by decide +kernel
theorem d_R_meet_132 : decode b_R_meet 132 = .ok (.aload_n 0, 1) := by decide +kernel
theorem d_R_meet_133 : decode b_R_meet 133 = .ok (.getfield 17, 3) := by decide +kernel
theorem d_R_meet_136 : decode b_R_meet 136 = .ok (.iload_n 2, 1) := by decide +kernel
theorem d_R_meet_137 : decode b_R_meet 137 = .ok (.iaload, 1) := by decide +kernel
theorem d_R_meet_138 : decode b_R_meet 138 = .ok (.invokevirtual 42, 3) := by decide +kernel
theorem d_R_meet_141 : decode b_R_meet 141 = .ok (.aload_n 0, 1) := by decide +kernel
theorem d_R_meet_142 : decode b_R_meet 142 = .ok (.iload_n 1, 1) := by decide +kernel
theorem d_R_meet_143 : decode b_R_meet 143 = .ok (.aload_n 0, 1) := by decide +kernel
theorem d_R_meet_144 : decode b_R_meet 144 = .ok (.getfield 20, 3) := by decide +kernel
theorem d_R_meet_147 : decode b_R_meet 147 = .ok (.iload_n 2, 1) := by decide +kernel
theorem d_R_meet_148 : decode b_R_meet 148 = .ok (.iaload, 1) := by decide +kernel
theorem d_R_meet_149 : decode b_R_meet 149 = .ok (.aload_n 0, 1) := by decide +kernel
theorem d_R_meet_150 : decode b_R_meet 150 = .ok (.getfield 23, 3) := by decide +kernel
theorem d_R_meet_153 : decode b_R_meet 153 = .ok (.iload_n 2, 1) := by decide +kernel
theorem d_R_meet_154 : decode b_R_meet 154 = .ok (.iaload, 1) := by decide +kernel
theorem d_R_meet_155 : decode b_R_meet 155 = .ok (.invokevirtual 42, 3) := by decide +kernel
theorem d_R_meet_158 : decode b_R_meet 158 = .ok (.imul, 1) := by decide +kernel
theorem d_R_meet_159 : decode b_R_meet 159 = .ok (.ifCond .ge 45, 3) := by decide +kernel
theorem d_R_meet_162 : decode b_R_meet 162 = .ok (.aload_n 0, 1) := by decide +kernel
theorem d_R_meet_163 : decode b_R_meet 163 = .ok (.iload_n 2, 1) := by decide +kernel
theorem d_R_meet_164 : decode b_R_meet 164 = .ok (.aload_n 0, 1) := by decide +kernel
theorem d_R_meet_165 : decode b_R_meet 165 = .ok (.getfield 13, 3) := by decide +kernel
theorem d_R_meet_168 : decode b_R_meet 168 = .ok (.iload_n 1, 1) := by decide +kernel
theorem d_R_meet_169 : decode b_R_meet 169 = .ok (.iaload, 1) := by decide +kernel
theorem d_R_meet_170 : decode b_R_meet 170 = .ok (.aload_n 0, 1) := by decide +kernel
theorem d_R_meet_171 : decode b_R_meet 171 = .ok (.getfield 17, 3) := by decide +kernel
theorem d_R_meet_174 : decode b_R_meet 174 = .ok (.iload_n 1, 1) := by decide +kernel
theorem d_R_meet_175 : decode b_R_meet 175 = .ok (.iaload, 1) := by decide +kernel
theorem d_R_meet_176 : decode b_R_meet 176 = .ok (.invokevirtual 42, 3) := by decide +kernel
theorem d_R_meet_179 : decode b_R_meet 179 = .ok (.aload_n 0, 1) := by decide +kernel
theorem d_R_meet_180 : decode b_R_meet 180 = .ok (.iload_n 2, 1) := by decide +kernel
theorem d_R_meet_181 : decode b_R_meet 181 = .ok (.aload_n 0, 1) := by decide +kernel
theorem d_R_meet_182 : decode b_R_meet 182 = .ok (.getfield 20, 3) := by decide +kernel
theorem d_R_meet_185 : decode b_R_meet 185 = .ok (.iload_n 1, 1) := by decide +kernel
theorem d_R_meet_186 : decode b_R_meet 186 = .ok (.iaload, 1) := by decide +kernel
theorem d_R_meet_187 : decode b_R_meet 187 = .ok (.aload_n 0, 1) := by decide +kernel
theorem d_R_meet_188 : decode b_R_meet 188 = .ok (.getfield 23, 3) := by decide +kernel
theorem d_R_meet_191 : decode b_R_meet 191 = .ok (.iload_n 1, 1) := by decide +kernel
theorem d_R_meet_192 : decode b_R_meet 192 = .ok (.iaload, 1) := by decide +kernel
theorem d_R_meet_193 : decode b_R_meet 193 = .ok (.invokevirtual 42, 3) := by decide +kernel
theorem d_R_meet_196 : decode b_R_meet 196 = .ok (.imul, 1) := by decide +kernel
theorem d_R_meet_197 : decode b_R_meet 197 = .ok (.ifCond .ge 7, 3) := by decide +kernel
theorem d_R_meet_200 : decode b_R_meet 200 = .ok (.iconst 1, 1) := by decide +kernel
theorem d_R_meet_201 : decode b_R_meet 201 = .ok (.goto 4, 3) := by decide +kernel
theorem d_R_meet_204 : decode b_R_meet 204 = .ok (.iconst 0, 1) := by decide +kernel
theorem d_R_meet_205 : decode b_R_meet 205 = .ok (.ireturn, 1) := by decide +kernel
theorem d_R_add_0 : decode b_R_add 0 = .ok (.iload_n 1, 1) := by decide +kernel
theorem d_R_add_1 : decode b_R_add 1 = .ok (.invokestatic 53, 3) := by decide +kernel
theorem d_R_add_4 : decode b_R_add 4 = .ok (.ifCond .eq 36, 3) := by decide +kernel
theorem d_R_add_7 : decode b_R_add 7 = .ok (.iload_n 2, 1) := by decide +kernel
theorem d_R_add_8 : decode b_R_add 8 = .ok (.invokestatic 53, 3) := by decide +kernel
theorem d_R_add_11 : decode b_R_add 11 = .ok (.ifCond .eq 29, 3) := by decide +kernel
theorem d_R_add_14 : decode b_R_add 14 = .ok (.iload_n 3, 1) := by decide +kernel
theorem d_R_add_15 : decode b_R_add 15 = .ok (.invokestatic 53, 3) := by decide +kernel
theorem d_R_add_18 : decode b_R_add 18 = .ok (.ifCond .eq 22, 3) := by decide +kernel
theorem d_R_add_21 : decode b_R_add 21 = .ok (.iload 4, 2) := by decide +kernel
theorem d_R_add_23 : decode b_R_add 23 = .ok (.invokestatic 53, 3) := by decide +kernel
theorem d_R_add_26 : decode b_R_add 26 = .ok (.ifCond .eq 14, 3) := by decide +kernel
theorem d_R_add_29 : decode b_R_add 29 = .ok (.iload_n 1, 1) := by decide +kernel
theorem d_R_add_30 : decode b_R_add 30 = .ok (.iload_n 3, 1) := by decide +kernel
theorem d_R_add_31 : decode b_R_add 31 = .ok (.if_icmp .ne 12, 3) := by decide +kernel
theorem d_R_add_34 : decode b_R_add 34 = .ok (.iload_n 2, 1) := by decide +kernel
theorem d_R_add_35 : decode b_R_add 35 = .ok (.iload 4, 2) := by decide +kernel
theorem d_R_add_37 : decode b_R_add 37 = .ok (.if_icmp .ne 6, 3) := by decide +kernel
theorem d_R_add_40 : decode b_R_add 40 = .ok (.bipush (-2), 2) := by decide +kernel
theorem d_R_add_42 : decode b_R_add 42 = .ok (.ireturn, 1) := by decide +kernel
theorem d_R_add_43 : decode b_R_add 43 = .ok (.iconst 0, 1) := by decide +kernel
theorem d_R_add_44 : decode b_R_add 44 = .ok (.istore 5, 2) := by decide +kernel
theorem d_R_add_46 : decode b_R_add 46 = .ok (.iload 5, 2) := by decide +kernel
theorem d_R_add_48 : decode b_R_add 48 = .ok (.bipush 20, 2) := by decide +kernel
theorem d_R_add_50 : decode b_R_add 50 = .ok (.if_icmp .ge 19, 3) := by decide +kernel
theorem d_R_add_53 : decode b_R_add 53 = .ok (.aload_n 0, 1) := by decide +kernel
theorem d_R_add_54 : decode b_R_add 54 = .ok (.getfield 7, 3) := by decide +kernel
theorem d_R_add_57 : decode b_R_add 57 = .ok (.iload 5, 2) := by decide +kernel
theorem d_R_add_59 : decode b_R_add 59 = .ok (.baload, 1) := by decide +kernel
theorem d_R_add_60 : decode b_R_add 60 = .ok (.ifCond .eq 9, 3) := by decide +kernel
theorem d_R_add_63 : decode b_R_add 63 = .ok (.iinc 5 1, 3) := by decide +kernel
theorem d_R_add_66 : decode b_R_add 66 = .ok (.goto (-20), 3) := by decide +kernel
theorem d_R_add_69 : decode b_R_add 69 = .ok (.iload 5, 2) := by decide +kernel
theorem d_R_add_71 : decode b_R_add 71 = .ok (.bipush 20, 2) := by decide +kernel
theorem d_R_add_73 : decode b_R_add 73 = .ok (.if_icmp .ne 6, 3) := by decide +kernel
theorem d_R_add_76 : decode b_R_add 76 = .ok (.bipush (-3), 2) := by decide +kernel
theorem d_R_add_78 : decode b_R_add 78 = .ok (.ireturn, 1) := by decide +kernel
theorem d_R_add_79 : decode b_R_add 79 = .ok (.iload_n 3, 1) := by decide +kernel
theorem d_R_add_80 : decode b_R_add 80 = .ok (.iload_n 1, 1) := by decide +kernel
theorem d_R_add_81 : decode b_R_add 81 = .ok (.if_icmp .lt 14, 3) := by decide +kernel
theorem d_R_add_84 : decode b_R_add 84 = .ok (.iload_n 3, 1) := by decide +kernel
theorem d_R_add_85 : decode b_R_add 85 = .ok (.iload_n 1, 1) := by decide +kernel
theorem d_R_add_86 : decode b_R_add 86 = .ok (.if_icmp .ne 13, 3) := by decide +kernel
theorem d_R_add_89 : decode b_R_add 89 = .ok (.iload 4, 2) := by decide +kernel
theorem d_R_add_91 : decode b_R_add 91 = .ok (.iload_n 2, 1) := by decide +kernel
theorem d_R_add_92 : decode b_R_add 92 = .ok (.if_icmp .ge 7, 3) := by decide +kernel
theorem d_R_add_95 : decode b_R_add 95 = .ok (.iconst 1, 1) := by decide +kernel
theorem d_R_add_96 : decode b_R_add 96 = .ok (.goto 4, 3) := by decide +kernel
theorem d_R_add_99 : decode b_R_add 99 = .ok (.iconst 0, 1) := by decide +kernel
theorem d_R_add_100 : decode b_R_add 100 = .ok (.istore 6, 2) := by decide +kernel
theorem d_R_add_102 : decode b_R_add 102 = .ok (.aload_n 0, 1) := by decide +kernel
theorem d_R_add_103 : decode b_R_add 103 = .ok (.getfield 13, 3) := by decide +kernel
theorem d_R_add_106 : decode b_R_add 106 = .ok (.iload 5, 2) := by decide +kernel
theorem d_R_add_108 : decode b_R_add 108 = .ok (.iload 6, 2) := by decide +kernel
theorem d_R_add_110 : decode b_R_add 110 = .ok (.ifCond .eq 7, 3) := by decide +kernel
theorem d_R_add_113 : decode b_R_add 113 = .ok (.iload_n 3, 1) := by decide +kernel
theorem d_R_add_114 : decode b_R_add 114 = .ok (.goto 4, 3) := by decide +kernel
theorem d_R_add_117 : decode b_R_add 117 = .ok (.iload_n 1, 1) := by decide +kernel
theorem d_R_add_118 : decode b_R_add 118 = .ok (.iastore, 1) := by decide +kernel
theorem d_R_add_119 : decode b_R_add 119 = .ok (.aload_n 0, 1) := by decide +kernel
theorem d_R_add_120 : decode b_R_add 120 = .ok (.getfield 17, 3) := by decide +kernel
theorem d_R_add_123 : decode b_R_add 123 = .ok (.iload 5, 2) := by decide +kernel
theorem d_R_add_125 : decode b_R_add 125 = .ok (.iload 6, 2) := by decide +kernel
theorem d_R_add_127 : decode b_R_add 127 = .ok (.ifCond .eq 8, 3) := by decide +kernel
theorem d_R_add_130 : decode b_R_add 130 = .ok (.iload 4, 2) := by decide +kernel
theorem d_R_add_132 : decode b_R_add 132 = .ok (.goto 4, 3) := by decide +kernel
theorem d_R_add_135 : decode b_R_add 135 = .ok (.iload_n 2, 1) := by decide +kernel
theorem d_R_add_136 : decode b_R_add 136 = .ok (.iastore, 1) := by decide +kernel
theorem d_R_add_137 : decode b_R_add 137 = .ok (.aload_n 0, 1) := by decide +kernel
theorem d_R_add_138 : decode b_R_add 138 = .ok (.getfield 20, 3) := by decide +kernel
theorem d_R_add_141 : decode b_R_add 141 = .ok (.iload 5, 2) := by decide +kernel
theorem d_R_add_143 : decode b_R_add 143 = .ok (.iload 6, 2) := by decide +kernel
theorem d_R_add_145 : decode b_R_add 145 = .ok (.ifCond .eq 7, 3) := by decide +kernel
theorem d_R_add_148 : decode b_R_add 148 = .ok (.iload_n 1, 1) := by decide +kernel
theorem d_R_add_149 : decode b_R_add 149 = .ok (.goto 4, 3) := by decide +kernel
theorem d_R_add_152 : decode b_R_add 152 = .ok (.iload_n 3, 1) := by decide +kernel
theorem d_R_add_153 : decode b_R_add 153 = .ok (.iastore, 1) := by decide +kernel
theorem d_R_add_154 : decode b_R_add 154 = .ok (.aload_n 0, 1) := by decide +kernel
theorem d_R_add_155 : decode b_R_add 155 = .ok (.getfield 23, 3) := by decide +kernel
theorem d_R_add_158 : decode b_R_add 158 = .ok (.iload 5, 2) := by decide +kernel
theorem d_R_add_160 : decode b_R_add 160 = .ok (.iload 6, 2) := by decide +kernel
theorem d_R_add_162 : decode b_R_add 162 = .ok (.ifCond .eq 7, 3) := by decide +kernel
theorem d_R_add_165 : decode b_R_add 165 = .ok (.iload_n 2, 1) := by decide +kernel
theorem d_R_add_166 : decode b_R_add 166 = .ok (.goto 5, 3) := by decide +kernel
theorem d_R_add_169 : decode b_R_add 169 = .ok (.iload 4, 2) := by decide +kernel
theorem d_R_add_171 : decode b_R_add 171 = .ok (.iastore, 1) := by decide +kernel
theorem d_R_add_172 : decode b_R_add 172 = .ok (.iconst 0, 1) := by decide +kernel
theorem d_R_add_173 : decode b_R_add 173 = .ok (.istore 7, 2) := by decide +kernel
theorem d_R_add_175 : decode b_R_add 175 = .ok (.iload 7, 2) := by decide +kernel
theorem d_R_add_177 : decode b_R_add 177 = .ok (.bipush 20, 2) := by decide +kernel
theorem d_R_add_179 : decode b_R_add 179 = .ok (.if_icmp .ge 36, 3) := by decide +kernel
theorem d_R_add_182 : decode b_R_add 182 = .ok (.aload_n 0, 1) := by decide +kernel
theorem d_R_add_183 : decode b_R_add 183 = .ok (.getfield 7, 3) := by decide +kernel
theorem d_R_add_186 : decode b_R_add 186 = .ok (.iload 7, 2) := by decide +kernel
theorem d_R_add_188 : decode b_R_add 188 = .ok (.baload, 1) := by decide +kernel
theorem d_R_add_189 : decode b_R_add 189 = .ok (.ifCond .eq 20, 3) := by decide +kernel
theorem d_R_add_192 : decode b_R_add 192 = .ok (.aload_n 0, 1) := by decide +kernel
theorem d_R_add_193 : decode b_R_add 193 = .ok (.iload 5, 2) := by decide +kernel
theorem d_R_add_195 : decode b_R_add 195 = .ok (.iload 7, 2) := by decide +kernel
theorem d_R_add_197 : decode b_R_add 197 = .ok (.invokevirtual 57, 3) := by decide +kernel
theorem d_R_add_200 : decode b_R_add 200 = .ok (.ifCond .eq 9, 3) := by decide +kernel
theorem d_R_add_203 : decode b_R_add 203 = .ok (.bipush (-10), 2) := by decide +kernel
theorem d_R_add_205 : decode b_R_add 205 = .ok (.iload 7, 2) := by decide +kernel
theorem d_R_add_207 : decode b_R_add 207 = .ok (.isub, 1) := by decide +kernel
theorem d_R_add_208 : decode b_R_add 208 = .ok (.ireturn, 1) := by decide +kernel
theorem d_R_add_209 : decode b_R_add 209 = .ok (.iinc 7 1, 3) := by decide +kernel
theorem d_R_add_212 : decode b_R_add 212 = .ok (.goto (-37), 3) := by decide +kernel
theorem d_R_add_215 : decode b_R_add 215 = .ok (.aload_n 0, 1) := by decide +kernel
theorem d_R_add_216 : decode b_R_add 216 = .ok (.getfield 7, 3) := by decide +kernel
theorem d_R_add_219 : decode b_R_add 219 = .ok (.iload 5, 2) := by decide +kernel
theorem d_R_add_221 : decode b_R_add 221 = .ok (.iconst 1, 1) := by decide +kernel
theorem d_R_add_222 : decode b_R_add 222 = .ok (.bastore, 1) := by decide +kernel
theorem d_R_add_223 : decode b_R_add 223 = .ok (.aload_n 0, 1) := by decide +kernel
theorem d_R_add_224 : decode b_R_add 224 = .ok (.iconst 0, 1) := by decide +kernel
theorem d_R_add_225 : decode b_R_add 225 = .ok (.putfield 61, 3) := by decide +kernel
theorem d_R_add_228 : decode b_R_add 228 = .ok (.iload 5, 2) := by decide +kernel
theorem d_R_add_230 : decode b_R_add 230 = .ok (.ireturn, 1) := by decide +kernel
theorem d_R_isSegment_0 : decode b_R_isSegment 0 = .ok (.iload_n 1, 1) := by decide +kernel
theorem d_R_isSegment_1 : decode b_R_isSegment 1 = .ok (.ifCond .lt 22, 3) := by decide +kernel
theorem d_R_isSegment_4 : decode b_R_isSegment 4 = .ok (.iload_n 1, 1) := by decide +kernel
theorem d_R_isSegment_5 : decode b_R_isSegment 5 = .ok (.bipush 20, 2) := by decide +kernel
theorem d_R_isSegment_7 : decode b_R_isSegment 7 = .ok (.if_icmp .ge 16, 3) := by decide +kernel
theorem d_R_isSegment_10 : decode b_R_isSegment 10 = .ok (.aload_n 0, 1) := by decide +kernel
theorem d_R_isSegment_11 : decode b_R_isSegment 11 = .ok (.getfield 7, 3) := by decide +kernel
theorem d_R_isSegment_14 : decode b_R_isSegment 14 = .ok (.iload_n 1, 1) := by decide +kernel
theorem d_R_isSegment_15 : decode b_R_isSegment 15 = .ok (.baload, 1) := by decide +kernel
theorem d_R_isSegment_16 : decode b_R_isSegment 16 = .ok (.ifCond .eq 7, 3) := by decide +kernel
theorem d_R_isSegment_19 : decode b_R_isSegment 19 = .ok (.iconst 1, 1) := by decide +kernel
theorem d_R_isSegment_20 : decode b_R_isSegment 20 = .ok (.goto 4, 3) := by decide +kernel
theorem d_R_isSegment_23 : decode b_R_isSegment 23 = .ok (.iconst 0, 1) := by decide +kernel
theorem d_R_isSegment_24 : decode b_R_isSegment 24 = .ok (.ireturn, 1) := by decide +kernel
theorem d_R_remove_0 : decode b_R_remove 0 = .ok (.aload_n 0, 1) := by decide +kernel
theorem d_R_remove_1 : decode b_R_remove 1 = .ok (.iload_n 1, 1) := by decide +kernel
theorem d_R_remove_2 : decode b_R_remove 2 = .ok (.invokevirtual 65, 3) := by decide +kernel
theorem d_R_remove_5 : decode b_R_remove 5 = .ok (.ifCond .ne 5, 3) := by decide +kernel
theorem d_R_remove_8 : decode b_R_remove 8 = .ok (.iconst 0, 1) := by decide +kernel
theorem d_R_remove_9 : decode b_R_remove 9 = .ok (.ireturn, 1) := by decide +kernel
theorem d_R_remove_10 : decode b_R_remove 10 = .ok (.aload_n 0, 1) := by decide +kernel
theorem d_R_remove_11 : decode b_R_remove 11 = .ok (.getfield 7, 3) := by decide +kernel
theorem d_R_remove_14 : decode b_R_remove 14 = .ok (.iload_n 1, 1) := by decide +kernel
theorem d_R_remove_15 : decode b_R_remove 15 = .ok (.iconst 0, 1) := by decide +kernel
theorem d_R_remove_16 : decode b_R_remove 16 = .ok (.bastore, 1) := by decide +kernel
theorem d_R_remove_17 : decode b_R_remove 17 = .ok (.aload_n 0, 1) := by decide +kernel
theorem d_R_remove_18 : decode b_R_remove 18 = .ok (.iconst 0, 1) := by decide +kernel
theorem d_R_remove_19 : decode b_R_remove 19 = .ok (.putfield 61, 3) := by decide +kernel
theorem d_R_remove_22 : decode b_R_remove 22 = .ok (.iconst 1, 1) := by decide +kernel
theorem d_R_remove_23 : decode b_R_remove 23 = .ok (.ireturn, 1) := by decide +kernel
theorem d_R_segments_0 : decode b_R_segments 0 = .ok (.iconst 0, 1) := by decide +kernel
theorem d_R_segments_1 : decode b_R_segments 1 = .ok (.istore_n 1, 1) := by decide +kernel
theorem d_R_segments_2 : decode b_R_segments 2 = .ok (.iconst 0, 1) := by decide +kernel
theorem d_R_segments_3 : decode b_R_segments 3 = .ok (.istore_n 2, 1) := by decide +kernel
theorem d_R_segments_4 : decode b_R_segments 4 = .ok (.iload_n 2, 1) := by decide +kernel
theorem d_R_segments_5 : decode b_R_segments 5 = .ok (.bipush 20, 2) := by decide +kernel
theorem d_R_segments_7 : decode b_R_segments 7 = .ok (.if_icmp .ge 26, 3) := by decide +kernel
theorem d_R_segments_10 : decode b_R_segments 10 = .ok (.aload_n 0, 1) := by decide +kernel
theorem d_R_segments_11 : decode b_R_segments 11 = .ok (.getfield 7, 3) := by decide +kernel
theorem d_R_segments_14 : decode b_R_segments 14 = .ok (.iload_n 2, 1) := by decide +kernel
theorem d_R_segments_15 : decode b_R_segments 15 = .ok (.baload, 1) := by decide +kernel
theorem d_R_segments_16 : decode b_R_segments 16 = .ok (.ifCond .eq 9, 3) := by decide +kernel
theorem d_R_segments_19 : decode b_R_segments 19 = .ok (.iload_n 1, 1) := by decide +kernel
theorem d_R_segments_20 : decode b_R_segments 20 = .ok (.iconst 1, 1) := by decide +kernel
theorem d_R_segments_21 : decode b_R_segments 21 = .ok (.iadd, 1) := by decide +kernel
theorem d_R_segments_22 : decode b_R_segments 22 = .ok (.goto 4, 3) := by decide +kernel
theorem d_R_segments_25 : decode b_R_segments 25 = .ok (.iload_n 1, 1) := by decide +kernel
theorem d_R_segments_26 : decode b_R_segments 26 = .ok (.istore_n 1, 1) := by decide +kernel
theorem d_R_segments_27 : decode b_R_segments 27 = .ok (.iinc 2 1, 3) := by decide +kernel
theorem d_R_segments_30 : decode b_R_segments 30 = .ok (.goto (-26), 3) := by decide +kernel
theorem d_R_segments_33 : decode b_R_segments 33 = .ok (.iload_n 1, 1) := by decide +kernel
theorem d_R_segments_34 : decode b_R_segments 34 = .ok (.ireturn, 1) := by decide +kernel
theorem d_R_endings_0 : decode b_R_endings 0 = .ok (.iconst 0, 1) := by decide +kernel
theorem d_R_endings_1 : decode b_R_endings 1 = .ok (.istore_n 3, 1) := by decide +kernel
theorem d_R_endings_2 : decode b_R_endings 2 = .ok (.iconst 0, 1) := by decide +kernel
theorem d_R_endings_3 : decode b_R_endings 3 = .ok (.istore 4, 2) := by decide +kernel
theorem d_R_endings_5 : decode b_R_endings 5 = .ok (.iload 4, 2) := by decide +kernel
theorem d_R_endings_7 : decode b_R_endings 7 = .ok (.bipush 20, 2) := by decide +kernel
theorem d_R_endings_9 : decode b_R_endings 9 = .ok (.if_icmp .ge 38, 3) := by decide +kernel
theorem d_R_endings_12 : decode b_R_endings 12 = .ok (.aload_n 0, 1) := by decide +kernel
theorem d_R_endings_13 : decode b_R_endings 13 = .ok (.getfield 7, 3) := by decide +kernel
theorem d_R_endings_16 : decode b_R_endings 16 = .ok (.iload 4, 2) := by decide +kernel
theorem d_R_endings_18 : decode b_R_endings 18 = .ok (.baload, 1) := by decide +kernel
theorem d_R_endings_19 : decode b_R_endings 19 = .ok (.ifCond .eq 20, 3) := by decide +kernel
theorem d_R_endings_22 : decode b_R_endings 22 = .ok (.aload_n 0, 1) := by decide +kernel
theorem d_R_endings_23 : decode b_R_endings 23 = .ok (.iload 4, 2) := by decide +kernel
theorem d_R_endings_25 : decode b_R_endings 25 = .ok (.iload_n 1, 1) := by decide +kernel
theorem d_R_endings_26 : decode b_R_endings 26 = .ok (.iload_n 2, 1) := by decide +kernel
theorem d_R_endings_27 : decode b_R_endings 27 = .ok (.invokevirtual 46, 3) := by decide +kernel
theorem d_R_endings_30 : decode b_R_endings 30 = .ok (.ifCond .eq 9, 3) := by decide +kernel
theorem d_R_endings_33 : decode b_R_endings 33 = .ok (.iload_n 3, 1) := by decide +kernel
theorem d_R_endings_34 : decode b_R_endings 34 = .ok (.iconst 1, 1) := by decide +kernel
theorem d_R_endings_35 : decode b_R_endings 35 = .ok (.iadd, 1) := by decide +kernel
theorem d_R_endings_36 : decode b_R_endings 36 = .ok (.goto 4, 3) := by decide +kernel
theorem d_R_endings_39 : decode b_R_endings 39 = .ok (.iload_n 3, 1) := by decide +kernel
theorem d_R_endings_40 : decode b_R_endings 40 = .ok (.istore_n 3, 1) := by decide +kernel
theorem d_R_endings_41 : decode b_R_endings 41 = .ok (.iinc 4 1, 3) := by decide +kernel
theorem d_R_endings_44 : decode b_R_endings 44 = .ok (.goto (-39), 3) := by decide +kernel
theorem d_R_endings_47 : decode b_R_endings 47 = .ok (.iload_n 3, 1) := by decide +kernel
theorem d_R_endings_48 : decode b_R_endings 48 = .ok (.ireturn, 1) := by decide +kernel
theorem d_R_firstAt_0 : decode b_R_firstAt 0 = .ok (.bipush 20, 2) := by decide +kernel
theorem d_R_firstAt_2 : decode b_R_firstAt 2 = .ok (.istore_n 3, 1) := by decide +kernel
theorem d_R_firstAt_3 : decode b_R_firstAt 3 = .ok (.bipush 19, 2) := by decide +kernel
theorem d_R_firstAt_5 : decode b_R_firstAt 5 = .ok (.istore 4, 2) := by decide +kernel
theorem d_R_firstAt_7 : decode b_R_firstAt 7 = .ok (.iload 4, 2) := by decide +kernel
theorem d_R_firstAt_9 : decode b_R_firstAt 9 = .ok (.ifCond .lt 37, 3) := by decide +kernel
theorem d_R_firstAt_12 : decode b_R_firstAt 12 = .ok (.aload_n 0, 1) := by decide +kernel
theorem d_R_firstAt_13 : decode b_R_firstAt 13 = .ok (.getfield 7, 3) := by decide +kernel
theorem d_R_firstAt_16 : decode b_R_firstAt 16 = .ok (.iload 4, 2) := by decide +kernel
theorem d_R_firstAt_18 : decode b_R_firstAt 18 = .ok (.baload, 1) := by decide +kernel
theorem d_R_firstAt_19 : decode b_R_firstAt 19 = .ok (.ifCond .eq 19, 3) := by decide +kernel
theorem d_R_firstAt_22 : decode b_R_firstAt 22 = .ok (.aload_n 0, 1) := by decide +kernel
theorem d_R_firstAt_23 : decode b_R_firstAt 23 = .ok (.iload 4, 2) := by decide +kernel
theorem d_R_firstAt_25 : decode b_R_firstAt 25 = .ok (.iload_n 1, 1) := by decide +kernel
theorem d_R_firstAt_26 : decode b_R_firstAt 26 = .ok (.iload_n 2, 1) := by decide +kernel
theorem d_R_firstAt_27 : decode b_R_firstAt 27 = .ok (.invokevirtual 46, 3) := by decide +kernel
theorem d_R_firstAt_30 : decode b_R_firstAt 30 = .ok (.ifCond .eq 8, 3) := by decide +kernel
theorem d_R_firstAt_33 : decode b_R_firstAt 33 = .ok (.iload 4, 2) := by decide +kernel
theorem d_R_firstAt_35 : decode b_R_firstAt 35 = .ok (.goto 4, 3) := by decide +kernel
theorem d_R_firstAt_38 : decode b_R_firstAt 38 = .ok (.iload_n 3, 1) := by decide +kernel
theorem d_R_firstAt_39 : decode b_R_firstAt 39 = .ok (.istore_n 3, 1) := by decide +kernel
theorem d_R_firstAt_40 : decode b_R_firstAt 40 = .ok (.iinc 4 (-1), 3) := by decide +kernel
theorem d_R_firstAt_43 : decode b_R_firstAt 43 = .ok (.goto (-36), 3) := by decide +kernel
theorem d_R_firstAt_46 : decode b_R_firstAt 46 = .ok (.iload_n 3, 1) := by decide +kernel
theorem d_R_firstAt_47 : decode b_R_firstAt 47 = .ok (.ireturn, 1) := by decide +kernel
theorem d_R_vertices_0 : decode b_R_vertices 0 = .ok (.iconst 0, 1) := by decide +kernel
theorem d_R_vertices_1 : decode b_R_vertices 1 = .ok (.istore_n 1, 1) := by decide +kernel
theorem d_R_vertices_2 : decode b_R_vertices 2 = .ok (.iconst 0, 1) := by decide +kernel
theorem d_R_vertices_3 : decode b_R_vertices 3 = .ok (.istore_n 2, 1) := by decide +kernel
theorem d_R_vertices_4 : decode b_R_vertices 4 = .ok (.iload_n 2, 1) := by decide +kernel
theorem d_R_vertices_5 : decode b_R_vertices 5 = .ok (.bipush 20, 2) := by decide +kernel
theorem d_R_vertices_7 : decode b_R_vertices 7 = .ok (.if_icmp .ge 72, 3) := by decide +kernel
theorem d_R_vertices_10 : decode b_R_vertices 10 = .ok (.aload_n 0, 1) := by decide +kernel
theorem d_R_vertices_11 : decode b_R_vertices 11 = .ok (.getfield 7, 3) := by decide +kernel
theorem d_R_vertices_14 : decode b_R_vertices 14 = .ok (.iload_n 2, 1) := by decide +kernel
theorem d_R_vertices_15 : decode b_R_vertices 15 = .ok (.baload, 1) := by decide +kernel
theorem d_R_vertices_16 : decode b_R_vertices 16 = .ok (.ifCond .eq 57, 3) := by decide +kernel
theorem d_R_vertices_19 : decode b_R_vertices 19 = .ok (.iload_n 1, 1) := by decide +kernel
theorem d_R_vertices_20 : decode b_R_vertices 20 = .ok (.aload_n 0, 1) := by decide +kernel
theorem d_R_vertices_21 : decode b_R_vertices 21 = .ok (.aload_n 0, 1) := by decide +kernel
theorem d_R_vertices_22 : decode b_R_vertices 22 = .ok (.getfield 13, 3) := by decide +kernel
theorem d_R_vertices_25 : decode b_R_vertices 25 = .ok (.iload_n 2, 1) := by decide +kernel
theorem d_R_vertices_26 : decode b_R_vertices 26 = .ok (.iaload, 1) := by decide +kernel
theorem d_R_vertices_27 : decode b_R_vertices 27 = .ok (.aload_n 0, 1) := by decide +kernel
theorem d_R_vertices_28 : decode b_R_vertices 28 = .ok (.getfield 17, 3) := by decide +kernel
theorem d_R_vertices_31 : decode b_R_vertices 31 = .ok (.iload_n 2, 1) := by decide +kernel
theorem d_R_vertices_32 : decode b_R_vertices 32 = .ok (.iaload, 1) := by decide +kernel
theorem d_R_vertices_33 : decode b_R_vertices 33 = .ok (.invokevirtual 68, 3) := by decide +kernel
theorem d_R_vertices_36 : decode b_R_vertices 36 = .ok (.iload_n 2, 1) := by decide +kernel
theorem d_R_vertices_37 : decode b_R_vertices 37 = .ok (.if_icmp .ne 7, 3) := by decide +kernel
theorem d_R_vertices_40 : decode b_R_vertices 40 = .ok (.iconst 1, 1) := by decide +kernel
theorem d_R_vertices_41 : decode b_R_vertices 41 = .ok (.goto 4, 3) := by decide +kernel
theorem d_R_vertices_44 : decode b_R_vertices 44 = .ok (.iconst 0, 1) := by decide +kernel
theorem d_R_vertices_45 : decode b_R_vertices 45 = .ok (.aload_n 0, 1) := by decide +kernel
theorem d_R_vertices_46 : decode b_R_vertices 46 = .ok (.aload_n 0, 1) := by decide +kernel
theorem d_R_vertices_47 : decode b_R_vertices 47 = .ok (.getfield 20, 3) := by decide +kernel
theorem d_R_vertices_50 : decode b_R_vertices 50 = .ok (.iload_n 2, 1) := by decide +kernel
theorem d_R_vertices_51 : decode b_R_vertices 51 = .ok (.iaload, 1) := by decide +kernel
theorem d_R_vertices_52 : decode b_R_vertices 52 = .ok (.aload_n 0, 1) := by decide +kernel
theorem d_R_vertices_53 : decode b_R_vertices 53 = .ok (.getfield 23, 3) := by decide +kernel
theorem d_R_vertices_56 : decode b_R_vertices 56 = .ok (.iload_n 2, 1) := by decide +kernel
theorem d_R_vertices_57 : decode b_R_vertices 57 = .ok (.iaload, 1) := by decide +kernel
theorem d_R_vertices_58 : decode b_R_vertices 58 = .ok (.invokevirtual 68, 3) := by decide +kernel
theorem d_R_vertices_61 : decode b_R_vertices 61 = .ok (.iload_n 2, 1) := by decide +kernel
theorem d_R_vertices_62 : decode b_R_vertices 62 = .ok (.if_icmp .ne 7, 3) := by decide +kernel
theorem d_R_vertices_65 : decode b_R_vertices 65 = .ok (.iconst 1, 1) := by decide +kernel
theorem d_R_vertices_66 : decode b_R_vertices 66 = .ok (.goto 4, 3) := by decide +kernel
theorem d_R_vertices_69 : decode b_R_vertices 69 = .ok (.iconst 0, 1) := by decide +kernel
theorem d_R_vertices_70 : decode b_R_vertices 70 = .ok (.iadd, 1) := by decide +kernel
theorem d_R_vertices_71 : decode b_R_vertices 71 = .ok (.iadd, 1) := by decide +kernel
theorem d_R_vertices_72 : decode b_R_vertices 72 = .ok (.istore_n 1, 1) := by decide +kernel
theorem d_R_vertices_73 : decode b_R_vertices 73 = .ok (.iinc 2 1, 3) := by decide +kernel
theorem d_R_vertices_76 : decode b_R_vertices 76 = .ok (.goto (-72), 3) := by decide +kernel
theorem d_R_vertices_79 : decode b_R_vertices 79 = .ok (.iload_n 1, 1) := by decide +kernel
theorem d_R_vertices_80 : decode b_R_vertices 80 = .ok (.ireturn, 1) := by decide +kernel
theorem d_R_touch_0 : decode b_R_touch 0 = .ok (.aload_n 0, 1) := by decide +kernel
theorem d_R_touch_1 : decode b_R_touch 1 = .ok (.iload_n 1, 1) := by decide +kernel
theorem d_R_touch_2 : decode b_R_touch 2 = .ok (.aload_n 0, 1) := by decide +kernel
theorem d_R_touch_3 : decode b_R_touch 3 = .ok (.getfield 13, 3) := by decide +kernel
theorem d_R_touch_6 : decode b_R_touch 6 = .ok (.iload_n 2, 1) := by decide +kernel
theorem d_R_touch_7 : decode b_R_touch 7 = .ok (.iaload, 1) := by decide +kernel
theorem d_R_touch_8 : decode b_R_touch 8 = .ok (.aload_n 0, 1) := by decide +kernel
theorem d_R_touch_9 : decode b_R_touch 9 = .ok (.getfield 17, 3) := by decide +kernel
theorem d_R_touch_12 : decode b_R_touch 12 = .ok (.iload_n 2, 1) := by decide +kernel
theorem d_R_touch_13 : decode b_R_touch 13 = .ok (.iaload, 1) := by decide +kernel
theorem d_R_touch_14 : decode b_R_touch 14 = .ok (.invokevirtual 46, 3) := by decide +kernel
theorem d_R_touch_17 : decode b_R_touch 17 = .ok (.ifCond .ne 23, 3) := by decide +kernel
theorem d_R_touch_20 : decode b_R_touch 20 = .ok (.aload_n 0, 1) := by decide +kernel
theorem d_R_touch_21 : decode b_R_touch 21 = .ok (.iload_n 1, 1) := by decide +kernel
theorem d_R_touch_22 : decode b_R_touch 22 = .ok (.aload_n 0, 1) := by decide +kernel
theorem d_R_touch_23 : decode b_R_touch 23 = .ok (.getfield 20, 3) := by decide +kernel
theorem d_R_touch_26 : decode b_R_touch 26 = .ok (.iload_n 2, 1) := by decide +kernel
theorem d_R_touch_27 : decode b_R_touch 27 = .ok (.iaload, 1) := by decide +kernel
theorem d_R_touch_28 : decode b_R_touch 28 = .ok (.aload_n 0, 1) := by decide +kernel
theorem d_R_touch_29 : decode b_R_touch 29 = .ok (.getfield 23, 3) := by decide +kernel
theorem d_R_touch_32 : decode b_R_touch 32 = .ok (.iload_n 2, 1) := by decide +kernel
theorem d_R_touch_33 : decode b_R_touch 33 = .ok (.iaload, 1) := by decide +kernel
theorem d_R_touch_34 : decode b_R_touch 34 = .ok (.invokevirtual 46, 3) := by decide +kernel
theorem d_R_touch_37 : decode b_R_touch 37 = .ok (.ifCond .eq 7, 3) := by decide +kernel
theorem d_R_touch_40 : decode b_R_touch 40 = .ok (.iconst 1, 1) := by decide +kernel
theorem d_R_touch_41 : decode b_R_touch 41 = .ok (.goto 4, 3) := by decide +kernel
theorem d_R_touch_44 : decode b_R_touch 44 = .ok (.iconst 0, 1) := by decide +kernel
theorem d_R_touch_45 : decode b_R_touch 45 = .ok (.ireturn, 1) := by decide +kernel
theorem d_R_partOf_0 : decode b_R_partOf 0 = .ok (.iconst 1, 1) := by decide +kernel
theorem d_R_partOf_1 : decode b_R_partOf 1 = .ok (.iload_n 1, 1) := by decide +kernel
theorem d_R_partOf_2 : decode b_R_partOf 2 = .ok (.ishl, 1) := by decide +kernel
theorem d_R_partOf_3 : decode b_R_partOf 3 = .ok (.istore_n 2, 1) := by decide +kernel
theorem d_R_partOf_4 : decode b_R_partOf 4 = .ok (.iconst 0, 1) := by decide +kernel
theorem d_R_partOf_5 : decode b_R_partOf 5 = .ok (.istore_n 3, 1) := by decide +kernel
theorem d_R_partOf_6 : decode b_R_partOf 6 = .ok (.iload_n 2, 1) := by decide +kernel
theorem d_R_partOf_7 : decode b_R_partOf 7 = .ok (.iload_n 3, 1) := by decide +kernel
theorem d_R_partOf_8 : decode b_R_partOf 8 = .ok (.if_icmp .eq 94, 3) := by decide +kernel
theorem d_R_partOf_11 : decode b_R_partOf 11 = .ok (.iload_n 2, 1) := by decide +kernel
theorem d_R_partOf_12 : decode b_R_partOf 12 = .ok (.istore_n 3, 1) := by decide +kernel
theorem d_R_partOf_13 : decode b_R_partOf 13 = .ok (.iconst 0, 1) := by decide +kernel
theorem d_R_partOf_14 : decode b_R_partOf 14 = .ok (.istore 4, 2) := by decide +kernel
theorem d_R_partOf_16 : decode b_R_partOf 16 = .ok (.iload 4, 2) := by decide +kernel
theorem d_R_partOf_18 : decode b_R_partOf 18 = .ok (.bipush 20, 2) := by decide +kernel
theorem d_R_partOf_20 : decode b_R_partOf 20 = .ok (.if_icmp .ge 79, 3) := by decide +kernel
theorem d_R_partOf_23 : decode b_R_partOf 23 = .ok (.iconst 0, 1) := by decide +kernel
theorem d_R_partOf_24 : decode b_R_partOf 24 = .ok (.istore 5, 2) := by decide +kernel
theorem d_R_partOf_26 : decode b_R_partOf 26 = .ok (.iload 5, 2) := by decide +kernel
theorem d_R_partOf_28 : decode b_R_partOf 28 = .ok (.bipush 20, 2) := by decide +kernel
theorem d_R_partOf_30 : decode b_R_partOf 30 = .ok (.if_icmp .ge 63, 3) := by decide +kernel
theorem d_R_partOf_33 : decode b_R_partOf 33 = .ok (.aload_n 0, 1) := by decide +kernel
theorem d_R_partOf_34 : decode b_R_partOf 34 = .ok (.getfield 7, 3) := by decide +kernel
theorem d_R_partOf_37 : decode b_R_partOf 37 = .ok (.iload 4, 2) := by decide +kernel
theorem d_R_partOf_39 : decode b_R_partOf 39 = .ok (.baload, 1) := by decide +kernel
theorem d_R_partOf_40 : decode b_R_partOf 40 = .ok (.ifCond .eq 28, 3) := by decide +kernel
theorem d_R_partOf_43 : decode b_R_partOf 43 = .ok (.iload_n 2, 1) := by decide +kernel
theorem d_R_partOf_44 : decode b_R_partOf 44 = .ok (.iload 5, 2) := by decide +kernel
theorem d_R_partOf_46 : decode b_R_partOf 46 = .ok (.ishr, 1) := by decide +kernel
theorem d_R_partOf_47 : decode b_R_partOf 47 = .ok (.iconst 1, 1) := by decide +kernel
theorem d_R_partOf_48 : decode b_R_partOf 48 = .ok (.iand, 1) := by decide +kernel
theorem d_R_partOf_49 : decode b_R_partOf 49 = .ok (.iconst 1, 1) := by decide +kernel
theorem d_R_partOf_50 : decode b_R_partOf 50 = .ok (.if_icmp .ne 18, 3) := by decide +kernel
theorem d_R_partOf_53 : decode b_R_partOf 53 = .ok (.aload_n 0, 1) := by decide +kernel
theorem d_R_partOf_54 : decode b_R_partOf 54 = .ok (.iload 5, 2) := by decide +kernel
theorem d_R_partOf_56 : decode b_R_partOf 56 = .ok (.iload 4, 2) := by decide +kernel
theorem d_R_partOf_58 : decode b_R_partOf 58 = .ok (.invokevirtual 72, 3) := by decide +kernel
theorem d_R_partOf_61 : decode b_R_partOf 61 = .ok (.ifCond .eq 7, 3) := by decide +kernel
theorem d_R_partOf_64 : decode b_R_partOf 64 = .ok (.iconst 1, 1) := by decide +kernel
theorem d_R_partOf_65 : decode b_R_partOf 65 = .ok (.goto 4, 3) := by decide +kernel
theorem d_R_partOf_68 : decode b_R_partOf 68 = .ok (.iconst 0, 1) := by decide +kernel
theorem d_R_partOf_69 : decode b_R_partOf 69 = .ok (.istore 6, 2) := by decide +kernel
theorem d_R_partOf_71 : decode b_R_partOf 71 = .ok (.iload 6, 2) := by decide +kernel
theorem d_R_partOf_73 : decode b_R_partOf 73 = .ok (.ifCond .eq 12, 3) := by decide +kernel
theorem d_R_partOf_76 : decode b_R_partOf 76 = .ok (.iload_n 2, 1) := by decide +kernel
theorem d_R_partOf_77 : decode b_R_partOf 77 = .ok (.iconst 1, 1) := by decide +kernel
theorem d_R_partOf_78 : decode b_R_partOf 78 = .ok (.iload 4, 2) := by decide +kernel
theorem d_R_partOf_80 : decode b_R_partOf 80 = .ok (.ishl, 1) := by decide +kernel
theorem d_R_partOf_81 : decode b_R_partOf 81 = .ok (.ior, 1) := by decide +kernel
theorem d_R_partOf_82 : decode b_R_partOf 82 = .ok (.goto 4, 3) := by decide +kernel
theorem d_R_partOf_85 : decode b_R_partOf 85 = .ok (.iload_n 2, 1) := by decide +kernel
theorem d_R_partOf_86 : decode b_R_partOf 86 = .ok (.istore_n 2, 1) := by decide +kernel
theorem d_R_partOf_87 : decode b_R_partOf 87 = .ok (.iinc 5 1, 3) := by decide +kernel
theorem d_R_partOf_90 : decode b_R_partOf 90 = .ok (.goto (-64), 3) := by decide +kernel
theorem d_R_partOf_93 : decode b_R_partOf 93 = .ok (.iinc 4 1, 3) := by decide +kernel
theorem d_R_partOf_96 : decode b_R_partOf 96 = .ok (.goto (-80), 3) := by decide +kernel
theorem d_R_partOf_99 : decode b_R_partOf 99 = .ok (.goto (-93), 3) := by decide +kernel
theorem d_R_partOf_102 : decode b_R_partOf 102 = .ok (.iload_n 2, 1) := by decide +kernel
theorem d_R_partOf_103 : decode b_R_partOf 103 = .ok (.ireturn, 1) := by decide +kernel
theorem d_R_parts_0 : decode b_R_parts 0 = .ok (.iconst 0, 1) := by decide +kernel
theorem d_R_parts_1 : decode b_R_parts 1 = .ok (.istore_n 1, 1) := by decide +kernel
theorem d_R_parts_2 : decode b_R_parts 2 = .ok (.iconst 0, 1) := by decide +kernel
theorem d_R_parts_3 : decode b_R_parts 3 = .ok (.istore_n 2, 1) := by decide +kernel
theorem d_R_parts_4 : decode b_R_parts 4 = .ok (.iload_n 2, 1) := by decide +kernel
theorem d_R_parts_5 : decode b_R_parts 5 = .ok (.bipush 20, 2) := by decide +kernel
theorem d_R_parts_7 : decode b_R_parts 7 = .ok (.if_icmp .ge 40, 3) := by decide +kernel
theorem d_R_parts_10 : decode b_R_parts 10 = .ok (.aload_n 0, 1) := by decide +kernel
theorem d_R_parts_11 : decode b_R_parts 11 = .ok (.getfield 7, 3) := by decide +kernel
theorem d_R_parts_14 : decode b_R_parts 14 = .ok (.iload_n 2, 1) := by decide +kernel
theorem d_R_parts_15 : decode b_R_parts 15 = .ok (.baload, 1) := by decide +kernel
theorem d_R_parts_16 : decode b_R_parts 16 = .ok (.ifCond .eq 23, 3) := by decide +kernel
theorem d_R_parts_19 : decode b_R_parts 19 = .ok (.aload_n 0, 1) := by decide +kernel
theorem d_R_parts_20 : decode b_R_parts 20 = .ok (.iload_n 2, 1) := by decide +kernel
theorem d_R_parts_21 : decode b_R_parts 21 = .ok (.invokevirtual 75, 3) := by decide +kernel
theorem d_R_parts_24 : decode b_R_parts 24 = .ok (.iconst 1, 1) := by decide +kernel
theorem d_R_parts_25 : decode b_R_parts 25 = .ok (.iload_n 2, 1) := by decide +kernel
theorem d_R_parts_26 : decode b_R_parts 26 = .ok (.ishl, 1) := by decide +kernel
theorem d_R_parts_27 : decode b_R_parts 27 = .ok (.iconst 1, 1) := by decide +kernel
theorem d_R_parts_28 : decode b_R_parts 28 = .ok (.isub, 1) := by decide +kernel
theorem d_R_parts_29 : decode b_R_parts 29 = .ok (.iand, 1) := by decide +kernel
theorem d_R_parts_30 : decode b_R_parts 30 = .ok (.ifCond .ne 9, 3) := by decide +kernel
theorem d_R_parts_33 : decode b_R_parts 33 = .ok (.iload_n 1, 1) := by decide +kernel
theorem d_R_parts_34 : decode b_R_parts 34 = .ok (.iconst 1, 1) := by decide +kernel
theorem d_R_parts_35 : decode b_R_parts 35 = .ok (.iadd, 1) := by decide +kernel
theorem d_R_parts_36 : decode b_R_parts 36 = .ok (.goto 4, 3) := by decide +kernel
theorem d_R_parts_39 : decode b_R_parts 39 = .ok (.iload_n 1, 1) := by decide +kernel
theorem d_R_parts_40 : decode b_R_parts 40 = .ok (.istore_n 1, 1) := by decide +kernel
theorem d_R_parts_41 : decode b_R_parts 41 = .ok (.iinc 2 1, 3) := by decide +kernel
theorem d_R_parts_44 : decode b_R_parts 44 = .ok (.goto (-40), 3) := by decide +kernel
theorem d_R_parts_47 : decode b_R_parts 47 = .ok (.iload_n 1, 1) := by decide +kernel
theorem d_R_parts_48 : decode b_R_parts 48 = .ok (.ireturn, 1) := by decide +kernel
theorem d_R_isUpright_0 : decode b_R_isUpright 0 = .ok (.aload_n 0, 1) := by decide +kernel
theorem d_R_isUpright_1 : decode b_R_isUpright 1 = .ok (.getfield 13, 3) := by decide +kernel
theorem d_R_isUpright_4 : decode b_R_isUpright 4 = .ok (.iload_n 1, 1) := by decide +kernel
theorem d_R_isUpright_5 : decode b_R_isUpright 5 = .ok (.iaload, 1) := by decide +kernel
theorem d_R_isUpright_6 : decode b_R_isUpright 6 = .ok (.aload_n 0, 1) := by decide +kernel
theorem d_R_isUpright_7 : decode b_R_isUpright 7 = .ok (.getfield 20, 3) := by decide +kernel
theorem d_R_isUpright_10 : decode b_R_isUpright 10 = .ok (.iload_n 1, 1) := by decide +kernel
theorem d_R_isUpright_11 : decode b_R_isUpright 11 = .ok (.iaload, 1) := by decide +kernel
theorem d_R_isUpright_12 : decode b_R_isUpright 12 = .ok (.if_icmp .ne 7, 3) := by decide +kernel
theorem d_R_isUpright_15 : decode b_R_isUpright 15 = .ok (.iconst 1, 1) := by decide +kernel
theorem d_R_isUpright_16 : decode b_R_isUpright 16 = .ok (.goto 4, 3) := by decide +kernel
theorem d_R_isUpright_19 : decode b_R_isUpright 19 = .ok (.iconst 0, 1) := by decide +kernel
theorem d_R_isUpright_20 : decode b_R_isUpright 20 = .ok (.ireturn, 1) := by decide +kernel
theorem d_R_rise_0 : decode b_R_rise 0 = .ok (.aload_n 0, 1) := by decide +kernel
theorem d_R_rise_1 : decode b_R_rise 1 = .ok (.getfield 17, 3) := by decide +kernel
theorem d_R_rise_4 : decode b_R_rise 4 = .ok (.iload_n 1, 1) := by decide +kernel
theorem d_R_rise_5 : decode b_R_rise 5 = .ok (.iaload, 1) := by decide +kernel
theorem d_R_rise_6 : decode b_R_rise 6 = .ok (.aload_n 0, 1) := by decide +kernel
theorem d_R_rise_7 : decode b_R_rise 7 = .ok (.getfield 20, 3) := by decide +kernel
theorem d_R_rise_10 : decode b_R_rise 10 = .ok (.iload_n 1, 1) := by decide +kernel
theorem d_R_rise_11 : decode b_R_rise 11 = .ok (.iaload, 1) := by decide +kernel
theorem d_R_rise_12 : decode b_R_rise 12 = .ok (.aload_n 0, 1) := by decide +kernel
theorem d_R_rise_13 : decode b_R_rise 13 = .ok (.getfield 13, 3) := by decide +kernel
theorem d_R_rise_16 : decode b_R_rise 16 = .ok (.iload_n 1, 1) := by decide +kernel
theorem d_R_rise_17 : decode b_R_rise 17 = .ok (.iaload, 1) := by decide +kernel
theorem d_R_rise_18 : decode b_R_rise 18 = .ok (.isub, 1) := by decide +kernel
theorem d_R_rise_19 : decode b_R_rise 19 = .ok (.imul, 1) := by decide +kernel
theorem d_R_rise_20 : decode b_R_rise 20 = .ok (.aload_n 0, 1) := by decide +kernel
theorem d_R_rise_21 : decode b_R_rise 21 = .ok (.getfield 23, 3) := by decide +kernel
theorem d_R_rise_24 : decode b_R_rise 24 = .ok (.iload_n 1, 1) := by decide +kernel
theorem d_R_rise_25 : decode b_R_rise 25 = .ok (.iaload, 1) := by decide +kernel
theorem d_R_rise_26 : decode b_R_rise 26 = .ok (.aload_n 0, 1) := by decide +kernel
theorem d_R_rise_27 : decode b_R_rise 27 = .ok (.getfield 17, 3) := by decide +kernel
theorem d_R_rise_30 : decode b_R_rise 30 = .ok (.iload_n 1, 1) := by decide +kernel
theorem d_R_rise_31 : decode b_R_rise 31 = .ok (.iaload, 1) := by decide +kernel
theorem d_R_rise_32 : decode b_R_rise 32 = .ok (.isub, 1) := by decide +kernel
theorem d_R_rise_33 : decode b_R_rise 33 = .ok (.iload_n 2, 1) := by decide +kernel
theorem d_R_rise_34 : decode b_R_rise 34 = .ok (.aload_n 0, 1) := by decide +kernel
theorem d_R_rise_35 : decode b_R_rise 35 = .ok (.getfield 13, 3) := by decide +kernel
theorem d_R_rise_38 : decode b_R_rise 38 = .ok (.iload_n 1, 1) := by decide +kernel
theorem d_R_rise_39 : decode b_R_rise 39 = .ok (.iaload, 1) := by decide +kernel
theorem d_R_rise_40 : decode b_R_rise 40 = .ok (.isub, 1) := by decide +kernel
theorem d_R_rise_41 : decode b_R_rise 41 = .ok (.imul, 1) := by decide +kernel
theorem d_R_rise_42 : decode b_R_rise 42 = .ok (.iadd, 1) := by decide +kernel
theorem d_R_rise_43 : decode b_R_rise 43 = .ok (.ireturn, 1) := by decide +kernel
theorem d_R_width_0 : decode b_R_width 0 = .ok (.aload_n 0, 1) := by decide +kernel
theorem d_R_width_1 : decode b_R_width 1 = .ok (.getfield 20, 3) := by decide +kernel
theorem d_R_width_4 : decode b_R_width 4 = .ok (.iload_n 1, 1) := by decide +kernel
theorem d_R_width_5 : decode b_R_width 5 = .ok (.iaload, 1) := by decide +kernel
theorem d_R_width_6 : decode b_R_width 6 = .ok (.aload_n 0, 1) := by decide +kernel
theorem d_R_width_7 : decode b_R_width 7 = .ok (.getfield 13, 3) := by decide +kernel
theorem d_R_width_10 : decode b_R_width 10 = .ok (.iload_n 1, 1) := by decide +kernel
theorem d_R_width_11 : decode b_R_width 11 = .ok (.iaload, 1) := by decide +kernel
theorem d_R_width_12 : decode b_R_width 12 = .ok (.isub, 1) := by decide +kernel
theorem d_R_width_13 : decode b_R_width 13 = .ok (.ireturn, 1) := by decide +kernel
theorem d_R_floorRise_0 : decode b_R_floorRise 0 = .ok (.iload_n 2, 1) := by decide +kernel
theorem d_R_floorRise_1 : decode b_R_floorRise 1 = .ok (.ifCond .ne 8, 3) := by decide +kernel
theorem d_R_floorRise_4 : decode b_R_floorRise 4 = .ok (.ldc 78, 2) := by decide +kernel
theorem d_R_floorRise_6 : decode b_R_floorRise 6 = .ok (.goto 21, 3) := by decide +kernel
theorem d_R_floorRise_9 : decode b_R_floorRise 9 = .ok (.aload_n 0, 1) := by decide +kernel
theorem d_R_floorRise_10 : decode b_R_floorRise 10 = .ok (.aload_n 0, 1) := by decide +kernel
theorem d_R_floorRise_11 : decode b_R_floorRise 11 = .ok (.getfield 29, 3) := by decide +kernel
theorem d_R_floorRise_14 : decode b_R_floorRise 14 = .ok (.bipush 20, 2) := by decide +kernel
theorem d_R_floorRise_16 : decode b_R_floorRise 16 = .ok (.iload_n 1, 1) := by decide +kernel
theorem d_R_floorRise_17 : decode b_R_floorRise 17 = .ok (.imul, 1) := by decide +kernel
theorem d_R_floorRise_18 : decode b_R_floorRise 18 = .ok (.iload_n 2, 1) := by decide +kernel
theorem d_R_floorRise_19 : decode b_R_floorRise 19 = .ok (.iadd, 1) := by decide +kernel
theorem d_R_floorRise_20 : decode b_R_floorRise 20 = .ok (.iconst 1, 1) := by decide +kernel
theorem d_R_floorRise_21 : decode b_R_floorRise 21 = .ok (.isub, 1) := by decide +kernel
theorem d_R_floorRise_22 : decode b_R_floorRise 22 = .ok (.iaload, 1) := by decide +kernel
theorem d_R_floorRise_23 : decode b_R_floorRise 23 = .ok (.iload_n 3, 1) := by decide +kernel
theorem d_R_floorRise_24 : decode b_R_floorRise 24 = .ok (.invokevirtual 79, 3) := by decide +kernel
theorem d_R_floorRise_27 : decode b_R_floorRise 27 = .ok (.ireturn, 1) := by decide +kernel
theorem d_R_floorWidth_0 : decode b_R_floorWidth 0 = .ok (.iload_n 2, 1) := by decide +kernel
theorem d_R_floorWidth_1 : decode b_R_floorWidth 1 = .ok (.ifCond .ne 7, 3) := by decide +kernel
theorem d_R_floorWidth_4 : decode b_R_floorWidth 4 = .ok (.iconst 1, 1) := by decide +kernel
theorem d_R_floorWidth_5 : decode b_R_floorWidth 5 = .ok (.goto 20, 3) := by decide +kernel
theorem d_R_floorWidth_8 : decode b_R_floorWidth 8 = .ok (.aload_n 0, 1) := by decide +kernel
theorem d_R_floorWidth_9 : decode b_R_floorWidth 9 = .ok (.aload_n 0, 1) := by decide +kernel
theorem d_R_floorWidth_10 : decode b_R_floorWidth 10 = .ok (.getfield 29, 3) := by decide +kernel
theorem d_R_floorWidth_13 : decode b_R_floorWidth 13 = .ok (.bipush 20, 2) := by decide +kernel
theorem d_R_floorWidth_15 : decode b_R_floorWidth 15 = .ok (.iload_n 1, 1) := by decide +kernel
theorem d_R_floorWidth_16 : decode b_R_floorWidth 16 = .ok (.imul, 1) := by decide +kernel
theorem d_R_floorWidth_17 : decode b_R_floorWidth 17 = .ok (.iload_n 2, 1) := by decide +kernel
theorem d_R_floorWidth_18 : decode b_R_floorWidth 18 = .ok (.iadd, 1) := by decide +kernel
theorem d_R_floorWidth_19 : decode b_R_floorWidth 19 = .ok (.iconst 1, 1) := by decide +kernel
theorem d_R_floorWidth_20 : decode b_R_floorWidth 20 = .ok (.isub, 1) := by decide +kernel
theorem d_R_floorWidth_21 : decode b_R_floorWidth 21 = .ok (.iaload, 1) := by decide +kernel
theorem d_R_floorWidth_22 : decode b_R_floorWidth 22 = .ok (.invokevirtual 82, 3) := by decide +kernel
theorem d_R_floorWidth_25 : decode b_R_floorWidth 25 = .ok (.ireturn, 1) := by decide +kernel
theorem d_R_roofRise_0 : decode b_R_roofRise 0 = .ok (.iload_n 2, 1) := by decide +kernel
theorem d_R_roofRise_1 : decode b_R_roofRise 1 = .ok (.aload_n 0, 1) := by decide +kernel
theorem d_R_roofRise_2 : decode b_R_roofRise 2 = .ok (.getfield 32, 3) := by decide +kernel
theorem d_R_roofRise_5 : decode b_R_roofRise 5 = .ok (.iload_n 1, 1) := by decide +kernel
theorem d_R_roofRise_6 : decode b_R_roofRise 6 = .ok (.iaload, 1) := by decide +kernel
theorem d_R_roofRise_7 : decode b_R_roofRise 7 = .ok (.if_icmp .ne 8, 3) := by decide +kernel
theorem d_R_roofRise_10 : decode b_R_roofRise 10 = .ok (.ldc 85, 2) := by decide +kernel
theorem d_R_roofRise_12 : decode b_R_roofRise 12 = .ok (.goto 19, 3) := by decide +kernel
theorem d_R_roofRise_15 : decode b_R_roofRise 15 = .ok (.aload_n 0, 1) := by decide +kernel
theorem d_R_roofRise_16 : decode b_R_roofRise 16 = .ok (.aload_n 0, 1) := by decide +kernel
theorem d_R_roofRise_17 : decode b_R_roofRise 17 = .ok (.getfield 29, 3) := by decide +kernel
theorem d_R_roofRise_20 : decode b_R_roofRise 20 = .ok (.bipush 20, 2) := by decide +kernel
theorem d_R_roofRise_22 : decode b_R_roofRise 22 = .ok (.iload_n 1, 1) := by decide +kernel
theorem d_R_roofRise_23 : decode b_R_roofRise 23 = .ok (.imul, 1) := by decide +kernel
theorem d_R_roofRise_24 : decode b_R_roofRise 24 = .ok (.iload_n 2, 1) := by decide +kernel
theorem d_R_roofRise_25 : decode b_R_roofRise 25 = .ok (.iadd, 1) := by decide +kernel
theorem d_R_roofRise_26 : decode b_R_roofRise 26 = .ok (.iaload, 1) := by decide +kernel
theorem d_R_roofRise_27 : decode b_R_roofRise 27 = .ok (.iload_n 3, 1) := by decide +kernel
theorem d_R_roofRise_28 : decode b_R_roofRise 28 = .ok (.invokevirtual 79, 3) := by decide +kernel
theorem d_R_roofRise_31 : decode b_R_roofRise 31 = .ok (.ireturn, 1) := by decide +kernel
theorem d_R_roofWidth_0 : decode b_R_roofWidth 0 = .ok (.iload_n 2, 1) := by decide +kernel
theorem d_R_roofWidth_1 : decode b_R_roofWidth 1 = .ok (.aload_n 0, 1) := by decide +kernel
theorem d_R_roofWidth_2 : decode b_R_roofWidth 2 = .ok (.getfield 32, 3) := by decide +kernel
theorem d_R_roofWidth_5 : decode b_R_roofWidth 5 = .ok (.iload_n 1, 1) := by decide +kernel
theorem d_R_roofWidth_6 : decode b_R_roofWidth 6 = .ok (.iaload, 1) := by decide +kernel
theorem d_R_roofWidth_7 : decode b_R_roofWidth 7 = .ok (.if_icmp .ne 7, 3) := by decide +kernel
theorem d_R_roofWidth_10 : decode b_R_roofWidth 10 = .ok (.iconst 1, 1) := by decide +kernel
theorem d_R_roofWidth_11 : decode b_R_roofWidth 11 = .ok (.goto 18, 3) := by decide +kernel
theorem d_R_roofWidth_14 : decode b_R_roofWidth 14 = .ok (.aload_n 0, 1) := by decide +kernel
theorem d_R_roofWidth_15 : decode b_R_roofWidth 15 = .ok (.aload_n 0, 1) := by decide +kernel
theorem d_R_roofWidth_16 : decode b_R_roofWidth 16 = .ok (.getfield 29, 3) := by decide +kernel
theorem d_R_roofWidth_19 : decode b_R_roofWidth 19 = .ok (.bipush 20, 2) := by decide +kernel
theorem d_R_roofWidth_21 : decode b_R_roofWidth 21 = .ok (.iload_n 1, 1) := by decide +kernel
theorem d_R_roofWidth_22 : decode b_R_roofWidth 22 = .ok (.imul, 1) := by decide +kernel
theorem d_R_roofWidth_23 : decode b_R_roofWidth 23 = .ok (.iload_n 2, 1) := by decide +kernel
theorem d_R_roofWidth_24 : decode b_R_roofWidth 24 = .ok (.iadd, 1) := by decide +kernel
theorem d_R_roofWidth_25 : decode b_R_roofWidth 25 = .ok (.iaload, 1) := by decide +kernel
theorem d_R_roofWidth_26 : decode b_R_roofWidth 26 = .ok (.invokevirtual 82, 3) := by decide +kernel
theorem d_R_roofWidth_29 : decode b_R_roofWidth 29 = .ok (.ireturn, 1) := by decide +kernel
theorem d_R_less_0 : decode b_R_less 0 = .ok (.iload_n 0, 1) := by decide +kernel
theorem d_R_less_1 : decode b_R_less 1 = .ok (.iload_n 3, 1) := by decide +kernel
theorem d_R_less_2 : decode b_R_less 2 = .ok (.imul, 1) := by decide +kernel
theorem d_R_less_3 : decode b_R_less 3 = .ok (.iload_n 2, 1) := by decide +kernel
theorem d_R_less_4 : decode b_R_less 4 = .ok (.iload_n 1, 1) := by decide +kernel
theorem d_R_less_5 : decode b_R_less 5 = .ok (.imul, 1) := by decide +kernel
theorem d_R_less_6 : decode b_R_less 6 = .ok (.if_icmp .ge 7, 3) := by decide +kernel
theorem d_R_less_9 : decode b_R_less 9 = .ok (.iconst 1, 1) := by decide +kernel
theorem d_R_less_10 : decode b_R_less 10 = .ok (.goto 4, 3) := by decide +kernel
theorem d_R_less_13 : decode b_R_less 13 = .ok (.iconst 0, 1) := by decide +kernel
theorem d_R_less_14 : decode b_R_less 14 = .ok (.ireturn, 1) := by decide +kernel
theorem d_R_addLine_0 : decode b_R_addLine 0 = .ok (.aload_n 0, 1) := by decide +kernel
theorem d_R_addLine_1 : decode b_R_addLine 1 = .ok (.getfield 86, 3) := by decide +kernel
theorem d_R_addLine_4 : decode b_R_addLine 4 = .ok (.istore_n 2, 1) := by decide +kernel
theorem d_R_addLine_5 : decode b_R_addLine 5 = .ok (.iload_n 2, 1) := by decide +kernel
theorem d_R_addLine_6 : decode b_R_addLine 6 = .ok (.ifCond .le 21, 3) := by decide +kernel
theorem d_R_addLine_9 : decode b_R_addLine 9 = .ok (.aload_n 0, 1) := by decide +kernel
theorem d_R_addLine_10 : decode b_R_addLine 10 = .ok (.getfield 26, 3) := by decide +kernel
theorem d_R_addLine_13 : decode b_R_addLine 13 = .ok (.iload_n 2, 1) := by decide +kernel
theorem d_R_addLine_14 : decode b_R_addLine 14 = .ok (.iconst 1, 1) := by decide +kernel
theorem d_R_addLine_15 : decode b_R_addLine 15 = .ok (.isub, 1) := by decide +kernel
theorem d_R_addLine_16 : decode b_R_addLine 16 = .ok (.iaload, 1) := by decide +kernel
theorem d_R_addLine_17 : decode b_R_addLine 17 = .ok (.iload_n 1, 1) := by decide +kernel
theorem d_R_addLine_18 : decode b_R_addLine 18 = .ok (.if_icmp .le 9, 3) := by decide +kernel
theorem d_R_addLine_21 : decode b_R_addLine 21 = .ok (.iinc 2 (-1), 3) := by decide +kernel
theorem d_R_addLine_24 : decode b_R_addLine 24 = .ok (.goto (-19), 3) := by decide +kernel
theorem d_R_addLine_27 : decode b_R_addLine 27 = .ok (.iload_n 2, 1) := by decide +kernel
theorem d_R_addLine_28 : decode b_R_addLine 28 = .ok (.ifCond .eq 15, 3) := by decide +kernel
theorem d_R_addLine_31 : decode b_R_addLine 31 = .ok (.aload_n 0, 1) := by decide +kernel
theorem d_R_addLine_32 : decode b_R_addLine 32 = .ok (.getfield 26, 3) := by decide +kernel
theorem d_R_addLine_35 : decode b_R_addLine 35 = .ok (.iload_n 2, 1) := by decide +kernel
theorem d_R_addLine_36 : decode b_R_addLine 36 = .ok (.iconst 1, 1) := by decide +kernel
theorem d_R_addLine_37 : decode b_R_addLine 37 = .ok (.isub, 1) := by decide +kernel
theorem d_R_addLine_38 : decode b_R_addLine 38 = .ok (.iaload, 1) := by decide +kernel
theorem d_R_addLine_39 : decode b_R_addLine 39 = .ok (.iload_n 1, 1) := by decide +kernel
theorem d_R_addLine_40 : decode b_R_addLine 40 = .ok (.if_icmp .eq 50, 3) := by decide +kernel
theorem d_R_addLine_43 : decode b_R_addLine 43 = .ok (.aload_n 0, 1) := by decide +kernel
theorem d_R_addLine_44 : decode b_R_addLine 44 = .ok (.getfield 86, 3) := by decide +kernel
theorem d_R_addLine_47 : decode b_R_addLine 47 = .ok (.istore_n 3, 1) := by decide +kernel
theorem d_R_addLine_48 : decode b_R_addLine 48 = .ok (.iload_n 3, 1) := by decide +kernel
theorem d_R_addLine_49 : decode b_R_addLine 49 = .ok (.iload_n 2, 1) := by decide +kernel
theorem d_R_addLine_50 : decode b_R_addLine 50 = .ok (.if_icmp .le 23, 3) := by decide +kernel
theorem d_R_addLine_53 : decode b_R_addLine 53 = .ok (.aload_n 0, 1) := by decide +kernel
theorem d_R_addLine_54 : decode b_R_addLine 54 = .ok (.getfield 26, 3) := by decide +kernel
theorem d_R_addLine_57 : decode b_R_addLine 57 = .ok (.iload_n 3, 1) := by decide +kernel
theorem d_R_addLine_58 : decode b_R_addLine 58 = .ok (.aload_n 0, 1) := by decide +kernel
theorem d_R_addLine_59 : decode b_R_addLine 59 = .ok (.getfield 26, 3) := by decide +kernel
theorem d_R_addLine_62 : decode b_R_addLine 62 = .ok (.iload_n 3, 1) := by decide +kernel
theorem d_R_addLine_63 : decode b_R_addLine 63 = .ok (.iconst 1, 1) := by decide +kernel
theorem d_R_addLine_64 : decode b_R_addLine 64 = .ok (.isub, 1) := by decide +kernel
theorem d_R_addLine_65 : decode b_R_addLine 65 = .ok (.iaload, 1) := by decide +kernel
theorem d_R_addLine_66 : decode b_R_addLine 66 = .ok (.iastore, 1) := by decide +kernel
theorem d_R_addLine_67 : decode b_R_addLine 67 = .ok (.iinc 3 (-1), 3) := by decide +kernel
theorem d_R_addLine_70 : decode b_R_addLine 70 = .ok (.goto (-22), 3) := by decide +kernel
theorem d_R_addLine_73 : decode b_R_addLine 73 = .ok (.aload_n 0, 1) := by decide +kernel
theorem d_R_addLine_74 : decode b_R_addLine 74 = .ok (.getfield 26, 3) := by decide +kernel
theorem d_R_addLine_77 : decode b_R_addLine 77 = .ok (.iload_n 2, 1) := by decide +kernel
theorem d_R_addLine_78 : decode b_R_addLine 78 = .ok (.iload_n 1, 1) := by decide +kernel
theorem d_R_addLine_79 : decode b_R_addLine 79 = .ok (.iastore, 1) := by decide +kernel
theorem d_R_addLine_80 : decode b_R_addLine 80 = .ok (.aload_n 0, 1) := by decide +kernel
theorem d_R_addLine_81 : decode b_R_addLine 81 = .ok (.dup, 1) := by decide +kernel
theorem d_R_addLine_82 : decode b_R_addLine 82 = .ok (.getfield 86, 3) := by decide +kernel
theorem d_R_addLine_85 : decode b_R_addLine 85 = .ok (.iconst 1, 1) := by decide +kernel
theorem d_R_addLine_86 : decode b_R_addLine 86 = .ok (.iadd, 1) := by decide +kernel
theorem d_R_addLine_87 : decode b_R_addLine 87 = .ok (.putfield 86, 3) := by decide +kernel
theorem d_R_addLine_90 : decode b_R_addLine 90 = .ok (.return_, 1) := by decide +kernel
theorem d_R_below_0 : decode b_R_below 0 = .ok (.iconst 2, 1) := by decide +kernel
theorem d_R_below_1 : decode b_R_below 1 = .ok (.aload_n 0, 1) := by decide +kernel
theorem d_R_below_2 : decode b_R_below 2 = .ok (.getfield 17, 3) := by decide +kernel
theorem d_R_below_5 : decode b_R_below 5 = .ok (.iload_n 1, 1) := by decide +kernel
theorem d_R_below_6 : decode b_R_below 6 = .ok (.iaload, 1) := by decide +kernel
theorem d_R_below_7 : decode b_R_below 7 = .ok (.imul, 1) := by decide +kernel
theorem d_R_below_8 : decode b_R_below 8 = .ok (.aload_n 0, 1) := by decide +kernel
theorem d_R_below_9 : decode b_R_below 9 = .ok (.iload_n 1, 1) := by decide +kernel
theorem d_R_below_10 : decode b_R_below 10 = .ok (.invokevirtual 82, 3) := by decide +kernel
theorem d_R_below_13 : decode b_R_below 13 = .ok (.imul, 1) := by decide +kernel
theorem d_R_below_14 : decode b_R_below 14 = .ok (.aload_n 0, 1) := by decide +kernel
theorem d_R_below_15 : decode b_R_below 15 = .ok (.getfield 23, 3) := by decide +kernel
theorem d_R_below_18 : decode b_R_below 18 = .ok (.iload_n 1, 1) := by decide +kernel
theorem d_R_below_19 : decode b_R_below 19 = .ok (.iaload, 1) := by decide +kernel
theorem d_R_below_20 : decode b_R_below 20 = .ok (.aload_n 0, 1) := by decide +kernel
theorem d_R_below_21 : decode b_R_below 21 = .ok (.getfield 17, 3) := by decide +kernel
theorem d_R_below_24 : decode b_R_below 24 = .ok (.iload_n 1, 1) := by decide +kernel
theorem d_R_below_25 : decode b_R_below 25 = .ok (.iaload, 1) := by decide +kernel
theorem d_R_below_26 : decode b_R_below 26 = .ok (.isub, 1) := by decide +kernel
theorem d_R_below_27 : decode b_R_below 27 = .ok (.iload_n 3, 1) := by decide +kernel
theorem d_R_below_28 : decode b_R_below 28 = .ok (.iconst 2, 1) := by decide +kernel
theorem d_R_below_29 : decode b_R_below 29 = .ok (.aload_n 0, 1) := by decide +kernel
theorem d_R_below_30 : decode b_R_below 30 = .ok (.getfield 13, 3) := by decide +kernel
theorem d_R_below_33 : decode b_R_below 33 = .ok (.iload_n 1, 1) := by decide +kernel
theorem d_R_below_34 : decode b_R_below 34 = .ok (.iaload, 1) := by decide +kernel
theorem d_R_below_35 : decode b_R_below 35 = .ok (.imul, 1) := by decide +kernel
theorem d_R_below_36 : decode b_R_below 36 = .ok (.isub, 1) := by decide +kernel
theorem d_R_below_37 : decode b_R_below 37 = .ok (.imul, 1) := by decide +kernel
theorem d_R_below_38 : decode b_R_below 38 = .ok (.iadd, 1) := by decide +kernel
theorem d_R_below_39 : decode b_R_below 39 = .ok (.istore 4, 2) := by decide +kernel
theorem d_R_below_41 : decode b_R_below 41 = .ok (.iconst 2, 1) := by decide +kernel
theorem d_R_below_42 : decode b_R_below 42 = .ok (.aload_n 0, 1) := by decide +kernel
theorem d_R_below_43 : decode b_R_below 43 = .ok (.getfield 17, 3) := by decide +kernel
theorem d_R_below_46 : decode b_R_below 46 = .ok (.iload_n 2, 1) := by decide +kernel
theorem d_R_below_47 : decode b_R_below 47 = .ok (.iaload, 1) := by decide +kernel
theorem d_R_below_48 : decode b_R_below 48 = .ok (.imul, 1) := by decide +kernel
theorem d_R_below_49 : decode b_R_below 49 = .ok (.aload_n 0, 1) := by decide +kernel
theorem d_R_below_50 : decode b_R_below 50 = .ok (.iload_n 2, 1) := by decide +kernel
theorem d_R_below_51 : decode b_R_below 51 = .ok (.invokevirtual 82, 3) := by decide +kernel
theorem d_R_below_54 : decode b_R_below 54 = .ok (.imul, 1) := by decide +kernel
theorem d_R_below_55 : decode b_R_below 55 = .ok (.aload_n 0, 1) := by decide +kernel
theorem d_R_below_56 : decode b_R_below 56 = .ok (.getfield 23, 3) := by decide +kernel
theorem d_R_below_59 : decode b_R_below 59 = .ok (.iload_n 2, 1) := by decide +kernel
theorem d_R_below_60 : decode b_R_below 60 = .ok (.iaload, 1) := by decide +kernel
theorem d_R_below_61 : decode b_R_below 61 = .ok (.aload_n 0, 1) := by decide +kernel
theorem d_R_below_62 : decode b_R_below 62 = .ok (.getfield 17, 3) := by decide +kernel
theorem d_R_below_65 : decode b_R_below 65 = .ok (.iload_n 2, 1) := by decide +kernel
theorem d_R_below_66 : decode b_R_below 66 = .ok (.iaload, 1) := by decide +kernel
theorem d_R_below_67 : decode b_R_below 67 = .ok (.isub, 1) := by decide +kernel
theorem d_R_below_68 : decode b_R_below 68 = .ok (.iload_n 3, 1) := by decide +kernel
theorem d_R_below_69 : decode b_R_below 69 = .ok (.iconst 2, 1) := by decide +kernel
theorem d_R_below_70 : decode b_R_below 70 = .ok (.aload_n 0, 1) := by decide +kernel
theorem d_R_below_71 : decode b_R_below 71 = .ok (.getfield 13, 3) := by decide +kernel
theorem d_R_below_74 : decode b_R_below 74 = .ok (.iload_n 2, 1) := by decide +kernel
theorem d_R_below_75 : decode b_R_below 75 = .ok (.iaload, 1) := by decide +kernel
theorem d_R_below_76 : decode b_R_below 76 = .ok (.imul, 1) := by decide +kernel
theorem d_R_below_77 : decode b_R_below 77 = .ok (.isub, 1) := by decide +kernel
theorem d_R_below_78 : decode b_R_below 78 = .ok (.imul, 1) := by decide +kernel
theorem d_R_below_79 : decode b_R_below 79 = .ok (.iadd, 1) := by decide +kernel
theorem d_R_below_80 : decode b_R_below 80 = .ok (.istore 5, 2) := by decide +kernel
theorem d_R_below_82 : decode b_R_below 82 = .ok (.iload 4, 2) := by decide +kernel
theorem d_R_below_84 : decode b_R_below 84 = .ok (.aload_n 0, 1) := by decide +kernel
theorem d_R_below_85 : decode b_R_below 85 = .ok (.iload_n 1, 1) := by decide +kernel
theorem d_R_below_86 : decode b_R_below 86 = .ok (.invokevirtual 82, 3) := by decide +kernel
theorem d_R_below_89 : decode b_R_below 89 = .ok (.iload 5, 2) := by decide +kernel
theorem d_R_below_91 : decode b_R_below 91 = .ok (.aload_n 0, 1) := by decide +kernel
end
section
theorem d_R_below_92 : decode b_R_below 92 = .ok (.iload_n 2, 1) := by decide +kernel
theorem d_R_below_93 : decode b_R_below 93 = .ok (.invokevirtual 82, 3) := by decide +kernel
theorem d_R_below_96 : decode b_R_below 96 = .ok (.invokestatic 90, 3) := by decide +kernel
theorem d_R_below_99 : decode b_R_below 99 = .ok (.ireturn, 1) := by decide +kernel
theorem d_R_fill_0 : decode b_R_fill 0 = .ok (.aload_n 0, 1) := by decide +kernel
theorem d_R_fill_1 : decode b_R_fill 1 = .ok (.getfield 32, 3) := by decide +kernel
theorem d_R_fill_4 : decode b_R_fill 4 = .ok (.iload_n 1, 1) := by decide +kernel
theorem d_R_fill_5 : decode b_R_fill 5 = .ok (.iconst 0, 1) := by decide +kernel
theorem d_R_fill_6 : decode b_R_fill 6 = .ok (.iastore, 1) := by decide +kernel
theorem d_R_fill_7 : decode b_R_fill 7 = .ok (.iload_n 1, 1) := by decide +kernel
theorem d_R_fill_8 : decode b_R_fill 8 = .ok (.ifCond .eq 11, 3) := by decide +kernel
theorem d_R_fill_11 : decode b_R_fill 11 = .ok (.iload_n 1, 1) := by decide +kernel
theorem d_R_fill_12 : decode b_R_fill 12 = .ok (.aload_n 0, 1) := by decide +kernel
theorem d_R_fill_13 : decode b_R_fill 13 = .ok (.getfield 86, 3) := by decide +kernel
theorem d_R_fill_16 : decode b_R_fill 16 = .ok (.if_icmp .ne 4, 3) := by decide +kernel
theorem d_R_fill_19 : decode b_R_fill 19 = .ok (.return_, 1) := by decide +kernel
theorem d_R_fill_20 : decode b_R_fill 20 = .ok (.aload_n 0, 1) := by decide +kernel
theorem d_R_fill_21 : decode b_R_fill 21 = .ok (.getfield 26, 3) := by decide +kernel
theorem d_R_fill_24 : decode b_R_fill 24 = .ok (.iload_n 1, 1) := by decide +kernel
theorem d_R_fill_25 : decode b_R_fill 25 = .ok (.iconst 1, 1) := by decide +kernel
theorem d_R_fill_26 : decode b_R_fill 26 = .ok (.isub, 1) := by decide +kernel
theorem d_R_fill_27 : decode b_R_fill 27 = .ok (.iaload, 1) := by decide +kernel
theorem d_R_fill_28 : decode b_R_fill 28 = .ok (.istore_n 2, 1) := by decide +kernel
theorem d_R_fill_29 : decode b_R_fill 29 = .ok (.aload_n 0, 1) := by decide +kernel
theorem d_R_fill_30 : decode b_R_fill 30 = .ok (.getfield 26, 3) := by decide +kernel
theorem d_R_fill_33 : decode b_R_fill 33 = .ok (.iload_n 1, 1) := by decide +kernel
theorem d_R_fill_34 : decode b_R_fill 34 = .ok (.iaload, 1) := by decide +kernel
theorem d_R_fill_35 : decode b_R_fill 35 = .ok (.istore_n 3, 1) := by decide +kernel
theorem d_R_fill_36 : decode b_R_fill 36 = .ok (.iconst 0, 1) := by decide +kernel
theorem d_R_fill_37 : decode b_R_fill 37 = .ok (.istore 4, 2) := by decide +kernel
theorem d_R_fill_39 : decode b_R_fill 39 = .ok (.iload 4, 2) := by decide +kernel
theorem d_R_fill_41 : decode b_R_fill 41 = .ok (.bipush 20, 2) := by decide +kernel
theorem d_R_fill_43 : decode b_R_fill 43 = .ok (.if_icmp .ge 125, 3) := by decide +kernel
theorem d_R_fill_46 : decode b_R_fill 46 = .ok (.aload_n 0, 1) := by decide +kernel
theorem d_R_fill_47 : decode b_R_fill 47 = .ok (.getfield 7, 3) := by decide +kernel
theorem d_R_fill_50 : decode b_R_fill 50 = .ok (.iload 4, 2) := by decide +kernel
theorem d_R_fill_52 : decode b_R_fill 52 = .ok (.baload, 1) := by decide +kernel
theorem d_R_fill_53 : decode b_R_fill 53 = .ok (.ifCond .eq 109, 3) := by decide +kernel
theorem d_R_fill_56 : decode b_R_fill 56 = .ok (.aload_n 0, 1) := by decide +kernel
theorem d_R_fill_57 : decode b_R_fill 57 = .ok (.getfield 13, 3) := by decide +kernel
theorem d_R_fill_60 : decode b_R_fill 60 = .ok (.iload 4, 2) := by decide +kernel
theorem d_R_fill_62 : decode b_R_fill 62 = .ok (.iaload, 1) := by decide +kernel
theorem d_R_fill_63 : decode b_R_fill 63 = .ok (.iload_n 2, 1) := by decide +kernel
theorem d_R_fill_64 : decode b_R_fill 64 = .ok (.if_icmp .gt 98, 3) := by decide +kernel
theorem d_R_fill_67 : decode b_R_fill 67 = .ok (.aload_n 0, 1) := by decide +kernel
theorem d_R_fill_68 : decode b_R_fill 68 = .ok (.getfield 20, 3) := by decide +kernel
theorem d_R_fill_71 : decode b_R_fill 71 = .ok (.iload 4, 2) := by decide +kernel
theorem d_R_fill_73 : decode b_R_fill 73 = .ok (.iaload, 1) := by decide +kernel
theorem d_R_fill_74 : decode b_R_fill 74 = .ok (.iload_n 3, 1) := by decide +kernel
theorem d_R_fill_75 : decode b_R_fill 75 = .ok (.if_icmp .lt 87, 3) := by decide +kernel
theorem d_R_fill_78 : decode b_R_fill 78 = .ok (.bipush 20, 2) := by decide +kernel
theorem d_R_fill_80 : decode b_R_fill 80 = .ok (.iload_n 1, 1) := by decide +kernel
theorem d_R_fill_81 : decode b_R_fill 81 = .ok (.imul, 1) := by decide +kernel
theorem d_R_fill_82 : decode b_R_fill 82 = .ok (.aload_n 0, 1) := by decide +kernel
theorem d_R_fill_83 : decode b_R_fill 83 = .ok (.getfield 32, 3) := by decide +kernel
theorem d_R_fill_86 : decode b_R_fill 86 = .ok (.iload_n 1, 1) := by decide +kernel
theorem d_R_fill_87 : decode b_R_fill 87 = .ok (.iaload, 1) := by decide +kernel
theorem d_R_fill_88 : decode b_R_fill 88 = .ok (.iadd, 1) := by decide +kernel
theorem d_R_fill_89 : decode b_R_fill 89 = .ok (.istore 5, 2) := by decide +kernel
theorem d_R_fill_91 : decode b_R_fill 91 = .ok (.iload 5, 2) := by decide +kernel
theorem d_R_fill_93 : decode b_R_fill 93 = .ok (.bipush 20, 2) := by decide +kernel
theorem d_R_fill_95 : decode b_R_fill 95 = .ok (.iload_n 1, 1) := by decide +kernel
theorem d_R_fill_96 : decode b_R_fill 96 = .ok (.imul, 1) := by decide +kernel
theorem d_R_fill_97 : decode b_R_fill 97 = .ok (.if_icmp .le 46, 3) := by decide +kernel
theorem d_R_fill_100 : decode b_R_fill 100 = .ok (.aload_n 0, 1) := by decide +kernel
theorem d_R_fill_101 : decode b_R_fill 101 = .ok (.iload 4, 2) := by decide +kernel
theorem d_R_fill_103 : decode b_R_fill 103 = .ok (.aload_n 0, 1) := by decide +kernel
theorem d_R_fill_104 : decode b_R_fill 104 = .ok (.getfield 29, 3) := by decide +kernel
theorem d_R_fill_107 : decode b_R_fill 107 = .ok (.iload 5, 2) := by decide +kernel
theorem d_R_fill_109 : decode b_R_fill 109 = .ok (.iconst 1, 1) := by decide +kernel
theorem d_R_fill_110 : decode b_R_fill 110 = .ok (.isub, 1) := by decide +kernel
theorem d_R_fill_111 : decode b_R_fill 111 = .ok (.iaload, 1) := by decide +kernel
theorem d_R_fill_112 : decode b_R_fill 112 = .ok (.iload_n 2, 1) := by decide +kernel
theorem d_R_fill_113 : decode b_R_fill 113 = .ok (.iload_n 3, 1) := by decide +kernel
theorem d_R_fill_114 : decode b_R_fill 114 = .ok (.iadd, 1) := by decide +kernel
theorem d_R_fill_115 : decode b_R_fill 115 = .ok (.invokevirtual 94, 3) := by decide +kernel
theorem d_R_fill_118 : decode b_R_fill 118 = .ok (.ifCond .eq 25, 3) := by decide +kernel
theorem d_R_fill_121 : decode b_R_fill 121 = .ok (.aload_n 0, 1) := by decide +kernel
theorem d_R_fill_122 : decode b_R_fill 122 = .ok (.getfield 29, 3) := by decide +kernel
theorem d_R_fill_125 : decode b_R_fill 125 = .ok (.iload 5, 2) := by decide +kernel
theorem d_R_fill_127 : decode b_R_fill 127 = .ok (.aload_n 0, 1) := by decide +kernel
theorem d_R_fill_128 : decode b_R_fill 128 = .ok (.getfield 29, 3) := by decide +kernel
theorem d_R_fill_131 : decode b_R_fill 131 = .ok (.iload 5, 2) := by decide +kernel
theorem d_R_fill_133 : decode b_R_fill 133 = .ok (.iconst 1, 1) := by decide +kernel
theorem d_R_fill_134 : decode b_R_fill 134 = .ok (.isub, 1) := by decide +kernel
theorem d_R_fill_135 : decode b_R_fill 135 = .ok (.iaload, 1) := by decide +kernel
theorem d_R_fill_136 : decode b_R_fill 136 = .ok (.iastore, 1) := by decide +kernel
theorem d_R_fill_137 : decode b_R_fill 137 = .ok (.iinc 5 (-1), 3) := by decide +kernel
theorem d_R_fill_140 : decode b_R_fill 140 = .ok (.goto (-49), 3) := by decide +kernel
theorem d_R_fill_143 : decode b_R_fill 143 = .ok (.aload_n 0, 1) := by decide +kernel
theorem d_R_fill_144 : decode b_R_fill 144 = .ok (.getfield 29, 3) := by decide +kernel
theorem d_R_fill_147 : decode b_R_fill 147 = .ok (.iload 5, 2) := by decide +kernel
theorem d_R_fill_149 : decode b_R_fill 149 = .ok (.iload 4, 2) := by decide +kernel
theorem d_R_fill_151 : decode b_R_fill 151 = .ok (.iastore, 1) := by decide +kernel
theorem d_R_fill_152 : decode b_R_fill 152 = .ok (.aload_n 0, 1) := by decide +kernel
theorem d_R_fill_153 : decode b_R_fill 153 = .ok (.getfield 32, 3) := by decide +kernel
theorem d_R_fill_156 : decode b_R_fill 156 = .ok (.iload_n 1, 1) := by decide +kernel
theorem d_R_fill_157 : decode b_R_fill 157 = .ok (.dup2, 1) := by decide +kernel
theorem d_R_fill_158 : decode b_R_fill 158 = .ok (.iaload, 1) := by decide +kernel
theorem d_R_fill_159 : decode b_R_fill 159 = .ok (.iconst 1, 1) := by decide +kernel
theorem d_R_fill_160 : decode b_R_fill 160 = .ok (.iadd, 1) := by decide +kernel
theorem d_R_fill_161 : decode b_R_fill 161 = .ok (.iastore, 1) := by decide +kernel
theorem d_R_fill_162 : decode b_R_fill 162 = .ok (.iinc 4 1, 3) := by decide +kernel
theorem d_R_fill_165 : decode b_R_fill 165 = .ok (.goto (-126), 3) := by decide +kernel
theorem d_R_fill_168 : decode b_R_fill 168 = .ok (.return_, 1) := by decide +kernel
theorem d_R_face_0 : decode b_R_face 0 = .ok (.iload_n 1, 1) := by decide +kernel
theorem d_R_face_1 : decode b_R_face 1 = .ok (.istore_n 2, 1) := by decide +kernel
theorem d_R_face_2 : decode b_R_face 2 = .ok (.aload_n 0, 1) := by decide +kernel
theorem d_R_face_3 : decode b_R_face 3 = .ok (.getfield 35, 3) := by decide +kernel
theorem d_R_face_6 : decode b_R_face 6 = .ok (.iload_n 2, 1) := by decide +kernel
theorem d_R_face_7 : decode b_R_face 7 = .ok (.iaload, 1) := by decide +kernel
theorem d_R_face_8 : decode b_R_face 8 = .ok (.iload_n 2, 1) := by decide +kernel
theorem d_R_face_9 : decode b_R_face 9 = .ok (.if_icmp .eq 13, 3) := by decide +kernel
theorem d_R_face_12 : decode b_R_face 12 = .ok (.aload_n 0, 1) := by decide +kernel
theorem d_R_face_13 : decode b_R_face 13 = .ok (.getfield 35, 3) := by decide +kernel
theorem d_R_face_16 : decode b_R_face 16 = .ok (.iload_n 2, 1) := by decide +kernel
theorem d_R_face_17 : decode b_R_face 17 = .ok (.iaload, 1) := by decide +kernel
theorem d_R_face_18 : decode b_R_face 18 = .ok (.istore_n 2, 1) := by decide +kernel
theorem d_R_face_19 : decode b_R_face 19 = .ok (.goto (-17), 3) := by decide +kernel
theorem d_R_face_22 : decode b_R_face 22 = .ok (.iload_n 2, 1) := by decide +kernel
theorem d_R_face_23 : decode b_R_face 23 = .ok (.ireturn, 1) := by decide +kernel
theorem d_R_open_0 : decode b_R_open 0 = .ok (.aload_n 0, 1) := by decide +kernel
theorem d_R_open_1 : decode b_R_open 1 = .ok (.getfield 26, 3) := by decide +kernel
theorem d_R_open_4 : decode b_R_open 4 = .ok (.iload_n 1, 1) := by decide +kernel
theorem d_R_open_5 : decode b_R_open 5 = .ok (.iaload, 1) := by decide +kernel
theorem d_R_open_6 : decode b_R_open 6 = .ok (.istore 4, 2) := by decide +kernel
theorem d_R_open_8 : decode b_R_open 8 = .ok (.aload_n 0, 1) := by decide +kernel
theorem d_R_open_9 : decode b_R_open 9 = .ok (.iload_n 1, 1) := by decide +kernel
theorem d_R_open_10 : decode b_R_open 10 = .ok (.iload_n 2, 1) := by decide +kernel
theorem d_R_open_11 : decode b_R_open 11 = .ok (.iload 4, 2) := by decide +kernel
theorem d_R_open_13 : decode b_R_open 13 = .ok (.invokevirtual 97, 3) := by decide +kernel
theorem d_R_open_16 : decode b_R_open 16 = .ok (.istore 5, 2) := by decide +kernel
theorem d_R_open_18 : decode b_R_open 18 = .ok (.aload_n 0, 1) := by decide +kernel
theorem d_R_open_19 : decode b_R_open 19 = .ok (.iload_n 1, 1) := by decide +kernel
theorem d_R_open_20 : decode b_R_open 20 = .ok (.iload_n 2, 1) := by decide +kernel
theorem d_R_open_21 : decode b_R_open 21 = .ok (.invokevirtual 100, 3) := by decide +kernel
theorem d_R_open_24 : decode b_R_open 24 = .ok (.istore 6, 2) := by decide +kernel
theorem d_R_open_26 : decode b_R_open 26 = .ok (.aload_n 0, 1) := by decide +kernel
theorem d_R_open_27 : decode b_R_open 27 = .ok (.iload_n 1, 1) := by decide +kernel
theorem d_R_open_28 : decode b_R_open 28 = .ok (.iconst 1, 1) := by decide +kernel
theorem d_R_open_29 : decode b_R_open 29 = .ok (.iadd, 1) := by decide +kernel
theorem d_R_open_30 : decode b_R_open 30 = .ok (.iload_n 3, 1) := by decide +kernel
theorem d_R_open_31 : decode b_R_open 31 = .ok (.iload 4, 2) := by decide +kernel
theorem d_R_open_33 : decode b_R_open 33 = .ok (.invokevirtual 97, 3) := by decide +kernel
theorem d_R_open_36 : decode b_R_open 36 = .ok (.istore 7, 2) := by decide +kernel
theorem d_R_open_38 : decode b_R_open 38 = .ok (.aload_n 0, 1) := by decide +kernel
theorem d_R_open_39 : decode b_R_open 39 = .ok (.iload_n 1, 1) := by decide +kernel
theorem d_R_open_40 : decode b_R_open 40 = .ok (.iconst 1, 1) := by decide +kernel
theorem d_R_open_41 : decode b_R_open 41 = .ok (.iadd, 1) := by decide +kernel
theorem d_R_open_42 : decode b_R_open 42 = .ok (.iload_n 3, 1) := by decide +kernel
theorem d_R_open_43 : decode b_R_open 43 = .ok (.invokevirtual 100, 3) := by decide +kernel
theorem d_R_open_46 : decode b_R_open 46 = .ok (.istore 8, 2) := by decide +kernel
theorem d_R_open_48 : decode b_R_open 48 = .ok (.iload 5, 2) := by decide +kernel
theorem d_R_open_50 : decode b_R_open 50 = .ok (.iload 6, 2) := by decide +kernel
theorem d_R_open_52 : decode b_R_open 52 = .ok (.iload 7, 2) := by decide +kernel
theorem d_R_open_54 : decode b_R_open 54 = .ok (.iload 8, 2) := by decide +kernel
theorem d_R_open_56 : decode b_R_open 56 = .ok (.invokestatic 90, 3) := by decide +kernel
theorem d_R_open_59 : decode b_R_open 59 = .ok (.istore 9, 2) := by decide +kernel
theorem d_R_open_61 : decode b_R_open 61 = .ok (.iload 9, 2) := by decide +kernel
theorem d_R_open_63 : decode b_R_open 63 = .ok (.ifCond .eq 8, 3) := by decide +kernel
theorem d_R_open_66 : decode b_R_open 66 = .ok (.iload 7, 2) := by decide +kernel
theorem d_R_open_68 : decode b_R_open 68 = .ok (.goto 5, 3) := by decide +kernel
theorem d_R_open_71 : decode b_R_open 71 = .ok (.iload 5, 2) := by decide +kernel
theorem d_R_open_73 : decode b_R_open 73 = .ok (.istore 10, 2) := by decide +kernel
theorem d_R_open_75 : decode b_R_open 75 = .ok (.iload 9, 2) := by decide +kernel
theorem d_R_open_77 : decode b_R_open 77 = .ok (.ifCond .eq 8, 3) := by decide +kernel
theorem d_R_open_80 : decode b_R_open 80 = .ok (.iload 8, 2) := by decide +kernel
theorem d_R_open_82 : decode b_R_open 82 = .ok (.goto 5, 3) := by decide +kernel
theorem d_R_open_85 : decode b_R_open 85 = .ok (.iload 6, 2) := by decide +kernel
theorem d_R_open_87 : decode b_R_open 87 = .ok (.istore 11, 2) := by decide +kernel
theorem d_R_open_89 : decode b_R_open 89 = .ok (.aload_n 0, 1) := by decide +kernel
theorem d_R_open_90 : decode b_R_open 90 = .ok (.iload_n 1, 1) := by decide +kernel
theorem d_R_open_91 : decode b_R_open 91 = .ok (.iload_n 2, 1) := by decide +kernel
theorem d_R_open_92 : decode b_R_open 92 = .ok (.iload 4, 2) := by decide +kernel
theorem d_R_open_94 : decode b_R_open 94 = .ok (.invokevirtual 103, 3) := by decide +kernel
theorem d_R_open_97 : decode b_R_open 97 = .ok (.istore 5, 2) := by decide +kernel
theorem d_R_open_99 : decode b_R_open 99 = .ok (.aload_n 0, 1) := by decide +kernel
theorem d_R_open_100 : decode b_R_open 100 = .ok (.iload_n 1, 1) := by decide +kernel
theorem d_R_open_101 : decode b_R_open 101 = .ok (.iload_n 2, 1) := by decide +kernel
theorem d_R_open_102 : decode b_R_open 102 = .ok (.invokevirtual 106, 3) := by decide +kernel
theorem d_R_open_105 : decode b_R_open 105 = .ok (.istore 6, 2) := by decide +kernel
theorem d_R_open_107 : decode b_R_open 107 = .ok (.aload_n 0, 1) := by decide +kernel
theorem d_R_open_108 : decode b_R_open 108 = .ok (.iload_n 1, 1) := by decide +kernel
theorem d_R_open_109 : decode b_R_open 109 = .ok (.iconst 1, 1) := by decide +kernel
theorem d_R_open_110 : decode b_R_open 110 = .ok (.iadd, 1) := by decide +kernel
theorem d_R_open_111 : decode b_R_open 111 = .ok (.iload_n 3, 1) := by decide +kernel
theorem d_R_open_112 : decode b_R_open 112 = .ok (.iload 4, 2) := by decide +kernel
theorem d_R_open_114 : decode b_R_open 114 = .ok (.invokevirtual 103, 3) := by decide +kernel
theorem d_R_open_117 : decode b_R_open 117 = .ok (.istore 7, 2) := by decide +kernel
theorem d_R_open_119 : decode b_R_open 119 = .ok (.aload_n 0, 1) := by decide +kernel
theorem d_R_open_120 : decode b_R_open 120 = .ok (.iload_n 1, 1) := by decide +kernel
theorem d_R_open_121 : decode b_R_open 121 = .ok (.iconst 1, 1) := by decide +kernel
theorem d_R_open_122 : decode b_R_open 122 = .ok (.iadd, 1) := by decide +kernel
theorem d_R_open_123 : decode b_R_open 123 = .ok (.iload_n 3, 1) := by decide +kernel
theorem d_R_open_124 : decode b_R_open 124 = .ok (.invokevirtual 106, 3) := by decide +kernel
theorem d_R_open_127 : decode b_R_open 127 = .ok (.istore 8, 2) := by decide +kernel
theorem d_R_open_129 : decode b_R_open 129 = .ok (.iload 7, 2) := by decide +kernel
theorem d_R_open_131 : decode b_R_open 131 = .ok (.iload 8, 2) := by decide +kernel
theorem d_R_open_133 : decode b_R_open 133 = .ok (.iload 5, 2) := by decide +kernel
theorem d_R_open_135 : decode b_R_open 135 = .ok (.iload 6, 2) := by decide +kernel
theorem d_R_open_137 : decode b_R_open 137 = .ok (.invokestatic 90, 3) := by decide +kernel
theorem d_R_open_140 : decode b_R_open 140 = .ok (.istore 9, 2) := by decide +kernel
theorem d_R_open_142 : decode b_R_open 142 = .ok (.iload 9, 2) := by decide +kernel
theorem d_R_open_144 : decode b_R_open 144 = .ok (.ifCond .eq 8, 3) := by decide +kernel
theorem d_R_open_147 : decode b_R_open 147 = .ok (.iload 7, 2) := by decide +kernel
theorem d_R_open_149 : decode b_R_open 149 = .ok (.goto 5, 3) := by decide +kernel
theorem d_R_open_152 : decode b_R_open 152 = .ok (.iload 5, 2) := by decide +kernel
theorem d_R_open_154 : decode b_R_open 154 = .ok (.istore 12, 2) := by decide +kernel
theorem d_R_open_156 : decode b_R_open 156 = .ok (.iload 9, 2) := by decide +kernel
theorem d_R_open_158 : decode b_R_open 158 = .ok (.ifCond .eq 8, 3) := by decide +kernel
theorem d_R_open_161 : decode b_R_open 161 = .ok (.iload 8, 2) := by decide +kernel
theorem d_R_open_163 : decode b_R_open 163 = .ok (.goto 5, 3) := by decide +kernel
theorem d_R_open_166 : decode b_R_open 166 = .ok (.iload 6, 2) := by decide +kernel
theorem d_R_open_168 : decode b_R_open 168 = .ok (.istore 13, 2) := by decide +kernel
theorem d_R_open_170 : decode b_R_open 170 = .ok (.iconst 1, 1) := by decide +kernel
theorem d_R_open_171 : decode b_R_open 171 = .ok (.istore 14, 2) := by decide +kernel
theorem d_R_open_173 : decode b_R_open 173 = .ok (.iload 14, 2) := by decide +kernel
theorem d_R_open_175 : decode b_R_open 175 = .ok (.ifCond .eq 107, 3) := by decide +kernel
theorem d_R_open_178 : decode b_R_open 178 = .ok (.iconst 0, 1) := by decide +kernel
theorem d_R_open_179 : decode b_R_open 179 = .ok (.istore 14, 2) := by decide +kernel
theorem d_R_open_181 : decode b_R_open 181 = .ok (.iconst 0, 1) := by decide +kernel
theorem d_R_open_182 : decode b_R_open 182 = .ok (.istore 15, 2) := by decide +kernel
theorem d_R_open_184 : decode b_R_open 184 = .ok (.iload 15, 2) := by decide +kernel
theorem d_R_open_186 : decode b_R_open 186 = .ok (.bipush 20, 2) := by decide +kernel
theorem d_R_open_188 : decode b_R_open 188 = .ok (.if_icmp .ge 91, 3) := by decide +kernel
theorem d_R_open_191 : decode b_R_open 191 = .ok (.aload_n 0, 1) := by decide +kernel
theorem d_R_open_192 : decode b_R_open 192 = .ok (.getfield 7, 3) := by decide +kernel
theorem d_R_open_195 : decode b_R_open 195 = .ok (.iload 15, 2) := by decide +kernel
theorem d_R_open_197 : decode b_R_open 197 = .ok (.baload, 1) := by decide +kernel
theorem d_R_open_198 : decode b_R_open 198 = .ok (.ifCond .eq 75, 3) := by decide +kernel
theorem d_R_open_201 : decode b_R_open 201 = .ok (.aload_n 0, 1) := by decide +kernel
theorem d_R_open_202 : decode b_R_open 202 = .ok (.iload 15, 2) := by decide +kernel
theorem d_R_open_204 : decode b_R_open 204 = .ok (.invokevirtual 109, 3) := by decide +kernel
theorem d_R_open_207 : decode b_R_open 207 = .ok (.ifCond .eq 66, 3) := by decide +kernel
theorem d_R_open_210 : decode b_R_open 210 = .ok (.aload_n 0, 1) := by decide +kernel
theorem d_R_open_211 : decode b_R_open 211 = .ok (.getfield 13, 3) := by decide +kernel
theorem d_R_open_214 : decode b_R_open 214 = .ok (.iload 15, 2) := by decide +kernel
theorem d_R_open_216 : decode b_R_open 216 = .ok (.iaload, 1) := by decide +kernel
theorem d_R_open_217 : decode b_R_open 217 = .ok (.iload 4, 2) := by decide +kernel
theorem d_R_open_219 : decode b_R_open 219 = .ok (.if_icmp .ne 54, 3) := by decide +kernel
theorem d_R_open_222 : decode b_R_open 222 = .ok (.iload 10, 2) := by decide +kernel
theorem d_R_open_224 : decode b_R_open 224 = .ok (.iload 11, 2) := by decide +kernel
theorem d_R_open_226 : decode b_R_open 226 = .ok (.aload_n 0, 1) := by decide +kernel
theorem d_R_open_227 : decode b_R_open 227 = .ok (.getfield 17, 3) := by decide +kernel
theorem d_R_open_230 : decode b_R_open 230 = .ok (.iload 15, 2) := by decide +kernel
theorem d_R_open_232 : decode b_R_open 232 = .ok (.iaload, 1) := by decide +kernel
theorem d_R_open_233 : decode b_R_open 233 = .ok (.iconst 1, 1) := by decide +kernel
theorem d_R_open_234 : decode b_R_open 234 = .ok (.invokestatic 90, 3) := by decide +kernel
theorem d_R_open_237 : decode b_R_open 237 = .ok (.ifCond .ne 36, 3) := by decide +kernel
theorem d_R_open_240 : decode b_R_open 240 = .ok (.iload 10, 2) := by decide +kernel
theorem d_R_open_242 : decode b_R_open 242 = .ok (.iload 11, 2) := by decide +kernel
theorem d_R_open_244 : decode b_R_open 244 = .ok (.aload_n 0, 1) := by decide +kernel
theorem d_R_open_245 : decode b_R_open 245 = .ok (.getfield 23, 3) := by decide +kernel
theorem d_R_open_248 : decode b_R_open 248 = .ok (.iload 15, 2) := by decide +kernel
theorem d_R_open_250 : decode b_R_open 250 = .ok (.iaload, 1) := by decide +kernel
theorem d_R_open_251 : decode b_R_open 251 = .ok (.iconst 1, 1) := by decide +kernel
theorem d_R_open_252 : decode b_R_open 252 = .ok (.invokestatic 90, 3) := by decide +kernel
theorem d_R_open_255 : decode b_R_open 255 = .ok (.ifCond .eq 18, 3) := by decide +kernel
theorem d_R_open_258 : decode b_R_open 258 = .ok (.aload_n 0, 1) := by decide +kernel
theorem d_R_open_259 : decode b_R_open 259 = .ok (.getfield 23, 3) := by decide +kernel
theorem d_R_open_262 : decode b_R_open 262 = .ok (.iload 15, 2) := by decide +kernel
theorem d_R_open_264 : decode b_R_open 264 = .ok (.iaload, 1) := by decide +kernel
theorem d_R_open_265 : decode b_R_open 265 = .ok (.istore 10, 2) := by decide +kernel
theorem d_R_open_267 : decode b_R_open 267 = .ok (.iconst 1, 1) := by decide +kernel
theorem d_R_open_268 : decode b_R_open 268 = .ok (.istore 11, 2) := by decide +kernel
theorem d_R_open_270 : decode b_R_open 270 = .ok (.iconst 1, 1) := by decide +kernel
theorem d_R_open_271 : decode b_R_open 271 = .ok (.istore 14, 2) := by decide +kernel
theorem d_R_open_273 : decode b_R_open 273 = .ok (.iinc 15 1, 3) := by decide +kernel
theorem d_R_open_276 : decode b_R_open 276 = .ok (.goto (-92), 3) := by decide +kernel
theorem d_R_open_279 : decode b_R_open 279 = .ok (.goto (-106), 3) := by decide +kernel
theorem d_R_open_282 : decode b_R_open 282 = .ok (.iload 10, 2) := by decide +kernel
theorem d_R_open_284 : decode b_R_open 284 = .ok (.iload 11, 2) := by decide +kernel
theorem d_R_open_286 : decode b_R_open 286 = .ok (.iload 12, 2) := by decide +kernel
theorem d_R_open_288 : decode b_R_open 288 = .ok (.iload 13, 2) := by decide +kernel
theorem d_R_open_290 : decode b_R_open 290 = .ok (.invokestatic 90, 3) := by decide +kernel
theorem d_R_open_293 : decode b_R_open 293 = .ok (.ireturn, 1) := by decide +kernel
theorem d_R_look_0 : decode b_R_look 0 = .ok (.aload_n 0, 1) := by decide +kernel
theorem d_R_look_1 : decode b_R_look 1 = .ok (.getfield 61, 3) := by decide +kernel
theorem d_R_look_4 : decode b_R_look 4 = .ok (.ifCond .eq 4, 3) := by decide +kernel
theorem d_R_look_7 : decode b_R_look 7 = .ok (.return_, 1) := by decide +kernel
theorem d_R_look_8 : decode b_R_look 8 = .ok (.aload_n 0, 1) := by decide +kernel
theorem d_R_look_9 : decode b_R_look 9 = .ok (.iconst 1, 1) := by decide +kernel
theorem d_R_look_10 : decode b_R_look 10 = .ok (.putfield 61, 3) := by decide +kernel
theorem d_R_look_13 : decode b_R_look 13 = .ok (.aload_n 0, 1) := by decide +kernel
theorem d_R_look_14 : decode b_R_look 14 = .ok (.iconst 0, 1) := by decide +kernel
theorem d_R_look_15 : decode b_R_look 15 = .ok (.putfield 86, 3) := by decide +kernel
theorem d_R_look_18 : decode b_R_look 18 = .ok (.iconst 0, 1) := by decide +kernel
theorem d_R_look_19 : decode b_R_look 19 = .ok (.istore_n 1, 1) := by decide +kernel
theorem d_R_look_20 : decode b_R_look 20 = .ok (.iload_n 1, 1) := by decide +kernel
theorem d_R_look_21 : decode b_R_look 21 = .ok (.bipush 20, 2) := by decide +kernel
theorem d_R_look_23 : decode b_R_look 23 = .ok (.if_icmp .ge 38, 3) := by decide +kernel
theorem d_R_look_26 : decode b_R_look 26 = .ok (.aload_n 0, 1) := by decide +kernel
theorem d_R_look_27 : decode b_R_look 27 = .ok (.getfield 7, 3) := by decide +kernel
theorem d_R_look_30 : decode b_R_look 30 = .ok (.iload_n 1, 1) := by decide +kernel
theorem d_R_look_31 : decode b_R_look 31 = .ok (.baload, 1) := by decide +kernel
theorem d_R_look_32 : decode b_R_look 32 = .ok (.ifCond .eq 23, 3) := by decide +kernel
theorem d_R_look_35 : decode b_R_look 35 = .ok (.aload_n 0, 1) := by decide +kernel
theorem d_R_look_36 : decode b_R_look 36 = .ok (.aload_n 0, 1) := by decide +kernel
theorem d_R_look_37 : decode b_R_look 37 = .ok (.getfield 13, 3) := by decide +kernel
theorem d_R_look_40 : decode b_R_look 40 = .ok (.iload_n 1, 1) := by decide +kernel
theorem d_R_look_41 : decode b_R_look 41 = .ok (.iaload, 1) := by decide +kernel
theorem d_R_look_42 : decode b_R_look 42 = .ok (.invokevirtual 112, 3) := by decide +kernel
theorem d_R_look_45 : decode b_R_look 45 = .ok (.aload_n 0, 1) := by decide +kernel
theorem d_R_look_46 : decode b_R_look 46 = .ok (.aload_n 0, 1) := by decide +kernel
theorem d_R_look_47 : decode b_R_look 47 = .ok (.getfield 20, 3) := by decide +kernel
theorem d_R_look_50 : decode b_R_look 50 = .ok (.iload_n 1, 1) := by decide +kernel
theorem d_R_look_51 : decode b_R_look 51 = .ok (.iaload, 1) := by decide +kernel
theorem d_R_look_52 : decode b_R_look 52 = .ok (.invokevirtual 112, 3) := by decide +kernel
theorem d_R_look_55 : decode b_R_look 55 = .ok (.iinc 1 1, 3) := by decide +kernel
theorem d_R_look_58 : decode b_R_look 58 = .ok (.goto (-38), 3) := by decide +kernel
theorem d_R_look_61 : decode b_R_look 61 = .ok (.iconst 0, 1) := by decide +kernel
theorem d_R_look_62 : decode b_R_look 62 = .ok (.istore_n 1, 1) := by decide +kernel
theorem d_R_look_63 : decode b_R_look 63 = .ok (.iload_n 1, 1) := by decide +kernel
theorem d_R_look_64 : decode b_R_look 64 = .ok (.aload_n 0, 1) := by decide +kernel
theorem d_R_look_65 : decode b_R_look 65 = .ok (.getfield 86, 3) := by decide +kernel
theorem d_R_look_68 : decode b_R_look 68 = .ok (.if_icmp .gt 49, 3) := by decide +kernel
theorem d_R_look_71 : decode b_R_look 71 = .ok (.aload_n 0, 1) := by decide +kernel
theorem d_R_look_72 : decode b_R_look 72 = .ok (.iload_n 1, 1) := by decide +kernel
theorem d_R_look_73 : decode b_R_look 73 = .ok (.invokevirtual 116, 3) := by decide +kernel
theorem d_R_look_76 : decode b_R_look 76 = .ok (.iconst 0, 1) := by decide +kernel
theorem d_R_look_77 : decode b_R_look 77 = .ok (.istore_n 2, 1) := by decide +kernel
theorem d_R_look_78 : decode b_R_look 78 = .ok (.iload_n 2, 1) := by decide +kernel
theorem d_R_look_79 : decode b_R_look 79 = .ok (.aload_n 0, 1) := by decide +kernel
theorem d_R_look_80 : decode b_R_look 80 = .ok (.getfield 32, 3) := by decide +kernel
theorem d_R_look_83 : decode b_R_look 83 = .ok (.iload_n 1, 1) := by decide +kernel
theorem d_R_look_84 : decode b_R_look 84 = .ok (.iaload, 1) := by decide +kernel
theorem d_R_look_85 : decode b_R_look 85 = .ok (.if_icmp .gt 26, 3) := by decide +kernel
theorem d_R_look_88 : decode b_R_look 88 = .ok (.aload_n 0, 1) := by decide +kernel
theorem d_R_look_89 : decode b_R_look 89 = .ok (.getfield 35, 3) := by decide +kernel
theorem d_R_look_92 : decode b_R_look 92 = .ok (.bipush 21, 2) := by decide +kernel
theorem d_R_look_94 : decode b_R_look 94 = .ok (.iload_n 1, 1) := by decide +kernel
theorem d_R_look_95 : decode b_R_look 95 = .ok (.imul, 1) := by decide +kernel
theorem d_R_look_96 : decode b_R_look 96 = .ok (.iload_n 2, 1) := by decide +kernel
theorem d_R_look_97 : decode b_R_look 97 = .ok (.iadd, 1) := by decide +kernel
theorem d_R_look_98 : decode b_R_look 98 = .ok (.bipush 21, 2) := by decide +kernel
theorem d_R_look_100 : decode b_R_look 100 = .ok (.iload_n 1, 1) := by decide +kernel
theorem d_R_look_101 : decode b_R_look 101 = .ok (.imul, 1) := by decide +kernel
theorem d_R_look_102 : decode b_R_look 102 = .ok (.iload_n 2, 1) := by decide +kernel
theorem d_R_look_103 : decode b_R_look 103 = .ok (.iadd, 1) := by decide +kernel
theorem d_R_look_104 : decode b_R_look 104 = .ok (.iastore, 1) := by decide +kernel
theorem d_R_look_105 : decode b_R_look 105 = .ok (.iinc 2 1, 3) := by decide +kernel
theorem d_R_look_108 : decode b_R_look 108 = .ok (.goto (-30), 3) := by decide +kernel
theorem d_R_look_111 : decode b_R_look 111 = .ok (.iinc 1 1, 3) := by decide +kernel
theorem d_R_look_114 : decode b_R_look 114 = .ok (.goto (-51), 3) := by decide +kernel
theorem d_R_look_117 : decode b_R_look 117 = .ok (.iconst 0, 1) := by decide +kernel
theorem d_R_look_118 : decode b_R_look 118 = .ok (.istore_n 1, 1) := by decide +kernel
theorem d_R_look_119 : decode b_R_look 119 = .ok (.iload_n 1, 1) := by decide +kernel
theorem d_R_look_120 : decode b_R_look 120 = .ok (.aload_n 0, 1) := by decide +kernel
theorem d_R_look_121 : decode b_R_look 121 = .ok (.getfield 86, 3) := by decide +kernel
theorem d_R_look_124 : decode b_R_look 124 = .ok (.if_icmp .ge 85, 3) := by decide +kernel
theorem d_R_look_127 : decode b_R_look 127 = .ok (.iconst 0, 1) := by decide +kernel
theorem d_R_look_128 : decode b_R_look 128 = .ok (.istore_n 2, 1) := by decide +kernel
theorem d_R_look_129 : decode b_R_look 129 = .ok (.iload_n 2, 1) := by decide +kernel
theorem d_R_look_130 : decode b_R_look 130 = .ok (.aload_n 0, 1) := by decide +kernel
theorem d_R_look_131 : decode b_R_look 131 = .ok (.getfield 32, 3) := by decide +kernel
theorem d_R_look_134 : decode b_R_look 134 = .ok (.iload_n 1, 1) := by decide +kernel
theorem d_R_look_135 : decode b_R_look 135 = .ok (.iaload, 1) := by decide +kernel
theorem d_R_look_136 : decode b_R_look 136 = .ok (.if_icmp .gt 67, 3) := by decide +kernel
theorem d_R_look_139 : decode b_R_look 139 = .ok (.iconst 0, 1) := by decide +kernel
theorem d_R_look_140 : decode b_R_look 140 = .ok (.istore_n 3, 1) := by decide +kernel
theorem d_R_look_141 : decode b_R_look 141 = .ok (.iload_n 3, 1) := by decide +kernel
theorem d_R_look_142 : decode b_R_look 142 = .ok (.aload_n 0, 1) := by decide +kernel
theorem d_R_look_143 : decode b_R_look 143 = .ok (.getfield 32, 3) := by decide +kernel
theorem d_R_look_146 : decode b_R_look 146 = .ok (.iload_n 1, 1) := by decide +kernel
theorem d_R_look_147 : decode b_R_look 147 = .ok (.iconst 1, 1) := by decide +kernel
theorem d_R_look_148 : decode b_R_look 148 = .ok (.iadd, 1) := by decide +kernel
theorem d_R_look_149 : decode b_R_look 149 = .ok (.iaload, 1) := by decide +kernel
theorem d_R_look_150 : decode b_R_look 150 = .ok (.if_icmp .gt 47, 3) := by decide +kernel
theorem d_R_look_153 : decode b_R_look 153 = .ok (.aload_n 0, 1) := by decide +kernel
theorem d_R_look_154 : decode b_R_look 154 = .ok (.iload_n 1, 1) := by decide +kernel
theorem d_R_look_155 : decode b_R_look 155 = .ok (.iload_n 2, 1) := by decide +kernel
theorem d_R_look_156 : decode b_R_look 156 = .ok (.iload_n 3, 1) := by decide +kernel
theorem d_R_look_157 : decode b_R_look 157 = .ok (.invokevirtual 119, 3) := by decide +kernel
theorem d_R_look_160 : decode b_R_look 160 = .ok (.ifCond .eq 31, 3) := by decide +kernel
theorem d_R_look_163 : decode b_R_look 163 = .ok (.aload_n 0, 1) := by decide +kernel
theorem d_R_look_164 : decode b_R_look 164 = .ok (.getfield 35, 3) := by decide +kernel
theorem d_R_look_167 : decode b_R_look 167 = .ok (.aload_n 0, 1) := by decide +kernel
theorem d_R_look_168 : decode b_R_look 168 = .ok (.bipush 21, 2) := by decide +kernel
theorem d_R_look_170 : decode b_R_look 170 = .ok (.iload_n 1, 1) := by decide +kernel
theorem d_R_look_171 : decode b_R_look 171 = .ok (.imul, 1) := by decide +kernel
theorem d_R_look_172 : decode b_R_look 172 = .ok (.iload_n 2, 1) := by decide +kernel
theorem d_R_look_173 : decode b_R_look 173 = .ok (.iadd, 1) := by decide +kernel
theorem d_R_look_174 : decode b_R_look 174 = .ok (.invokevirtual 122, 3) := by decide +kernel
theorem d_R_look_177 : decode b_R_look 177 = .ok (.aload_n 0, 1) := by decide +kernel
theorem d_R_look_178 : decode b_R_look 178 = .ok (.bipush 21, 2) := by decide +kernel
theorem d_R_look_180 : decode b_R_look 180 = .ok (.iload_n 1, 1) := by decide +kernel
theorem d_R_look_181 : decode b_R_look 181 = .ok (.imul, 1) := by decide +kernel
theorem d_R_look_182 : decode b_R_look 182 = .ok (.bipush 21, 2) := by decide +kernel
theorem d_R_look_184 : decode b_R_look 184 = .ok (.iadd, 1) := by decide +kernel
theorem d_R_look_185 : decode b_R_look 185 = .ok (.iload_n 3, 1) := by decide +kernel
theorem d_R_look_186 : decode b_R_look 186 = .ok (.iadd, 1) := by decide +kernel
theorem d_R_look_187 : decode b_R_look 187 = .ok (.invokevirtual 122, 3) := by decide +kernel
theorem d_R_look_190 : decode b_R_look 190 = .ok (.iastore, 1) := by decide +kernel
theorem d_R_look_191 : decode b_R_look 191 = .ok (.iinc 3 1, 3) := by decide +kernel
theorem d_R_look_194 : decode b_R_look 194 = .ok (.goto (-53), 3) := by decide +kernel
theorem d_R_look_197 : decode b_R_look 197 = .ok (.iinc 2 1, 3) := by decide +kernel
theorem d_R_look_200 : decode b_R_look 200 = .ok (.goto (-71), 3) := by decide +kernel
theorem d_R_look_203 : decode b_R_look 203 = .ok (.iinc 1 1, 3) := by decide +kernel
theorem d_R_look_206 : decode b_R_look 206 = .ok (.goto (-87), 3) := by decide +kernel
theorem d_R_look_209 : decode b_R_look 209 = .ok (.return_, 1) := by decide +kernel
theorem d_R_faces_0 : decode b_R_faces 0 = .ok (.aload_n 0, 1) := by decide +kernel
theorem d_R_faces_1 : decode b_R_faces 1 = .ok (.invokevirtual 125, 3) := by decide +kernel
theorem d_R_faces_4 : decode b_R_faces 4 = .ok (.iconst 0, 1) := by decide +kernel
theorem d_R_faces_5 : decode b_R_faces 5 = .ok (.istore_n 1, 1) := by decide +kernel
theorem d_R_faces_6 : decode b_R_faces 6 = .ok (.iconst 0, 1) := by decide +kernel
theorem d_R_faces_7 : decode b_R_faces 7 = .ok (.istore_n 2, 1) := by decide +kernel
theorem d_R_faces_8 : decode b_R_faces 8 = .ok (.iload_n 2, 1) := by decide +kernel
theorem d_R_faces_9 : decode b_R_faces 9 = .ok (.aload_n 0, 1) := by decide +kernel
theorem d_R_faces_10 : decode b_R_faces 10 = .ok (.getfield 86, 3) := by decide +kernel
theorem d_R_faces_13 : decode b_R_faces 13 = .ok (.if_icmp .gt 55, 3) := by decide +kernel
theorem d_R_faces_16 : decode b_R_faces 16 = .ok (.iconst 0, 1) := by decide +kernel
theorem d_R_faces_17 : decode b_R_faces 17 = .ok (.istore_n 3, 1) := by decide +kernel
theorem d_R_faces_18 : decode b_R_faces 18 = .ok (.iload_n 3, 1) := by decide +kernel
theorem d_R_faces_19 : decode b_R_faces 19 = .ok (.aload_n 0, 1) := by decide +kernel
theorem d_R_faces_20 : decode b_R_faces 20 = .ok (.getfield 32, 3) := by decide +kernel
theorem d_R_faces_23 : decode b_R_faces 23 = .ok (.iload_n 2, 1) := by decide +kernel
theorem d_R_faces_24 : decode b_R_faces 24 = .ok (.iaload, 1) := by decide +kernel
theorem d_R_faces_25 : decode b_R_faces 25 = .ok (.if_icmp .gt 37, 3) := by decide +kernel
theorem d_R_faces_28 : decode b_R_faces 28 = .ok (.aload_n 0, 1) := by decide +kernel
theorem d_R_faces_29 : decode b_R_faces 29 = .ok (.getfield 35, 3) := by decide +kernel
theorem d_R_faces_32 : decode b_R_faces 32 = .ok (.bipush 21, 2) := by decide +kernel
theorem d_R_faces_34 : decode b_R_faces 34 = .ok (.iload_n 2, 1) := by decide +kernel
theorem d_R_faces_35 : decode b_R_faces 35 = .ok (.imul, 1) := by decide +kernel
theorem d_R_faces_36 : decode b_R_faces 36 = .ok (.iload_n 3, 1) := by decide +kernel
theorem d_R_faces_37 : decode b_R_faces 37 = .ok (.iadd, 1) := by decide +kernel
theorem d_R_faces_38 : decode b_R_faces 38 = .ok (.iaload, 1) := by decide +kernel
theorem d_R_faces_39 : decode b_R_faces 39 = .ok (.bipush 21, 2) := by decide +kernel
theorem d_R_faces_41 : decode b_R_faces 41 = .ok (.iload_n 2, 1) := by decide +kernel
theorem d_R_faces_42 : decode b_R_faces 42 = .ok (.imul, 1) := by decide +kernel
theorem d_R_faces_43 : decode b_R_faces 43 = .ok (.iload_n 3, 1) := by decide +kernel
theorem d_R_faces_44 : decode b_R_faces 44 = .ok (.iadd, 1) := by decide +kernel
theorem d_R_faces_45 : decode b_R_faces 45 = .ok (.if_icmp .ne 9, 3) := by decide +kernel
theorem d_R_faces_48 : decode b_R_faces 48 = .ok (.iload_n 1, 1) := by decide +kernel
theorem d_R_faces_49 : decode b_R_faces 49 = .ok (.iconst 1, 1) := by decide +kernel
theorem d_R_faces_50 : decode b_R_faces 50 = .ok (.iadd, 1) := by decide +kernel
theorem d_R_faces_51 : decode b_R_faces 51 = .ok (.goto 4, 3) := by decide +kernel
theorem d_R_faces_54 : decode b_R_faces 54 = .ok (.iload_n 1, 1) := by decide +kernel
theorem d_R_faces_55 : decode b_R_faces 55 = .ok (.istore_n 1, 1) := by decide +kernel
theorem d_R_faces_56 : decode b_R_faces 56 = .ok (.iinc 3 1, 3) := by decide +kernel
theorem d_R_faces_59 : decode b_R_faces 59 = .ok (.goto (-41), 3) := by decide +kernel
theorem d_R_faces_62 : decode b_R_faces 62 = .ok (.iinc 2 1, 3) := by decide +kernel
theorem d_R_faces_65 : decode b_R_faces 65 = .ok (.goto (-57), 3) := by decide +kernel
theorem d_R_faces_68 : decode b_R_faces 68 = .ok (.iload_n 1, 1) := by decide +kernel
theorem d_R_faces_69 : decode b_R_faces 69 = .ok (.ireturn, 1) := by decide +kernel
theorem d_R_cellAt_0 : decode b_R_cellAt 0 = .ok (.iconst (-1), 1) := by decide +kernel
theorem d_R_cellAt_1 : decode b_R_cellAt 1 = .ok (.istore 4, 2) := by decide +kernel
theorem d_R_cellAt_3 : decode b_R_cellAt 3 = .ok (.iconst 0, 1) := by decide +kernel
theorem d_R_cellAt_4 : decode b_R_cellAt 4 = .ok (.istore 5, 2) := by decide +kernel
theorem d_R_cellAt_6 : decode b_R_cellAt 6 = .ok (.iload 5, 2) := by decide +kernel
theorem d_R_cellAt_8 : decode b_R_cellAt 8 = .ok (.aload_n 0, 1) := by decide +kernel
theorem d_R_cellAt_9 : decode b_R_cellAt 9 = .ok (.getfield 32, 3) := by decide +kernel
theorem d_R_cellAt_12 : decode b_R_cellAt 12 = .ok (.iload_n 1, 1) := by decide +kernel
theorem d_R_cellAt_13 : decode b_R_cellAt 13 = .ok (.iaload, 1) := by decide +kernel
theorem d_R_cellAt_14 : decode b_R_cellAt 14 = .ok (.if_icmp .gt 81, 3) := by decide +kernel
theorem d_R_cellAt_17 : decode b_R_cellAt 17 = .ok (.aload_n 0, 1) := by decide +kernel
theorem d_R_cellAt_18 : decode b_R_cellAt 18 = .ok (.iload_n 1, 1) := by decide +kernel
theorem d_R_cellAt_19 : decode b_R_cellAt 19 = .ok (.iload 5, 2) := by decide +kernel
theorem d_R_cellAt_21 : decode b_R_cellAt 21 = .ok (.iload_n 2, 1) := by decide +kernel
theorem d_R_cellAt_22 : decode b_R_cellAt 22 = .ok (.invokevirtual 97, 3) := by decide +kernel
theorem d_R_cellAt_25 : decode b_R_cellAt 25 = .ok (.aload_n 0, 1) := by decide +kernel
theorem d_R_cellAt_26 : decode b_R_cellAt 26 = .ok (.iload_n 1, 1) := by decide +kernel
theorem d_R_cellAt_27 : decode b_R_cellAt 27 = .ok (.iload 5, 2) := by decide +kernel
theorem d_R_cellAt_29 : decode b_R_cellAt 29 = .ok (.invokevirtual 100, 3) := by decide +kernel
theorem d_R_cellAt_32 : decode b_R_cellAt 32 = .ok (.iload_n 3, 1) := by decide +kernel
theorem d_R_cellAt_33 : decode b_R_cellAt 33 = .ok (.iconst 2, 1) := by decide +kernel
theorem d_R_cellAt_34 : decode b_R_cellAt 34 = .ok (.invokestatic 90, 3) := by decide +kernel
theorem d_R_cellAt_37 : decode b_R_cellAt 37 = .ok (.ifCond .eq 30, 3) := by decide +kernel
theorem d_R_cellAt_40 : decode b_R_cellAt 40 = .ok (.iload_n 3, 1) := by decide +kernel
theorem d_R_cellAt_41 : decode b_R_cellAt 41 = .ok (.iconst 2, 1) := by decide +kernel
theorem d_R_cellAt_42 : decode b_R_cellAt 42 = .ok (.aload_n 0, 1) := by decide +kernel
theorem d_R_cellAt_43 : decode b_R_cellAt 43 = .ok (.iload_n 1, 1) := by decide +kernel
theorem d_R_cellAt_44 : decode b_R_cellAt 44 = .ok (.iload 5, 2) := by decide +kernel
theorem d_R_cellAt_46 : decode b_R_cellAt 46 = .ok (.iload_n 2, 1) := by decide +kernel
theorem d_R_cellAt_47 : decode b_R_cellAt 47 = .ok (.invokevirtual 103, 3) := by decide +kernel
theorem d_R_cellAt_50 : decode b_R_cellAt 50 = .ok (.aload_n 0, 1) := by decide +kernel
theorem d_R_cellAt_51 : decode b_R_cellAt 51 = .ok (.iload_n 1, 1) := by decide +kernel
theorem d_R_cellAt_52 : decode b_R_cellAt 52 = .ok (.iload 5, 2) := by decide +kernel
theorem d_R_cellAt_54 : decode b_R_cellAt 54 = .ok (.invokevirtual 106, 3) := by decide +kernel
theorem d_R_cellAt_57 : decode b_R_cellAt 57 = .ok (.invokestatic 90, 3) := by decide +kernel
theorem d_R_cellAt_60 : decode b_R_cellAt 60 = .ok (.ifCond .eq 7, 3) := by decide +kernel
theorem d_R_cellAt_63 : decode b_R_cellAt 63 = .ok (.iconst 1, 1) := by decide +kernel
theorem d_R_cellAt_64 : decode b_R_cellAt 64 = .ok (.goto 4, 3) := by decide +kernel
theorem d_R_cellAt_67 : decode b_R_cellAt 67 = .ok (.iconst 0, 1) := by decide +kernel
theorem d_R_cellAt_68 : decode b_R_cellAt 68 = .ok (.istore 6, 2) := by decide +kernel
theorem d_R_cellAt_70 : decode b_R_cellAt 70 = .ok (.iload 6, 2) := by decide +kernel
theorem d_R_cellAt_72 : decode b_R_cellAt 72 = .ok (.ifCond .eq 13, 3) := by decide +kernel
theorem d_R_cellAt_75 : decode b_R_cellAt 75 = .ok (.bipush 21, 2) := by decide +kernel
theorem d_R_cellAt_77 : decode b_R_cellAt 77 = .ok (.iload_n 1, 1) := by decide +kernel
theorem d_R_cellAt_78 : decode b_R_cellAt 78 = .ok (.imul, 1) := by decide +kernel
theorem d_R_cellAt_79 : decode b_R_cellAt 79 = .ok (.iload 5, 2) := by decide +kernel
theorem d_R_cellAt_81 : decode b_R_cellAt 81 = .ok (.iadd, 1) := by decide +kernel
theorem d_R_cellAt_82 : decode b_R_cellAt 82 = .ok (.goto 5, 3) := by decide +kernel
theorem d_R_cellAt_85 : decode b_R_cellAt 85 = .ok (.iload 4, 2) := by decide +kernel
theorem d_R_cellAt_87 : decode b_R_cellAt 87 = .ok (.istore 4, 2) := by decide +kernel
theorem d_R_cellAt_89 : decode b_R_cellAt 89 = .ok (.iinc 5 1, 3) := by decide +kernel
theorem d_R_cellAt_92 : decode b_R_cellAt 92 = .ok (.goto (-86), 3) := by decide +kernel
theorem d_R_cellAt_95 : decode b_R_cellAt 95 = .ok (.iload 4, 2) := by decide +kernel
theorem d_R_cellAt_97 : decode b_R_cellAt 97 = .ok (.ireturn, 1) := by decide +kernel
theorem d_R_faceAt_0 : decode b_R_faceAt 0 = .ok (.aload_n 0, 1) := by decide +kernel
theorem d_R_faceAt_1 : decode b_R_faceAt 1 = .ok (.invokevirtual 125, 3) := by decide +kernel
theorem d_R_faceAt_4 : decode b_R_faceAt 4 = .ok (.iconst 0, 1) := by decide +kernel
theorem d_R_faceAt_5 : decode b_R_faceAt 5 = .ok (.istore_n 3, 1) := by decide +kernel
theorem d_R_faceAt_6 : decode b_R_faceAt 6 = .ok (.iload_n 3, 1) := by decide +kernel
theorem d_R_faceAt_7 : decode b_R_faceAt 7 = .ok (.aload_n 0, 1) := by decide +kernel
theorem d_R_faceAt_8 : decode b_R_faceAt 8 = .ok (.getfield 86, 3) := by decide +kernel
theorem d_R_faceAt_11 : decode b_R_faceAt 11 = .ok (.if_icmp .ge 19, 3) := by decide +kernel
theorem d_R_faceAt_14 : decode b_R_faceAt 14 = .ok (.aload_n 0, 1) := by decide +kernel
theorem d_R_faceAt_15 : decode b_R_faceAt 15 = .ok (.getfield 26, 3) := by decide +kernel
theorem d_R_faceAt_18 : decode b_R_faceAt 18 = .ok (.iload_n 3, 1) := by decide +kernel
theorem d_R_faceAt_19 : decode b_R_faceAt 19 = .ok (.iaload, 1) := by decide +kernel
theorem d_R_faceAt_20 : decode b_R_faceAt 20 = .ok (.iload_n 1, 1) := by decide +kernel
theorem d_R_faceAt_21 : decode b_R_faceAt 21 = .ok (.if_icmp .gt 9, 3) := by decide +kernel
theorem d_R_faceAt_24 : decode b_R_faceAt 24 = .ok (.iinc 3 1, 3) := by decide +kernel
theorem d_R_faceAt_27 : decode b_R_faceAt 27 = .ok (.goto (-21), 3) := by decide +kernel
theorem d_R_faceAt_30 : decode b_R_faceAt 30 = .ok (.aload_n 0, 1) := by decide +kernel
theorem d_R_faceAt_31 : decode b_R_faceAt 31 = .ok (.aload_n 0, 1) := by decide +kernel
theorem d_R_faceAt_32 : decode b_R_faceAt 32 = .ok (.iload_n 3, 1) := by decide +kernel
theorem d_R_faceAt_33 : decode b_R_faceAt 33 = .ok (.iload_n 1, 1) := by decide +kernel
theorem d_R_faceAt_34 : decode b_R_faceAt 34 = .ok (.iconst 2, 1) := by decide +kernel
theorem d_R_faceAt_35 : decode b_R_faceAt 35 = .ok (.iload_n 2, 1) := by decide +kernel
theorem d_R_faceAt_36 : decode b_R_faceAt 36 = .ok (.imul, 1) := by decide +kernel
theorem d_R_faceAt_37 : decode b_R_faceAt 37 = .ok (.invokevirtual 128, 3) := by decide +kernel
theorem d_R_faceAt_40 : decode b_R_faceAt 40 = .ok (.invokevirtual 122, 3) := by decide +kernel
theorem d_R_faceAt_43 : decode b_R_faceAt 43 = .ok (.ireturn, 1) := by decide +kernel
theorem d_R_faceBy_0 : decode b_R_faceBy 0 = .ok (.iconst 0, 1) := by decide +kernel
theorem d_R_faceBy_1 : decode b_R_faceBy 1 = .ok (.istore_n 3, 1) := by decide +kernel
theorem d_R_faceBy_2 : decode b_R_faceBy 2 = .ok (.aload_n 0, 1) := by decide +kernel
theorem d_R_faceBy_3 : decode b_R_faceBy 3 = .ok (.getfield 26, 3) := by decide +kernel
theorem d_R_faceBy_6 : decode b_R_faceBy 6 = .ok (.iload_n 3, 1) := by decide +kernel
theorem d_R_faceBy_7 : decode b_R_faceBy 7 = .ok (.iaload, 1) := by decide +kernel
theorem d_R_faceBy_8 : decode b_R_faceBy 8 = .ok (.aload_n 0, 1) := by decide +kernel
theorem d_R_faceBy_9 : decode b_R_faceBy 9 = .ok (.getfield 13, 3) := by decide +kernel
theorem d_R_faceBy_12 : decode b_R_faceBy 12 = .ok (.iload_n 1, 1) := by decide +kernel
theorem d_R_faceBy_13 : decode b_R_faceBy 13 = .ok (.iaload, 1) := by decide +kernel
theorem d_R_faceBy_14 : decode b_R_faceBy 14 = .ok (.if_icmp .eq 9, 3) := by decide +kernel
theorem d_R_faceBy_17 : decode b_R_faceBy 17 = .ok (.iinc 3 1, 3) := by decide +kernel
theorem d_R_faceBy_20 : decode b_R_faceBy 20 = .ok (.goto (-18), 3) := by decide +kernel
theorem d_R_faceBy_23 : decode b_R_faceBy 23 = .ok (.aload_n 0, 1) := by decide +kernel
theorem d_R_faceBy_24 : decode b_R_faceBy 24 = .ok (.iload_n 1, 1) := by decide +kernel
theorem d_R_faceBy_25 : decode b_R_faceBy 25 = .ok (.invokevirtual 109, 3) := by decide +kernel
theorem d_R_faceBy_28 : decode b_R_faceBy 28 = .ok (.ifCond .eq 43, 3) := by decide +kernel
theorem d_R_faceBy_31 : decode b_R_faceBy 31 = .ok (.aload_n 0, 1) := by decide +kernel
theorem d_R_faceBy_32 : decode b_R_faceBy 32 = .ok (.aload_n 0, 1) := by decide +kernel
theorem d_R_faceBy_33 : decode b_R_faceBy 33 = .ok (.iload_n 2, 1) := by decide +kernel
theorem d_R_faceBy_34 : decode b_R_faceBy 34 = .ok (.iconst 1, 1) := by decide +kernel
theorem d_R_faceBy_35 : decode b_R_faceBy 35 = .ok (.if_icmp .ne 7, 3) := by decide +kernel
theorem d_R_faceBy_38 : decode b_R_faceBy 38 = .ok (.iload_n 3, 1) := by decide +kernel
theorem d_R_faceBy_39 : decode b_R_faceBy 39 = .ok (.goto 6, 3) := by decide +kernel
theorem d_R_faceBy_42 : decode b_R_faceBy 42 = .ok (.iload_n 3, 1) := by decide +kernel
theorem d_R_faceBy_43 : decode b_R_faceBy 43 = .ok (.iconst 1, 1) := by decide +kernel
theorem d_R_faceBy_44 : decode b_R_faceBy 44 = .ok (.iadd, 1) := by decide +kernel
theorem d_R_faceBy_45 : decode b_R_faceBy 45 = .ok (.aload_n 0, 1) := by decide +kernel
theorem d_R_faceBy_46 : decode b_R_faceBy 46 = .ok (.getfield 13, 3) := by decide +kernel
theorem d_R_faceBy_49 : decode b_R_faceBy 49 = .ok (.iload_n 1, 1) := by decide +kernel
theorem d_R_faceBy_50 : decode b_R_faceBy 50 = .ok (.iaload, 1) := by decide +kernel
theorem d_R_faceBy_51 : decode b_R_faceBy 51 = .ok (.aload_n 0, 1) := by decide +kernel
theorem d_R_faceBy_52 : decode b_R_faceBy 52 = .ok (.getfield 17, 3) := by decide +kernel
theorem d_R_faceBy_55 : decode b_R_faceBy 55 = .ok (.iload_n 1, 1) := by decide +kernel
theorem d_R_faceBy_56 : decode b_R_faceBy 56 = .ok (.iaload, 1) := by decide +kernel
theorem d_R_faceBy_57 : decode b_R_faceBy 57 = .ok (.aload_n 0, 1) := by decide +kernel
theorem d_R_faceBy_58 : decode b_R_faceBy 58 = .ok (.getfield 23, 3) := by decide +kernel
theorem d_R_faceBy_61 : decode b_R_faceBy 61 = .ok (.iload_n 1, 1) := by decide +kernel
theorem d_R_faceBy_62 : decode b_R_faceBy 62 = .ok (.iaload, 1) := by decide +kernel
theorem d_R_faceBy_63 : decode b_R_faceBy 63 = .ok (.iadd, 1) := by decide +kernel
theorem d_R_faceBy_64 : decode b_R_faceBy 64 = .ok (.invokevirtual 128, 3) := by decide +kernel
theorem d_R_faceBy_67 : decode b_R_faceBy 67 = .ok (.invokevirtual 122, 3) := by decide +kernel
theorem d_R_faceBy_70 : decode b_R_faceBy 70 = .ok (.ireturn, 1) := by decide +kernel
theorem d_R_faceBy_71 : decode b_R_faceBy 71 = .ok (.iconst 0, 1) := by decide +kernel
theorem d_R_faceBy_72 : decode b_R_faceBy 72 = .ok (.istore 4, 2) := by decide +kernel
theorem d_R_faceBy_74 : decode b_R_faceBy 74 = .ok (.aload_n 0, 1) := by decide +kernel
theorem d_R_faceBy_75 : decode b_R_faceBy 75 = .ok (.getfield 29, 3) := by decide +kernel
theorem d_R_faceBy_78 : decode b_R_faceBy 78 = .ok (.bipush 20, 2) := by decide +kernel
theorem d_R_faceBy_80 : decode b_R_faceBy 80 = .ok (.iload_n 3, 1) := by decide +kernel
theorem d_R_faceBy_81 : decode b_R_faceBy 81 = .ok (.iconst 1, 1) := by decide +kernel
theorem d_R_faceBy_82 : decode b_R_faceBy 82 = .ok (.iadd, 1) := by decide +kernel
theorem d_R_faceBy_83 : decode b_R_faceBy 83 = .ok (.imul, 1) := by decide +kernel
theorem d_R_faceBy_84 : decode b_R_faceBy 84 = .ok (.iload 4, 2) := by decide +kernel
theorem d_R_faceBy_86 : decode b_R_faceBy 86 = .ok (.iadd, 1) := by decide +kernel
theorem d_R_faceBy_87 : decode b_R_faceBy 87 = .ok (.iaload, 1) := by decide +kernel
theorem d_R_faceBy_88 : decode b_R_faceBy 88 = .ok (.iload_n 1, 1) := by decide +kernel
theorem d_R_faceBy_89 : decode b_R_faceBy 89 = .ok (.if_icmp .eq 9, 3) := by decide +kernel
theorem d_R_faceBy_92 : decode b_R_faceBy 92 = .ok (.iinc 4 1, 3) := by decide +kernel
theorem d_R_faceBy_95 : decode b_R_faceBy 95 = .ok (.goto (-21), 3) := by decide +kernel
theorem d_R_faceBy_98 : decode b_R_faceBy 98 = .ok (.aload_n 0, 1) := by decide +kernel
theorem d_R_faceBy_99 : decode b_R_faceBy 99 = .ok (.bipush 21, 2) := by decide +kernel
theorem d_R_faceBy_101 : decode b_R_faceBy 101 = .ok (.iload_n 3, 1) := by decide +kernel
theorem d_R_faceBy_102 : decode b_R_faceBy 102 = .ok (.iconst 1, 1) := by decide +kernel
theorem d_R_faceBy_103 : decode b_R_faceBy 103 = .ok (.iadd, 1) := by decide +kernel
theorem d_R_faceBy_104 : decode b_R_faceBy 104 = .ok (.imul, 1) := by decide +kernel
theorem d_R_faceBy_105 : decode b_R_faceBy 105 = .ok (.iload_n 2, 1) := by decide +kernel
theorem d_R_faceBy_106 : decode b_R_faceBy 106 = .ok (.iconst 1, 1) := by decide +kernel
theorem d_R_faceBy_107 : decode b_R_faceBy 107 = .ok (.if_icmp .ne 10, 3) := by decide +kernel
theorem d_R_faceBy_110 : decode b_R_faceBy 110 = .ok (.iload 4, 2) := by decide +kernel
theorem d_R_faceBy_112 : decode b_R_faceBy 112 = .ok (.iconst 1, 1) := by decide +kernel
theorem d_R_faceBy_113 : decode b_R_faceBy 113 = .ok (.iadd, 1) := by decide +kernel
theorem d_R_faceBy_114 : decode b_R_faceBy 114 = .ok (.goto 5, 3) := by decide +kernel
theorem d_R_faceBy_117 : decode b_R_faceBy 117 = .ok (.iload 4, 2) := by decide +kernel
theorem d_R_faceBy_119 : decode b_R_faceBy 119 = .ok (.iadd, 1) := by decide +kernel
theorem d_R_faceBy_120 : decode b_R_faceBy 120 = .ok (.invokevirtual 122, 3) := by decide +kernel
theorem d_R_faceBy_123 : decode b_R_faceBy 123 = .ok (.ireturn, 1) := by decide +kernel
theorem d_R_isFree_0 : decode b_R_isFree 0 = .ok (.iconst 1, 1) := by decide +kernel
theorem d_R_isFree_1 : decode b_R_isFree 1 = .ok (.istore_n 3, 1) := by decide +kernel
theorem d_R_isFree_2 : decode b_R_isFree 2 = .ok (.iconst 0, 1) := by decide +kernel
theorem d_R_isFree_3 : decode b_R_isFree 3 = .ok (.istore 4, 2) := by decide +kernel
theorem d_R_isFree_5 : decode b_R_isFree 5 = .ok (.iload 4, 2) := by decide +kernel
theorem d_R_isFree_7 : decode b_R_isFree 7 = .ok (.bipush 20, 2) := by decide +kernel
theorem d_R_isFree_9 : decode b_R_isFree 9 = .ok (.if_icmp .ge 51, 3) := by decide +kernel
theorem d_R_isFree_12 : decode b_R_isFree 12 = .ok (.iload_n 3, 1) := by decide +kernel
theorem d_R_isFree_13 : decode b_R_isFree 13 = .ok (.ifCond .eq 39, 3) := by decide +kernel
theorem d_R_isFree_16 : decode b_R_isFree 16 = .ok (.aload_n 0, 1) := by decide +kernel
theorem d_R_isFree_17 : decode b_R_isFree 17 = .ok (.getfield 7, 3) := by decide +kernel
theorem d_R_isFree_20 : decode b_R_isFree 20 = .ok (.iload 4, 2) := by decide +kernel
theorem d_R_isFree_22 : decode b_R_isFree 22 = .ok (.baload, 1) := by decide +kernel
theorem d_R_isFree_23 : decode b_R_isFree 23 = .ok (.ifCond .eq 25, 3) := by decide +kernel
theorem d_R_isFree_26 : decode b_R_isFree 26 = .ok (.aload_n 0, 1) := by decide +kernel
theorem d_R_isFree_27 : decode b_R_isFree 27 = .ok (.iload 4, 2) := by decide +kernel
theorem d_R_isFree_29 : decode b_R_isFree 29 = .ok (.iload_n 1, 1) := by decide +kernel
theorem d_R_isFree_30 : decode b_R_isFree 30 = .ok (.iload_n 2, 1) := by decide +kernel
theorem d_R_isFree_31 : decode b_R_isFree 31 = .ok (.invokevirtual 46, 3) := by decide +kernel
theorem d_R_isFree_34 : decode b_R_isFree 34 = .ok (.ifCond .ne 18, 3) := by decide +kernel
theorem d_R_isFree_37 : decode b_R_isFree 37 = .ok (.aload_n 0, 1) := by decide +kernel
theorem d_R_isFree_38 : decode b_R_isFree 38 = .ok (.iload 4, 2) := by decide +kernel
theorem d_R_isFree_40 : decode b_R_isFree 40 = .ok (.iload_n 1, 1) := by decide +kernel
theorem d_R_isFree_41 : decode b_R_isFree 41 = .ok (.iload_n 2, 1) := by decide +kernel
theorem d_R_isFree_42 : decode b_R_isFree 42 = .ok (.invokevirtual 50, 3) := by decide +kernel
theorem d_R_isFree_45 : decode b_R_isFree 45 = .ok (.ifCond .ne 7, 3) := by decide +kernel
theorem d_R_isFree_48 : decode b_R_isFree 48 = .ok (.iconst 1, 1) := by decide +kernel
theorem d_R_isFree_49 : decode b_R_isFree 49 = .ok (.goto 4, 3) := by decide +kernel
theorem d_R_isFree_52 : decode b_R_isFree 52 = .ok (.iconst 0, 1) := by decide +kernel
theorem d_R_isFree_53 : decode b_R_isFree 53 = .ok (.istore_n 3, 1) := by decide +kernel
theorem d_R_isFree_54 : decode b_R_isFree 54 = .ok (.iinc 4 1, 3) := by decide +kernel
theorem d_R_isFree_57 : decode b_R_isFree 57 = .ok (.goto (-52), 3) := by decide +kernel
theorem d_R_isFree_60 : decode b_R_isFree 60 = .ok (.iload_n 3, 1) := by decide +kernel
theorem d_R_isFree_61 : decode b_R_isFree 61 = .ok (.ireturn, 1) := by decide +kernel
theorem d_R_find_0 : decode b_R_find 0 = .ok (.iload_n 1, 1) := by decide +kernel
theorem d_R_find_1 : decode b_R_find 1 = .ok (.invokestatic 53, 3) := by decide +kernel
theorem d_R_find_4 : decode b_R_find 4 = .ok (.ifCond .eq 10, 3) := by decide +kernel
theorem d_R_find_7 : decode b_R_find 7 = .ok (.iload_n 2, 1) := by decide +kernel
theorem d_R_find_8 : decode b_R_find 8 = .ok (.invokestatic 53, 3) := by decide +kernel
theorem d_R_find_11 : decode b_R_find 11 = .ok (.ifCond .ne 6, 3) := by decide +kernel
theorem d_R_find_14 : decode b_R_find 14 = .ok (.bipush (-2), 2) := by decide +kernel
theorem d_R_find_16 : decode b_R_find 16 = .ok (.ireturn, 1) := by decide +kernel
theorem d_R_find_17 : decode b_R_find 17 = .ok (.aload_n 0, 1) := by decide +kernel
theorem d_R_find_18 : decode b_R_find 18 = .ok (.iload_n 1, 1) := by decide +kernel
theorem d_R_find_19 : decode b_R_find 19 = .ok (.iload_n 2, 1) := by decide +kernel
theorem d_R_find_20 : decode b_R_find 20 = .ok (.invokevirtual 131, 3) := by decide +kernel
theorem d_R_find_23 : decode b_R_find 23 = .ok (.istore_n 3, 1) := by decide +kernel
theorem d_R_find_24 : decode b_R_find 24 = .ok (.iload_n 3, 1) := by decide +kernel
theorem d_R_find_25 : decode b_R_find 25 = .ok (.ifCond .le 9, 3) := by decide +kernel
theorem d_R_find_28 : decode b_R_find 28 = .ok (.sipush 200, 3) := by decide +kernel
theorem d_R_find_31 : decode b_R_find 31 = .ok (.iload_n 3, 1) := by decide +kernel
theorem d_R_find_32 : decode b_R_find 32 = .ok (.iadd, 1) := by decide +kernel
theorem d_R_find_33 : decode b_R_find 33 = .ok (.ireturn, 1) := by decide +kernel
theorem d_R_find_34 : decode b_R_find 34 = .ok (.iconst (-1), 1) := by decide +kernel
theorem d_R_find_35 : decode b_R_find 35 = .ok (.istore 4, 2) := by decide +kernel
theorem d_R_find_37 : decode b_R_find 37 = .ok (.ldc 85, 2) := by decide +kernel
theorem d_R_find_39 : decode b_R_find 39 = .ok (.istore 5, 2) := by decide +kernel
theorem d_R_find_41 : decode b_R_find 41 = .ok (.iconst 1, 1) := by decide +kernel
theorem d_R_find_42 : decode b_R_find 42 = .ok (.istore 6, 2) := by decide +kernel
theorem d_R_find_44 : decode b_R_find 44 = .ok (.iconst 0, 1) := by decide +kernel
theorem d_R_find_45 : decode b_R_find 45 = .ok (.istore 7, 2) := by decide +kernel
theorem d_R_find_47 : decode b_R_find 47 = .ok (.iload 7, 2) := by decide +kernel
theorem d_R_find_49 : decode b_R_find 49 = .ok (.bipush 20, 2) := by decide +kernel
theorem d_R_find_51 : decode b_R_find 51 = .ok (.if_icmp .ge 155, 3) := by decide +kernel
theorem d_R_find_54 : decode b_R_find 54 = .ok (.aload_n 0, 1) := by decide +kernel
theorem d_R_find_55 : decode b_R_find 55 = .ok (.getfield 7, 3) := by decide +kernel
theorem d_R_find_58 : decode b_R_find 58 = .ok (.iload 7, 2) := by decide +kernel
theorem d_R_find_60 : decode b_R_find 60 = .ok (.baload, 1) := by decide +kernel
theorem d_R_find_61 : decode b_R_find 61 = .ok (.ifCond .eq 20, 3) := by decide +kernel
theorem d_R_find_64 : decode b_R_find 64 = .ok (.aload_n 0, 1) := by decide +kernel
theorem d_R_find_65 : decode b_R_find 65 = .ok (.iload 7, 2) := by decide +kernel
theorem d_R_find_67 : decode b_R_find 67 = .ok (.iload_n 1, 1) := by decide +kernel
theorem d_R_find_68 : decode b_R_find 68 = .ok (.iload_n 2, 1) := by decide +kernel
theorem d_R_find_69 : decode b_R_find 69 = .ok (.invokevirtual 50, 3) := by decide +kernel
theorem d_R_find_72 : decode b_R_find 72 = .ok (.ifCond .eq 9, 3) := by decide +kernel
theorem d_R_find_75 : decode b_R_find 75 = .ok (.bipush 100, 2) := by decide +kernel
theorem d_R_find_77 : decode b_R_find 77 = .ok (.iload 7, 2) := by decide +kernel
theorem d_R_find_79 : decode b_R_find 79 = .ok (.iadd, 1) := by decide +kernel
theorem d_R_find_80 : decode b_R_find 80 = .ok (.ireturn, 1) := by decide +kernel
theorem d_R_find_81 : decode b_R_find 81 = .ok (.aload_n 0, 1) := by decide +kernel
theorem d_R_find_82 : decode b_R_find 82 = .ok (.getfield 7, 3) := by decide +kernel
theorem d_R_find_85 : decode b_R_find 85 = .ok (.iload 7, 2) := by decide +kernel
theorem d_R_find_87 : decode b_R_find 87 = .ok (.baload, 1) := by decide +kernel
theorem d_R_find_88 : decode b_R_find 88 = .ok (.ifCond .eq 112, 3) := by decide +kernel
theorem d_R_find_91 : decode b_R_find 91 = .ok (.aload_n 0, 1) := by decide +kernel
theorem d_R_find_92 : decode b_R_find 92 = .ok (.getfield 13, 3) := by decide +kernel
theorem d_R_find_95 : decode b_R_find 95 = .ok (.iload 7, 2) := by decide +kernel
theorem d_R_find_97 : decode b_R_find 97 = .ok (.iaload, 1) := by decide +kernel
theorem d_R_find_98 : decode b_R_find 98 = .ok (.iload_n 1, 1) := by decide +kernel
theorem d_R_find_99 : decode b_R_find 99 = .ok (.if_icmp .gt 101, 3) := by decide +kernel
theorem d_R_find_102 : decode b_R_find 102 = .ok (.iload_n 1, 1) := by decide +kernel
theorem d_R_find_103 : decode b_R_find 103 = .ok (.aload_n 0, 1) := by decide +kernel
theorem d_R_find_104 : decode b_R_find 104 = .ok (.getfield 20, 3) := by decide +kernel
theorem d_R_find_107 : decode b_R_find 107 = .ok (.iload 7, 2) := by decide +kernel
theorem d_R_find_109 : decode b_R_find 109 = .ok (.iaload, 1) := by decide +kernel
theorem d_R_find_110 : decode b_R_find 110 = .ok (.if_icmp .gt 90, 3) := by decide +kernel
theorem d_R_find_113 : decode b_R_find 113 = .ok (.aload_n 0, 1) := by decide +kernel
theorem d_R_find_114 : decode b_R_find 114 = .ok (.iload 7, 2) := by decide +kernel
theorem d_R_find_116 : decode b_R_find 116 = .ok (.invokevirtual 109, 3) := by decide +kernel
theorem d_R_find_119 : decode b_R_find 119 = .ok (.ifCond .eq 13, 3) := by decide +kernel
theorem d_R_find_122 : decode b_R_find 122 = .ok (.aload_n 0, 1) := by decide +kernel
theorem d_R_find_123 : decode b_R_find 123 = .ok (.getfield 17, 3) := by decide +kernel
theorem d_R_find_126 : decode b_R_find 126 = .ok (.iload 7, 2) := by decide +kernel
theorem d_R_find_128 : decode b_R_find 128 = .ok (.iaload, 1) := by decide +kernel
theorem d_R_find_129 : decode b_R_find 129 = .ok (.goto 10, 3) := by decide +kernel
theorem d_R_find_132 : decode b_R_find 132 = .ok (.aload_n 0, 1) := by decide +kernel
theorem d_R_find_133 : decode b_R_find 133 = .ok (.iload 7, 2) := by decide +kernel
theorem d_R_find_135 : decode b_R_find 135 = .ok (.iload_n 1, 1) := by decide +kernel
theorem d_R_find_136 : decode b_R_find 136 = .ok (.invokevirtual 79, 3) := by decide +kernel
theorem d_R_find_139 : decode b_R_find 139 = .ok (.istore 8, 2) := by decide +kernel
theorem d_R_find_141 : decode b_R_find 141 = .ok (.aload_n 0, 1) := by decide +kernel
theorem d_R_find_142 : decode b_R_find 142 = .ok (.iload 7, 2) := by decide +kernel
theorem d_R_find_144 : decode b_R_find 144 = .ok (.invokevirtual 109, 3) := by decide +kernel
theorem d_R_find_147 : decode b_R_find 147 = .ok (.ifCond .eq 7, 3) := by decide +kernel
theorem d_R_find_150 : decode b_R_find 150 = .ok (.iconst 1, 1) := by decide +kernel
theorem d_R_find_151 : decode b_R_find 151 = .ok (.goto 9, 3) := by decide +kernel
theorem d_R_find_154 : decode b_R_find 154 = .ok (.aload_n 0, 1) := by decide +kernel
theorem d_R_find_155 : decode b_R_find 155 = .ok (.iload 7, 2) := by decide +kernel
theorem d_R_find_157 : decode b_R_find 157 = .ok (.invokevirtual 82, 3) := by decide +kernel
theorem d_R_find_160 : decode b_R_find 160 = .ok (.istore 9, 2) := by decide +kernel
theorem d_R_find_162 : decode b_R_find 162 = .ok (.iload_n 2, 1) := by decide +kernel
theorem d_R_find_163 : decode b_R_find 163 = .ok (.iconst 1, 1) := by decide +kernel
theorem d_R_find_164 : decode b_R_find 164 = .ok (.iload 8, 2) := by decide +kernel
theorem d_R_find_166 : decode b_R_find 166 = .ok (.iload 9, 2) := by decide +kernel
theorem d_R_find_168 : decode b_R_find 168 = .ok (.invokestatic 90, 3) := by decide +kernel
theorem d_R_find_171 : decode b_R_find 171 = .ok (.ifCond .eq 29, 3) := by decide +kernel
theorem d_R_find_174 : decode b_R_find 174 = .ok (.iload 8, 2) := by decide +kernel
theorem d_R_find_176 : decode b_R_find 176 = .ok (.iload 9, 2) := by decide +kernel
theorem d_R_find_178 : decode b_R_find 178 = .ok (.iload 5, 2) := by decide +kernel
theorem d_R_find_180 : decode b_R_find 180 = .ok (.iload 6, 2) := by decide +kernel
theorem d_R_find_182 : decode b_R_find 182 = .ok (.invokestatic 90, 3) := by decide +kernel
theorem d_R_find_185 : decode b_R_find 185 = .ok (.ifCond .eq 15, 3) := by decide +kernel
theorem d_R_find_188 : decode b_R_find 188 = .ok (.iload 7, 2) := by decide +kernel
theorem d_R_find_190 : decode b_R_find 190 = .ok (.istore 4, 2) := by decide +kernel
theorem d_R_find_192 : decode b_R_find 192 = .ok (.iload 8, 2) := by decide +kernel
theorem d_R_find_194 : decode b_R_find 194 = .ok (.istore 5, 2) := by decide +kernel
theorem d_R_find_196 : decode b_R_find 196 = .ok (.iload 9, 2) := by decide +kernel
theorem d_R_find_198 : decode b_R_find 198 = .ok (.istore 6, 2) := by decide +kernel
theorem d_R_find_200 : decode b_R_find 200 = .ok (.iinc 7 1, 3) := by decide +kernel
theorem d_R_find_203 : decode b_R_find 203 = .ok (.goto (-156), 3) := by decide +kernel
theorem d_R_find_206 : decode b_R_find 206 = .ok (.iload 4, 2) := by decide +kernel
theorem d_R_find_208 : decode b_R_find 208 = .ok (.ireturn, 1) := by decide +kernel
theorem d_R_same_0 : decode b_R_same 0 = .ok (.iload_n 1, 1) := by decide +kernel
theorem d_R_same_1 : decode b_R_same 1 = .ok (.invokestatic 53, 3) := by decide +kernel
theorem d_R_same_4 : decode b_R_same 4 = .ok (.ifCond .eq 44, 3) := by decide +kernel
theorem d_R_same_7 : decode b_R_same 7 = .ok (.iload_n 2, 1) := by decide +kernel
theorem d_R_same_8 : decode b_R_same 8 = .ok (.invokestatic 53, 3) := by decide +kernel
theorem d_R_same_11 : decode b_R_same 11 = .ok (.ifCond .eq 37, 3) := by decide +kernel
theorem d_R_same_14 : decode b_R_same 14 = .ok (.iload_n 3, 1) := by decide +kernel
theorem d_R_same_15 : decode b_R_same 15 = .ok (.invokestatic 53, 3) := by decide +kernel
theorem d_R_same_18 : decode b_R_same 18 = .ok (.ifCond .eq 30, 3) := by decide +kernel
theorem d_R_same_21 : decode b_R_same 21 = .ok (.iload 4, 2) := by decide +kernel
theorem d_R_same_23 : decode b_R_same 23 = .ok (.invokestatic 53, 3) := by decide +kernel
theorem d_R_same_26 : decode b_R_same 26 = .ok (.ifCond .eq 22, 3) := by decide +kernel
theorem d_R_same_29 : decode b_R_same 29 = .ok (.aload_n 0, 1) := by decide +kernel
theorem d_R_same_30 : decode b_R_same 30 = .ok (.iload_n 1, 1) := by decide +kernel
theorem d_R_same_31 : decode b_R_same 31 = .ok (.iload_n 2, 1) := by decide +kernel
theorem d_R_same_32 : decode b_R_same 32 = .ok (.invokevirtual 134, 3) := by decide +kernel
theorem d_R_same_35 : decode b_R_same 35 = .ok (.ifCond .eq 13, 3) := by decide +kernel
theorem d_R_same_38 : decode b_R_same 38 = .ok (.aload_n 0, 1) := by decide +kernel
theorem d_R_same_39 : decode b_R_same 39 = .ok (.iload_n 3, 1) := by decide +kernel
theorem d_R_same_40 : decode b_R_same 40 = .ok (.iload 4, 2) := by decide +kernel
theorem d_R_same_42 : decode b_R_same 42 = .ok (.invokevirtual 134, 3) := by decide +kernel
theorem d_R_same_45 : decode b_R_same 45 = .ok (.ifCond .ne 5, 3) := by decide +kernel
theorem d_R_same_48 : decode b_R_same 48 = .ok (.iconst 0, 1) := by decide +kernel
theorem d_R_same_49 : decode b_R_same 49 = .ok (.ireturn, 1) := by decide +kernel
theorem d_R_same_50 : decode b_R_same 50 = .ok (.aload_n 0, 1) := by decide +kernel
theorem d_R_same_51 : decode b_R_same 51 = .ok (.iload_n 1, 1) := by decide +kernel
theorem d_R_same_52 : decode b_R_same 52 = .ok (.iload_n 2, 1) := by decide +kernel
theorem d_R_same_53 : decode b_R_same 53 = .ok (.invokevirtual 137, 3) := by decide +kernel
theorem d_R_same_56 : decode b_R_same 56 = .ok (.aload_n 0, 1) := by decide +kernel
theorem d_R_same_57 : decode b_R_same 57 = .ok (.iload_n 3, 1) := by decide +kernel
theorem d_R_same_58 : decode b_R_same 58 = .ok (.iload 4, 2) := by decide +kernel
theorem d_R_same_60 : decode b_R_same 60 = .ok (.invokevirtual 137, 3) := by decide +kernel
theorem d_R_same_63 : decode b_R_same 63 = .ok (.if_icmp .ne 7, 3) := by decide +kernel
theorem d_R_same_66 : decode b_R_same 66 = .ok (.iconst 1, 1) := by decide +kernel
theorem d_R_same_67 : decode b_R_same 67 = .ok (.goto 4, 3) := by decide +kernel
theorem d_R_same_70 : decode b_R_same 70 = .ok (.iconst 0, 1) := by decide +kernel
theorem d_R_same_71 : decode b_R_same 71 = .ok (.ireturn, 1) := by decide +kernel
theorem d_R_refusal_0 : decode b_R_refusal 0 = .ok (.iload_n 1, 1) := by decide +kernel
theorem d_R_refusal_1 : decode b_R_refusal 1 = .ok (.invokestatic 53, 3) := by decide +kernel
theorem d_R_refusal_4 : decode b_R_refusal 4 = .ok (.ifCond .eq 10, 3) := by decide +kernel
theorem d_R_refusal_7 : decode b_R_refusal 7 = .ok (.iload_n 2, 1) := by decide +kernel
theorem d_R_refusal_8 : decode b_R_refusal 8 = .ok (.invokestatic 53, 3) := by decide +kernel
theorem d_R_refusal_11 : decode b_R_refusal 11 = .ok (.ifCond .ne 8, 3) := by decide +kernel
theorem d_R_refusal_14 : decode b_R_refusal 14 = .ok (.bipush (-2), 2) := by decide +kernel
theorem d_R_refusal_16 : decode b_R_refusal 16 = .ok (.goto 17, 3) := by decide +kernel
theorem d_R_refusal_19 : decode b_R_refusal 19 = .ok (.aload_n 0, 1) := by decide +kernel
theorem d_R_refusal_20 : decode b_R_refusal 20 = .ok (.iload_n 1, 1) := by decide +kernel
theorem d_R_refusal_21 : decode b_R_refusal 21 = .ok (.iload_n 2, 1) := by decide +kernel
theorem d_R_refusal_22 : decode b_R_refusal 22 = .ok (.invokevirtual 134, 3) := by decide +kernel
theorem d_R_refusal_25 : decode b_R_refusal 25 = .ok (.ifCond .eq 7, 3) := by decide +kernel
theorem d_R_refusal_28 : decode b_R_refusal 28 = .ok (.iconst 0, 1) := by decide +kernel
theorem d_R_refusal_29 : decode b_R_refusal 29 = .ok (.goto 4, 3) := by decide +kernel
theorem d_R_refusal_32 : decode b_R_refusal 32 = .ok (.iconst (-1), 1) := by decide +kernel
theorem d_R_refusal_33 : decode b_R_refusal 33 = .ok (.ireturn, 1) := by decide +kernel
theorem d_R_area_0 : decode b_R_area 0 = .ok (.aload_n 0, 1) := by decide +kernel
theorem d_R_area_1 : decode b_R_area 1 = .ok (.iload_n 1, 1) := by decide +kernel
theorem d_R_area_2 : decode b_R_area 2 = .ok (.iload_n 2, 1) := by decide +kernel
theorem d_R_area_3 : decode b_R_area 3 = .ok (.invokevirtual 140, 3) := by decide +kernel
theorem d_R_area_6 : decode b_R_area 6 = .ok (.ifCond .ge 10, 3) := by decide +kernel
theorem d_R_area_9 : decode b_R_area 9 = .ok (.aload_n 0, 1) := by decide +kernel
theorem d_R_area_10 : decode b_R_area 10 = .ok (.iload_n 1, 1) := by decide +kernel
theorem d_R_area_11 : decode b_R_area 11 = .ok (.iload_n 2, 1) := by decide +kernel
theorem d_R_area_12 : decode b_R_area 12 = .ok (.invokevirtual 140, 3) := by decide +kernel
theorem d_R_area_15 : decode b_R_area 15 = .ok (.ireturn, 1) := by decide +kernel
theorem d_R_area_16 : decode b_R_area 16 = .ok (.aload_n 0, 1) := by decide +kernel
theorem d_R_area_17 : decode b_R_area 17 = .ok (.iload_n 1, 1) := by decide +kernel
theorem d_R_area_18 : decode b_R_area 18 = .ok (.iload_n 2, 1) := by decide +kernel
theorem d_R_area_19 : decode b_R_area 19 = .ok (.invokevirtual 137, 3) := by decide +kernel
theorem d_R_area_22 : decode b_R_area 22 = .ok (.istore_n 3, 1) := by decide +kernel
theorem d_R_area_23 : decode b_R_area 23 = .ok (.iload_n 3, 1) := by decide +kernel
theorem d_R_area_24 : decode b_R_area 24 = .ok (.aload_n 0, 1) := by decide +kernel
theorem d_R_area_25 : decode b_R_area 25 = .ok (.iconst 0, 1) := by decide +kernel
theorem d_R_area_26 : decode b_R_area 26 = .ok (.invokevirtual 122, 3) := by decide +kernel
theorem d_R_area_29 : decode b_R_area 29 = .ok (.if_icmp .ne 5, 3) := by decide +kernel
theorem d_R_area_32 : decode b_R_area 32 = .ok (.iconst 0, 1) := by decide +kernel
theorem d_R_area_33 : decode b_R_area 33 = .ok (.ireturn, 1) := by decide +kernel
theorem d_R_area_34 : decode b_R_area 34 = .ok (.iconst 0, 1) := by decide +kernel
theorem d_R_area_35 : decode b_R_area 35 = .ok (.istore 4, 2) := by decide +kernel
theorem d_R_area_37 : decode b_R_area 37 = .ok (.iconst 0, 1) := by decide +kernel
theorem d_R_area_38 : decode b_R_area 38 = .ok (.istore 5, 2) := by decide +kernel
theorem d_R_area_40 : decode b_R_area 40 = .ok (.iload 5, 2) := by decide +kernel
theorem d_R_area_42 : decode b_R_area 42 = .ok (.bipush 20, 2) := by decide +kernel
theorem d_R_area_44 : decode b_R_area 44 = .ok (.if_icmp .ge 105, 3) := by decide +kernel
theorem d_R_area_47 : decode b_R_area 47 = .ok (.aload_n 0, 1) := by decide +kernel
theorem d_R_area_48 : decode b_R_area 48 = .ok (.getfield 7, 3) := by decide +kernel
theorem d_R_area_51 : decode b_R_area 51 = .ok (.iload 5, 2) := by decide +kernel
theorem d_R_area_53 : decode b_R_area 53 = .ok (.baload, 1) := by decide +kernel
theorem d_R_area_54 : decode b_R_area 54 = .ok (.ifCond .eq 89, 3) := by decide +kernel
theorem d_R_area_57 : decode b_R_area 57 = .ok (.aload_n 0, 1) := by decide +kernel
theorem d_R_area_58 : decode b_R_area 58 = .ok (.iload 5, 2) := by decide +kernel
theorem d_R_area_60 : decode b_R_area 60 = .ok (.invokevirtual 109, 3) := by decide +kernel
theorem d_R_area_63 : decode b_R_area 63 = .ok (.ifCond .ne 80, 3) := by decide +kernel
theorem d_R_area_66 : decode b_R_area 66 = .ok (.aload_n 0, 1) := by decide +kernel
theorem d_R_area_67 : decode b_R_area 67 = .ok (.getfield 20, 3) := by decide +kernel
theorem d_R_area_70 : decode b_R_area 70 = .ok (.iload 5, 2) := by decide +kernel
theorem d_R_area_72 : decode b_R_area 72 = .ok (.iaload, 1) := by decide +kernel
theorem d_R_area_73 : decode b_R_area 73 = .ok (.aload_n 0, 1) := by decide +kernel
theorem d_R_area_74 : decode b_R_area 74 = .ok (.getfield 13, 3) := by decide +kernel
theorem d_R_area_77 : decode b_R_area 77 = .ok (.iload 5, 2) := by decide +kernel
theorem d_R_area_79 : decode b_R_area 79 = .ok (.iaload, 1) := by decide +kernel
theorem d_R_area_80 : decode b_R_area 80 = .ok (.isub, 1) := by decide +kernel
theorem d_R_area_81 : decode b_R_area 81 = .ok (.aload_n 0, 1) := by decide +kernel
theorem d_R_area_82 : decode b_R_area 82 = .ok (.getfield 17, 3) := by decide +kernel
theorem d_R_area_85 : decode b_R_area 85 = .ok (.iload 5, 2) := by decide +kernel
theorem d_R_area_87 : decode b_R_area 87 = .ok (.iaload, 1) := by decide +kernel
theorem d_R_area_88 : decode b_R_area 88 = .ok (.aload_n 0, 1) := by decide +kernel
theorem d_R_area_89 : decode b_R_area 89 = .ok (.getfield 23, 3) := by decide +kernel
theorem d_R_area_92 : decode b_R_area 92 = .ok (.iload 5, 2) := by decide +kernel
theorem d_R_area_94 : decode b_R_area 94 = .ok (.iaload, 1) := by decide +kernel
theorem d_R_area_95 : decode b_R_area 95 = .ok (.iadd, 1) := by decide +kernel
theorem d_R_area_96 : decode b_R_area 96 = .ok (.imul, 1) := by decide +kernel
theorem d_R_area_97 : decode b_R_area 97 = .ok (.istore 6, 2) := by decide +kernel
theorem d_R_area_99 : decode b_R_area 99 = .ok (.iload 4, 2) := by decide +kernel
theorem d_R_area_101 : decode b_R_area 101 = .ok (.aload_n 0, 1) := by decide +kernel
theorem d_R_area_102 : decode b_R_area 102 = .ok (.iload 5, 2) := by decide +kernel
theorem d_R_area_104 : decode b_R_area 104 = .ok (.iconst 2, 1) := by decide +kernel
theorem d_R_area_105 : decode b_R_area 105 = .ok (.invokevirtual 143, 3) := by decide +kernel
theorem d_R_area_108 : decode b_R_area 108 = .ok (.iload_n 3, 1) := by decide +kernel
theorem d_R_area_109 : decode b_R_area 109 = .ok (.if_icmp .ne 8, 3) := by decide +kernel
theorem d_R_area_112 : decode b_R_area 112 = .ok (.iload 6, 2) := by decide +kernel
theorem d_R_area_114 : decode b_R_area 114 = .ok (.goto 4, 3) := by decide +kernel
theorem d_R_area_117 : decode b_R_area 117 = .ok (.iconst 0, 1) := by decide +kernel
theorem d_R_area_118 : decode b_R_area 118 = .ok (.iadd, 1) := by decide +kernel
theorem d_R_area_119 : decode b_R_area 119 = .ok (.istore 4, 2) := by decide +kernel
theorem d_R_area_121 : decode b_R_area 121 = .ok (.iload 4, 2) := by decide +kernel
theorem d_R_area_123 : decode b_R_area 123 = .ok (.aload_n 0, 1) := by decide +kernel
theorem d_R_area_124 : decode b_R_area 124 = .ok (.iload 5, 2) := by decide +kernel
theorem d_R_area_126 : decode b_R_area 126 = .ok (.iconst 1, 1) := by decide +kernel
theorem d_R_area_127 : decode b_R_area 127 = .ok (.invokevirtual 143, 3) := by decide +kernel
theorem d_R_area_130 : decode b_R_area 130 = .ok (.iload_n 3, 1) := by decide +kernel
theorem d_R_area_131 : decode b_R_area 131 = .ok (.if_icmp .ne 8, 3) := by decide +kernel
theorem d_R_area_134 : decode b_R_area 134 = .ok (.iload 6, 2) := by decide +kernel
theorem d_R_area_136 : decode b_R_area 136 = .ok (.goto 4, 3) := by decide +kernel
theorem d_R_area_139 : decode b_R_area 139 = .ok (.iconst 0, 1) := by decide +kernel
theorem d_R_area_140 : decode b_R_area 140 = .ok (.isub, 1) := by decide +kernel
theorem d_R_area_141 : decode b_R_area 141 = .ok (.istore 4, 2) := by decide +kernel
theorem d_R_area_143 : decode b_R_area 143 = .ok (.iinc 5 1, 3) := by decide +kernel
theorem d_R_area_146 : decode b_R_area 146 = .ok (.goto (-106), 3) := by decide +kernel
theorem d_R_area_149 : decode b_R_area 149 = .ok (.iload 4, 2) := by decide +kernel
theorem d_R_area_151 : decode b_R_area 151 = .ok (.ireturn, 1) := by decide +kernel
theorem d_R_sides_0 : decode b_R_sides 0 = .ok (.aload_n 0, 1) := by decide +kernel
theorem d_R_sides_1 : decode b_R_sides 1 = .ok (.iload_n 1, 1) := by decide +kernel
theorem d_R_sides_2 : decode b_R_sides 2 = .ok (.iconst 1, 1) := by decide +kernel
theorem d_R_sides_3 : decode b_R_sides 3 = .ok (.invokevirtual 143, 3) := by decide +kernel
theorem d_R_sides_6 : decode b_R_sides 6 = .ok (.iload_n 2, 1) := by decide +kernel
theorem d_R_sides_7 : decode b_R_sides 7 = .ok (.if_icmp .ne 7, 3) := by decide +kernel
theorem d_R_sides_10 : decode b_R_sides 10 = .ok (.iconst 1, 1) := by decide +kernel
theorem d_R_sides_11 : decode b_R_sides 11 = .ok (.goto 4, 3) := by decide +kernel
theorem d_R_sides_14 : decode b_R_sides 14 = .ok (.iconst 0, 1) := by decide +kernel
theorem d_R_sides_15 : decode b_R_sides 15 = .ok (.aload_n 0, 1) := by decide +kernel
theorem d_R_sides_16 : decode b_R_sides 16 = .ok (.iload_n 1, 1) := by decide +kernel
theorem d_R_sides_17 : decode b_R_sides 17 = .ok (.iconst 2, 1) := by decide +kernel
theorem d_R_sides_18 : decode b_R_sides 18 = .ok (.invokevirtual 143, 3) := by decide +kernel
theorem d_R_sides_21 : decode b_R_sides 21 = .ok (.iload_n 2, 1) := by decide +kernel
theorem d_R_sides_22 : decode b_R_sides 22 = .ok (.if_icmp .ne 7, 3) := by decide +kernel
theorem d_R_sides_25 : decode b_R_sides 25 = .ok (.iconst 2, 1) := by decide +kernel
theorem d_R_sides_26 : decode b_R_sides 26 = .ok (.goto 4, 3) := by decide +kernel
theorem d_R_sides_29 : decode b_R_sides 29 = .ok (.iconst 0, 1) := by decide +kernel
theorem d_R_sides_30 : decode b_R_sides 30 = .ok (.iadd, 1) := by decide +kernel
theorem d_R_sides_31 : decode b_R_sides 31 = .ok (.ireturn, 1) := by decide +kernel
theorem d_R_border_0 : decode b_R_border 0 = .ok (.aload_n 0, 1) := by decide +kernel
theorem d_R_border_1 : decode b_R_border 1 = .ok (.iload_n 1, 1) := by decide +kernel
theorem d_R_border_2 : decode b_R_border 2 = .ok (.iload_n 2, 1) := by decide +kernel
theorem d_R_border_3 : decode b_R_border 3 = .ok (.invokevirtual 140, 3) := by decide +kernel
theorem d_R_border_6 : decode b_R_border 6 = .ok (.ifCond .ge 10, 3) := by decide +kernel
theorem d_R_border_9 : decode b_R_border 9 = .ok (.aload_n 0, 1) := by decide +kernel
theorem d_R_border_10 : decode b_R_border 10 = .ok (.iload_n 1, 1) := by decide +kernel
theorem d_R_border_11 : decode b_R_border 11 = .ok (.iload_n 2, 1) := by decide +kernel
theorem d_R_border_12 : decode b_R_border 12 = .ok (.invokevirtual 140, 3) := by decide +kernel
theorem d_R_border_15 : decode b_R_border 15 = .ok (.ireturn, 1) := by decide +kernel
theorem d_R_border_16 : decode b_R_border 16 = .ok (.aload_n 0, 1) := by decide +kernel
theorem d_R_border_17 : decode b_R_border 17 = .ok (.iload_n 1, 1) := by decide +kernel
theorem d_R_border_18 : decode b_R_border 18 = .ok (.iload_n 2, 1) := by decide +kernel
theorem d_R_border_19 : decode b_R_border 19 = .ok (.invokevirtual 137, 3) := by decide +kernel
theorem d_R_border_22 : decode b_R_border 22 = .ok (.istore_n 3, 1) := by decide +kernel
theorem d_R_border_23 : decode b_R_border 23 = .ok (.iconst 0, 1) := by decide +kernel
theorem d_R_border_24 : decode b_R_border 24 = .ok (.istore 4, 2) := by decide +kernel
theorem d_R_border_26 : decode b_R_border 26 = .ok (.iconst 0, 1) := by decide +kernel
theorem d_R_border_27 : decode b_R_border 27 = .ok (.istore 5, 2) := by decide +kernel
theorem d_R_border_29 : decode b_R_border 29 = .ok (.iload 5, 2) := by decide +kernel
theorem d_R_border_31 : decode b_R_border 31 = .ok (.bipush 20, 2) := by decide +kernel
theorem d_R_border_33 : decode b_R_border 33 = .ok (.if_icmp .ge 57, 3) := by decide +kernel
theorem d_R_border_36 : decode b_R_border 36 = .ok (.aload_n 0, 1) := by decide +kernel
theorem d_R_border_37 : decode b_R_border 37 = .ok (.getfield 7, 3) := by decide +kernel
theorem d_R_border_40 : decode b_R_border 40 = .ok (.iload 5, 2) := by decide +kernel
theorem d_R_border_42 : decode b_R_border 42 = .ok (.baload, 1) := by decide +kernel
theorem d_R_border_43 : decode b_R_border 43 = .ok (.ifCond .eq 13, 3) := by decide +kernel
theorem d_R_border_46 : decode b_R_border 46 = .ok (.aload_n 0, 1) := by decide +kernel
theorem d_R_border_47 : decode b_R_border 47 = .ok (.iload 5, 2) := by decide +kernel
theorem d_R_border_49 : decode b_R_border 49 = .ok (.iload_n 3, 1) := by decide +kernel
theorem d_R_border_50 : decode b_R_border 50 = .ok (.invokevirtual 146, 3) := by decide +kernel
theorem d_R_border_53 : decode b_R_border 53 = .ok (.goto 4, 3) := by decide +kernel
theorem d_R_border_56 : decode b_R_border 56 = .ok (.iconst 0, 1) := by decide +kernel
theorem d_R_border_57 : decode b_R_border 57 = .ok (.istore 6, 2) := by decide +kernel
theorem d_R_border_59 : decode b_R_border 59 = .ok (.iload 4, 2) := by decide +kernel
theorem d_R_border_61 : decode b_R_border 61 = .ok (.iload 6, 2) := by decide +kernel
theorem d_R_border_63 : decode b_R_border 63 = .ok (.iconst 3, 1) := by decide +kernel
theorem d_R_border_64 : decode b_R_border 64 = .ok (.if_icmp .ne 7, 3) := by decide +kernel
theorem d_R_border_67 : decode b_R_border 67 = .ok (.iconst 2, 1) := by decide +kernel
theorem d_R_border_68 : decode b_R_border 68 = .ok (.goto 13, 3) := by decide +kernel
theorem d_R_border_71 : decode b_R_border 71 = .ok (.iload 6, 2) := by decide +kernel
theorem d_R_border_73 : decode b_R_border 73 = .ok (.ifCond .le 7, 3) := by decide +kernel
theorem d_R_border_76 : decode b_R_border 76 = .ok (.iconst 1, 1) := by decide +kernel
theorem d_R_border_77 : decode b_R_border 77 = .ok (.goto 4, 3) := by decide +kernel
theorem d_R_border_80 : decode b_R_border 80 = .ok (.iconst 0, 1) := by decide +kernel
theorem d_R_border_81 : decode b_R_border 81 = .ok (.iadd, 1) := by decide +kernel
theorem d_R_border_82 : decode b_R_border 82 = .ok (.istore 4, 2) := by decide +kernel
theorem d_R_border_84 : decode b_R_border 84 = .ok (.iinc 5 1, 3) := by decide +kernel
theorem d_R_border_87 : decode b_R_border 87 = .ok (.goto (-58), 3) := by decide +kernel
theorem d_R_border_90 : decode b_R_border 90 = .ok (.iload 4, 2) := by decide +kernel
theorem d_R_border_92 : decode b_R_border 92 = .ok (.ireturn, 1) := by decide +kernel
theorem d_R_touches_0 : decode b_R_touches 0 = .ok (.aload_n 0, 1) := by decide +kernel
theorem d_R_touches_1 : decode b_R_touches 1 = .ok (.iload_n 1, 1) := by decide +kernel
theorem d_R_touches_2 : decode b_R_touches 2 = .ok (.iload_n 2, 1) := by decide +kernel
theorem d_R_touches_3 : decode b_R_touches 3 = .ok (.invokevirtual 140, 3) := by decide +kernel
theorem d_R_touches_6 : decode b_R_touches 6 = .ok (.ifCond .ge 10, 3) := by decide +kernel
theorem d_R_touches_9 : decode b_R_touches 9 = .ok (.aload_n 0, 1) := by decide +kernel
theorem d_R_touches_10 : decode b_R_touches 10 = .ok (.iload_n 1, 1) := by decide +kernel
theorem d_R_touches_11 : decode b_R_touches 11 = .ok (.iload_n 2, 1) := by decide +kernel
theorem d_R_touches_12 : decode b_R_touches 12 = .ok (.invokevirtual 140, 3) := by decide +kernel
theorem d_R_touches_15 : decode b_R_touches 15 = .ok (.ireturn, 1) := by decide +kernel
theorem d_R_touches_16 : decode b_R_touches 16 = .ok (.aload_n 0, 1) := by decide +kernel
theorem d_R_touches_17 : decode b_R_touches 17 = .ok (.iload_n 3, 1) := by decide +kernel
theorem d_R_touches_18 : decode b_R_touches 18 = .ok (.invokevirtual 65, 3) := by decide +kernel
theorem d_R_touches_21 : decode b_R_touches 21 = .ok (.ifCond .eq 17, 3) := by decide +kernel
theorem d_R_touches_24 : decode b_R_touches 24 = .ok (.aload_n 0, 1) := by decide +kernel
theorem d_R_touches_25 : decode b_R_touches 25 = .ok (.iload_n 3, 1) := by decide +kernel
theorem d_R_touches_26 : decode b_R_touches 26 = .ok (.aload_n 0, 1) := by decide +kernel
theorem d_R_touches_27 : decode b_R_touches 27 = .ok (.iload_n 1, 1) := by decide +kernel
theorem d_R_touches_28 : decode b_R_touches 28 = .ok (.iload_n 2, 1) := by decide +kernel
theorem d_R_touches_29 : decode b_R_touches 29 = .ok (.invokevirtual 137, 3) := by decide +kernel
theorem d_R_touches_32 : decode b_R_touches 32 = .ok (.invokevirtual 146, 3) := by decide +kernel
theorem d_R_touches_35 : decode b_R_touches 35 = .ok (.goto 4, 3) := by decide +kernel
theorem d_R_touches_38 : decode b_R_touches 38 = .ok (.iconst (-1), 1) := by decide +kernel
theorem d_R_touches_39 : decode b_R_touches 39 = .ok (.ireturn, 1) := by decide +kernel
end
section
/-! Rows of this claim, over the kit's: calls of methods that change nothing, natural numbers as ints, truth values -/
def b2i (b : Bool) : Int32 := if b then 1 else 0
theorem b2i_t : b2i true = 1 := rfl
theorem b2i_f : b2i false = 0 := rfl
theorem b2i_eq0 {b : Bool} : b2i b = 0 ↔ b = false := by cases b <;> decide
theorem b2i_ne0 {b : Bool} : ¬ b2i b = 0 ↔ b = true := by cases b <;> decide
theorem b2i_inj {a b : Bool} : b2i a = b2i b ↔ a = b := by cases a <;> cases b <;> decide
theorem b2i_nar (b : Bool) : narrow .boolean (.int (b2i b)) = .int (b2i b) := by cases b <;> rfl
theorem b2i_vnar (b : Bool) : vp_nar .boolean (b2i b) = b2i b := by cases b <;> rfl
/-- the other arrow of a segment -/
def tw (a : Nat) : Nat := if a % 2 = 0 then a + 1 else a - 1
theorem tw_lt {a : Nat} (h : a < 40) : tw a < 40 := by unfold tw; split <;> omega
theorem tw_tw (a : Nat) : tw (tw a) = a := by unfold tw; split <;> split <;> omega
theorem tw_half (a : Nat) : tw a / 2 = a / 2 := by unfold tw; split <;> omega
theorem tw_ne (a : Nat) : tw a ≠ a := by unfold tw; split <;> omega
theorem tw_even (k : Nat) : tw (2 * k) = 2 * k + 1 := by unfold tw; split <;> omega
theorem tw_odd (k : Nat) : tw (2 * k + 1) = 2 * k := by unfold tw; split <;> omega
theorem nI_xor1 : ∀ a, a < 64 → nI a ^^^ 1 = nI (tw a) := by decide +kernel
def updB (u : Nat → Bool) (k : Nat) (b : Bool) : Nat → Bool := fun j => if j = k then b else u j
def updN (u : Nat → Nat) (k : Nat) (b : Nat) : Nat → Nat := fun j => if j = k then b else u j
/-- a method that changes nothing: its start, its answer -/
def pPc (D : va_G) (ws : va_W) (tys : List (ClassId × FieldType)) (av : List Value) : Array Value → State → Prop := va_Pc av (fun U => va_P D CLS ws U.heap ∧ va_K D CLS tys U)
abbrev pQ (v : Int32) : Array Value → State → Outcome → State → Prop := vp_Si (fun r => r = v)
theorem pPc_blind {D : va_G} {ws : va_W} {tys : List (ClassId × FieldType)} {av : List Value} : FrameBlind (pPc D ws tys av) := fun a U g mk q => ⟨q.1, q.2.1, va_K.moved (u := U) (U := U.calling g mk a) (Vm.Alike.refl U.vm) q.2.2⟩
abbrev PM (l : Launch) (y : MethodName) (cc : ByteArray) (maxL : Nat) (ret : Option FieldType) (fr lo : Nat) (D : va_G) (ws : va_W) (tys : List (ClassId × FieldType)) (av : List Value) (v : Int32) : Prop :=
  Met l y (Cond.code y cc maxL ret :: TBL) { frames := fr, cells := 0, slots := 0, locals := lo } (pPc D ws tys av) (pQ v) 0 0 (fun _ => False)
abbrev inV (y : MethodName) (bytes : ByteArray) (maxL : Nat) (ret : Option FieldType) (n : Nat) : Prop :=
  Cond.instanceMethod y ∈ TBL ∧ Cond.selects y.cls y y ∈ TBL ∧ Cond.initialized y.cls ∈ TBL ∧ Cond.code y bytes maxL ret ∈ TBL ∧ (y.cls ≠ "java/lang/invoke/MethodHandle" ∧ y.cls ≠ "java/lang/invoke/VarHandle" ∧ (parseMethodDescriptor y.desc).map (fun d => d.parameters.length) = some n)
abbrev inS (y : MethodName) (bytes : ByteArray) (maxL : Nat) (ret : Option FieldType) (n : Nat) : Prop :=
  Cond.static y ∈ TBL ∧ Cond.initialized y.cls ∈ TBL ∧ Cond.code y bytes maxL ret ∈ TBL ∧ (y.cls ≠ "java/lang/invoke/MethodHandle" ∧ y.cls ≠ "java/lang/invoke/VarHandle" ∧ (parseMethodDescriptor y.desc).map (fun d => d.parameters.length) = some n)
theorem gdV {own : String} {idx : Nat} {y : MethodName} {c : ByteArray} {m : Nat} {r : Option FieldType} {n : Nat} (hl : Cond.methodLink own idx y ∈ TBL) (h : inV y c m r n) : GoodIn TBL (wsV own idx y.cls y (Cond.code y c m r :: TBL)) := by
  intro w hw
  have hm : w ∈ TBL := by
    unfold wsV at hw
    simp only [List.mem_append, List.mem_cons, List.not_mem_nil, or_false] at hw
    rcases hw with (rfl | rfl | rfl | rfl) | rfl | hw
    · exact hl
    · exact h.1
    · exact h.2.1
    · exact h.2.2.1
    · exact h.2.2.2.1
    · exact hw
  exact ⟨hm, good_of_word (tbl_good hm)⟩
theorem gdS {own : String} {idx : Nat} {y : MethodName} {c : ByteArray} {m : Nat} {r : Option FieldType} {n : Nat} (hl : Cond.methodLink own idx y ∈ TBL) (h : inS y c m r n) : GoodIn TBL (va_wsS own idx y (Cond.code y c m r :: TBL)) := by
  intro w hw
  have hm : w ∈ TBL := by
    unfold va_wsS at hw
    simp only [List.mem_append, List.mem_cons, List.not_mem_nil, or_false] at hw
    rcases hw with (rfl | rfl | rfl) | rfl | hw
    · exact hl
    · exact h.1
    · exact h.2.1
    · exact h.2.2.1
    · exact hw
  exact ⟨hm, good_of_word (tbl_good hm)⟩
theorem pMet {l : Launch} {y : MethodName} {cc : ByteArray} {maxL : Nat} {ret : Option FieldType} {fr lo : Nat} {D : va_G} {ws : va_W} {tys : List (ClassId × FieldType)} {av : List Value} {v : Int32} (hy : plainName y.cls = true)
    (body : ∀ (p : Program) (e : Env) (s : State) (m : MethodId) (below : List Frame) (meth : Method) (c : Code), CallFix p m c cc maxL s av.toArray TBL y.cls → meth.sig.returnType = ret → meth.locks = false → va_P D CLS ws s.heap → va_K D CLS tys s → ∀ ls, lv_has ls maxL (lv_args 0 av) →
      W p l e { frames := fr, cells := 0, slots := 0, locals := lo } s m av.toArray below meth c s.heap [] 0 0 (MQ below (pQ v) av.toArray s 0 0 (fun _ => False)) (F0 m 0 ls []))
    (hlen : (lg_sl av).length ≤ maxL) : PM l y cc maxL ret fr lo D ws tys av v := by
  refine Met.ofW (cc := cc) (maxL := maxL) (ret := ret) hy rfl ?_
  intro p e s m args below meth c s₁ B hml hv
  obtain ⟨rfl, hP, hK⟩ := hv
  have hts := atoms_spec (ws := Cond.code y cc maxL ret :: TBL) B.pre
  have hl := lv_entry av (n := maxL) hlen
  rw [lg_entry_eq]
  generalize (lg_sl av ++ List.replicate (maxL - (lg_sl av).length) Slot.unset).toArray = ls at hl ⊢
  exact body p e s m below meth c ⟨B.exec, B.bytes, hml, findClass_of_methodNamed B.named, fun w h => hts w (List.mem_cons_of_mem _ h)⟩ B.returns B.notSynchronized hP hK ls hl
section RW
variable {p : Program} {l : Launch} {e : Env} {R : Room} {s : State} {m : MethodId} {args : Array Value} {below : List Frame} {meth : Method} {c : Code} {H : Heap} {locs : List Loc} {cells slots : Nat} {Q : State → Prop}
variable {cc : ByteArray} {pc nL : Nat} {ls : Array Slot} {rest st : List Value} {D : va_G} {a : Nat} {tys : List (ClassId × FieldType)} {ws : va_W} {own : String}
theorem rtop {x y : Int32} (h : x = y) (kk : W p l e R s m args below meth c H locs cells slots Q (F0 m pc ls (.int y :: rest))) : W p l e R s m args below meth c H locs cells slots Q (F0 m pc ls (.int x :: rest)) := h ▸ kk
theorem rget (S : CallFix p m c cc nL s args TBL own) (hK : va_K D CLS tys s) (hP : va_P D CLS ws H) (q0 : Nat) {C : String} {T : u_T} {N ci : Nat} {fs : List Value} (he : ws[q0]? = some (a, .inr (ci, fs))) (hc : CLS[ci]? = some (C, T, N)) (hin : ∀ w ∈ u_ws C T N, w ∈ TBL) (k : Nat) (hk : k < N) {index : Nat} (hlink : Cond.fieldLink own index (T k).1 (T k).2.1 (T k).2.2.1 ∈ TBL) {v : Value} (hv : fs[k]? = some v) (hdg : decode cc pc = .ok (.getfield index, 3))
    (kk : W p l e R s m args below meth c H locs cells slots Q (F0 m (pc + 3) ls (v :: rest))) : W p l e R s m args below meth c H locs cells slots Q (F0 m pc ls (.ref a :: rest)) :=
  va_get S.1 S.2.1 S.2.2.2.2 hin S.2.2.2.1 hK hP q0 he hc k hk (S.2.2.2.2 _ hlink) (fun _ h => h) hv hdg kk
theorem riald (S : CallFix p m c cc nL s args TBL own) (hK : va_K D CLS tys s) (hP : va_P D CLS ws H) (q0 t0 : Nat) {cA : ClassId} {n j : Nat} {f : Nat → Int32} (ha : ws[q0]? = some (a, .inl (cA, n, .inl f))) (ht : tys[t0]? = some (cA, .int)) (hj : j < n) (hn : n < 2 ^ 31) (hdg : decode cc pc = .ok (.iaload, 1))
    (kk : W p l e R s m args below meth c H locs cells slots Q (F0 m (pc + 1) ls (.int (f j) :: rest))) : W p l e R s m args below meth c H locs cells slots Q (F0 m pc ls (.int (nI j) :: .ref a :: rest)) :=
  va_iald S.1 S.2.1 hK hP q0 t0 ha ht (vp_in_nI hj hn) hdg (by rw [nI_clamp (Nat.lt_trans hj hn)]; exact kk)
theorem rnald (S : CallFix p m c cc nL s args TBL own) (hK : va_K D CLS tys s) (hP : va_P D CLS ws H) (q0 t0 : Nat) {cA : ClassId} {n j : Nat} {f : Nat → Nat} (ha : ws[q0]? = some (a, .inl (cA, n, .inl (fun i => nI (f i))))) (ht : tys[t0]? = some (cA, .int)) (hj : j < n) (hn : n < 2 ^ 31) (hdg : decode cc pc = .ok (.iaload, 1))
    (kk : W p l e R s m args below meth c H locs cells slots Q (F0 m (pc + 1) ls (.int (nI (f j)) :: rest))) : W p l e R s m args below meth c H locs cells slots Q (F0 m pc ls (.int (nI j) :: .ref a :: rest)) :=
  riald S hK hP q0 t0 ha ht hj hn hdg kk
theorem rzald (S : CallFix p m c cc nL s args TBL own) (hK : va_K D CLS tys s) (hP : va_P D CLS ws H) (q0 t0 : Nat) {cA : ClassId} {n j : Nat} {f : Nat → Bool} (ha : ws[q0]? = some (a, .inl (cA, n, .inl (fun i => b2i (f i))))) (ht : tys[t0]? = some (cA, .boolean)) (hj : j < n) (hn : n < 2 ^ 31) (hdg : decode cc pc = .ok (.baload, 1))
    (kk : W p l e R s m args below meth c H locs cells slots Q (F0 m (pc + 1) ls (.int (b2i (f j)) :: rest))) : W p l e R s m args below meth c H locs cells slots Q (F0 m pc ls (.int (nI j) :: .ref a :: rest)) :=
  va_zald S.1 S.2.1 hK hP q0 t0 ha ht (vp_in_nI hj hn) hdg (by rw [nI_clamp (Nat.lt_trans hj hn)]; exact kk)
/-- a call of a method that changes nothing -/
theorem rcallV (S : CallFix p m c cc nL s args TBL own) {y : MethodName} {bytes : ByteArray} {maxL fr lo index : Nat} {ret : Option FieldType} {ws' : va_W} {tys' : List (ClassId × FieldType)} {b : Nat} {v : Int32} (As : List Value) (hK : va_K D CLS tys s) (hP : va_P D CLS ws H) (isC : List Nat) (hC : isC.filterMap (fun i => ws[i]?) = ws') (isT : List Nat) (hT : isT.filterMap (fun i => tys[i]?) = tys')
    (hM : PM l y bytes maxL ret fr lo D ws' tys' (.ref b :: As) v) (hi : inV y bytes maxL ret As.length) (hl : Cond.methodLink own index y ∈ TBL) (hR : fr + 1 ≤ R.frames ∧ 8 + (maxL + 11) + lo ≤ R.locals) (hcs : cells ≤ R.cells ∧ slots ≤ R.slots) {q0 ci : Nat} {q : vw_C} {fs : List Value} (hcl : CLS[ci]? = some q) (hq : q.1 = y.cls) (he : ws'[q0]? = some (b, .inr (ci, fs)))
    (hsz : ls.size = nL) (hst : st = As.reverse ++ .ref b :: rest) (hw : (rest.map fun v => v.category).sum ≤ 8) (hdg : decode cc pc = .ok (.invokevirtual index, 3))
    (kk : W p l e R s m args below meth c H locs cells slots Q (F0 m (pc + 3) ls (.int v :: rest))) : W p l e R s m args below meth c H locs cells slots Q (F0 m pc ls st) := by
  have hK' := hK.sub isT hT
  have hP' := hP.sub isC hC
  refine vp_callSi (W.runV (As := As) (rest := rest) (C := y.cls) S hM (cwV As.length S.2.2.2.2 (gdV hl hi) rfl rfl rfl ⟨rfl, hi.2.2.2.2⟩ hR) ⟨pPc_blind, ?_, fun U hU hW => ⟨rfl, by rw [hU]; exact hP', va_K.moved hW.alike hK'⟩⟩ rfl rfl hsz hst (lv_room hw) hdg ⟨by simpa using hcs.1, by simpa using hcs.2⟩) (fun r hr => ?_)
  · obtain ⟨cell, h1, h2, h3⟩ := va_recv hK' hP' hcl he
    exact ⟨cell, h1, h2, by rw [← hq]; exact h3⟩
  · subst hr
    exact kk
theorem rcallS (S : CallFix p m c cc nL s args TBL own) {y : MethodName} {bytes : ByteArray} {maxL fr lo index : Nat} {ret : Option FieldType} {ws' : va_W} {tys' : List (ClassId × FieldType)} {v : Int32} (As : List Value) (hK : va_K D CLS tys s) (hP : va_P D CLS ws H) (isC : List Nat) (hC : isC.filterMap (fun i => ws[i]?) = ws') (isT : List Nat) (hT : isT.filterMap (fun i => tys[i]?) = tys')
    (hM : PM l y bytes maxL ret fr lo D ws' tys' As v) (hi : inS y bytes maxL ret As.length) (ho : y.cls = own) (hl : Cond.methodLink own index y ∈ TBL) (hR : fr + 1 ≤ R.frames ∧ 8 + (maxL + 11) + lo ≤ R.locals) (hcs : cells ≤ R.cells ∧ slots ≤ R.slots)
    (hsz : ls.size = nL) (hst : st = As.reverse ++ rest) (hw : (rest.map fun v => v.category).sum ≤ 8) (hdg : decode cc pc = .ok (.invokestatic index, 3))
    (kk : W p l e R s m args below meth c H locs cells slots Q (F0 m (pc + 3) ls (.int v :: rest))) : W p l e R s m args below meth c H locs cells slots Q (F0 m pc ls st) := by
  have hK' := hK.sub isT hT
  have hP' := hP.sub isC hC
  refine vp_callSi (W.runS (As := As) (rest := rest) S hM (va_cwS As.length S.2.2.2.2 (gdS hl hi) rfl rfl rfl hi.2.2.2 hR) ⟨pPc_blind, fun U hU hW => ⟨rfl, by rw [hU]; exact hP', va_K.moved hW.alike hK'⟩⟩ rfl rfl hsz hst (lv_room hw) hdg ⟨by simpa using hcs.1, by simpa using hcs.2⟩) (fun r hr => ?_)
  subst hr
  exact kk
/-- the ends of a method that changes nothing -/
theorem rret (S : CallFix p m c cc nL s args TBL own) (hr : meth.sig.returnType = some .int) (hlk : meth.locks = false) {v w : Int32} (hv : v = w) (hdg : decode cc pc = .ok (.ireturn, 1)) : W p l e R s m args below meth c s.heap [] 0 0 (MQ below (pQ w) args s 0 0 (fun _ => False)) (F0 m pc ls [.int v]) :=
  W.iret (v := v) S.1 S.2.1 hr (fun t ht hW => ⟨v, rfl, hv, ht⟩) (fun q h => by cases h) hdg hlk
theorem rretZ (S : CallFix p m c cc nL s args TBL own) (hr : meth.sig.returnType = some .boolean) (hlk : meth.locks = false) {v w : Bool} (hv : v = w) (hdg : decode cc pc = .ok (.ireturn, 1)) : W p l e R s m args below meth c s.heap [] 0 0 (MQ below (pQ (b2i w)) args s 0 0 (fun _ => False)) (F0 m pc ls [.int (b2i v)]) :=
  W.zret (v := b2i v) S.1 S.2.1 hr (b2i_nar v) (fun t ht hW => ⟨b2i v, rfl, by rw [hv], ht⟩) (fun q h => by cases h) hdg hlk
end RW
end
section
abbrev mapW (hm hu hxs hys : Nat) (cZ cI : ClassId) (u : Nat → Bool) (X Y : Nat → Int32) : va_W := [(hm, .inr (1, [.ref hu, .ref hxs, .ref hys])), (hu, .inl (cZ, 20, .inl (fun i => b2i (u i)))), (hxs, .inl (cI, 40, .inl X)), (hys, .inl (cI, 40, .inl Y))]
theorem b2n {b : Bool} (h : b = false) : ¬ b = true := by rw [h]; decide
theorem raw_nat {k : Int32} (h : ¬ k < 0) : k = nI k.toNatClampNeg := by
  obtain ⟨j, hj, rfl⟩ := nI_of h
  rw [nI_clamp hj]
theorem raw_lt {k : Int32} {n : Nat} (h : ¬ k < 0) (h2 : ¬ nI n ≤ k) (hn : n < 2 ^ 31 := by decide) : k.toNatClampNeg < n := by
  obtain ⟨j, hj, rfl⟩ := nI_of h
  rw [nI_clamp hj]
  rcases Nat.lt_or_ge j n with q | q
  · exact q
  · exact absurd (nI_le q hj) h2
def f_M_has (u : Nat → Bool) (X : Nat → Int32) (Y : Nat → Int32) (k : Int32) : Bool := if k < 0 then false else (if 20 ≤ k then false else (if u k.toNatClampNeg = true then true else false))
theorem i_M_has : inV y_M_has b_M_has 2 (some .boolean) 1 := ⟨kM_y_M_has, kV_y_M_has, kI_M, kY_y_M_has, by decide +kernel⟩
set_option maxHeartbeats 4000000 in
set_option maxRecDepth 100000 in
theorem c_M_has (l : Launch) (D : va_G) (hm hu hxs hys : Nat) (cZ cI : ClassId) (u : Nat → Bool) (X Y : Nat → Int32) (k : Int32)   : PM l y_M_has b_M_has 2 (some .boolean) 0 0 D (mapW hm hu hxs hys cZ cI u X Y) [(cZ, .boolean), (cI, .int)] [.ref hm, .int k] (b2i (f_M_has u X Y k)) := by
  refine pMet rfl (fun p e s m below meth c S hr hlk hP hK ls hl => ?_) (Nat.le_of_ble_eq_true rfl)
  have hx := S.1
  have hb := S.2.1
  have hl : lv_has ls 2 [(0, .ref hm), (1, .int k)] := hl
  refine lv_iload_n hx hb d_M_has_0 rfl (lv_at hl 1 rfl) ?_
  refine lv_if_lt (tgt := 23) hx hb d_M_has_1 (by decide) (fun c1 => ?_) (fun c1 => ?_)
  · have c1a : k < 0 := c1
    refine lv_iconst (v := 0) hx hb d_M_has_23 (by decide) ?_
    exact rretZ S hr hlk (v := false) (show f_M_has u X Y k = false from by unfold f_M_has; rw [if_pos c1a]).symm d_M_has_24
  · have c1a : ¬ (k < 0) := c1
    refine lv_iload_n hx hb d_M_has_4 rfl (lv_at hl 1 rfl) ?_
    refine lv_bipush (v := 20) hx hb d_M_has_5 (by decide) ?_
    refine lv_icmp_ge (tgt := 23) hx hb d_M_has_7 (by decide) (fun c2 => ?_) (fun c2 => ?_)
    · have c2a : 20 ≤ k := c2
      refine lv_iconst (v := 0) hx hb d_M_has_23 (by decide) ?_
      exact rretZ S hr hlk (v := false) (show f_M_has u X Y k = false from by unfold f_M_has; rw [if_neg c1a, if_pos c2a]).symm d_M_has_24
    · have c2a : ¬ (20 ≤ k) := c2
      have ek2 : k = nI (k.toNatClampNeg) := raw_nat c1a
      have hk2 : k.toNatClampNeg < 20 := raw_lt c1a c2a
      rw [ek2] at hl
      refine lv_aload_n hx hb d_M_has_10 rfl (lv_at hl 0 rfl) ?_
      refine rget S hK hP 0 rfl rfl in_M 0 (by decide) kF_M_9 rfl d_M_has_11 ?_
      refine lv_iload_n hx hb d_M_has_14 rfl (lv_at hl 1 rfl) ?_
      refine rzald (j := k.toNatClampNeg) S hK hP 1 0 rfl rfl (by omega) (by first | decide | omega) d_M_has_15 ?_
      refine lv_if_eq (tgt := 23) hx hb d_M_has_16 (by decide) (fun c3 => ?_) (fun c3 => ?_)
      · have c3a : ¬ (u k.toNatClampNeg = true) := b2n (b2i_eq0.mp c3)
        refine lv_iconst (v := 0) hx hb d_M_has_23 (by decide) ?_
        exact rretZ S hr hlk (v := false) (show f_M_has u X Y k = false from by unfold f_M_has; rw [if_neg c1a, if_neg c2a, if_neg c3a]).symm d_M_has_24
      · have c3a : u k.toNatClampNeg = true := b2i_ne0.mp c3
        refine lv_iconst (v := 1) hx hb d_M_has_19 (by decide) ?_
        refine lv_goto (tgt := 24) hx hb d_M_has_20 (by decide) ?_
        exact rretZ S hr hlk (v := true) (show f_M_has u X Y k = true from by unfold f_M_has; rw [if_neg c1a, if_neg c2a, if_pos c3a]).symm d_M_has_24
def f_M_hasArrow (u : Nat → Bool) (X : Nat → Int32) (Y : Nat → Int32) (a : Nat) : Bool := u (a / 2)
theorem i_M_hasArrow : inV y_M_hasArrow b_M_hasArrow 2 (some .boolean) 1 := ⟨kM_y_M_hasArrow, kV_y_M_hasArrow, kI_M, kY_y_M_hasArrow, by decide +kernel⟩
set_option maxHeartbeats 4000000 in
set_option maxRecDepth 100000 in
theorem c_M_hasArrow (l : Launch) (D : va_G) (hm hu hxs hys : Nat) (cZ cI : ClassId) (u : Nat → Bool) (X Y : Nat → Int32) (a : Nat) (ha : a < 40)  : PM l y_M_hasArrow b_M_hasArrow 2 (some .boolean) 0 0 D (mapW hm hu hxs hys cZ cI u X Y) [(cZ, .boolean), (cI, .int)] [.ref hm, .int (nI (a))] (b2i (f_M_hasArrow u X Y a)) := by
  refine pMet rfl (fun p e s m below meth c S hr hlk hP hK ls hl => ?_) (Nat.le_of_ble_eq_true rfl)
  have hx := S.1
  have hb := S.2.1
  have hl : lv_has ls 2 [(0, .ref hm), (1, .int (nI (a)))] := hl
  refine lv_aload_n hx hb d_M_hasArrow_0 rfl (lv_at hl 0 rfl) ?_
  refine rget S hK hP 0 rfl rfl in_M 0 (by decide) kF_M_9 rfl d_M_hasArrow_1 ?_
  refine lv_iload_n hx hb d_M_hasArrow_4 rfl (lv_at hl 1 rfl) ?_
  refine lv_iconst (v := 2) hx hb d_M_hasArrow_5 (by decide) ?_
  refine lv_idiv hx hb d_M_hasArrow_6 (by decide) ?_
  refine rtop (y := nI (a / 2)) (pk_div (a := a) (d := 2) (by omega) (by decide) (by decide)) ?_
  refine rzald (j := a / 2) S hK hP 1 0 rfl rfl (by omega) (by first | decide | omega) d_M_hasArrow_7 ?_
  exact rretZ S hr hlk (v := u (a / 2)) (show f_M_hasArrow u X Y a = (u (a / 2)) from rfl).symm d_M_hasArrow_8
def f_M_tailX (u : Nat → Bool) (X : Nat → Int32) (Y : Nat → Int32) (a : Nat) : Int32 := X a
theorem i_M_tailX : inV y_M_tailX b_M_tailX 2 (some .int) 1 := ⟨kM_y_M_tailX, kV_y_M_tailX, kI_M, kY_y_M_tailX, by decide +kernel⟩
set_option maxHeartbeats 4000000 in
set_option maxRecDepth 100000 in
theorem c_M_tailX (l : Launch) (D : va_G) (hm hu hxs hys : Nat) (cZ cI : ClassId) (u : Nat → Bool) (X Y : Nat → Int32) (a : Nat) (ha : a < 40)  : PM l y_M_tailX b_M_tailX 2 (some .int) 0 0 D (mapW hm hu hxs hys cZ cI u X Y) [(cZ, .boolean), (cI, .int)] [.ref hm, .int (nI (a))] (f_M_tailX u X Y a) := by
  refine pMet rfl (fun p e s m below meth c S hr hlk hP hK ls hl => ?_) (Nat.le_of_ble_eq_true rfl)
  have hx := S.1
  have hb := S.2.1
  have hl : lv_has ls 2 [(0, .ref hm), (1, .int (nI (a)))] := hl
  refine lv_aload_n hx hb d_M_tailX_0 rfl (lv_at hl 0 rfl) ?_
  refine rget S hK hP 0 rfl rfl in_M 1 (by decide) kF_M_15 rfl d_M_tailX_1 ?_
  refine lv_iload_n hx hb d_M_tailX_4 rfl (lv_at hl 1 rfl) ?_
  refine riald (j := a) S hK hP 2 1 rfl rfl (by omega) (by first | decide | omega) d_M_tailX_5 ?_
  exact rret S hr hlk (v := X a) (show f_M_tailX u X Y a = (X a) from rfl).symm d_M_tailX_6
def f_M_tailY (u : Nat → Bool) (X : Nat → Int32) (Y : Nat → Int32) (a : Nat) : Int32 := Y a
theorem i_M_tailY : inV y_M_tailY b_M_tailY 2 (some .int) 1 := ⟨kM_y_M_tailY, kV_y_M_tailY, kI_M, kY_y_M_tailY, by decide +kernel⟩
set_option maxHeartbeats 4000000 in
set_option maxRecDepth 100000 in
theorem c_M_tailY (l : Launch) (D : va_G) (hm hu hxs hys : Nat) (cZ cI : ClassId) (u : Nat → Bool) (X Y : Nat → Int32) (a : Nat) (ha : a < 40)  : PM l y_M_tailY b_M_tailY 2 (some .int) 0 0 D (mapW hm hu hxs hys cZ cI u X Y) [(cZ, .boolean), (cI, .int)] [.ref hm, .int (nI (a))] (f_M_tailY u X Y a) := by
  refine pMet rfl (fun p e s m below meth c S hr hlk hP hK ls hl => ?_) (Nat.le_of_ble_eq_true rfl)
  have hx := S.1
  have hb := S.2.1
  have hl : lv_has ls 2 [(0, .ref hm), (1, .int (nI (a)))] := hl
  refine lv_aload_n hx hb d_M_tailY_0 rfl (lv_at hl 0 rfl) ?_
  refine rget S hK hP 0 rfl rfl in_M 2 (by decide) kF_M_19 rfl d_M_tailY_1 ?_
  refine lv_iload_n hx hb d_M_tailY_4 rfl (lv_at hl 1 rfl) ?_
  refine riald (j := a) S hK hP 3 1 rfl rfl (by omega) (by first | decide | omega) d_M_tailY_5 ?_
  exact rret S hr hlk (v := Y a) (show f_M_tailY u X Y a = (Y a) from rfl).symm d_M_tailY_6
def f_M_stepX (u : Nat → Bool) (X : Nat → Int32) (Y : Nat → Int32) (a : Nat) : Int32 := (X (tw a) - X a)
theorem i_M_stepX : inV y_M_stepX b_M_stepX 2 (some .int) 1 := ⟨kM_y_M_stepX, kV_y_M_stepX, kI_M, kY_y_M_stepX, by decide +kernel⟩
set_option maxHeartbeats 4000000 in
set_option maxRecDepth 100000 in
theorem c_M_stepX (l : Launch) (D : va_G) (hm hu hxs hys : Nat) (cZ cI : ClassId) (u : Nat → Bool) (X Y : Nat → Int32) (a : Nat) (ha : a < 40)  : PM l y_M_stepX b_M_stepX 2 (some .int) 0 0 D (mapW hm hu hxs hys cZ cI u X Y) [(cZ, .boolean), (cI, .int)] [.ref hm, .int (nI (a))] (f_M_stepX u X Y a) := by
  refine pMet rfl (fun p e s m below meth c S hr hlk hP hK ls hl => ?_) (Nat.le_of_ble_eq_true rfl)
  have hx := S.1
  have hb := S.2.1
  have hl : lv_has ls 2 [(0, .ref hm), (1, .int (nI (a)))] := hl
  refine lv_aload_n hx hb d_M_stepX_0 rfl (lv_at hl 0 rfl) ?_
  refine rget S hK hP 0 rfl rfl in_M 1 (by decide) kF_M_15 rfl d_M_stepX_1 ?_
  refine lv_iload_n hx hb d_M_stepX_4 rfl (lv_at hl 1 rfl) ?_
  refine lv_iconst (v := 1) hx hb d_M_stepX_5 (by decide) ?_
  refine lv_ixor hx hb d_M_stepX_6 ?_
  refine rtop (y := nI (tw a)) (nI_xor1 (a) (by omega)) ?_
  refine riald (j := tw a) S hK hP 2 1 rfl rfl (tw_lt (by omega)) (by first | decide | omega) d_M_stepX_7 ?_
  refine lv_aload_n hx hb d_M_stepX_8 rfl (lv_at hl 0 rfl) ?_
  refine rget S hK hP 0 rfl rfl in_M 1 (by decide) kF_M_15 rfl d_M_stepX_9 ?_
  refine lv_iload_n hx hb d_M_stepX_12 rfl (lv_at hl 1 rfl) ?_
  refine riald (j := a) S hK hP 2 1 rfl rfl (by omega) (by first | decide | omega) d_M_stepX_13 ?_
  refine lv_isub hx hb d_M_stepX_14 ?_
  exact rret S hr hlk (v := (X (tw a) - X a)) (show f_M_stepX u X Y a = (X (tw a) - X a) from rfl).symm d_M_stepX_15
def f_M_stepY (u : Nat → Bool) (X : Nat → Int32) (Y : Nat → Int32) (a : Nat) : Int32 := (Y (tw a) - Y a)
theorem i_M_stepY : inV y_M_stepY b_M_stepY 2 (some .int) 1 := ⟨kM_y_M_stepY, kV_y_M_stepY, kI_M, kY_y_M_stepY, by decide +kernel⟩
set_option maxHeartbeats 4000000 in
set_option maxRecDepth 100000 in
theorem c_M_stepY (l : Launch) (D : va_G) (hm hu hxs hys : Nat) (cZ cI : ClassId) (u : Nat → Bool) (X Y : Nat → Int32) (a : Nat) (ha : a < 40)  : PM l y_M_stepY b_M_stepY 2 (some .int) 0 0 D (mapW hm hu hxs hys cZ cI u X Y) [(cZ, .boolean), (cI, .int)] [.ref hm, .int (nI (a))] (f_M_stepY u X Y a) := by
  refine pMet rfl (fun p e s m below meth c S hr hlk hP hK ls hl => ?_) (Nat.le_of_ble_eq_true rfl)
  have hx := S.1
  have hb := S.2.1
  have hl : lv_has ls 2 [(0, .ref hm), (1, .int (nI (a)))] := hl
  refine lv_aload_n hx hb d_M_stepY_0 rfl (lv_at hl 0 rfl) ?_
  refine rget S hK hP 0 rfl rfl in_M 2 (by decide) kF_M_19 rfl d_M_stepY_1 ?_
  refine lv_iload_n hx hb d_M_stepY_4 rfl (lv_at hl 1 rfl) ?_
  refine lv_iconst (v := 1) hx hb d_M_stepY_5 (by decide) ?_
  refine lv_ixor hx hb d_M_stepY_6 ?_
  refine rtop (y := nI (tw a)) (nI_xor1 (a) (by omega)) ?_
  refine riald (j := tw a) S hK hP 3 1 rfl rfl (tw_lt (by omega)) (by first | decide | omega) d_M_stepY_7 ?_
  refine lv_aload_n hx hb d_M_stepY_8 rfl (lv_at hl 0 rfl) ?_
  refine rget S hK hP 0 rfl rfl in_M 2 (by decide) kF_M_19 rfl d_M_stepY_9 ?_
  refine lv_iload_n hx hb d_M_stepY_12 rfl (lv_at hl 1 rfl) ?_
  refine riald (j := a) S hK hP 3 1 rfl rfl (by omega) (by first | decide | omega) d_M_stepY_13 ?_
  refine lv_isub hx hb d_M_stepY_14 ?_
  exact rret S hr hlk (v := (Y (tw a) - Y a)) (show f_M_stepY u X Y a = (Y (tw a) - Y a) from rfl).symm d_M_stepY_15
def fx_M_leastUnusedNumber (u : Nat → Bool) (X : Nat → Int32) (Y : Nat → Int32) (k : Nat)  : Int32 := (-1)
def fb_M_leastUnusedNumber (u : Nat → Bool) (X : Nat → Int32) (Y : Nat → Int32) (rec : Nat → Int32) (k : Nat)  : Int32 := if u k = true then (rec (k + 1)) else (nI (k))
def fl_M_leastUnusedNumber (u : Nat → Bool) (X : Nat → Int32) (Y : Nat → Int32) : Nat → Nat → Int32
  | 0, k => fx_M_leastUnusedNumber u X Y k
  | n + 1, k => fb_M_leastUnusedNumber u X Y (fl_M_leastUnusedNumber u X Y n) k
def f_M_leastUnusedNumber (u : Nat → Bool) (X : Nat → Int32) (Y : Nat → Int32) : Int32 := fl_M_leastUnusedNumber u X Y 20 0
theorem i_M_leastUnusedNumber : inV y_M_leastUnusedNumber b_M_leastUnusedNumber 2 (some .int) 0 := ⟨kM_y_M_leastUnusedNumber, kV_y_M_leastUnusedNumber, kI_M, kY_y_M_leastUnusedNumber, by decide +kernel⟩
set_option maxHeartbeats 4000000 in
set_option maxRecDepth 100000 in
theorem c_M_leastUnusedNumber (l : Launch) (D : va_G) (hm hu hxs hys : Nat) (cZ cI : ClassId) (u : Nat → Bool) (X Y : Nat → Int32)    : PM l y_M_leastUnusedNumber b_M_leastUnusedNumber 2 (some .int) 0 0 D (mapW hm hu hxs hys cZ cI u X Y) [(cZ, .boolean), (cI, .int)] [.ref hm] (f_M_leastUnusedNumber u X Y) := by
  refine pMet rfl (fun p e s m below meth c S hr hlk hP hK ls hl => ?_) (Nat.le_of_ble_eq_true rfl)
  have hx := S.1
  have hb := S.2.1
  have hl : lv_has ls 2 [(0, .ref hm)] := hl
  have key : ∀ (n : Nat) (k : Nat)  (hk : k + n = 20)  (ls : Array Slot) (hl : lv_has ls 2 [(0, .ref hm), (1, .int (nI (k)))]) (hf : f_M_leastUnusedNumber u X Y = fl_M_leastUnusedNumber u X Y n k ), W p l e { frames := 0, cells := 0, slots := 0, locals := 0 } s m [.ref hm].toArray below meth c s.heap [] 0 0 (MQ below (pQ ((f_M_leastUnusedNumber u X Y))) [.ref hm].toArray s 0 0 (fun _ => False)) (F0 m 2 ls []) := by
    intro n
    induction n with
    | zero =>
      intro k  hk  ls hl hf
      refine lv_iload_n hx hb d_M_leastUnusedNumber_2 rfl (lv_at hl 1 rfl) ?_
      refine lv_bipush (v := 20) hx hb d_M_leastUnusedNumber_3 (by decide) ?_
      refine lv_icmp_ge (tgt := 25) hx hb d_M_leastUnusedNumber_5 (by decide) (fun c1 => ?_) (fun c1 => ?_)
      · have c1a : 20 ≤ k := (nI_leI (a := 20) (b := k) (by decide) (by omega)).mp c1
        refine lv_iconst (v := (-1)) hx hb d_M_leastUnusedNumber_25 (by decide) ?_
        exact rret S hr hlk (v := (-1)) (hf.trans (show fx_M_leastUnusedNumber u X Y k = (-1) from rfl)).symm d_M_leastUnusedNumber_26
      · have c1a : ¬ (20 ≤ k) := fun h => c1 ((nI_leI (a := 20) (b := k) (by decide) (by omega)).mpr h)
        omega
    | succ n ih =>
      intro k  hk  ls hl hf
      refine lv_iload_n hx hb d_M_leastUnusedNumber_2 rfl (lv_at hl 1 rfl) ?_
      refine lv_bipush (v := 20) hx hb d_M_leastUnusedNumber_3 (by decide) ?_
      refine lv_icmp_ge (tgt := 25) hx hb d_M_leastUnusedNumber_5 (by decide) (fun c2 => ?_) (fun c2 => ?_)
      · have c2a : 20 ≤ k := (nI_leI (a := 20) (b := k) (by decide) (by omega)).mp c2
        omega
      · have c2a : ¬ (20 ≤ k) := fun h => c2 ((nI_leI (a := 20) (b := k) (by decide) (by omega)).mpr h)
        refine lv_aload_n hx hb d_M_leastUnusedNumber_8 rfl (lv_at hl 0 rfl) ?_
        refine rget S hK hP 0 rfl rfl in_M 0 (by decide) kF_M_9 rfl d_M_leastUnusedNumber_9 ?_
        refine lv_iload_n hx hb d_M_leastUnusedNumber_12 rfl (lv_at hl 1 rfl) ?_
        refine rzald (j := k) S hK hP 1 0 rfl rfl (by omega) (by first | decide | omega) d_M_leastUnusedNumber_13 ?_
        refine lv_if_ne (tgt := 19) hx hb d_M_leastUnusedNumber_14 (by decide) (fun c3 => ?_) (fun c3 => ?_)
        · have c3a : u k = true := b2i_ne0.mp c3
          refine lv_iinc (v := nI (k + 1)) (lv' := [(1, .int (nI (k + 1))), (0, .ref hm)]) hx hb d_M_leastUnusedNumber_19 hl (k := 1) rfl (nI_1 (k)) (by decide) rfl (fun ls hl => ?_)
          refine lv_goto (tgt := 2) hx hb d_M_leastUnusedNumber_22 (by decide) ?_
          exact ih (k + 1) (by omega)  ls (lv_sub hl [1, 0] rfl) (hf.trans (show fb_M_leastUnusedNumber u X Y (fl_M_leastUnusedNumber u X Y n) k = (fl_M_leastUnusedNumber u X Y n (k + 1)) from by unfold fb_M_leastUnusedNumber; rw [if_pos c3a]))
        · have c3a : ¬ (u k = true) := b2n (b2i_eq0.mp c3)
          refine lv_iload_n hx hb d_M_leastUnusedNumber_17 rfl (lv_at hl 1 rfl) ?_
          exact rret S hr hlk (v := nI (k)) (hf.trans (show fb_M_leastUnusedNumber u X Y (fl_M_leastUnusedNumber u X Y n) k = (nI (k)) from by unfold fb_M_leastUnusedNumber; rw [if_neg c3a])).symm d_M_leastUnusedNumber_18
  refine lv_iconst (v := 0) hx hb d_M_leastUnusedNumber_0 (by decide) ?_
  refine lv_istore_n (lv' := [(1, .int 0), (0, .ref hm)]) hx hb d_M_leastUnusedNumber_1 rfl hl (by decide) rfl (fun ls hl => ?_)
  exact key 20 0 (by omega)  ls (lv_sub hl [1, 0] rfl) (show f_M_leastUnusedNumber u X Y = (fl_M_leastUnusedNumber u X Y 20 0) from rfl)
def f_M_cross (px : Int32) (py : Int32) (qx : Int32) (qy : Int32) : Int32 := ((px * qy) - (py * qx))
theorem i_M_cross : inS y_M_cross b_M_cross 4 (some .int) 4 := ⟨kS_y_M_cross, kI_M, kY_y_M_cross, by decide +kernel⟩
set_option maxHeartbeats 4000000 in
set_option maxRecDepth 100000 in
theorem c_M_cross (l : Launch) (D : va_G)  (px : Int32) (py : Int32) (qx : Int32) (qy : Int32)   : PM l y_M_cross b_M_cross 4 (some .int) 0 0 D ([]) [] [.int px, .int py, .int qx, .int qy] (f_M_cross px py qx qy) := by
  refine pMet rfl (fun p e s m below meth c S hr hlk hP hK ls hl => ?_) (Nat.le_of_ble_eq_true rfl)
  have hx := S.1
  have hb := S.2.1
  have hl : lv_has ls 4 [(0, .int px), (1, .int py), (2, .int qx), (3, .int qy)] := hl
  refine lv_iload_n hx hb d_M_cross_0 rfl (lv_at hl 0 rfl) ?_
  refine lv_iload_n hx hb d_M_cross_1 rfl (lv_at hl 3 rfl) ?_
  refine lv_imul hx hb d_M_cross_2 ?_
  refine lv_iload_n hx hb d_M_cross_3 rfl (lv_at hl 1 rfl) ?_
  refine lv_iload_n hx hb d_M_cross_4 rfl (lv_at hl 2 rfl) ?_
  refine lv_imul hx hb d_M_cross_5 ?_
  refine lv_isub hx hb d_M_cross_6 ?_
  exact rret S hr hlk (v := ((px * qy) - (py * qx))) (show f_M_cross px py qx qy = ((px * qy) - (py * qx)) from rfl).symm d_M_cross_7
def f_M_turnRank (dx : Int32) (dy : Int32) (px : Int32) (py : Int32) : Int32 := if ((dx * py) - (dy * px)) = 0 then (if 0 ≤ ((dx * px) + (dy * py)) then 4 else 2) else (if ((dx * py) - (dy * px)) ≤ 0 then 3 else 1)
theorem i_M_turnRank : inS y_M_turnRank b_M_turnRank 5 (some .int) 4 := ⟨kS_y_M_turnRank, kI_M, kY_y_M_turnRank, by decide +kernel⟩
set_option maxHeartbeats 4000000 in
set_option maxRecDepth 100000 in
theorem c_M_turnRank (l : Launch) (D : va_G)  (dx : Int32) (dy : Int32) (px : Int32) (py : Int32)   : PM l y_M_turnRank b_M_turnRank 5 (some .int) 0 0 D ([]) [] [.int dx, .int dy, .int px, .int py] (f_M_turnRank dx dy px py) := by
  refine pMet rfl (fun p e s m below meth c S hr hlk hP hK ls hl => ?_) (Nat.le_of_ble_eq_true rfl)
  have hx := S.1
  have hb := S.2.1
  have hl : lv_has ls 5 [(0, .int dx), (1, .int dy), (2, .int px), (3, .int py)] := hl
  refine lv_iload_n hx hb d_M_turnRank_0 rfl (lv_at hl 0 rfl) ?_
  refine lv_iload_n hx hb d_M_turnRank_1 rfl (lv_at hl 3 rfl) ?_
  refine lv_imul hx hb d_M_turnRank_2 ?_
  refine lv_iload_n hx hb d_M_turnRank_3 rfl (lv_at hl 1 rfl) ?_
  refine lv_iload_n hx hb d_M_turnRank_4 rfl (lv_at hl 2 rfl) ?_
  refine lv_imul hx hb d_M_turnRank_5 ?_
  refine lv_isub hx hb d_M_turnRank_6 ?_
  refine lv_istore (lv' := [(4, .int (((dx * py) - (dy * px)))), (0, .int dx), (1, .int dy), (2, .int px), (3, .int py)]) hx hb d_M_turnRank_7 hl (by decide) rfl (fun ls hl => ?_)
  refine lv_iload hx hb d_M_turnRank_9 (lv_at hl 0 rfl) ?_
  refine lv_if_eq (tgt := 25) hx hb d_M_turnRank_11 (by decide) (fun c1 => ?_) (fun c1 => ?_)
  · have c1a : ((dx * py) - (dy * px)) = 0 := c1
    refine lv_iload_n hx hb d_M_turnRank_25 rfl (lv_at hl 1 rfl) ?_
    refine lv_iload_n hx hb d_M_turnRank_26 rfl (lv_at hl 3 rfl) ?_
    refine lv_imul hx hb d_M_turnRank_27 ?_
    refine lv_iload_n hx hb d_M_turnRank_28 rfl (lv_at hl 2 rfl) ?_
    refine lv_iload_n hx hb d_M_turnRank_29 rfl (lv_at hl 4 rfl) ?_
    refine lv_imul hx hb d_M_turnRank_30 ?_
    refine lv_iadd hx hb d_M_turnRank_31 ?_
    refine lv_if_ge (tgt := 39) hx hb d_M_turnRank_32 (by decide) (fun c2 => ?_) (fun c2 => ?_)
    · have c2a : 0 ≤ ((dx * px) + (dy * py)) := c2
      refine lv_iconst (v := 4) hx hb d_M_turnRank_39 (by decide) ?_
      exact rret S hr hlk (v := 4) (show f_M_turnRank dx dy px py = 4 from by unfold f_M_turnRank; rw [if_pos c1a, if_pos c2a]).symm d_M_turnRank_40
    · have c2a : ¬ (0 ≤ ((dx * px) + (dy * py))) := c2
      refine lv_iconst (v := 2) hx hb d_M_turnRank_35 (by decide) ?_
      refine lv_goto (tgt := 40) hx hb d_M_turnRank_36 (by decide) ?_
      exact rret S hr hlk (v := 2) (show f_M_turnRank dx dy px py = 2 from by unfold f_M_turnRank; rw [if_pos c1a, if_neg c2a]).symm d_M_turnRank_40
  · have c1a : ¬ (((dx * py) - (dy * px)) = 0) := c1
    refine lv_iload hx hb d_M_turnRank_14 (lv_at hl 0 rfl) ?_
    refine lv_if_le (tgt := 23) hx hb d_M_turnRank_16 (by decide) (fun c3 => ?_) (fun c3 => ?_)
    · have c3a : ((dx * py) - (dy * px)) ≤ 0 := c3
      refine lv_iconst (v := 3) hx hb d_M_turnRank_23 (by decide) ?_
      exact rret S hr hlk (v := 3) (show f_M_turnRank dx dy px py = 3 from by unfold f_M_turnRank; rw [if_neg c1a, if_pos c3a]).symm d_M_turnRank_24
    · have c3a : ¬ (((dx * py) - (dy * px)) ≤ 0) := c3
      refine lv_iconst (v := 1) hx hb d_M_turnRank_19 (by decide) ?_
      refine lv_goto (tgt := 24) hx hb d_M_turnRank_20 (by decide) ?_
      exact rret S hr hlk (v := 1) (show f_M_turnRank dx dy px py = 1 from by unfold f_M_turnRank; rw [if_neg c1a, if_neg c3a]).symm d_M_turnRank_24
def f_M_sameTail (u : Nat → Bool) (X : Nat → Int32) (Y : Nat → Int32) (a : Nat) (b : Nat) : Bool := if X a = X b then (if Y a = Y b then true else false) else false
theorem i_M_sameTail : inV y_M_sameTail b_M_sameTail 3 (some .boolean) 2 := ⟨kM_y_M_sameTail, kV_y_M_sameTail, kI_M, kY_y_M_sameTail, by decide +kernel⟩
set_option maxHeartbeats 4000000 in
set_option maxRecDepth 100000 in
theorem c_M_sameTail (l : Launch) (D : va_G) (hm hu hxs hys : Nat) (cZ cI : ClassId) (u : Nat → Bool) (X Y : Nat → Int32) (a : Nat) (b : Nat) (ha : a < 40) (hb : b < 40)  : PM l y_M_sameTail b_M_sameTail 3 (some .boolean) 0 0 D (mapW hm hu hxs hys cZ cI u X Y) [(cZ, .boolean), (cI, .int)] [.ref hm, .int (nI (a)), .int (nI (b))] (b2i (f_M_sameTail u X Y a b)) := by
  refine pMet rfl (fun p e s m below meth c S hr hlk hP hK ls hl => ?_) (Nat.le_of_ble_eq_true rfl)
  have hx := S.1
  have hb := S.2.1
  have hl : lv_has ls 3 [(0, .ref hm), (1, .int (nI (a))), (2, .int (nI (b)))] := hl
  refine lv_aload_n hx hb d_M_sameTail_0 rfl (lv_at hl 0 rfl) ?_
  refine rget S hK hP 0 rfl rfl in_M 1 (by decide) kF_M_15 rfl d_M_sameTail_1 ?_
  refine lv_iload_n hx hb d_M_sameTail_4 rfl (lv_at hl 1 rfl) ?_
  refine riald (j := a) S hK hP 2 1 rfl rfl (by omega) (by first | decide | omega) d_M_sameTail_5 ?_
  refine lv_aload_n hx hb d_M_sameTail_6 rfl (lv_at hl 0 rfl) ?_
  refine rget S hK hP 0 rfl rfl in_M 1 (by decide) kF_M_15 rfl d_M_sameTail_7 ?_
  refine lv_iload_n hx hb d_M_sameTail_10 rfl (lv_at hl 2 rfl) ?_
  refine riald (j := b) S hK hP 2 1 rfl rfl (by omega) (by first | decide | omega) d_M_sameTail_11 ?_
  refine lv_icmp_ne (tgt := 34) hx hb d_M_sameTail_12 (by decide) (fun c1 => ?_) (fun c1 => ?_)
  · have c1a : ¬ (X a = X b) := c1
    refine lv_iconst (v := 0) hx hb d_M_sameTail_34 (by decide) ?_
    exact rretZ S hr hlk (v := false) (show f_M_sameTail u X Y a b = false from by unfold f_M_sameTail; rw [if_neg c1a]).symm d_M_sameTail_35
  · have c1a : X a = X b := c1
    refine lv_aload_n hx hb d_M_sameTail_15 rfl (lv_at hl 0 rfl) ?_
    refine rget S hK hP 0 rfl rfl in_M 2 (by decide) kF_M_19 rfl d_M_sameTail_16 ?_
    refine lv_iload_n hx hb d_M_sameTail_19 rfl (lv_at hl 1 rfl) ?_
    refine riald (j := a) S hK hP 3 1 rfl rfl (by omega) (by first | decide | omega) d_M_sameTail_20 ?_
    refine lv_aload_n hx hb d_M_sameTail_21 rfl (lv_at hl 0 rfl) ?_
    refine rget S hK hP 0 rfl rfl in_M 2 (by decide) kF_M_19 rfl d_M_sameTail_22 ?_
    refine lv_iload_n hx hb d_M_sameTail_25 rfl (lv_at hl 2 rfl) ?_
    refine riald (j := b) S hK hP 3 1 rfl rfl (by omega) (by first | decide | omega) d_M_sameTail_26 ?_
    refine lv_icmp_ne (tgt := 34) hx hb d_M_sameTail_27 (by decide) (fun c2 => ?_) (fun c2 => ?_)
    · have c2a : ¬ (Y a = Y b) := c2
      refine lv_iconst (v := 0) hx hb d_M_sameTail_34 (by decide) ?_
      exact rretZ S hr hlk (v := false) (show f_M_sameTail u X Y a b = false from by unfold f_M_sameTail; rw [if_pos c1a, if_neg c2a]).symm d_M_sameTail_35
    · have c2a : Y a = Y b := c2
      refine lv_iconst (v := 1) hx hb d_M_sameTail_30 (by decide) ?_
      refine lv_goto (tgt := 35) hx hb d_M_sameTail_31 (by decide) ?_
      exact rretZ S hr hlk (v := true) (show f_M_sameTail u X Y a b = true from by unfold f_M_sameTail; rw [if_pos c1a, if_pos c2a]).symm d_M_sameTail_35
def f_M_leftness (u : Nat → Bool) (X : Nat → Int32) (Y : Nat → Int32) (k : Nat) (x : Int32) (y : Int32) : Int32 := (f_M_cross (f_M_stepX u X Y (2 * k)) (f_M_stepY u X Y (2 * k)) (x - X (2 * k)) (y - Y (2 * k)))
theorem i_M_leftness : inV y_M_leftness b_M_leftness 5 (some .int) 3 := ⟨kM_y_M_leftness, kV_y_M_leftness, kI_M, kY_y_M_leftness, by decide +kernel⟩
set_option maxHeartbeats 4000000 in
set_option maxRecDepth 100000 in
theorem c_M_leftness (l : Launch) (D : va_G) (hm hu hxs hys : Nat) (cZ cI : ClassId) (u : Nat → Bool) (X Y : Nat → Int32) (k : Nat) (x : Int32) (y : Int32) (hk : k < 20)  : PM l y_M_leftness b_M_leftness 5 (some .int) 1 23 D (mapW hm hu hxs hys cZ cI u X Y) [(cZ, .boolean), (cI, .int)] [.ref hm, .int (nI (k)), .int x, .int y] (f_M_leftness u X Y k x y) := by
  refine pMet rfl (fun p e s m below meth c S hr hlk hP hK ls hl => ?_) (Nat.le_of_ble_eq_true rfl)
  have hx := S.1
  have hb := S.2.1
  have hl : lv_has ls 5 [(0, .ref hm), (1, .int (nI (k))), (2, .int x), (3, .int y)] := hl
  refine lv_iconst (v := 2) hx hb d_M_leftness_0 (by decide) ?_
  refine lv_iload_n hx hb d_M_leftness_1 rfl (lv_at hl 1 rfl) ?_
  refine lv_imul hx hb d_M_leftness_2 ?_
  refine rtop (y := nI (2 * k)) (pk_mul (2) (k)) ?_
  refine lv_istore (lv' := [(4, .int (nI (2 * k))), (0, .ref hm), (1, .int (nI (k))), (2, .int x), (3, .int y)]) hx hb d_M_leftness_3 hl (by decide) rfl (fun ls hl => ?_)
  refine lv_aload_n hx hb d_M_leftness_5 rfl (lv_at hl 1 rfl) ?_
  refine lv_iload hx hb d_M_leftness_6 (lv_at hl 0 rfl) ?_
  refine rcallV (rest := []) (v := (f_M_stepX u X Y (2 * k))) S [.int (nI (2 * k))] hK hP [0, 1, 2, 3] rfl [0, 1] rfl (c_M_stepX l D hm hu hxs hys cZ cI u X Y (2 * k) (by omega)) i_M_stepX kL_M_46 ⟨Nat.le_of_ble_eq_true rfl, Nat.le_of_ble_eq_true rfl⟩ (by exact ⟨Nat.zero_le _, Nat.zero_le _⟩) (q0 := 0) (ci := 1) rfl rfl rfl hl.1 rfl (Nat.le_of_ble_eq_true rfl) d_M_leftness_8 ?_
  refine lv_aload_n hx hb d_M_leftness_11 rfl (lv_at hl 1 rfl) ?_
  refine lv_iload hx hb d_M_leftness_12 (lv_at hl 0 rfl) ?_
  refine rcallV (rest := [.int ((f_M_stepX u X Y (2 * k)))]) (v := (f_M_stepY u X Y (2 * k))) S [.int (nI (2 * k))] hK hP [0, 1, 2, 3] rfl [0, 1] rfl (c_M_stepY l D hm hu hxs hys cZ cI u X Y (2 * k) (by omega)) i_M_stepY kL_M_50 ⟨Nat.le_of_ble_eq_true rfl, Nat.le_of_ble_eq_true rfl⟩ (by exact ⟨Nat.zero_le _, Nat.zero_le _⟩) (q0 := 0) (ci := 1) rfl rfl rfl hl.1 rfl (Nat.le_of_ble_eq_true rfl) d_M_leftness_14 ?_
  refine lv_iload_n hx hb d_M_leftness_17 rfl (lv_at hl 3 rfl) ?_
  refine lv_aload_n hx hb d_M_leftness_18 rfl (lv_at hl 1 rfl) ?_
  refine rget S hK hP 0 rfl rfl in_M 1 (by decide) kF_M_15 rfl d_M_leftness_19 ?_
  refine lv_iload hx hb d_M_leftness_22 (lv_at hl 0 rfl) ?_
  refine riald (j := 2 * k) S hK hP 2 1 rfl rfl (by omega) (by first | decide | omega) d_M_leftness_24 ?_
  refine lv_isub hx hb d_M_leftness_25 ?_
  refine lv_iload_n hx hb d_M_leftness_26 rfl (lv_at hl 4 rfl) ?_
  refine lv_aload_n hx hb d_M_leftness_27 rfl (lv_at hl 1 rfl) ?_
  refine rget S hK hP 0 rfl rfl in_M 2 (by decide) kF_M_19 rfl d_M_leftness_28 ?_
  refine lv_iload hx hb d_M_leftness_31 (lv_at hl 0 rfl) ?_
  refine riald (j := 2 * k) S hK hP 3 1 rfl rfl (by omega) (by first | decide | omega) d_M_leftness_33 ?_
  refine lv_isub hx hb d_M_leftness_34 ?_
  refine rcallS (rest := []) (v := (f_M_cross (f_M_stepX u X Y (2 * k)) (f_M_stepY u X Y (2 * k)) (x - X (2 * k)) (y - Y (2 * k)))) S [.int ((f_M_stepX u X Y (2 * k))), .int ((f_M_stepY u X Y (2 * k))), .int ((x - X (2 * k))), .int ((y - Y (2 * k)))] hK hP [] rfl [] rfl (c_M_cross l D  (f_M_stepX u X Y (2 * k)) (f_M_stepY u X Y (2 * k)) (x - X (2 * k)) (y - Y (2 * k)) ) i_M_cross rfl kL_M_53 ⟨Nat.le_of_ble_eq_true rfl, Nat.le_of_ble_eq_true rfl⟩ (by exact ⟨Nat.zero_le _, Nat.zero_le _⟩) hl.1 rfl (Nat.le_of_ble_eq_true rfl) d_M_leftness_35 ?_
  exact rret S hr hlk (v := (f_M_cross (f_M_stepX u X Y (2 * k)) (f_M_stepY u X Y (2 * k)) (x - X (2 * k)) (y - Y (2 * k)))) (show f_M_leftness u X Y k x y = (f_M_cross (f_M_stepX u X Y (2 * k)) (f_M_stepY u X Y (2 * k)) (x - X (2 * k)) (y - Y (2 * k))) from rfl).symm d_M_leftness_38
def f_M_isInside (u : Nat → Bool) (X : Nat → Int32) (Y : Nat → Int32) (k : Nat) (x : Int32) (y : Int32) : Bool := if (f_M_leftness u X Y k x y) = 0 then (if 0 ≤ (((X (2 * k) - x) * (X ((2 * k) + 1) - x)) + ((Y (2 * k) - y) * (Y ((2 * k) + 1) - y))) then false else true) else false
theorem i_M_isInside : inV y_M_isInside b_M_isInside 6 (some .boolean) 3 := ⟨kM_y_M_isInside, kV_y_M_isInside, kI_M, kY_y_M_isInside, by decide +kernel⟩
set_option maxHeartbeats 4000000 in
set_option maxRecDepth 100000 in
theorem c_M_isInside (l : Launch) (D : va_G) (hm hu hxs hys : Nat) (cZ cI : ClassId) (u : Nat → Bool) (X Y : Nat → Int32) (k : Nat) (x : Int32) (y : Int32) (hk : k < 20)  : PM l y_M_isInside b_M_isInside 6 (some .boolean) 2 47 D (mapW hm hu hxs hys cZ cI u X Y) [(cZ, .boolean), (cI, .int)] [.ref hm, .int (nI (k)), .int x, .int y] (b2i (f_M_isInside u X Y k x y)) := by
  refine pMet rfl (fun p e s m below meth c S hr hlk hP hK ls hl => ?_) (Nat.le_of_ble_eq_true rfl)
  have hx := S.1
  have hb := S.2.1
  have hl : lv_has ls 6 [(0, .ref hm), (1, .int (nI (k))), (2, .int x), (3, .int y)] := hl
  refine lv_iconst (v := 2) hx hb d_M_isInside_0 (by decide) ?_
  refine lv_iload_n hx hb d_M_isInside_1 rfl (lv_at hl 1 rfl) ?_
  refine lv_imul hx hb d_M_isInside_2 ?_
  refine rtop (y := nI (2 * k)) (pk_mul (2) (k)) ?_
  refine lv_istore (lv' := [(4, .int (nI (2 * k))), (0, .ref hm), (1, .int (nI (k))), (2, .int x), (3, .int y)]) hx hb d_M_isInside_3 hl (by decide) rfl (fun ls hl => ?_)
  refine lv_iconst (v := 2) hx hb d_M_isInside_5 (by decide) ?_
  refine lv_iload_n hx hb d_M_isInside_6 rfl (lv_at hl 2 rfl) ?_
  refine lv_imul hx hb d_M_isInside_7 ?_
  refine rtop (y := nI (2 * k)) (pk_mul (2) (k)) ?_
  refine lv_iconst (v := 1) hx hb d_M_isInside_8 (by decide) ?_
  refine lv_iadd hx hb d_M_isInside_9 ?_
  refine rtop (y := nI ((2 * k) + 1)) (nI_add (2 * k) (1)) ?_
  refine lv_istore (lv' := [(5, .int (nI ((2 * k) + 1))), (4, .int (nI (2 * k))), (0, .ref hm), (1, .int (nI (k))), (2, .int x), (3, .int y)]) hx hb d_M_isInside_10 hl (by decide) rfl (fun ls hl => ?_)
  refine lv_aload_n hx hb d_M_isInside_12 rfl (lv_at hl 2 rfl) ?_
  refine lv_iload_n hx hb d_M_isInside_13 rfl (lv_at hl 3 rfl) ?_
  refine lv_iload_n hx hb d_M_isInside_14 rfl (lv_at hl 4 rfl) ?_
  refine lv_iload_n hx hb d_M_isInside_15 rfl (lv_at hl 5 rfl) ?_
  refine rcallV (rest := []) (v := (f_M_leftness u X Y k x y)) S [.int (nI (k)), .int x, .int y] hK hP [0, 1, 2, 3] rfl [0, 1] rfl (c_M_leftness l D hm hu hxs hys cZ cI u X Y k x y (by omega)) i_M_leftness kL_M_42 ⟨Nat.le_of_ble_eq_true rfl, Nat.le_of_ble_eq_true rfl⟩ (by exact ⟨Nat.zero_le _, Nat.zero_le _⟩) (q0 := 0) (ci := 1) rfl rfl rfl hl.1 rfl (Nat.le_of_ble_eq_true rfl) d_M_isInside_16 ?_
  refine lv_if_ne (tgt := 68) hx hb d_M_isInside_19 (by decide) (fun c1 => ?_) (fun c1 => ?_)
  · have c1a : ¬ ((f_M_leftness u X Y k x y) = 0) := c1
    refine lv_iconst (v := 0) hx hb d_M_isInside_68 (by decide) ?_
    exact rretZ S hr hlk (v := false) (show f_M_isInside u X Y k x y = false from by unfold f_M_isInside; rw [if_neg c1a]).symm d_M_isInside_69
  · have c1a : (f_M_leftness u X Y k x y) = 0 := c1
    refine lv_aload_n hx hb d_M_isInside_22 rfl (lv_at hl 2 rfl) ?_
    refine rget S hK hP 0 rfl rfl in_M 1 (by decide) kF_M_15 rfl d_M_isInside_23 ?_
    refine lv_iload hx hb d_M_isInside_26 (lv_at hl 1 rfl) ?_
    refine riald (j := 2 * k) S hK hP 2 1 rfl rfl (by omega) (by first | decide | omega) d_M_isInside_28 ?_
    refine lv_iload_n hx hb d_M_isInside_29 rfl (lv_at hl 4 rfl) ?_
    refine lv_isub hx hb d_M_isInside_30 ?_
    refine lv_aload_n hx hb d_M_isInside_31 rfl (lv_at hl 2 rfl) ?_
    refine rget S hK hP 0 rfl rfl in_M 1 (by decide) kF_M_15 rfl d_M_isInside_32 ?_
    refine lv_iload hx hb d_M_isInside_35 (lv_at hl 0 rfl) ?_
    refine riald (j := (2 * k) + 1) S hK hP 2 1 rfl rfl (by omega) (by first | decide | omega) d_M_isInside_37 ?_
    refine lv_iload_n hx hb d_M_isInside_38 rfl (lv_at hl 4 rfl) ?_
    refine lv_isub hx hb d_M_isInside_39 ?_
    refine lv_imul hx hb d_M_isInside_40 ?_
    refine lv_aload_n hx hb d_M_isInside_41 rfl (lv_at hl 2 rfl) ?_
    refine rget S hK hP 0 rfl rfl in_M 2 (by decide) kF_M_19 rfl d_M_isInside_42 ?_
    refine lv_iload hx hb d_M_isInside_45 (lv_at hl 1 rfl) ?_
    refine riald (j := 2 * k) S hK hP 3 1 rfl rfl (by omega) (by first | decide | omega) d_M_isInside_47 ?_
    refine lv_iload_n hx hb d_M_isInside_48 rfl (lv_at hl 5 rfl) ?_
    refine lv_isub hx hb d_M_isInside_49 ?_
    refine lv_aload_n hx hb d_M_isInside_50 rfl (lv_at hl 2 rfl) ?_
    refine rget S hK hP 0 rfl rfl in_M 2 (by decide) kF_M_19 rfl d_M_isInside_51 ?_
    refine lv_iload hx hb d_M_isInside_54 (lv_at hl 0 rfl) ?_
    refine riald (j := (2 * k) + 1) S hK hP 3 1 rfl rfl (by omega) (by first | decide | omega) d_M_isInside_56 ?_
    refine lv_iload_n hx hb d_M_isInside_57 rfl (lv_at hl 5 rfl) ?_
    refine lv_isub hx hb d_M_isInside_58 ?_
    refine lv_imul hx hb d_M_isInside_59 ?_
    refine lv_iadd hx hb d_M_isInside_60 ?_
    refine lv_if_ge (tgt := 68) hx hb d_M_isInside_61 (by decide) (fun c2 => ?_) (fun c2 => ?_)
    · have c2a : 0 ≤ (((X (2 * k) - x) * (X ((2 * k) + 1) - x)) + ((Y (2 * k) - y) * (Y ((2 * k) + 1) - y))) := c2
      refine lv_iconst (v := 0) hx hb d_M_isInside_68 (by decide) ?_
      exact rretZ S hr hlk (v := false) (show f_M_isInside u X Y k x y = false from by unfold f_M_isInside; rw [if_pos c1a, if_pos c2a]).symm d_M_isInside_69
    · have c2a : ¬ (0 ≤ (((X (2 * k) - x) * (X ((2 * k) + 1) - x)) + ((Y (2 * k) - y) * (Y ((2 * k) + 1) - y)))) := c2
      refine lv_iconst (v := 1) hx hb d_M_isInside_64 (by decide) ?_
      refine lv_goto (tgt := 69) hx hb d_M_isInside_65 (by decide) ?_
      exact rretZ S hr hlk (v := true) (show f_M_isInside u X Y k x y = true from by unfold f_M_isInside; rw [if_pos c1a, if_neg c2a]).symm d_M_isInside_69
end
section
def f_M_partsTheEndsOf (u : Nat → Bool) (X : Nat → Int32) (Y : Nat → Int32) (k : Nat) (j : Nat) : Bool := if 0 ≤ (f_M_leftness u X Y k (X (2 * j)) (Y (2 * j))) then (if (f_M_leftness u X Y k (X (2 * j)) (Y (2 * j))) ≤ 0 then false else (if 0 ≤ (f_M_leftness u X Y k (X ((2 * j) + 1)) (Y ((2 * j) + 1))) then false else true)) else (if 0 < (f_M_leftness u X Y k (X ((2 * j) + 1)) (Y ((2 * j) + 1))) then true else (if (f_M_leftness u X Y k (X (2 * j)) (Y (2 * j))) ≤ 0 then false else (if 0 ≤ (f_M_leftness u X Y k (X ((2 * j) + 1)) (Y ((2 * j) + 1))) then false else true)))
theorem i_M_partsTheEndsOf : inV y_M_partsTheEndsOf b_M_partsTheEndsOf 5 (some .boolean) 2 := ⟨kM_y_M_partsTheEndsOf, kV_y_M_partsTheEndsOf, kI_M, kY_y_M_partsTheEndsOf, by decide +kernel⟩
set_option maxHeartbeats 4000000 in
set_option maxRecDepth 100000 in
theorem c_M_partsTheEndsOf (l : Launch) (D : va_G) (hm hu hxs hys : Nat) (cZ cI : ClassId) (u : Nat → Bool) (X Y : Nat → Int32) (k : Nat) (j : Nat) (hk : k < 20) (hj : j < 20)  : PM l y_M_partsTheEndsOf b_M_partsTheEndsOf 5 (some .boolean) 2 47 D (mapW hm hu hxs hys cZ cI u X Y) [(cZ, .boolean), (cI, .int)] [.ref hm, .int (nI (k)), .int (nI (j))] (b2i (f_M_partsTheEndsOf u X Y k j)) := by
  refine pMet rfl (fun p e s m below meth c S hr hlk hP hK ls hl => ?_) (Nat.le_of_ble_eq_true rfl)
  have hx := S.1
  have hb := S.2.1
  have hl : lv_has ls 5 [(0, .ref hm), (1, .int (nI (k))), (2, .int (nI (j)))] := hl
  refine lv_aload_n hx hb d_M_partsTheEndsOf_0 rfl (lv_at hl 0 rfl) ?_
  refine lv_iload_n hx hb d_M_partsTheEndsOf_1 rfl (lv_at hl 1 rfl) ?_
  refine lv_aload_n hx hb d_M_partsTheEndsOf_2 rfl (lv_at hl 0 rfl) ?_
  refine rget S hK hP 0 rfl rfl in_M 1 (by decide) kF_M_15 rfl d_M_partsTheEndsOf_3 ?_
  refine lv_iconst (v := 2) hx hb d_M_partsTheEndsOf_6 (by decide) ?_
  refine lv_iload_n hx hb d_M_partsTheEndsOf_7 rfl (lv_at hl 2 rfl) ?_
  refine lv_imul hx hb d_M_partsTheEndsOf_8 ?_
  refine rtop (y := nI (2 * j)) (pk_mul (2) (j)) ?_
  refine riald (j := 2 * j) S hK hP 2 1 rfl rfl (by omega) (by first | decide | omega) d_M_partsTheEndsOf_9 ?_
  refine lv_aload_n hx hb d_M_partsTheEndsOf_10 rfl (lv_at hl 0 rfl) ?_
  refine rget S hK hP 0 rfl rfl in_M 2 (by decide) kF_M_19 rfl d_M_partsTheEndsOf_11 ?_
  refine lv_iconst (v := 2) hx hb d_M_partsTheEndsOf_14 (by decide) ?_
  refine lv_iload_n hx hb d_M_partsTheEndsOf_15 rfl (lv_at hl 2 rfl) ?_
  refine lv_imul hx hb d_M_partsTheEndsOf_16 ?_
  refine rtop (y := nI (2 * j)) (pk_mul (2) (j)) ?_
  refine riald (j := 2 * j) S hK hP 3 1 rfl rfl (by omega) (by first | decide | omega) d_M_partsTheEndsOf_17 ?_
  refine rcallV (rest := []) (v := (f_M_leftness u X Y k (X (2 * j)) (Y (2 * j)))) S [.int (nI (k)), .int (X (2 * j)), .int (Y (2 * j))] hK hP [0, 1, 2, 3] rfl [0, 1] rfl (c_M_leftness l D hm hu hxs hys cZ cI u X Y k (X (2 * j)) (Y (2 * j)) (by omega)) i_M_leftness kL_M_42 ⟨Nat.le_of_ble_eq_true rfl, Nat.le_of_ble_eq_true rfl⟩ (by exact ⟨Nat.zero_le _, Nat.zero_le _⟩) (q0 := 0) (ci := 1) rfl rfl rfl hl.1 rfl (Nat.le_of_ble_eq_true rfl) d_M_partsTheEndsOf_18 ?_
  refine lv_istore_n (lv' := [(3, .int ((f_M_leftness u X Y k (X (2 * j)) (Y (2 * j))))), (0, .ref hm), (1, .int (nI (k))), (2, .int (nI (j)))]) hx hb d_M_partsTheEndsOf_21 rfl hl (by decide) rfl (fun ls hl => ?_)
  refine lv_aload_n hx hb d_M_partsTheEndsOf_22 rfl (lv_at hl 1 rfl) ?_
  refine lv_iload_n hx hb d_M_partsTheEndsOf_23 rfl (lv_at hl 2 rfl) ?_
  refine lv_aload_n hx hb d_M_partsTheEndsOf_24 rfl (lv_at hl 1 rfl) ?_
  refine rget S hK hP 0 rfl rfl in_M 1 (by decide) kF_M_15 rfl d_M_partsTheEndsOf_25 ?_
  refine lv_iconst (v := 2) hx hb d_M_partsTheEndsOf_28 (by decide) ?_
  refine lv_iload_n hx hb d_M_partsTheEndsOf_29 rfl (lv_at hl 3 rfl) ?_
  refine lv_imul hx hb d_M_partsTheEndsOf_30 ?_
  refine rtop (y := nI (2 * j)) (pk_mul (2) (j)) ?_
  refine lv_iconst (v := 1) hx hb d_M_partsTheEndsOf_31 (by decide) ?_
  refine lv_iadd hx hb d_M_partsTheEndsOf_32 ?_
  refine rtop (y := nI ((2 * j) + 1)) (nI_add (2 * j) (1)) ?_
  refine riald (j := (2 * j) + 1) S hK hP 2 1 rfl rfl (by omega) (by first | decide | omega) d_M_partsTheEndsOf_33 ?_
  refine lv_aload_n hx hb d_M_partsTheEndsOf_34 rfl (lv_at hl 1 rfl) ?_
  refine rget S hK hP 0 rfl rfl in_M 2 (by decide) kF_M_19 rfl d_M_partsTheEndsOf_35 ?_
  refine lv_iconst (v := 2) hx hb d_M_partsTheEndsOf_38 (by decide) ?_
  refine lv_iload_n hx hb d_M_partsTheEndsOf_39 rfl (lv_at hl 3 rfl) ?_
  refine lv_imul hx hb d_M_partsTheEndsOf_40 ?_
  refine rtop (y := nI (2 * j)) (pk_mul (2) (j)) ?_
  refine lv_iconst (v := 1) hx hb d_M_partsTheEndsOf_41 (by decide) ?_
  refine lv_iadd hx hb d_M_partsTheEndsOf_42 ?_
  refine rtop (y := nI ((2 * j) + 1)) (nI_add (2 * j) (1)) ?_
  refine riald (j := (2 * j) + 1) S hK hP 3 1 rfl rfl (by omega) (by first | decide | omega) d_M_partsTheEndsOf_43 ?_
  refine rcallV (rest := []) (v := (f_M_leftness u X Y k (X ((2 * j) + 1)) (Y ((2 * j) + 1)))) S [.int (nI (k)), .int (X ((2 * j) + 1)), .int (Y ((2 * j) + 1))] hK hP [0, 1, 2, 3] rfl [0, 1] rfl (c_M_leftness l D hm hu hxs hys cZ cI u X Y k (X ((2 * j) + 1)) (Y ((2 * j) + 1)) (by omega)) i_M_leftness kL_M_42 ⟨Nat.le_of_ble_eq_true rfl, Nat.le_of_ble_eq_true rfl⟩ (by exact ⟨Nat.zero_le _, Nat.zero_le _⟩) (q0 := 0) (ci := 1) rfl rfl rfl hl.1 rfl (Nat.le_of_ble_eq_true rfl) d_M_partsTheEndsOf_44 ?_
  refine lv_istore (lv' := [(4, .int ((f_M_leftness u X Y k (X ((2 * j) + 1)) (Y ((2 * j) + 1))))), (3, .int ((f_M_leftness u X Y k (X (2 * j)) (Y (2 * j))))), (0, .ref hm), (1, .int (nI (k))), (2, .int (nI (j)))]) hx hb d_M_partsTheEndsOf_47 hl (by decide) rfl (fun ls hl => ?_)
  refine lv_iload_n hx hb d_M_partsTheEndsOf_49 rfl (lv_at hl 1 rfl) ?_
  refine lv_if_ge (tgt := 58) hx hb d_M_partsTheEndsOf_50 (by decide) (fun c1 => ?_) (fun c1 => ?_)
  · have c1a : 0 ≤ (f_M_leftness u X Y k (X (2 * j)) (Y (2 * j))) := c1
    refine lv_iload_n hx hb d_M_partsTheEndsOf_58 rfl (lv_at hl 1 rfl) ?_
    refine lv_if_le (tgt := 71) hx hb d_M_partsTheEndsOf_59 (by decide) (fun c2 => ?_) (fun c2 => ?_)
    · have c2a : (f_M_leftness u X Y k (X (2 * j)) (Y (2 * j))) ≤ 0 := c2
      refine lv_iconst (v := 0) hx hb d_M_partsTheEndsOf_71 (by decide) ?_
      exact rretZ S hr hlk (v := false) (show f_M_partsTheEndsOf u X Y k j = false from by unfold f_M_partsTheEndsOf; rw [if_pos c1a, if_pos c2a]).symm d_M_partsTheEndsOf_72
    · have c2a : ¬ ((f_M_leftness u X Y k (X (2 * j)) (Y (2 * j))) ≤ 0) := c2
      refine lv_iload hx hb d_M_partsTheEndsOf_62 (lv_at hl 0 rfl) ?_
      refine lv_if_ge (tgt := 71) hx hb d_M_partsTheEndsOf_64 (by decide) (fun c3 => ?_) (fun c3 => ?_)
      · have c3a : 0 ≤ (f_M_leftness u X Y k (X ((2 * j) + 1)) (Y ((2 * j) + 1))) := c3
        refine lv_iconst (v := 0) hx hb d_M_partsTheEndsOf_71 (by decide) ?_
        exact rretZ S hr hlk (v := false) (show f_M_partsTheEndsOf u X Y k j = false from by unfold f_M_partsTheEndsOf; rw [if_pos c1a, if_neg c2a, if_pos c3a]).symm d_M_partsTheEndsOf_72
      · have c3a : ¬ (0 ≤ (f_M_leftness u X Y k (X ((2 * j) + 1)) (Y ((2 * j) + 1)))) := c3
        refine lv_iconst (v := 1) hx hb d_M_partsTheEndsOf_67 (by decide) ?_
        refine lv_goto (tgt := 72) hx hb d_M_partsTheEndsOf_68 (by decide) ?_
        exact rretZ S hr hlk (v := true) (show f_M_partsTheEndsOf u X Y k j = true from by unfold f_M_partsTheEndsOf; rw [if_pos c1a, if_neg c2a, if_neg c3a]).symm d_M_partsTheEndsOf_72
  · have c1a : ¬ (0 ≤ (f_M_leftness u X Y k (X (2 * j)) (Y (2 * j)))) := c1
    refine lv_iload hx hb d_M_partsTheEndsOf_53 (lv_at hl 0 rfl) ?_
    refine lv_if_gt (tgt := 67) hx hb d_M_partsTheEndsOf_55 (by decide) (fun c4 => ?_) (fun c4 => ?_)
    · have c4a : 0 < (f_M_leftness u X Y k (X ((2 * j) + 1)) (Y ((2 * j) + 1))) := c4
      refine lv_iconst (v := 1) hx hb d_M_partsTheEndsOf_67 (by decide) ?_
      refine lv_goto (tgt := 72) hx hb d_M_partsTheEndsOf_68 (by decide) ?_
      exact rretZ S hr hlk (v := true) (show f_M_partsTheEndsOf u X Y k j = true from by unfold f_M_partsTheEndsOf; rw [if_neg c1a, if_pos c4a]).symm d_M_partsTheEndsOf_72
    · have c4a : ¬ (0 < (f_M_leftness u X Y k (X ((2 * j) + 1)) (Y ((2 * j) + 1)))) := c4
      refine lv_iload_n hx hb d_M_partsTheEndsOf_58 rfl (lv_at hl 1 rfl) ?_
      refine lv_if_le (tgt := 71) hx hb d_M_partsTheEndsOf_59 (by decide) (fun c5 => ?_) (fun c5 => ?_)
      · have c5a : (f_M_leftness u X Y k (X (2 * j)) (Y (2 * j))) ≤ 0 := c5
        refine lv_iconst (v := 0) hx hb d_M_partsTheEndsOf_71 (by decide) ?_
        exact rretZ S hr hlk (v := false) (show f_M_partsTheEndsOf u X Y k j = false from by unfold f_M_partsTheEndsOf; rw [if_neg c1a, if_neg c4a, if_pos c5a]).symm d_M_partsTheEndsOf_72
      · have c5a : ¬ ((f_M_leftness u X Y k (X (2 * j)) (Y (2 * j))) ≤ 0) := c5
        refine lv_iload hx hb d_M_partsTheEndsOf_62 (lv_at hl 0 rfl) ?_
        refine lv_if_ge (tgt := 71) hx hb d_M_partsTheEndsOf_64 (by decide) (fun c6 => ?_) (fun c6 => ?_)
        · have c6a : 0 ≤ (f_M_leftness u X Y k (X ((2 * j) + 1)) (Y ((2 * j) + 1))) := c6
          refine lv_iconst (v := 0) hx hb d_M_partsTheEndsOf_71 (by decide) ?_
          exact rretZ S hr hlk (v := false) (show f_M_partsTheEndsOf u X Y k j = false from by unfold f_M_partsTheEndsOf; rw [if_neg c1a, if_neg c4a, if_neg c5a, if_pos c6a]).symm d_M_partsTheEndsOf_72
        · have c6a : ¬ (0 ≤ (f_M_leftness u X Y k (X ((2 * j) + 1)) (Y ((2 * j) + 1)))) := c6
          refine lv_iconst (v := 1) hx hb d_M_partsTheEndsOf_67 (by decide) ?_
          refine lv_goto (tgt := 72) hx hb d_M_partsTheEndsOf_68 (by decide) ?_
          exact rretZ S hr hlk (v := true) (show f_M_partsTheEndsOf u X Y k j = true from by unfold f_M_partsTheEndsOf; rw [if_neg c1a, if_neg c4a, if_neg c5a, if_neg c6a]).symm d_M_partsTheEndsOf_72
def f_M_holdsAnEndOf (u : Nat → Bool) (X : Nat → Int32) (Y : Nat → Int32) (k : Nat) (j : Nat) : Bool := if f_M_isInside u X Y k (X (2 * j)) (Y (2 * j)) = true then true else (if f_M_isInside u X Y k (X ((2 * j) + 1)) (Y ((2 * j) + 1)) = true then true else false)
theorem i_M_holdsAnEndOf : inV y_M_holdsAnEndOf b_M_holdsAnEndOf 3 (some .boolean) 2 := ⟨kM_y_M_holdsAnEndOf, kV_y_M_holdsAnEndOf, kI_M, kY_y_M_holdsAnEndOf, by decide +kernel⟩
set_option maxHeartbeats 4000000 in
set_option maxRecDepth 100000 in
theorem c_M_holdsAnEndOf (l : Launch) (D : va_G) (hm hu hxs hys : Nat) (cZ cI : ClassId) (u : Nat → Bool) (X Y : Nat → Int32) (k : Nat) (j : Nat) (hk : k < 20) (hj : j < 20)  : PM l y_M_holdsAnEndOf b_M_holdsAnEndOf 3 (some .boolean) 3 72 D (mapW hm hu hxs hys cZ cI u X Y) [(cZ, .boolean), (cI, .int)] [.ref hm, .int (nI (k)), .int (nI (j))] (b2i (f_M_holdsAnEndOf u X Y k j)) := by
  refine pMet rfl (fun p e s m below meth c S hr hlk hP hK ls hl => ?_) (Nat.le_of_ble_eq_true rfl)
  have hx := S.1
  have hb := S.2.1
  have hl : lv_has ls 3 [(0, .ref hm), (1, .int (nI (k))), (2, .int (nI (j)))] := hl
  refine lv_aload_n hx hb d_M_holdsAnEndOf_0 rfl (lv_at hl 0 rfl) ?_
  refine lv_iload_n hx hb d_M_holdsAnEndOf_1 rfl (lv_at hl 1 rfl) ?_
  refine lv_aload_n hx hb d_M_holdsAnEndOf_2 rfl (lv_at hl 0 rfl) ?_
  refine rget S hK hP 0 rfl rfl in_M 1 (by decide) kF_M_15 rfl d_M_holdsAnEndOf_3 ?_
  refine lv_iconst (v := 2) hx hb d_M_holdsAnEndOf_6 (by decide) ?_
  refine lv_iload_n hx hb d_M_holdsAnEndOf_7 rfl (lv_at hl 2 rfl) ?_
  refine lv_imul hx hb d_M_holdsAnEndOf_8 ?_
  refine rtop (y := nI (2 * j)) (pk_mul (2) (j)) ?_
  refine riald (j := 2 * j) S hK hP 2 1 rfl rfl (by omega) (by first | decide | omega) d_M_holdsAnEndOf_9 ?_
  refine lv_aload_n hx hb d_M_holdsAnEndOf_10 rfl (lv_at hl 0 rfl) ?_
  refine rget S hK hP 0 rfl rfl in_M 2 (by decide) kF_M_19 rfl d_M_holdsAnEndOf_11 ?_
  refine lv_iconst (v := 2) hx hb d_M_holdsAnEndOf_14 (by decide) ?_
  refine lv_iload_n hx hb d_M_holdsAnEndOf_15 rfl (lv_at hl 2 rfl) ?_
  refine lv_imul hx hb d_M_holdsAnEndOf_16 ?_
  refine rtop (y := nI (2 * j)) (pk_mul (2) (j)) ?_
  refine riald (j := 2 * j) S hK hP 3 1 rfl rfl (by omega) (by first | decide | omega) d_M_holdsAnEndOf_17 ?_
  refine rcallV (rest := []) (v := b2i (f_M_isInside u X Y k (X (2 * j)) (Y (2 * j)))) S [.int (nI (k)), .int (X (2 * j)), .int (Y (2 * j))] hK hP [0, 1, 2, 3] rfl [0, 1] rfl (c_M_isInside l D hm hu hxs hys cZ cI u X Y k (X (2 * j)) (Y (2 * j)) (by omega)) i_M_isInside kL_M_38 ⟨Nat.le_of_ble_eq_true rfl, Nat.le_of_ble_eq_true rfl⟩ (by exact ⟨Nat.zero_le _, Nat.zero_le _⟩) (q0 := 0) (ci := 1) rfl rfl rfl hl.1 rfl (Nat.le_of_ble_eq_true rfl) d_M_holdsAnEndOf_18 ?_
  refine lv_if_ne (tgt := 52) hx hb d_M_holdsAnEndOf_21 (by decide) (fun c1 => ?_) (fun c1 => ?_)
  · have c1a : f_M_isInside u X Y k (X (2 * j)) (Y (2 * j)) = true := b2i_ne0.mp c1
    refine lv_iconst (v := 1) hx hb d_M_holdsAnEndOf_52 (by decide) ?_
    refine lv_goto (tgt := 57) hx hb d_M_holdsAnEndOf_53 (by decide) ?_
    exact rretZ S hr hlk (v := true) (show f_M_holdsAnEndOf u X Y k j = true from by unfold f_M_holdsAnEndOf; rw [if_pos c1a]).symm d_M_holdsAnEndOf_57
  · have c1a : ¬ (f_M_isInside u X Y k (X (2 * j)) (Y (2 * j)) = true) := b2n (b2i_eq0.mp c1)
    refine lv_aload_n hx hb d_M_holdsAnEndOf_24 rfl (lv_at hl 0 rfl) ?_
    refine lv_iload_n hx hb d_M_holdsAnEndOf_25 rfl (lv_at hl 1 rfl) ?_
    refine lv_aload_n hx hb d_M_holdsAnEndOf_26 rfl (lv_at hl 0 rfl) ?_
    refine rget S hK hP 0 rfl rfl in_M 1 (by decide) kF_M_15 rfl d_M_holdsAnEndOf_27 ?_
    refine lv_iconst (v := 2) hx hb d_M_holdsAnEndOf_30 (by decide) ?_
    refine lv_iload_n hx hb d_M_holdsAnEndOf_31 rfl (lv_at hl 2 rfl) ?_
    refine lv_imul hx hb d_M_holdsAnEndOf_32 ?_
    refine rtop (y := nI (2 * j)) (pk_mul (2) (j)) ?_
    refine lv_iconst (v := 1) hx hb d_M_holdsAnEndOf_33 (by decide) ?_
    refine lv_iadd hx hb d_M_holdsAnEndOf_34 ?_
    refine rtop (y := nI ((2 * j) + 1)) (nI_add (2 * j) (1)) ?_
    refine riald (j := (2 * j) + 1) S hK hP 2 1 rfl rfl (by omega) (by first | decide | omega) d_M_holdsAnEndOf_35 ?_
    refine lv_aload_n hx hb d_M_holdsAnEndOf_36 rfl (lv_at hl 0 rfl) ?_
    refine rget S hK hP 0 rfl rfl in_M 2 (by decide) kF_M_19 rfl d_M_holdsAnEndOf_37 ?_
    refine lv_iconst (v := 2) hx hb d_M_holdsAnEndOf_40 (by decide) ?_
    refine lv_iload_n hx hb d_M_holdsAnEndOf_41 rfl (lv_at hl 2 rfl) ?_
    refine lv_imul hx hb d_M_holdsAnEndOf_42 ?_
    refine rtop (y := nI (2 * j)) (pk_mul (2) (j)) ?_
    refine lv_iconst (v := 1) hx hb d_M_holdsAnEndOf_43 (by decide) ?_
    refine lv_iadd hx hb d_M_holdsAnEndOf_44 ?_
    refine rtop (y := nI ((2 * j) + 1)) (nI_add (2 * j) (1)) ?_
    refine riald (j := (2 * j) + 1) S hK hP 3 1 rfl rfl (by omega) (by first | decide | omega) d_M_holdsAnEndOf_45 ?_
    refine rcallV (rest := []) (v := b2i (f_M_isInside u X Y k (X ((2 * j) + 1)) (Y ((2 * j) + 1)))) S [.int (nI (k)), .int (X ((2 * j) + 1)), .int (Y ((2 * j) + 1))] hK hP [0, 1, 2, 3] rfl [0, 1] rfl (c_M_isInside l D hm hu hxs hys cZ cI u X Y k (X ((2 * j) + 1)) (Y ((2 * j) + 1)) (by omega)) i_M_isInside kL_M_38 ⟨Nat.le_of_ble_eq_true rfl, Nat.le_of_ble_eq_true rfl⟩ (by exact ⟨Nat.zero_le _, Nat.zero_le _⟩) (q0 := 0) (ci := 1) rfl rfl rfl hl.1 rfl (Nat.le_of_ble_eq_true rfl) d_M_holdsAnEndOf_46 ?_
    refine lv_if_eq (tgt := 56) hx hb d_M_holdsAnEndOf_49 (by decide) (fun c2 => ?_) (fun c2 => ?_)
    · have c2a : ¬ (f_M_isInside u X Y k (X ((2 * j) + 1)) (Y ((2 * j) + 1)) = true) := b2n (b2i_eq0.mp c2)
      refine lv_iconst (v := 0) hx hb d_M_holdsAnEndOf_56 (by decide) ?_
      exact rretZ S hr hlk (v := false) (show f_M_holdsAnEndOf u X Y k j = false from by unfold f_M_holdsAnEndOf; rw [if_neg c1a, if_neg c2a]).symm d_M_holdsAnEndOf_57
    · have c2a : f_M_isInside u X Y k (X ((2 * j) + 1)) (Y ((2 * j) + 1)) = true := b2i_ne0.mp c2
      refine lv_iconst (v := 1) hx hb d_M_holdsAnEndOf_52 (by decide) ?_
      refine lv_goto (tgt := 57) hx hb d_M_holdsAnEndOf_53 (by decide) ?_
      exact rretZ S hr hlk (v := true) (show f_M_holdsAnEndOf u X Y k j = true from by unfold f_M_holdsAnEndOf; rw [if_neg c1a, if_pos c2a]).symm d_M_holdsAnEndOf_57
def f_M_haveSameEnds (u : Nat → Bool) (X : Nat → Int32) (Y : Nat → Int32) (k : Nat) (j : Nat) : Bool := if f_M_sameTail u X Y (2 * k) (2 * j) = true then (if f_M_sameTail u X Y ((2 * k) + 1) ((2 * j) + 1) = true then true else false) else false
theorem i_M_haveSameEnds : inV y_M_haveSameEnds b_M_haveSameEnds 3 (some .boolean) 2 := ⟨kM_y_M_haveSameEnds, kV_y_M_haveSameEnds, kI_M, kY_y_M_haveSameEnds, by decide +kernel⟩
set_option maxHeartbeats 4000000 in
set_option maxRecDepth 100000 in
theorem c_M_haveSameEnds (l : Launch) (D : va_G) (hm hu hxs hys : Nat) (cZ cI : ClassId) (u : Nat → Bool) (X Y : Nat → Int32) (k : Nat) (j : Nat) (hk : k < 20) (hj : j < 20)  : PM l y_M_haveSameEnds b_M_haveSameEnds 3 (some .boolean) 1 22 D (mapW hm hu hxs hys cZ cI u X Y) [(cZ, .boolean), (cI, .int)] [.ref hm, .int (nI (k)), .int (nI (j))] (b2i (f_M_haveSameEnds u X Y k j)) := by
  refine pMet rfl (fun p e s m below meth c S hr hlk hP hK ls hl => ?_) (Nat.le_of_ble_eq_true rfl)
  have hx := S.1
  have hb := S.2.1
  have hl : lv_has ls 3 [(0, .ref hm), (1, .int (nI (k))), (2, .int (nI (j)))] := hl
  refine lv_aload_n hx hb d_M_haveSameEnds_0 rfl (lv_at hl 0 rfl) ?_
  refine lv_iconst (v := 2) hx hb d_M_haveSameEnds_1 (by decide) ?_
  refine lv_iload_n hx hb d_M_haveSameEnds_2 rfl (lv_at hl 1 rfl) ?_
  refine lv_imul hx hb d_M_haveSameEnds_3 ?_
  refine rtop (y := nI (2 * k)) (pk_mul (2) (k)) ?_
  refine lv_iconst (v := 2) hx hb d_M_haveSameEnds_4 (by decide) ?_
  refine lv_iload_n hx hb d_M_haveSameEnds_5 rfl (lv_at hl 2 rfl) ?_
  refine lv_imul hx hb d_M_haveSameEnds_6 ?_
  refine rtop (y := nI (2 * j)) (pk_mul (2) (j)) ?_
  refine rcallV (rest := []) (v := b2i (f_M_sameTail u X Y (2 * k) (2 * j))) S [.int (nI (2 * k)), .int (nI (2 * j))] hK hP [0, 1, 2, 3] rfl [0, 1] rfl (c_M_sameTail l D hm hu hxs hys cZ cI u X Y (2 * k) (2 * j) (by omega) (by omega)) i_M_sameTail kL_M_35 ⟨Nat.le_of_ble_eq_true rfl, Nat.le_of_ble_eq_true rfl⟩ (by exact ⟨Nat.zero_le _, Nat.zero_le _⟩) (q0 := 0) (ci := 1) rfl rfl rfl hl.1 rfl (Nat.le_of_ble_eq_true rfl) d_M_haveSameEnds_7 ?_
  refine lv_if_eq (tgt := 34) hx hb d_M_haveSameEnds_10 (by decide) (fun c1 => ?_) (fun c1 => ?_)
  · have c1a : ¬ (f_M_sameTail u X Y (2 * k) (2 * j) = true) := b2n (b2i_eq0.mp c1)
    refine lv_iconst (v := 0) hx hb d_M_haveSameEnds_34 (by decide) ?_
    exact rretZ S hr hlk (v := false) (show f_M_haveSameEnds u X Y k j = false from by unfold f_M_haveSameEnds; rw [if_neg c1a]).symm d_M_haveSameEnds_35
  · have c1a : f_M_sameTail u X Y (2 * k) (2 * j) = true := b2i_ne0.mp c1
    refine lv_aload_n hx hb d_M_haveSameEnds_13 rfl (lv_at hl 0 rfl) ?_
    refine lv_iconst (v := 2) hx hb d_M_haveSameEnds_14 (by decide) ?_
    refine lv_iload_n hx hb d_M_haveSameEnds_15 rfl (lv_at hl 1 rfl) ?_
    refine lv_imul hx hb d_M_haveSameEnds_16 ?_
    refine rtop (y := nI (2 * k)) (pk_mul (2) (k)) ?_
    refine lv_iconst (v := 1) hx hb d_M_haveSameEnds_17 (by decide) ?_
    refine lv_iadd hx hb d_M_haveSameEnds_18 ?_
    refine rtop (y := nI ((2 * k) + 1)) (nI_add (2 * k) (1)) ?_
    refine lv_iconst (v := 2) hx hb d_M_haveSameEnds_19 (by decide) ?_
    refine lv_iload_n hx hb d_M_haveSameEnds_20 rfl (lv_at hl 2 rfl) ?_
    refine lv_imul hx hb d_M_haveSameEnds_21 ?_
    refine rtop (y := nI (2 * j)) (pk_mul (2) (j)) ?_
    refine lv_iconst (v := 1) hx hb d_M_haveSameEnds_22 (by decide) ?_
    refine lv_iadd hx hb d_M_haveSameEnds_23 ?_
    refine rtop (y := nI ((2 * j) + 1)) (nI_add (2 * j) (1)) ?_
    refine rcallV (rest := []) (v := b2i (f_M_sameTail u X Y ((2 * k) + 1) ((2 * j) + 1))) S [.int (nI ((2 * k) + 1)), .int (nI ((2 * j) + 1))] hK hP [0, 1, 2, 3] rfl [0, 1] rfl (c_M_sameTail l D hm hu hxs hys cZ cI u X Y ((2 * k) + 1) ((2 * j) + 1) (by omega) (by omega)) i_M_sameTail kL_M_35 ⟨Nat.le_of_ble_eq_true rfl, Nat.le_of_ble_eq_true rfl⟩ (by exact ⟨Nat.zero_le _, Nat.zero_le _⟩) (q0 := 0) (ci := 1) rfl rfl rfl hl.1 rfl (Nat.le_of_ble_eq_true rfl) d_M_haveSameEnds_24 ?_
    refine lv_if_eq (tgt := 34) hx hb d_M_haveSameEnds_27 (by decide) (fun c2 => ?_) (fun c2 => ?_)
    · have c2a : ¬ (f_M_sameTail u X Y ((2 * k) + 1) ((2 * j) + 1) = true) := b2n (b2i_eq0.mp c2)
      refine lv_iconst (v := 0) hx hb d_M_haveSameEnds_34 (by decide) ?_
      exact rretZ S hr hlk (v := false) (show f_M_haveSameEnds u X Y k j = false from by unfold f_M_haveSameEnds; rw [if_pos c1a, if_neg c2a]).symm d_M_haveSameEnds_35
    · have c2a : f_M_sameTail u X Y ((2 * k) + 1) ((2 * j) + 1) = true := b2i_ne0.mp c2
      refine lv_iconst (v := 1) hx hb d_M_haveSameEnds_30 (by decide) ?_
      refine lv_goto (tgt := 35) hx hb d_M_haveSameEnds_31 (by decide) ?_
      exact rretZ S hr hlk (v := true) (show f_M_haveSameEnds u X Y k j = true from by unfold f_M_haveSameEnds; rw [if_pos c1a, if_pos c2a]).symm d_M_haveSameEnds_35
def f_M_meet (u : Nat → Bool) (X : Nat → Int32) (Y : Nat → Int32) (k : Nat) (j : Nat) : Bool := if f_M_haveSameEnds u X Y k j = true then true else (if f_M_holdsAnEndOf u X Y k j = true then true else (if f_M_holdsAnEndOf u X Y j k = true then true else (if f_M_partsTheEndsOf u X Y k j = true then (if f_M_partsTheEndsOf u X Y j k = true then true else false) else false)))
theorem i_M_meet : inV y_M_meet b_M_meet 3 (some .boolean) 2 := ⟨kM_y_M_meet, kV_y_M_meet, kI_M, kY_y_M_meet, by decide +kernel⟩
set_option maxHeartbeats 4000000 in
set_option maxRecDepth 100000 in
theorem c_M_meet (l : Launch) (D : va_G) (hm hu hxs hys : Nat) (cZ cI : ClassId) (u : Nat → Bool) (X Y : Nat → Int32) (k : Nat) (j : Nat) (hk : k < 20) (hj : j < 20)  : PM l y_M_meet b_M_meet 3 (some .boolean) 4 94 D (mapW hm hu hxs hys cZ cI u X Y) [(cZ, .boolean), (cI, .int)] [.ref hm, .int (nI (k)), .int (nI (j))] (b2i (f_M_meet u X Y k j)) := by
  refine pMet rfl (fun p e s m below meth c S hr hlk hP hK ls hl => ?_) (Nat.le_of_ble_eq_true rfl)
  have hx := S.1
  have hb := S.2.1
  have hl : lv_has ls 3 [(0, .ref hm), (1, .int (nI (k))), (2, .int (nI (j)))] := hl
  refine lv_aload_n hx hb d_M_meet_0 rfl (lv_at hl 0 rfl) ?_
  refine lv_iload_n hx hb d_M_meet_1 rfl (lv_at hl 1 rfl) ?_
  refine lv_iload_n hx hb d_M_meet_2 rfl (lv_at hl 2 rfl) ?_
  refine rcallV (rest := []) (v := b2i (f_M_haveSameEnds u X Y k j)) S [.int (nI (k)), .int (nI (j))] hK hP [0, 1, 2, 3] rfl [0, 1] rfl (c_M_haveSameEnds l D hm hu hxs hys cZ cI u X Y k j (by omega) (by omega)) i_M_haveSameEnds kL_M_26 ⟨Nat.le_of_ble_eq_true rfl, Nat.le_of_ble_eq_true rfl⟩ (by exact ⟨Nat.zero_le _, Nat.zero_le _⟩) (q0 := 0) (ci := 1) rfl rfl rfl hl.1 rfl (Nat.le_of_ble_eq_true rfl) d_M_meet_3 ?_
  refine lv_if_ne (tgt := 45) hx hb d_M_meet_6 (by decide) (fun c1 => ?_) (fun c1 => ?_)
  · have c1a : f_M_haveSameEnds u X Y k j = true := b2i_ne0.mp c1
    refine lv_iconst (v := 1) hx hb d_M_meet_45 (by decide) ?_
    refine lv_goto (tgt := 50) hx hb d_M_meet_46 (by decide) ?_
    exact rretZ S hr hlk (v := true) (show f_M_meet u X Y k j = true from by unfold f_M_meet; rw [if_pos c1a]).symm d_M_meet_50
  · have c1a : ¬ (f_M_haveSameEnds u X Y k j = true) := b2n (b2i_eq0.mp c1)
    refine lv_aload_n hx hb d_M_meet_9 rfl (lv_at hl 0 rfl) ?_
    refine lv_iload_n hx hb d_M_meet_10 rfl (lv_at hl 1 rfl) ?_
    refine lv_iload_n hx hb d_M_meet_11 rfl (lv_at hl 2 rfl) ?_
    refine rcallV (rest := []) (v := b2i (f_M_holdsAnEndOf u X Y k j)) S [.int (nI (k)), .int (nI (j))] hK hP [0, 1, 2, 3] rfl [0, 1] rfl (c_M_holdsAnEndOf l D hm hu hxs hys cZ cI u X Y k j (by omega) (by omega)) i_M_holdsAnEndOf kL_M_29 ⟨Nat.le_of_ble_eq_true rfl, Nat.le_of_ble_eq_true rfl⟩ (by exact ⟨Nat.zero_le _, Nat.zero_le _⟩) (q0 := 0) (ci := 1) rfl rfl rfl hl.1 rfl (Nat.le_of_ble_eq_true rfl) d_M_meet_12 ?_
    refine lv_if_ne (tgt := 45) hx hb d_M_meet_15 (by decide) (fun c2 => ?_) (fun c2 => ?_)
    · have c2a : f_M_holdsAnEndOf u X Y k j = true := b2i_ne0.mp c2
      refine lv_iconst (v := 1) hx hb d_M_meet_45 (by decide) ?_
      refine lv_goto (tgt := 50) hx hb d_M_meet_46 (by decide) ?_
      exact rretZ S hr hlk (v := true) (show f_M_meet u X Y k j = true from by unfold f_M_meet; rw [if_neg c1a, if_pos c2a]).symm d_M_meet_50
    · have c2a : ¬ (f_M_holdsAnEndOf u X Y k j = true) := b2n (b2i_eq0.mp c2)
      refine lv_aload_n hx hb d_M_meet_18 rfl (lv_at hl 0 rfl) ?_
      refine lv_iload_n hx hb d_M_meet_19 rfl (lv_at hl 2 rfl) ?_
      refine lv_iload_n hx hb d_M_meet_20 rfl (lv_at hl 1 rfl) ?_
      refine rcallV (rest := []) (v := b2i (f_M_holdsAnEndOf u X Y j k)) S [.int (nI (j)), .int (nI (k))] hK hP [0, 1, 2, 3] rfl [0, 1] rfl (c_M_holdsAnEndOf l D hm hu hxs hys cZ cI u X Y j k (by omega) (by omega)) i_M_holdsAnEndOf kL_M_29 ⟨Nat.le_of_ble_eq_true rfl, Nat.le_of_ble_eq_true rfl⟩ (by exact ⟨Nat.zero_le _, Nat.zero_le _⟩) (q0 := 0) (ci := 1) rfl rfl rfl hl.1 rfl (Nat.le_of_ble_eq_true rfl) d_M_meet_21 ?_
      refine lv_if_ne (tgt := 45) hx hb d_M_meet_24 (by decide) (fun c3 => ?_) (fun c3 => ?_)
      · have c3a : f_M_holdsAnEndOf u X Y j k = true := b2i_ne0.mp c3
        refine lv_iconst (v := 1) hx hb d_M_meet_45 (by decide) ?_
        refine lv_goto (tgt := 50) hx hb d_M_meet_46 (by decide) ?_
        exact rretZ S hr hlk (v := true) (show f_M_meet u X Y k j = true from by unfold f_M_meet; rw [if_neg c1a, if_neg c2a, if_pos c3a]).symm d_M_meet_50
      · have c3a : ¬ (f_M_holdsAnEndOf u X Y j k = true) := b2n (b2i_eq0.mp c3)
        refine lv_aload_n hx hb d_M_meet_27 rfl (lv_at hl 0 rfl) ?_
        refine lv_iload_n hx hb d_M_meet_28 rfl (lv_at hl 1 rfl) ?_
        refine lv_iload_n hx hb d_M_meet_29 rfl (lv_at hl 2 rfl) ?_
        refine rcallV (rest := []) (v := b2i (f_M_partsTheEndsOf u X Y k j)) S [.int (nI (k)), .int (nI (j))] hK hP [0, 1, 2, 3] rfl [0, 1] rfl (c_M_partsTheEndsOf l D hm hu hxs hys cZ cI u X Y k j (by omega) (by omega)) i_M_partsTheEndsOf kL_M_32 ⟨Nat.le_of_ble_eq_true rfl, Nat.le_of_ble_eq_true rfl⟩ (by exact ⟨Nat.zero_le _, Nat.zero_le _⟩) (q0 := 0) (ci := 1) rfl rfl rfl hl.1 rfl (Nat.le_of_ble_eq_true rfl) d_M_meet_30 ?_
        refine lv_if_eq (tgt := 49) hx hb d_M_meet_33 (by decide) (fun c4 => ?_) (fun c4 => ?_)
        · have c4a : ¬ (f_M_partsTheEndsOf u X Y k j = true) := b2n (b2i_eq0.mp c4)
          refine lv_iconst (v := 0) hx hb d_M_meet_49 (by decide) ?_
          exact rretZ S hr hlk (v := false) (show f_M_meet u X Y k j = false from by unfold f_M_meet; rw [if_neg c1a, if_neg c2a, if_neg c3a, if_neg c4a]).symm d_M_meet_50
        · have c4a : f_M_partsTheEndsOf u X Y k j = true := b2i_ne0.mp c4
          refine lv_aload_n hx hb d_M_meet_36 rfl (lv_at hl 0 rfl) ?_
          refine lv_iload_n hx hb d_M_meet_37 rfl (lv_at hl 2 rfl) ?_
          refine lv_iload_n hx hb d_M_meet_38 rfl (lv_at hl 1 rfl) ?_
          refine rcallV (rest := []) (v := b2i (f_M_partsTheEndsOf u X Y j k)) S [.int (nI (j)), .int (nI (k))] hK hP [0, 1, 2, 3] rfl [0, 1] rfl (c_M_partsTheEndsOf l D hm hu hxs hys cZ cI u X Y j k (by omega) (by omega)) i_M_partsTheEndsOf kL_M_32 ⟨Nat.le_of_ble_eq_true rfl, Nat.le_of_ble_eq_true rfl⟩ (by exact ⟨Nat.zero_le _, Nat.zero_le _⟩) (q0 := 0) (ci := 1) rfl rfl rfl hl.1 rfl (Nat.le_of_ble_eq_true rfl) d_M_meet_39 ?_
          refine lv_if_eq (tgt := 49) hx hb d_M_meet_42 (by decide) (fun c5 => ?_) (fun c5 => ?_)
          · have c5a : ¬ (f_M_partsTheEndsOf u X Y j k = true) := b2n (b2i_eq0.mp c5)
            refine lv_iconst (v := 0) hx hb d_M_meet_49 (by decide) ?_
            exact rretZ S hr hlk (v := false) (show f_M_meet u X Y k j = false from by unfold f_M_meet; rw [if_neg c1a, if_neg c2a, if_neg c3a, if_pos c4a, if_neg c5a]).symm d_M_meet_50
          · have c5a : f_M_partsTheEndsOf u X Y j k = true := b2i_ne0.mp c5
            refine lv_iconst (v := 1) hx hb d_M_meet_45 (by decide) ?_
            refine lv_goto (tgt := 50) hx hb d_M_meet_46 (by decide) ?_
            exact rretZ S hr hlk (v := true) (show f_M_meet u X Y k j = true from by unfold f_M_meet; rw [if_neg c1a, if_neg c2a, if_neg c3a, if_pos c4a, if_pos c5a]).symm d_M_meet_50
def fx_M_leastMeeting (u : Nat → Bool) (X : Nat → Int32) (Y : Nat → Int32) (j : Nat) (k : Nat)  : Int32 := (-1)
def fb_M_leastMeeting (u : Nat → Bool) (X : Nat → Int32) (Y : Nat → Int32) (j : Nat) (rec : Nat → Int32) (k : Nat)  : Int32 := if u k = true then (if f_M_meet u X Y k j = true then (nI (k)) else (rec (k + 1))) else (rec (k + 1))
def fl_M_leastMeeting (u : Nat → Bool) (X : Nat → Int32) (Y : Nat → Int32) (j : Nat) : Nat → Nat → Int32
  | 0, k => fx_M_leastMeeting u X Y j k
  | n + 1, k => fb_M_leastMeeting u X Y j (fl_M_leastMeeting u X Y j n) k
def f_M_leastMeeting (u : Nat → Bool) (X : Nat → Int32) (Y : Nat → Int32) (j : Nat) : Int32 := fl_M_leastMeeting u X Y j 20 0
theorem i_M_leastMeeting : inV y_M_leastMeeting b_M_leastMeeting 3 (some .int) 1 := ⟨kM_y_M_leastMeeting, kV_y_M_leastMeeting, kI_M, kY_y_M_leastMeeting, by decide +kernel⟩
set_option maxHeartbeats 4000000 in
set_option maxRecDepth 100000 in
theorem c_M_leastMeeting (l : Launch) (D : va_G) (hm hu hxs hys : Nat) (cZ cI : ClassId) (u : Nat → Bool) (X Y : Nat → Int32) (j : Nat) (hj : j < 20)  : PM l y_M_leastMeeting b_M_leastMeeting 3 (some .int) 5 116 D (mapW hm hu hxs hys cZ cI u X Y) [(cZ, .boolean), (cI, .int)] [.ref hm, .int (nI (j))] (f_M_leastMeeting u X Y j) := by
  refine pMet rfl (fun p e s m below meth c S hr hlk hP hK ls hl => ?_) (Nat.le_of_ble_eq_true rfl)
  have hx := S.1
  have hb := S.2.1
  have hl : lv_has ls 3 [(0, .ref hm), (1, .int (nI (j)))] := hl
  have key : ∀ (n : Nat) (k : Nat)  (hk : k + n = 20)  (ls : Array Slot) (hl : lv_has ls 3 [(0, .ref hm), (1, .int (nI (j))), (2, .int (nI (k)))]) (hf : f_M_leastMeeting u X Y j = fl_M_leastMeeting u X Y j n k ), W p l e { frames := 5, cells := 0, slots := 0, locals := 116 } s m [.ref hm, .int (nI (j))].toArray below meth c s.heap [] 0 0 (MQ below (pQ ((f_M_leastMeeting u X Y j))) [.ref hm, .int (nI (j))].toArray s 0 0 (fun _ => False)) (F0 m 2 ls []) := by
    intro n
    induction n with
    | zero =>
      intro k  hk  ls hl hf
      refine lv_iload_n hx hb d_M_leastMeeting_2 rfl (lv_at hl 2 rfl) ?_
      refine lv_bipush (v := 20) hx hb d_M_leastMeeting_3 (by decide) ?_
      refine lv_icmp_ge (tgt := 34) hx hb d_M_leastMeeting_5 (by decide) (fun c1 => ?_) (fun c1 => ?_)
      · have c1a : 20 ≤ k := (nI_leI (a := 20) (b := k) (by decide) (by omega)).mp c1
        refine lv_iconst (v := (-1)) hx hb d_M_leastMeeting_34 (by decide) ?_
        exact rret S hr hlk (v := (-1)) (hf.trans (show fx_M_leastMeeting u X Y j k = (-1) from rfl)).symm d_M_leastMeeting_35
      · have c1a : ¬ (20 ≤ k) := fun h => c1 ((nI_leI (a := 20) (b := k) (by decide) (by omega)).mpr h)
        omega
    | succ n ih =>
      intro k  hk  ls hl hf
      refine lv_iload_n hx hb d_M_leastMeeting_2 rfl (lv_at hl 2 rfl) ?_
      refine lv_bipush (v := 20) hx hb d_M_leastMeeting_3 (by decide) ?_
      refine lv_icmp_ge (tgt := 34) hx hb d_M_leastMeeting_5 (by decide) (fun c2 => ?_) (fun c2 => ?_)
      · have c2a : 20 ≤ k := (nI_leI (a := 20) (b := k) (by decide) (by omega)).mp c2
        omega
      · have c2a : ¬ (20 ≤ k) := fun h => c2 ((nI_leI (a := 20) (b := k) (by decide) (by omega)).mpr h)
        refine lv_aload_n hx hb d_M_leastMeeting_8 rfl (lv_at hl 0 rfl) ?_
        refine rget S hK hP 0 rfl rfl in_M 0 (by decide) kF_M_9 rfl d_M_leastMeeting_9 ?_
        refine lv_iload_n hx hb d_M_leastMeeting_12 rfl (lv_at hl 2 rfl) ?_
        refine rzald (j := k) S hK hP 1 0 rfl rfl (by omega) (by first | decide | omega) d_M_leastMeeting_13 ?_
        refine lv_if_eq (tgt := 28) hx hb d_M_leastMeeting_14 (by decide) (fun c3 => ?_) (fun c3 => ?_)
        · have c3a : ¬ (u k = true) := b2n (b2i_eq0.mp c3)
          refine lv_iinc (v := nI (k + 1)) (lv' := [(2, .int (nI (k + 1))), (0, .ref hm), (1, .int (nI (j)))]) hx hb d_M_leastMeeting_28 hl (k := 2) rfl (nI_1 (k)) (by decide) rfl (fun ls hl => ?_)
          refine lv_goto (tgt := 2) hx hb d_M_leastMeeting_31 (by decide) ?_
          exact ih (k + 1) (by omega)  ls (lv_sub hl [1, 2, 0] rfl) (hf.trans (show fb_M_leastMeeting u X Y j (fl_M_leastMeeting u X Y j n) k = (fl_M_leastMeeting u X Y j n (k + 1)) from by unfold fb_M_leastMeeting; rw [if_neg c3a]))
        · have c3a : u k = true := b2i_ne0.mp c3
          refine lv_aload_n hx hb d_M_leastMeeting_17 rfl (lv_at hl 0 rfl) ?_
          refine lv_iload_n hx hb d_M_leastMeeting_18 rfl (lv_at hl 2 rfl) ?_
          refine lv_iload_n hx hb d_M_leastMeeting_19 rfl (lv_at hl 1 rfl) ?_
          refine rcallV (rest := []) (v := b2i (f_M_meet u X Y k j)) S [.int (nI (k)), .int (nI (j))] hK hP [0, 1, 2, 3] rfl [0, 1] rfl (c_M_meet l D hm hu hxs hys cZ cI u X Y k j (by omega) (by omega)) i_M_meet kL_M_22 ⟨Nat.le_of_ble_eq_true rfl, Nat.le_of_ble_eq_true rfl⟩ (by exact ⟨Nat.zero_le _, Nat.zero_le _⟩) (q0 := 0) (ci := 1) rfl rfl rfl hl.1 rfl (Nat.le_of_ble_eq_true rfl) d_M_leastMeeting_20 ?_
          refine lv_if_eq (tgt := 28) hx hb d_M_leastMeeting_23 (by decide) (fun c4 => ?_) (fun c4 => ?_)
          · have c4a : ¬ (f_M_meet u X Y k j = true) := b2n (b2i_eq0.mp c4)
            refine lv_iinc (v := nI (k + 1)) (lv' := [(2, .int (nI (k + 1))), (0, .ref hm), (1, .int (nI (j)))]) hx hb d_M_leastMeeting_28 hl (k := 2) rfl (nI_1 (k)) (by decide) rfl (fun ls hl => ?_)
            refine lv_goto (tgt := 2) hx hb d_M_leastMeeting_31 (by decide) ?_
            exact ih (k + 1) (by omega)  ls (lv_sub hl [1, 2, 0] rfl) (hf.trans (show fb_M_leastMeeting u X Y j (fl_M_leastMeeting u X Y j n) k = (fl_M_leastMeeting u X Y j n (k + 1)) from by unfold fb_M_leastMeeting; rw [if_pos c3a, if_neg c4a]))
          · have c4a : f_M_meet u X Y k j = true := b2i_ne0.mp c4
            refine lv_iload_n hx hb d_M_leastMeeting_26 rfl (lv_at hl 2 rfl) ?_
            exact rret S hr hlk (v := nI (k)) (hf.trans (show fb_M_leastMeeting u X Y j (fl_M_leastMeeting u X Y j n) k = (nI (k)) from by unfold fb_M_leastMeeting; rw [if_pos c3a, if_pos c4a])).symm d_M_leastMeeting_27
  refine lv_iconst (v := 0) hx hb d_M_leastMeeting_0 (by decide) ?_
  refine lv_istore_n (lv' := [(2, .int 0), (0, .ref hm), (1, .int (nI (j)))]) hx hb d_M_leastMeeting_1 rfl hl (by decide) rfl (fun ls hl => ?_)
  exact key 20 0 (by omega)  ls (lv_sub hl [1, 2, 0] rfl) (show f_M_leastMeeting u X Y j = (fl_M_leastMeeting u X Y j 20 0) from rfl)
def fx_M_isFirstOfItsVertex (u : Nat → Bool) (X : Nat → Int32) (Y : Nat → Int32) (a : Nat) (b : Nat)  : Bool := true
def fb_M_isFirstOfItsVertex (u : Nat → Bool) (X : Nat → Int32) (Y : Nat → Int32) (a : Nat) (rec : Nat → Bool) (b : Nat)  : Bool := if u (b / 2) = true then (if f_M_sameTail u X Y a b = true then false else (rec (b + 1))) else (rec (b + 1))
def fl_M_isFirstOfItsVertex (u : Nat → Bool) (X : Nat → Int32) (Y : Nat → Int32) (a : Nat) : Nat → Nat → Bool
  | 0, b => fx_M_isFirstOfItsVertex u X Y a b
  | n + 1, b => fb_M_isFirstOfItsVertex u X Y a (fl_M_isFirstOfItsVertex u X Y a n) b
def f_M_isFirstOfItsVertex (u : Nat → Bool) (X : Nat → Int32) (Y : Nat → Int32) (a : Nat) : Bool := fl_M_isFirstOfItsVertex u X Y a a 0
theorem i_M_isFirstOfItsVertex : inV y_M_isFirstOfItsVertex b_M_isFirstOfItsVertex 3 (some .boolean) 1 := ⟨kM_y_M_isFirstOfItsVertex, kV_y_M_isFirstOfItsVertex, kI_M, kY_y_M_isFirstOfItsVertex, by decide +kernel⟩
set_option maxHeartbeats 4000000 in
set_option maxRecDepth 100000 in
theorem c_M_isFirstOfItsVertex (l : Launch) (D : va_G) (hm hu hxs hys : Nat) (cZ cI : ClassId) (u : Nat → Bool) (X Y : Nat → Int32) (a : Nat) (ha : a < 40)  : PM l y_M_isFirstOfItsVertex b_M_isFirstOfItsVertex 3 (some .boolean) 1 22 D (mapW hm hu hxs hys cZ cI u X Y) [(cZ, .boolean), (cI, .int)] [.ref hm, .int (nI (a))] (b2i (f_M_isFirstOfItsVertex u X Y a)) := by
  refine pMet rfl (fun p e s m below meth c S hr hlk hP hK ls hl => ?_) (Nat.le_of_ble_eq_true rfl)
  have hx := S.1
  have hb := S.2.1
  have hl : lv_has ls 3 [(0, .ref hm), (1, .int (nI (a)))] := hl
  have key : ∀ (n : Nat) (b : Nat)  (hk : b + n = a)  (ls : Array Slot) (hl : lv_has ls 3 [(0, .ref hm), (1, .int (nI (a))), (2, .int (nI (b)))]) (hf : f_M_isFirstOfItsVertex u X Y a = fl_M_isFirstOfItsVertex u X Y a n b ), W p l e { frames := 1, cells := 0, slots := 0, locals := 22 } s m [.ref hm, .int (nI (a))].toArray below meth c s.heap [] 0 0 (MQ below (pQ (b2i (f_M_isFirstOfItsVertex u X Y a))) [.ref hm, .int (nI (a))].toArray s 0 0 (fun _ => False)) (F0 m 2 ls []) := by
    intro n
    induction n with
    | zero =>
      intro b  hk  ls hl hf
      refine lv_iload_n hx hb d_M_isFirstOfItsVertex_2 rfl (lv_at hl 2 rfl) ?_
      refine lv_iload_n hx hb d_M_isFirstOfItsVertex_3 rfl (lv_at hl 1 rfl) ?_
      refine lv_icmp_ge (tgt := 35) hx hb d_M_isFirstOfItsVertex_4 (by decide) (fun c1 => ?_) (fun c1 => ?_)
      · have c1a : a ≤ b := (nI_leI (a := a) (b := b) (by omega) (by omega)).mp c1
        refine lv_iconst (v := 1) hx hb d_M_isFirstOfItsVertex_35 (by decide) ?_
        exact rretZ S hr hlk (v := true) (hf.trans (show fx_M_isFirstOfItsVertex u X Y a b = true from rfl)).symm d_M_isFirstOfItsVertex_36
      · have c1a : ¬ (a ≤ b) := fun h => c1 ((nI_leI (a := a) (b := b) (by omega) (by omega)).mpr h)
        omega
    | succ n ih =>
      intro b  hk  ls hl hf
      refine lv_iload_n hx hb d_M_isFirstOfItsVertex_2 rfl (lv_at hl 2 rfl) ?_
      refine lv_iload_n hx hb d_M_isFirstOfItsVertex_3 rfl (lv_at hl 1 rfl) ?_
      refine lv_icmp_ge (tgt := 35) hx hb d_M_isFirstOfItsVertex_4 (by decide) (fun c2 => ?_) (fun c2 => ?_)
      · have c2a : a ≤ b := (nI_leI (a := a) (b := b) (by omega) (by omega)).mp c2
        omega
      · have c2a : ¬ (a ≤ b) := fun h => c2 ((nI_leI (a := a) (b := b) (by omega) (by omega)).mpr h)
        refine lv_aload_n hx hb d_M_isFirstOfItsVertex_7 rfl (lv_at hl 0 rfl) ?_
        refine rget S hK hP 0 rfl rfl in_M 0 (by decide) kF_M_9 rfl d_M_isFirstOfItsVertex_8 ?_
        refine lv_iload_n hx hb d_M_isFirstOfItsVertex_11 rfl (lv_at hl 2 rfl) ?_
        refine lv_iconst (v := 2) hx hb d_M_isFirstOfItsVertex_12 (by decide) ?_
        refine lv_idiv hx hb d_M_isFirstOfItsVertex_13 (by decide) ?_
        refine rtop (y := nI (b / 2)) (pk_div (a := b) (d := 2) (by omega) (by decide) (by decide)) ?_
        refine rzald (j := b / 2) S hK hP 1 0 rfl rfl (by omega) (by first | decide | omega) d_M_isFirstOfItsVertex_14 ?_
        refine lv_if_eq (tgt := 29) hx hb d_M_isFirstOfItsVertex_15 (by decide) (fun c3 => ?_) (fun c3 => ?_)
        · have c3a : ¬ (u (b / 2) = true) := b2n (b2i_eq0.mp c3)
          refine lv_iinc (v := nI (b + 1)) (lv' := [(2, .int (nI (b + 1))), (0, .ref hm), (1, .int (nI (a)))]) hx hb d_M_isFirstOfItsVertex_29 hl (k := 2) rfl (nI_1 (b)) (by decide) rfl (fun ls hl => ?_)
          refine lv_goto (tgt := 2) hx hb d_M_isFirstOfItsVertex_32 (by decide) ?_
          exact ih (b + 1) (by omega)  ls (lv_sub hl [1, 2, 0] rfl) (hf.trans (show fb_M_isFirstOfItsVertex u X Y a (fl_M_isFirstOfItsVertex u X Y a n) b = (fl_M_isFirstOfItsVertex u X Y a n (b + 1)) from by unfold fb_M_isFirstOfItsVertex; rw [if_neg c3a]))
        · have c3a : u (b / 2) = true := b2i_ne0.mp c3
          refine lv_aload_n hx hb d_M_isFirstOfItsVertex_18 rfl (lv_at hl 0 rfl) ?_
          refine lv_iload_n hx hb d_M_isFirstOfItsVertex_19 rfl (lv_at hl 1 rfl) ?_
          refine lv_iload_n hx hb d_M_isFirstOfItsVertex_20 rfl (lv_at hl 2 rfl) ?_
          refine rcallV (rest := []) (v := b2i (f_M_sameTail u X Y a b)) S [.int (nI (a)), .int (nI (b))] hK hP [0, 1, 2, 3] rfl [0, 1] rfl (c_M_sameTail l D hm hu hxs hys cZ cI u X Y a b (by omega) (by omega)) i_M_sameTail kL_M_35 ⟨Nat.le_of_ble_eq_true rfl, Nat.le_of_ble_eq_true rfl⟩ (by exact ⟨Nat.zero_le _, Nat.zero_le _⟩) (q0 := 0) (ci := 1) rfl rfl rfl hl.1 rfl (Nat.le_of_ble_eq_true rfl) d_M_isFirstOfItsVertex_21 ?_
          refine lv_if_eq (tgt := 29) hx hb d_M_isFirstOfItsVertex_24 (by decide) (fun c4 => ?_) (fun c4 => ?_)
          · have c4a : ¬ (f_M_sameTail u X Y a b = true) := b2n (b2i_eq0.mp c4)
            refine lv_iinc (v := nI (b + 1)) (lv' := [(2, .int (nI (b + 1))), (0, .ref hm), (1, .int (nI (a)))]) hx hb d_M_isFirstOfItsVertex_29 hl (k := 2) rfl (nI_1 (b)) (by decide) rfl (fun ls hl => ?_)
            refine lv_goto (tgt := 2) hx hb d_M_isFirstOfItsVertex_32 (by decide) ?_
            exact ih (b + 1) (by omega)  ls (lv_sub hl [1, 2, 0] rfl) (hf.trans (show fb_M_isFirstOfItsVertex u X Y a (fl_M_isFirstOfItsVertex u X Y a n) b = (fl_M_isFirstOfItsVertex u X Y a n (b + 1)) from by unfold fb_M_isFirstOfItsVertex; rw [if_pos c3a, if_neg c4a]))
          · have c4a : f_M_sameTail u X Y a b = true := b2i_ne0.mp c4
            refine lv_iconst (v := 0) hx hb d_M_isFirstOfItsVertex_27 (by decide) ?_
            exact rretZ S hr hlk (v := false) (hf.trans (show fb_M_isFirstOfItsVertex u X Y a (fl_M_isFirstOfItsVertex u X Y a n) b = false from by unfold fb_M_isFirstOfItsVertex; rw [if_pos c3a, if_pos c4a])).symm d_M_isFirstOfItsVertex_28
  refine lv_iconst (v := 0) hx hb d_M_isFirstOfItsVertex_0 (by decide) ?_
  refine lv_istore_n (lv' := [(2, .int 0), (0, .ref hm), (1, .int (nI (a)))]) hx hb d_M_isFirstOfItsVertex_1 rfl hl (by decide) rfl (fun ls hl => ?_)
  exact key a 0 (by omega)  ls (lv_sub hl [1, 2, 0] rfl) (show f_M_isFirstOfItsVertex u X Y a = (fl_M_isFirstOfItsVertex u X Y a a 0) from rfl)
def fx_M_startsAtPeak (u : Nat → Bool) (X : Nat → Int32) (Y : Nat → Int32) (a : Nat) (b : Nat)  : Bool := true
def fb_M_startsAtPeak (u : Nat → Bool) (X : Nat → Int32) (Y : Nat → Int32) (a : Nat) (rec : Nat → Bool) (b : Nat)  : Bool := if u (b / 2) = true then (if f_M_sameTail u X Y a b = true then (if (f_M_stepY u X Y b) ≤ 0 then (rec (b + 1)) else false) else (rec (b + 1))) else (rec (b + 1))
def fl_M_startsAtPeak (u : Nat → Bool) (X : Nat → Int32) (Y : Nat → Int32) (a : Nat) : Nat → Nat → Bool
  | 0, b => fx_M_startsAtPeak u X Y a b
  | n + 1, b => fb_M_startsAtPeak u X Y a (fl_M_startsAtPeak u X Y a n) b
def f_M_startsAtPeak (u : Nat → Bool) (X : Nat → Int32) (Y : Nat → Int32) (a : Nat) : Bool := fl_M_startsAtPeak u X Y a 40 0
theorem i_M_startsAtPeak : inV y_M_startsAtPeak b_M_startsAtPeak 3 (some .boolean) 1 := ⟨kM_y_M_startsAtPeak, kV_y_M_startsAtPeak, kI_M, kY_y_M_startsAtPeak, by decide +kernel⟩
set_option maxHeartbeats 4000000 in
set_option maxRecDepth 100000 in
theorem c_M_startsAtPeak (l : Launch) (D : va_G) (hm hu hxs hys : Nat) (cZ cI : ClassId) (u : Nat → Bool) (X Y : Nat → Int32) (a : Nat) (ha : a < 40)  : PM l y_M_startsAtPeak b_M_startsAtPeak 3 (some .boolean) 1 22 D (mapW hm hu hxs hys cZ cI u X Y) [(cZ, .boolean), (cI, .int)] [.ref hm, .int (nI (a))] (b2i (f_M_startsAtPeak u X Y a)) := by
  refine pMet rfl (fun p e s m below meth c S hr hlk hP hK ls hl => ?_) (Nat.le_of_ble_eq_true rfl)
  have hx := S.1
  have hb := S.2.1
  have hl : lv_has ls 3 [(0, .ref hm), (1, .int (nI (a)))] := hl
  have key : ∀ (n : Nat) (b : Nat)  (hk : b + n = 40)  (ls : Array Slot) (hl : lv_has ls 3 [(0, .ref hm), (1, .int (nI (a))), (2, .int (nI (b)))]) (hf : f_M_startsAtPeak u X Y a = fl_M_startsAtPeak u X Y a n b ), W p l e { frames := 1, cells := 0, slots := 0, locals := 22 } s m [.ref hm, .int (nI (a))].toArray below meth c s.heap [] 0 0 (MQ below (pQ (b2i (f_M_startsAtPeak u X Y a))) [.ref hm, .int (nI (a))].toArray s 0 0 (fun _ => False)) (F0 m 2 ls []) := by
    intro n
    induction n with
    | zero =>
      intro b  hk  ls hl hf
      refine lv_iload_n hx hb d_M_startsAtPeak_2 rfl (lv_at hl 2 rfl) ?_
      refine lv_bipush (v := 40) hx hb d_M_startsAtPeak_3 (by decide) ?_
      refine lv_icmp_ge (tgt := 44) hx hb d_M_startsAtPeak_5 (by decide) (fun c1 => ?_) (fun c1 => ?_)
      · have c1a : 40 ≤ b := (nI_leI (a := 40) (b := b) (by decide) (by omega)).mp c1
        refine lv_iconst (v := 1) hx hb d_M_startsAtPeak_44 (by decide) ?_
        exact rretZ S hr hlk (v := true) (hf.trans (show fx_M_startsAtPeak u X Y a b = true from rfl)).symm d_M_startsAtPeak_45
      · have c1a : ¬ (40 ≤ b) := fun h => c1 ((nI_leI (a := 40) (b := b) (by decide) (by omega)).mpr h)
        omega
    | succ n ih =>
      intro b  hk  ls hl hf
      refine lv_iload_n hx hb d_M_startsAtPeak_2 rfl (lv_at hl 2 rfl) ?_
      refine lv_bipush (v := 40) hx hb d_M_startsAtPeak_3 (by decide) ?_
      refine lv_icmp_ge (tgt := 44) hx hb d_M_startsAtPeak_5 (by decide) (fun c2 => ?_) (fun c2 => ?_)
      · have c2a : 40 ≤ b := (nI_leI (a := 40) (b := b) (by decide) (by omega)).mp c2
        omega
      · have c2a : ¬ (40 ≤ b) := fun h => c2 ((nI_leI (a := 40) (b := b) (by decide) (by omega)).mpr h)
        refine lv_aload_n hx hb d_M_startsAtPeak_8 rfl (lv_at hl 0 rfl) ?_
        refine rget S hK hP 0 rfl rfl in_M 0 (by decide) kF_M_9 rfl d_M_startsAtPeak_9 ?_
        refine lv_iload_n hx hb d_M_startsAtPeak_12 rfl (lv_at hl 2 rfl) ?_
        refine lv_iconst (v := 2) hx hb d_M_startsAtPeak_13 (by decide) ?_
        refine lv_idiv hx hb d_M_startsAtPeak_14 (by decide) ?_
        refine rtop (y := nI (b / 2)) (pk_div (a := b) (d := 2) (by omega) (by decide) (by decide)) ?_
        refine rzald (j := b / 2) S hK hP 1 0 rfl rfl (by omega) (by first | decide | omega) d_M_startsAtPeak_15 ?_
        refine lv_if_eq (tgt := 38) hx hb d_M_startsAtPeak_16 (by decide) (fun c3 => ?_) (fun c3 => ?_)
        · have c3a : ¬ (u (b / 2) = true) := b2n (b2i_eq0.mp c3)
          refine lv_iinc (v := nI (b + 1)) (lv' := [(2, .int (nI (b + 1))), (0, .ref hm), (1, .int (nI (a)))]) hx hb d_M_startsAtPeak_38 hl (k := 2) rfl (nI_1 (b)) (by decide) rfl (fun ls hl => ?_)
          refine lv_goto (tgt := 2) hx hb d_M_startsAtPeak_41 (by decide) ?_
          exact ih (b + 1) (by omega)  ls (lv_sub hl [1, 2, 0] rfl) (hf.trans (show fb_M_startsAtPeak u X Y a (fl_M_startsAtPeak u X Y a n) b = (fl_M_startsAtPeak u X Y a n (b + 1)) from by unfold fb_M_startsAtPeak; rw [if_neg c3a]))
        · have c3a : u (b / 2) = true := b2i_ne0.mp c3
          refine lv_aload_n hx hb d_M_startsAtPeak_19 rfl (lv_at hl 0 rfl) ?_
          refine lv_iload_n hx hb d_M_startsAtPeak_20 rfl (lv_at hl 1 rfl) ?_
          refine lv_iload_n hx hb d_M_startsAtPeak_21 rfl (lv_at hl 2 rfl) ?_
          refine rcallV (rest := []) (v := b2i (f_M_sameTail u X Y a b)) S [.int (nI (a)), .int (nI (b))] hK hP [0, 1, 2, 3] rfl [0, 1] rfl (c_M_sameTail l D hm hu hxs hys cZ cI u X Y a b (by omega) (by omega)) i_M_sameTail kL_M_35 ⟨Nat.le_of_ble_eq_true rfl, Nat.le_of_ble_eq_true rfl⟩ (by exact ⟨Nat.zero_le _, Nat.zero_le _⟩) (q0 := 0) (ci := 1) rfl rfl rfl hl.1 rfl (Nat.le_of_ble_eq_true rfl) d_M_startsAtPeak_22 ?_
          refine lv_if_eq (tgt := 38) hx hb d_M_startsAtPeak_25 (by decide) (fun c4 => ?_) (fun c4 => ?_)
          · have c4a : ¬ (f_M_sameTail u X Y a b = true) := b2n (b2i_eq0.mp c4)
            refine lv_iinc (v := nI (b + 1)) (lv' := [(2, .int (nI (b + 1))), (0, .ref hm), (1, .int (nI (a)))]) hx hb d_M_startsAtPeak_38 hl (k := 2) rfl (nI_1 (b)) (by decide) rfl (fun ls hl => ?_)
            refine lv_goto (tgt := 2) hx hb d_M_startsAtPeak_41 (by decide) ?_
            exact ih (b + 1) (by omega)  ls (lv_sub hl [1, 2, 0] rfl) (hf.trans (show fb_M_startsAtPeak u X Y a (fl_M_startsAtPeak u X Y a n) b = (fl_M_startsAtPeak u X Y a n (b + 1)) from by unfold fb_M_startsAtPeak; rw [if_pos c3a, if_neg c4a]))
          · have c4a : f_M_sameTail u X Y a b = true := b2i_ne0.mp c4
            refine lv_aload_n hx hb d_M_startsAtPeak_28 rfl (lv_at hl 0 rfl) ?_
            refine lv_iload_n hx hb d_M_startsAtPeak_29 rfl (lv_at hl 2 rfl) ?_
            refine rcallV (rest := []) (v := (f_M_stepY u X Y b)) S [.int (nI (b))] hK hP [0, 1, 2, 3] rfl [0, 1] rfl (c_M_stepY l D hm hu hxs hys cZ cI u X Y b (by omega)) i_M_stepY kL_M_50 ⟨Nat.le_of_ble_eq_true rfl, Nat.le_of_ble_eq_true rfl⟩ (by exact ⟨Nat.zero_le _, Nat.zero_le _⟩) (q0 := 0) (ci := 1) rfl rfl rfl hl.1 rfl (Nat.le_of_ble_eq_true rfl) d_M_startsAtPeak_30 ?_
            refine lv_if_le (tgt := 38) hx hb d_M_startsAtPeak_33 (by decide) (fun c5 => ?_) (fun c5 => ?_)
            · have c5a : (f_M_stepY u X Y b) ≤ 0 := c5
              refine lv_iinc (v := nI (b + 1)) (lv' := [(2, .int (nI (b + 1))), (0, .ref hm), (1, .int (nI (a)))]) hx hb d_M_startsAtPeak_38 hl (k := 2) rfl (nI_1 (b)) (by decide) rfl (fun ls hl => ?_)
              refine lv_goto (tgt := 2) hx hb d_M_startsAtPeak_41 (by decide) ?_
              exact ih (b + 1) (by omega)  ls (lv_sub hl [1, 2, 0] rfl) (hf.trans (show fb_M_startsAtPeak u X Y a (fl_M_startsAtPeak u X Y a n) b = (fl_M_startsAtPeak u X Y a n (b + 1)) from by unfold fb_M_startsAtPeak; rw [if_pos c3a, if_pos c4a, if_pos c5a]))
            · have c5a : ¬ ((f_M_stepY u X Y b) ≤ 0) := c5
              refine lv_iconst (v := 0) hx hb d_M_startsAtPeak_36 (by decide) ?_
              exact rretZ S hr hlk (v := false) (hf.trans (show fb_M_startsAtPeak u X Y a (fl_M_startsAtPeak u X Y a n) b = false from by unfold fb_M_startsAtPeak; rw [if_pos c3a, if_pos c4a, if_neg c5a])).symm d_M_startsAtPeak_37
  refine lv_iconst (v := 0) hx hb d_M_startsAtPeak_0 (by decide) ?_
  refine lv_istore_n (lv' := [(2, .int 0), (0, .ref hm), (1, .int (nI (a)))]) hx hb d_M_startsAtPeak_1 rfl hl (by decide) rfl (fun ls hl => ?_)
  exact key 40 0 (by omega)  ls (lv_sub hl [1, 2, 0] rfl) (show f_M_startsAtPeak u X Y a = (fl_M_startsAtPeak u X Y a 40 0) from rfl)
def fx_M_endsAt (u : Nat → Bool) (X : Nat → Int32) (Y : Nat → Int32) (x : Int32) (y : Int32) (a : Nat) (cnt : Nat) : Nat := cnt
def fb_M_endsAt (u : Nat → Bool) (X : Nat → Int32) (Y : Nat → Int32) (x : Int32) (y : Int32) (rec : Nat → Nat → Nat) (a : Nat) (cnt : Nat) : Nat := if u (a / 2) = true then (if X a = x then (if Y a = y then (rec (a + 1) (cnt + 1)) else (rec (a + 1) cnt)) else (rec (a + 1) cnt)) else (rec (a + 1) cnt)
def fl_M_endsAt (u : Nat → Bool) (X : Nat → Int32) (Y : Nat → Int32) (x : Int32) (y : Int32) : Nat → Nat → Nat → Nat
  | 0, a, cnt => fx_M_endsAt u X Y x y a cnt
  | n + 1, a, cnt => fb_M_endsAt u X Y x y (fl_M_endsAt u X Y x y n) a cnt
def f_M_endsAt (u : Nat → Bool) (X : Nat → Int32) (Y : Nat → Int32) (x : Int32) (y : Int32) : Nat := fl_M_endsAt u X Y x y 40 0 0
theorem i_M_endsAt : inV y_M_endsAt b_M_endsAt 5 (some .int) 2 := ⟨kM_y_M_endsAt, kV_y_M_endsAt, kI_M, kY_y_M_endsAt, by decide +kernel⟩
set_option maxHeartbeats 4000000 in
set_option maxRecDepth 100000 in
theorem c_M_endsAt (l : Launch) (D : va_G) (hm hu hxs hys : Nat) (cZ cI : ClassId) (u : Nat → Bool) (X Y : Nat → Int32) (x : Int32) (y : Int32)   : PM l y_M_endsAt b_M_endsAt 5 (some .int) 0 0 D (mapW hm hu hxs hys cZ cI u X Y) [(cZ, .boolean), (cI, .int)] [.ref hm, .int x, .int y] (nI (f_M_endsAt u X Y x y)) := by
  refine pMet rfl (fun p e s m below meth c S hr hlk hP hK ls hl => ?_) (Nat.le_of_ble_eq_true rfl)
  have hx := S.1
  have hb := S.2.1
  have hl : lv_has ls 5 [(0, .ref hm), (1, .int x), (2, .int y)] := hl
  have key : ∀ (n : Nat) (a : Nat) (cnt : Nat) (hk : a + n = 40)  (ls : Array Slot) (hl : lv_has ls 5 [(0, .ref hm), (1, .int x), (2, .int y), (3, .int (nI (cnt))), (4, .int (nI (a)))]) (hf : f_M_endsAt u X Y x y = fl_M_endsAt u X Y x y n a cnt), W p l e { frames := 0, cells := 0, slots := 0, locals := 0 } s m [.ref hm, .int x, .int y].toArray below meth c s.heap [] 0 0 (MQ below (pQ (nI (f_M_endsAt u X Y x y))) [.ref hm, .int x, .int y].toArray s 0 0 (fun _ => False)) (F0 m 5 ls []) := by
    intro n
    induction n with
    | zero =>
      intro a cnt hk  ls hl hf
      refine lv_iload hx hb d_M_endsAt_5 (lv_at hl 4 rfl) ?_
      refine lv_bipush (v := 40) hx hb d_M_endsAt_7 (by decide) ?_
      refine lv_icmp_ge (tgt := 55) hx hb d_M_endsAt_9 (by decide) (fun c1 => ?_) (fun c1 => ?_)
      · have c1a : 40 ≤ a := (nI_leI (a := 40) (b := a) (by decide) (by omega)).mp c1
        refine lv_iload_n hx hb d_M_endsAt_55 rfl (lv_at hl 3 rfl) ?_
        exact rret S hr hlk (v := nI (cnt)) (congrArg nI (hf.trans (show fx_M_endsAt u X Y x y a cnt = cnt from rfl)).symm) d_M_endsAt_56
      · have c1a : ¬ (40 ≤ a) := fun h => c1 ((nI_leI (a := 40) (b := a) (by decide) (by omega)).mpr h)
        omega
    | succ n ih =>
      intro a cnt hk  ls hl hf
      refine lv_iload hx hb d_M_endsAt_5 (lv_at hl 4 rfl) ?_
      refine lv_bipush (v := 40) hx hb d_M_endsAt_7 (by decide) ?_
      refine lv_icmp_ge (tgt := 55) hx hb d_M_endsAt_9 (by decide) (fun c2 => ?_) (fun c2 => ?_)
      · have c2a : 40 ≤ a := (nI_leI (a := 40) (b := a) (by decide) (by omega)).mp c2
        omega
      · have c2a : ¬ (40 ≤ a) := fun h => c2 ((nI_leI (a := 40) (b := a) (by decide) (by omega)).mpr h)
        refine lv_aload_n hx hb d_M_endsAt_12 rfl (lv_at hl 0 rfl) ?_
        refine rget S hK hP 0 rfl rfl in_M 0 (by decide) kF_M_9 rfl d_M_endsAt_13 ?_
        refine lv_iload hx hb d_M_endsAt_16 (lv_at hl 4 rfl) ?_
        refine lv_iconst (v := 2) hx hb d_M_endsAt_18 (by decide) ?_
        refine lv_idiv hx hb d_M_endsAt_19 (by decide) ?_
        refine rtop (y := nI (a / 2)) (pk_div (a := a) (d := 2) (by omega) (by decide) (by decide)) ?_
        refine rzald (j := a / 2) S hK hP 1 0 rfl rfl (by omega) (by first | decide | omega) d_M_endsAt_20 ?_
        refine lv_if_eq (tgt := 49) hx hb d_M_endsAt_21 (by decide) (fun c3 => ?_) (fun c3 => ?_)
        · have c3a : ¬ (u (a / 2) = true) := b2n (b2i_eq0.mp c3)
          refine lv_iinc (v := nI (a + 1)) (lv' := [(4, .int (nI (a + 1))), (0, .ref hm), (1, .int x), (2, .int y), (3, .int (nI (cnt)))]) hx hb d_M_endsAt_49 hl (k := 4) rfl (nI_1 (a)) (by decide) rfl (fun ls hl => ?_)
          refine lv_goto (tgt := 5) hx hb d_M_endsAt_52 (by decide) ?_
          exact ih (a + 1) cnt (by omega)  ls (lv_sub hl [1, 2, 3, 4, 0] rfl) (hf.trans (show fb_M_endsAt u X Y x y (fl_M_endsAt u X Y x y n) a cnt = (fl_M_endsAt u X Y x y n (a + 1) cnt) from by unfold fb_M_endsAt; rw [if_neg c3a]))
        · have c3a : u (a / 2) = true := b2i_ne0.mp c3
          refine lv_aload_n hx hb d_M_endsAt_24 rfl (lv_at hl 0 rfl) ?_
          refine rget S hK hP 0 rfl rfl in_M 1 (by decide) kF_M_15 rfl d_M_endsAt_25 ?_
          refine lv_iload hx hb d_M_endsAt_28 (lv_at hl 4 rfl) ?_
          refine riald (j := a) S hK hP 2 1 rfl rfl (by omega) (by first | decide | omega) d_M_endsAt_30 ?_
          refine lv_iload_n hx hb d_M_endsAt_31 rfl (lv_at hl 1 rfl) ?_
          refine lv_icmp_ne (tgt := 49) hx hb d_M_endsAt_32 (by decide) (fun c4 => ?_) (fun c4 => ?_)
          · have c4a : ¬ (X a = x) := c4
            refine lv_iinc (v := nI (a + 1)) (lv' := [(4, .int (nI (a + 1))), (0, .ref hm), (1, .int x), (2, .int y), (3, .int (nI (cnt)))]) hx hb d_M_endsAt_49 hl (k := 4) rfl (nI_1 (a)) (by decide) rfl (fun ls hl => ?_)
            refine lv_goto (tgt := 5) hx hb d_M_endsAt_52 (by decide) ?_
            exact ih (a + 1) cnt (by omega)  ls (lv_sub hl [1, 2, 3, 4, 0] rfl) (hf.trans (show fb_M_endsAt u X Y x y (fl_M_endsAt u X Y x y n) a cnt = (fl_M_endsAt u X Y x y n (a + 1) cnt) from by unfold fb_M_endsAt; rw [if_pos c3a, if_neg c4a]))
          · have c4a : X a = x := c4
            refine lv_aload_n hx hb d_M_endsAt_35 rfl (lv_at hl 0 rfl) ?_
            refine rget S hK hP 0 rfl rfl in_M 2 (by decide) kF_M_19 rfl d_M_endsAt_36 ?_
            refine lv_iload hx hb d_M_endsAt_39 (lv_at hl 4 rfl) ?_
            refine riald (j := a) S hK hP 3 1 rfl rfl (by omega) (by first | decide | omega) d_M_endsAt_41 ?_
            refine lv_iload_n hx hb d_M_endsAt_42 rfl (lv_at hl 2 rfl) ?_
            refine lv_icmp_ne (tgt := 49) hx hb d_M_endsAt_43 (by decide) (fun c5 => ?_) (fun c5 => ?_)
            · have c5a : ¬ (Y a = y) := c5
              refine lv_iinc (v := nI (a + 1)) (lv' := [(4, .int (nI (a + 1))), (0, .ref hm), (1, .int x), (2, .int y), (3, .int (nI (cnt)))]) hx hb d_M_endsAt_49 hl (k := 4) rfl (nI_1 (a)) (by decide) rfl (fun ls hl => ?_)
              refine lv_goto (tgt := 5) hx hb d_M_endsAt_52 (by decide) ?_
              exact ih (a + 1) cnt (by omega)  ls (lv_sub hl [1, 2, 3, 4, 0] rfl) (hf.trans (show fb_M_endsAt u X Y x y (fl_M_endsAt u X Y x y n) a cnt = (fl_M_endsAt u X Y x y n (a + 1) cnt) from by unfold fb_M_endsAt; rw [if_pos c3a, if_pos c4a, if_neg c5a]))
            · have c5a : Y a = y := c5
              refine lv_iinc (v := nI (cnt + 1)) (lv' := [(3, .int (nI (cnt + 1))), (0, .ref hm), (1, .int x), (2, .int y), (4, .int (nI (a)))]) hx hb d_M_endsAt_46 hl (k := 3) rfl (nI_1 (cnt)) (by decide) rfl (fun ls hl => ?_)
              refine lv_iinc (v := nI (a + 1)) (lv' := [(4, .int (nI (a + 1))), (3, .int (nI (cnt + 1))), (0, .ref hm), (1, .int x), (2, .int y)]) hx hb d_M_endsAt_49 hl (k := 4) rfl (nI_1 (a)) (by decide) rfl (fun ls hl => ?_)
              refine lv_goto (tgt := 5) hx hb d_M_endsAt_52 (by decide) ?_
              exact ih (a + 1) (cnt + 1) (by omega)  ls (lv_sub hl [2, 3, 4, 1, 0] rfl) (hf.trans (show fb_M_endsAt u X Y x y (fl_M_endsAt u X Y x y n) a cnt = (fl_M_endsAt u X Y x y n (a + 1) (cnt + 1)) from by unfold fb_M_endsAt; rw [if_pos c3a, if_pos c4a, if_pos c5a]))
  refine lv_iconst (v := 0) hx hb d_M_endsAt_0 (by decide) ?_
  refine lv_istore_n (lv' := [(3, .int 0), (0, .ref hm), (1, .int x), (2, .int y)]) hx hb d_M_endsAt_1 rfl hl (by decide) rfl (fun ls hl => ?_)
  refine lv_iconst (v := 0) hx hb d_M_endsAt_2 (by decide) ?_
  refine lv_istore (lv' := [(4, .int 0), (3, .int 0), (0, .ref hm), (1, .int x), (2, .int y)]) hx hb d_M_endsAt_3 hl (by decide) rfl (fun ls hl => ?_)
  exact key 40 0 0 (by omega)  ls (lv_sub hl [2, 3, 4, 1, 0] rfl) (show f_M_endsAt u X Y x y = (fl_M_endsAt u X Y x y 40 0 0) from rfl)
def fx_M_segmentAround (u : Nat → Bool) (X : Nat → Int32) (Y : Nat → Int32) (x : Int32) (y : Int32) (k : Nat)  : Int32 := (-1)
def fb_M_segmentAround (u : Nat → Bool) (X : Nat → Int32) (Y : Nat → Int32) (x : Int32) (y : Int32) (rec : Nat → Int32) (k : Nat)  : Int32 := if u k = true then (if f_M_isInside u X Y k x y = true then (nI (k)) else (rec (k + 1))) else (rec (k + 1))
def fl_M_segmentAround (u : Nat → Bool) (X : Nat → Int32) (Y : Nat → Int32) (x : Int32) (y : Int32) : Nat → Nat → Int32
  | 0, k => fx_M_segmentAround u X Y x y k
  | n + 1, k => fb_M_segmentAround u X Y x y (fl_M_segmentAround u X Y x y n) k
def f_M_segmentAround (u : Nat → Bool) (X : Nat → Int32) (Y : Nat → Int32) (x : Int32) (y : Int32) : Int32 := fl_M_segmentAround u X Y x y 20 0
theorem i_M_segmentAround : inV y_M_segmentAround b_M_segmentAround 4 (some .int) 2 := ⟨kM_y_M_segmentAround, kV_y_M_segmentAround, kI_M, kY_y_M_segmentAround, by decide +kernel⟩
set_option maxHeartbeats 4000000 in
set_option maxRecDepth 100000 in
theorem c_M_segmentAround (l : Launch) (D : va_G) (hm hu hxs hys : Nat) (cZ cI : ClassId) (u : Nat → Bool) (X Y : Nat → Int32) (x : Int32) (y : Int32)   : PM l y_M_segmentAround b_M_segmentAround 4 (some .int) 3 72 D (mapW hm hu hxs hys cZ cI u X Y) [(cZ, .boolean), (cI, .int)] [.ref hm, .int x, .int y] (f_M_segmentAround u X Y x y) := by
  refine pMet rfl (fun p e s m below meth c S hr hlk hP hK ls hl => ?_) (Nat.le_of_ble_eq_true rfl)
  have hx := S.1
  have hb := S.2.1
  have hl : lv_has ls 4 [(0, .ref hm), (1, .int x), (2, .int y)] := hl
  have key : ∀ (n : Nat) (k : Nat)  (hk : k + n = 20)  (ls : Array Slot) (hl : lv_has ls 4 [(0, .ref hm), (1, .int x), (2, .int y), (3, .int (nI (k)))]) (hf : f_M_segmentAround u X Y x y = fl_M_segmentAround u X Y x y n k ), W p l e { frames := 3, cells := 0, slots := 0, locals := 72 } s m [.ref hm, .int x, .int y].toArray below meth c s.heap [] 0 0 (MQ below (pQ ((f_M_segmentAround u X Y x y))) [.ref hm, .int x, .int y].toArray s 0 0 (fun _ => False)) (F0 m 2 ls []) := by
    intro n
    induction n with
    | zero =>
      intro k  hk  ls hl hf
      refine lv_iload_n hx hb d_M_segmentAround_2 rfl (lv_at hl 3 rfl) ?_
      refine lv_bipush (v := 20) hx hb d_M_segmentAround_3 (by decide) ?_
      refine lv_icmp_ge (tgt := 35) hx hb d_M_segmentAround_5 (by decide) (fun c1 => ?_) (fun c1 => ?_)
      · have c1a : 20 ≤ k := (nI_leI (a := 20) (b := k) (by decide) (by omega)).mp c1
        refine lv_iconst (v := (-1)) hx hb d_M_segmentAround_35 (by decide) ?_
        exact rret S hr hlk (v := (-1)) (hf.trans (show fx_M_segmentAround u X Y x y k = (-1) from rfl)).symm d_M_segmentAround_36
      · have c1a : ¬ (20 ≤ k) := fun h => c1 ((nI_leI (a := 20) (b := k) (by decide) (by omega)).mpr h)
        omega
    | succ n ih =>
      intro k  hk  ls hl hf
      refine lv_iload_n hx hb d_M_segmentAround_2 rfl (lv_at hl 3 rfl) ?_
      refine lv_bipush (v := 20) hx hb d_M_segmentAround_3 (by decide) ?_
      refine lv_icmp_ge (tgt := 35) hx hb d_M_segmentAround_5 (by decide) (fun c2 => ?_) (fun c2 => ?_)
      · have c2a : 20 ≤ k := (nI_leI (a := 20) (b := k) (by decide) (by omega)).mp c2
        omega
      · have c2a : ¬ (20 ≤ k) := fun h => c2 ((nI_leI (a := 20) (b := k) (by decide) (by omega)).mpr h)
        refine lv_aload_n hx hb d_M_segmentAround_8 rfl (lv_at hl 0 rfl) ?_
        refine rget S hK hP 0 rfl rfl in_M 0 (by decide) kF_M_9 rfl d_M_segmentAround_9 ?_
        refine lv_iload_n hx hb d_M_segmentAround_12 rfl (lv_at hl 3 rfl) ?_
        refine rzald (j := k) S hK hP 1 0 rfl rfl (by omega) (by first | decide | omega) d_M_segmentAround_13 ?_
        refine lv_if_eq (tgt := 29) hx hb d_M_segmentAround_14 (by decide) (fun c3 => ?_) (fun c3 => ?_)
        · have c3a : ¬ (u k = true) := b2n (b2i_eq0.mp c3)
          refine lv_iinc (v := nI (k + 1)) (lv' := [(3, .int (nI (k + 1))), (0, .ref hm), (1, .int x), (2, .int y)]) hx hb d_M_segmentAround_29 hl (k := 3) rfl (nI_1 (k)) (by decide) rfl (fun ls hl => ?_)
          refine lv_goto (tgt := 2) hx hb d_M_segmentAround_32 (by decide) ?_
          exact ih (k + 1) (by omega)  ls (lv_sub hl [1, 2, 3, 0] rfl) (hf.trans (show fb_M_segmentAround u X Y x y (fl_M_segmentAround u X Y x y n) k = (fl_M_segmentAround u X Y x y n (k + 1)) from by unfold fb_M_segmentAround; rw [if_neg c3a]))
        · have c3a : u k = true := b2i_ne0.mp c3
          refine lv_aload_n hx hb d_M_segmentAround_17 rfl (lv_at hl 0 rfl) ?_
          refine lv_iload_n hx hb d_M_segmentAround_18 rfl (lv_at hl 3 rfl) ?_
          refine lv_iload_n hx hb d_M_segmentAround_19 rfl (lv_at hl 1 rfl) ?_
          refine lv_iload_n hx hb d_M_segmentAround_20 rfl (lv_at hl 2 rfl) ?_
          refine rcallV (rest := []) (v := b2i (f_M_isInside u X Y k x y)) S [.int (nI (k)), .int x, .int y] hK hP [0, 1, 2, 3] rfl [0, 1] rfl (c_M_isInside l D hm hu hxs hys cZ cI u X Y k x y (by omega)) i_M_isInside kL_M_38 ⟨Nat.le_of_ble_eq_true rfl, Nat.le_of_ble_eq_true rfl⟩ (by exact ⟨Nat.zero_le _, Nat.zero_le _⟩) (q0 := 0) (ci := 1) rfl rfl rfl hl.1 rfl (Nat.le_of_ble_eq_true rfl) d_M_segmentAround_21 ?_
          refine lv_if_eq (tgt := 29) hx hb d_M_segmentAround_24 (by decide) (fun c4 => ?_) (fun c4 => ?_)
          · have c4a : ¬ (f_M_isInside u X Y k x y = true) := b2n (b2i_eq0.mp c4)
            refine lv_iinc (v := nI (k + 1)) (lv' := [(3, .int (nI (k + 1))), (0, .ref hm), (1, .int x), (2, .int y)]) hx hb d_M_segmentAround_29 hl (k := 3) rfl (nI_1 (k)) (by decide) rfl (fun ls hl => ?_)
            refine lv_goto (tgt := 2) hx hb d_M_segmentAround_32 (by decide) ?_
            exact ih (k + 1) (by omega)  ls (lv_sub hl [1, 2, 3, 0] rfl) (hf.trans (show fb_M_segmentAround u X Y x y (fl_M_segmentAround u X Y x y n) k = (fl_M_segmentAround u X Y x y n (k + 1)) from by unfold fb_M_segmentAround; rw [if_pos c3a, if_neg c4a]))
          · have c4a : f_M_isInside u X Y k x y = true := b2i_ne0.mp c4
            refine lv_iload_n hx hb d_M_segmentAround_27 rfl (lv_at hl 3 rfl) ?_
            exact rret S hr hlk (v := nI (k)) (hf.trans (show fb_M_segmentAround u X Y x y (fl_M_segmentAround u X Y x y n) k = (nI (k)) from by unfold fb_M_segmentAround; rw [if_pos c3a, if_pos c4a])).symm d_M_segmentAround_28
  refine lv_iconst (v := 0) hx hb d_M_segmentAround_0 (by decide) ?_
  refine lv_istore_n (lv' := [(3, .int 0), (0, .ref hm), (1, .int x), (2, .int y)]) hx hb d_M_segmentAround_1 rfl hl (by decide) rfl (fun ls hl => ?_)
  exact key 20 0 (by omega)  ls (lv_sub hl [1, 2, 3, 0] rfl) (show f_M_segmentAround u X Y x y = (fl_M_segmentAround u X Y x y 20 0) from rfl)
end
section
def fx_M_struckAbove (u : Nat → Bool) (X : Nat → Int32) (Y : Nat → Int32) (x : Int32) (y : Int32) (k : Nat) (best : Int32) (br : Int32) (bn : Int32) : Int32 := best
def fb_M_struckAbove (u : Nat → Bool) (X : Nat → Int32) (Y : Nat → Int32) (x : Int32) (y : Int32) (rec : Nat → Int32 → Int32 → Int32 → Int32) (k : Nat) (best : Int32) (br : Int32) (bn : Int32) : Int32 := if u k = true then (if x < X (2 * k) then (rec (k + 1) best br bn) else (if x ≤ X ((2 * k) + 1) then (if (((Y (2 * k) - y) * (if 1 < (f_M_stepX u X Y (2 * k)) then (f_M_stepX u X Y (2 * k)) else 1)) + ((f_M_stepY u X Y (2 * k)) * (x - X (2 * k)))) ≤ 0 then (rec (k + 1) best br bn) else (if best = (-1) then (rec (k + 1) (nI (k)) (((Y (2 * k) - y) * (if 1 < (f_M_stepX u X Y (2 * k)) then (f_M_stepX u X Y (2 * k)) else 1)) + ((f_M_stepY u X Y (2 * k)) * (x - X (2 * k)))) (if 1 < (f_M_stepX u X Y (2 * k)) then (f_M_stepX u X Y (2 * k)) else 1)) else (if (br * (if 1 < (f_M_stepX u X Y (2 * k)) then (f_M_stepX u X Y (2 * k)) else 1)) ≤ ((((Y (2 * k) - y) * (if 1 < (f_M_stepX u X Y (2 * k)) then (f_M_stepX u X Y (2 * k)) else 1)) + ((f_M_stepY u X Y (2 * k)) * (x - X (2 * k)))) * bn) then (rec (k + 1) best br bn) else (rec (k + 1) (nI (k)) (((Y (2 * k) - y) * (if 1 < (f_M_stepX u X Y (2 * k)) then (f_M_stepX u X Y (2 * k)) else 1)) + ((f_M_stepY u X Y (2 * k)) * (x - X (2 * k)))) (if 1 < (f_M_stepX u X Y (2 * k)) then (f_M_stepX u X Y (2 * k)) else 1))))) else (rec (k + 1) best br bn))) else (rec (k + 1) best br bn)
def fl_M_struckAbove (u : Nat → Bool) (X : Nat → Int32) (Y : Nat → Int32) (x : Int32) (y : Int32) : Nat → Nat → Int32 → Int32 → Int32 → Int32
  | 0, k, best, br, bn => fx_M_struckAbove u X Y x y k best br bn
  | n + 1, k, best, br, bn => fb_M_struckAbove u X Y x y (fl_M_struckAbove u X Y x y n) k best br bn
def f_M_struckAbove (u : Nat → Bool) (X : Nat → Int32) (Y : Nat → Int32) (x : Int32) (y : Int32) : Int32 := fl_M_struckAbove u X Y x y 20 0 (-1) 0 1
theorem i_M_struckAbove : inV y_M_struckAbove b_M_struckAbove 10 (some .int) 2 := ⟨kM_y_M_struckAbove, kV_y_M_struckAbove, kI_M, kY_y_M_struckAbove, by decide +kernel⟩
set_option maxHeartbeats 4000000 in
set_option maxRecDepth 100000 in
theorem c_M_struckAbove (l : Launch) (D : va_G) (hm hu hxs hys : Nat) (cZ cI : ClassId) (u : Nat → Bool) (X Y : Nat → Int32) (x : Int32) (y : Int32)   : PM l y_M_struckAbove b_M_struckAbove 10 (some .int) 1 21 D (mapW hm hu hxs hys cZ cI u X Y) [(cZ, .boolean), (cI, .int)] [.ref hm, .int x, .int y] (f_M_struckAbove u X Y x y) := by
  refine pMet rfl (fun p e s m below meth c S hr hlk hP hK ls hl => ?_) (Nat.le_of_ble_eq_true rfl)
  have hx := S.1
  have hb := S.2.1
  have hl : lv_has ls 10 [(0, .ref hm), (1, .int x), (2, .int y)] := hl
  have key : ∀ (n : Nat) (k : Nat) (best : Int32) (br : Int32) (bn : Int32) (hk : k + n = 20)  (ls : Array Slot) (hl : lv_has ls 10 [(0, .ref hm), (1, .int x), (2, .int y), (3, .int best), (4, .int br), (5, .int bn), (6, .int (nI (k)))]) (hf : f_M_struckAbove u X Y x y = fl_M_struckAbove u X Y x y n k best br bn), W p l e { frames := 1, cells := 0, slots := 0, locals := 21 } s m [.ref hm, .int x, .int y].toArray below meth c s.heap [] 0 0 (MQ below (pQ ((f_M_struckAbove u X Y x y))) [.ref hm, .int x, .int y].toArray s 0 0 (fun _ => False)) (F0 m 11 ls []) := by
    intro n
    induction n with
    | zero =>
      intro k best br bn hk  ls hl hf
      refine lv_iload hx hb d_M_struckAbove_11 (lv_at hl 6 rfl) ?_
      refine lv_bipush (v := 20) hx hb d_M_struckAbove_13 (by decide) ?_
      refine lv_icmp_ge (tgt := 144) hx hb d_M_struckAbove_15 (by decide) (fun c1 => ?_) (fun c1 => ?_)
      · have c1a : 20 ≤ k := (nI_leI (a := 20) (b := k) (by decide) (by omega)).mp c1
        refine lv_iload_n hx hb d_M_struckAbove_144 rfl (lv_at hl 3 rfl) ?_
        exact rret S hr hlk (v := best) (hf.trans (show fx_M_struckAbove u X Y x y k best br bn = best from rfl)).symm d_M_struckAbove_145
      · have c1a : ¬ (20 ≤ k) := fun h => c1 ((nI_leI (a := 20) (b := k) (by decide) (by omega)).mpr h)
        omega
    | succ n ih =>
      intro k best br bn hk  ls hl hf
      refine lv_iload hx hb d_M_struckAbove_11 (lv_at hl 6 rfl) ?_
      refine lv_bipush (v := 20) hx hb d_M_struckAbove_13 (by decide) ?_
      refine lv_icmp_ge (tgt := 144) hx hb d_M_struckAbove_15 (by decide) (fun c2 => ?_) (fun c2 => ?_)
      · have c2a : 20 ≤ k := (nI_leI (a := 20) (b := k) (by decide) (by omega)).mp c2
        omega
      · have c2a : ¬ (20 ≤ k) := fun h => c2 ((nI_leI (a := 20) (b := k) (by decide) (by omega)).mpr h)
        refine lv_iconst (v := 2) hx hb d_M_struckAbove_18 (by decide) ?_
        refine lv_iload hx hb d_M_struckAbove_19 (lv_at hl 6 rfl) ?_
        refine lv_imul hx hb d_M_struckAbove_21 ?_
        refine rtop (y := nI (2 * k)) (pk_mul (2) (k)) ?_
        refine lv_istore (lv' := [(7, .int (nI (2 * k))), (0, .ref hm), (1, .int x), (2, .int y), (3, .int best), (4, .int br), (5, .int bn), (6, .int (nI (k)))]) hx hb d_M_struckAbove_22 hl (by decide) rfl (fun ls hl => ?_)
        refine lv_aload_n hx hb d_M_struckAbove_24 rfl (lv_at hl 1 rfl) ?_
        refine rget S hK hP 0 rfl rfl in_M 0 (by decide) kF_M_9 rfl d_M_struckAbove_25 ?_
        refine lv_iload hx hb d_M_struckAbove_28 (lv_at hl 7 rfl) ?_
        refine rzald (j := k) S hK hP 1 0 rfl rfl (by omega) (by first | decide | omega) d_M_struckAbove_30 ?_
        refine lv_if_eq (tgt := 138) hx hb d_M_struckAbove_31 (by decide) (fun c3 => ?_) (fun c3 => ?_)
        · have c3a : ¬ (u k = true) := b2n (b2i_eq0.mp c3)
          refine lv_iinc (v := nI (k + 1)) (lv' := [(6, .int (nI (k + 1))), (7, .int (nI (2 * k))), (0, .ref hm), (1, .int x), (2, .int y), (3, .int best), (4, .int br), (5, .int bn)]) hx hb d_M_struckAbove_138 hl (k := 7) rfl (nI_1 (k)) (by decide) rfl (fun ls hl => ?_)
          refine lv_goto (tgt := 11) hx hb d_M_struckAbove_141 (by decide) ?_
          exact ih (k + 1) best br bn (by omega)  ls (lv_sub hl [2, 3, 4, 5, 6, 7, 0] rfl) (hf.trans (show fb_M_struckAbove u X Y x y (fl_M_struckAbove u X Y x y n) k best br bn = (fl_M_struckAbove u X Y x y n (k + 1) best br bn) from by unfold fb_M_struckAbove; rw [if_neg c3a]))
        · have c3a : u k = true := b2i_ne0.mp c3
          refine lv_iload_n hx hb d_M_struckAbove_34 rfl (lv_at hl 2 rfl) ?_
          refine lv_aload_n hx hb d_M_struckAbove_35 rfl (lv_at hl 1 rfl) ?_
          refine rget S hK hP 0 rfl rfl in_M 1 (by decide) kF_M_15 rfl d_M_struckAbove_36 ?_
          refine lv_iload hx hb d_M_struckAbove_39 (lv_at hl 0 rfl) ?_
          refine riald (j := 2 * k) S hK hP 2 1 rfl rfl (by omega) (by first | decide | omega) d_M_struckAbove_41 ?_
          refine lv_icmp_lt (tgt := 138) hx hb d_M_struckAbove_42 (by decide) (fun c4 => ?_) (fun c4 => ?_)
          · have c4a : x < X (2 * k) := c4
            refine lv_iinc (v := nI (k + 1)) (lv' := [(6, .int (nI (k + 1))), (7, .int (nI (2 * k))), (0, .ref hm), (1, .int x), (2, .int y), (3, .int best), (4, .int br), (5, .int bn)]) hx hb d_M_struckAbove_138 hl (k := 7) rfl (nI_1 (k)) (by decide) rfl (fun ls hl => ?_)
            refine lv_goto (tgt := 11) hx hb d_M_struckAbove_141 (by decide) ?_
            exact ih (k + 1) best br bn (by omega)  ls (lv_sub hl [2, 3, 4, 5, 6, 7, 0] rfl) (hf.trans (show fb_M_struckAbove u X Y x y (fl_M_struckAbove u X Y x y n) k best br bn = (fl_M_struckAbove u X Y x y n (k + 1) best br bn) from by unfold fb_M_struckAbove; rw [if_pos c3a, if_pos c4a]))
          · have c4a : ¬ (x < X (2 * k)) := c4
            refine lv_iload_n hx hb d_M_struckAbove_45 rfl (lv_at hl 2 rfl) ?_
            refine lv_aload_n hx hb d_M_struckAbove_46 rfl (lv_at hl 1 rfl) ?_
            refine rget S hK hP 0 rfl rfl in_M 1 (by decide) kF_M_15 rfl d_M_struckAbove_47 ?_
            refine lv_iload hx hb d_M_struckAbove_50 (lv_at hl 0 rfl) ?_
            refine lv_iconst (v := 1) hx hb d_M_struckAbove_52 (by decide) ?_
            refine lv_iadd hx hb d_M_struckAbove_53 ?_
            refine rtop (y := nI ((2 * k) + 1)) (nI_add (2 * k) (1)) ?_
            refine riald (j := (2 * k) + 1) S hK hP 2 1 rfl rfl (by omega) (by first | decide | omega) d_M_struckAbove_54 ?_
            refine lv_icmp_le (tgt := 61) hx hb d_M_struckAbove_55 (by decide) (fun c5 => ?_) (fun c5 => ?_)
            · have c5a : x ≤ X ((2 * k) + 1) := c5
              refine lv_iconst (v := 1) hx hb d_M_struckAbove_61 (by decide) ?_
              refine lv_aload_n hx hb d_M_struckAbove_62 rfl (lv_at hl 1 rfl) ?_
              refine lv_iload hx hb d_M_struckAbove_63 (lv_at hl 0 rfl) ?_
              refine rcallV (rest := [.int 1]) (v := (f_M_stepX u X Y (2 * k))) S [.int (nI (2 * k))] hK hP [0, 1, 2, 3] rfl [0, 1] rfl (c_M_stepX l D hm hu hxs hys cZ cI u X Y (2 * k) (by omega)) i_M_stepX kL_M_46 ⟨Nat.le_of_ble_eq_true rfl, Nat.le_of_ble_eq_true rfl⟩ (by exact ⟨Nat.zero_le _, Nat.zero_le _⟩) (q0 := 0) (ci := 1) rfl rfl rfl hl.1 rfl (Nat.le_of_ble_eq_true rfl) d_M_struckAbove_65 ?_
              refine va_mmax hx hb (S.2.2.1.trans hl.1.symm) S.2.2.2.1 (S.2.2.2.2 _ kL_M_57) (S.2.2.2.2 _ kS_Lib_Math_max_name) (S.2.2.2.2 _ kI_java_lang_Math) (S.2.2.2.2 _ kY_Lib_Math_max_name) (Nat.le_of_ble_eq_true rfl) (Nat.le_of_ble_eq_true rfl) (Nat.zero_le _) (Nat.zero_le _) d_M_struckAbove_68 ?_
              refine lv_istore (lv' := [(8, .int ((if 1 < (f_M_stepX u X Y (2 * k)) then (f_M_stepX u X Y (2 * k)) else 1))), (7, .int (nI (2 * k))), (0, .ref hm), (1, .int x), (2, .int y), (3, .int best), (4, .int br), (5, .int bn), (6, .int (nI (k)))]) hx hb d_M_struckAbove_71 hl (by decide) rfl (fun ls hl => ?_)
              refine lv_aload_n hx hb d_M_struckAbove_73 rfl (lv_at hl 2 rfl) ?_
              refine rget S hK hP 0 rfl rfl in_M 2 (by decide) kF_M_19 rfl d_M_struckAbove_74 ?_
              refine lv_iload hx hb d_M_struckAbove_77 (lv_at hl 1 rfl) ?_
              refine riald (j := 2 * k) S hK hP 3 1 rfl rfl (by omega) (by first | decide | omega) d_M_struckAbove_79 ?_
              refine lv_iload_n hx hb d_M_struckAbove_80 rfl (lv_at hl 4 rfl) ?_
              refine lv_isub hx hb d_M_struckAbove_81 ?_
              refine lv_iload hx hb d_M_struckAbove_82 (lv_at hl 0 rfl) ?_
              refine lv_imul hx hb d_M_struckAbove_84 ?_
              refine lv_aload_n hx hb d_M_struckAbove_85 rfl (lv_at hl 2 rfl) ?_
              refine lv_iload hx hb d_M_struckAbove_86 (lv_at hl 1 rfl) ?_
              refine rcallV (rest := [.int (((Y (2 * k) - y) * (if 1 < (f_M_stepX u X Y (2 * k)) then (f_M_stepX u X Y (2 * k)) else 1)))]) (v := (f_M_stepY u X Y (2 * k))) S [.int (nI (2 * k))] hK hP [0, 1, 2, 3] rfl [0, 1] rfl (c_M_stepY l D hm hu hxs hys cZ cI u X Y (2 * k) (by omega)) i_M_stepY kL_M_50 ⟨Nat.le_of_ble_eq_true rfl, Nat.le_of_ble_eq_true rfl⟩ (by exact ⟨Nat.zero_le _, Nat.zero_le _⟩) (q0 := 0) (ci := 1) rfl rfl rfl hl.1 rfl (Nat.le_of_ble_eq_true rfl) d_M_struckAbove_88 ?_
              refine lv_iload_n hx hb d_M_struckAbove_91 rfl (lv_at hl 3 rfl) ?_
              refine lv_aload_n hx hb d_M_struckAbove_92 rfl (lv_at hl 2 rfl) ?_
              refine rget S hK hP 0 rfl rfl in_M 1 (by decide) kF_M_15 rfl d_M_struckAbove_93 ?_
              refine lv_iload hx hb d_M_struckAbove_96 (lv_at hl 1 rfl) ?_
              refine riald (j := 2 * k) S hK hP 2 1 rfl rfl (by omega) (by first | decide | omega) d_M_struckAbove_98 ?_
              refine lv_isub hx hb d_M_struckAbove_99 ?_
              refine lv_imul hx hb d_M_struckAbove_100 ?_
              refine lv_iadd hx hb d_M_struckAbove_101 ?_
              refine lv_istore (lv' := [(9, .int ((((Y (2 * k) - y) * (if 1 < (f_M_stepX u X Y (2 * k)) then (f_M_stepX u X Y (2 * k)) else 1)) + ((f_M_stepY u X Y (2 * k)) * (x - X (2 * k)))))), (8, .int ((if 1 < (f_M_stepX u X Y (2 * k)) then (f_M_stepX u X Y (2 * k)) else 1))), (7, .int (nI (2 * k))), (0, .ref hm), (1, .int x), (2, .int y), (3, .int best), (4, .int br), (5, .int bn), (6, .int (nI (k)))]) hx hb d_M_struckAbove_102 hl (by decide) rfl (fun ls hl => ?_)
              refine lv_iload hx hb d_M_struckAbove_104 (lv_at hl 0 rfl) ?_
              refine lv_if_le (tgt := 138) hx hb d_M_struckAbove_106 (by decide) (fun c6 => ?_) (fun c6 => ?_)
              · have c6a : (((Y (2 * k) - y) * (if 1 < (f_M_stepX u X Y (2 * k)) then (f_M_stepX u X Y (2 * k)) else 1)) + ((f_M_stepY u X Y (2 * k)) * (x - X (2 * k)))) ≤ 0 := c6
                refine lv_iinc (v := nI (k + 1)) (lv' := [(6, .int (nI (k + 1))), (9, .int ((((Y (2 * k) - y) * (if 1 < (f_M_stepX u X Y (2 * k)) then (f_M_stepX u X Y (2 * k)) else 1)) + ((f_M_stepY u X Y (2 * k)) * (x - X (2 * k)))))), (8, .int ((if 1 < (f_M_stepX u X Y (2 * k)) then (f_M_stepX u X Y (2 * k)) else 1))), (7, .int (nI (2 * k))), (0, .ref hm), (1, .int x), (2, .int y), (3, .int best), (4, .int br), (5, .int bn)]) hx hb d_M_struckAbove_138 hl (k := 9) rfl (nI_1 (k)) (by decide) rfl (fun ls hl => ?_)
                refine lv_goto (tgt := 11) hx hb d_M_struckAbove_141 (by decide) ?_
                exact ih (k + 1) best br bn (by omega)  ls (lv_sub hl [4, 5, 6, 7, 8, 9, 0] rfl) (hf.trans (show fb_M_struckAbove u X Y x y (fl_M_struckAbove u X Y x y n) k best br bn = (fl_M_struckAbove u X Y x y n (k + 1) best br bn) from by unfold fb_M_struckAbove; rw [if_pos c3a, if_neg c4a, if_pos c5a, if_pos c6a]))
              · have c6a : ¬ ((((Y (2 * k) - y) * (if 1 < (f_M_stepX u X Y (2 * k)) then (f_M_stepX u X Y (2 * k)) else 1)) + ((f_M_stepY u X Y (2 * k)) * (x - X (2 * k)))) ≤ 0) := c6
                refine lv_iload_n hx hb d_M_struckAbove_109 rfl (lv_at hl 6 rfl) ?_
                refine lv_iconst (v := (-1)) hx hb d_M_struckAbove_110 (by decide) ?_
                refine lv_icmp_eq (tgt := 127) hx hb d_M_struckAbove_111 (by decide) (fun c7 => ?_) (fun c7 => ?_)
                · have c7a : best = (-1) := c7
                  refine lv_iload hx hb d_M_struckAbove_127 (lv_at hl 9 rfl) ?_
                  refine lv_istore_n (lv' := [(3, .int (nI (k))), (9, .int ((((Y (2 * k) - y) * (if 1 < (f_M_stepX u X Y (2 * k)) then (f_M_stepX u X Y (2 * k)) else 1)) + ((f_M_stepY u X Y (2 * k)) * (x - X (2 * k)))))), (8, .int ((if 1 < (f_M_stepX u X Y (2 * k)) then (f_M_stepX u X Y (2 * k)) else 1))), (7, .int (nI (2 * k))), (0, .ref hm), (1, .int x), (2, .int y), (4, .int br), (5, .int bn), (6, .int (nI (k)))]) hx hb d_M_struckAbove_129 rfl hl (by decide) rfl (fun ls hl => ?_)
                  refine lv_iload hx hb d_M_struckAbove_130 (lv_at hl 1 rfl) ?_
                  refine lv_istore (lv' := [(4, .int ((((Y (2 * k) - y) * (if 1 < (f_M_stepX u X Y (2 * k)) then (f_M_stepX u X Y (2 * k)) else 1)) + ((f_M_stepY u X Y (2 * k)) * (x - X (2 * k)))))), (3, .int (nI (k))), (9, .int ((((Y (2 * k) - y) * (if 1 < (f_M_stepX u X Y (2 * k)) then (f_M_stepX u X Y (2 * k)) else 1)) + ((f_M_stepY u X Y (2 * k)) * (x - X (2 * k)))))), (8, .int ((if 1 < (f_M_stepX u X Y (2 * k)) then (f_M_stepX u X Y (2 * k)) else 1))), (7, .int (nI (2 * k))), (0, .ref hm), (1, .int x), (2, .int y), (5, .int bn), (6, .int (nI (k)))]) hx hb d_M_struckAbove_132 hl (by decide) rfl (fun ls hl => ?_)
                  refine lv_iload hx hb d_M_struckAbove_134 (lv_at hl 3 rfl) ?_
                  refine lv_istore (lv' := [(5, .int ((if 1 < (f_M_stepX u X Y (2 * k)) then (f_M_stepX u X Y (2 * k)) else 1))), (4, .int ((((Y (2 * k) - y) * (if 1 < (f_M_stepX u X Y (2 * k)) then (f_M_stepX u X Y (2 * k)) else 1)) + ((f_M_stepY u X Y (2 * k)) * (x - X (2 * k)))))), (3, .int (nI (k))), (9, .int ((((Y (2 * k) - y) * (if 1 < (f_M_stepX u X Y (2 * k)) then (f_M_stepX u X Y (2 * k)) else 1)) + ((f_M_stepY u X Y (2 * k)) * (x - X (2 * k)))))), (8, .int ((if 1 < (f_M_stepX u X Y (2 * k)) then (f_M_stepX u X Y (2 * k)) else 1))), (7, .int (nI (2 * k))), (0, .ref hm), (1, .int x), (2, .int y), (6, .int (nI (k)))]) hx hb d_M_struckAbove_136 hl (by decide) rfl (fun ls hl => ?_)
                  refine lv_iinc (v := nI (k + 1)) (lv' := [(6, .int (nI (k + 1))), (5, .int ((if 1 < (f_M_stepX u X Y (2 * k)) then (f_M_stepX u X Y (2 * k)) else 1))), (4, .int ((((Y (2 * k) - y) * (if 1 < (f_M_stepX u X Y (2 * k)) then (f_M_stepX u X Y (2 * k)) else 1)) + ((f_M_stepY u X Y (2 * k)) * (x - X (2 * k)))))), (3, .int (nI (k))), (9, .int ((((Y (2 * k) - y) * (if 1 < (f_M_stepX u X Y (2 * k)) then (f_M_stepX u X Y (2 * k)) else 1)) + ((f_M_stepY u X Y (2 * k)) * (x - X (2 * k)))))), (8, .int ((if 1 < (f_M_stepX u X Y (2 * k)) then (f_M_stepX u X Y (2 * k)) else 1))), (7, .int (nI (2 * k))), (0, .ref hm), (1, .int x), (2, .int y)]) hx hb d_M_struckAbove_138 hl (k := 9) rfl (nI_1 (k)) (by decide) rfl (fun ls hl => ?_)
                  refine lv_goto (tgt := 11) hx hb d_M_struckAbove_141 (by decide) ?_
                  exact ih (k + 1) (nI (k)) (((Y (2 * k) - y) * (if 1 < (f_M_stepX u X Y (2 * k)) then (f_M_stepX u X Y (2 * k)) else 1)) + ((f_M_stepY u X Y (2 * k)) * (x - X (2 * k)))) (if 1 < (f_M_stepX u X Y (2 * k)) then (f_M_stepX u X Y (2 * k)) else 1) (by omega)  ls (lv_sub hl [7, 8, 9, 3, 2, 1, 0] rfl) (hf.trans (show fb_M_struckAbove u X Y x y (fl_M_struckAbove u X Y x y n) k best br bn = (fl_M_struckAbove u X Y x y n (k + 1) (nI (k)) (((Y (2 * k) - y) * (if 1 < (f_M_stepX u X Y (2 * k)) then (f_M_stepX u X Y (2 * k)) else 1)) + ((f_M_stepY u X Y (2 * k)) * (x - X (2 * k)))) (if 1 < (f_M_stepX u X Y (2 * k)) then (f_M_stepX u X Y (2 * k)) else 1)) from by unfold fb_M_struckAbove; rw [if_pos c3a, if_neg c4a, if_pos c5a, if_neg c6a, if_pos c7a]))
                · have c7a : ¬ (best = (-1)) := c7
                  refine lv_iload hx hb d_M_struckAbove_114 (lv_at hl 0 rfl) ?_
                  refine lv_iload hx hb d_M_struckAbove_116 (lv_at hl 8 rfl) ?_
                  refine lv_imul hx hb d_M_struckAbove_118 ?_
                  refine lv_iload hx hb d_M_struckAbove_119 (lv_at hl 7 rfl) ?_
                  refine lv_iload hx hb d_M_struckAbove_121 (lv_at hl 1 rfl) ?_
                  refine lv_imul hx hb d_M_struckAbove_123 ?_
                  refine lv_icmp_ge (tgt := 138) hx hb d_M_struckAbove_124 (by decide) (fun c8 => ?_) (fun c8 => ?_)
                  · have c8a : (br * (if 1 < (f_M_stepX u X Y (2 * k)) then (f_M_stepX u X Y (2 * k)) else 1)) ≤ ((((Y (2 * k) - y) * (if 1 < (f_M_stepX u X Y (2 * k)) then (f_M_stepX u X Y (2 * k)) else 1)) + ((f_M_stepY u X Y (2 * k)) * (x - X (2 * k)))) * bn) := c8
                    refine lv_iinc (v := nI (k + 1)) (lv' := [(6, .int (nI (k + 1))), (9, .int ((((Y (2 * k) - y) * (if 1 < (f_M_stepX u X Y (2 * k)) then (f_M_stepX u X Y (2 * k)) else 1)) + ((f_M_stepY u X Y (2 * k)) * (x - X (2 * k)))))), (8, .int ((if 1 < (f_M_stepX u X Y (2 * k)) then (f_M_stepX u X Y (2 * k)) else 1))), (7, .int (nI (2 * k))), (0, .ref hm), (1, .int x), (2, .int y), (3, .int best), (4, .int br), (5, .int bn)]) hx hb d_M_struckAbove_138 hl (k := 9) rfl (nI_1 (k)) (by decide) rfl (fun ls hl => ?_)
                    refine lv_goto (tgt := 11) hx hb d_M_struckAbove_141 (by decide) ?_
                    exact ih (k + 1) best br bn (by omega)  ls (lv_sub hl [4, 5, 6, 7, 8, 9, 0] rfl) (hf.trans (show fb_M_struckAbove u X Y x y (fl_M_struckAbove u X Y x y n) k best br bn = (fl_M_struckAbove u X Y x y n (k + 1) best br bn) from by unfold fb_M_struckAbove; rw [if_pos c3a, if_neg c4a, if_pos c5a, if_neg c6a, if_neg c7a, if_pos c8a]))
                  · have c8a : ¬ ((br * (if 1 < (f_M_stepX u X Y (2 * k)) then (f_M_stepX u X Y (2 * k)) else 1)) ≤ ((((Y (2 * k) - y) * (if 1 < (f_M_stepX u X Y (2 * k)) then (f_M_stepX u X Y (2 * k)) else 1)) + ((f_M_stepY u X Y (2 * k)) * (x - X (2 * k)))) * bn)) := c8
                    refine lv_iload hx hb d_M_struckAbove_127 (lv_at hl 9 rfl) ?_
                    refine lv_istore_n (lv' := [(3, .int (nI (k))), (9, .int ((((Y (2 * k) - y) * (if 1 < (f_M_stepX u X Y (2 * k)) then (f_M_stepX u X Y (2 * k)) else 1)) + ((f_M_stepY u X Y (2 * k)) * (x - X (2 * k)))))), (8, .int ((if 1 < (f_M_stepX u X Y (2 * k)) then (f_M_stepX u X Y (2 * k)) else 1))), (7, .int (nI (2 * k))), (0, .ref hm), (1, .int x), (2, .int y), (4, .int br), (5, .int bn), (6, .int (nI (k)))]) hx hb d_M_struckAbove_129 rfl hl (by decide) rfl (fun ls hl => ?_)
                    refine lv_iload hx hb d_M_struckAbove_130 (lv_at hl 1 rfl) ?_
                    refine lv_istore (lv' := [(4, .int ((((Y (2 * k) - y) * (if 1 < (f_M_stepX u X Y (2 * k)) then (f_M_stepX u X Y (2 * k)) else 1)) + ((f_M_stepY u X Y (2 * k)) * (x - X (2 * k)))))), (3, .int (nI (k))), (9, .int ((((Y (2 * k) - y) * (if 1 < (f_M_stepX u X Y (2 * k)) then (f_M_stepX u X Y (2 * k)) else 1)) + ((f_M_stepY u X Y (2 * k)) * (x - X (2 * k)))))), (8, .int ((if 1 < (f_M_stepX u X Y (2 * k)) then (f_M_stepX u X Y (2 * k)) else 1))), (7, .int (nI (2 * k))), (0, .ref hm), (1, .int x), (2, .int y), (5, .int bn), (6, .int (nI (k)))]) hx hb d_M_struckAbove_132 hl (by decide) rfl (fun ls hl => ?_)
                    refine lv_iload hx hb d_M_struckAbove_134 (lv_at hl 3 rfl) ?_
                    refine lv_istore (lv' := [(5, .int ((if 1 < (f_M_stepX u X Y (2 * k)) then (f_M_stepX u X Y (2 * k)) else 1))), (4, .int ((((Y (2 * k) - y) * (if 1 < (f_M_stepX u X Y (2 * k)) then (f_M_stepX u X Y (2 * k)) else 1)) + ((f_M_stepY u X Y (2 * k)) * (x - X (2 * k)))))), (3, .int (nI (k))), (9, .int ((((Y (2 * k) - y) * (if 1 < (f_M_stepX u X Y (2 * k)) then (f_M_stepX u X Y (2 * k)) else 1)) + ((f_M_stepY u X Y (2 * k)) * (x - X (2 * k)))))), (8, .int ((if 1 < (f_M_stepX u X Y (2 * k)) then (f_M_stepX u X Y (2 * k)) else 1))), (7, .int (nI (2 * k))), (0, .ref hm), (1, .int x), (2, .int y), (6, .int (nI (k)))]) hx hb d_M_struckAbove_136 hl (by decide) rfl (fun ls hl => ?_)
                    refine lv_iinc (v := nI (k + 1)) (lv' := [(6, .int (nI (k + 1))), (5, .int ((if 1 < (f_M_stepX u X Y (2 * k)) then (f_M_stepX u X Y (2 * k)) else 1))), (4, .int ((((Y (2 * k) - y) * (if 1 < (f_M_stepX u X Y (2 * k)) then (f_M_stepX u X Y (2 * k)) else 1)) + ((f_M_stepY u X Y (2 * k)) * (x - X (2 * k)))))), (3, .int (nI (k))), (9, .int ((((Y (2 * k) - y) * (if 1 < (f_M_stepX u X Y (2 * k)) then (f_M_stepX u X Y (2 * k)) else 1)) + ((f_M_stepY u X Y (2 * k)) * (x - X (2 * k)))))), (8, .int ((if 1 < (f_M_stepX u X Y (2 * k)) then (f_M_stepX u X Y (2 * k)) else 1))), (7, .int (nI (2 * k))), (0, .ref hm), (1, .int x), (2, .int y)]) hx hb d_M_struckAbove_138 hl (k := 9) rfl (nI_1 (k)) (by decide) rfl (fun ls hl => ?_)
                    refine lv_goto (tgt := 11) hx hb d_M_struckAbove_141 (by decide) ?_
                    exact ih (k + 1) (nI (k)) (((Y (2 * k) - y) * (if 1 < (f_M_stepX u X Y (2 * k)) then (f_M_stepX u X Y (2 * k)) else 1)) + ((f_M_stepY u X Y (2 * k)) * (x - X (2 * k)))) (if 1 < (f_M_stepX u X Y (2 * k)) then (f_M_stepX u X Y (2 * k)) else 1) (by omega)  ls (lv_sub hl [7, 8, 9, 3, 2, 1, 0] rfl) (hf.trans (show fb_M_struckAbove u X Y x y (fl_M_struckAbove u X Y x y n) k best br bn = (fl_M_struckAbove u X Y x y n (k + 1) (nI (k)) (((Y (2 * k) - y) * (if 1 < (f_M_stepX u X Y (2 * k)) then (f_M_stepX u X Y (2 * k)) else 1)) + ((f_M_stepY u X Y (2 * k)) * (x - X (2 * k)))) (if 1 < (f_M_stepX u X Y (2 * k)) then (f_M_stepX u X Y (2 * k)) else 1)) from by unfold fb_M_struckAbove; rw [if_pos c3a, if_neg c4a, if_pos c5a, if_neg c6a, if_neg c7a, if_neg c8a]))
            · have c5a : ¬ (x ≤ X ((2 * k) + 1)) := c5
              refine lv_goto (tgt := 138) hx hb d_M_struckAbove_58 (by decide) ?_
              refine lv_iinc (v := nI (k + 1)) (lv' := [(6, .int (nI (k + 1))), (7, .int (nI (2 * k))), (0, .ref hm), (1, .int x), (2, .int y), (3, .int best), (4, .int br), (5, .int bn)]) hx hb d_M_struckAbove_138 hl (k := 7) rfl (nI_1 (k)) (by decide) rfl (fun ls hl => ?_)
              refine lv_goto (tgt := 11) hx hb d_M_struckAbove_141 (by decide) ?_
              exact ih (k + 1) best br bn (by omega)  ls (lv_sub hl [2, 3, 4, 5, 6, 7, 0] rfl) (hf.trans (show fb_M_struckAbove u X Y x y (fl_M_struckAbove u X Y x y n) k best br bn = (fl_M_struckAbove u X Y x y n (k + 1) best br bn) from by unfold fb_M_struckAbove; rw [if_pos c3a, if_neg c4a, if_neg c5a]))
  refine lv_iconst (v := (-1)) hx hb d_M_struckAbove_0 (by decide) ?_
  refine lv_istore_n (lv' := [(3, .int ((-1))), (0, .ref hm), (1, .int x), (2, .int y)]) hx hb d_M_struckAbove_1 rfl hl (by decide) rfl (fun ls hl => ?_)
  refine lv_iconst (v := 0) hx hb d_M_struckAbove_2 (by decide) ?_
  refine lv_istore (lv' := [(4, .int 0), (3, .int ((-1))), (0, .ref hm), (1, .int x), (2, .int y)]) hx hb d_M_struckAbove_3 hl (by decide) rfl (fun ls hl => ?_)
  refine lv_iconst (v := 1) hx hb d_M_struckAbove_5 (by decide) ?_
  refine lv_istore (lv' := [(5, .int 1), (4, .int 0), (3, .int ((-1))), (0, .ref hm), (1, .int x), (2, .int y)]) hx hb d_M_struckAbove_6 hl (by decide) rfl (fun ls hl => ?_)
  refine lv_iconst (v := 0) hx hb d_M_struckAbove_8 (by decide) ?_
  refine lv_istore (lv' := [(6, .int 0), (5, .int 1), (4, .int 0), (3, .int ((-1))), (0, .ref hm), (1, .int x), (2, .int y)]) hx hb d_M_struckAbove_9 hl (by decide) rfl (fun ls hl => ?_)
  exact key 20 0 (-1) 0 1 (by omega)  ls (lv_sub hl [4, 5, 6, 3, 2, 1, 0] rfl) (show f_M_struckAbove u X Y x y = (fl_M_struckAbove u X Y x y 20 0 (-1) 0 1) from rfl)
def f_M_comesSooner (u : Nat → Bool) (X : Nat → Int32) (Y : Nat → Int32) (a : Nat) (b : Nat) (dx : Int32) (dy : Int32) : Bool := if (f_M_turnRank dx dy (f_M_stepX u X Y a) (f_M_stepY u X Y a)) = (f_M_turnRank dx dy (f_M_stepX u X Y b) (f_M_stepY u X Y b)) then (if (f_M_cross (f_M_stepX u X Y a) (f_M_stepY u X Y a) (f_M_stepX u X Y b) (f_M_stepY u X Y b)) ≤ 0 then false else true) else (if (f_M_turnRank dx dy (f_M_stepX u X Y b) (f_M_stepY u X Y b)) ≤ (f_M_turnRank dx dy (f_M_stepX u X Y a) (f_M_stepY u X Y a)) then false else true)
theorem i_M_comesSooner : inV y_M_comesSooner b_M_comesSooner 7 (some .boolean) 4 := ⟨kM_y_M_comesSooner, kV_y_M_comesSooner, kI_M, kY_y_M_comesSooner, by decide +kernel⟩
set_option maxHeartbeats 4000000 in
set_option maxRecDepth 100000 in
theorem c_M_comesSooner (l : Launch) (D : va_G) (hm hu hxs hys : Nat) (cZ cI : ClassId) (u : Nat → Bool) (X Y : Nat → Int32) (a : Nat) (b : Nat) (dx : Int32) (dy : Int32) (ha : a < 40) (hb : b < 40)  : PM l y_M_comesSooner b_M_comesSooner 7 (some .boolean) 1 24 D (mapW hm hu hxs hys cZ cI u X Y) [(cZ, .boolean), (cI, .int)] [.ref hm, .int (nI (a)), .int (nI (b)), .int dx, .int dy] (b2i (f_M_comesSooner u X Y a b dx dy)) := by
  refine pMet rfl (fun p e s m below meth c S hr hlk hP hK ls hl => ?_) (Nat.le_of_ble_eq_true rfl)
  have hx := S.1
  have hb := S.2.1
  have hl : lv_has ls 7 [(0, .ref hm), (1, .int (nI (a))), (2, .int (nI (b))), (3, .int dx), (4, .int dy)] := hl
  refine lv_iload_n hx hb d_M_comesSooner_0 rfl (lv_at hl 3 rfl) ?_
  refine lv_iload hx hb d_M_comesSooner_1 (lv_at hl 4 rfl) ?_
  refine lv_aload_n hx hb d_M_comesSooner_3 rfl (lv_at hl 0 rfl) ?_
  refine lv_iload_n hx hb d_M_comesSooner_4 rfl (lv_at hl 1 rfl) ?_
  refine rcallV (rest := [.int dy, .int dx]) (v := (f_M_stepX u X Y a)) S [.int (nI (a))] hK hP [0, 1, 2, 3] rfl [0, 1] rfl (c_M_stepX l D hm hu hxs hys cZ cI u X Y a (by omega)) i_M_stepX kL_M_46 ⟨Nat.le_of_ble_eq_true rfl, Nat.le_of_ble_eq_true rfl⟩ (by exact ⟨Nat.zero_le _, Nat.zero_le _⟩) (q0 := 0) (ci := 1) rfl rfl rfl hl.1 rfl (Nat.le_of_ble_eq_true rfl) d_M_comesSooner_5 ?_
  refine lv_aload_n hx hb d_M_comesSooner_8 rfl (lv_at hl 0 rfl) ?_
  refine lv_iload_n hx hb d_M_comesSooner_9 rfl (lv_at hl 1 rfl) ?_
  refine rcallV (rest := [.int ((f_M_stepX u X Y a)), .int dy, .int dx]) (v := (f_M_stepY u X Y a)) S [.int (nI (a))] hK hP [0, 1, 2, 3] rfl [0, 1] rfl (c_M_stepY l D hm hu hxs hys cZ cI u X Y a (by omega)) i_M_stepY kL_M_50 ⟨Nat.le_of_ble_eq_true rfl, Nat.le_of_ble_eq_true rfl⟩ (by exact ⟨Nat.zero_le _, Nat.zero_le _⟩) (q0 := 0) (ci := 1) rfl rfl rfl hl.1 rfl (Nat.le_of_ble_eq_true rfl) d_M_comesSooner_10 ?_
  refine rcallS (rest := []) (v := (f_M_turnRank dx dy (f_M_stepX u X Y a) (f_M_stepY u X Y a))) S [.int dx, .int dy, .int ((f_M_stepX u X Y a)), .int ((f_M_stepY u X Y a))] hK hP [] rfl [] rfl (c_M_turnRank l D  dx dy (f_M_stepX u X Y a) (f_M_stepY u X Y a) ) i_M_turnRank rfl kL_M_73 ⟨Nat.le_of_ble_eq_true rfl, Nat.le_of_ble_eq_true rfl⟩ (by exact ⟨Nat.zero_le _, Nat.zero_le _⟩) hl.1 rfl (Nat.le_of_ble_eq_true rfl) d_M_comesSooner_13 ?_
  refine lv_istore (lv' := [(5, .int ((f_M_turnRank dx dy (f_M_stepX u X Y a) (f_M_stepY u X Y a)))), (0, .ref hm), (1, .int (nI (a))), (2, .int (nI (b))), (3, .int dx), (4, .int dy)]) hx hb d_M_comesSooner_16 hl (by decide) rfl (fun ls hl => ?_)
  refine lv_iload_n hx hb d_M_comesSooner_18 rfl (lv_at hl 4 rfl) ?_
  refine lv_iload hx hb d_M_comesSooner_19 (lv_at hl 5 rfl) ?_
  refine lv_aload_n hx hb d_M_comesSooner_21 rfl (lv_at hl 1 rfl) ?_
  refine lv_iload_n hx hb d_M_comesSooner_22 rfl (lv_at hl 3 rfl) ?_
  refine rcallV (rest := [.int dy, .int dx]) (v := (f_M_stepX u X Y b)) S [.int (nI (b))] hK hP [0, 1, 2, 3] rfl [0, 1] rfl (c_M_stepX l D hm hu hxs hys cZ cI u X Y b (by omega)) i_M_stepX kL_M_46 ⟨Nat.le_of_ble_eq_true rfl, Nat.le_of_ble_eq_true rfl⟩ (by exact ⟨Nat.zero_le _, Nat.zero_le _⟩) (q0 := 0) (ci := 1) rfl rfl rfl hl.1 rfl (Nat.le_of_ble_eq_true rfl) d_M_comesSooner_23 ?_
  refine lv_aload_n hx hb d_M_comesSooner_26 rfl (lv_at hl 1 rfl) ?_
  refine lv_iload_n hx hb d_M_comesSooner_27 rfl (lv_at hl 3 rfl) ?_
  refine rcallV (rest := [.int ((f_M_stepX u X Y b)), .int dy, .int dx]) (v := (f_M_stepY u X Y b)) S [.int (nI (b))] hK hP [0, 1, 2, 3] rfl [0, 1] rfl (c_M_stepY l D hm hu hxs hys cZ cI u X Y b (by omega)) i_M_stepY kL_M_50 ⟨Nat.le_of_ble_eq_true rfl, Nat.le_of_ble_eq_true rfl⟩ (by exact ⟨Nat.zero_le _, Nat.zero_le _⟩) (q0 := 0) (ci := 1) rfl rfl rfl hl.1 rfl (Nat.le_of_ble_eq_true rfl) d_M_comesSooner_28 ?_
  refine rcallS (rest := []) (v := (f_M_turnRank dx dy (f_M_stepX u X Y b) (f_M_stepY u X Y b))) S [.int dx, .int dy, .int ((f_M_stepX u X Y b)), .int ((f_M_stepY u X Y b))] hK hP [] rfl [] rfl (c_M_turnRank l D  dx dy (f_M_stepX u X Y b) (f_M_stepY u X Y b) ) i_M_turnRank rfl kL_M_73 ⟨Nat.le_of_ble_eq_true rfl, Nat.le_of_ble_eq_true rfl⟩ (by exact ⟨Nat.zero_le _, Nat.zero_le _⟩) hl.1 rfl (Nat.le_of_ble_eq_true rfl) d_M_comesSooner_31 ?_
  refine lv_istore (lv' := [(6, .int ((f_M_turnRank dx dy (f_M_stepX u X Y b) (f_M_stepY u X Y b)))), (5, .int ((f_M_turnRank dx dy (f_M_stepX u X Y a) (f_M_stepY u X Y a)))), (0, .ref hm), (1, .int (nI (a))), (2, .int (nI (b))), (3, .int dx), (4, .int dy)]) hx hb d_M_comesSooner_34 hl (by decide) rfl (fun ls hl => ?_)
  refine lv_iload hx hb d_M_comesSooner_36 (lv_at hl 1 rfl) ?_
  refine lv_iload hx hb d_M_comesSooner_38 (lv_at hl 0 rfl) ?_
  refine lv_icmp_eq (tgt := 56) hx hb d_M_comesSooner_40 (by decide) (fun c1 => ?_) (fun c1 => ?_)
  · have c1a : (f_M_turnRank dx dy (f_M_stepX u X Y a) (f_M_stepY u X Y a)) = (f_M_turnRank dx dy (f_M_stepX u X Y b) (f_M_stepY u X Y b)) := c1
    refine lv_aload_n hx hb d_M_comesSooner_56 rfl (lv_at hl 2 rfl) ?_
    refine lv_iload_n hx hb d_M_comesSooner_57 rfl (lv_at hl 3 rfl) ?_
    refine rcallV (rest := []) (v := (f_M_stepX u X Y a)) S [.int (nI (a))] hK hP [0, 1, 2, 3] rfl [0, 1] rfl (c_M_stepX l D hm hu hxs hys cZ cI u X Y a (by omega)) i_M_stepX kL_M_46 ⟨Nat.le_of_ble_eq_true rfl, Nat.le_of_ble_eq_true rfl⟩ (by exact ⟨Nat.zero_le _, Nat.zero_le _⟩) (q0 := 0) (ci := 1) rfl rfl rfl hl.1 rfl (Nat.le_of_ble_eq_true rfl) d_M_comesSooner_58 ?_
    refine lv_aload_n hx hb d_M_comesSooner_61 rfl (lv_at hl 2 rfl) ?_
    refine lv_iload_n hx hb d_M_comesSooner_62 rfl (lv_at hl 3 rfl) ?_
    refine rcallV (rest := [.int ((f_M_stepX u X Y a))]) (v := (f_M_stepY u X Y a)) S [.int (nI (a))] hK hP [0, 1, 2, 3] rfl [0, 1] rfl (c_M_stepY l D hm hu hxs hys cZ cI u X Y a (by omega)) i_M_stepY kL_M_50 ⟨Nat.le_of_ble_eq_true rfl, Nat.le_of_ble_eq_true rfl⟩ (by exact ⟨Nat.zero_le _, Nat.zero_le _⟩) (q0 := 0) (ci := 1) rfl rfl rfl hl.1 rfl (Nat.le_of_ble_eq_true rfl) d_M_comesSooner_63 ?_
    refine lv_aload_n hx hb d_M_comesSooner_66 rfl (lv_at hl 2 rfl) ?_
    refine lv_iload_n hx hb d_M_comesSooner_67 rfl (lv_at hl 4 rfl) ?_
    refine rcallV (rest := [.int ((f_M_stepY u X Y a)), .int ((f_M_stepX u X Y a))]) (v := (f_M_stepX u X Y b)) S [.int (nI (b))] hK hP [0, 1, 2, 3] rfl [0, 1] rfl (c_M_stepX l D hm hu hxs hys cZ cI u X Y b (by omega)) i_M_stepX kL_M_46 ⟨Nat.le_of_ble_eq_true rfl, Nat.le_of_ble_eq_true rfl⟩ (by exact ⟨Nat.zero_le _, Nat.zero_le _⟩) (q0 := 0) (ci := 1) rfl rfl rfl hl.1 rfl (Nat.le_of_ble_eq_true rfl) d_M_comesSooner_68 ?_
    refine lv_aload_n hx hb d_M_comesSooner_71 rfl (lv_at hl 2 rfl) ?_
    refine lv_iload_n hx hb d_M_comesSooner_72 rfl (lv_at hl 4 rfl) ?_
    refine rcallV (rest := [.int ((f_M_stepX u X Y b)), .int ((f_M_stepY u X Y a)), .int ((f_M_stepX u X Y a))]) (v := (f_M_stepY u X Y b)) S [.int (nI (b))] hK hP [0, 1, 2, 3] rfl [0, 1] rfl (c_M_stepY l D hm hu hxs hys cZ cI u X Y b (by omega)) i_M_stepY kL_M_50 ⟨Nat.le_of_ble_eq_true rfl, Nat.le_of_ble_eq_true rfl⟩ (by exact ⟨Nat.zero_le _, Nat.zero_le _⟩) (q0 := 0) (ci := 1) rfl rfl rfl hl.1 rfl (Nat.le_of_ble_eq_true rfl) d_M_comesSooner_73 ?_
    refine rcallS (rest := []) (v := (f_M_cross (f_M_stepX u X Y a) (f_M_stepY u X Y a) (f_M_stepX u X Y b) (f_M_stepY u X Y b))) S [.int ((f_M_stepX u X Y a)), .int ((f_M_stepY u X Y a)), .int ((f_M_stepX u X Y b)), .int ((f_M_stepY u X Y b))] hK hP [] rfl [] rfl (c_M_cross l D  (f_M_stepX u X Y a) (f_M_stepY u X Y a) (f_M_stepX u X Y b) (f_M_stepY u X Y b) ) i_M_cross rfl kL_M_53 ⟨Nat.le_of_ble_eq_true rfl, Nat.le_of_ble_eq_true rfl⟩ (by exact ⟨Nat.zero_le _, Nat.zero_le _⟩) hl.1 rfl (Nat.le_of_ble_eq_true rfl) d_M_comesSooner_76 ?_
    refine lv_if_le (tgt := 86) hx hb d_M_comesSooner_79 (by decide) (fun c2 => ?_) (fun c2 => ?_)
    · have c2a : (f_M_cross (f_M_stepX u X Y a) (f_M_stepY u X Y a) (f_M_stepX u X Y b) (f_M_stepY u X Y b)) ≤ 0 := c2
      refine lv_iconst (v := 0) hx hb d_M_comesSooner_86 (by decide) ?_
      exact rretZ S hr hlk (v := false) (show f_M_comesSooner u X Y a b dx dy = false from by unfold f_M_comesSooner; rw [if_pos c1a, if_pos c2a]).symm d_M_comesSooner_87
    · have c2a : ¬ ((f_M_cross (f_M_stepX u X Y a) (f_M_stepY u X Y a) (f_M_stepX u X Y b) (f_M_stepY u X Y b)) ≤ 0) := c2
      refine lv_iconst (v := 1) hx hb d_M_comesSooner_82 (by decide) ?_
      refine lv_goto (tgt := 87) hx hb d_M_comesSooner_83 (by decide) ?_
      exact rretZ S hr hlk (v := true) (show f_M_comesSooner u X Y a b dx dy = true from by unfold f_M_comesSooner; rw [if_pos c1a, if_neg c2a]).symm d_M_comesSooner_87
  · have c1a : ¬ ((f_M_turnRank dx dy (f_M_stepX u X Y a) (f_M_stepY u X Y a)) = (f_M_turnRank dx dy (f_M_stepX u X Y b) (f_M_stepY u X Y b))) := c1
    refine lv_iload hx hb d_M_comesSooner_43 (lv_at hl 1 rfl) ?_
    refine lv_iload hx hb d_M_comesSooner_45 (lv_at hl 0 rfl) ?_
    refine lv_icmp_ge (tgt := 54) hx hb d_M_comesSooner_47 (by decide) (fun c3 => ?_) (fun c3 => ?_)
    · have c3a : (f_M_turnRank dx dy (f_M_stepX u X Y b) (f_M_stepY u X Y b)) ≤ (f_M_turnRank dx dy (f_M_stepX u X Y a) (f_M_stepY u X Y a)) := c3
      refine lv_iconst (v := 0) hx hb d_M_comesSooner_54 (by decide) ?_
      exact rretZ S hr hlk (v := false) (show f_M_comesSooner u X Y a b dx dy = false from by unfold f_M_comesSooner; rw [if_neg c1a, if_pos c3a]).symm d_M_comesSooner_55
    · have c3a : ¬ ((f_M_turnRank dx dy (f_M_stepX u X Y b) (f_M_stepY u X Y b)) ≤ (f_M_turnRank dx dy (f_M_stepX u X Y a) (f_M_stepY u X Y a))) := c3
      refine lv_iconst (v := 1) hx hb d_M_comesSooner_50 (by decide) ?_
      refine lv_goto (tgt := 55) hx hb d_M_comesSooner_51 (by decide) ?_
      exact rretZ S hr hlk (v := true) (show f_M_comesSooner u X Y a b dx dy = true from by unfold f_M_comesSooner; rw [if_neg c1a, if_neg c3a]).symm d_M_comesSooner_55
def fx_M_sideFacing (u : Nat → Bool) (X : Nat → Int32) (Y : Nat → Int32) (w : Nat) (dx : Int32) (dy : Int32) (a : Nat) (fst : Nat) : Nat := tw fst
def fb_M_sideFacing (u : Nat → Bool) (X : Nat → Int32) (Y : Nat → Int32) (w : Nat) (dx : Int32) (dy : Int32) (rec : Nat → Nat → Nat) (a : Nat) (fst : Nat) : Nat := if u (a / 2) = true then (if f_M_sameTail u X Y a w = true then (if f_M_comesSooner u X Y a fst dx dy = true then (rec (a + 1) a) else (rec (a + 1) fst)) else (rec (a + 1) fst)) else (rec (a + 1) fst)
def fl_M_sideFacing (u : Nat → Bool) (X : Nat → Int32) (Y : Nat → Int32) (w : Nat) (dx : Int32) (dy : Int32) : Nat → Nat → Nat → Nat
  | 0, a, fst => fx_M_sideFacing u X Y w dx dy a fst
  | n + 1, a, fst => fb_M_sideFacing u X Y w dx dy (fl_M_sideFacing u X Y w dx dy n) a fst
def f_M_sideFacing (u : Nat → Bool) (X : Nat → Int32) (Y : Nat → Int32) (w : Nat) (dx : Int32) (dy : Int32) : Nat := fl_M_sideFacing u X Y w dx dy 40 0 w
theorem i_M_sideFacing : inV y_M_sideFacing b_M_sideFacing 6 (some .int) 3 := ⟨kM_y_M_sideFacing, kV_y_M_sideFacing, kI_M, kY_y_M_sideFacing, by decide +kernel⟩
set_option maxHeartbeats 4000000 in
set_option maxRecDepth 100000 in
theorem c_M_sideFacing (l : Launch) (D : va_G) (hm hu hxs hys : Nat) (cZ cI : ClassId) (u : Nat → Bool) (X Y : Nat → Int32) (w : Nat) (dx : Int32) (dy : Int32) (hw : w < 40)  : PM l y_M_sideFacing b_M_sideFacing 6 (some .int) 2 50 D (mapW hm hu hxs hys cZ cI u X Y) [(cZ, .boolean), (cI, .int)] [.ref hm, .int (nI (w)), .int dx, .int dy] (nI (f_M_sideFacing u X Y w dx dy)) := by
  refine pMet rfl (fun p e s m below meth c S hr hlk hP hK ls hl => ?_) (Nat.le_of_ble_eq_true rfl)
  have hx := S.1
  have hb := S.2.1
  have hl : lv_has ls 6 [(0, .ref hm), (1, .int (nI (w))), (2, .int dx), (3, .int dy)] := hl
  have key : ∀ (n : Nat) (a : Nat) (fst : Nat) (hk : a + n = 40) (hfi : fst < 40) (ls : Array Slot) (hl : lv_has ls 6 [(0, .ref hm), (1, .int (nI (w))), (2, .int dx), (3, .int dy), (4, .int (nI (fst))), (5, .int (nI (a)))]) (hf : f_M_sideFacing u X Y w dx dy = fl_M_sideFacing u X Y w dx dy n a fst), W p l e { frames := 2, cells := 0, slots := 0, locals := 50 } s m [.ref hm, .int (nI (w)), .int dx, .int dy].toArray below meth c s.heap [] 0 0 (MQ below (pQ (nI (f_M_sideFacing u X Y w dx dy))) [.ref hm, .int (nI (w)), .int dx, .int dy].toArray s 0 0 (fun _ => False)) (F0 m 6 ls []) := by
    intro n
    induction n with
    | zero =>
      intro a fst hk hfi ls hl hf
      refine lv_iload hx hb d_M_sideFacing_6 (lv_at hl 5 rfl) ?_
      refine lv_bipush (v := 40) hx hb d_M_sideFacing_8 (by decide) ?_
      refine lv_icmp_ge (tgt := 58) hx hb d_M_sideFacing_10 (by decide) (fun c1 => ?_) (fun c1 => ?_)
      · have c1a : 40 ≤ a := (nI_leI (a := 40) (b := a) (by decide) (by omega)).mp c1
        refine lv_iload hx hb d_M_sideFacing_58 (lv_at hl 4 rfl) ?_
        refine lv_iconst (v := 1) hx hb d_M_sideFacing_60 (by decide) ?_
        refine lv_ixor hx hb d_M_sideFacing_61 ?_
        refine rtop (y := nI (tw fst)) (nI_xor1 (fst) (by omega)) ?_
        exact rret S hr hlk (v := nI (tw fst)) (congrArg nI (hf.trans (show fx_M_sideFacing u X Y w dx dy a fst = (tw fst) from rfl)).symm) d_M_sideFacing_62
      · have c1a : ¬ (40 ≤ a) := fun h => c1 ((nI_leI (a := 40) (b := a) (by decide) (by omega)).mpr h)
        omega
    | succ n ih =>
      intro a fst hk hfi ls hl hf
      refine lv_iload hx hb d_M_sideFacing_6 (lv_at hl 5 rfl) ?_
      refine lv_bipush (v := 40) hx hb d_M_sideFacing_8 (by decide) ?_
      refine lv_icmp_ge (tgt := 58) hx hb d_M_sideFacing_10 (by decide) (fun c2 => ?_) (fun c2 => ?_)
      · have c2a : 40 ≤ a := (nI_leI (a := 40) (b := a) (by decide) (by omega)).mp c2
        omega
      · have c2a : ¬ (40 ≤ a) := fun h => c2 ((nI_leI (a := 40) (b := a) (by decide) (by omega)).mpr h)
        refine lv_aload_n hx hb d_M_sideFacing_13 rfl (lv_at hl 0 rfl) ?_
        refine rget S hK hP 0 rfl rfl in_M 0 (by decide) kF_M_9 rfl d_M_sideFacing_14 ?_
        refine lv_iload hx hb d_M_sideFacing_17 (lv_at hl 5 rfl) ?_
        refine lv_iconst (v := 2) hx hb d_M_sideFacing_19 (by decide) ?_
        refine lv_idiv hx hb d_M_sideFacing_20 (by decide) ?_
        refine rtop (y := nI (a / 2)) (pk_div (a := a) (d := 2) (by omega) (by decide) (by decide)) ?_
        refine rzald (j := a / 2) S hK hP 1 0 rfl rfl (by omega) (by first | decide | omega) d_M_sideFacing_21 ?_
        refine lv_if_eq (tgt := 52) hx hb d_M_sideFacing_22 (by decide) (fun c3 => ?_) (fun c3 => ?_)
        · have c3a : ¬ (u (a / 2) = true) := b2n (b2i_eq0.mp c3)
          refine lv_iinc (v := nI (a + 1)) (lv' := [(5, .int (nI (a + 1))), (0, .ref hm), (1, .int (nI (w))), (2, .int dx), (3, .int dy), (4, .int (nI (fst)))]) hx hb d_M_sideFacing_52 hl (k := 5) rfl (nI_1 (a)) (by decide) rfl (fun ls hl => ?_)
          refine lv_goto (tgt := 6) hx hb d_M_sideFacing_55 (by decide) ?_
          exact ih (a + 1) fst (by omega) (by omega) ls (lv_sub hl [1, 2, 3, 4, 5, 0] rfl) (hf.trans (show fb_M_sideFacing u X Y w dx dy (fl_M_sideFacing u X Y w dx dy n) a fst = (fl_M_sideFacing u X Y w dx dy n (a + 1) fst) from by unfold fb_M_sideFacing; rw [if_neg c3a]))
        · have c3a : u (a / 2) = true := b2i_ne0.mp c3
          refine lv_aload_n hx hb d_M_sideFacing_25 rfl (lv_at hl 0 rfl) ?_
          refine lv_iload hx hb d_M_sideFacing_26 (lv_at hl 5 rfl) ?_
          refine lv_iload_n hx hb d_M_sideFacing_28 rfl (lv_at hl 1 rfl) ?_
          refine rcallV (rest := []) (v := b2i (f_M_sameTail u X Y a w)) S [.int (nI (a)), .int (nI (w))] hK hP [0, 1, 2, 3] rfl [0, 1] rfl (c_M_sameTail l D hm hu hxs hys cZ cI u X Y a w (by omega) (by omega)) i_M_sameTail kL_M_35 ⟨Nat.le_of_ble_eq_true rfl, Nat.le_of_ble_eq_true rfl⟩ (by exact ⟨Nat.zero_le _, Nat.zero_le _⟩) (q0 := 0) (ci := 1) rfl rfl rfl hl.1 rfl (Nat.le_of_ble_eq_true rfl) d_M_sideFacing_29 ?_
          refine lv_if_eq (tgt := 52) hx hb d_M_sideFacing_32 (by decide) (fun c4 => ?_) (fun c4 => ?_)
          · have c4a : ¬ (f_M_sameTail u X Y a w = true) := b2n (b2i_eq0.mp c4)
            refine lv_iinc (v := nI (a + 1)) (lv' := [(5, .int (nI (a + 1))), (0, .ref hm), (1, .int (nI (w))), (2, .int dx), (3, .int dy), (4, .int (nI (fst)))]) hx hb d_M_sideFacing_52 hl (k := 5) rfl (nI_1 (a)) (by decide) rfl (fun ls hl => ?_)
            refine lv_goto (tgt := 6) hx hb d_M_sideFacing_55 (by decide) ?_
            exact ih (a + 1) fst (by omega) (by omega) ls (lv_sub hl [1, 2, 3, 4, 5, 0] rfl) (hf.trans (show fb_M_sideFacing u X Y w dx dy (fl_M_sideFacing u X Y w dx dy n) a fst = (fl_M_sideFacing u X Y w dx dy n (a + 1) fst) from by unfold fb_M_sideFacing; rw [if_pos c3a, if_neg c4a]))
          · have c4a : f_M_sameTail u X Y a w = true := b2i_ne0.mp c4
            refine lv_aload_n hx hb d_M_sideFacing_35 rfl (lv_at hl 0 rfl) ?_
            refine lv_iload hx hb d_M_sideFacing_36 (lv_at hl 5 rfl) ?_
            refine lv_iload hx hb d_M_sideFacing_38 (lv_at hl 4 rfl) ?_
            refine lv_iload_n hx hb d_M_sideFacing_40 rfl (lv_at hl 2 rfl) ?_
            refine lv_iload_n hx hb d_M_sideFacing_41 rfl (lv_at hl 3 rfl) ?_
            refine rcallV (rest := []) (v := b2i (f_M_comesSooner u X Y a fst dx dy)) S [.int (nI (a)), .int (nI (fst)), .int dx, .int dy] hK hP [0, 1, 2, 3] rfl [0, 1] rfl (c_M_comesSooner l D hm hu hxs hys cZ cI u X Y a fst dx dy (by omega) (by omega)) i_M_comesSooner kL_M_69 ⟨Nat.le_of_ble_eq_true rfl, Nat.le_of_ble_eq_true rfl⟩ (by exact ⟨Nat.zero_le _, Nat.zero_le _⟩) (q0 := 0) (ci := 1) rfl rfl rfl hl.1 rfl (Nat.le_of_ble_eq_true rfl) d_M_sideFacing_42 ?_
            refine lv_if_eq (tgt := 52) hx hb d_M_sideFacing_45 (by decide) (fun c5 => ?_) (fun c5 => ?_)
            · have c5a : ¬ (f_M_comesSooner u X Y a fst dx dy = true) := b2n (b2i_eq0.mp c5)
              refine lv_iinc (v := nI (a + 1)) (lv' := [(5, .int (nI (a + 1))), (0, .ref hm), (1, .int (nI (w))), (2, .int dx), (3, .int dy), (4, .int (nI (fst)))]) hx hb d_M_sideFacing_52 hl (k := 5) rfl (nI_1 (a)) (by decide) rfl (fun ls hl => ?_)
              refine lv_goto (tgt := 6) hx hb d_M_sideFacing_55 (by decide) ?_
              exact ih (a + 1) fst (by omega) (by omega) ls (lv_sub hl [1, 2, 3, 4, 5, 0] rfl) (hf.trans (show fb_M_sideFacing u X Y w dx dy (fl_M_sideFacing u X Y w dx dy n) a fst = (fl_M_sideFacing u X Y w dx dy n (a + 1) fst) from by unfold fb_M_sideFacing; rw [if_pos c3a, if_pos c4a, if_neg c5a]))
            · have c5a : f_M_comesSooner u X Y a fst dx dy = true := b2i_ne0.mp c5
              refine lv_iload hx hb d_M_sideFacing_48 (lv_at hl 5 rfl) ?_
              refine lv_istore (lv' := [(4, .int (nI (a))), (0, .ref hm), (1, .int (nI (w))), (2, .int dx), (3, .int dy), (5, .int (nI (a)))]) hx hb d_M_sideFacing_50 hl (by decide) rfl (fun ls hl => ?_)
              refine lv_iinc (v := nI (a + 1)) (lv' := [(5, .int (nI (a + 1))), (4, .int (nI (a))), (0, .ref hm), (1, .int (nI (w))), (2, .int dx), (3, .int dy)]) hx hb d_M_sideFacing_52 hl (k := 5) rfl (nI_1 (a)) (by decide) rfl (fun ls hl => ?_)
              refine lv_goto (tgt := 6) hx hb d_M_sideFacing_55 (by decide) ?_
              exact ih (a + 1) a (by omega) (by omega) ls (lv_sub hl [2, 3, 4, 5, 1, 0] rfl) (hf.trans (show fb_M_sideFacing u X Y w dx dy (fl_M_sideFacing u X Y w dx dy n) a fst = (fl_M_sideFacing u X Y w dx dy n (a + 1) a) from by unfold fb_M_sideFacing; rw [if_pos c3a, if_pos c4a, if_pos c5a]))
  refine lv_iload_n hx hb d_M_sideFacing_0 rfl (lv_at hl 1 rfl) ?_
  refine lv_istore (lv' := [(4, .int (nI (w))), (0, .ref hm), (1, .int (nI (w))), (2, .int dx), (3, .int dy)]) hx hb d_M_sideFacing_1 hl (by decide) rfl (fun ls hl => ?_)
  refine lv_iconst (v := 0) hx hb d_M_sideFacing_3 (by decide) ?_
  refine lv_istore (lv' := [(5, .int 0), (4, .int (nI (w))), (0, .ref hm), (1, .int (nI (w))), (2, .int dx), (3, .int dy)]) hx hb d_M_sideFacing_4 hl (by decide) rfl (fun ls hl => ?_)
  exact key 40 0 w (by omega) hw ls (lv_sub hl [2, 3, 4, 5, 1, 0] rfl) (show f_M_sideFacing u X Y w dx dy = (fl_M_sideFacing u X Y w dx dy 40 0 w) from rfl)
def f_M_sweep (u : Nat → Bool) (X : Nat → Int32) (Y : Nat → Int32) (a : Nat) : Int32 := (f_M_cross (X a) (Y a) (X (tw a)) (Y (tw a)))
theorem i_M_sweep : inV y_M_sweep b_M_sweep 2 (some .int) 1 := ⟨kM_y_M_sweep, kV_y_M_sweep, kI_M, kY_y_M_sweep, by decide +kernel⟩
set_option maxHeartbeats 4000000 in
set_option maxRecDepth 100000 in
theorem c_M_sweep (l : Launch) (D : va_G) (hm hu hxs hys : Nat) (cZ cI : ClassId) (u : Nat → Bool) (X Y : Nat → Int32) (a : Nat) (ha : a < 40)  : PM l y_M_sweep b_M_sweep 2 (some .int) 1 23 D (mapW hm hu hxs hys cZ cI u X Y) [(cZ, .boolean), (cI, .int)] [.ref hm, .int (nI (a))] (f_M_sweep u X Y a) := by
  refine pMet rfl (fun p e s m below meth c S hr hlk hP hK ls hl => ?_) (Nat.le_of_ble_eq_true rfl)
  have hx := S.1
  have hb := S.2.1
  have hl : lv_has ls 2 [(0, .ref hm), (1, .int (nI (a)))] := hl
  refine lv_aload_n hx hb d_M_sweep_0 rfl (lv_at hl 0 rfl) ?_
  refine rget S hK hP 0 rfl rfl in_M 1 (by decide) kF_M_15 rfl d_M_sweep_1 ?_
  refine lv_iload_n hx hb d_M_sweep_4 rfl (lv_at hl 1 rfl) ?_
  refine riald (j := a) S hK hP 2 1 rfl rfl (by omega) (by first | decide | omega) d_M_sweep_5 ?_
  refine lv_aload_n hx hb d_M_sweep_6 rfl (lv_at hl 0 rfl) ?_
  refine rget S hK hP 0 rfl rfl in_M 2 (by decide) kF_M_19 rfl d_M_sweep_7 ?_
  refine lv_iload_n hx hb d_M_sweep_10 rfl (lv_at hl 1 rfl) ?_
  refine riald (j := a) S hK hP 3 1 rfl rfl (by omega) (by first | decide | omega) d_M_sweep_11 ?_
  refine lv_aload_n hx hb d_M_sweep_12 rfl (lv_at hl 0 rfl) ?_
  refine rget S hK hP 0 rfl rfl in_M 1 (by decide) kF_M_15 rfl d_M_sweep_13 ?_
  refine lv_iload_n hx hb d_M_sweep_16 rfl (lv_at hl 1 rfl) ?_
  refine lv_iconst (v := 1) hx hb d_M_sweep_17 (by decide) ?_
  refine lv_ixor hx hb d_M_sweep_18 ?_
  refine rtop (y := nI (tw a)) (nI_xor1 (a) (by omega)) ?_
  refine riald (j := tw a) S hK hP 2 1 rfl rfl (tw_lt (by omega)) (by first | decide | omega) d_M_sweep_19 ?_
  refine lv_aload_n hx hb d_M_sweep_20 rfl (lv_at hl 0 rfl) ?_
  refine rget S hK hP 0 rfl rfl in_M 2 (by decide) kF_M_19 rfl d_M_sweep_21 ?_
  refine lv_iload_n hx hb d_M_sweep_24 rfl (lv_at hl 1 rfl) ?_
  refine lv_iconst (v := 1) hx hb d_M_sweep_25 (by decide) ?_
  refine lv_ixor hx hb d_M_sweep_26 ?_
  refine rtop (y := nI (tw a)) (nI_xor1 (a) (by omega)) ?_
  refine riald (j := tw a) S hK hP 3 1 rfl rfl (tw_lt (by omega)) (by first | decide | omega) d_M_sweep_27 ?_
  refine rcallS (rest := []) (v := (f_M_cross (X a) (Y a) (X (tw a)) (Y (tw a)))) S [.int (X a), .int (Y a), .int (X (tw a)), .int (Y (tw a))] hK hP [] rfl [] rfl (c_M_cross l D  (X a) (Y a) (X (tw a)) (Y (tw a)) ) i_M_cross rfl kL_M_53 ⟨Nat.le_of_ble_eq_true rfl, Nat.le_of_ble_eq_true rfl⟩ (by exact ⟨Nat.zero_le _, Nat.zero_le _⟩) hl.1 rfl (Nat.le_of_ble_eq_true rfl) d_M_sweep_28 ?_
  exact rret S hr hlk (v := (f_M_cross (X a) (Y a) (X (tw a)) (Y (tw a)))) (show f_M_sweep u X Y a = (f_M_cross (X a) (Y a) (X (tw a)) (Y (tw a))) from rfl).symm d_M_sweep_31
end
section
theorem sf_fl (u : Nat → Bool) (X Y : Nat → Int32) (w : Nat) (dx dy : Int32) : ∀ (n a fst : Nat), a + n = 40 → fst < 40 → fl_M_sideFacing u X Y w dx dy n a fst < 40 := by
  intro n
  induction n with
  | zero =>
    intro a fst _ h
    show fx_M_sideFacing u X Y w dx dy a fst < 40
    unfold fx_M_sideFacing
    exact tw_lt h
  | succ n ih =>
    intro a fst ha h
    show fb_M_sideFacing u X Y w dx dy (fl_M_sideFacing u X Y w dx dy n) a fst < 40
    unfold fb_M_sideFacing
    repeat' split
    all_goals (apply ih <;> omega)
theorem sideFacing_lt (u : Nat → Bool) (X Y : Nat → Int32) (w : Nat) (dx dy : Int32) (hw : w < 40) : f_M_sideFacing u X Y w dx dy < 40 := by
  unfold f_M_sideFacing
  exact sf_fl u X Y w dx dy 40 0 w (by omega) hw
def okN (n : Nat) (r : Int32) : Prop := r = -1 ∨ ∃ j : Nat, j < n ∧ r = nI j
theorem struck_fl (u : Nat → Bool) (X Y : Nat → Int32) (x y : Int32) : ∀ (n k : Nat) (best br bn : Int32), k + n = 20 → okN 20 best → okN 20 (fl_M_struckAbove u X Y x y n k best br bn) := by
  intro n
  induction n with
  | zero =>
    intro k best br bn _ h
    exact h
  | succ n ih =>
    intro k best br bn hk h
    show okN 20 (fb_M_struckAbove u X Y x y (fl_M_struckAbove u X Y x y n) k best br bn)
    unfold fb_M_struckAbove
    repeat' split
    all_goals first
      | exact ih _ _ _ _ (by omega) h
      | exact ih _ _ _ _ (by omega) (Or.inr ⟨k, by omega, rfl⟩)
theorem struck_ok (u : Nat → Bool) (X Y : Nat → Int32) (x y : Int32) : okN 20 (f_M_struckAbove u X Y x y) := by
  unfold f_M_struckAbove
  exact struck_fl u X Y x y 20 0 (-1) 0 1 (by omega) (Or.inl rfl)
theorem okN_nat {n : Nat} {r : Int32} (h : okN n r) (h1 : ¬ r = -1) (hn : n < 2 ^ 31) : r = nI r.toNatClampNeg ∧ r.toNatClampNeg < n := by
  rcases h with h | ⟨j, hj, rfl⟩
  · exact absurd h h1
  · rw [nI_clamp (Nat.lt_trans hj hn)]
    exact ⟨rfl, hj⟩
theorem struck_nat (u : Nat → Bool) (X Y : Nat → Int32) (x y : Int32) (h : ¬ f_M_struckAbove u X Y x y = -1) : f_M_struckAbove u X Y x y = nI (f_M_struckAbove u X Y x y).toNatClampNeg := (okN_nat (struck_ok u X Y x y) h (by decide)).1
theorem struck_lt (u : Nat → Bool) (X Y : Nat → Int32) (x y : Int32) (h : ¬ f_M_struckAbove u X Y x y = -1) : (f_M_struckAbove u X Y x y).toNatClampNeg < 20 := (okN_nat (struck_ok u X Y x y) h (by decide)).2
def f_M_sideAbove (u : Nat → Bool) (X : Nat → Int32) (Y : Nat → Int32) (x : Int32) (y : Int32) : Nat := if (f_M_struckAbove u X Y x y) = (-1) then 40 else (if x ≤ X (2 * ((f_M_struckAbove u X Y x y).toNatClampNeg)) then (if x = X (2 * ((f_M_struckAbove u X Y x y).toNatClampNeg)) then (f_M_sideFacing u X Y (2 * ((f_M_struckAbove u X Y x y).toNatClampNeg)) 0 (-1)) else (f_M_sideFacing u X Y ((2 * ((f_M_struckAbove u X Y x y).toNatClampNeg)) + 1) 0 (-1))) else (if X ((2 * ((f_M_struckAbove u X Y x y).toNatClampNeg)) + 1) ≤ x then (if x = X (2 * ((f_M_struckAbove u X Y x y).toNatClampNeg)) then (f_M_sideFacing u X Y (2 * ((f_M_struckAbove u X Y x y).toNatClampNeg)) 0 (-1)) else (f_M_sideFacing u X Y ((2 * ((f_M_struckAbove u X Y x y).toNatClampNeg)) + 1) 0 (-1))) else ((2 * ((f_M_struckAbove u X Y x y).toNatClampNeg)) + 1)))
theorem i_M_sideAbove : inV y_M_sideAbove b_M_sideAbove 6 (some .int) 2 := ⟨kM_y_M_sideAbove, kV_y_M_sideAbove, kI_M, kY_y_M_sideAbove, by decide +kernel⟩
set_option maxHeartbeats 4000000 in
set_option maxRecDepth 100000 in
theorem c_M_sideAbove (l : Launch) (D : va_G) (hm hu hxs hys : Nat) (cZ cI : ClassId) (u : Nat → Bool) (X Y : Nat → Int32) (x : Int32) (y : Int32)   : PM l y_M_sideAbove b_M_sideAbove 6 (some .int) 3 75 D (mapW hm hu hxs hys cZ cI u X Y) [(cZ, .boolean), (cI, .int)] [.ref hm, .int x, .int y] (nI (f_M_sideAbove u X Y x y)) := by
  refine pMet rfl (fun p e s m below meth c S hr hlk hP hK ls hl => ?_) (Nat.le_of_ble_eq_true rfl)
  have hx := S.1
  have hb := S.2.1
  have hl : lv_has ls 6 [(0, .ref hm), (1, .int x), (2, .int y)] := hl
  refine lv_aload_n hx hb d_M_sideAbove_0 rfl (lv_at hl 0 rfl) ?_
  refine lv_iload_n hx hb d_M_sideAbove_1 rfl (lv_at hl 1 rfl) ?_
  refine lv_iload_n hx hb d_M_sideAbove_2 rfl (lv_at hl 2 rfl) ?_
  refine rcallV (rest := []) (v := (f_M_struckAbove u X Y x y)) S [.int x, .int y] hK hP [0, 1, 2, 3] rfl [0, 1] rfl (c_M_struckAbove l D hm hu hxs hys cZ cI u X Y x y ) i_M_struckAbove kL_M_63 ⟨Nat.le_of_ble_eq_true rfl, Nat.le_of_ble_eq_true rfl⟩ (by exact ⟨Nat.zero_le _, Nat.zero_le _⟩) (q0 := 0) (ci := 1) rfl rfl rfl hl.1 rfl (Nat.le_of_ble_eq_true rfl) d_M_sideAbove_3 ?_
  refine lv_istore_n (lv' := [(3, .int ((f_M_struckAbove u X Y x y))), (0, .ref hm), (1, .int x), (2, .int y)]) hx hb d_M_sideAbove_6 rfl hl (by decide) rfl (fun ls hl => ?_)
  refine lv_iload_n hx hb d_M_sideAbove_7 rfl (lv_at hl 0 rfl) ?_
  refine lv_iconst (v := (-1)) hx hb d_M_sideAbove_8 (by decide) ?_
  refine lv_icmp_ne (tgt := 15) hx hb d_M_sideAbove_9 (by decide) (fun c1 => ?_) (fun c1 => ?_)
  · have c1a : ¬ ((f_M_struckAbove u X Y x y) = (-1)) := c1
    have ek2 : (f_M_struckAbove u X Y x y) = nI ((f_M_struckAbove u X Y x y).toNatClampNeg) := struck_nat u X Y x y c1a
    have hk2 : (f_M_struckAbove u X Y x y).toNatClampNeg < 20 := struck_lt u X Y x y c1a
    rw [ek2] at hl
    refine lv_iconst (v := 2) hx hb d_M_sideAbove_15 (by decide) ?_
    refine lv_iload_n hx hb d_M_sideAbove_16 rfl (lv_at hl 0 rfl) ?_
    refine lv_imul hx hb d_M_sideAbove_17 ?_
    refine rtop (y := nI (2 * ((f_M_struckAbove u X Y x y).toNatClampNeg))) (pk_mul (2) ((f_M_struckAbove u X Y x y).toNatClampNeg)) ?_
    refine lv_istore (lv' := [(4, .int (nI (2 * ((f_M_struckAbove u X Y x y).toNatClampNeg)))), (3, .int (nI ((f_M_struckAbove u X Y x y).toNatClampNeg))), (0, .ref hm), (1, .int x), (2, .int y)]) hx hb d_M_sideAbove_18 hl (by decide) rfl (fun ls hl => ?_)
    refine lv_iconst (v := 2) hx hb d_M_sideAbove_20 (by decide) ?_
    refine lv_iload_n hx hb d_M_sideAbove_21 rfl (lv_at hl 1 rfl) ?_
    refine lv_imul hx hb d_M_sideAbove_22 ?_
    refine rtop (y := nI (2 * ((f_M_struckAbove u X Y x y).toNatClampNeg))) (pk_mul (2) ((f_M_struckAbove u X Y x y).toNatClampNeg)) ?_
    refine lv_iconst (v := 1) hx hb d_M_sideAbove_23 (by decide) ?_
    refine lv_iadd hx hb d_M_sideAbove_24 ?_
    refine rtop (y := nI ((2 * ((f_M_struckAbove u X Y x y).toNatClampNeg)) + 1)) (nI_add (2 * ((f_M_struckAbove u X Y x y).toNatClampNeg)) (1)) ?_
    refine lv_istore (lv' := [(5, .int (nI ((2 * ((f_M_struckAbove u X Y x y).toNatClampNeg)) + 1))), (4, .int (nI (2 * ((f_M_struckAbove u X Y x y).toNatClampNeg)))), (3, .int (nI ((f_M_struckAbove u X Y x y).toNatClampNeg))), (0, .ref hm), (1, .int x), (2, .int y)]) hx hb d_M_sideAbove_25 hl (by decide) rfl (fun ls hl => ?_)
    refine lv_iload_n hx hb d_M_sideAbove_27 rfl (lv_at hl 4 rfl) ?_
    refine lv_aload_n hx hb d_M_sideAbove_28 rfl (lv_at hl 3 rfl) ?_
    refine rget S hK hP 0 rfl rfl in_M 1 (by decide) kF_M_15 rfl d_M_sideAbove_29 ?_
    refine lv_iload hx hb d_M_sideAbove_32 (lv_at hl 1 rfl) ?_
    refine riald (j := 2 * ((f_M_struckAbove u X Y x y).toNatClampNeg)) S hK hP 2 1 rfl rfl (by omega) (by first | decide | omega) d_M_sideAbove_34 ?_
    refine lv_icmp_le (tgt := 52) hx hb d_M_sideAbove_35 (by decide) (fun c2 => ?_) (fun c2 => ?_)
    · have c2a : x ≤ X (2 * ((f_M_struckAbove u X Y x y).toNatClampNeg)) := c2
      refine lv_aload_n hx hb d_M_sideAbove_52 rfl (lv_at hl 3 rfl) ?_
      refine lv_iload_n hx hb d_M_sideAbove_53 rfl (lv_at hl 4 rfl) ?_
      refine lv_aload_n hx hb d_M_sideAbove_54 rfl (lv_at hl 3 rfl) ?_
      refine rget S hK hP 0 rfl rfl in_M 1 (by decide) kF_M_15 rfl d_M_sideAbove_55 ?_
      refine lv_iload hx hb d_M_sideAbove_58 (lv_at hl 1 rfl) ?_
      refine riald (j := 2 * ((f_M_struckAbove u X Y x y).toNatClampNeg)) S hK hP 2 1 rfl rfl (by omega) (by first | decide | omega) d_M_sideAbove_60 ?_
      refine lv_icmp_ne (tgt := 69) hx hb d_M_sideAbove_61 (by decide) (fun c3 => ?_) (fun c3 => ?_)
      · have c3a : ¬ (x = X (2 * ((f_M_struckAbove u X Y x y).toNatClampNeg))) := c3
        refine lv_iload hx hb d_M_sideAbove_69 (lv_at hl 0 rfl) ?_
        refine lv_iconst (v := 0) hx hb d_M_sideAbove_71 (by decide) ?_
        refine lv_iconst (v := (-1)) hx hb d_M_sideAbove_72 (by decide) ?_
        refine rcallV (rest := []) (v := nI (f_M_sideFacing u X Y ((2 * ((f_M_struckAbove u X Y x y).toNatClampNeg)) + 1) 0 (-1))) S [.int (nI ((2 * ((f_M_struckAbove u X Y x y).toNatClampNeg)) + 1)), .int 0, .int ((-1))] hK hP [0, 1, 2, 3] rfl [0, 1] rfl (c_M_sideFacing l D hm hu hxs hys cZ cI u X Y ((2 * ((f_M_struckAbove u X Y x y).toNatClampNeg)) + 1) 0 (-1) (by omega)) i_M_sideFacing kL_M_66 ⟨Nat.le_of_ble_eq_true rfl, Nat.le_of_ble_eq_true rfl⟩ (by exact ⟨Nat.zero_le _, Nat.zero_le _⟩) (q0 := 0) (ci := 1) rfl rfl rfl hl.1 rfl (Nat.le_of_ble_eq_true rfl) d_M_sideAbove_73 ?_
        have hsf := sideFacing_lt u X Y ((2 * ((f_M_struckAbove u X Y x y).toNatClampNeg)) + 1) 0 (-1) (by first | omega | exact tw_lt (by omega))
        exact rret S hr hlk (v := nI (f_M_sideFacing u X Y ((2 * ((f_M_struckAbove u X Y x y).toNatClampNeg)) + 1) 0 (-1))) (congrArg nI (show f_M_sideAbove u X Y x y = (f_M_sideFacing u X Y ((2 * ((f_M_struckAbove u X Y x y).toNatClampNeg)) + 1) 0 (-1)) from by unfold f_M_sideAbove; rw [if_neg c1a, if_pos c2a, if_neg c3a]).symm) d_M_sideAbove_76
      · have c3a : x = X (2 * ((f_M_struckAbove u X Y x y).toNatClampNeg)) := c3
        refine lv_iload hx hb d_M_sideAbove_64 (lv_at hl 1 rfl) ?_
        refine lv_goto (tgt := 71) hx hb d_M_sideAbove_66 (by decide) ?_
        refine lv_iconst (v := 0) hx hb d_M_sideAbove_71 (by decide) ?_
        refine lv_iconst (v := (-1)) hx hb d_M_sideAbove_72 (by decide) ?_
        refine rcallV (rest := []) (v := nI (f_M_sideFacing u X Y (2 * ((f_M_struckAbove u X Y x y).toNatClampNeg)) 0 (-1))) S [.int (nI (2 * ((f_M_struckAbove u X Y x y).toNatClampNeg))), .int 0, .int ((-1))] hK hP [0, 1, 2, 3] rfl [0, 1] rfl (c_M_sideFacing l D hm hu hxs hys cZ cI u X Y (2 * ((f_M_struckAbove u X Y x y).toNatClampNeg)) 0 (-1) (by omega)) i_M_sideFacing kL_M_66 ⟨Nat.le_of_ble_eq_true rfl, Nat.le_of_ble_eq_true rfl⟩ (by exact ⟨Nat.zero_le _, Nat.zero_le _⟩) (q0 := 0) (ci := 1) rfl rfl rfl hl.1 rfl (Nat.le_of_ble_eq_true rfl) d_M_sideAbove_73 ?_
        have hsf := sideFacing_lt u X Y (2 * ((f_M_struckAbove u X Y x y).toNatClampNeg)) 0 (-1) (by first | omega | exact tw_lt (by omega))
        exact rret S hr hlk (v := nI (f_M_sideFacing u X Y (2 * ((f_M_struckAbove u X Y x y).toNatClampNeg)) 0 (-1))) (congrArg nI (show f_M_sideAbove u X Y x y = (f_M_sideFacing u X Y (2 * ((f_M_struckAbove u X Y x y).toNatClampNeg)) 0 (-1)) from by unfold f_M_sideAbove; rw [if_neg c1a, if_pos c2a, if_pos c3a]).symm) d_M_sideAbove_76
    · have c2a : ¬ (x ≤ X (2 * ((f_M_struckAbove u X Y x y).toNatClampNeg))) := c2
      refine lv_iload_n hx hb d_M_sideAbove_38 rfl (lv_at hl 4 rfl) ?_
      refine lv_aload_n hx hb d_M_sideAbove_39 rfl (lv_at hl 3 rfl) ?_
      refine rget S hK hP 0 rfl rfl in_M 1 (by decide) kF_M_15 rfl d_M_sideAbove_40 ?_
      refine lv_iload hx hb d_M_sideAbove_43 (lv_at hl 0 rfl) ?_
      refine riald (j := (2 * ((f_M_struckAbove u X Y x y).toNatClampNeg)) + 1) S hK hP 2 1 rfl rfl (by omega) (by first | decide | omega) d_M_sideAbove_45 ?_
      refine lv_icmp_ge (tgt := 52) hx hb d_M_sideAbove_46 (by decide) (fun c4 => ?_) (fun c4 => ?_)
      · have c4a : X ((2 * ((f_M_struckAbove u X Y x y).toNatClampNeg)) + 1) ≤ x := c4
        refine lv_aload_n hx hb d_M_sideAbove_52 rfl (lv_at hl 3 rfl) ?_
        refine lv_iload_n hx hb d_M_sideAbove_53 rfl (lv_at hl 4 rfl) ?_
        refine lv_aload_n hx hb d_M_sideAbove_54 rfl (lv_at hl 3 rfl) ?_
        refine rget S hK hP 0 rfl rfl in_M 1 (by decide) kF_M_15 rfl d_M_sideAbove_55 ?_
        refine lv_iload hx hb d_M_sideAbove_58 (lv_at hl 1 rfl) ?_
        refine riald (j := 2 * ((f_M_struckAbove u X Y x y).toNatClampNeg)) S hK hP 2 1 rfl rfl (by omega) (by first | decide | omega) d_M_sideAbove_60 ?_
        refine lv_icmp_ne (tgt := 69) hx hb d_M_sideAbove_61 (by decide) (fun c5 => ?_) (fun c5 => ?_)
        · have c5a : ¬ (x = X (2 * ((f_M_struckAbove u X Y x y).toNatClampNeg))) := c5
          refine lv_iload hx hb d_M_sideAbove_69 (lv_at hl 0 rfl) ?_
          refine lv_iconst (v := 0) hx hb d_M_sideAbove_71 (by decide) ?_
          refine lv_iconst (v := (-1)) hx hb d_M_sideAbove_72 (by decide) ?_
          refine rcallV (rest := []) (v := nI (f_M_sideFacing u X Y ((2 * ((f_M_struckAbove u X Y x y).toNatClampNeg)) + 1) 0 (-1))) S [.int (nI ((2 * ((f_M_struckAbove u X Y x y).toNatClampNeg)) + 1)), .int 0, .int ((-1))] hK hP [0, 1, 2, 3] rfl [0, 1] rfl (c_M_sideFacing l D hm hu hxs hys cZ cI u X Y ((2 * ((f_M_struckAbove u X Y x y).toNatClampNeg)) + 1) 0 (-1) (by omega)) i_M_sideFacing kL_M_66 ⟨Nat.le_of_ble_eq_true rfl, Nat.le_of_ble_eq_true rfl⟩ (by exact ⟨Nat.zero_le _, Nat.zero_le _⟩) (q0 := 0) (ci := 1) rfl rfl rfl hl.1 rfl (Nat.le_of_ble_eq_true rfl) d_M_sideAbove_73 ?_
          have hsf := sideFacing_lt u X Y ((2 * ((f_M_struckAbove u X Y x y).toNatClampNeg)) + 1) 0 (-1) (by first | omega | exact tw_lt (by omega))
          exact rret S hr hlk (v := nI (f_M_sideFacing u X Y ((2 * ((f_M_struckAbove u X Y x y).toNatClampNeg)) + 1) 0 (-1))) (congrArg nI (show f_M_sideAbove u X Y x y = (f_M_sideFacing u X Y ((2 * ((f_M_struckAbove u X Y x y).toNatClampNeg)) + 1) 0 (-1)) from by unfold f_M_sideAbove; rw [if_neg c1a, if_neg c2a, if_pos c4a, if_neg c5a]).symm) d_M_sideAbove_76
        · have c5a : x = X (2 * ((f_M_struckAbove u X Y x y).toNatClampNeg)) := c5
          refine lv_iload hx hb d_M_sideAbove_64 (lv_at hl 1 rfl) ?_
          refine lv_goto (tgt := 71) hx hb d_M_sideAbove_66 (by decide) ?_
          refine lv_iconst (v := 0) hx hb d_M_sideAbove_71 (by decide) ?_
          refine lv_iconst (v := (-1)) hx hb d_M_sideAbove_72 (by decide) ?_
          refine rcallV (rest := []) (v := nI (f_M_sideFacing u X Y (2 * ((f_M_struckAbove u X Y x y).toNatClampNeg)) 0 (-1))) S [.int (nI (2 * ((f_M_struckAbove u X Y x y).toNatClampNeg))), .int 0, .int ((-1))] hK hP [0, 1, 2, 3] rfl [0, 1] rfl (c_M_sideFacing l D hm hu hxs hys cZ cI u X Y (2 * ((f_M_struckAbove u X Y x y).toNatClampNeg)) 0 (-1) (by omega)) i_M_sideFacing kL_M_66 ⟨Nat.le_of_ble_eq_true rfl, Nat.le_of_ble_eq_true rfl⟩ (by exact ⟨Nat.zero_le _, Nat.zero_le _⟩) (q0 := 0) (ci := 1) rfl rfl rfl hl.1 rfl (Nat.le_of_ble_eq_true rfl) d_M_sideAbove_73 ?_
          have hsf := sideFacing_lt u X Y (2 * ((f_M_struckAbove u X Y x y).toNatClampNeg)) 0 (-1) (by first | omega | exact tw_lt (by omega))
          exact rret S hr hlk (v := nI (f_M_sideFacing u X Y (2 * ((f_M_struckAbove u X Y x y).toNatClampNeg)) 0 (-1))) (congrArg nI (show f_M_sideAbove u X Y x y = (f_M_sideFacing u X Y (2 * ((f_M_struckAbove u X Y x y).toNatClampNeg)) 0 (-1)) from by unfold f_M_sideAbove; rw [if_neg c1a, if_neg c2a, if_pos c4a, if_pos c5a]).symm) d_M_sideAbove_76
      · have c4a : ¬ (X ((2 * ((f_M_struckAbove u X Y x y).toNatClampNeg)) + 1) ≤ x) := c4
        refine lv_iload hx hb d_M_sideAbove_49 (lv_at hl 0 rfl) ?_
        exact rret S hr hlk (v := nI ((2 * ((f_M_struckAbove u X Y x y).toNatClampNeg)) + 1)) (congrArg nI (show f_M_sideAbove u X Y x y = ((2 * ((f_M_struckAbove u X Y x y).toNatClampNeg)) + 1) from by unfold f_M_sideAbove; rw [if_neg c1a, if_neg c2a, if_neg c4a]).symm) d_M_sideAbove_51
  · have c1a : (f_M_struckAbove u X Y x y) = (-1) := c1
    refine lv_bipush (v := 40) hx hb d_M_sideAbove_12 (by decide) ?_
    exact rret S hr hlk (v := nI (40)) (congrArg nI (show f_M_sideAbove u X Y x y = 40 from by unfold f_M_sideAbove; rw [if_pos c1a]).symm) d_M_sideAbove_14
end
section
/-! Rows for methods that change their cells, whose addresses stay -/
def sPc (D : va_G) (ws : va_W) (tys : List (ClassId × FieldType)) (av : List Value) (sz : Nat) : Array Value → State → Prop := va_Pc av (fun U => U.heap.size = sz ∧ va_P D CLS ws U.heap ∧ va_K D CLS tys U ∧ va_D (fun _ => True) ws)
theorem sPc_blind {D : va_G} {ws : va_W} {tys : List (ClassId × FieldType)} {av : List Value} {sz : Nat} : FrameBlind (sPc D ws tys av sz) := fun a U g mk q => ⟨q.1, q.2.1, q.2.2.1, va_K.moved (u := U) (U := U.calling g mk a) (Vm.Alike.refl U.vm) q.2.2.2.1, q.2.2.2.2⟩
def sB (D : va_G) (ws : va_W) (tys : List (ClassId × FieldType)) (A : Nat → Prop) (t : State) : Prop := va_P D CLS ws t.heap ∧ va_K D CLS tys t ∧ va_D A ws
abbrev sQv (D : va_G) (ws : va_W) (tys : List (ClassId × FieldType)) (A : Nat → Prop) : Array Value → State → Outcome → State → Prop := va_Qv (fun _ : Unit => True) (fun _ => sB D ws tys A) A
abbrev sQi (v : Int32) (D : va_G) (ws : va_W) (tys : List (ClassId × FieldType)) (A : Nat → Prop) : Array Value → State → Outcome → State → Prop := va_Qi (fun r (_ : Unit) => r = v) (fun _ => sB D ws tys A) A
abbrev SMv (l : Launch) (y : MethodName) (cc : ByteArray) (maxL : Nat) (fr lo : Nat) (D : va_G) (ws : va_W) (tys : List (ClassId × FieldType)) (av : List Value) (sz : Nat) (ws' : va_W) : Prop :=
  Met l y (Cond.code y cc maxL none :: TBL) { frames := fr, cells := 0, slots := 0, locals := lo } (sPc D ws tys av sz) (sQv D ws' tys (va_A ws sz)) 0 0 (va_A ws sz)
abbrev SMi (l : Launch) (y : MethodName) (cc : ByteArray) (maxL : Nat) (ret : Option FieldType) (fr lo : Nat) (D : va_G) (ws : va_W) (tys : List (ClassId × FieldType)) (av : List Value) (sz : Nat) (v : Int32) (ws' : va_W) : Prop :=
  Met l y (Cond.code y cc maxL ret :: TBL) { frames := fr, cells := 0, slots := 0, locals := lo } (sPc D ws tys av sz) (sQi v D ws' tys (va_A ws sz)) 0 0 (va_A ws sz)
theorem sMet {l : Launch} {y : MethodName} {cc : ByteArray} {maxL : Nat} {ret : Option FieldType} {fr lo : Nat} {D : va_G} {ws : va_W} {tys : List (ClassId × FieldType)} {av : List Value} {sz : Nat} {Qc : (Nat → Prop) → Array Value → State → Outcome → State → Prop} (hy : plainName y.cls = true)
    (body : ∀ (p : Program) (e : Env) (s : State) (m : MethodId) (below : List Frame) (meth : Method) (c : Code) (A : Nat → Prop), CallFix p m c cc maxL s av.toArray TBL y.cls → meth.sig.returnType = ret → meth.locks = false → va_P D CLS ws s.heap → va_K D CLS tys s → va_D A ws → (∀ q : Nat, s.heap.size ≤ q → A q) → va_S A s.heap s.heap [] → ∀ ls, lv_has ls maxL (lv_args 0 av) →
      W p l e { frames := fr, cells := 0, slots := 0, locals := lo } s m av.toArray below meth c s.heap [] 0 0 (MQ below (Qc A) av.toArray s 0 0 A) (F0 m 0 ls []))
    (hlen : (lg_sl av).length ≤ maxL) : Met l y (Cond.code y cc maxL ret :: TBL) { frames := fr, cells := 0, slots := 0, locals := lo } (sPc D ws tys av sz) (Qc (va_A ws sz)) 0 0 (va_A ws sz) := by
  refine Met.ofW (cc := cc) (maxL := maxL) (ret := ret) hy rfl ?_
  intro p e s m args below meth c s₁ B hml hv
  obtain ⟨rfl, hsz, hP, hK, hD0⟩ := hv
  subst hsz
  have hts := atoms_spec (ws := Cond.code y cc maxL ret :: TBL) B.pre
  have hl := lv_entry av (n := maxL) hlen
  rw [lg_entry_eq]
  generalize (lg_sl av ++ List.replicate (maxL - (lg_sl av).length) Slot.unset).toArray = ls at hl ⊢
  exact body p e s m below meth c _ ⟨B.exec, B.bytes, hml, findClass_of_methodNamed B.named, fun w h => hts w (List.mem_cons_of_mem _ h)⟩ B.returns B.notSynchronized hP hK (hD0.self (sz := s.heap.size)) (fun q h => Or.inr h) va_S.rf ls hl
section SW
variable {p : Program} {l : Launch} {e : Env} {R : Room} {s : State} {m : MethodId} {args : Array Value} {below : List Frame} {meth : Method} {c : Code} {H : Heap} {locs : List Loc} {cells slots : Nat} {Q : State → Prop}
variable {cc : ByteArray} {pc nL : Nat} {ls : Array Slot} {rest st : List Value} {D : va_G} {a : Nat} {A : Nat → Prop} {H0 : Heap} {tys : List (ClassId × FieldType)} {ws : va_W} {own : String}
theorem riast (S : CallFix p m c cc nL s args TBL own) (hK : va_K D CLS tys s) (hP : va_P D CLS ws H) (hD : va_D A ws) (hS : va_S A H0 H locs) (q0 t0 : Nat) {cA : ClassId} {n j : Nat} {f : Nat → Int32} {x : Int32} (ha : ws[q0]? = some (a, .inl (cA, n, .inl f))) (ht : tys[t0]? = some (cA, .int)) (hj : j < n) (hn : n < 2 ^ 31) (hdg : decode cc pc = .ok (.iastore, 1))
    (kk : ∀ (H1 : Heap) (locs1 : List Loc), va_P D CLS (ws.set q0 (a, .inl (cA, n, .inl (upd f j x)))) H1 → va_D A (ws.set q0 (a, .inl (cA, n, .inl (upd f j x)))) → va_S A H0 H1 locs1 → W p l e R s m args below meth c H1 locs1 cells slots Q (F0 m (pc + 1) ls rest)) : W p l e R s m args below meth c H locs cells slots Q (F0 m pc ls (.int x :: .int (nI j) :: .ref a :: rest)) :=
  va_iast S.1 S.2.1 hK hP hD hS q0 t0 ha ht (vp_in_nI hj hn) hdg (by rw [nI_clamp (Nat.lt_trans hj hn)]; exact kk)
theorem rnast (S : CallFix p m c cc nL s args TBL own) (hK : va_K D CLS tys s) (hP : va_P D CLS ws H) (hD : va_D A ws) (hS : va_S A H0 H locs) (q0 t0 : Nat) {cA : ClassId} {n j : Nat} {f : Nat → Nat} {x : Nat} (ha : ws[q0]? = some (a, .inl (cA, n, .inl (fun i => nI (f i))))) (ht : tys[t0]? = some (cA, .int)) (hj : j < n) (hn : n < 2 ^ 31) (hdg : decode cc pc = .ok (.iastore, 1))
    (kk : ∀ (H1 : Heap) (locs1 : List Loc), va_P D CLS (ws.set q0 (a, .inl (cA, n, .inl (fun i => nI (updN f j x i))))) H1 → va_D A (ws.set q0 (a, .inl (cA, n, .inl (fun i => nI (updN f j x i))))) → va_S A H0 H1 locs1 → W p l e R s m args below meth c H1 locs1 cells slots Q (F0 m (pc + 1) ls rest)) : W p l e R s m args below meth c H locs cells slots Q (F0 m pc ls (.int (nI x) :: .int (nI j) :: .ref a :: rest)) := by
  have e : upd (fun i => nI (f i)) j (nI x) = fun i => nI (updN f j x i) := by
    funext i
    unfold upd updN
    split <;> rfl
  refine riast S hK hP hD hS q0 t0 ha ht hj hn hdg ?_
  rw [e]
  exact kk
theorem rzast (S : CallFix p m c cc nL s args TBL own) (hK : va_K D CLS tys s) (hP : va_P D CLS ws H) (hD : va_D A ws) (hS : va_S A H0 H locs) (q0 t0 : Nat) {cA : ClassId} {n j : Nat} {f : Nat → Bool} {x : Bool} (ha : ws[q0]? = some (a, .inl (cA, n, .inl (fun i => b2i (f i))))) (ht : tys[t0]? = some (cA, .boolean)) (hj : j < n) (hn : n < 2 ^ 31) (hdg : decode cc pc = .ok (.bastore, 1))
    (kk : ∀ (H1 : Heap) (locs1 : List Loc), va_P D CLS (ws.set q0 (a, .inl (cA, n, .inl (fun i => b2i (updB f j x i))))) H1 → va_D A (ws.set q0 (a, .inl (cA, n, .inl (fun i => b2i (updB f j x i))))) → va_S A H0 H1 locs1 → W p l e R s m args below meth c H1 locs1 cells slots Q (F0 m (pc + 1) ls rest)) : W p l e R s m args below meth c H locs cells slots Q (F0 m pc ls (.int (b2i x) :: .int (nI j) :: .ref a :: rest)) := by
  have e : upd (fun i => b2i (f i)) j (vp_nar .boolean (b2i x)) = fun i => b2i (updB f j x i) := by
    funext i
    rw [b2i_vnar]
    unfold upd updB
    split <;> rfl
  refine va_zast S.1 S.2.1 hK hP hD hS q0 t0 ha ht (vp_in_nI hj hn) hdg ?_
  rw [nI_clamp (Nat.lt_trans hj hn), e]
  exact kk
theorem ralen (S : CallFix p m c cc nL s args TBL own) (hK : va_K D CLS tys s) (hP : va_P D CLS ws H) (q0 t0 : Nat) {cA : ClassId} {x : vp_A} {n : Nat} (ha : ws[q0]? = some (a, .inl (cA, x))) {ty : FieldType} (ht : tys[t0]? = some (cA, ty)) (hv : x.1 = n) (hdg : decode cc pc = .ok (.arraylength, 1))
    (kk : W p l e R s m args below meth c H locs cells slots Q (F0 m (pc + 1) ls (.int (nI n) :: rest))) : W p l e R s m args below meth c H locs cells slots Q (F0 m pc ls (.ref a :: rest)) :=
  va_alen S.1 S.2.1 hK hP q0 t0 ha ht (by rw [hv]; rfl) hdg kk
theorem rputf (S : CallFix p m c cc nL s args TBL own) (hK : va_K D CLS tys s) (hP : va_P D CLS ws H) (hD : va_D A ws) (hS : va_S A H0 H locs) (q0 : Nat) {C : String} {T : u_T} {N ci : Nat} {fs : List Value} (he : ws[q0]? = some (a, .inr (ci, fs))) (hc : CLS[ci]? = some (C, T, N)) (hin : ∀ w ∈ u_ws C T N, w ∈ TBL) (ty0 : Nat → FieldType) (hty : ∀ k, k < N → parseFieldDescriptor (T k).2.2.1 = some (ty0 k)) (hnm : ∀ a, a < N → ∀ b, b < N → a ≠ b → (T a).2.1 ≠ (T b).2.1) (k : Nat) (hk : k < N) {index : Nat} (hlink : Cond.fieldLink own index (T k).1 (T k).2.1 (T k).2.2.1 ∈ TBL) (hfin : (T k).2.2.2 = false) {v : Value} (hn : narrow (ty0 k) v = v) (hfit : fits (ty0 k) v = true) (hl : k < fs.length) (hdg : decode cc pc = .ok (.putfield index, 3))
    (kk : ∀ (H1 : Heap) (locs1 : List Loc), va_P D CLS (ws.set q0 (a, .inr (ci, fs.set k v))) H1 → va_D A (ws.set q0 (a, .inr (ci, fs.set k v))) → va_S A H0 H1 locs1 → W p l e R s m args below meth c H1 locs1 cells slots Q (F0 m (pc + 3) ls rest)) : W p l e R s m args below meth c H locs cells slots Q (F0 m pc ls (v :: .ref a :: rest)) :=
  va_put S.1 S.2.1 S.2.2.2.2 hin ty0 hty hnm S.2.2.2.1 hK hP hD hS q0 he hc k hk (S.2.2.2.2 _ hlink) (fun _ h => h) hfin (hty k hk) hn hfit hl hdg kk
/-- a call of a void method that changes its cells -/
theorem rcallVv (S : CallFix p m c cc nL s args TBL own) {y : MethodName} {bytes : ByteArray} {maxL fr lo index : Nat} {wc wr w1 : va_W} {tys' : List (ClassId × FieldType)} {b : Nat} (As : List Value) (hK : va_K D CLS tys s) (hP : va_P D CLS ws H) (hD : va_D A ws) (hS : va_S A H0 H locs) (hA : ∀ q : Nat, H0.size ≤ q → A q) (isC isR : List Nat) (hC : isC.map (fun i => ws[i]?) = wc.map some) (hC2 : isC.filterMap (fun i => ws[i]?) = wc) (hnC : va_nd isC = true) (hRr : isR.map (fun i => ws[i]?) = wr.map some) (hnR : va_nd isR = true) (hdis : ∀ i ∈ isR, i ∉ isC) (isT : List Nat) (hT : isT.filterMap (fun i => tys[i]?) = tys')
    (hM : SMv l y bytes maxL fr lo D wc tys' (.ref b :: As) H.size w1) (hi : inV y bytes maxL none As.length) (hl : Cond.methodLink own index y ∈ TBL) (hR : fr + 1 ≤ R.frames ∧ 8 + (maxL + 11) + lo ≤ R.locals) (hcs : cells ≤ R.cells ∧ slots ≤ R.slots) {q0 ci : Nat} {q : vw_C} {fs : List Value} (hcl : CLS[ci]? = some q) (hq : q.1 = y.cls) (he : wc[q0]? = some (b, .inr (ci, fs)))
    (hsz : ls.size = nL) (hst : st = As.reverse ++ .ref b :: rest) (hw : (rest.map fun v => v.category).sum ≤ 8) (hdg : decode cc pc = .ok (.invokevirtual index, 3))
    (kk : ∀ (H1 : Heap) (locs1 : List Loc), va_P D CLS (wr ++ w1) H1 → va_D A (wr ++ w1) → va_S A H0 H1 locs1 → W p l e R s m args below meth c H1 locs1 cells slots Q (F0 m (pc + 3) ls rest)) : W p l e R s m args below meth c H locs cells slots Q (F0 m pc ls st) := by
  have hK' := hK.sub isT hT
  have hP' := hP.sub isC hC2
  have hD' := hD.sub isC hnC hC
  have hF := va_free hD hS hA isC hC
  refine va_callv (va_runV (As := As) (rest := rest) (C := y.cls) S hM (cwV As.length S.2.2.2.2 (gdV hl hi) rfl rfl rfl ⟨rfl, hi.2.2.2.2⟩ hR) ⟨sPc_blind, ?_, fun U hU hW => ⟨rfl, by rw [hU], by rw [hU]; exact hP', va_K.moved hW.alike hK', hD'.weaken (fun _ _ _ _ => trivial)⟩⟩ rfl rfl hsz hst (lv_room hw) hdg ⟨by simpa using hcs.1, by simpa using hcs.2⟩) hS (fun q _ h => hF q h) hF (fun u t H1 locs1 ht hvm hw hB hz1 hk1 hS1 => ?_)
  · obtain ⟨cell, h1, h2, h3⟩ := va_recv hK' hP' hcl he
    exact ⟨cell, h1, h2, by rw [← hq]; exact h3⟩
  · obtain ⟨hP1, hK1, hD1⟩ := hB
    rw [ht] at hP1
    obtain ⟨hP2, hD2⟩ := va_join hP hD isC isR hC hRr hnR hdis hk1 hF hP1 hD1
    exact kk H1 locs1 hP2 hD2 hS1
/-- a call of a method that changes its cells and answers an int -/
theorem rcallVi (S : CallFix p m c cc nL s args TBL own) {y : MethodName} {bytes : ByteArray} {maxL fr lo index : Nat} {ret : Option FieldType} {wc wr w1 : va_W} {tys' : List (ClassId × FieldType)} {b : Nat} {v : Int32} (As : List Value) (hK : va_K D CLS tys s) (hP : va_P D CLS ws H) (hD : va_D A ws) (hS : va_S A H0 H locs) (hA : ∀ q : Nat, H0.size ≤ q → A q) (isC isR : List Nat) (hC : isC.map (fun i => ws[i]?) = wc.map some) (hC2 : isC.filterMap (fun i => ws[i]?) = wc) (hnC : va_nd isC = true) (hRr : isR.map (fun i => ws[i]?) = wr.map some) (hnR : va_nd isR = true) (hdis : ∀ i ∈ isR, i ∉ isC) (isT : List Nat) (hT : isT.filterMap (fun i => tys[i]?) = tys')
    (hM : SMi l y bytes maxL ret fr lo D wc tys' (.ref b :: As) H.size v w1) (hi : inV y bytes maxL ret As.length) (hl : Cond.methodLink own index y ∈ TBL) (hR : fr + 1 ≤ R.frames ∧ 8 + (maxL + 11) + lo ≤ R.locals) (hcs : cells ≤ R.cells ∧ slots ≤ R.slots) {q0 ci : Nat} {q : vw_C} {fs : List Value} (hcl : CLS[ci]? = some q) (hq : q.1 = y.cls) (he : wc[q0]? = some (b, .inr (ci, fs)))
    (hsz : ls.size = nL) (hst : st = As.reverse ++ .ref b :: rest) (hw : (rest.map fun v => v.category).sum ≤ 8) (hdg : decode cc pc = .ok (.invokevirtual index, 3))
    (kk : ∀ (H1 : Heap) (locs1 : List Loc), va_P D CLS (wr ++ w1) H1 → va_D A (wr ++ w1) → va_S A H0 H1 locs1 → W p l e R s m args below meth c H1 locs1 cells slots Q (F0 m (pc + 3) ls (.int v :: rest))) : W p l e R s m args below meth c H locs cells slots Q (F0 m pc ls st) := by
  have hK' := hK.sub isT hT
  have hP' := hP.sub isC hC2
  have hD' := hD.sub isC hnC hC
  have hF := va_free hD hS hA isC hC
  refine va_calli (va_runV (As := As) (rest := rest) (C := y.cls) S hM (cwV As.length S.2.2.2.2 (gdV hl hi) rfl rfl rfl ⟨rfl, hi.2.2.2.2⟩ hR) ⟨sPc_blind, ?_, fun U hU hW => ⟨rfl, by rw [hU], by rw [hU]; exact hP', va_K.moved hW.alike hK', hD'.weaken (fun _ _ _ _ => trivial)⟩⟩ rfl rfl hsz hst (lv_room hw) hdg ⟨by simpa using hcs.1, by simpa using hcs.2⟩) hS (fun q _ h => hF q h) hF (fun r u t H1 locs1 ht hvm hw hB hz1 hk1 hS1 => ?_)
  · obtain ⟨cell, h1, h2, h3⟩ := va_recv hK' hP' hcl he
    exact ⟨cell, h1, h2, by rw [← hq]; exact h3⟩
  · obtain ⟨hP1, hK1, hD1⟩ := hB
    rw [ht] at hP1
    obtain ⟨hP2, hD2⟩ := va_join hP hD isC isR hC hRr hnR hdis hk1 hF hP1 hD1
    subst hw
    exact kk H1 locs1 hP2 hD2 hS1
/-- the ends -/
theorem rretV (S : CallFix p m c cc nL s args TBL own) (hr : meth.sig.returnType = none) (hlk : meth.locks = false) {wE : va_W} (hw : ws = wE) (hP : va_P D CLS ws H) (hK : va_K D CLS tys s) (hD : va_D A ws) (hS : va_S A s.heap H locs) (hdg : decode cc pc = .ok (.return_, 1)) : W p l e R s m args below meth c H locs 0 0 (MQ below (sQv D wE tys A) args s 0 0 A) (F0 m pc ls []) := by
  subst hw
  exact W.vret S.1 S.2.1 hr (fun t ht hW => ⟨⟨(), rfl, trivial, by rw [ht]; exact hP, va_K.moved hW.alike hK, hD⟩, hS.F ht⟩) hS.2.2 hdg hlk
theorem rretI (S : CallFix p m c cc nL s args TBL own) (hr : meth.sig.returnType = some .int) (hlk : meth.locks = false) {wE : va_W} {v vE : Int32} (hv : v = vE) (hw : ws = wE) (hP : va_P D CLS ws H) (hK : va_K D CLS tys s) (hD : va_D A ws) (hS : va_S A s.heap H locs) (hdg : decode cc pc = .ok (.ireturn, 1)) : W p l e R s m args below meth c H locs 0 0 (MQ below (sQi vE D wE tys A) args s 0 0 A) (F0 m pc ls [.int v]) := by
  subst hw
  exact W.iret (v := v) S.1 S.2.1 hr (fun t ht hW => ⟨⟨v, (), rfl, hv, by rw [ht]; exact hP, va_K.moved hW.alike hK, hD⟩, hS.F ht⟩) hS.2.2 hdg hlk
theorem rretB (S : CallFix p m c cc nL s args TBL own) (hr : meth.sig.returnType = some .boolean) (hlk : meth.locks = false) {wE : va_W} {v vE : Bool} (hv : v = vE) (hw : ws = wE) (hP : va_P D CLS ws H) (hK : va_K D CLS tys s) (hD : va_D A ws) (hS : va_S A s.heap H locs) (hdg : decode cc pc = .ok (.ireturn, 1)) : W p l e R s m args below meth c H locs 0 0 (MQ below (sQi (b2i vE) D wE tys A) args s 0 0 A) (F0 m pc ls [.int (b2i v)]) := by
  subst hw
  exact W.zret (v := b2i v) S.1 S.2.1 hr (b2i_nar v) (fun t ht hW => ⟨⟨b2i v, (), rfl, by rw [hv], by rw [ht]; exact hP, va_K.moved hW.alike hK, hD⟩, hS.F ht⟩) hS.2.2 hdg hlk
end SW
end
section
theorem b2i_fits (b : Bool) : fits .boolean (.int (b2i b)) = true := by cases b <;> rfl
def f_G_together (N : Nat) (L : Nat → Nat) (i : Nat) (j : Nat) : Bool := if nI (L i) = nI (L j) then true else false
theorem i_G_together : inV y_G_together b_G_together 3 (some .boolean) 2 := ⟨kM_y_G_together, kV_y_G_together, kI_G, kY_y_G_together, by decide +kernel⟩
set_option maxHeartbeats 4000000 in
set_option maxRecDepth 100000 in
theorem c_G_together (l : Launch) (D : va_G) (hg hl0 : Nat) (cI : ClassId) (N : Nat) (L : Nat → Nat) (i : Nat) (j : Nat) (hi : i < N) (hj : j < N) (hN : N < 2 ^ 31) : PM l y_G_together b_G_together 3 (some .boolean) 0 0 D ([(hg, .inr (0, [.ref hl0])), (hl0, .inl (cI, N, .inl (fun i => nI (L i))))]) [(cI, .int)] [.ref hg, .int (nI (i)), .int (nI (j))] (b2i (f_G_together N L i j)) := by
  refine pMet rfl (fun p e s m below meth c S hr hlk hP hK ls hl => ?_) (Nat.le_of_ble_eq_true rfl)
  have hx := S.1
  have hb := S.2.1
  have hl : lv_has ls 3 [(0, .ref hg), (1, .int (nI (i))), (2, .int (nI (j)))] := hl
  refine lv_aload_n hx hb d_G_together_0 rfl (lv_at hl 0 rfl) ?_
  refine rget S hK hP 0 rfl rfl in_G 0 (by decide) kF_G_7 rfl d_G_together_1 ?_
  refine lv_iload_n hx hb d_G_together_4 rfl (lv_at hl 1 rfl) ?_
  refine rnald (j := i) S hK hP 1 0 rfl rfl (by omega) (by first | decide | omega) d_G_together_5 ?_
  refine lv_aload_n hx hb d_G_together_6 rfl (lv_at hl 0 rfl) ?_
  refine rget S hK hP 0 rfl rfl in_G 0 (by decide) kF_G_7 rfl d_G_together_7 ?_
  refine lv_iload_n hx hb d_G_together_10 rfl (lv_at hl 2 rfl) ?_
  refine rnald (j := j) S hK hP 1 0 rfl rfl (by omega) (by first | decide | omega) d_G_together_11 ?_
  refine lv_icmp_ne (tgt := 19) hx hb d_G_together_12 (by decide) (fun c1 => ?_) (fun c1 => ?_)
  · have c1a : ¬ (nI (L i) = nI (L j)) := c1
    refine lv_iconst (v := 0) hx hb d_G_together_19 (by decide) ?_
    exact rretZ S hr hlk (v := false) (show f_G_together N L i j = false from by unfold f_G_together; rw [if_neg c1a]).symm d_G_together_20
  · have c1a : nI (L i) = nI (L j) := c1
    refine lv_iconst (v := 1) hx hb d_G_together_15 (by decide) ?_
    refine lv_goto (tgt := 20) hx hb d_G_together_16 (by decide) ?_
    exact rretZ S hr hlk (v := true) (show f_G_together N L i j = true from by unfold f_G_together; rw [if_pos c1a]).symm d_G_together_20
def f_G_isLeader (N : Nat) (L : Nat → Nat) (i : Nat) : Bool := if nI (L i) = nI (i) then true else false
theorem i_G_isLeader : inV y_G_isLeader b_G_isLeader 2 (some .boolean) 1 := ⟨kM_y_G_isLeader, kV_y_G_isLeader, kI_G, kY_y_G_isLeader, by decide +kernel⟩
set_option maxHeartbeats 4000000 in
set_option maxRecDepth 100000 in
theorem c_G_isLeader (l : Launch) (D : va_G) (hg hl0 : Nat) (cI : ClassId) (N : Nat) (L : Nat → Nat) (i : Nat) (hi : i < N) (hN : N < 2 ^ 31) : PM l y_G_isLeader b_G_isLeader 2 (some .boolean) 0 0 D ([(hg, .inr (0, [.ref hl0])), (hl0, .inl (cI, N, .inl (fun i => nI (L i))))]) [(cI, .int)] [.ref hg, .int (nI (i))] (b2i (f_G_isLeader N L i)) := by
  refine pMet rfl (fun p e s m below meth c S hr hlk hP hK ls hl => ?_) (Nat.le_of_ble_eq_true rfl)
  have hx := S.1
  have hb := S.2.1
  have hl : lv_has ls 2 [(0, .ref hg), (1, .int (nI (i)))] := hl
  refine lv_aload_n hx hb d_G_isLeader_0 rfl (lv_at hl 0 rfl) ?_
  refine rget S hK hP 0 rfl rfl in_G 0 (by decide) kF_G_7 rfl d_G_isLeader_1 ?_
  refine lv_iload_n hx hb d_G_isLeader_4 rfl (lv_at hl 1 rfl) ?_
  refine rnald (j := i) S hK hP 1 0 rfl rfl (by omega) (by first | decide | omega) d_G_isLeader_5 ?_
  refine lv_iload_n hx hb d_G_isLeader_6 rfl (lv_at hl 1 rfl) ?_
  refine lv_icmp_ne (tgt := 14) hx hb d_G_isLeader_7 (by decide) (fun c1 => ?_) (fun c1 => ?_)
  · have c1a : ¬ (nI (L i) = nI (i)) := c1
    refine lv_iconst (v := 0) hx hb d_G_isLeader_14 (by decide) ?_
    exact rretZ S hr hlk (v := false) (show f_G_isLeader N L i = false from by unfold f_G_isLeader; rw [if_neg c1a]).symm d_G_isLeader_15
  · have c1a : nI (L i) = nI (i) := c1
    refine lv_iconst (v := 1) hx hb d_G_isLeader_10 (by decide) ?_
    refine lv_goto (tgt := 15) hx hb d_G_isLeader_11 (by decide) ?_
    exact rretZ S hr hlk (v := true) (show f_G_isLeader N L i = true from by unfold f_G_isLeader; rw [if_pos c1a]).symm d_G_isLeader_15
def fx_G_scatter (N : Nat) (L : Nat → Nat) (i : Nat)  (Lc : Nat → Nat) : (Nat → Nat) := Lc
def fb_G_scatter (N : Nat) (L : Nat → Nat) (rec : Nat → (Nat → Nat) → (Nat → Nat)) (i : Nat)  (Lc : Nat → Nat) : (Nat → Nat) := rec (i + 1) (updN Lc i i)
def fl_G_scatter (N : Nat) (L : Nat → Nat) : Nat → Nat → (Nat → Nat) → (Nat → Nat)
  | 0, i, Lc => fx_G_scatter N L i Lc
  | n + 1, i, Lc => fb_G_scatter N L (fl_G_scatter N L n) i Lc
def f_G_scatter (N : Nat) (L : Nat → Nat) : (Nat → Nat) := fl_G_scatter N L N 0 L
theorem i_G_scatter : inV y_G_scatter b_G_scatter 2 (none) 0 := ⟨kM_y_G_scatter, kV_y_G_scatter, kI_G, kY_y_G_scatter, by decide +kernel⟩
set_option maxHeartbeats 4000000 in
set_option maxRecDepth 100000 in
theorem c_G_scatter (l : Launch) (D : va_G) (hg hl0 : Nat) (cI : ClassId) (N : Nat) (L : Nat → Nat)  (sz : Nat)  (hN : N < 2 ^ 31) : SMv l y_G_scatter b_G_scatter 2 0 0 D [(hg, .inr (0, [.ref hl0])), (hl0, .inl (cI, N, .inl (fun z9 => nI (L z9))))] [(cI, .int)] [.ref hg] sz [(hg, .inr (0, [.ref hl0])), (hl0, .inl (cI, N, .inl (fun z9 => nI ((f_G_scatter N L) z9))))] := by
  refine sMet (Qc := fun A => sQv D [(hg, .inr (0, [.ref hl0])), (hl0, .inl (cI, N, .inl (fun z9 => nI ((f_G_scatter N L) z9))))] [(cI, .int)] A) rfl (fun p e s m below meth c A S hr hlk hP hK hD hA hS ls hl => ?_) (Nat.le_of_ble_eq_true rfl)
  have hx := S.1
  have hb := S.2.1
  have hl : lv_has ls 2 [(0, .ref hg)] := hl
  have key : ∀ (n : Nat) (i : Nat)  (Lc : Nat → Nat) (hk : i + n = N)  (H : Heap) (locs : List Loc) (hP : va_P D CLS [(hg, .inr (0, [.ref hl0])), (hl0, .inl (cI, N, .inl (fun z9 => nI (Lc z9))))] H) (hD : va_D A [(hg, .inr (0, [.ref hl0])), (hl0, .inl (cI, N, .inl (fun z9 => nI (Lc z9))))]) (hS : va_S A s.heap H locs) (ls : Array Slot) (hl : lv_has ls 2 [(0, .ref hg), (1, .int (nI (i)))]) (hf : f_G_scatter N L = fl_G_scatter N L n i Lc), W p l e { frames := 0, cells := 0, slots := 0, locals := 0 } s m [.ref hg].toArray below meth c H locs 0 0 (MQ below (sQv D [(hg, .inr (0, [.ref hl0])), (hl0, .inl (cI, N, .inl (fun z9 => nI ((f_G_scatter N L) z9))))] [(cI, .int)] A) [.ref hg].toArray s 0 0 A) (F0 m 2 ls []) := by
    clear hP hD hS hl
    intro n
    induction n with
    | zero =>
      intro i Lc hk  H locs hP hD hS ls hl hf
      refine lv_iload_n hx hb d_G_scatter_2 rfl (lv_at hl 1 rfl) ?_
      refine lv_aload_n hx hb d_G_scatter_3 rfl (lv_at hl 0 rfl) ?_
      refine rget S hK hP 0 rfl rfl in_G 0 (by decide) kF_G_7 rfl d_G_scatter_4 ?_
      refine ralen (n := N) S hK hP 1 0 rfl rfl rfl d_G_scatter_7 ?_
      refine lv_icmp_ge (tgt := 24) hx hb d_G_scatter_8 (by decide) (fun c1 => ?_) (fun c1 => ?_)
      · have c1a : N ≤ i := (nI_leI (a := N) (b := i) (by omega) (by omega)).mp c1
        have eqf := (hf.trans (show fx_G_scatter N L i Lc = Lc from rfl))
        exact rretV S hr hlk (by rw [eqf]) hP hK hD hS d_G_scatter_24
      · have c1a : ¬ (N ≤ i) := fun h => c1 ((nI_leI (a := N) (b := i) (by omega) (by omega)).mpr h)
        omega
    | succ n ih =>
      intro i Lc hk  H locs hP hD hS ls hl hf
      refine lv_iload_n hx hb d_G_scatter_2 rfl (lv_at hl 1 rfl) ?_
      refine lv_aload_n hx hb d_G_scatter_3 rfl (lv_at hl 0 rfl) ?_
      refine rget S hK hP 0 rfl rfl in_G 0 (by decide) kF_G_7 rfl d_G_scatter_4 ?_
      refine ralen (n := N) S hK hP 1 0 rfl rfl rfl d_G_scatter_7 ?_
      refine lv_icmp_ge (tgt := 24) hx hb d_G_scatter_8 (by decide) (fun c2 => ?_) (fun c2 => ?_)
      · have c2a : N ≤ i := (nI_leI (a := N) (b := i) (by omega) (by omega)).mp c2
        omega
      · have c2a : ¬ (N ≤ i) := fun h => c2 ((nI_leI (a := N) (b := i) (by omega) (by omega)).mpr h)
        refine lv_aload_n hx hb d_G_scatter_11 rfl (lv_at hl 0 rfl) ?_
        refine rget S hK hP 0 rfl rfl in_G 0 (by decide) kF_G_7 rfl d_G_scatter_12 ?_
        refine lv_iload_n hx hb d_G_scatter_15 rfl (lv_at hl 1 rfl) ?_
        refine lv_iload_n hx hb d_G_scatter_16 rfl (lv_at hl 1 rfl) ?_
        refine rnast (j := i) (x := i) S hK hP hD hS 1 0 rfl rfl (by omega) (by first | decide | omega) d_G_scatter_17 (fun H locs hP hD hS => ?_)
        have hP : va_P D CLS [(hg, .inr (0, [.ref hl0])), (hl0, .inl (cI, N, .inl (fun z9 => nI ((updN Lc i i) z9))))] H := hP
        have hD : va_D A [(hg, .inr (0, [.ref hl0])), (hl0, .inl (cI, N, .inl (fun z9 => nI ((updN Lc i i) z9))))] := hD
        refine lv_iinc (v := nI (i + 1)) (lv' := [(1, .int (nI (i + 1))), (0, .ref hg)]) hx hb d_G_scatter_18 hl (k := 1) rfl (nI_1 (i)) (by decide) rfl (fun ls hl => ?_)
        refine lv_goto (tgt := 2) hx hb d_G_scatter_21 (by decide) ?_
        exact ih (i + 1) (updN Lc i i) (by omega)  _ _ (hP.sub [0, 1] rfl) (hD.sub [0, 1] (by decide) rfl) hS ls (lv_sub hl [1, 0] rfl) (hf.trans (show fb_G_scatter N L (fl_G_scatter N L n) i Lc = (fl_G_scatter N L n (i + 1) (updN Lc i i)) from rfl))
  refine lv_iconst (v := 0) hx hb d_G_scatter_0 (by decide) ?_
  refine lv_istore_n (lv' := [(1, .int 0), (0, .ref hg)]) hx hb d_G_scatter_1 rfl hl (by decide) rfl (fun ls hl => ?_)
  exact key N 0 L (by omega)  _ _ (hP.sub [0, 1] rfl) (hD.sub [0, 1] (by decide) rfl) hS ls (lv_sub hl [1, 0] rfl) (show f_G_scatter N L = (fl_G_scatter N L N 0 L) from rfl)
def fx_G_join (N : Nat) (L : Nat → Nat) (i : Nat) (j : Nat) (q : Nat) (fm : Nat) (tt : Nat) (Lc : Nat → Nat) : (Nat → Nat) := Lc
def fb_G_join (N : Nat) (L : Nat → Nat) (i : Nat) (j : Nat) (rec : Nat → Nat → Nat → (Nat → Nat) → (Nat → Nat)) (q : Nat) (fm : Nat) (tt : Nat) (Lc : Nat → Nat) : (Nat → Nat) := if nI (Lc q) = nI (fm) then (rec (q + 1) fm tt (updN Lc q tt)) else (rec (q + 1) fm tt Lc)
def fl_G_join (N : Nat) (L : Nat → Nat) (i : Nat) (j : Nat) : Nat → Nat → Nat → Nat → (Nat → Nat) → (Nat → Nat)
  | 0, q, fm, tt, Lc => fx_G_join N L i j q fm tt Lc
  | n + 1, q, fm, tt, Lc => fb_G_join N L i j (fl_G_join N L i j n) q fm tt Lc
def f_G_join (N : Nat) (L : Nat → Nat) (i : Nat) (j : Nat) : (Nat → Nat) := if nI (L i) = nI (L j) then L else (fl_G_join N L i j N 0 (L i) (L j) L)
theorem i_G_join : inV y_G_join b_G_join 6 (none) 2 := ⟨kM_y_G_join, kV_y_G_join, kI_G, kY_y_G_join, by decide +kernel⟩
set_option maxHeartbeats 4000000 in
set_option maxRecDepth 100000 in
theorem c_G_join (l : Launch) (D : va_G) (hg hl0 : Nat) (cI : ClassId) (N : Nat) (L : Nat → Nat) (i : Nat) (j : Nat) (sz : Nat) (hi : i < N) (hj : j < N) (hN : N < 2 ^ 31) : SMv l y_G_join b_G_join 6 0 0 D [(hg, .inr (0, [.ref hl0])), (hl0, .inl (cI, N, .inl (fun z9 => nI (L z9))))] [(cI, .int)] [.ref hg, .int (nI (i)), .int (nI (j))] sz [(hg, .inr (0, [.ref hl0])), (hl0, .inl (cI, N, .inl (fun z9 => nI ((f_G_join N L i j) z9))))] := by
  refine sMet (Qc := fun A => sQv D [(hg, .inr (0, [.ref hl0])), (hl0, .inl (cI, N, .inl (fun z9 => nI ((f_G_join N L i j) z9))))] [(cI, .int)] A) rfl (fun p e s m below meth c A S hr hlk hP hK hD hA hS ls hl => ?_) (Nat.le_of_ble_eq_true rfl)
  have hx := S.1
  have hb := S.2.1
  have hl : lv_has ls 6 [(0, .ref hg), (1, .int (nI (i))), (2, .int (nI (j)))] := hl
  have key : ∀ (n : Nat) (q : Nat) (fm : Nat) (tt : Nat) (Lc : Nat → Nat) (hk : q + n = N)  (H : Heap) (locs : List Loc) (hP : va_P D CLS [(hg, .inr (0, [.ref hl0])), (hl0, .inl (cI, N, .inl (fun z9 => nI (Lc z9))))] H) (hD : va_D A [(hg, .inr (0, [.ref hl0])), (hl0, .inl (cI, N, .inl (fun z9 => nI (Lc z9))))]) (hS : va_S A s.heap H locs) (ls : Array Slot) (hl : lv_has ls 6 [(0, .ref hg), (3, .int (nI (fm))), (4, .int (nI (tt))), (5, .int (nI (q)))]) (hf : f_G_join N L i j = fl_G_join N L i j n q fm tt Lc), W p l e { frames := 0, cells := 0, slots := 0, locals := 0 } s m [.ref hg, .int (nI (i)), .int (nI (j))].toArray below meth c H locs 0 0 (MQ below (sQv D [(hg, .inr (0, [.ref hl0])), (hl0, .inl (cI, N, .inl (fun z9 => nI ((f_G_join N L i j) z9))))] [(cI, .int)] A) [.ref hg, .int (nI (i)), .int (nI (j))].toArray s 0 0 A) (F0 m 25 ls []) := by
    clear hP hD hS hl
    intro n
    induction n with
    | zero =>
      intro q fm tt Lc hk  H locs hP hD hS ls hl hf
      refine lv_iload hx hb d_G_join_25 (lv_at hl 3 rfl) ?_
      refine lv_aload_n hx hb d_G_join_27 rfl (lv_at hl 0 rfl) ?_
      refine rget S hK hP 0 rfl rfl in_G 0 (by decide) kF_G_7 rfl d_G_join_28 ?_
      refine ralen (n := N) S hK hP 1 0 rfl rfl rfl d_G_join_31 ?_
      refine lv_icmp_ge (tgt := 61) hx hb d_G_join_32 (by decide) (fun c1 => ?_) (fun c1 => ?_)
      · have c1a : N ≤ q := (nI_leI (a := N) (b := q) (by omega) (by omega)).mp c1
        have eqf := (hf.trans (show fx_G_join N L i j q fm tt Lc = Lc from rfl))
        exact rretV S hr hlk (by rw [eqf]) hP hK hD hS d_G_join_61
      · have c1a : ¬ (N ≤ q) := fun h => c1 ((nI_leI (a := N) (b := q) (by omega) (by omega)).mpr h)
        omega
    | succ n ih =>
      intro q fm tt Lc hk  H locs hP hD hS ls hl hf
      refine lv_iload hx hb d_G_join_25 (lv_at hl 3 rfl) ?_
      refine lv_aload_n hx hb d_G_join_27 rfl (lv_at hl 0 rfl) ?_
      refine rget S hK hP 0 rfl rfl in_G 0 (by decide) kF_G_7 rfl d_G_join_28 ?_
      refine ralen (n := N) S hK hP 1 0 rfl rfl rfl d_G_join_31 ?_
      refine lv_icmp_ge (tgt := 61) hx hb d_G_join_32 (by decide) (fun c2 => ?_) (fun c2 => ?_)
      · have c2a : N ≤ q := (nI_leI (a := N) (b := q) (by omega) (by omega)).mp c2
        omega
      · have c2a : ¬ (N ≤ q) := fun h => c2 ((nI_leI (a := N) (b := q) (by omega) (by omega)).mpr h)
        refine lv_aload_n hx hb d_G_join_35 rfl (lv_at hl 0 rfl) ?_
        refine rget S hK hP 0 rfl rfl in_G 0 (by decide) kF_G_7 rfl d_G_join_36 ?_
        refine lv_iload hx hb d_G_join_39 (lv_at hl 3 rfl) ?_
        refine rnald (j := q) S hK hP 1 0 rfl rfl (by omega) (by first | decide | omega) d_G_join_41 ?_
        refine lv_iload_n hx hb d_G_join_42 rfl (lv_at hl 1 rfl) ?_
        refine lv_icmp_ne (tgt := 55) hx hb d_G_join_43 (by decide) (fun c3 => ?_) (fun c3 => ?_)
        · have c3a : ¬ (nI (Lc q) = nI (fm)) := c3
          refine lv_iinc (v := nI (q + 1)) (lv' := [(5, .int (nI (q + 1))), (0, .ref hg), (3, .int (nI (fm))), (4, .int (nI (tt)))]) hx hb d_G_join_55 hl (k := 3) rfl (nI_1 (q)) (by decide) rfl (fun ls hl => ?_)
          refine lv_goto (tgt := 25) hx hb d_G_join_58 (by decide) ?_
          exact ih (q + 1) fm tt Lc (by omega)  _ _ (hP.sub [0, 1] rfl) (hD.sub [0, 1] (by decide) rfl) hS ls (lv_sub hl [1, 2, 3, 0] rfl) (hf.trans (show fb_G_join N L i j (fl_G_join N L i j n) q fm tt Lc = (fl_G_join N L i j n (q + 1) fm tt Lc) from by unfold fb_G_join; rw [if_neg c3a]))
        · have c3a : nI (Lc q) = nI (fm) := c3
          refine lv_aload_n hx hb d_G_join_46 rfl (lv_at hl 0 rfl) ?_
          refine rget S hK hP 0 rfl rfl in_G 0 (by decide) kF_G_7 rfl d_G_join_47 ?_
          refine lv_iload hx hb d_G_join_50 (lv_at hl 3 rfl) ?_
          refine lv_iload hx hb d_G_join_52 (lv_at hl 2 rfl) ?_
          refine rnast (j := q) (x := tt) S hK hP hD hS 1 0 rfl rfl (by omega) (by first | decide | omega) d_G_join_54 (fun H locs hP hD hS => ?_)
          have hP : va_P D CLS [(hg, .inr (0, [.ref hl0])), (hl0, .inl (cI, N, .inl (fun z9 => nI ((updN Lc q tt) z9))))] H := hP
          have hD : va_D A [(hg, .inr (0, [.ref hl0])), (hl0, .inl (cI, N, .inl (fun z9 => nI ((updN Lc q tt) z9))))] := hD
          refine lv_iinc (v := nI (q + 1)) (lv' := [(5, .int (nI (q + 1))), (0, .ref hg), (3, .int (nI (fm))), (4, .int (nI (tt)))]) hx hb d_G_join_55 hl (k := 3) rfl (nI_1 (q)) (by decide) rfl (fun ls hl => ?_)
          refine lv_goto (tgt := 25) hx hb d_G_join_58 (by decide) ?_
          exact ih (q + 1) fm tt (updN Lc q tt) (by omega)  _ _ (hP.sub [0, 1] rfl) (hD.sub [0, 1] (by decide) rfl) hS ls (lv_sub hl [1, 2, 3, 0] rfl) (hf.trans (show fb_G_join N L i j (fl_G_join N L i j n) q fm tt Lc = (fl_G_join N L i j n (q + 1) fm tt (updN Lc q tt)) from by unfold fb_G_join; rw [if_pos c3a]))
  refine lv_aload_n hx hb d_G_join_0 rfl (lv_at hl 0 rfl) ?_
  refine rget S hK hP 0 rfl rfl in_G 0 (by decide) kF_G_7 rfl d_G_join_1 ?_
  refine lv_iload_n hx hb d_G_join_4 rfl (lv_at hl 1 rfl) ?_
  refine rnald (j := i) S hK hP 1 0 rfl rfl (by omega) (by first | decide | omega) d_G_join_5 ?_
  refine lv_istore_n (lv' := [(3, .int (nI (L i))), (0, .ref hg), (1, .int (nI (i))), (2, .int (nI (j)))]) hx hb d_G_join_6 rfl hl (by decide) rfl (fun ls hl => ?_)
  refine lv_aload_n hx hb d_G_join_7 rfl (lv_at hl 1 rfl) ?_
  refine rget S hK hP 0 rfl rfl in_G 0 (by decide) kF_G_7 rfl d_G_join_8 ?_
  refine lv_iload_n hx hb d_G_join_11 rfl (lv_at hl 3 rfl) ?_
  refine rnald (j := j) S hK hP 1 0 rfl rfl (by omega) (by first | decide | omega) d_G_join_12 ?_
  refine lv_istore (lv' := [(4, .int (nI (L j))), (3, .int (nI (L i))), (0, .ref hg), (1, .int (nI (i))), (2, .int (nI (j)))]) hx hb d_G_join_13 hl (by decide) rfl (fun ls hl => ?_)
  refine lv_iload_n hx hb d_G_join_15 rfl (lv_at hl 1 rfl) ?_
  refine lv_iload hx hb d_G_join_16 (lv_at hl 0 rfl) ?_
  refine lv_icmp_ne (tgt := 22) hx hb d_G_join_18 (by decide) (fun c4 => ?_) (fun c4 => ?_)
  · have c4a : ¬ (nI (L i) = nI (L j)) := c4
    refine lv_iconst (v := 0) hx hb d_G_join_22 (by decide) ?_
    refine lv_istore (lv' := [(5, .int 0), (4, .int (nI (L j))), (3, .int (nI (L i))), (0, .ref hg), (1, .int (nI (i))), (2, .int (nI (j)))]) hx hb d_G_join_23 hl (by decide) rfl (fun ls hl => ?_)
    exact key N 0 (L i) (L j) L (by omega)  _ _ (hP.sub [0, 1] rfl) (hD.sub [0, 1] (by decide) rfl) hS ls (lv_sub hl [3, 2, 1, 0] rfl) (show f_G_join N L i j = (fl_G_join N L i j N 0 (L i) (L j) L) from by unfold f_G_join; rw [if_neg c4a])
  · have c4a : nI (L i) = nI (L j) := c4
    have eqf := (show f_G_join N L i j = L from by unfold f_G_join; rw [if_pos c4a])
    exact rretV S hr hlk (by rw [eqf]) hP hK hD hS d_G_join_21
def f_M_sketch (u : Nat → Bool) (X : Nat → Int32) (Y : Nat → Int32) (k : Nat) (x : Int32) (y : Int32) (z : Int32) (w : Int32) : (Nat → Int32) × (Nat → Int32) := if x < z then (upd (upd X (2 * k) x) (tw (2 * k)) z, upd (upd Y (2 * k) y) (tw (2 * k)) w) else (if x = z then (if w ≤ y then (upd (upd X ((2 * k) + 1) x) (tw ((2 * k) + 1)) z, upd (upd Y ((2 * k) + 1) y) (tw ((2 * k) + 1)) w) else (upd (upd X (2 * k) x) (tw (2 * k)) z, upd (upd Y (2 * k) y) (tw (2 * k)) w)) else (upd (upd X ((2 * k) + 1) x) (tw ((2 * k) + 1)) z, upd (upd Y ((2 * k) + 1) y) (tw ((2 * k) + 1)) w))
theorem i_M_sketch : inV y_M_sketch b_M_sketch 8 (none) 5 := ⟨kM_y_M_sketch, kV_y_M_sketch, kI_M, kY_y_M_sketch, by decide +kernel⟩
set_option maxHeartbeats 4000000 in
set_option maxRecDepth 100000 in
theorem c_M_sketch (l : Launch) (D : va_G) (hm hu hxs hys : Nat) (cZ cI : ClassId) (u : Nat → Bool) (X Y : Nat → Int32) (k : Nat) (x : Int32) (y : Int32) (z : Int32) (w : Int32) (sz : Nat) (hk : k < 20)  : SMv l y_M_sketch b_M_sketch 8 0 0 D [(hm, .inr (1, [.ref hu, .ref hxs, .ref hys])), (hu, .inl (cZ, 20, .inl (fun z9 => b2i (u z9)))), (hxs, .inl (cI, 40, .inl X)), (hys, .inl (cI, 40, .inl Y))] [(cZ, .boolean), (cI, .int)] [.ref hm, .int (nI (k)), .int x, .int y, .int z, .int w] sz [(hm, .inr (1, [.ref hu, .ref hxs, .ref hys])), (hu, .inl (cZ, 20, .inl (fun z9 => b2i (u z9)))), (hxs, .inl (cI, 40, .inl ((f_M_sketch u X Y k x y z w).1))), (hys, .inl (cI, 40, .inl ((f_M_sketch u X Y k x y z w).2)))] := by
  refine sMet (Qc := fun A => sQv D [(hm, .inr (1, [.ref hu, .ref hxs, .ref hys])), (hu, .inl (cZ, 20, .inl (fun z9 => b2i (u z9)))), (hxs, .inl (cI, 40, .inl ((f_M_sketch u X Y k x y z w).1))), (hys, .inl (cI, 40, .inl ((f_M_sketch u X Y k x y z w).2)))] [(cZ, .boolean), (cI, .int)] A) rfl (fun p e s m below meth c A S hr hlk hP hK hD hA hS ls hl => ?_) (Nat.le_of_ble_eq_true rfl)
  have hx := S.1
  have hb := S.2.1
  have hl : lv_has ls 8 [(0, .ref hm), (1, .int (nI (k))), (2, .int x), (3, .int y), (4, .int z), (5, .int w)] := hl
  refine lv_iload_n hx hb d_M_sketch_0 rfl (lv_at hl 2 rfl) ?_
  refine lv_iload hx hb d_M_sketch_1 (lv_at hl 4 rfl) ?_
  refine lv_icmp_lt (tgt := 18) hx hb d_M_sketch_3 (by decide) (fun c1 => ?_) (fun c1 => ?_)
  · have c1a : x < z := c1
    refine lv_iconst (v := 1) hx hb d_M_sketch_18 (by decide) ?_
    refine lv_goto (tgt := 23) hx hb d_M_sketch_19 (by decide) ?_
    refine lv_istore (lv' := [(6, .int 1), (0, .ref hm), (1, .int (nI (k))), (2, .int x), (3, .int y), (4, .int z), (5, .int w)]) hx hb d_M_sketch_23 hl (by decide) rfl (fun ls hl => ?_)
    refine lv_iload hx hb d_M_sketch_25 (lv_at hl 0 rfl) ?_
    refine lv_if_eq (tgt := 36) hx hb d_M_sketch_27 (by decide) (fun h => absurd h (by decide)) (fun _ => ?_)
    refine lv_iconst (v := 2) hx hb d_M_sketch_30 (by decide) ?_
    refine lv_iload_n hx hb d_M_sketch_31 rfl (lv_at hl 2 rfl) ?_
    refine lv_imul hx hb d_M_sketch_32 ?_
    refine rtop (y := nI (2 * k)) (pk_mul (2) (k)) ?_
    refine lv_goto (tgt := 41) hx hb d_M_sketch_33 (by decide) ?_
    refine lv_istore (lv' := [(7, .int (nI (2 * k))), (6, .int 1), (0, .ref hm), (1, .int (nI (k))), (2, .int x), (3, .int y), (4, .int z), (5, .int w)]) hx hb d_M_sketch_41 hl (by decide) rfl (fun ls hl => ?_)
    refine lv_aload_n hx hb d_M_sketch_43 rfl (lv_at hl 2 rfl) ?_
    refine rget S hK hP 0 rfl rfl in_M 1 (by decide) kF_M_15 rfl d_M_sketch_44 ?_
    refine lv_iload hx hb d_M_sketch_47 (lv_at hl 0 rfl) ?_
    refine lv_iload_n hx hb d_M_sketch_49 rfl (lv_at hl 4 rfl) ?_
    refine riast (j := 2 * k) (x := x) S hK hP hD hS 2 1 rfl rfl (by omega) (by first | decide | omega) d_M_sketch_50 (fun H locs hP hD hS => ?_)
    have hP : va_P D CLS [(hm, .inr (1, [.ref hu, .ref hxs, .ref hys])), (hu, .inl (cZ, 20, .inl (fun z9 => b2i (u z9)))), (hxs, .inl (cI, 40, .inl (upd X (2 * k) x))), (hys, .inl (cI, 40, .inl Y))] H := hP
    have hD : va_D A [(hm, .inr (1, [.ref hu, .ref hxs, .ref hys])), (hu, .inl (cZ, 20, .inl (fun z9 => b2i (u z9)))), (hxs, .inl (cI, 40, .inl (upd X (2 * k) x))), (hys, .inl (cI, 40, .inl Y))] := hD
    refine lv_aload_n hx hb d_M_sketch_51 rfl (lv_at hl 2 rfl) ?_
    refine rget S hK hP 0 rfl rfl in_M 2 (by decide) kF_M_19 rfl d_M_sketch_52 ?_
    refine lv_iload hx hb d_M_sketch_55 (lv_at hl 0 rfl) ?_
    refine lv_iload_n hx hb d_M_sketch_57 rfl (lv_at hl 5 rfl) ?_
    refine riast (j := 2 * k) (x := y) S hK hP hD hS 3 1 rfl rfl (by omega) (by first | decide | omega) d_M_sketch_58 (fun H locs hP hD hS => ?_)
    have hP : va_P D CLS [(hm, .inr (1, [.ref hu, .ref hxs, .ref hys])), (hu, .inl (cZ, 20, .inl (fun z9 => b2i (u z9)))), (hxs, .inl (cI, 40, .inl (upd X (2 * k) x))), (hys, .inl (cI, 40, .inl (upd Y (2 * k) y)))] H := hP
    have hD : va_D A [(hm, .inr (1, [.ref hu, .ref hxs, .ref hys])), (hu, .inl (cZ, 20, .inl (fun z9 => b2i (u z9)))), (hxs, .inl (cI, 40, .inl (upd X (2 * k) x))), (hys, .inl (cI, 40, .inl (upd Y (2 * k) y)))] := hD
    refine lv_aload_n hx hb d_M_sketch_59 rfl (lv_at hl 2 rfl) ?_
    refine rget S hK hP 0 rfl rfl in_M 1 (by decide) kF_M_15 rfl d_M_sketch_60 ?_
    refine lv_iload hx hb d_M_sketch_63 (lv_at hl 0 rfl) ?_
    refine lv_iconst (v := 1) hx hb d_M_sketch_65 (by decide) ?_
    refine lv_ixor hx hb d_M_sketch_66 ?_
    refine rtop (y := nI (tw (2 * k))) (nI_xor1 (2 * k) (by omega)) ?_
    refine lv_iload hx hb d_M_sketch_67 (lv_at hl 6 rfl) ?_
    refine riast (j := tw (2 * k)) (x := z) S hK hP hD hS 2 1 rfl rfl (tw_lt (by omega)) (by first | decide | omega) d_M_sketch_69 (fun H locs hP hD hS => ?_)
    have hP : va_P D CLS [(hm, .inr (1, [.ref hu, .ref hxs, .ref hys])), (hu, .inl (cZ, 20, .inl (fun z9 => b2i (u z9)))), (hxs, .inl (cI, 40, .inl (upd (upd X (2 * k) x) (tw (2 * k)) z))), (hys, .inl (cI, 40, .inl (upd Y (2 * k) y)))] H := hP
    have hD : va_D A [(hm, .inr (1, [.ref hu, .ref hxs, .ref hys])), (hu, .inl (cZ, 20, .inl (fun z9 => b2i (u z9)))), (hxs, .inl (cI, 40, .inl (upd (upd X (2 * k) x) (tw (2 * k)) z))), (hys, .inl (cI, 40, .inl (upd Y (2 * k) y)))] := hD
    refine lv_aload_n hx hb d_M_sketch_70 rfl (lv_at hl 2 rfl) ?_
    refine rget S hK hP 0 rfl rfl in_M 2 (by decide) kF_M_19 rfl d_M_sketch_71 ?_
    refine lv_iload hx hb d_M_sketch_74 (lv_at hl 0 rfl) ?_
    refine lv_iconst (v := 1) hx hb d_M_sketch_76 (by decide) ?_
    refine lv_ixor hx hb d_M_sketch_77 ?_
    refine rtop (y := nI (tw (2 * k))) (nI_xor1 (2 * k) (by omega)) ?_
    refine lv_iload hx hb d_M_sketch_78 (lv_at hl 7 rfl) ?_
    refine riast (j := tw (2 * k)) (x := w) S hK hP hD hS 3 1 rfl rfl (tw_lt (by omega)) (by first | decide | omega) d_M_sketch_80 (fun H locs hP hD hS => ?_)
    have hP : va_P D CLS [(hm, .inr (1, [.ref hu, .ref hxs, .ref hys])), (hu, .inl (cZ, 20, .inl (fun z9 => b2i (u z9)))), (hxs, .inl (cI, 40, .inl (upd (upd X (2 * k) x) (tw (2 * k)) z))), (hys, .inl (cI, 40, .inl (upd (upd Y (2 * k) y) (tw (2 * k)) w)))] H := hP
    have hD : va_D A [(hm, .inr (1, [.ref hu, .ref hxs, .ref hys])), (hu, .inl (cZ, 20, .inl (fun z9 => b2i (u z9)))), (hxs, .inl (cI, 40, .inl (upd (upd X (2 * k) x) (tw (2 * k)) z))), (hys, .inl (cI, 40, .inl (upd (upd Y (2 * k) y) (tw (2 * k)) w)))] := hD
    have eqf := (show f_M_sketch u X Y k x y z w = (upd (upd X (2 * k) x) (tw (2 * k)) z, upd (upd Y (2 * k) y) (tw (2 * k)) w) from by unfold f_M_sketch; rw [if_pos c1a])
    exact rretV S hr hlk (by rw [eqf]) hP hK hD hS d_M_sketch_81
  · have c1a : ¬ (x < z) := c1
    refine lv_iload_n hx hb d_M_sketch_6 rfl (lv_at hl 2 rfl) ?_
    refine lv_iload hx hb d_M_sketch_7 (lv_at hl 4 rfl) ?_
    refine lv_icmp_ne (tgt := 22) hx hb d_M_sketch_9 (by decide) (fun c3 => ?_) (fun c3 => ?_)
    · have c3a : ¬ (x = z) := c3
      refine lv_iconst (v := 0) hx hb d_M_sketch_22 (by decide) ?_
      refine lv_istore (lv' := [(6, .int 0), (0, .ref hm), (1, .int (nI (k))), (2, .int x), (3, .int y), (4, .int z), (5, .int w)]) hx hb d_M_sketch_23 hl (by decide) rfl (fun ls hl => ?_)
      refine lv_iload hx hb d_M_sketch_25 (lv_at hl 0 rfl) ?_
      refine lv_if_eq (tgt := 36) hx hb d_M_sketch_27 (by decide) (fun _ => ?_) (fun h => absurd (by decide) h)
      refine lv_iconst (v := 2) hx hb d_M_sketch_36 (by decide) ?_
      refine lv_iload_n hx hb d_M_sketch_37 rfl (lv_at hl 2 rfl) ?_
      refine lv_imul hx hb d_M_sketch_38 ?_
      refine rtop (y := nI (2 * k)) (pk_mul (2) (k)) ?_
      refine lv_iconst (v := 1) hx hb d_M_sketch_39 (by decide) ?_
      refine lv_iadd hx hb d_M_sketch_40 ?_
      refine rtop (y := nI ((2 * k) + 1)) (nI_add (2 * k) (1)) ?_
      refine lv_istore (lv' := [(7, .int (nI ((2 * k) + 1))), (6, .int 0), (0, .ref hm), (1, .int (nI (k))), (2, .int x), (3, .int y), (4, .int z), (5, .int w)]) hx hb d_M_sketch_41 hl (by decide) rfl (fun ls hl => ?_)
      refine lv_aload_n hx hb d_M_sketch_43 rfl (lv_at hl 2 rfl) ?_
      refine rget S hK hP 0 rfl rfl in_M 1 (by decide) kF_M_15 rfl d_M_sketch_44 ?_
      refine lv_iload hx hb d_M_sketch_47 (lv_at hl 0 rfl) ?_
      refine lv_iload_n hx hb d_M_sketch_49 rfl (lv_at hl 4 rfl) ?_
      refine riast (j := (2 * k) + 1) (x := x) S hK hP hD hS 2 1 rfl rfl (by omega) (by first | decide | omega) d_M_sketch_50 (fun H locs hP hD hS => ?_)
      have hP : va_P D CLS [(hm, .inr (1, [.ref hu, .ref hxs, .ref hys])), (hu, .inl (cZ, 20, .inl (fun z9 => b2i (u z9)))), (hxs, .inl (cI, 40, .inl (upd X ((2 * k) + 1) x))), (hys, .inl (cI, 40, .inl Y))] H := hP
      have hD : va_D A [(hm, .inr (1, [.ref hu, .ref hxs, .ref hys])), (hu, .inl (cZ, 20, .inl (fun z9 => b2i (u z9)))), (hxs, .inl (cI, 40, .inl (upd X ((2 * k) + 1) x))), (hys, .inl (cI, 40, .inl Y))] := hD
      refine lv_aload_n hx hb d_M_sketch_51 rfl (lv_at hl 2 rfl) ?_
      refine rget S hK hP 0 rfl rfl in_M 2 (by decide) kF_M_19 rfl d_M_sketch_52 ?_
      refine lv_iload hx hb d_M_sketch_55 (lv_at hl 0 rfl) ?_
      refine lv_iload_n hx hb d_M_sketch_57 rfl (lv_at hl 5 rfl) ?_
      refine riast (j := (2 * k) + 1) (x := y) S hK hP hD hS 3 1 rfl rfl (by omega) (by first | decide | omega) d_M_sketch_58 (fun H locs hP hD hS => ?_)
      have hP : va_P D CLS [(hm, .inr (1, [.ref hu, .ref hxs, .ref hys])), (hu, .inl (cZ, 20, .inl (fun z9 => b2i (u z9)))), (hxs, .inl (cI, 40, .inl (upd X ((2 * k) + 1) x))), (hys, .inl (cI, 40, .inl (upd Y ((2 * k) + 1) y)))] H := hP
      have hD : va_D A [(hm, .inr (1, [.ref hu, .ref hxs, .ref hys])), (hu, .inl (cZ, 20, .inl (fun z9 => b2i (u z9)))), (hxs, .inl (cI, 40, .inl (upd X ((2 * k) + 1) x))), (hys, .inl (cI, 40, .inl (upd Y ((2 * k) + 1) y)))] := hD
      refine lv_aload_n hx hb d_M_sketch_59 rfl (lv_at hl 2 rfl) ?_
      refine rget S hK hP 0 rfl rfl in_M 1 (by decide) kF_M_15 rfl d_M_sketch_60 ?_
      refine lv_iload hx hb d_M_sketch_63 (lv_at hl 0 rfl) ?_
      refine lv_iconst (v := 1) hx hb d_M_sketch_65 (by decide) ?_
      refine lv_ixor hx hb d_M_sketch_66 ?_
      refine rtop (y := nI (tw ((2 * k) + 1))) (nI_xor1 ((2 * k) + 1) (by omega)) ?_
      refine lv_iload hx hb d_M_sketch_67 (lv_at hl 6 rfl) ?_
      refine riast (j := tw ((2 * k) + 1)) (x := z) S hK hP hD hS 2 1 rfl rfl (tw_lt (by omega)) (by first | decide | omega) d_M_sketch_69 (fun H locs hP hD hS => ?_)
      have hP : va_P D CLS [(hm, .inr (1, [.ref hu, .ref hxs, .ref hys])), (hu, .inl (cZ, 20, .inl (fun z9 => b2i (u z9)))), (hxs, .inl (cI, 40, .inl (upd (upd X ((2 * k) + 1) x) (tw ((2 * k) + 1)) z))), (hys, .inl (cI, 40, .inl (upd Y ((2 * k) + 1) y)))] H := hP
      have hD : va_D A [(hm, .inr (1, [.ref hu, .ref hxs, .ref hys])), (hu, .inl (cZ, 20, .inl (fun z9 => b2i (u z9)))), (hxs, .inl (cI, 40, .inl (upd (upd X ((2 * k) + 1) x) (tw ((2 * k) + 1)) z))), (hys, .inl (cI, 40, .inl (upd Y ((2 * k) + 1) y)))] := hD
      refine lv_aload_n hx hb d_M_sketch_70 rfl (lv_at hl 2 rfl) ?_
      refine rget S hK hP 0 rfl rfl in_M 2 (by decide) kF_M_19 rfl d_M_sketch_71 ?_
      refine lv_iload hx hb d_M_sketch_74 (lv_at hl 0 rfl) ?_
      refine lv_iconst (v := 1) hx hb d_M_sketch_76 (by decide) ?_
      refine lv_ixor hx hb d_M_sketch_77 ?_
      refine rtop (y := nI (tw ((2 * k) + 1))) (nI_xor1 ((2 * k) + 1) (by omega)) ?_
      refine lv_iload hx hb d_M_sketch_78 (lv_at hl 7 rfl) ?_
      refine riast (j := tw ((2 * k) + 1)) (x := w) S hK hP hD hS 3 1 rfl rfl (tw_lt (by omega)) (by first | decide | omega) d_M_sketch_80 (fun H locs hP hD hS => ?_)
      have hP : va_P D CLS [(hm, .inr (1, [.ref hu, .ref hxs, .ref hys])), (hu, .inl (cZ, 20, .inl (fun z9 => b2i (u z9)))), (hxs, .inl (cI, 40, .inl (upd (upd X ((2 * k) + 1) x) (tw ((2 * k) + 1)) z))), (hys, .inl (cI, 40, .inl (upd (upd Y ((2 * k) + 1) y) (tw ((2 * k) + 1)) w)))] H := hP
      have hD : va_D A [(hm, .inr (1, [.ref hu, .ref hxs, .ref hys])), (hu, .inl (cZ, 20, .inl (fun z9 => b2i (u z9)))), (hxs, .inl (cI, 40, .inl (upd (upd X ((2 * k) + 1) x) (tw ((2 * k) + 1)) z))), (hys, .inl (cI, 40, .inl (upd (upd Y ((2 * k) + 1) y) (tw ((2 * k) + 1)) w)))] := hD
      have eqf := (show f_M_sketch u X Y k x y z w = (upd (upd X ((2 * k) + 1) x) (tw ((2 * k) + 1)) z, upd (upd Y ((2 * k) + 1) y) (tw ((2 * k) + 1)) w) from by unfold f_M_sketch; rw [if_neg c1a, if_neg c3a])
      exact rretV S hr hlk (by rw [eqf]) hP hK hD hS d_M_sketch_81
    · have c3a : x = z := c3
      refine lv_iload_n hx hb d_M_sketch_12 rfl (lv_at hl 3 rfl) ?_
      refine lv_iload hx hb d_M_sketch_13 (lv_at hl 5 rfl) ?_
      refine lv_icmp_ge (tgt := 22) hx hb d_M_sketch_15 (by decide) (fun c5 => ?_) (fun c5 => ?_)
      · have c5a : w ≤ y := c5
        refine lv_iconst (v := 0) hx hb d_M_sketch_22 (by decide) ?_
        refine lv_istore (lv' := [(6, .int 0), (0, .ref hm), (1, .int (nI (k))), (2, .int x), (3, .int y), (4, .int z), (5, .int w)]) hx hb d_M_sketch_23 hl (by decide) rfl (fun ls hl => ?_)
        refine lv_iload hx hb d_M_sketch_25 (lv_at hl 0 rfl) ?_
        refine lv_if_eq (tgt := 36) hx hb d_M_sketch_27 (by decide) (fun _ => ?_) (fun h => absurd (by decide) h)
        refine lv_iconst (v := 2) hx hb d_M_sketch_36 (by decide) ?_
        refine lv_iload_n hx hb d_M_sketch_37 rfl (lv_at hl 2 rfl) ?_
        refine lv_imul hx hb d_M_sketch_38 ?_
        refine rtop (y := nI (2 * k)) (pk_mul (2) (k)) ?_
        refine lv_iconst (v := 1) hx hb d_M_sketch_39 (by decide) ?_
        refine lv_iadd hx hb d_M_sketch_40 ?_
        refine rtop (y := nI ((2 * k) + 1)) (nI_add (2 * k) (1)) ?_
        refine lv_istore (lv' := [(7, .int (nI ((2 * k) + 1))), (6, .int 0), (0, .ref hm), (1, .int (nI (k))), (2, .int x), (3, .int y), (4, .int z), (5, .int w)]) hx hb d_M_sketch_41 hl (by decide) rfl (fun ls hl => ?_)
        refine lv_aload_n hx hb d_M_sketch_43 rfl (lv_at hl 2 rfl) ?_
        refine rget S hK hP 0 rfl rfl in_M 1 (by decide) kF_M_15 rfl d_M_sketch_44 ?_
        refine lv_iload hx hb d_M_sketch_47 (lv_at hl 0 rfl) ?_
        refine lv_iload_n hx hb d_M_sketch_49 rfl (lv_at hl 4 rfl) ?_
        refine riast (j := (2 * k) + 1) (x := x) S hK hP hD hS 2 1 rfl rfl (by omega) (by first | decide | omega) d_M_sketch_50 (fun H locs hP hD hS => ?_)
        have hP : va_P D CLS [(hm, .inr (1, [.ref hu, .ref hxs, .ref hys])), (hu, .inl (cZ, 20, .inl (fun z9 => b2i (u z9)))), (hxs, .inl (cI, 40, .inl (upd X ((2 * k) + 1) x))), (hys, .inl (cI, 40, .inl Y))] H := hP
        have hD : va_D A [(hm, .inr (1, [.ref hu, .ref hxs, .ref hys])), (hu, .inl (cZ, 20, .inl (fun z9 => b2i (u z9)))), (hxs, .inl (cI, 40, .inl (upd X ((2 * k) + 1) x))), (hys, .inl (cI, 40, .inl Y))] := hD
        refine lv_aload_n hx hb d_M_sketch_51 rfl (lv_at hl 2 rfl) ?_
        refine rget S hK hP 0 rfl rfl in_M 2 (by decide) kF_M_19 rfl d_M_sketch_52 ?_
        refine lv_iload hx hb d_M_sketch_55 (lv_at hl 0 rfl) ?_
        refine lv_iload_n hx hb d_M_sketch_57 rfl (lv_at hl 5 rfl) ?_
        refine riast (j := (2 * k) + 1) (x := y) S hK hP hD hS 3 1 rfl rfl (by omega) (by first | decide | omega) d_M_sketch_58 (fun H locs hP hD hS => ?_)
        have hP : va_P D CLS [(hm, .inr (1, [.ref hu, .ref hxs, .ref hys])), (hu, .inl (cZ, 20, .inl (fun z9 => b2i (u z9)))), (hxs, .inl (cI, 40, .inl (upd X ((2 * k) + 1) x))), (hys, .inl (cI, 40, .inl (upd Y ((2 * k) + 1) y)))] H := hP
        have hD : va_D A [(hm, .inr (1, [.ref hu, .ref hxs, .ref hys])), (hu, .inl (cZ, 20, .inl (fun z9 => b2i (u z9)))), (hxs, .inl (cI, 40, .inl (upd X ((2 * k) + 1) x))), (hys, .inl (cI, 40, .inl (upd Y ((2 * k) + 1) y)))] := hD
        refine lv_aload_n hx hb d_M_sketch_59 rfl (lv_at hl 2 rfl) ?_
        refine rget S hK hP 0 rfl rfl in_M 1 (by decide) kF_M_15 rfl d_M_sketch_60 ?_
        refine lv_iload hx hb d_M_sketch_63 (lv_at hl 0 rfl) ?_
        refine lv_iconst (v := 1) hx hb d_M_sketch_65 (by decide) ?_
        refine lv_ixor hx hb d_M_sketch_66 ?_
        refine rtop (y := nI (tw ((2 * k) + 1))) (nI_xor1 ((2 * k) + 1) (by omega)) ?_
        refine lv_iload hx hb d_M_sketch_67 (lv_at hl 6 rfl) ?_
        refine riast (j := tw ((2 * k) + 1)) (x := z) S hK hP hD hS 2 1 rfl rfl (tw_lt (by omega)) (by first | decide | omega) d_M_sketch_69 (fun H locs hP hD hS => ?_)
        have hP : va_P D CLS [(hm, .inr (1, [.ref hu, .ref hxs, .ref hys])), (hu, .inl (cZ, 20, .inl (fun z9 => b2i (u z9)))), (hxs, .inl (cI, 40, .inl (upd (upd X ((2 * k) + 1) x) (tw ((2 * k) + 1)) z))), (hys, .inl (cI, 40, .inl (upd Y ((2 * k) + 1) y)))] H := hP
        have hD : va_D A [(hm, .inr (1, [.ref hu, .ref hxs, .ref hys])), (hu, .inl (cZ, 20, .inl (fun z9 => b2i (u z9)))), (hxs, .inl (cI, 40, .inl (upd (upd X ((2 * k) + 1) x) (tw ((2 * k) + 1)) z))), (hys, .inl (cI, 40, .inl (upd Y ((2 * k) + 1) y)))] := hD
        refine lv_aload_n hx hb d_M_sketch_70 rfl (lv_at hl 2 rfl) ?_
        refine rget S hK hP 0 rfl rfl in_M 2 (by decide) kF_M_19 rfl d_M_sketch_71 ?_
        refine lv_iload hx hb d_M_sketch_74 (lv_at hl 0 rfl) ?_
        refine lv_iconst (v := 1) hx hb d_M_sketch_76 (by decide) ?_
        refine lv_ixor hx hb d_M_sketch_77 ?_
        refine rtop (y := nI (tw ((2 * k) + 1))) (nI_xor1 ((2 * k) + 1) (by omega)) ?_
        refine lv_iload hx hb d_M_sketch_78 (lv_at hl 7 rfl) ?_
        refine riast (j := tw ((2 * k) + 1)) (x := w) S hK hP hD hS 3 1 rfl rfl (tw_lt (by omega)) (by first | decide | omega) d_M_sketch_80 (fun H locs hP hD hS => ?_)
        have hP : va_P D CLS [(hm, .inr (1, [.ref hu, .ref hxs, .ref hys])), (hu, .inl (cZ, 20, .inl (fun z9 => b2i (u z9)))), (hxs, .inl (cI, 40, .inl (upd (upd X ((2 * k) + 1) x) (tw ((2 * k) + 1)) z))), (hys, .inl (cI, 40, .inl (upd (upd Y ((2 * k) + 1) y) (tw ((2 * k) + 1)) w)))] H := hP
        have hD : va_D A [(hm, .inr (1, [.ref hu, .ref hxs, .ref hys])), (hu, .inl (cZ, 20, .inl (fun z9 => b2i (u z9)))), (hxs, .inl (cI, 40, .inl (upd (upd X ((2 * k) + 1) x) (tw ((2 * k) + 1)) z))), (hys, .inl (cI, 40, .inl (upd (upd Y ((2 * k) + 1) y) (tw ((2 * k) + 1)) w)))] := hD
        have eqf := (show f_M_sketch u X Y k x y z w = (upd (upd X ((2 * k) + 1) x) (tw ((2 * k) + 1)) z, upd (upd Y ((2 * k) + 1) y) (tw ((2 * k) + 1)) w) from by unfold f_M_sketch; rw [if_neg c1a, if_pos c3a, if_pos c5a])
        exact rretV S hr hlk (by rw [eqf]) hP hK hD hS d_M_sketch_81
      · have c5a : ¬ (w ≤ y) := c5
        refine lv_iconst (v := 1) hx hb d_M_sketch_18 (by decide) ?_
        refine lv_goto (tgt := 23) hx hb d_M_sketch_19 (by decide) ?_
        refine lv_istore (lv' := [(6, .int 1), (0, .ref hm), (1, .int (nI (k))), (2, .int x), (3, .int y), (4, .int z), (5, .int w)]) hx hb d_M_sketch_23 hl (by decide) rfl (fun ls hl => ?_)
        refine lv_iload hx hb d_M_sketch_25 (lv_at hl 0 rfl) ?_
        refine lv_if_eq (tgt := 36) hx hb d_M_sketch_27 (by decide) (fun h => absurd h (by decide)) (fun _ => ?_)
        refine lv_iconst (v := 2) hx hb d_M_sketch_30 (by decide) ?_
        refine lv_iload_n hx hb d_M_sketch_31 rfl (lv_at hl 2 rfl) ?_
        refine lv_imul hx hb d_M_sketch_32 ?_
        refine rtop (y := nI (2 * k)) (pk_mul (2) (k)) ?_
        refine lv_goto (tgt := 41) hx hb d_M_sketch_33 (by decide) ?_
        refine lv_istore (lv' := [(7, .int (nI (2 * k))), (6, .int 1), (0, .ref hm), (1, .int (nI (k))), (2, .int x), (3, .int y), (4, .int z), (5, .int w)]) hx hb d_M_sketch_41 hl (by decide) rfl (fun ls hl => ?_)
        refine lv_aload_n hx hb d_M_sketch_43 rfl (lv_at hl 2 rfl) ?_
        refine rget S hK hP 0 rfl rfl in_M 1 (by decide) kF_M_15 rfl d_M_sketch_44 ?_
        refine lv_iload hx hb d_M_sketch_47 (lv_at hl 0 rfl) ?_
        refine lv_iload_n hx hb d_M_sketch_49 rfl (lv_at hl 4 rfl) ?_
        refine riast (j := 2 * k) (x := x) S hK hP hD hS 2 1 rfl rfl (by omega) (by first | decide | omega) d_M_sketch_50 (fun H locs hP hD hS => ?_)
        have hP : va_P D CLS [(hm, .inr (1, [.ref hu, .ref hxs, .ref hys])), (hu, .inl (cZ, 20, .inl (fun z9 => b2i (u z9)))), (hxs, .inl (cI, 40, .inl (upd X (2 * k) x))), (hys, .inl (cI, 40, .inl Y))] H := hP
        have hD : va_D A [(hm, .inr (1, [.ref hu, .ref hxs, .ref hys])), (hu, .inl (cZ, 20, .inl (fun z9 => b2i (u z9)))), (hxs, .inl (cI, 40, .inl (upd X (2 * k) x))), (hys, .inl (cI, 40, .inl Y))] := hD
        refine lv_aload_n hx hb d_M_sketch_51 rfl (lv_at hl 2 rfl) ?_
        refine rget S hK hP 0 rfl rfl in_M 2 (by decide) kF_M_19 rfl d_M_sketch_52 ?_
        refine lv_iload hx hb d_M_sketch_55 (lv_at hl 0 rfl) ?_
        refine lv_iload_n hx hb d_M_sketch_57 rfl (lv_at hl 5 rfl) ?_
        refine riast (j := 2 * k) (x := y) S hK hP hD hS 3 1 rfl rfl (by omega) (by first | decide | omega) d_M_sketch_58 (fun H locs hP hD hS => ?_)
        have hP : va_P D CLS [(hm, .inr (1, [.ref hu, .ref hxs, .ref hys])), (hu, .inl (cZ, 20, .inl (fun z9 => b2i (u z9)))), (hxs, .inl (cI, 40, .inl (upd X (2 * k) x))), (hys, .inl (cI, 40, .inl (upd Y (2 * k) y)))] H := hP
        have hD : va_D A [(hm, .inr (1, [.ref hu, .ref hxs, .ref hys])), (hu, .inl (cZ, 20, .inl (fun z9 => b2i (u z9)))), (hxs, .inl (cI, 40, .inl (upd X (2 * k) x))), (hys, .inl (cI, 40, .inl (upd Y (2 * k) y)))] := hD
        refine lv_aload_n hx hb d_M_sketch_59 rfl (lv_at hl 2 rfl) ?_
        refine rget S hK hP 0 rfl rfl in_M 1 (by decide) kF_M_15 rfl d_M_sketch_60 ?_
        refine lv_iload hx hb d_M_sketch_63 (lv_at hl 0 rfl) ?_
        refine lv_iconst (v := 1) hx hb d_M_sketch_65 (by decide) ?_
        refine lv_ixor hx hb d_M_sketch_66 ?_
        refine rtop (y := nI (tw (2 * k))) (nI_xor1 (2 * k) (by omega)) ?_
        refine lv_iload hx hb d_M_sketch_67 (lv_at hl 6 rfl) ?_
        refine riast (j := tw (2 * k)) (x := z) S hK hP hD hS 2 1 rfl rfl (tw_lt (by omega)) (by first | decide | omega) d_M_sketch_69 (fun H locs hP hD hS => ?_)
        have hP : va_P D CLS [(hm, .inr (1, [.ref hu, .ref hxs, .ref hys])), (hu, .inl (cZ, 20, .inl (fun z9 => b2i (u z9)))), (hxs, .inl (cI, 40, .inl (upd (upd X (2 * k) x) (tw (2 * k)) z))), (hys, .inl (cI, 40, .inl (upd Y (2 * k) y)))] H := hP
        have hD : va_D A [(hm, .inr (1, [.ref hu, .ref hxs, .ref hys])), (hu, .inl (cZ, 20, .inl (fun z9 => b2i (u z9)))), (hxs, .inl (cI, 40, .inl (upd (upd X (2 * k) x) (tw (2 * k)) z))), (hys, .inl (cI, 40, .inl (upd Y (2 * k) y)))] := hD
        refine lv_aload_n hx hb d_M_sketch_70 rfl (lv_at hl 2 rfl) ?_
        refine rget S hK hP 0 rfl rfl in_M 2 (by decide) kF_M_19 rfl d_M_sketch_71 ?_
        refine lv_iload hx hb d_M_sketch_74 (lv_at hl 0 rfl) ?_
        refine lv_iconst (v := 1) hx hb d_M_sketch_76 (by decide) ?_
        refine lv_ixor hx hb d_M_sketch_77 ?_
        refine rtop (y := nI (tw (2 * k))) (nI_xor1 (2 * k) (by omega)) ?_
        refine lv_iload hx hb d_M_sketch_78 (lv_at hl 7 rfl) ?_
        refine riast (j := tw (2 * k)) (x := w) S hK hP hD hS 3 1 rfl rfl (tw_lt (by omega)) (by first | decide | omega) d_M_sketch_80 (fun H locs hP hD hS => ?_)
        have hP : va_P D CLS [(hm, .inr (1, [.ref hu, .ref hxs, .ref hys])), (hu, .inl (cZ, 20, .inl (fun z9 => b2i (u z9)))), (hxs, .inl (cI, 40, .inl (upd (upd X (2 * k) x) (tw (2 * k)) z))), (hys, .inl (cI, 40, .inl (upd (upd Y (2 * k) y) (tw (2 * k)) w)))] H := hP
        have hD : va_D A [(hm, .inr (1, [.ref hu, .ref hxs, .ref hys])), (hu, .inl (cZ, 20, .inl (fun z9 => b2i (u z9)))), (hxs, .inl (cI, 40, .inl (upd (upd X (2 * k) x) (tw (2 * k)) z))), (hys, .inl (cI, 40, .inl (upd (upd Y (2 * k) y) (tw (2 * k)) w)))] := hD
        have eqf := (show f_M_sketch u X Y k x y z w = (upd (upd X (2 * k) x) (tw (2 * k)) z, upd (upd Y (2 * k) y) (tw (2 * k)) w) from by unfold f_M_sketch; rw [if_neg c1a, if_pos c3a, if_neg c5a])
        exact rretV S hr hlk (by rw [eqf]) hP hK hD hS d_M_sketch_81
def f_M_setUsed (u : Nat → Bool) (X : Nat → Int32) (Y : Nat → Int32) (k : Nat) (now : Bool) : (Nat → Bool) := updB u k now
theorem i_M_setUsed : inV y_M_setUsed b_M_setUsed 3 (none) 2 := ⟨kM_y_M_setUsed, kV_y_M_setUsed, kI_M, kY_y_M_setUsed, by decide +kernel⟩
set_option maxHeartbeats 4000000 in
set_option maxRecDepth 100000 in
theorem c_M_setUsed (l : Launch) (D : va_G) (hm hu hxs hys : Nat) (cZ cI : ClassId) (u : Nat → Bool) (X Y : Nat → Int32) (k : Nat) (now : Bool) (sz : Nat) (hk : k < 20)  : SMv l y_M_setUsed b_M_setUsed 3 0 0 D [(hm, .inr (1, [.ref hu, .ref hxs, .ref hys])), (hu, .inl (cZ, 20, .inl (fun z9 => b2i (u z9)))), (hxs, .inl (cI, 40, .inl X)), (hys, .inl (cI, 40, .inl Y))] [(cZ, .boolean), (cI, .int)] [.ref hm, .int (nI (k)), .int (b2i (now))] sz [(hm, .inr (1, [.ref hu, .ref hxs, .ref hys])), (hu, .inl (cZ, 20, .inl (fun z9 => b2i ((f_M_setUsed u X Y k now) z9)))), (hxs, .inl (cI, 40, .inl X)), (hys, .inl (cI, 40, .inl Y))] := by
  refine sMet (Qc := fun A => sQv D [(hm, .inr (1, [.ref hu, .ref hxs, .ref hys])), (hu, .inl (cZ, 20, .inl (fun z9 => b2i ((f_M_setUsed u X Y k now) z9)))), (hxs, .inl (cI, 40, .inl X)), (hys, .inl (cI, 40, .inl Y))] [(cZ, .boolean), (cI, .int)] A) rfl (fun p e s m below meth c A S hr hlk hP hK hD hA hS ls hl => ?_) (Nat.le_of_ble_eq_true rfl)
  have hx := S.1
  have hb := S.2.1
  have hl : lv_has ls 3 [(0, .ref hm), (1, .int (nI (k))), (2, .int (b2i (now)))] := hl
  refine lv_aload_n hx hb d_M_setUsed_0 rfl (lv_at hl 0 rfl) ?_
  refine rget S hK hP 0 rfl rfl in_M 0 (by decide) kF_M_9 rfl d_M_setUsed_1 ?_
  refine lv_iload_n hx hb d_M_setUsed_4 rfl (lv_at hl 1 rfl) ?_
  refine lv_iload_n hx hb d_M_setUsed_5 rfl (lv_at hl 2 rfl) ?_
  refine rzast (j := k) (x := now) S hK hP hD hS 1 0 rfl rfl (by omega) (by first | decide | omega) d_M_setUsed_6 (fun H locs hP hD hS => ?_)
  have hP : va_P D CLS [(hm, .inr (1, [.ref hu, .ref hxs, .ref hys])), (hu, .inl (cZ, 20, .inl (fun z9 => b2i ((updB u k now) z9)))), (hxs, .inl (cI, 40, .inl X)), (hys, .inl (cI, 40, .inl Y))] H := hP
  have hD : va_D A [(hm, .inr (1, [.ref hu, .ref hxs, .ref hys])), (hu, .inl (cZ, 20, .inl (fun z9 => b2i ((updB u k now) z9)))), (hxs, .inl (cI, 40, .inl X)), (hys, .inl (cI, 40, .inl Y))] := hD
  have eqf := (show f_M_setUsed u X Y k now = (updB u k now) from rfl)
  exact rretV S hr hlk (by rw [eqf]) hP hK hD hS d_M_setUsed_7
end
section
theorem sideAbove_lt (u : Nat → Bool) (X Y : Nat → Int32) (x y : Int32) : f_M_sideAbove u X Y x y < 41 := by
  unfold f_M_sideAbove
  split
  · omega
  · rename_i h
    have h1 := struck_lt u X Y x y h
    repeat' split
    all_goals first
      | omega
      | exact Nat.lt_succ_of_lt (sideFacing_lt u X Y _ _ _ (by omega))
theorem endsAt_fl (u : Nat → Bool) (X Y : Nat → Int32) (x y : Int32) : ∀ (n a cnt : Nat), fl_M_endsAt u X Y x y n a cnt ≤ cnt + n := by
  intro n
  induction n with
  | zero => intro a cnt; exact Nat.le_refl _
  | succ n ih =>
    intro a cnt
    show fb_M_endsAt u X Y x y (fl_M_endsAt u X Y x y n) a cnt ≤ _
    unfold fb_M_endsAt
    have h1 := ih (a + 1) (cnt + 1)
    have h2 := ih (a + 1) cnt
    repeat' split
    all_goals omega
theorem endsAt_le (u : Nat → Bool) (X Y : Nat → Int32) (x y : Int32) : f_M_endsAt u X Y x y ≤ 40 := by
  have h := endsAt_fl u X Y x y 40 0 0
  unfold f_M_endsAt
  omega
theorem lu_fl (u : Nat → Bool) (X Y : Nat → Int32) : ∀ (n k : Nat), k + n = 20 → okN 20 (fl_M_leastUnusedNumber u X Y n k) := by
  intro n
  induction n with
  | zero => intro k _; exact Or.inl rfl
  | succ n ih =>
    intro k hk
    show okN 20 (fb_M_leastUnusedNumber u X Y (fl_M_leastUnusedNumber u X Y n) k)
    unfold fb_M_leastUnusedNumber
    split
    · exact ih _ (by omega)
    · exact Or.inr ⟨k, by omega, rfl⟩
theorem lu_ok (u : Nat → Bool) (X Y : Nat → Int32) : okN 20 (f_M_leastUnusedNumber u X Y) := lu_fl u X Y 20 0 (by omega)
theorem lu_nat (u : Nat → Bool) (X Y : Nat → Int32) (h : ¬ f_M_leastUnusedNumber u X Y = -1) : f_M_leastUnusedNumber u X Y = nI (f_M_leastUnusedNumber u X Y).toNatClampNeg := (okN_nat (lu_ok u X Y) h (by decide)).1
theorem lu_lt (u : Nat → Bool) (X Y : Nat → Int32) (h : ¬ f_M_leastUnusedNumber u X Y = -1) : (f_M_leastUnusedNumber u X Y).toNatClampNeg < 20 := (okN_nat (lu_ok u X Y) h (by decide)).2
theorem has_ok {u : Nat → Bool} {X Y : Nat → Int32} {k : Int32} (h : f_M_has u X Y k = true) : k = nI k.toNatClampNeg ∧ k.toNatClampNeg < 20 ∧ u k.toNatClampNeg = true := by
  unfold f_M_has at h
  by_cases h1 : k < 0
  · rw [if_pos h1] at h; cases h
  · rw [if_neg h1] at h
    by_cases h2 : 20 ≤ k
    · rw [if_pos h2] at h; cases h
    · rw [if_neg h2] at h
      by_cases h3 : u k.toNatClampNeg = true
      · exact ⟨raw_nat h1, raw_lt h1 h2, h3⟩
      · rw [if_neg h3] at h; cases h
end
section
abbrev atlW (h0 hm hu hxs hys hg1 hl1 hg2 hl2 : Nat) (cZ cI : ClassId) (u : Nat → Bool) (X Y : Nat → Int32) (L1 L2 : Nat → Nat) : va_W := [(h0, .inr (2, [.ref hm, .ref hg1, .ref hg2])), (hm, .inr (1, [.ref hu, .ref hxs, .ref hys])), (hu, .inl (cZ, 20, .inl (fun z9 => b2i (u z9)))), (hxs, .inl (cI, 40, .inl X)), (hys, .inl (cI, 40, .inl Y)), (hg1, .inr (0, [.ref hl1])), (hl1, .inl (cI, 41, .inl (fun z9 => nI (L1 z9)))), (hg2, .inr (0, [.ref hl2])), (hl2, .inl (cI, 20, .inl (fun z9 => nI (L2 z9))))]
def f_A_isNearby (x : Int32) (y : Int32) : Bool := if x < (-100) then false else (if 100 < x then false else (if y < (-100) then false else (if 100 < y then false else true)))
theorem i_A_isNearby : inS y_A_isNearby b_A_isNearby 2 (some .boolean) 2 := ⟨kS_y_A_isNearby, kI_A, kY_y_A_isNearby, by decide +kernel⟩
set_option maxHeartbeats 4000000 in
set_option maxRecDepth 100000 in
theorem c_A_isNearby (l : Launch) (D : va_G)  (x : Int32) (y : Int32)   : PM l y_A_isNearby b_A_isNearby 2 (some .boolean) 0 0 D ([]) [] [.int x, .int y] (b2i (f_A_isNearby x y)) := by
  refine pMet rfl (fun p e s m below meth c S hr hlk hP hK ls hl => ?_) (Nat.le_of_ble_eq_true rfl)
  have hx := S.1
  have hb := S.2.1
  have hl : lv_has ls 2 [(0, .int x), (1, .int y)] := hl
  refine lv_iload_n hx hb d_A_isNearby_0 rfl (lv_at hl 0 rfl) ?_
  refine lv_bipush (v := (-100)) hx hb d_A_isNearby_1 (by decide) ?_
  refine lv_icmp_lt (tgt := 28) hx hb d_A_isNearby_3 (by decide) (fun c1 => ?_) (fun c1 => ?_)
  · have c1a : x < (-100) := c1
    refine lv_iconst (v := 0) hx hb d_A_isNearby_28 (by decide) ?_
    exact rretZ S hr hlk (v := false) (show f_A_isNearby x y = false from by unfold f_A_isNearby; rw [if_pos c1a]).symm d_A_isNearby_29
  · have c1a : ¬ (x < (-100)) := c1
    refine lv_iload_n hx hb d_A_isNearby_6 rfl (lv_at hl 0 rfl) ?_
    refine lv_bipush (v := 100) hx hb d_A_isNearby_7 (by decide) ?_
    refine lv_icmp_gt (tgt := 28) hx hb d_A_isNearby_9 (by decide) (fun c2 => ?_) (fun c2 => ?_)
    · have c2a : 100 < x := c2
      refine lv_iconst (v := 0) hx hb d_A_isNearby_28 (by decide) ?_
      exact rretZ S hr hlk (v := false) (show f_A_isNearby x y = false from by unfold f_A_isNearby; rw [if_neg c1a, if_pos c2a]).symm d_A_isNearby_29
    · have c2a : ¬ (100 < x) := c2
      refine lv_iload_n hx hb d_A_isNearby_12 rfl (lv_at hl 1 rfl) ?_
      refine lv_bipush (v := (-100)) hx hb d_A_isNearby_13 (by decide) ?_
      refine lv_icmp_lt (tgt := 28) hx hb d_A_isNearby_15 (by decide) (fun c3 => ?_) (fun c3 => ?_)
      · have c3a : y < (-100) := c3
        refine lv_iconst (v := 0) hx hb d_A_isNearby_28 (by decide) ?_
        exact rretZ S hr hlk (v := false) (show f_A_isNearby x y = false from by unfold f_A_isNearby; rw [if_neg c1a, if_neg c2a, if_pos c3a]).symm d_A_isNearby_29
      · have c3a : ¬ (y < (-100)) := c3
        refine lv_iload_n hx hb d_A_isNearby_18 rfl (lv_at hl 1 rfl) ?_
        refine lv_bipush (v := 100) hx hb d_A_isNearby_19 (by decide) ?_
        refine lv_icmp_gt (tgt := 28) hx hb d_A_isNearby_21 (by decide) (fun c4 => ?_) (fun c4 => ?_)
        · have c4a : 100 < y := c4
          refine lv_iconst (v := 0) hx hb d_A_isNearby_28 (by decide) ?_
          exact rretZ S hr hlk (v := false) (show f_A_isNearby x y = false from by unfold f_A_isNearby; rw [if_neg c1a, if_neg c2a, if_neg c3a, if_pos c4a]).symm d_A_isNearby_29
        · have c4a : ¬ (100 < y) := c4
          refine lv_iconst (v := 1) hx hb d_A_isNearby_24 (by decide) ?_
          refine lv_goto (tgt := 29) hx hb d_A_isNearby_25 (by decide) ?_
          exact rretZ S hr hlk (v := true) (show f_A_isNearby x y = true from by unfold f_A_isNearby; rw [if_neg c1a, if_neg c2a, if_neg c3a, if_neg c4a]).symm d_A_isNearby_29
def f_A_sideSeenFrom (u : Nat → Bool) (X : Nat → Int32) (Y : Nat → Int32) (L1 : Nat → Nat) (L2 : Nat → Nat) (x : Int32) (y : Int32) : Int32 := if f_A_isNearby x y = true then (if 0 < (f_M_endsAt u X Y x y) then (-1) else (if (f_M_segmentAround u X Y x y) = (-1) then (nI (f_M_sideAbove u X Y x y)) else (-1))) else (-2)
theorem i_A_sideSeenFrom : inV y_A_sideSeenFrom b_A_sideSeenFrom 3 (some .int) 2 := ⟨kM_y_A_sideSeenFrom, kV_y_A_sideSeenFrom, kI_A, kY_y_A_sideSeenFrom, by decide +kernel⟩
set_option maxHeartbeats 4000000 in
set_option maxRecDepth 100000 in
theorem c_A_sideSeenFrom (l : Launch) (D : va_G) (h0 hm hu hxs hys hg1 hl1 hg2 hl2 : Nat) (cZ cI : ClassId) (u : Nat → Bool) (X Y : Nat → Int32) (L1 L2 : Nat → Nat) (x : Int32) (y : Int32)   : PM l y_A_sideSeenFrom b_A_sideSeenFrom 3 (some .int) 4 100 D (atlW h0 hm hu hxs hys hg1 hl1 hg2 hl2 cZ cI u X Y L1 L2) [(cZ, .boolean), (cI, .int)] [.ref h0, .int x, .int y] (f_A_sideSeenFrom u X Y L1 L2 x y) := by
  refine pMet rfl (fun p e s m below meth c S hr hlk hP hK ls hl => ?_) (Nat.le_of_ble_eq_true rfl)
  have hx := S.1
  have hb := S.2.1
  have hl : lv_has ls 3 [(0, .ref h0), (1, .int x), (2, .int y)] := hl
  refine lv_iload_n hx hb d_A_sideSeenFrom_0 rfl (lv_at hl 1 rfl) ?_
  refine lv_iload_n hx hb d_A_sideSeenFrom_1 rfl (lv_at hl 2 rfl) ?_
  refine rcallS (rest := []) (v := b2i (f_A_isNearby x y)) S [.int x, .int y] hK hP [] rfl [] rfl (c_A_isNearby l D  x y ) i_A_isNearby rfl kL_A_28 ⟨Nat.le_of_ble_eq_true rfl, Nat.le_of_ble_eq_true rfl⟩ (by exact ⟨Nat.zero_le _, Nat.zero_le _⟩) hl.1 rfl (Nat.le_of_ble_eq_true rfl) d_A_sideSeenFrom_2 ?_
  refine lv_if_ne (tgt := 11) hx hb d_A_sideSeenFrom_5 (by decide) (fun c1 => ?_) (fun c1 => ?_)
  · have c1a : f_A_isNearby x y = true := b2i_ne0.mp c1
    refine lv_aload_n hx hb d_A_sideSeenFrom_11 rfl (lv_at hl 0 rfl) ?_
    refine rget S hK hP 0 rfl rfl in_A 0 (by decide) kF_A_12 rfl d_A_sideSeenFrom_12 ?_
    refine lv_iload_n hx hb d_A_sideSeenFrom_15 rfl (lv_at hl 1 rfl) ?_
    refine lv_iload_n hx hb d_A_sideSeenFrom_16 rfl (lv_at hl 2 rfl) ?_
    refine rcallV (rest := []) (v := nI (f_M_endsAt u X Y x y)) S [.int x, .int y] hK hP [1, 2, 3, 4] rfl [0, 1] rfl (c_M_endsAt l D hm hu hxs hys cZ cI u X Y x y ) i_M_endsAt kL_A_64 ⟨Nat.le_of_ble_eq_true rfl, Nat.le_of_ble_eq_true rfl⟩ (by exact ⟨Nat.zero_le _, Nat.zero_le _⟩) (q0 := 0) (ci := 1) rfl rfl rfl hl.1 rfl (Nat.le_of_ble_eq_true rfl) d_A_sideSeenFrom_17 ?_
    have hea := endsAt_le u X Y x y
    refine lv_if_gt (tgt := 36) hx hb d_A_sideSeenFrom_20 (by decide) (fun c2 => ?_) (fun c2 => ?_)
    · have c2a : 0 < (f_M_endsAt u X Y x y) := (nI_ltI (a := 0) (b := f_M_endsAt u X Y x y) (by decide) (by omega)).mp c2
      refine lv_iconst (v := (-1)) hx hb d_A_sideSeenFrom_36 (by decide) ?_
      exact rret S hr hlk (v := (-1)) (show f_A_sideSeenFrom u X Y L1 L2 x y = (-1) from by unfold f_A_sideSeenFrom; rw [if_pos c1a, if_pos c2a]).symm d_A_sideSeenFrom_37
    · have c2a : ¬ (0 < (f_M_endsAt u X Y x y)) := fun h => c2 ((nI_ltI (a := 0) (b := f_M_endsAt u X Y x y) (by decide) (by omega)).mpr h)
      refine lv_aload_n hx hb d_A_sideSeenFrom_23 rfl (lv_at hl 0 rfl) ?_
      refine rget S hK hP 0 rfl rfl in_A 0 (by decide) kF_A_12 rfl d_A_sideSeenFrom_24 ?_
      refine lv_iload_n hx hb d_A_sideSeenFrom_27 rfl (lv_at hl 1 rfl) ?_
      refine lv_iload_n hx hb d_A_sideSeenFrom_28 rfl (lv_at hl 2 rfl) ?_
      refine rcallV (rest := []) (v := (f_M_segmentAround u X Y x y)) S [.int x, .int y] hK hP [1, 2, 3, 4] rfl [0, 1] rfl (c_M_segmentAround l D hm hu hxs hys cZ cI u X Y x y ) i_M_segmentAround kL_A_68 ⟨Nat.le_of_ble_eq_true rfl, Nat.le_of_ble_eq_true rfl⟩ (by exact ⟨Nat.zero_le _, Nat.zero_le _⟩) (q0 := 0) (ci := 1) rfl rfl rfl hl.1 rfl (Nat.le_of_ble_eq_true rfl) d_A_sideSeenFrom_29 ?_
      refine lv_iconst (v := (-1)) hx hb d_A_sideSeenFrom_32 (by decide) ?_
      refine lv_icmp_eq (tgt := 38) hx hb d_A_sideSeenFrom_33 (by decide) (fun c3 => ?_) (fun c3 => ?_)
      · have c3a : (f_M_segmentAround u X Y x y) = (-1) := c3
        refine lv_aload_n hx hb d_A_sideSeenFrom_38 rfl (lv_at hl 0 rfl) ?_
        refine rget S hK hP 0 rfl rfl in_A 0 (by decide) kF_A_12 rfl d_A_sideSeenFrom_39 ?_
        refine lv_iload_n hx hb d_A_sideSeenFrom_42 rfl (lv_at hl 1 rfl) ?_
        refine lv_iload_n hx hb d_A_sideSeenFrom_43 rfl (lv_at hl 2 rfl) ?_
        refine rcallV (rest := []) (v := nI (f_M_sideAbove u X Y x y)) S [.int x, .int y] hK hP [1, 2, 3, 4] rfl [0, 1] rfl (c_M_sideAbove l D hm hu hxs hys cZ cI u X Y x y ) i_M_sideAbove kL_A_83 ⟨Nat.le_of_ble_eq_true rfl, Nat.le_of_ble_eq_true rfl⟩ (by exact ⟨Nat.zero_le _, Nat.zero_le _⟩) (q0 := 0) (ci := 1) rfl rfl rfl hl.1 rfl (Nat.le_of_ble_eq_true rfl) d_A_sideSeenFrom_44 ?_
        have hsa := sideAbove_lt u X Y x y
        exact rret S hr hlk (v := nI (f_M_sideAbove u X Y x y)) (show f_A_sideSeenFrom u X Y L1 L2 x y = (nI (f_M_sideAbove u X Y x y)) from by unfold f_A_sideSeenFrom; rw [if_pos c1a, if_neg c2a, if_pos c3a]).symm d_A_sideSeenFrom_47
      · have c3a : ¬ ((f_M_segmentAround u X Y x y) = (-1)) := c3
        refine lv_iconst (v := (-1)) hx hb d_A_sideSeenFrom_36 (by decide) ?_
        exact rret S hr hlk (v := (-1)) (show f_A_sideSeenFrom u X Y L1 L2 x y = (-1) from by unfold f_A_sideSeenFrom; rw [if_pos c1a, if_neg c2a, if_neg c3a]).symm d_A_sideSeenFrom_37
  · have c1a : ¬ (f_A_isNearby x y = true) := b2n (b2i_eq0.mp c1)
    refine lv_bipush (v := (-2)) hx hb d_A_sideSeenFrom_8 (by decide) ?_
    exact rret S hr hlk (v := (-2)) (show f_A_sideSeenFrom u X Y L1 L2 x y = (-2) from by unfold f_A_sideSeenFrom; rw [if_neg c1a]).symm d_A_sideSeenFrom_10
theorem seen_ok (u : Nat → Bool) (X Y : Nat → Int32) (L1 L2 : Nat → Nat) (x y : Int32) : f_A_sideSeenFrom u X Y L1 L2 x y = -2 ∨ f_A_sideSeenFrom u X Y L1 L2 x y = -1 ∨ ∃ j : Nat, j < 41 ∧ f_A_sideSeenFrom u X Y L1 L2 x y = nI j := by
  unfold f_A_sideSeenFrom
  repeat' split
  all_goals first
    | exact Or.inl rfl
    | exact Or.inr (Or.inl rfl)
    | exact Or.inr (Or.inr ⟨_, sideAbove_lt _ _ _ _ _, rfl⟩)
theorem seen_both {u : Nat → Bool} {X Y : Nat → Int32} {L1 L2 : Nat → Nat} {x y : Int32} (h : ¬ f_A_sideSeenFrom u X Y L1 L2 x y < 0) : f_A_sideSeenFrom u X Y L1 L2 x y = nI (f_A_sideSeenFrom u X Y L1 L2 x y).toNatClampNeg ∧ (f_A_sideSeenFrom u X Y L1 L2 x y).toNatClampNeg < 41 := by
  rcases seen_ok u X Y L1 L2 x y with e | e | ⟨j, hj, e⟩
  · rw [e] at h; exact absurd (by decide) h
  · rw [e] at h; exact absurd (by decide) h
  · rw [e, nI_clamp (by omega)]; exact ⟨rfl, hj⟩
theorem seen_nat2 {u : Nat → Bool} {X Y : Nat → Int32} {L1 L2 : Nat → Nat} {x y : Int32} (h : ¬ f_A_sideSeenFrom u X Y L1 L2 x y < 0) : f_A_sideSeenFrom u X Y L1 L2 x y = nI (f_A_sideSeenFrom u X Y L1 L2 x y).toNatClampNeg := (seen_both h).1
theorem seen_lt2 {u : Nat → Bool} {X Y : Nat → Int32} {L1 L2 : Nat → Nat} {x y : Int32} (h : ¬ f_A_sideSeenFrom u X Y L1 L2 x y < 0) : (f_A_sideSeenFrom u X Y L1 L2 x y).toNatClampNeg < 41 := (seen_both h).2
theorem nlt_of_le {a b : Int32} (h : a ≤ b) : ¬ b < a := by rw [Int32.lt_iff_toInt_lt]; rw [Int32.le_iff_toInt_le] at h; omega
theorem seen_nat {u : Nat → Bool} {X Y : Nat → Int32} {L1 L2 : Nat → Nat} {x y : Int32} (h : 0 ≤ f_A_sideSeenFrom u X Y L1 L2 x y) : f_A_sideSeenFrom u X Y L1 L2 x y = nI (f_A_sideSeenFrom u X Y L1 L2 x y).toNatClampNeg := (seen_both (nlt_of_le h)).1
theorem seen_lt {u : Nat → Bool} {X Y : Nat → Int32} {L1 L2 : Nat → Nat} {x y : Int32} (h : 0 ≤ f_A_sideSeenFrom u X Y L1 L2 x y) : (f_A_sideSeenFrom u X Y L1 L2 x y).toNatClampNeg < 41 := (seen_both (nlt_of_le h)).2
def fx_A_segments (u : Nat → Bool) (X : Nat → Int32) (Y : Nat → Int32) (L1 : Nat → Nat) (L2 : Nat → Nat) (k : Nat) (cnt : Nat) : Nat := cnt
def fb_A_segments (u : Nat → Bool) (X : Nat → Int32) (Y : Nat → Int32) (L1 : Nat → Nat) (L2 : Nat → Nat) (rec : Nat → Nat → Nat) (k : Nat) (cnt : Nat) : Nat := if f_M_has u X Y (nI (k)) = true then (rec (k + 1) (cnt + 1)) else (rec (k + 1) cnt)
def fl_A_segments (u : Nat → Bool) (X : Nat → Int32) (Y : Nat → Int32) (L1 : Nat → Nat) (L2 : Nat → Nat) : Nat → Nat → Nat → Nat
  | 0, k, cnt => fx_A_segments u X Y L1 L2 k cnt
  | n + 1, k, cnt => fb_A_segments u X Y L1 L2 (fl_A_segments u X Y L1 L2 n) k cnt
def f_A_segments (u : Nat → Bool) (X : Nat → Int32) (Y : Nat → Int32) (L1 : Nat → Nat) (L2 : Nat → Nat) : Nat := fl_A_segments u X Y L1 L2 20 0 0
theorem i_A_segments : inV y_A_segments b_A_segments 3 (some .int) 0 := ⟨kM_y_A_segments, kV_y_A_segments, kI_A, kY_y_A_segments, by decide +kernel⟩
set_option maxHeartbeats 4000000 in
set_option maxRecDepth 100000 in
theorem c_A_segments (l : Launch) (D : va_G) (h0 hm hu hxs hys hg1 hl1 hg2 hl2 : Nat) (cZ cI : ClassId) (u : Nat → Bool) (X Y : Nat → Int32) (L1 L2 : Nat → Nat)    : PM l y_A_segments b_A_segments 3 (some .int) 1 21 D (atlW h0 hm hu hxs hys hg1 hl1 hg2 hl2 cZ cI u X Y L1 L2) [(cZ, .boolean), (cI, .int)] [.ref h0] (nI (f_A_segments u X Y L1 L2)) := by
  refine pMet rfl (fun p e s m below meth c S hr hlk hP hK ls hl => ?_) (Nat.le_of_ble_eq_true rfl)
  have hx := S.1
  have hb := S.2.1
  have hl : lv_has ls 3 [(0, .ref h0)] := hl
  have key : ∀ (n : Nat) (k : Nat) (cnt : Nat) (hk : k + n = 20)  (ls : Array Slot) (hl : lv_has ls 3 [(0, .ref h0), (1, .int (nI (cnt))), (2, .int (nI (k)))]) (hf : f_A_segments u X Y L1 L2 = fl_A_segments u X Y L1 L2 n k cnt), W p l e { frames := 1, cells := 0, slots := 0, locals := 21 } s m [.ref h0].toArray below meth c s.heap [] 0 0 (MQ below (pQ (nI (f_A_segments u X Y L1 L2))) [.ref h0].toArray s 0 0 (fun _ => False)) (F0 m 4 ls []) := by
    intro n
    induction n with
    | zero =>
      intro k cnt hk  ls hl hf
      refine lv_iload_n hx hb d_A_segments_4 rfl (lv_at hl 2 rfl) ?_
      refine lv_bipush (v := 20) hx hb d_A_segments_5 (by decide) ?_
      refine lv_icmp_ge (tgt := 30) hx hb d_A_segments_7 (by decide) (fun c1 => ?_) (fun c1 => ?_)
      · have c1a : 20 ≤ k := (nI_leI (a := 20) (b := k) (by decide) (by omega)).mp c1
        refine lv_iload_n hx hb d_A_segments_30 rfl (lv_at hl 1 rfl) ?_
        exact rret S hr hlk (v := nI (cnt)) (congrArg nI (hf.trans (show fx_A_segments u X Y L1 L2 k cnt = cnt from rfl)).symm) d_A_segments_31
      · have c1a : ¬ (20 ≤ k) := fun h => c1 ((nI_leI (a := 20) (b := k) (by decide) (by omega)).mpr h)
        omega
    | succ n ih =>
      intro k cnt hk  ls hl hf
      refine lv_iload_n hx hb d_A_segments_4 rfl (lv_at hl 2 rfl) ?_
      refine lv_bipush (v := 20) hx hb d_A_segments_5 (by decide) ?_
      refine lv_icmp_ge (tgt := 30) hx hb d_A_segments_7 (by decide) (fun c2 => ?_) (fun c2 => ?_)
      · have c2a : 20 ≤ k := (nI_leI (a := 20) (b := k) (by decide) (by omega)).mp c2
        omega
      · have c2a : ¬ (20 ≤ k) := fun h => c2 ((nI_leI (a := 20) (b := k) (by decide) (by omega)).mpr h)
        refine lv_aload_n hx hb d_A_segments_10 rfl (lv_at hl 0 rfl) ?_
        refine rget S hK hP 0 rfl rfl in_A 0 (by decide) kF_A_12 rfl d_A_segments_11 ?_
        refine lv_iload_n hx hb d_A_segments_14 rfl (lv_at hl 2 rfl) ?_
        refine rcallV (rest := []) (v := b2i (f_M_has u X Y (nI (k)))) S [.int (nI (k))] hK hP [1, 2, 3, 4] rfl [0, 1] rfl (c_M_has l D hm hu hxs hys cZ cI u X Y (nI (k)) ) i_M_has kL_A_51 ⟨Nat.le_of_ble_eq_true rfl, Nat.le_of_ble_eq_true rfl⟩ (by exact ⟨Nat.zero_le _, Nat.zero_le _⟩) (q0 := 0) (ci := 1) rfl rfl rfl hl.1 rfl (Nat.le_of_ble_eq_true rfl) d_A_segments_15 ?_
        refine lv_if_eq (tgt := 24) hx hb d_A_segments_18 (by decide) (fun c3 => ?_) (fun c3 => ?_)
        · have c3a : ¬ (f_M_has u X Y (nI (k)) = true) := b2n (b2i_eq0.mp c3)
          refine lv_iinc (v := nI (k + 1)) (lv' := [(2, .int (nI (k + 1))), (0, .ref h0), (1, .int (nI (cnt)))]) hx hb d_A_segments_24 hl (k := 2) rfl (nI_1 (k)) (by decide) rfl (fun ls hl => ?_)
          refine lv_goto (tgt := 4) hx hb d_A_segments_27 (by decide) ?_
          exact ih (k + 1) cnt (by omega)  ls (lv_sub hl [1, 2, 0] rfl) (hf.trans (show fb_A_segments u X Y L1 L2 (fl_A_segments u X Y L1 L2 n) k cnt = (fl_A_segments u X Y L1 L2 n (k + 1) cnt) from by unfold fb_A_segments; rw [if_neg c3a]))
        · have c3a : f_M_has u X Y (nI (k)) = true := b2i_ne0.mp c3
          refine lv_iinc (v := nI (cnt + 1)) (lv' := [(1, .int (nI (cnt + 1))), (0, .ref h0), (2, .int (nI (k)))]) hx hb d_A_segments_21 hl (k := 1) rfl (nI_1 (cnt)) (by decide) rfl (fun ls hl => ?_)
          refine lv_iinc (v := nI (k + 1)) (lv' := [(2, .int (nI (k + 1))), (1, .int (nI (cnt + 1))), (0, .ref h0)]) hx hb d_A_segments_24 hl (k := 2) rfl (nI_1 (k)) (by decide) rfl (fun ls hl => ?_)
          refine lv_goto (tgt := 4) hx hb d_A_segments_27 (by decide) ?_
          exact ih (k + 1) (cnt + 1) (by omega)  ls (lv_sub hl [2, 1, 0] rfl) (hf.trans (show fb_A_segments u X Y L1 L2 (fl_A_segments u X Y L1 L2 n) k cnt = (fl_A_segments u X Y L1 L2 n (k + 1) (cnt + 1)) from by unfold fb_A_segments; rw [if_pos c3a]))
  refine lv_iconst (v := 0) hx hb d_A_segments_0 (by decide) ?_
  refine lv_istore_n (lv' := [(1, .int 0), (0, .ref h0)]) hx hb d_A_segments_1 rfl hl (by decide) rfl (fun ls hl => ?_)
  refine lv_iconst (v := 0) hx hb d_A_segments_2 (by decide) ?_
  refine lv_istore_n (lv' := [(2, .int 0), (1, .int 0), (0, .ref h0)]) hx hb d_A_segments_3 rfl hl (by decide) rfl (fun ls hl => ?_)
  exact key 20 0 0 (by omega)  ls (lv_sub hl [2, 1, 0] rfl) (show f_A_segments u X Y L1 L2 = (fl_A_segments u X Y L1 L2 20 0 0) from rfl)
def fx_A_vertices (u : Nat → Bool) (X : Nat → Int32) (Y : Nat → Int32) (L1 : Nat → Nat) (L2 : Nat → Nat) (a : Nat) (cnt : Nat) : Nat := cnt
def fb_A_vertices (u : Nat → Bool) (X : Nat → Int32) (Y : Nat → Int32) (L1 : Nat → Nat) (L2 : Nat → Nat) (rec : Nat → Nat → Nat) (a : Nat) (cnt : Nat) : Nat := if f_M_hasArrow u X Y a = true then (if f_M_isFirstOfItsVertex u X Y a = true then (rec (a + 1) (cnt + 1)) else (rec (a + 1) cnt)) else (rec (a + 1) cnt)
def fl_A_vertices (u : Nat → Bool) (X : Nat → Int32) (Y : Nat → Int32) (L1 : Nat → Nat) (L2 : Nat → Nat) : Nat → Nat → Nat → Nat
  | 0, a, cnt => fx_A_vertices u X Y L1 L2 a cnt
  | n + 1, a, cnt => fb_A_vertices u X Y L1 L2 (fl_A_vertices u X Y L1 L2 n) a cnt
def f_A_vertices (u : Nat → Bool) (X : Nat → Int32) (Y : Nat → Int32) (L1 : Nat → Nat) (L2 : Nat → Nat) : Nat := fl_A_vertices u X Y L1 L2 40 0 0
theorem i_A_vertices : inV y_A_vertices b_A_vertices 3 (some .int) 0 := ⟨kM_y_A_vertices, kV_y_A_vertices, kI_A, kY_y_A_vertices, by decide +kernel⟩
set_option maxHeartbeats 4000000 in
set_option maxRecDepth 100000 in
theorem c_A_vertices (l : Launch) (D : va_G) (h0 hm hu hxs hys hg1 hl1 hg2 hl2 : Nat) (cZ cI : ClassId) (u : Nat → Bool) (X Y : Nat → Int32) (L1 L2 : Nat → Nat)    : PM l y_A_vertices b_A_vertices 3 (some .int) 2 44 D (atlW h0 hm hu hxs hys hg1 hl1 hg2 hl2 cZ cI u X Y L1 L2) [(cZ, .boolean), (cI, .int)] [.ref h0] (nI (f_A_vertices u X Y L1 L2)) := by
  refine pMet rfl (fun p e s m below meth c S hr hlk hP hK ls hl => ?_) (Nat.le_of_ble_eq_true rfl)
  have hx := S.1
  have hb := S.2.1
  have hl : lv_has ls 3 [(0, .ref h0)] := hl
  have key : ∀ (n : Nat) (a : Nat) (cnt : Nat) (hk : a + n = 40)  (ls : Array Slot) (hl : lv_has ls 3 [(0, .ref h0), (1, .int (nI (cnt))), (2, .int (nI (a)))]) (hf : f_A_vertices u X Y L1 L2 = fl_A_vertices u X Y L1 L2 n a cnt), W p l e { frames := 2, cells := 0, slots := 0, locals := 44 } s m [.ref h0].toArray below meth c s.heap [] 0 0 (MQ below (pQ (nI (f_A_vertices u X Y L1 L2))) [.ref h0].toArray s 0 0 (fun _ => False)) (F0 m 4 ls []) := by
    intro n
    induction n with
    | zero =>
      intro a cnt hk  ls hl hf
      refine lv_iload_n hx hb d_A_vertices_4 rfl (lv_at hl 2 rfl) ?_
      refine lv_bipush (v := 40) hx hb d_A_vertices_5 (by decide) ?_
      refine lv_icmp_ge (tgt := 41) hx hb d_A_vertices_7 (by decide) (fun c1 => ?_) (fun c1 => ?_)
      · have c1a : 40 ≤ a := (nI_leI (a := 40) (b := a) (by decide) (by omega)).mp c1
        refine lv_iload_n hx hb d_A_vertices_41 rfl (lv_at hl 1 rfl) ?_
        exact rret S hr hlk (v := nI (cnt)) (congrArg nI (hf.trans (show fx_A_vertices u X Y L1 L2 a cnt = cnt from rfl)).symm) d_A_vertices_42
      · have c1a : ¬ (40 ≤ a) := fun h => c1 ((nI_leI (a := 40) (b := a) (by decide) (by omega)).mpr h)
        omega
    | succ n ih =>
      intro a cnt hk  ls hl hf
      refine lv_iload_n hx hb d_A_vertices_4 rfl (lv_at hl 2 rfl) ?_
      refine lv_bipush (v := 40) hx hb d_A_vertices_5 (by decide) ?_
      refine lv_icmp_ge (tgt := 41) hx hb d_A_vertices_7 (by decide) (fun c2 => ?_) (fun c2 => ?_)
      · have c2a : 40 ≤ a := (nI_leI (a := 40) (b := a) (by decide) (by omega)).mp c2
        omega
      · have c2a : ¬ (40 ≤ a) := fun h => c2 ((nI_leI (a := 40) (b := a) (by decide) (by omega)).mpr h)
        refine lv_aload_n hx hb d_A_vertices_10 rfl (lv_at hl 0 rfl) ?_
        refine rget S hK hP 0 rfl rfl in_A 0 (by decide) kF_A_12 rfl d_A_vertices_11 ?_
        refine lv_iload_n hx hb d_A_vertices_14 rfl (lv_at hl 2 rfl) ?_
        refine rcallV (rest := []) (v := b2i (f_M_hasArrow u X Y a)) S [.int (nI (a))] hK hP [1, 2, 3, 4] rfl [0, 1] rfl (c_M_hasArrow l D hm hu hxs hys cZ cI u X Y a (by omega)) i_M_hasArrow kL_A_55 ⟨Nat.le_of_ble_eq_true rfl, Nat.le_of_ble_eq_true rfl⟩ (by exact ⟨Nat.zero_le _, Nat.zero_le _⟩) (q0 := 0) (ci := 1) rfl rfl rfl hl.1 rfl (Nat.le_of_ble_eq_true rfl) d_A_vertices_15 ?_
        refine lv_if_eq (tgt := 35) hx hb d_A_vertices_18 (by decide) (fun c3 => ?_) (fun c3 => ?_)
        · have c3a : ¬ (f_M_hasArrow u X Y a = true) := b2n (b2i_eq0.mp c3)
          refine lv_iinc (v := nI (a + 1)) (lv' := [(2, .int (nI (a + 1))), (0, .ref h0), (1, .int (nI (cnt)))]) hx hb d_A_vertices_35 hl (k := 2) rfl (nI_1 (a)) (by decide) rfl (fun ls hl => ?_)
          refine lv_goto (tgt := 4) hx hb d_A_vertices_38 (by decide) ?_
          exact ih (a + 1) cnt (by omega)  ls (lv_sub hl [1, 2, 0] rfl) (hf.trans (show fb_A_vertices u X Y L1 L2 (fl_A_vertices u X Y L1 L2 n) a cnt = (fl_A_vertices u X Y L1 L2 n (a + 1) cnt) from by unfold fb_A_vertices; rw [if_neg c3a]))
        · have c3a : f_M_hasArrow u X Y a = true := b2i_ne0.mp c3
          refine lv_aload_n hx hb d_A_vertices_21 rfl (lv_at hl 0 rfl) ?_
          refine rget S hK hP 0 rfl rfl in_A 0 (by decide) kF_A_12 rfl d_A_vertices_22 ?_
          refine lv_iload_n hx hb d_A_vertices_25 rfl (lv_at hl 2 rfl) ?_
          refine rcallV (rest := []) (v := b2i (f_M_isFirstOfItsVertex u X Y a)) S [.int (nI (a))] hK hP [1, 2, 3, 4] rfl [0, 1] rfl (c_M_isFirstOfItsVertex l D hm hu hxs hys cZ cI u X Y a (by omega)) i_M_isFirstOfItsVertex kL_A_58 ⟨Nat.le_of_ble_eq_true rfl, Nat.le_of_ble_eq_true rfl⟩ (by exact ⟨Nat.zero_le _, Nat.zero_le _⟩) (q0 := 0) (ci := 1) rfl rfl rfl hl.1 rfl (Nat.le_of_ble_eq_true rfl) d_A_vertices_26 ?_
          refine lv_if_eq (tgt := 35) hx hb d_A_vertices_29 (by decide) (fun c4 => ?_) (fun c4 => ?_)
          · have c4a : ¬ (f_M_isFirstOfItsVertex u X Y a = true) := b2n (b2i_eq0.mp c4)
            refine lv_iinc (v := nI (a + 1)) (lv' := [(2, .int (nI (a + 1))), (0, .ref h0), (1, .int (nI (cnt)))]) hx hb d_A_vertices_35 hl (k := 2) rfl (nI_1 (a)) (by decide) rfl (fun ls hl => ?_)
            refine lv_goto (tgt := 4) hx hb d_A_vertices_38 (by decide) ?_
            exact ih (a + 1) cnt (by omega)  ls (lv_sub hl [1, 2, 0] rfl) (hf.trans (show fb_A_vertices u X Y L1 L2 (fl_A_vertices u X Y L1 L2 n) a cnt = (fl_A_vertices u X Y L1 L2 n (a + 1) cnt) from by unfold fb_A_vertices; rw [if_pos c3a, if_neg c4a]))
          · have c4a : f_M_isFirstOfItsVertex u X Y a = true := b2i_ne0.mp c4
            refine lv_iinc (v := nI (cnt + 1)) (lv' := [(1, .int (nI (cnt + 1))), (0, .ref h0), (2, .int (nI (a)))]) hx hb d_A_vertices_32 hl (k := 1) rfl (nI_1 (cnt)) (by decide) rfl (fun ls hl => ?_)
            refine lv_iinc (v := nI (a + 1)) (lv' := [(2, .int (nI (a + 1))), (1, .int (nI (cnt + 1))), (0, .ref h0)]) hx hb d_A_vertices_35 hl (k := 2) rfl (nI_1 (a)) (by decide) rfl (fun ls hl => ?_)
            refine lv_goto (tgt := 4) hx hb d_A_vertices_38 (by decide) ?_
            exact ih (a + 1) (cnt + 1) (by omega)  ls (lv_sub hl [2, 1, 0] rfl) (hf.trans (show fb_A_vertices u X Y L1 L2 (fl_A_vertices u X Y L1 L2 n) a cnt = (fl_A_vertices u X Y L1 L2 n (a + 1) (cnt + 1)) from by unfold fb_A_vertices; rw [if_pos c3a, if_pos c4a]))
  refine lv_iconst (v := 0) hx hb d_A_vertices_0 (by decide) ?_
  refine lv_istore_n (lv' := [(1, .int 0), (0, .ref h0)]) hx hb d_A_vertices_1 rfl hl (by decide) rfl (fun ls hl => ?_)
  refine lv_iconst (v := 0) hx hb d_A_vertices_2 (by decide) ?_
  refine lv_istore_n (lv' := [(2, .int 0), (1, .int 0), (0, .ref h0)]) hx hb d_A_vertices_3 rfl hl (by decide) rfl (fun ls hl => ?_)
  exact key 40 0 0 (by omega)  ls (lv_sub hl [2, 1, 0] rfl) (show f_A_vertices u X Y L1 L2 = (fl_A_vertices u X Y L1 L2 40 0 0) from rfl)
def fx_A_parts (u : Nat → Bool) (X : Nat → Int32) (Y : Nat → Int32) (L1 : Nat → Nat) (L2 : Nat → Nat) (k : Nat) (cnt : Nat) : Nat := cnt
def fb_A_parts (u : Nat → Bool) (X : Nat → Int32) (Y : Nat → Int32) (L1 : Nat → Nat) (L2 : Nat → Nat) (rec : Nat → Nat → Nat) (k : Nat) (cnt : Nat) : Nat := if f_M_has u X Y (nI (k)) = true then (if f_G_isLeader 20 L2 k = true then (rec (k + 1) (cnt + 1)) else (rec (k + 1) cnt)) else (rec (k + 1) cnt)
def fl_A_parts (u : Nat → Bool) (X : Nat → Int32) (Y : Nat → Int32) (L1 : Nat → Nat) (L2 : Nat → Nat) : Nat → Nat → Nat → Nat
  | 0, k, cnt => fx_A_parts u X Y L1 L2 k cnt
  | n + 1, k, cnt => fb_A_parts u X Y L1 L2 (fl_A_parts u X Y L1 L2 n) k cnt
def f_A_parts (u : Nat → Bool) (X : Nat → Int32) (Y : Nat → Int32) (L1 : Nat → Nat) (L2 : Nat → Nat) : Nat := fl_A_parts u X Y L1 L2 20 0 0
theorem i_A_parts : inV y_A_parts b_A_parts 3 (some .int) 0 := ⟨kM_y_A_parts, kV_y_A_parts, kI_A, kY_y_A_parts, by decide +kernel⟩
set_option maxHeartbeats 4000000 in
set_option maxRecDepth 100000 in
theorem c_A_parts (l : Launch) (D : va_G) (h0 hm hu hxs hys hg1 hl1 hg2 hl2 : Nat) (cZ cI : ClassId) (u : Nat → Bool) (X Y : Nat → Int32) (L1 L2 : Nat → Nat)    : PM l y_A_parts b_A_parts 3 (some .int) 1 21 D (atlW h0 hm hu hxs hys hg1 hl1 hg2 hl2 cZ cI u X Y L1 L2) [(cZ, .boolean), (cI, .int)] [.ref h0] (nI (f_A_parts u X Y L1 L2)) := by
  refine pMet rfl (fun p e s m below meth c S hr hlk hP hK ls hl => ?_) (Nat.le_of_ble_eq_true rfl)
  have hx := S.1
  have hb := S.2.1
  have hl : lv_has ls 3 [(0, .ref h0)] := hl
  have key : ∀ (n : Nat) (k : Nat) (cnt : Nat) (hk : k + n = 20)  (ls : Array Slot) (hl : lv_has ls 3 [(0, .ref h0), (1, .int (nI (cnt))), (2, .int (nI (k)))]) (hf : f_A_parts u X Y L1 L2 = fl_A_parts u X Y L1 L2 n k cnt), W p l e { frames := 1, cells := 0, slots := 0, locals := 21 } s m [.ref h0].toArray below meth c s.heap [] 0 0 (MQ below (pQ (nI (f_A_parts u X Y L1 L2))) [.ref h0].toArray s 0 0 (fun _ => False)) (F0 m 4 ls []) := by
    intro n
    induction n with
    | zero =>
      intro k cnt hk  ls hl hf
      refine lv_iload_n hx hb d_A_parts_4 rfl (lv_at hl 2 rfl) ?_
      refine lv_bipush (v := 20) hx hb d_A_parts_5 (by decide) ?_
      refine lv_icmp_ge (tgt := 41) hx hb d_A_parts_7 (by decide) (fun c1 => ?_) (fun c1 => ?_)
      · have c1a : 20 ≤ k := (nI_leI (a := 20) (b := k) (by decide) (by omega)).mp c1
        refine lv_iload_n hx hb d_A_parts_41 rfl (lv_at hl 1 rfl) ?_
        exact rret S hr hlk (v := nI (cnt)) (congrArg nI (hf.trans (show fx_A_parts u X Y L1 L2 k cnt = cnt from rfl)).symm) d_A_parts_42
      · have c1a : ¬ (20 ≤ k) := fun h => c1 ((nI_leI (a := 20) (b := k) (by decide) (by omega)).mpr h)
        omega
    | succ n ih =>
      intro k cnt hk  ls hl hf
      refine lv_iload_n hx hb d_A_parts_4 rfl (lv_at hl 2 rfl) ?_
      refine lv_bipush (v := 20) hx hb d_A_parts_5 (by decide) ?_
      refine lv_icmp_ge (tgt := 41) hx hb d_A_parts_7 (by decide) (fun c2 => ?_) (fun c2 => ?_)
      · have c2a : 20 ≤ k := (nI_leI (a := 20) (b := k) (by decide) (by omega)).mp c2
        omega
      · have c2a : ¬ (20 ≤ k) := fun h => c2 ((nI_leI (a := 20) (b := k) (by decide) (by omega)).mpr h)
        refine lv_aload_n hx hb d_A_parts_10 rfl (lv_at hl 0 rfl) ?_
        refine rget S hK hP 0 rfl rfl in_A 0 (by decide) kF_A_12 rfl d_A_parts_11 ?_
        refine lv_iload_n hx hb d_A_parts_14 rfl (lv_at hl 2 rfl) ?_
        refine rcallV (rest := []) (v := b2i (f_M_has u X Y (nI (k)))) S [.int (nI (k))] hK hP [1, 2, 3, 4] rfl [0, 1] rfl (c_M_has l D hm hu hxs hys cZ cI u X Y (nI (k)) ) i_M_has kL_A_51 ⟨Nat.le_of_ble_eq_true rfl, Nat.le_of_ble_eq_true rfl⟩ (by exact ⟨Nat.zero_le _, Nat.zero_le _⟩) (q0 := 0) (ci := 1) rfl rfl rfl hl.1 rfl (Nat.le_of_ble_eq_true rfl) d_A_parts_15 ?_
        refine lv_if_eq (tgt := 35) hx hb d_A_parts_18 (by decide) (fun c3 => ?_) (fun c3 => ?_)
        · have c3a : ¬ (f_M_has u X Y (nI (k)) = true) := b2n (b2i_eq0.mp c3)
          refine lv_iinc (v := nI (k + 1)) (lv' := [(2, .int (nI (k + 1))), (0, .ref h0), (1, .int (nI (cnt)))]) hx hb d_A_parts_35 hl (k := 2) rfl (nI_1 (k)) (by decide) rfl (fun ls hl => ?_)
          refine lv_goto (tgt := 4) hx hb d_A_parts_38 (by decide) ?_
          exact ih (k + 1) cnt (by omega)  ls (lv_sub hl [1, 2, 0] rfl) (hf.trans (show fb_A_parts u X Y L1 L2 (fl_A_parts u X Y L1 L2 n) k cnt = (fl_A_parts u X Y L1 L2 n (k + 1) cnt) from by unfold fb_A_parts; rw [if_neg c3a]))
        · have c3a : f_M_has u X Y (nI (k)) = true := b2i_ne0.mp c3
          refine lv_aload_n hx hb d_A_parts_21 rfl (lv_at hl 0 rfl) ?_
          refine rget S hK hP 0 rfl rfl in_A 2 (by decide) kF_A_25 rfl d_A_parts_22 ?_
          refine lv_iload_n hx hb d_A_parts_25 rfl (lv_at hl 2 rfl) ?_
          refine rcallV (rest := []) (v := b2i (f_G_isLeader 20 L2 k)) S [.int (nI (k))] hK hP [7, 8] rfl [1] rfl (c_G_isLeader l D hg2 hl2 cI 20 L2 k (by omega) (by first | decide | omega)) i_G_isLeader kL_A_61 ⟨Nat.le_of_ble_eq_true rfl, Nat.le_of_ble_eq_true rfl⟩ (by exact ⟨Nat.zero_le _, Nat.zero_le _⟩) (q0 := 0) (ci := 0) rfl rfl rfl hl.1 rfl (Nat.le_of_ble_eq_true rfl) d_A_parts_26 ?_
          refine lv_if_eq (tgt := 35) hx hb d_A_parts_29 (by decide) (fun c4 => ?_) (fun c4 => ?_)
          · have c4a : ¬ (f_G_isLeader 20 L2 k = true) := b2n (b2i_eq0.mp c4)
            refine lv_iinc (v := nI (k + 1)) (lv' := [(2, .int (nI (k + 1))), (0, .ref h0), (1, .int (nI (cnt)))]) hx hb d_A_parts_35 hl (k := 2) rfl (nI_1 (k)) (by decide) rfl (fun ls hl => ?_)
            refine lv_goto (tgt := 4) hx hb d_A_parts_38 (by decide) ?_
            exact ih (k + 1) cnt (by omega)  ls (lv_sub hl [1, 2, 0] rfl) (hf.trans (show fb_A_parts u X Y L1 L2 (fl_A_parts u X Y L1 L2 n) k cnt = (fl_A_parts u X Y L1 L2 n (k + 1) cnt) from by unfold fb_A_parts; rw [if_pos c3a, if_neg c4a]))
          · have c4a : f_G_isLeader 20 L2 k = true := b2i_ne0.mp c4
            refine lv_iinc (v := nI (cnt + 1)) (lv' := [(1, .int (nI (cnt + 1))), (0, .ref h0), (2, .int (nI (k)))]) hx hb d_A_parts_32 hl (k := 1) rfl (nI_1 (cnt)) (by decide) rfl (fun ls hl => ?_)
            refine lv_iinc (v := nI (k + 1)) (lv' := [(2, .int (nI (k + 1))), (1, .int (nI (cnt + 1))), (0, .ref h0)]) hx hb d_A_parts_35 hl (k := 2) rfl (nI_1 (k)) (by decide) rfl (fun ls hl => ?_)
            refine lv_goto (tgt := 4) hx hb d_A_parts_38 (by decide) ?_
            exact ih (k + 1) (cnt + 1) (by omega)  ls (lv_sub hl [2, 1, 0] rfl) (hf.trans (show fb_A_parts u X Y L1 L2 (fl_A_parts u X Y L1 L2 n) k cnt = (fl_A_parts u X Y L1 L2 n (k + 1) (cnt + 1)) from by unfold fb_A_parts; rw [if_pos c3a, if_pos c4a]))
  refine lv_iconst (v := 0) hx hb d_A_parts_0 (by decide) ?_
  refine lv_istore_n (lv' := [(1, .int 0), (0, .ref h0)]) hx hb d_A_parts_1 rfl hl (by decide) rfl (fun ls hl => ?_)
  refine lv_iconst (v := 0) hx hb d_A_parts_2 (by decide) ?_
  refine lv_istore_n (lv' := [(2, .int 0), (1, .int 0), (0, .ref h0)]) hx hb d_A_parts_3 rfl hl (by decide) rfl (fun ls hl => ?_)
  exact key 20 0 0 (by omega)  ls (lv_sub hl [2, 1, 0] rfl) (show f_A_parts u X Y L1 L2 = (fl_A_parts u X Y L1 L2 20 0 0) from rfl)
def fx_A_faces (u : Nat → Bool) (X : Nat → Int32) (Y : Nat → Int32) (L1 : Nat → Nat) (L2 : Nat → Nat) (a : Nat) (cnt : Nat) : Nat := cnt
def fb_A_faces (u : Nat → Bool) (X : Nat → Int32) (Y : Nat → Int32) (L1 : Nat → Nat) (L2 : Nat → Nat) (rec : Nat → Nat → Nat) (a : Nat) (cnt : Nat) : Nat := if f_M_hasArrow u X Y a = true then (if f_G_isLeader 41 L1 a = true then (rec (a + 1) (cnt + 1)) else (rec (a + 1) cnt)) else (rec (a + 1) cnt)
def fl_A_faces (u : Nat → Bool) (X : Nat → Int32) (Y : Nat → Int32) (L1 : Nat → Nat) (L2 : Nat → Nat) : Nat → Nat → Nat → Nat
  | 0, a, cnt => fx_A_faces u X Y L1 L2 a cnt
  | n + 1, a, cnt => fb_A_faces u X Y L1 L2 (fl_A_faces u X Y L1 L2 n) a cnt
def f_A_faces (u : Nat → Bool) (X : Nat → Int32) (Y : Nat → Int32) (L1 : Nat → Nat) (L2 : Nat → Nat) : Nat := if f_G_isLeader 41 L1 40 = true then (fl_A_faces u X Y L1 L2 40 0 1) else (fl_A_faces u X Y L1 L2 40 0 0)
theorem i_A_faces : inV y_A_faces b_A_faces 3 (some .int) 0 := ⟨kM_y_A_faces, kV_y_A_faces, kI_A, kY_y_A_faces, by decide +kernel⟩
set_option maxHeartbeats 4000000 in
set_option maxRecDepth 100000 in
theorem c_A_faces (l : Launch) (D : va_G) (h0 hm hu hxs hys hg1 hl1 hg2 hl2 : Nat) (cZ cI : ClassId) (u : Nat → Bool) (X Y : Nat → Int32) (L1 L2 : Nat → Nat)    : PM l y_A_faces b_A_faces 3 (some .int) 1 21 D (atlW h0 hm hu hxs hys hg1 hl1 hg2 hl2 cZ cI u X Y L1 L2) [(cZ, .boolean), (cI, .int)] [.ref h0] (nI (f_A_faces u X Y L1 L2)) := by
  refine pMet rfl (fun p e s m below meth c S hr hlk hP hK ls hl => ?_) (Nat.le_of_ble_eq_true rfl)
  have hx := S.1
  have hb := S.2.1
  have hl : lv_has ls 3 [(0, .ref h0)] := hl
  have key : ∀ (n : Nat) (a : Nat) (cnt : Nat) (hk : a + n = 40)  (ls : Array Slot) (hl : lv_has ls 3 [(0, .ref h0), (1, .int (nI (cnt))), (2, .int (nI (a)))]) (hf : f_A_faces u X Y L1 L2 = fl_A_faces u X Y L1 L2 n a cnt), W p l e { frames := 1, cells := 0, slots := 0, locals := 21 } s m [.ref h0].toArray below meth c s.heap [] 0 0 (MQ below (pQ (nI (f_A_faces u X Y L1 L2))) [.ref h0].toArray s 0 0 (fun _ => False)) (F0 m 20 ls []) := by
    intro n
    induction n with
    | zero =>
      intro a cnt hk  ls hl hf
      refine lv_iload_n hx hb d_A_faces_20 rfl (lv_at hl 2 rfl) ?_
      refine lv_bipush (v := 40) hx hb d_A_faces_21 (by decide) ?_
      refine lv_icmp_ge (tgt := 57) hx hb d_A_faces_23 (by decide) (fun c1 => ?_) (fun c1 => ?_)
      · have c1a : 40 ≤ a := (nI_leI (a := 40) (b := a) (by decide) (by omega)).mp c1
        refine lv_iload_n hx hb d_A_faces_57 rfl (lv_at hl 1 rfl) ?_
        exact rret S hr hlk (v := nI (cnt)) (congrArg nI (hf.trans (show fx_A_faces u X Y L1 L2 a cnt = cnt from rfl)).symm) d_A_faces_58
      · have c1a : ¬ (40 ≤ a) := fun h => c1 ((nI_leI (a := 40) (b := a) (by decide) (by omega)).mpr h)
        omega
    | succ n ih =>
      intro a cnt hk  ls hl hf
      refine lv_iload_n hx hb d_A_faces_20 rfl (lv_at hl 2 rfl) ?_
      refine lv_bipush (v := 40) hx hb d_A_faces_21 (by decide) ?_
      refine lv_icmp_ge (tgt := 57) hx hb d_A_faces_23 (by decide) (fun c2 => ?_) (fun c2 => ?_)
      · have c2a : 40 ≤ a := (nI_leI (a := 40) (b := a) (by decide) (by omega)).mp c2
        omega
      · have c2a : ¬ (40 ≤ a) := fun h => c2 ((nI_leI (a := 40) (b := a) (by decide) (by omega)).mpr h)
        refine lv_aload_n hx hb d_A_faces_26 rfl (lv_at hl 0 rfl) ?_
        refine rget S hK hP 0 rfl rfl in_A 0 (by decide) kF_A_12 rfl d_A_faces_27 ?_
        refine lv_iload_n hx hb d_A_faces_30 rfl (lv_at hl 2 rfl) ?_
        refine rcallV (rest := []) (v := b2i (f_M_hasArrow u X Y a)) S [.int (nI (a))] hK hP [1, 2, 3, 4] rfl [0, 1] rfl (c_M_hasArrow l D hm hu hxs hys cZ cI u X Y a (by omega)) i_M_hasArrow kL_A_55 ⟨Nat.le_of_ble_eq_true rfl, Nat.le_of_ble_eq_true rfl⟩ (by exact ⟨Nat.zero_le _, Nat.zero_le _⟩) (q0 := 0) (ci := 1) rfl rfl rfl hl.1 rfl (Nat.le_of_ble_eq_true rfl) d_A_faces_31 ?_
        refine lv_if_eq (tgt := 51) hx hb d_A_faces_34 (by decide) (fun c3 => ?_) (fun c3 => ?_)
        · have c3a : ¬ (f_M_hasArrow u X Y a = true) := b2n (b2i_eq0.mp c3)
          refine lv_iinc (v := nI (a + 1)) (lv' := [(2, .int (nI (a + 1))), (0, .ref h0), (1, .int (nI (cnt)))]) hx hb d_A_faces_51 hl (k := 2) rfl (nI_1 (a)) (by decide) rfl (fun ls hl => ?_)
          refine lv_goto (tgt := 20) hx hb d_A_faces_54 (by decide) ?_
          exact ih (a + 1) cnt (by omega)  ls (lv_sub hl [1, 2, 0] rfl) (hf.trans (show fb_A_faces u X Y L1 L2 (fl_A_faces u X Y L1 L2 n) a cnt = (fl_A_faces u X Y L1 L2 n (a + 1) cnt) from by unfold fb_A_faces; rw [if_neg c3a]))
        · have c3a : f_M_hasArrow u X Y a = true := b2i_ne0.mp c3
          refine lv_aload_n hx hb d_A_faces_37 rfl (lv_at hl 0 rfl) ?_
          refine rget S hK hP 0 rfl rfl in_A 1 (by decide) kF_A_21 rfl d_A_faces_38 ?_
          refine lv_iload_n hx hb d_A_faces_41 rfl (lv_at hl 2 rfl) ?_
          refine rcallV (rest := []) (v := b2i (f_G_isLeader 41 L1 a)) S [.int (nI (a))] hK hP [5, 6] rfl [1] rfl (c_G_isLeader l D hg1 hl1 cI 41 L1 a (by omega) (by first | decide | omega)) i_G_isLeader kL_A_61 ⟨Nat.le_of_ble_eq_true rfl, Nat.le_of_ble_eq_true rfl⟩ (by exact ⟨Nat.zero_le _, Nat.zero_le _⟩) (q0 := 0) (ci := 0) rfl rfl rfl hl.1 rfl (Nat.le_of_ble_eq_true rfl) d_A_faces_42 ?_
          refine lv_if_eq (tgt := 51) hx hb d_A_faces_45 (by decide) (fun c4 => ?_) (fun c4 => ?_)
          · have c4a : ¬ (f_G_isLeader 41 L1 a = true) := b2n (b2i_eq0.mp c4)
            refine lv_iinc (v := nI (a + 1)) (lv' := [(2, .int (nI (a + 1))), (0, .ref h0), (1, .int (nI (cnt)))]) hx hb d_A_faces_51 hl (k := 2) rfl (nI_1 (a)) (by decide) rfl (fun ls hl => ?_)
            refine lv_goto (tgt := 20) hx hb d_A_faces_54 (by decide) ?_
            exact ih (a + 1) cnt (by omega)  ls (lv_sub hl [1, 2, 0] rfl) (hf.trans (show fb_A_faces u X Y L1 L2 (fl_A_faces u X Y L1 L2 n) a cnt = (fl_A_faces u X Y L1 L2 n (a + 1) cnt) from by unfold fb_A_faces; rw [if_pos c3a, if_neg c4a]))
          · have c4a : f_G_isLeader 41 L1 a = true := b2i_ne0.mp c4
            refine lv_iinc (v := nI (cnt + 1)) (lv' := [(1, .int (nI (cnt + 1))), (0, .ref h0), (2, .int (nI (a)))]) hx hb d_A_faces_48 hl (k := 1) rfl (nI_1 (cnt)) (by decide) rfl (fun ls hl => ?_)
            refine lv_iinc (v := nI (a + 1)) (lv' := [(2, .int (nI (a + 1))), (1, .int (nI (cnt + 1))), (0, .ref h0)]) hx hb d_A_faces_51 hl (k := 2) rfl (nI_1 (a)) (by decide) rfl (fun ls hl => ?_)
            refine lv_goto (tgt := 20) hx hb d_A_faces_54 (by decide) ?_
            exact ih (a + 1) (cnt + 1) (by omega)  ls (lv_sub hl [2, 1, 0] rfl) (hf.trans (show fb_A_faces u X Y L1 L2 (fl_A_faces u X Y L1 L2 n) a cnt = (fl_A_faces u X Y L1 L2 n (a + 1) (cnt + 1)) from by unfold fb_A_faces; rw [if_pos c3a, if_pos c4a]))
  refine lv_aload_n hx hb d_A_faces_0 rfl (lv_at hl 0 rfl) ?_
  refine rget S hK hP 0 rfl rfl in_A 1 (by decide) kF_A_21 rfl d_A_faces_1 ?_
  refine lv_bipush (v := 40) hx hb d_A_faces_4 (by decide) ?_
  refine rcallV (rest := []) (v := b2i (f_G_isLeader 41 L1 40)) S [.int 40] hK hP [5, 6] rfl [1] rfl (c_G_isLeader l D hg1 hl1 cI 41 L1 40 (by omega) (by first | decide | omega)) i_G_isLeader kL_A_61 ⟨Nat.le_of_ble_eq_true rfl, Nat.le_of_ble_eq_true rfl⟩ (by exact ⟨Nat.zero_le _, Nat.zero_le _⟩) (q0 := 0) (ci := 0) rfl rfl rfl hl.1 rfl (Nat.le_of_ble_eq_true rfl) d_A_faces_6 ?_
  refine lv_if_eq (tgt := 16) hx hb d_A_faces_9 (by decide) (fun c5 => ?_) (fun c5 => ?_)
  · have c5a : ¬ (f_G_isLeader 41 L1 40 = true) := b2n (b2i_eq0.mp c5)
    refine lv_iconst (v := 0) hx hb d_A_faces_16 (by decide) ?_
    refine lv_istore_n (lv' := [(1, .int 0), (0, .ref h0)]) hx hb d_A_faces_17 rfl hl (by decide) rfl (fun ls hl => ?_)
    refine lv_iconst (v := 0) hx hb d_A_faces_18 (by decide) ?_
    refine lv_istore_n (lv' := [(2, .int 0), (1, .int 0), (0, .ref h0)]) hx hb d_A_faces_19 rfl hl (by decide) rfl (fun ls hl => ?_)
    exact key 40 0 0 (by omega)  ls (lv_sub hl [2, 1, 0] rfl) (show f_A_faces u X Y L1 L2 = (fl_A_faces u X Y L1 L2 40 0 0) from by unfold f_A_faces; rw [if_neg c5a])
  · have c5a : f_G_isLeader 41 L1 40 = true := b2i_ne0.mp c5
    refine lv_iconst (v := 1) hx hb d_A_faces_12 (by decide) ?_
    refine lv_goto (tgt := 17) hx hb d_A_faces_13 (by decide) ?_
    refine lv_istore_n (lv' := [(1, .int 1), (0, .ref h0)]) hx hb d_A_faces_17 rfl hl (by decide) rfl (fun ls hl => ?_)
    refine lv_iconst (v := 0) hx hb d_A_faces_18 (by decide) ?_
    refine lv_istore_n (lv' := [(2, .int 0), (1, .int 1), (0, .ref h0)]) hx hb d_A_faces_19 rfl hl (by decide) rfl (fun ls hl => ?_)
    exact key 40 0 1 (by omega)  ls (lv_sub hl [2, 1, 0] rfl) (show f_A_faces u X Y L1 L2 = (fl_A_faces u X Y L1 L2 40 0 1) from by unfold f_A_faces; rw [if_pos c5a])
def f_A_find (u : Nat → Bool) (X : Nat → Int32) (Y : Nat → Int32) (L1 : Nat → Nat) (L2 : Nat → Nat) (x : Int32) (y : Int32) : Int32 := if f_A_isNearby x y = true then (if (f_M_endsAt u X Y x y) ≤ 0 then (if (f_M_segmentAround u X Y x y) = (-1) then (f_M_struckAbove u X Y x y) else (100 + (f_M_segmentAround u X Y x y))) else (nI (200 + (f_M_endsAt u X Y x y)))) else (-2)
theorem i_A_find : inV y_A_find b_A_find 5 (some .int) 2 := ⟨kM_y_A_find, kV_y_A_find, kI_A, kY_y_A_find, by decide +kernel⟩
set_option maxHeartbeats 4000000 in
set_option maxRecDepth 100000 in
theorem c_A_find (l : Launch) (D : va_G) (h0 hm hu hxs hys hg1 hl1 hg2 hl2 : Nat) (cZ cI : ClassId) (u : Nat → Bool) (X Y : Nat → Int32) (L1 L2 : Nat → Nat) (x : Int32) (y : Int32)   : PM l y_A_find b_A_find 5 (some .int) 4 95 D (atlW h0 hm hu hxs hys hg1 hl1 hg2 hl2 cZ cI u X Y L1 L2) [(cZ, .boolean), (cI, .int)] [.ref h0, .int x, .int y] (f_A_find u X Y L1 L2 x y) := by
  refine pMet rfl (fun p e s m below meth c S hr hlk hP hK ls hl => ?_) (Nat.le_of_ble_eq_true rfl)
  have hx := S.1
  have hb := S.2.1
  have hl : lv_has ls 5 [(0, .ref h0), (1, .int x), (2, .int y)] := hl
  refine lv_iload_n hx hb d_A_find_0 rfl (lv_at hl 1 rfl) ?_
  refine lv_iload_n hx hb d_A_find_1 rfl (lv_at hl 2 rfl) ?_
  refine rcallS (rest := []) (v := b2i (f_A_isNearby x y)) S [.int x, .int y] hK hP [] rfl [] rfl (c_A_isNearby l D  x y ) i_A_isNearby rfl kL_A_28 ⟨Nat.le_of_ble_eq_true rfl, Nat.le_of_ble_eq_true rfl⟩ (by exact ⟨Nat.zero_le _, Nat.zero_le _⟩) hl.1 rfl (Nat.le_of_ble_eq_true rfl) d_A_find_2 ?_
  refine lv_if_ne (tgt := 11) hx hb d_A_find_5 (by decide) (fun c1 => ?_) (fun c1 => ?_)
  · have c1a : f_A_isNearby x y = true := b2i_ne0.mp c1
    refine lv_aload_n hx hb d_A_find_11 rfl (lv_at hl 0 rfl) ?_
    refine rget S hK hP 0 rfl rfl in_A 0 (by decide) kF_A_12 rfl d_A_find_12 ?_
    refine lv_iload_n hx hb d_A_find_15 rfl (lv_at hl 1 rfl) ?_
    refine lv_iload_n hx hb d_A_find_16 rfl (lv_at hl 2 rfl) ?_
    refine rcallV (rest := []) (v := nI (f_M_endsAt u X Y x y)) S [.int x, .int y] hK hP [1, 2, 3, 4] rfl [0, 1] rfl (c_M_endsAt l D hm hu hxs hys cZ cI u X Y x y ) i_M_endsAt kL_A_64 ⟨Nat.le_of_ble_eq_true rfl, Nat.le_of_ble_eq_true rfl⟩ (by exact ⟨Nat.zero_le _, Nat.zero_le _⟩) (q0 := 0) (ci := 1) rfl rfl rfl hl.1 rfl (Nat.le_of_ble_eq_true rfl) d_A_find_17 ?_
    have hea := endsAt_le u X Y x y
    refine lv_istore_n (lv' := [(3, .int (nI (f_M_endsAt u X Y x y))), (0, .ref h0), (1, .int x), (2, .int y)]) hx hb d_A_find_20 rfl hl (by decide) rfl (fun ls hl => ?_)
    refine lv_iload_n hx hb d_A_find_21 rfl (lv_at hl 0 rfl) ?_
    refine lv_if_le (tgt := 31) hx hb d_A_find_22 (by decide) (fun c2 => ?_) (fun c2 => ?_)
    · have c2a : (f_M_endsAt u X Y x y) ≤ 0 := (nI_leI (a := f_M_endsAt u X Y x y) (b := 0) (by omega) (by decide)).mp c2
      refine lv_aload_n hx hb d_A_find_31 rfl (lv_at hl 1 rfl) ?_
      refine rget S hK hP 0 rfl rfl in_A 0 (by decide) kF_A_12 rfl d_A_find_32 ?_
      refine lv_iload_n hx hb d_A_find_35 rfl (lv_at hl 2 rfl) ?_
      refine lv_iload_n hx hb d_A_find_36 rfl (lv_at hl 3 rfl) ?_
      refine rcallV (rest := []) (v := (f_M_segmentAround u X Y x y)) S [.int x, .int y] hK hP [1, 2, 3, 4] rfl [0, 1] rfl (c_M_segmentAround l D hm hu hxs hys cZ cI u X Y x y ) i_M_segmentAround kL_A_68 ⟨Nat.le_of_ble_eq_true rfl, Nat.le_of_ble_eq_true rfl⟩ (by exact ⟨Nat.zero_le _, Nat.zero_le _⟩) (q0 := 0) (ci := 1) rfl rfl rfl hl.1 rfl (Nat.le_of_ble_eq_true rfl) d_A_find_37 ?_
      refine lv_istore (lv' := [(4, .int ((f_M_segmentAround u X Y x y))), (3, .int (nI (f_M_endsAt u X Y x y))), (0, .ref h0), (1, .int x), (2, .int y)]) hx hb d_A_find_40 hl (by decide) rfl (fun ls hl => ?_)
      refine lv_iload hx hb d_A_find_42 (lv_at hl 0 rfl) ?_
      refine lv_iconst (v := (-1)) hx hb d_A_find_44 (by decide) ?_
      refine lv_icmp_eq (tgt := 56) hx hb d_A_find_45 (by decide) (fun c3 => ?_) (fun c3 => ?_)
      · have c3a : (f_M_segmentAround u X Y x y) = (-1) := c3
        refine lv_aload_n hx hb d_A_find_56 rfl (lv_at hl 2 rfl) ?_
        refine rget S hK hP 0 rfl rfl in_A 0 (by decide) kF_A_12 rfl d_A_find_57 ?_
        refine lv_iload_n hx hb d_A_find_60 rfl (lv_at hl 3 rfl) ?_
        refine lv_iload_n hx hb d_A_find_61 rfl (lv_at hl 4 rfl) ?_
        refine rcallV (rest := []) (v := (f_M_struckAbove u X Y x y)) S [.int x, .int y] hK hP [1, 2, 3, 4] rfl [0, 1] rfl (c_M_struckAbove l D hm hu hxs hys cZ cI u X Y x y ) i_M_struckAbove kL_A_71 ⟨Nat.le_of_ble_eq_true rfl, Nat.le_of_ble_eq_true rfl⟩ (by exact ⟨Nat.zero_le _, Nat.zero_le _⟩) (q0 := 0) (ci := 1) rfl rfl rfl hl.1 rfl (Nat.le_of_ble_eq_true rfl) d_A_find_62 ?_
        exact rret S hr hlk (v := (f_M_struckAbove u X Y x y)) (show f_A_find u X Y L1 L2 x y = (f_M_struckAbove u X Y x y) from by unfold f_A_find; rw [if_pos c1a, if_pos c2a, if_pos c3a]).symm d_A_find_65
      · have c3a : ¬ ((f_M_segmentAround u X Y x y) = (-1)) := c3
        refine lv_bipush (v := 100) hx hb d_A_find_48 (by decide) ?_
        refine lv_iload hx hb d_A_find_50 (lv_at hl 0 rfl) ?_
        refine lv_iadd hx hb d_A_find_52 ?_
        refine lv_goto (tgt := 65) hx hb d_A_find_53 (by decide) ?_
        exact rret S hr hlk (v := (100 + (f_M_segmentAround u X Y x y))) (show f_A_find u X Y L1 L2 x y = (100 + (f_M_segmentAround u X Y x y)) from by unfold f_A_find; rw [if_pos c1a, if_pos c2a, if_neg c3a]).symm d_A_find_65
    · have c2a : ¬ ((f_M_endsAt u X Y x y) ≤ 0) := fun h => c2 ((nI_leI (a := f_M_endsAt u X Y x y) (b := 0) (by omega) (by decide)).mpr h)
      refine lv_sipush (v := 200) hx hb d_A_find_25 (by decide) ?_
      refine lv_iload_n hx hb d_A_find_28 rfl (lv_at hl 0 rfl) ?_
      refine lv_iadd hx hb d_A_find_29 ?_
      refine rtop (y := nI (200 + (f_M_endsAt u X Y x y))) (nI_add (200) (f_M_endsAt u X Y x y)) ?_
      exact rret S hr hlk (v := nI (200 + (f_M_endsAt u X Y x y))) (show f_A_find u X Y L1 L2 x y = (nI (200 + (f_M_endsAt u X Y x y))) from by unfold f_A_find; rw [if_pos c1a, if_neg c2a]).symm d_A_find_30
  · have c1a : ¬ (f_A_isNearby x y = true) := b2n (b2i_eq0.mp c1)
    refine lv_bipush (v := (-2)) hx hb d_A_find_8 (by decide) ?_
    exact rret S hr hlk (v := (-2)) (show f_A_find u X Y L1 L2 x y = (-2) from by unfold f_A_find; rw [if_neg c1a]).symm d_A_find_10
def f_A_same (u : Nat → Bool) (X : Nat → Int32) (Y : Nat → Int32) (L1 : Nat → Nat) (L2 : Nat → Nat) (x : Int32) (y : Int32) (z : Int32) (w : Int32) : Bool := if (f_A_sideSeenFrom u X Y L1 L2 x y) < 0 then false else (if (f_A_sideSeenFrom u X Y L1 L2 z w) < 0 then false else (if f_G_together 41 L1 ((f_A_sideSeenFrom u X Y L1 L2 x y).toNatClampNeg) ((f_A_sideSeenFrom u X Y L1 L2 z w).toNatClampNeg) = true then true else false))
theorem i_A_same : inV y_A_same b_A_same 7 (some .boolean) 4 := ⟨kM_y_A_same, kV_y_A_same, kI_A, kY_y_A_same, by decide +kernel⟩
set_option maxHeartbeats 4000000 in
set_option maxRecDepth 100000 in
theorem c_A_same (l : Launch) (D : va_G) (h0 hm hu hxs hys hg1 hl1 hg2 hl2 : Nat) (cZ cI : ClassId) (u : Nat → Bool) (X Y : Nat → Int32) (L1 L2 : Nat → Nat) (x : Int32) (y : Int32) (z : Int32) (w : Int32)   : PM l y_A_same b_A_same 7 (some .boolean) 5 122 D (atlW h0 hm hu hxs hys hg1 hl1 hg2 hl2 cZ cI u X Y L1 L2) [(cZ, .boolean), (cI, .int)] [.ref h0, .int x, .int y, .int z, .int w] (b2i (f_A_same u X Y L1 L2 x y z w)) := by
  refine pMet rfl (fun p e s m below meth c S hr hlk hP hK ls hl => ?_) (Nat.le_of_ble_eq_true rfl)
  have hx := S.1
  have hb := S.2.1
  have hl : lv_has ls 7 [(0, .ref h0), (1, .int x), (2, .int y), (3, .int z), (4, .int w)] := hl
  refine lv_aload_n hx hb d_A_same_0 rfl (lv_at hl 0 rfl) ?_
  refine lv_iload_n hx hb d_A_same_1 rfl (lv_at hl 1 rfl) ?_
  refine lv_iload_n hx hb d_A_same_2 rfl (lv_at hl 2 rfl) ?_
  refine rcallV (rest := []) (v := (f_A_sideSeenFrom u X Y L1 L2 x y)) S [.int x, .int y] hK hP [0, 1, 2, 3, 4, 5, 6, 7, 8] rfl [0, 1] rfl (c_A_sideSeenFrom l D h0 hm hu hxs hys hg1 hl1 hg2 hl2 cZ cI u X Y L1 L2 x y ) i_A_sideSeenFrom kL_A_74 ⟨Nat.le_of_ble_eq_true rfl, Nat.le_of_ble_eq_true rfl⟩ (by exact ⟨Nat.zero_le _, Nat.zero_le _⟩) (q0 := 0) (ci := 2) rfl rfl rfl hl.1 rfl (Nat.le_of_ble_eq_true rfl) d_A_same_3 ?_
  refine lv_istore (lv' := [(5, .int ((f_A_sideSeenFrom u X Y L1 L2 x y))), (0, .ref h0), (1, .int x), (2, .int y), (3, .int z), (4, .int w)]) hx hb d_A_same_6 hl (by decide) rfl (fun ls hl => ?_)
  refine lv_aload_n hx hb d_A_same_8 rfl (lv_at hl 1 rfl) ?_
  refine lv_iload_n hx hb d_A_same_9 rfl (lv_at hl 4 rfl) ?_
  refine lv_iload hx hb d_A_same_10 (lv_at hl 5 rfl) ?_
  refine rcallV (rest := []) (v := (f_A_sideSeenFrom u X Y L1 L2 z w)) S [.int z, .int w] hK hP [0, 1, 2, 3, 4, 5, 6, 7, 8] rfl [0, 1] rfl (c_A_sideSeenFrom l D h0 hm hu hxs hys hg1 hl1 hg2 hl2 cZ cI u X Y L1 L2 z w ) i_A_sideSeenFrom kL_A_74 ⟨Nat.le_of_ble_eq_true rfl, Nat.le_of_ble_eq_true rfl⟩ (by exact ⟨Nat.zero_le _, Nat.zero_le _⟩) (q0 := 0) (ci := 2) rfl rfl rfl hl.1 rfl (Nat.le_of_ble_eq_true rfl) d_A_same_12 ?_
  refine lv_istore (lv' := [(6, .int ((f_A_sideSeenFrom u X Y L1 L2 z w))), (5, .int ((f_A_sideSeenFrom u X Y L1 L2 x y))), (0, .ref h0), (1, .int x), (2, .int y), (3, .int z), (4, .int w)]) hx hb d_A_same_15 hl (by decide) rfl (fun ls hl => ?_)
  refine lv_iload hx hb d_A_same_17 (lv_at hl 1 rfl) ?_
  refine lv_if_lt (tgt := 45) hx hb d_A_same_19 (by decide) (fun c1 => ?_) (fun c1 => ?_)
  · have c1a : (f_A_sideSeenFrom u X Y L1 L2 x y) < 0 := c1
    refine lv_iconst (v := 0) hx hb d_A_same_45 (by decide) ?_
    exact rretZ S hr hlk (v := false) (show f_A_same u X Y L1 L2 x y z w = false from by unfold f_A_same; rw [if_pos c1a]).symm d_A_same_46
  · have c1a : ¬ ((f_A_sideSeenFrom u X Y L1 L2 x y) < 0) := c1
    refine lv_iload hx hb d_A_same_22 (lv_at hl 0 rfl) ?_
    refine lv_if_lt (tgt := 45) hx hb d_A_same_24 (by decide) (fun c2 => ?_) (fun c2 => ?_)
    · have c2a : (f_A_sideSeenFrom u X Y L1 L2 z w) < 0 := c2
      refine lv_iconst (v := 0) hx hb d_A_same_45 (by decide) ?_
      exact rretZ S hr hlk (v := false) (show f_A_same u X Y L1 L2 x y z w = false from by unfold f_A_same; rw [if_neg c1a, if_pos c2a]).symm d_A_same_46
    · have c2a : ¬ ((f_A_sideSeenFrom u X Y L1 L2 z w) < 0) := c2
      have ek2 : (f_A_sideSeenFrom u X Y L1 L2 x y) = nI ((f_A_sideSeenFrom u X Y L1 L2 x y).toNatClampNeg) := seen_nat2 c1a
      have hk2 : (f_A_sideSeenFrom u X Y L1 L2 x y).toNatClampNeg < 41 := seen_lt2 c1a
      rw [ek2] at hl
      have ek3 : (f_A_sideSeenFrom u X Y L1 L2 z w) = nI ((f_A_sideSeenFrom u X Y L1 L2 z w).toNatClampNeg) := seen_nat2 c2a
      have hk3 : (f_A_sideSeenFrom u X Y L1 L2 z w).toNatClampNeg < 41 := seen_lt2 c2a
      rw [ek3] at hl
      refine lv_aload_n hx hb d_A_same_27 rfl (lv_at hl 2 rfl) ?_
      refine rget S hK hP 0 rfl rfl in_A 1 (by decide) kF_A_21 rfl d_A_same_28 ?_
      refine lv_iload hx hb d_A_same_31 (lv_at hl 1 rfl) ?_
      refine lv_iload hx hb d_A_same_33 (lv_at hl 0 rfl) ?_
      refine rcallV (rest := []) (v := b2i (f_G_together 41 L1 ((f_A_sideSeenFrom u X Y L1 L2 x y).toNatClampNeg) ((f_A_sideSeenFrom u X Y L1 L2 z w).toNatClampNeg))) S [.int (nI ((f_A_sideSeenFrom u X Y L1 L2 x y).toNatClampNeg)), .int (nI ((f_A_sideSeenFrom u X Y L1 L2 z w).toNatClampNeg))] hK hP [5, 6] rfl [1] rfl (c_G_together l D hg1 hl1 cI 41 L1 ((f_A_sideSeenFrom u X Y L1 L2 x y).toNatClampNeg) ((f_A_sideSeenFrom u X Y L1 L2 z w).toNatClampNeg) (by omega) (by omega) (by first | decide | omega)) i_G_together kL_A_77 ⟨Nat.le_of_ble_eq_true rfl, Nat.le_of_ble_eq_true rfl⟩ (by exact ⟨Nat.zero_le _, Nat.zero_le _⟩) (q0 := 0) (ci := 0) rfl rfl rfl hl.1 rfl (Nat.le_of_ble_eq_true rfl) d_A_same_35 ?_
      refine lv_if_eq (tgt := 45) hx hb d_A_same_38 (by decide) (fun c3 => ?_) (fun c3 => ?_)
      · have c3a : ¬ (f_G_together 41 L1 ((f_A_sideSeenFrom u X Y L1 L2 x y).toNatClampNeg) ((f_A_sideSeenFrom u X Y L1 L2 z w).toNatClampNeg) = true) := b2n (b2i_eq0.mp c3)
        refine lv_iconst (v := 0) hx hb d_A_same_45 (by decide) ?_
        exact rretZ S hr hlk (v := false) (show f_A_same u X Y L1 L2 x y z w = false from by unfold f_A_same; rw [if_neg c1a, if_neg c2a, if_neg c3a]).symm d_A_same_46
      · have c3a : f_G_together 41 L1 ((f_A_sideSeenFrom u X Y L1 L2 x y).toNatClampNeg) ((f_A_sideSeenFrom u X Y L1 L2 z w).toNatClampNeg) = true := b2i_ne0.mp c3
        refine lv_iconst (v := 1) hx hb d_A_same_41 (by decide) ?_
        refine lv_goto (tgt := 46) hx hb d_A_same_42 (by decide) ?_
        exact rretZ S hr hlk (v := true) (show f_A_same u X Y L1 L2 x y z w = true from by unfold f_A_same; rw [if_neg c1a, if_neg c2a, if_pos c3a]).symm d_A_same_46
def fx_A_area (u : Nat → Bool) (X : Nat → Int32) (Y : Nat → Int32) (L1 : Nat → Nat) (L2 : Nat → Nat) (x : Int32) (y : Int32) (a : Nat) (sn : Nat) (tw2 : Int32) : Int32 := tw2
def fb_A_area (u : Nat → Bool) (X : Nat → Int32) (Y : Nat → Int32) (L1 : Nat → Nat) (L2 : Nat → Nat) (x : Int32) (y : Int32) (rec : Nat → Nat → Int32 → Int32) (a : Nat) (sn : Nat) (tw2 : Int32) : Int32 := if f_M_hasArrow u X Y a = true then (if f_G_together 41 L1 sn a = true then (rec (a + 1) sn (tw2 + (f_M_sweep u X Y a))) else (rec (a + 1) sn tw2)) else (rec (a + 1) sn tw2)
def fl_A_area (u : Nat → Bool) (X : Nat → Int32) (Y : Nat → Int32) (L1 : Nat → Nat) (L2 : Nat → Nat) (x : Int32) (y : Int32) : Nat → Nat → Nat → Int32 → Int32
  | 0, a, sn, tw2 => fx_A_area u X Y L1 L2 x y a sn tw2
  | n + 1, a, sn, tw2 => fb_A_area u X Y L1 L2 x y (fl_A_area u X Y L1 L2 x y n) a sn tw2
def f_A_area (u : Nat → Bool) (X : Nat → Int32) (Y : Nat → Int32) (L1 : Nat → Nat) (L2 : Nat → Nat) (x : Int32) (y : Int32) : Int32 := if 0 ≤ (f_A_sideSeenFrom u X Y L1 L2 x y) then (if f_G_together 41 L1 ((f_A_sideSeenFrom u X Y L1 L2 x y).toNatClampNeg) 40 = true then 0 else (fl_A_area u X Y L1 L2 x y 40 0 ((f_A_sideSeenFrom u X Y L1 L2 x y).toNatClampNeg) 0)) else (f_A_sideSeenFrom u X Y L1 L2 x y)
theorem i_A_area : inV y_A_area b_A_area 6 (some .int) 2 := ⟨kM_y_A_area, kV_y_A_area, kI_A, kY_y_A_area, by decide +kernel⟩
set_option maxHeartbeats 4000000 in
set_option maxRecDepth 100000 in
theorem c_A_area (l : Launch) (D : va_G) (h0 hm hu hxs hys hg1 hl1 hg2 hl2 : Nat) (cZ cI : ClassId) (u : Nat → Bool) (X Y : Nat → Int32) (L1 L2 : Nat → Nat) (x : Int32) (y : Int32)   : PM l y_A_area b_A_area 6 (some .int) 5 122 D (atlW h0 hm hu hxs hys hg1 hl1 hg2 hl2 cZ cI u X Y L1 L2) [(cZ, .boolean), (cI, .int)] [.ref h0, .int x, .int y] (f_A_area u X Y L1 L2 x y) := by
  refine pMet rfl (fun p e s m below meth c S hr hlk hP hK ls hl => ?_) (Nat.le_of_ble_eq_true rfl)
  have hx := S.1
  have hb := S.2.1
  have hl : lv_has ls 6 [(0, .ref h0), (1, .int x), (2, .int y)] := hl
  have key : ∀ (n : Nat) (a : Nat) (sn : Nat) (tw2 : Int32) (hk : a + n = 40) (hsn : sn < 41) (ls : Array Slot) (hl : lv_has ls 6 [(0, .ref h0), (3, .int (nI (sn))), (4, .int tw2), (5, .int (nI (a)))]) (hf : f_A_area u X Y L1 L2 x y = fl_A_area u X Y L1 L2 x y n a sn tw2), W p l e { frames := 5, cells := 0, slots := 0, locals := 122 } s m [.ref h0, .int x, .int y].toArray below meth c s.heap [] 0 0 (MQ below (pQ ((f_A_area u X Y L1 L2 x y))) [.ref h0, .int x, .int y].toArray s 0 0 (fun _ => False)) (F0 m 34 ls []) := by
    intro n
    induction n with
    | zero =>
      intro a sn tw2 hk hsn ls hl hf
      refine lv_iload hx hb d_A_area_34 (lv_at hl 3 rfl) ?_
      refine lv_bipush (v := 40) hx hb d_A_area_36 (by decide) ?_
      refine lv_icmp_ge (tgt := 86) hx hb d_A_area_38 (by decide) (fun c1 => ?_) (fun c1 => ?_)
      · have c1a : 40 ≤ a := (nI_leI (a := 40) (b := a) (by decide) (by omega)).mp c1
        refine lv_iload hx hb d_A_area_86 (lv_at hl 2 rfl) ?_
        exact rret S hr hlk (v := tw2) (hf.trans (show fx_A_area u X Y L1 L2 x y a sn tw2 = tw2 from rfl)).symm d_A_area_88
      · have c1a : ¬ (40 ≤ a) := fun h => c1 ((nI_leI (a := 40) (b := a) (by decide) (by omega)).mpr h)
        omega
    | succ n ih =>
      intro a sn tw2 hk hsn ls hl hf
      refine lv_iload hx hb d_A_area_34 (lv_at hl 3 rfl) ?_
      refine lv_bipush (v := 40) hx hb d_A_area_36 (by decide) ?_
      refine lv_icmp_ge (tgt := 86) hx hb d_A_area_38 (by decide) (fun c2 => ?_) (fun c2 => ?_)
      · have c2a : 40 ≤ a := (nI_leI (a := 40) (b := a) (by decide) (by omega)).mp c2
        omega
      · have c2a : ¬ (40 ≤ a) := fun h => c2 ((nI_leI (a := 40) (b := a) (by decide) (by omega)).mpr h)
        refine lv_aload_n hx hb d_A_area_41 rfl (lv_at hl 0 rfl) ?_
        refine rget S hK hP 0 rfl rfl in_A 0 (by decide) kF_A_12 rfl d_A_area_42 ?_
        refine lv_iload hx hb d_A_area_45 (lv_at hl 3 rfl) ?_
        refine rcallV (rest := []) (v := b2i (f_M_hasArrow u X Y a)) S [.int (nI (a))] hK hP [1, 2, 3, 4] rfl [0, 1] rfl (c_M_hasArrow l D hm hu hxs hys cZ cI u X Y a (by omega)) i_M_hasArrow kL_A_55 ⟨Nat.le_of_ble_eq_true rfl, Nat.le_of_ble_eq_true rfl⟩ (by exact ⟨Nat.zero_le _, Nat.zero_le _⟩) (q0 := 0) (ci := 1) rfl rfl rfl hl.1 rfl (Nat.le_of_ble_eq_true rfl) d_A_area_47 ?_
        refine lv_if_eq (tgt := 80) hx hb d_A_area_50 (by decide) (fun c3 => ?_) (fun c3 => ?_)
        · have c3a : ¬ (f_M_hasArrow u X Y a = true) := b2n (b2i_eq0.mp c3)
          refine lv_iinc (v := nI (a + 1)) (lv' := [(5, .int (nI (a + 1))), (0, .ref h0), (3, .int (nI (sn))), (4, .int tw2)]) hx hb d_A_area_80 hl (k := 3) rfl (nI_1 (a)) (by decide) rfl (fun ls hl => ?_)
          refine lv_goto (tgt := 34) hx hb d_A_area_83 (by decide) ?_
          exact ih (a + 1) sn tw2 (by omega) hsn ls (lv_sub hl [1, 2, 3, 0] rfl) (hf.trans (show fb_A_area u X Y L1 L2 x y (fl_A_area u X Y L1 L2 x y n) a sn tw2 = (fl_A_area u X Y L1 L2 x y n (a + 1) sn tw2) from by unfold fb_A_area; rw [if_neg c3a]))
        · have c3a : f_M_hasArrow u X Y a = true := b2i_ne0.mp c3
          refine lv_aload_n hx hb d_A_area_53 rfl (lv_at hl 0 rfl) ?_
          refine rget S hK hP 0 rfl rfl in_A 1 (by decide) kF_A_21 rfl d_A_area_54 ?_
          refine lv_iload_n hx hb d_A_area_57 rfl (lv_at hl 1 rfl) ?_
          refine lv_iload hx hb d_A_area_58 (lv_at hl 3 rfl) ?_
          refine rcallV (rest := []) (v := b2i (f_G_together 41 L1 sn a)) S [.int (nI (sn)), .int (nI (a))] hK hP [5, 6] rfl [1] rfl (c_G_together l D hg1 hl1 cI 41 L1 sn a (by omega) (by omega) (by first | decide | omega)) i_G_together kL_A_77 ⟨Nat.le_of_ble_eq_true rfl, Nat.le_of_ble_eq_true rfl⟩ (by exact ⟨Nat.zero_le _, Nat.zero_le _⟩) (q0 := 0) (ci := 0) rfl rfl rfl hl.1 rfl (Nat.le_of_ble_eq_true rfl) d_A_area_60 ?_
          refine lv_if_eq (tgt := 80) hx hb d_A_area_63 (by decide) (fun c4 => ?_) (fun c4 => ?_)
          · have c4a : ¬ (f_G_together 41 L1 sn a = true) := b2n (b2i_eq0.mp c4)
            refine lv_iinc (v := nI (a + 1)) (lv' := [(5, .int (nI (a + 1))), (0, .ref h0), (3, .int (nI (sn))), (4, .int tw2)]) hx hb d_A_area_80 hl (k := 3) rfl (nI_1 (a)) (by decide) rfl (fun ls hl => ?_)
            refine lv_goto (tgt := 34) hx hb d_A_area_83 (by decide) ?_
            exact ih (a + 1) sn tw2 (by omega) hsn ls (lv_sub hl [1, 2, 3, 0] rfl) (hf.trans (show fb_A_area u X Y L1 L2 x y (fl_A_area u X Y L1 L2 x y n) a sn tw2 = (fl_A_area u X Y L1 L2 x y n (a + 1) sn tw2) from by unfold fb_A_area; rw [if_pos c3a, if_neg c4a]))
          · have c4a : f_G_together 41 L1 sn a = true := b2i_ne0.mp c4
            refine lv_iload hx hb d_A_area_66 (lv_at hl 2 rfl) ?_
            refine lv_aload_n hx hb d_A_area_68 rfl (lv_at hl 0 rfl) ?_
            refine rget S hK hP 0 rfl rfl in_A 0 (by decide) kF_A_12 rfl d_A_area_69 ?_
            refine lv_iload hx hb d_A_area_72 (lv_at hl 3 rfl) ?_
            refine rcallV (rest := [.int tw2]) (v := (f_M_sweep u X Y a)) S [.int (nI (a))] hK hP [1, 2, 3, 4] rfl [0, 1] rfl (c_M_sweep l D hm hu hxs hys cZ cI u X Y a (by omega)) i_M_sweep kL_A_80 ⟨Nat.le_of_ble_eq_true rfl, Nat.le_of_ble_eq_true rfl⟩ (by exact ⟨Nat.zero_le _, Nat.zero_le _⟩) (q0 := 0) (ci := 1) rfl rfl rfl hl.1 rfl (Nat.le_of_ble_eq_true rfl) d_A_area_74 ?_
            refine lv_iadd hx hb d_A_area_77 ?_
            refine lv_istore (lv' := [(4, .int ((tw2 + (f_M_sweep u X Y a)))), (0, .ref h0), (3, .int (nI (sn))), (5, .int (nI (a)))]) hx hb d_A_area_78 hl (by decide) rfl (fun ls hl => ?_)
            refine lv_iinc (v := nI (a + 1)) (lv' := [(5, .int (nI (a + 1))), (4, .int ((tw2 + (f_M_sweep u X Y a)))), (0, .ref h0), (3, .int (nI (sn)))]) hx hb d_A_area_80 hl (k := 3) rfl (nI_1 (a)) (by decide) rfl (fun ls hl => ?_)
            refine lv_goto (tgt := 34) hx hb d_A_area_83 (by decide) ?_
            exact ih (a + 1) sn (tw2 + (f_M_sweep u X Y a)) (by omega) hsn ls (lv_sub hl [2, 3, 1, 0] rfl) (hf.trans (show fb_A_area u X Y L1 L2 x y (fl_A_area u X Y L1 L2 x y n) a sn tw2 = (fl_A_area u X Y L1 L2 x y n (a + 1) sn (tw2 + (f_M_sweep u X Y a))) from by unfold fb_A_area; rw [if_pos c3a, if_pos c4a]))
  refine lv_aload_n hx hb d_A_area_0 rfl (lv_at hl 0 rfl) ?_
  refine lv_iload_n hx hb d_A_area_1 rfl (lv_at hl 1 rfl) ?_
  refine lv_iload_n hx hb d_A_area_2 rfl (lv_at hl 2 rfl) ?_
  refine rcallV (rest := []) (v := (f_A_sideSeenFrom u X Y L1 L2 x y)) S [.int x, .int y] hK hP [0, 1, 2, 3, 4, 5, 6, 7, 8] rfl [0, 1] rfl (c_A_sideSeenFrom l D h0 hm hu hxs hys hg1 hl1 hg2 hl2 cZ cI u X Y L1 L2 x y ) i_A_sideSeenFrom kL_A_74 ⟨Nat.le_of_ble_eq_true rfl, Nat.le_of_ble_eq_true rfl⟩ (by exact ⟨Nat.zero_le _, Nat.zero_le _⟩) (q0 := 0) (ci := 2) rfl rfl rfl hl.1 rfl (Nat.le_of_ble_eq_true rfl) d_A_area_3 ?_
  refine lv_istore_n (lv' := [(3, .int ((f_A_sideSeenFrom u X Y L1 L2 x y))), (0, .ref h0), (1, .int x), (2, .int y)]) hx hb d_A_area_6 rfl hl (by decide) rfl (fun ls hl => ?_)
  refine lv_iload_n hx hb d_A_area_7 rfl (lv_at hl 0 rfl) ?_
  refine lv_if_ge (tgt := 13) hx hb d_A_area_8 (by decide) (fun c5 => ?_) (fun c5 => ?_)
  · have c5a : 0 ≤ (f_A_sideSeenFrom u X Y L1 L2 x y) := c5
    have ek2 : (f_A_sideSeenFrom u X Y L1 L2 x y) = nI ((f_A_sideSeenFrom u X Y L1 L2 x y).toNatClampNeg) := seen_nat c5a
    have hk2 : (f_A_sideSeenFrom u X Y L1 L2 x y).toNatClampNeg < 41 := seen_lt c5a
    rw [ek2] at hl
    refine lv_aload_n hx hb d_A_area_13 rfl (lv_at hl 1 rfl) ?_
    refine rget S hK hP 0 rfl rfl in_A 1 (by decide) kF_A_21 rfl d_A_area_14 ?_
    refine lv_iload_n hx hb d_A_area_17 rfl (lv_at hl 0 rfl) ?_
    refine lv_bipush (v := 40) hx hb d_A_area_18 (by decide) ?_
    refine rcallV (rest := []) (v := b2i (f_G_together 41 L1 ((f_A_sideSeenFrom u X Y L1 L2 x y).toNatClampNeg) 40)) S [.int (nI ((f_A_sideSeenFrom u X Y L1 L2 x y).toNatClampNeg)), .int 40] hK hP [5, 6] rfl [1] rfl (c_G_together l D hg1 hl1 cI 41 L1 ((f_A_sideSeenFrom u X Y L1 L2 x y).toNatClampNeg) 40 (by omega) (by omega) (by first | decide | omega)) i_G_together kL_A_77 ⟨Nat.le_of_ble_eq_true rfl, Nat.le_of_ble_eq_true rfl⟩ (by exact ⟨Nat.zero_le _, Nat.zero_le _⟩) (q0 := 0) (ci := 0) rfl rfl rfl hl.1 rfl (Nat.le_of_ble_eq_true rfl) d_A_area_20 ?_
    refine lv_if_eq (tgt := 28) hx hb d_A_area_23 (by decide) (fun c6 => ?_) (fun c6 => ?_)
    · have c6a : ¬ (f_G_together 41 L1 ((f_A_sideSeenFrom u X Y L1 L2 x y).toNatClampNeg) 40 = true) := b2n (b2i_eq0.mp c6)
      refine lv_iconst (v := 0) hx hb d_A_area_28 (by decide) ?_
      refine lv_istore (lv' := [(4, .int 0), (3, .int (nI ((f_A_sideSeenFrom u X Y L1 L2 x y).toNatClampNeg))), (0, .ref h0), (1, .int x), (2, .int y)]) hx hb d_A_area_29 hl (by decide) rfl (fun ls hl => ?_)
      refine lv_iconst (v := 0) hx hb d_A_area_31 (by decide) ?_
      refine lv_istore (lv' := [(5, .int 0), (4, .int 0), (3, .int (nI ((f_A_sideSeenFrom u X Y L1 L2 x y).toNatClampNeg))), (0, .ref h0), (1, .int x), (2, .int y)]) hx hb d_A_area_32 hl (by decide) rfl (fun ls hl => ?_)
      exact key 40 0 ((f_A_sideSeenFrom u X Y L1 L2 x y).toNatClampNeg) 0 (by omega) hk2 ls (lv_sub hl [3, 2, 1, 0] rfl) (show f_A_area u X Y L1 L2 x y = (fl_A_area u X Y L1 L2 x y 40 0 ((f_A_sideSeenFrom u X Y L1 L2 x y).toNatClampNeg) 0) from by unfold f_A_area; rw [if_pos c5a, if_neg c6a])
    · have c6a : f_G_together 41 L1 ((f_A_sideSeenFrom u X Y L1 L2 x y).toNatClampNeg) 40 = true := b2i_ne0.mp c6
      refine lv_iconst (v := 0) hx hb d_A_area_26 (by decide) ?_
      exact rret S hr hlk (v := 0) (show f_A_area u X Y L1 L2 x y = 0 from by unfold f_A_area; rw [if_pos c5a, if_pos c6a]).symm d_A_area_27
  · have c5a : ¬ (0 ≤ (f_A_sideSeenFrom u X Y L1 L2 x y)) := c5
    refine lv_iload_n hx hb d_A_area_11 rfl (lv_at hl 0 rfl) ?_
    exact rret S hr hlk (v := (f_A_sideSeenFrom u X Y L1 L2 x y)) (show f_A_area u X Y L1 L2 x y = (f_A_sideSeenFrom u X Y L1 L2 x y) from by unfold f_A_area; rw [if_neg c5a]).symm d_A_area_12
def fx_A_border (u : Nat → Bool) (X : Nat → Int32) (Y : Nat → Int32) (L1 : Nat → Nat) (L2 : Nat → Nat) (x : Int32) (y : Int32) (a : Nat) (sn : Nat) (cnt : Nat) : Int32 := nI (cnt)
def fb_A_border (u : Nat → Bool) (X : Nat → Int32) (Y : Nat → Int32) (L1 : Nat → Nat) (L2 : Nat → Nat) (x : Int32) (y : Int32) (rec : Nat → Nat → Nat → Int32) (a : Nat) (sn : Nat) (cnt : Nat) : Int32 := if f_M_hasArrow u X Y a = true then (if f_G_together 41 L1 sn a = true then (rec (a + 1) sn (cnt + 1)) else (rec (a + 1) sn cnt)) else (rec (a + 1) sn cnt)
def fl_A_border (u : Nat → Bool) (X : Nat → Int32) (Y : Nat → Int32) (L1 : Nat → Nat) (L2 : Nat → Nat) (x : Int32) (y : Int32) : Nat → Nat → Nat → Nat → Int32
  | 0, a, sn, cnt => fx_A_border u X Y L1 L2 x y a sn cnt
  | n + 1, a, sn, cnt => fb_A_border u X Y L1 L2 x y (fl_A_border u X Y L1 L2 x y n) a sn cnt
def f_A_border (u : Nat → Bool) (X : Nat → Int32) (Y : Nat → Int32) (L1 : Nat → Nat) (L2 : Nat → Nat) (x : Int32) (y : Int32) : Int32 := if 0 ≤ (f_A_sideSeenFrom u X Y L1 L2 x y) then (fl_A_border u X Y L1 L2 x y 40 0 ((f_A_sideSeenFrom u X Y L1 L2 x y).toNatClampNeg) 0) else (f_A_sideSeenFrom u X Y L1 L2 x y)
theorem i_A_border : inV y_A_border b_A_border 6 (some .int) 2 := ⟨kM_y_A_border, kV_y_A_border, kI_A, kY_y_A_border, by decide +kernel⟩
set_option maxHeartbeats 4000000 in
set_option maxRecDepth 100000 in
theorem c_A_border (l : Launch) (D : va_G) (h0 hm hu hxs hys hg1 hl1 hg2 hl2 : Nat) (cZ cI : ClassId) (u : Nat → Bool) (X Y : Nat → Int32) (L1 L2 : Nat → Nat) (x : Int32) (y : Int32)   : PM l y_A_border b_A_border 6 (some .int) 5 122 D (atlW h0 hm hu hxs hys hg1 hl1 hg2 hl2 cZ cI u X Y L1 L2) [(cZ, .boolean), (cI, .int)] [.ref h0, .int x, .int y] (f_A_border u X Y L1 L2 x y) := by
  refine pMet rfl (fun p e s m below meth c S hr hlk hP hK ls hl => ?_) (Nat.le_of_ble_eq_true rfl)
  have hx := S.1
  have hb := S.2.1
  have hl : lv_has ls 6 [(0, .ref h0), (1, .int x), (2, .int y)] := hl
  have key : ∀ (n : Nat) (a : Nat) (sn : Nat) (cnt : Nat) (hk : a + n = 40) (hsn : sn < 41) (ls : Array Slot) (hl : lv_has ls 6 [(0, .ref h0), (3, .int (nI (sn))), (4, .int (nI (cnt))), (5, .int (nI (a)))]) (hf : f_A_border u X Y L1 L2 x y = fl_A_border u X Y L1 L2 x y n a sn cnt), W p l e { frames := 5, cells := 0, slots := 0, locals := 122 } s m [.ref h0, .int x, .int y].toArray below meth c s.heap [] 0 0 (MQ below (pQ ((f_A_border u X Y L1 L2 x y))) [.ref h0, .int x, .int y].toArray s 0 0 (fun _ => False)) (F0 m 19 ls []) := by
    intro n
    induction n with
    | zero =>
      intro a sn cnt hk hsn ls hl hf
      refine lv_iload hx hb d_A_border_19 (lv_at hl 3 rfl) ?_
      refine lv_bipush (v := 40) hx hb d_A_border_21 (by decide) ?_
      refine lv_icmp_ge (tgt := 60) hx hb d_A_border_23 (by decide) (fun c1 => ?_) (fun c1 => ?_)
      · have c1a : 40 ≤ a := (nI_leI (a := 40) (b := a) (by decide) (by omega)).mp c1
        refine lv_iload hx hb d_A_border_60 (lv_at hl 2 rfl) ?_
        exact rret S hr hlk (v := nI (cnt)) (hf.trans (show fx_A_border u X Y L1 L2 x y a sn cnt = (nI (cnt)) from rfl)).symm d_A_border_62
      · have c1a : ¬ (40 ≤ a) := fun h => c1 ((nI_leI (a := 40) (b := a) (by decide) (by omega)).mpr h)
        omega
    | succ n ih =>
      intro a sn cnt hk hsn ls hl hf
      refine lv_iload hx hb d_A_border_19 (lv_at hl 3 rfl) ?_
      refine lv_bipush (v := 40) hx hb d_A_border_21 (by decide) ?_
      refine lv_icmp_ge (tgt := 60) hx hb d_A_border_23 (by decide) (fun c2 => ?_) (fun c2 => ?_)
      · have c2a : 40 ≤ a := (nI_leI (a := 40) (b := a) (by decide) (by omega)).mp c2
        omega
      · have c2a : ¬ (40 ≤ a) := fun h => c2 ((nI_leI (a := 40) (b := a) (by decide) (by omega)).mpr h)
        refine lv_aload_n hx hb d_A_border_26 rfl (lv_at hl 0 rfl) ?_
        refine rget S hK hP 0 rfl rfl in_A 0 (by decide) kF_A_12 rfl d_A_border_27 ?_
        refine lv_iload hx hb d_A_border_30 (lv_at hl 3 rfl) ?_
        refine rcallV (rest := []) (v := b2i (f_M_hasArrow u X Y a)) S [.int (nI (a))] hK hP [1, 2, 3, 4] rfl [0, 1] rfl (c_M_hasArrow l D hm hu hxs hys cZ cI u X Y a (by omega)) i_M_hasArrow kL_A_55 ⟨Nat.le_of_ble_eq_true rfl, Nat.le_of_ble_eq_true rfl⟩ (by exact ⟨Nat.zero_le _, Nat.zero_le _⟩) (q0 := 0) (ci := 1) rfl rfl rfl hl.1 rfl (Nat.le_of_ble_eq_true rfl) d_A_border_32 ?_
        refine lv_if_eq (tgt := 54) hx hb d_A_border_35 (by decide) (fun c3 => ?_) (fun c3 => ?_)
        · have c3a : ¬ (f_M_hasArrow u X Y a = true) := b2n (b2i_eq0.mp c3)
          refine lv_iinc (v := nI (a + 1)) (lv' := [(5, .int (nI (a + 1))), (0, .ref h0), (3, .int (nI (sn))), (4, .int (nI (cnt)))]) hx hb d_A_border_54 hl (k := 3) rfl (nI_1 (a)) (by decide) rfl (fun ls hl => ?_)
          refine lv_goto (tgt := 19) hx hb d_A_border_57 (by decide) ?_
          exact ih (a + 1) sn cnt (by omega) hsn ls (lv_sub hl [1, 2, 3, 0] rfl) (hf.trans (show fb_A_border u X Y L1 L2 x y (fl_A_border u X Y L1 L2 x y n) a sn cnt = (fl_A_border u X Y L1 L2 x y n (a + 1) sn cnt) from by unfold fb_A_border; rw [if_neg c3a]))
        · have c3a : f_M_hasArrow u X Y a = true := b2i_ne0.mp c3
          refine lv_aload_n hx hb d_A_border_38 rfl (lv_at hl 0 rfl) ?_
          refine rget S hK hP 0 rfl rfl in_A 1 (by decide) kF_A_21 rfl d_A_border_39 ?_
          refine lv_iload_n hx hb d_A_border_42 rfl (lv_at hl 1 rfl) ?_
          refine lv_iload hx hb d_A_border_43 (lv_at hl 3 rfl) ?_
          refine rcallV (rest := []) (v := b2i (f_G_together 41 L1 sn a)) S [.int (nI (sn)), .int (nI (a))] hK hP [5, 6] rfl [1] rfl (c_G_together l D hg1 hl1 cI 41 L1 sn a (by omega) (by omega) (by first | decide | omega)) i_G_together kL_A_77 ⟨Nat.le_of_ble_eq_true rfl, Nat.le_of_ble_eq_true rfl⟩ (by exact ⟨Nat.zero_le _, Nat.zero_le _⟩) (q0 := 0) (ci := 0) rfl rfl rfl hl.1 rfl (Nat.le_of_ble_eq_true rfl) d_A_border_45 ?_
          refine lv_if_eq (tgt := 54) hx hb d_A_border_48 (by decide) (fun c4 => ?_) (fun c4 => ?_)
          · have c4a : ¬ (f_G_together 41 L1 sn a = true) := b2n (b2i_eq0.mp c4)
            refine lv_iinc (v := nI (a + 1)) (lv' := [(5, .int (nI (a + 1))), (0, .ref h0), (3, .int (nI (sn))), (4, .int (nI (cnt)))]) hx hb d_A_border_54 hl (k := 3) rfl (nI_1 (a)) (by decide) rfl (fun ls hl => ?_)
            refine lv_goto (tgt := 19) hx hb d_A_border_57 (by decide) ?_
            exact ih (a + 1) sn cnt (by omega) hsn ls (lv_sub hl [1, 2, 3, 0] rfl) (hf.trans (show fb_A_border u X Y L1 L2 x y (fl_A_border u X Y L1 L2 x y n) a sn cnt = (fl_A_border u X Y L1 L2 x y n (a + 1) sn cnt) from by unfold fb_A_border; rw [if_pos c3a, if_neg c4a]))
          · have c4a : f_G_together 41 L1 sn a = true := b2i_ne0.mp c4
            refine lv_iinc (v := nI (cnt + 1)) (lv' := [(4, .int (nI (cnt + 1))), (0, .ref h0), (3, .int (nI (sn))), (5, .int (nI (a)))]) hx hb d_A_border_51 hl (k := 2) rfl (nI_1 (cnt)) (by decide) rfl (fun ls hl => ?_)
            refine lv_iinc (v := nI (a + 1)) (lv' := [(5, .int (nI (a + 1))), (4, .int (nI (cnt + 1))), (0, .ref h0), (3, .int (nI (sn)))]) hx hb d_A_border_54 hl (k := 3) rfl (nI_1 (a)) (by decide) rfl (fun ls hl => ?_)
            refine lv_goto (tgt := 19) hx hb d_A_border_57 (by decide) ?_
            exact ih (a + 1) sn (cnt + 1) (by omega) hsn ls (lv_sub hl [2, 3, 1, 0] rfl) (hf.trans (show fb_A_border u X Y L1 L2 x y (fl_A_border u X Y L1 L2 x y n) a sn cnt = (fl_A_border u X Y L1 L2 x y n (a + 1) sn (cnt + 1)) from by unfold fb_A_border; rw [if_pos c3a, if_pos c4a]))
  refine lv_aload_n hx hb d_A_border_0 rfl (lv_at hl 0 rfl) ?_
  refine lv_iload_n hx hb d_A_border_1 rfl (lv_at hl 1 rfl) ?_
  refine lv_iload_n hx hb d_A_border_2 rfl (lv_at hl 2 rfl) ?_
  refine rcallV (rest := []) (v := (f_A_sideSeenFrom u X Y L1 L2 x y)) S [.int x, .int y] hK hP [0, 1, 2, 3, 4, 5, 6, 7, 8] rfl [0, 1] rfl (c_A_sideSeenFrom l D h0 hm hu hxs hys hg1 hl1 hg2 hl2 cZ cI u X Y L1 L2 x y ) i_A_sideSeenFrom kL_A_74 ⟨Nat.le_of_ble_eq_true rfl, Nat.le_of_ble_eq_true rfl⟩ (by exact ⟨Nat.zero_le _, Nat.zero_le _⟩) (q0 := 0) (ci := 2) rfl rfl rfl hl.1 rfl (Nat.le_of_ble_eq_true rfl) d_A_border_3 ?_
  refine lv_istore_n (lv' := [(3, .int ((f_A_sideSeenFrom u X Y L1 L2 x y))), (0, .ref h0), (1, .int x), (2, .int y)]) hx hb d_A_border_6 rfl hl (by decide) rfl (fun ls hl => ?_)
  refine lv_iload_n hx hb d_A_border_7 rfl (lv_at hl 0 rfl) ?_
  refine lv_if_ge (tgt := 13) hx hb d_A_border_8 (by decide) (fun c5 => ?_) (fun c5 => ?_)
  · have c5a : 0 ≤ (f_A_sideSeenFrom u X Y L1 L2 x y) := c5
    have ek2 : (f_A_sideSeenFrom u X Y L1 L2 x y) = nI ((f_A_sideSeenFrom u X Y L1 L2 x y).toNatClampNeg) := seen_nat c5a
    have hk2 : (f_A_sideSeenFrom u X Y L1 L2 x y).toNatClampNeg < 41 := seen_lt c5a
    rw [ek2] at hl
    refine lv_iconst (v := 0) hx hb d_A_border_13 (by decide) ?_
    refine lv_istore (lv' := [(4, .int 0), (3, .int (nI ((f_A_sideSeenFrom u X Y L1 L2 x y).toNatClampNeg))), (0, .ref h0), (1, .int x), (2, .int y)]) hx hb d_A_border_14 hl (by decide) rfl (fun ls hl => ?_)
    refine lv_iconst (v := 0) hx hb d_A_border_16 (by decide) ?_
    refine lv_istore (lv' := [(5, .int 0), (4, .int 0), (3, .int (nI ((f_A_sideSeenFrom u X Y L1 L2 x y).toNatClampNeg))), (0, .ref h0), (1, .int x), (2, .int y)]) hx hb d_A_border_17 hl (by decide) rfl (fun ls hl => ?_)
    exact key 40 0 ((f_A_sideSeenFrom u X Y L1 L2 x y).toNatClampNeg) 0 (by omega) hk2 ls (lv_sub hl [3, 2, 1, 0] rfl) (show f_A_border u X Y L1 L2 x y = (fl_A_border u X Y L1 L2 x y 40 0 ((f_A_sideSeenFrom u X Y L1 L2 x y).toNatClampNeg) 0) from by unfold f_A_border; rw [if_pos c5a])
  · have c5a : ¬ (0 ≤ (f_A_sideSeenFrom u X Y L1 L2 x y)) := c5
    refine lv_iload_n hx hb d_A_border_11 rfl (lv_at hl 0 rfl) ?_
    exact rret S hr hlk (v := (f_A_sideSeenFrom u X Y L1 L2 x y)) (show f_A_border u X Y L1 L2 x y = (f_A_sideSeenFrom u X Y L1 L2 x y) from by unfold f_A_border; rw [if_neg c5a]).symm d_A_border_12
def f_A_touches (u : Nat → Bool) (X : Nat → Int32) (Y : Nat → Int32) (L1 : Nat → Nat) (L2 : Nat → Nat) (x : Int32) (y : Int32) (k : Int32) : Int32 := if 0 ≤ (f_A_sideSeenFrom u X Y L1 L2 x y) then (if f_M_has u X Y k = true then (if f_G_together 41 L1 ((f_A_sideSeenFrom u X Y L1 L2 x y).toNatClampNeg) (2 * k.toNatClampNeg) = true then (if f_G_together 41 L1 ((f_A_sideSeenFrom u X Y L1 L2 x y).toNatClampNeg) ((2 * k.toNatClampNeg) + 1) = true then 3 else 1) else (if f_G_together 41 L1 ((f_A_sideSeenFrom u X Y L1 L2 x y).toNatClampNeg) ((2 * k.toNatClampNeg) + 1) = true then 2 else 0)) else (-1)) else (f_A_sideSeenFrom u X Y L1 L2 x y)
theorem i_A_touches : inV y_A_touches b_A_touches 7 (some .int) 3 := ⟨kM_y_A_touches, kV_y_A_touches, kI_A, kY_y_A_touches, by decide +kernel⟩
set_option maxHeartbeats 4000000 in
set_option maxRecDepth 100000 in
theorem c_A_touches (l : Launch) (D : va_G) (h0 hm hu hxs hys hg1 hl1 hg2 hl2 : Nat) (cZ cI : ClassId) (u : Nat → Bool) (X Y : Nat → Int32) (L1 L2 : Nat → Nat) (x : Int32) (y : Int32) (k : Int32)   : PM l y_A_touches b_A_touches 7 (some .int) 5 122 D (atlW h0 hm hu hxs hys hg1 hl1 hg2 hl2 cZ cI u X Y L1 L2) [(cZ, .boolean), (cI, .int)] [.ref h0, .int x, .int y, .int k] (f_A_touches u X Y L1 L2 x y k) := by
  refine pMet rfl (fun p e s m below meth c S hr hlk hP hK ls hl => ?_) (Nat.le_of_ble_eq_true rfl)
  have hx := S.1
  have hb := S.2.1
  have hl : lv_has ls 7 [(0, .ref h0), (1, .int x), (2, .int y), (3, .int k)] := hl
  refine lv_aload_n hx hb d_A_touches_0 rfl (lv_at hl 0 rfl) ?_
  refine lv_iload_n hx hb d_A_touches_1 rfl (lv_at hl 1 rfl) ?_
  refine lv_iload_n hx hb d_A_touches_2 rfl (lv_at hl 2 rfl) ?_
  refine rcallV (rest := []) (v := (f_A_sideSeenFrom u X Y L1 L2 x y)) S [.int x, .int y] hK hP [0, 1, 2, 3, 4, 5, 6, 7, 8] rfl [0, 1] rfl (c_A_sideSeenFrom l D h0 hm hu hxs hys hg1 hl1 hg2 hl2 cZ cI u X Y L1 L2 x y ) i_A_sideSeenFrom kL_A_74 ⟨Nat.le_of_ble_eq_true rfl, Nat.le_of_ble_eq_true rfl⟩ (by exact ⟨Nat.zero_le _, Nat.zero_le _⟩) (q0 := 0) (ci := 2) rfl rfl rfl hl.1 rfl (Nat.le_of_ble_eq_true rfl) d_A_touches_3 ?_
  refine lv_istore (lv' := [(4, .int ((f_A_sideSeenFrom u X Y L1 L2 x y))), (0, .ref h0), (1, .int x), (2, .int y), (3, .int k)]) hx hb d_A_touches_6 hl (by decide) rfl (fun ls hl => ?_)
  refine lv_iload hx hb d_A_touches_8 (lv_at hl 0 rfl) ?_
  refine lv_if_ge (tgt := 16) hx hb d_A_touches_10 (by decide) (fun c1 => ?_) (fun c1 => ?_)
  · have c1a : 0 ≤ (f_A_sideSeenFrom u X Y L1 L2 x y) := c1
    have ek2 : (f_A_sideSeenFrom u X Y L1 L2 x y) = nI ((f_A_sideSeenFrom u X Y L1 L2 x y).toNatClampNeg) := seen_nat c1a
    have hk2 : (f_A_sideSeenFrom u X Y L1 L2 x y).toNatClampNeg < 41 := seen_lt c1a
    rw [ek2] at hl
    refine lv_aload_n hx hb d_A_touches_16 rfl (lv_at hl 1 rfl) ?_
    refine rget S hK hP 0 rfl rfl in_A 0 (by decide) kF_A_12 rfl d_A_touches_17 ?_
    refine lv_iload_n hx hb d_A_touches_20 rfl (lv_at hl 4 rfl) ?_
    refine rcallV (rest := []) (v := b2i (f_M_has u X Y k)) S [.int k] hK hP [1, 2, 3, 4] rfl [0, 1] rfl (c_M_has l D hm hu hxs hys cZ cI u X Y k ) i_M_has kL_A_51 ⟨Nat.le_of_ble_eq_true rfl, Nat.le_of_ble_eq_true rfl⟩ (by exact ⟨Nat.zero_le _, Nat.zero_le _⟩) (q0 := 0) (ci := 1) rfl rfl rfl hl.1 rfl (Nat.le_of_ble_eq_true rfl) d_A_touches_21 ?_
    refine lv_if_ne (tgt := 29) hx hb d_A_touches_24 (by decide) (fun c2 => ?_) (fun c2 => ?_)
    · have c2a : f_M_has u X Y k = true := b2i_ne0.mp c2
      have ek3 : k = nI (k.toNatClampNeg) := (has_ok c2a).1
      have hk3 : k.toNatClampNeg < 20 := (has_ok c2a).2.1
      rw [ek3] at hl
      refine lv_aload_n hx hb d_A_touches_29 rfl (lv_at hl 1 rfl) ?_
      refine rget S hK hP 0 rfl rfl in_A 1 (by decide) kF_A_21 rfl d_A_touches_30 ?_
      refine lv_iload hx hb d_A_touches_33 (lv_at hl 0 rfl) ?_
      refine lv_iconst (v := 2) hx hb d_A_touches_35 (by decide) ?_
      refine lv_iload_n hx hb d_A_touches_36 rfl (lv_at hl 4 rfl) ?_
      refine lv_imul hx hb d_A_touches_37 ?_
      refine rtop (y := nI (2 * k.toNatClampNeg)) (pk_mul (2) (k.toNatClampNeg)) ?_
      refine rcallV (rest := []) (v := b2i (f_G_together 41 L1 ((f_A_sideSeenFrom u X Y L1 L2 x y).toNatClampNeg) (2 * k.toNatClampNeg))) S [.int (nI ((f_A_sideSeenFrom u X Y L1 L2 x y).toNatClampNeg)), .int (nI (2 * k.toNatClampNeg))] hK hP [5, 6] rfl [1] rfl (c_G_together l D hg1 hl1 cI 41 L1 ((f_A_sideSeenFrom u X Y L1 L2 x y).toNatClampNeg) (2 * k.toNatClampNeg) (by omega) (by omega) (by first | decide | omega)) i_G_together kL_A_77 ⟨Nat.le_of_ble_eq_true rfl, Nat.le_of_ble_eq_true rfl⟩ (by exact ⟨Nat.zero_le _, Nat.zero_le _⟩) (q0 := 0) (ci := 0) rfl rfl rfl hl.1 rfl (Nat.le_of_ble_eq_true rfl) d_A_touches_38 ?_
      refine lv_if_eq (tgt := 48) hx hb d_A_touches_41 (by decide) (fun c3 => ?_) (fun c3 => ?_)
      · have c3a : ¬ (f_G_together 41 L1 ((f_A_sideSeenFrom u X Y L1 L2 x y).toNatClampNeg) (2 * k.toNatClampNeg) = true) := b2n (b2i_eq0.mp c3)
        refine lv_iconst (v := 0) hx hb d_A_touches_48 (by decide) ?_
        refine lv_istore (lv' := [(5, .int 0), (4, .int (nI ((f_A_sideSeenFrom u X Y L1 L2 x y).toNatClampNeg))), (0, .ref h0), (1, .int x), (2, .int y), (3, .int (nI (k.toNatClampNeg)))]) hx hb d_A_touches_49 hl (by decide) rfl (fun ls hl => ?_)
        refine lv_aload_n hx hb d_A_touches_51 rfl (lv_at hl 2 rfl) ?_
        refine rget S hK hP 0 rfl rfl in_A 1 (by decide) kF_A_21 rfl d_A_touches_52 ?_
        refine lv_iload hx hb d_A_touches_55 (lv_at hl 1 rfl) ?_
        refine lv_iconst (v := 2) hx hb d_A_touches_57 (by decide) ?_
        refine lv_iload_n hx hb d_A_touches_58 rfl (lv_at hl 5 rfl) ?_
        refine lv_imul hx hb d_A_touches_59 ?_
        refine rtop (y := nI (2 * k.toNatClampNeg)) (pk_mul (2) (k.toNatClampNeg)) ?_
        refine lv_iconst (v := 1) hx hb d_A_touches_60 (by decide) ?_
        refine lv_iadd hx hb d_A_touches_61 ?_
        refine rtop (y := nI ((2 * k.toNatClampNeg) + 1)) (nI_add (2 * k.toNatClampNeg) (1)) ?_
        refine rcallV (rest := []) (v := b2i (f_G_together 41 L1 ((f_A_sideSeenFrom u X Y L1 L2 x y).toNatClampNeg) ((2 * k.toNatClampNeg) + 1))) S [.int (nI ((f_A_sideSeenFrom u X Y L1 L2 x y).toNatClampNeg)), .int (nI ((2 * k.toNatClampNeg) + 1))] hK hP [5, 6] rfl [1] rfl (c_G_together l D hg1 hl1 cI 41 L1 ((f_A_sideSeenFrom u X Y L1 L2 x y).toNatClampNeg) ((2 * k.toNatClampNeg) + 1) (by omega) (by omega) (by first | decide | omega)) i_G_together kL_A_77 ⟨Nat.le_of_ble_eq_true rfl, Nat.le_of_ble_eq_true rfl⟩ (by exact ⟨Nat.zero_le _, Nat.zero_le _⟩) (q0 := 0) (ci := 0) rfl rfl rfl hl.1 rfl (Nat.le_of_ble_eq_true rfl) d_A_touches_62 ?_
        refine lv_if_eq (tgt := 72) hx hb d_A_touches_65 (by decide) (fun c4 => ?_) (fun c4 => ?_)
        · have c4a : ¬ (f_G_together 41 L1 ((f_A_sideSeenFrom u X Y L1 L2 x y).toNatClampNeg) ((2 * k.toNatClampNeg) + 1) = true) := b2n (b2i_eq0.mp c4)
          refine lv_iconst (v := 0) hx hb d_A_touches_72 (by decide) ?_
          refine lv_istore (lv' := [(6, .int 0), (5, .int 0), (4, .int (nI ((f_A_sideSeenFrom u X Y L1 L2 x y).toNatClampNeg))), (0, .ref h0), (1, .int x), (2, .int y), (3, .int (nI (k.toNatClampNeg)))]) hx hb d_A_touches_73 hl (by decide) rfl (fun ls hl => ?_)
          refine lv_iload hx hb d_A_touches_75 (lv_at hl 1 rfl) ?_
          refine lv_iload hx hb d_A_touches_77 (lv_at hl 0 rfl) ?_
          refine lv_iadd hx hb d_A_touches_79 ?_
          refine rtop (y := 0) (by decide) ?_
          exact rret S hr hlk (v := 0) (show f_A_touches u X Y L1 L2 x y k = 0 from by unfold f_A_touches; rw [if_pos c1a, if_pos c2a, if_neg c3a, if_neg c4a]).symm d_A_touches_80
        · have c4a : f_G_together 41 L1 ((f_A_sideSeenFrom u X Y L1 L2 x y).toNatClampNeg) ((2 * k.toNatClampNeg) + 1) = true := b2i_ne0.mp c4
          refine lv_iconst (v := 2) hx hb d_A_touches_68 (by decide) ?_
          refine lv_goto (tgt := 73) hx hb d_A_touches_69 (by decide) ?_
          refine lv_istore (lv' := [(6, .int 2), (5, .int 0), (4, .int (nI ((f_A_sideSeenFrom u X Y L1 L2 x y).toNatClampNeg))), (0, .ref h0), (1, .int x), (2, .int y), (3, .int (nI (k.toNatClampNeg)))]) hx hb d_A_touches_73 hl (by decide) rfl (fun ls hl => ?_)
          refine lv_iload hx hb d_A_touches_75 (lv_at hl 1 rfl) ?_
          refine lv_iload hx hb d_A_touches_77 (lv_at hl 0 rfl) ?_
          refine lv_iadd hx hb d_A_touches_79 ?_
          refine rtop (y := 2) (by decide) ?_
          exact rret S hr hlk (v := 2) (show f_A_touches u X Y L1 L2 x y k = 2 from by unfold f_A_touches; rw [if_pos c1a, if_pos c2a, if_neg c3a, if_pos c4a]).symm d_A_touches_80
      · have c3a : f_G_together 41 L1 ((f_A_sideSeenFrom u X Y L1 L2 x y).toNatClampNeg) (2 * k.toNatClampNeg) = true := b2i_ne0.mp c3
        refine lv_iconst (v := 1) hx hb d_A_touches_44 (by decide) ?_
        refine lv_goto (tgt := 49) hx hb d_A_touches_45 (by decide) ?_
        refine lv_istore (lv' := [(5, .int 1), (4, .int (nI ((f_A_sideSeenFrom u X Y L1 L2 x y).toNatClampNeg))), (0, .ref h0), (1, .int x), (2, .int y), (3, .int (nI (k.toNatClampNeg)))]) hx hb d_A_touches_49 hl (by decide) rfl (fun ls hl => ?_)
        refine lv_aload_n hx hb d_A_touches_51 rfl (lv_at hl 2 rfl) ?_
        refine rget S hK hP 0 rfl rfl in_A 1 (by decide) kF_A_21 rfl d_A_touches_52 ?_
        refine lv_iload hx hb d_A_touches_55 (lv_at hl 1 rfl) ?_
        refine lv_iconst (v := 2) hx hb d_A_touches_57 (by decide) ?_
        refine lv_iload_n hx hb d_A_touches_58 rfl (lv_at hl 5 rfl) ?_
        refine lv_imul hx hb d_A_touches_59 ?_
        refine rtop (y := nI (2 * k.toNatClampNeg)) (pk_mul (2) (k.toNatClampNeg)) ?_
        refine lv_iconst (v := 1) hx hb d_A_touches_60 (by decide) ?_
        refine lv_iadd hx hb d_A_touches_61 ?_
        refine rtop (y := nI ((2 * k.toNatClampNeg) + 1)) (nI_add (2 * k.toNatClampNeg) (1)) ?_
        refine rcallV (rest := []) (v := b2i (f_G_together 41 L1 ((f_A_sideSeenFrom u X Y L1 L2 x y).toNatClampNeg) ((2 * k.toNatClampNeg) + 1))) S [.int (nI ((f_A_sideSeenFrom u X Y L1 L2 x y).toNatClampNeg)), .int (nI ((2 * k.toNatClampNeg) + 1))] hK hP [5, 6] rfl [1] rfl (c_G_together l D hg1 hl1 cI 41 L1 ((f_A_sideSeenFrom u X Y L1 L2 x y).toNatClampNeg) ((2 * k.toNatClampNeg) + 1) (by omega) (by omega) (by first | decide | omega)) i_G_together kL_A_77 ⟨Nat.le_of_ble_eq_true rfl, Nat.le_of_ble_eq_true rfl⟩ (by exact ⟨Nat.zero_le _, Nat.zero_le _⟩) (q0 := 0) (ci := 0) rfl rfl rfl hl.1 rfl (Nat.le_of_ble_eq_true rfl) d_A_touches_62 ?_
        refine lv_if_eq (tgt := 72) hx hb d_A_touches_65 (by decide) (fun c5 => ?_) (fun c5 => ?_)
        · have c5a : ¬ (f_G_together 41 L1 ((f_A_sideSeenFrom u X Y L1 L2 x y).toNatClampNeg) ((2 * k.toNatClampNeg) + 1) = true) := b2n (b2i_eq0.mp c5)
          refine lv_iconst (v := 0) hx hb d_A_touches_72 (by decide) ?_
          refine lv_istore (lv' := [(6, .int 0), (5, .int 1), (4, .int (nI ((f_A_sideSeenFrom u X Y L1 L2 x y).toNatClampNeg))), (0, .ref h0), (1, .int x), (2, .int y), (3, .int (nI (k.toNatClampNeg)))]) hx hb d_A_touches_73 hl (by decide) rfl (fun ls hl => ?_)
          refine lv_iload hx hb d_A_touches_75 (lv_at hl 1 rfl) ?_
          refine lv_iload hx hb d_A_touches_77 (lv_at hl 0 rfl) ?_
          refine lv_iadd hx hb d_A_touches_79 ?_
          refine rtop (y := 1) (by decide) ?_
          exact rret S hr hlk (v := 1) (show f_A_touches u X Y L1 L2 x y k = 1 from by unfold f_A_touches; rw [if_pos c1a, if_pos c2a, if_pos c3a, if_neg c5a]).symm d_A_touches_80
        · have c5a : f_G_together 41 L1 ((f_A_sideSeenFrom u X Y L1 L2 x y).toNatClampNeg) ((2 * k.toNatClampNeg) + 1) = true := b2i_ne0.mp c5
          refine lv_iconst (v := 2) hx hb d_A_touches_68 (by decide) ?_
          refine lv_goto (tgt := 73) hx hb d_A_touches_69 (by decide) ?_
          refine lv_istore (lv' := [(6, .int 2), (5, .int 1), (4, .int (nI ((f_A_sideSeenFrom u X Y L1 L2 x y).toNatClampNeg))), (0, .ref h0), (1, .int x), (2, .int y), (3, .int (nI (k.toNatClampNeg)))]) hx hb d_A_touches_73 hl (by decide) rfl (fun ls hl => ?_)
          refine lv_iload hx hb d_A_touches_75 (lv_at hl 1 rfl) ?_
          refine lv_iload hx hb d_A_touches_77 (lv_at hl 0 rfl) ?_
          refine lv_iadd hx hb d_A_touches_79 ?_
          refine rtop (y := 3) (by decide) ?_
          exact rret S hr hlk (v := 3) (show f_A_touches u X Y L1 L2 x y k = 3 from by unfold f_A_touches; rw [if_pos c1a, if_pos c2a, if_pos c3a, if_pos c5a]).symm d_A_touches_80
    · have c2a : ¬ (f_M_has u X Y k = true) := b2n (b2i_eq0.mp c2)
      refine lv_iconst (v := (-1)) hx hb d_A_touches_27 (by decide) ?_
      exact rret S hr hlk (v := (-1)) (show f_A_touches u X Y L1 L2 x y k = (-1) from by unfold f_A_touches; rw [if_pos c1a, if_neg c2a]).symm d_A_touches_28
  · have c1a : ¬ (0 ≤ (f_A_sideSeenFrom u X Y L1 L2 x y)) := c1
    refine lv_iload hx hb d_A_touches_13 (lv_at hl 0 rfl) ?_
    exact rret S hr hlk (v := (f_A_sideSeenFrom u X Y L1 L2 x y)) (show f_A_touches u X Y L1 L2 x y k = (f_A_sideSeenFrom u X Y L1 L2 x y) from by unfold f_A_touches; rw [if_neg c1a]).symm d_A_touches_15
end
section
def f_A_joinWithNextAroundTail (u : Nat → Bool) (X : Nat → Int32) (Y : Nat → Int32) (L1 : Nat → Nat) (L2 : Nat → Nat) (a : Nat) : (Nat → Nat) × (Nat → Nat) := (f_G_join 41 L1 a (f_M_sideFacing u X Y a (f_M_stepX u X Y a) (f_M_stepY u X Y a)), f_G_join 20 L2 (a / 2) ((f_M_sideFacing u X Y a (f_M_stepX u X Y a) (f_M_stepY u X Y a)) / 2))
theorem i_A_joinWithNextAroundTail : inV y_A_joinWithNextAroundTail b_A_joinWithNextAroundTail 3 (none) 1 := ⟨kM_y_A_joinWithNextAroundTail, kV_y_A_joinWithNextAroundTail, kI_A, kY_y_A_joinWithNextAroundTail, by decide +kernel⟩
set_option maxHeartbeats 4000000 in
set_option maxRecDepth 100000 in
theorem c_A_joinWithNextAroundTail (l : Launch) (D : va_G) (h0 hm hu hxs hys hg1 hl1 hg2 hl2 : Nat) (cZ cI : ClassId) (u : Nat → Bool) (X Y : Nat → Int32) (L1 L2 : Nat → Nat) (a : Nat) (sz : Nat) (ha : a < 40)  : SMv l y_A_joinWithNextAroundTail b_A_joinWithNextAroundTail 3 3 75 D [(h0, .inr (2, [.ref hm, .ref hg1, .ref hg2])), (hm, .inr (1, [.ref hu, .ref hxs, .ref hys])), (hu, .inl (cZ, 20, .inl (fun z9 => b2i (u z9)))), (hxs, .inl (cI, 40, .inl X)), (hys, .inl (cI, 40, .inl Y)), (hg1, .inr (0, [.ref hl1])), (hl1, .inl (cI, 41, .inl (fun z9 => nI (L1 z9)))), (hg2, .inr (0, [.ref hl2])), (hl2, .inl (cI, 20, .inl (fun z9 => nI (L2 z9))))] [(cZ, .boolean), (cI, .int)] [.ref h0, .int (nI (a))] sz [(h0, .inr (2, [.ref hm, .ref hg1, .ref hg2])), (hm, .inr (1, [.ref hu, .ref hxs, .ref hys])), (hu, .inl (cZ, 20, .inl (fun z9 => b2i (u z9)))), (hxs, .inl (cI, 40, .inl X)), (hys, .inl (cI, 40, .inl Y)), (hg1, .inr (0, [.ref hl1])), (hl1, .inl (cI, 41, .inl (fun z9 => nI (((f_A_joinWithNextAroundTail u X Y L1 L2 a).1) z9)))), (hg2, .inr (0, [.ref hl2])), (hl2, .inl (cI, 20, .inl (fun z9 => nI (((f_A_joinWithNextAroundTail u X Y L1 L2 a).2) z9))))] := by
  refine sMet (Qc := fun A => sQv D [(h0, .inr (2, [.ref hm, .ref hg1, .ref hg2])), (hm, .inr (1, [.ref hu, .ref hxs, .ref hys])), (hu, .inl (cZ, 20, .inl (fun z9 => b2i (u z9)))), (hxs, .inl (cI, 40, .inl X)), (hys, .inl (cI, 40, .inl Y)), (hg1, .inr (0, [.ref hl1])), (hl1, .inl (cI, 41, .inl (fun z9 => nI (((f_A_joinWithNextAroundTail u X Y L1 L2 a).1) z9)))), (hg2, .inr (0, [.ref hl2])), (hl2, .inl (cI, 20, .inl (fun z9 => nI (((f_A_joinWithNextAroundTail u X Y L1 L2 a).2) z9))))] [(cZ, .boolean), (cI, .int)] A) rfl (fun p e s m below meth c A S hr hlk hP hK hD hA hS ls hl => ?_) (Nat.le_of_ble_eq_true rfl)
  have hx := S.1
  have hb := S.2.1
  have hl : lv_has ls 3 [(0, .ref h0), (1, .int (nI (a)))] := hl
  refine lv_aload_n hx hb d_A_joinWithNextAroundTail_0 rfl (lv_at hl 0 rfl) ?_
  refine rget S hK hP 0 rfl rfl in_A 0 (by decide) kF_A_12 rfl d_A_joinWithNextAroundTail_1 ?_
  refine lv_iload_n hx hb d_A_joinWithNextAroundTail_4 rfl (lv_at hl 1 rfl) ?_
  refine lv_aload_n hx hb d_A_joinWithNextAroundTail_5 rfl (lv_at hl 0 rfl) ?_
  refine rget S hK hP 0 rfl rfl in_A 0 (by decide) kF_A_12 rfl d_A_joinWithNextAroundTail_6 ?_
  refine lv_iload_n hx hb d_A_joinWithNextAroundTail_9 rfl (lv_at hl 1 rfl) ?_
  refine rcallV (rest := [.int (nI (a)), .ref hm]) (v := (f_M_stepX u X Y a)) S [.int (nI (a))] hK hP [1, 2, 3, 4] rfl [0, 1] rfl (c_M_stepX l D hm hu hxs hys cZ cI u X Y a (by omega)) i_M_stepX kL_A_95 ⟨Nat.le_of_ble_eq_true rfl, Nat.le_of_ble_eq_true rfl⟩ (by exact ⟨Nat.zero_le _, Nat.zero_le _⟩) (q0 := 0) (ci := 1) rfl rfl rfl hl.1 rfl (Nat.le_of_ble_eq_true rfl) d_A_joinWithNextAroundTail_10 ?_
  refine lv_aload_n hx hb d_A_joinWithNextAroundTail_13 rfl (lv_at hl 0 rfl) ?_
  refine rget S hK hP 0 rfl rfl in_A 0 (by decide) kF_A_12 rfl d_A_joinWithNextAroundTail_14 ?_
  refine lv_iload_n hx hb d_A_joinWithNextAroundTail_17 rfl (lv_at hl 1 rfl) ?_
  refine rcallV (rest := [.int ((f_M_stepX u X Y a)), .int (nI (a)), .ref hm]) (v := (f_M_stepY u X Y a)) S [.int (nI (a))] hK hP [1, 2, 3, 4] rfl [0, 1] rfl (c_M_stepY l D hm hu hxs hys cZ cI u X Y a (by omega)) i_M_stepY kL_A_98 ⟨Nat.le_of_ble_eq_true rfl, Nat.le_of_ble_eq_true rfl⟩ (by exact ⟨Nat.zero_le _, Nat.zero_le _⟩) (q0 := 0) (ci := 1) rfl rfl rfl hl.1 rfl (Nat.le_of_ble_eq_true rfl) d_A_joinWithNextAroundTail_18 ?_
  refine rcallV (rest := []) (v := nI (f_M_sideFacing u X Y a (f_M_stepX u X Y a) (f_M_stepY u X Y a))) S [.int (nI (a)), .int ((f_M_stepX u X Y a)), .int ((f_M_stepY u X Y a))] hK hP [1, 2, 3, 4] rfl [0, 1] rfl (c_M_sideFacing l D hm hu hxs hys cZ cI u X Y a (f_M_stepX u X Y a) (f_M_stepY u X Y a) (by omega)) i_M_sideFacing kL_A_101 ⟨Nat.le_of_ble_eq_true rfl, Nat.le_of_ble_eq_true rfl⟩ (by exact ⟨Nat.zero_le _, Nat.zero_le _⟩) (q0 := 0) (ci := 1) rfl rfl rfl hl.1 rfl (Nat.le_of_ble_eq_true rfl) d_A_joinWithNextAroundTail_21 ?_
  have hsf := sideFacing_lt u X Y a (f_M_stepX u X Y a) (f_M_stepY u X Y a) (by first | omega | exact tw_lt (by omega))
  refine lv_istore_n (lv' := [(2, .int (nI (f_M_sideFacing u X Y a (f_M_stepX u X Y a) (f_M_stepY u X Y a)))), (0, .ref h0), (1, .int (nI (a)))]) hx hb d_A_joinWithNextAroundTail_24 rfl hl (by decide) rfl (fun ls hl => ?_)
  refine lv_aload_n hx hb d_A_joinWithNextAroundTail_25 rfl (lv_at hl 1 rfl) ?_
  refine rget S hK hP 0 rfl rfl in_A 1 (by decide) kF_A_21 rfl d_A_joinWithNextAroundTail_26 ?_
  refine lv_iload_n hx hb d_A_joinWithNextAroundTail_29 rfl (lv_at hl 2 rfl) ?_
  refine lv_iload_n hx hb d_A_joinWithNextAroundTail_30 rfl (lv_at hl 0 rfl) ?_
  refine rcallVv (rest := []) (wc := [(hg1, .inr (0, [.ref hl1])), (hl1, .inl (cI, 41, .inl (fun z9 => nI (L1 z9))))]) (wr := [(h0, .inr (2, [.ref hm, .ref hg1, .ref hg2])), (hm, .inr (1, [.ref hu, .ref hxs, .ref hys])), (hu, .inl (cZ, 20, .inl (fun z9 => b2i (u z9)))), (hxs, .inl (cI, 40, .inl X)), (hys, .inl (cI, 40, .inl Y)), (hg2, .inr (0, [.ref hl2])), (hl2, .inl (cI, 20, .inl (fun z9 => nI (L2 z9))))]) (w1 := [(hg1, .inr (0, [.ref hl1])), (hl1, .inl (cI, 41, .inl (fun z9 => nI ((f_G_join 41 L1 a (f_M_sideFacing u X Y a (f_M_stepX u X Y a) (f_M_stepY u X Y a))) z9))))]) S [.int (nI (a)), .int (nI (f_M_sideFacing u X Y a (f_M_stepX u X Y a) (f_M_stepY u X Y a)))] hK hP hD hS hA [5, 6] [0, 1, 2, 3, 4, 7, 8] rfl rfl (by decide) rfl (by decide) (by decide) [1] rfl (c_G_join l D hg1 hl1 cI 41 L1 a (f_M_sideFacing u X Y a (f_M_stepX u X Y a) (f_M_stepY u X Y a)) _ (by omega) (by omega) (by first | decide | omega)) i_G_join kL_A_105 ⟨Nat.le_of_ble_eq_true rfl, Nat.le_of_ble_eq_true rfl⟩ ⟨Nat.zero_le _, Nat.zero_le _⟩ (q0 := 0) (ci := 0) rfl rfl rfl hl.1 rfl (Nat.le_of_ble_eq_true rfl) d_A_joinWithNextAroundTail_31 (fun H locs hP hD hS => ?_)
  have hP : va_P D CLS [(h0, .inr (2, [.ref hm, .ref hg1, .ref hg2])), (hm, .inr (1, [.ref hu, .ref hxs, .ref hys])), (hu, .inl (cZ, 20, .inl (fun z9 => b2i (u z9)))), (hxs, .inl (cI, 40, .inl X)), (hys, .inl (cI, 40, .inl Y)), (hg2, .inr (0, [.ref hl2])), (hl2, .inl (cI, 20, .inl (fun z9 => nI (L2 z9)))), (hg1, .inr (0, [.ref hl1])), (hl1, .inl (cI, 41, .inl (fun z9 => nI ((f_G_join 41 L1 a (f_M_sideFacing u X Y a (f_M_stepX u X Y a) (f_M_stepY u X Y a))) z9))))] H := hP
  have hD : va_D A [(h0, .inr (2, [.ref hm, .ref hg1, .ref hg2])), (hm, .inr (1, [.ref hu, .ref hxs, .ref hys])), (hu, .inl (cZ, 20, .inl (fun z9 => b2i (u z9)))), (hxs, .inl (cI, 40, .inl X)), (hys, .inl (cI, 40, .inl Y)), (hg2, .inr (0, [.ref hl2])), (hl2, .inl (cI, 20, .inl (fun z9 => nI (L2 z9)))), (hg1, .inr (0, [.ref hl1])), (hl1, .inl (cI, 41, .inl (fun z9 => nI ((f_G_join 41 L1 a (f_M_sideFacing u X Y a (f_M_stepX u X Y a) (f_M_stepY u X Y a))) z9))))] := hD
  refine lv_aload_n hx hb d_A_joinWithNextAroundTail_34 rfl (lv_at hl 1 rfl) ?_
  refine rget S hK hP 0 rfl rfl in_A 2 (by decide) kF_A_25 rfl d_A_joinWithNextAroundTail_35 ?_
  refine lv_iload_n hx hb d_A_joinWithNextAroundTail_38 rfl (lv_at hl 2 rfl) ?_
  refine lv_iconst (v := 2) hx hb d_A_joinWithNextAroundTail_39 (by decide) ?_
  refine lv_idiv hx hb d_A_joinWithNextAroundTail_40 (by decide) ?_
  refine rtop (y := nI (a / 2)) (pk_div (a := a) (d := 2) (by omega) (by decide) (by decide)) ?_
  refine lv_iload_n hx hb d_A_joinWithNextAroundTail_41 rfl (lv_at hl 0 rfl) ?_
  refine lv_iconst (v := 2) hx hb d_A_joinWithNextAroundTail_42 (by decide) ?_
  refine lv_idiv hx hb d_A_joinWithNextAroundTail_43 (by decide) ?_
  refine rtop (y := nI ((f_M_sideFacing u X Y a (f_M_stepX u X Y a) (f_M_stepY u X Y a)) / 2)) (pk_div (a := f_M_sideFacing u X Y a (f_M_stepX u X Y a) (f_M_stepY u X Y a)) (d := 2) (by omega) (by decide) (by decide)) ?_
  refine rcallVv (rest := []) (wc := [(hg2, .inr (0, [.ref hl2])), (hl2, .inl (cI, 20, .inl (fun z9 => nI (L2 z9))))]) (wr := [(h0, .inr (2, [.ref hm, .ref hg1, .ref hg2])), (hm, .inr (1, [.ref hu, .ref hxs, .ref hys])), (hu, .inl (cZ, 20, .inl (fun z9 => b2i (u z9)))), (hxs, .inl (cI, 40, .inl X)), (hys, .inl (cI, 40, .inl Y)), (hg1, .inr (0, [.ref hl1])), (hl1, .inl (cI, 41, .inl (fun z9 => nI ((f_G_join 41 L1 a (f_M_sideFacing u X Y a (f_M_stepX u X Y a) (f_M_stepY u X Y a))) z9))))]) (w1 := [(hg2, .inr (0, [.ref hl2])), (hl2, .inl (cI, 20, .inl (fun z9 => nI ((f_G_join 20 L2 (a / 2) ((f_M_sideFacing u X Y a (f_M_stepX u X Y a) (f_M_stepY u X Y a)) / 2)) z9))))]) S [.int (nI (a / 2)), .int (nI ((f_M_sideFacing u X Y a (f_M_stepX u X Y a) (f_M_stepY u X Y a)) / 2))] hK hP hD hS hA [5, 6] [0, 1, 2, 3, 4, 7, 8] rfl rfl (by decide) rfl (by decide) (by decide) [1] rfl (c_G_join l D hg2 hl2 cI 20 L2 (a / 2) ((f_M_sideFacing u X Y a (f_M_stepX u X Y a) (f_M_stepY u X Y a)) / 2) _ (by omega) (by omega) (by first | decide | omega)) i_G_join kL_A_105 ⟨Nat.le_of_ble_eq_true rfl, Nat.le_of_ble_eq_true rfl⟩ ⟨Nat.zero_le _, Nat.zero_le _⟩ (q0 := 0) (ci := 0) rfl rfl rfl hl.1 rfl (Nat.le_of_ble_eq_true rfl) d_A_joinWithNextAroundTail_44 (fun H locs hP hD hS => ?_)
  have hP : va_P D CLS [(h0, .inr (2, [.ref hm, .ref hg1, .ref hg2])), (hm, .inr (1, [.ref hu, .ref hxs, .ref hys])), (hu, .inl (cZ, 20, .inl (fun z9 => b2i (u z9)))), (hxs, .inl (cI, 40, .inl X)), (hys, .inl (cI, 40, .inl Y)), (hg1, .inr (0, [.ref hl1])), (hl1, .inl (cI, 41, .inl (fun z9 => nI ((f_G_join 41 L1 a (f_M_sideFacing u X Y a (f_M_stepX u X Y a) (f_M_stepY u X Y a))) z9)))), (hg2, .inr (0, [.ref hl2])), (hl2, .inl (cI, 20, .inl (fun z9 => nI ((f_G_join 20 L2 (a / 2) ((f_M_sideFacing u X Y a (f_M_stepX u X Y a) (f_M_stepY u X Y a)) / 2)) z9))))] H := hP
  have hD : va_D A [(h0, .inr (2, [.ref hm, .ref hg1, .ref hg2])), (hm, .inr (1, [.ref hu, .ref hxs, .ref hys])), (hu, .inl (cZ, 20, .inl (fun z9 => b2i (u z9)))), (hxs, .inl (cI, 40, .inl X)), (hys, .inl (cI, 40, .inl Y)), (hg1, .inr (0, [.ref hl1])), (hl1, .inl (cI, 41, .inl (fun z9 => nI ((f_G_join 41 L1 a (f_M_sideFacing u X Y a (f_M_stepX u X Y a) (f_M_stepY u X Y a))) z9)))), (hg2, .inr (0, [.ref hl2])), (hl2, .inl (cI, 20, .inl (fun z9 => nI ((f_G_join 20 L2 (a / 2) ((f_M_sideFacing u X Y a (f_M_stepX u X Y a) (f_M_stepY u X Y a)) / 2)) z9))))] := hD
  have eqf := (show f_A_joinWithNextAroundTail u X Y L1 L2 a = (f_G_join 41 L1 a (f_M_sideFacing u X Y a (f_M_stepX u X Y a) (f_M_stepY u X Y a)), f_G_join 20 L2 (a / 2) ((f_M_sideFacing u X Y a (f_M_stepX u X Y a) (f_M_stepY u X Y a)) / 2)) from rfl)
  exact rretV S hr hlk (by rw [eqf]) hP hK hD hS d_A_joinWithNextAroundTail_47
def f_A_joinWithWhatIsAbove (u : Nat → Bool) (X : Nat → Int32) (Y : Nat → Int32) (L1 : Nat → Nat) (L2 : Nat → Nat) (a : Nat) : (Nat → Nat) × (Nat → Nat) := if f_M_startsAtPeak u X Y a = true then (f_G_join 41 L1 (f_M_sideFacing u X Y a 0 1) (f_M_sideAbove u X Y (f_M_tailX u X Y a) (f_M_tailY u X Y a)), L2) else (L1, L2)
theorem i_A_joinWithWhatIsAbove : inV y_A_joinWithWhatIsAbove b_A_joinWithWhatIsAbove 3 (none) 1 := ⟨kM_y_A_joinWithWhatIsAbove, kV_y_A_joinWithWhatIsAbove, kI_A, kY_y_A_joinWithWhatIsAbove, by decide +kernel⟩
set_option maxHeartbeats 4000000 in
set_option maxRecDepth 100000 in
theorem c_A_joinWithWhatIsAbove (l : Launch) (D : va_G) (h0 hm hu hxs hys hg1 hl1 hg2 hl2 : Nat) (cZ cI : ClassId) (u : Nat → Bool) (X Y : Nat → Int32) (L1 L2 : Nat → Nat) (a : Nat) (sz : Nat) (ha : a < 40)  : SMv l y_A_joinWithWhatIsAbove b_A_joinWithWhatIsAbove 3 4 100 D [(h0, .inr (2, [.ref hm, .ref hg1, .ref hg2])), (hm, .inr (1, [.ref hu, .ref hxs, .ref hys])), (hu, .inl (cZ, 20, .inl (fun z9 => b2i (u z9)))), (hxs, .inl (cI, 40, .inl X)), (hys, .inl (cI, 40, .inl Y)), (hg1, .inr (0, [.ref hl1])), (hl1, .inl (cI, 41, .inl (fun z9 => nI (L1 z9)))), (hg2, .inr (0, [.ref hl2])), (hl2, .inl (cI, 20, .inl (fun z9 => nI (L2 z9))))] [(cZ, .boolean), (cI, .int)] [.ref h0, .int (nI (a))] sz [(h0, .inr (2, [.ref hm, .ref hg1, .ref hg2])), (hm, .inr (1, [.ref hu, .ref hxs, .ref hys])), (hu, .inl (cZ, 20, .inl (fun z9 => b2i (u z9)))), (hxs, .inl (cI, 40, .inl X)), (hys, .inl (cI, 40, .inl Y)), (hg1, .inr (0, [.ref hl1])), (hl1, .inl (cI, 41, .inl (fun z9 => nI (((f_A_joinWithWhatIsAbove u X Y L1 L2 a).1) z9)))), (hg2, .inr (0, [.ref hl2])), (hl2, .inl (cI, 20, .inl (fun z9 => nI (((f_A_joinWithWhatIsAbove u X Y L1 L2 a).2) z9))))] := by
  refine sMet (Qc := fun A => sQv D [(h0, .inr (2, [.ref hm, .ref hg1, .ref hg2])), (hm, .inr (1, [.ref hu, .ref hxs, .ref hys])), (hu, .inl (cZ, 20, .inl (fun z9 => b2i (u z9)))), (hxs, .inl (cI, 40, .inl X)), (hys, .inl (cI, 40, .inl Y)), (hg1, .inr (0, [.ref hl1])), (hl1, .inl (cI, 41, .inl (fun z9 => nI (((f_A_joinWithWhatIsAbove u X Y L1 L2 a).1) z9)))), (hg2, .inr (0, [.ref hl2])), (hl2, .inl (cI, 20, .inl (fun z9 => nI (((f_A_joinWithWhatIsAbove u X Y L1 L2 a).2) z9))))] [(cZ, .boolean), (cI, .int)] A) rfl (fun p e s m below meth c A S hr hlk hP hK hD hA hS ls hl => ?_) (Nat.le_of_ble_eq_true rfl)
  have hx := S.1
  have hb := S.2.1
  have hl : lv_has ls 3 [(0, .ref h0), (1, .int (nI (a)))] := hl
  refine lv_aload_n hx hb d_A_joinWithWhatIsAbove_0 rfl (lv_at hl 0 rfl) ?_
  refine rget S hK hP 0 rfl rfl in_A 0 (by decide) kF_A_12 rfl d_A_joinWithWhatIsAbove_1 ?_
  refine lv_iload_n hx hb d_A_joinWithWhatIsAbove_4 rfl (lv_at hl 1 rfl) ?_
  refine rcallV (rest := []) (v := b2i (f_M_startsAtPeak u X Y a)) S [.int (nI (a))] hK hP [1, 2, 3, 4] rfl [0, 1] rfl (c_M_startsAtPeak l D hm hu hxs hys cZ cI u X Y a (by omega)) i_M_startsAtPeak kL_A_109 ⟨Nat.le_of_ble_eq_true rfl, Nat.le_of_ble_eq_true rfl⟩ (by exact ⟨Nat.zero_le _, Nat.zero_le _⟩) (q0 := 0) (ci := 1) rfl rfl rfl hl.1 rfl (Nat.le_of_ble_eq_true rfl) d_A_joinWithWhatIsAbove_5 ?_
  refine lv_if_eq (tgt := 53) hx hb d_A_joinWithWhatIsAbove_8 (by decide) (fun c1 => ?_) (fun c1 => ?_)
  · have c1a : ¬ (f_M_startsAtPeak u X Y a = true) := b2n (b2i_eq0.mp c1)
    have eqf := (show f_A_joinWithWhatIsAbove u X Y L1 L2 a = (L1, L2) from by unfold f_A_joinWithWhatIsAbove; rw [if_neg c1a])
    exact rretV S hr hlk (by rw [eqf]) hP hK hD hS d_A_joinWithWhatIsAbove_53
  · have c1a : f_M_startsAtPeak u X Y a = true := b2i_ne0.mp c1
    refine lv_aload_n hx hb d_A_joinWithWhatIsAbove_11 rfl (lv_at hl 0 rfl) ?_
    refine rget S hK hP 0 rfl rfl in_A 0 (by decide) kF_A_12 rfl d_A_joinWithWhatIsAbove_12 ?_
    refine lv_iload_n hx hb d_A_joinWithWhatIsAbove_15 rfl (lv_at hl 1 rfl) ?_
    refine lv_iconst (v := 0) hx hb d_A_joinWithWhatIsAbove_16 (by decide) ?_
    refine lv_iconst (v := 1) hx hb d_A_joinWithWhatIsAbove_17 (by decide) ?_
    refine rcallV (rest := []) (v := nI (f_M_sideFacing u X Y a 0 1)) S [.int (nI (a)), .int 0, .int 1] hK hP [1, 2, 3, 4] rfl [0, 1] rfl (c_M_sideFacing l D hm hu hxs hys cZ cI u X Y a 0 1 (by omega)) i_M_sideFacing kL_A_101 ⟨Nat.le_of_ble_eq_true rfl, Nat.le_of_ble_eq_true rfl⟩ (by exact ⟨Nat.zero_le _, Nat.zero_le _⟩) (q0 := 0) (ci := 1) rfl rfl rfl hl.1 rfl (Nat.le_of_ble_eq_true rfl) d_A_joinWithWhatIsAbove_18 ?_
    have hsf := sideFacing_lt u X Y a 0 1 (by first | omega | exact tw_lt (by omega))
    refine lv_istore_n (lv' := [(2, .int (nI (f_M_sideFacing u X Y a 0 1))), (0, .ref h0), (1, .int (nI (a)))]) hx hb d_A_joinWithWhatIsAbove_21 rfl hl (by decide) rfl (fun ls hl => ?_)
    refine lv_aload_n hx hb d_A_joinWithWhatIsAbove_22 rfl (lv_at hl 1 rfl) ?_
    refine rget S hK hP 0 rfl rfl in_A 1 (by decide) kF_A_21 rfl d_A_joinWithWhatIsAbove_23 ?_
    refine lv_iload_n hx hb d_A_joinWithWhatIsAbove_26 rfl (lv_at hl 0 rfl) ?_
    refine lv_aload_n hx hb d_A_joinWithWhatIsAbove_27 rfl (lv_at hl 1 rfl) ?_
    refine rget S hK hP 0 rfl rfl in_A 0 (by decide) kF_A_12 rfl d_A_joinWithWhatIsAbove_28 ?_
    refine lv_aload_n hx hb d_A_joinWithWhatIsAbove_31 rfl (lv_at hl 1 rfl) ?_
    refine rget S hK hP 0 rfl rfl in_A 0 (by decide) kF_A_12 rfl d_A_joinWithWhatIsAbove_32 ?_
    refine lv_iload_n hx hb d_A_joinWithWhatIsAbove_35 rfl (lv_at hl 2 rfl) ?_
    refine rcallV (rest := [.ref hm, .int (nI (f_M_sideFacing u X Y a 0 1)), .ref hg1]) (v := (f_M_tailX u X Y a)) S [.int (nI (a))] hK hP [1, 2, 3, 4] rfl [0, 1] rfl (c_M_tailX l D hm hu hxs hys cZ cI u X Y a (by omega)) i_M_tailX kL_A_112 ⟨Nat.le_of_ble_eq_true rfl, Nat.le_of_ble_eq_true rfl⟩ (by exact ⟨Nat.zero_le _, Nat.zero_le _⟩) (q0 := 0) (ci := 1) rfl rfl rfl hl.1 rfl (Nat.le_of_ble_eq_true rfl) d_A_joinWithWhatIsAbove_36 ?_
    refine lv_aload_n hx hb d_A_joinWithWhatIsAbove_39 rfl (lv_at hl 1 rfl) ?_
    refine rget S hK hP 0 rfl rfl in_A 0 (by decide) kF_A_12 rfl d_A_joinWithWhatIsAbove_40 ?_
    refine lv_iload_n hx hb d_A_joinWithWhatIsAbove_43 rfl (lv_at hl 2 rfl) ?_
    refine rcallV (rest := [.int ((f_M_tailX u X Y a)), .ref hm, .int (nI (f_M_sideFacing u X Y a 0 1)), .ref hg1]) (v := (f_M_tailY u X Y a)) S [.int (nI (a))] hK hP [1, 2, 3, 4] rfl [0, 1] rfl (c_M_tailY l D hm hu hxs hys cZ cI u X Y a (by omega)) i_M_tailY kL_A_115 ⟨Nat.le_of_ble_eq_true rfl, Nat.le_of_ble_eq_true rfl⟩ (by exact ⟨Nat.zero_le _, Nat.zero_le _⟩) (q0 := 0) (ci := 1) rfl rfl rfl hl.1 rfl (Nat.le_of_ble_eq_true rfl) d_A_joinWithWhatIsAbove_44 ?_
    refine rcallV (rest := [.int (nI (f_M_sideFacing u X Y a 0 1)), .ref hg1]) (v := nI (f_M_sideAbove u X Y (f_M_tailX u X Y a) (f_M_tailY u X Y a))) S [.int ((f_M_tailX u X Y a)), .int ((f_M_tailY u X Y a))] hK hP [1, 2, 3, 4] rfl [0, 1] rfl (c_M_sideAbove l D hm hu hxs hys cZ cI u X Y (f_M_tailX u X Y a) (f_M_tailY u X Y a) ) i_M_sideAbove kL_A_83 ⟨Nat.le_of_ble_eq_true rfl, Nat.le_of_ble_eq_true rfl⟩ (by exact ⟨Nat.zero_le _, Nat.zero_le _⟩) (q0 := 0) (ci := 1) rfl rfl rfl hl.1 rfl (Nat.le_of_ble_eq_true rfl) d_A_joinWithWhatIsAbove_47 ?_
    have hsa := sideAbove_lt u X Y (f_M_tailX u X Y a) (f_M_tailY u X Y a)
    refine rcallVv (rest := []) (wc := [(hg1, .inr (0, [.ref hl1])), (hl1, .inl (cI, 41, .inl (fun z9 => nI (L1 z9))))]) (wr := [(h0, .inr (2, [.ref hm, .ref hg1, .ref hg2])), (hm, .inr (1, [.ref hu, .ref hxs, .ref hys])), (hu, .inl (cZ, 20, .inl (fun z9 => b2i (u z9)))), (hxs, .inl (cI, 40, .inl X)), (hys, .inl (cI, 40, .inl Y)), (hg2, .inr (0, [.ref hl2])), (hl2, .inl (cI, 20, .inl (fun z9 => nI (L2 z9))))]) (w1 := [(hg1, .inr (0, [.ref hl1])), (hl1, .inl (cI, 41, .inl (fun z9 => nI ((f_G_join 41 L1 (f_M_sideFacing u X Y a 0 1) (f_M_sideAbove u X Y (f_M_tailX u X Y a) (f_M_tailY u X Y a))) z9))))]) S [.int (nI (f_M_sideFacing u X Y a 0 1)), .int (nI (f_M_sideAbove u X Y (f_M_tailX u X Y a) (f_M_tailY u X Y a)))] hK hP hD hS hA [5, 6] [0, 1, 2, 3, 4, 7, 8] rfl rfl (by decide) rfl (by decide) (by decide) [1] rfl (c_G_join l D hg1 hl1 cI 41 L1 (f_M_sideFacing u X Y a 0 1) (f_M_sideAbove u X Y (f_M_tailX u X Y a) (f_M_tailY u X Y a)) _ (by omega) (by omega) (by first | decide | omega)) i_G_join kL_A_105 ⟨Nat.le_of_ble_eq_true rfl, Nat.le_of_ble_eq_true rfl⟩ ⟨Nat.zero_le _, Nat.zero_le _⟩ (q0 := 0) (ci := 0) rfl rfl rfl hl.1 rfl (Nat.le_of_ble_eq_true rfl) d_A_joinWithWhatIsAbove_50 (fun H locs hP hD hS => ?_)
    have hP : va_P D CLS [(h0, .inr (2, [.ref hm, .ref hg1, .ref hg2])), (hm, .inr (1, [.ref hu, .ref hxs, .ref hys])), (hu, .inl (cZ, 20, .inl (fun z9 => b2i (u z9)))), (hxs, .inl (cI, 40, .inl X)), (hys, .inl (cI, 40, .inl Y)), (hg2, .inr (0, [.ref hl2])), (hl2, .inl (cI, 20, .inl (fun z9 => nI (L2 z9)))), (hg1, .inr (0, [.ref hl1])), (hl1, .inl (cI, 41, .inl (fun z9 => nI ((f_G_join 41 L1 (f_M_sideFacing u X Y a 0 1) (f_M_sideAbove u X Y (f_M_tailX u X Y a) (f_M_tailY u X Y a))) z9))))] H := hP
    have hD : va_D A [(h0, .inr (2, [.ref hm, .ref hg1, .ref hg2])), (hm, .inr (1, [.ref hu, .ref hxs, .ref hys])), (hu, .inl (cZ, 20, .inl (fun z9 => b2i (u z9)))), (hxs, .inl (cI, 40, .inl X)), (hys, .inl (cI, 40, .inl Y)), (hg2, .inr (0, [.ref hl2])), (hl2, .inl (cI, 20, .inl (fun z9 => nI (L2 z9)))), (hg1, .inr (0, [.ref hl1])), (hl1, .inl (cI, 41, .inl (fun z9 => nI ((f_G_join 41 L1 (f_M_sideFacing u X Y a 0 1) (f_M_sideAbove u X Y (f_M_tailX u X Y a) (f_M_tailY u X Y a))) z9))))] := hD
    have hP : va_P D CLS [(h0, .inr (2, [.ref hm, .ref hg1, .ref hg2])), (hm, .inr (1, [.ref hu, .ref hxs, .ref hys])), (hu, .inl (cZ, 20, .inl (fun z9 => b2i (u z9)))), (hxs, .inl (cI, 40, .inl X)), (hys, .inl (cI, 40, .inl Y)), (hg1, .inr (0, [.ref hl1])), (hl1, .inl (cI, 41, .inl (fun z9 => nI ((f_G_join 41 L1 (f_M_sideFacing u X Y a 0 1) (f_M_sideAbove u X Y (f_M_tailX u X Y a) (f_M_tailY u X Y a))) z9)))), (hg2, .inr (0, [.ref hl2])), (hl2, .inl (cI, 20, .inl (fun z9 => nI (L2 z9))))] _ := hP.sub [0, 1, 2, 3, 4, 7, 8, 5, 6] rfl
    have hD : va_D A [(h0, .inr (2, [.ref hm, .ref hg1, .ref hg2])), (hm, .inr (1, [.ref hu, .ref hxs, .ref hys])), (hu, .inl (cZ, 20, .inl (fun z9 => b2i (u z9)))), (hxs, .inl (cI, 40, .inl X)), (hys, .inl (cI, 40, .inl Y)), (hg1, .inr (0, [.ref hl1])), (hl1, .inl (cI, 41, .inl (fun z9 => nI ((f_G_join 41 L1 (f_M_sideFacing u X Y a 0 1) (f_M_sideAbove u X Y (f_M_tailX u X Y a) (f_M_tailY u X Y a))) z9)))), (hg2, .inr (0, [.ref hl2])), (hl2, .inl (cI, 20, .inl (fun z9 => nI (L2 z9))))] := hD.sub [0, 1, 2, 3, 4, 7, 8, 5, 6] (by decide) rfl
    have eqf := (show f_A_joinWithWhatIsAbove u X Y L1 L2 a = (f_G_join 41 L1 (f_M_sideFacing u X Y a 0 1) (f_M_sideAbove u X Y (f_M_tailX u X Y a) (f_M_tailY u X Y a)), L2) from by unfold f_A_joinWithWhatIsAbove; rw [if_pos c1a])
    exact rretV S hr hlk (by rw [eqf]) hP hK hD hS d_A_joinWithWhatIsAbove_53
def fx_A_regroup (u : Nat → Bool) (X : Nat → Int32) (Y : Nat → Int32) (L1 : Nat → Nat) (L2 : Nat → Nat) (a : Nat)  (M1 : Nat → Nat) (M2 : Nat → Nat) : (Nat → Nat) × (Nat → Nat) := (M1, M2)
def fb_A_regroup (u : Nat → Bool) (X : Nat → Int32) (Y : Nat → Int32) (L1 : Nat → Nat) (L2 : Nat → Nat) (rec : Nat → (Nat → Nat) → (Nat → Nat) → (Nat → Nat) × (Nat → Nat)) (a : Nat)  (M1 : Nat → Nat) (M2 : Nat → Nat) : (Nat → Nat) × (Nat → Nat) := if f_M_hasArrow u X Y a = true then (rec (a + 1) ((f_A_joinWithWhatIsAbove u X Y ((f_A_joinWithNextAroundTail u X Y M1 M2 a).1) ((f_A_joinWithNextAroundTail u X Y M1 M2 a).2) a).1) ((f_A_joinWithWhatIsAbove u X Y ((f_A_joinWithNextAroundTail u X Y M1 M2 a).1) ((f_A_joinWithNextAroundTail u X Y M1 M2 a).2) a).2)) else (rec (a + 1) M1 M2)
def fl_A_regroup (u : Nat → Bool) (X : Nat → Int32) (Y : Nat → Int32) (L1 : Nat → Nat) (L2 : Nat → Nat) : Nat → Nat → (Nat → Nat) → (Nat → Nat) → (Nat → Nat) × (Nat → Nat)
  | 0, a, M1, M2 => fx_A_regroup u X Y L1 L2 a M1 M2
  | n + 1, a, M1, M2 => fb_A_regroup u X Y L1 L2 (fl_A_regroup u X Y L1 L2 n) a M1 M2
def f_A_regroup (u : Nat → Bool) (X : Nat → Int32) (Y : Nat → Int32) (L1 : Nat → Nat) (L2 : Nat → Nat) : (Nat → Nat) × (Nat → Nat) := fl_A_regroup u X Y L1 L2 40 0 (f_G_scatter 41 L1) (f_G_scatter 20 L2)
theorem i_A_regroup : inV y_A_regroup b_A_regroup 2 (none) 0 := ⟨kM_y_A_regroup, kV_y_A_regroup, kI_A, kY_y_A_regroup, by decide +kernel⟩
set_option maxHeartbeats 4000000 in
set_option maxRecDepth 100000 in
theorem c_A_regroup (l : Launch) (D : va_G) (h0 hm hu hxs hys hg1 hl1 hg2 hl2 : Nat) (cZ cI : ClassId) (u : Nat → Bool) (X Y : Nat → Int32) (L1 L2 : Nat → Nat)  (sz : Nat)   : SMv l y_A_regroup b_A_regroup 2 5 122 D [(h0, .inr (2, [.ref hm, .ref hg1, .ref hg2])), (hm, .inr (1, [.ref hu, .ref hxs, .ref hys])), (hu, .inl (cZ, 20, .inl (fun z9 => b2i (u z9)))), (hxs, .inl (cI, 40, .inl X)), (hys, .inl (cI, 40, .inl Y)), (hg1, .inr (0, [.ref hl1])), (hl1, .inl (cI, 41, .inl (fun z9 => nI (L1 z9)))), (hg2, .inr (0, [.ref hl2])), (hl2, .inl (cI, 20, .inl (fun z9 => nI (L2 z9))))] [(cZ, .boolean), (cI, .int)] [.ref h0] sz [(h0, .inr (2, [.ref hm, .ref hg1, .ref hg2])), (hm, .inr (1, [.ref hu, .ref hxs, .ref hys])), (hu, .inl (cZ, 20, .inl (fun z9 => b2i (u z9)))), (hxs, .inl (cI, 40, .inl X)), (hys, .inl (cI, 40, .inl Y)), (hg1, .inr (0, [.ref hl1])), (hl1, .inl (cI, 41, .inl (fun z9 => nI (((f_A_regroup u X Y L1 L2).1) z9)))), (hg2, .inr (0, [.ref hl2])), (hl2, .inl (cI, 20, .inl (fun z9 => nI (((f_A_regroup u X Y L1 L2).2) z9))))] := by
  refine sMet (Qc := fun A => sQv D [(h0, .inr (2, [.ref hm, .ref hg1, .ref hg2])), (hm, .inr (1, [.ref hu, .ref hxs, .ref hys])), (hu, .inl (cZ, 20, .inl (fun z9 => b2i (u z9)))), (hxs, .inl (cI, 40, .inl X)), (hys, .inl (cI, 40, .inl Y)), (hg1, .inr (0, [.ref hl1])), (hl1, .inl (cI, 41, .inl (fun z9 => nI (((f_A_regroup u X Y L1 L2).1) z9)))), (hg2, .inr (0, [.ref hl2])), (hl2, .inl (cI, 20, .inl (fun z9 => nI (((f_A_regroup u X Y L1 L2).2) z9))))] [(cZ, .boolean), (cI, .int)] A) rfl (fun p e s m below meth c A S hr hlk hP hK hD hA hS ls hl => ?_) (Nat.le_of_ble_eq_true rfl)
  have hx := S.1
  have hb := S.2.1
  have hl : lv_has ls 2 [(0, .ref h0)] := hl
  have key : ∀ (n : Nat) (a : Nat)  (M1 : Nat → Nat) (M2 : Nat → Nat) (hk : a + n = 40)  (H : Heap) (locs : List Loc) (hP : va_P D CLS [(h0, .inr (2, [.ref hm, .ref hg1, .ref hg2])), (hm, .inr (1, [.ref hu, .ref hxs, .ref hys])), (hu, .inl (cZ, 20, .inl (fun z9 => b2i (u z9)))), (hxs, .inl (cI, 40, .inl X)), (hys, .inl (cI, 40, .inl Y)), (hg1, .inr (0, [.ref hl1])), (hl1, .inl (cI, 41, .inl (fun z9 => nI (M1 z9)))), (hg2, .inr (0, [.ref hl2])), (hl2, .inl (cI, 20, .inl (fun z9 => nI (M2 z9))))] H) (hD : va_D A [(h0, .inr (2, [.ref hm, .ref hg1, .ref hg2])), (hm, .inr (1, [.ref hu, .ref hxs, .ref hys])), (hu, .inl (cZ, 20, .inl (fun z9 => b2i (u z9)))), (hxs, .inl (cI, 40, .inl X)), (hys, .inl (cI, 40, .inl Y)), (hg1, .inr (0, [.ref hl1])), (hl1, .inl (cI, 41, .inl (fun z9 => nI (M1 z9)))), (hg2, .inr (0, [.ref hl2])), (hl2, .inl (cI, 20, .inl (fun z9 => nI (M2 z9))))]) (hS : va_S A s.heap H locs) (ls : Array Slot) (hl : lv_has ls 2 [(0, .ref h0), (1, .int (nI (a)))]) (hf : f_A_regroup u X Y L1 L2 = fl_A_regroup u X Y L1 L2 n a M1 M2), W p l e { frames := 5, cells := 0, slots := 0, locals := 122 } s m [.ref h0].toArray below meth c H locs 0 0 (MQ below (sQv D [(h0, .inr (2, [.ref hm, .ref hg1, .ref hg2])), (hm, .inr (1, [.ref hu, .ref hxs, .ref hys])), (hu, .inl (cZ, 20, .inl (fun z9 => b2i (u z9)))), (hxs, .inl (cI, 40, .inl X)), (hys, .inl (cI, 40, .inl Y)), (hg1, .inr (0, [.ref hl1])), (hl1, .inl (cI, 41, .inl (fun z9 => nI (((f_A_regroup u X Y L1 L2).1) z9)))), (hg2, .inr (0, [.ref hl2])), (hl2, .inl (cI, 20, .inl (fun z9 => nI (((f_A_regroup u X Y L1 L2).2) z9))))] [(cZ, .boolean), (cI, .int)] A) [.ref h0].toArray s 0 0 A) (F0 m 16 ls []) := by
    clear hP hD hS hl
    intro n
    induction n with
    | zero =>
      intro a M1 M2 hk  H locs hP hD hS ls hl hf
      refine lv_iload_n hx hb d_A_regroup_16 rfl (lv_at hl 1 rfl) ?_
      refine lv_bipush (v := 40) hx hb d_A_regroup_17 (by decide) ?_
      refine lv_icmp_ge (tgt := 49) hx hb d_A_regroup_19 (by decide) (fun c1 => ?_) (fun c1 => ?_)
      · have c1a : 40 ≤ a := (nI_leI (a := 40) (b := a) (by decide) (by omega)).mp c1
        have eqf := (hf.trans (show fx_A_regroup u X Y L1 L2 a M1 M2 = (M1, M2) from rfl))
        exact rretV S hr hlk (by rw [eqf]) hP hK hD hS d_A_regroup_49
      · have c1a : ¬ (40 ≤ a) := fun h => c1 ((nI_leI (a := 40) (b := a) (by decide) (by omega)).mpr h)
        omega
    | succ n ih =>
      intro a M1 M2 hk  H locs hP hD hS ls hl hf
      refine lv_iload_n hx hb d_A_regroup_16 rfl (lv_at hl 1 rfl) ?_
      refine lv_bipush (v := 40) hx hb d_A_regroup_17 (by decide) ?_
      refine lv_icmp_ge (tgt := 49) hx hb d_A_regroup_19 (by decide) (fun c2 => ?_) (fun c2 => ?_)
      · have c2a : 40 ≤ a := (nI_leI (a := 40) (b := a) (by decide) (by omega)).mp c2
        omega
      · have c2a : ¬ (40 ≤ a) := fun h => c2 ((nI_leI (a := 40) (b := a) (by decide) (by omega)).mpr h)
        refine lv_aload_n hx hb d_A_regroup_22 rfl (lv_at hl 0 rfl) ?_
        refine rget S hK hP 0 rfl rfl in_A 0 (by decide) kF_A_12 rfl d_A_regroup_23 ?_
        refine lv_iload_n hx hb d_A_regroup_26 rfl (lv_at hl 1 rfl) ?_
        refine rcallV (rest := []) (v := b2i (f_M_hasArrow u X Y a)) S [.int (nI (a))] hK hP [1, 2, 3, 4] rfl [0, 1] rfl (c_M_hasArrow l D hm hu hxs hys cZ cI u X Y a (by omega)) i_M_hasArrow kL_A_55 ⟨Nat.le_of_ble_eq_true rfl, Nat.le_of_ble_eq_true rfl⟩ (by exact ⟨Nat.zero_le _, Nat.zero_le _⟩) (q0 := 0) (ci := 1) rfl rfl rfl hl.1 rfl (Nat.le_of_ble_eq_true rfl) d_A_regroup_27 ?_
        refine lv_if_eq (tgt := 43) hx hb d_A_regroup_30 (by decide) (fun c3 => ?_) (fun c3 => ?_)
        · have c3a : ¬ (f_M_hasArrow u X Y a = true) := b2n (b2i_eq0.mp c3)
          refine lv_iinc (v := nI (a + 1)) (lv' := [(1, .int (nI (a + 1))), (0, .ref h0)]) hx hb d_A_regroup_43 hl (k := 1) rfl (nI_1 (a)) (by decide) rfl (fun ls hl => ?_)
          refine lv_goto (tgt := 16) hx hb d_A_regroup_46 (by decide) ?_
          exact ih (a + 1) M1 M2 (by omega)  _ _ (hP.sub [0, 1, 2, 3, 4, 5, 6, 7, 8] rfl) (hD.sub [0, 1, 2, 3, 4, 5, 6, 7, 8] (by decide) rfl) hS ls (lv_sub hl [1, 0] rfl) (hf.trans (show fb_A_regroup u X Y L1 L2 (fl_A_regroup u X Y L1 L2 n) a M1 M2 = (fl_A_regroup u X Y L1 L2 n (a + 1) M1 M2) from by unfold fb_A_regroup; rw [if_neg c3a]))
        · have c3a : f_M_hasArrow u X Y a = true := b2i_ne0.mp c3
          refine lv_aload_n hx hb d_A_regroup_33 rfl (lv_at hl 0 rfl) ?_
          refine lv_iload_n hx hb d_A_regroup_34 rfl (lv_at hl 1 rfl) ?_
          refine rcallVv (rest := []) (wc := [(h0, .inr (2, [.ref hm, .ref hg1, .ref hg2])), (hm, .inr (1, [.ref hu, .ref hxs, .ref hys])), (hu, .inl (cZ, 20, .inl (fun z9 => b2i (u z9)))), (hxs, .inl (cI, 40, .inl X)), (hys, .inl (cI, 40, .inl Y)), (hg1, .inr (0, [.ref hl1])), (hl1, .inl (cI, 41, .inl (fun z9 => nI (M1 z9)))), (hg2, .inr (0, [.ref hl2])), (hl2, .inl (cI, 20, .inl (fun z9 => nI (M2 z9))))]) (wr := []) (w1 := [(h0, .inr (2, [.ref hm, .ref hg1, .ref hg2])), (hm, .inr (1, [.ref hu, .ref hxs, .ref hys])), (hu, .inl (cZ, 20, .inl (fun z9 => b2i (u z9)))), (hxs, .inl (cI, 40, .inl X)), (hys, .inl (cI, 40, .inl Y)), (hg1, .inr (0, [.ref hl1])), (hl1, .inl (cI, 41, .inl (fun z9 => nI (((f_A_joinWithNextAroundTail u X Y M1 M2 a).1) z9)))), (hg2, .inr (0, [.ref hl2])), (hl2, .inl (cI, 20, .inl (fun z9 => nI (((f_A_joinWithNextAroundTail u X Y M1 M2 a).2) z9))))]) S [.int (nI (a))] hK hP hD hS hA [0, 1, 2, 3, 4, 5, 6, 7, 8] [] rfl rfl (by decide) rfl (by decide) (by decide) [0, 1] rfl (c_A_joinWithNextAroundTail l D h0 hm hu hxs hys hg1 hl1 hg2 hl2 cZ cI u X Y M1 M2 a _ (by omega)) i_A_joinWithNextAroundTail kL_A_89 ⟨Nat.le_of_ble_eq_true rfl, Nat.le_of_ble_eq_true rfl⟩ ⟨Nat.zero_le _, Nat.zero_le _⟩ (q0 := 0) (ci := 2) rfl rfl rfl hl.1 rfl (Nat.le_of_ble_eq_true rfl) d_A_regroup_35 (fun H locs hP hD hS => ?_)
          have hP : va_P D CLS [(h0, .inr (2, [.ref hm, .ref hg1, .ref hg2])), (hm, .inr (1, [.ref hu, .ref hxs, .ref hys])), (hu, .inl (cZ, 20, .inl (fun z9 => b2i (u z9)))), (hxs, .inl (cI, 40, .inl X)), (hys, .inl (cI, 40, .inl Y)), (hg1, .inr (0, [.ref hl1])), (hl1, .inl (cI, 41, .inl (fun z9 => nI (((f_A_joinWithNextAroundTail u X Y M1 M2 a).1) z9)))), (hg2, .inr (0, [.ref hl2])), (hl2, .inl (cI, 20, .inl (fun z9 => nI (((f_A_joinWithNextAroundTail u X Y M1 M2 a).2) z9))))] H := hP
          have hD : va_D A [(h0, .inr (2, [.ref hm, .ref hg1, .ref hg2])), (hm, .inr (1, [.ref hu, .ref hxs, .ref hys])), (hu, .inl (cZ, 20, .inl (fun z9 => b2i (u z9)))), (hxs, .inl (cI, 40, .inl X)), (hys, .inl (cI, 40, .inl Y)), (hg1, .inr (0, [.ref hl1])), (hl1, .inl (cI, 41, .inl (fun z9 => nI (((f_A_joinWithNextAroundTail u X Y M1 M2 a).1) z9)))), (hg2, .inr (0, [.ref hl2])), (hl2, .inl (cI, 20, .inl (fun z9 => nI (((f_A_joinWithNextAroundTail u X Y M1 M2 a).2) z9))))] := hD
          refine lv_aload_n hx hb d_A_regroup_38 rfl (lv_at hl 0 rfl) ?_
          refine lv_iload_n hx hb d_A_regroup_39 rfl (lv_at hl 1 rfl) ?_
          refine rcallVv (rest := []) (wc := [(h0, .inr (2, [.ref hm, .ref hg1, .ref hg2])), (hm, .inr (1, [.ref hu, .ref hxs, .ref hys])), (hu, .inl (cZ, 20, .inl (fun z9 => b2i (u z9)))), (hxs, .inl (cI, 40, .inl X)), (hys, .inl (cI, 40, .inl Y)), (hg1, .inr (0, [.ref hl1])), (hl1, .inl (cI, 41, .inl (fun z9 => nI (((f_A_joinWithNextAroundTail u X Y M1 M2 a).1) z9)))), (hg2, .inr (0, [.ref hl2])), (hl2, .inl (cI, 20, .inl (fun z9 => nI (((f_A_joinWithNextAroundTail u X Y M1 M2 a).2) z9))))]) (wr := []) (w1 := [(h0, .inr (2, [.ref hm, .ref hg1, .ref hg2])), (hm, .inr (1, [.ref hu, .ref hxs, .ref hys])), (hu, .inl (cZ, 20, .inl (fun z9 => b2i (u z9)))), (hxs, .inl (cI, 40, .inl X)), (hys, .inl (cI, 40, .inl Y)), (hg1, .inr (0, [.ref hl1])), (hl1, .inl (cI, 41, .inl (fun z9 => nI (((f_A_joinWithWhatIsAbove u X Y ((f_A_joinWithNextAroundTail u X Y M1 M2 a).1) ((f_A_joinWithNextAroundTail u X Y M1 M2 a).2) a).1) z9)))), (hg2, .inr (0, [.ref hl2])), (hl2, .inl (cI, 20, .inl (fun z9 => nI (((f_A_joinWithWhatIsAbove u X Y ((f_A_joinWithNextAroundTail u X Y M1 M2 a).1) ((f_A_joinWithNextAroundTail u X Y M1 M2 a).2) a).2) z9))))]) S [.int (nI (a))] hK hP hD hS hA [0, 1, 2, 3, 4, 5, 6, 7, 8] [] rfl rfl (by decide) rfl (by decide) (by decide) [0, 1] rfl (c_A_joinWithWhatIsAbove l D h0 hm hu hxs hys hg1 hl1 hg2 hl2 cZ cI u X Y ((f_A_joinWithNextAroundTail u X Y M1 M2 a).1) ((f_A_joinWithNextAroundTail u X Y M1 M2 a).2) a _ (by omega)) i_A_joinWithWhatIsAbove kL_A_92 ⟨Nat.le_of_ble_eq_true rfl, Nat.le_of_ble_eq_true rfl⟩ ⟨Nat.zero_le _, Nat.zero_le _⟩ (q0 := 0) (ci := 2) rfl rfl rfl hl.1 rfl (Nat.le_of_ble_eq_true rfl) d_A_regroup_40 (fun H locs hP hD hS => ?_)
          have hP : va_P D CLS [(h0, .inr (2, [.ref hm, .ref hg1, .ref hg2])), (hm, .inr (1, [.ref hu, .ref hxs, .ref hys])), (hu, .inl (cZ, 20, .inl (fun z9 => b2i (u z9)))), (hxs, .inl (cI, 40, .inl X)), (hys, .inl (cI, 40, .inl Y)), (hg1, .inr (0, [.ref hl1])), (hl1, .inl (cI, 41, .inl (fun z9 => nI (((f_A_joinWithWhatIsAbove u X Y ((f_A_joinWithNextAroundTail u X Y M1 M2 a).1) ((f_A_joinWithNextAroundTail u X Y M1 M2 a).2) a).1) z9)))), (hg2, .inr (0, [.ref hl2])), (hl2, .inl (cI, 20, .inl (fun z9 => nI (((f_A_joinWithWhatIsAbove u X Y ((f_A_joinWithNextAroundTail u X Y M1 M2 a).1) ((f_A_joinWithNextAroundTail u X Y M1 M2 a).2) a).2) z9))))] H := hP
          have hD : va_D A [(h0, .inr (2, [.ref hm, .ref hg1, .ref hg2])), (hm, .inr (1, [.ref hu, .ref hxs, .ref hys])), (hu, .inl (cZ, 20, .inl (fun z9 => b2i (u z9)))), (hxs, .inl (cI, 40, .inl X)), (hys, .inl (cI, 40, .inl Y)), (hg1, .inr (0, [.ref hl1])), (hl1, .inl (cI, 41, .inl (fun z9 => nI (((f_A_joinWithWhatIsAbove u X Y ((f_A_joinWithNextAroundTail u X Y M1 M2 a).1) ((f_A_joinWithNextAroundTail u X Y M1 M2 a).2) a).1) z9)))), (hg2, .inr (0, [.ref hl2])), (hl2, .inl (cI, 20, .inl (fun z9 => nI (((f_A_joinWithWhatIsAbove u X Y ((f_A_joinWithNextAroundTail u X Y M1 M2 a).1) ((f_A_joinWithNextAroundTail u X Y M1 M2 a).2) a).2) z9))))] := hD
          refine lv_iinc (v := nI (a + 1)) (lv' := [(1, .int (nI (a + 1))), (0, .ref h0)]) hx hb d_A_regroup_43 hl (k := 1) rfl (nI_1 (a)) (by decide) rfl (fun ls hl => ?_)
          refine lv_goto (tgt := 16) hx hb d_A_regroup_46 (by decide) ?_
          exact ih (a + 1) ((f_A_joinWithWhatIsAbove u X Y ((f_A_joinWithNextAroundTail u X Y M1 M2 a).1) ((f_A_joinWithNextAroundTail u X Y M1 M2 a).2) a).1) ((f_A_joinWithWhatIsAbove u X Y ((f_A_joinWithNextAroundTail u X Y M1 M2 a).1) ((f_A_joinWithNextAroundTail u X Y M1 M2 a).2) a).2) (by omega)  _ _ (hP.sub [0, 1, 2, 3, 4, 5, 6, 7, 8] rfl) (hD.sub [0, 1, 2, 3, 4, 5, 6, 7, 8] (by decide) rfl) hS ls (lv_sub hl [1, 0] rfl) (hf.trans (show fb_A_regroup u X Y L1 L2 (fl_A_regroup u X Y L1 L2 n) a M1 M2 = (fl_A_regroup u X Y L1 L2 n (a + 1) ((f_A_joinWithWhatIsAbove u X Y ((f_A_joinWithNextAroundTail u X Y M1 M2 a).1) ((f_A_joinWithNextAroundTail u X Y M1 M2 a).2) a).1) ((f_A_joinWithWhatIsAbove u X Y ((f_A_joinWithNextAroundTail u X Y M1 M2 a).1) ((f_A_joinWithNextAroundTail u X Y M1 M2 a).2) a).2)) from by unfold fb_A_regroup; rw [if_pos c3a]))
  refine lv_aload_n hx hb d_A_regroup_0 rfl (lv_at hl 0 rfl) ?_
  refine rget S hK hP 0 rfl rfl in_A 1 (by decide) kF_A_21 rfl d_A_regroup_1 ?_
  refine rcallVv (rest := []) (wc := [(hg1, .inr (0, [.ref hl1])), (hl1, .inl (cI, 41, .inl (fun z9 => nI (L1 z9))))]) (wr := [(h0, .inr (2, [.ref hm, .ref hg1, .ref hg2])), (hm, .inr (1, [.ref hu, .ref hxs, .ref hys])), (hu, .inl (cZ, 20, .inl (fun z9 => b2i (u z9)))), (hxs, .inl (cI, 40, .inl X)), (hys, .inl (cI, 40, .inl Y)), (hg2, .inr (0, [.ref hl2])), (hl2, .inl (cI, 20, .inl (fun z9 => nI (L2 z9))))]) (w1 := [(hg1, .inr (0, [.ref hl1])), (hl1, .inl (cI, 41, .inl (fun z9 => nI ((f_G_scatter 41 L1) z9))))]) S [] hK hP hD hS hA [5, 6] [0, 1, 2, 3, 4, 7, 8] rfl rfl (by decide) rfl (by decide) (by decide) [1] rfl (c_G_scatter l D hg1 hl1 cI 41 L1  _ (by first | decide | omega)) i_G_scatter kL_A_86 ⟨Nat.le_of_ble_eq_true rfl, Nat.le_of_ble_eq_true rfl⟩ ⟨Nat.zero_le _, Nat.zero_le _⟩ (q0 := 0) (ci := 0) rfl rfl rfl hl.1 rfl (Nat.le_of_ble_eq_true rfl) d_A_regroup_4 (fun H locs hP hD hS => ?_)
  have hP : va_P D CLS [(h0, .inr (2, [.ref hm, .ref hg1, .ref hg2])), (hm, .inr (1, [.ref hu, .ref hxs, .ref hys])), (hu, .inl (cZ, 20, .inl (fun z9 => b2i (u z9)))), (hxs, .inl (cI, 40, .inl X)), (hys, .inl (cI, 40, .inl Y)), (hg2, .inr (0, [.ref hl2])), (hl2, .inl (cI, 20, .inl (fun z9 => nI (L2 z9)))), (hg1, .inr (0, [.ref hl1])), (hl1, .inl (cI, 41, .inl (fun z9 => nI ((f_G_scatter 41 L1) z9))))] H := hP
  have hD : va_D A [(h0, .inr (2, [.ref hm, .ref hg1, .ref hg2])), (hm, .inr (1, [.ref hu, .ref hxs, .ref hys])), (hu, .inl (cZ, 20, .inl (fun z9 => b2i (u z9)))), (hxs, .inl (cI, 40, .inl X)), (hys, .inl (cI, 40, .inl Y)), (hg2, .inr (0, [.ref hl2])), (hl2, .inl (cI, 20, .inl (fun z9 => nI (L2 z9)))), (hg1, .inr (0, [.ref hl1])), (hl1, .inl (cI, 41, .inl (fun z9 => nI ((f_G_scatter 41 L1) z9))))] := hD
  refine lv_aload_n hx hb d_A_regroup_7 rfl (lv_at hl 0 rfl) ?_
  refine rget S hK hP 0 rfl rfl in_A 2 (by decide) kF_A_25 rfl d_A_regroup_8 ?_
  refine rcallVv (rest := []) (wc := [(hg2, .inr (0, [.ref hl2])), (hl2, .inl (cI, 20, .inl (fun z9 => nI (L2 z9))))]) (wr := [(h0, .inr (2, [.ref hm, .ref hg1, .ref hg2])), (hm, .inr (1, [.ref hu, .ref hxs, .ref hys])), (hu, .inl (cZ, 20, .inl (fun z9 => b2i (u z9)))), (hxs, .inl (cI, 40, .inl X)), (hys, .inl (cI, 40, .inl Y)), (hg1, .inr (0, [.ref hl1])), (hl1, .inl (cI, 41, .inl (fun z9 => nI ((f_G_scatter 41 L1) z9))))]) (w1 := [(hg2, .inr (0, [.ref hl2])), (hl2, .inl (cI, 20, .inl (fun z9 => nI ((f_G_scatter 20 L2) z9))))]) S [] hK hP hD hS hA [5, 6] [0, 1, 2, 3, 4, 7, 8] rfl rfl (by decide) rfl (by decide) (by decide) [1] rfl (c_G_scatter l D hg2 hl2 cI 20 L2  _ (by first | decide | omega)) i_G_scatter kL_A_86 ⟨Nat.le_of_ble_eq_true rfl, Nat.le_of_ble_eq_true rfl⟩ ⟨Nat.zero_le _, Nat.zero_le _⟩ (q0 := 0) (ci := 0) rfl rfl rfl hl.1 rfl (Nat.le_of_ble_eq_true rfl) d_A_regroup_11 (fun H locs hP hD hS => ?_)
  have hP : va_P D CLS [(h0, .inr (2, [.ref hm, .ref hg1, .ref hg2])), (hm, .inr (1, [.ref hu, .ref hxs, .ref hys])), (hu, .inl (cZ, 20, .inl (fun z9 => b2i (u z9)))), (hxs, .inl (cI, 40, .inl X)), (hys, .inl (cI, 40, .inl Y)), (hg1, .inr (0, [.ref hl1])), (hl1, .inl (cI, 41, .inl (fun z9 => nI ((f_G_scatter 41 L1) z9)))), (hg2, .inr (0, [.ref hl2])), (hl2, .inl (cI, 20, .inl (fun z9 => nI ((f_G_scatter 20 L2) z9))))] H := hP
  have hD : va_D A [(h0, .inr (2, [.ref hm, .ref hg1, .ref hg2])), (hm, .inr (1, [.ref hu, .ref hxs, .ref hys])), (hu, .inl (cZ, 20, .inl (fun z9 => b2i (u z9)))), (hxs, .inl (cI, 40, .inl X)), (hys, .inl (cI, 40, .inl Y)), (hg1, .inr (0, [.ref hl1])), (hl1, .inl (cI, 41, .inl (fun z9 => nI ((f_G_scatter 41 L1) z9)))), (hg2, .inr (0, [.ref hl2])), (hl2, .inl (cI, 20, .inl (fun z9 => nI ((f_G_scatter 20 L2) z9))))] := hD
  refine lv_iconst (v := 0) hx hb d_A_regroup_14 (by decide) ?_
  refine lv_istore_n (lv' := [(1, .int 0), (0, .ref h0)]) hx hb d_A_regroup_15 rfl hl (by decide) rfl (fun ls hl => ?_)
  exact key 40 0 (f_G_scatter 41 L1) (f_G_scatter 20 L2) (by omega)  _ _ (hP.sub [0, 1, 2, 3, 4, 5, 6, 7, 8] rfl) (hD.sub [0, 1, 2, 3, 4, 5, 6, 7, 8] (by decide) rfl) hS ls (lv_sub hl [1, 0] rfl) (show f_A_regroup u X Y L1 L2 = (fl_A_regroup u X Y L1 L2 40 0 (f_G_scatter 41 L1) (f_G_scatter 20 L2)) from rfl)
def f_A_remove (u : Nat → Bool) (X : Nat → Int32) (Y : Nat → Int32) (L1 : Nat → Nat) (L2 : Nat → Nat) (k : Int32) : (Bool) × (Nat → Bool) × (Nat → Int32) × (Nat → Int32) × (Nat → Nat) × (Nat → Nat) := if f_M_has u X Y k = true then (true, f_M_setUsed u X Y k.toNatClampNeg false, X, Y, (f_A_regroup (f_M_setUsed u X Y k.toNatClampNeg false) X Y L1 L2).1, (f_A_regroup (f_M_setUsed u X Y k.toNatClampNeg false) X Y L1 L2).2) else (false, u, X, Y, L1, L2)
theorem i_A_remove : inV y_A_remove b_A_remove 2 (some .boolean) 1 := ⟨kM_y_A_remove, kV_y_A_remove, kI_A, kY_y_A_remove, by decide +kernel⟩
set_option maxHeartbeats 4000000 in
set_option maxRecDepth 100000 in
theorem c_A_remove (l : Launch) (D : va_G) (h0 hm hu hxs hys hg1 hl1 hg2 hl2 : Nat) (cZ cI : ClassId) (u : Nat → Bool) (X Y : Nat → Int32) (L1 L2 : Nat → Nat) (k : Int32) (sz : Nat)   : SMi l y_A_remove b_A_remove 2 (some .boolean) 6 143 D [(h0, .inr (2, [.ref hm, .ref hg1, .ref hg2])), (hm, .inr (1, [.ref hu, .ref hxs, .ref hys])), (hu, .inl (cZ, 20, .inl (fun z9 => b2i (u z9)))), (hxs, .inl (cI, 40, .inl X)), (hys, .inl (cI, 40, .inl Y)), (hg1, .inr (0, [.ref hl1])), (hl1, .inl (cI, 41, .inl (fun z9 => nI (L1 z9)))), (hg2, .inr (0, [.ref hl2])), (hl2, .inl (cI, 20, .inl (fun z9 => nI (L2 z9))))] [(cZ, .boolean), (cI, .int)] [.ref h0, .int k] sz (b2i ((f_A_remove u X Y L1 L2 k).1)) [(h0, .inr (2, [.ref hm, .ref hg1, .ref hg2])), (hm, .inr (1, [.ref hu, .ref hxs, .ref hys])), (hu, .inl (cZ, 20, .inl (fun z9 => b2i (((f_A_remove u X Y L1 L2 k).2.1) z9)))), (hxs, .inl (cI, 40, .inl ((f_A_remove u X Y L1 L2 k).2.2.1))), (hys, .inl (cI, 40, .inl ((f_A_remove u X Y L1 L2 k).2.2.2.1))), (hg1, .inr (0, [.ref hl1])), (hl1, .inl (cI, 41, .inl (fun z9 => nI (((f_A_remove u X Y L1 L2 k).2.2.2.2.1) z9)))), (hg2, .inr (0, [.ref hl2])), (hl2, .inl (cI, 20, .inl (fun z9 => nI (((f_A_remove u X Y L1 L2 k).2.2.2.2.2) z9))))] := by
  refine sMet (Qc := fun A => sQi (b2i ((f_A_remove u X Y L1 L2 k).1)) D [(h0, .inr (2, [.ref hm, .ref hg1, .ref hg2])), (hm, .inr (1, [.ref hu, .ref hxs, .ref hys])), (hu, .inl (cZ, 20, .inl (fun z9 => b2i (((f_A_remove u X Y L1 L2 k).2.1) z9)))), (hxs, .inl (cI, 40, .inl ((f_A_remove u X Y L1 L2 k).2.2.1))), (hys, .inl (cI, 40, .inl ((f_A_remove u X Y L1 L2 k).2.2.2.1))), (hg1, .inr (0, [.ref hl1])), (hl1, .inl (cI, 41, .inl (fun z9 => nI (((f_A_remove u X Y L1 L2 k).2.2.2.2.1) z9)))), (hg2, .inr (0, [.ref hl2])), (hl2, .inl (cI, 20, .inl (fun z9 => nI (((f_A_remove u X Y L1 L2 k).2.2.2.2.2) z9))))] [(cZ, .boolean), (cI, .int)] A) rfl (fun p e s m below meth c A S hr hlk hP hK hD hA hS ls hl => ?_) (Nat.le_of_ble_eq_true rfl)
  have hx := S.1
  have hb := S.2.1
  have hl : lv_has ls 2 [(0, .ref h0), (1, .int k)] := hl
  refine lv_aload_n hx hb d_A_remove_0 rfl (lv_at hl 0 rfl) ?_
  refine rget S hK hP 0 rfl rfl in_A 0 (by decide) kF_A_12 rfl d_A_remove_1 ?_
  refine lv_iload_n hx hb d_A_remove_4 rfl (lv_at hl 1 rfl) ?_
  refine rcallV (rest := []) (v := b2i (f_M_has u X Y k)) S [.int k] hK hP [1, 2, 3, 4] rfl [0, 1] rfl (c_M_has l D hm hu hxs hys cZ cI u X Y k ) i_M_has kL_A_51 ⟨Nat.le_of_ble_eq_true rfl, Nat.le_of_ble_eq_true rfl⟩ (by exact ⟨Nat.zero_le _, Nat.zero_le _⟩) (q0 := 0) (ci := 1) rfl rfl rfl hl.1 rfl (Nat.le_of_ble_eq_true rfl) d_A_remove_5 ?_
  refine lv_if_ne (tgt := 13) hx hb d_A_remove_8 (by decide) (fun c1 => ?_) (fun c1 => ?_)
  · have c1a : f_M_has u X Y k = true := b2i_ne0.mp c1
    have ek2 : k = nI (k.toNatClampNeg) := (has_ok c1a).1
    have hk2 : k.toNatClampNeg < 20 := (has_ok c1a).2.1
    rw [ek2] at hl
    refine lv_aload_n hx hb d_A_remove_13 rfl (lv_at hl 0 rfl) ?_
    refine rget S hK hP 0 rfl rfl in_A 0 (by decide) kF_A_12 rfl d_A_remove_14 ?_
    refine lv_iload_n hx hb d_A_remove_17 rfl (lv_at hl 1 rfl) ?_
    refine lv_iconst (v := 0) hx hb d_A_remove_18 (by decide) ?_
    refine rcallVv (rest := []) (wc := [(hm, .inr (1, [.ref hu, .ref hxs, .ref hys])), (hu, .inl (cZ, 20, .inl (fun z9 => b2i (u z9)))), (hxs, .inl (cI, 40, .inl X)), (hys, .inl (cI, 40, .inl Y))]) (wr := [(h0, .inr (2, [.ref hm, .ref hg1, .ref hg2])), (hg1, .inr (0, [.ref hl1])), (hl1, .inl (cI, 41, .inl (fun z9 => nI (L1 z9)))), (hg2, .inr (0, [.ref hl2])), (hl2, .inl (cI, 20, .inl (fun z9 => nI (L2 z9))))]) (w1 := [(hm, .inr (1, [.ref hu, .ref hxs, .ref hys])), (hu, .inl (cZ, 20, .inl (fun z9 => b2i ((f_M_setUsed u X Y k.toNatClampNeg false) z9)))), (hxs, .inl (cI, 40, .inl X)), (hys, .inl (cI, 40, .inl Y))]) S [.int (nI (k.toNatClampNeg)), .int 0] hK hP hD hS hA [1, 2, 3, 4] [0, 5, 6, 7, 8] rfl rfl (by decide) rfl (by decide) (by decide) [0, 1] rfl (c_M_setUsed l D hm hu hxs hys cZ cI u X Y k.toNatClampNeg false _ (by omega)) i_M_setUsed kL_A_44 ⟨Nat.le_of_ble_eq_true rfl, Nat.le_of_ble_eq_true rfl⟩ ⟨Nat.zero_le _, Nat.zero_le _⟩ (q0 := 0) (ci := 1) rfl rfl rfl hl.1 rfl (Nat.le_of_ble_eq_true rfl) d_A_remove_19 (fun H locs hP hD hS => ?_)
    have hP : va_P D CLS [(h0, .inr (2, [.ref hm, .ref hg1, .ref hg2])), (hg1, .inr (0, [.ref hl1])), (hl1, .inl (cI, 41, .inl (fun z9 => nI (L1 z9)))), (hg2, .inr (0, [.ref hl2])), (hl2, .inl (cI, 20, .inl (fun z9 => nI (L2 z9)))), (hm, .inr (1, [.ref hu, .ref hxs, .ref hys])), (hu, .inl (cZ, 20, .inl (fun z9 => b2i ((f_M_setUsed u X Y k.toNatClampNeg false) z9)))), (hxs, .inl (cI, 40, .inl X)), (hys, .inl (cI, 40, .inl Y))] H := hP
    have hD : va_D A [(h0, .inr (2, [.ref hm, .ref hg1, .ref hg2])), (hg1, .inr (0, [.ref hl1])), (hl1, .inl (cI, 41, .inl (fun z9 => nI (L1 z9)))), (hg2, .inr (0, [.ref hl2])), (hl2, .inl (cI, 20, .inl (fun z9 => nI (L2 z9)))), (hm, .inr (1, [.ref hu, .ref hxs, .ref hys])), (hu, .inl (cZ, 20, .inl (fun z9 => b2i ((f_M_setUsed u X Y k.toNatClampNeg false) z9)))), (hxs, .inl (cI, 40, .inl X)), (hys, .inl (cI, 40, .inl Y))] := hD
    refine lv_aload_n hx hb d_A_remove_22 rfl (lv_at hl 0 rfl) ?_
    refine rcallVv (rest := []) (wc := [(h0, .inr (2, [.ref hm, .ref hg1, .ref hg2])), (hm, .inr (1, [.ref hu, .ref hxs, .ref hys])), (hu, .inl (cZ, 20, .inl (fun z9 => b2i ((f_M_setUsed u X Y k.toNatClampNeg false) z9)))), (hxs, .inl (cI, 40, .inl X)), (hys, .inl (cI, 40, .inl Y)), (hg1, .inr (0, [.ref hl1])), (hl1, .inl (cI, 41, .inl (fun z9 => nI (L1 z9)))), (hg2, .inr (0, [.ref hl2])), (hl2, .inl (cI, 20, .inl (fun z9 => nI (L2 z9))))]) (wr := []) (w1 := [(h0, .inr (2, [.ref hm, .ref hg1, .ref hg2])), (hm, .inr (1, [.ref hu, .ref hxs, .ref hys])), (hu, .inl (cZ, 20, .inl (fun z9 => b2i ((f_M_setUsed u X Y k.toNatClampNeg false) z9)))), (hxs, .inl (cI, 40, .inl X)), (hys, .inl (cI, 40, .inl Y)), (hg1, .inr (0, [.ref hl1])), (hl1, .inl (cI, 41, .inl (fun z9 => nI (((f_A_regroup (f_M_setUsed u X Y k.toNatClampNeg false) X Y L1 L2).1) z9)))), (hg2, .inr (0, [.ref hl2])), (hl2, .inl (cI, 20, .inl (fun z9 => nI (((f_A_regroup (f_M_setUsed u X Y k.toNatClampNeg false) X Y L1 L2).2) z9))))]) S [] hK hP hD hS hA [0, 5, 6, 7, 8, 1, 2, 3, 4] [] rfl rfl (by decide) rfl (by decide) (by decide) [0, 1] rfl (c_A_regroup l D h0 hm hu hxs hys hg1 hl1 hg2 hl2 cZ cI (f_M_setUsed u X Y k.toNatClampNeg false) X Y L1 L2  _ ) i_A_regroup kL_A_48 ⟨Nat.le_of_ble_eq_true rfl, Nat.le_of_ble_eq_true rfl⟩ ⟨Nat.zero_le _, Nat.zero_le _⟩ (q0 := 0) (ci := 2) rfl rfl rfl hl.1 rfl (Nat.le_of_ble_eq_true rfl) d_A_remove_23 (fun H locs hP hD hS => ?_)
    have hP : va_P D CLS [(h0, .inr (2, [.ref hm, .ref hg1, .ref hg2])), (hm, .inr (1, [.ref hu, .ref hxs, .ref hys])), (hu, .inl (cZ, 20, .inl (fun z9 => b2i ((f_M_setUsed u X Y k.toNatClampNeg false) z9)))), (hxs, .inl (cI, 40, .inl X)), (hys, .inl (cI, 40, .inl Y)), (hg1, .inr (0, [.ref hl1])), (hl1, .inl (cI, 41, .inl (fun z9 => nI (((f_A_regroup (f_M_setUsed u X Y k.toNatClampNeg false) X Y L1 L2).1) z9)))), (hg2, .inr (0, [.ref hl2])), (hl2, .inl (cI, 20, .inl (fun z9 => nI (((f_A_regroup (f_M_setUsed u X Y k.toNatClampNeg false) X Y L1 L2).2) z9))))] H := hP
    have hD : va_D A [(h0, .inr (2, [.ref hm, .ref hg1, .ref hg2])), (hm, .inr (1, [.ref hu, .ref hxs, .ref hys])), (hu, .inl (cZ, 20, .inl (fun z9 => b2i ((f_M_setUsed u X Y k.toNatClampNeg false) z9)))), (hxs, .inl (cI, 40, .inl X)), (hys, .inl (cI, 40, .inl Y)), (hg1, .inr (0, [.ref hl1])), (hl1, .inl (cI, 41, .inl (fun z9 => nI (((f_A_regroup (f_M_setUsed u X Y k.toNatClampNeg false) X Y L1 L2).1) z9)))), (hg2, .inr (0, [.ref hl2])), (hl2, .inl (cI, 20, .inl (fun z9 => nI (((f_A_regroup (f_M_setUsed u X Y k.toNatClampNeg false) X Y L1 L2).2) z9))))] := hD
    refine lv_iconst (v := 1) hx hb d_A_remove_26 (by decide) ?_
    have eqf := (show f_A_remove u X Y L1 L2 k = (true, f_M_setUsed u X Y k.toNatClampNeg false, X, Y, (f_A_regroup (f_M_setUsed u X Y k.toNatClampNeg false) X Y L1 L2).1, (f_A_regroup (f_M_setUsed u X Y k.toNatClampNeg false) X Y L1 L2).2) from by unfold f_A_remove; rw [if_pos c1a])
    exact rretB S hr hlk (v := true) (by rw [eqf]) (by rw [eqf]) hP hK hD hS d_A_remove_27
  · have c1a : ¬ (f_M_has u X Y k = true) := b2n (b2i_eq0.mp c1)
    refine lv_iconst (v := 0) hx hb d_A_remove_11 (by decide) ?_
    have eqf := (show f_A_remove u X Y L1 L2 k = (false, u, X, Y, L1, L2) from by unfold f_A_remove; rw [if_neg c1a])
    exact rretB S hr hlk (v := false) (by rw [eqf]) (by rw [eqf]) hP hK hD hS d_A_remove_12
def f_A_add (u : Nat → Bool) (X : Nat → Int32) (Y : Nat → Int32) (L1 : Nat → Nat) (L2 : Nat → Nat) (x : Int32) (y : Int32) (z : Int32) (w : Int32) : (Int32) × (Nat → Bool) × (Nat → Int32) × (Nat → Int32) × (Nat → Nat) × (Nat → Nat) := if f_A_isNearby x y = true then (if f_A_isNearby z w = true then (if x = z then (if y = w then ((-2), u, X, Y, L1, L2) else (if (f_M_leastUnusedNumber u X Y) = (-1) then ((-3), u, X, Y, L1, L2) else (if (f_M_leastMeeting u ((f_M_sketch u X Y ((f_M_leastUnusedNumber u X Y).toNatClampNeg) x y z w).1) ((f_M_sketch u X Y ((f_M_leastUnusedNumber u X Y).toNatClampNeg) x y z w).2) ((f_M_leastUnusedNumber u X Y).toNatClampNeg)) = (-1) then (nI ((f_M_leastUnusedNumber u X Y).toNatClampNeg), f_M_setUsed u ((f_M_sketch u X Y ((f_M_leastUnusedNumber u X Y).toNatClampNeg) x y z w).1) ((f_M_sketch u X Y ((f_M_leastUnusedNumber u X Y).toNatClampNeg) x y z w).2) ((f_M_leastUnusedNumber u X Y).toNatClampNeg) true, (f_M_sketch u X Y ((f_M_leastUnusedNumber u X Y).toNatClampNeg) x y z w).1, (f_M_sketch u X Y ((f_M_leastUnusedNumber u X Y).toNatClampNeg) x y z w).2, (f_A_regroup (f_M_setUsed u ((f_M_sketch u X Y ((f_M_leastUnusedNumber u X Y).toNatClampNeg) x y z w).1) ((f_M_sketch u X Y ((f_M_leastUnusedNumber u X Y).toNatClampNeg) x y z w).2) ((f_M_leastUnusedNumber u X Y).toNatClampNeg) true) ((f_M_sketch u X Y ((f_M_leastUnusedNumber u X Y).toNatClampNeg) x y z w).1) ((f_M_sketch u X Y ((f_M_leastUnusedNumber u X Y).toNatClampNeg) x y z w).2) L1 L2).1, (f_A_regroup (f_M_setUsed u ((f_M_sketch u X Y ((f_M_leastUnusedNumber u X Y).toNatClampNeg) x y z w).1) ((f_M_sketch u X Y ((f_M_leastUnusedNumber u X Y).toNatClampNeg) x y z w).2) ((f_M_leastUnusedNumber u X Y).toNatClampNeg) true) ((f_M_sketch u X Y ((f_M_leastUnusedNumber u X Y).toNatClampNeg) x y z w).1) ((f_M_sketch u X Y ((f_M_leastUnusedNumber u X Y).toNatClampNeg) x y z w).2) L1 L2).2) else (((-10) - (f_M_leastMeeting u ((f_M_sketch u X Y ((f_M_leastUnusedNumber u X Y).toNatClampNeg) x y z w).1) ((f_M_sketch u X Y ((f_M_leastUnusedNumber u X Y).toNatClampNeg) x y z w).2) ((f_M_leastUnusedNumber u X Y).toNatClampNeg))), u, (f_M_sketch u X Y ((f_M_leastUnusedNumber u X Y).toNatClampNeg) x y z w).1, (f_M_sketch u X Y ((f_M_leastUnusedNumber u X Y).toNatClampNeg) x y z w).2, L1, L2)))) else (if (f_M_leastUnusedNumber u X Y) = (-1) then ((-3), u, X, Y, L1, L2) else (if (f_M_leastMeeting u ((f_M_sketch u X Y ((f_M_leastUnusedNumber u X Y).toNatClampNeg) x y z w).1) ((f_M_sketch u X Y ((f_M_leastUnusedNumber u X Y).toNatClampNeg) x y z w).2) ((f_M_leastUnusedNumber u X Y).toNatClampNeg)) = (-1) then (nI ((f_M_leastUnusedNumber u X Y).toNatClampNeg), f_M_setUsed u ((f_M_sketch u X Y ((f_M_leastUnusedNumber u X Y).toNatClampNeg) x y z w).1) ((f_M_sketch u X Y ((f_M_leastUnusedNumber u X Y).toNatClampNeg) x y z w).2) ((f_M_leastUnusedNumber u X Y).toNatClampNeg) true, (f_M_sketch u X Y ((f_M_leastUnusedNumber u X Y).toNatClampNeg) x y z w).1, (f_M_sketch u X Y ((f_M_leastUnusedNumber u X Y).toNatClampNeg) x y z w).2, (f_A_regroup (f_M_setUsed u ((f_M_sketch u X Y ((f_M_leastUnusedNumber u X Y).toNatClampNeg) x y z w).1) ((f_M_sketch u X Y ((f_M_leastUnusedNumber u X Y).toNatClampNeg) x y z w).2) ((f_M_leastUnusedNumber u X Y).toNatClampNeg) true) ((f_M_sketch u X Y ((f_M_leastUnusedNumber u X Y).toNatClampNeg) x y z w).1) ((f_M_sketch u X Y ((f_M_leastUnusedNumber u X Y).toNatClampNeg) x y z w).2) L1 L2).1, (f_A_regroup (f_M_setUsed u ((f_M_sketch u X Y ((f_M_leastUnusedNumber u X Y).toNatClampNeg) x y z w).1) ((f_M_sketch u X Y ((f_M_leastUnusedNumber u X Y).toNatClampNeg) x y z w).2) ((f_M_leastUnusedNumber u X Y).toNatClampNeg) true) ((f_M_sketch u X Y ((f_M_leastUnusedNumber u X Y).toNatClampNeg) x y z w).1) ((f_M_sketch u X Y ((f_M_leastUnusedNumber u X Y).toNatClampNeg) x y z w).2) L1 L2).2) else (((-10) - (f_M_leastMeeting u ((f_M_sketch u X Y ((f_M_leastUnusedNumber u X Y).toNatClampNeg) x y z w).1) ((f_M_sketch u X Y ((f_M_leastUnusedNumber u X Y).toNatClampNeg) x y z w).2) ((f_M_leastUnusedNumber u X Y).toNatClampNeg))), u, (f_M_sketch u X Y ((f_M_leastUnusedNumber u X Y).toNatClampNeg) x y z w).1, (f_M_sketch u X Y ((f_M_leastUnusedNumber u X Y).toNatClampNeg) x y z w).2, L1, L2)))) else ((-2), u, X, Y, L1, L2)) else ((-2), u, X, Y, L1, L2)
theorem i_A_add : inV y_A_add b_A_add 7 (some .int) 4 := ⟨kM_y_A_add, kV_y_A_add, kI_A, kY_y_A_add, by decide +kernel⟩
set_option maxHeartbeats 4000000 in
set_option maxRecDepth 100000 in
theorem c_A_add (l : Launch) (D : va_G) (h0 hm hu hxs hys hg1 hl1 hg2 hl2 : Nat) (cZ cI : ClassId) (u : Nat → Bool) (X Y : Nat → Int32) (L1 L2 : Nat → Nat) (x : Int32) (y : Int32) (z : Int32) (w : Int32) (sz : Nat)   : SMi l y_A_add b_A_add 7 (some .int) 6 143 D [(h0, .inr (2, [.ref hm, .ref hg1, .ref hg2])), (hm, .inr (1, [.ref hu, .ref hxs, .ref hys])), (hu, .inl (cZ, 20, .inl (fun z9 => b2i (u z9)))), (hxs, .inl (cI, 40, .inl X)), (hys, .inl (cI, 40, .inl Y)), (hg1, .inr (0, [.ref hl1])), (hl1, .inl (cI, 41, .inl (fun z9 => nI (L1 z9)))), (hg2, .inr (0, [.ref hl2])), (hl2, .inl (cI, 20, .inl (fun z9 => nI (L2 z9))))] [(cZ, .boolean), (cI, .int)] [.ref h0, .int x, .int y, .int z, .int w] sz (((f_A_add u X Y L1 L2 x y z w).1)) [(h0, .inr (2, [.ref hm, .ref hg1, .ref hg2])), (hm, .inr (1, [.ref hu, .ref hxs, .ref hys])), (hu, .inl (cZ, 20, .inl (fun z9 => b2i (((f_A_add u X Y L1 L2 x y z w).2.1) z9)))), (hxs, .inl (cI, 40, .inl ((f_A_add u X Y L1 L2 x y z w).2.2.1))), (hys, .inl (cI, 40, .inl ((f_A_add u X Y L1 L2 x y z w).2.2.2.1))), (hg1, .inr (0, [.ref hl1])), (hl1, .inl (cI, 41, .inl (fun z9 => nI (((f_A_add u X Y L1 L2 x y z w).2.2.2.2.1) z9)))), (hg2, .inr (0, [.ref hl2])), (hl2, .inl (cI, 20, .inl (fun z9 => nI (((f_A_add u X Y L1 L2 x y z w).2.2.2.2.2) z9))))] := by
  refine sMet (Qc := fun A => sQi (((f_A_add u X Y L1 L2 x y z w).1)) D [(h0, .inr (2, [.ref hm, .ref hg1, .ref hg2])), (hm, .inr (1, [.ref hu, .ref hxs, .ref hys])), (hu, .inl (cZ, 20, .inl (fun z9 => b2i (((f_A_add u X Y L1 L2 x y z w).2.1) z9)))), (hxs, .inl (cI, 40, .inl ((f_A_add u X Y L1 L2 x y z w).2.2.1))), (hys, .inl (cI, 40, .inl ((f_A_add u X Y L1 L2 x y z w).2.2.2.1))), (hg1, .inr (0, [.ref hl1])), (hl1, .inl (cI, 41, .inl (fun z9 => nI (((f_A_add u X Y L1 L2 x y z w).2.2.2.2.1) z9)))), (hg2, .inr (0, [.ref hl2])), (hl2, .inl (cI, 20, .inl (fun z9 => nI (((f_A_add u X Y L1 L2 x y z w).2.2.2.2.2) z9))))] [(cZ, .boolean), (cI, .int)] A) rfl (fun p e s m below meth c A S hr hlk hP hK hD hA hS ls hl => ?_) (Nat.le_of_ble_eq_true rfl)
  have hx := S.1
  have hb := S.2.1
  have hl : lv_has ls 7 [(0, .ref h0), (1, .int x), (2, .int y), (3, .int z), (4, .int w)] := hl
  refine lv_iload_n hx hb d_A_add_0 rfl (lv_at hl 1 rfl) ?_
  refine lv_iload_n hx hb d_A_add_1 rfl (lv_at hl 2 rfl) ?_
  refine rcallS (rest := []) (v := b2i (f_A_isNearby x y)) S [.int x, .int y] hK hP [] rfl [] rfl (c_A_isNearby l D  x y ) i_A_isNearby rfl kL_A_28 ⟨Nat.le_of_ble_eq_true rfl, Nat.le_of_ble_eq_true rfl⟩ (by exact ⟨Nat.zero_le _, Nat.zero_le _⟩) hl.1 rfl (Nat.le_of_ble_eq_true rfl) d_A_add_2 ?_
  refine lv_if_eq (tgt := 28) hx hb d_A_add_5 (by decide) (fun c1 => ?_) (fun c1 => ?_)
  · have c1a : ¬ (f_A_isNearby x y = true) := b2n (b2i_eq0.mp c1)
    refine lv_bipush (v := (-2)) hx hb d_A_add_28 (by decide) ?_
    have eqf := (show f_A_add u X Y L1 L2 x y z w = ((-2), u, X, Y, L1, L2) from by unfold f_A_add; rw [if_neg c1a])
    exact rretI S hr hlk (v := (-2)) (by rw [eqf]) (by rw [eqf]) hP hK hD hS d_A_add_30
  · have c1a : f_A_isNearby x y = true := b2i_ne0.mp c1
    refine lv_iload_n hx hb d_A_add_8 rfl (lv_at hl 3 rfl) ?_
    refine lv_iload hx hb d_A_add_9 (lv_at hl 4 rfl) ?_
    refine rcallS (rest := []) (v := b2i (f_A_isNearby z w)) S [.int z, .int w] hK hP [] rfl [] rfl (c_A_isNearby l D  z w ) i_A_isNearby rfl kL_A_28 ⟨Nat.le_of_ble_eq_true rfl, Nat.le_of_ble_eq_true rfl⟩ (by exact ⟨Nat.zero_le _, Nat.zero_le _⟩) hl.1 rfl (Nat.le_of_ble_eq_true rfl) d_A_add_11 ?_
    refine lv_if_eq (tgt := 28) hx hb d_A_add_14 (by decide) (fun c2 => ?_) (fun c2 => ?_)
    · have c2a : ¬ (f_A_isNearby z w = true) := b2n (b2i_eq0.mp c2)
      refine lv_bipush (v := (-2)) hx hb d_A_add_28 (by decide) ?_
      have eqf := (show f_A_add u X Y L1 L2 x y z w = ((-2), u, X, Y, L1, L2) from by unfold f_A_add; rw [if_pos c1a, if_neg c2a])
      exact rretI S hr hlk (v := (-2)) (by rw [eqf]) (by rw [eqf]) hP hK hD hS d_A_add_30
    · have c2a : f_A_isNearby z w = true := b2i_ne0.mp c2
      refine lv_iload_n hx hb d_A_add_17 rfl (lv_at hl 1 rfl) ?_
      refine lv_iload_n hx hb d_A_add_18 rfl (lv_at hl 3 rfl) ?_
      refine lv_icmp_ne (tgt := 31) hx hb d_A_add_19 (by decide) (fun c3 => ?_) (fun c3 => ?_)
      · have c3a : ¬ (x = z) := c3
        refine lv_aload_n hx hb d_A_add_31 rfl (lv_at hl 0 rfl) ?_
        refine rget S hK hP 0 rfl rfl in_A 0 (by decide) kF_A_12 rfl d_A_add_32 ?_
        refine rcallV (rest := []) (v := (f_M_leastUnusedNumber u X Y)) S [] hK hP [1, 2, 3, 4] rfl [0, 1] rfl (c_M_leastUnusedNumber l D hm hu hxs hys cZ cI u X Y  ) i_M_leastUnusedNumber kL_A_32 ⟨Nat.le_of_ble_eq_true rfl, Nat.le_of_ble_eq_true rfl⟩ (by exact ⟨Nat.zero_le _, Nat.zero_le _⟩) (q0 := 0) (ci := 1) rfl rfl rfl hl.1 rfl (Nat.le_of_ble_eq_true rfl) d_A_add_35 ?_
        refine lv_istore (lv' := [(5, .int ((f_M_leastUnusedNumber u X Y))), (0, .ref h0), (1, .int x), (2, .int y), (3, .int z), (4, .int w)]) hx hb d_A_add_38 hl (by decide) rfl (fun ls hl => ?_)
        refine lv_iload hx hb d_A_add_40 (lv_at hl 0 rfl) ?_
        refine lv_iconst (v := (-1)) hx hb d_A_add_42 (by decide) ?_
        refine lv_icmp_ne (tgt := 49) hx hb d_A_add_43 (by decide) (fun c4 => ?_) (fun c4 => ?_)
        · have c4a : ¬ ((f_M_leastUnusedNumber u X Y) = (-1)) := c4
          have ek2 : (f_M_leastUnusedNumber u X Y) = nI ((f_M_leastUnusedNumber u X Y).toNatClampNeg) := lu_nat u X Y c4a
          have hk2 : (f_M_leastUnusedNumber u X Y).toNatClampNeg < 20 := lu_lt u X Y c4a
          rw [ek2] at hl
          refine lv_aload_n hx hb d_A_add_49 rfl (lv_at hl 1 rfl) ?_
          refine rget S hK hP 0 rfl rfl in_A 0 (by decide) kF_A_12 rfl d_A_add_50 ?_
          refine lv_iload hx hb d_A_add_53 (lv_at hl 0 rfl) ?_
          refine lv_iload_n hx hb d_A_add_55 rfl (lv_at hl 2 rfl) ?_
          refine lv_iload_n hx hb d_A_add_56 rfl (lv_at hl 3 rfl) ?_
          refine lv_iload_n hx hb d_A_add_57 rfl (lv_at hl 4 rfl) ?_
          refine lv_iload hx hb d_A_add_58 (lv_at hl 5 rfl) ?_
          refine rcallVv (rest := []) (wc := [(hm, .inr (1, [.ref hu, .ref hxs, .ref hys])), (hu, .inl (cZ, 20, .inl (fun z9 => b2i (u z9)))), (hxs, .inl (cI, 40, .inl X)), (hys, .inl (cI, 40, .inl Y))]) (wr := [(h0, .inr (2, [.ref hm, .ref hg1, .ref hg2])), (hg1, .inr (0, [.ref hl1])), (hl1, .inl (cI, 41, .inl (fun z9 => nI (L1 z9)))), (hg2, .inr (0, [.ref hl2])), (hl2, .inl (cI, 20, .inl (fun z9 => nI (L2 z9))))]) (w1 := [(hm, .inr (1, [.ref hu, .ref hxs, .ref hys])), (hu, .inl (cZ, 20, .inl (fun z9 => b2i (u z9)))), (hxs, .inl (cI, 40, .inl ((f_M_sketch u X Y ((f_M_leastUnusedNumber u X Y).toNatClampNeg) x y z w).1))), (hys, .inl (cI, 40, .inl ((f_M_sketch u X Y ((f_M_leastUnusedNumber u X Y).toNatClampNeg) x y z w).2)))]) S [.int (nI ((f_M_leastUnusedNumber u X Y).toNatClampNeg)), .int x, .int y, .int z, .int w] hK hP hD hS hA [1, 2, 3, 4] [0, 5, 6, 7, 8] rfl rfl (by decide) rfl (by decide) (by decide) [0, 1] rfl (c_M_sketch l D hm hu hxs hys cZ cI u X Y ((f_M_leastUnusedNumber u X Y).toNatClampNeg) x y z w _ (by omega)) i_M_sketch kL_A_36 ⟨Nat.le_of_ble_eq_true rfl, Nat.le_of_ble_eq_true rfl⟩ ⟨Nat.zero_le _, Nat.zero_le _⟩ (q0 := 0) (ci := 1) rfl rfl rfl hl.1 rfl (Nat.le_of_ble_eq_true rfl) d_A_add_60 (fun H locs hP hD hS => ?_)
          have hP : va_P D CLS [(h0, .inr (2, [.ref hm, .ref hg1, .ref hg2])), (hg1, .inr (0, [.ref hl1])), (hl1, .inl (cI, 41, .inl (fun z9 => nI (L1 z9)))), (hg2, .inr (0, [.ref hl2])), (hl2, .inl (cI, 20, .inl (fun z9 => nI (L2 z9)))), (hm, .inr (1, [.ref hu, .ref hxs, .ref hys])), (hu, .inl (cZ, 20, .inl (fun z9 => b2i (u z9)))), (hxs, .inl (cI, 40, .inl ((f_M_sketch u X Y ((f_M_leastUnusedNumber u X Y).toNatClampNeg) x y z w).1))), (hys, .inl (cI, 40, .inl ((f_M_sketch u X Y ((f_M_leastUnusedNumber u X Y).toNatClampNeg) x y z w).2)))] H := hP
          have hD : va_D A [(h0, .inr (2, [.ref hm, .ref hg1, .ref hg2])), (hg1, .inr (0, [.ref hl1])), (hl1, .inl (cI, 41, .inl (fun z9 => nI (L1 z9)))), (hg2, .inr (0, [.ref hl2])), (hl2, .inl (cI, 20, .inl (fun z9 => nI (L2 z9)))), (hm, .inr (1, [.ref hu, .ref hxs, .ref hys])), (hu, .inl (cZ, 20, .inl (fun z9 => b2i (u z9)))), (hxs, .inl (cI, 40, .inl ((f_M_sketch u X Y ((f_M_leastUnusedNumber u X Y).toNatClampNeg) x y z w).1))), (hys, .inl (cI, 40, .inl ((f_M_sketch u X Y ((f_M_leastUnusedNumber u X Y).toNatClampNeg) x y z w).2)))] := hD
          refine lv_aload_n hx hb d_A_add_63 rfl (lv_at hl 1 rfl) ?_
          refine rget S hK hP 0 rfl rfl in_A 0 (by decide) kF_A_12 rfl d_A_add_64 ?_
          refine lv_iload hx hb d_A_add_67 (lv_at hl 0 rfl) ?_
          refine rcallV (rest := []) (v := (f_M_leastMeeting u ((f_M_sketch u X Y ((f_M_leastUnusedNumber u X Y).toNatClampNeg) x y z w).1) ((f_M_sketch u X Y ((f_M_leastUnusedNumber u X Y).toNatClampNeg) x y z w).2) ((f_M_leastUnusedNumber u X Y).toNatClampNeg))) S [.int (nI ((f_M_leastUnusedNumber u X Y).toNatClampNeg))] hK hP [5, 6, 7, 8] rfl [0, 1] rfl (c_M_leastMeeting l D hm hu hxs hys cZ cI u ((f_M_sketch u X Y ((f_M_leastUnusedNumber u X Y).toNatClampNeg) x y z w).1) ((f_M_sketch u X Y ((f_M_leastUnusedNumber u X Y).toNatClampNeg) x y z w).2) ((f_M_leastUnusedNumber u X Y).toNatClampNeg) (by omega)) i_M_leastMeeting kL_A_40 ⟨Nat.le_of_ble_eq_true rfl, Nat.le_of_ble_eq_true rfl⟩ (by exact ⟨Nat.zero_le _, Nat.zero_le _⟩) (q0 := 0) (ci := 1) rfl rfl rfl hl.1 rfl (Nat.le_of_ble_eq_true rfl) d_A_add_69 ?_
          refine lv_istore (lv' := [(6, .int ((f_M_leastMeeting u ((f_M_sketch u X Y ((f_M_leastUnusedNumber u X Y).toNatClampNeg) x y z w).1) ((f_M_sketch u X Y ((f_M_leastUnusedNumber u X Y).toNatClampNeg) x y z w).2) ((f_M_leastUnusedNumber u X Y).toNatClampNeg)))), (5, .int (nI ((f_M_leastUnusedNumber u X Y).toNatClampNeg))), (0, .ref h0), (1, .int x), (2, .int y), (3, .int z), (4, .int w)]) hx hb d_A_add_72 hl (by decide) rfl (fun ls hl => ?_)
          refine lv_iload hx hb d_A_add_74 (lv_at hl 0 rfl) ?_
          refine lv_iconst (v := (-1)) hx hb d_A_add_76 (by decide) ?_
          refine lv_icmp_eq (tgt := 86) hx hb d_A_add_77 (by decide) (fun c5 => ?_) (fun c5 => ?_)
          · have c5a : (f_M_leastMeeting u ((f_M_sketch u X Y ((f_M_leastUnusedNumber u X Y).toNatClampNeg) x y z w).1) ((f_M_sketch u X Y ((f_M_leastUnusedNumber u X Y).toNatClampNeg) x y z w).2) ((f_M_leastUnusedNumber u X Y).toNatClampNeg)) = (-1) := c5
            refine lv_aload_n hx hb d_A_add_86 rfl (lv_at hl 2 rfl) ?_
            refine rget S hK hP 0 rfl rfl in_A 0 (by decide) kF_A_12 rfl d_A_add_87 ?_
            refine lv_iload hx hb d_A_add_90 (lv_at hl 1 rfl) ?_
            refine lv_iconst (v := 1) hx hb d_A_add_92 (by decide) ?_
            refine rcallVv (rest := []) (wc := [(hm, .inr (1, [.ref hu, .ref hxs, .ref hys])), (hu, .inl (cZ, 20, .inl (fun z9 => b2i (u z9)))), (hxs, .inl (cI, 40, .inl ((f_M_sketch u X Y ((f_M_leastUnusedNumber u X Y).toNatClampNeg) x y z w).1))), (hys, .inl (cI, 40, .inl ((f_M_sketch u X Y ((f_M_leastUnusedNumber u X Y).toNatClampNeg) x y z w).2)))]) (wr := [(h0, .inr (2, [.ref hm, .ref hg1, .ref hg2])), (hg1, .inr (0, [.ref hl1])), (hl1, .inl (cI, 41, .inl (fun z9 => nI (L1 z9)))), (hg2, .inr (0, [.ref hl2])), (hl2, .inl (cI, 20, .inl (fun z9 => nI (L2 z9))))]) (w1 := [(hm, .inr (1, [.ref hu, .ref hxs, .ref hys])), (hu, .inl (cZ, 20, .inl (fun z9 => b2i ((f_M_setUsed u ((f_M_sketch u X Y ((f_M_leastUnusedNumber u X Y).toNatClampNeg) x y z w).1) ((f_M_sketch u X Y ((f_M_leastUnusedNumber u X Y).toNatClampNeg) x y z w).2) ((f_M_leastUnusedNumber u X Y).toNatClampNeg) true) z9)))), (hxs, .inl (cI, 40, .inl ((f_M_sketch u X Y ((f_M_leastUnusedNumber u X Y).toNatClampNeg) x y z w).1))), (hys, .inl (cI, 40, .inl ((f_M_sketch u X Y ((f_M_leastUnusedNumber u X Y).toNatClampNeg) x y z w).2)))]) S [.int (nI ((f_M_leastUnusedNumber u X Y).toNatClampNeg)), .int 1] hK hP hD hS hA [5, 6, 7, 8] [0, 1, 2, 3, 4] rfl rfl (by decide) rfl (by decide) (by decide) [0, 1] rfl (c_M_setUsed l D hm hu hxs hys cZ cI u ((f_M_sketch u X Y ((f_M_leastUnusedNumber u X Y).toNatClampNeg) x y z w).1) ((f_M_sketch u X Y ((f_M_leastUnusedNumber u X Y).toNatClampNeg) x y z w).2) ((f_M_leastUnusedNumber u X Y).toNatClampNeg) true _ (by omega)) i_M_setUsed kL_A_44 ⟨Nat.le_of_ble_eq_true rfl, Nat.le_of_ble_eq_true rfl⟩ ⟨Nat.zero_le _, Nat.zero_le _⟩ (q0 := 0) (ci := 1) rfl rfl rfl hl.1 rfl (Nat.le_of_ble_eq_true rfl) d_A_add_93 (fun H locs hP hD hS => ?_)
            have hP : va_P D CLS [(h0, .inr (2, [.ref hm, .ref hg1, .ref hg2])), (hg1, .inr (0, [.ref hl1])), (hl1, .inl (cI, 41, .inl (fun z9 => nI (L1 z9)))), (hg2, .inr (0, [.ref hl2])), (hl2, .inl (cI, 20, .inl (fun z9 => nI (L2 z9)))), (hm, .inr (1, [.ref hu, .ref hxs, .ref hys])), (hu, .inl (cZ, 20, .inl (fun z9 => b2i ((f_M_setUsed u ((f_M_sketch u X Y ((f_M_leastUnusedNumber u X Y).toNatClampNeg) x y z w).1) ((f_M_sketch u X Y ((f_M_leastUnusedNumber u X Y).toNatClampNeg) x y z w).2) ((f_M_leastUnusedNumber u X Y).toNatClampNeg) true) z9)))), (hxs, .inl (cI, 40, .inl ((f_M_sketch u X Y ((f_M_leastUnusedNumber u X Y).toNatClampNeg) x y z w).1))), (hys, .inl (cI, 40, .inl ((f_M_sketch u X Y ((f_M_leastUnusedNumber u X Y).toNatClampNeg) x y z w).2)))] H := hP
            have hD : va_D A [(h0, .inr (2, [.ref hm, .ref hg1, .ref hg2])), (hg1, .inr (0, [.ref hl1])), (hl1, .inl (cI, 41, .inl (fun z9 => nI (L1 z9)))), (hg2, .inr (0, [.ref hl2])), (hl2, .inl (cI, 20, .inl (fun z9 => nI (L2 z9)))), (hm, .inr (1, [.ref hu, .ref hxs, .ref hys])), (hu, .inl (cZ, 20, .inl (fun z9 => b2i ((f_M_setUsed u ((f_M_sketch u X Y ((f_M_leastUnusedNumber u X Y).toNatClampNeg) x y z w).1) ((f_M_sketch u X Y ((f_M_leastUnusedNumber u X Y).toNatClampNeg) x y z w).2) ((f_M_leastUnusedNumber u X Y).toNatClampNeg) true) z9)))), (hxs, .inl (cI, 40, .inl ((f_M_sketch u X Y ((f_M_leastUnusedNumber u X Y).toNatClampNeg) x y z w).1))), (hys, .inl (cI, 40, .inl ((f_M_sketch u X Y ((f_M_leastUnusedNumber u X Y).toNatClampNeg) x y z w).2)))] := hD
            refine lv_aload_n hx hb d_A_add_96 rfl (lv_at hl 2 rfl) ?_
            refine rcallVv (rest := []) (wc := [(h0, .inr (2, [.ref hm, .ref hg1, .ref hg2])), (hm, .inr (1, [.ref hu, .ref hxs, .ref hys])), (hu, .inl (cZ, 20, .inl (fun z9 => b2i ((f_M_setUsed u ((f_M_sketch u X Y ((f_M_leastUnusedNumber u X Y).toNatClampNeg) x y z w).1) ((f_M_sketch u X Y ((f_M_leastUnusedNumber u X Y).toNatClampNeg) x y z w).2) ((f_M_leastUnusedNumber u X Y).toNatClampNeg) true) z9)))), (hxs, .inl (cI, 40, .inl ((f_M_sketch u X Y ((f_M_leastUnusedNumber u X Y).toNatClampNeg) x y z w).1))), (hys, .inl (cI, 40, .inl ((f_M_sketch u X Y ((f_M_leastUnusedNumber u X Y).toNatClampNeg) x y z w).2))), (hg1, .inr (0, [.ref hl1])), (hl1, .inl (cI, 41, .inl (fun z9 => nI (L1 z9)))), (hg2, .inr (0, [.ref hl2])), (hl2, .inl (cI, 20, .inl (fun z9 => nI (L2 z9))))]) (wr := []) (w1 := [(h0, .inr (2, [.ref hm, .ref hg1, .ref hg2])), (hm, .inr (1, [.ref hu, .ref hxs, .ref hys])), (hu, .inl (cZ, 20, .inl (fun z9 => b2i ((f_M_setUsed u ((f_M_sketch u X Y ((f_M_leastUnusedNumber u X Y).toNatClampNeg) x y z w).1) ((f_M_sketch u X Y ((f_M_leastUnusedNumber u X Y).toNatClampNeg) x y z w).2) ((f_M_leastUnusedNumber u X Y).toNatClampNeg) true) z9)))), (hxs, .inl (cI, 40, .inl ((f_M_sketch u X Y ((f_M_leastUnusedNumber u X Y).toNatClampNeg) x y z w).1))), (hys, .inl (cI, 40, .inl ((f_M_sketch u X Y ((f_M_leastUnusedNumber u X Y).toNatClampNeg) x y z w).2))), (hg1, .inr (0, [.ref hl1])), (hl1, .inl (cI, 41, .inl (fun z9 => nI (((f_A_regroup (f_M_setUsed u ((f_M_sketch u X Y ((f_M_leastUnusedNumber u X Y).toNatClampNeg) x y z w).1) ((f_M_sketch u X Y ((f_M_leastUnusedNumber u X Y).toNatClampNeg) x y z w).2) ((f_M_leastUnusedNumber u X Y).toNatClampNeg) true) ((f_M_sketch u X Y ((f_M_leastUnusedNumber u X Y).toNatClampNeg) x y z w).1) ((f_M_sketch u X Y ((f_M_leastUnusedNumber u X Y).toNatClampNeg) x y z w).2) L1 L2).1) z9)))), (hg2, .inr (0, [.ref hl2])), (hl2, .inl (cI, 20, .inl (fun z9 => nI (((f_A_regroup (f_M_setUsed u ((f_M_sketch u X Y ((f_M_leastUnusedNumber u X Y).toNatClampNeg) x y z w).1) ((f_M_sketch u X Y ((f_M_leastUnusedNumber u X Y).toNatClampNeg) x y z w).2) ((f_M_leastUnusedNumber u X Y).toNatClampNeg) true) ((f_M_sketch u X Y ((f_M_leastUnusedNumber u X Y).toNatClampNeg) x y z w).1) ((f_M_sketch u X Y ((f_M_leastUnusedNumber u X Y).toNatClampNeg) x y z w).2) L1 L2).2) z9))))]) S [] hK hP hD hS hA [0, 5, 6, 7, 8, 1, 2, 3, 4] [] rfl rfl (by decide) rfl (by decide) (by decide) [0, 1] rfl (c_A_regroup l D h0 hm hu hxs hys hg1 hl1 hg2 hl2 cZ cI (f_M_setUsed u ((f_M_sketch u X Y ((f_M_leastUnusedNumber u X Y).toNatClampNeg) x y z w).1) ((f_M_sketch u X Y ((f_M_leastUnusedNumber u X Y).toNatClampNeg) x y z w).2) ((f_M_leastUnusedNumber u X Y).toNatClampNeg) true) ((f_M_sketch u X Y ((f_M_leastUnusedNumber u X Y).toNatClampNeg) x y z w).1) ((f_M_sketch u X Y ((f_M_leastUnusedNumber u X Y).toNatClampNeg) x y z w).2) L1 L2  _ ) i_A_regroup kL_A_48 ⟨Nat.le_of_ble_eq_true rfl, Nat.le_of_ble_eq_true rfl⟩ ⟨Nat.zero_le _, Nat.zero_le _⟩ (q0 := 0) (ci := 2) rfl rfl rfl hl.1 rfl (Nat.le_of_ble_eq_true rfl) d_A_add_97 (fun H locs hP hD hS => ?_)
            have hP : va_P D CLS [(h0, .inr (2, [.ref hm, .ref hg1, .ref hg2])), (hm, .inr (1, [.ref hu, .ref hxs, .ref hys])), (hu, .inl (cZ, 20, .inl (fun z9 => b2i ((f_M_setUsed u ((f_M_sketch u X Y ((f_M_leastUnusedNumber u X Y).toNatClampNeg) x y z w).1) ((f_M_sketch u X Y ((f_M_leastUnusedNumber u X Y).toNatClampNeg) x y z w).2) ((f_M_leastUnusedNumber u X Y).toNatClampNeg) true) z9)))), (hxs, .inl (cI, 40, .inl ((f_M_sketch u X Y ((f_M_leastUnusedNumber u X Y).toNatClampNeg) x y z w).1))), (hys, .inl (cI, 40, .inl ((f_M_sketch u X Y ((f_M_leastUnusedNumber u X Y).toNatClampNeg) x y z w).2))), (hg1, .inr (0, [.ref hl1])), (hl1, .inl (cI, 41, .inl (fun z9 => nI (((f_A_regroup (f_M_setUsed u ((f_M_sketch u X Y ((f_M_leastUnusedNumber u X Y).toNatClampNeg) x y z w).1) ((f_M_sketch u X Y ((f_M_leastUnusedNumber u X Y).toNatClampNeg) x y z w).2) ((f_M_leastUnusedNumber u X Y).toNatClampNeg) true) ((f_M_sketch u X Y ((f_M_leastUnusedNumber u X Y).toNatClampNeg) x y z w).1) ((f_M_sketch u X Y ((f_M_leastUnusedNumber u X Y).toNatClampNeg) x y z w).2) L1 L2).1) z9)))), (hg2, .inr (0, [.ref hl2])), (hl2, .inl (cI, 20, .inl (fun z9 => nI (((f_A_regroup (f_M_setUsed u ((f_M_sketch u X Y ((f_M_leastUnusedNumber u X Y).toNatClampNeg) x y z w).1) ((f_M_sketch u X Y ((f_M_leastUnusedNumber u X Y).toNatClampNeg) x y z w).2) ((f_M_leastUnusedNumber u X Y).toNatClampNeg) true) ((f_M_sketch u X Y ((f_M_leastUnusedNumber u X Y).toNatClampNeg) x y z w).1) ((f_M_sketch u X Y ((f_M_leastUnusedNumber u X Y).toNatClampNeg) x y z w).2) L1 L2).2) z9))))] H := hP
            have hD : va_D A [(h0, .inr (2, [.ref hm, .ref hg1, .ref hg2])), (hm, .inr (1, [.ref hu, .ref hxs, .ref hys])), (hu, .inl (cZ, 20, .inl (fun z9 => b2i ((f_M_setUsed u ((f_M_sketch u X Y ((f_M_leastUnusedNumber u X Y).toNatClampNeg) x y z w).1) ((f_M_sketch u X Y ((f_M_leastUnusedNumber u X Y).toNatClampNeg) x y z w).2) ((f_M_leastUnusedNumber u X Y).toNatClampNeg) true) z9)))), (hxs, .inl (cI, 40, .inl ((f_M_sketch u X Y ((f_M_leastUnusedNumber u X Y).toNatClampNeg) x y z w).1))), (hys, .inl (cI, 40, .inl ((f_M_sketch u X Y ((f_M_leastUnusedNumber u X Y).toNatClampNeg) x y z w).2))), (hg1, .inr (0, [.ref hl1])), (hl1, .inl (cI, 41, .inl (fun z9 => nI (((f_A_regroup (f_M_setUsed u ((f_M_sketch u X Y ((f_M_leastUnusedNumber u X Y).toNatClampNeg) x y z w).1) ((f_M_sketch u X Y ((f_M_leastUnusedNumber u X Y).toNatClampNeg) x y z w).2) ((f_M_leastUnusedNumber u X Y).toNatClampNeg) true) ((f_M_sketch u X Y ((f_M_leastUnusedNumber u X Y).toNatClampNeg) x y z w).1) ((f_M_sketch u X Y ((f_M_leastUnusedNumber u X Y).toNatClampNeg) x y z w).2) L1 L2).1) z9)))), (hg2, .inr (0, [.ref hl2])), (hl2, .inl (cI, 20, .inl (fun z9 => nI (((f_A_regroup (f_M_setUsed u ((f_M_sketch u X Y ((f_M_leastUnusedNumber u X Y).toNatClampNeg) x y z w).1) ((f_M_sketch u X Y ((f_M_leastUnusedNumber u X Y).toNatClampNeg) x y z w).2) ((f_M_leastUnusedNumber u X Y).toNatClampNeg) true) ((f_M_sketch u X Y ((f_M_leastUnusedNumber u X Y).toNatClampNeg) x y z w).1) ((f_M_sketch u X Y ((f_M_leastUnusedNumber u X Y).toNatClampNeg) x y z w).2) L1 L2).2) z9))))] := hD
            refine lv_iload hx hb d_A_add_100 (lv_at hl 1 rfl) ?_
            have eqf := (show f_A_add u X Y L1 L2 x y z w = (nI ((f_M_leastUnusedNumber u X Y).toNatClampNeg), f_M_setUsed u ((f_M_sketch u X Y ((f_M_leastUnusedNumber u X Y).toNatClampNeg) x y z w).1) ((f_M_sketch u X Y ((f_M_leastUnusedNumber u X Y).toNatClampNeg) x y z w).2) ((f_M_leastUnusedNumber u X Y).toNatClampNeg) true, (f_M_sketch u X Y ((f_M_leastUnusedNumber u X Y).toNatClampNeg) x y z w).1, (f_M_sketch u X Y ((f_M_leastUnusedNumber u X Y).toNatClampNeg) x y z w).2, (f_A_regroup (f_M_setUsed u ((f_M_sketch u X Y ((f_M_leastUnusedNumber u X Y).toNatClampNeg) x y z w).1) ((f_M_sketch u X Y ((f_M_leastUnusedNumber u X Y).toNatClampNeg) x y z w).2) ((f_M_leastUnusedNumber u X Y).toNatClampNeg) true) ((f_M_sketch u X Y ((f_M_leastUnusedNumber u X Y).toNatClampNeg) x y z w).1) ((f_M_sketch u X Y ((f_M_leastUnusedNumber u X Y).toNatClampNeg) x y z w).2) L1 L2).1, (f_A_regroup (f_M_setUsed u ((f_M_sketch u X Y ((f_M_leastUnusedNumber u X Y).toNatClampNeg) x y z w).1) ((f_M_sketch u X Y ((f_M_leastUnusedNumber u X Y).toNatClampNeg) x y z w).2) ((f_M_leastUnusedNumber u X Y).toNatClampNeg) true) ((f_M_sketch u X Y ((f_M_leastUnusedNumber u X Y).toNatClampNeg) x y z w).1) ((f_M_sketch u X Y ((f_M_leastUnusedNumber u X Y).toNatClampNeg) x y z w).2) L1 L2).2) from by unfold f_A_add; rw [if_pos c1a, if_pos c2a, if_neg c3a, if_neg c4a, if_pos c5a])
            exact rretI S hr hlk (v := nI ((f_M_leastUnusedNumber u X Y).toNatClampNeg)) (by rw [eqf]) (by rw [eqf]) hP hK hD hS d_A_add_102
          · have c5a : ¬ ((f_M_leastMeeting u ((f_M_sketch u X Y ((f_M_leastUnusedNumber u X Y).toNatClampNeg) x y z w).1) ((f_M_sketch u X Y ((f_M_leastUnusedNumber u X Y).toNatClampNeg) x y z w).2) ((f_M_leastUnusedNumber u X Y).toNatClampNeg)) = (-1)) := c5
            refine lv_bipush (v := (-10)) hx hb d_A_add_80 (by decide) ?_
            refine lv_iload hx hb d_A_add_82 (lv_at hl 0 rfl) ?_
            refine lv_isub hx hb d_A_add_84 ?_
            have hP : va_P D CLS [(h0, .inr (2, [.ref hm, .ref hg1, .ref hg2])), (hm, .inr (1, [.ref hu, .ref hxs, .ref hys])), (hu, .inl (cZ, 20, .inl (fun z9 => b2i (u z9)))), (hxs, .inl (cI, 40, .inl ((f_M_sketch u X Y ((f_M_leastUnusedNumber u X Y).toNatClampNeg) x y z w).1))), (hys, .inl (cI, 40, .inl ((f_M_sketch u X Y ((f_M_leastUnusedNumber u X Y).toNatClampNeg) x y z w).2))), (hg1, .inr (0, [.ref hl1])), (hl1, .inl (cI, 41, .inl (fun z9 => nI (L1 z9)))), (hg2, .inr (0, [.ref hl2])), (hl2, .inl (cI, 20, .inl (fun z9 => nI (L2 z9))))] _ := hP.sub [0, 5, 6, 7, 8, 1, 2, 3, 4] rfl
            have hD : va_D A [(h0, .inr (2, [.ref hm, .ref hg1, .ref hg2])), (hm, .inr (1, [.ref hu, .ref hxs, .ref hys])), (hu, .inl (cZ, 20, .inl (fun z9 => b2i (u z9)))), (hxs, .inl (cI, 40, .inl ((f_M_sketch u X Y ((f_M_leastUnusedNumber u X Y).toNatClampNeg) x y z w).1))), (hys, .inl (cI, 40, .inl ((f_M_sketch u X Y ((f_M_leastUnusedNumber u X Y).toNatClampNeg) x y z w).2))), (hg1, .inr (0, [.ref hl1])), (hl1, .inl (cI, 41, .inl (fun z9 => nI (L1 z9)))), (hg2, .inr (0, [.ref hl2])), (hl2, .inl (cI, 20, .inl (fun z9 => nI (L2 z9))))] := hD.sub [0, 5, 6, 7, 8, 1, 2, 3, 4] (by decide) rfl
            have eqf := (show f_A_add u X Y L1 L2 x y z w = (((-10) - (f_M_leastMeeting u ((f_M_sketch u X Y ((f_M_leastUnusedNumber u X Y).toNatClampNeg) x y z w).1) ((f_M_sketch u X Y ((f_M_leastUnusedNumber u X Y).toNatClampNeg) x y z w).2) ((f_M_leastUnusedNumber u X Y).toNatClampNeg))), u, (f_M_sketch u X Y ((f_M_leastUnusedNumber u X Y).toNatClampNeg) x y z w).1, (f_M_sketch u X Y ((f_M_leastUnusedNumber u X Y).toNatClampNeg) x y z w).2, L1, L2) from by unfold f_A_add; rw [if_pos c1a, if_pos c2a, if_neg c3a, if_neg c4a, if_neg c5a])
            exact rretI S hr hlk (v := ((-10) - (f_M_leastMeeting u ((f_M_sketch u X Y ((f_M_leastUnusedNumber u X Y).toNatClampNeg) x y z w).1) ((f_M_sketch u X Y ((f_M_leastUnusedNumber u X Y).toNatClampNeg) x y z w).2) ((f_M_leastUnusedNumber u X Y).toNatClampNeg)))) (by rw [eqf]) (by rw [eqf]) hP hK hD hS d_A_add_85
        · have c4a : (f_M_leastUnusedNumber u X Y) = (-1) := c4
          refine lv_bipush (v := (-3)) hx hb d_A_add_46 (by decide) ?_
          have eqf := (show f_A_add u X Y L1 L2 x y z w = ((-3), u, X, Y, L1, L2) from by unfold f_A_add; rw [if_pos c1a, if_pos c2a, if_neg c3a, if_pos c4a])
          exact rretI S hr hlk (v := (-3)) (by rw [eqf]) (by rw [eqf]) hP hK hD hS d_A_add_48
      · have c3a : x = z := c3
        refine lv_iload_n hx hb d_A_add_22 rfl (lv_at hl 2 rfl) ?_
        refine lv_iload hx hb d_A_add_23 (lv_at hl 4 rfl) ?_
        refine lv_icmp_ne (tgt := 31) hx hb d_A_add_25 (by decide) (fun c6 => ?_) (fun c6 => ?_)
        · have c6a : ¬ (y = w) := c6
          refine lv_aload_n hx hb d_A_add_31 rfl (lv_at hl 0 rfl) ?_
          refine rget S hK hP 0 rfl rfl in_A 0 (by decide) kF_A_12 rfl d_A_add_32 ?_
          refine rcallV (rest := []) (v := (f_M_leastUnusedNumber u X Y)) S [] hK hP [1, 2, 3, 4] rfl [0, 1] rfl (c_M_leastUnusedNumber l D hm hu hxs hys cZ cI u X Y  ) i_M_leastUnusedNumber kL_A_32 ⟨Nat.le_of_ble_eq_true rfl, Nat.le_of_ble_eq_true rfl⟩ (by exact ⟨Nat.zero_le _, Nat.zero_le _⟩) (q0 := 0) (ci := 1) rfl rfl rfl hl.1 rfl (Nat.le_of_ble_eq_true rfl) d_A_add_35 ?_
          refine lv_istore (lv' := [(5, .int ((f_M_leastUnusedNumber u X Y))), (0, .ref h0), (1, .int x), (2, .int y), (3, .int z), (4, .int w)]) hx hb d_A_add_38 hl (by decide) rfl (fun ls hl => ?_)
          refine lv_iload hx hb d_A_add_40 (lv_at hl 0 rfl) ?_
          refine lv_iconst (v := (-1)) hx hb d_A_add_42 (by decide) ?_
          refine lv_icmp_ne (tgt := 49) hx hb d_A_add_43 (by decide) (fun c7 => ?_) (fun c7 => ?_)
          · have c7a : ¬ ((f_M_leastUnusedNumber u X Y) = (-1)) := c7
            have ek2 : (f_M_leastUnusedNumber u X Y) = nI ((f_M_leastUnusedNumber u X Y).toNatClampNeg) := lu_nat u X Y c7a
            have hk2 : (f_M_leastUnusedNumber u X Y).toNatClampNeg < 20 := lu_lt u X Y c7a
            rw [ek2] at hl
            refine lv_aload_n hx hb d_A_add_49 rfl (lv_at hl 1 rfl) ?_
            refine rget S hK hP 0 rfl rfl in_A 0 (by decide) kF_A_12 rfl d_A_add_50 ?_
            refine lv_iload hx hb d_A_add_53 (lv_at hl 0 rfl) ?_
            refine lv_iload_n hx hb d_A_add_55 rfl (lv_at hl 2 rfl) ?_
            refine lv_iload_n hx hb d_A_add_56 rfl (lv_at hl 3 rfl) ?_
            refine lv_iload_n hx hb d_A_add_57 rfl (lv_at hl 4 rfl) ?_
            refine lv_iload hx hb d_A_add_58 (lv_at hl 5 rfl) ?_
            refine rcallVv (rest := []) (wc := [(hm, .inr (1, [.ref hu, .ref hxs, .ref hys])), (hu, .inl (cZ, 20, .inl (fun z9 => b2i (u z9)))), (hxs, .inl (cI, 40, .inl X)), (hys, .inl (cI, 40, .inl Y))]) (wr := [(h0, .inr (2, [.ref hm, .ref hg1, .ref hg2])), (hg1, .inr (0, [.ref hl1])), (hl1, .inl (cI, 41, .inl (fun z9 => nI (L1 z9)))), (hg2, .inr (0, [.ref hl2])), (hl2, .inl (cI, 20, .inl (fun z9 => nI (L2 z9))))]) (w1 := [(hm, .inr (1, [.ref hu, .ref hxs, .ref hys])), (hu, .inl (cZ, 20, .inl (fun z9 => b2i (u z9)))), (hxs, .inl (cI, 40, .inl ((f_M_sketch u X Y ((f_M_leastUnusedNumber u X Y).toNatClampNeg) x y z w).1))), (hys, .inl (cI, 40, .inl ((f_M_sketch u X Y ((f_M_leastUnusedNumber u X Y).toNatClampNeg) x y z w).2)))]) S [.int (nI ((f_M_leastUnusedNumber u X Y).toNatClampNeg)), .int x, .int y, .int z, .int w] hK hP hD hS hA [1, 2, 3, 4] [0, 5, 6, 7, 8] rfl rfl (by decide) rfl (by decide) (by decide) [0, 1] rfl (c_M_sketch l D hm hu hxs hys cZ cI u X Y ((f_M_leastUnusedNumber u X Y).toNatClampNeg) x y z w _ (by omega)) i_M_sketch kL_A_36 ⟨Nat.le_of_ble_eq_true rfl, Nat.le_of_ble_eq_true rfl⟩ ⟨Nat.zero_le _, Nat.zero_le _⟩ (q0 := 0) (ci := 1) rfl rfl rfl hl.1 rfl (Nat.le_of_ble_eq_true rfl) d_A_add_60 (fun H locs hP hD hS => ?_)
            have hP : va_P D CLS [(h0, .inr (2, [.ref hm, .ref hg1, .ref hg2])), (hg1, .inr (0, [.ref hl1])), (hl1, .inl (cI, 41, .inl (fun z9 => nI (L1 z9)))), (hg2, .inr (0, [.ref hl2])), (hl2, .inl (cI, 20, .inl (fun z9 => nI (L2 z9)))), (hm, .inr (1, [.ref hu, .ref hxs, .ref hys])), (hu, .inl (cZ, 20, .inl (fun z9 => b2i (u z9)))), (hxs, .inl (cI, 40, .inl ((f_M_sketch u X Y ((f_M_leastUnusedNumber u X Y).toNatClampNeg) x y z w).1))), (hys, .inl (cI, 40, .inl ((f_M_sketch u X Y ((f_M_leastUnusedNumber u X Y).toNatClampNeg) x y z w).2)))] H := hP
            have hD : va_D A [(h0, .inr (2, [.ref hm, .ref hg1, .ref hg2])), (hg1, .inr (0, [.ref hl1])), (hl1, .inl (cI, 41, .inl (fun z9 => nI (L1 z9)))), (hg2, .inr (0, [.ref hl2])), (hl2, .inl (cI, 20, .inl (fun z9 => nI (L2 z9)))), (hm, .inr (1, [.ref hu, .ref hxs, .ref hys])), (hu, .inl (cZ, 20, .inl (fun z9 => b2i (u z9)))), (hxs, .inl (cI, 40, .inl ((f_M_sketch u X Y ((f_M_leastUnusedNumber u X Y).toNatClampNeg) x y z w).1))), (hys, .inl (cI, 40, .inl ((f_M_sketch u X Y ((f_M_leastUnusedNumber u X Y).toNatClampNeg) x y z w).2)))] := hD
            refine lv_aload_n hx hb d_A_add_63 rfl (lv_at hl 1 rfl) ?_
            refine rget S hK hP 0 rfl rfl in_A 0 (by decide) kF_A_12 rfl d_A_add_64 ?_
            refine lv_iload hx hb d_A_add_67 (lv_at hl 0 rfl) ?_
            refine rcallV (rest := []) (v := (f_M_leastMeeting u ((f_M_sketch u X Y ((f_M_leastUnusedNumber u X Y).toNatClampNeg) x y z w).1) ((f_M_sketch u X Y ((f_M_leastUnusedNumber u X Y).toNatClampNeg) x y z w).2) ((f_M_leastUnusedNumber u X Y).toNatClampNeg))) S [.int (nI ((f_M_leastUnusedNumber u X Y).toNatClampNeg))] hK hP [5, 6, 7, 8] rfl [0, 1] rfl (c_M_leastMeeting l D hm hu hxs hys cZ cI u ((f_M_sketch u X Y ((f_M_leastUnusedNumber u X Y).toNatClampNeg) x y z w).1) ((f_M_sketch u X Y ((f_M_leastUnusedNumber u X Y).toNatClampNeg) x y z w).2) ((f_M_leastUnusedNumber u X Y).toNatClampNeg) (by omega)) i_M_leastMeeting kL_A_40 ⟨Nat.le_of_ble_eq_true rfl, Nat.le_of_ble_eq_true rfl⟩ (by exact ⟨Nat.zero_le _, Nat.zero_le _⟩) (q0 := 0) (ci := 1) rfl rfl rfl hl.1 rfl (Nat.le_of_ble_eq_true rfl) d_A_add_69 ?_
            refine lv_istore (lv' := [(6, .int ((f_M_leastMeeting u ((f_M_sketch u X Y ((f_M_leastUnusedNumber u X Y).toNatClampNeg) x y z w).1) ((f_M_sketch u X Y ((f_M_leastUnusedNumber u X Y).toNatClampNeg) x y z w).2) ((f_M_leastUnusedNumber u X Y).toNatClampNeg)))), (5, .int (nI ((f_M_leastUnusedNumber u X Y).toNatClampNeg))), (0, .ref h0), (1, .int x), (2, .int y), (3, .int z), (4, .int w)]) hx hb d_A_add_72 hl (by decide) rfl (fun ls hl => ?_)
            refine lv_iload hx hb d_A_add_74 (lv_at hl 0 rfl) ?_
            refine lv_iconst (v := (-1)) hx hb d_A_add_76 (by decide) ?_
            refine lv_icmp_eq (tgt := 86) hx hb d_A_add_77 (by decide) (fun c8 => ?_) (fun c8 => ?_)
            · have c8a : (f_M_leastMeeting u ((f_M_sketch u X Y ((f_M_leastUnusedNumber u X Y).toNatClampNeg) x y z w).1) ((f_M_sketch u X Y ((f_M_leastUnusedNumber u X Y).toNatClampNeg) x y z w).2) ((f_M_leastUnusedNumber u X Y).toNatClampNeg)) = (-1) := c8
              refine lv_aload_n hx hb d_A_add_86 rfl (lv_at hl 2 rfl) ?_
              refine rget S hK hP 0 rfl rfl in_A 0 (by decide) kF_A_12 rfl d_A_add_87 ?_
              refine lv_iload hx hb d_A_add_90 (lv_at hl 1 rfl) ?_
              refine lv_iconst (v := 1) hx hb d_A_add_92 (by decide) ?_
              refine rcallVv (rest := []) (wc := [(hm, .inr (1, [.ref hu, .ref hxs, .ref hys])), (hu, .inl (cZ, 20, .inl (fun z9 => b2i (u z9)))), (hxs, .inl (cI, 40, .inl ((f_M_sketch u X Y ((f_M_leastUnusedNumber u X Y).toNatClampNeg) x y z w).1))), (hys, .inl (cI, 40, .inl ((f_M_sketch u X Y ((f_M_leastUnusedNumber u X Y).toNatClampNeg) x y z w).2)))]) (wr := [(h0, .inr (2, [.ref hm, .ref hg1, .ref hg2])), (hg1, .inr (0, [.ref hl1])), (hl1, .inl (cI, 41, .inl (fun z9 => nI (L1 z9)))), (hg2, .inr (0, [.ref hl2])), (hl2, .inl (cI, 20, .inl (fun z9 => nI (L2 z9))))]) (w1 := [(hm, .inr (1, [.ref hu, .ref hxs, .ref hys])), (hu, .inl (cZ, 20, .inl (fun z9 => b2i ((f_M_setUsed u ((f_M_sketch u X Y ((f_M_leastUnusedNumber u X Y).toNatClampNeg) x y z w).1) ((f_M_sketch u X Y ((f_M_leastUnusedNumber u X Y).toNatClampNeg) x y z w).2) ((f_M_leastUnusedNumber u X Y).toNatClampNeg) true) z9)))), (hxs, .inl (cI, 40, .inl ((f_M_sketch u X Y ((f_M_leastUnusedNumber u X Y).toNatClampNeg) x y z w).1))), (hys, .inl (cI, 40, .inl ((f_M_sketch u X Y ((f_M_leastUnusedNumber u X Y).toNatClampNeg) x y z w).2)))]) S [.int (nI ((f_M_leastUnusedNumber u X Y).toNatClampNeg)), .int 1] hK hP hD hS hA [5, 6, 7, 8] [0, 1, 2, 3, 4] rfl rfl (by decide) rfl (by decide) (by decide) [0, 1] rfl (c_M_setUsed l D hm hu hxs hys cZ cI u ((f_M_sketch u X Y ((f_M_leastUnusedNumber u X Y).toNatClampNeg) x y z w).1) ((f_M_sketch u X Y ((f_M_leastUnusedNumber u X Y).toNatClampNeg) x y z w).2) ((f_M_leastUnusedNumber u X Y).toNatClampNeg) true _ (by omega)) i_M_setUsed kL_A_44 ⟨Nat.le_of_ble_eq_true rfl, Nat.le_of_ble_eq_true rfl⟩ ⟨Nat.zero_le _, Nat.zero_le _⟩ (q0 := 0) (ci := 1) rfl rfl rfl hl.1 rfl (Nat.le_of_ble_eq_true rfl) d_A_add_93 (fun H locs hP hD hS => ?_)
              have hP : va_P D CLS [(h0, .inr (2, [.ref hm, .ref hg1, .ref hg2])), (hg1, .inr (0, [.ref hl1])), (hl1, .inl (cI, 41, .inl (fun z9 => nI (L1 z9)))), (hg2, .inr (0, [.ref hl2])), (hl2, .inl (cI, 20, .inl (fun z9 => nI (L2 z9)))), (hm, .inr (1, [.ref hu, .ref hxs, .ref hys])), (hu, .inl (cZ, 20, .inl (fun z9 => b2i ((f_M_setUsed u ((f_M_sketch u X Y ((f_M_leastUnusedNumber u X Y).toNatClampNeg) x y z w).1) ((f_M_sketch u X Y ((f_M_leastUnusedNumber u X Y).toNatClampNeg) x y z w).2) ((f_M_leastUnusedNumber u X Y).toNatClampNeg) true) z9)))), (hxs, .inl (cI, 40, .inl ((f_M_sketch u X Y ((f_M_leastUnusedNumber u X Y).toNatClampNeg) x y z w).1))), (hys, .inl (cI, 40, .inl ((f_M_sketch u X Y ((f_M_leastUnusedNumber u X Y).toNatClampNeg) x y z w).2)))] H := hP
              have hD : va_D A [(h0, .inr (2, [.ref hm, .ref hg1, .ref hg2])), (hg1, .inr (0, [.ref hl1])), (hl1, .inl (cI, 41, .inl (fun z9 => nI (L1 z9)))), (hg2, .inr (0, [.ref hl2])), (hl2, .inl (cI, 20, .inl (fun z9 => nI (L2 z9)))), (hm, .inr (1, [.ref hu, .ref hxs, .ref hys])), (hu, .inl (cZ, 20, .inl (fun z9 => b2i ((f_M_setUsed u ((f_M_sketch u X Y ((f_M_leastUnusedNumber u X Y).toNatClampNeg) x y z w).1) ((f_M_sketch u X Y ((f_M_leastUnusedNumber u X Y).toNatClampNeg) x y z w).2) ((f_M_leastUnusedNumber u X Y).toNatClampNeg) true) z9)))), (hxs, .inl (cI, 40, .inl ((f_M_sketch u X Y ((f_M_leastUnusedNumber u X Y).toNatClampNeg) x y z w).1))), (hys, .inl (cI, 40, .inl ((f_M_sketch u X Y ((f_M_leastUnusedNumber u X Y).toNatClampNeg) x y z w).2)))] := hD
              refine lv_aload_n hx hb d_A_add_96 rfl (lv_at hl 2 rfl) ?_
              refine rcallVv (rest := []) (wc := [(h0, .inr (2, [.ref hm, .ref hg1, .ref hg2])), (hm, .inr (1, [.ref hu, .ref hxs, .ref hys])), (hu, .inl (cZ, 20, .inl (fun z9 => b2i ((f_M_setUsed u ((f_M_sketch u X Y ((f_M_leastUnusedNumber u X Y).toNatClampNeg) x y z w).1) ((f_M_sketch u X Y ((f_M_leastUnusedNumber u X Y).toNatClampNeg) x y z w).2) ((f_M_leastUnusedNumber u X Y).toNatClampNeg) true) z9)))), (hxs, .inl (cI, 40, .inl ((f_M_sketch u X Y ((f_M_leastUnusedNumber u X Y).toNatClampNeg) x y z w).1))), (hys, .inl (cI, 40, .inl ((f_M_sketch u X Y ((f_M_leastUnusedNumber u X Y).toNatClampNeg) x y z w).2))), (hg1, .inr (0, [.ref hl1])), (hl1, .inl (cI, 41, .inl (fun z9 => nI (L1 z9)))), (hg2, .inr (0, [.ref hl2])), (hl2, .inl (cI, 20, .inl (fun z9 => nI (L2 z9))))]) (wr := []) (w1 := [(h0, .inr (2, [.ref hm, .ref hg1, .ref hg2])), (hm, .inr (1, [.ref hu, .ref hxs, .ref hys])), (hu, .inl (cZ, 20, .inl (fun z9 => b2i ((f_M_setUsed u ((f_M_sketch u X Y ((f_M_leastUnusedNumber u X Y).toNatClampNeg) x y z w).1) ((f_M_sketch u X Y ((f_M_leastUnusedNumber u X Y).toNatClampNeg) x y z w).2) ((f_M_leastUnusedNumber u X Y).toNatClampNeg) true) z9)))), (hxs, .inl (cI, 40, .inl ((f_M_sketch u X Y ((f_M_leastUnusedNumber u X Y).toNatClampNeg) x y z w).1))), (hys, .inl (cI, 40, .inl ((f_M_sketch u X Y ((f_M_leastUnusedNumber u X Y).toNatClampNeg) x y z w).2))), (hg1, .inr (0, [.ref hl1])), (hl1, .inl (cI, 41, .inl (fun z9 => nI (((f_A_regroup (f_M_setUsed u ((f_M_sketch u X Y ((f_M_leastUnusedNumber u X Y).toNatClampNeg) x y z w).1) ((f_M_sketch u X Y ((f_M_leastUnusedNumber u X Y).toNatClampNeg) x y z w).2) ((f_M_leastUnusedNumber u X Y).toNatClampNeg) true) ((f_M_sketch u X Y ((f_M_leastUnusedNumber u X Y).toNatClampNeg) x y z w).1) ((f_M_sketch u X Y ((f_M_leastUnusedNumber u X Y).toNatClampNeg) x y z w).2) L1 L2).1) z9)))), (hg2, .inr (0, [.ref hl2])), (hl2, .inl (cI, 20, .inl (fun z9 => nI (((f_A_regroup (f_M_setUsed u ((f_M_sketch u X Y ((f_M_leastUnusedNumber u X Y).toNatClampNeg) x y z w).1) ((f_M_sketch u X Y ((f_M_leastUnusedNumber u X Y).toNatClampNeg) x y z w).2) ((f_M_leastUnusedNumber u X Y).toNatClampNeg) true) ((f_M_sketch u X Y ((f_M_leastUnusedNumber u X Y).toNatClampNeg) x y z w).1) ((f_M_sketch u X Y ((f_M_leastUnusedNumber u X Y).toNatClampNeg) x y z w).2) L1 L2).2) z9))))]) S [] hK hP hD hS hA [0, 5, 6, 7, 8, 1, 2, 3, 4] [] rfl rfl (by decide) rfl (by decide) (by decide) [0, 1] rfl (c_A_regroup l D h0 hm hu hxs hys hg1 hl1 hg2 hl2 cZ cI (f_M_setUsed u ((f_M_sketch u X Y ((f_M_leastUnusedNumber u X Y).toNatClampNeg) x y z w).1) ((f_M_sketch u X Y ((f_M_leastUnusedNumber u X Y).toNatClampNeg) x y z w).2) ((f_M_leastUnusedNumber u X Y).toNatClampNeg) true) ((f_M_sketch u X Y ((f_M_leastUnusedNumber u X Y).toNatClampNeg) x y z w).1) ((f_M_sketch u X Y ((f_M_leastUnusedNumber u X Y).toNatClampNeg) x y z w).2) L1 L2  _ ) i_A_regroup kL_A_48 ⟨Nat.le_of_ble_eq_true rfl, Nat.le_of_ble_eq_true rfl⟩ ⟨Nat.zero_le _, Nat.zero_le _⟩ (q0 := 0) (ci := 2) rfl rfl rfl hl.1 rfl (Nat.le_of_ble_eq_true rfl) d_A_add_97 (fun H locs hP hD hS => ?_)
              have hP : va_P D CLS [(h0, .inr (2, [.ref hm, .ref hg1, .ref hg2])), (hm, .inr (1, [.ref hu, .ref hxs, .ref hys])), (hu, .inl (cZ, 20, .inl (fun z9 => b2i ((f_M_setUsed u ((f_M_sketch u X Y ((f_M_leastUnusedNumber u X Y).toNatClampNeg) x y z w).1) ((f_M_sketch u X Y ((f_M_leastUnusedNumber u X Y).toNatClampNeg) x y z w).2) ((f_M_leastUnusedNumber u X Y).toNatClampNeg) true) z9)))), (hxs, .inl (cI, 40, .inl ((f_M_sketch u X Y ((f_M_leastUnusedNumber u X Y).toNatClampNeg) x y z w).1))), (hys, .inl (cI, 40, .inl ((f_M_sketch u X Y ((f_M_leastUnusedNumber u X Y).toNatClampNeg) x y z w).2))), (hg1, .inr (0, [.ref hl1])), (hl1, .inl (cI, 41, .inl (fun z9 => nI (((f_A_regroup (f_M_setUsed u ((f_M_sketch u X Y ((f_M_leastUnusedNumber u X Y).toNatClampNeg) x y z w).1) ((f_M_sketch u X Y ((f_M_leastUnusedNumber u X Y).toNatClampNeg) x y z w).2) ((f_M_leastUnusedNumber u X Y).toNatClampNeg) true) ((f_M_sketch u X Y ((f_M_leastUnusedNumber u X Y).toNatClampNeg) x y z w).1) ((f_M_sketch u X Y ((f_M_leastUnusedNumber u X Y).toNatClampNeg) x y z w).2) L1 L2).1) z9)))), (hg2, .inr (0, [.ref hl2])), (hl2, .inl (cI, 20, .inl (fun z9 => nI (((f_A_regroup (f_M_setUsed u ((f_M_sketch u X Y ((f_M_leastUnusedNumber u X Y).toNatClampNeg) x y z w).1) ((f_M_sketch u X Y ((f_M_leastUnusedNumber u X Y).toNatClampNeg) x y z w).2) ((f_M_leastUnusedNumber u X Y).toNatClampNeg) true) ((f_M_sketch u X Y ((f_M_leastUnusedNumber u X Y).toNatClampNeg) x y z w).1) ((f_M_sketch u X Y ((f_M_leastUnusedNumber u X Y).toNatClampNeg) x y z w).2) L1 L2).2) z9))))] H := hP
              have hD : va_D A [(h0, .inr (2, [.ref hm, .ref hg1, .ref hg2])), (hm, .inr (1, [.ref hu, .ref hxs, .ref hys])), (hu, .inl (cZ, 20, .inl (fun z9 => b2i ((f_M_setUsed u ((f_M_sketch u X Y ((f_M_leastUnusedNumber u X Y).toNatClampNeg) x y z w).1) ((f_M_sketch u X Y ((f_M_leastUnusedNumber u X Y).toNatClampNeg) x y z w).2) ((f_M_leastUnusedNumber u X Y).toNatClampNeg) true) z9)))), (hxs, .inl (cI, 40, .inl ((f_M_sketch u X Y ((f_M_leastUnusedNumber u X Y).toNatClampNeg) x y z w).1))), (hys, .inl (cI, 40, .inl ((f_M_sketch u X Y ((f_M_leastUnusedNumber u X Y).toNatClampNeg) x y z w).2))), (hg1, .inr (0, [.ref hl1])), (hl1, .inl (cI, 41, .inl (fun z9 => nI (((f_A_regroup (f_M_setUsed u ((f_M_sketch u X Y ((f_M_leastUnusedNumber u X Y).toNatClampNeg) x y z w).1) ((f_M_sketch u X Y ((f_M_leastUnusedNumber u X Y).toNatClampNeg) x y z w).2) ((f_M_leastUnusedNumber u X Y).toNatClampNeg) true) ((f_M_sketch u X Y ((f_M_leastUnusedNumber u X Y).toNatClampNeg) x y z w).1) ((f_M_sketch u X Y ((f_M_leastUnusedNumber u X Y).toNatClampNeg) x y z w).2) L1 L2).1) z9)))), (hg2, .inr (0, [.ref hl2])), (hl2, .inl (cI, 20, .inl (fun z9 => nI (((f_A_regroup (f_M_setUsed u ((f_M_sketch u X Y ((f_M_leastUnusedNumber u X Y).toNatClampNeg) x y z w).1) ((f_M_sketch u X Y ((f_M_leastUnusedNumber u X Y).toNatClampNeg) x y z w).2) ((f_M_leastUnusedNumber u X Y).toNatClampNeg) true) ((f_M_sketch u X Y ((f_M_leastUnusedNumber u X Y).toNatClampNeg) x y z w).1) ((f_M_sketch u X Y ((f_M_leastUnusedNumber u X Y).toNatClampNeg) x y z w).2) L1 L2).2) z9))))] := hD
              refine lv_iload hx hb d_A_add_100 (lv_at hl 1 rfl) ?_
              have eqf := (show f_A_add u X Y L1 L2 x y z w = (nI ((f_M_leastUnusedNumber u X Y).toNatClampNeg), f_M_setUsed u ((f_M_sketch u X Y ((f_M_leastUnusedNumber u X Y).toNatClampNeg) x y z w).1) ((f_M_sketch u X Y ((f_M_leastUnusedNumber u X Y).toNatClampNeg) x y z w).2) ((f_M_leastUnusedNumber u X Y).toNatClampNeg) true, (f_M_sketch u X Y ((f_M_leastUnusedNumber u X Y).toNatClampNeg) x y z w).1, (f_M_sketch u X Y ((f_M_leastUnusedNumber u X Y).toNatClampNeg) x y z w).2, (f_A_regroup (f_M_setUsed u ((f_M_sketch u X Y ((f_M_leastUnusedNumber u X Y).toNatClampNeg) x y z w).1) ((f_M_sketch u X Y ((f_M_leastUnusedNumber u X Y).toNatClampNeg) x y z w).2) ((f_M_leastUnusedNumber u X Y).toNatClampNeg) true) ((f_M_sketch u X Y ((f_M_leastUnusedNumber u X Y).toNatClampNeg) x y z w).1) ((f_M_sketch u X Y ((f_M_leastUnusedNumber u X Y).toNatClampNeg) x y z w).2) L1 L2).1, (f_A_regroup (f_M_setUsed u ((f_M_sketch u X Y ((f_M_leastUnusedNumber u X Y).toNatClampNeg) x y z w).1) ((f_M_sketch u X Y ((f_M_leastUnusedNumber u X Y).toNatClampNeg) x y z w).2) ((f_M_leastUnusedNumber u X Y).toNatClampNeg) true) ((f_M_sketch u X Y ((f_M_leastUnusedNumber u X Y).toNatClampNeg) x y z w).1) ((f_M_sketch u X Y ((f_M_leastUnusedNumber u X Y).toNatClampNeg) x y z w).2) L1 L2).2) from by unfold f_A_add; rw [if_pos c1a, if_pos c2a, if_pos c3a, if_neg c6a, if_neg c7a, if_pos c8a])
              exact rretI S hr hlk (v := nI ((f_M_leastUnusedNumber u X Y).toNatClampNeg)) (by rw [eqf]) (by rw [eqf]) hP hK hD hS d_A_add_102
            · have c8a : ¬ ((f_M_leastMeeting u ((f_M_sketch u X Y ((f_M_leastUnusedNumber u X Y).toNatClampNeg) x y z w).1) ((f_M_sketch u X Y ((f_M_leastUnusedNumber u X Y).toNatClampNeg) x y z w).2) ((f_M_leastUnusedNumber u X Y).toNatClampNeg)) = (-1)) := c8
              refine lv_bipush (v := (-10)) hx hb d_A_add_80 (by decide) ?_
              refine lv_iload hx hb d_A_add_82 (lv_at hl 0 rfl) ?_
              refine lv_isub hx hb d_A_add_84 ?_
              have hP : va_P D CLS [(h0, .inr (2, [.ref hm, .ref hg1, .ref hg2])), (hm, .inr (1, [.ref hu, .ref hxs, .ref hys])), (hu, .inl (cZ, 20, .inl (fun z9 => b2i (u z9)))), (hxs, .inl (cI, 40, .inl ((f_M_sketch u X Y ((f_M_leastUnusedNumber u X Y).toNatClampNeg) x y z w).1))), (hys, .inl (cI, 40, .inl ((f_M_sketch u X Y ((f_M_leastUnusedNumber u X Y).toNatClampNeg) x y z w).2))), (hg1, .inr (0, [.ref hl1])), (hl1, .inl (cI, 41, .inl (fun z9 => nI (L1 z9)))), (hg2, .inr (0, [.ref hl2])), (hl2, .inl (cI, 20, .inl (fun z9 => nI (L2 z9))))] _ := hP.sub [0, 5, 6, 7, 8, 1, 2, 3, 4] rfl
              have hD : va_D A [(h0, .inr (2, [.ref hm, .ref hg1, .ref hg2])), (hm, .inr (1, [.ref hu, .ref hxs, .ref hys])), (hu, .inl (cZ, 20, .inl (fun z9 => b2i (u z9)))), (hxs, .inl (cI, 40, .inl ((f_M_sketch u X Y ((f_M_leastUnusedNumber u X Y).toNatClampNeg) x y z w).1))), (hys, .inl (cI, 40, .inl ((f_M_sketch u X Y ((f_M_leastUnusedNumber u X Y).toNatClampNeg) x y z w).2))), (hg1, .inr (0, [.ref hl1])), (hl1, .inl (cI, 41, .inl (fun z9 => nI (L1 z9)))), (hg2, .inr (0, [.ref hl2])), (hl2, .inl (cI, 20, .inl (fun z9 => nI (L2 z9))))] := hD.sub [0, 5, 6, 7, 8, 1, 2, 3, 4] (by decide) rfl
              have eqf := (show f_A_add u X Y L1 L2 x y z w = (((-10) - (f_M_leastMeeting u ((f_M_sketch u X Y ((f_M_leastUnusedNumber u X Y).toNatClampNeg) x y z w).1) ((f_M_sketch u X Y ((f_M_leastUnusedNumber u X Y).toNatClampNeg) x y z w).2) ((f_M_leastUnusedNumber u X Y).toNatClampNeg))), u, (f_M_sketch u X Y ((f_M_leastUnusedNumber u X Y).toNatClampNeg) x y z w).1, (f_M_sketch u X Y ((f_M_leastUnusedNumber u X Y).toNatClampNeg) x y z w).2, L1, L2) from by unfold f_A_add; rw [if_pos c1a, if_pos c2a, if_pos c3a, if_neg c6a, if_neg c7a, if_neg c8a])
              exact rretI S hr hlk (v := ((-10) - (f_M_leastMeeting u ((f_M_sketch u X Y ((f_M_leastUnusedNumber u X Y).toNatClampNeg) x y z w).1) ((f_M_sketch u X Y ((f_M_leastUnusedNumber u X Y).toNatClampNeg) x y z w).2) ((f_M_leastUnusedNumber u X Y).toNatClampNeg)))) (by rw [eqf]) (by rw [eqf]) hP hK hD hS d_A_add_85
          · have c7a : (f_M_leastUnusedNumber u X Y) = (-1) := c7
            refine lv_bipush (v := (-3)) hx hb d_A_add_46 (by decide) ?_
            have eqf := (show f_A_add u X Y L1 L2 x y z w = ((-3), u, X, Y, L1, L2) from by unfold f_A_add; rw [if_pos c1a, if_pos c2a, if_pos c3a, if_neg c6a, if_pos c7a])
            exact rretI S hr hlk (v := (-3)) (by rw [eqf]) (by rw [eqf]) hP hK hD hS d_A_add_48
        · have c6a : y = w := c6
          refine lv_bipush (v := (-2)) hx hb d_A_add_28 (by decide) ?_
          have eqf := (show f_A_add u X Y L1 L2 x y z w = ((-2), u, X, Y, L1, L2) from by unfold f_A_add; rw [if_pos c1a, if_pos c2a, if_pos c3a, if_pos c6a])
          exact rretI S hr hlk (v := (-2)) (by rw [eqf]) (by rw [eqf]) hP hK hD hS d_A_add_30
end
