section
/-- a private method of a class that the tables say can be made, by its rows of tables_1 -/
def lw_okq (q : MethodName × Nat) : Prop := (q.1.cls ≠ "java/lang/invoke/MethodHandle" ∧ q.1.cls ≠ "java/lang/invoke/VarHandle") ∧ Cond.instantiable q.1.cls q.2 ∈ tables_1 ∧ Cond.privateMethod q.1 ∈ tables_1 ∧ Cond.instanceMethod q.1 ∈ tables_1
theorem lw_p0 : lw_okq (⟨"PushBoards", "takeText", "()I"⟩, 7) := ⟨⟨by decide +kernel, by decide +kernel⟩, List.mem_of_getElem? (i := 23) (by decide +kernel), List.mem_of_getElem? (i := 238) (by decide +kernel), List.mem_of_getElem? (i := 239) (by decide +kernel)⟩
theorem lw_p1 : lw_okq (⟨"PushBoards$Picture", "takesSign", "(IJ)Z"⟩, 8) := ⟨⟨by decide +kernel, by decide +kernel⟩, List.mem_of_getElem? (i := 31) (by decide +kernel), List.mem_of_getElem? (i := 253) (by decide +kernel), List.mem_of_getElem? (i := 254) (by decide +kernel)⟩
theorem lw_p2 : lw_okq (⟨"PushBoards$Picture", "takesGoal", "(J)Z"⟩, 8) := ⟨⟨by decide +kernel, by decide +kernel⟩, List.mem_of_getElem? (i := 31) (by decide +kernel), List.mem_of_getElem? (i := 257) (by decide +kernel), List.mem_of_getElem? (i := 258) (by decide +kernel)⟩
theorem lw_p3 : lw_okq (⟨"PushBoards$Picture", "takesBox", "(J)Z"⟩, 8) := ⟨⟨by decide +kernel, by decide +kernel⟩, List.mem_of_getElem? (i := 31) (by decide +kernel), List.mem_of_getElem? (i := 267) (by decide +kernel), List.mem_of_getElem? (i := 268) (by decide +kernel)⟩
theorem lw_p4 : lw_okq (⟨"PushBoards$Picture", "takesPerson", "(J)Z"⟩, 8) := ⟨⟨by decide +kernel, by decide +kernel⟩, List.mem_of_getElem? (i := 31) (by decide +kernel), List.mem_of_getElem? (i := 271) (by decide +kernel), List.mem_of_getElem? (i := 272) (by decide +kernel)⟩
theorem lw_p5 : lw_okq (⟨"PushBoards$Board", "liveCells", "()J"⟩, 10) := ⟨⟨by decide +kernel, by decide +kernel⟩, List.mem_of_getElem? (i := 69) (by decide +kernel), List.mem_of_getElem? (i := 291) (by decide +kernel), List.mem_of_getElem? (i := 292) (by decide +kernel)⟩
theorem lw_p6 : lw_okq (⟨"PushBoards", "goOften", "(II)I"⟩, 7) := ⟨⟨by decide +kernel, by decide +kernel⟩, List.mem_of_getElem? (i := 23) (by decide +kernel), List.mem_of_getElem? (i := 316) (by decide +kernel), List.mem_of_getElem? (i := 317) (by decide +kernel)⟩
theorem lw_p7 : lw_okq (⟨"PushBoards", "goOnce", "(I)I"⟩, 7) := ⟨⟨by decide +kernel, by decide +kernel⟩, List.mem_of_getElem? (i := 23) (by decide +kernel), List.mem_of_getElem? (i := 320) (by decide +kernel), List.mem_of_getElem? (i := 321) (by decide +kernel)⟩
theorem lw_p8 : lw_okq (⟨"PushBoards$Matching", "giveBoxTo", "(II)V"⟩, 7) := ⟨⟨by decide +kernel, by decide +kernel⟩, List.mem_of_getElem? (i := 142) (by decide +kernel), List.mem_of_getElem? (i := 489) (by decide +kernel), List.mem_of_getElem? (i := 490) (by decide +kernel)⟩
theorem lw_p9 : lw_okq (⟨"PushBoards$Matching", "nextBox", "(II)I"⟩, 7) := ⟨⟨by decide +kernel, by decide +kernel⟩, List.mem_of_getElem? (i := 142) (by decide +kernel), List.mem_of_getElem? (i := 494) (by decide +kernel), List.mem_of_getElem? (i := 495) (by decide +kernel)⟩
theorem lw_p10 : lw_okq (⟨"PushBoards$Search", "takeIn", "(JIII)V"⟩, 9) := ⟨⟨by decide +kernel, by decide +kernel⟩, List.mem_of_getElem? (i := 171) (by decide +kernel), List.mem_of_getElem? (i := 509) (by decide +kernel), List.mem_of_getElem? (i := 510) (by decide +kernel)⟩
theorem lw_p11 : lw_okq (⟨"PushBoards$Search", "makeRoom", "()V"⟩, 9) := ⟨⟨by decide +kernel, by decide +kernel⟩, List.mem_of_getElem? (i := 171) (by decide +kernel), List.mem_of_getElem? (i := 513) (by decide +kernel), List.mem_of_getElem? (i := 514) (by decide +kernel)⟩
theorem lw_p12 : lw_okq (⟨"PushBoards$Search", "slotOf", "(JI)I"⟩, 9) := ⟨⟨by decide +kernel, by decide +kernel⟩, List.mem_of_getElem? (i := 171) (by decide +kernel), List.mem_of_getElem? (i := 539) (by decide +kernel), List.mem_of_getElem? (i := 540) (by decide +kernel)⟩
theorem lw_p13 : lw_okq (⟨"PushBoards$Search", "pushFrom", "(LPushBoards$Board;II)V"⟩, 9) := ⟨⟨by decide +kernel, by decide +kernel⟩, List.mem_of_getElem? (i := 171) (by decide +kernel), List.mem_of_getElem? (i := 545) (by decide +kernel), List.mem_of_getElem? (i := 546) (by decide +kernel)⟩
theorem lw_p14 : lw_okq (⟨"PushBoards$Search", "comeTo", "(LPushBoards$Board;JJIII)V"⟩, 9) := ⟨⟨by decide +kernel, by decide +kernel⟩, List.mem_of_getElem? (i := 171) (by decide +kernel), List.mem_of_getElem? (i := 554) (by decide +kernel), List.mem_of_getElem? (i := 555) (by decide +kernel)⟩
theorem lw_p15 : lw_okq (⟨"PushBoards$Search", "pushesTo", "(I)I"⟩, 9) := ⟨⟨by decide +kernel, by decide +kernel⟩, List.mem_of_getElem? (i := 171) (by decide +kernel), List.mem_of_getElem? (i := 559) (by decide +kernel), List.mem_of_getElem? (i := 560) (by decide +kernel)⟩
def lw_privs_1 : List (MethodName × Nat) := [(⟨"PushBoards", "takeText", "()I"⟩, 7), (⟨"PushBoards$Picture", "takesSign", "(IJ)Z"⟩, 8), (⟨"PushBoards$Picture", "takesGoal", "(J)Z"⟩, 8), (⟨"PushBoards$Picture", "takesBox", "(J)Z"⟩, 8), (⟨"PushBoards$Picture", "takesPerson", "(J)Z"⟩, 8), (⟨"PushBoards$Board", "liveCells", "()J"⟩, 10), (⟨"PushBoards", "goOften", "(II)I"⟩, 7), (⟨"PushBoards", "goOnce", "(I)I"⟩, 7), (⟨"PushBoards$Matching", "giveBoxTo", "(II)V"⟩, 7), (⟨"PushBoards$Matching", "nextBox", "(II)I"⟩, 7), (⟨"PushBoards$Search", "takeIn", "(JIII)V"⟩, 9), (⟨"PushBoards$Search", "makeRoom", "()V"⟩, 9), (⟨"PushBoards$Search", "slotOf", "(JI)I"⟩, 9), (⟨"PushBoards$Search", "pushFrom", "(LPushBoards$Board;II)V"⟩, 9), (⟨"PushBoards$Search", "comeTo", "(LPushBoards$Board;JJIII)V"⟩, 9), (⟨"PushBoards$Search", "pushesTo", "(I)I"⟩, 9)]
theorem lw_r1 : ∀ q ∈ lw_privs_1, lw_okq q := List.forall_mem_cons.mpr ⟨lw_p0, List.forall_mem_cons.mpr ⟨lw_p1, List.forall_mem_cons.mpr ⟨lw_p2, List.forall_mem_cons.mpr ⟨lw_p3, List.forall_mem_cons.mpr ⟨lw_p4, List.forall_mem_cons.mpr ⟨lw_p5, List.forall_mem_cons.mpr ⟨lw_p6, List.forall_mem_cons.mpr ⟨lw_p7, List.forall_mem_cons.mpr ⟨lw_p8, List.forall_mem_cons.mpr ⟨lw_p9, List.forall_mem_cons.mpr ⟨lw_p10, List.forall_mem_cons.mpr ⟨lw_p11, List.forall_mem_cons.mpr ⟨lw_p12, List.forall_mem_cons.mpr ⟨lw_p13, List.forall_mem_cons.mpr ⟨lw_p14, List.forall_mem_cons.mpr ⟨lw_p15, fun _ h => absurd h List.not_mem_nil⟩⟩⟩⟩⟩⟩⟩⟩⟩⟩⟩⟩⟩⟩⟩⟩
theorem lw_p16 : lw_okq (⟨"java/lang/Throwable", "fillInStackTrace", "(I)Ljava/lang/Throwable;"⟩, 6) := ⟨⟨by decide +kernel, by decide +kernel⟩, List.mem_of_getElem? (i := 621) (by decide +kernel), List.mem_of_getElem? (i := 619) (by decide +kernel), List.mem_of_getElem? (i := 620) (by decide +kernel)⟩
theorem lw_p17 : lw_okq (⟨"PushBoards", "existing", "(II)J"⟩, 7) := ⟨⟨by decide +kernel, by decide +kernel⟩, List.mem_of_getElem? (i := 23) (by decide +kernel), List.mem_of_getElem? (i := 678) (by decide +kernel), List.mem_of_getElem? (i := 679) (by decide +kernel)⟩
theorem lw_p18 : lw_okq (⟨"PushBoardsModel", "look", "()I"⟩, 30) := ⟨⟨by decide +kernel, by decide +kernel⟩, List.mem_of_getElem? (i := 703) (by decide +kernel), List.mem_of_getElem? (i := 813) (by decide +kernel), List.mem_of_getElem? (i := 814) (by decide +kernel)⟩
theorem lw_p19 : lw_okq (⟨"PushBoardsModel", "throwsIf", "(IZ)Z"⟩, 30) := ⟨⟨by decide +kernel, by decide +kernel⟩, List.mem_of_getElem? (i := 703) (by decide +kernel), List.mem_of_getElem? (i := 827) (by decide +kernel), List.mem_of_getElem? (i := 828) (by decide +kernel)⟩
theorem lw_p20 : lw_okq (⟨"PushBoardsModel", "go", "(I)I"⟩, 30) := ⟨⟨by decide +kernel, by decide +kernel⟩, List.mem_of_getElem? (i := 703) (by decide +kernel), List.mem_of_getElem? (i := 831) (by decide +kernel), List.mem_of_getElem? (i := 832) (by decide +kernel)⟩
theorem lw_p21 : lw_okq (⟨"PushBoardsModel", "beside", "(II)I"⟩, 30) := ⟨⟨by decide +kernel, by decide +kernel⟩, List.mem_of_getElem? (i := 703) (by decide +kernel), List.mem_of_getElem? (i := 835) (by decide +kernel), List.mem_of_getElem? (i := 836) (by decide +kernel)⟩
theorem lw_p22 : lw_okq (⟨"PushBoardsModel", "isCell", "(II)Z"⟩, 30) := ⟨⟨by decide +kernel, by decide +kernel⟩, List.mem_of_getElem? (i := 703) (by decide +kernel), List.mem_of_getElem? (i := 839) (by decide +kernel), List.mem_of_getElem? (i := 840) (by decide +kernel)⟩
theorem lw_p23 : lw_okq (⟨"PushBoardsModel", "against", "(I)I"⟩, 30) := ⟨⟨by decide +kernel, by decide +kernel⟩, List.mem_of_getElem? (i := 703) (by decide +kernel), List.mem_of_getElem? (i := 848) (by decide +kernel), List.mem_of_getElem? (i := 849) (by decide +kernel)⟩
theorem lw_p24 : lw_okq (⟨"PushBoardsModel", "number", "(I)I"⟩, 30) := ⟨⟨by decide +kernel, by decide +kernel⟩, List.mem_of_getElem? (i := 703) (by decide +kernel), List.mem_of_getElem? (i := 863) (by decide +kernel), List.mem_of_getElem? (i := 864) (by decide +kernel)⟩
theorem lw_p25 : lw_okq (⟨"PushBoardsModel", "isDone", "(J)Z"⟩, 30) := ⟨⟨by decide +kernel, by decide +kernel⟩, List.mem_of_getElem? (i := 703) (by decide +kernel), List.mem_of_getElem? (i := 867) (by decide +kernel), List.mem_of_getElem? (i := 868) (by decide +kernel)⟩
theorem lw_p26 : lw_okq (⟨"PushBoardsModel", "reachOf", "(IJ)J"⟩, 30) := ⟨⟨by decide +kernel, by decide +kernel⟩, List.mem_of_getElem? (i := 703) (by decide +kernel), List.mem_of_getElem? (i := 883) (by decide +kernel), List.mem_of_getElem? (i := 884) (by decide +kernel)⟩
theorem lw_p27 : lw_okq (⟨"PushBoardsModel", "live", "()J"⟩, 30) := ⟨⟨by decide +kernel, by decide +kernel⟩, List.mem_of_getElem? (i := 703) (by decide +kernel), List.mem_of_getElem? (i := 895) (by decide +kernel), List.mem_of_getElem? (i := 896) (by decide +kernel)⟩
theorem lw_p28 : lw_okq (⟨"PushBoardsModel", "fastOf", "(JJ)J"⟩, 30) := ⟨⟨by decide +kernel, by decide +kernel⟩, List.mem_of_getElem? (i := 703) (by decide +kernel), List.mem_of_getElem? (i := 903) (by decide +kernel), List.mem_of_getElem? (i := 904) (by decide +kernel)⟩
theorem lw_p29 : lw_okq (⟨"PushBoardsModel", "canGo", "(IIJJ)Z"⟩, 30) := ⟨⟨by decide +kernel, by decide +kernel⟩, List.mem_of_getElem? (i := 703) (by decide +kernel), List.mem_of_getElem? (i := 907) (by decide +kernel), List.mem_of_getElem? (i := 908) (by decide +kernel)⟩
theorem lw_p30 : lw_okq (⟨"PushBoardsModel", "measure", "(I)V"⟩, 30) := ⟨⟨by decide +kernel, by decide +kernel⟩, List.mem_of_getElem? (i := 703) (by decide +kernel), List.mem_of_getElem? (i := 919) (by decide +kernel), List.mem_of_getElem? (i := 920) (by decide +kernel)⟩
theorem lw_p31 : lw_okq (⟨"PushBoardsModel", "goalAt", "(I)I"⟩, 30) := ⟨⟨by decide +kernel, by decide +kernel⟩, List.mem_of_getElem? (i := 703) (by decide +kernel), List.mem_of_getElem? (i := 927) (by decide +kernel), List.mem_of_getElem? (i := 928) (by decide +kernel)⟩
def lw_privs_2 : List (MethodName × Nat) := [(⟨"java/lang/Throwable", "fillInStackTrace", "(I)Ljava/lang/Throwable;"⟩, 6), (⟨"PushBoards", "existing", "(II)J"⟩, 7), (⟨"PushBoardsModel", "look", "()I"⟩, 30), (⟨"PushBoardsModel", "throwsIf", "(IZ)Z"⟩, 30), (⟨"PushBoardsModel", "go", "(I)I"⟩, 30), (⟨"PushBoardsModel", "beside", "(II)I"⟩, 30), (⟨"PushBoardsModel", "isCell", "(II)Z"⟩, 30), (⟨"PushBoardsModel", "against", "(I)I"⟩, 30), (⟨"PushBoardsModel", "number", "(I)I"⟩, 30), (⟨"PushBoardsModel", "isDone", "(J)Z"⟩, 30), (⟨"PushBoardsModel", "reachOf", "(IJ)J"⟩, 30), (⟨"PushBoardsModel", "live", "()J"⟩, 30), (⟨"PushBoardsModel", "fastOf", "(JJ)J"⟩, 30), (⟨"PushBoardsModel", "canGo", "(IIJJ)Z"⟩, 30), (⟨"PushBoardsModel", "measure", "(I)V"⟩, 30), (⟨"PushBoardsModel", "goalAt", "(I)I"⟩, 30)]
theorem lw_r2 : ∀ q ∈ lw_privs_2, lw_okq q := List.forall_mem_cons.mpr ⟨lw_p16, List.forall_mem_cons.mpr ⟨lw_p17, List.forall_mem_cons.mpr ⟨lw_p18, List.forall_mem_cons.mpr ⟨lw_p19, List.forall_mem_cons.mpr ⟨lw_p20, List.forall_mem_cons.mpr ⟨lw_p21, List.forall_mem_cons.mpr ⟨lw_p22, List.forall_mem_cons.mpr ⟨lw_p23, List.forall_mem_cons.mpr ⟨lw_p24, List.forall_mem_cons.mpr ⟨lw_p25, List.forall_mem_cons.mpr ⟨lw_p26, List.forall_mem_cons.mpr ⟨lw_p27, List.forall_mem_cons.mpr ⟨lw_p28, List.forall_mem_cons.mpr ⟨lw_p29, List.forall_mem_cons.mpr ⟨lw_p30, List.forall_mem_cons.mpr ⟨lw_p31, fun _ h => absurd h List.not_mem_nil⟩⟩⟩⟩⟩⟩⟩⟩⟩⟩⟩⟩⟩⟩⟩⟩
theorem lw_p32 : lw_okq (⟨"PushBoardsModel", "spread", "(I)I"⟩, 30) := ⟨⟨by decide +kernel, by decide +kernel⟩, List.mem_of_getElem? (i := 703) (by decide +kernel), List.mem_of_getElem? (i := 935) (by decide +kernel), List.mem_of_getElem? (i := 936) (by decide +kernel)⟩
theorem lw_p33 : lw_okq (⟨"PushBoardsModel", "isNew", "(JIII)Z"⟩, 30) := ⟨⟨by decide +kernel, by decide +kernel⟩, List.mem_of_getElem? (i := 703) (by decide +kernel), List.mem_of_getElem? (i := 939) (by decide +kernel), List.mem_of_getElem? (i := 940) (by decide +kernel)⟩
theorem lw_p34 : lw_okq (⟨"PushBoardsModel", "seatOf", "(JI)I"⟩, 30) := ⟨⟨by decide +kernel, by decide +kernel⟩, List.mem_of_getElem? (i := 703) (by decide +kernel), List.mem_of_getElem? (i := 946) (by decide +kernel), List.mem_of_getElem? (i := 947) (by decide +kernel)⟩
def lw_privs_3 : List (MethodName × Nat) := [(⟨"PushBoardsModel", "spread", "(I)I"⟩, 30), (⟨"PushBoardsModel", "isNew", "(JIII)Z"⟩, 30), (⟨"PushBoardsModel", "seatOf", "(JI)I"⟩, 30)]
theorem lw_r3 : ∀ q ∈ lw_privs_3, lw_okq q := List.forall_mem_cons.mpr ⟨lw_p32, List.forall_mem_cons.mpr ⟨lw_p33, List.forall_mem_cons.mpr ⟨lw_p34, fun _ h => absurd h List.not_mem_nil⟩⟩⟩
def lw_privs : List (MethodName × Nat) := lw_privs_1 ++ (lw_privs_2 ++ (lw_privs_3))
def lw_tbl : List Cond := k2_sels lw_privs ++ tables_1
theorem lw_privs_ok : ∀ q ∈ lw_privs, lw_okq q := by
  show ∀ q ∈ lw_privs_1 ++ (lw_privs_2 ++ (lw_privs_3)), lw_okq q
  exact List.forall_mem_append.mpr ⟨lw_r1, List.forall_mem_append.mpr ⟨lw_r2, lw_r3⟩⟩
/-! ===== BEGIN words of one list among another's, by their places ===== -/
theorem goodIn_r {big : List Cond} (ws : List Cond) (ps : List Nat) (hp : ws = ps.filterMap (fun i => big[i]?)) (h : ws.all goodWord = true) : GoodIn big ws := by
  intro w hw
  have h1 := List.all_eq_true.mp h w hw
  rw [hp] at hw
  obtain ⟨i, -, hi⟩ := List.mem_filterMap.mp hw
  have hm : w ∈ big := by first | exact List.mem_of_getElem? hi | exact List.getElem?_mem hi
  exact ⟨hm, good_of_word h1⟩
theorem goodIn_app {big a b : List Cond} (ha : GoodIn big a) (hb : GoodIn big b) : GoodIn big (a ++ b) := fun w h => (List.mem_append.mp h).elim (ha w) (hb w)
theorem goodIn_ca {big a b : List Cond} {c : Cond} (ha : GoodIn big (c :: a)) (hb : GoodIn big b) : GoodIn big (c :: (a ++ b)) := fun w h => (List.mem_cons.mp h).elim (fun e => ha w (List.mem_cons.mpr (Or.inl e))) (fun h => (List.mem_append.mp h).elim (fun h => ha w (List.mem_cons.mpr (Or.inr h))) (hb w))
theorem goodIn_sub {big ws : List Cond} (hm : ∀ w ∈ ws, w ∈ big) (h : ws.all goodWord = true) : GoodIn big ws := fun w hw => ⟨hm w hw, good_of_word (List.all_eq_true.mp h w hw)⟩
/-! ===== END ===== -/

/-! ===== BEGIN exceptions that leave a method, and their catching by the caller (launches without stack traces) ===== -/
section VXA
/-! The laws vx_back, vx_callV, vx_callS, vx_callSW, vx_throw0, vx_throwS follow proofs of the library, with one case more: JvmDerived/Free/Laws.lean (Back.of_free), Shelf42/LK1.lean (callV, callS), Shelf/KitTraced.lean (throwNew0V, throwNewS). -/
/-- where a method has thrown q: the .. by its name, the cell, what was written, the world -/
def vx_T (XC : String → State → State → Prop) (st : State) (q : Addr) (t : State) (mc ms : Nat) (free : Addr → Prop) : Prop :=
  ∃ (E : String) (ce : Cell) (L : List Loc), XC E st t ∧ t.heap[q]? = some ce ∧ ce.vm = .none ∧ st.vm.findClass E = some ce.cls ∧ st.WarmedH t.vm ∧ st.sameButNew ({ t with vm := st.vm } : State) L mc ms ∧ ∀ z ∈ L, free z.base
def vx_Q (Qc : Array Value → State → Outcome → State → Prop) (XC : String → State → State → Prop) (mc ms : Nat) (free : Addr → Prop) : Array Value → State → Outcome → State → Prop := fun a st o t =>
  (Qc a st o t ∧ ∃ L, FrameEnd st o t L mc ms ∧ ∀ q ∈ L, free q.base) ∨ ∃ q, o = .threw q ∧ vx_T XC st q t mc ms free
/-- a callee that returns or throws -/
def vx_Met (l : Launch) (y : MethodName) (ws : List Cond) (rm : Room) (Pc : Array Value → State → Prop) (Qc : Array Value → State → Outcome → State → Prop) (XC : String → State → State → Prop) (mc ms : Nat) (free : Addr → Prop) : Prop :=
  MetFree l y (headSpec ws rm) Pc (fun _ _ _ _ _ => True) (vx_Q Qc XC mc ms free)
def vx_Post (XC : String → State → State → Prop) (mc ms : Nat) (free : Addr → Prop) : Pt → Array Value → Addr → Pt → Prop := fun A a q B =>
  ∃ (g : JFrame) (mk : MethodId) (t : State) (L : List Loc) (E : String) (ce : Cell), B.U.heap = t.heap ∧ B.U.vm = t.vm ∧ XC E (A.U.calling g mk a) t ∧ t.heap[q]? = some ce ∧ ce.vm = .none ∧ A.U.vm.findClass E = some ce.cls ∧ B.locs = A.locs ++ L ∧ (∀ z ∈ L, free z.base) ∧ B.cells = A.cells + mc ∧ B.slots = A.slots + ms
def vx_Back (l : Launch) (R : Room) (p : Program) (e : Env) (below : List Frame) (s : State) (sargs : Array Value) (y : MethodName) (len W9 : Nat)
    (Pre : Pt → Array Value → Prop) (Post : Pt → Array Value → Option Value → Pt → Prop) (PostX : Pt → Array Value → Addr → Pt → Prop) : Prop :=
  ∀ (m : MethodId) (meth : Method) (c : Code) (A : Pt) (g : JFrame) (ig : Instr) (mk : MethodId) (a : Array Value),
    Stand p l e R s m sargs below meth c A.U A.locs A.cells A.slots → g.method = m → g.locals.size = c.maxLocals → decode c.code g.pc = .ok (ig, len) →
    2 * g.monitorRoom + (g.stack.map fun v => v.category).sum ≤ W9 → A.U.methodNamed? y = some mk → Pre A a →
    (∃ (v : Option Value) (B : Pt), Stand p l e R s m sargs below meth c B.U B.locs B.cells B.slots ∧ Post A a v B ∧
      Steps p.tables e below (doInvoke e (A.U.setTop g) [] mk a).1 (B.U.setTop { g with pc := g.pc + len, stack := v.toList ++ g.stack })) ∨
    (∃ (q : Addr) (B : Pt), Stand p l e R s m sargs below meth c B.U B.locs B.cells B.slots ∧ PostX A a q B ∧
      Steps p.tables e below (doInvoke e (A.U.setTop g) [] mk a).1 ((B.U.setTop g).pushFrame (.throwing q)))
section Payer
variable {l : Launch} {R : Room} {p : Program} {e : Env} {below : List Frame} {s : State} {sargs : Array Value} {y : MethodName} {len W9 : Nat}
theorem vx_back {ws : List Cond} {rm : Room} {Pc : Array Value → State → Prop} {Qc : Array Value → State → Outcome → State → Prop} {XC : String → State → State → Prop} {mc ms : Nat} {free : Addr → Prop} {bytes : ByteArray} {maxL : Nat} {ret : Option FieldType}
    (hM : vx_Met l y ws rm Pc Qc XC mc ms free) (hblind : FrameBlind Pc) (hrc : rm.cells = mc) (hrs : rm.slots = ms)
    (hframes : rm.frames + 1 ≤ R.frames) (hlocals : W9 + (maxL + 11) + rm.locals ≤ R.locals)
    (hws : ∀ w ∈ ws, ∀ a' U, s.WarmedH U.vm → w.before a' U = true) (hcode : Cond.code y bytes maxL ret ∈ ws) (hinit : ∀ a' U, s.WarmedH U.vm → (Cond.initialized y.cls).before a' U = true) :
    vx_Back l R p e below s sargs y len W9 (PreOf R mc ms Pc) (PostOf Qc mc ms free) (vx_Post XC mc ms free) := by
  intro m meth c A g ig mk a X hg hsize hdg hW hn hp
  have h1 : (headSpec ws rm).pre.before a A.U = true := atoms_intro fun w hw => hws w hw _ _ X.warmed
  have h2 : (Cond.code y bytes maxL ret).before a A.U = true := hws _ hcode _ _ X.warmed
  have h3 : (Cond.initialized y.cls).before a A.U = true := hinit _ _ X.warmed
  have h4 : A.cells + (headSpec ws rm).room.cells ≤ R.cells := by rw [show (headSpec ws rm).room.cells = mc from hrc]; exact hp.1
  have h5 : A.slots + (headSpec ws rm).room.slots ≤ R.slots := by rw [show (headSpec ws rm).room.slots = ms from hrs]; exact hp.2.1
  have hPc : Pc a (A.U.calling g mk a) := hblind _ _ _ _ hp.2.2
  obtain ⟨U, Ls, c0, s0⟩ := A
  dsimp only [Pt.U, Pt.locs, Pt.cells, Pt.slots] at h1 h2 h3 h4 h5 X hn hPc ⊢
  obtain ⟨methY, cY, hmY, hcY, -, hlY, -, -, -, -⟩ := Cond.code_spec hn h2
  obtain ⟨kY, hkY, -⟩ := className_of_methodNamed hn
  have hinitY : kY.init = .initialized := Cond.initialized_spec (findClass_of_methodNamed hn) hkY h3
  have h : At U g.method c below := by rw [hg]; exact X.here
  have hlocals9 : W9 + (maxL + 11) + (headSpec ws rm).room.locals ≤ R.locals := hlocals
  have happ : (headSpec ws rm).appliesLoose y e.platform (U.calling g mk a) = true :=
    Spec.appliesLoose_calling (g := g) h hdg hn hkY hinitY
      (X.room_calling (g := g) (R' := (headSpec ws rm).room) hsize hmY hcY hframes (by rw [hlY]; omega) h4 h5) h1
  obtain ⟨mid, hmid⟩ := h.above
  have hfr : (U.setTop g).frames = (.java g :: mid) ++ below := by rw [State.frames_setTop' g h.top, hmid]; rfl
  obtain ⟨o, s₂, hsteps, -, hend, hq⟩ := Steps.callFree hM p X.admits X.cas X.clock (acts := []) hfr happ hPc trivial
  have hq' : vx_Q Qc XC mc ms free a (U.calling g mk a) o s₂ := hq
  rw [State.frames_setTop' g h.top] at hend
  obtain ⟨g₀, hg0⟩ := Option.isSome_iff_exists.mp h.top
  obtain ⟨r, hr⟩ := State.topJava?_eq_some.mp hg0
  have hr' : (({ U with heap := s₂.heap, slotsUsed := s₂.slotsUsed } : State).setVm s₂.vm).frames = .java g₀ :: r := hr
  rcases hq' with ⟨hqc, L, hfe, hL⟩ | ⟨q, rfl, E, ce, L, hx, hce, hcv, hcl, hW₂, hsm, hL⟩
  · obtain ⟨⟨v, rfl⟩, hW₂, e2, q2, q3, q4, q5, q6⟩ := id hfe
    have e3 : s₂ = ({ (U.calling g mk a).setFrames s₂.frames with heap := s₂.heap, slotsUsed := s₂.slotsUsed } : State).setVm s₂.vm := by
      have : s₂ = ({ s₂ with vm := (U.calling g mk a).vm } : State).setVm s₂.vm := rfl
      rw [e2] at this
      exact this
    obtain ⟨c₂, i₂, len₂, hc₂, hd₂, hf₂⟩ := hend
    have hW' : U.WarmedH s₂.vm := hW₂
    have hcc : c₂ = c := by
      have h1 : s₂.code? g.method = U.code? g.method := by
        rw [State.code?_eq, State.code?_eq, hW'.alike.method?]
      exact Option.some.inj (hc₂.symm.trans (h1.trans h.code))
    subst hcc
    have hlen : len₂ = len := by rw [hdg] at hd₂; cases hd₂; rfl
    subst hlen
    have hs₂ : s₂ = (({ U with heap := s₂.heap, slotsUsed := s₂.slotsUsed } : State).setVm s₂.vm).setTop { g with pc := g.pc + len₂, stack := v.toList ++ g.stack } := by
      refine e3.trans ?_
      rw [hf₂, State.calling_eq h.top, State.setFrames_setFrames, State.setTop_of_frames _ hr', hr]
      rfl
    have hsame : U.sameButNew ({ U with heap := s₂.heap, slotsUsed := s₂.slotsUsed } : State) L mc ms := by
      refine ⟨?_, q2, q3, q4, q5, q6⟩
      obtain ⟨t, ht, -⟩ := State.frames_cons hr
      show ({ U with heap := s₂.heap, slotsUsed := s₂.slotsUsed } : State) = { U.setFrames U.frames with heap := s₂.heap, slotsUsed := s₂.slotsUsed }
      rw [State.setFrames_self ht]
    subst hg
    refine Or.inl ⟨v, ⟨(({ U with heap := s₂.heap, slotsUsed := s₂.slotsUsed } : State).setVm s₂.vm), Ls ++ L, c0 + mc, s0 + ms⟩,
      ⟨X.admits, X.cas, X.clock, X.frames, X.room, X.hears, X.method, X.code, (X.here.setHeapUsed s₂.heap s₂.slotsUsed).setVm hW'.alike, X.tail, State.WarmedH.trans X.warmed hW', X.limits, X.bytes, X.same.trans (hsame.setVm s.vm)⟩,
      ⟨g, mk, s₂, L, rfl, rfl, hqc, rfl, hL, rfl, rfl⟩, ?_⟩
    show Steps p.tables e below _ ((({ U with heap := s₂.heap, slotsUsed := s₂.slotsUsed } : State).setVm s₂.vm).setTop { g with pc := g.pc + len₂, stack := v.toList ++ g.stack })
    rw [← hs₂]
    exact hsteps
  · obtain ⟨e2, q2, q3, q4, q5, q6⟩ := id hsm
    have e3 : s₂ = ({ (U.calling g mk a).setFrames s₂.frames with heap := s₂.heap, slotsUsed := s₂.slotsUsed } : State).setVm s₂.vm := by
      have : s₂ = ({ s₂ with vm := (U.calling g mk a).vm } : State).setVm s₂.vm := rfl
      rw [e2] at this
      exact this
    have hf₂ : s₂.frames = .throwing q :: .java g :: U.frames.tail := hend
    have hW' : U.WarmedH s₂.vm := hW₂
    have hs₂ : s₂ = ((({ U with heap := s₂.heap, slotsUsed := s₂.slotsUsed } : State).setVm s₂.vm).setTop g).pushFrame (.throwing q) := by
      refine e3.trans ?_
      rw [hf₂, State.calling_eq h.top, State.setFrames_setFrames, State.pushFrame, State.frames_setTop _ hr', State.setTop_of_frames _ hr', State.setFrames_setFrames, hr]
      rfl
    have hsame : U.sameButNew ({ U with heap := s₂.heap, slotsUsed := s₂.slotsUsed } : State) L mc ms := by
      refine ⟨?_, q2, q3, q4, q5, q6⟩
      obtain ⟨t, ht, -⟩ := State.frames_cons hr
      show ({ U with heap := s₂.heap, slotsUsed := s₂.slotsUsed } : State) = { U.setFrames U.frames with heap := s₂.heap, slotsUsed := s₂.slotsUsed }
      rw [State.setFrames_self ht]
    subst hg
    refine Or.inr ⟨q, ⟨(({ U with heap := s₂.heap, slotsUsed := s₂.slotsUsed } : State).setVm s₂.vm), Ls ++ L, c0 + mc, s0 + ms⟩,
      ⟨X.admits, X.cas, X.clock, X.frames, X.room, X.hears, X.method, X.code, (X.here.setHeapUsed s₂.heap s₂.slotsUsed).setVm hW'.alike, X.tail, State.WarmedH.trans X.warmed hW', X.limits, X.bytes, X.same.trans (hsame.setVm s.vm)⟩,
      ⟨g, mk, s₂, L, E, ce, rfl, rfl, hx, hce, hcv, hcl, rfl, hL, rfl, rfl⟩, ?_⟩
    show Steps p.tables e below _ (((({ U with heap := s₂.heap, slotsUsed := s₂.slotsUsed } : State).setVm s₂.vm).setTop g).pushFrame (.throwing q))
    rw [← hs₂]
    exact hsteps
end Payer
section Calls
variable {p : Program} {l : Launch} {e : Env} {R : Room} {s : State} {m : MethodId} {args : Array Value} {below : List Frame} {meth : Method} {c : Code} {T : State} {locs : List Loc} {cells slots : Nat}
theorem vx_callV (X : Stand p l e R s m args below meth c T locs cells slots) (hexec : p.tables.exec = Jvm.exec) {own C : String} {index : Nat} {y : MethodName} {bytes : ByteArray} {maxL : Nat} {ret : Option FieldType}
    (hown : s.vm.findClass own = some m.cls) (hlink : (Cond.methodLink own index y).before args s = true) (hinst : (Cond.instanceMethod y).before args s = true) (hsel : (Cond.selects C y y).before args s = true)
    (hcode : (Cond.code y bytes maxL ret).before args s = true) (hy : y.cls ≠ "java/lang/invoke/MethodHandle" ∧ y.cls ≠ "java/lang/invoke/VarHandle")
    {W9 : Nat} {Pre : Pt → Array Value → Prop} {Post : Pt → Array Value → Option Value → Pt → Prop} {PostX : Pt → Array Value → Addr → Pt → Prop} (hK : vx_Back l R p e below s args y 3 W9 Pre Post PostX)
    {b : Addr} {cellB : Cell} (hcell : T.heap[b]? = some cellB) (hobj : cellB.vm.isStatics = false) (hcls : s.vm.findClass C = some cellB.cls)
    {g : JFrame} (hg : g.method = m) (hsize : g.locals.size = c.maxLocals) {argsL rest : List Value} (hlen : ∀ sig, parseMethodDescriptor y.desc = some sig → argsL.length = sig.parameters.length)
    (hstack : g.stack = argsL.reverse ++ .ref b :: rest) (hW : 2 * g.monitorRoom + (rest.map fun v => v.category).sum ≤ W9) (hdg : decode c.code g.pc = .ok (.invokevirtual index, 3))
    (hpre : ∀ vm₁, s.WarmedH vm₁ → Pre ⟨T.setVm vm₁, locs, cells, slots⟩ (Value.ref b :: argsL).toArray) :
    (∃ (v : Option Value) (vm₁ : Vm) (B : Pt), s.WarmedH vm₁ ∧ Stand p l e R s m args below meth c B.U B.locs B.cells B.slots ∧ Post ⟨T.setVm vm₁, locs, cells, slots⟩ (Value.ref b :: argsL).toArray v B ∧
      ∀ target, Steps p.tables e below (B.U.setTop { g with pc := g.pc + 3, stack := v.toList ++ rest }) target → Steps p.tables e below (T.setTop g) target) ∨
    (∃ (q : Addr) (vm₁ : Vm) (B : Pt), s.WarmedH vm₁ ∧ Stand p l e R s m args below meth c B.U B.locs B.cells B.slots ∧ PostX ⟨T.setVm vm₁, locs, cells, slots⟩ (Value.ref b :: argsL).toArray q B ∧
      Steps p.tables e below (T.setTop g) ((B.U.setTop { g with stack := rest }).pushFrame (.throwing q))) := by
  obtain ⟨mk, methM, hnamed, hmethM, hstM, habM⟩ := Cond.instanceMethod_spec hinst
  obtain ⟨methM', cM, hmethM', -, -, -, -, -, -, hsigM⟩ := Cond.code_spec hnamed hcode
  cases hmethM.symm.trans hmethM'
  obtain ⟨c2, r2, m2, q1, q2, q3, q4, kP, hkP, hkPi⟩ := Cond.selects_spec hsel
  cases hcls.symm.trans q1
  cases (State.methodFound?_of_named hnamed hy).symm.trans q2
  cases hnamed.symm.trans q3
  have hselP : selectMethod e.platform s.vm cellB.cls mk = .method mk := by rw [Launch.admits_selectMethod X.admits]; exact q4
  obtain ⟨vm₁, X₁, hstep₁⟩ := X.invokevirtual hexec hown hlink hnamed hmethM hstM hkP hkPi hy (a := b) (cell := cellB) hcell
    (fun z h => by rw [h] at hobj; cases hobj) hselP hmethM habM hkP hkPi (g := g) hg (argsL := argsL) (rest := rest) (hlen _ hsigM) hstack hdg
  rcases hK m meth c ⟨T.setVm vm₁, locs, cells, slots⟩ { g with stack := rest } (.invokevirtual index) mk (Value.ref b :: argsL).toArray X₁ hg hsize hdg hW (X₁.named hnamed) (hpre vm₁ X₁.warmed) with ⟨v, B, X', hpost, hsteps⟩ | ⟨q, B, X', hpost, hsteps⟩
  · exact Or.inl ⟨v, vm₁, B, X₁.warmed, X', hpost, fun target h => hstep₁ _ fun acts => by rw [doInvoke_state]; exact hsteps.trans h⟩
  · exact Or.inr ⟨q, vm₁, B, X₁.warmed, X', hpost, hstep₁ _ fun acts => by rw [doInvoke_state]; exact hsteps⟩
theorem vx_callS (X : Stand p l e R s m args below meth c T locs cells slots) (hexec : p.tables.exec = Jvm.exec) {own : String} {index : Nat} {y : MethodName} {bytes : ByteArray} {maxL : Nat} {ret : Option FieldType}
    (hown : s.vm.findClass own = some m.cls) (hlink : (Cond.methodLink own index y).before args s = true) (hstat : (Cond.static y).before args s = true) (hinit : (Cond.initialized y.cls).before args s = true)
    (hcode : (Cond.code y bytes maxL ret).before args s = true) (hy : y.cls ≠ "java/lang/invoke/MethodHandle" ∧ y.cls ≠ "java/lang/invoke/VarHandle")
    {W9 : Nat} {Pre : Pt → Array Value → Prop} {Post : Pt → Array Value → Option Value → Pt → Prop} {PostX : Pt → Array Value → Addr → Pt → Prop} (hK : vx_Back l R p e below s args y 3 W9 Pre Post PostX)
    {g : JFrame} (hg : g.method = m) (hsize : g.locals.size = c.maxLocals) {argsL rest : List Value} (hlen : ∀ sig, parseMethodDescriptor y.desc = some sig → argsL.length = sig.parameters.length)
    (hstack : g.stack = argsL.reverse ++ rest) (hW : 2 * g.monitorRoom + (rest.map fun v => v.category).sum ≤ W9) (hdg : decode c.code g.pc = .ok (.invokestatic index, 3))
    (hpre : ∀ vm₁, s.WarmedH vm₁ → Pre ⟨T.setVm vm₁, locs, cells, slots⟩ argsL.toArray) :
    (∃ (v : Option Value) (vm₁ : Vm) (B : Pt), s.WarmedH vm₁ ∧ Stand p l e R s m args below meth c B.U B.locs B.cells B.slots ∧ Post ⟨T.setVm vm₁, locs, cells, slots⟩ argsL.toArray v B ∧
      ∀ target, Steps p.tables e below (B.U.setTop { g with pc := g.pc + 3, stack := v.toList ++ rest }) target → Steps p.tables e below (T.setTop g) target) ∨
    (∃ (q : Addr) (vm₁ : Vm) (B : Pt), s.WarmedH vm₁ ∧ Stand p l e R s m args below meth c B.U B.locs B.cells B.slots ∧ PostX ⟨T.setVm vm₁, locs, cells, slots⟩ argsL.toArray q B ∧
      Steps p.tables e below (T.setTop g) ((B.U.setTop { g with stack := rest }).pushFrame (.throwing q))) := by
  obtain ⟨mk, hnamed⟩ := Cond.code_named hcode
  obtain ⟨methM, cM, hmethM, -, -, -, -, -, -, hsigM⟩ := Cond.code_spec hnamed hcode
  have hstatic : methM.isStatic = true := Cond.static_spec hnamed hmethM hstat
  obtain ⟨kP, hkP, -⟩ := className_of_methodNamed hnamed
  have hinitP : kP.init = .initialized := Cond.initialized_spec (findClass_of_methodNamed hnamed) hkP hinit
  obtain ⟨vm₁, X₁, hstep₁⟩ := X.invokestatic hexec hown hlink hnamed hmethM hstatic hkP hinitP hy (g := g) hg (argsL := argsL) (rest := rest) (hlen _ hsigM) hstack hdg
  rcases hK m meth c ⟨T.setVm vm₁, locs, cells, slots⟩ { g with stack := rest } (.invokestatic index) mk argsL.toArray X₁ hg hsize hdg hW (X₁.named hnamed) (hpre vm₁ X₁.warmed) with ⟨v, B, X', hpost, hsteps⟩ | ⟨q, B, X', hpost, hsteps⟩
  · exact Or.inl ⟨v, vm₁, B, X₁.warmed, X', hpost, fun target h => hstep₁ _ fun acts => by rw [doInvoke_state]; exact hsteps.trans h⟩
  · exact Or.inr ⟨q, vm₁, B, X₁.warmed, X', hpost, hstep₁ _ fun acts => by rw [doInvoke_state]; exact hsteps⟩
end Calls
theorem vx_cls {s : State} {T : State} {vm₁ : Vm} {E : String} {k : ClassId} (hW : s.WarmedH vm₁) (h : (T.setVm vm₁).vm.findClass E = some k) : s.vm.findClass E = some k := by
  have h1 : vm₁.findClass E = some k := h
  rw [hW.alike.findClass] at h1
  exact h1
/-- the method's frame g, with q thrown over it -/
def vx_W (p : Program) (l : Launch) (e : Env) (R : Room) (s : State) (m : MethodId) (args : Array Value) (below : List Frame) (meth : Method) (c : Code) (H : Heap) (locs : List Loc) (cells slots : Nat) (Q : State → Prop) (g : JFrame) (q : Addr) : Prop :=
  ∀ T : State, T.heap = H → Stand p l e R s m args below meth c T locs cells slots → ∃ t, Steps p.tables e below ((T.setTop g).pushFrame (.throwing q)) t ∧ Q t
def vx_Run (p : Program) (l : Launch) (e : Env) (R : Room) (s : State) (m : MethodId) (args : Array Value) (below : List Frame) (meth : Method) (c : Code) (H : Heap) (locs : List Loc) (cells slots mc ms : Nat) (g : JFrame) (rest : List Value) (Qa : State → Outcome → State → Prop) (XC : String → State → State → Prop) (free : Addr → Prop) : Prop :=
  ∀ T : State, T.heap = H → Stand p l e R s m args below meth c T locs cells slots →
    (∃ (v : Option Value) (st₀ t T' : State) (L : List Loc), st₀.heap = H ∧ Stand p l e R s m args below meth c T' (locs ++ L) (cells + mc) (slots + ms) ∧ (∀ q ∈ L, free q.base) ∧ T'.heap = t.heap ∧ T'.vm = t.vm ∧ Qa st₀ (.returned v) t ∧
      Goes p e below T g T' { g with pc := g.pc + 3, stack := v.toList ++ rest }) ∨
    (∃ (q : Addr) (st₀ t T' : State) (L : List Loc) (E : String) (ce : Cell), st₀.heap = H ∧ Stand p l e R s m args below meth c T' (locs ++ L) (cells + mc) (slots + ms) ∧ (∀ z ∈ L, free z.base) ∧ T'.heap = t.heap ∧ T'.vm = t.vm ∧ XC E st₀ t ∧ t.heap[q]? = some ce ∧ ce.vm = .none ∧ s.vm.findClass E = some ce.cls ∧
      Steps p.tables e below (T.setTop g) ((T'.setTop { g with stack := rest }).pushFrame (.throwing q)))
def vx_X {S : Type} (px : S → Prop) (B : String → S → State → Prop) (A : Nat → Prop) : String → State → State → Prop := fun E st t => ∃ u : S, px u ∧ B E u t ∧ va_F A st t
section Runs
variable {p : Program} {l : Launch} {e : Env} {R : Room} {s : State} {m : MethodId} {args : Array Value} {below : List Frame} {meth : Method} {c : Code} {H : Heap} {locs : List Loc} {cells slots : Nat}
variable {y : MethodName} {bytes cc : ByteArray} {maxL nL mc ms n index : Nat} {ret : Option FieldType} {ws : List Cond} {rm : Room} {Pc : Array Value → State → Prop} {Qc : Array Value → State → Outcome → State → Prop} {XC : String → State → State → Prop} {free : Addr → Prop} {Ts : List Cond} {own C : String} {b : Addr} {As rest : List Value} {g : JFrame}
theorem vx_callBack (cb : CallB R s args own index y bytes maxL ret ws rm mc ms n) (hM : vx_Met l y ws rm Pc Qc XC mc ms free) (hbl : FrameBlind Pc) : vx_Back l R p e below s args y 3 8 (PreOf R mc ms Pc) (PostOf Qc mc ms free) (vx_Post XC mc ms free) := by
  obtain ⟨hrc, hrs, hfr, hlo, hws, hcw, -, hini, -⟩ := cb
  exact vx_back (bytes := bytes) (maxL := maxL) (ret := ret) hM hbl hrc hrs hfr hlo hws hcw (fun a' U hW => word_at hW (Or.inl (by first | rfl | simp [Cond.onTables, Cond.keeps, Cond.steady])) hini)
theorem vx_runV (S : CallFix p m c cc nL s args Ts own) (hM : vx_Met l y ws rm Pc Qc XC mc ms free) (cw : CallW R s args own C index y bytes maxL ret ws rm mc ms n) (hp : PreV s H C b Pc As)
    (hg : g.method = m) (hn : As.length = n) (hsize : g.locals.size = nL) (hstack : g.stack = As.reverse ++ .ref b :: rest) (hW : 2 * g.monitorRoom + (rest.map fun v => v.category).sum ≤ 8) (hdg : decode cc g.pc = .ok (.invokevirtual index, 3)) (hf : cells + mc ≤ R.cells ∧ slots + ms ≤ R.slots) :
    vx_Run p l e R s m args below meth c H locs cells slots mc ms g rest (Qc (Value.ref b :: As).toArray) XC free := by
  have hK : vx_Back l R p e below s args y 3 8 (PreOf R mc ms Pc) (PostOf Qc mc ms free) (vx_Post XC mc ms free) := vx_callBack cw.1 hM hp.1
  obtain ⟨⟨-, -, -, -, -, -, hcode, -, hy, hlen, hl⟩, hin, hse⟩ := cw
  obtain ⟨hx, hb, hml, ho, -⟩ := S
  obtain ⟨-, ⟨cellB, hcB, hoB, hclB⟩, hPc⟩ := hp
  intro T hT X
  rcases vx_callV X hx (C := C) (bytes := bytes) (maxL := maxL) (ret := ret) ho hl hin hse hcode hy hK (by rw [hT]; exact hcB) hoB hclB hg (hsize.trans hml.symm) (argsL := As) (rest := rest) (fun sig h => hn.trans (hlen sig h)) hstack hW (by rw [hb]; exact hdg)
    (fun vm₁ hW₁ => ⟨hf.1, hf.2, hPc (T.setVm vm₁) hT hW₁⟩) with ⟨v, vm₁, ⟨U', l2, c2, s2⟩, hW₁, X', ⟨g', mk, t, L, e1, e2, hq, h1, hL, h2, h3⟩, st⟩ | ⟨q, vm₁, ⟨U', l2, c2, s2⟩, hW₁, X', ⟨g', mk, t, L, E, ce, e1, e2, hq, hce, hcv, hcl, h1, hL, h2, h3⟩, st⟩
  · dsimp only [Pt.U, Pt.locs, Pt.cells, Pt.slots] at X' e1 e2 h1 h2 h3 st
    subst h1; subst h2; subst h3
    exact Or.inl ⟨v, (T.setVm vm₁).calling g' mk (Value.ref b :: As).toArray, t, U', L, hT, X', hL, e1, e2, hq, st⟩
  · dsimp only [Pt.U, Pt.locs, Pt.cells, Pt.slots] at X' e1 e2 h1 h2 h3 st hcl
    subst h1; subst h2; subst h3
    exact Or.inr ⟨q, (T.setVm vm₁).calling g' mk (Value.ref b :: As).toArray, t, U', L, E, ce, hT, X', hL, e1, e2, hq, hce, hcv, vx_cls hW₁ hcl, st⟩
theorem vx_runS (S : CallFix p m c cc nL s args Ts own) (hM : vx_Met l y ws rm Pc Qc XC mc ms free) (cw : CallB R s args own index y bytes maxL ret ws rm mc ms n ∧ (Cond.static y).before args s = true) (hp : PreS s H Pc As)
    (hg : g.method = m) (hn : As.length = n) (hsize : g.locals.size = nL) (hstack : g.stack = As.reverse ++ rest) (hW : 2 * g.monitorRoom + (rest.map fun v => v.category).sum ≤ 8) (hdg : decode cc g.pc = .ok (.invokestatic index, 3)) (hf : cells + mc ≤ R.cells ∧ slots + ms ≤ R.slots) :
    vx_Run p l e R s m args below meth c H locs cells slots mc ms g rest (Qc As.toArray) XC free := by
  have hK : vx_Back l R p e below s args y 3 8 (PreOf R mc ms Pc) (PostOf Qc mc ms free) (vx_Post XC mc ms free) := vx_callBack cw.1 hM hp.1
  obtain ⟨⟨-, -, -, -, -, -, hcode, hini, hy, hlen, hl⟩, hstt⟩ := cw
  obtain ⟨hx, hb, hml, ho, -⟩ := S
  intro T hT X
  rcases vx_callS X hx (bytes := bytes) (maxL := maxL) (ret := ret) ho hl hstt hini hcode hy hK hg (hsize.trans hml.symm) (argsL := As) (rest := rest) (fun sig h => hn.trans (hlen sig h)) hstack hW (by rw [hb]; exact hdg)
    (fun vm₁ hW₁ => ⟨hf.1, hf.2, hp.2 (T.setVm vm₁) hT hW₁⟩) with ⟨v, vm₁, ⟨U', l2, c2, s2⟩, hW₁, X', ⟨g', mk, t, L, e1, e2, hq, h1, hL, h2, h3⟩, st⟩ | ⟨q, vm₁, ⟨U', l2, c2, s2⟩, hW₁, X', ⟨g', mk, t, L, E, ce, e1, e2, hq, hce, hcv, hcl, h1, hL, h2, h3⟩, st⟩
  · dsimp only [Pt.U, Pt.locs, Pt.cells, Pt.slots] at X' e1 e2 h1 h2 h3 st
    subst h1; subst h2; subst h3
    exact Or.inl ⟨v, (T.setVm vm₁).calling g' mk As.toArray, t, U', L, hT, X', hL, e1, e2, hq, st⟩
  · dsimp only [Pt.U, Pt.locs, Pt.cells, Pt.slots] at X' e1 e2 h1 h2 h3 st hcl
    subst h1; subst h2; subst h3
    exact Or.inr ⟨q, (T.setVm vm₁).calling g' mk As.toArray, t, U', L, E, ce, hT, X', hL, e1, e2, hq, hce, hcv, vx_cls hW₁ hcl, st⟩
end Runs
section Rows
variable {p : Program} {l : Launch} {e : Env} {R : Room} {s : State} {m : MethodId} {args : Array Value} {below : List Frame} {meth : Method} {c : Code} {H : Heap} {locs : List Loc} {cells slots : Nat} {Q : State → Prop}
variable {mc ms : Nat} {free : Addr → Prop} {A0 A1 : Nat → Prop} {H0 : Heap} {a : Array Value} {pc : Nat} {ls : Array Slot} {st0 rest : List Value}
theorem vx_keep {st₀ t T' : State} {L : List Loc} (h0 : st₀.heap = H) (e1 : T'.heap = t.heap) (hS : va_S A0 H0 H locs) (hA : ∀ q, q < H.size → A1 q → A0 q) (hf : ∀ q, free q → A0 q) (hL : ∀ q ∈ L, free q.base) (hF : va_F A1 st₀ t) :
    H.size ≤ T'.heap.size ∧ (∀ q : Nat, q < H.size → ¬ A1 q → T'.heap[q]? = H[q]?) ∧ va_S A0 H0 T'.heap (locs ++ L) := by
  obtain ⟨hz, hk⟩ := hF
  rw [h0] at hz hk
  exact ⟨by rw [e1]; exact hz, fun q h1 h2 => by rw [e1]; exact hk q h1 h2,
    ⟨Nat.le_trans hS.1 (by rw [e1]; exact hz), fun q h1 h2 => by rw [e1, hk q (Nat.lt_of_lt_of_le h1 hS.1) (fun z => h2 (hA q (Nat.lt_of_lt_of_le h1 hS.1) z))]; exact hS.2.1 q h1 h2, fun q hq => by
      rcases List.mem_append.mp hq with h | h
      · exact hS.2.2 q h
      · exact hf _ (hL q h)⟩⟩
theorem vx_calli {S SX : Type} {post : Int32 → S → Prop} {px : SX → Prop} {B : S → State → Prop} {BX : String → SX → State → Prop} {AX : Nat → Prop} (hr : vx_Run p l e R s m args below meth c H locs cells slots mc ms (F0 m pc ls st0) rest (va_Qi post B A1 a) (vx_X px BX AX) free) (hS : va_S A0 H0 H locs) (hA : ∀ q, q < H.size → A1 q → A0 q) (hf : ∀ q, free q → A0 q) (hAX : ∀ q, q < H.size → AX q → A0 q)
    (kx : ∀ (E : String) (ce : Cell) (q9 : Addr) (u : SX) (t : State) (H1 : Heap) (locs1 : List Loc), t.heap = H1 → s.vm.Alike t.vm → px u → BX E u t → H.size ≤ H1.size → (∀ q : Nat, q < H.size → ¬ AX q → H1[q]? = H[q]?) → va_S A0 H0 H1 locs1 → H1[q9]? = some ce → ce.vm = .none → s.vm.findClass E = some ce.cls → vx_W p l e R s m args below meth c H1 locs1 (cells + mc) (slots + ms) Q (F0 m pc ls rest) q9)
    (kk : ∀ (r : Int32) (u : S) (t : State) (H1 : Heap) (locs1 : List Loc), t.heap = H1 → s.vm.Alike t.vm → post r u → B u t → H.size ≤ H1.size → (∀ q : Nat, q < H.size → ¬ A1 q → H1[q]? = H[q]?) → va_S A0 H0 H1 locs1 → W p l e R s m args below meth c H1 locs1 (cells + mc) (slots + ms) Q (F0 m (pc + 3) ls (.int r :: rest))) : W p l e R s m args below meth c H locs cells slots Q (F0 m pc ls st0) := by
  intro T hT X
  rcases hr T hT X with ⟨v, st₀, t, T', L, h0, X', hL, e1, e2, ⟨⟨r, u, hv, hp, hb⟩, hF⟩, st⟩ | ⟨q, st₀, t, T', L, E, ce, h0, X', hL, e1, e2, ⟨u, hp, hb, hF⟩, hce, hcv, hcl, st⟩
  · cases hv
    obtain ⟨k1, k2, k3⟩ := vx_keep h0 e1 hS hA hf hL hF
    obtain ⟨t2, a1, b1⟩ := kk r u t T'.heap (locs ++ L) e1.symm (by rw [← e2]; exact X'.warmed.alike) hp hb k1 k2 k3 T' rfl X'
    exact ⟨t2, st t2 a1, b1⟩
  · obtain ⟨k1, k2, k3⟩ := vx_keep h0 e1 hS hAX hf hL hF
    obtain ⟨t2, a1, b1⟩ := kx E ce q u t T'.heap (locs ++ L) e1.symm (by rw [← e2]; exact X'.warmed.alike) hp hb k1 k2 k3 (by rw [e1]; exact hce) hcv hcl T' rfl X'
    exact ⟨t2, st.trans a1, b1⟩
theorem vx_calll {S SX : Type} {post : Int64 → S → Prop} {px : SX → Prop} {B : S → State → Prop} {BX : String → SX → State → Prop} {AX : Nat → Prop} (hr : vx_Run p l e R s m args below meth c H locs cells slots mc ms (F0 m pc ls st0) rest (va_Ql post B A1 a) (vx_X px BX AX) free) (hS : va_S A0 H0 H locs) (hA : ∀ q, q < H.size → A1 q → A0 q) (hf : ∀ q, free q → A0 q) (hAX : ∀ q, q < H.size → AX q → A0 q)
    (kx : ∀ (E : String) (ce : Cell) (q9 : Addr) (u : SX) (t : State) (H1 : Heap) (locs1 : List Loc), t.heap = H1 → s.vm.Alike t.vm → px u → BX E u t → H.size ≤ H1.size → (∀ q : Nat, q < H.size → ¬ AX q → H1[q]? = H[q]?) → va_S A0 H0 H1 locs1 → H1[q9]? = some ce → ce.vm = .none → s.vm.findClass E = some ce.cls → vx_W p l e R s m args below meth c H1 locs1 (cells + mc) (slots + ms) Q (F0 m pc ls rest) q9)
    (kk : ∀ (r : Int64) (u : S) (t : State) (H1 : Heap) (locs1 : List Loc), t.heap = H1 → s.vm.Alike t.vm → post r u → B u t → H.size ≤ H1.size → (∀ q : Nat, q < H.size → ¬ A1 q → H1[q]? = H[q]?) → va_S A0 H0 H1 locs1 → W p l e R s m args below meth c H1 locs1 (cells + mc) (slots + ms) Q (F0 m (pc + 3) ls (.long r :: rest))) : W p l e R s m args below meth c H locs cells slots Q (F0 m pc ls st0) := by
  intro T hT X
  rcases hr T hT X with ⟨v, st₀, t, T', L, h0, X', hL, e1, e2, ⟨⟨r, u, hv, hp, hb⟩, hF⟩, st⟩ | ⟨q, st₀, t, T', L, E, ce, h0, X', hL, e1, e2, ⟨u, hp, hb, hF⟩, hce, hcv, hcl, st⟩
  · cases hv
    obtain ⟨k1, k2, k3⟩ := vx_keep h0 e1 hS hA hf hL hF
    obtain ⟨t2, a1, b1⟩ := kk r u t T'.heap (locs ++ L) e1.symm (by rw [← e2]; exact X'.warmed.alike) hp hb k1 k2 k3 T' rfl X'
    exact ⟨t2, st t2 a1, b1⟩
  · obtain ⟨k1, k2, k3⟩ := vx_keep h0 e1 hS hAX hf hL hF
    obtain ⟨t2, a1, b1⟩ := kx E ce q u t T'.heap (locs ++ L) e1.symm (by rw [← e2]; exact X'.warmed.alike) hp hb k1 k2 k3 (by rw [e1]; exact hce) hcv hcl T' rfl X'
    exact ⟨t2, st.trans a1, b1⟩
theorem vx_callf {S SX : Type} {post : UInt32 → S → Prop} {px : SX → Prop} {B : S → State → Prop} {BX : String → SX → State → Prop} {AX : Nat → Prop} (hr : vx_Run p l e R s m args below meth c H locs cells slots mc ms (F0 m pc ls st0) rest (va_Qf post B A1 a) (vx_X px BX AX) free) (hS : va_S A0 H0 H locs) (hA : ∀ q, q < H.size → A1 q → A0 q) (hf : ∀ q, free q → A0 q) (hAX : ∀ q, q < H.size → AX q → A0 q)
    (kx : ∀ (E : String) (ce : Cell) (q9 : Addr) (u : SX) (t : State) (H1 : Heap) (locs1 : List Loc), t.heap = H1 → s.vm.Alike t.vm → px u → BX E u t → H.size ≤ H1.size → (∀ q : Nat, q < H.size → ¬ AX q → H1[q]? = H[q]?) → va_S A0 H0 H1 locs1 → H1[q9]? = some ce → ce.vm = .none → s.vm.findClass E = some ce.cls → vx_W p l e R s m args below meth c H1 locs1 (cells + mc) (slots + ms) Q (F0 m pc ls rest) q9)
    (kk : ∀ (r : UInt32) (u : S) (t : State) (H1 : Heap) (locs1 : List Loc), t.heap = H1 → s.vm.Alike t.vm → post r u → B u t → H.size ≤ H1.size → (∀ q : Nat, q < H.size → ¬ A1 q → H1[q]? = H[q]?) → va_S A0 H0 H1 locs1 → W p l e R s m args below meth c H1 locs1 (cells + mc) (slots + ms) Q (F0 m (pc + 3) ls (.float r :: rest))) : W p l e R s m args below meth c H locs cells slots Q (F0 m pc ls st0) := by
  intro T hT X
  rcases hr T hT X with ⟨v, st₀, t, T', L, h0, X', hL, e1, e2, ⟨⟨r, u, hv, hp, hb⟩, hF⟩, st⟩ | ⟨q, st₀, t, T', L, E, ce, h0, X', hL, e1, e2, ⟨u, hp, hb, hF⟩, hce, hcv, hcl, st⟩
  · cases hv
    obtain ⟨k1, k2, k3⟩ := vx_keep h0 e1 hS hA hf hL hF
    obtain ⟨t2, a1, b1⟩ := kk r u t T'.heap (locs ++ L) e1.symm (by rw [← e2]; exact X'.warmed.alike) hp hb k1 k2 k3 T' rfl X'
    exact ⟨t2, st t2 a1, b1⟩
  · obtain ⟨k1, k2, k3⟩ := vx_keep h0 e1 hS hAX hf hL hF
    obtain ⟨t2, a1, b1⟩ := kx E ce q u t T'.heap (locs ++ L) e1.symm (by rw [← e2]; exact X'.warmed.alike) hp hb k1 k2 k3 (by rw [e1]; exact hce) hcv hcl T' rfl X'
    exact ⟨t2, st.trans a1, b1⟩
theorem vx_calld {S SX : Type} {post : UInt64 → S → Prop} {px : SX → Prop} {B : S → State → Prop} {BX : String → SX → State → Prop} {AX : Nat → Prop} (hr : vx_Run p l e R s m args below meth c H locs cells slots mc ms (F0 m pc ls st0) rest (va_Qd post B A1 a) (vx_X px BX AX) free) (hS : va_S A0 H0 H locs) (hA : ∀ q, q < H.size → A1 q → A0 q) (hf : ∀ q, free q → A0 q) (hAX : ∀ q, q < H.size → AX q → A0 q)
    (kx : ∀ (E : String) (ce : Cell) (q9 : Addr) (u : SX) (t : State) (H1 : Heap) (locs1 : List Loc), t.heap = H1 → s.vm.Alike t.vm → px u → BX E u t → H.size ≤ H1.size → (∀ q : Nat, q < H.size → ¬ AX q → H1[q]? = H[q]?) → va_S A0 H0 H1 locs1 → H1[q9]? = some ce → ce.vm = .none → s.vm.findClass E = some ce.cls → vx_W p l e R s m args below meth c H1 locs1 (cells + mc) (slots + ms) Q (F0 m pc ls rest) q9)
    (kk : ∀ (r : UInt64) (u : S) (t : State) (H1 : Heap) (locs1 : List Loc), t.heap = H1 → s.vm.Alike t.vm → post r u → B u t → H.size ≤ H1.size → (∀ q : Nat, q < H.size → ¬ A1 q → H1[q]? = H[q]?) → va_S A0 H0 H1 locs1 → W p l e R s m args below meth c H1 locs1 (cells + mc) (slots + ms) Q (F0 m (pc + 3) ls (.double r :: rest))) : W p l e R s m args below meth c H locs cells slots Q (F0 m pc ls st0) := by
  intro T hT X
  rcases hr T hT X with ⟨v, st₀, t, T', L, h0, X', hL, e1, e2, ⟨⟨r, u, hv, hp, hb⟩, hF⟩, st⟩ | ⟨q, st₀, t, T', L, E, ce, h0, X', hL, e1, e2, ⟨u, hp, hb, hF⟩, hce, hcv, hcl, st⟩
  · cases hv
    obtain ⟨k1, k2, k3⟩ := vx_keep h0 e1 hS hA hf hL hF
    obtain ⟨t2, a1, b1⟩ := kk r u t T'.heap (locs ++ L) e1.symm (by rw [← e2]; exact X'.warmed.alike) hp hb k1 k2 k3 T' rfl X'
    exact ⟨t2, st t2 a1, b1⟩
  · obtain ⟨k1, k2, k3⟩ := vx_keep h0 e1 hS hAX hf hL hF
    obtain ⟨t2, a1, b1⟩ := kx E ce q u t T'.heap (locs ++ L) e1.symm (by rw [← e2]; exact X'.warmed.alike) hp hb k1 k2 k3 (by rw [e1]; exact hce) hcv hcl T' rfl X'
    exact ⟨t2, st.trans a1, b1⟩
theorem vx_callv {S SX : Type} {post : S → Prop} {px : SX → Prop} {B : S → State → Prop} {BX : String → SX → State → Prop} {AX : Nat → Prop} (hr : vx_Run p l e R s m args below meth c H locs cells slots mc ms (F0 m pc ls st0) rest (va_Qv post B A1 a) (vx_X px BX AX) free) (hS : va_S A0 H0 H locs) (hA : ∀ q, q < H.size → A1 q → A0 q) (hf : ∀ q, free q → A0 q) (hAX : ∀ q, q < H.size → AX q → A0 q)
    (kx : ∀ (E : String) (ce : Cell) (q9 : Addr) (u : SX) (t : State) (H1 : Heap) (locs1 : List Loc), t.heap = H1 → s.vm.Alike t.vm → px u → BX E u t → H.size ≤ H1.size → (∀ q : Nat, q < H.size → ¬ AX q → H1[q]? = H[q]?) → va_S A0 H0 H1 locs1 → H1[q9]? = some ce → ce.vm = .none → s.vm.findClass E = some ce.cls → vx_W p l e R s m args below meth c H1 locs1 (cells + mc) (slots + ms) Q (F0 m pc ls rest) q9)
    (kk : ∀ (u : S) (t : State) (H1 : Heap) (locs1 : List Loc), t.heap = H1 → s.vm.Alike t.vm → post u → B u t → H.size ≤ H1.size → (∀ q : Nat, q < H.size → ¬ A1 q → H1[q]? = H[q]?) → va_S A0 H0 H1 locs1 → W p l e R s m args below meth c H1 locs1 (cells + mc) (slots + ms) Q (F0 m (pc + 3) ls (rest))) : W p l e R s m args below meth c H locs cells slots Q (F0 m pc ls st0) := by
  intro T hT X
  rcases hr T hT X with ⟨v, st₀, t, T', L, h0, X', hL, e1, e2, ⟨⟨u, hv, hp, hb⟩, hF⟩, st⟩ | ⟨q, st₀, t, T', L, E, ce, h0, X', hL, e1, e2, ⟨u, hp, hb, hF⟩, hce, hcv, hcl, st⟩
  · cases hv
    obtain ⟨k1, k2, k3⟩ := vx_keep h0 e1 hS hA hf hL hF
    obtain ⟨t2, a1, b1⟩ := kk u t T'.heap (locs ++ L) e1.symm (by rw [← e2]; exact X'.warmed.alike) hp hb k1 k2 k3 T' rfl X'
    exact ⟨t2, st t2 a1, b1⟩
  · obtain ⟨k1, k2, k3⟩ := vx_keep h0 e1 hS hAX hf hL hF
    obtain ⟨t2, a1, b1⟩ := kx E ce q u t T'.heap (locs ++ L) e1.symm (by rw [← e2]; exact X'.warmed.alike) hp hb k1 k2 k3 (by rw [e1]; exact hce) hcv hcl T' rfl X'
    exact ⟨t2, st.trans a1, b1⟩
end Rows
section Ends
variable {p : Program} {l : Launch} {e : Env} {R : Room} {s : State} {m : MethodId} {args : Array Value} {below : List Frame} {meth : Method} {c : Code} {H : Heap} {locs : List Loc} {cells slots : Nat} {Q : State → Prop}
variable {mc ms : Nat} {free : Addr → Prop} {A0 A1 : Nat → Prop} {H0 : Heap} {a : Array Value} {ls : Array Slot} {st0 rest : List Value}
variable {Qc : Array Value → State → Outcome → State → Prop} {XC : String → State → State → Prop}
/-- what a body that may throw owes at its end -/
def vx_MQ (below : List Frame) (Qc : Array Value → State → Outcome → State → Prop) (XC : String → State → State → Prop) (a : Array Value) (s : State) (mc ms : Nat) (free : Addr → Prop) : State → Prop := fun t =>
  ∃ o, t.status = .running ∧ Ended t below o ∧ vx_Q Qc XC mc ms free a s o t
theorem vx_ret {g : JFrame} {mc ms : Nat} (k : W p l e R s m args below meth c H locs cells slots (MQ below Qc args s mc ms free) g) : W p l e R s m args below meth c H locs cells slots (vx_MQ below Qc XC args s mc ms free) g := by
  intro T hT X
  obtain ⟨t, a1, o, b1, b2, b3, b4⟩ := k T hT X
  exact ⟨t, a1, o, b1, b2, Or.inl ⟨b3, b4⟩⟩
/-- not caught here: it goes on to the caller -/
theorem vx_widen {g : JFrame} {q : Addr} {k n : Nat} (h1 : cells ≤ k) (h2 : slots ≤ n) (kk : vx_W p l e R s m args below meth c H locs k n Q g q) : vx_W p l e R s m args below meth c H locs cells slots Q g q := fun T hT X => kk T hT (stand_widen X h1 h2)
theorem vx_out {pc : Nat} {E : String} {ce : Cell} {q : Addr} {mc ms : Nat} (hout : ∀ x ∈ c.exceptionTable.toList, covers x pc = false) (hlocks : meth.locks = false) (hcell : H[q]? = some ce) (hv : ce.vm = .none) (hcl : s.vm.findClass E = some ce.cls)
    (hx : ∀ t : State, t.heap = H → s.vm.Alike t.vm → XC E s t) (hf : ∀ z ∈ locs, free z.base) (hc : cells ≤ mc) (hs : slots ≤ ms) :
    vx_W p l e R s m args below meth c H locs cells slots (vx_MQ below Qc XC args s mc ms free) (F0 m pc ls rest) q := by
  intro T hT X
  obtain ⟨st1, hrun, hend, hW, hsm⟩ := X.leaveThrown q (g := F0 m pc ls rest) rfl rfl rfl hout hlocks
  have hcell9 : (T.setFrames (.throwing q :: below)).heap[q]? = some ce := by
    show T.heap[q]? = some ce
    rw [hT]; exact hcell
  exact ⟨_, st1, .threw q, hrun, hend, Or.inr ⟨q, rfl, E, ce, locs, hx _ hT hW.alike, hcell9, hv, hcl, hW, hsm.mono hc hs, hf⟩⟩
theorem vx_frame {U : State} {k n : Nat} (h : s.sameButNew ({ U with vm := s.vm } : State) locs k n) : s.heap.size ≤ U.heap.size ∧ ∀ q : Nat, q < s.heap.size → (∀ z ∈ locs, z.base ≠ q) → U.heap[q]? = s.heap[q]? := by
  obtain ⟨-, h2, -, -, -, h6⟩ := h
  refine ⟨h2, fun q hq hz => ?_⟩
  obtain ⟨c9, e1, e2, e3, e4⟩ := h6 q _ (Array.getElem?_eq_getElem hq)
  have hs : c9.slots = (s.heap[q]).slots := Array.ext_getElem? fun i => e4 i fun hm => hz _ hm rfl
  have h9 : c9 = s.heap[q] := by
    rw [hs] at e2
    exact e2
  have e5 : U.heap[q]? = some c9 := e1
  rw [e5, h9, Array.getElem?_eq_getElem hq]
/-- the words of a throw but the four that speak of the heap -/
def vx_no (w : Cond) : Bool := decide (w ≠ .isRef (.static Bundle.tN "UNASSIGNED_STACK" Bundle.steD)) && decide (w ≠ .isRef (.static Bundle.tN "SUPPRESSED_SENTINEL" Bundle.listD)) && decide (w ≠ .laysStatic Bundle.tN "UNASSIGNED_STACK" Bundle.steD) && decide (w ≠ .laysStatic Bundle.tN "SUPPRESSED_SENTINEL" Bundle.listD)
def vx_at0 (own : String) (ic : Nat) (X : String) (names : List String) : List Cond := (Bundle.ownAtoms0 own ic X names).filter vx_no
def vx_atS (own : String) (ic : Nat) (X : String) (names : List String) : List Cond := (Bundle.ownAtoms own ic X names).filter vx_no
/-- a word that the tables alone decide, or a good one -/
def vx_ot (w : Cond) : Bool := w.onTables || goodWord w
theorem vx_ot_at {args a' : Array Value} {s U : State} {w : Cond} (hW : s.WarmedH U.vm) (hvm : s.vm = U.vm) (hg : vx_ot w = true) (h : w.before args s = true) : w.before a' U = true := by
  simp only [vx_ot, Bool.or_eq_true] at hg
  rcases hg with hg | hg
  · exact va_tabs hg hvm h
  · exact word_at hW (good_of_word hg) h
/-- a list's words: the good ones out of the method's own list, the others by premises of their own -/
theorem vx_hat {args : Array Value} {s : State} {L B : List Cond} (h1 : ∀ w ∈ L.filter goodWord, w.before args s = true) (h2 : ∀ w ∈ L.filter (fun w => !goodWord w), w ∈ B) (h3 : ∀ w ∈ B, w.before args s = true) : ∀ w ∈ L, w.before args s = true := by
  intro w hw
  by_cases g : goodWord w = true
  · exact h1 w (List.mem_filter.mpr ⟨hw, g⟩)
  · refine h3 w (h2 w (List.mem_filter.mpr ⟨hw, ?_⟩))
    show (!goodWord w) = true
    cases hgw : goodWord w
    · rfl
    · exact absurd hgw g
theorem vx_c {args : Array Value} {s : State} {w : Cond} {B : List Cond} (h : w.before args s = true) (t : ∀ w ∈ B, w.before args s = true) : ∀ w' ∈ w :: B, w'.before args s = true := fun w' h' => (List.mem_cons.mp h').elim (fun e => by rw [e]; exact h) (t w')
theorem vx_n {args : Array Value} {s : State} : ∀ w ∈ ([] : List Cond), w.before args s = true := fun _ h => nomatch h
theorem vx_own {args : Array Value} {s : State} {L : List Cond} (h1 : ∀ w ∈ L.filter vx_no, w.before args s = true)
    (hU : (Cond.isRef (.static Bundle.tN "UNASSIGNED_STACK" Bundle.steD)).before args s = true) (hN : (Cond.isRef (.static Bundle.tN "SUPPRESSED_SENTINEL" Bundle.listD)).before args s = true)
    (lU : (Cond.laysStatic Bundle.tN "UNASSIGNED_STACK" Bundle.steD).before args s = true) (lN : (Cond.laysStatic Bundle.tN "SUPPRESSED_SENTINEL" Bundle.listD).before args s = true) : ∀ w ∈ L, w.before args s = true := by
  intro w hw
  by_cases e1 : w = .isRef (.static Bundle.tN "UNASSIGNED_STACK" Bundle.steD)
  · rw [e1]; exact hU
  · by_cases e2 : w = .isRef (.static Bundle.tN "SUPPRESSED_SENTINEL" Bundle.listD)
    · rw [e2]; exact hN
    · by_cases e3 : w = .laysStatic Bundle.tN "UNASSIGNED_STACK" Bundle.steD
      · rw [e3]; exact lU
      · by_cases e4 : w = .laysStatic Bundle.tN "SUPPRESSED_SENTINEL" Bundle.listD
        · rw [e4]; exact lN
        · exact h1 w (List.mem_filter.mpr ⟨hw, by unfold vx_no; rw [decide_eq_true e1, decide_eq_true e2, decide_eq_true e3, decide_eq_true e4]; rfl⟩)
/-- where a static field lies, its ..'s statics cell in H -/
def vx_L (C n d : String) (A : Nat → Prop) (U : State) (H : Heap) : Prop := ∃ (c : ClassId) (k : Class) (i : Nat) (f : Field) (a : Nat) (cell : Cell), U.vm.findClass C = some c ∧ U.fieldFound? C n d = some (c, k, i, f) ∧ f.isStatic = true ∧ k.statics = some a ∧ H[a]? = some cell ∧ cell.vm.isStatics = true ∧ cell.cls = c ∧ f.slot < cell.slots.size ∧ k.staticTypes[f.slot]? = some f.type ∧ ¬ A a
theorem vx_L.moved {C n d : String} {A : Nat → Prop} {u U : State} {H : Heap} (hvm : u.vm.Alike U.vm) (h : vx_L C n d A u H) : vx_L C n d A U H := by
  obtain ⟨c, k, i, f, a, cell, h1, h2, h3, h4, h5, h6, h7, h8, h9, h10⟩ := h
  obtain ⟨k', hi', he⟩ := State.fieldFound?_setVm hvm h2
  exact ⟨c, k', i, f, a, cell, by rw [hvm.findClass]; exact h1, hi', h3, by rw [he]; exact h4, h5, h6, h7, h8, by rw [he]; exact h9, h10⟩
theorem vx_L.kept {C n d : String} {A : Nat → Prop} {U : State} {H H1 : Heap} (h : vx_L C n d A U H) (hq : ∀ a : Nat, a < H.size → ¬ A a → H1[a]? = H[a]?) : vx_L C n d A U H1 := by
  obtain ⟨c, k, i, f, a, cell, h1, h2, h3, h4, h5, h6, h7, h8, h9, h10⟩ := h
  exact ⟨c, k, i, f, a, cell, h1, h2, h3, h4, by rw [hq a (Array.getElem?_eq_some_iff.mp h5).1 h10]; exact h5, h6, h7, h8, h9, h10⟩
theorem vx_L.narrow {C n d : String} {A B : Nat → Prop} {U : State} {H : Heap} (h : vx_L C n d A U H) (hAB : ∀ q, B q → A q) : vx_L C n d B U H := by
  obtain ⟨c, k, i, f, a, cell, h1, h2, h3, h4, h5, h6, h7, h8, h9, h10⟩ := h
  exact ⟨c, k, i, f, a, cell, h1, h2, h3, h4, h5, h6, h7, h8, h9, fun z => h10 (hAB _ z)⟩
theorem vx_L.word {C n d : String} {A : Nat → Prop} {s : State} {args : Array Value} (h : vx_L C n d A s s.heap) : (Cond.laysStatic C n d).before args s = true := by
  obtain ⟨c, k, i, f, a, cell, h1, h2, h3, h4, h5, h6, h7, h8, h9, -⟩ := h
  show (Cond.laysStatic C n d).holds args s none s [] = true
  exact Cond.laysStatic_of h1 h2 h3 h4 h5 h6 h7 h8 h9
/-- .. and what it holds: null or some reference -/
def vx_Zq (C n d : String) (A : Nat → Prop) (U : State) (H : Heap) : Prop := va_Zq C n d A U H ∧ vx_L C n d A U H
theorem vx_Zq.moved {C n d : String} {A : Nat → Prop} {u U : State} {H : Heap} (hvm : u.vm.Alike U.vm) (h : vx_Zq C n d A u H) : vx_Zq C n d A U H := ⟨va_Zq.moved hvm h.1, vx_L.moved hvm h.2⟩
theorem vx_Zq.kept {C n d : String} {A : Nat → Prop} {U : State} {H H1 : Heap} (h : vx_Zq C n d A U H) (hq : ∀ a : Nat, a < H.size → ¬ A a → H1[a]? = H[a]?) : vx_Zq C n d A U H1 := ⟨va_Zq.kept h.1 hq, vx_L.kept h.2 hq⟩
theorem vx_Zq.narrow {C n d : String} {A B : Nat → Prop} {U : State} {H : Heap} (h : vx_Zq C n d A U H) (hAB : ∀ q, B q → A q) : vx_Zq C n d B U H := ⟨va_Zq.narrow h.1 hAB, vx_L.narrow h.2 hAB⟩
theorem vx_Zqof {args : Array Value} {s : State} {C n d : String} {A : Nat → Prop} (hl : (Cond.laysStatic C n d).before args s = true) (hini : (Cond.initialized C).before args s = true) (h : (Cond.isRef (.static C n d)).before args s = true) (hA : ∀ a : Nat, a < s.heap.size → ¬ A a) : vx_Zq C n d A s s.heap := by
  refine ⟨va_Zqof hl hini h hA, ?_⟩
  obtain ⟨c, k, i, f, a, cell, h1, h2, h3, h4, h5, h6, h7, h8, h9⟩ := Cond.laysStatic_spec hl
  exact ⟨c, k, i, f, a, cell, h1, h2, h3, h4, h5, h6, h7, h8, h9, hA a (Array.getElem?_eq_some_iff.mp h5).1⟩
theorem vx_isRef {C n d : String} {v : Value} {A : Nat → Prop} {s : State} {args : Array Value} (h : va_Z C n d v A s s.heap) (hv : v.isRef = true) : (Cond.isRef (.static C n d)).before args s = true := by
  obtain ⟨cf, kf, fi, f, a, cell, h1, h2, h3, h4, h5, h6, h7, -⟩ := h
  have he : (Term.static C n d).eval args s none [] s = some v := by
    simp [Term.eval, State.fieldNamed?, h1, h2, h4, h5, h6, h7]
  simp only [Cond.before, Cond.holds, Cond.value, he]
  cases v <;> simp_all [Value.isRef]
theorem vx_isRefq {C n d : String} {A : Nat → Prop} {s : State} {args : Array Value} (h : va_Zq C n d A s s.heap) : (Cond.isRef (.static C n d)).before args s = true := by
  rcases h with h | ⟨t, h⟩
  · exact vx_isRef h rfl
  · exact vx_isRef h rfl
/-- the same frame, seen from here: as if the method were called anew in this heap -/
theorem vx_rebase {T : State} (X : Stand p l e R s m args below meth c T locs cells slots) {R' : Room} (hf : R'.frames ≤ R.frames) (hl : R'.locals ≤ R.locals) (hc : cells + R'.cells ≤ R.cells) (hs : slots + R'.slots ≤ R.slots) :
    Stand p l e R' ((T.setVm s.vm).setFrames (.invoking m args :: below)) m args below meth c T [] 0 0 := by
  have htop : (T.setVm s.vm).topJava?.isSome := X.here.top
  have hF : ((T.setVm s.vm).setFrames (.invoking m args :: below)).frames = .invoking m args :: below := State.frames_setFrames _ (State.cur_lt_of_top htop)
  obtain ⟨g₀, hg0⟩ := Option.isSome_iff_exists.mp htop
  obtain ⟨r, hr⟩ := State.topJava?_eq_some.mp hg0
  have hl9 : e.platform.stackLimits (T.setVm s.vm).me = e.platform.stackLimits s.me := X.limits
  have hb9 : (T.setVm s.vm).me.stackBytes = s.me.stackBytes := X.bytes
  refine ⟨X.admits, X.cas, X.clock, hF, ?_, X.hears, X.method, X.code, X.here, X.tail, X.warmed, ?_, ?_, ?_⟩
  · have h := X.room
    have hU : ((T.setVm s.vm).setFrames (.invoking m args :: below)).localsInUse = s.localsInUse := by
      rw [State.localsInUse_invoking hF (meth := meth) (c := c) X.method X.code, State.localsInUse_invoking X.frames X.method X.code]
    simp only [State.hasRoom, Bool.and_eq_true, decide_eq_true_eq] at h ⊢
    obtain ⟨⟨⟨⟨h1, h2, h3, h4, h5, h6⟩, h7⟩, h8⟩, h9⟩ := h
    rw [X.frames, List.length_cons] at h2 h3
    have q1 := X.heapSize
    have q2 := X.used
    simp only [hF, hU, List.length_cons, State.stackLimits_setFrames, State.stackBytes_setFrames, hl9, hb9]
    refine ⟨⟨⟨⟨by omega, by omega, by omega, by omega, by omega, h6⟩, ?_⟩, ?_⟩, X.book⟩
    · show T.heap.size + R'.cells ≤ e.platform.maxCells
      omega
    · show T.slotsUsed + R'.slots ≤ e.platform.maxSlots
      omega
  · rw [State.stackLimits_setFrames]; rfl
  · rw [State.stackBytes_setFrames]; rfl
  · refine ⟨?_, Nat.le_refl _, Nat.le_refl _, ?_, ?_, fun a c9 h9 => ⟨c9, h9, rfl, rfl, fun _ _ => rfl⟩⟩
    · obtain ⟨t, ht, -⟩ := State.frames_cons hr
      show T.setVm s.vm = { ((T.setVm s.vm).setFrames (.invoking m args :: below)).setFrames (T.setVm s.vm).frames with heap := T.heap, slotsUsed := T.slotsUsed }
      rw [State.setFrames_setFrames, State.setFrames_self ht]
      rfl
    · show T.slotsUsed = T.slotsUsed + ((T.heap.toList.drop T.heap.size).map (·.slots.size)).sum
      rw [List.drop_eq_nil_of_le (Nat.le_of_eq Array.length_toList)]
      rfl
    · show ((T.heap.toList.drop T.heap.size).map (·.slots.size)).sum ≤ 0
      rw [List.drop_eq_nil_of_le (Nat.le_of_eq Array.length_toList)]
      exact Nat.le_refl _
/-- 'throw new E()': new; dup; invokespecial; athrow -/
theorem vx_throw0 {cc : ByteArray} {pc : Nat} (hexec : p.tables.exec = Jvm.exec) (hb : c.code = cc) (hl : l.stackTraces = false) {own cls : String} {names : List String} {ik ic mc ms : Nat} {A : Nat → Prop}
    (hown : s.vm.findClass own = some m.cls) (hcls : Bundle.fit cls = true) (hnames : ∀ n ∈ names, Bundle.fit n = true)
    (hk : (Cond.classLink own ik cls).before args s = true) (hini : (Cond.initialized cls).before args s = true) (hat : ∀ w ∈ vx_at0 own ic cls names, w.before args s = true)
    (hgood : ∀ w ∈ Cond.classLink own ik cls :: Cond.initialized cls :: vx_at0 own ic cls names, vx_ot w = true)
    (hU : vx_Zq Bundle.tN "UNASSIGNED_STACK" Bundle.steD A s s.heap) (hN : vx_Zq Bundle.tN "SUPPRESSED_SENTINEL" Bundle.listD A s s.heap) (hS : va_S A s.heap H locs) (hsize : ls.size = c.maxLocals)
    (d0 : decode cc pc = .ok (.new ik, 3)) (d3 : decode cc (pc + 3) = .ok (.dup, 1)) (d4 : decode cc (pc + 4) = .ok (.invokespecial ic, 3)) (d7 : decode cc (pc + 7) = .ok (.athrow, 1))
    (hout : ∀ x ∈ c.exceptionTable.toList, covers x (pc + 7) = false)
    (hRframes : names.length + 3 < R.frames) (hRlocals : (rest.map fun v => v.category).sum + (13 * (names.length + 1) + 42) ≤ R.locals) (hRcells : cells + 1 ≤ R.cells) (hRslots : slots + 6 ≤ R.slots) (hlocks : meth.locks = false)
    (hx : ∀ t : State, s.vm.Alike t.vm → H.size ≤ t.heap.size → (∀ q : Nat, q < H.size → t.heap[q]? = H[q]?) → XC cls s t)
    (hf : ∀ z ∈ locs, free z.base) (hc : cells + 1 ≤ mc) (hs : slots + 6 ≤ ms) :
    W p l e R s m args below meth c H locs cells slots (vx_MQ below Qc XC args s mc ms free) (F0 m pc ls rest) := by
  intro T hT X
  have htr : e.platform.stackTraces = false := (show e.platform.stackTraces = l.stackTraces by rw [X.admits.platform]).trans hl
  have Y := vx_rebase X (R' := { frames := R.frames, locals := R.locals, cells := 1, slots := 6 }) (Nat.le_refl _) (Nat.le_refl _) hRcells hRslots
  obtain ⟨s', hA⟩ : ∃ z, z = (T.setVm s.vm).setFrames (.invoking m args :: below) := ⟨_, rfl⟩
  rw [← hA] at Y
  have hvm : s'.vm = s.vm := by rw [hA]; rfl
  have hhp : s'.heap = H := by rw [hA]; exact hT
  have hW0 : s.WarmedH s'.vm := by rw [hvm]; exact State.WarmedH.refl s
  have hat' : ∀ w ∈ vx_at0 own ic cls names, w.before args s' = true := fun w hw => vx_ot_at hW0 hvm.symm (hgood w (List.mem_cons_of_mem _ (List.mem_cons_of_mem _ hw))) (hat w hw)
  have hk' : (Cond.classLink own ik cls).before args s' = true := vx_ot_at hW0 hvm.symm (hgood _ List.mem_cons_self) hk
  have hini' : (Cond.initialized cls).before args s' = true := vx_ot_at hW0 hvm.symm (hgood _ (List.mem_cons_of_mem _ List.mem_cons_self)) hini
  have hU' : vx_Zq Bundle.tN "UNASSIGNED_STACK" Bundle.steD A s' s'.heap := by rw [hhp]; exact vx_Zq.moved hW0.alike (hU.kept hS.2.1)
  have hN' : vx_Zq Bundle.tN "SUPPRESSED_SENTINEL" Bundle.listD A s' s'.heap := by rw [hhp]; exact vx_Zq.moved hW0.alike (hN.kept hS.2.1)
  have h : ∀ w ∈ Bundle.ownAtoms0 own ic cls names, w.before args s' = true := vx_own hat' (vx_isRefq hU'.1) (vx_isRefq hN'.1) hU'.2.word hN'.2.word
  have hown' : s'.vm.findClass own = some m.cls := by rw [hvm]; exact hown
  have hins : (Cond.instantiable cls 6).before args s' = true := h _ (by simp [Bundle.ownAtoms0])
  obtain ⟨vm₁, cX, kX, hfX, hkX, -, -, X₁, st1⟩ := Y.newCold hexec (own := own) (C := cls) (index := ik) (n := 6) hown' hk' hins hini'
    (g := F0 m pc ls rest) rfl (by rw [hb]; exact d0) (Nat.le_refl _) (Nat.le_refl _)
  generalize hT1 : (T.setVm vm₁).pushCell { cls := cX, slots := kX.instanceTypes.map defaultValue, vm := .none } = T1 at X₁ st1
  have hcat : (Value.ref T.heap.size).category = 1 := rfl
  have hcellA : T1.heap[T.heap.size]? = some (freshCell cX kX) := by rw [← hT1]; exact State.heap_pushCell_size _ _
  have d3' : decode c.code (pc + 3) = .ok (.dup, 1) := by rw [hb]; exact d3
  obtain ⟨U, hsteps, hrun, hend, hW, hsame, ce, hce, hO⟩ := X₁.ctorThrow0 hexec htr (own := own) (cls := cls) (names := names) (ic := ic) hown' hcls hnames h (fun x hx => nomatch hx) hfX hkX hcellA (by rw [hhp, hT]; exact Nat.le_refl _)
    (g := { method := m, pc := pc + 4, locals := ls, stack := .ref T.heap.size :: .ref T.heap.size :: rest, locked := none }) rfl hsize rfl rfl (rest := rest) rfl
    (by rw [hb]; exact d4) (by rw [hb]; exact d7) hout hRframes (by simp only [List.map_cons, List.sum_cons, hcat]; omega) hlocks
  obtain ⟨f1, f2⟩ := vx_frame hsame
  rw [hhp] at f1 f2
  have hWs : s.WarmedH U.vm := State.WarmedH.trans hW0 hW
  have hcl : s.vm.findClass cls = some ce.cls := by
    have h9 := hO.cls
    rw [hvm] at h9
    exact h9
  have hall : s.sameButNew ({ U with vm := s.vm } : State) locs mc ms := by
    subst hA
    obtain ⟨e1, e2⟩ := hsame
    rw [State.setFrames_setFrames] at e1
    have h2 : (T.setVm s.vm).sameButNew ({ U with vm := s.vm } : State) [] (0 + 1) (0 + 6) := ⟨e1, e2⟩
    have h3 := X.same.trans h2
    rw [List.append_nil] at h3
    exact h3.mono hc hs
  refine ⟨U, ?_, .threw T.heap.size, hrun, hend, Or.inr ⟨T.heap.size, rfl, cls, ce, locs, hx U hWs.alike f1 (fun q hq => f2 q hq (fun z hz => nomatch hz)), hce, hO.vm, hcl, hWs, hall, hf⟩⟩
  refine st1 _ ?_
  show Steps p.tables e below (T1.setTop { method := m, pc := pc + 3, locals := ls, stack := .ref T.heap.size :: rest, locked := none }) _
  jvm_step X₁.here [X₁.here.top, hexec, d3', Value.category]
  exact hsteps
/-- 'throw new E("text")': new; dup; ldc; invokespecial; athrow -/
theorem vx_throwS {cc : ByteArray} {pc : Nat} (hexec : p.tables.exec = Jvm.exec) (hb : c.code = cc) (hl : l.stackTraces = false) {own cls text : String} {names : List String} {ik is ic mc ms sa : Nat} {A : Nat → Prop}
    (hown : s.vm.findClass own = some m.cls) (hcls : Bundle.fit cls = true) (hnames : ∀ n ∈ names, Bundle.fit n = true)
    (hk : (Cond.classLink own ik cls).before args s = true) (hini : (Cond.initialized cls).before args s = true) (hstr : vk_R own is text sa s) (hat : ∀ w ∈ vx_atS own ic cls names, w.before args s = true)
    (hgood : ∀ w ∈ Cond.classLink own ik cls :: Cond.initialized cls :: vx_atS own ic cls names, vx_ot w = true)
    (hU : vx_Zq Bundle.tN "UNASSIGNED_STACK" Bundle.steD A s s.heap) (hN : vx_Zq Bundle.tN "SUPPRESSED_SENTINEL" Bundle.listD A s s.heap) (hS : va_S A s.heap H locs) (hsize : ls.size = c.maxLocals)
    (d0 : decode cc pc = .ok (.new ik, 3)) (d3 : decode cc (pc + 3) = .ok (.dup, 1)) (d4 : decode cc (pc + 4) = .ok (.ldc is, 2)) (d6 : decode cc (pc + 6) = .ok (.invokespecial ic, 3)) (d9 : decode cc (pc + 9) = .ok (.athrow, 1))
    (hout : ∀ x ∈ c.exceptionTable.toList, covers x (pc + 9) = false)
    (hRframes : names.length + 3 < R.frames) (hRlocals : (rest.map fun v => v.category).sum + (13 * (names.length + 1) + 43) ≤ R.locals) (hRcells : cells + 1 ≤ R.cells) (hRslots : slots + 6 ≤ R.slots) (hlocks : meth.locks = false)
    (hx : ∀ t : State, s.vm.Alike t.vm → H.size ≤ t.heap.size → (∀ q : Nat, q < H.size → t.heap[q]? = H[q]?) → XC cls s t)
    (hf : ∀ z ∈ locs, free z.base) (hc : cells + 1 ≤ mc) (hs : slots + 6 ≤ ms) :
    W p l e R s m args below meth c H locs cells slots (vx_MQ below Qc XC args s mc ms free) (F0 m pc ls rest) := by
  intro T hT X
  have htr : e.platform.stackTraces = false := (show e.platform.stackTraces = l.stackTraces by rw [X.admits.platform]).trans hl
  have Y := vx_rebase X (R' := { frames := R.frames, locals := R.locals, cells := 1, slots := 6 }) (Nat.le_refl _) (Nat.le_refl _) hRcells hRslots
  obtain ⟨s', hA⟩ : ∃ z, z = (T.setVm s.vm).setFrames (.invoking m args :: below) := ⟨_, rfl⟩
  rw [← hA] at Y
  have hvm : s'.vm = s.vm := by rw [hA]; rfl
  have hhp : s'.heap = H := by rw [hA]; exact hT
  have hW0 : s.WarmedH s'.vm := by rw [hvm]; exact State.WarmedH.refl s
  have hat' : ∀ w ∈ vx_atS own ic cls names, w.before args s' = true := fun w hw => vx_ot_at hW0 hvm.symm (hgood w (List.mem_cons_of_mem _ (List.mem_cons_of_mem _ hw))) (hat w hw)
  have hk' : (Cond.classLink own ik cls).before args s' = true := vx_ot_at hW0 hvm.symm (hgood _ List.mem_cons_self) hk
  have hini' : (Cond.initialized cls).before args s' = true := vx_ot_at hW0 hvm.symm (hgood _ (List.mem_cons_of_mem _ List.mem_cons_self)) hini
  have hU' : vx_Zq Bundle.tN "UNASSIGNED_STACK" Bundle.steD A s' s'.heap := by rw [hhp]; exact vx_Zq.moved hW0.alike (hU.kept hS.2.1)
  have hN' : vx_Zq Bundle.tN "SUPPRESSED_SENTINEL" Bundle.listD A s' s'.heap := by rw [hhp]; exact vx_Zq.moved hW0.alike (hN.kept hS.2.1)
  have h : ∀ w ∈ Bundle.ownAtoms own ic cls names, w.before args s' = true := vx_own hat' (vx_isRefq hU'.1) (vx_isRefq hN'.1) hU'.2.word hN'.2.word
  have hown' : s'.vm.findClass own = some m.cls := by rw [hvm]; exact hown
  have hins : (Cond.instantiable cls 6).before args s' = true := h _ (by simp [Bundle.ownAtoms])
  obtain ⟨vm₁, cX, kX, hfX, hkX, -, -, X₁, st1⟩ := Y.newCold hexec (own := own) (C := cls) (index := ik) (n := 6) hown' hk' hins hini'
    (g := F0 m pc ls rest) rfl (by rw [hb]; exact d0) (Nat.le_refl _) (Nat.le_refl _)
  generalize hT1 : (T.setVm vm₁).pushCell { cls := cX, slots := kX.instanceTypes.map defaultValue, vm := .none } = T1 at X₁ st1
  have hcat : (Value.ref T.heap.size).category = 1 := rfl
  have hcellA : T1.heap[T.heap.size]? = some (freshCell cX kX) := by rw [← hT1]; exact State.heap_pushCell_size _ _
  have d3' : decode c.code (pc + 3) = .ok (.dup, 1) := by rw [hb]; exact d3
  have d4' : decode c.code (pc + 4) = .ok (.ldc is, 2) := by rw [hb]; exact d4
  have hstr' : vk_R own is text sa s' := vk_R.warm hW0 hstr
  obtain ⟨U, hsteps, hrun, hend, hW, hsame, ce, hce, hO⟩ := X₁.ctorThrowS hexec htr (own := own) (cls := cls) (names := names) (ic := ic) hown' hcls hnames h (fun x hx => nomatch hx) hfX hkX hcellA (by rw [hhp, hT]; exact Nat.le_refl _) (msg := .ref sa) rfl
    (g := { method := m, pc := pc + 6, locals := ls, stack := .ref sa :: .ref T.heap.size :: .ref T.heap.size :: rest, locked := none }) rfl hsize rfl rfl (rest := rest) rfl
    (by rw [hb]; exact d6) (by rw [hb]; exact d9) hout hRframes (by simp only [List.map_cons, List.sum_cons, hcat]; omega) hlocks
  obtain ⟨f1, f2⟩ := vx_frame hsame
  rw [hhp] at f1 f2
  have hWs : s.WarmedH U.vm := State.WarmedH.trans hW0 hW
  have hcl : s.vm.findClass cls = some ce.cls := by
    have h9 := hO.cls
    rw [hvm] at h9
    exact h9
  have hall : s.sameButNew ({ U with vm := s.vm } : State) locs mc ms := by
    subst hA
    obtain ⟨e1, e2⟩ := hsame
    rw [State.setFrames_setFrames] at e1
    have h2 : (T.setVm s.vm).sameButNew ({ U with vm := s.vm } : State) [] (0 + 1) (0 + 6) := ⟨e1, e2⟩
    have h3 := X.same.trans h2
    rw [List.append_nil] at h3
    exact h3.mono hc hs
  refine ⟨U, ?_, .threw T.heap.size, hrun, hend, Or.inr ⟨T.heap.size, rfl, cls, ce, locs, hx U hWs.alike f1 (fun q hq => f2 q hq (fun z hz => nomatch hz)), hce, hO.vm, hcl, hWs, hall, hf⟩⟩
  refine st1 _ ?_
  show Steps p.tables e below (T1.setTop { method := m, pc := pc + 3, locals := ls, stack := .ref T.heap.size :: rest, locked := none }) _
  jvm_step X₁.here [X₁.here.top, hexec, d3', Value.category]
  exact X₁.ldcString hexec (own := own) (text := text) (index := is) (a := sa) hown' hstr'.1 hstr'.2
    (g := { method := m, pc := pc + 4, locals := ls, stack := .ref T.heap.size :: .ref T.heap.size :: rest, locked := none }) rfl d4' _ hsteps
/-- 'throw new E("text")', the text by a wide index -/
theorem vx_throwSW {cc : ByteArray} {pc : Nat} (hexec : p.tables.exec = Jvm.exec) (hb : c.code = cc) (hl : l.stackTraces = false) {own cls text : String} {names : List String} {ik is ic mc ms sa : Nat} {A : Nat → Prop}
    (hown : s.vm.findClass own = some m.cls) (hcls : Bundle.fit cls = true) (hnames : ∀ n ∈ names, Bundle.fit n = true)
    (hk : (Cond.classLink own ik cls).before args s = true) (hini : (Cond.initialized cls).before args s = true) (hstr : vk_R own is text sa s) (hat : ∀ w ∈ vx_atS own ic cls names, w.before args s = true)
    (hgood : ∀ w ∈ Cond.classLink own ik cls :: Cond.initialized cls :: vx_atS own ic cls names, vx_ot w = true)
    (hU : vx_Zq Bundle.tN "UNASSIGNED_STACK" Bundle.steD A s s.heap) (hN : vx_Zq Bundle.tN "SUPPRESSED_SENTINEL" Bundle.listD A s s.heap) (hS : va_S A s.heap H locs) (hsize : ls.size = c.maxLocals)
    (d0 : decode cc pc = .ok (.new ik, 3)) (d3 : decode cc (pc + 3) = .ok (.dup, 1)) (d4 : decode cc (pc + 4) = .ok (.ldc_w is, 3)) (d7 : decode cc (pc + 7) = .ok (.invokespecial ic, 3)) (d10 : decode cc (pc + 10) = .ok (.athrow, 1))
    (hout : ∀ x ∈ c.exceptionTable.toList, covers x (pc + 10) = false)
    (hRframes : names.length + 3 < R.frames) (hRlocals : (rest.map fun v => v.category).sum + (13 * (names.length + 1) + 43) ≤ R.locals) (hRcells : cells + 1 ≤ R.cells) (hRslots : slots + 6 ≤ R.slots) (hlocks : meth.locks = false)
    (hx : ∀ t : State, s.vm.Alike t.vm → H.size ≤ t.heap.size → (∀ q : Nat, q < H.size → t.heap[q]? = H[q]?) → XC cls s t)
    (hf : ∀ z ∈ locs, free z.base) (hc : cells + 1 ≤ mc) (hs : slots + 6 ≤ ms) :
    W p l e R s m args below meth c H locs cells slots (vx_MQ below Qc XC args s mc ms free) (F0 m pc ls rest) := by
  intro T hT X
  have htr : e.platform.stackTraces = false := (show e.platform.stackTraces = l.stackTraces by rw [X.admits.platform]).trans hl
  have Y := vx_rebase X (R' := { frames := R.frames, locals := R.locals, cells := 1, slots := 6 }) (Nat.le_refl _) (Nat.le_refl _) hRcells hRslots
  obtain ⟨s', hA⟩ : ∃ z, z = (T.setVm s.vm).setFrames (.invoking m args :: below) := ⟨_, rfl⟩
  rw [← hA] at Y
  have hvm : s'.vm = s.vm := by rw [hA]; rfl
  have hhp : s'.heap = H := by rw [hA]; exact hT
  have hW0 : s.WarmedH s'.vm := by rw [hvm]; exact State.WarmedH.refl s
  have hat' : ∀ w ∈ vx_atS own ic cls names, w.before args s' = true := fun w hw => vx_ot_at hW0 hvm.symm (hgood w (List.mem_cons_of_mem _ (List.mem_cons_of_mem _ hw))) (hat w hw)
  have hk' : (Cond.classLink own ik cls).before args s' = true := vx_ot_at hW0 hvm.symm (hgood _ List.mem_cons_self) hk
  have hini' : (Cond.initialized cls).before args s' = true := vx_ot_at hW0 hvm.symm (hgood _ (List.mem_cons_of_mem _ List.mem_cons_self)) hini
  have hU' : vx_Zq Bundle.tN "UNASSIGNED_STACK" Bundle.steD A s' s'.heap := by rw [hhp]; exact vx_Zq.moved hW0.alike (hU.kept hS.2.1)
  have hN' : vx_Zq Bundle.tN "SUPPRESSED_SENTINEL" Bundle.listD A s' s'.heap := by rw [hhp]; exact vx_Zq.moved hW0.alike (hN.kept hS.2.1)
  have h : ∀ w ∈ Bundle.ownAtoms own ic cls names, w.before args s' = true := vx_own hat' (vx_isRefq hU'.1) (vx_isRefq hN'.1) hU'.2.word hN'.2.word
  have hown' : s'.vm.findClass own = some m.cls := by rw [hvm]; exact hown
  have hins : (Cond.instantiable cls 6).before args s' = true := h _ (by simp [Bundle.ownAtoms])
  obtain ⟨vm₁, cX, kX, hfX, hkX, -, -, X₁, st1⟩ := Y.newCold hexec (own := own) (C := cls) (index := ik) (n := 6) hown' hk' hins hini'
    (g := F0 m pc ls rest) rfl (by rw [hb]; exact d0) (Nat.le_refl _) (Nat.le_refl _)
  generalize hT1 : (T.setVm vm₁).pushCell { cls := cX, slots := kX.instanceTypes.map defaultValue, vm := .none } = T1 at X₁ st1
  have hcat : (Value.ref T.heap.size).category = 1 := rfl
  have hcellA : T1.heap[T.heap.size]? = some (freshCell cX kX) := by rw [← hT1]; exact State.heap_pushCell_size _ _
  have d3' : decode c.code (pc + 3) = .ok (.dup, 1) := by rw [hb]; exact d3
  have d4' : decode c.code (pc + 4) = .ok (.ldc_w is, 3) := by rw [hb]; exact d4
  have hstr' : vk_R own is text sa s' := vk_R.warm hW0 hstr
  obtain ⟨U, hsteps, hrun, hend, hW, hsame, ce, hce, hO⟩ := X₁.ctorThrowS hexec htr (own := own) (cls := cls) (names := names) (ic := ic) hown' hcls hnames h (fun x hx => nomatch hx) hfX hkX hcellA (by rw [hhp, hT]; exact Nat.le_refl _) (msg := .ref sa) rfl
    (g := { method := m, pc := pc + 7, locals := ls, stack := .ref sa :: .ref T.heap.size :: .ref T.heap.size :: rest, locked := none }) rfl hsize rfl rfl (rest := rest) rfl
    (by rw [hb]; exact d7) (by rw [hb]; exact d10) hout hRframes (by simp only [List.map_cons, List.sum_cons, hcat]; omega) hlocks
  obtain ⟨f1, f2⟩ := vx_frame hsame
  rw [hhp] at f1 f2
  have hWs : s.WarmedH U.vm := State.WarmedH.trans hW0 hW
  have hcl : s.vm.findClass cls = some ce.cls := by
    have h9 := hO.cls
    rw [hvm] at h9
    exact h9
  have hall : s.sameButNew ({ U with vm := s.vm } : State) locs mc ms := by
    subst hA
    obtain ⟨e1, e2⟩ := hsame
    rw [State.setFrames_setFrames] at e1
    have h2 : (T.setVm s.vm).sameButNew ({ U with vm := s.vm } : State) [] (0 + 1) (0 + 6) := ⟨e1, e2⟩
    have h3 := X.same.trans h2
    rw [List.append_nil] at h3
    exact h3.mono hc hs
  refine ⟨U, ?_, .threw T.heap.size, hrun, hend, Or.inr ⟨T.heap.size, rfl, cls, ce, locs, hx U hWs.alike f1 (fun q hq => f2 q hq (fun z hz => nomatch hz)), hce, hO.vm, hcl, hWs, hall, hf⟩⟩
  refine st1 _ ?_
  show Steps p.tables e below (T1.setTop { method := m, pc := pc + 3, locals := ls, stack := .ref T.heap.size :: rest, locked := none }) _
  jvm_step X₁.here [X₁.here.top, hexec, d3', Value.category]
  exact X₁.ldcStringW hexec (own := own) (text := text) (index := is) (a := sa) hown' hstr'.1 hstr'.2
    (g := { method := m, pc := pc + 4, locals := ls, stack := .ref T.heap.size :: .ref T.heap.size :: rest, locked := none }) rfl d4' _ hsteps
end Ends
section Bodies
variable {l : Launch}
theorem vx_ofW {y : MethodName} {ws ws' : List Cond} {rm : Room} {Pc : Array Value → State → Prop} {Qc : Array Value → State → Outcome → State → Prop} {XC : String → State → State → Prop} {mc ms : Nat} {free : Addr → Prop} {cc : ByteArray} {maxL : Nat} {ret : Option FieldType}
    (hy : plainName y.cls = true) (hw : ws = Cond.code y cc maxL ret :: ws')
    (body : ∀ p e s m args below meth c s₁, BodyLoose p l y (headSpec ws rm) cc maxL ret e s m args below meth c s₁ → c.maxLocals = maxL → (∀ x ∈ c.exceptionTable.toList, False) → Pc args s →
      W p l e (headSpec ws rm).room s m args below meth c s.heap [] 0 0 (vx_MQ below Qc XC args s mc ms free) (entryFrame m args maxL)) : vx_Met l y ws rm Pc Qc XC mc ms free := by
  refine MetFree.of_bodyS (code := cc) (maxLocals := maxL) (ret := ret) hy ?_ ?_
  · intro args s m h hn
    obtain ⟨meth, c, h1, h2, h3, h4, h5, h6, -, -⟩ := Cond.code_spec hn (atoms_spec (ws := ws) h _ (by rw [hw]; exact List.mem_cons_self))
    exact ⟨meth, c, h1, h2, h3, h4, h5, h6⟩
  · intro p e s m args below meth c s₁ B hml hP _
    have hh0 : s₁.heap = s.heap := by rw [B.state]; rfl
    have ht : ∀ x ∈ c.exceptionTable.toList, False := by
      obtain ⟨meth9, c9, h1, h2, -, -, -, -, h7, -⟩ := Cond.code_spec B.named (atoms_spec (ws := ws) B.pre _ (by rw [hw]; exact List.mem_cons_self))
      cases Option.some.inj (h1.symm.trans B.method)
      cases Option.some.inj (h2.symm.trans (Stand.of_body B).code)
      intro x hx
      rw [Array.isEmpty_iff.mp h7] at hx
      cases hx
    obtain ⟨t, a1, o, b1, b2, b3⟩ := body p e s m args below meth c s₁ B hml ht hP s₁ hh0 (Stand.of_body B)
    exact ⟨t, o, a1, b1, b2, b3⟩
/-- the table of a body with handlers -/
theorem vx_table {p : Program} {x y : MethodName} {S : Spec} {cc bytes : ByteArray} {maxL maxL' : Nat} {ret ret' : Option FieldType} {e : Env} {s s₁ : State} {m : MethodId} {args : Array Value} {below : List Frame} {meth : Method} {c : Code} {hh : List (Nat × Nat × Nat × Nat)}
    (B : BodyLoose p l y S cc maxL ret e s m args below meth c s₁) (h : (Cond.codeWith y bytes maxL' ret' hh).before args s = true) : c.exceptionTable.toList = tableOf hh := by
  obtain ⟨m9, meth9, c9, hn9, h1, h2, -, -, h6, -⟩ := Cond.codeWith_spec h
  cases Option.some.inj (hn9.symm.trans B.named)
  cases Option.some.inj (h1.symm.trans B.method)
  cases Option.some.inj (h2.symm.trans (Stand.of_body B).code)
  rw [← h6, table_eq]
end Bodies
end VXA
/-! ===== END ===== -/
/-! ===== BEGIN a static call of a method with an exception table ===== -/
section VXS
variable {p : Program} {l : Launch} {e : Env} {R : Room} {s : State} {m : MethodId} {args : Array Value} {below : List Frame} {meth : Method} {c : Code} {T : State} {H : Heap} {locs : List Loc} {cells slots : Nat}
abbrev vx_CSW (R : Room) (s : State) (args : Array Value) (own : String) (index : Nat) (y : MethodName) (bytes : ByteArray) (maxL : Nat) (ret : Option FieldType) (hh : List (Nat × Nat × Nat × Nat)) (ws : List Cond) (rm : Room) (mc ms n : Nat) : Prop :=
  (rm.cells = mc ∧ rm.slots = ms ∧ rm.frames + 1 ≤ R.frames ∧ 8 + (maxL + 11) + rm.locals ≤ R.locals ∧ (∀ w ∈ ws, ∀ (a' : Array Value) (U : State), s.WarmedH U.vm → w.before a' U = true) ∧ Cond.codeWith y bytes maxL ret hh ∈ ws) ∧
  (Cond.codeWith y bytes maxL ret hh).before args s = true ∧ (Cond.initialized y.cls).before args s = true ∧ (y.cls ≠ "java/lang/invoke/MethodHandle" ∧ y.cls ≠ "java/lang/invoke/VarHandle") ∧
  (∀ sig, parseMethodDescriptor y.desc = some sig → n = sig.parameters.length) ∧ (Cond.methodLink own index y).before args s = true ∧ (Cond.static y).before args s = true
theorem vx_cwSW {own : String} {index maxL mc ms : Nat} {y : MethodName} {bytes : ByteArray} {ret : Option FieldType} {hh : List (Nat × Nat × Nat × Nat)} {Ts ws ws' : List Cond} {rm : Room} (n : Nat) (ht : ∀ w ∈ Ts, w.before args s = true) (hT : GoodIn Ts (va_wsS own index y ws)) (hw : ws = Cond.codeWith y bytes maxL ret hh :: ws') (hrc : rm.cells = mc) (hrs : rm.slots = ms)
    (hd : y.cls ≠ "java/lang/invoke/MethodHandle" ∧ y.cls ≠ "java/lang/invoke/VarHandle" ∧ (parseMethodDescriptor y.desc).map (fun d => d.parameters.length) = some n) (hR : rm.frames + 1 ≤ R.frames ∧ 8 + (maxL + 11) + rm.locals ≤ R.locals) :
    vx_CSW R s args own index y bytes maxL ret hh ws rm mc ms n := by
  have ok : ∀ w ∈ va_wsS own index y ws, w.before args s = true := fun w h => ht w (hT w h).1
  have hG : GoodIn Ts ws := fun w h => hT w (by unfold va_wsS; exact List.mem_append_right _ h)
  have hc : Cond.codeWith y bytes maxL ret hh ∈ ws := by rw [hw]; exact List.mem_cons_self
  refine ⟨⟨hrc, hrs, hR.1, hR.2, pay_in ht hG, hc⟩, ht _ (hG _ hc).1, ok _ (by simp [va_wsS]), ⟨hd.1, hd.2.1⟩, fun sig h => ?_, ok _ (by simp [va_wsS]), ok _ (by simp [va_wsS])⟩
  have h2 := hd.2.2
  rw [h] at h2
  exact (Option.some.inj h2).symm
theorem vx_callSW (X : Stand p l e R s m args below meth c T locs cells slots) (hexec : p.tables.exec = Jvm.exec) {own : String} {index : Nat} {y : MethodName} {bytes : ByteArray} {maxL : Nat} {ret : Option FieldType} {hh : List (Nat × Nat × Nat × Nat)}
    (hown : s.vm.findClass own = some m.cls) (hlink : (Cond.methodLink own index y).before args s = true) (hstat : (Cond.static y).before args s = true) (hinit : (Cond.initialized y.cls).before args s = true)
    (hcode : (Cond.codeWith y bytes maxL ret hh).before args s = true) (hy : y.cls ≠ "java/lang/invoke/MethodHandle" ∧ y.cls ≠ "java/lang/invoke/VarHandle")
    {W9 : Nat} {Pre : Pt → Array Value → Prop} {Post : Pt → Array Value → Option Value → Pt → Prop} (hK : Back l R p e below s args y 3 W9 Pre Post)
    {g : JFrame} (hg : g.method = m) (hsize : g.locals.size = c.maxLocals) {argsL rest : List Value} (hlen : ∀ sig, parseMethodDescriptor y.desc = some sig → argsL.length = sig.parameters.length)
    (hstack : g.stack = argsL.reverse ++ rest) (hW : 2 * g.monitorRoom + (rest.map fun v => v.category).sum ≤ W9) (hdg : decode c.code g.pc = .ok (.invokestatic index, 3))
    (hpre : ∀ vm₁, s.WarmedH vm₁ → Pre ⟨T.setVm vm₁, locs, cells, slots⟩ argsL.toArray) :
    ∃ (v : Option Value) (vm₁ : Vm) (B : Pt), s.WarmedH vm₁ ∧ Stand p l e R s m args below meth c B.U B.locs B.cells B.slots ∧ Post ⟨T.setVm vm₁, locs, cells, slots⟩ argsL.toArray v B ∧
      ∀ target, Steps p.tables e below (B.U.setTop { g with pc := g.pc + 3, stack := v.toList ++ rest }) target → Steps p.tables e below (T.setTop g) target := by
  obtain ⟨mk, methM, cM, hnamed, hmethM, -, -, -, -, -, -, hsigM⟩ := Cond.codeWith_spec hcode
  have hstatic : methM.isStatic = true := Cond.static_spec hnamed hmethM hstat
  obtain ⟨kP, hkP, -⟩ := className_of_methodNamed hnamed
  have hinitP : kP.init = .initialized := Cond.initialized_spec (findClass_of_methodNamed hnamed) hkP hinit
  obtain ⟨vm₁, X₁, hstep₁⟩ := X.invokestatic hexec hown hlink hnamed hmethM hstatic hkP hinitP hy (g := g) hg (argsL := argsL) (rest := rest) (hlen _ hsigM) hstack hdg
  obtain ⟨v, B, X', hpost, hsteps⟩ := hK m meth c ⟨T.setVm vm₁, locs, cells, slots⟩ { g with stack := rest } (.invokestatic index) mk argsL.toArray X₁ hg hsize hdg hW (X₁.named hnamed) (hpre vm₁ X₁.warmed)
  exact ⟨v, vm₁, B, X₁.warmed, X', hpost, fun target h => hstep₁ _ fun acts => by rw [doInvoke_state]; exact hsteps.trans h⟩
theorem vx_runSW {y : MethodName} {bytes cc : ByteArray} {maxL nL mc ms n index : Nat} {ret : Option FieldType} {hh : List (Nat × Nat × Nat × Nat)} {ws : List Cond} {rm : Room} {Pc : Array Value → State → Prop} {Qc : Array Value → State → Outcome → State → Prop} {free : Addr → Prop} {Ts : List Cond} {own : String} {As rest : List Value} {g : JFrame}
    (S : CallFix p m c cc nL s args Ts own) (hM : Met l y ws rm Pc Qc mc ms free) (cw : vx_CSW R s args own index y bytes maxL ret hh ws rm mc ms n) (hp : PreS s H Pc As)
    (hg : g.method = m) (hn : As.length = n) (hsize : g.locals.size = nL) (hstack : g.stack = As.reverse ++ rest) (hW : 2 * g.monitorRoom + (rest.map fun v => v.category).sum ≤ 8) (hdg : decode cc g.pc = .ok (.invokestatic index, 3)) (hf : cells + mc ≤ R.cells ∧ slots + ms ≤ R.slots) :
    va_Run p l e R s m args below meth c H locs cells slots mc ms g rest (Qc As.toArray) (free) := by
  obtain ⟨⟨hrc, hrs, hfr, hlo, hws, hcw⟩, hcode, hini, hy, hlen, hl, hstt⟩ := cw
  have hK : Back l R p e below s args y 3 8 (PreOf R mc ms Pc) (PostOf Qc mc ms free) := va_backW (hh := hh) (bytes := bytes) (maxL := maxL) (ret := ret) hM hp.1 hrc hrs hfr hlo hws hcw (fun a' U hW => word_at hW (Or.inl (by first | rfl | simp [Cond.onTables, Cond.keeps, Cond.steady])) hini)
  obtain ⟨hx, hb, hml, ho, -⟩ := S
  intro T hT X
  obtain ⟨v, vm₁, ⟨U', l2, c2, s2⟩, hW₁, X', ⟨g', mk, t, L, e1, e2, hq, h1, hL, h2, h3⟩, st⟩ := vx_callSW X hx (hh := hh) (bytes := bytes) (maxL := maxL) (ret := ret) ho hl hstt hini hcode hy hK hg (hsize.trans hml.symm) (argsL := As) (rest := rest) (fun sig h => hn.trans (hlen sig h)) hstack hW (by rw [hb]; exact hdg)
    (fun vm₁ hW₁ => ⟨hf.1, hf.2, hp.2 (T.setVm vm₁) hT hW₁⟩)
  dsimp only [Pt.U, Pt.locs, Pt.cells, Pt.slots] at X' e1 e2 h1 h2 h3 st
  subst h1; subst h2; subst h3
  exact ⟨v, (T.setVm vm₁).calling g' mk As.toArray, t, U', L, hT, X', hL, e1, e2, hq, st⟩
/-- a thing of a world lies in the heap -/
theorem vx_lt {D : va_G} {cl : List vw_C} {ws : va_W} {H1 : Heap} (h : va_P D cl ws H1) {k : Nat} {q : Nat × va_E} (hk : ws[k]? = some q) : q.1 < H1.size := (h k q hk).lt
end VXS
/-! ===== END ===== -/
/-! ===== BEGIN methods with a table of their own: called by a name, returning or throwing ===== -/
section VXH
/-! vx_backW, vx_callVX, vx_callSX, vx_callVW, vx_runVW, vx_runVX, vx_runSX, vx_ofWH follow the same proofs as their sisters above (Free/Laws.lean, Shelf42/LK1.lean); vx_outP calls Shelf42/NT130.lean (outThrough). -/
section
variable {l : Launch} {R : Room} {p : Program} {e : Env} {below : List Frame} {s : State} {sargs : Array Value} {y : MethodName} {len W9 : Nat}
theorem vx_backW {ws : List Cond} {rm : Room} {Pc : Array Value → State → Prop} {Qc : Array Value → State → Outcome → State → Prop} {XC : String → State → State → Prop} {mc ms : Nat} {free : Addr → Prop} {bytes : ByteArray} {maxL : Nat} {ret : Option FieldType} {hh : List (Nat × Nat × Nat × Nat)}
    (hM : vx_Met l y ws rm Pc Qc XC mc ms free) (hblind : FrameBlind Pc) (hrc : rm.cells = mc) (hrs : rm.slots = ms)
    (hframes : rm.frames + 1 ≤ R.frames) (hlocals : W9 + (maxL + 11) + rm.locals ≤ R.locals)
    (hws : ∀ w ∈ ws, ∀ a' U, s.WarmedH U.vm → w.before a' U = true) (hcode : Cond.codeWith y bytes maxL ret hh ∈ ws) (hinit : ∀ a' U, s.WarmedH U.vm → (Cond.initialized y.cls).before a' U = true) :
    vx_Back l R p e below s sargs y len W9 (PreOf R mc ms Pc) (PostOf Qc mc ms free) (vx_Post XC mc ms free) := by
  intro m meth c A g ig mk a X hg hsize hdg hW hn hp
  have h1 : (headSpec ws rm).pre.before a A.U = true := atoms_intro fun w hw => hws w hw _ _ X.warmed
  have h2 : (Cond.codeWith y bytes maxL ret hh).before a A.U = true := hws _ hcode _ _ X.warmed
  have h3 : (Cond.initialized y.cls).before a A.U = true := hinit _ _ X.warmed
  have h4 : A.cells + (headSpec ws rm).room.cells ≤ R.cells := by rw [show (headSpec ws rm).room.cells = mc from hrc]; exact hp.1
  have h5 : A.slots + (headSpec ws rm).room.slots ≤ R.slots := by rw [show (headSpec ws rm).room.slots = ms from hrs]; exact hp.2.1
  have hPc : Pc a (A.U.calling g mk a) := hblind _ _ _ _ hp.2.2
  obtain ⟨U, Ls, c0, s0⟩ := A
  dsimp only [Pt.U, Pt.locs, Pt.cells, Pt.slots] at h1 h2 h3 h4 h5 X hn hPc ⊢
  obtain ⟨m9, methY, cY, hn9, hmY, hcY, -, hlY, -⟩ := Cond.codeWith_spec h2
  cases Option.some.inj (hn9.symm.trans hn)
  obtain ⟨kY, hkY, -⟩ := className_of_methodNamed hn
  have hinitY : kY.init = .initialized := Cond.initialized_spec (findClass_of_methodNamed hn) hkY h3
  have h : At U g.method c below := by rw [hg]; exact X.here
  have hlocals9 : W9 + (maxL + 11) + (headSpec ws rm).room.locals ≤ R.locals := hlocals
  have happ : (headSpec ws rm).appliesLoose y e.platform (U.calling g mk a) = true :=
    Spec.appliesLoose_calling (g := g) h hdg hn hkY hinitY
      (X.room_calling (g := g) (R' := (headSpec ws rm).room) hsize hmY hcY hframes (by rw [hlY]; omega) h4 h5) h1
  obtain ⟨mid, hmid⟩ := h.above
  have hfr : (U.setTop g).frames = (.java g :: mid) ++ below := by rw [State.frames_setTop' g h.top, hmid]; rfl
  obtain ⟨o, s₂, hsteps, -, hend, hq⟩ := Steps.callFree hM p X.admits X.cas X.clock (acts := []) hfr happ hPc trivial
  have hq' : vx_Q Qc XC mc ms free a (U.calling g mk a) o s₂ := hq
  rw [State.frames_setTop' g h.top] at hend
  obtain ⟨g₀, hg0⟩ := Option.isSome_iff_exists.mp h.top
  obtain ⟨r, hr⟩ := State.topJava?_eq_some.mp hg0
  have hr' : (({ U with heap := s₂.heap, slotsUsed := s₂.slotsUsed } : State).setVm s₂.vm).frames = .java g₀ :: r := hr
  rcases hq' with ⟨hqc, L, hfe, hL⟩ | ⟨q, rfl, E, ce, L, hx, hce, hcv, hcl, hW₂, hsm, hL⟩
  · obtain ⟨⟨v, rfl⟩, hW₂, e2, q2, q3, q4, q5, q6⟩ := id hfe
    have e3 : s₂ = ({ (U.calling g mk a).setFrames s₂.frames with heap := s₂.heap, slotsUsed := s₂.slotsUsed } : State).setVm s₂.vm := by
      have : s₂ = ({ s₂ with vm := (U.calling g mk a).vm } : State).setVm s₂.vm := rfl
      rw [e2] at this
      exact this
    obtain ⟨c₂, i₂, len₂, hc₂, hd₂, hf₂⟩ := hend
    have hW' : U.WarmedH s₂.vm := hW₂
    have hcc : c₂ = c := by
      have h1 : s₂.code? g.method = U.code? g.method := by
        rw [State.code?_eq, State.code?_eq, hW'.alike.method?]
      exact Option.some.inj (hc₂.symm.trans (h1.trans h.code))
    subst hcc
    have hlen : len₂ = len := by rw [hdg] at hd₂; cases hd₂; rfl
    subst hlen
    have hs₂ : s₂ = (({ U with heap := s₂.heap, slotsUsed := s₂.slotsUsed } : State).setVm s₂.vm).setTop { g with pc := g.pc + len₂, stack := v.toList ++ g.stack } := by
      refine e3.trans ?_
      rw [hf₂, State.calling_eq h.top, State.setFrames_setFrames, State.setTop_of_frames _ hr', hr]
      rfl
    have hsame : U.sameButNew ({ U with heap := s₂.heap, slotsUsed := s₂.slotsUsed } : State) L mc ms := by
      refine ⟨?_, q2, q3, q4, q5, q6⟩
      obtain ⟨t, ht, -⟩ := State.frames_cons hr
      show ({ U with heap := s₂.heap, slotsUsed := s₂.slotsUsed } : State) = { U.setFrames U.frames with heap := s₂.heap, slotsUsed := s₂.slotsUsed }
      rw [State.setFrames_self ht]
    subst hg
    refine Or.inl ⟨v, ⟨(({ U with heap := s₂.heap, slotsUsed := s₂.slotsUsed } : State).setVm s₂.vm), Ls ++ L, c0 + mc, s0 + ms⟩,
      ⟨X.admits, X.cas, X.clock, X.frames, X.room, X.hears, X.method, X.code, (X.here.setHeapUsed s₂.heap s₂.slotsUsed).setVm hW'.alike, X.tail, State.WarmedH.trans X.warmed hW', X.limits, X.bytes, X.same.trans (hsame.setVm s.vm)⟩,
      ⟨g, mk, s₂, L, rfl, rfl, hqc, rfl, hL, rfl, rfl⟩, ?_⟩
    show Steps p.tables e below _ ((({ U with heap := s₂.heap, slotsUsed := s₂.slotsUsed } : State).setVm s₂.vm).setTop { g with pc := g.pc + len₂, stack := v.toList ++ g.stack })
    rw [← hs₂]
    exact hsteps
  · obtain ⟨e2, q2, q3, q4, q5, q6⟩ := id hsm
    have e3 : s₂ = ({ (U.calling g mk a).setFrames s₂.frames with heap := s₂.heap, slotsUsed := s₂.slotsUsed } : State).setVm s₂.vm := by
      have : s₂ = ({ s₂ with vm := (U.calling g mk a).vm } : State).setVm s₂.vm := rfl
      rw [e2] at this
      exact this
    have hf₂ : s₂.frames = .throwing q :: .java g :: U.frames.tail := hend
    have hW' : U.WarmedH s₂.vm := hW₂
    have hs₂ : s₂ = ((({ U with heap := s₂.heap, slotsUsed := s₂.slotsUsed } : State).setVm s₂.vm).setTop g).pushFrame (.throwing q) := by
      refine e3.trans ?_
      rw [hf₂, State.calling_eq h.top, State.setFrames_setFrames, State.pushFrame, State.frames_setTop _ hr', State.setTop_of_frames _ hr', State.setFrames_setFrames, hr]
      rfl
    have hsame : U.sameButNew ({ U with heap := s₂.heap, slotsUsed := s₂.slotsUsed } : State) L mc ms := by
      refine ⟨?_, q2, q3, q4, q5, q6⟩
      obtain ⟨t, ht, -⟩ := State.frames_cons hr
      show ({ U with heap := s₂.heap, slotsUsed := s₂.slotsUsed } : State) = { U.setFrames U.frames with heap := s₂.heap, slotsUsed := s₂.slotsUsed }
      rw [State.setFrames_self ht]
    subst hg
    refine Or.inr ⟨q, ⟨(({ U with heap := s₂.heap, slotsUsed := s₂.slotsUsed } : State).setVm s₂.vm), Ls ++ L, c0 + mc, s0 + ms⟩,
      ⟨X.admits, X.cas, X.clock, X.frames, X.room, X.hears, X.method, X.code, (X.here.setHeapUsed s₂.heap s₂.slotsUsed).setVm hW'.alike, X.tail, State.WarmedH.trans X.warmed hW', X.limits, X.bytes, X.same.trans (hsame.setVm s.vm)⟩,
      ⟨g, mk, s₂, L, E, ce, rfl, rfl, hx, hce, hcv, hcl, rfl, hL, rfl, rfl⟩, ?_⟩
    show Steps p.tables e below _ (((({ U with heap := s₂.heap, slotsUsed := s₂.slotsUsed } : State).setVm s₂.vm).setTop g).pushFrame (.throwing q))
    rw [← hs₂]
    exact hsteps
end
variable {p : Program} {l : Launch} {e : Env} {R : Room} {s : State} {m : MethodId} {args : Array Value} {below : List Frame} {meth : Method} {c : Code} {T : State} {H : Heap} {locs : List Loc} {cells slots : Nat}
theorem vx_callVX (X : Stand p l e R s m args below meth c T locs cells slots) (hexec : p.tables.exec = Jvm.exec) {own C : String} {index : Nat} {y : MethodName} {bytes : ByteArray} {maxL : Nat} {ret : Option FieldType} {hh : List (Nat × Nat × Nat × Nat)}
    (hown : s.vm.findClass own = some m.cls) (hlink : (Cond.methodLink own index y).before args s = true) (hinst : (Cond.instanceMethod y).before args s = true) (hsel : (Cond.selects C y y).before args s = true)
    (hcode : (Cond.codeWith y bytes maxL ret hh).before args s = true) (hy : y.cls ≠ "java/lang/invoke/MethodHandle" ∧ y.cls ≠ "java/lang/invoke/VarHandle")
    {W9 : Nat} {Pre : Pt → Array Value → Prop} {Post : Pt → Array Value → Option Value → Pt → Prop} {PostX : Pt → Array Value → Addr → Pt → Prop} (hK : vx_Back l R p e below s args y 3 W9 Pre Post PostX)
    {b : Addr} {cellB : Cell} (hcell : T.heap[b]? = some cellB) (hobj : cellB.vm.isStatics = false) (hcls : s.vm.findClass C = some cellB.cls)
    {g : JFrame} (hg : g.method = m) (hsize : g.locals.size = c.maxLocals) {argsL rest : List Value} (hlen : ∀ sig, parseMethodDescriptor y.desc = some sig → argsL.length = sig.parameters.length)
    (hstack : g.stack = argsL.reverse ++ .ref b :: rest) (hW : 2 * g.monitorRoom + (rest.map fun v => v.category).sum ≤ W9) (hdg : decode c.code g.pc = .ok (.invokevirtual index, 3))
    (hpre : ∀ vm₁, s.WarmedH vm₁ → Pre ⟨T.setVm vm₁, locs, cells, slots⟩ (Value.ref b :: argsL).toArray) :
    (∃ (v : Option Value) (vm₁ : Vm) (B : Pt), s.WarmedH vm₁ ∧ Stand p l e R s m args below meth c B.U B.locs B.cells B.slots ∧ Post ⟨T.setVm vm₁, locs, cells, slots⟩ (Value.ref b :: argsL).toArray v B ∧
      ∀ target, Steps p.tables e below (B.U.setTop { g with pc := g.pc + 3, stack := v.toList ++ rest }) target → Steps p.tables e below (T.setTop g) target) ∨
    (∃ (q : Addr) (vm₁ : Vm) (B : Pt), s.WarmedH vm₁ ∧ Stand p l e R s m args below meth c B.U B.locs B.cells B.slots ∧ PostX ⟨T.setVm vm₁, locs, cells, slots⟩ (Value.ref b :: argsL).toArray q B ∧
      Steps p.tables e below (T.setTop g) ((B.U.setTop { g with stack := rest }).pushFrame (.throwing q))) := by
  obtain ⟨mk, methM, hnamed, hmethM, hstM, habM⟩ := Cond.instanceMethod_spec hinst
  obtain ⟨m8, methM', cM, hn8, hmethM', -, -, -, -, -, -, hsigM⟩ := Cond.codeWith_spec hcode
  cases Option.some.inj (hn8.symm.trans hnamed)
  cases hmethM.symm.trans hmethM'
  obtain ⟨c2, r2, m2, q1, q2, q3, q4, kP, hkP, hkPi⟩ := Cond.selects_spec hsel
  cases hcls.symm.trans q1
  cases (State.methodFound?_of_named hnamed hy).symm.trans q2
  cases hnamed.symm.trans q3
  have hselP : selectMethod e.platform s.vm cellB.cls mk = .method mk := by rw [Launch.admits_selectMethod X.admits]; exact q4
  obtain ⟨vm₁, X₁, hstep₁⟩ := X.invokevirtual hexec hown hlink hnamed hmethM hstM hkP hkPi hy (a := b) (cell := cellB) hcell
    (fun z h => by rw [h] at hobj; cases hobj) hselP hmethM habM hkP hkPi (g := g) hg (argsL := argsL) (rest := rest) (hlen _ hsigM) hstack hdg
  rcases hK m meth c ⟨T.setVm vm₁, locs, cells, slots⟩ { g with stack := rest } (.invokevirtual index) mk (Value.ref b :: argsL).toArray X₁ hg hsize hdg hW (X₁.named hnamed) (hpre vm₁ X₁.warmed) with ⟨v, B, X', hpost, hsteps⟩ | ⟨q, B, X', hpost, hsteps⟩
  · exact Or.inl ⟨v, vm₁, B, X₁.warmed, X', hpost, fun target h => hstep₁ _ fun acts => by rw [doInvoke_state]; exact hsteps.trans h⟩
  · exact Or.inr ⟨q, vm₁, B, X₁.warmed, X', hpost, hstep₁ _ fun acts => by rw [doInvoke_state]; exact hsteps⟩
theorem vx_callSX (X : Stand p l e R s m args below meth c T locs cells slots) (hexec : p.tables.exec = Jvm.exec) {own : String} {index : Nat} {y : MethodName} {bytes : ByteArray} {maxL : Nat} {ret : Option FieldType} {hh : List (Nat × Nat × Nat × Nat)}
    (hown : s.vm.findClass own = some m.cls) (hlink : (Cond.methodLink own index y).before args s = true) (hstat : (Cond.static y).before args s = true) (hinit : (Cond.initialized y.cls).before args s = true)
    (hcode : (Cond.codeWith y bytes maxL ret hh).before args s = true) (hy : y.cls ≠ "java/lang/invoke/MethodHandle" ∧ y.cls ≠ "java/lang/invoke/VarHandle")
    {W9 : Nat} {Pre : Pt → Array Value → Prop} {Post : Pt → Array Value → Option Value → Pt → Prop} {PostX : Pt → Array Value → Addr → Pt → Prop} (hK : vx_Back l R p e below s args y 3 W9 Pre Post PostX)
    {g : JFrame} (hg : g.method = m) (hsize : g.locals.size = c.maxLocals) {argsL rest : List Value} (hlen : ∀ sig, parseMethodDescriptor y.desc = some sig → argsL.length = sig.parameters.length)
    (hstack : g.stack = argsL.reverse ++ rest) (hW : 2 * g.monitorRoom + (rest.map fun v => v.category).sum ≤ W9) (hdg : decode c.code g.pc = .ok (.invokestatic index, 3))
    (hpre : ∀ vm₁, s.WarmedH vm₁ → Pre ⟨T.setVm vm₁, locs, cells, slots⟩ argsL.toArray) :
    (∃ (v : Option Value) (vm₁ : Vm) (B : Pt), s.WarmedH vm₁ ∧ Stand p l e R s m args below meth c B.U B.locs B.cells B.slots ∧ Post ⟨T.setVm vm₁, locs, cells, slots⟩ argsL.toArray v B ∧
      ∀ target, Steps p.tables e below (B.U.setTop { g with pc := g.pc + 3, stack := v.toList ++ rest }) target → Steps p.tables e below (T.setTop g) target) ∨
    (∃ (q : Addr) (vm₁ : Vm) (B : Pt), s.WarmedH vm₁ ∧ Stand p l e R s m args below meth c B.U B.locs B.cells B.slots ∧ PostX ⟨T.setVm vm₁, locs, cells, slots⟩ argsL.toArray q B ∧
      Steps p.tables e below (T.setTop g) ((B.U.setTop { g with stack := rest }).pushFrame (.throwing q))) := by
  obtain ⟨mk, methM, cM, hnamed, hmethM, -, -, -, -, -, -, hsigM⟩ := Cond.codeWith_spec hcode
  have hstatic : methM.isStatic = true := Cond.static_spec hnamed hmethM hstat
  obtain ⟨kP, hkP, -⟩ := className_of_methodNamed hnamed
  have hinitP : kP.init = .initialized := Cond.initialized_spec (findClass_of_methodNamed hnamed) hkP hinit
  obtain ⟨vm₁, X₁, hstep₁⟩ := X.invokestatic hexec hown hlink hnamed hmethM hstatic hkP hinitP hy (g := g) hg (argsL := argsL) (rest := rest) (hlen _ hsigM) hstack hdg
  rcases hK m meth c ⟨T.setVm vm₁, locs, cells, slots⟩ { g with stack := rest } (.invokestatic index) mk argsL.toArray X₁ hg hsize hdg hW (X₁.named hnamed) (hpre vm₁ X₁.warmed) with ⟨v, B, X', hpost, hsteps⟩ | ⟨q, B, X', hpost, hsteps⟩
  · exact Or.inl ⟨v, vm₁, B, X₁.warmed, X', hpost, fun target h => hstep₁ _ fun acts => by rw [doInvoke_state]; exact hsteps.trans h⟩
  · exact Or.inr ⟨q, vm₁, B, X₁.warmed, X', hpost, hstep₁ _ fun acts => by rw [doInvoke_state]; exact hsteps⟩
theorem vx_callVW (X : Stand p l e R s m args below meth c T locs cells slots) (hexec : p.tables.exec = Jvm.exec) {own C : String} {index : Nat} {y : MethodName} {bytes : ByteArray} {maxL : Nat} {ret : Option FieldType} {hh : List (Nat × Nat × Nat × Nat)}
    (hown : s.vm.findClass own = some m.cls) (hlink : (Cond.methodLink own index y).before args s = true) (hinst : (Cond.instanceMethod y).before args s = true) (hsel : (Cond.selects C y y).before args s = true)
    (hcode : (Cond.codeWith y bytes maxL ret hh).before args s = true) (hy : y.cls ≠ "java/lang/invoke/MethodHandle" ∧ y.cls ≠ "java/lang/invoke/VarHandle")
    {W9 : Nat} {Pre : Pt → Array Value → Prop} {Post : Pt → Array Value → Option Value → Pt → Prop} (hK : Back l R p e below s args y 3 W9 Pre Post)
    {b : Addr} {cellB : Cell} (hcell : T.heap[b]? = some cellB) (hobj : cellB.vm.isStatics = false) (hcls : s.vm.findClass C = some cellB.cls)
    {g : JFrame} (hg : g.method = m) (hsize : g.locals.size = c.maxLocals) {argsL rest : List Value} (hlen : ∀ sig, parseMethodDescriptor y.desc = some sig → argsL.length = sig.parameters.length)
    (hstack : g.stack = argsL.reverse ++ .ref b :: rest) (hW : 2 * g.monitorRoom + (rest.map fun v => v.category).sum ≤ W9) (hdg : decode c.code g.pc = .ok (.invokevirtual index, 3))
    (hpre : ∀ vm₁, s.WarmedH vm₁ → Pre ⟨T.setVm vm₁, locs, cells, slots⟩ (Value.ref b :: argsL).toArray) :
    ∃ (v : Option Value) (vm₁ : Vm) (B : Pt), s.WarmedH vm₁ ∧ Stand p l e R s m args below meth c B.U B.locs B.cells B.slots ∧ Post ⟨T.setVm vm₁, locs, cells, slots⟩ (Value.ref b :: argsL).toArray v B ∧
      ∀ target, Steps p.tables e below (B.U.setTop { g with pc := g.pc + 3, stack := v.toList ++ rest }) target → Steps p.tables e below (T.setTop g) target := by
  obtain ⟨mk, methM, hnamed, hmethM, hstM, habM⟩ := Cond.instanceMethod_spec hinst
  obtain ⟨m8, methM', cM, hn8, hmethM', -, -, -, -, -, -, hsigM⟩ := Cond.codeWith_spec hcode
  cases Option.some.inj (hn8.symm.trans hnamed)
  cases hmethM.symm.trans hmethM'
  obtain ⟨c2, r2, m2, q1, q2, q3, q4, kP, hkP, hkPi⟩ := Cond.selects_spec hsel
  cases hcls.symm.trans q1
  cases (State.methodFound?_of_named hnamed hy).symm.trans q2
  cases hnamed.symm.trans q3
  have hselP : selectMethod e.platform s.vm cellB.cls mk = .method mk := by rw [Launch.admits_selectMethod X.admits]; exact q4
  obtain ⟨vm₁, X₁, hstep₁⟩ := X.invokevirtual hexec hown hlink hnamed hmethM hstM hkP hkPi hy (a := b) (cell := cellB) hcell
    (fun z h => by rw [h] at hobj; cases hobj) hselP hmethM habM hkP hkPi (g := g) hg (argsL := argsL) (rest := rest) (hlen _ hsigM) hstack hdg
  obtain ⟨v, B, X', hpost, hsteps⟩ := hK m meth c ⟨T.setVm vm₁, locs, cells, slots⟩ { g with stack := rest } (.invokevirtual index) mk (Value.ref b :: argsL).toArray X₁ hg hsize hdg hW (X₁.named hnamed) (hpre vm₁ X₁.warmed)
  exact ⟨v, vm₁, B, X₁.warmed, X', hpost, fun target h => hstep₁ _ fun acts => by rw [doInvoke_state]; exact hsteps.trans h⟩
abbrev vx_CVW (R : Room) (s : State) (args : Array Value) (own C : String) (index : Nat) (y : MethodName) (bytes : ByteArray) (maxL : Nat) (ret : Option FieldType) (hh : List (Nat × Nat × Nat × Nat)) (ws : List Cond) (rm : Room) (mc ms n : Nat) : Prop :=
  (rm.cells = mc ∧ rm.slots = ms ∧ rm.frames + 1 ≤ R.frames ∧ 8 + (maxL + 11) + rm.locals ≤ R.locals ∧ (∀ w ∈ ws, ∀ (a' : Array Value) (U : State), s.WarmedH U.vm → w.before a' U = true) ∧ Cond.codeWith y bytes maxL ret hh ∈ ws) ∧
  (Cond.codeWith y bytes maxL ret hh).before args s = true ∧ (Cond.initialized y.cls).before args s = true ∧ (y.cls ≠ "java/lang/invoke/MethodHandle" ∧ y.cls ≠ "java/lang/invoke/VarHandle") ∧
  (∀ sig, parseMethodDescriptor y.desc = some sig → n = sig.parameters.length) ∧ (Cond.methodLink own index y).before args s = true ∧ (Cond.instanceMethod y).before args s = true ∧ (Cond.selects C y y).before args s = true
theorem vx_cwVW {own C : String} {index maxL mc ms : Nat} {y : MethodName} {bytes : ByteArray} {ret : Option FieldType} {hh : List (Nat × Nat × Nat × Nat)} {Ts ws ws' : List Cond} {rm : Room} (n : Nat) (ht : ∀ w ∈ Ts, w.before args s = true) (hT : GoodIn Ts (wsV own index C y ws)) (hw : ws = Cond.codeWith y bytes maxL ret hh :: ws') (hrc : rm.cells = mc) (hrs : rm.slots = ms)
    (hd : y.cls = C ∧ y.cls ≠ "java/lang/invoke/MethodHandle" ∧ y.cls ≠ "java/lang/invoke/VarHandle" ∧ (parseMethodDescriptor y.desc).map (fun d => d.parameters.length) = some n) (hR : rm.frames + 1 ≤ R.frames ∧ 8 + (maxL + 11) + rm.locals ≤ R.locals) :
    vx_CVW R s args own C index y bytes maxL ret hh ws rm mc ms n := by
  obtain ⟨hC, hd⟩ := hd
  subst hC
  have ok : ∀ w ∈ wsV own index y.cls y ws, w.before args s = true := fun w h => ht w (hT w h).1
  have hG : GoodIn Ts ws := fun w h => hT w (by unfold wsV; exact List.mem_append_right _ h)
  have hc : Cond.codeWith y bytes maxL ret hh ∈ ws := by rw [hw]; exact List.mem_cons_self
  refine ⟨⟨hrc, hrs, hR.1, hR.2, pay_in ht hG, hc⟩, ht _ (hG _ hc).1, ok _ (by simp [wsV]), ⟨hd.1, hd.2.1⟩, fun sig h => ?_, ok _ (by simp [wsV]), ok _ (by simp [wsV]), ok _ (by simp [wsV])⟩
  have h2 := hd.2.2
  rw [h] at h2
  exact (Option.some.inj h2).symm
theorem vx_runVW {y : MethodName} {bytes cc : ByteArray} {maxL nL mc ms n index : Nat} {ret : Option FieldType} {hh : List (Nat × Nat × Nat × Nat)} {ws : List Cond} {rm : Room} {Pc : Array Value → State → Prop} {Qc : Array Value → State → Outcome → State → Prop} {free : Addr → Prop} {Ts : List Cond} {own C : String} {b : Addr} {As rest : List Value} {g : JFrame}
    (S : CallFix p m c cc nL s args Ts own) (hM : Met l y ws rm Pc Qc mc ms free) (cw : vx_CVW R s args own C index y bytes maxL ret hh ws rm mc ms n) (hp : PreV s H C b Pc As)
    (hg : g.method = m) (hn : As.length = n) (hsize : g.locals.size = nL) (hstack : g.stack = As.reverse ++ .ref b :: rest) (hW : 2 * g.monitorRoom + (rest.map fun v => v.category).sum ≤ 8) (hdg : decode cc g.pc = .ok (.invokevirtual index, 3)) (hf : cells + mc ≤ R.cells ∧ slots + ms ≤ R.slots) :
    va_Run p l e R s m args below meth c H locs cells slots mc ms g rest (Qc (Value.ref b :: As).toArray) free := by
  obtain ⟨⟨hrc, hrs, hfr, hlo, hws, hcw⟩, hcode, hini, hy, hlen, hl, hin, hse⟩ := cw
  have hK : Back l R p e below s args y 3 8 (PreOf R mc ms Pc) (PostOf Qc mc ms free) := va_backW (hh := hh) (bytes := bytes) (maxL := maxL) (ret := ret) hM hp.1 hrc hrs hfr hlo hws hcw (fun a' U hW => word_at hW (Or.inl (by first | rfl | simp [Cond.onTables, Cond.keeps, Cond.steady])) hini)
  obtain ⟨hx, hb, hml, ho, -⟩ := S
  obtain ⟨-, ⟨cellB, hcB, hoB, hclB⟩, hPc⟩ := hp
  intro T hT X
  obtain ⟨v, vm₁, ⟨U', l2, c2, s2⟩, hW₁, X', ⟨g', mk, t, L, e1, e2, hq, h1, hL, h2, h3⟩, st⟩ := vx_callVW X hx (C := C) (hh := hh) (bytes := bytes) (maxL := maxL) (ret := ret) ho hl hin hse hcode hy hK (by rw [hT]; exact hcB) hoB hclB hg (hsize.trans hml.symm) (argsL := As) (rest := rest) (fun sig h => hn.trans (hlen sig h)) hstack hW (by rw [hb]; exact hdg)
    (fun vm₁ hW₁ => ⟨hf.1, hf.2, hPc (T.setVm vm₁) hT hW₁⟩)
  dsimp only [Pt.U, Pt.locs, Pt.cells, Pt.slots] at X' e1 e2 h1 h2 h3 st
  subst h1; subst h2; subst h3
  exact ⟨v, (T.setVm vm₁).calling g' mk (Value.ref b :: As).toArray, t, U', L, hT, X', hL, e1, e2, hq, st⟩
section
variable {y : MethodName} {bytes cc : ByteArray} {maxL nL mc ms n index : Nat} {ret : Option FieldType} {ws : List Cond} {rm : Room} {Pc : Array Value → State → Prop} {Qc : Array Value → State → Outcome → State → Prop} {XC : String → State → State → Prop} {free : Addr → Prop} {Ts : List Cond} {own C : String} {b : Addr} {As rest : List Value} {g : JFrame}
theorem vx_runVX {hh : List (Nat × Nat × Nat × Nat)} (S : CallFix p m c cc nL s args Ts own) (hM : vx_Met l y ws rm Pc Qc XC mc ms free) (cw : vx_CVW R s args own C index y bytes maxL ret hh ws rm mc ms n) (hp : PreV s H C b Pc As)
    (hg : g.method = m) (hn : As.length = n) (hsize : g.locals.size = nL) (hstack : g.stack = As.reverse ++ .ref b :: rest) (hW : 2 * g.monitorRoom + (rest.map fun v => v.category).sum ≤ 8) (hdg : decode cc g.pc = .ok (.invokevirtual index, 3)) (hf : cells + mc ≤ R.cells ∧ slots + ms ≤ R.slots) :
    vx_Run p l e R s m args below meth c H locs cells slots mc ms g rest (Qc (Value.ref b :: As).toArray) XC free := by
  obtain ⟨⟨hrc, hrs, hfr, hlo, hws, hcw⟩, hcode, hini, hy, hlen, hl, hin, hse⟩ := cw
  have hK : vx_Back l R p e below s args y 3 8 (PreOf R mc ms Pc) (PostOf Qc mc ms free) (vx_Post XC mc ms free) := vx_backW (hh := hh) (bytes := bytes) (maxL := maxL) (ret := ret) hM hp.1 hrc hrs hfr hlo hws hcw (fun a' U hW => word_at hW (Or.inl (by first | rfl | simp [Cond.onTables, Cond.keeps, Cond.steady])) hini)
  obtain ⟨hx, hb, hml, ho, -⟩ := S
  obtain ⟨-, ⟨cellB, hcB, hoB, hclB⟩, hPc⟩ := hp
  intro T hT X
  rcases vx_callVX X hx (C := C) (hh := hh) (bytes := bytes) (maxL := maxL) (ret := ret) ho hl hin hse hcode hy hK (by rw [hT]; exact hcB) hoB hclB hg (hsize.trans hml.symm) (argsL := As) (rest := rest) (fun sig h => hn.trans (hlen sig h)) hstack hW (by rw [hb]; exact hdg)
    (fun vm₁ hW₁ => ⟨hf.1, hf.2, hPc (T.setVm vm₁) hT hW₁⟩) with ⟨v, vm₁, ⟨U', l2, c2, s2⟩, hW₁, X', ⟨g', mk, t, L, e1, e2, hq, h1, hL, h2, h3⟩, st⟩ | ⟨q, vm₁, ⟨U', l2, c2, s2⟩, hW₁, X', ⟨g', mk, t, L, E, ce, e1, e2, hq, hce, hcv, hcl, h1, hL, h2, h3⟩, st⟩
  · dsimp only [Pt.U, Pt.locs, Pt.cells, Pt.slots] at X' e1 e2 h1 h2 h3 st
    subst h1; subst h2; subst h3
    exact Or.inl ⟨v, (T.setVm vm₁).calling g' mk (Value.ref b :: As).toArray, t, U', L, hT, X', hL, e1, e2, hq, st⟩
  · dsimp only [Pt.U, Pt.locs, Pt.cells, Pt.slots] at X' e1 e2 h1 h2 h3 st hcl
    subst h1; subst h2; subst h3
    exact Or.inr ⟨q, (T.setVm vm₁).calling g' mk (Value.ref b :: As).toArray, t, U', L, E, ce, hT, X', hL, e1, e2, hq, hce, hcv, vx_cls hW₁ hcl, st⟩
theorem vx_runSX {hh : List (Nat × Nat × Nat × Nat)} (S : CallFix p m c cc nL s args Ts own) (hM : vx_Met l y ws rm Pc Qc XC mc ms free) (cw : vx_CSW R s args own index y bytes maxL ret hh ws rm mc ms n) (hp : PreS s H Pc As)
    (hg : g.method = m) (hn : As.length = n) (hsize : g.locals.size = nL) (hstack : g.stack = As.reverse ++ rest) (hW : 2 * g.monitorRoom + (rest.map fun v => v.category).sum ≤ 8) (hdg : decode cc g.pc = .ok (.invokestatic index, 3)) (hf : cells + mc ≤ R.cells ∧ slots + ms ≤ R.slots) :
    vx_Run p l e R s m args below meth c H locs cells slots mc ms g rest (Qc As.toArray) XC free := by
  obtain ⟨⟨hrc, hrs, hfr, hlo, hws, hcw⟩, hcode, hini, hy, hlen, hl, hstt⟩ := cw
  have hK : vx_Back l R p e below s args y 3 8 (PreOf R mc ms Pc) (PostOf Qc mc ms free) (vx_Post XC mc ms free) := vx_backW (hh := hh) (bytes := bytes) (maxL := maxL) (ret := ret) hM hp.1 hrc hrs hfr hlo hws hcw (fun a' U hW => word_at hW (Or.inl (by first | rfl | simp [Cond.onTables, Cond.keeps, Cond.steady])) hini)
  obtain ⟨hx, hb, hml, ho, -⟩ := S
  intro T hT X
  rcases vx_callSX X hx (hh := hh) (bytes := bytes) (maxL := maxL) (ret := ret) ho hl hstt hini hcode hy hK hg (hsize.trans hml.symm) (argsL := As) (rest := rest) (fun sig h => hn.trans (hlen sig h)) hstack hW (by rw [hb]; exact hdg)
    (fun vm₁ hW₁ => ⟨hf.1, hf.2, hp.2 (T.setVm vm₁) hT hW₁⟩) with ⟨v, vm₁, ⟨U', l2, c2, s2⟩, hW₁, X', ⟨g', mk, t, L, e1, e2, hq, h1, hL, h2, h3⟩, st⟩ | ⟨q, vm₁, ⟨U', l2, c2, s2⟩, hW₁, X', ⟨g', mk, t, L, E, ce, e1, e2, hq, hce, hcv, hcl, h1, hL, h2, h3⟩, st⟩
  · dsimp only [Pt.U, Pt.locs, Pt.cells, Pt.slots] at X' e1 e2 h1 h2 h3 st
    subst h1; subst h2; subst h3
    exact Or.inl ⟨v, (T.setVm vm₁).calling g' mk As.toArray, t, U', L, hT, X', hL, e1, e2, hq, st⟩
  · dsimp only [Pt.U, Pt.locs, Pt.cells, Pt.slots] at X' e1 e2 h1 h2 h3 st hcl
    subst h1; subst h2; subst h3
    exact Or.inr ⟨q, (T.setVm vm₁).calling g' mk As.toArray, t, U', L, E, ce, hT, X', hL, e1, e2, hq, hce, hcv, vx_cls hW₁ hcl, st⟩
end
end VXH
theorem vx_ofWH {l : Launch} {y : MethodName} {ws ws' : List Cond} {rm : Room} {Pc : Array Value → State → Prop} {Qc : Array Value → State → Outcome → State → Prop} {XC : String → State → State → Prop} {mc ms : Nat} {free : Addr → Prop} {cc : ByteArray} {maxL : Nat} {ret : Option FieldType} {hh : List (Nat × Nat × Nat × Nat)}
    (hy : plainName y.cls = true) (hw : ws = Cond.codeWith y cc maxL ret hh :: ws')
    (body : ∀ p e s m args below meth c s₁, BodyLoose p l y (headSpec ws rm) cc maxL ret e s m args below meth c s₁ → c.maxLocals = maxL → Pc args s →
      W p l e (headSpec ws rm).room s m args below meth c s.heap [] 0 0 (vx_MQ below Qc XC args s mc ms free) (entryFrame m args maxL)) : vx_Met l y ws rm Pc Qc XC mc ms free := by
  refine MetFree.of_bodyS (code := cc) (maxLocals := maxL) (ret := ret) hy ?_ ?_
  · intro args s m h hn
    obtain ⟨m9, meth, c, hn9, h1, h2, h3, h4, -, h5, h6, -⟩ := Cond.codeWith_spec (atoms_spec (ws := ws) h _ (by rw [hw]; exact List.mem_cons_self))
    cases hn.symm.trans hn9
    exact ⟨meth, c, h1, h2, h3, h4, h5, h6⟩
  · intro p e s m args below meth c s₁ B hml hP _
    have hh0 : s₁.heap = s.heap := by rw [B.state]; rfl
    obtain ⟨t, a1, o, b1, b2, b3⟩ := body p e s m args below meth c s₁ B hml hP s₁ hh0 (Stand.of_body B)
    exact ⟨t, o, a1, b1, b2, b3⟩
/-! ===== END ===== -/
end
section
def RX0 : String := "PushBoards$Board"
def TX0 : u_T := fun k => match k with
  | 0 => ("PushBoards$Board", "width", "I", false)
  | 1 => ("PushBoards$Board", "height", "I", false)
  | 2 => ("PushBoards$Board", "floor", "J", false)
  | 3 => ("PushBoards$Board", "goals", "J", false)
  | 4 => ("PushBoards$Board", "live", "J", false)
  | 5 => ("PushBoards$Board", "boxes", "J", false)
  | 6 => ("PushBoards$Board", "person", "J", false)
  | 7 => ("PushBoards$Board", "boxSteps", "[I", true)
  | 8 => ("PushBoards$Board", "liveBesideInRow", "J", false)
  | _ => ("PushBoards$Board", "liveBesideInColumn", "J", false)
def tyX0 : Nat → FieldType := fun k => match k with
  | 0 => .int
  | 1 => .int
  | 2 => .long
  | 3 => .long
  | 4 => .long
  | 5 => .long
  | 6 => .long
  | 7 => .array .int
  | 8 => .long
  | _ => .long
theorem nmX0 : ∀ a, a < 10 → ∀ b, b < 10 → a ≠ b → (TX0 a).2.1 ≠ (TX0 b).2.1 := by decide +kernel
theorem tyX0_ok : ∀ k, k < 10 → parseFieldDescriptor (TX0 k).2.2.1 = some (tyX0 k) := by decide +kernel
abbrev cX0_init : ByteArray := prog_2_method_1_code
def yX0_init : MethodName := ⟨RX0, "<init>", "()V"⟩
abbrev cX0_setUp : ByteArray := prog_2_method_2_code
def yX0_setUp : MethodName := ⟨RX0, "setUp", "(LPushBoards$Picture;)V"⟩
abbrev cX0_isThere : ByteArray := prog_2_method_3_code
def yX0_isThere : MethodName := ⟨RX0, "isThere", "()Z"⟩
abbrev cX0_isDone : ByteArray := prog_2_method_4_code
def yX0_isDone : MethodName := ⟨RX0, "isDone", "(J)Z"⟩
abbrev cX0_cellOf : ByteArray := prog_2_method_5_code
def yX0_cellOf : MethodName := ⟨RX0, "cellOf", "(J)I"⟩
abbrev cX0_signAt : ByteArray := prog_2_method_6_code
def yX0_signAt : MethodName := ⟨RX0, "signAt", "(J)I"⟩
abbrev cX0_go : ByteArray := prog_2_method_7_code
def yX0_go : MethodName := ⟨RX0, "go", "(I)I"⟩
abbrev cX0_goBack : ByteArray := prog_2_method_8_code
def yX0_goBack : MethodName := ⟨RX0, "goBack", "(IZ)V"⟩
abbrev cX0_reachOf : ByteArray := prog_2_method_9_code
def yX0_reachOf : MethodName := ⟨RX0, "reachOf", "(JJ)J"⟩
abbrev cX0_stepsTo : ByteArray := prog_2_method_10_code
def yX0_stepsTo : MethodName := ⟨RX0, "stepsTo", "(J)I"⟩
abbrev cX0_fillBoxSteps : ByteArray := prog_2_method_11_code
def yX0_fillBoxSteps : MethodName := ⟨RX0, "fillBoxSteps", "(J)V"⟩
abbrev cX0_standing : ByteArray := prog_2_method_12_code
def yX0_standing : MethodName := ⟨RX0, "standing", "(J)J"⟩
abbrev cX0_isStuck : ByteArray := prog_2_method_13_code
def yX0_isStuck : MethodName := ⟨RX0, "isStuck", "(J)Z"⟩
abbrev cX0_liveCells : ByteArray := prog_2_method_14_code
def yX0_liveCells : MethodName := ⟨RX0, "liveCells", "()J"⟩
abbrev cX0_rectangle : ByteArray := prog_2_method_15_code
def yX0_rectangle : MethodName := ⟨RX0, "rectangle", "(II)J"⟩
def RX1 : String := "PushBoards$Log"
def TX1 : u_T := fun k => match k with
  | 0 => ("PushBoards$Log", "kept", "I", false)
  | 1 => ("PushBoards$Log", "moves", "I", false)
  | 2 => ("PushBoards$Log", "pushed", "I", false)
  | 3 => ("PushBoards$Log", "marks", "[I", true)
  | _ => ("PushBoards$Log", "end", "I", false)
def tyX1 : Nat → FieldType := fun k => match k with
  | 0 => .int
  | 1 => .int
  | 2 => .int
  | 3 => .array .int
  | _ => .int
theorem nmX1 : ∀ a, a < 5 → ∀ b, b < 5 → a ≠ b → (TX1 a).2.1 ≠ (TX1 b).2.1 := by decide +kernel
theorem tyX1_ok : ∀ k, k < 5 → parseFieldDescriptor (TX1 k).2.2.1 = some (tyX1 k) := by decide +kernel
abbrev cX1_init : ByteArray := prog_3_method_1_code
def yX1_init : MethodName := ⟨RX1, "<init>", "()V"⟩
abbrev cX1_isPush : ByteArray := prog_3_method_2_code
def yX1_isPush : MethodName := ⟨RX1, "isPush", "(I)Z"⟩
abbrev cX1_wayOf : ByteArray := prog_3_method_3_code
def yX1_wayOf : MethodName := ⟨RX1, "wayOf", "(I)I"⟩
abbrev cX1_clear : ByteArray := prog_3_method_4_code
def yX1_clear : MethodName := ⟨RX1, "clear", "()V"⟩
abbrev cX1_add : ByteArray := prog_3_method_5_code
def yX1_add : MethodName := ⟨RX1, "add", "(IZ)V"⟩
abbrev cX1_takeLast : ByteArray := prog_3_method_6_code
def yX1_takeLast : MethodName := ⟨RX1, "takeLast", "()I"⟩
abbrev cX1_letterAt : ByteArray := prog_3_method_7_code
def yX1_letterAt : MethodName := ⟨RX1, "letterAt", "(I)I"⟩
def RX2 : String := "PushBoards$Matching"
def TX2 : u_T := fun k => match k with
  | 0 => ("PushBoards$Matching", "costs", "[I", true)
  | 1 => ("PushBoards$Matching", "goalLevel", "[I", true)
  | 2 => ("PushBoards$Matching", "boxLevel", "[I", true)
  | 3 => ("PushBoards$Matching", "goalOfBox", "[I", true)
  | 4 => ("PushBoards$Matching", "boxBefore", "[I", true)
  | 5 => ("PushBoards$Matching", "slack", "[I", true)
  | _ => ("PushBoards$Matching", "seen", "[Z", true)
def tyX2 : Nat → FieldType := fun k => match k with
  | 0 => .array .int
  | 1 => .array .int
  | 2 => .array .int
  | 3 => .array .int
  | 4 => .array .int
  | 5 => .array .int
  | _ => .array .boolean
theorem nmX2 : ∀ a, a < 7 → ∀ b, b < 7 → a ≠ b → (TX2 a).2.1 ≠ (TX2 b).2.1 := by decide +kernel
theorem tyX2_ok : ∀ k, k < 7 → parseFieldDescriptor (TX2 k).2.2.1 = some (tyX2 k) := by decide +kernel
abbrev cX2_init : ByteArray := prog_4_method_1_code
def yX2_init : MethodName := ⟨RX2, "<init>", "()V"⟩
abbrev cX2_setCost : ByteArray := prog_4_method_2_code
def yX2_setCost : MethodName := ⟨RX2, "setCost", "(III)V"⟩
abbrev cX2_leastSum : ByteArray := prog_4_method_3_code
def yX2_leastSum : MethodName := ⟨RX2, "leastSum", "(II)I"⟩
abbrev cX2_giveBoxTo : ByteArray := prog_4_method_4_code
def yX2_giveBoxTo : MethodName := ⟨RX2, "giveBoxTo", "(II)V"⟩
abbrev cX2_nextBox : ByteArray := prog_4_method_5_code
def yX2_nextBox : MethodName := ⟨RX2, "nextBox", "(II)I"⟩
def RX3 : String := "PushBoards$Picture"
def TX3 : u_T := fun k => match k with
  | 0 => ("PushBoards$Picture", "width", "I", false)
  | 1 => ("PushBoards$Picture", "height", "I", false)
  | 2 => ("PushBoards$Picture", "walls", "J", false)
  | 3 => ("PushBoards$Picture", "goals", "J", false)
  | 4 => ("PushBoards$Picture", "boxes", "J", false)
  | 5 => ("PushBoards$Picture", "person", "J", false)
  | 6 => ("PushBoards$Picture", "x", "I", false)
  | _ => ("PushBoards$Picture", "endedRows", "I", false)
def tyX3 : Nat → FieldType := fun k => match k with
  | 0 => .int
  | 1 => .int
  | 2 => .long
  | 3 => .long
  | 4 => .long
  | 5 => .long
  | 6 => .int
  | _ => .int
theorem nmX3 : ∀ a, a < 8 → ∀ b, b < 8 → a ≠ b → (TX3 a).2.1 ≠ (TX3 b).2.1 := by decide +kernel
theorem tyX3_ok : ∀ k, k < 8 → parseFieldDescriptor (TX3 k).2.2.1 = some (tyX3 k) := by decide +kernel
abbrev cX3_init : ByteArray := prog_5_method_1_code
def yX3_init : MethodName := ⟨RX3, "<init>", "()V"⟩
abbrev cX3_clear : ByteArray := prog_5_method_2_code
def yX3_clear : MethodName := ⟨RX3, "clear", "()V"⟩
abbrev cX3_takes : ByteArray := prog_5_method_3_code
def yX3_takes : MethodName := ⟨RX3, "takes", "(I)Z"⟩
abbrev cX3_isBoard : ByteArray := prog_5_method_4_code
def yX3_isBoard : MethodName := ⟨RX3, "isBoard", "()Z"⟩
abbrev cX3_takesSign : ByteArray := prog_5_method_5_code
def yX3_takesSign : MethodName := ⟨RX3, "takesSign", "(IJ)Z"⟩
abbrev cX3_takesGoal : ByteArray := prog_5_method_6_code
def yX3_takesGoal : MethodName := ⟨RX3, "takesGoal", "(J)Z"⟩
abbrev cX3_takesBox : ByteArray := prog_5_method_7_code
def yX3_takesBox : MethodName := ⟨RX3, "takesBox", "(J)Z"⟩
abbrev cX3_takesPerson : ByteArray := prog_5_method_8_code
def yX3_takesPerson : MethodName := ⟨RX3, "takesPerson", "(J)Z"⟩
def RX4 : String := "PushBoards$Search"
def TX4 : u_T := fun k => match k with
  | 0 => ("PushBoards$Search", "count", "I", false)
  | 1 => ("PushBoards$Search", "length", "I", false)
  | 2 => ("PushBoards$Search", "boxesOf", "[J", false)
  | 3 => ("PushBoards$Search", "lowestOf", "[I", false)
  | 4 => ("PushBoards$Search", "parentOf", "[I", false)
  | 5 => ("PushBoards$Search", "pushOf", "[I", false)
  | 6 => ("PushBoards$Search", "slots", "[I", false)
  | 7 => ("PushBoards$Search", "found", "I", false)
  | _ => ("PushBoards$Search", "overfull", "Z", false)
def tyX4 : Nat → FieldType := fun k => match k with
  | 0 => .int
  | 1 => .int
  | 2 => .array .long
  | 3 => .array .int
  | 4 => .array .int
  | 5 => .array .int
  | 6 => .array .int
  | 7 => .int
  | _ => .boolean
theorem nmX4 : ∀ a, a < 9 → ∀ b, b < 9 → a ≠ b → (TX4 a).2.1 ≠ (TX4 b).2.1 := by decide +kernel
theorem tyX4_ok : ∀ k, k < 9 → parseFieldDescriptor (TX4 k).2.2.1 = some (tyX4 k) := by decide +kernel
abbrev cX4_init : ByteArray := prog_6_method_1_code
def yX4_init : MethodName := ⟨RX4, "<init>", "()V"⟩
abbrev cX4_run : ByteArray := prog_6_method_2_code
def yX4_run : MethodName := ⟨RX4, "run", "(LPushBoards$Board;I)I"⟩
abbrev cX4_pushAt : ByteArray := prog_6_method_3_code
def yX4_pushAt : MethodName := ⟨RX4, "pushAt", "(I)I"⟩
abbrev cX4_pushesTo : ByteArray := prog_6_method_4_code
def yX4_pushesTo : MethodName := ⟨RX4, "pushesTo", "(I)I"⟩
abbrev cX4_pushFrom : ByteArray := prog_6_method_5_code
def yX4_pushFrom : MethodName := ⟨RX4, "pushFrom", "(LPushBoards$Board;II)V"⟩
abbrev cX4_comeTo : ByteArray := prog_6_method_6_code
def yX4_comeTo : MethodName := ⟨RX4, "comeTo", "(LPushBoards$Board;JJIII)V"⟩
abbrev cX4_takeIn : ByteArray := prog_6_method_7_code
def yX4_takeIn : MethodName := ⟨RX4, "takeIn", "(JIII)V"⟩
abbrev cX4_makeRoom : ByteArray := prog_6_method_8_code
def yX4_makeRoom : MethodName := ⟨RX4, "makeRoom", "()V"⟩
abbrev cX4_slotOf : ByteArray := prog_6_method_9_code
def yX4_slotOf : MethodName := ⟨RX4, "slotOf", "(JI)I"⟩
def RX5 : String := "PushBoards"
def TX5 : u_T := fun k => match k with
  | 0 => ("PushBoards", "text", "[I", true)
  | 1 => ("PushBoards", "textLength", "I", false)
  | 2 => ("PushBoards", "drawn", "LPushBoards$Picture;", true)
  | 3 => ("PushBoards", "board", "LPushBoards$Board;", true)
  | 4 => ("PushBoards", "log", "LPushBoards$Log;", true)
  | 5 => ("PushBoards", "matching", "LPushBoards$Matching;", true)
  | _ => ("PushBoards", "latest", "LPushBoards$Search;", true)
def tyX5 : Nat → FieldType := fun k => match k with
  | 0 => .array .int
  | 1 => .int
  | 2 => .object "PushBoards$Picture"
  | 3 => .object "PushBoards$Board"
  | 4 => .object "PushBoards$Log"
  | 5 => .object "PushBoards$Matching"
  | _ => .object "PushBoards$Search"
theorem nmX5 : ∀ a, a < 7 → ∀ b, b < 7 → a ≠ b → (TX5 a).2.1 ≠ (TX5 b).2.1 := by decide +kernel
theorem tyX5_ok : ∀ k, k < 7 → parseFieldDescriptor (TX5 k).2.2.1 = some (tyX5 k) := by decide +kernel
abbrev cX5_init : ByteArray := prog_1_method_1_code
def yX5_init : MethodName := ⟨RX5, "<init>", "()V"⟩
abbrev cX5_unit : ByteArray := prog_1_method_2_code
def yX5_unit : MethodName := ⟨RX5, "unit", "(I)Z"⟩
abbrev cX5_read : ByteArray := prog_1_method_3_code
def yX5_read : MethodName := ⟨RX5, "read", "()I"⟩
abbrev cX5_row : ByteArray := prog_1_method_4_code
def yX5_row : MethodName := ⟨RX5, "row", "()I"⟩
abbrev cX5_move : ByteArray := prog_1_method_5_code
def yX5_move : MethodName := ⟨RX5, "move", "(I)I"⟩
abbrev cX5_undo : ByteArray := prog_1_method_6_code
def yX5_undo : MethodName := ⟨RX5, "undo", "()I"⟩
abbrev cX5_told : ByteArray := prog_1_method_7_code
def yX5_told : MethodName := ⟨RX5, "told", "(I)I"⟩
abbrev cX5_picture : ByteArray := prog_1_method_8_code
def yX5_picture : MethodName := ⟨RX5, "picture", "(I)I"⟩
abbrev cX5_letter : ByteArray := prog_1_method_9_code
def yX5_letter : MethodName := ⟨RX5, "letter", "(I)I"⟩
abbrev cX5_reach : ByteArray := prog_1_method_10_code
def yX5_reach : MethodName := ⟨RX5, "reach", "()I"⟩
abbrev cX5_way : ByteArray := prog_1_method_11_code
def yX5_way : MethodName := ⟨RX5, "way", "(II)I"⟩
abbrev cX5_dead : ByteArray := prog_1_method_12_code
def yX5_dead : MethodName := ⟨RX5, "dead", "(II)Z"⟩
abbrev cX5_fast : ByteArray := prog_1_method_13_code
def yX5_fast : MethodName := ⟨RX5, "fast", "()I"⟩
abbrev cX5_stuck : ByteArray := prog_1_method_14_code
def yX5_stuck : MethodName := ⟨RX5, "stuck", "()Z"⟩
abbrev cX5_bound : ByteArray := prog_1_method_15_code
def yX5_bound : MethodName := ⟨RX5, "bound", "()I"⟩
abbrev cX5_pushes : ByteArray := prog_1_method_16_code
def yX5_pushes : MethodName := ⟨RX5, "pushes", "(IIII)I"⟩
abbrev cX5_search : ByteArray := prog_1_method_17_code
def yX5_search : MethodName := ⟨RX5, "search", "(I)I"⟩
abbrev cX5_push : ByteArray := prog_1_method_18_code
def yX5_push : MethodName := ⟨RX5, "push", "(I)I"⟩
abbrev cX5_states : ByteArray := prog_1_method_19_code
def yX5_states : MethodName := ⟨RX5, "states", "()I"⟩
abbrev cX5_takeText : ByteArray := prog_1_method_20_code
def yX5_takeText : MethodName := ⟨RX5, "takeText", "()I"⟩
abbrev cX5_goOften : ByteArray := prog_1_method_21_code
def yX5_goOften : MethodName := ⟨RX5, "goOften", "(II)I"⟩
abbrev cX5_goOnce : ByteArray := prog_1_method_22_code
def yX5_goOnce : MethodName := ⟨RX5, "goOnce", "(I)I"⟩
abbrev cX5_existing : ByteArray := prog_1_method_23_code
def yX5_existing : MethodName := ⟨RX5, "existing", "(II)J"⟩
abbrev cX5_wayOfLetter : ByteArray := prog_1_method_24_code
def yX5_wayOfLetter : MethodName := ⟨RX5, "wayOfLetter", "(I)I"⟩
abbrev cX5_cellAt : ByteArray := prog_1_method_25_code
def yX5_cellAt : MethodName := ⟨RX5, "cellAt", "(II)J"⟩
abbrev cX5_spotOf : ByteArray := prog_1_method_26_code
def yX5_spotOf : MethodName := ⟨RX5, "spotOf", "(J)I"⟩
abbrev cX5_has : ByteArray := prog_1_method_27_code
def yX5_has : MethodName := ⟨RX5, "has", "(JI)Z"⟩
abbrev cX5_against : ByteArray := prog_1_method_28_code
def yX5_against : MethodName := ⟨RX5, "against", "(I)I"⟩
abbrev cX5_shifted : ByteArray := prog_1_method_29_code
def yX5_shifted : MethodName := ⟨RX5, "shifted", "(JI)J"⟩
def RX6 : String := "PushBoardsModel"
def TX6 : u_T := fun k => match k with
  | 0 => ("PushBoardsModel", "thrown", "I", false)
  | 1 => ("PushBoardsModel", "size", "I", false)
  | 2 => ("PushBoardsModel", "text", "[I", true)
  | 3 => ("PushBoardsModel", "isBoard", "Z", false)
  | 4 => ("PushBoardsModel", "width", "I", false)
  | 5 => ("PushBoardsModel", "height", "I", false)
  | 6 => ("PushBoardsModel", "person", "I", false)
  | 7 => ("PushBoardsModel", "moves", "I", false)
  | 8 => ("PushBoardsModel", "pushes", "I", false)
  | 9 => ("PushBoardsModel", "floor", "J", false)
  | 10 => ("PushBoardsModel", "goals", "J", false)
  | 11 => ("PushBoardsModel", "boxes", "J", false)
  | 12 => ("PushBoardsModel", "newFloor", "J", false)
  | 13 => ("PushBoardsModel", "newGoals", "J", false)
  | 14 => ("PushBoardsModel", "newBoxes", "J", false)
  | 15 => ("PushBoardsModel", "newPerson", "I", false)
  | 16 => ("PushBoardsModel", "newWidth", "I", false)
  | 17 => ("PushBoardsModel", "kept", "I", false)
  | 18 => ("PushBoardsModel", "done", "[I", true)
  | 19 => ("PushBoardsModel", "many", "I", false)
  | 20 => ("PushBoardsModel", "taken", "I", false)
  | 21 => ("PushBoardsModel", "length", "I", false)
  | 22 => ("PushBoardsModel", "stateBoxes", "[J", true)
  | 23 => ("PushBoardsModel", "stateCell", "[I", true)
  | 24 => ("PushBoardsModel", "from", "[I", true)
  | 25 => ("PushBoardsModel", "by", "[I", true)
  | 26 => ("PushBoardsModel", "seats", "[I", true)
  | 27 => ("PushBoardsModel", "path", "[I", true)
  | 28 => ("PushBoardsModel", "far", "[I", true)
  | _ => ("PushBoardsModel", "least", "[I", true)
def tyX6 : Nat → FieldType := fun k => match k with
  | 0 => .int
  | 1 => .int
  | 2 => .array .int
  | 3 => .boolean
  | 4 => .int
  | 5 => .int
  | 6 => .int
  | 7 => .int
  | 8 => .int
  | 9 => .long
  | 10 => .long
  | 11 => .long
  | 12 => .long
  | 13 => .long
  | 14 => .long
  | 15 => .int
  | 16 => .int
  | 17 => .int
  | 18 => .array .int
  | 19 => .int
  | 20 => .int
  | 21 => .int
  | 22 => .array .long
  | 23 => .array .int
  | 24 => .array .int
  | 25 => .array .int
  | 26 => .array .int
  | 27 => .array .int
  | 28 => .array .int
  | _ => .array .int
theorem nmX6 : ∀ a, a < 30 → ∀ b, b < 30 → a ≠ b → (TX6 a).2.1 ≠ (TX6 b).2.1 := by decide +kernel
theorem tyX6_ok : ∀ k, k < 30 → parseFieldDescriptor (TX6 k).2.2.1 = some (tyX6 k) := by decide +kernel
abbrev cX6_init : ByteArray := prog_8_method_1_code
def yX6_init : MethodName := ⟨RX6, "<init>", "()V"⟩
abbrev cX6_thrown : ByteArray := prog_8_method_2_code
def yX6_thrown : MethodName := ⟨RX6, "thrown", "()I"⟩
abbrev cX6_throwsIf : ByteArray := prog_8_method_3_code
def yX6_throwsIf : MethodName := ⟨RX6, "throwsIf", "(IZ)Z"⟩
abbrev cX6_isCell : ByteArray := prog_8_method_4_code
def yX6_isCell : MethodName := ⟨RX6, "isCell", "(II)Z"⟩
abbrev cX6_has : ByteArray := prog_8_method_5_code
def yX6_has : MethodName := ⟨RX6, "has", "(JI)Z"⟩
abbrev cX6_beside : ByteArray := prog_8_method_6_code
def yX6_beside : MethodName := ⟨RX6, "beside", "(II)I"⟩
abbrev cX6_against : ByteArray := prog_8_method_7_code
def yX6_against : MethodName := ⟨RX6, "against", "(I)I"⟩
abbrev cX6_number : ByteArray := prog_8_method_8_code
def yX6_number : MethodName := ⟨RX6, "number", "(I)I"⟩
abbrev cX6_countOf : ByteArray := prog_8_method_9_code
def yX6_countOf : MethodName := ⟨RX6, "countOf", "(J)I"⟩
abbrev cX6_unit : ByteArray := prog_8_method_10_code
def yX6_unit : MethodName := ⟨RX6, "unit", "(I)Z"⟩
abbrev cX6_look : ByteArray := prog_8_method_11_code
def yX6_look : MethodName := ⟨RX6, "look", "()I"⟩
abbrev cX6_read : ByteArray := prog_8_method_12_code
def yX6_read : MethodName := ⟨RX6, "read", "()I"⟩
abbrev cX6_go : ByteArray := prog_8_method_13_code
def yX6_go : MethodName := ⟨RX6, "go", "(I)I"⟩
abbrev cX6_move : ByteArray := prog_8_method_14_code
def yX6_move : MethodName := ⟨RX6, "move", "(I)I"⟩
abbrev cX6_undo : ByteArray := prog_8_method_15_code
def yX6_undo : MethodName := ⟨RX6, "undo", "()I"⟩
abbrev cX6_wayOf : ByteArray := prog_8_method_16_code
def yX6_wayOf : MethodName := ⟨RX6, "wayOf", "(I)I"⟩
abbrev cX6_row : ByteArray := prog_8_method_17_code
def yX6_row : MethodName := ⟨RX6, "row", "()I"⟩
abbrev cX6_isDone : ByteArray := prog_8_method_18_code
def yX6_isDone : MethodName := ⟨RX6, "isDone", "(J)Z"⟩
abbrev cX6_told : ByteArray := prog_8_method_19_code
def yX6_told : MethodName := ⟨RX6, "told", "(I)I"⟩
abbrev cX6_picture : ByteArray := prog_8_method_20_code
def yX6_picture : MethodName := ⟨RX6, "picture", "(I)I"⟩
abbrev cX6_letter : ByteArray := prog_8_method_21_code
def yX6_letter : MethodName := ⟨RX6, "letter", "(I)I"⟩
abbrev cX6_reachOf : ByteArray := prog_8_method_22_code
def yX6_reachOf : MethodName := ⟨RX6, "reachOf", "(IJ)J"⟩
abbrev cX6_reach : ByteArray := prog_8_method_23_code
def yX6_reach : MethodName := ⟨RX6, "reach", "()I"⟩
abbrev cX6_way : ByteArray := prog_8_method_24_code
def yX6_way : MethodName := ⟨RX6, "way", "(II)I"⟩
abbrev cX6_live : ByteArray := prog_8_method_25_code
def yX6_live : MethodName := ⟨RX6, "live", "()J"⟩
abbrev cX6_dead : ByteArray := prog_8_method_26_code
def yX6_dead : MethodName := ⟨RX6, "dead", "(II)Z"⟩
abbrev cX6_canGo : ByteArray := prog_8_method_27_code
def yX6_canGo : MethodName := ⟨RX6, "canGo", "(IIJJ)Z"⟩
abbrev cX6_fastOf : ByteArray := prog_8_method_28_code
def yX6_fastOf : MethodName := ⟨RX6, "fastOf", "(JJ)J"⟩
abbrev cX6_fast : ByteArray := prog_8_method_29_code
def yX6_fast : MethodName := ⟨RX6, "fast", "()I"⟩
abbrev cX6_stuck : ByteArray := prog_8_method_30_code
def yX6_stuck : MethodName := ⟨RX6, "stuck", "()Z"⟩
abbrev cX6_measure : ByteArray := prog_8_method_31_code
def yX6_measure : MethodName := ⟨RX6, "measure", "(I)V"⟩
abbrev cX6_pushes : ByteArray := prog_8_method_32_code
def yX6_pushes : MethodName := ⟨RX6, "pushes", "(IIII)I"⟩
abbrev cX6_goalAt : ByteArray := prog_8_method_33_code
def yX6_goalAt : MethodName := ⟨RX6, "goalAt", "(I)I"⟩
abbrev cX6_bound : ByteArray := prog_8_method_34_code
def yX6_bound : MethodName := ⟨RX6, "bound", "()I"⟩
abbrev cX6_leastOf : ByteArray := prog_8_method_35_code
def yX6_leastOf : MethodName := ⟨RX6, "leastOf", "(J)I"⟩
abbrev cX6_seatOf : ByteArray := prog_8_method_36_code
def yX6_seatOf : MethodName := ⟨RX6, "seatOf", "(JI)I"⟩
abbrev cX6_isNew : ByteArray := prog_8_method_37_code
def yX6_isNew : MethodName := ⟨RX6, "isNew", "(JIII)Z"⟩
abbrev cX6_spread : ByteArray := prog_8_method_38_code
def yX6_spread : MethodName := ⟨RX6, "spread", "(I)I"⟩
abbrev cX6_search : ByteArray := prog_8_method_39_code
def yX6_search : MethodName := ⟨RX6, "search", "(I)I"⟩
abbrev cX6_push : ByteArray := prog_8_method_40_code
def yX6_push : MethodName := ⟨RX6, "push", "(I)I"⟩
abbrev cX6_states : ByteArray := prog_8_method_41_code
def yX6_states : MethodName := ⟨RX6, "states", "()I"⟩
def RJx00060 : String := "java/lang/ArrayIndexOutOfBoundsException"
abbrev cJx00060_init_a7421 : ByteArray := prog_9_method_2_code
def yJx00060_init_a7421 : MethodName := ⟨RJx00060, "<init>", "(Ljava/lang/String;)V"⟩
def RJ13 : String := "java/lang/Long"
abbrev cJ13_bitCount_95d88 : ByteArray := prog_14_method_50_code
def yJ13_bitCount_95d88 : MethodName := ⟨RJ13, "bitCount", "(J)I"⟩
def RJ9 : String := "java/lang/Math"
abbrev cJ9_max_7cf53 : ByteArray := prog_15_method_65_code
def yJ9_max_7cf53 : MethodName := ⟨RJ9, "max", "(II)I"⟩
abbrev cJ9_min_7cf53 : ByteArray := prog_15_method_69_code
def yJ9_min_7cf53 : MethodName := ⟨RJ9, "min", "(II)I"⟩
def RJ0 : String := "java/lang/String"
abbrev cJ0_length_8abf5 : ByteArray := prog_17_method_54_code
def yJ0_length_8abf5 : MethodName := ⟨RJ0, "length", "()I"⟩
abbrev cJ0_charAt_5068e : ByteArray := prog_17_method_56_code
def yJ0_charAt_5068e : MethodName := ⟨RJ0, "charAt", "(I)C"⟩
abbrev cJ0_coder_7d493 : ByteArray := prog_17_method_152_code
def yJ0_coder_7d493 : MethodName := ⟨RJ0, "coder", "()B"⟩
abbrev cJ0_isLatin1_aae02 : ByteArray := prog_17_method_154_code
def yJ0_isLatin1_aae02 : MethodName := ⟨RJ0, "isLatin1", "()Z"⟩
abbrev cJ0_checkIndex_df160 : ByteArray := prog_17_method_155_code
def yJ0_checkIndex_df160 : MethodName := ⟨RJ0, "checkIndex", "(II)V"⟩
def RJ1 : String := "java/lang/StringLatin1"
abbrev cJ1_charAt_3b067 : ByteArray := prog_18_method_2_code
def yJ1_charAt_3b067 : MethodName := ⟨RJ1, "charAt", "([BI)C"⟩
def RJ2 : String := "java/lang/StringUTF16"
abbrev cJ2_getChar_3b067 : ByteArray := prog_19_method_5_code
def yJ2_getChar_3b067 : MethodName := ⟨RJ2, "getChar", "([BI)C"⟩
abbrev cJ2_length_9d52b : ByteArray := prog_19_method_6_code
def yJ2_length_9d52b : MethodName := ⟨RJ2, "length", "([B)I"⟩
abbrev cJ2_charAt_3b067 : ByteArray := prog_19_method_83_code
def yJ2_charAt_3b067 : MethodName := ⟨RJ2, "charAt", "([BI)C"⟩
abbrev cJ2_checkIndex_2214a : ByteArray := prog_19_method_91_code
def yJ2_checkIndex_2214a : MethodName := ⟨RJ2, "checkIndex", "(I[B)V"⟩
def RJ10 : String := "java/lang/System"
def RJ7 : String := "java/util/Arrays"
abbrev cJ7_fill_53178 : ByteArray := prog_22_method_103_code
def yJ7_fill_53178 : MethodName := ⟨RJ7, "fill", "([II)V"⟩
abbrev cJ7_copyOf_59c91 : ByteArray := prog_22_method_123_code
def yJ7_copyOf_59c91 : MethodName := ⟨RJ7, "copyOf", "([II)[I"⟩
abbrev cJ7_copyOf_c38d5 : ByteArray := prog_22_method_124_code
def yJ7_copyOf_c38d5 : MethodName := ⟨RJ7, "copyOf", "([JI)[J"⟩
def RJ3 : String := "jdk/internal/util/Preconditions"
abbrev cJ3_checkIndex_8e157 : ByteArray := prog_23_method_11_code
def yJ3_checkIndex_8e157 : MethodName := ⟨RJ3, "checkIndex", "(IILjava/util/function/BiFunction;)I"⟩
def RL : String := "PushBoardsLaw"
abbrev cL_move : ByteArray := method_3_code
def yL_move : MethodName := ⟨RL, "move", "(LPushBoards;I[J)I"⟩
abbrev cL_way : ByteArray := method_4_code
def yL_way : MethodName := ⟨RL, "way", "(LPushBoards;II[J)I"⟩
abbrev cL_dead : ByteArray := method_5_code
def yL_dead : MethodName := ⟨RL, "dead", "(LPushBoards;II[J)I"⟩
abbrev cL_pushes : ByteArray := method_6_code
def yL_pushes : MethodName := ⟨RL, "pushes", "(LPushBoards;IIII[J)I"⟩
abbrev cL_law : ByteArray := code
def yL_law : MethodName := ⟨RL, "law", "([I)Z"⟩
end
section
theorem dX5_init_0 : decode cX5_init 0 = .ok (.aload_n 0, 1) := by decide +kernel
theorem dX5_init_1 : decode cX5_init 1 = .ok (.invokespecial 1, 3) := by decide +kernel
theorem dX5_init_4 : decode cX5_init 4 = .ok (.aload_n 0, 1) := by decide +kernel
theorem dX5_init_5 : decode cX5_init 5 = .ok (.sipush 160, 3) := by decide +kernel
theorem dX5_init_8 : decode cX5_init 8 = .ok (.newarray .int, 2) := by decide +kernel
theorem dX5_init_10 : decode cX5_init 10 = .ok (.putfield 9, 3) := by decide +kernel
theorem dX5_init_13 : decode cX5_init 13 = .ok (.aload_n 0, 1) := by decide +kernel
theorem dX5_init_14 : decode cX5_init 14 = .ok (.new 13, 3) := by decide +kernel
theorem dX5_init_17 : decode cX5_init 17 = .ok (.dup, 1) := by decide +kernel
theorem dX5_init_18 : decode cX5_init 18 = .ok (.invokespecial 15, 3) := by decide +kernel
theorem dX5_init_21 : decode cX5_init 21 = .ok (.putfield 16, 3) := by decide +kernel
theorem dX5_init_24 : decode cX5_init 24 = .ok (.aload_n 0, 1) := by decide +kernel
theorem dX5_init_25 : decode cX5_init 25 = .ok (.new 20, 3) := by decide +kernel
theorem dX5_init_28 : decode cX5_init 28 = .ok (.dup, 1) := by decide +kernel
theorem dX5_init_29 : decode cX5_init 29 = .ok (.invokespecial 22, 3) := by decide +kernel
theorem dX5_init_32 : decode cX5_init 32 = .ok (.putfield 23, 3) := by decide +kernel
theorem dX5_init_35 : decode cX5_init 35 = .ok (.aload_n 0, 1) := by decide +kernel
theorem dX5_init_36 : decode cX5_init 36 = .ok (.new 27, 3) := by decide +kernel
theorem dX5_init_39 : decode cX5_init 39 = .ok (.dup, 1) := by decide +kernel
theorem dX5_init_40 : decode cX5_init 40 = .ok (.invokespecial 29, 3) := by decide +kernel
theorem dX5_init_43 : decode cX5_init 43 = .ok (.putfield 30, 3) := by decide +kernel
theorem dX5_init_46 : decode cX5_init 46 = .ok (.aload_n 0, 1) := by decide +kernel
theorem dX5_init_47 : decode cX5_init 47 = .ok (.new 34, 3) := by decide +kernel
theorem dX5_init_50 : decode cX5_init 50 = .ok (.dup, 1) := by decide +kernel
theorem dX5_init_51 : decode cX5_init 51 = .ok (.invokespecial 36, 3) := by decide +kernel
theorem dX5_init_54 : decode cX5_init 54 = .ok (.putfield 37, 3) := by decide +kernel
theorem dX5_init_57 : decode cX5_init 57 = .ok (.aload_n 0, 1) := by decide +kernel
theorem dX5_init_58 : decode cX5_init 58 = .ok (.new 41, 3) := by decide +kernel
theorem dX5_init_61 : decode cX5_init 61 = .ok (.dup, 1) := by decide +kernel
theorem dX5_init_62 : decode cX5_init 62 = .ok (.invokespecial 43, 3) := by decide +kernel
theorem dX5_init_65 : decode cX5_init 65 = .ok (.putfield 44, 3) := by decide +kernel
theorem dX5_init_68 : decode cX5_init 68 = .ok (.return_, 1) := by decide +kernel
theorem dX5_unit_0 : decode cX5_unit 0 = .ok (.iload_n 1, 1) := by decide +kernel
theorem dX5_unit_1 : decode cX5_unit 1 = .ok (.ifCond .lt 20, 3) := by decide +kernel
theorem dX5_unit_4 : decode cX5_unit 4 = .ok (.iload_n 1, 1) := by decide +kernel
theorem dX5_unit_5 : decode cX5_unit 5 = .ok (.sipush 255, 3) := by decide +kernel
theorem dX5_unit_8 : decode cX5_unit 8 = .ok (.if_icmp .gt 13, 3) := by decide +kernel
theorem dX5_unit_11 : decode cX5_unit 11 = .ok (.aload_n 0, 1) := by decide +kernel
theorem dX5_unit_12 : decode cX5_unit 12 = .ok (.getfield 48, 3) := by decide +kernel
theorem dX5_unit_15 : decode cX5_unit 15 = .ok (.sipush 160, 3) := by decide +kernel
theorem dX5_unit_18 : decode cX5_unit 18 = .ok (.if_icmp .lt 5, 3) := by decide +kernel
theorem dX5_unit_21 : decode cX5_unit 21 = .ok (.iconst 0, 1) := by decide +kernel
theorem dX5_unit_22 : decode cX5_unit 22 = .ok (.ireturn, 1) := by decide +kernel
theorem dX5_unit_23 : decode cX5_unit 23 = .ok (.aload_n 0, 1) := by decide +kernel
theorem dX5_unit_24 : decode cX5_unit 24 = .ok (.getfield 9, 3) := by decide +kernel
theorem dX5_unit_27 : decode cX5_unit 27 = .ok (.aload_n 0, 1) := by decide +kernel
theorem dX5_unit_28 : decode cX5_unit 28 = .ok (.getfield 48, 3) := by decide +kernel
theorem dX5_unit_31 : decode cX5_unit 31 = .ok (.iload_n 1, 1) := by decide +kernel
theorem dX5_unit_32 : decode cX5_unit 32 = .ok (.iastore, 1) := by decide +kernel
theorem dX5_unit_33 : decode cX5_unit 33 = .ok (.aload_n 0, 1) := by decide +kernel
theorem dX5_unit_34 : decode cX5_unit 34 = .ok (.dup, 1) := by decide +kernel
theorem dX5_unit_35 : decode cX5_unit 35 = .ok (.getfield 48, 3) := by decide +kernel
theorem dX5_unit_38 : decode cX5_unit 38 = .ok (.iconst 1, 1) := by decide +kernel
theorem dX5_unit_39 : decode cX5_unit 39 = .ok (.iadd, 1) := by decide +kernel
theorem dX5_unit_40 : decode cX5_unit 40 = .ok (.putfield 48, 3) := by decide +kernel
theorem dX5_unit_43 : decode cX5_unit 43 = .ok (.iconst 1, 1) := by decide +kernel
theorem dX5_unit_44 : decode cX5_unit 44 = .ok (.ireturn, 1) := by decide +kernel
theorem dX5_read_0 : decode cX5_read 0 = .ok (.aload_n 0, 1) := by decide +kernel
theorem dX5_read_1 : decode cX5_read 1 = .ok (.invokevirtual 52, 3) := by decide +kernel
theorem dX5_read_4 : decode cX5_read 4 = .ok (.istore_n 1, 1) := by decide +kernel
theorem dX5_read_5 : decode cX5_read 5 = .ok (.aload_n 0, 1) := by decide +kernel
theorem dX5_read_6 : decode cX5_read 6 = .ok (.getfield 16, 3) := by decide +kernel
theorem dX5_read_9 : decode cX5_read 9 = .ok (.invokevirtual 56, 3) := by decide +kernel
theorem dX5_read_12 : decode cX5_read 12 = .ok (.iconst 0, 1) := by decide +kernel
theorem dX5_read_13 : decode cX5_read 13 = .ok (.istore_n 2, 1) := by decide +kernel
theorem dX5_read_14 : decode cX5_read 14 = .ok (.iload_n 2, 1) := by decide +kernel
theorem dX5_read_15 : decode cX5_read 15 = .ok (.iload_n 1, 1) := by decide +kernel
theorem dX5_read_16 : decode cX5_read 16 = .ok (.if_icmp .ge 29, 3) := by decide +kernel
theorem dX5_read_19 : decode cX5_read 19 = .ok (.aload_n 0, 1) := by decide +kernel
theorem dX5_read_20 : decode cX5_read 20 = .ok (.getfield 16, 3) := by decide +kernel
theorem dX5_read_23 : decode cX5_read 23 = .ok (.aload_n 0, 1) := by decide +kernel
theorem dX5_read_24 : decode cX5_read 24 = .ok (.getfield 9, 3) := by decide +kernel
theorem dX5_read_27 : decode cX5_read 27 = .ok (.iload_n 2, 1) := by decide +kernel
theorem dX5_read_28 : decode cX5_read 28 = .ok (.iaload, 1) := by decide +kernel
theorem dX5_read_29 : decode cX5_read 29 = .ok (.invokevirtual 59, 3) := by decide +kernel
theorem dX5_read_32 : decode cX5_read 32 = .ok (.ifCond .ne 7, 3) := by decide +kernel
theorem dX5_read_35 : decode cX5_read 35 = .ok (.iconst (-1), 1) := by decide +kernel
theorem dX5_read_36 : decode cX5_read 36 = .ok (.iload_n 2, 1) := by decide +kernel
theorem dX5_read_37 : decode cX5_read 37 = .ok (.isub, 1) := by decide +kernel
theorem dX5_read_38 : decode cX5_read 38 = .ok (.ireturn, 1) := by decide +kernel
theorem dX5_read_39 : decode cX5_read 39 = .ok (.iinc 2 1, 3) := by decide +kernel
theorem dX5_read_42 : decode cX5_read 42 = .ok (.goto (-28), 3) := by decide +kernel
theorem dX5_read_45 : decode cX5_read 45 = .ok (.aload_n 0, 1) := by decide +kernel
theorem dX5_read_46 : decode cX5_read 46 = .ok (.getfield 16, 3) := by decide +kernel
theorem dX5_read_49 : decode cX5_read 49 = .ok (.invokevirtual 63, 3) := by decide +kernel
theorem dX5_read_52 : decode cX5_read 52 = .ok (.ifCond .ne 7, 3) := by decide +kernel
theorem dX5_read_55 : decode cX5_read 55 = .ok (.sipush (-200), 3) := by decide +kernel
theorem dX5_read_58 : decode cX5_read 58 = .ok (.ireturn, 1) := by decide +kernel
theorem dX5_read_59 : decode cX5_read 59 = .ok (.aload_n 0, 1) := by decide +kernel
theorem dX5_read_60 : decode cX5_read 60 = .ok (.getfield 23, 3) := by decide +kernel
theorem dX5_read_63 : decode cX5_read 63 = .ok (.aload_n 0, 1) := by decide +kernel
theorem dX5_read_64 : decode cX5_read 64 = .ok (.getfield 16, 3) := by decide +kernel
theorem dX5_read_67 : decode cX5_read 67 = .ok (.invokevirtual 67, 3) := by decide +kernel
theorem dX5_read_70 : decode cX5_read 70 = .ok (.aload_n 0, 1) := by decide +kernel
theorem dX5_read_71 : decode cX5_read 71 = .ok (.getfield 30, 3) := by decide +kernel
theorem dX5_read_74 : decode cX5_read 74 = .ok (.invokevirtual 71, 3) := by decide +kernel
theorem dX5_read_77 : decode cX5_read 77 = .ok (.aload_n 0, 1) := by decide +kernel
theorem dX5_read_78 : decode cX5_read 78 = .ok (.getfield 23, 3) := by decide +kernel
theorem dX5_read_81 : decode cX5_read 81 = .ok (.getfield 72, 3) := by decide +kernel
theorem dX5_read_84 : decode cX5_read 84 = .ok (.invokestatic 76, 3) := by decide +kernel
theorem dX5_read_87 : decode cX5_read 87 = .ok (.ireturn, 1) := by decide +kernel
theorem dX5_row_0 : decode cX5_row 0 = .ok (.aload_n 0, 1) := by decide +kernel
theorem dX5_row_1 : decode cX5_row 1 = .ok (.invokevirtual 52, 3) := by decide +kernel
theorem dX5_row_4 : decode cX5_row 4 = .ok (.istore_n 1, 1) := by decide +kernel
theorem dX5_row_5 : decode cX5_row 5 = .ok (.iconst 0, 1) := by decide +kernel
theorem dX5_row_6 : decode cX5_row 6 = .ok (.istore_n 2, 1) := by decide +kernel
theorem dX5_row_7 : decode cX5_row 7 = .ok (.iconst 0, 1) := by decide +kernel
theorem dX5_row_8 : decode cX5_row 8 = .ok (.istore_n 3, 1) := by decide +kernel
theorem dX5_row_9 : decode cX5_row 9 = .ok (.iconst 0, 1) := by decide +kernel
theorem dX5_row_10 : decode cX5_row 10 = .ok (.istore 4, 2) := by decide +kernel
theorem dX5_row_12 : decode cX5_row 12 = .ok (.iload 4, 2) := by decide +kernel
theorem dX5_row_14 : decode cX5_row 14 = .ok (.iload_n 1, 1) := by decide +kernel
theorem dX5_row_15 : decode cX5_row 15 = .ok (.if_icmp .ge 84, 3) := by decide +kernel
theorem dX5_row_18 : decode cX5_row 18 = .ok (.aload_n 0, 1) := by decide +kernel
theorem dX5_row_19 : decode cX5_row 19 = .ok (.getfield 9, 3) := by decide +kernel
theorem dX5_row_22 : decode cX5_row 22 = .ok (.iload 4, 2) := by decide +kernel
theorem dX5_row_24 : decode cX5_row 24 = .ok (.iaload, 1) := by decide +kernel
theorem dX5_row_25 : decode cX5_row 25 = .ok (.istore 5, 2) := by decide +kernel
theorem dX5_row_27 : decode cX5_row 27 = .ok (.iload_n 3, 1) := by decide +kernel
theorem dX5_row_28 : decode cX5_row 28 = .ok (.ifCond .ne 26, 3) := by decide +kernel
theorem dX5_row_31 : decode cX5_row 31 = .ok (.iload 5, 2) := by decide +kernel
theorem dX5_row_33 : decode cX5_row 33 = .ok (.bipush 50, 2) := by decide +kernel
theorem dX5_row_35 : decode cX5_row 35 = .ok (.if_icmp .lt 19, 3) := by decide +kernel
theorem dX5_row_38 : decode cX5_row 38 = .ok (.iload 5, 2) := by decide +kernel
theorem dX5_row_40 : decode cX5_row 40 = .ok (.bipush 57, 2) := by decide +kernel
theorem dX5_row_42 : decode cX5_row 42 = .ok (.if_icmp .gt 12, 3) := by decide +kernel
theorem dX5_row_45 : decode cX5_row 45 = .ok (.iload 5, 2) := by decide +kernel
theorem dX5_row_47 : decode cX5_row 47 = .ok (.bipush 48, 2) := by decide +kernel
theorem dX5_row_49 : decode cX5_row 49 = .ok (.isub, 1) := by decide +kernel
theorem dX5_row_50 : decode cX5_row 50 = .ok (.istore_n 3, 1) := by decide +kernel
theorem dX5_row_51 : decode cX5_row 51 = .ok (.goto 42, 3) := by decide +kernel
theorem dX5_row_54 : decode cX5_row 54 = .ok (.iload_n 3, 1) := by decide +kernel
theorem dX5_row_55 : decode cX5_row 55 = .ok (.iconst 1, 1) := by decide +kernel
theorem dX5_row_56 : decode cX5_row 56 = .ok (.invokestatic 82, 3) := by decide +kernel
theorem dX5_row_59 : decode cX5_row 59 = .ok (.istore 6, 2) := by decide +kernel
theorem dX5_row_61 : decode cX5_row 61 = .ok (.aload_n 0, 1) := by decide +kernel
theorem dX5_row_62 : decode cX5_row 62 = .ok (.iload 5, 2) := by decide +kernel
theorem dX5_row_64 : decode cX5_row 64 = .ok (.invokestatic 88, 3) := by decide +kernel
theorem dX5_row_67 : decode cX5_row 67 = .ok (.iload 6, 2) := by decide +kernel
theorem dX5_row_69 : decode cX5_row 69 = .ok (.invokevirtual 92, 3) := by decide +kernel
theorem dX5_row_72 : decode cX5_row 72 = .ok (.istore 7, 2) := by decide +kernel
theorem dX5_row_74 : decode cX5_row 74 = .ok (.iload 7, 2) := by decide +kernel
theorem dX5_row_76 : decode cX5_row 76 = .ok (.iload 6, 2) := by decide +kernel
theorem dX5_row_78 : decode cX5_row 78 = .ok (.if_icmp .ge 8, 3) := by decide +kernel
theorem dX5_row_81 : decode cX5_row 81 = .ok (.iconst (-1), 1) := by decide +kernel
theorem dX5_row_82 : decode cX5_row 82 = .ok (.iload 4, 2) := by decide +kernel
theorem dX5_row_84 : decode cX5_row 84 = .ok (.isub, 1) := by decide +kernel
theorem dX5_row_85 : decode cX5_row 85 = .ok (.ireturn, 1) := by decide +kernel
theorem dX5_row_86 : decode cX5_row 86 = .ok (.iload_n 2, 1) := by decide +kernel
theorem dX5_row_87 : decode cX5_row 87 = .ok (.iload 7, 2) := by decide +kernel
theorem dX5_row_89 : decode cX5_row 89 = .ok (.iadd, 1) := by decide +kernel
theorem dX5_row_90 : decode cX5_row 90 = .ok (.istore_n 2, 1) := by decide +kernel
theorem dX5_row_91 : decode cX5_row 91 = .ok (.iconst 0, 1) := by decide +kernel
theorem dX5_row_92 : decode cX5_row 92 = .ok (.istore_n 3, 1) := by decide +kernel
theorem dX5_row_93 : decode cX5_row 93 = .ok (.iinc 4 1, 3) := by decide +kernel
theorem dX5_row_96 : decode cX5_row 96 = .ok (.goto (-84), 3) := by decide +kernel
theorem dX5_row_99 : decode cX5_row 99 = .ok (.iload_n 3, 1) := by decide +kernel
theorem dX5_row_100 : decode cX5_row 100 = .ok (.ifCond .ne 7, 3) := by decide +kernel
theorem dX5_row_103 : decode cX5_row 103 = .ok (.iload_n 2, 1) := by decide +kernel
theorem dX5_row_104 : decode cX5_row 104 = .ok (.goto 6, 3) := by decide +kernel
theorem dX5_row_107 : decode cX5_row 107 = .ok (.iconst (-1), 1) := by decide +kernel
theorem dX5_row_108 : decode cX5_row 108 = .ok (.iload_n 1, 1) := by decide +kernel
theorem dX5_row_109 : decode cX5_row 109 = .ok (.isub, 1) := by decide +kernel
theorem dX5_row_110 : decode cX5_row 110 = .ok (.ireturn, 1) := by decide +kernel
theorem dX5_move_0 : decode cX5_move 0 = .ok (.aload_n 0, 1) := by decide +kernel
theorem dX5_move_1 : decode cX5_move 1 = .ok (.getfield 23, 3) := by decide +kernel
theorem dX5_move_4 : decode cX5_move 4 = .ok (.invokevirtual 95, 3) := by decide +kernel
theorem dX5_move_7 : decode cX5_move 7 = .ok (.ifCond .ne 13, 3) := by decide +kernel
theorem dX5_move_10 : decode cX5_move 10 = .ok (.new 98, 3) := by decide +kernel
theorem dX5_move_13 : decode cX5_move 13 = .ok (.dup, 1) := by decide +kernel
theorem dX5_move_14 : decode cX5_move 14 = .ok (.ldc 100, 2) := by decide +kernel
theorem dX5_move_16 : decode cX5_move 16 = .ok (.invokespecial 102, 3) := by decide +kernel
theorem dX5_move_19 : decode cX5_move 19 = .ok (.athrow, 1) := by decide +kernel
theorem dX5_move_20 : decode cX5_move 20 = .ok (.iload_n 1, 1) := by decide +kernel
theorem dX5_move_21 : decode cX5_move 21 = .ok (.ifCond .lt 8, 3) := by decide +kernel
theorem dX5_move_24 : decode cX5_move 24 = .ok (.iload_n 1, 1) := by decide +kernel
theorem dX5_move_25 : decode cX5_move 25 = .ok (.iconst 4, 1) := by decide +kernel
theorem dX5_move_26 : decode cX5_move 26 = .ok (.if_icmp .lt 13, 3) := by decide +kernel
theorem dX5_move_29 : decode cX5_move 29 = .ok (.new 105, 3) := by decide +kernel
theorem dX5_move_32 : decode cX5_move 32 = .ok (.dup, 1) := by decide +kernel
theorem dX5_move_33 : decode cX5_move 33 = .ok (.ldc 107, 2) := by decide +kernel
theorem dX5_move_35 : decode cX5_move 35 = .ok (.invokespecial 109, 3) := by decide +kernel
theorem dX5_move_38 : decode cX5_move 38 = .ok (.athrow, 1) := by decide +kernel
theorem dX5_move_39 : decode cX5_move 39 = .ok (.aload_n 0, 1) := by decide +kernel
theorem dX5_move_40 : decode cX5_move 40 = .ok (.iload_n 1, 1) := by decide +kernel
theorem dX5_move_41 : decode cX5_move 41 = .ok (.invokevirtual 110, 3) := by decide +kernel
theorem dX5_move_44 : decode cX5_move 44 = .ok (.ireturn, 1) := by decide +kernel
theorem dX5_undo_0 : decode cX5_undo 0 = .ok (.aload_n 0, 1) := by decide +kernel
theorem dX5_undo_1 : decode cX5_undo 1 = .ok (.getfield 30, 3) := by decide +kernel
theorem dX5_undo_4 : decode cX5_undo 4 = .ok (.getfield 113, 3) := by decide +kernel
theorem dX5_undo_7 : decode cX5_undo 7 = .ok (.ifCond .ne 5, 3) := by decide +kernel
theorem dX5_undo_10 : decode cX5_undo 10 = .ok (.iconst 0, 1) := by decide +kernel
theorem dX5_undo_11 : decode cX5_undo 11 = .ok (.ireturn, 1) := by decide +kernel
theorem dX5_undo_12 : decode cX5_undo 12 = .ok (.aload_n 0, 1) := by decide +kernel
theorem dX5_undo_13 : decode cX5_undo 13 = .ok (.getfield 30, 3) := by decide +kernel
theorem dX5_undo_16 : decode cX5_undo 16 = .ok (.invokevirtual 116, 3) := by decide +kernel
theorem dX5_undo_19 : decode cX5_undo 19 = .ok (.istore_n 1, 1) := by decide +kernel
theorem dX5_undo_20 : decode cX5_undo 20 = .ok (.iload_n 1, 1) := by decide +kernel
theorem dX5_undo_21 : decode cX5_undo 21 = .ok (.invokestatic 119, 3) := by decide +kernel
theorem dX5_undo_24 : decode cX5_undo 24 = .ok (.istore_n 2, 1) := by decide +kernel
theorem dX5_undo_25 : decode cX5_undo 25 = .ok (.aload_n 0, 1) := by decide +kernel
theorem dX5_undo_26 : decode cX5_undo 26 = .ok (.getfield 23, 3) := by decide +kernel
theorem dX5_undo_29 : decode cX5_undo 29 = .ok (.iload_n 1, 1) := by decide +kernel
theorem dX5_undo_30 : decode cX5_undo 30 = .ok (.invokestatic 122, 3) := by decide +kernel
theorem dX5_undo_33 : decode cX5_undo 33 = .ok (.iload_n 2, 1) := by decide +kernel
theorem dX5_undo_34 : decode cX5_undo 34 = .ok (.invokevirtual 125, 3) := by decide +kernel
theorem dX5_undo_37 : decode cX5_undo 37 = .ok (.iload_n 2, 1) := by decide +kernel
theorem dX5_undo_38 : decode cX5_undo 38 = .ok (.ifCond .eq 7, 3) := by decide +kernel
theorem dX5_undo_41 : decode cX5_undo 41 = .ok (.iconst 2, 1) := by decide +kernel
theorem dX5_undo_42 : decode cX5_undo 42 = .ok (.goto 4, 3) := by decide +kernel
theorem dX5_undo_45 : decode cX5_undo 45 = .ok (.iconst 1, 1) := by decide +kernel
theorem dX5_undo_46 : decode cX5_undo 46 = .ok (.ireturn, 1) := by decide +kernel
theorem dX5_told_0 : decode cX5_told 0 = .ok (.iload_n 1, 1) := by decide +kernel
theorem dX5_told_1 : decode cX5_told 1 = .ok (.tableswitch 186 0 8 #[51, 59, 67, 78, 89, 108, 116, 124, 153], 51) := by decide +kernel
theorem dX5_told_52 : decode cX5_told 52 = .ok (.aload_n 0, 1) := by decide +kernel
theorem dX5_told_53 : decode cX5_told 53 = .ok (.getfield 23, 3) := by decide +kernel
theorem dX5_told_56 : decode cX5_told 56 = .ok (.getfield 129, 3) := by decide +kernel
theorem dX5_told_59 : decode cX5_told 59 = .ok (.ireturn, 1) := by decide +kernel
theorem dX5_told_60 : decode cX5_told 60 = .ok (.aload_n 0, 1) := by decide +kernel
theorem dX5_told_61 : decode cX5_told 61 = .ok (.getfield 23, 3) := by decide +kernel
theorem dX5_told_64 : decode cX5_told 64 = .ok (.getfield 132, 3) := by decide +kernel
theorem dX5_told_67 : decode cX5_told 67 = .ok (.ireturn, 1) := by decide +kernel
theorem dX5_told_68 : decode cX5_told 68 = .ok (.aload_n 0, 1) := by decide +kernel
theorem dX5_told_69 : decode cX5_told 69 = .ok (.getfield 23, 3) := by decide +kernel
theorem dX5_told_72 : decode cX5_told 72 = .ok (.getfield 72, 3) := by decide +kernel
theorem dX5_told_75 : decode cX5_told 75 = .ok (.invokestatic 76, 3) := by decide +kernel
theorem dX5_told_78 : decode cX5_told 78 = .ok (.ireturn, 1) := by decide +kernel
theorem dX5_told_79 : decode cX5_told 79 = .ok (.aload_n 0, 1) := by decide +kernel
theorem dX5_told_80 : decode cX5_told 80 = .ok (.getfield 23, 3) := by decide +kernel
theorem dX5_told_83 : decode cX5_told 83 = .ok (.getfield 135, 3) := by decide +kernel
theorem dX5_told_86 : decode cX5_told 86 = .ok (.invokestatic 76, 3) := by decide +kernel
theorem dX5_told_89 : decode cX5_told 89 = .ok (.ireturn, 1) := by decide +kernel
theorem dX5_told_90 : decode cX5_told 90 = .ok (.aload_n 0, 1) := by decide +kernel
theorem dX5_told_91 : decode cX5_told 91 = .ok (.getfield 23, 3) := by decide +kernel
theorem dX5_told_94 : decode cX5_told 94 = .ok (.getfield 72, 3) := by decide +kernel
theorem dX5_told_97 : decode cX5_told 97 = .ok (.aload_n 0, 1) := by decide +kernel
theorem dX5_told_98 : decode cX5_told 98 = .ok (.getfield 23, 3) := by decide +kernel
theorem dX5_told_101 : decode cX5_told 101 = .ok (.getfield 135, 3) := by decide +kernel
theorem dX5_told_104 : decode cX5_told 104 = .ok (.land, 1) := by decide +kernel
theorem dX5_told_105 : decode cX5_told 105 = .ok (.invokestatic 76, 3) := by decide +kernel
theorem dX5_told_108 : decode cX5_told 108 = .ok (.ireturn, 1) := by decide +kernel
theorem dX5_told_109 : decode cX5_told 109 = .ok (.aload_n 0, 1) := by decide +kernel
theorem dX5_told_110 : decode cX5_told 110 = .ok (.getfield 30, 3) := by decide +kernel
theorem dX5_told_113 : decode cX5_told 113 = .ok (.getfield 138, 3) := by decide +kernel
theorem dX5_told_116 : decode cX5_told 116 = .ok (.ireturn, 1) := by decide +kernel
theorem dX5_told_117 : decode cX5_told 117 = .ok (.aload_n 0, 1) := by decide +kernel
theorem dX5_told_118 : decode cX5_told 118 = .ok (.getfield 30, 3) := by decide +kernel
theorem dX5_told_121 : decode cX5_told 121 = .ok (.getfield 141, 3) := by decide +kernel
theorem dX5_told_124 : decode cX5_told 124 = .ok (.ireturn, 1) := by decide +kernel
theorem dX5_told_125 : decode cX5_told 125 = .ok (.aload_n 0, 1) := by decide +kernel
theorem dX5_told_126 : decode cX5_told 126 = .ok (.getfield 23, 3) := by decide +kernel
theorem dX5_told_129 : decode cX5_told 129 = .ok (.invokevirtual 95, 3) := by decide +kernel
theorem dX5_told_132 : decode cX5_told 132 = .ok (.ifCond .eq 20, 3) := by decide +kernel
theorem dX5_told_135 : decode cX5_told 135 = .ok (.aload_n 0, 1) := by decide +kernel
theorem dX5_told_136 : decode cX5_told 136 = .ok (.getfield 23, 3) := by decide +kernel
theorem dX5_told_139 : decode cX5_told 139 = .ok (.aload_n 0, 1) := by decide +kernel
theorem dX5_told_140 : decode cX5_told 140 = .ok (.getfield 23, 3) := by decide +kernel
theorem dX5_told_143 : decode cX5_told 143 = .ok (.getfield 144, 3) := by decide +kernel
theorem dX5_told_146 : decode cX5_told 146 = .ok (.invokevirtual 147, 3) := by decide +kernel
theorem dX5_told_149 : decode cX5_told 149 = .ok (.goto 4, 3) := by decide +kernel
theorem dX5_told_152 : decode cX5_told 152 = .ok (.iconst (-1), 1) := by decide +kernel
theorem dX5_told_153 : decode cX5_told 153 = .ok (.ireturn, 1) := by decide +kernel
theorem dX5_told_154 : decode cX5_told 154 = .ok (.aload_n 0, 1) := by decide +kernel
theorem dX5_told_155 : decode cX5_told 155 = .ok (.getfield 23, 3) := by decide +kernel
theorem dX5_told_158 : decode cX5_told 158 = .ok (.invokevirtual 95, 3) := by decide +kernel
theorem dX5_told_161 : decode cX5_told 161 = .ok (.ifCond .eq 24, 3) := by decide +kernel
theorem dX5_told_164 : decode cX5_told 164 = .ok (.aload_n 0, 1) := by decide +kernel
theorem dX5_told_165 : decode cX5_told 165 = .ok (.getfield 23, 3) := by decide +kernel
theorem dX5_told_168 : decode cX5_told 168 = .ok (.aload_n 0, 1) := by decide +kernel
theorem dX5_told_169 : decode cX5_told 169 = .ok (.getfield 23, 3) := by decide +kernel
theorem dX5_told_172 : decode cX5_told 172 = .ok (.getfield 72, 3) := by decide +kernel
theorem dX5_told_175 : decode cX5_told 175 = .ok (.invokevirtual 150, 3) := by decide +kernel
theorem dX5_told_178 : decode cX5_told 178 = .ok (.ifCond .eq 7, 3) := by decide +kernel
theorem dX5_told_181 : decode cX5_told 181 = .ok (.iconst 1, 1) := by decide +kernel
theorem dX5_told_182 : decode cX5_told 182 = .ok (.goto 4, 3) := by decide +kernel
theorem dX5_told_185 : decode cX5_told 185 = .ok (.iconst 0, 1) := by decide +kernel
theorem dX5_told_186 : decode cX5_told 186 = .ok (.ireturn, 1) := by decide +kernel
theorem dX5_told_187 : decode cX5_told 187 = .ok (.iconst (-1), 1) := by decide +kernel
theorem dX5_told_188 : decode cX5_told 188 = .ok (.ireturn, 1) := by decide +kernel
theorem dX5_picture_0 : decode cX5_picture 0 = .ok (.aload_n 0, 1) := by decide +kernel
theorem dX5_picture_1 : decode cX5_picture 1 = .ok (.getfield 23, 3) := by decide +kernel
theorem dX5_picture_4 : decode cX5_picture 4 = .ok (.getfield 129, 3) := by decide +kernel
theorem dX5_picture_7 : decode cX5_picture 7 = .ok (.iconst 1, 1) := by decide +kernel
theorem dX5_picture_8 : decode cX5_picture 8 = .ok (.iadd, 1) := by decide +kernel
theorem dX5_picture_9 : decode cX5_picture 9 = .ok (.istore_n 2, 1) := by decide +kernel
theorem dX5_picture_10 : decode cX5_picture 10 = .ok (.iload_n 1, 1) := by decide +kernel
theorem dX5_picture_11 : decode cX5_picture 11 = .ok (.ifCond .lt 16, 3) := by decide +kernel
theorem dX5_picture_14 : decode cX5_picture 14 = .ok (.iload_n 1, 1) := by decide +kernel
theorem dX5_picture_15 : decode cX5_picture 15 = .ok (.iload_n 2, 1) := by decide +kernel
theorem dX5_picture_16 : decode cX5_picture 16 = .ok (.aload_n 0, 1) := by decide +kernel
theorem dX5_picture_17 : decode cX5_picture 17 = .ok (.getfield 23, 3) := by decide +kernel
theorem dX5_picture_20 : decode cX5_picture 20 = .ok (.getfield 132, 3) := by decide +kernel
theorem dX5_picture_23 : decode cX5_picture 23 = .ok (.imul, 1) := by decide +kernel
theorem dX5_picture_24 : decode cX5_picture 24 = .ok (.if_icmp .lt 5, 3) := by decide +kernel
theorem dX5_picture_27 : decode cX5_picture 27 = .ok (.iconst (-1), 1) := by decide +kernel
theorem dX5_picture_28 : decode cX5_picture 28 = .ok (.ireturn, 1) := by decide +kernel
theorem dX5_picture_29 : decode cX5_picture 29 = .ok (.iload_n 1, 1) := by decide +kernel
theorem dX5_picture_30 : decode cX5_picture 30 = .ok (.iload_n 2, 1) := by decide +kernel
theorem dX5_picture_31 : decode cX5_picture 31 = .ok (.irem, 1) := by decide +kernel
theorem dX5_picture_32 : decode cX5_picture 32 = .ok (.istore_n 3, 1) := by decide +kernel
theorem dX5_picture_33 : decode cX5_picture 33 = .ok (.iload_n 3, 1) := by decide +kernel
theorem dX5_picture_34 : decode cX5_picture 34 = .ok (.aload_n 0, 1) := by decide +kernel
theorem dX5_picture_35 : decode cX5_picture 35 = .ok (.getfield 23, 3) := by decide +kernel
theorem dX5_picture_38 : decode cX5_picture 38 = .ok (.getfield 129, 3) := by decide +kernel
theorem dX5_picture_41 : decode cX5_picture 41 = .ok (.if_icmp .ne 8, 3) := by decide +kernel
theorem dX5_picture_44 : decode cX5_picture 44 = .ok (.bipush 10, 2) := by decide +kernel
theorem dX5_picture_46 : decode cX5_picture 46 = .ok (.goto 17, 3) := by decide +kernel
theorem dX5_picture_49 : decode cX5_picture 49 = .ok (.aload_n 0, 1) := by decide +kernel
theorem dX5_picture_50 : decode cX5_picture 50 = .ok (.getfield 23, 3) := by decide +kernel
theorem dX5_picture_53 : decode cX5_picture 53 = .ok (.iload_n 3, 1) := by decide +kernel
theorem dX5_picture_54 : decode cX5_picture 54 = .ok (.iload_n 1, 1) := by decide +kernel
theorem dX5_picture_55 : decode cX5_picture 55 = .ok (.iload_n 2, 1) := by decide +kernel
theorem dX5_picture_56 : decode cX5_picture 56 = .ok (.idiv, 1) := by decide +kernel
theorem dX5_picture_57 : decode cX5_picture 57 = .ok (.invokestatic 154, 3) := by decide +kernel
theorem dX5_picture_60 : decode cX5_picture 60 = .ok (.invokevirtual 158, 3) := by decide +kernel
theorem dX5_picture_63 : decode cX5_picture 63 = .ok (.ireturn, 1) := by decide +kernel
theorem dX5_letter_0 : decode cX5_letter 0 = .ok (.iload_n 1, 1) := by decide +kernel
theorem dX5_letter_1 : decode cX5_letter 1 = .ok (.ifCond .lt 14, 3) := by decide +kernel
theorem dX5_letter_4 : decode cX5_letter 4 = .ok (.iload_n 1, 1) := by decide +kernel
theorem dX5_letter_5 : decode cX5_letter 5 = .ok (.aload_n 0, 1) := by decide +kernel
theorem dX5_letter_6 : decode cX5_letter 6 = .ok (.getfield 30, 3) := by decide +kernel
theorem dX5_letter_9 : decode cX5_letter 9 = .ok (.getfield 113, 3) := by decide +kernel
theorem dX5_letter_12 : decode cX5_letter 12 = .ok (.if_icmp .lt 7, 3) := by decide +kernel
theorem dX5_letter_15 : decode cX5_letter 15 = .ok (.iconst (-1), 1) := by decide +kernel
theorem dX5_letter_16 : decode cX5_letter 16 = .ok (.goto 11, 3) := by decide +kernel
theorem dX5_letter_19 : decode cX5_letter 19 = .ok (.aload_n 0, 1) := by decide +kernel
theorem dX5_letter_20 : decode cX5_letter 20 = .ok (.getfield 30, 3) := by decide +kernel
theorem dX5_letter_23 : decode cX5_letter 23 = .ok (.iload_n 1, 1) := by decide +kernel
theorem dX5_letter_24 : decode cX5_letter 24 = .ok (.invokevirtual 161, 3) := by decide +kernel
theorem dX5_letter_27 : decode cX5_letter 27 = .ok (.ireturn, 1) := by decide +kernel
theorem dX5_reach_0 : decode cX5_reach 0 = .ok (.aload_n 0, 1) := by decide +kernel
theorem dX5_reach_1 : decode cX5_reach 1 = .ok (.getfield 23, 3) := by decide +kernel
theorem dX5_reach_4 : decode cX5_reach 4 = .ok (.aload_n 0, 1) := by decide +kernel
theorem dX5_reach_5 : decode cX5_reach 5 = .ok (.getfield 23, 3) := by decide +kernel
theorem dX5_reach_8 : decode cX5_reach 8 = .ok (.getfield 144, 3) := by decide +kernel
theorem dX5_reach_11 : decode cX5_reach 11 = .ok (.aload_n 0, 1) := by decide +kernel
theorem dX5_reach_12 : decode cX5_reach 12 = .ok (.getfield 23, 3) := by decide +kernel
theorem dX5_reach_15 : decode cX5_reach 15 = .ok (.getfield 72, 3) := by decide +kernel
theorem dX5_reach_18 : decode cX5_reach 18 = .ok (.invokevirtual 164, 3) := by decide +kernel
theorem dX5_reach_21 : decode cX5_reach 21 = .ok (.invokestatic 76, 3) := by decide +kernel
theorem dX5_reach_24 : decode cX5_reach 24 = .ok (.ireturn, 1) := by decide +kernel
theorem dX5_way_0 : decode cX5_way 0 = .ok (.aload_n 0, 1) := by decide +kernel
theorem dX5_way_1 : decode cX5_way 1 = .ok (.getfield 23, 3) := by decide +kernel
theorem dX5_way_4 : decode cX5_way 4 = .ok (.aload_n 0, 1) := by decide +kernel
theorem dX5_way_5 : decode cX5_way 5 = .ok (.iload_n 1, 1) := by decide +kernel
theorem dX5_way_6 : decode cX5_way 6 = .ok (.iload_n 2, 1) := by decide +kernel
theorem dX5_way_7 : decode cX5_way 7 = .ok (.invokevirtual 168, 3) := by decide +kernel
theorem dX5_way_10 : decode cX5_way 10 = .ok (.invokevirtual 171, 3) := by decide +kernel
theorem dX5_way_13 : decode cX5_way 13 = .ok (.ireturn, 1) := by decide +kernel
theorem dX5_dead_0 : decode cX5_dead 0 = .ok (.aload_n 0, 1) := by decide +kernel
theorem dX5_dead_1 : decode cX5_dead 1 = .ok (.iload_n 1, 1) := by decide +kernel
theorem dX5_dead_2 : decode cX5_dead 2 = .ok (.iload_n 2, 1) := by decide +kernel
theorem dX5_dead_3 : decode cX5_dead 3 = .ok (.invokevirtual 168, 3) := by decide +kernel
theorem dX5_dead_6 : decode cX5_dead 6 = .ok (.aload_n 0, 1) := by decide +kernel
theorem dX5_dead_7 : decode cX5_dead 7 = .ok (.getfield 23, 3) := by decide +kernel
theorem dX5_dead_10 : decode cX5_dead 10 = .ok (.getfield 174, 3) := by decide +kernel
theorem dX5_dead_13 : decode cX5_dead 13 = .ok (.land, 1) := by decide +kernel
theorem dX5_dead_14 : decode cX5_dead 14 = .ok (.aload_n 0, 1) := by decide +kernel
theorem dX5_dead_15 : decode cX5_dead 15 = .ok (.getfield 23, 3) := by decide +kernel
theorem dX5_dead_18 : decode cX5_dead 18 = .ok (.getfield 177, 3) := by decide +kernel
theorem dX5_dead_21 : decode cX5_dead 21 = .ok (.ldc2_w 180, 3) := by decide +kernel
theorem dX5_dead_24 : decode cX5_dead 24 = .ok (.lxor, 1) := by decide +kernel
theorem dX5_dead_25 : decode cX5_dead 25 = .ok (.land, 1) := by decide +kernel
theorem dX5_dead_26 : decode cX5_dead 26 = .ok (.lconst 0, 1) := by decide +kernel
theorem dX5_dead_27 : decode cX5_dead 27 = .ok (.lcmp, 1) := by decide +kernel
theorem dX5_dead_28 : decode cX5_dead 28 = .ok (.ifCond .eq 7, 3) := by decide +kernel
theorem dX5_dead_31 : decode cX5_dead 31 = .ok (.iconst 1, 1) := by decide +kernel
theorem dX5_dead_32 : decode cX5_dead 32 = .ok (.goto 4, 3) := by decide +kernel
theorem dX5_dead_35 : decode cX5_dead 35 = .ok (.iconst 0, 1) := by decide +kernel
theorem dX5_dead_36 : decode cX5_dead 36 = .ok (.ireturn, 1) := by decide +kernel
theorem dX5_fast_0 : decode cX5_fast 0 = .ok (.aload_n 0, 1) := by decide +kernel
theorem dX5_fast_1 : decode cX5_fast 1 = .ok (.getfield 23, 3) := by decide +kernel
theorem dX5_fast_4 : decode cX5_fast 4 = .ok (.aload_n 0, 1) := by decide +kernel
theorem dX5_fast_5 : decode cX5_fast 5 = .ok (.getfield 23, 3) := by decide +kernel
theorem dX5_fast_8 : decode cX5_fast 8 = .ok (.getfield 72, 3) := by decide +kernel
theorem dX5_fast_11 : decode cX5_fast 11 = .ok (.invokevirtual 182, 3) := by decide +kernel
theorem dX5_fast_14 : decode cX5_fast 14 = .ok (.invokestatic 76, 3) := by decide +kernel
theorem dX5_fast_17 : decode cX5_fast 17 = .ok (.ireturn, 1) := by decide +kernel
theorem dX5_stuck_0 : decode cX5_stuck 0 = .ok (.aload_n 0, 1) := by decide +kernel
theorem dX5_stuck_1 : decode cX5_stuck 1 = .ok (.getfield 23, 3) := by decide +kernel
theorem dX5_stuck_4 : decode cX5_stuck 4 = .ok (.aload_n 0, 1) := by decide +kernel
theorem dX5_stuck_5 : decode cX5_stuck 5 = .ok (.getfield 23, 3) := by decide +kernel
theorem dX5_stuck_8 : decode cX5_stuck 8 = .ok (.getfield 72, 3) := by decide +kernel
theorem dX5_stuck_11 : decode cX5_stuck 11 = .ok (.invokevirtual 186, 3) := by decide +kernel
theorem dX5_stuck_14 : decode cX5_stuck 14 = .ok (.ireturn, 1) := by decide +kernel
theorem dX5_bound_0 : decode cX5_bound 0 = .ok (.iconst 0, 1) := by decide +kernel
theorem dX5_bound_1 : decode cX5_bound 1 = .ok (.istore_n 1, 1) := by decide +kernel
theorem dX5_bound_2 : decode cX5_bound 2 = .ok (.iconst 0, 1) := by decide +kernel
theorem dX5_bound_3 : decode cX5_bound 3 = .ok (.istore_n 2, 1) := by decide +kernel
theorem dX5_bound_4 : decode cX5_bound 4 = .ok (.iconst 0, 1) := by decide +kernel
theorem dX5_bound_5 : decode cX5_bound 5 = .ok (.istore_n 3, 1) := by decide +kernel
theorem dX5_bound_6 : decode cX5_bound 6 = .ok (.iload_n 3, 1) := by decide +kernel
theorem dX5_bound_7 : decode cX5_bound 7 = .ok (.bipush 64, 2) := by decide +kernel
theorem dX5_bound_9 : decode cX5_bound 9 = .ok (.if_icmp .ge 94, 3) := by decide +kernel
theorem dX5_bound_12 : decode cX5_bound 12 = .ok (.aload_n 0, 1) := by decide +kernel
theorem dX5_bound_13 : decode cX5_bound 13 = .ok (.getfield 23, 3) := by decide +kernel
theorem dX5_bound_16 : decode cX5_bound 16 = .ok (.getfield 72, 3) := by decide +kernel
theorem dX5_bound_19 : decode cX5_bound 19 = .ok (.iload_n 3, 1) := by decide +kernel
theorem dX5_bound_20 : decode cX5_bound 20 = .ok (.invokestatic 189, 3) := by decide +kernel
theorem dX5_bound_23 : decode cX5_bound 23 = .ok (.ifCond .ne 6, 3) := by decide +kernel
theorem dX5_bound_26 : decode cX5_bound 26 = .ok (.goto 71, 3) := by decide +kernel
theorem dX5_bound_29 : decode cX5_bound 29 = .ok (.aload_n 0, 1) := by decide +kernel
theorem dX5_bound_30 : decode cX5_bound 30 = .ok (.getfield 23, 3) := by decide +kernel
theorem dX5_bound_33 : decode cX5_bound 33 = .ok (.lconst 1, 1) := by decide +kernel
theorem dX5_bound_34 : decode cX5_bound 34 = .ok (.iload_n 3, 1) := by decide +kernel
theorem dX5_bound_35 : decode cX5_bound 35 = .ok (.lshl, 1) := by decide +kernel
theorem dX5_bound_36 : decode cX5_bound 36 = .ok (.invokevirtual 193, 3) := by decide +kernel
theorem dX5_bound_39 : decode cX5_bound 39 = .ok (.iconst 0, 1) := by decide +kernel
theorem dX5_bound_40 : decode cX5_bound 40 = .ok (.istore_n 2, 1) := by decide +kernel
theorem dX5_bound_41 : decode cX5_bound 41 = .ok (.iconst 0, 1) := by decide +kernel
theorem dX5_bound_42 : decode cX5_bound 42 = .ok (.istore 4, 2) := by decide +kernel
theorem dX5_bound_44 : decode cX5_bound 44 = .ok (.iload 4, 2) := by decide +kernel
theorem dX5_bound_46 : decode cX5_bound 46 = .ok (.bipush 64, 2) := by decide +kernel
theorem dX5_bound_48 : decode cX5_bound 48 = .ok (.if_icmp .ge 46, 3) := by decide +kernel
theorem dX5_bound_51 : decode cX5_bound 51 = .ok (.aload_n 0, 1) := by decide +kernel
theorem dX5_bound_52 : decode cX5_bound 52 = .ok (.getfield 23, 3) := by decide +kernel
theorem dX5_bound_55 : decode cX5_bound 55 = .ok (.getfield 135, 3) := by decide +kernel
theorem dX5_bound_58 : decode cX5_bound 58 = .ok (.iload 4, 2) := by decide +kernel
theorem dX5_bound_60 : decode cX5_bound 60 = .ok (.invokestatic 189, 3) := by decide +kernel
theorem dX5_bound_63 : decode cX5_bound 63 = .ok (.ifCond .eq 25, 3) := by decide +kernel
theorem dX5_bound_66 : decode cX5_bound 66 = .ok (.aload_n 0, 1) := by decide +kernel
theorem dX5_bound_67 : decode cX5_bound 67 = .ok (.getfield 37, 3) := by decide +kernel
theorem dX5_bound_70 : decode cX5_bound 70 = .ok (.iload_n 2, 1) := by decide +kernel
theorem dX5_bound_71 : decode cX5_bound 71 = .ok (.iload_n 1, 1) := by decide +kernel
theorem dX5_bound_72 : decode cX5_bound 72 = .ok (.aload_n 0, 1) := by decide +kernel
theorem dX5_bound_73 : decode cX5_bound 73 = .ok (.getfield 23, 3) := by decide +kernel
theorem dX5_bound_76 : decode cX5_bound 76 = .ok (.getfield 197, 3) := by decide +kernel
theorem dX5_bound_79 : decode cX5_bound 79 = .ok (.iload 4, 2) := by decide +kernel
theorem dX5_bound_81 : decode cX5_bound 81 = .ok (.iaload, 1) := by decide +kernel
theorem dX5_bound_82 : decode cX5_bound 82 = .ok (.invokevirtual 200, 3) := by decide +kernel
theorem dX5_bound_85 : decode cX5_bound 85 = .ok (.iinc 2 1, 3) := by decide +kernel
theorem dX5_bound_88 : decode cX5_bound 88 = .ok (.iinc 4 1, 3) := by decide +kernel
theorem dX5_bound_91 : decode cX5_bound 91 = .ok (.goto (-47), 3) := by decide +kernel
theorem dX5_bound_94 : decode cX5_bound 94 = .ok (.iinc 1 1, 3) := by decide +kernel
theorem dX5_bound_97 : decode cX5_bound 97 = .ok (.iinc 3 1, 3) := by decide +kernel
theorem dX5_bound_100 : decode cX5_bound 100 = .ok (.goto (-94), 3) := by decide +kernel
theorem dX5_bound_103 : decode cX5_bound 103 = .ok (.aload_n 0, 1) := by decide +kernel
theorem dX5_bound_104 : decode cX5_bound 104 = .ok (.getfield 37, 3) := by decide +kernel
theorem dX5_bound_107 : decode cX5_bound 107 = .ok (.iload_n 2, 1) := by decide +kernel
theorem dX5_bound_108 : decode cX5_bound 108 = .ok (.iload_n 1, 1) := by decide +kernel
theorem dX5_bound_109 : decode cX5_bound 109 = .ok (.invokevirtual 204, 3) := by decide +kernel
theorem dX5_bound_112 : decode cX5_bound 112 = .ok (.ireturn, 1) := by decide +kernel
theorem dX5_pushes_0 : decode cX5_pushes 0 = .ok (.aload_n 0, 1) := by decide +kernel
theorem dX5_pushes_1 : decode cX5_pushes 1 = .ok (.iload_n 1, 1) := by decide +kernel
theorem dX5_pushes_2 : decode cX5_pushes 2 = .ok (.iload_n 2, 1) := by decide +kernel
theorem dX5_pushes_3 : decode cX5_pushes 3 = .ok (.invokevirtual 168, 3) := by decide +kernel
theorem dX5_pushes_6 : decode cX5_pushes 6 = .ok (.lstore 5, 2) := by decide +kernel
theorem dX5_pushes_8 : decode cX5_pushes 8 = .ok (.aload_n 0, 1) := by decide +kernel
theorem dX5_pushes_9 : decode cX5_pushes 9 = .ok (.iload_n 3, 1) := by decide +kernel
theorem dX5_pushes_10 : decode cX5_pushes 10 = .ok (.iload 4, 2) := by decide +kernel
theorem dX5_pushes_12 : decode cX5_pushes 12 = .ok (.invokevirtual 168, 3) := by decide +kernel
theorem dX5_pushes_15 : decode cX5_pushes 15 = .ok (.lstore 7, 2) := by decide +kernel
theorem dX5_pushes_17 : decode cX5_pushes 17 = .ok (.aload_n 0, 1) := by decide +kernel
theorem dX5_pushes_18 : decode cX5_pushes 18 = .ok (.getfield 23, 3) := by decide +kernel
theorem dX5_pushes_21 : decode cX5_pushes 21 = .ok (.lload 5, 2) := by decide +kernel
theorem dX5_pushes_23 : decode cX5_pushes 23 = .ok (.invokevirtual 193, 3) := by decide +kernel
theorem dX5_pushes_26 : decode cX5_pushes 26 = .ok (.aload_n 0, 1) := by decide +kernel
theorem dX5_pushes_27 : decode cX5_pushes 27 = .ok (.getfield 23, 3) := by decide +kernel
theorem dX5_pushes_30 : decode cX5_pushes 30 = .ok (.getfield 197, 3) := by decide +kernel
theorem dX5_pushes_33 : decode cX5_pushes 33 = .ok (.lload 7, 2) := by decide +kernel
theorem dX5_pushes_35 : decode cX5_pushes 35 = .ok (.invokestatic 207, 3) := by decide +kernel
theorem dX5_pushes_38 : decode cX5_pushes 38 = .ok (.iaload, 1) := by decide +kernel
theorem dX5_pushes_39 : decode cX5_pushes 39 = .ok (.ireturn, 1) := by decide +kernel
theorem dX5_search_0 : decode cX5_search 0 = .ok (.iload_n 1, 1) := by decide +kernel
theorem dX5_search_1 : decode cX5_search 1 = .ok (.iconst 1, 1) := by decide +kernel
theorem dX5_search_2 : decode cX5_search 2 = .ok (.if_icmp .lt 20, 3) := by decide +kernel
theorem dX5_search_5 : decode cX5_search 5 = .ok (.iload_n 1, 1) := by decide +kernel
theorem dX5_search_6 : decode cX5_search 6 = .ok (.sipush 10000, 3) := by decide +kernel
theorem dX5_search_9 : decode cX5_search 9 = .ok (.if_icmp .gt 13, 3) := by decide +kernel
theorem dX5_search_12 : decode cX5_search 12 = .ok (.aload_n 0, 1) := by decide +kernel
theorem dX5_search_13 : decode cX5_search 13 = .ok (.getfield 23, 3) := by decide +kernel
theorem dX5_search_16 : decode cX5_search 16 = .ok (.invokevirtual 95, 3) := by decide +kernel
theorem dX5_search_19 : decode cX5_search 19 = .ok (.ifCond .ne 6, 3) := by decide +kernel
theorem dX5_search_22 : decode cX5_search 22 = .ok (.bipush (-3), 2) := by decide +kernel
theorem dX5_search_24 : decode cX5_search 24 = .ok (.ireturn, 1) := by decide +kernel
theorem dX5_search_25 : decode cX5_search 25 = .ok (.aload_n 0, 1) := by decide +kernel
theorem dX5_search_26 : decode cX5_search 26 = .ok (.getfield 44, 3) := by decide +kernel
theorem dX5_search_29 : decode cX5_search 29 = .ok (.aload_n 0, 1) := by decide +kernel
theorem dX5_search_30 : decode cX5_search 30 = .ok (.getfield 23, 3) := by decide +kernel
theorem dX5_search_33 : decode cX5_search 33 = .ok (.iload_n 1, 1) := by decide +kernel
theorem dX5_search_34 : decode cX5_search 34 = .ok (.invokevirtual 210, 3) := by decide +kernel
theorem dX5_search_37 : decode cX5_search 37 = .ok (.ireturn, 1) := by decide +kernel
theorem dX5_push_0 : decode cX5_push 0 = .ok (.iload_n 1, 1) := by decide +kernel
theorem dX5_push_1 : decode cX5_push 1 = .ok (.ifCond .lt 14, 3) := by decide +kernel
theorem dX5_push_4 : decode cX5_push 4 = .ok (.iload_n 1, 1) := by decide +kernel
theorem dX5_push_5 : decode cX5_push 5 = .ok (.aload_n 0, 1) := by decide +kernel
theorem dX5_push_6 : decode cX5_push 6 = .ok (.getfield 44, 3) := by decide +kernel
theorem dX5_push_9 : decode cX5_push 9 = .ok (.getfield 214, 3) := by decide +kernel
theorem dX5_push_12 : decode cX5_push 12 = .ok (.if_icmp .lt 7, 3) := by decide +kernel
theorem dX5_push_15 : decode cX5_push 15 = .ok (.iconst (-1), 1) := by decide +kernel
theorem dX5_push_16 : decode cX5_push 16 = .ok (.goto 11, 3) := by decide +kernel
theorem dX5_push_19 : decode cX5_push 19 = .ok (.aload_n 0, 1) := by decide +kernel
theorem dX5_push_20 : decode cX5_push 20 = .ok (.getfield 44, 3) := by decide +kernel
theorem dX5_push_23 : decode cX5_push 23 = .ok (.iload_n 1, 1) := by decide +kernel
theorem dX5_push_24 : decode cX5_push 24 = .ok (.invokevirtual 217, 3) := by decide +kernel
theorem dX5_push_27 : decode cX5_push 27 = .ok (.ireturn, 1) := by decide +kernel
theorem dX5_states_0 : decode cX5_states 0 = .ok (.aload_n 0, 1) := by decide +kernel
theorem dX5_states_1 : decode cX5_states 1 = .ok (.getfield 44, 3) := by decide +kernel
theorem dX5_states_4 : decode cX5_states 4 = .ok (.getfield 220, 3) := by decide +kernel
theorem dX5_states_7 : decode cX5_states 7 = .ok (.ireturn, 1) := by decide +kernel
theorem dX5_takeText_0 : decode cX5_takeText 0 = .ok (.aload_n 0, 1) := by decide +kernel
theorem dX5_takeText_1 : decode cX5_takeText 1 = .ok (.getfield 48, 3) := by decide +kernel
theorem dX5_takeText_4 : decode cX5_takeText 4 = .ok (.istore_n 1, 1) := by decide +kernel
theorem dX5_takeText_5 : decode cX5_takeText 5 = .ok (.aload_n 0, 1) := by decide +kernel
theorem dX5_takeText_6 : decode cX5_takeText 6 = .ok (.iconst 0, 1) := by decide +kernel
theorem dX5_takeText_7 : decode cX5_takeText 7 = .ok (.putfield 48, 3) := by decide +kernel
theorem dX5_takeText_10 : decode cX5_takeText 10 = .ok (.iload_n 1, 1) := by decide +kernel
theorem dX5_takeText_11 : decode cX5_takeText 11 = .ok (.ireturn, 1) := by decide +kernel
theorem dX5_goOften_0 : decode cX5_goOften 0 = .ok (.iconst 0, 1) := by decide +kernel
theorem dX5_goOften_1 : decode cX5_goOften 1 = .ok (.istore_n 3, 1) := by decide +kernel
theorem dX5_goOften_2 : decode cX5_goOften 2 = .ok (.iload_n 3, 1) := by decide +kernel
theorem dX5_goOften_3 : decode cX5_goOften 3 = .ok (.iload_n 2, 1) := by decide +kernel
theorem dX5_goOften_4 : decode cX5_goOften 4 = .ok (.if_icmp .ge 23, 3) := by decide +kernel
theorem dX5_goOften_7 : decode cX5_goOften 7 = .ok (.iload_n 1, 1) := by decide +kernel
theorem dX5_goOften_8 : decode cX5_goOften 8 = .ok (.ifCond .lt 11, 3) := by decide +kernel
theorem dX5_goOften_11 : decode cX5_goOften 11 = .ok (.aload_n 0, 1) := by decide +kernel
theorem dX5_goOften_12 : decode cX5_goOften 12 = .ok (.iload_n 1, 1) := by decide +kernel
theorem dX5_goOften_13 : decode cX5_goOften 13 = .ok (.invokevirtual 110, 3) := by decide +kernel
theorem dX5_goOften_16 : decode cX5_goOften 16 = .ok (.ifCond .ne 5, 3) := by decide +kernel
theorem dX5_goOften_19 : decode cX5_goOften 19 = .ok (.iload_n 3, 1) := by decide +kernel
theorem dX5_goOften_20 : decode cX5_goOften 20 = .ok (.ireturn, 1) := by decide +kernel
theorem dX5_goOften_21 : decode cX5_goOften 21 = .ok (.iinc 3 1, 3) := by decide +kernel
theorem dX5_goOften_24 : decode cX5_goOften 24 = .ok (.goto (-22), 3) := by decide +kernel
theorem dX5_goOften_27 : decode cX5_goOften 27 = .ok (.iload_n 2, 1) := by decide +kernel
theorem dX5_goOften_28 : decode cX5_goOften 28 = .ok (.ireturn, 1) := by decide +kernel
theorem dX5_goOnce_0 : decode cX5_goOnce 0 = .ok (.aload_n 0, 1) := by decide +kernel
theorem dX5_goOnce_1 : decode cX5_goOnce 1 = .ok (.getfield 23, 3) := by decide +kernel
theorem dX5_goOnce_4 : decode cX5_goOnce 4 = .ok (.invokevirtual 95, 3) := by decide +kernel
theorem dX5_goOnce_7 : decode cX5_goOnce 7 = .ok (.ifCond .eq 14, 3) := by decide +kernel
theorem dX5_goOnce_10 : decode cX5_goOnce 10 = .ok (.aload_n 0, 1) := by decide +kernel
theorem dX5_goOnce_11 : decode cX5_goOnce 11 = .ok (.getfield 23, 3) := by decide +kernel
theorem dX5_goOnce_14 : decode cX5_goOnce 14 = .ok (.iload_n 1, 1) := by decide +kernel
theorem dX5_goOnce_15 : decode cX5_goOnce 15 = .ok (.invokevirtual 223, 3) := by decide +kernel
theorem dX5_goOnce_18 : decode cX5_goOnce 18 = .ok (.goto 4, 3) := by decide +kernel
theorem dX5_goOnce_21 : decode cX5_goOnce 21 = .ok (.iconst 0, 1) := by decide +kernel
theorem dX5_goOnce_22 : decode cX5_goOnce 22 = .ok (.istore_n 2, 1) := by decide +kernel
theorem dX5_goOnce_23 : decode cX5_goOnce 23 = .ok (.iload_n 2, 1) := by decide +kernel
theorem dX5_goOnce_24 : decode cX5_goOnce 24 = .ok (.ifCond .eq 21, 3) := by decide +kernel
theorem dX5_goOnce_27 : decode cX5_goOnce 27 = .ok (.aload_n 0, 1) := by decide +kernel
theorem dX5_goOnce_28 : decode cX5_goOnce 28 = .ok (.getfield 30, 3) := by decide +kernel
theorem dX5_goOnce_31 : decode cX5_goOnce 31 = .ok (.iload_n 1, 1) := by decide +kernel
theorem dX5_goOnce_32 : decode cX5_goOnce 32 = .ok (.iload_n 2, 1) := by decide +kernel
theorem dX5_goOnce_33 : decode cX5_goOnce 33 = .ok (.iconst 2, 1) := by decide +kernel
theorem dX5_goOnce_34 : decode cX5_goOnce 34 = .ok (.if_icmp .ne 7, 3) := by decide +kernel
theorem dX5_goOnce_37 : decode cX5_goOnce 37 = .ok (.iconst 1, 1) := by decide +kernel
theorem dX5_goOnce_38 : decode cX5_goOnce 38 = .ok (.goto 4, 3) := by decide +kernel
theorem dX5_goOnce_41 : decode cX5_goOnce 41 = .ok (.iconst 0, 1) := by decide +kernel
theorem dX5_goOnce_42 : decode cX5_goOnce 42 = .ok (.invokevirtual 226, 3) := by decide +kernel
theorem dX5_goOnce_45 : decode cX5_goOnce 45 = .ok (.iload_n 2, 1) := by decide +kernel
theorem dX5_goOnce_46 : decode cX5_goOnce 46 = .ok (.ireturn, 1) := by decide +kernel
theorem dX5_existing_0 : decode cX5_existing 0 = .ok (.iload_n 1, 1) := by decide +kernel
theorem dX5_existing_1 : decode cX5_existing 1 = .ok (.ifCond .lt 29, 3) := by decide +kernel
theorem dX5_existing_4 : decode cX5_existing 4 = .ok (.iload_n 1, 1) := by decide +kernel
theorem dX5_existing_5 : decode cX5_existing 5 = .ok (.aload_n 0, 1) := by decide +kernel
theorem dX5_existing_6 : decode cX5_existing 6 = .ok (.getfield 23, 3) := by decide +kernel
theorem dX5_existing_9 : decode cX5_existing 9 = .ok (.getfield 129, 3) := by decide +kernel
theorem dX5_existing_12 : decode cX5_existing 12 = .ok (.if_icmp .ge 18, 3) := by decide +kernel
theorem dX5_existing_15 : decode cX5_existing 15 = .ok (.iload_n 2, 1) := by decide +kernel
theorem dX5_existing_16 : decode cX5_existing 16 = .ok (.ifCond .lt 14, 3) := by decide +kernel
theorem dX5_existing_19 : decode cX5_existing 19 = .ok (.iload_n 2, 1) := by decide +kernel
theorem dX5_existing_20 : decode cX5_existing 20 = .ok (.aload_n 0, 1) := by decide +kernel
theorem dX5_existing_21 : decode cX5_existing 21 = .ok (.getfield 23, 3) := by decide +kernel
theorem dX5_existing_24 : decode cX5_existing 24 = .ok (.getfield 132, 3) := by decide +kernel
theorem dX5_existing_27 : decode cX5_existing 27 = .ok (.if_icmp .lt 13, 3) := by decide +kernel
theorem dX5_existing_30 : decode cX5_existing 30 = .ok (.new 105, 3) := by decide +kernel
theorem dX5_existing_33 : decode cX5_existing 33 = .ok (.dup, 1) := by decide +kernel
theorem dX5_existing_34 : decode cX5_existing 34 = .ok (.ldc 229, 2) := by decide +kernel
theorem dX5_existing_36 : decode cX5_existing 36 = .ok (.invokespecial 109, 3) := by decide +kernel
theorem dX5_existing_39 : decode cX5_existing 39 = .ok (.athrow, 1) := by decide +kernel
theorem dX5_existing_40 : decode cX5_existing 40 = .ok (.iload_n 1, 1) := by decide +kernel
theorem dX5_existing_41 : decode cX5_existing 41 = .ok (.iload_n 2, 1) := by decide +kernel
theorem dX5_existing_42 : decode cX5_existing 42 = .ok (.invokestatic 154, 3) := by decide +kernel
theorem dX5_existing_45 : decode cX5_existing 45 = .ok (.lreturn, 1) := by decide +kernel
theorem dX5_wayOfLetter_0 : decode cX5_wayOfLetter 0 = .ok (.iload_n 0, 1) := by decide +kernel
theorem dX5_wayOfLetter_1 : decode cX5_wayOfLetter 1 = .ok (.lookupswitch 83 #[(68, 77), (76, 79), (82, 75), (85, 81), (100, 77), (108, 79), (114, 75), (117, 81)], 75) := by decide +kernel
theorem dX5_wayOfLetter_76 : decode cX5_wayOfLetter 76 = .ok (.iconst 0, 1) := by decide +kernel
theorem dX5_wayOfLetter_77 : decode cX5_wayOfLetter 77 = .ok (.ireturn, 1) := by decide +kernel
theorem dX5_wayOfLetter_78 : decode cX5_wayOfLetter 78 = .ok (.iconst 1, 1) := by decide +kernel
theorem dX5_wayOfLetter_79 : decode cX5_wayOfLetter 79 = .ok (.ireturn, 1) := by decide +kernel
theorem dX5_wayOfLetter_80 : decode cX5_wayOfLetter 80 = .ok (.iconst 2, 1) := by decide +kernel
theorem dX5_wayOfLetter_81 : decode cX5_wayOfLetter 81 = .ok (.ireturn, 1) := by decide +kernel
theorem dX5_wayOfLetter_82 : decode cX5_wayOfLetter 82 = .ok (.iconst 3, 1) := by decide +kernel
theorem dX5_wayOfLetter_83 : decode cX5_wayOfLetter 83 = .ok (.ireturn, 1) := by decide +kernel
theorem dX5_wayOfLetter_84 : decode cX5_wayOfLetter 84 = .ok (.iconst (-1), 1) := by decide +kernel
theorem dX5_wayOfLetter_85 : decode cX5_wayOfLetter 85 = .ok (.ireturn, 1) := by decide +kernel
theorem dX5_cellAt_0 : decode cX5_cellAt 0 = .ok (.lconst 1, 1) := by decide +kernel
theorem dX5_cellAt_1 : decode cX5_cellAt 1 = .ok (.bipush 8, 2) := by decide +kernel
theorem dX5_cellAt_3 : decode cX5_cellAt 3 = .ok (.iload_n 1, 1) := by decide +kernel
theorem dX5_cellAt_4 : decode cX5_cellAt 4 = .ok (.imul, 1) := by decide +kernel
theorem dX5_cellAt_5 : decode cX5_cellAt 5 = .ok (.iload_n 0, 1) := by decide +kernel
theorem dX5_cellAt_6 : decode cX5_cellAt 6 = .ok (.iadd, 1) := by decide +kernel
theorem dX5_cellAt_7 : decode cX5_cellAt 7 = .ok (.lshl, 1) := by decide +kernel
theorem dX5_cellAt_8 : decode cX5_cellAt 8 = .ok (.lreturn, 1) := by decide +kernel
theorem dX5_spotOf_0 : decode cX5_spotOf 0 = .ok (.lload_n 0, 1) := by decide +kernel
theorem dX5_spotOf_1 : decode cX5_spotOf 1 = .ok (.lload_n 0, 1) := by decide +kernel
theorem dX5_spotOf_2 : decode cX5_spotOf 2 = .ok (.lneg, 1) := by decide +kernel
theorem dX5_spotOf_3 : decode cX5_spotOf 3 = .ok (.land, 1) := by decide +kernel
theorem dX5_spotOf_4 : decode cX5_spotOf 4 = .ok (.lconst 1, 1) := by decide +kernel
theorem dX5_spotOf_5 : decode cX5_spotOf 5 = .ok (.lsub, 1) := by decide +kernel
theorem dX5_spotOf_6 : decode cX5_spotOf 6 = .ok (.invokestatic 76, 3) := by decide +kernel
theorem dX5_spotOf_9 : decode cX5_spotOf 9 = .ok (.bipush 63, 2) := by decide +kernel
theorem dX5_spotOf_11 : decode cX5_spotOf 11 = .ok (.iand, 1) := by decide +kernel
theorem dX5_spotOf_12 : decode cX5_spotOf 12 = .ok (.ireturn, 1) := by decide +kernel
theorem dX5_has_0 : decode cX5_has 0 = .ok (.lload_n 0, 1) := by decide +kernel
theorem dX5_has_1 : decode cX5_has 1 = .ok (.iload_n 2, 1) := by decide +kernel
theorem dX5_has_2 : decode cX5_has 2 = .ok (.lushr, 1) := by decide +kernel
theorem dX5_has_3 : decode cX5_has 3 = .ok (.lconst 1, 1) := by decide +kernel
theorem dX5_has_4 : decode cX5_has 4 = .ok (.land, 1) := by decide +kernel
theorem dX5_has_5 : decode cX5_has 5 = .ok (.lconst 0, 1) := by decide +kernel
theorem dX5_has_6 : decode cX5_has 6 = .ok (.lcmp, 1) := by decide +kernel
theorem dX5_has_7 : decode cX5_has 7 = .ok (.ifCond .eq 7, 3) := by decide +kernel
theorem dX5_has_10 : decode cX5_has 10 = .ok (.iconst 1, 1) := by decide +kernel
theorem dX5_has_11 : decode cX5_has 11 = .ok (.goto 4, 3) := by decide +kernel
theorem dX5_has_14 : decode cX5_has 14 = .ok (.iconst 0, 1) := by decide +kernel
theorem dX5_has_15 : decode cX5_has 15 = .ok (.ireturn, 1) := by decide +kernel
theorem dX5_against_0 : decode cX5_against 0 = .ok (.iload_n 0, 1) := by decide +kernel
theorem dX5_against_1 : decode cX5_against 1 = .ok (.iconst 2, 1) := by decide +kernel
theorem dX5_against_2 : decode cX5_against 2 = .ok (.ixor, 1) := by decide +kernel
theorem dX5_against_3 : decode cX5_against 3 = .ok (.ireturn, 1) := by decide +kernel
theorem dX5_shifted_0 : decode cX5_shifted 0 = .ok (.iload_n 2, 1) := by decide +kernel
theorem dX5_shifted_1 : decode cX5_shifted 1 = .ok (.tableswitch 48 0 2 #[27, 35, 40], 27) := by decide +kernel
theorem dX5_shifted_28 : decode cX5_shifted 28 = .ok (.lload_n 0, 1) := by decide +kernel
theorem dX5_shifted_29 : decode cX5_shifted 29 = .ok (.ldc2_w 231, 3) := by decide +kernel
theorem dX5_shifted_32 : decode cX5_shifted 32 = .ok (.land, 1) := by decide +kernel
theorem dX5_shifted_33 : decode cX5_shifted 33 = .ok (.iconst 1, 1) := by decide +kernel
theorem dX5_shifted_34 : decode cX5_shifted 34 = .ok (.lshl, 1) := by decide +kernel
theorem dX5_shifted_35 : decode cX5_shifted 35 = .ok (.lreturn, 1) := by decide +kernel
theorem dX5_shifted_36 : decode cX5_shifted 36 = .ok (.lload_n 0, 1) := by decide +kernel
theorem dX5_shifted_37 : decode cX5_shifted 37 = .ok (.bipush 8, 2) := by decide +kernel
theorem dX5_shifted_39 : decode cX5_shifted 39 = .ok (.lshl, 1) := by decide +kernel
theorem dX5_shifted_40 : decode cX5_shifted 40 = .ok (.lreturn, 1) := by decide +kernel
theorem dX5_shifted_41 : decode cX5_shifted 41 = .ok (.lload_n 0, 1) := by decide +kernel
theorem dX5_shifted_42 : decode cX5_shifted 42 = .ok (.ldc2_w 233, 3) := by decide +kernel
theorem dX5_shifted_45 : decode cX5_shifted 45 = .ok (.land, 1) := by decide +kernel
theorem dX5_shifted_46 : decode cX5_shifted 46 = .ok (.iconst 1, 1) := by decide +kernel
theorem dX5_shifted_47 : decode cX5_shifted 47 = .ok (.lushr, 1) := by decide +kernel
theorem dX5_shifted_48 : decode cX5_shifted 48 = .ok (.lreturn, 1) := by decide +kernel
theorem dX5_shifted_49 : decode cX5_shifted 49 = .ok (.lload_n 0, 1) := by decide +kernel
theorem dX5_shifted_50 : decode cX5_shifted 50 = .ok (.bipush 8, 2) := by decide +kernel
theorem dX5_shifted_52 : decode cX5_shifted 52 = .ok (.lushr, 1) := by decide +kernel
theorem dX5_shifted_53 : decode cX5_shifted 53 = .ok (.lreturn, 1) := by decide +kernel
theorem dX3_init_0 : decode cX3_init 0 = .ok (.aload_n 0, 1) := by decide +kernel
theorem dX3_init_1 : decode cX3_init 1 = .ok (.invokespecial 3, 3) := by decide +kernel
theorem dX3_init_4 : decode cX3_init 4 = .ok (.return_, 1) := by decide +kernel
theorem dX3_clear_0 : decode cX3_clear 0 = .ok (.aload_n 0, 1) := by decide +kernel
theorem dX3_clear_1 : decode cX3_clear 1 = .ok (.iconst 0, 1) := by decide +kernel
theorem dX3_clear_2 : decode cX3_clear 2 = .ok (.putfield 9, 3) := by decide +kernel
theorem dX3_clear_5 : decode cX3_clear 5 = .ok (.aload_n 0, 1) := by decide +kernel
theorem dX3_clear_6 : decode cX3_clear 6 = .ok (.iconst 0, 1) := by decide +kernel
theorem dX3_clear_7 : decode cX3_clear 7 = .ok (.putfield 15, 3) := by decide +kernel
theorem dX3_clear_10 : decode cX3_clear 10 = .ok (.aload_n 0, 1) := by decide +kernel
theorem dX3_clear_11 : decode cX3_clear 11 = .ok (.lconst 0, 1) := by decide +kernel
theorem dX3_clear_12 : decode cX3_clear 12 = .ok (.putfield 18, 3) := by decide +kernel
theorem dX3_clear_15 : decode cX3_clear 15 = .ok (.aload_n 0, 1) := by decide +kernel
theorem dX3_clear_16 : decode cX3_clear 16 = .ok (.lconst 0, 1) := by decide +kernel
theorem dX3_clear_17 : decode cX3_clear 17 = .ok (.putfield 22, 3) := by decide +kernel
theorem dX3_clear_20 : decode cX3_clear 20 = .ok (.aload_n 0, 1) := by decide +kernel
theorem dX3_clear_21 : decode cX3_clear 21 = .ok (.lconst 0, 1) := by decide +kernel
theorem dX3_clear_22 : decode cX3_clear 22 = .ok (.putfield 25, 3) := by decide +kernel
theorem dX3_clear_25 : decode cX3_clear 25 = .ok (.aload_n 0, 1) := by decide +kernel
theorem dX3_clear_26 : decode cX3_clear 26 = .ok (.lconst 0, 1) := by decide +kernel
theorem dX3_clear_27 : decode cX3_clear 27 = .ok (.putfield 28, 3) := by decide +kernel
theorem dX3_clear_30 : decode cX3_clear 30 = .ok (.aload_n 0, 1) := by decide +kernel
theorem dX3_clear_31 : decode cX3_clear 31 = .ok (.iconst 0, 1) := by decide +kernel
theorem dX3_clear_32 : decode cX3_clear 32 = .ok (.putfield 31, 3) := by decide +kernel
theorem dX3_clear_35 : decode cX3_clear 35 = .ok (.aload_n 0, 1) := by decide +kernel
theorem dX3_clear_36 : decode cX3_clear 36 = .ok (.iconst 0, 1) := by decide +kernel
theorem dX3_clear_37 : decode cX3_clear 37 = .ok (.putfield 34, 3) := by decide +kernel
theorem dX3_clear_40 : decode cX3_clear 40 = .ok (.return_, 1) := by decide +kernel
theorem dX3_takes_0 : decode cX3_takes 0 = .ok (.aload_n 0, 1) := by decide +kernel
theorem dX3_takes_1 : decode cX3_takes 1 = .ok (.getfield 34, 3) := by decide +kernel
theorem dX3_takes_4 : decode cX3_takes 4 = .ok (.bipush 8, 2) := by decide +kernel
theorem dX3_takes_6 : decode cX3_takes 6 = .ok (.if_icmp .lt 5, 3) := by decide +kernel
theorem dX3_takes_9 : decode cX3_takes 9 = .ok (.iconst 0, 1) := by decide +kernel
theorem dX3_takes_10 : decode cX3_takes 10 = .ok (.ireturn, 1) := by decide +kernel
theorem dX3_takes_11 : decode cX3_takes 11 = .ok (.aload_n 0, 1) := by decide +kernel
theorem dX3_takes_12 : decode cX3_takes 12 = .ok (.aload_n 0, 1) := by decide +kernel
theorem dX3_takes_13 : decode cX3_takes 13 = .ok (.getfield 34, 3) := by decide +kernel
theorem dX3_takes_16 : decode cX3_takes 16 = .ok (.iconst 1, 1) := by decide +kernel
theorem dX3_takes_17 : decode cX3_takes 17 = .ok (.iadd, 1) := by decide +kernel
theorem dX3_takes_18 : decode cX3_takes 18 = .ok (.putfield 15, 3) := by decide +kernel
theorem dX3_takes_21 : decode cX3_takes 21 = .ok (.iload_n 1, 1) := by decide +kernel
theorem dX3_takes_22 : decode cX3_takes 22 = .ok (.bipush 10, 2) := by decide +kernel
theorem dX3_takes_24 : decode cX3_takes 24 = .ok (.if_icmp .eq 9, 3) := by decide +kernel
theorem dX3_takes_27 : decode cX3_takes 27 = .ok (.iload_n 1, 1) := by decide +kernel
theorem dX3_takes_28 : decode cX3_takes 28 = .ok (.bipush 124, 2) := by decide +kernel
theorem dX3_takes_30 : decode cX3_takes 30 = .ok (.if_icmp .ne 20, 3) := by decide +kernel
theorem dX3_takes_33 : decode cX3_takes 33 = .ok (.aload_n 0, 1) := by decide +kernel
theorem dX3_takes_34 : decode cX3_takes 34 = .ok (.dup, 1) := by decide +kernel
theorem dX3_takes_35 : decode cX3_takes 35 = .ok (.getfield 34, 3) := by decide +kernel
theorem dX3_takes_38 : decode cX3_takes 38 = .ok (.iconst 1, 1) := by decide +kernel
theorem dX3_takes_39 : decode cX3_takes 39 = .ok (.iadd, 1) := by decide +kernel
theorem dX3_takes_40 : decode cX3_takes 40 = .ok (.putfield 34, 3) := by decide +kernel
theorem dX3_takes_43 : decode cX3_takes 43 = .ok (.aload_n 0, 1) := by decide +kernel
theorem dX3_takes_44 : decode cX3_takes 44 = .ok (.iconst 0, 1) := by decide +kernel
theorem dX3_takes_45 : decode cX3_takes 45 = .ok (.putfield 31, 3) := by decide +kernel
theorem dX3_takes_48 : decode cX3_takes 48 = .ok (.iconst 1, 1) := by decide +kernel
theorem dX3_takes_49 : decode cX3_takes 49 = .ok (.ireturn, 1) := by decide +kernel
theorem dX3_takes_50 : decode cX3_takes 50 = .ok (.aload_n 0, 1) := by decide +kernel
theorem dX3_takes_51 : decode cX3_takes 51 = .ok (.getfield 31, 3) := by decide +kernel
theorem dX3_takes_54 : decode cX3_takes 54 = .ok (.bipush 8, 2) := by decide +kernel
theorem dX3_takes_56 : decode cX3_takes 56 = .ok (.if_icmp .ge 22, 3) := by decide +kernel
theorem dX3_takes_59 : decode cX3_takes 59 = .ok (.aload_n 0, 1) := by decide +kernel
theorem dX3_takes_60 : decode cX3_takes 60 = .ok (.iload_n 1, 1) := by decide +kernel
theorem dX3_takes_61 : decode cX3_takes 61 = .ok (.aload_n 0, 1) := by decide +kernel
theorem dX3_takes_62 : decode cX3_takes 62 = .ok (.getfield 31, 3) := by decide +kernel
theorem dX3_takes_65 : decode cX3_takes 65 = .ok (.aload_n 0, 1) := by decide +kernel
theorem dX3_takes_66 : decode cX3_takes 66 = .ok (.getfield 34, 3) := by decide +kernel
theorem dX3_takes_69 : decode cX3_takes 69 = .ok (.invokestatic 37, 3) := by decide +kernel
theorem dX3_takes_72 : decode cX3_takes 72 = .ok (.invokevirtual 41, 3) := by decide +kernel
theorem dX3_takes_75 : decode cX3_takes 75 = .ok (.ifCond .ne 5, 3) := by decide +kernel
theorem dX3_takes_78 : decode cX3_takes 78 = .ok (.iconst 0, 1) := by decide +kernel
theorem dX3_takes_79 : decode cX3_takes 79 = .ok (.ireturn, 1) := by decide +kernel
theorem dX3_takes_80 : decode cX3_takes 80 = .ok (.aload_n 0, 1) := by decide +kernel
theorem dX3_takes_81 : decode cX3_takes 81 = .ok (.dup, 1) := by decide +kernel
theorem dX3_takes_82 : decode cX3_takes 82 = .ok (.getfield 31, 3) := by decide +kernel
theorem dX3_takes_85 : decode cX3_takes 85 = .ok (.iconst 1, 1) := by decide +kernel
theorem dX3_takes_86 : decode cX3_takes 86 = .ok (.iadd, 1) := by decide +kernel
theorem dX3_takes_87 : decode cX3_takes 87 = .ok (.putfield 31, 3) := by decide +kernel
theorem dX3_takes_90 : decode cX3_takes 90 = .ok (.aload_n 0, 1) := by decide +kernel
theorem dX3_takes_91 : decode cX3_takes 91 = .ok (.aload_n 0, 1) := by decide +kernel
theorem dX3_takes_92 : decode cX3_takes 92 = .ok (.getfield 9, 3) := by decide +kernel
theorem dX3_takes_95 : decode cX3_takes 95 = .ok (.aload_n 0, 1) := by decide +kernel
theorem dX3_takes_96 : decode cX3_takes 96 = .ok (.getfield 31, 3) := by decide +kernel
theorem dX3_takes_99 : decode cX3_takes 99 = .ok (.invokestatic 45, 3) := by decide +kernel
theorem dX3_takes_102 : decode cX3_takes 102 = .ok (.putfield 9, 3) := by decide +kernel
theorem dX3_takes_105 : decode cX3_takes 105 = .ok (.iconst 1, 1) := by decide +kernel
theorem dX3_takes_106 : decode cX3_takes 106 = .ok (.ireturn, 1) := by decide +kernel
theorem dX3_isBoard_0 : decode cX3_isBoard 0 = .ok (.aload_n 0, 1) := by decide +kernel
theorem dX3_isBoard_1 : decode cX3_isBoard 1 = .ok (.getfield 28, 3) := by decide +kernel
theorem dX3_isBoard_4 : decode cX3_isBoard 4 = .ok (.lconst 0, 1) := by decide +kernel
theorem dX3_isBoard_5 : decode cX3_isBoard 5 = .ok (.lcmp, 1) := by decide +kernel
theorem dX3_isBoard_6 : decode cX3_isBoard 6 = .ok (.ifCond .eq 24, 3) := by decide +kernel
theorem dX3_isBoard_9 : decode cX3_isBoard 9 = .ok (.aload_n 0, 1) := by decide +kernel
theorem dX3_isBoard_10 : decode cX3_isBoard 10 = .ok (.getfield 25, 3) := by decide +kernel
theorem dX3_isBoard_13 : decode cX3_isBoard 13 = .ok (.invokestatic 51, 3) := by decide +kernel
theorem dX3_isBoard_16 : decode cX3_isBoard 16 = .ok (.aload_n 0, 1) := by decide +kernel
theorem dX3_isBoard_17 : decode cX3_isBoard 17 = .ok (.getfield 22, 3) := by decide +kernel
theorem dX3_isBoard_20 : decode cX3_isBoard 20 = .ok (.invokestatic 51, 3) := by decide +kernel
theorem dX3_isBoard_23 : decode cX3_isBoard 23 = .ok (.if_icmp .lt 7, 3) := by decide +kernel
theorem dX3_isBoard_26 : decode cX3_isBoard 26 = .ok (.iconst 1, 1) := by decide +kernel
theorem dX3_isBoard_27 : decode cX3_isBoard 27 = .ok (.goto 4, 3) := by decide +kernel
theorem dX3_isBoard_30 : decode cX3_isBoard 30 = .ok (.iconst 0, 1) := by decide +kernel
theorem dX3_isBoard_31 : decode cX3_isBoard 31 = .ok (.ireturn, 1) := by decide +kernel
theorem dX3_takesSign_0 : decode cX3_takesSign 0 = .ok (.iload_n 1, 1) := by decide +kernel
theorem dX3_takesSign_1 : decode cX3_takesSign 1 = .ok (.lookupswitch 151 #[(32, 87), (35, 75), (36, 95), (42, 101), (43, 129), (46, 89), (64, 123), (95, 87)], 75) := by decide +kernel
theorem dX3_takesSign_76 : decode cX3_takesSign 76 = .ok (.aload_n 0, 1) := by decide +kernel
theorem dX3_takesSign_77 : decode cX3_takesSign 77 = .ok (.dup, 1) := by decide +kernel
theorem dX3_takesSign_78 : decode cX3_takesSign 78 = .ok (.getfield 18, 3) := by decide +kernel
theorem dX3_takesSign_81 : decode cX3_takesSign 81 = .ok (.lload_n 2, 1) := by decide +kernel
theorem dX3_takesSign_82 : decode cX3_takesSign 82 = .ok (.lor, 1) := by decide +kernel
theorem dX3_takesSign_83 : decode cX3_takesSign 83 = .ok (.putfield 18, 3) := by decide +kernel
theorem dX3_takesSign_86 : decode cX3_takesSign 86 = .ok (.iconst 1, 1) := by decide +kernel
theorem dX3_takesSign_87 : decode cX3_takesSign 87 = .ok (.ireturn, 1) := by decide +kernel
theorem dX3_takesSign_88 : decode cX3_takesSign 88 = .ok (.iconst 1, 1) := by decide +kernel
theorem dX3_takesSign_89 : decode cX3_takesSign 89 = .ok (.ireturn, 1) := by decide +kernel
theorem dX3_takesSign_90 : decode cX3_takesSign 90 = .ok (.aload_n 0, 1) := by decide +kernel
theorem dX3_takesSign_91 : decode cX3_takesSign 91 = .ok (.lload_n 2, 1) := by decide +kernel
theorem dX3_takesSign_92 : decode cX3_takesSign 92 = .ok (.invokevirtual 57, 3) := by decide +kernel
theorem dX3_takesSign_95 : decode cX3_takesSign 95 = .ok (.ireturn, 1) := by decide +kernel
theorem dX3_takesSign_96 : decode cX3_takesSign 96 = .ok (.aload_n 0, 1) := by decide +kernel
theorem dX3_takesSign_97 : decode cX3_takesSign 97 = .ok (.lload_n 2, 1) := by decide +kernel
theorem dX3_takesSign_98 : decode cX3_takesSign 98 = .ok (.invokevirtual 61, 3) := by decide +kernel
theorem dX3_takesSign_101 : decode cX3_takesSign 101 = .ok (.ireturn, 1) := by decide +kernel
theorem dX3_takesSign_102 : decode cX3_takesSign 102 = .ok (.aload_n 0, 1) := by decide +kernel
theorem dX3_takesSign_103 : decode cX3_takesSign 103 = .ok (.lload_n 2, 1) := by decide +kernel
theorem dX3_takesSign_104 : decode cX3_takesSign 104 = .ok (.invokevirtual 57, 3) := by decide +kernel
theorem dX3_takesSign_107 : decode cX3_takesSign 107 = .ok (.ifCond .eq 15, 3) := by decide +kernel
theorem dX3_takesSign_110 : decode cX3_takesSign 110 = .ok (.aload_n 0, 1) := by decide +kernel
theorem dX3_takesSign_111 : decode cX3_takesSign 111 = .ok (.lload_n 2, 1) := by decide +kernel
theorem dX3_takesSign_112 : decode cX3_takesSign 112 = .ok (.invokevirtual 61, 3) := by decide +kernel
theorem dX3_takesSign_115 : decode cX3_takesSign 115 = .ok (.ifCond .eq 7, 3) := by decide +kernel
theorem dX3_takesSign_118 : decode cX3_takesSign 118 = .ok (.iconst 1, 1) := by decide +kernel
theorem dX3_takesSign_119 : decode cX3_takesSign 119 = .ok (.goto 4, 3) := by decide +kernel
theorem dX3_takesSign_122 : decode cX3_takesSign 122 = .ok (.iconst 0, 1) := by decide +kernel
theorem dX3_takesSign_123 : decode cX3_takesSign 123 = .ok (.ireturn, 1) := by decide +kernel
theorem dX3_takesSign_124 : decode cX3_takesSign 124 = .ok (.aload_n 0, 1) := by decide +kernel
theorem dX3_takesSign_125 : decode cX3_takesSign 125 = .ok (.lload_n 2, 1) := by decide +kernel
theorem dX3_takesSign_126 : decode cX3_takesSign 126 = .ok (.invokevirtual 64, 3) := by decide +kernel
theorem dX3_takesSign_129 : decode cX3_takesSign 129 = .ok (.ireturn, 1) := by decide +kernel
theorem dX3_takesSign_130 : decode cX3_takesSign 130 = .ok (.aload_n 0, 1) := by decide +kernel
theorem dX3_takesSign_131 : decode cX3_takesSign 131 = .ok (.lload_n 2, 1) := by decide +kernel
theorem dX3_takesSign_132 : decode cX3_takesSign 132 = .ok (.invokevirtual 57, 3) := by decide +kernel
theorem dX3_takesSign_135 : decode cX3_takesSign 135 = .ok (.ifCond .eq 15, 3) := by decide +kernel
theorem dX3_takesSign_138 : decode cX3_takesSign 138 = .ok (.aload_n 0, 1) := by decide +kernel
theorem dX3_takesSign_139 : decode cX3_takesSign 139 = .ok (.lload_n 2, 1) := by decide +kernel
theorem dX3_takesSign_140 : decode cX3_takesSign 140 = .ok (.invokevirtual 64, 3) := by decide +kernel
theorem dX3_takesSign_143 : decode cX3_takesSign 143 = .ok (.ifCond .eq 7, 3) := by decide +kernel
theorem dX3_takesSign_146 : decode cX3_takesSign 146 = .ok (.iconst 1, 1) := by decide +kernel
theorem dX3_takesSign_147 : decode cX3_takesSign 147 = .ok (.goto 4, 3) := by decide +kernel
theorem dX3_takesSign_150 : decode cX3_takesSign 150 = .ok (.iconst 0, 1) := by decide +kernel
theorem dX3_takesSign_151 : decode cX3_takesSign 151 = .ok (.ireturn, 1) := by decide +kernel
theorem dX3_takesSign_152 : decode cX3_takesSign 152 = .ok (.iconst 0, 1) := by decide +kernel
theorem dX3_takesSign_153 : decode cX3_takesSign 153 = .ok (.ireturn, 1) := by decide +kernel
theorem dX3_takesGoal_0 : decode cX3_takesGoal 0 = .ok (.aload_n 0, 1) := by decide +kernel
theorem dX3_takesGoal_1 : decode cX3_takesGoal 1 = .ok (.dup, 1) := by decide +kernel
theorem dX3_takesGoal_2 : decode cX3_takesGoal 2 = .ok (.getfield 22, 3) := by decide +kernel
theorem dX3_takesGoal_5 : decode cX3_takesGoal 5 = .ok (.lload_n 1, 1) := by decide +kernel
theorem dX3_takesGoal_6 : decode cX3_takesGoal 6 = .ok (.lor, 1) := by decide +kernel
theorem dX3_takesGoal_7 : decode cX3_takesGoal 7 = .ok (.putfield 22, 3) := by decide +kernel
theorem dX3_takesGoal_10 : decode cX3_takesGoal 10 = .ok (.aload_n 0, 1) := by decide +kernel
theorem dX3_takesGoal_11 : decode cX3_takesGoal 11 = .ok (.getfield 22, 3) := by decide +kernel
theorem dX3_takesGoal_14 : decode cX3_takesGoal 14 = .ok (.invokestatic 51, 3) := by decide +kernel
theorem dX3_takesGoal_17 : decode cX3_takesGoal 17 = .ok (.bipush 12, 2) := by decide +kernel
theorem dX3_takesGoal_19 : decode cX3_takesGoal 19 = .ok (.if_icmp .gt 7, 3) := by decide +kernel
theorem dX3_takesGoal_22 : decode cX3_takesGoal 22 = .ok (.iconst 1, 1) := by decide +kernel
theorem dX3_takesGoal_23 : decode cX3_takesGoal 23 = .ok (.goto 4, 3) := by decide +kernel
theorem dX3_takesGoal_26 : decode cX3_takesGoal 26 = .ok (.iconst 0, 1) := by decide +kernel
theorem dX3_takesGoal_27 : decode cX3_takesGoal 27 = .ok (.ireturn, 1) := by decide +kernel
theorem dX3_takesBox_0 : decode cX3_takesBox 0 = .ok (.aload_n 0, 1) := by decide +kernel
theorem dX3_takesBox_1 : decode cX3_takesBox 1 = .ok (.dup, 1) := by decide +kernel
theorem dX3_takesBox_2 : decode cX3_takesBox 2 = .ok (.getfield 25, 3) := by decide +kernel
theorem dX3_takesBox_5 : decode cX3_takesBox 5 = .ok (.lload_n 1, 1) := by decide +kernel
theorem dX3_takesBox_6 : decode cX3_takesBox 6 = .ok (.lor, 1) := by decide +kernel
theorem dX3_takesBox_7 : decode cX3_takesBox 7 = .ok (.putfield 25, 3) := by decide +kernel
theorem dX3_takesBox_10 : decode cX3_takesBox 10 = .ok (.aload_n 0, 1) := by decide +kernel
theorem dX3_takesBox_11 : decode cX3_takesBox 11 = .ok (.getfield 25, 3) := by decide +kernel
theorem dX3_takesBox_14 : decode cX3_takesBox 14 = .ok (.invokestatic 51, 3) := by decide +kernel
theorem dX3_takesBox_17 : decode cX3_takesBox 17 = .ok (.bipush 12, 2) := by decide +kernel
theorem dX3_takesBox_19 : decode cX3_takesBox 19 = .ok (.if_icmp .gt 7, 3) := by decide +kernel
theorem dX3_takesBox_22 : decode cX3_takesBox 22 = .ok (.iconst 1, 1) := by decide +kernel
theorem dX3_takesBox_23 : decode cX3_takesBox 23 = .ok (.goto 4, 3) := by decide +kernel
theorem dX3_takesBox_26 : decode cX3_takesBox 26 = .ok (.iconst 0, 1) := by decide +kernel
theorem dX3_takesBox_27 : decode cX3_takesBox 27 = .ok (.ireturn, 1) := by decide +kernel
theorem dX3_takesPerson_0 : decode cX3_takesPerson 0 = .ok (.aload_n 0, 1) := by decide +kernel
theorem dX3_takesPerson_1 : decode cX3_takesPerson 1 = .ok (.getfield 28, 3) := by decide +kernel
theorem dX3_takesPerson_4 : decode cX3_takesPerson 4 = .ok (.lconst 0, 1) := by decide +kernel
theorem dX3_takesPerson_5 : decode cX3_takesPerson 5 = .ok (.lcmp, 1) := by decide +kernel
theorem dX3_takesPerson_6 : decode cX3_takesPerson 6 = .ok (.ifCond .ne 7, 3) := by decide +kernel
theorem dX3_takesPerson_9 : decode cX3_takesPerson 9 = .ok (.iconst 1, 1) := by decide +kernel
theorem dX3_takesPerson_10 : decode cX3_takesPerson 10 = .ok (.goto 4, 3) := by decide +kernel
theorem dX3_takesPerson_13 : decode cX3_takesPerson 13 = .ok (.iconst 0, 1) := by decide +kernel
theorem dX3_takesPerson_14 : decode cX3_takesPerson 14 = .ok (.istore_n 3, 1) := by decide +kernel
theorem dX3_takesPerson_15 : decode cX3_takesPerson 15 = .ok (.aload_n 0, 1) := by decide +kernel
theorem dX3_takesPerson_16 : decode cX3_takesPerson 16 = .ok (.dup, 1) := by decide +kernel
theorem dX3_takesPerson_17 : decode cX3_takesPerson 17 = .ok (.getfield 28, 3) := by decide +kernel
theorem dX3_takesPerson_20 : decode cX3_takesPerson 20 = .ok (.lload_n 1, 1) := by decide +kernel
theorem dX3_takesPerson_21 : decode cX3_takesPerson 21 = .ok (.lor, 1) := by decide +kernel
theorem dX3_takesPerson_22 : decode cX3_takesPerson 22 = .ok (.putfield 28, 3) := by decide +kernel
theorem dX3_takesPerson_25 : decode cX3_takesPerson 25 = .ok (.iload_n 3, 1) := by decide +kernel
theorem dX3_takesPerson_26 : decode cX3_takesPerson 26 = .ok (.ireturn, 1) := by decide +kernel
theorem dX0_init_0 : decode cX0_init 0 = .ok (.aload_n 0, 1) := by decide +kernel
theorem dX0_init_1 : decode cX0_init 1 = .ok (.invokespecial 3, 3) := by decide +kernel
theorem dX0_init_4 : decode cX0_init 4 = .ok (.aload_n 0, 1) := by decide +kernel
theorem dX0_init_5 : decode cX0_init 5 = .ok (.bipush 64, 2) := by decide +kernel
theorem dX0_init_7 : decode cX0_init 7 = .ok (.newarray .int, 2) := by decide +kernel
theorem dX0_init_9 : decode cX0_init 9 = .ok (.putfield 9, 3) := by decide +kernel
theorem dX0_init_12 : decode cX0_init 12 = .ok (.return_, 1) := by decide +kernel
theorem dX0_setUp_0 : decode cX0_setUp 0 = .ok (.aload_n 0, 1) := by decide +kernel
theorem dX0_setUp_1 : decode cX0_setUp 1 = .ok (.aload_n 1, 1) := by decide +kernel
theorem dX0_setUp_2 : decode cX0_setUp 2 = .ok (.getfield 15, 3) := by decide +kernel
theorem dX0_setUp_5 : decode cX0_setUp 5 = .ok (.putfield 21, 3) := by decide +kernel
theorem dX0_setUp_8 : decode cX0_setUp 8 = .ok (.aload_n 0, 1) := by decide +kernel
theorem dX0_setUp_9 : decode cX0_setUp 9 = .ok (.aload_n 1, 1) := by decide +kernel
theorem dX0_setUp_10 : decode cX0_setUp 10 = .ok (.getfield 22, 3) := by decide +kernel
theorem dX0_setUp_13 : decode cX0_setUp 13 = .ok (.putfield 25, 3) := by decide +kernel
theorem dX0_setUp_16 : decode cX0_setUp 16 = .ok (.aload_n 0, 1) := by decide +kernel
theorem dX0_setUp_17 : decode cX0_setUp 17 = .ok (.aload_n 0, 1) := by decide +kernel
theorem dX0_setUp_18 : decode cX0_setUp 18 = .ok (.getfield 21, 3) := by decide +kernel
theorem dX0_setUp_21 : decode cX0_setUp 21 = .ok (.aload_n 0, 1) := by decide +kernel
theorem dX0_setUp_22 : decode cX0_setUp 22 = .ok (.getfield 25, 3) := by decide +kernel
theorem dX0_setUp_25 : decode cX0_setUp 25 = .ok (.invokestatic 26, 3) := by decide +kernel
theorem dX0_setUp_28 : decode cX0_setUp 28 = .ok (.aload_n 1, 1) := by decide +kernel
theorem dX0_setUp_29 : decode cX0_setUp 29 = .ok (.getfield 30, 3) := by decide +kernel
theorem dX0_setUp_32 : decode cX0_setUp 32 = .ok (.ldc2_w 34, 3) := by decide +kernel
theorem dX0_setUp_35 : decode cX0_setUp 35 = .ok (.lxor, 1) := by decide +kernel
theorem dX0_setUp_36 : decode cX0_setUp 36 = .ok (.land, 1) := by decide +kernel
theorem dX0_setUp_37 : decode cX0_setUp 37 = .ok (.putfield 36, 3) := by decide +kernel
theorem dX0_setUp_40 : decode cX0_setUp 40 = .ok (.aload_n 0, 1) := by decide +kernel
theorem dX0_setUp_41 : decode cX0_setUp 41 = .ok (.aload_n 1, 1) := by decide +kernel
theorem dX0_setUp_42 : decode cX0_setUp 42 = .ok (.getfield 39, 3) := by decide +kernel
theorem dX0_setUp_45 : decode cX0_setUp 45 = .ok (.putfield 42, 3) := by decide +kernel
theorem dX0_setUp_48 : decode cX0_setUp 48 = .ok (.aload_n 0, 1) := by decide +kernel
theorem dX0_setUp_49 : decode cX0_setUp 49 = .ok (.aload_n 1, 1) := by decide +kernel
theorem dX0_setUp_50 : decode cX0_setUp 50 = .ok (.getfield 43, 3) := by decide +kernel
theorem dX0_setUp_53 : decode cX0_setUp 53 = .ok (.putfield 46, 3) := by decide +kernel
theorem dX0_setUp_56 : decode cX0_setUp 56 = .ok (.aload_n 0, 1) := by decide +kernel
theorem dX0_setUp_57 : decode cX0_setUp 57 = .ok (.aload_n 1, 1) := by decide +kernel
theorem dX0_setUp_58 : decode cX0_setUp 58 = .ok (.getfield 47, 3) := by decide +kernel
theorem dX0_setUp_61 : decode cX0_setUp 61 = .ok (.putfield 50, 3) := by decide +kernel
theorem dX0_setUp_64 : decode cX0_setUp 64 = .ok (.aload_n 0, 1) := by decide +kernel
theorem dX0_setUp_65 : decode cX0_setUp 65 = .ok (.aload_n 0, 1) := by decide +kernel
theorem dX0_setUp_66 : decode cX0_setUp 66 = .ok (.invokevirtual 51, 3) := by decide +kernel
theorem dX0_setUp_69 : decode cX0_setUp 69 = .ok (.putfield 55, 3) := by decide +kernel
theorem dX0_setUp_72 : decode cX0_setUp 72 = .ok (.aload_n 0, 1) := by decide +kernel
theorem dX0_setUp_73 : decode cX0_setUp 73 = .ok (.aload_n 0, 1) := by decide +kernel
theorem dX0_setUp_74 : decode cX0_setUp 74 = .ok (.getfield 55, 3) := by decide +kernel
theorem dX0_setUp_77 : decode cX0_setUp 77 = .ok (.iconst 0, 1) := by decide +kernel
theorem dX0_setUp_78 : decode cX0_setUp 78 = .ok (.invokestatic 58, 3) := by decide +kernel
theorem dX0_setUp_81 : decode cX0_setUp 81 = .ok (.aload_n 0, 1) := by decide +kernel
theorem dX0_setUp_82 : decode cX0_setUp 82 = .ok (.getfield 55, 3) := by decide +kernel
theorem dX0_setUp_85 : decode cX0_setUp 85 = .ok (.iconst 2, 1) := by decide +kernel
theorem dX0_setUp_86 : decode cX0_setUp 86 = .ok (.invokestatic 58, 3) := by decide +kernel
theorem dX0_setUp_89 : decode cX0_setUp 89 = .ok (.lor, 1) := by decide +kernel
theorem dX0_setUp_90 : decode cX0_setUp 90 = .ok (.putfield 62, 3) := by decide +kernel
theorem dX0_setUp_93 : decode cX0_setUp 93 = .ok (.aload_n 0, 1) := by decide +kernel
theorem dX0_setUp_94 : decode cX0_setUp 94 = .ok (.aload_n 0, 1) := by decide +kernel
theorem dX0_setUp_95 : decode cX0_setUp 95 = .ok (.getfield 55, 3) := by decide +kernel
theorem dX0_setUp_98 : decode cX0_setUp 98 = .ok (.iconst 1, 1) := by decide +kernel
theorem dX0_setUp_99 : decode cX0_setUp 99 = .ok (.invokestatic 58, 3) := by decide +kernel
theorem dX0_setUp_102 : decode cX0_setUp 102 = .ok (.aload_n 0, 1) := by decide +kernel
theorem dX0_setUp_103 : decode cX0_setUp 103 = .ok (.getfield 55, 3) := by decide +kernel
theorem dX0_setUp_106 : decode cX0_setUp 106 = .ok (.iconst 3, 1) := by decide +kernel
theorem dX0_setUp_107 : decode cX0_setUp 107 = .ok (.invokestatic 58, 3) := by decide +kernel
theorem dX0_setUp_110 : decode cX0_setUp 110 = .ok (.lor, 1) := by decide +kernel
theorem dX0_setUp_111 : decode cX0_setUp 111 = .ok (.putfield 65, 3) := by decide +kernel
theorem dX0_setUp_114 : decode cX0_setUp 114 = .ok (.return_, 1) := by decide +kernel
theorem dX0_isThere_0 : decode cX0_isThere 0 = .ok (.aload_n 0, 1) := by decide +kernel
theorem dX0_isThere_1 : decode cX0_isThere 1 = .ok (.getfield 50, 3) := by decide +kernel
theorem dX0_isThere_4 : decode cX0_isThere 4 = .ok (.lconst 0, 1) := by decide +kernel
theorem dX0_isThere_5 : decode cX0_isThere 5 = .ok (.lcmp, 1) := by decide +kernel
theorem dX0_isThere_6 : decode cX0_isThere 6 = .ok (.ifCond .eq 7, 3) := by decide +kernel
theorem dX0_isThere_9 : decode cX0_isThere 9 = .ok (.iconst 1, 1) := by decide +kernel
theorem dX0_isThere_10 : decode cX0_isThere 10 = .ok (.goto 4, 3) := by decide +kernel
theorem dX0_isThere_13 : decode cX0_isThere 13 = .ok (.iconst 0, 1) := by decide +kernel
theorem dX0_isThere_14 : decode cX0_isThere 14 = .ok (.ireturn, 1) := by decide +kernel
theorem dX0_isDone_0 : decode cX0_isDone 0 = .ok (.aload_n 0, 1) := by decide +kernel
theorem dX0_isDone_1 : decode cX0_isDone 1 = .ok (.getfield 42, 3) := by decide +kernel
theorem dX0_isDone_4 : decode cX0_isDone 4 = .ok (.lload_n 1, 1) := by decide +kernel
theorem dX0_isDone_5 : decode cX0_isDone 5 = .ok (.ldc2_w 34, 3) := by decide +kernel
theorem dX0_isDone_8 : decode cX0_isDone 8 = .ok (.lxor, 1) := by decide +kernel
theorem dX0_isDone_9 : decode cX0_isDone 9 = .ok (.land, 1) := by decide +kernel
theorem dX0_isDone_10 : decode cX0_isDone 10 = .ok (.lconst 0, 1) := by decide +kernel
theorem dX0_isDone_11 : decode cX0_isDone 11 = .ok (.lcmp, 1) := by decide +kernel
theorem dX0_isDone_12 : decode cX0_isDone 12 = .ok (.ifCond .ne 7, 3) := by decide +kernel
theorem dX0_isDone_15 : decode cX0_isDone 15 = .ok (.iconst 1, 1) := by decide +kernel
theorem dX0_isDone_16 : decode cX0_isDone 16 = .ok (.goto 4, 3) := by decide +kernel
theorem dX0_isDone_19 : decode cX0_isDone 19 = .ok (.iconst 0, 1) := by decide +kernel
theorem dX0_isDone_20 : decode cX0_isDone 20 = .ok (.ireturn, 1) := by decide +kernel
theorem dX0_cellOf_0 : decode cX0_cellOf 0 = .ok (.lload_n 1, 1) := by decide +kernel
theorem dX0_cellOf_1 : decode cX0_cellOf 1 = .ok (.invokestatic 68, 3) := by decide +kernel
theorem dX0_cellOf_4 : decode cX0_cellOf 4 = .ok (.istore_n 3, 1) := by decide +kernel
theorem dX0_cellOf_5 : decode cX0_cellOf 5 = .ok (.aload_n 0, 1) := by decide +kernel
theorem dX0_cellOf_6 : decode cX0_cellOf 6 = .ok (.getfield 21, 3) := by decide +kernel
theorem dX0_cellOf_9 : decode cX0_cellOf 9 = .ok (.iload_n 3, 1) := by decide +kernel
theorem dX0_cellOf_10 : decode cX0_cellOf 10 = .ok (.bipush 8, 2) := by decide +kernel
theorem dX0_cellOf_12 : decode cX0_cellOf 12 = .ok (.idiv, 1) := by decide +kernel
theorem dX0_cellOf_13 : decode cX0_cellOf 13 = .ok (.imul, 1) := by decide +kernel
theorem dX0_cellOf_14 : decode cX0_cellOf 14 = .ok (.iload_n 3, 1) := by decide +kernel
theorem dX0_cellOf_15 : decode cX0_cellOf 15 = .ok (.bipush 8, 2) := by decide +kernel
theorem dX0_cellOf_17 : decode cX0_cellOf 17 = .ok (.irem, 1) := by decide +kernel
theorem dX0_cellOf_18 : decode cX0_cellOf 18 = .ok (.iadd, 1) := by decide +kernel
theorem dX0_cellOf_19 : decode cX0_cellOf 19 = .ok (.ireturn, 1) := by decide +kernel
theorem dX0_signAt_0 : decode cX0_signAt 0 = .ok (.lload_n 1, 1) := by decide +kernel
theorem dX0_signAt_1 : decode cX0_signAt 1 = .ok (.aload_n 0, 1) := by decide +kernel
theorem dX0_signAt_2 : decode cX0_signAt 2 = .ok (.getfield 42, 3) := by decide +kernel
theorem dX0_signAt_5 : decode cX0_signAt 5 = .ok (.land, 1) := by decide +kernel
theorem dX0_signAt_6 : decode cX0_signAt 6 = .ok (.lconst 0, 1) := by decide +kernel
theorem dX0_signAt_7 : decode cX0_signAt 7 = .ok (.lcmp, 1) := by decide +kernel
theorem dX0_signAt_8 : decode cX0_signAt 8 = .ok (.ifCond .eq 7, 3) := by decide +kernel
theorem dX0_signAt_11 : decode cX0_signAt 11 = .ok (.iconst 1, 1) := by decide +kernel
theorem dX0_signAt_12 : decode cX0_signAt 12 = .ok (.goto 4, 3) := by decide +kernel
theorem dX0_signAt_15 : decode cX0_signAt 15 = .ok (.iconst 0, 1) := by decide +kernel
theorem dX0_signAt_16 : decode cX0_signAt 16 = .ok (.istore_n 3, 1) := by decide +kernel
theorem dX0_signAt_17 : decode cX0_signAt 17 = .ok (.lload_n 1, 1) := by decide +kernel
theorem dX0_signAt_18 : decode cX0_signAt 18 = .ok (.aload_n 0, 1) := by decide +kernel
theorem dX0_signAt_19 : decode cX0_signAt 19 = .ok (.getfield 36, 3) := by decide +kernel
theorem dX0_signAt_22 : decode cX0_signAt 22 = .ok (.land, 1) := by decide +kernel
theorem dX0_signAt_23 : decode cX0_signAt 23 = .ok (.lconst 0, 1) := by decide +kernel
theorem dX0_signAt_24 : decode cX0_signAt 24 = .ok (.lcmp, 1) := by decide +kernel
theorem dX0_signAt_25 : decode cX0_signAt 25 = .ok (.ifCond .ne 6, 3) := by decide +kernel
theorem dX0_signAt_28 : decode cX0_signAt 28 = .ok (.bipush 35, 2) := by decide +kernel
theorem dX0_signAt_30 : decode cX0_signAt 30 = .ok (.ireturn, 1) := by decide +kernel
theorem dX0_signAt_31 : decode cX0_signAt 31 = .ok (.lload_n 1, 1) := by decide +kernel
theorem dX0_signAt_32 : decode cX0_signAt 32 = .ok (.aload_n 0, 1) := by decide +kernel
theorem dX0_signAt_33 : decode cX0_signAt 33 = .ok (.getfield 46, 3) := by decide +kernel
theorem dX0_signAt_36 : decode cX0_signAt 36 = .ok (.land, 1) := by decide +kernel
theorem dX0_signAt_37 : decode cX0_signAt 37 = .ok (.lconst 0, 1) := by decide +kernel
theorem dX0_signAt_38 : decode cX0_signAt 38 = .ok (.lcmp, 1) := by decide +kernel
theorem dX0_signAt_39 : decode cX0_signAt 39 = .ok (.ifCond .eq 15, 3) := by decide +kernel
theorem dX0_signAt_42 : decode cX0_signAt 42 = .ok (.iload_n 3, 1) := by decide +kernel
theorem dX0_signAt_43 : decode cX0_signAt 43 = .ok (.ifCond .eq 8, 3) := by decide +kernel
theorem dX0_signAt_46 : decode cX0_signAt 46 = .ok (.bipush 42, 2) := by decide +kernel
theorem dX0_signAt_48 : decode cX0_signAt 48 = .ok (.goto 5, 3) := by decide +kernel
theorem dX0_signAt_51 : decode cX0_signAt 51 = .ok (.bipush 36, 2) := by decide +kernel
theorem dX0_signAt_53 : decode cX0_signAt 53 = .ok (.ireturn, 1) := by decide +kernel
theorem dX0_signAt_54 : decode cX0_signAt 54 = .ok (.lload_n 1, 1) := by decide +kernel
theorem dX0_signAt_55 : decode cX0_signAt 55 = .ok (.aload_n 0, 1) := by decide +kernel
theorem dX0_signAt_56 : decode cX0_signAt 56 = .ok (.getfield 50, 3) := by decide +kernel
theorem dX0_signAt_59 : decode cX0_signAt 59 = .ok (.land, 1) := by decide +kernel
theorem dX0_signAt_60 : decode cX0_signAt 60 = .ok (.lconst 0, 1) := by decide +kernel
theorem dX0_signAt_61 : decode cX0_signAt 61 = .ok (.lcmp, 1) := by decide +kernel
theorem dX0_signAt_62 : decode cX0_signAt 62 = .ok (.ifCond .eq 15, 3) := by decide +kernel
theorem dX0_signAt_65 : decode cX0_signAt 65 = .ok (.iload_n 3, 1) := by decide +kernel
theorem dX0_signAt_66 : decode cX0_signAt 66 = .ok (.ifCond .eq 8, 3) := by decide +kernel
theorem dX0_signAt_69 : decode cX0_signAt 69 = .ok (.bipush 43, 2) := by decide +kernel
theorem dX0_signAt_71 : decode cX0_signAt 71 = .ok (.goto 5, 3) := by decide +kernel
theorem dX0_signAt_74 : decode cX0_signAt 74 = .ok (.bipush 64, 2) := by decide +kernel
theorem dX0_signAt_76 : decode cX0_signAt 76 = .ok (.ireturn, 1) := by decide +kernel
theorem dX0_signAt_77 : decode cX0_signAt 77 = .ok (.iload_n 3, 1) := by decide +kernel
theorem dX0_signAt_78 : decode cX0_signAt 78 = .ok (.ifCond .eq 8, 3) := by decide +kernel
theorem dX0_signAt_81 : decode cX0_signAt 81 = .ok (.bipush 46, 2) := by decide +kernel
theorem dX0_signAt_83 : decode cX0_signAt 83 = .ok (.goto 5, 3) := by decide +kernel
theorem dX0_signAt_86 : decode cX0_signAt 86 = .ok (.bipush 32, 2) := by decide +kernel
theorem dX0_signAt_88 : decode cX0_signAt 88 = .ok (.ireturn, 1) := by decide +kernel
theorem dX0_go_0 : decode cX0_go 0 = .ok (.aload_n 0, 1) := by decide +kernel
theorem dX0_go_1 : decode cX0_go 1 = .ok (.getfield 50, 3) := by decide +kernel
theorem dX0_go_4 : decode cX0_go 4 = .ok (.iload_n 1, 1) := by decide +kernel
theorem dX0_go_5 : decode cX0_go 5 = .ok (.invokestatic 58, 3) := by decide +kernel
theorem dX0_go_8 : decode cX0_go 8 = .ok (.aload_n 0, 1) := by decide +kernel
theorem dX0_go_9 : decode cX0_go 9 = .ok (.getfield 36, 3) := by decide +kernel
theorem dX0_go_12 : decode cX0_go 12 = .ok (.land, 1) := by decide +kernel
theorem dX0_go_13 : decode cX0_go 13 = .ok (.lstore_n 2, 1) := by decide +kernel
theorem dX0_go_14 : decode cX0_go 14 = .ok (.lload_n 2, 1) := by decide +kernel
theorem dX0_go_15 : decode cX0_go 15 = .ok (.lconst 0, 1) := by decide +kernel
theorem dX0_go_16 : decode cX0_go 16 = .ok (.lcmp, 1) := by decide +kernel
theorem dX0_go_17 : decode cX0_go 17 = .ok (.ifCond .ne 5, 3) := by decide +kernel
theorem dX0_go_20 : decode cX0_go 20 = .ok (.iconst 0, 1) := by decide +kernel
theorem dX0_go_21 : decode cX0_go 21 = .ok (.ireturn, 1) := by decide +kernel
theorem dX0_go_22 : decode cX0_go 22 = .ok (.lload_n 2, 1) := by decide +kernel
theorem dX0_go_23 : decode cX0_go 23 = .ok (.aload_n 0, 1) := by decide +kernel
theorem dX0_go_24 : decode cX0_go 24 = .ok (.getfield 46, 3) := by decide +kernel
theorem dX0_go_27 : decode cX0_go 27 = .ok (.land, 1) := by decide +kernel
theorem dX0_go_28 : decode cX0_go 28 = .ok (.lconst 0, 1) := by decide +kernel
theorem dX0_go_29 : decode cX0_go 29 = .ok (.lcmp, 1) := by decide +kernel
theorem dX0_go_30 : decode cX0_go 30 = .ok (.ifCond .ne 10, 3) := by decide +kernel
theorem dX0_go_33 : decode cX0_go 33 = .ok (.aload_n 0, 1) := by decide +kernel
theorem dX0_go_34 : decode cX0_go 34 = .ok (.lload_n 2, 1) := by decide +kernel
theorem dX0_go_35 : decode cX0_go 35 = .ok (.putfield 50, 3) := by decide +kernel
theorem dX0_go_38 : decode cX0_go 38 = .ok (.iconst 1, 1) := by decide +kernel
theorem dX0_go_39 : decode cX0_go 39 = .ok (.ireturn, 1) := by decide +kernel
theorem dX0_go_40 : decode cX0_go 40 = .ok (.lload_n 2, 1) := by decide +kernel
theorem dX0_go_41 : decode cX0_go 41 = .ok (.iload_n 1, 1) := by decide +kernel
theorem dX0_go_42 : decode cX0_go 42 = .ok (.invokestatic 58, 3) := by decide +kernel
theorem dX0_go_45 : decode cX0_go 45 = .ok (.aload_n 0, 1) := by decide +kernel
theorem dX0_go_46 : decode cX0_go 46 = .ok (.getfield 36, 3) := by decide +kernel
theorem dX0_go_49 : decode cX0_go 49 = .ok (.land, 1) := by decide +kernel
theorem dX0_go_50 : decode cX0_go 50 = .ok (.aload_n 0, 1) := by decide +kernel
theorem dX0_go_51 : decode cX0_go 51 = .ok (.getfield 46, 3) := by decide +kernel
theorem dX0_go_54 : decode cX0_go 54 = .ok (.ldc2_w 34, 3) := by decide +kernel
theorem dX0_go_57 : decode cX0_go 57 = .ok (.lxor, 1) := by decide +kernel
theorem dX0_go_58 : decode cX0_go 58 = .ok (.land, 1) := by decide +kernel
theorem dX0_go_59 : decode cX0_go 59 = .ok (.lstore 4, 2) := by decide +kernel
theorem dX0_go_61 : decode cX0_go 61 = .ok (.lload 4, 2) := by decide +kernel
theorem dX0_go_63 : decode cX0_go 63 = .ok (.lconst 0, 1) := by decide +kernel
theorem dX0_go_64 : decode cX0_go 64 = .ok (.lcmp, 1) := by decide +kernel
theorem dX0_go_65 : decode cX0_go 65 = .ok (.ifCond .ne 5, 3) := by decide +kernel
theorem dX0_go_68 : decode cX0_go 68 = .ok (.iconst 0, 1) := by decide +kernel
theorem dX0_go_69 : decode cX0_go 69 = .ok (.ireturn, 1) := by decide +kernel
theorem dX0_go_70 : decode cX0_go 70 = .ok (.aload_n 0, 1) := by decide +kernel
theorem dX0_go_71 : decode cX0_go 71 = .ok (.dup, 1) := by decide +kernel
theorem dX0_go_72 : decode cX0_go 72 = .ok (.getfield 46, 3) := by decide +kernel
theorem dX0_go_75 : decode cX0_go 75 = .ok (.lload_n 2, 1) := by decide +kernel
theorem dX0_go_76 : decode cX0_go 76 = .ok (.lload 4, 2) := by decide +kernel
theorem dX0_go_78 : decode cX0_go 78 = .ok (.lor, 1) := by decide +kernel
theorem dX0_go_79 : decode cX0_go 79 = .ok (.lxor, 1) := by decide +kernel
theorem dX0_go_80 : decode cX0_go 80 = .ok (.putfield 46, 3) := by decide +kernel
theorem dX0_go_83 : decode cX0_go 83 = .ok (.aload_n 0, 1) := by decide +kernel
theorem dX0_go_84 : decode cX0_go 84 = .ok (.lload_n 2, 1) := by decide +kernel
theorem dX0_go_85 : decode cX0_go 85 = .ok (.putfield 50, 3) := by decide +kernel
theorem dX0_go_88 : decode cX0_go 88 = .ok (.iconst 2, 1) := by decide +kernel
theorem dX0_go_89 : decode cX0_go 89 = .ok (.ireturn, 1) := by decide +kernel
theorem dX0_goBack_0 : decode cX0_goBack 0 = .ok (.iload_n 2, 1) := by decide +kernel
theorem dX0_goBack_1 : decode cX0_goBack 1 = .ok (.ifCond .eq 25, 3) := by decide +kernel
theorem dX0_goBack_4 : decode cX0_goBack 4 = .ok (.aload_n 0, 1) := by decide +kernel
theorem dX0_goBack_5 : decode cX0_goBack 5 = .ok (.dup, 1) := by decide +kernel
theorem dX0_goBack_6 : decode cX0_goBack 6 = .ok (.getfield 46, 3) := by decide +kernel
theorem dX0_goBack_9 : decode cX0_goBack 9 = .ok (.aload_n 0, 1) := by decide +kernel
theorem dX0_goBack_10 : decode cX0_goBack 10 = .ok (.getfield 50, 3) := by decide +kernel
theorem dX0_goBack_13 : decode cX0_goBack 13 = .ok (.aload_n 0, 1) := by decide +kernel
theorem dX0_goBack_14 : decode cX0_goBack 14 = .ok (.getfield 50, 3) := by decide +kernel
theorem dX0_goBack_17 : decode cX0_goBack 17 = .ok (.iload_n 1, 1) := by decide +kernel
theorem dX0_goBack_18 : decode cX0_goBack 18 = .ok (.invokestatic 58, 3) := by decide +kernel
theorem dX0_goBack_21 : decode cX0_goBack 21 = .ok (.lor, 1) := by decide +kernel
theorem dX0_goBack_22 : decode cX0_goBack 22 = .ok (.lxor, 1) := by decide +kernel
theorem dX0_goBack_23 : decode cX0_goBack 23 = .ok (.putfield 46, 3) := by decide +kernel
theorem dX0_goBack_26 : decode cX0_goBack 26 = .ok (.aload_n 0, 1) := by decide +kernel
theorem dX0_goBack_27 : decode cX0_goBack 27 = .ok (.aload_n 0, 1) := by decide +kernel
theorem dX0_goBack_28 : decode cX0_goBack 28 = .ok (.getfield 50, 3) := by decide +kernel
theorem dX0_goBack_31 : decode cX0_goBack 31 = .ok (.iload_n 1, 1) := by decide +kernel
theorem dX0_goBack_32 : decode cX0_goBack 32 = .ok (.invokestatic 72, 3) := by decide +kernel
theorem dX0_goBack_35 : decode cX0_goBack 35 = .ok (.invokestatic 58, 3) := by decide +kernel
theorem dX0_goBack_38 : decode cX0_goBack 38 = .ok (.putfield 50, 3) := by decide +kernel
theorem dX0_goBack_41 : decode cX0_goBack 41 = .ok (.return_, 1) := by decide +kernel
theorem dX0_reachOf_0 : decode cX0_reachOf 0 = .ok (.aload_n 0, 1) := by decide +kernel
theorem dX0_reachOf_1 : decode cX0_reachOf 1 = .ok (.getfield 36, 3) := by decide +kernel
theorem dX0_reachOf_4 : decode cX0_reachOf 4 = .ok (.lload_n 3, 1) := by decide +kernel
theorem dX0_reachOf_5 : decode cX0_reachOf 5 = .ok (.ldc2_w 34, 3) := by decide +kernel
theorem dX0_reachOf_8 : decode cX0_reachOf 8 = .ok (.lxor, 1) := by decide +kernel
theorem dX0_reachOf_9 : decode cX0_reachOf 9 = .ok (.land, 1) := by decide +kernel
theorem dX0_reachOf_10 : decode cX0_reachOf 10 = .ok (.lstore 5, 2) := by decide +kernel
theorem dX0_reachOf_12 : decode cX0_reachOf 12 = .ok (.lload_n 1, 1) := by decide +kernel
theorem dX0_reachOf_13 : decode cX0_reachOf 13 = .ok (.lstore 7, 2) := by decide +kernel
theorem dX0_reachOf_15 : decode cX0_reachOf 15 = .ok (.iconst 0, 1) := by decide +kernel
theorem dX0_reachOf_16 : decode cX0_reachOf 16 = .ok (.istore 9, 2) := by decide +kernel
theorem dX0_reachOf_18 : decode cX0_reachOf 18 = .ok (.iload 9, 2) := by decide +kernel
theorem dX0_reachOf_20 : decode cX0_reachOf 20 = .ok (.bipush 64, 2) := by decide +kernel
theorem dX0_reachOf_22 : decode cX0_reachOf 22 = .ok (.if_icmp .ge 58, 3) := by decide +kernel
theorem dX0_reachOf_25 : decode cX0_reachOf 25 = .ok (.lload 7, 2) := by decide +kernel
theorem dX0_reachOf_27 : decode cX0_reachOf 27 = .ok (.lstore 10, 2) := by decide +kernel
theorem dX0_reachOf_29 : decode cX0_reachOf 29 = .ok (.iconst 0, 1) := by decide +kernel
theorem dX0_reachOf_30 : decode cX0_reachOf 30 = .ok (.istore 12, 2) := by decide +kernel
theorem dX0_reachOf_32 : decode cX0_reachOf 32 = .ok (.iload 12, 2) := by decide +kernel
theorem dX0_reachOf_34 : decode cX0_reachOf 34 = .ok (.iconst 4, 1) := by decide +kernel
theorem dX0_reachOf_35 : decode cX0_reachOf 35 = .ok (.if_icmp .ge 24, 3) := by decide +kernel
theorem dX0_reachOf_38 : decode cX0_reachOf 38 = .ok (.lload 10, 2) := by decide +kernel
theorem dX0_reachOf_40 : decode cX0_reachOf 40 = .ok (.lload 10, 2) := by decide +kernel
theorem dX0_reachOf_42 : decode cX0_reachOf 42 = .ok (.iload 12, 2) := by decide +kernel
theorem dX0_reachOf_44 : decode cX0_reachOf 44 = .ok (.invokestatic 58, 3) := by decide +kernel
theorem dX0_reachOf_47 : decode cX0_reachOf 47 = .ok (.lload 5, 2) := by decide +kernel
end
section
theorem dX0_reachOf_49 : decode cX0_reachOf 49 = .ok (.land, 1) := by decide +kernel
theorem dX0_reachOf_50 : decode cX0_reachOf 50 = .ok (.lor, 1) := by decide +kernel
theorem dX0_reachOf_51 : decode cX0_reachOf 51 = .ok (.lstore 10, 2) := by decide +kernel
theorem dX0_reachOf_53 : decode cX0_reachOf 53 = .ok (.iinc 12 1, 3) := by decide +kernel
theorem dX0_reachOf_56 : decode cX0_reachOf 56 = .ok (.goto (-24), 3) := by decide +kernel
theorem dX0_reachOf_59 : decode cX0_reachOf 59 = .ok (.lload 10, 2) := by decide +kernel
theorem dX0_reachOf_61 : decode cX0_reachOf 61 = .ok (.lload 7, 2) := by decide +kernel
theorem dX0_reachOf_63 : decode cX0_reachOf 63 = .ok (.lcmp, 1) := by decide +kernel
theorem dX0_reachOf_64 : decode cX0_reachOf 64 = .ok (.ifCond .ne 6, 3) := by decide +kernel
theorem dX0_reachOf_67 : decode cX0_reachOf 67 = .ok (.goto 13, 3) := by decide +kernel
theorem dX0_reachOf_70 : decode cX0_reachOf 70 = .ok (.lload 10, 2) := by decide +kernel
theorem dX0_reachOf_72 : decode cX0_reachOf 72 = .ok (.lstore 7, 2) := by decide +kernel
theorem dX0_reachOf_74 : decode cX0_reachOf 74 = .ok (.iinc 9 1, 3) := by decide +kernel
theorem dX0_reachOf_77 : decode cX0_reachOf 77 = .ok (.goto (-59), 3) := by decide +kernel
theorem dX0_reachOf_80 : decode cX0_reachOf 80 = .ok (.lload 7, 2) := by decide +kernel
theorem dX0_reachOf_82 : decode cX0_reachOf 82 = .ok (.lreturn, 1) := by decide +kernel
theorem dX0_stepsTo_0 : decode cX0_stepsTo 0 = .ok (.aload_n 0, 1) := by decide +kernel
theorem dX0_stepsTo_1 : decode cX0_stepsTo 1 = .ok (.getfield 36, 3) := by decide +kernel
theorem dX0_stepsTo_4 : decode cX0_stepsTo 4 = .ok (.aload_n 0, 1) := by decide +kernel
theorem dX0_stepsTo_5 : decode cX0_stepsTo 5 = .ok (.getfield 46, 3) := by decide +kernel
theorem dX0_stepsTo_8 : decode cX0_stepsTo 8 = .ok (.ldc2_w 34, 3) := by decide +kernel
theorem dX0_stepsTo_11 : decode cX0_stepsTo 11 = .ok (.lxor, 1) := by decide +kernel
theorem dX0_stepsTo_12 : decode cX0_stepsTo 12 = .ok (.land, 1) := by decide +kernel
theorem dX0_stepsTo_13 : decode cX0_stepsTo 13 = .ok (.lstore_n 3, 1) := by decide +kernel
theorem dX0_stepsTo_14 : decode cX0_stepsTo 14 = .ok (.aload_n 0, 1) := by decide +kernel
theorem dX0_stepsTo_15 : decode cX0_stepsTo 15 = .ok (.getfield 50, 3) := by decide +kernel
theorem dX0_stepsTo_18 : decode cX0_stepsTo 18 = .ok (.lstore 5, 2) := by decide +kernel
theorem dX0_stepsTo_20 : decode cX0_stepsTo 20 = .ok (.iconst 0, 1) := by decide +kernel
theorem dX0_stepsTo_21 : decode cX0_stepsTo 21 = .ok (.istore 7, 2) := by decide +kernel
theorem dX0_stepsTo_23 : decode cX0_stepsTo 23 = .ok (.iload 7, 2) := by decide +kernel
theorem dX0_stepsTo_25 : decode cX0_stepsTo 25 = .ok (.bipush 64, 2) := by decide +kernel
theorem dX0_stepsTo_27 : decode cX0_stepsTo 27 = .ok (.if_icmp .ge 60, 3) := by decide +kernel
theorem dX0_stepsTo_30 : decode cX0_stepsTo 30 = .ok (.lload 5, 2) := by decide +kernel
theorem dX0_stepsTo_32 : decode cX0_stepsTo 32 = .ok (.lload_n 1, 1) := by decide +kernel
theorem dX0_stepsTo_33 : decode cX0_stepsTo 33 = .ok (.land, 1) := by decide +kernel
theorem dX0_stepsTo_34 : decode cX0_stepsTo 34 = .ok (.lconst 0, 1) := by decide +kernel
theorem dX0_stepsTo_35 : decode cX0_stepsTo 35 = .ok (.lcmp, 1) := by decide +kernel
theorem dX0_stepsTo_36 : decode cX0_stepsTo 36 = .ok (.ifCond .eq 6, 3) := by decide +kernel
theorem dX0_stepsTo_39 : decode cX0_stepsTo 39 = .ok (.iload 7, 2) := by decide +kernel
theorem dX0_stepsTo_41 : decode cX0_stepsTo 41 = .ok (.ireturn, 1) := by decide +kernel
theorem dX0_stepsTo_42 : decode cX0_stepsTo 42 = .ok (.lconst 0, 1) := by decide +kernel
theorem dX0_stepsTo_43 : decode cX0_stepsTo 43 = .ok (.lstore 8, 2) := by decide +kernel
theorem dX0_stepsTo_45 : decode cX0_stepsTo 45 = .ok (.iconst 0, 1) := by decide +kernel
theorem dX0_stepsTo_46 : decode cX0_stepsTo 46 = .ok (.istore 10, 2) := by decide +kernel
theorem dX0_stepsTo_48 : decode cX0_stepsTo 48 = .ok (.iload 10, 2) := by decide +kernel
theorem dX0_stepsTo_50 : decode cX0_stepsTo 50 = .ok (.iconst 4, 1) := by decide +kernel
theorem dX0_stepsTo_51 : decode cX0_stepsTo 51 = .ok (.if_icmp .ge 23, 3) := by decide +kernel
theorem dX0_stepsTo_54 : decode cX0_stepsTo 54 = .ok (.lload 8, 2) := by decide +kernel
theorem dX0_stepsTo_56 : decode cX0_stepsTo 56 = .ok (.lload 5, 2) := by decide +kernel
theorem dX0_stepsTo_58 : decode cX0_stepsTo 58 = .ok (.iload 10, 2) := by decide +kernel
theorem dX0_stepsTo_60 : decode cX0_stepsTo 60 = .ok (.invokestatic 58, 3) := by decide +kernel
theorem dX0_stepsTo_63 : decode cX0_stepsTo 63 = .ok (.lload_n 3, 1) := by decide +kernel
theorem dX0_stepsTo_64 : decode cX0_stepsTo 64 = .ok (.land, 1) := by decide +kernel
theorem dX0_stepsTo_65 : decode cX0_stepsTo 65 = .ok (.lor, 1) := by decide +kernel
theorem dX0_stepsTo_66 : decode cX0_stepsTo 66 = .ok (.lstore 8, 2) := by decide +kernel
theorem dX0_stepsTo_68 : decode cX0_stepsTo 68 = .ok (.iinc 10 1, 3) := by decide +kernel
theorem dX0_stepsTo_71 : decode cX0_stepsTo 71 = .ok (.goto (-23), 3) := by decide +kernel
theorem dX0_stepsTo_74 : decode cX0_stepsTo 74 = .ok (.lload 5, 2) := by decide +kernel
theorem dX0_stepsTo_76 : decode cX0_stepsTo 76 = .ok (.lload 8, 2) := by decide +kernel
theorem dX0_stepsTo_78 : decode cX0_stepsTo 78 = .ok (.lor, 1) := by decide +kernel
theorem dX0_stepsTo_79 : decode cX0_stepsTo 79 = .ok (.lstore 5, 2) := by decide +kernel
theorem dX0_stepsTo_81 : decode cX0_stepsTo 81 = .ok (.iinc 7 1, 3) := by decide +kernel
theorem dX0_stepsTo_84 : decode cX0_stepsTo 84 = .ok (.goto (-61), 3) := by decide +kernel
theorem dX0_stepsTo_87 : decode cX0_stepsTo 87 = .ok (.iconst (-1), 1) := by decide +kernel
theorem dX0_stepsTo_88 : decode cX0_stepsTo 88 = .ok (.ireturn, 1) := by decide +kernel
theorem dX0_fillBoxSteps_0 : decode cX0_fillBoxSteps 0 = .ok (.aload_n 0, 1) := by decide +kernel
theorem dX0_fillBoxSteps_1 : decode cX0_fillBoxSteps 1 = .ok (.getfield 9, 3) := by decide +kernel
theorem dX0_fillBoxSteps_4 : decode cX0_fillBoxSteps 4 = .ok (.iconst (-1), 1) := by decide +kernel
theorem dX0_fillBoxSteps_5 : decode cX0_fillBoxSteps 5 = .ok (.invokestatic 76, 3) := by decide +kernel
theorem dX0_fillBoxSteps_8 : decode cX0_fillBoxSteps 8 = .ok (.lconst 0, 1) := by decide +kernel
theorem dX0_fillBoxSteps_9 : decode cX0_fillBoxSteps 9 = .ok (.lstore_n 3, 1) := by decide +kernel
theorem dX0_fillBoxSteps_10 : decode cX0_fillBoxSteps 10 = .ok (.lload_n 1, 1) := by decide +kernel
theorem dX0_fillBoxSteps_11 : decode cX0_fillBoxSteps 11 = .ok (.aload_n 0, 1) := by decide +kernel
theorem dX0_fillBoxSteps_12 : decode cX0_fillBoxSteps 12 = .ok (.getfield 36, 3) := by decide +kernel
theorem dX0_fillBoxSteps_15 : decode cX0_fillBoxSteps 15 = .ok (.land, 1) := by decide +kernel
theorem dX0_fillBoxSteps_16 : decode cX0_fillBoxSteps 16 = .ok (.lstore 5, 2) := by decide +kernel
theorem dX0_fillBoxSteps_18 : decode cX0_fillBoxSteps 18 = .ok (.iconst 0, 1) := by decide +kernel
theorem dX0_fillBoxSteps_19 : decode cX0_fillBoxSteps 19 = .ok (.istore 7, 2) := by decide +kernel
theorem dX0_fillBoxSteps_21 : decode cX0_fillBoxSteps 21 = .ok (.iload 7, 2) := by decide +kernel
theorem dX0_fillBoxSteps_23 : decode cX0_fillBoxSteps 23 = .ok (.bipush 64, 2) := by decide +kernel
theorem dX0_fillBoxSteps_25 : decode cX0_fillBoxSteps 25 = .ok (.if_icmp .ge 124, 3) := by decide +kernel
theorem dX0_fillBoxSteps_28 : decode cX0_fillBoxSteps 28 = .ok (.lload 5, 2) := by decide +kernel
theorem dX0_fillBoxSteps_30 : decode cX0_fillBoxSteps 30 = .ok (.lconst 0, 1) := by decide +kernel
theorem dX0_fillBoxSteps_31 : decode cX0_fillBoxSteps 31 = .ok (.lcmp, 1) := by decide +kernel
theorem dX0_fillBoxSteps_32 : decode cX0_fillBoxSteps 32 = .ok (.ifCond .eq 117, 3) := by decide +kernel
theorem dX0_fillBoxSteps_35 : decode cX0_fillBoxSteps 35 = .ok (.lload 5, 2) := by decide +kernel
theorem dX0_fillBoxSteps_37 : decode cX0_fillBoxSteps 37 = .ok (.lstore 8, 2) := by decide +kernel
theorem dX0_fillBoxSteps_39 : decode cX0_fillBoxSteps 39 = .ok (.iconst 0, 1) := by decide +kernel
theorem dX0_fillBoxSteps_40 : decode cX0_fillBoxSteps 40 = .ok (.istore 10, 2) := by decide +kernel
theorem dX0_fillBoxSteps_42 : decode cX0_fillBoxSteps 42 = .ok (.iload 10, 2) := by decide +kernel
theorem dX0_fillBoxSteps_44 : decode cX0_fillBoxSteps 44 = .ok (.bipush 64, 2) := by decide +kernel
theorem dX0_fillBoxSteps_46 : decode cX0_fillBoxSteps 46 = .ok (.if_icmp .ge 37, 3) := by decide +kernel
theorem dX0_fillBoxSteps_49 : decode cX0_fillBoxSteps 49 = .ok (.lload 8, 2) := by decide +kernel
theorem dX0_fillBoxSteps_51 : decode cX0_fillBoxSteps 51 = .ok (.lconst 0, 1) := by decide +kernel
theorem dX0_fillBoxSteps_52 : decode cX0_fillBoxSteps 52 = .ok (.lcmp, 1) := by decide +kernel
theorem dX0_fillBoxSteps_53 : decode cX0_fillBoxSteps 53 = .ok (.ifCond .eq 30, 3) := by decide +kernel
theorem dX0_fillBoxSteps_56 : decode cX0_fillBoxSteps 56 = .ok (.aload_n 0, 1) := by decide +kernel
theorem dX0_fillBoxSteps_57 : decode cX0_fillBoxSteps 57 = .ok (.getfield 9, 3) := by decide +kernel
theorem dX0_fillBoxSteps_60 : decode cX0_fillBoxSteps 60 = .ok (.lload 8, 2) := by decide +kernel
theorem dX0_fillBoxSteps_62 : decode cX0_fillBoxSteps 62 = .ok (.invokestatic 68, 3) := by decide +kernel
theorem dX0_fillBoxSteps_65 : decode cX0_fillBoxSteps 65 = .ok (.iload 7, 2) := by decide +kernel
theorem dX0_fillBoxSteps_67 : decode cX0_fillBoxSteps 67 = .ok (.iastore, 1) := by decide +kernel
theorem dX0_fillBoxSteps_68 : decode cX0_fillBoxSteps 68 = .ok (.lload 8, 2) := by decide +kernel
theorem dX0_fillBoxSteps_70 : decode cX0_fillBoxSteps 70 = .ok (.lload 8, 2) := by decide +kernel
theorem dX0_fillBoxSteps_72 : decode cX0_fillBoxSteps 72 = .ok (.lconst 1, 1) := by decide +kernel
theorem dX0_fillBoxSteps_73 : decode cX0_fillBoxSteps 73 = .ok (.lsub, 1) := by decide +kernel
theorem dX0_fillBoxSteps_74 : decode cX0_fillBoxSteps 74 = .ok (.land, 1) := by decide +kernel
theorem dX0_fillBoxSteps_75 : decode cX0_fillBoxSteps 75 = .ok (.lstore 8, 2) := by decide +kernel
theorem dX0_fillBoxSteps_77 : decode cX0_fillBoxSteps 77 = .ok (.iinc 10 1, 3) := by decide +kernel
theorem dX0_fillBoxSteps_80 : decode cX0_fillBoxSteps 80 = .ok (.goto (-38), 3) := by decide +kernel
theorem dX0_fillBoxSteps_83 : decode cX0_fillBoxSteps 83 = .ok (.lload_n 3, 1) := by decide +kernel
theorem dX0_fillBoxSteps_84 : decode cX0_fillBoxSteps 84 = .ok (.lload 5, 2) := by decide +kernel
theorem dX0_fillBoxSteps_86 : decode cX0_fillBoxSteps 86 = .ok (.lor, 1) := by decide +kernel
theorem dX0_fillBoxSteps_87 : decode cX0_fillBoxSteps 87 = .ok (.lstore_n 3, 1) := by decide +kernel
theorem dX0_fillBoxSteps_88 : decode cX0_fillBoxSteps 88 = .ok (.lconst 0, 1) := by decide +kernel
theorem dX0_fillBoxSteps_89 : decode cX0_fillBoxSteps 89 = .ok (.lstore 10, 2) := by decide +kernel
theorem dX0_fillBoxSteps_91 : decode cX0_fillBoxSteps 91 = .ok (.iconst 0, 1) := by decide +kernel
theorem dX0_fillBoxSteps_92 : decode cX0_fillBoxSteps 92 = .ok (.istore 12, 2) := by decide +kernel
theorem dX0_fillBoxSteps_94 : decode cX0_fillBoxSteps 94 = .ok (.iload 12, 2) := by decide +kernel
theorem dX0_fillBoxSteps_96 : decode cX0_fillBoxSteps 96 = .ok (.iconst 4, 1) := by decide +kernel
theorem dX0_fillBoxSteps_97 : decode cX0_fillBoxSteps 97 = .ok (.if_icmp .ge 31, 3) := by decide +kernel
theorem dX0_fillBoxSteps_100 : decode cX0_fillBoxSteps 100 = .ok (.lload 10, 2) := by decide +kernel
theorem dX0_fillBoxSteps_102 : decode cX0_fillBoxSteps 102 = .ok (.lload 5, 2) := by decide +kernel
theorem dX0_fillBoxSteps_104 : decode cX0_fillBoxSteps 104 = .ok (.aload_n 0, 1) := by decide +kernel
theorem dX0_fillBoxSteps_105 : decode cX0_fillBoxSteps 105 = .ok (.getfield 36, 3) := by decide +kernel
theorem dX0_fillBoxSteps_108 : decode cX0_fillBoxSteps 108 = .ok (.iload 12, 2) := by decide +kernel
theorem dX0_fillBoxSteps_110 : decode cX0_fillBoxSteps 110 = .ok (.invokestatic 58, 3) := by decide +kernel
theorem dX0_fillBoxSteps_113 : decode cX0_fillBoxSteps 113 = .ok (.land, 1) := by decide +kernel
theorem dX0_fillBoxSteps_114 : decode cX0_fillBoxSteps 114 = .ok (.iload 12, 2) := by decide +kernel
theorem dX0_fillBoxSteps_116 : decode cX0_fillBoxSteps 116 = .ok (.invokestatic 58, 3) := by decide +kernel
theorem dX0_fillBoxSteps_119 : decode cX0_fillBoxSteps 119 = .ok (.lor, 1) := by decide +kernel
theorem dX0_fillBoxSteps_120 : decode cX0_fillBoxSteps 120 = .ok (.lstore 10, 2) := by decide +kernel
theorem dX0_fillBoxSteps_122 : decode cX0_fillBoxSteps 122 = .ok (.iinc 12 1, 3) := by decide +kernel
theorem dX0_fillBoxSteps_125 : decode cX0_fillBoxSteps 125 = .ok (.goto (-31), 3) := by decide +kernel
theorem dX0_fillBoxSteps_128 : decode cX0_fillBoxSteps 128 = .ok (.lload 10, 2) := by decide +kernel
theorem dX0_fillBoxSteps_130 : decode cX0_fillBoxSteps 130 = .ok (.aload_n 0, 1) := by decide +kernel
theorem dX0_fillBoxSteps_131 : decode cX0_fillBoxSteps 131 = .ok (.getfield 36, 3) := by decide +kernel
theorem dX0_fillBoxSteps_134 : decode cX0_fillBoxSteps 134 = .ok (.land, 1) := by decide +kernel
theorem dX0_fillBoxSteps_135 : decode cX0_fillBoxSteps 135 = .ok (.lload_n 3, 1) := by decide +kernel
theorem dX0_fillBoxSteps_136 : decode cX0_fillBoxSteps 136 = .ok (.ldc2_w 34, 3) := by decide +kernel
theorem dX0_fillBoxSteps_139 : decode cX0_fillBoxSteps 139 = .ok (.lxor, 1) := by decide +kernel
theorem dX0_fillBoxSteps_140 : decode cX0_fillBoxSteps 140 = .ok (.land, 1) := by decide +kernel
theorem dX0_fillBoxSteps_141 : decode cX0_fillBoxSteps 141 = .ok (.lstore 5, 2) := by decide +kernel
theorem dX0_fillBoxSteps_143 : decode cX0_fillBoxSteps 143 = .ok (.iinc 7 1, 3) := by decide +kernel
theorem dX0_fillBoxSteps_146 : decode cX0_fillBoxSteps 146 = .ok (.goto (-125), 3) := by decide +kernel
theorem dX0_fillBoxSteps_149 : decode cX0_fillBoxSteps 149 = .ok (.return_, 1) := by decide +kernel
theorem dX0_standing_0 : decode cX0_standing 0 = .ok (.lload_n 1, 1) := by decide +kernel
theorem dX0_standing_1 : decode cX0_standing 1 = .ok (.lstore_n 3, 1) := by decide +kernel
theorem dX0_standing_2 : decode cX0_standing 2 = .ok (.iconst 0, 1) := by decide +kernel
theorem dX0_standing_3 : decode cX0_standing 3 = .ok (.istore 5, 2) := by decide +kernel
theorem dX0_standing_5 : decode cX0_standing 5 = .ok (.iload 5, 2) := by decide +kernel
theorem dX0_standing_7 : decode cX0_standing 7 = .ok (.bipush 12, 2) := by decide +kernel
theorem dX0_standing_9 : decode cX0_standing 9 = .ok (.if_icmp .gt 87, 3) := by decide +kernel
theorem dX0_standing_12 : decode cX0_standing 12 = .ok (.aload_n 0, 1) := by decide +kernel
theorem dX0_standing_13 : decode cX0_standing 13 = .ok (.getfield 36, 3) := by decide +kernel
theorem dX0_standing_16 : decode cX0_standing 16 = .ok (.lload_n 3, 1) := by decide +kernel
theorem dX0_standing_17 : decode cX0_standing 17 = .ok (.ldc2_w 34, 3) := by decide +kernel
theorem dX0_standing_20 : decode cX0_standing 20 = .ok (.lxor, 1) := by decide +kernel
theorem dX0_standing_21 : decode cX0_standing 21 = .ok (.land, 1) := by decide +kernel
theorem dX0_standing_22 : decode cX0_standing 22 = .ok (.lstore 6, 2) := by decide +kernel
theorem dX0_standing_24 : decode cX0_standing 24 = .ok (.lload 6, 2) := by decide +kernel
theorem dX0_standing_26 : decode cX0_standing 26 = .ok (.iconst 0, 1) := by decide +kernel
theorem dX0_standing_27 : decode cX0_standing 27 = .ok (.invokestatic 58, 3) := by decide +kernel
theorem dX0_standing_30 : decode cX0_standing 30 = .ok (.lload 6, 2) := by decide +kernel
theorem dX0_standing_32 : decode cX0_standing 32 = .ok (.iconst 2, 1) := by decide +kernel
theorem dX0_standing_33 : decode cX0_standing 33 = .ok (.invokestatic 58, 3) := by decide +kernel
theorem dX0_standing_36 : decode cX0_standing 36 = .ok (.land, 1) := by decide +kernel
theorem dX0_standing_37 : decode cX0_standing 37 = .ok (.aload_n 0, 1) := by decide +kernel
theorem dX0_standing_38 : decode cX0_standing 38 = .ok (.getfield 62, 3) := by decide +kernel
theorem dX0_standing_41 : decode cX0_standing 41 = .ok (.land, 1) := by decide +kernel
theorem dX0_standing_42 : decode cX0_standing 42 = .ok (.lstore 8, 2) := by decide +kernel
theorem dX0_standing_44 : decode cX0_standing 44 = .ok (.lload 6, 2) := by decide +kernel
theorem dX0_standing_46 : decode cX0_standing 46 = .ok (.iconst 1, 1) := by decide +kernel
theorem dX0_standing_47 : decode cX0_standing 47 = .ok (.invokestatic 58, 3) := by decide +kernel
theorem dX0_standing_50 : decode cX0_standing 50 = .ok (.lload 6, 2) := by decide +kernel
theorem dX0_standing_52 : decode cX0_standing 52 = .ok (.iconst 3, 1) := by decide +kernel
theorem dX0_standing_53 : decode cX0_standing 53 = .ok (.invokestatic 58, 3) := by decide +kernel
theorem dX0_standing_56 : decode cX0_standing 56 = .ok (.land, 1) := by decide +kernel
theorem dX0_standing_57 : decode cX0_standing 57 = .ok (.aload_n 0, 1) := by decide +kernel
theorem dX0_standing_58 : decode cX0_standing 58 = .ok (.getfield 65, 3) := by decide +kernel
theorem dX0_standing_61 : decode cX0_standing 61 = .ok (.land, 1) := by decide +kernel
theorem dX0_standing_62 : decode cX0_standing 62 = .ok (.lstore 10, 2) := by decide +kernel
theorem dX0_standing_64 : decode cX0_standing 64 = .ok (.lload_n 3, 1) := by decide +kernel
theorem dX0_standing_65 : decode cX0_standing 65 = .ok (.lload 8, 2) := by decide +kernel
theorem dX0_standing_67 : decode cX0_standing 67 = .ok (.lload 10, 2) := by decide +kernel
theorem dX0_standing_69 : decode cX0_standing 69 = .ok (.lor, 1) := by decide +kernel
theorem dX0_standing_70 : decode cX0_standing 70 = .ok (.ldc2_w 34, 3) := by decide +kernel
theorem dX0_standing_73 : decode cX0_standing 73 = .ok (.lxor, 1) := by decide +kernel
theorem dX0_standing_74 : decode cX0_standing 74 = .ok (.land, 1) := by decide +kernel
theorem dX0_standing_75 : decode cX0_standing 75 = .ok (.lstore 12, 2) := by decide +kernel
theorem dX0_standing_77 : decode cX0_standing 77 = .ok (.lload 12, 2) := by decide +kernel
theorem dX0_standing_79 : decode cX0_standing 79 = .ok (.lload_n 3, 1) := by decide +kernel
theorem dX0_standing_80 : decode cX0_standing 80 = .ok (.lcmp, 1) := by decide +kernel
theorem dX0_standing_81 : decode cX0_standing 81 = .ok (.ifCond .ne 6, 3) := by decide +kernel
theorem dX0_standing_84 : decode cX0_standing 84 = .ok (.goto 12, 3) := by decide +kernel
theorem dX0_standing_87 : decode cX0_standing 87 = .ok (.lload 12, 2) := by decide +kernel
theorem dX0_standing_89 : decode cX0_standing 89 = .ok (.lstore_n 3, 1) := by decide +kernel
theorem dX0_standing_90 : decode cX0_standing 90 = .ok (.iinc 5 1, 3) := by decide +kernel
theorem dX0_standing_93 : decode cX0_standing 93 = .ok (.goto (-88), 3) := by decide +kernel
theorem dX0_standing_96 : decode cX0_standing 96 = .ok (.lload_n 3, 1) := by decide +kernel
theorem dX0_standing_97 : decode cX0_standing 97 = .ok (.lreturn, 1) := by decide +kernel
theorem dX0_isStuck_0 : decode cX0_isStuck 0 = .ok (.aload_n 0, 1) := by decide +kernel
theorem dX0_isStuck_1 : decode cX0_isStuck 1 = .ok (.lload_n 1, 1) := by decide +kernel
theorem dX0_isStuck_2 : decode cX0_isStuck 2 = .ok (.invokevirtual 82, 3) := by decide +kernel
theorem dX0_isStuck_5 : decode cX0_isStuck 5 = .ok (.aload_n 0, 1) := by decide +kernel
theorem dX0_isStuck_6 : decode cX0_isStuck 6 = .ok (.getfield 42, 3) := by decide +kernel
theorem dX0_isStuck_9 : decode cX0_isStuck 9 = .ok (.ldc2_w 34, 3) := by decide +kernel
theorem dX0_isStuck_12 : decode cX0_isStuck 12 = .ok (.lxor, 1) := by decide +kernel
theorem dX0_isStuck_13 : decode cX0_isStuck 13 = .ok (.land, 1) := by decide +kernel
theorem dX0_isStuck_14 : decode cX0_isStuck 14 = .ok (.lconst 0, 1) := by decide +kernel
theorem dX0_isStuck_15 : decode cX0_isStuck 15 = .ok (.lcmp, 1) := by decide +kernel
theorem dX0_isStuck_16 : decode cX0_isStuck 16 = .ok (.ifCond .eq 7, 3) := by decide +kernel
theorem dX0_isStuck_19 : decode cX0_isStuck 19 = .ok (.iconst 1, 1) := by decide +kernel
theorem dX0_isStuck_20 : decode cX0_isStuck 20 = .ok (.goto 4, 3) := by decide +kernel
theorem dX0_isStuck_23 : decode cX0_isStuck 23 = .ok (.iconst 0, 1) := by decide +kernel
theorem dX0_isStuck_24 : decode cX0_isStuck 24 = .ok (.ireturn, 1) := by decide +kernel
theorem dX0_liveCells_0 : decode cX0_liveCells 0 = .ok (.aload_n 0, 1) := by decide +kernel
theorem dX0_liveCells_1 : decode cX0_liveCells 1 = .ok (.getfield 42, 3) := by decide +kernel
theorem dX0_liveCells_4 : decode cX0_liveCells 4 = .ok (.lstore_n 1, 1) := by decide +kernel
theorem dX0_liveCells_5 : decode cX0_liveCells 5 = .ok (.iconst 0, 1) := by decide +kernel
theorem dX0_liveCells_6 : decode cX0_liveCells 6 = .ok (.istore_n 3, 1) := by decide +kernel
theorem dX0_liveCells_7 : decode cX0_liveCells 7 = .ok (.iload_n 3, 1) := by decide +kernel
theorem dX0_liveCells_8 : decode cX0_liveCells 8 = .ok (.bipush 64, 2) := by decide +kernel
theorem dX0_liveCells_10 : decode cX0_liveCells 10 = .ok (.if_icmp .ge 70, 3) := by decide +kernel
theorem dX0_liveCells_13 : decode cX0_liveCells 13 = .ok (.lload_n 1, 1) := by decide +kernel
theorem dX0_liveCells_14 : decode cX0_liveCells 14 = .ok (.lstore 4, 2) := by decide +kernel
theorem dX0_liveCells_16 : decode cX0_liveCells 16 = .ok (.iconst 0, 1) := by decide +kernel
theorem dX0_liveCells_17 : decode cX0_liveCells 17 = .ok (.istore 6, 2) := by decide +kernel
theorem dX0_liveCells_19 : decode cX0_liveCells 19 = .ok (.iload 6, 2) := by decide +kernel
theorem dX0_liveCells_21 : decode cX0_liveCells 21 = .ok (.iconst 4, 1) := by decide +kernel
theorem dX0_liveCells_22 : decode cX0_liveCells 22 = .ok (.if_icmp .ge 39, 3) := by decide +kernel
theorem dX0_liveCells_25 : decode cX0_liveCells 25 = .ok (.lload 4, 2) := by decide +kernel
theorem dX0_liveCells_27 : decode cX0_liveCells 27 = .ok (.aload_n 0, 1) := by decide +kernel
theorem dX0_liveCells_28 : decode cX0_liveCells 28 = .ok (.getfield 36, 3) := by decide +kernel
theorem dX0_liveCells_31 : decode cX0_liveCells 31 = .ok (.lload 4, 2) := by decide +kernel
theorem dX0_liveCells_33 : decode cX0_liveCells 33 = .ok (.iload 6, 2) := by decide +kernel
theorem dX0_liveCells_35 : decode cX0_liveCells 35 = .ok (.invokestatic 72, 3) := by decide +kernel
theorem dX0_liveCells_38 : decode cX0_liveCells 38 = .ok (.invokestatic 58, 3) := by decide +kernel
theorem dX0_liveCells_41 : decode cX0_liveCells 41 = .ok (.land, 1) := by decide +kernel
theorem dX0_liveCells_42 : decode cX0_liveCells 42 = .ok (.aload_n 0, 1) := by decide +kernel
theorem dX0_liveCells_43 : decode cX0_liveCells 43 = .ok (.getfield 36, 3) := by decide +kernel
theorem dX0_liveCells_46 : decode cX0_liveCells 46 = .ok (.iload 6, 2) := by decide +kernel
theorem dX0_liveCells_48 : decode cX0_liveCells 48 = .ok (.invokestatic 58, 3) := by decide +kernel
theorem dX0_liveCells_51 : decode cX0_liveCells 51 = .ok (.land, 1) := by decide +kernel
theorem dX0_liveCells_52 : decode cX0_liveCells 52 = .ok (.lor, 1) := by decide +kernel
theorem dX0_liveCells_53 : decode cX0_liveCells 53 = .ok (.lstore 4, 2) := by decide +kernel
theorem dX0_liveCells_55 : decode cX0_liveCells 55 = .ok (.iinc 6 1, 3) := by decide +kernel
theorem dX0_liveCells_58 : decode cX0_liveCells 58 = .ok (.goto (-39), 3) := by decide +kernel
theorem dX0_liveCells_61 : decode cX0_liveCells 61 = .ok (.lload 4, 2) := by decide +kernel
theorem dX0_liveCells_63 : decode cX0_liveCells 63 = .ok (.lload_n 1, 1) := by decide +kernel
theorem dX0_liveCells_64 : decode cX0_liveCells 64 = .ok (.lcmp, 1) := by decide +kernel
theorem dX0_liveCells_65 : decode cX0_liveCells 65 = .ok (.ifCond .ne 6, 3) := by decide +kernel
theorem dX0_liveCells_68 : decode cX0_liveCells 68 = .ok (.goto 12, 3) := by decide +kernel
theorem dX0_liveCells_71 : decode cX0_liveCells 71 = .ok (.lload 4, 2) := by decide +kernel
theorem dX0_liveCells_73 : decode cX0_liveCells 73 = .ok (.lstore_n 1, 1) := by decide +kernel
theorem dX0_liveCells_74 : decode cX0_liveCells 74 = .ok (.iinc 3 1, 3) := by decide +kernel
theorem dX0_liveCells_77 : decode cX0_liveCells 77 = .ok (.goto (-70), 3) := by decide +kernel
theorem dX0_liveCells_80 : decode cX0_liveCells 80 = .ok (.lload_n 1, 1) := by decide +kernel
theorem dX0_liveCells_81 : decode cX0_liveCells 81 = .ok (.lreturn, 1) := by decide +kernel
theorem dX0_rectangle_0 : decode cX0_rectangle 0 = .ok (.lconst 0, 1) := by decide +kernel
theorem dX0_rectangle_1 : decode cX0_rectangle 1 = .ok (.lstore_n 2, 1) := by decide +kernel
theorem dX0_rectangle_2 : decode cX0_rectangle 2 = .ok (.iconst 0, 1) := by decide +kernel
theorem dX0_rectangle_3 : decode cX0_rectangle 3 = .ok (.istore 4, 2) := by decide +kernel
theorem dX0_rectangle_5 : decode cX0_rectangle 5 = .ok (.iload 4, 2) := by decide +kernel
theorem dX0_rectangle_7 : decode cX0_rectangle 7 = .ok (.iload_n 1, 1) := by decide +kernel
theorem dX0_rectangle_8 : decode cX0_rectangle 8 = .ok (.if_icmp .ge 34, 3) := by decide +kernel
theorem dX0_rectangle_11 : decode cX0_rectangle 11 = .ok (.iconst 0, 1) := by decide +kernel
theorem dX0_rectangle_12 : decode cX0_rectangle 12 = .ok (.istore 5, 2) := by decide +kernel
theorem dX0_rectangle_14 : decode cX0_rectangle 14 = .ok (.iload 5, 2) := by decide +kernel
theorem dX0_rectangle_16 : decode cX0_rectangle 16 = .ok (.iload_n 0, 1) := by decide +kernel
theorem dX0_rectangle_17 : decode cX0_rectangle 17 = .ok (.if_icmp .ge 19, 3) := by decide +kernel
theorem dX0_rectangle_20 : decode cX0_rectangle 20 = .ok (.lload_n 2, 1) := by decide +kernel
theorem dX0_rectangle_21 : decode cX0_rectangle 21 = .ok (.iload 5, 2) := by decide +kernel
theorem dX0_rectangle_23 : decode cX0_rectangle 23 = .ok (.iload 4, 2) := by decide +kernel
theorem dX0_rectangle_25 : decode cX0_rectangle 25 = .ok (.invokestatic 86, 3) := by decide +kernel
theorem dX0_rectangle_28 : decode cX0_rectangle 28 = .ok (.lor, 1) := by decide +kernel
theorem dX0_rectangle_29 : decode cX0_rectangle 29 = .ok (.lstore_n 2, 1) := by decide +kernel
theorem dX0_rectangle_30 : decode cX0_rectangle 30 = .ok (.iinc 5 1, 3) := by decide +kernel
theorem dX0_rectangle_33 : decode cX0_rectangle 33 = .ok (.goto (-19), 3) := by decide +kernel
theorem dX0_rectangle_36 : decode cX0_rectangle 36 = .ok (.iinc 4 1, 3) := by decide +kernel
theorem dX0_rectangle_39 : decode cX0_rectangle 39 = .ok (.goto (-34), 3) := by decide +kernel
theorem dX0_rectangle_42 : decode cX0_rectangle 42 = .ok (.lload_n 2, 1) := by decide +kernel
theorem dX0_rectangle_43 : decode cX0_rectangle 43 = .ok (.lreturn, 1) := by decide +kernel
theorem dX1_init_0 : decode cX1_init 0 = .ok (.aload_n 0, 1) := by decide +kernel
theorem dX1_init_1 : decode cX1_init 1 = .ok (.invokespecial 1, 3) := by decide +kernel
theorem dX1_init_4 : decode cX1_init 4 = .ok (.aload_n 0, 1) := by decide +kernel
theorem dX1_init_5 : decode cX1_init 5 = .ok (.sipush 500, 3) := by decide +kernel
theorem dX1_init_8 : decode cX1_init 8 = .ok (.newarray .int, 2) := by decide +kernel
theorem dX1_init_10 : decode cX1_init 10 = .ok (.putfield 9, 3) := by decide +kernel
theorem dX1_init_13 : decode cX1_init 13 = .ok (.return_, 1) := by decide +kernel
theorem dX1_isPush_0 : decode cX1_isPush 0 = .ok (.iload_n 0, 1) := by decide +kernel
theorem dX1_isPush_1 : decode cX1_isPush 1 = .ok (.iconst 4, 1) := by decide +kernel
theorem dX1_isPush_2 : decode cX1_isPush 2 = .ok (.if_icmp .lt 7, 3) := by decide +kernel
theorem dX1_isPush_5 : decode cX1_isPush 5 = .ok (.iconst 1, 1) := by decide +kernel
theorem dX1_isPush_6 : decode cX1_isPush 6 = .ok (.goto 4, 3) := by decide +kernel
theorem dX1_isPush_9 : decode cX1_isPush 9 = .ok (.iconst 0, 1) := by decide +kernel
theorem dX1_isPush_10 : decode cX1_isPush 10 = .ok (.ireturn, 1) := by decide +kernel
theorem dX1_wayOf_0 : decode cX1_wayOf 0 = .ok (.iload_n 0, 1) := by decide +kernel
theorem dX1_wayOf_1 : decode cX1_wayOf 1 = .ok (.iconst 3, 1) := by decide +kernel
theorem dX1_wayOf_2 : decode cX1_wayOf 2 = .ok (.iand, 1) := by decide +kernel
theorem dX1_wayOf_3 : decode cX1_wayOf 3 = .ok (.ireturn, 1) := by decide +kernel
theorem dX1_clear_0 : decode cX1_clear 0 = .ok (.aload_n 0, 1) := by decide +kernel
theorem dX1_clear_1 : decode cX1_clear 1 = .ok (.iconst 0, 1) := by decide +kernel
theorem dX1_clear_2 : decode cX1_clear 2 = .ok (.putfield 13, 3) := by decide +kernel
theorem dX1_clear_5 : decode cX1_clear 5 = .ok (.aload_n 0, 1) := by decide +kernel
theorem dX1_clear_6 : decode cX1_clear 6 = .ok (.iconst 0, 1) := by decide +kernel
theorem dX1_clear_7 : decode cX1_clear 7 = .ok (.putfield 17, 3) := by decide +kernel
theorem dX1_clear_10 : decode cX1_clear 10 = .ok (.aload_n 0, 1) := by decide +kernel
theorem dX1_clear_11 : decode cX1_clear 11 = .ok (.iconst 0, 1) := by decide +kernel
theorem dX1_clear_12 : decode cX1_clear 12 = .ok (.putfield 20, 3) := by decide +kernel
theorem dX1_clear_15 : decode cX1_clear 15 = .ok (.aload_n 0, 1) := by decide +kernel
theorem dX1_clear_16 : decode cX1_clear 16 = .ok (.iconst 0, 1) := by decide +kernel
theorem dX1_clear_17 : decode cX1_clear 17 = .ok (.putfield 23, 3) := by decide +kernel
theorem dX1_clear_20 : decode cX1_clear 20 = .ok (.return_, 1) := by decide +kernel
theorem dX1_add_0 : decode cX1_add 0 = .ok (.aload_n 0, 1) := by decide +kernel
theorem dX1_add_1 : decode cX1_add 1 = .ok (.getfield 9, 3) := by decide +kernel
theorem dX1_add_4 : decode cX1_add 4 = .ok (.aload_n 0, 1) := by decide +kernel
theorem dX1_add_5 : decode cX1_add 5 = .ok (.getfield 23, 3) := by decide +kernel
theorem dX1_add_8 : decode cX1_add 8 = .ok (.iload_n 2, 1) := by decide +kernel
theorem dX1_add_9 : decode cX1_add 9 = .ok (.ifCond .eq 9, 3) := by decide +kernel
theorem dX1_add_12 : decode cX1_add 12 = .ok (.iload_n 1, 1) := by decide +kernel
theorem dX1_add_13 : decode cX1_add 13 = .ok (.iconst 4, 1) := by decide +kernel
theorem dX1_add_14 : decode cX1_add 14 = .ok (.iadd, 1) := by decide +kernel
theorem dX1_add_15 : decode cX1_add 15 = .ok (.goto 4, 3) := by decide +kernel
theorem dX1_add_18 : decode cX1_add 18 = .ok (.iload_n 1, 1) := by decide +kernel
theorem dX1_add_19 : decode cX1_add 19 = .ok (.iastore, 1) := by decide +kernel
theorem dX1_add_20 : decode cX1_add 20 = .ok (.aload_n 0, 1) := by decide +kernel
theorem dX1_add_21 : decode cX1_add 21 = .ok (.aload_n 0, 1) := by decide +kernel
theorem dX1_add_22 : decode cX1_add 22 = .ok (.getfield 23, 3) := by decide +kernel
theorem dX1_add_25 : decode cX1_add 25 = .ok (.iconst 1, 1) := by decide +kernel
theorem dX1_add_26 : decode cX1_add 26 = .ok (.iadd, 1) := by decide +kernel
theorem dX1_add_27 : decode cX1_add 27 = .ok (.sipush 500, 3) := by decide +kernel
theorem dX1_add_30 : decode cX1_add 30 = .ok (.irem, 1) := by decide +kernel
theorem dX1_add_31 : decode cX1_add 31 = .ok (.putfield 23, 3) := by decide +kernel
theorem dX1_add_34 : decode cX1_add 34 = .ok (.aload_n 0, 1) := by decide +kernel
theorem dX1_add_35 : decode cX1_add 35 = .ok (.aload_n 0, 1) := by decide +kernel
theorem dX1_add_36 : decode cX1_add 36 = .ok (.getfield 13, 3) := by decide +kernel
theorem dX1_add_39 : decode cX1_add 39 = .ok (.iconst 1, 1) := by decide +kernel
theorem dX1_add_40 : decode cX1_add 40 = .ok (.iadd, 1) := by decide +kernel
theorem dX1_add_41 : decode cX1_add 41 = .ok (.sipush 500, 3) := by decide +kernel
theorem dX1_add_44 : decode cX1_add 44 = .ok (.invokestatic 26, 3) := by decide +kernel
theorem dX1_add_47 : decode cX1_add 47 = .ok (.putfield 13, 3) := by decide +kernel
theorem dX1_add_50 : decode cX1_add 50 = .ok (.aload_n 0, 1) := by decide +kernel
theorem dX1_add_51 : decode cX1_add 51 = .ok (.dup, 1) := by decide +kernel
theorem dX1_add_52 : decode cX1_add 52 = .ok (.getfield 17, 3) := by decide +kernel
theorem dX1_add_55 : decode cX1_add 55 = .ok (.iconst 1, 1) := by decide +kernel
theorem dX1_add_56 : decode cX1_add 56 = .ok (.iadd, 1) := by decide +kernel
theorem dX1_add_57 : decode cX1_add 57 = .ok (.putfield 17, 3) := by decide +kernel
theorem dX1_add_60 : decode cX1_add 60 = .ok (.aload_n 0, 1) := by decide +kernel
theorem dX1_add_61 : decode cX1_add 61 = .ok (.dup, 1) := by decide +kernel
theorem dX1_add_62 : decode cX1_add 62 = .ok (.getfield 20, 3) := by decide +kernel
theorem dX1_add_65 : decode cX1_add 65 = .ok (.iload_n 2, 1) := by decide +kernel
theorem dX1_add_66 : decode cX1_add 66 = .ok (.ifCond .eq 7, 3) := by decide +kernel
theorem dX1_add_69 : decode cX1_add 69 = .ok (.iconst 1, 1) := by decide +kernel
theorem dX1_add_70 : decode cX1_add 70 = .ok (.goto 4, 3) := by decide +kernel
theorem dX1_add_73 : decode cX1_add 73 = .ok (.iconst 0, 1) := by decide +kernel
theorem dX1_add_74 : decode cX1_add 74 = .ok (.iadd, 1) := by decide +kernel
theorem dX1_add_75 : decode cX1_add 75 = .ok (.putfield 20, 3) := by decide +kernel
theorem dX1_add_78 : decode cX1_add 78 = .ok (.return_, 1) := by decide +kernel
theorem dX1_takeLast_0 : decode cX1_takeLast 0 = .ok (.aload_n 0, 1) := by decide +kernel
theorem dX1_takeLast_1 : decode cX1_takeLast 1 = .ok (.aload_n 0, 1) := by decide +kernel
theorem dX1_takeLast_2 : decode cX1_takeLast 2 = .ok (.getfield 23, 3) := by decide +kernel
theorem dX1_takeLast_5 : decode cX1_takeLast 5 = .ok (.sipush 500, 3) := by decide +kernel
theorem dX1_takeLast_8 : decode cX1_takeLast 8 = .ok (.iadd, 1) := by decide +kernel
theorem dX1_takeLast_9 : decode cX1_takeLast 9 = .ok (.iconst 1, 1) := by decide +kernel
theorem dX1_takeLast_10 : decode cX1_takeLast 10 = .ok (.isub, 1) := by decide +kernel
theorem dX1_takeLast_11 : decode cX1_takeLast 11 = .ok (.sipush 500, 3) := by decide +kernel
theorem dX1_takeLast_14 : decode cX1_takeLast 14 = .ok (.irem, 1) := by decide +kernel
theorem dX1_takeLast_15 : decode cX1_takeLast 15 = .ok (.putfield 23, 3) := by decide +kernel
theorem dX1_takeLast_18 : decode cX1_takeLast 18 = .ok (.aload_n 0, 1) := by decide +kernel
theorem dX1_takeLast_19 : decode cX1_takeLast 19 = .ok (.getfield 9, 3) := by decide +kernel
theorem dX1_takeLast_22 : decode cX1_takeLast 22 = .ok (.aload_n 0, 1) := by decide +kernel
theorem dX1_takeLast_23 : decode cX1_takeLast 23 = .ok (.getfield 23, 3) := by decide +kernel
theorem dX1_takeLast_26 : decode cX1_takeLast 26 = .ok (.iaload, 1) := by decide +kernel
theorem dX1_takeLast_27 : decode cX1_takeLast 27 = .ok (.istore_n 1, 1) := by decide +kernel
theorem dX1_takeLast_28 : decode cX1_takeLast 28 = .ok (.aload_n 0, 1) := by decide +kernel
theorem dX1_takeLast_29 : decode cX1_takeLast 29 = .ok (.dup, 1) := by decide +kernel
theorem dX1_takeLast_30 : decode cX1_takeLast 30 = .ok (.getfield 13, 3) := by decide +kernel
theorem dX1_takeLast_33 : decode cX1_takeLast 33 = .ok (.iconst 1, 1) := by decide +kernel
theorem dX1_takeLast_34 : decode cX1_takeLast 34 = .ok (.isub, 1) := by decide +kernel
theorem dX1_takeLast_35 : decode cX1_takeLast 35 = .ok (.putfield 13, 3) := by decide +kernel
theorem dX1_takeLast_38 : decode cX1_takeLast 38 = .ok (.aload_n 0, 1) := by decide +kernel
theorem dX1_takeLast_39 : decode cX1_takeLast 39 = .ok (.dup, 1) := by decide +kernel
theorem dX1_takeLast_40 : decode cX1_takeLast 40 = .ok (.getfield 17, 3) := by decide +kernel
theorem dX1_takeLast_43 : decode cX1_takeLast 43 = .ok (.iconst 1, 1) := by decide +kernel
theorem dX1_takeLast_44 : decode cX1_takeLast 44 = .ok (.isub, 1) := by decide +kernel
theorem dX1_takeLast_45 : decode cX1_takeLast 45 = .ok (.putfield 17, 3) := by decide +kernel
theorem dX1_takeLast_48 : decode cX1_takeLast 48 = .ok (.aload_n 0, 1) := by decide +kernel
theorem dX1_takeLast_49 : decode cX1_takeLast 49 = .ok (.dup, 1) := by decide +kernel
theorem dX1_takeLast_50 : decode cX1_takeLast 50 = .ok (.getfield 20, 3) := by decide +kernel
theorem dX1_takeLast_53 : decode cX1_takeLast 53 = .ok (.iload_n 1, 1) := by decide +kernel
theorem dX1_takeLast_54 : decode cX1_takeLast 54 = .ok (.invokestatic 32, 3) := by decide +kernel
theorem dX1_takeLast_57 : decode cX1_takeLast 57 = .ok (.ifCond .eq 7, 3) := by decide +kernel
theorem dX1_takeLast_60 : decode cX1_takeLast 60 = .ok (.iconst 1, 1) := by decide +kernel
theorem dX1_takeLast_61 : decode cX1_takeLast 61 = .ok (.goto 4, 3) := by decide +kernel
theorem dX1_takeLast_64 : decode cX1_takeLast 64 = .ok (.iconst 0, 1) := by decide +kernel
theorem dX1_takeLast_65 : decode cX1_takeLast 65 = .ok (.isub, 1) := by decide +kernel
theorem dX1_takeLast_66 : decode cX1_takeLast 66 = .ok (.putfield 20, 3) := by decide +kernel
theorem dX1_takeLast_69 : decode cX1_takeLast 69 = .ok (.iload_n 1, 1) := by decide +kernel
theorem dX1_takeLast_70 : decode cX1_takeLast 70 = .ok (.ireturn, 1) := by decide +kernel
theorem dX1_letterAt_0 : decode cX1_letterAt 0 = .ok (.aload_n 0, 1) := by decide +kernel
theorem dX1_letterAt_1 : decode cX1_letterAt 1 = .ok (.getfield 9, 3) := by decide +kernel
theorem dX1_letterAt_4 : decode cX1_letterAt 4 = .ok (.aload_n 0, 1) := by decide +kernel
theorem dX1_letterAt_5 : decode cX1_letterAt 5 = .ok (.getfield 23, 3) := by decide +kernel
theorem dX1_letterAt_8 : decode cX1_letterAt 8 = .ok (.sipush 500, 3) := by decide +kernel
theorem dX1_letterAt_11 : decode cX1_letterAt 11 = .ok (.iadd, 1) := by decide +kernel
theorem dX1_letterAt_12 : decode cX1_letterAt 12 = .ok (.aload_n 0, 1) := by decide +kernel
theorem dX1_letterAt_13 : decode cX1_letterAt 13 = .ok (.getfield 13, 3) := by decide +kernel
theorem dX1_letterAt_16 : decode cX1_letterAt 16 = .ok (.isub, 1) := by decide +kernel
theorem dX1_letterAt_17 : decode cX1_letterAt 17 = .ok (.iload_n 1, 1) := by decide +kernel
theorem dX1_letterAt_18 : decode cX1_letterAt 18 = .ok (.iadd, 1) := by decide +kernel
theorem dX1_letterAt_19 : decode cX1_letterAt 19 = .ok (.sipush 500, 3) := by decide +kernel
theorem dX1_letterAt_22 : decode cX1_letterAt 22 = .ok (.irem, 1) := by decide +kernel
theorem dX1_letterAt_23 : decode cX1_letterAt 23 = .ok (.iaload, 1) := by decide +kernel
theorem dX1_letterAt_24 : decode cX1_letterAt 24 = .ok (.istore_n 2, 1) := by decide +kernel
theorem dX1_letterAt_25 : decode cX1_letterAt 25 = .ok (.ldc 36, 2) := by decide +kernel
theorem dX1_letterAt_27 : decode cX1_letterAt 27 = .ok (.iload_n 2, 1) := by decide +kernel
theorem dX1_letterAt_28 : decode cX1_letterAt 28 = .ok (.ldc 36, 2) := by decide +kernel
theorem dX1_letterAt_30 : decode cX1_letterAt 30 = .ok (.invokevirtual 38, 3) := by decide +kernel
theorem dX1_letterAt_33 : decode cX1_letterAt 33 = .ok (.iconst 1, 1) := by decide +kernel
theorem dX1_letterAt_34 : decode cX1_letterAt 34 = .ok (.isub, 1) := by decide +kernel
theorem dX1_letterAt_35 : decode cX1_letterAt 35 = .ok (.iand, 1) := by decide +kernel
theorem dX1_letterAt_36 : decode cX1_letterAt 36 = .ok (.invokevirtual 44, 3) := by decide +kernel
theorem dX1_letterAt_39 : decode cX1_letterAt 39 = .ok (.ireturn, 1) := by decide +kernel
theorem dX2_init_0 : decode cX2_init 0 = .ok (.aload_n 0, 1) := by decide +kernel
theorem dX2_init_1 : decode cX2_init 1 = .ok (.invokespecial 3, 3) := by decide +kernel
theorem dX2_init_4 : decode cX2_init 4 = .ok (.aload_n 0, 1) := by decide +kernel
theorem dX2_init_5 : decode cX2_init 5 = .ok (.sipush 169, 3) := by decide +kernel
theorem dX2_init_8 : decode cX2_init 8 = .ok (.newarray .int, 2) := by decide +kernel
theorem dX2_init_10 : decode cX2_init 10 = .ok (.putfield 11, 3) := by decide +kernel
theorem dX2_init_13 : decode cX2_init 13 = .ok (.aload_n 0, 1) := by decide +kernel
theorem dX2_init_14 : decode cX2_init 14 = .ok (.bipush 13, 2) := by decide +kernel
theorem dX2_init_16 : decode cX2_init 16 = .ok (.newarray .int, 2) := by decide +kernel
theorem dX2_init_18 : decode cX2_init 18 = .ok (.putfield 15, 3) := by decide +kernel
theorem dX2_init_21 : decode cX2_init 21 = .ok (.aload_n 0, 1) := by decide +kernel
theorem dX2_init_22 : decode cX2_init 22 = .ok (.bipush 13, 2) := by decide +kernel
theorem dX2_init_24 : decode cX2_init 24 = .ok (.newarray .int, 2) := by decide +kernel
theorem dX2_init_26 : decode cX2_init 26 = .ok (.putfield 18, 3) := by decide +kernel
theorem dX2_init_29 : decode cX2_init 29 = .ok (.aload_n 0, 1) := by decide +kernel
theorem dX2_init_30 : decode cX2_init 30 = .ok (.bipush 13, 2) := by decide +kernel
theorem dX2_init_32 : decode cX2_init 32 = .ok (.newarray .int, 2) := by decide +kernel
theorem dX2_init_34 : decode cX2_init 34 = .ok (.putfield 21, 3) := by decide +kernel
theorem dX2_init_37 : decode cX2_init 37 = .ok (.aload_n 0, 1) := by decide +kernel
theorem dX2_init_38 : decode cX2_init 38 = .ok (.bipush 13, 2) := by decide +kernel
theorem dX2_init_40 : decode cX2_init 40 = .ok (.newarray .int, 2) := by decide +kernel
theorem dX2_init_42 : decode cX2_init 42 = .ok (.putfield 24, 3) := by decide +kernel
theorem dX2_init_45 : decode cX2_init 45 = .ok (.aload_n 0, 1) := by decide +kernel
theorem dX2_init_46 : decode cX2_init 46 = .ok (.bipush 13, 2) := by decide +kernel
theorem dX2_init_48 : decode cX2_init 48 = .ok (.newarray .int, 2) := by decide +kernel
theorem dX2_init_50 : decode cX2_init 50 = .ok (.putfield 27, 3) := by decide +kernel
theorem dX2_init_53 : decode cX2_init 53 = .ok (.aload_n 0, 1) := by decide +kernel
theorem dX2_init_54 : decode cX2_init 54 = .ok (.bipush 13, 2) := by decide +kernel
theorem dX2_init_56 : decode cX2_init 56 = .ok (.newarray .boolean, 2) := by decide +kernel
theorem dX2_init_58 : decode cX2_init 58 = .ok (.putfield 30, 3) := by decide +kernel
theorem dX2_init_61 : decode cX2_init 61 = .ok (.return_, 1) := by decide +kernel
theorem dX2_setCost_0 : decode cX2_setCost 0 = .ok (.iload_n 1, 1) := by decide +kernel
theorem dX2_setCost_1 : decode cX2_setCost 1 = .ok (.ifCond .lt 44, 3) := by decide +kernel
theorem dX2_setCost_4 : decode cX2_setCost 4 = .ok (.iload_n 1, 1) := by decide +kernel
theorem dX2_setCost_5 : decode cX2_setCost 5 = .ok (.bipush 12, 2) := by decide +kernel
theorem dX2_setCost_7 : decode cX2_setCost 7 = .ok (.if_icmp .ge 38, 3) := by decide +kernel
theorem dX2_setCost_10 : decode cX2_setCost 10 = .ok (.iload_n 2, 1) := by decide +kernel
theorem dX2_setCost_11 : decode cX2_setCost 11 = .ok (.ifCond .lt 34, 3) := by decide +kernel
theorem dX2_setCost_14 : decode cX2_setCost 14 = .ok (.iload_n 2, 1) := by decide +kernel
theorem dX2_setCost_15 : decode cX2_setCost 15 = .ok (.bipush 12, 2) := by decide +kernel
theorem dX2_setCost_17 : decode cX2_setCost 17 = .ok (.if_icmp .ge 28, 3) := by decide +kernel
theorem dX2_setCost_20 : decode cX2_setCost 20 = .ok (.aload_n 0, 1) := by decide +kernel
theorem dX2_setCost_21 : decode cX2_setCost 21 = .ok (.getfield 11, 3) := by decide +kernel
theorem dX2_setCost_24 : decode cX2_setCost 24 = .ok (.iload_n 1, 1) := by decide +kernel
theorem dX2_setCost_25 : decode cX2_setCost 25 = .ok (.iconst 1, 1) := by decide +kernel
theorem dX2_setCost_26 : decode cX2_setCost 26 = .ok (.iadd, 1) := by decide +kernel
theorem dX2_setCost_27 : decode cX2_setCost 27 = .ok (.bipush 13, 2) := by decide +kernel
theorem dX2_setCost_29 : decode cX2_setCost 29 = .ok (.imul, 1) := by decide +kernel
theorem dX2_setCost_30 : decode cX2_setCost 30 = .ok (.iload_n 2, 1) := by decide +kernel
theorem dX2_setCost_31 : decode cX2_setCost 31 = .ok (.iadd, 1) := by decide +kernel
theorem dX2_setCost_32 : decode cX2_setCost 32 = .ok (.iconst 1, 1) := by decide +kernel
theorem dX2_setCost_33 : decode cX2_setCost 33 = .ok (.iadd, 1) := by decide +kernel
theorem dX2_setCost_34 : decode cX2_setCost 34 = .ok (.iload_n 3, 1) := by decide +kernel
theorem dX2_setCost_35 : decode cX2_setCost 35 = .ok (.ifCond .ge 8, 3) := by decide +kernel
theorem dX2_setCost_38 : decode cX2_setCost 38 = .ok (.ldc 34, 2) := by decide +kernel
theorem dX2_setCost_40 : decode cX2_setCost 40 = .ok (.goto 4, 3) := by decide +kernel
theorem dX2_setCost_43 : decode cX2_setCost 43 = .ok (.iload_n 3, 1) := by decide +kernel
theorem dX2_setCost_44 : decode cX2_setCost 44 = .ok (.iastore, 1) := by decide +kernel
theorem dX2_setCost_45 : decode cX2_setCost 45 = .ok (.return_, 1) := by decide +kernel
theorem dX2_leastSum_0 : decode cX2_leastSum 0 = .ok (.iload_n 1, 1) := by decide +kernel
theorem dX2_leastSum_1 : decode cX2_leastSum 1 = .ok (.iload_n 2, 1) := by decide +kernel
theorem dX2_leastSum_2 : decode cX2_leastSum 2 = .ok (.if_icmp .gt 9, 3) := by decide +kernel
theorem dX2_leastSum_5 : decode cX2_leastSum 5 = .ok (.iload_n 2, 1) := by decide +kernel
theorem dX2_leastSum_6 : decode cX2_leastSum 6 = .ok (.bipush 12, 2) := by decide +kernel
theorem dX2_leastSum_8 : decode cX2_leastSum 8 = .ok (.if_icmp .le 5, 3) := by decide +kernel
theorem dX2_leastSum_11 : decode cX2_leastSum 11 = .ok (.iconst (-1), 1) := by decide +kernel
theorem dX2_leastSum_12 : decode cX2_leastSum 12 = .ok (.ireturn, 1) := by decide +kernel
theorem dX2_leastSum_13 : decode cX2_leastSum 13 = .ok (.aload_n 0, 1) := by decide +kernel
theorem dX2_leastSum_14 : decode cX2_leastSum 14 = .ok (.getfield 15, 3) := by decide +kernel
theorem dX2_leastSum_17 : decode cX2_leastSum 17 = .ok (.iconst 0, 1) := by decide +kernel
theorem dX2_leastSum_18 : decode cX2_leastSum 18 = .ok (.invokestatic 35, 3) := by decide +kernel
theorem dX2_leastSum_21 : decode cX2_leastSum 21 = .ok (.aload_n 0, 1) := by decide +kernel
theorem dX2_leastSum_22 : decode cX2_leastSum 22 = .ok (.getfield 18, 3) := by decide +kernel
theorem dX2_leastSum_25 : decode cX2_leastSum 25 = .ok (.iconst 0, 1) := by decide +kernel
theorem dX2_leastSum_26 : decode cX2_leastSum 26 = .ok (.invokestatic 35, 3) := by decide +kernel
theorem dX2_leastSum_29 : decode cX2_leastSum 29 = .ok (.aload_n 0, 1) := by decide +kernel
theorem dX2_leastSum_30 : decode cX2_leastSum 30 = .ok (.getfield 21, 3) := by decide +kernel
theorem dX2_leastSum_33 : decode cX2_leastSum 33 = .ok (.iconst 0, 1) := by decide +kernel
theorem dX2_leastSum_34 : decode cX2_leastSum 34 = .ok (.invokestatic 35, 3) := by decide +kernel
theorem dX2_leastSum_37 : decode cX2_leastSum 37 = .ok (.iconst 1, 1) := by decide +kernel
theorem dX2_leastSum_38 : decode cX2_leastSum 38 = .ok (.istore_n 3, 1) := by decide +kernel
theorem dX2_leastSum_39 : decode cX2_leastSum 39 = .ok (.iload_n 3, 1) := by decide +kernel
theorem dX2_leastSum_40 : decode cX2_leastSum 40 = .ok (.iload_n 1, 1) := by decide +kernel
theorem dX2_leastSum_41 : decode cX2_leastSum 41 = .ok (.if_icmp .gt 15, 3) := by decide +kernel
theorem dX2_leastSum_44 : decode cX2_leastSum 44 = .ok (.aload_n 0, 1) := by decide +kernel
theorem dX2_leastSum_45 : decode cX2_leastSum 45 = .ok (.iload_n 3, 1) := by decide +kernel
theorem dX2_leastSum_46 : decode cX2_leastSum 46 = .ok (.iload_n 2, 1) := by decide +kernel
theorem dX2_leastSum_47 : decode cX2_leastSum 47 = .ok (.invokevirtual 41, 3) := by decide +kernel
theorem dX2_leastSum_50 : decode cX2_leastSum 50 = .ok (.iinc 3 1, 3) := by decide +kernel
theorem dX2_leastSum_53 : decode cX2_leastSum 53 = .ok (.goto (-14), 3) := by decide +kernel
theorem dX2_leastSum_56 : decode cX2_leastSum 56 = .ok (.iconst 0, 1) := by decide +kernel
theorem dX2_leastSum_57 : decode cX2_leastSum 57 = .ok (.istore_n 3, 1) := by decide +kernel
theorem dX2_leastSum_58 : decode cX2_leastSum 58 = .ok (.iconst 1, 1) := by decide +kernel
theorem dX2_leastSum_59 : decode cX2_leastSum 59 = .ok (.istore 4, 2) := by decide +kernel
theorem dX2_leastSum_61 : decode cX2_leastSum 61 = .ok (.iload 4, 2) := by decide +kernel
theorem dX2_leastSum_63 : decode cX2_leastSum 63 = .ok (.iload_n 2, 1) := by decide +kernel
theorem dX2_leastSum_64 : decode cX2_leastSum 64 = .ok (.if_icmp .gt 40, 3) := by decide +kernel
theorem dX2_leastSum_67 : decode cX2_leastSum 67 = .ok (.aload_n 0, 1) := by decide +kernel
theorem dX2_leastSum_68 : decode cX2_leastSum 68 = .ok (.getfield 21, 3) := by decide +kernel
theorem dX2_leastSum_71 : decode cX2_leastSum 71 = .ok (.iload 4, 2) := by decide +kernel
theorem dX2_leastSum_73 : decode cX2_leastSum 73 = .ok (.iaload, 1) := by decide +kernel
theorem dX2_leastSum_74 : decode cX2_leastSum 74 = .ok (.ifCond .eq 24, 3) := by decide +kernel
theorem dX2_leastSum_77 : decode cX2_leastSum 77 = .ok (.iload_n 3, 1) := by decide +kernel
theorem dX2_leastSum_78 : decode cX2_leastSum 78 = .ok (.aload_n 0, 1) := by decide +kernel
theorem dX2_leastSum_79 : decode cX2_leastSum 79 = .ok (.getfield 11, 3) := by decide +kernel
theorem dX2_leastSum_82 : decode cX2_leastSum 82 = .ok (.aload_n 0, 1) := by decide +kernel
theorem dX2_leastSum_83 : decode cX2_leastSum 83 = .ok (.getfield 21, 3) := by decide +kernel
theorem dX2_leastSum_86 : decode cX2_leastSum 86 = .ok (.iload 4, 2) := by decide +kernel
theorem dX2_leastSum_88 : decode cX2_leastSum 88 = .ok (.iaload, 1) := by decide +kernel
theorem dX2_leastSum_89 : decode cX2_leastSum 89 = .ok (.bipush 13, 2) := by decide +kernel
theorem dX2_leastSum_91 : decode cX2_leastSum 91 = .ok (.imul, 1) := by decide +kernel
theorem dX2_leastSum_92 : decode cX2_leastSum 92 = .ok (.iload 4, 2) := by decide +kernel
theorem dX2_leastSum_94 : decode cX2_leastSum 94 = .ok (.iadd, 1) := by decide +kernel
theorem dX2_leastSum_95 : decode cX2_leastSum 95 = .ok (.iaload, 1) := by decide +kernel
theorem dX2_leastSum_96 : decode cX2_leastSum 96 = .ok (.iadd, 1) := by decide +kernel
theorem dX2_leastSum_97 : decode cX2_leastSum 97 = .ok (.istore_n 3, 1) := by decide +kernel
theorem dX2_leastSum_98 : decode cX2_leastSum 98 = .ok (.iinc 4 1, 3) := by decide +kernel
theorem dX2_leastSum_101 : decode cX2_leastSum 101 = .ok (.goto (-40), 3) := by decide +kernel
theorem dX2_leastSum_104 : decode cX2_leastSum 104 = .ok (.iload_n 3, 1) := by decide +kernel
theorem dX2_leastSum_105 : decode cX2_leastSum 105 = .ok (.ldc 34, 2) := by decide +kernel
theorem dX2_leastSum_107 : decode cX2_leastSum 107 = .ok (.if_icmp .lt 7, 3) := by decide +kernel
theorem dX2_leastSum_110 : decode cX2_leastSum 110 = .ok (.iconst (-1), 1) := by decide +kernel
theorem dX2_leastSum_111 : decode cX2_leastSum 111 = .ok (.goto 4, 3) := by decide +kernel
theorem dX2_leastSum_114 : decode cX2_leastSum 114 = .ok (.iload_n 3, 1) := by decide +kernel
theorem dX2_leastSum_115 : decode cX2_leastSum 115 = .ok (.ireturn, 1) := by decide +kernel
theorem dX2_giveBoxTo_0 : decode cX2_giveBoxTo 0 = .ok (.aload_n 0, 1) := by decide +kernel
theorem dX2_giveBoxTo_1 : decode cX2_giveBoxTo 1 = .ok (.getfield 21, 3) := by decide +kernel
theorem dX2_giveBoxTo_4 : decode cX2_giveBoxTo 4 = .ok (.iconst 0, 1) := by decide +kernel
theorem dX2_giveBoxTo_5 : decode cX2_giveBoxTo 5 = .ok (.iload_n 1, 1) := by decide +kernel
theorem dX2_giveBoxTo_6 : decode cX2_giveBoxTo 6 = .ok (.iastore, 1) := by decide +kernel
theorem dX2_giveBoxTo_7 : decode cX2_giveBoxTo 7 = .ok (.iconst 0, 1) := by decide +kernel
theorem dX2_giveBoxTo_8 : decode cX2_giveBoxTo 8 = .ok (.istore_n 3, 1) := by decide +kernel
theorem dX2_giveBoxTo_9 : decode cX2_giveBoxTo 9 = .ok (.iload_n 3, 1) := by decide +kernel
theorem dX2_giveBoxTo_10 : decode cX2_giveBoxTo 10 = .ok (.iload_n 2, 1) := by decide +kernel
theorem dX2_giveBoxTo_11 : decode cX2_giveBoxTo 11 = .ok (.if_icmp .gt 24, 3) := by decide +kernel
theorem dX2_giveBoxTo_14 : decode cX2_giveBoxTo 14 = .ok (.aload_n 0, 1) := by decide +kernel
theorem dX2_giveBoxTo_15 : decode cX2_giveBoxTo 15 = .ok (.getfield 27, 3) := by decide +kernel
theorem dX2_giveBoxTo_18 : decode cX2_giveBoxTo 18 = .ok (.iload_n 3, 1) := by decide +kernel
theorem dX2_giveBoxTo_19 : decode cX2_giveBoxTo 19 = .ok (.ldc 45, 2) := by decide +kernel
theorem dX2_giveBoxTo_21 : decode cX2_giveBoxTo 21 = .ok (.iastore, 1) := by decide +kernel
theorem dX2_giveBoxTo_22 : decode cX2_giveBoxTo 22 = .ok (.aload_n 0, 1) := by decide +kernel
theorem dX2_giveBoxTo_23 : decode cX2_giveBoxTo 23 = .ok (.getfield 30, 3) := by decide +kernel
theorem dX2_giveBoxTo_26 : decode cX2_giveBoxTo 26 = .ok (.iload_n 3, 1) := by decide +kernel
theorem dX2_giveBoxTo_27 : decode cX2_giveBoxTo 27 = .ok (.iconst 0, 1) := by decide +kernel
theorem dX2_giveBoxTo_28 : decode cX2_giveBoxTo 28 = .ok (.bastore, 1) := by decide +kernel
theorem dX2_giveBoxTo_29 : decode cX2_giveBoxTo 29 = .ok (.iinc 3 1, 3) := by decide +kernel
theorem dX2_giveBoxTo_32 : decode cX2_giveBoxTo 32 = .ok (.goto (-23), 3) := by decide +kernel
theorem dX2_giveBoxTo_35 : decode cX2_giveBoxTo 35 = .ok (.iconst 0, 1) := by decide +kernel
theorem dX2_giveBoxTo_36 : decode cX2_giveBoxTo 36 = .ok (.istore_n 3, 1) := by decide +kernel
theorem dX2_giveBoxTo_37 : decode cX2_giveBoxTo 37 = .ok (.iconst 0, 1) := by decide +kernel
theorem dX2_giveBoxTo_38 : decode cX2_giveBoxTo 38 = .ok (.istore 4, 2) := by decide +kernel
theorem dX2_giveBoxTo_40 : decode cX2_giveBoxTo 40 = .ok (.iload 4, 2) := by decide +kernel
theorem dX2_giveBoxTo_42 : decode cX2_giveBoxTo 42 = .ok (.iload_n 2, 1) := by decide +kernel
theorem dX2_giveBoxTo_43 : decode cX2_giveBoxTo 43 = .ok (.if_icmp .gt 35, 3) := by decide +kernel
theorem dX2_giveBoxTo_46 : decode cX2_giveBoxTo 46 = .ok (.aload_n 0, 1) := by decide +kernel
theorem dX2_giveBoxTo_47 : decode cX2_giveBoxTo 47 = .ok (.getfield 30, 3) := by decide +kernel
theorem dX2_giveBoxTo_50 : decode cX2_giveBoxTo 50 = .ok (.iload_n 3, 1) := by decide +kernel
theorem dX2_giveBoxTo_51 : decode cX2_giveBoxTo 51 = .ok (.iconst 1, 1) := by decide +kernel
theorem dX2_giveBoxTo_52 : decode cX2_giveBoxTo 52 = .ok (.bastore, 1) := by decide +kernel
theorem dX2_giveBoxTo_53 : decode cX2_giveBoxTo 53 = .ok (.aload_n 0, 1) := by decide +kernel
theorem dX2_giveBoxTo_54 : decode cX2_giveBoxTo 54 = .ok (.iload_n 3, 1) := by decide +kernel
theorem dX2_giveBoxTo_55 : decode cX2_giveBoxTo 55 = .ok (.iload_n 2, 1) := by decide +kernel
theorem dX2_giveBoxTo_56 : decode cX2_giveBoxTo 56 = .ok (.invokevirtual 46, 3) := by decide +kernel
theorem dX2_giveBoxTo_59 : decode cX2_giveBoxTo 59 = .ok (.istore_n 3, 1) := by decide +kernel
theorem dX2_giveBoxTo_60 : decode cX2_giveBoxTo 60 = .ok (.aload_n 0, 1) := by decide +kernel
theorem dX2_giveBoxTo_61 : decode cX2_giveBoxTo 61 = .ok (.getfield 21, 3) := by decide +kernel
theorem dX2_giveBoxTo_64 : decode cX2_giveBoxTo 64 = .ok (.iload_n 3, 1) := by decide +kernel
theorem dX2_giveBoxTo_65 : decode cX2_giveBoxTo 65 = .ok (.iaload, 1) := by decide +kernel
theorem dX2_giveBoxTo_66 : decode cX2_giveBoxTo 66 = .ok (.ifCond .ne 6, 3) := by decide +kernel
theorem dX2_giveBoxTo_69 : decode cX2_giveBoxTo 69 = .ok (.goto 9, 3) := by decide +kernel
theorem dX2_giveBoxTo_72 : decode cX2_giveBoxTo 72 = .ok (.iinc 4 1, 3) := by decide +kernel
theorem dX2_giveBoxTo_75 : decode cX2_giveBoxTo 75 = .ok (.goto (-35), 3) := by decide +kernel
theorem dX2_giveBoxTo_78 : decode cX2_giveBoxTo 78 = .ok (.iconst 0, 1) := by decide +kernel
theorem dX2_giveBoxTo_79 : decode cX2_giveBoxTo 79 = .ok (.istore 4, 2) := by decide +kernel
theorem dX2_giveBoxTo_81 : decode cX2_giveBoxTo 81 = .ok (.iload 4, 2) := by decide +kernel
theorem dX2_giveBoxTo_83 : decode cX2_giveBoxTo 83 = .ok (.iload_n 2, 1) := by decide +kernel
theorem dX2_giveBoxTo_84 : decode cX2_giveBoxTo 84 = .ok (.if_icmp .gt 37, 3) := by decide +kernel
theorem dX2_giveBoxTo_87 : decode cX2_giveBoxTo 87 = .ok (.iload_n 3, 1) := by decide +kernel
theorem dX2_giveBoxTo_88 : decode cX2_giveBoxTo 88 = .ok (.ifCond .eq 33, 3) := by decide +kernel
theorem dX2_giveBoxTo_91 : decode cX2_giveBoxTo 91 = .ok (.aload_n 0, 1) := by decide +kernel
theorem dX2_giveBoxTo_92 : decode cX2_giveBoxTo 92 = .ok (.getfield 24, 3) := by decide +kernel
theorem dX2_giveBoxTo_95 : decode cX2_giveBoxTo 95 = .ok (.iload_n 3, 1) := by decide +kernel
theorem dX2_giveBoxTo_96 : decode cX2_giveBoxTo 96 = .ok (.iaload, 1) := by decide +kernel
theorem dX2_giveBoxTo_97 : decode cX2_giveBoxTo 97 = .ok (.istore 5, 2) := by decide +kernel
theorem dX2_giveBoxTo_99 : decode cX2_giveBoxTo 99 = .ok (.aload_n 0, 1) := by decide +kernel
theorem dX2_giveBoxTo_100 : decode cX2_giveBoxTo 100 = .ok (.getfield 21, 3) := by decide +kernel
theorem dX2_giveBoxTo_103 : decode cX2_giveBoxTo 103 = .ok (.iload_n 3, 1) := by decide +kernel
theorem dX2_giveBoxTo_104 : decode cX2_giveBoxTo 104 = .ok (.aload_n 0, 1) := by decide +kernel
theorem dX2_giveBoxTo_105 : decode cX2_giveBoxTo 105 = .ok (.getfield 21, 3) := by decide +kernel
theorem dX2_giveBoxTo_108 : decode cX2_giveBoxTo 108 = .ok (.iload 5, 2) := by decide +kernel
theorem dX2_giveBoxTo_110 : decode cX2_giveBoxTo 110 = .ok (.iaload, 1) := by decide +kernel
theorem dX2_giveBoxTo_111 : decode cX2_giveBoxTo 111 = .ok (.iastore, 1) := by decide +kernel
theorem dX2_giveBoxTo_112 : decode cX2_giveBoxTo 112 = .ok (.iload 5, 2) := by decide +kernel
theorem dX2_giveBoxTo_114 : decode cX2_giveBoxTo 114 = .ok (.istore_n 3, 1) := by decide +kernel
theorem dX2_giveBoxTo_115 : decode cX2_giveBoxTo 115 = .ok (.iinc 4 1, 3) := by decide +kernel
theorem dX2_giveBoxTo_118 : decode cX2_giveBoxTo 118 = .ok (.goto (-37), 3) := by decide +kernel
theorem dX2_giveBoxTo_121 : decode cX2_giveBoxTo 121 = .ok (.return_, 1) := by decide +kernel
theorem dX2_nextBox_0 : decode cX2_nextBox 0 = .ok (.aload_n 0, 1) := by decide +kernel
theorem dX2_nextBox_1 : decode cX2_nextBox 1 = .ok (.getfield 21, 3) := by decide +kernel
theorem dX2_nextBox_4 : decode cX2_nextBox 4 = .ok (.iload_n 1, 1) := by decide +kernel
theorem dX2_nextBox_5 : decode cX2_nextBox 5 = .ok (.iaload, 1) := by decide +kernel
theorem dX2_nextBox_6 : decode cX2_nextBox 6 = .ok (.istore_n 3, 1) := by decide +kernel
theorem dX2_nextBox_7 : decode cX2_nextBox 7 = .ok (.ldc 45, 2) := by decide +kernel
theorem dX2_nextBox_9 : decode cX2_nextBox 9 = .ok (.istore 4, 2) := by decide +kernel
theorem dX2_nextBox_11 : decode cX2_nextBox 11 = .ok (.iconst 0, 1) := by decide +kernel
theorem dX2_nextBox_12 : decode cX2_nextBox 12 = .ok (.istore 5, 2) := by decide +kernel
theorem dX2_nextBox_14 : decode cX2_nextBox 14 = .ok (.iconst 1, 1) := by decide +kernel
theorem dX2_nextBox_15 : decode cX2_nextBox 15 = .ok (.istore 6, 2) := by decide +kernel
theorem dX2_nextBox_17 : decode cX2_nextBox 17 = .ok (.iload 6, 2) := by decide +kernel
theorem dX2_nextBox_19 : decode cX2_nextBox 19 = .ok (.iload_n 2, 1) := by decide +kernel
theorem dX2_nextBox_20 : decode cX2_nextBox 20 = .ok (.if_icmp .gt 105, 3) := by decide +kernel
theorem dX2_nextBox_23 : decode cX2_nextBox 23 = .ok (.aload_n 0, 1) := by decide +kernel
theorem dX2_nextBox_24 : decode cX2_nextBox 24 = .ok (.getfield 30, 3) := by decide +kernel
theorem dX2_nextBox_27 : decode cX2_nextBox 27 = .ok (.iload 6, 2) := by decide +kernel
theorem dX2_nextBox_29 : decode cX2_nextBox 29 = .ok (.baload, 1) := by decide +kernel
theorem dX2_nextBox_30 : decode cX2_nextBox 30 = .ok (.ifCond .eq 6, 3) := by decide +kernel
theorem dX2_nextBox_33 : decode cX2_nextBox 33 = .ok (.goto 86, 3) := by decide +kernel
theorem dX2_nextBox_36 : decode cX2_nextBox 36 = .ok (.aload_n 0, 1) := by decide +kernel
theorem dX2_nextBox_37 : decode cX2_nextBox 37 = .ok (.getfield 11, 3) := by decide +kernel
theorem dX2_nextBox_40 : decode cX2_nextBox 40 = .ok (.iload_n 3, 1) := by decide +kernel
theorem dX2_nextBox_41 : decode cX2_nextBox 41 = .ok (.bipush 13, 2) := by decide +kernel
theorem dX2_nextBox_43 : decode cX2_nextBox 43 = .ok (.imul, 1) := by decide +kernel
theorem dX2_nextBox_44 : decode cX2_nextBox 44 = .ok (.iload 6, 2) := by decide +kernel
theorem dX2_nextBox_46 : decode cX2_nextBox 46 = .ok (.iadd, 1) := by decide +kernel
theorem dX2_nextBox_47 : decode cX2_nextBox 47 = .ok (.iaload, 1) := by decide +kernel
theorem dX2_nextBox_48 : decode cX2_nextBox 48 = .ok (.aload_n 0, 1) := by decide +kernel
theorem dX2_nextBox_49 : decode cX2_nextBox 49 = .ok (.getfield 15, 3) := by decide +kernel
theorem dX2_nextBox_52 : decode cX2_nextBox 52 = .ok (.iload_n 3, 1) := by decide +kernel
theorem dX2_nextBox_53 : decode cX2_nextBox 53 = .ok (.iaload, 1) := by decide +kernel
theorem dX2_nextBox_54 : decode cX2_nextBox 54 = .ok (.isub, 1) := by decide +kernel
theorem dX2_nextBox_55 : decode cX2_nextBox 55 = .ok (.aload_n 0, 1) := by decide +kernel
theorem dX2_nextBox_56 : decode cX2_nextBox 56 = .ok (.getfield 18, 3) := by decide +kernel
theorem dX2_nextBox_59 : decode cX2_nextBox 59 = .ok (.iload 6, 2) := by decide +kernel
theorem dX2_nextBox_61 : decode cX2_nextBox 61 = .ok (.iaload, 1) := by decide +kernel
theorem dX2_nextBox_62 : decode cX2_nextBox 62 = .ok (.isub, 1) := by decide +kernel
theorem dX2_nextBox_63 : decode cX2_nextBox 63 = .ok (.istore 7, 2) := by decide +kernel
theorem dX2_nextBox_65 : decode cX2_nextBox 65 = .ok (.iload 7, 2) := by decide +kernel
theorem dX2_nextBox_67 : decode cX2_nextBox 67 = .ok (.aload_n 0, 1) := by decide +kernel
theorem dX2_nextBox_68 : decode cX2_nextBox 68 = .ok (.getfield 27, 3) := by decide +kernel
theorem dX2_nextBox_71 : decode cX2_nextBox 71 = .ok (.iload 6, 2) := by decide +kernel
theorem dX2_nextBox_73 : decode cX2_nextBox 73 = .ok (.iaload, 1) := by decide +kernel
theorem dX2_nextBox_74 : decode cX2_nextBox 74 = .ok (.if_icmp .ge 20, 3) := by decide +kernel
theorem dX2_nextBox_77 : decode cX2_nextBox 77 = .ok (.aload_n 0, 1) := by decide +kernel
theorem dX2_nextBox_78 : decode cX2_nextBox 78 = .ok (.getfield 27, 3) := by decide +kernel
theorem dX2_nextBox_81 : decode cX2_nextBox 81 = .ok (.iload 6, 2) := by decide +kernel
theorem dX2_nextBox_83 : decode cX2_nextBox 83 = .ok (.iload 7, 2) := by decide +kernel
theorem dX2_nextBox_85 : decode cX2_nextBox 85 = .ok (.iastore, 1) := by decide +kernel
theorem dX2_nextBox_86 : decode cX2_nextBox 86 = .ok (.aload_n 0, 1) := by decide +kernel
theorem dX2_nextBox_87 : decode cX2_nextBox 87 = .ok (.getfield 24, 3) := by decide +kernel
theorem dX2_nextBox_90 : decode cX2_nextBox 90 = .ok (.iload 6, 2) := by decide +kernel
theorem dX2_nextBox_92 : decode cX2_nextBox 92 = .ok (.iload_n 1, 1) := by decide +kernel
theorem dX2_nextBox_93 : decode cX2_nextBox 93 = .ok (.iastore, 1) := by decide +kernel
theorem dX2_nextBox_94 : decode cX2_nextBox 94 = .ok (.aload_n 0, 1) := by decide +kernel
theorem dX2_nextBox_95 : decode cX2_nextBox 95 = .ok (.getfield 27, 3) := by decide +kernel
theorem dX2_nextBox_98 : decode cX2_nextBox 98 = .ok (.iload 6, 2) := by decide +kernel
theorem dX2_nextBox_100 : decode cX2_nextBox 100 = .ok (.iaload, 1) := by decide +kernel
theorem dX2_nextBox_101 : decode cX2_nextBox 101 = .ok (.iload 4, 2) := by decide +kernel
theorem dX2_nextBox_103 : decode cX2_nextBox 103 = .ok (.if_icmp .ge 16, 3) := by decide +kernel
theorem dX2_nextBox_106 : decode cX2_nextBox 106 = .ok (.aload_n 0, 1) := by decide +kernel
theorem dX2_nextBox_107 : decode cX2_nextBox 107 = .ok (.getfield 27, 3) := by decide +kernel
theorem dX2_nextBox_110 : decode cX2_nextBox 110 = .ok (.iload 6, 2) := by decide +kernel
theorem dX2_nextBox_112 : decode cX2_nextBox 112 = .ok (.iaload, 1) := by decide +kernel
theorem dX2_nextBox_113 : decode cX2_nextBox 113 = .ok (.istore 4, 2) := by decide +kernel
theorem dX2_nextBox_115 : decode cX2_nextBox 115 = .ok (.iload 6, 2) := by decide +kernel
theorem dX2_nextBox_117 : decode cX2_nextBox 117 = .ok (.istore 5, 2) := by decide +kernel
theorem dX2_nextBox_119 : decode cX2_nextBox 119 = .ok (.iinc 6 1, 3) := by decide +kernel
theorem dX2_nextBox_122 : decode cX2_nextBox 122 = .ok (.goto (-105), 3) := by decide +kernel
theorem dX2_nextBox_125 : decode cX2_nextBox 125 = .ok (.iconst 0, 1) := by decide +kernel
theorem dX2_nextBox_126 : decode cX2_nextBox 126 = .ok (.istore 6, 2) := by decide +kernel
theorem dX2_nextBox_128 : decode cX2_nextBox 128 = .ok (.iload 6, 2) := by decide +kernel
theorem dX2_nextBox_130 : decode cX2_nextBox 130 = .ok (.iload_n 2, 1) := by decide +kernel
theorem dX2_nextBox_131 : decode cX2_nextBox 131 = .ok (.if_icmp .gt 63, 3) := by decide +kernel
theorem dX2_nextBox_134 : decode cX2_nextBox 134 = .ok (.aload_n 0, 1) := by decide +kernel
theorem dX2_nextBox_135 : decode cX2_nextBox 135 = .ok (.getfield 30, 3) := by decide +kernel
theorem dX2_nextBox_138 : decode cX2_nextBox 138 = .ok (.iload 6, 2) := by decide +kernel
theorem dX2_nextBox_140 : decode cX2_nextBox 140 = .ok (.baload, 1) := by decide +kernel
theorem dX2_nextBox_141 : decode cX2_nextBox 141 = .ok (.ifCond .eq 35, 3) := by decide +kernel
theorem dX2_nextBox_144 : decode cX2_nextBox 144 = .ok (.aload_n 0, 1) := by decide +kernel
theorem dX2_nextBox_145 : decode cX2_nextBox 145 = .ok (.getfield 15, 3) := by decide +kernel
theorem dX2_nextBox_148 : decode cX2_nextBox 148 = .ok (.aload_n 0, 1) := by decide +kernel
theorem dX2_nextBox_149 : decode cX2_nextBox 149 = .ok (.getfield 21, 3) := by decide +kernel
theorem dX2_nextBox_152 : decode cX2_nextBox 152 = .ok (.iload 6, 2) := by decide +kernel
theorem dX2_nextBox_154 : decode cX2_nextBox 154 = .ok (.iaload, 1) := by decide +kernel
theorem dX2_nextBox_155 : decode cX2_nextBox 155 = .ok (.dup2, 1) := by decide +kernel
theorem dX2_nextBox_156 : decode cX2_nextBox 156 = .ok (.iaload, 1) := by decide +kernel
theorem dX2_nextBox_157 : decode cX2_nextBox 157 = .ok (.iload 4, 2) := by decide +kernel
theorem dX2_nextBox_159 : decode cX2_nextBox 159 = .ok (.iadd, 1) := by decide +kernel
theorem dX2_nextBox_160 : decode cX2_nextBox 160 = .ok (.iastore, 1) := by decide +kernel
theorem dX2_nextBox_161 : decode cX2_nextBox 161 = .ok (.aload_n 0, 1) := by decide +kernel
theorem dX2_nextBox_162 : decode cX2_nextBox 162 = .ok (.getfield 18, 3) := by decide +kernel
theorem dX2_nextBox_165 : decode cX2_nextBox 165 = .ok (.iload 6, 2) := by decide +kernel
theorem dX2_nextBox_167 : decode cX2_nextBox 167 = .ok (.dup2, 1) := by decide +kernel
theorem dX2_nextBox_168 : decode cX2_nextBox 168 = .ok (.iaload, 1) := by decide +kernel
theorem dX2_nextBox_169 : decode cX2_nextBox 169 = .ok (.iload 4, 2) := by decide +kernel
theorem dX2_nextBox_171 : decode cX2_nextBox 171 = .ok (.isub, 1) := by decide +kernel
theorem dX2_nextBox_172 : decode cX2_nextBox 172 = .ok (.iastore, 1) := by decide +kernel
theorem dX2_nextBox_173 : decode cX2_nextBox 173 = .ok (.goto 15, 3) := by decide +kernel
theorem dX2_nextBox_176 : decode cX2_nextBox 176 = .ok (.aload_n 0, 1) := by decide +kernel
theorem dX2_nextBox_177 : decode cX2_nextBox 177 = .ok (.getfield 27, 3) := by decide +kernel
theorem dX2_nextBox_180 : decode cX2_nextBox 180 = .ok (.iload 6, 2) := by decide +kernel
theorem dX2_nextBox_182 : decode cX2_nextBox 182 = .ok (.dup2, 1) := by decide +kernel
theorem dX2_nextBox_183 : decode cX2_nextBox 183 = .ok (.iaload, 1) := by decide +kernel
theorem dX2_nextBox_184 : decode cX2_nextBox 184 = .ok (.iload 4, 2) := by decide +kernel
theorem dX2_nextBox_186 : decode cX2_nextBox 186 = .ok (.isub, 1) := by decide +kernel
theorem dX2_nextBox_187 : decode cX2_nextBox 187 = .ok (.iastore, 1) := by decide +kernel
theorem dX2_nextBox_188 : decode cX2_nextBox 188 = .ok (.iinc 6 1, 3) := by decide +kernel
theorem dX2_nextBox_191 : decode cX2_nextBox 191 = .ok (.goto (-63), 3) := by decide +kernel
theorem dX2_nextBox_194 : decode cX2_nextBox 194 = .ok (.iload 5, 2) := by decide +kernel
theorem dX2_nextBox_196 : decode cX2_nextBox 196 = .ok (.ireturn, 1) := by decide +kernel
theorem dX4_init_0 : decode cX4_init 0 = .ok (.aload_n 0, 1) := by decide +kernel
theorem dX4_init_1 : decode cX4_init 1 = .ok (.invokespecial 3, 3) := by decide +kernel
theorem dX4_init_4 : decode cX4_init 4 = .ok (.aload_n 0, 1) := by decide +kernel
theorem dX4_init_5 : decode cX4_init 5 = .ok (.sipush 128, 3) := by decide +kernel
theorem dX4_init_8 : decode cX4_init 8 = .ok (.newarray .long, 2) := by decide +kernel
theorem dX4_init_10 : decode cX4_init 10 = .ok (.putfield 11, 3) := by decide +kernel
theorem dX4_init_13 : decode cX4_init 13 = .ok (.aload_n 0, 1) := by decide +kernel
theorem dX4_init_14 : decode cX4_init 14 = .ok (.sipush 128, 3) := by decide +kernel
theorem dX4_init_17 : decode cX4_init 17 = .ok (.newarray .int, 2) := by decide +kernel
theorem dX4_init_19 : decode cX4_init 19 = .ok (.putfield 15, 3) := by decide +kernel
theorem dX4_init_22 : decode cX4_init 22 = .ok (.aload_n 0, 1) := by decide +kernel
theorem dX4_init_23 : decode cX4_init 23 = .ok (.sipush 128, 3) := by decide +kernel
theorem dX4_init_26 : decode cX4_init 26 = .ok (.newarray .int, 2) := by decide +kernel
theorem dX4_init_28 : decode cX4_init 28 = .ok (.putfield 19, 3) := by decide +kernel
theorem dX4_init_31 : decode cX4_init 31 = .ok (.aload_n 0, 1) := by decide +kernel
theorem dX4_init_32 : decode cX4_init 32 = .ok (.sipush 128, 3) := by decide +kernel
theorem dX4_init_35 : decode cX4_init 35 = .ok (.newarray .int, 2) := by decide +kernel
theorem dX4_init_37 : decode cX4_init 37 = .ok (.putfield 22, 3) := by decide +kernel
theorem dX4_init_40 : decode cX4_init 40 = .ok (.aload_n 0, 1) := by decide +kernel
theorem dX4_init_41 : decode cX4_init 41 = .ok (.sipush 256, 3) := by decide +kernel
theorem dX4_init_44 : decode cX4_init 44 = .ok (.newarray .int, 2) := by decide +kernel
theorem dX4_init_46 : decode cX4_init 46 = .ok (.putfield 25, 3) := by decide +kernel
theorem dX4_init_49 : decode cX4_init 49 = .ok (.return_, 1) := by decide +kernel
theorem dX4_run_0 : decode cX4_run 0 = .ok (.aload_n 0, 1) := by decide +kernel
theorem dX4_run_1 : decode cX4_run 1 = .ok (.getfield 25, 3) := by decide +kernel
theorem dX4_run_4 : decode cX4_run 4 = .ok (.iconst 0, 1) := by decide +kernel
theorem dX4_run_5 : decode cX4_run 5 = .ok (.invokestatic 28, 3) := by decide +kernel
theorem dX4_run_8 : decode cX4_run 8 = .ok (.aload_n 0, 1) := by decide +kernel
theorem dX4_run_9 : decode cX4_run 9 = .ok (.iconst 0, 1) := by decide +kernel
theorem dX4_run_10 : decode cX4_run 10 = .ok (.putfield 34, 3) := by decide +kernel
theorem dX4_run_13 : decode cX4_run 13 = .ok (.aload_n 0, 1) := by decide +kernel
theorem dX4_run_14 : decode cX4_run 14 = .ok (.iconst 0, 1) := by decide +kernel
theorem dX4_run_15 : decode cX4_run 15 = .ok (.putfield 38, 3) := by decide +kernel
theorem dX4_run_18 : decode cX4_run 18 = .ok (.aload_n 0, 1) := by decide +kernel
theorem dX4_run_19 : decode cX4_run 19 = .ok (.iconst (-1), 1) := by decide +kernel
theorem dX4_run_20 : decode cX4_run 20 = .ok (.putfield 41, 3) := by decide +kernel
theorem dX4_run_23 : decode cX4_run 23 = .ok (.aload_n 0, 1) := by decide +kernel
theorem dX4_run_24 : decode cX4_run 24 = .ok (.iconst 0, 1) := by decide +kernel
theorem dX4_run_25 : decode cX4_run 25 = .ok (.putfield 44, 3) := by decide +kernel
theorem dX4_run_28 : decode cX4_run 28 = .ok (.aload_n 1, 1) := by decide +kernel
theorem dX4_run_29 : decode cX4_run 29 = .ok (.aload_n 1, 1) := by decide +kernel
theorem dX4_run_30 : decode cX4_run 30 = .ok (.getfield 48, 3) := by decide +kernel
theorem dX4_run_33 : decode cX4_run 33 = .ok (.aload_n 1, 1) := by decide +kernel
theorem dX4_run_34 : decode cX4_run 34 = .ok (.getfield 54, 3) := by decide +kernel
theorem dX4_run_37 : decode cX4_run 37 = .ok (.invokevirtual 57, 3) := by decide +kernel
theorem dX4_run_40 : decode cX4_run 40 = .ok (.invokestatic 61, 3) := by decide +kernel
theorem dX4_run_43 : decode cX4_run 43 = .ok (.istore_n 3, 1) := by decide +kernel
theorem dX4_run_44 : decode cX4_run 44 = .ok (.aload_n 0, 1) := by decide +kernel
theorem dX4_run_45 : decode cX4_run 45 = .ok (.aload_n 1, 1) := by decide +kernel
theorem dX4_run_46 : decode cX4_run 46 = .ok (.getfield 54, 3) := by decide +kernel
theorem dX4_run_49 : decode cX4_run 49 = .ok (.iload_n 3, 1) := by decide +kernel
theorem dX4_run_50 : decode cX4_run 50 = .ok (.iconst 0, 1) := by decide +kernel
theorem dX4_run_51 : decode cX4_run 51 = .ok (.iconst 0, 1) := by decide +kernel
theorem dX4_run_52 : decode cX4_run 52 = .ok (.invokevirtual 65, 3) := by decide +kernel
theorem dX4_run_55 : decode cX4_run 55 = .ok (.aload_n 1, 1) := by decide +kernel
theorem dX4_run_56 : decode cX4_run 56 = .ok (.aload_n 1, 1) := by decide +kernel
theorem dX4_run_57 : decode cX4_run 57 = .ok (.getfield 54, 3) := by decide +kernel
theorem dX4_run_60 : decode cX4_run 60 = .ok (.invokevirtual 69, 3) := by decide +kernel
theorem dX4_run_63 : decode cX4_run 63 = .ok (.ifCond .eq 8, 3) := by decide +kernel
theorem dX4_run_66 : decode cX4_run 66 = .ok (.aload_n 0, 1) := by decide +kernel
theorem dX4_run_67 : decode cX4_run 67 = .ok (.iconst 0, 1) := by decide +kernel
theorem dX4_run_68 : decode cX4_run 68 = .ok (.putfield 41, 3) := by decide +kernel
theorem dX4_run_71 : decode cX4_run 71 = .ok (.iconst 0, 1) := by decide +kernel
theorem dX4_run_72 : decode cX4_run 72 = .ok (.istore 4, 2) := by decide +kernel
theorem dX4_run_74 : decode cX4_run 74 = .ok (.iload 4, 2) := by decide +kernel
theorem dX4_run_76 : decode cX4_run 76 = .ok (.aload_n 0, 1) := by decide +kernel
theorem dX4_run_77 : decode cX4_run 77 = .ok (.getfield 34, 3) := by decide +kernel
theorem dX4_run_80 : decode cX4_run 80 = .ok (.if_icmp .ge 42, 3) := by decide +kernel
theorem dX4_run_83 : decode cX4_run 83 = .ok (.iload 4, 2) := by decide +kernel
theorem dX4_run_85 : decode cX4_run 85 = .ok (.sipush 10000, 3) := by decide +kernel
theorem dX4_run_88 : decode cX4_run 88 = .ok (.if_icmp .ge 34, 3) := by decide +kernel
theorem dX4_run_91 : decode cX4_run 91 = .ok (.aload_n 0, 1) := by decide +kernel
theorem dX4_run_92 : decode cX4_run 92 = .ok (.getfield 41, 3) := by decide +kernel
theorem dX4_run_95 : decode cX4_run 95 = .ok (.ifCond .ge 27, 3) := by decide +kernel
theorem dX4_run_98 : decode cX4_run 98 = .ok (.aload_n 0, 1) := by decide +kernel
theorem dX4_run_99 : decode cX4_run 99 = .ok (.getfield 44, 3) := by decide +kernel
theorem dX4_run_102 : decode cX4_run 102 = .ok (.ifCond .eq 6, 3) := by decide +kernel
theorem dX4_run_105 : decode cX4_run 105 = .ok (.goto 17, 3) := by decide +kernel
theorem dX4_run_108 : decode cX4_run 108 = .ok (.aload_n 0, 1) := by decide +kernel
theorem dX4_run_109 : decode cX4_run 109 = .ok (.aload_n 1, 1) := by decide +kernel
theorem dX4_run_110 : decode cX4_run 110 = .ok (.iload 4, 2) := by decide +kernel
theorem dX4_run_112 : decode cX4_run 112 = .ok (.iload_n 2, 1) := by decide +kernel
theorem dX4_run_113 : decode cX4_run 113 = .ok (.invokevirtual 73, 3) := by decide +kernel
theorem dX4_run_116 : decode cX4_run 116 = .ok (.iinc 4 1, 3) := by decide +kernel
theorem dX4_run_119 : decode cX4_run 119 = .ok (.goto (-45), 3) := by decide +kernel
theorem dX4_run_122 : decode cX4_run 122 = .ok (.aload_n 0, 1) := by decide +kernel
theorem dX4_run_123 : decode cX4_run 123 = .ok (.getfield 44, 3) := by decide +kernel
theorem dX4_run_126 : decode cX4_run 126 = .ok (.ifCond .eq 6, 3) := by decide +kernel
theorem dX4_run_129 : decode cX4_run 129 = .ok (.bipush (-2), 2) := by decide +kernel
theorem dX4_run_131 : decode cX4_run 131 = .ok (.ireturn, 1) := by decide +kernel
theorem dX4_run_132 : decode cX4_run 132 = .ok (.aload_n 0, 1) := by decide +kernel
theorem dX4_run_133 : decode cX4_run 133 = .ok (.aload_n 0, 1) := by decide +kernel
theorem dX4_run_134 : decode cX4_run 134 = .ok (.aload_n 0, 1) := by decide +kernel
theorem dX4_run_135 : decode cX4_run 135 = .ok (.getfield 41, 3) := by decide +kernel
theorem dX4_run_138 : decode cX4_run 138 = .ok (.invokevirtual 77, 3) := by decide +kernel
theorem dX4_run_141 : decode cX4_run 141 = .ok (.putfield 38, 3) := by decide +kernel
theorem dX4_run_144 : decode cX4_run 144 = .ok (.aload_n 0, 1) := by decide +kernel
theorem dX4_run_145 : decode cX4_run 145 = .ok (.getfield 41, 3) := by decide +kernel
theorem dX4_run_148 : decode cX4_run 148 = .ok (.ifCond .ge 7, 3) := by decide +kernel
theorem dX4_run_151 : decode cX4_run 151 = .ok (.iconst (-1), 1) := by decide +kernel
theorem dX4_run_152 : decode cX4_run 152 = .ok (.goto 7, 3) := by decide +kernel
theorem dX4_run_155 : decode cX4_run 155 = .ok (.aload_n 0, 1) := by decide +kernel
theorem dX4_run_156 : decode cX4_run 156 = .ok (.getfield 38, 3) := by decide +kernel
theorem dX4_run_159 : decode cX4_run 159 = .ok (.ireturn, 1) := by decide +kernel
theorem dX4_pushAt_0 : decode cX4_pushAt 0 = .ok (.aload_n 0, 1) := by decide +kernel
theorem dX4_pushAt_1 : decode cX4_pushAt 1 = .ok (.getfield 41, 3) := by decide +kernel
theorem dX4_pushAt_4 : decode cX4_pushAt 4 = .ok (.istore_n 2, 1) := by decide +kernel
theorem dX4_pushAt_5 : decode cX4_pushAt 5 = .ok (.aload_n 0, 1) := by decide +kernel
theorem dX4_pushAt_6 : decode cX4_pushAt 6 = .ok (.getfield 38, 3) := by decide +kernel
theorem dX4_pushAt_9 : decode cX4_pushAt 9 = .ok (.iconst 1, 1) := by decide +kernel
theorem dX4_pushAt_10 : decode cX4_pushAt 10 = .ok (.isub, 1) := by decide +kernel
theorem dX4_pushAt_11 : decode cX4_pushAt 11 = .ok (.istore_n 3, 1) := by decide +kernel
theorem dX4_pushAt_12 : decode cX4_pushAt 12 = .ok (.iload_n 3, 1) := by decide +kernel
theorem dX4_pushAt_13 : decode cX4_pushAt 13 = .ok (.iload_n 1, 1) := by decide +kernel
theorem dX4_pushAt_14 : decode cX4_pushAt 14 = .ok (.if_icmp .le 16, 3) := by decide +kernel
theorem dX4_pushAt_17 : decode cX4_pushAt 17 = .ok (.aload_n 0, 1) := by decide +kernel
theorem dX4_pushAt_18 : decode cX4_pushAt 18 = .ok (.getfield 19, 3) := by decide +kernel
theorem dX4_pushAt_21 : decode cX4_pushAt 21 = .ok (.iload_n 2, 1) := by decide +kernel
theorem dX4_pushAt_22 : decode cX4_pushAt 22 = .ok (.iaload, 1) := by decide +kernel
theorem dX4_pushAt_23 : decode cX4_pushAt 23 = .ok (.istore_n 2, 1) := by decide +kernel
theorem dX4_pushAt_24 : decode cX4_pushAt 24 = .ok (.iinc 3 (-1), 3) := by decide +kernel
theorem dX4_pushAt_27 : decode cX4_pushAt 27 = .ok (.goto (-15), 3) := by decide +kernel
theorem dX4_pushAt_30 : decode cX4_pushAt 30 = .ok (.aload_n 0, 1) := by decide +kernel
theorem dX4_pushAt_31 : decode cX4_pushAt 31 = .ok (.getfield 22, 3) := by decide +kernel
theorem dX4_pushAt_34 : decode cX4_pushAt 34 = .ok (.iload_n 2, 1) := by decide +kernel
theorem dX4_pushAt_35 : decode cX4_pushAt 35 = .ok (.iaload, 1) := by decide +kernel
theorem dX4_pushAt_36 : decode cX4_pushAt 36 = .ok (.ireturn, 1) := by decide +kernel
theorem dX4_pushesTo_0 : decode cX4_pushesTo 0 = .ok (.iconst 0, 1) := by decide +kernel
theorem dX4_pushesTo_1 : decode cX4_pushesTo 1 = .ok (.istore_n 2, 1) := by decide +kernel
theorem dX4_pushesTo_2 : decode cX4_pushesTo 2 = .ok (.iload_n 1, 1) := by decide +kernel
theorem dX4_pushesTo_3 : decode cX4_pushesTo 3 = .ok (.istore_n 3, 1) := by decide +kernel
theorem dX4_pushesTo_4 : decode cX4_pushesTo 4 = .ok (.iconst 0, 1) := by decide +kernel
theorem dX4_pushesTo_5 : decode cX4_pushesTo 5 = .ok (.istore 4, 2) := by decide +kernel
theorem dX4_pushesTo_7 : decode cX4_pushesTo 7 = .ok (.iload 4, 2) := by decide +kernel
theorem dX4_pushesTo_9 : decode cX4_pushesTo 9 = .ok (.aload_n 0, 1) := by decide +kernel
theorem dX4_pushesTo_10 : decode cX4_pushesTo 10 = .ok (.getfield 34, 3) := by decide +kernel
theorem dX4_pushesTo_13 : decode cX4_pushesTo 13 = .ok (.if_icmp .ge 23, 3) := by decide +kernel
theorem dX4_pushesTo_16 : decode cX4_pushesTo 16 = .ok (.iload_n 3, 1) := by decide +kernel
theorem dX4_pushesTo_17 : decode cX4_pushesTo 17 = .ok (.ifCond .le 19, 3) := by decide +kernel
theorem dX4_pushesTo_20 : decode cX4_pushesTo 20 = .ok (.aload_n 0, 1) := by decide +kernel
theorem dX4_pushesTo_21 : decode cX4_pushesTo 21 = .ok (.getfield 19, 3) := by decide +kernel
theorem dX4_pushesTo_24 : decode cX4_pushesTo 24 = .ok (.iload_n 3, 1) := by decide +kernel
theorem dX4_pushesTo_25 : decode cX4_pushesTo 25 = .ok (.iaload, 1) := by decide +kernel
theorem dX4_pushesTo_26 : decode cX4_pushesTo 26 = .ok (.istore_n 3, 1) := by decide +kernel
theorem dX4_pushesTo_27 : decode cX4_pushesTo 27 = .ok (.iinc 2 1, 3) := by decide +kernel
theorem dX4_pushesTo_30 : decode cX4_pushesTo 30 = .ok (.iinc 4 1, 3) := by decide +kernel
theorem dX4_pushesTo_33 : decode cX4_pushesTo 33 = .ok (.goto (-26), 3) := by decide +kernel
theorem dX4_pushesTo_36 : decode cX4_pushesTo 36 = .ok (.iload_n 2, 1) := by decide +kernel
theorem dX4_pushesTo_37 : decode cX4_pushesTo 37 = .ok (.ireturn, 1) := by decide +kernel
theorem dX4_pushFrom_0 : decode cX4_pushFrom 0 = .ok (.aload_n 0, 1) := by decide +kernel
theorem dX4_pushFrom_1 : decode cX4_pushFrom 1 = .ok (.getfield 11, 3) := by decide +kernel
theorem dX4_pushFrom_4 : decode cX4_pushFrom 4 = .ok (.iload_n 2, 1) := by decide +kernel
theorem dX4_pushFrom_5 : decode cX4_pushFrom 5 = .ok (.laload, 1) := by decide +kernel
theorem dX4_pushFrom_6 : decode cX4_pushFrom 6 = .ok (.lstore 4, 2) := by decide +kernel
theorem dX4_pushFrom_8 : decode cX4_pushFrom 8 = .ok (.aload_n 1, 1) := by decide +kernel
theorem dX4_pushFrom_9 : decode cX4_pushFrom 9 = .ok (.lconst 1, 1) := by decide +kernel
theorem dX4_pushFrom_10 : decode cX4_pushFrom 10 = .ok (.aload_n 0, 1) := by decide +kernel
theorem dX4_pushFrom_11 : decode cX4_pushFrom 11 = .ok (.getfield 15, 3) := by decide +kernel
theorem dX4_pushFrom_14 : decode cX4_pushFrom 14 = .ok (.iload_n 2, 1) := by decide +kernel
theorem dX4_pushFrom_15 : decode cX4_pushFrom 15 = .ok (.iaload, 1) := by decide +kernel
theorem dX4_pushFrom_16 : decode cX4_pushFrom 16 = .ok (.lshl, 1) := by decide +kernel
theorem dX4_pushFrom_17 : decode cX4_pushFrom 17 = .ok (.lload 4, 2) := by decide +kernel
theorem dX4_pushFrom_19 : decode cX4_pushFrom 19 = .ok (.invokevirtual 57, 3) := by decide +kernel
theorem dX4_pushFrom_22 : decode cX4_pushFrom 22 = .ok (.lstore 6, 2) := by decide +kernel
theorem dX4_pushFrom_24 : decode cX4_pushFrom 24 = .ok (.aload_n 1, 1) := by decide +kernel
theorem dX4_pushFrom_25 : decode cX4_pushFrom 25 = .ok (.getfield 81, 3) := by decide +kernel
theorem dX4_pushFrom_28 : decode cX4_pushFrom 28 = .ok (.lload 4, 2) := by decide +kernel
theorem dX4_pushFrom_30 : decode cX4_pushFrom 30 = .ok (.ldc2_w 84, 3) := by decide +kernel
theorem dX4_pushFrom_33 : decode cX4_pushFrom 33 = .ok (.lxor, 1) := by decide +kernel
theorem dX4_pushFrom_34 : decode cX4_pushFrom 34 = .ok (.land, 1) := by decide +kernel
theorem dX4_pushFrom_35 : decode cX4_pushFrom 35 = .ok (.lstore 8, 2) := by decide +kernel
theorem dX4_pushFrom_37 : decode cX4_pushFrom 37 = .ok (.iconst 0, 1) := by decide +kernel
theorem dX4_pushFrom_38 : decode cX4_pushFrom 38 = .ok (.istore 10, 2) := by decide +kernel
theorem dX4_pushFrom_40 : decode cX4_pushFrom 40 = .ok (.iload 10, 2) := by decide +kernel
theorem dX4_pushFrom_42 : decode cX4_pushFrom 42 = .ok (.bipush 64, 2) := by decide +kernel
theorem dX4_pushFrom_44 : decode cX4_pushFrom 44 = .ok (.if_icmp .ge 126, 3) := by decide +kernel
theorem dX4_pushFrom_47 : decode cX4_pushFrom 47 = .ok (.lload 4, 2) := by decide +kernel
theorem dX4_pushFrom_49 : decode cX4_pushFrom 49 = .ok (.iload 10, 2) := by decide +kernel
theorem dX4_pushFrom_51 : decode cX4_pushFrom 51 = .ok (.invokestatic 86, 3) := by decide +kernel
theorem dX4_pushFrom_54 : decode cX4_pushFrom 54 = .ok (.ifCond .ne 6, 3) := by decide +kernel
theorem dX4_pushFrom_57 : decode cX4_pushFrom 57 = .ok (.goto 107, 3) := by decide +kernel
theorem dX4_pushFrom_60 : decode cX4_pushFrom 60 = .ok (.lconst 1, 1) := by decide +kernel
theorem dX4_pushFrom_61 : decode cX4_pushFrom 61 = .ok (.iload 10, 2) := by decide +kernel
theorem dX4_pushFrom_63 : decode cX4_pushFrom 63 = .ok (.lshl, 1) := by decide +kernel
theorem dX4_pushFrom_64 : decode cX4_pushFrom 64 = .ok (.lstore 11, 2) := by decide +kernel
theorem dX4_pushFrom_66 : decode cX4_pushFrom 66 = .ok (.iconst 0, 1) := by decide +kernel
theorem dX4_pushFrom_67 : decode cX4_pushFrom 67 = .ok (.istore 13, 2) := by decide +kernel
theorem dX4_pushFrom_69 : decode cX4_pushFrom 69 = .ok (.iload 13, 2) := by decide +kernel
theorem dX4_pushFrom_71 : decode cX4_pushFrom 71 = .ok (.iconst 4, 1) := by decide +kernel
theorem dX4_pushFrom_72 : decode cX4_pushFrom 72 = .ok (.if_icmp .ge 92, 3) := by decide +kernel
theorem dX4_pushFrom_75 : decode cX4_pushFrom 75 = .ok (.lload 11, 2) := by decide +kernel
theorem dX4_pushFrom_77 : decode cX4_pushFrom 77 = .ok (.iload 13, 2) := by decide +kernel
theorem dX4_pushFrom_79 : decode cX4_pushFrom 79 = .ok (.invokestatic 90, 3) := by decide +kernel
theorem dX4_pushFrom_82 : decode cX4_pushFrom 82 = .ok (.lload 8, 2) := by decide +kernel
theorem dX4_pushFrom_84 : decode cX4_pushFrom 84 = .ok (.land, 1) := by decide +kernel
theorem dX4_pushFrom_85 : decode cX4_pushFrom 85 = .ok (.lstore 14, 2) := by decide +kernel
theorem dX4_pushFrom_87 : decode cX4_pushFrom 87 = .ok (.lload 14, 2) := by decide +kernel
theorem dX4_pushFrom_89 : decode cX4_pushFrom 89 = .ok (.lconst 0, 1) := by decide +kernel
theorem dX4_pushFrom_90 : decode cX4_pushFrom 90 = .ok (.lcmp, 1) := by decide +kernel
theorem dX4_pushFrom_91 : decode cX4_pushFrom 91 = .ok (.ifCond .eq 67, 3) := by decide +kernel
theorem dX4_pushFrom_94 : decode cX4_pushFrom 94 = .ok (.lload 11, 2) := by decide +kernel
theorem dX4_pushFrom_96 : decode cX4_pushFrom 96 = .ok (.iload 13, 2) := by decide +kernel
theorem dX4_pushFrom_98 : decode cX4_pushFrom 98 = .ok (.invokestatic 94, 3) := by decide +kernel
theorem dX4_pushFrom_101 : decode cX4_pushFrom 101 = .ok (.invokestatic 90, 3) := by decide +kernel
theorem dX4_pushFrom_104 : decode cX4_pushFrom 104 = .ok (.lload 6, 2) := by decide +kernel
theorem dX4_pushFrom_106 : decode cX4_pushFrom 106 = .ok (.land, 1) := by decide +kernel
theorem dX4_pushFrom_107 : decode cX4_pushFrom 107 = .ok (.lconst 0, 1) := by decide +kernel
theorem dX4_pushFrom_108 : decode cX4_pushFrom 108 = .ok (.lcmp, 1) := by decide +kernel
theorem dX4_pushFrom_109 : decode cX4_pushFrom 109 = .ok (.ifCond .ne 6, 3) := by decide +kernel
theorem dX4_pushFrom_112 : decode cX4_pushFrom 112 = .ok (.goto 46, 3) := by decide +kernel
theorem dX4_pushFrom_115 : decode cX4_pushFrom 115 = .ok (.aload_n 0, 1) := by decide +kernel
theorem dX4_pushFrom_116 : decode cX4_pushFrom 116 = .ok (.aload_n 1, 1) := by decide +kernel
theorem dX4_pushFrom_117 : decode cX4_pushFrom 117 = .ok (.lload 4, 2) := by decide +kernel
theorem dX4_pushFrom_119 : decode cX4_pushFrom 119 = .ok (.lload 11, 2) := by decide +kernel
theorem dX4_pushFrom_121 : decode cX4_pushFrom 121 = .ok (.lxor, 1) := by decide +kernel
theorem dX4_pushFrom_122 : decode cX4_pushFrom 122 = .ok (.lload 14, 2) := by decide +kernel
theorem dX4_pushFrom_124 : decode cX4_pushFrom 124 = .ok (.lxor, 1) := by decide +kernel
theorem dX4_pushFrom_125 : decode cX4_pushFrom 125 = .ok (.lload 11, 2) := by decide +kernel
theorem dX4_pushFrom_127 : decode cX4_pushFrom 127 = .ok (.iload_n 2, 1) := by decide +kernel
theorem dX4_pushFrom_128 : decode cX4_pushFrom 128 = .ok (.iconst 4, 1) := by decide +kernel
theorem dX4_pushFrom_129 : decode cX4_pushFrom 129 = .ok (.aload_n 1, 1) := by decide +kernel
theorem dX4_pushFrom_130 : decode cX4_pushFrom 130 = .ok (.lload 11, 2) := by decide +kernel
theorem dX4_pushFrom_132 : decode cX4_pushFrom 132 = .ok (.invokevirtual 97, 3) := by decide +kernel
theorem dX4_pushFrom_135 : decode cX4_pushFrom 135 = .ok (.imul, 1) := by decide +kernel
theorem dX4_pushFrom_136 : decode cX4_pushFrom 136 = .ok (.iload 13, 2) := by decide +kernel
theorem dX4_pushFrom_138 : decode cX4_pushFrom 138 = .ok (.iadd, 1) := by decide +kernel
theorem dX4_pushFrom_139 : decode cX4_pushFrom 139 = .ok (.iload_n 3, 1) := by decide +kernel
theorem dX4_pushFrom_140 : decode cX4_pushFrom 140 = .ok (.invokevirtual 100, 3) := by decide +kernel
theorem dX4_pushFrom_143 : decode cX4_pushFrom 143 = .ok (.aload_n 0, 1) := by decide +kernel
theorem dX4_pushFrom_144 : decode cX4_pushFrom 144 = .ok (.getfield 41, 3) := by decide +kernel
theorem dX4_pushFrom_147 : decode cX4_pushFrom 147 = .ok (.ifCond .ge 10, 3) := by decide +kernel
theorem dX4_pushFrom_150 : decode cX4_pushFrom 150 = .ok (.aload_n 0, 1) := by decide +kernel
theorem dX4_pushFrom_151 : decode cX4_pushFrom 151 = .ok (.getfield 44, 3) := by decide +kernel
theorem dX4_pushFrom_154 : decode cX4_pushFrom 154 = .ok (.ifCond .eq 4, 3) := by decide +kernel
theorem dX4_pushFrom_157 : decode cX4_pushFrom 157 = .ok (.return_, 1) := by decide +kernel
theorem dX4_pushFrom_158 : decode cX4_pushFrom 158 = .ok (.iinc 13 1, 3) := by decide +kernel
theorem dX4_pushFrom_161 : decode cX4_pushFrom 161 = .ok (.goto (-92), 3) := by decide +kernel
theorem dX4_pushFrom_164 : decode cX4_pushFrom 164 = .ok (.iinc 10 1, 3) := by decide +kernel
theorem dX4_pushFrom_167 : decode cX4_pushFrom 167 = .ok (.goto (-127), 3) := by decide +kernel
theorem dX4_pushFrom_170 : decode cX4_pushFrom 170 = .ok (.return_, 1) := by decide +kernel
theorem dX4_comeTo_0 : decode cX4_comeTo 0 = .ok (.aload_n 1, 1) := by decide +kernel
theorem dX4_comeTo_1 : decode cX4_comeTo 1 = .ok (.lload_n 2, 1) := by decide +kernel
theorem dX4_comeTo_2 : decode cX4_comeTo 2 = .ok (.invokevirtual 104, 3) := by decide +kernel
theorem dX4_comeTo_5 : decode cX4_comeTo 5 = .ok (.ifCond .eq 4, 3) := by decide +kernel
theorem dX4_comeTo_8 : decode cX4_comeTo 8 = .ok (.return_, 1) := by decide +kernel
theorem dX4_comeTo_9 : decode cX4_comeTo 9 = .ok (.aload_n 1, 1) := by decide +kernel
theorem dX4_comeTo_10 : decode cX4_comeTo 10 = .ok (.lload 4, 2) := by decide +kernel
theorem dX4_comeTo_12 : decode cX4_comeTo 12 = .ok (.lload_n 2, 1) := by decide +kernel
theorem dX4_comeTo_13 : decode cX4_comeTo 13 = .ok (.invokevirtual 57, 3) := by decide +kernel
theorem dX4_comeTo_16 : decode cX4_comeTo 16 = .ok (.invokestatic 61, 3) := by decide +kernel
theorem dX4_comeTo_19 : decode cX4_comeTo 19 = .ok (.istore 9, 2) := by decide +kernel
theorem dX4_comeTo_21 : decode cX4_comeTo 21 = .ok (.aload_n 0, 1) := by decide +kernel
theorem dX4_comeTo_22 : decode cX4_comeTo 22 = .ok (.getfield 25, 3) := by decide +kernel
theorem dX4_comeTo_25 : decode cX4_comeTo 25 = .ok (.aload_n 0, 1) := by decide +kernel
theorem dX4_comeTo_26 : decode cX4_comeTo 26 = .ok (.lload_n 2, 1) := by decide +kernel
theorem dX4_comeTo_27 : decode cX4_comeTo 27 = .ok (.iload 9, 2) := by decide +kernel
theorem dX4_comeTo_29 : decode cX4_comeTo 29 = .ok (.invokevirtual 107, 3) := by decide +kernel
theorem dX4_comeTo_32 : decode cX4_comeTo 32 = .ok (.iaload, 1) := by decide +kernel
theorem dX4_comeTo_33 : decode cX4_comeTo 33 = .ok (.ifCond .eq 4, 3) := by decide +kernel
theorem dX4_comeTo_36 : decode cX4_comeTo 36 = .ok (.return_, 1) := by decide +kernel
theorem dX4_comeTo_37 : decode cX4_comeTo 37 = .ok (.aload_n 0, 1) := by decide +kernel
theorem dX4_comeTo_38 : decode cX4_comeTo 38 = .ok (.getfield 34, 3) := by decide +kernel
theorem dX4_comeTo_41 : decode cX4_comeTo 41 = .ok (.iload 8, 2) := by decide +kernel
theorem dX4_comeTo_43 : decode cX4_comeTo 43 = .ok (.if_icmp .lt 9, 3) := by decide +kernel
theorem dX4_comeTo_46 : decode cX4_comeTo 46 = .ok (.aload_n 0, 1) := by decide +kernel
theorem dX4_comeTo_47 : decode cX4_comeTo 47 = .ok (.iconst 1, 1) := by decide +kernel
theorem dX4_comeTo_48 : decode cX4_comeTo 48 = .ok (.putfield 44, 3) := by decide +kernel
theorem dX4_comeTo_51 : decode cX4_comeTo 51 = .ok (.return_, 1) := by decide +kernel
theorem dX4_comeTo_52 : decode cX4_comeTo 52 = .ok (.aload_n 0, 1) := by decide +kernel
theorem dX4_comeTo_53 : decode cX4_comeTo 53 = .ok (.lload_n 2, 1) := by decide +kernel
theorem dX4_comeTo_54 : decode cX4_comeTo 54 = .ok (.iload 9, 2) := by decide +kernel
theorem dX4_comeTo_56 : decode cX4_comeTo 56 = .ok (.iload 6, 2) := by decide +kernel
theorem dX4_comeTo_58 : decode cX4_comeTo 58 = .ok (.iload 7, 2) := by decide +kernel
theorem dX4_comeTo_60 : decode cX4_comeTo 60 = .ok (.invokevirtual 65, 3) := by decide +kernel
theorem dX4_comeTo_63 : decode cX4_comeTo 63 = .ok (.aload_n 1, 1) := by decide +kernel
theorem dX4_comeTo_64 : decode cX4_comeTo 64 = .ok (.lload_n 2, 1) := by decide +kernel
theorem dX4_comeTo_65 : decode cX4_comeTo 65 = .ok (.invokevirtual 69, 3) := by decide +kernel
theorem dX4_comeTo_68 : decode cX4_comeTo 68 = .ok (.ifCond .eq 13, 3) := by decide +kernel
theorem dX4_comeTo_71 : decode cX4_comeTo 71 = .ok (.aload_n 0, 1) := by decide +kernel
theorem dX4_comeTo_72 : decode cX4_comeTo 72 = .ok (.aload_n 0, 1) := by decide +kernel
theorem dX4_comeTo_73 : decode cX4_comeTo 73 = .ok (.getfield 34, 3) := by decide +kernel
theorem dX4_comeTo_76 : decode cX4_comeTo 76 = .ok (.iconst 1, 1) := by decide +kernel
theorem dX4_comeTo_77 : decode cX4_comeTo 77 = .ok (.isub, 1) := by decide +kernel
theorem dX4_comeTo_78 : decode cX4_comeTo 78 = .ok (.putfield 41, 3) := by decide +kernel
theorem dX4_comeTo_81 : decode cX4_comeTo 81 = .ok (.return_, 1) := by decide +kernel
theorem dX4_takeIn_0 : decode cX4_takeIn 0 = .ok (.aload_n 0, 1) := by decide +kernel
theorem dX4_takeIn_1 : decode cX4_takeIn 1 = .ok (.getfield 34, 3) := by decide +kernel
theorem dX4_takeIn_4 : decode cX4_takeIn 4 = .ok (.aload_n 0, 1) := by decide +kernel
theorem dX4_takeIn_5 : decode cX4_takeIn 5 = .ok (.getfield 11, 3) := by decide +kernel
theorem dX4_takeIn_8 : decode cX4_takeIn 8 = .ok (.arraylength, 1) := by decide +kernel
theorem dX4_takeIn_9 : decode cX4_takeIn 9 = .ok (.if_icmp .lt 7, 3) := by decide +kernel
theorem dX4_takeIn_12 : decode cX4_takeIn 12 = .ok (.aload_n 0, 1) := by decide +kernel
theorem dX4_takeIn_13 : decode cX4_takeIn 13 = .ok (.invokevirtual 111, 3) := by decide +kernel
theorem dX4_takeIn_16 : decode cX4_takeIn 16 = .ok (.aload_n 0, 1) := by decide +kernel
theorem dX4_takeIn_17 : decode cX4_takeIn 17 = .ok (.getfield 11, 3) := by decide +kernel
theorem dX4_takeIn_20 : decode cX4_takeIn 20 = .ok (.aload_n 0, 1) := by decide +kernel
theorem dX4_takeIn_21 : decode cX4_takeIn 21 = .ok (.getfield 34, 3) := by decide +kernel
theorem dX4_takeIn_24 : decode cX4_takeIn 24 = .ok (.lload_n 1, 1) := by decide +kernel
theorem dX4_takeIn_25 : decode cX4_takeIn 25 = .ok (.lastore, 1) := by decide +kernel
theorem dX4_takeIn_26 : decode cX4_takeIn 26 = .ok (.aload_n 0, 1) := by decide +kernel
theorem dX4_takeIn_27 : decode cX4_takeIn 27 = .ok (.getfield 15, 3) := by decide +kernel
theorem dX4_takeIn_30 : decode cX4_takeIn 30 = .ok (.aload_n 0, 1) := by decide +kernel
theorem dX4_takeIn_31 : decode cX4_takeIn 31 = .ok (.getfield 34, 3) := by decide +kernel
theorem dX4_takeIn_34 : decode cX4_takeIn 34 = .ok (.iload_n 3, 1) := by decide +kernel
theorem dX4_takeIn_35 : decode cX4_takeIn 35 = .ok (.iastore, 1) := by decide +kernel
theorem dX4_takeIn_36 : decode cX4_takeIn 36 = .ok (.aload_n 0, 1) := by decide +kernel
theorem dX4_takeIn_37 : decode cX4_takeIn 37 = .ok (.getfield 19, 3) := by decide +kernel
theorem dX4_takeIn_40 : decode cX4_takeIn 40 = .ok (.aload_n 0, 1) := by decide +kernel
theorem dX4_takeIn_41 : decode cX4_takeIn 41 = .ok (.getfield 34, 3) := by decide +kernel
theorem dX4_takeIn_44 : decode cX4_takeIn 44 = .ok (.iload 4, 2) := by decide +kernel
theorem dX4_takeIn_46 : decode cX4_takeIn 46 = .ok (.iastore, 1) := by decide +kernel
theorem dX4_takeIn_47 : decode cX4_takeIn 47 = .ok (.aload_n 0, 1) := by decide +kernel
theorem dX4_takeIn_48 : decode cX4_takeIn 48 = .ok (.getfield 22, 3) := by decide +kernel
theorem dX4_takeIn_51 : decode cX4_takeIn 51 = .ok (.aload_n 0, 1) := by decide +kernel
theorem dX4_takeIn_52 : decode cX4_takeIn 52 = .ok (.getfield 34, 3) := by decide +kernel
theorem dX4_takeIn_55 : decode cX4_takeIn 55 = .ok (.iload 5, 2) := by decide +kernel
theorem dX4_takeIn_57 : decode cX4_takeIn 57 = .ok (.iastore, 1) := by decide +kernel
theorem dX4_takeIn_58 : decode cX4_takeIn 58 = .ok (.aload_n 0, 1) := by decide +kernel
theorem dX4_takeIn_59 : decode cX4_takeIn 59 = .ok (.dup, 1) := by decide +kernel
theorem dX4_takeIn_60 : decode cX4_takeIn 60 = .ok (.getfield 34, 3) := by decide +kernel
theorem dX4_takeIn_63 : decode cX4_takeIn 63 = .ok (.iconst 1, 1) := by decide +kernel
theorem dX4_takeIn_64 : decode cX4_takeIn 64 = .ok (.iadd, 1) := by decide +kernel
theorem dX4_takeIn_65 : decode cX4_takeIn 65 = .ok (.putfield 34, 3) := by decide +kernel
theorem dX4_takeIn_68 : decode cX4_takeIn 68 = .ok (.aload_n 0, 1) := by decide +kernel
theorem dX4_takeIn_69 : decode cX4_takeIn 69 = .ok (.getfield 25, 3) := by decide +kernel
theorem dX4_takeIn_72 : decode cX4_takeIn 72 = .ok (.aload_n 0, 1) := by decide +kernel
theorem dX4_takeIn_73 : decode cX4_takeIn 73 = .ok (.lload_n 1, 1) := by decide +kernel
theorem dX4_takeIn_74 : decode cX4_takeIn 74 = .ok (.iload_n 3, 1) := by decide +kernel
theorem dX4_takeIn_75 : decode cX4_takeIn 75 = .ok (.invokevirtual 107, 3) := by decide +kernel
theorem dX4_takeIn_78 : decode cX4_takeIn 78 = .ok (.aload_n 0, 1) := by decide +kernel
theorem dX4_takeIn_79 : decode cX4_takeIn 79 = .ok (.getfield 34, 3) := by decide +kernel
theorem dX4_takeIn_82 : decode cX4_takeIn 82 = .ok (.iastore, 1) := by decide +kernel
theorem dX4_takeIn_83 : decode cX4_takeIn 83 = .ok (.return_, 1) := by decide +kernel
theorem dX4_makeRoom_0 : decode cX4_makeRoom 0 = .ok (.aload_n 0, 1) := by decide +kernel
theorem dX4_makeRoom_1 : decode cX4_makeRoom 1 = .ok (.aload_n 0, 1) := by decide +kernel
theorem dX4_makeRoom_2 : decode cX4_makeRoom 2 = .ok (.getfield 11, 3) := by decide +kernel
theorem dX4_makeRoom_5 : decode cX4_makeRoom 5 = .ok (.sipush 10000, 3) := by decide +kernel
theorem dX4_makeRoom_8 : decode cX4_makeRoom 8 = .ok (.invokestatic 114, 3) := by decide +kernel
theorem dX4_makeRoom_11 : decode cX4_makeRoom 11 = .ok (.putfield 11, 3) := by decide +kernel
theorem dX4_makeRoom_14 : decode cX4_makeRoom 14 = .ok (.aload_n 0, 1) := by decide +kernel
theorem dX4_makeRoom_15 : decode cX4_makeRoom 15 = .ok (.aload_n 0, 1) := by decide +kernel
theorem dX4_makeRoom_16 : decode cX4_makeRoom 16 = .ok (.getfield 15, 3) := by decide +kernel
theorem dX4_makeRoom_19 : decode cX4_makeRoom 19 = .ok (.sipush 10000, 3) := by decide +kernel
theorem dX4_makeRoom_22 : decode cX4_makeRoom 22 = .ok (.invokestatic 118, 3) := by decide +kernel
theorem dX4_makeRoom_25 : decode cX4_makeRoom 25 = .ok (.putfield 15, 3) := by decide +kernel
theorem dX4_makeRoom_28 : decode cX4_makeRoom 28 = .ok (.aload_n 0, 1) := by decide +kernel
theorem dX4_makeRoom_29 : decode cX4_makeRoom 29 = .ok (.aload_n 0, 1) := by decide +kernel
theorem dX4_makeRoom_30 : decode cX4_makeRoom 30 = .ok (.getfield 19, 3) := by decide +kernel
theorem dX4_makeRoom_33 : decode cX4_makeRoom 33 = .ok (.sipush 10000, 3) := by decide +kernel
theorem dX4_makeRoom_36 : decode cX4_makeRoom 36 = .ok (.invokestatic 118, 3) := by decide +kernel
theorem dX4_makeRoom_39 : decode cX4_makeRoom 39 = .ok (.putfield 19, 3) := by decide +kernel
theorem dX4_makeRoom_42 : decode cX4_makeRoom 42 = .ok (.aload_n 0, 1) := by decide +kernel
theorem dX4_makeRoom_43 : decode cX4_makeRoom 43 = .ok (.aload_n 0, 1) := by decide +kernel
theorem dX4_makeRoom_44 : decode cX4_makeRoom 44 = .ok (.getfield 22, 3) := by decide +kernel
theorem dX4_makeRoom_47 : decode cX4_makeRoom 47 = .ok (.sipush 10000, 3) := by decide +kernel
theorem dX4_makeRoom_50 : decode cX4_makeRoom 50 = .ok (.invokestatic 118, 3) := by decide +kernel
theorem dX4_makeRoom_53 : decode cX4_makeRoom 53 = .ok (.putfield 22, 3) := by decide +kernel
theorem dX4_makeRoom_56 : decode cX4_makeRoom 56 = .ok (.aload_n 0, 1) := by decide +kernel
theorem dX4_makeRoom_57 : decode cX4_makeRoom 57 = .ok (.sipush 16384, 3) := by decide +kernel
theorem dX4_makeRoom_60 : decode cX4_makeRoom 60 = .ok (.newarray .int, 2) := by decide +kernel
theorem dX4_makeRoom_62 : decode cX4_makeRoom 62 = .ok (.putfield 25, 3) := by decide +kernel
theorem dX4_makeRoom_65 : decode cX4_makeRoom 65 = .ok (.iconst 0, 1) := by decide +kernel
theorem dX4_makeRoom_66 : decode cX4_makeRoom 66 = .ok (.istore_n 1, 1) := by decide +kernel
theorem dX4_makeRoom_67 : decode cX4_makeRoom 67 = .ok (.iload_n 1, 1) := by decide +kernel
theorem dX4_makeRoom_68 : decode cX4_makeRoom 68 = .ok (.aload_n 0, 1) := by decide +kernel
theorem dX4_makeRoom_69 : decode cX4_makeRoom 69 = .ok (.getfield 34, 3) := by decide +kernel
theorem dX4_makeRoom_72 : decode cX4_makeRoom 72 = .ok (.if_icmp .ge 33, 3) := by decide +kernel
end
section
theorem dX4_makeRoom_75 : decode cX4_makeRoom 75 = .ok (.aload_n 0, 1) := by decide +kernel
theorem dX4_makeRoom_76 : decode cX4_makeRoom 76 = .ok (.getfield 25, 3) := by decide +kernel
theorem dX4_makeRoom_79 : decode cX4_makeRoom 79 = .ok (.aload_n 0, 1) := by decide +kernel
theorem dX4_makeRoom_80 : decode cX4_makeRoom 80 = .ok (.aload_n 0, 1) := by decide +kernel
theorem dX4_makeRoom_81 : decode cX4_makeRoom 81 = .ok (.getfield 11, 3) := by decide +kernel
theorem dX4_makeRoom_84 : decode cX4_makeRoom 84 = .ok (.iload_n 1, 1) := by decide +kernel
theorem dX4_makeRoom_85 : decode cX4_makeRoom 85 = .ok (.laload, 1) := by decide +kernel
theorem dX4_makeRoom_86 : decode cX4_makeRoom 86 = .ok (.aload_n 0, 1) := by decide +kernel
theorem dX4_makeRoom_87 : decode cX4_makeRoom 87 = .ok (.getfield 15, 3) := by decide +kernel
theorem dX4_makeRoom_90 : decode cX4_makeRoom 90 = .ok (.iload_n 1, 1) := by decide +kernel
theorem dX4_makeRoom_91 : decode cX4_makeRoom 91 = .ok (.iaload, 1) := by decide +kernel
theorem dX4_makeRoom_92 : decode cX4_makeRoom 92 = .ok (.invokevirtual 107, 3) := by decide +kernel
theorem dX4_makeRoom_95 : decode cX4_makeRoom 95 = .ok (.iload_n 1, 1) := by decide +kernel
theorem dX4_makeRoom_96 : decode cX4_makeRoom 96 = .ok (.iconst 1, 1) := by decide +kernel
theorem dX4_makeRoom_97 : decode cX4_makeRoom 97 = .ok (.iadd, 1) := by decide +kernel
theorem dX4_makeRoom_98 : decode cX4_makeRoom 98 = .ok (.iastore, 1) := by decide +kernel
theorem dX4_makeRoom_99 : decode cX4_makeRoom 99 = .ok (.iinc 1 1, 3) := by decide +kernel
theorem dX4_makeRoom_102 : decode cX4_makeRoom 102 = .ok (.goto (-35), 3) := by decide +kernel
theorem dX4_makeRoom_105 : decode cX4_makeRoom 105 = .ok (.return_, 1) := by decide +kernel
theorem dX4_slotOf_0 : decode cX4_slotOf 0 = .ok (.aload_n 0, 1) := by decide +kernel
theorem dX4_slotOf_1 : decode cX4_slotOf 1 = .ok (.getfield 25, 3) := by decide +kernel
theorem dX4_slotOf_4 : decode cX4_slotOf 4 = .ok (.arraylength, 1) := by decide +kernel
theorem dX4_slotOf_5 : decode cX4_slotOf 5 = .ok (.iconst 1, 1) := by decide +kernel
theorem dX4_slotOf_6 : decode cX4_slotOf 6 = .ok (.isub, 1) := by decide +kernel
theorem dX4_slotOf_7 : decode cX4_slotOf 7 = .ok (.istore 4, 2) := by decide +kernel
theorem dX4_slotOf_9 : decode cX4_slotOf 9 = .ok (.lload_n 1, 1) := by decide +kernel
theorem dX4_slotOf_10 : decode cX4_slotOf 10 = .ok (.ldc2_w 121, 3) := by decide +kernel
theorem dX4_slotOf_13 : decode cX4_slotOf 13 = .ok (.lmul, 1) := by decide +kernel
theorem dX4_slotOf_14 : decode cX4_slotOf 14 = .ok (.iload_n 3, 1) := by decide +kernel
theorem dX4_slotOf_15 : decode cX4_slotOf 15 = .ok (.i2l, 1) := by decide +kernel
theorem dX4_slotOf_16 : decode cX4_slotOf 16 = .ok (.ladd, 1) := by decide +kernel
theorem dX4_slotOf_17 : decode cX4_slotOf 17 = .ok (.ldc2_w 121, 3) := by decide +kernel
theorem dX4_slotOf_20 : decode cX4_slotOf 20 = .ok (.lmul, 1) := by decide +kernel
theorem dX4_slotOf_21 : decode cX4_slotOf 21 = .ok (.lstore 5, 2) := by decide +kernel
theorem dX4_slotOf_23 : decode cX4_slotOf 23 = .ok (.lload 5, 2) := by decide +kernel
theorem dX4_slotOf_25 : decode cX4_slotOf 25 = .ok (.bipush 40, 2) := by decide +kernel
theorem dX4_slotOf_27 : decode cX4_slotOf 27 = .ok (.lushr, 1) := by decide +kernel
theorem dX4_slotOf_28 : decode cX4_slotOf 28 = .ok (.l2i, 1) := by decide +kernel
theorem dX4_slotOf_29 : decode cX4_slotOf 29 = .ok (.iload 4, 2) := by decide +kernel
theorem dX4_slotOf_31 : decode cX4_slotOf 31 = .ok (.iand, 1) := by decide +kernel
theorem dX4_slotOf_32 : decode cX4_slotOf 32 = .ok (.istore 7, 2) := by decide +kernel
theorem dX4_slotOf_34 : decode cX4_slotOf 34 = .ok (.iconst 0, 1) := by decide +kernel
theorem dX4_slotOf_35 : decode cX4_slotOf 35 = .ok (.istore 8, 2) := by decide +kernel
theorem dX4_slotOf_37 : decode cX4_slotOf 37 = .ok (.iload 8, 2) := by decide +kernel
theorem dX4_slotOf_39 : decode cX4_slotOf 39 = .ok (.iload 4, 2) := by decide +kernel
theorem dX4_slotOf_41 : decode cX4_slotOf 41 = .ok (.if_icmp .ge 60, 3) := by decide +kernel
theorem dX4_slotOf_44 : decode cX4_slotOf 44 = .ok (.aload_n 0, 1) := by decide +kernel
theorem dX4_slotOf_45 : decode cX4_slotOf 45 = .ok (.getfield 25, 3) := by decide +kernel
theorem dX4_slotOf_48 : decode cX4_slotOf 48 = .ok (.iload 7, 2) := by decide +kernel
theorem dX4_slotOf_50 : decode cX4_slotOf 50 = .ok (.iaload, 1) := by decide +kernel
theorem dX4_slotOf_51 : decode cX4_slotOf 51 = .ok (.iconst 1, 1) := by decide +kernel
theorem dX4_slotOf_52 : decode cX4_slotOf 52 = .ok (.isub, 1) := by decide +kernel
theorem dX4_slotOf_53 : decode cX4_slotOf 53 = .ok (.istore 9, 2) := by decide +kernel
theorem dX4_slotOf_55 : decode cX4_slotOf 55 = .ok (.iload 9, 2) := by decide +kernel
theorem dX4_slotOf_57 : decode cX4_slotOf 57 = .ok (.ifCond .lt 44, 3) := by decide +kernel
theorem dX4_slotOf_60 : decode cX4_slotOf 60 = .ok (.aload_n 0, 1) := by decide +kernel
theorem dX4_slotOf_61 : decode cX4_slotOf 61 = .ok (.getfield 11, 3) := by decide +kernel
theorem dX4_slotOf_64 : decode cX4_slotOf 64 = .ok (.iload 9, 2) := by decide +kernel
theorem dX4_slotOf_66 : decode cX4_slotOf 66 = .ok (.laload, 1) := by decide +kernel
theorem dX4_slotOf_67 : decode cX4_slotOf 67 = .ok (.lload_n 1, 1) := by decide +kernel
theorem dX4_slotOf_68 : decode cX4_slotOf 68 = .ok (.lcmp, 1) := by decide +kernel
theorem dX4_slotOf_69 : decode cX4_slotOf 69 = .ok (.ifCond .ne 17, 3) := by decide +kernel
theorem dX4_slotOf_72 : decode cX4_slotOf 72 = .ok (.aload_n 0, 1) := by decide +kernel
theorem dX4_slotOf_73 : decode cX4_slotOf 73 = .ok (.getfield 15, 3) := by decide +kernel
theorem dX4_slotOf_76 : decode cX4_slotOf 76 = .ok (.iload 9, 2) := by decide +kernel
theorem dX4_slotOf_78 : decode cX4_slotOf 78 = .ok (.iaload, 1) := by decide +kernel
theorem dX4_slotOf_79 : decode cX4_slotOf 79 = .ok (.iload_n 3, 1) := by decide +kernel
theorem dX4_slotOf_80 : decode cX4_slotOf 80 = .ok (.if_icmp .ne 6, 3) := by decide +kernel
theorem dX4_slotOf_83 : decode cX4_slotOf 83 = .ok (.goto 18, 3) := by decide +kernel
theorem dX4_slotOf_86 : decode cX4_slotOf 86 = .ok (.iload 7, 2) := by decide +kernel
theorem dX4_slotOf_88 : decode cX4_slotOf 88 = .ok (.iconst 1, 1) := by decide +kernel
theorem dX4_slotOf_89 : decode cX4_slotOf 89 = .ok (.iadd, 1) := by decide +kernel
theorem dX4_slotOf_90 : decode cX4_slotOf 90 = .ok (.iload 4, 2) := by decide +kernel
theorem dX4_slotOf_92 : decode cX4_slotOf 92 = .ok (.iand, 1) := by decide +kernel
theorem dX4_slotOf_93 : decode cX4_slotOf 93 = .ok (.istore 7, 2) := by decide +kernel
theorem dX4_slotOf_95 : decode cX4_slotOf 95 = .ok (.iinc 8 1, 3) := by decide +kernel
theorem dX4_slotOf_98 : decode cX4_slotOf 98 = .ok (.goto (-61), 3) := by decide +kernel
theorem dX4_slotOf_101 : decode cX4_slotOf 101 = .ok (.iload 7, 2) := by decide +kernel
theorem dX4_slotOf_103 : decode cX4_slotOf 103 = .ok (.ireturn, 1) := by decide +kernel
theorem dJ13_bitCount_95d88_0 : decode cJ13_bitCount_95d88 0 = .ok (.lload_n 0, 1) := by decide +kernel
theorem dJ13_bitCount_95d88_1 : decode cJ13_bitCount_95d88 1 = .ok (.lload_n 0, 1) := by decide +kernel
theorem dJ13_bitCount_95d88_2 : decode cJ13_bitCount_95d88 2 = .ok (.iconst 1, 1) := by decide +kernel
theorem dJ13_bitCount_95d88_3 : decode cJ13_bitCount_95d88 3 = .ok (.lushr, 1) := by decide +kernel
theorem dJ13_bitCount_95d88_4 : decode cJ13_bitCount_95d88 4 = .ok (.ldc2_w 314, 3) := by decide +kernel
theorem dJ13_bitCount_95d88_7 : decode cJ13_bitCount_95d88 7 = .ok (.land, 1) := by decide +kernel
theorem dJ13_bitCount_95d88_8 : decode cJ13_bitCount_95d88 8 = .ok (.lsub, 1) := by decide +kernel
theorem dJ13_bitCount_95d88_9 : decode cJ13_bitCount_95d88 9 = .ok (.lstore_n 0, 1) := by decide +kernel
theorem dJ13_bitCount_95d88_10 : decode cJ13_bitCount_95d88 10 = .ok (.lload_n 0, 1) := by decide +kernel
theorem dJ13_bitCount_95d88_11 : decode cJ13_bitCount_95d88 11 = .ok (.ldc2_w 316, 3) := by decide +kernel
theorem dJ13_bitCount_95d88_14 : decode cJ13_bitCount_95d88 14 = .ok (.land, 1) := by decide +kernel
theorem dJ13_bitCount_95d88_15 : decode cJ13_bitCount_95d88 15 = .ok (.lload_n 0, 1) := by decide +kernel
theorem dJ13_bitCount_95d88_16 : decode cJ13_bitCount_95d88 16 = .ok (.iconst 2, 1) := by decide +kernel
theorem dJ13_bitCount_95d88_17 : decode cJ13_bitCount_95d88 17 = .ok (.lushr, 1) := by decide +kernel
theorem dJ13_bitCount_95d88_18 : decode cJ13_bitCount_95d88 18 = .ok (.ldc2_w 316, 3) := by decide +kernel
theorem dJ13_bitCount_95d88_21 : decode cJ13_bitCount_95d88 21 = .ok (.land, 1) := by decide +kernel
theorem dJ13_bitCount_95d88_22 : decode cJ13_bitCount_95d88 22 = .ok (.ladd, 1) := by decide +kernel
theorem dJ13_bitCount_95d88_23 : decode cJ13_bitCount_95d88 23 = .ok (.lstore_n 0, 1) := by decide +kernel
theorem dJ13_bitCount_95d88_24 : decode cJ13_bitCount_95d88 24 = .ok (.lload_n 0, 1) := by decide +kernel
theorem dJ13_bitCount_95d88_25 : decode cJ13_bitCount_95d88 25 = .ok (.lload_n 0, 1) := by decide +kernel
theorem dJ13_bitCount_95d88_26 : decode cJ13_bitCount_95d88 26 = .ok (.iconst 4, 1) := by decide +kernel
theorem dJ13_bitCount_95d88_27 : decode cJ13_bitCount_95d88 27 = .ok (.lushr, 1) := by decide +kernel
theorem dJ13_bitCount_95d88_28 : decode cJ13_bitCount_95d88 28 = .ok (.ladd, 1) := by decide +kernel
theorem dJ13_bitCount_95d88_29 : decode cJ13_bitCount_95d88 29 = .ok (.ldc2_w 318, 3) := by decide +kernel
theorem dJ13_bitCount_95d88_32 : decode cJ13_bitCount_95d88 32 = .ok (.land, 1) := by decide +kernel
theorem dJ13_bitCount_95d88_33 : decode cJ13_bitCount_95d88 33 = .ok (.lstore_n 0, 1) := by decide +kernel
theorem dJ13_bitCount_95d88_34 : decode cJ13_bitCount_95d88 34 = .ok (.lload_n 0, 1) := by decide +kernel
theorem dJ13_bitCount_95d88_35 : decode cJ13_bitCount_95d88 35 = .ok (.lload_n 0, 1) := by decide +kernel
theorem dJ13_bitCount_95d88_36 : decode cJ13_bitCount_95d88 36 = .ok (.bipush 8, 2) := by decide +kernel
theorem dJ13_bitCount_95d88_38 : decode cJ13_bitCount_95d88 38 = .ok (.lushr, 1) := by decide +kernel
theorem dJ13_bitCount_95d88_39 : decode cJ13_bitCount_95d88 39 = .ok (.ladd, 1) := by decide +kernel
theorem dJ13_bitCount_95d88_40 : decode cJ13_bitCount_95d88 40 = .ok (.lstore_n 0, 1) := by decide +kernel
theorem dJ13_bitCount_95d88_41 : decode cJ13_bitCount_95d88 41 = .ok (.lload_n 0, 1) := by decide +kernel
theorem dJ13_bitCount_95d88_42 : decode cJ13_bitCount_95d88 42 = .ok (.lload_n 0, 1) := by decide +kernel
theorem dJ13_bitCount_95d88_43 : decode cJ13_bitCount_95d88 43 = .ok (.bipush 16, 2) := by decide +kernel
theorem dJ13_bitCount_95d88_45 : decode cJ13_bitCount_95d88 45 = .ok (.lushr, 1) := by decide +kernel
theorem dJ13_bitCount_95d88_46 : decode cJ13_bitCount_95d88 46 = .ok (.ladd, 1) := by decide +kernel
theorem dJ13_bitCount_95d88_47 : decode cJ13_bitCount_95d88 47 = .ok (.lstore_n 0, 1) := by decide +kernel
theorem dJ13_bitCount_95d88_48 : decode cJ13_bitCount_95d88 48 = .ok (.lload_n 0, 1) := by decide +kernel
theorem dJ13_bitCount_95d88_49 : decode cJ13_bitCount_95d88 49 = .ok (.lload_n 0, 1) := by decide +kernel
theorem dJ13_bitCount_95d88_50 : decode cJ13_bitCount_95d88 50 = .ok (.bipush 32, 2) := by decide +kernel
theorem dJ13_bitCount_95d88_52 : decode cJ13_bitCount_95d88 52 = .ok (.lushr, 1) := by decide +kernel
theorem dJ13_bitCount_95d88_53 : decode cJ13_bitCount_95d88 53 = .ok (.ladd, 1) := by decide +kernel
theorem dJ13_bitCount_95d88_54 : decode cJ13_bitCount_95d88 54 = .ok (.lstore_n 0, 1) := by decide +kernel
theorem dJ13_bitCount_95d88_55 : decode cJ13_bitCount_95d88 55 = .ok (.lload_n 0, 1) := by decide +kernel
theorem dJ13_bitCount_95d88_56 : decode cJ13_bitCount_95d88 56 = .ok (.l2i, 1) := by decide +kernel
theorem dJ13_bitCount_95d88_57 : decode cJ13_bitCount_95d88 57 = .ok (.bipush 127, 2) := by decide +kernel
theorem dJ13_bitCount_95d88_59 : decode cJ13_bitCount_95d88 59 = .ok (.iand, 1) := by decide +kernel
theorem dJ13_bitCount_95d88_60 : decode cJ13_bitCount_95d88 60 = .ok (.ireturn, 1) := by decide +kernel
theorem dJ7_fill_53178_0 : decode cJ7_fill_53178 0 = .ok (.iconst 0, 1) := by decide +kernel
theorem dJ7_fill_53178_1 : decode cJ7_fill_53178 1 = .ok (.istore_n 2, 1) := by decide +kernel
theorem dJ7_fill_53178_2 : decode cJ7_fill_53178 2 = .ok (.aload_n 0, 1) := by decide +kernel
theorem dJ7_fill_53178_3 : decode cJ7_fill_53178 3 = .ok (.arraylength, 1) := by decide +kernel
theorem dJ7_fill_53178_4 : decode cJ7_fill_53178 4 = .ok (.istore_n 3, 1) := by decide +kernel
theorem dJ7_fill_53178_5 : decode cJ7_fill_53178 5 = .ok (.iload_n 2, 1) := by decide +kernel
theorem dJ7_fill_53178_6 : decode cJ7_fill_53178 6 = .ok (.iload_n 3, 1) := by decide +kernel
theorem dJ7_fill_53178_7 : decode cJ7_fill_53178 7 = .ok (.if_icmp .ge 13, 3) := by decide +kernel
theorem dJ7_fill_53178_10 : decode cJ7_fill_53178 10 = .ok (.aload_n 0, 1) := by decide +kernel
theorem dJ7_fill_53178_11 : decode cJ7_fill_53178 11 = .ok (.iload_n 2, 1) := by decide +kernel
theorem dJ7_fill_53178_12 : decode cJ7_fill_53178 12 = .ok (.iload_n 1, 1) := by decide +kernel
theorem dJ7_fill_53178_13 : decode cJ7_fill_53178 13 = .ok (.iastore, 1) := by decide +kernel
theorem dJ7_fill_53178_14 : decode cJ7_fill_53178 14 = .ok (.iinc 2 1, 3) := by decide +kernel
theorem dJ7_fill_53178_17 : decode cJ7_fill_53178 17 = .ok (.goto (-12), 3) := by decide +kernel
theorem dJ7_fill_53178_20 : decode cJ7_fill_53178 20 = .ok (.return_, 1) := by decide +kernel
theorem dJ7_copyOf_59c91_0 : decode cJ7_copyOf_59c91 0 = .ok (.iload_n 1, 1) := by decide +kernel
theorem dJ7_copyOf_59c91_1 : decode cJ7_copyOf_59c91 1 = .ok (.aload_n 0, 1) := by decide +kernel
theorem dJ7_copyOf_59c91_2 : decode cJ7_copyOf_59c91 2 = .ok (.arraylength, 1) := by decide +kernel
theorem dJ7_copyOf_59c91_3 : decode cJ7_copyOf_59c91 3 = .ok (.if_icmp .ne 11, 3) := by decide +kernel
theorem dJ7_copyOf_59c91_6 : decode cJ7_copyOf_59c91 6 = .ok (.aload_n 0, 1) := by decide +kernel
theorem dJ7_copyOf_59c91_7 : decode cJ7_copyOf_59c91 7 = .ok (.invokevirtual 316, 3) := by decide +kernel
theorem dJ7_copyOf_59c91_10 : decode cJ7_copyOf_59c91 10 = .ok (.checkcast 317, 3) := by decide +kernel
theorem dJ7_copyOf_59c91_13 : decode cJ7_copyOf_59c91 13 = .ok (.areturn, 1) := by decide +kernel
theorem dJ7_copyOf_59c91_14 : decode cJ7_copyOf_59c91 14 = .ok (.iload_n 1, 1) := by decide +kernel
theorem dJ7_copyOf_59c91_15 : decode cJ7_copyOf_59c91 15 = .ok (.newarray .int, 2) := by decide +kernel
theorem dJ7_copyOf_59c91_17 : decode cJ7_copyOf_59c91 17 = .ok (.astore_n 2, 1) := by decide +kernel
theorem dJ7_copyOf_59c91_18 : decode cJ7_copyOf_59c91 18 = .ok (.aload_n 0, 1) := by decide +kernel
theorem dJ7_copyOf_59c91_19 : decode cJ7_copyOf_59c91 19 = .ok (.iconst 0, 1) := by decide +kernel
theorem dJ7_copyOf_59c91_20 : decode cJ7_copyOf_59c91 20 = .ok (.aload_n 2, 1) := by decide +kernel
theorem dJ7_copyOf_59c91_21 : decode cJ7_copyOf_59c91 21 = .ok (.iconst 0, 1) := by decide +kernel
theorem dJ7_copyOf_59c91_22 : decode cJ7_copyOf_59c91 22 = .ok (.aload_n 0, 1) := by decide +kernel
theorem dJ7_copyOf_59c91_23 : decode cJ7_copyOf_59c91 23 = .ok (.arraylength, 1) := by decide +kernel
theorem dJ7_copyOf_59c91_24 : decode cJ7_copyOf_59c91 24 = .ok (.iload_n 1, 1) := by decide +kernel
theorem dJ7_copyOf_59c91_25 : decode cJ7_copyOf_59c91 25 = .ok (.invokestatic 304, 3) := by decide +kernel
theorem dJ7_copyOf_59c91_28 : decode cJ7_copyOf_59c91 28 = .ok (.invokestatic 150, 3) := by decide +kernel
theorem dJ7_copyOf_59c91_31 : decode cJ7_copyOf_59c91 31 = .ok (.aload_n 2, 1) := by decide +kernel
theorem dJ7_copyOf_59c91_32 : decode cJ7_copyOf_59c91 32 = .ok (.areturn, 1) := by decide +kernel
theorem dJ7_copyOf_c38d5_0 : decode cJ7_copyOf_c38d5 0 = .ok (.iload_n 1, 1) := by decide +kernel
theorem dJ7_copyOf_c38d5_1 : decode cJ7_copyOf_c38d5 1 = .ok (.aload_n 0, 1) := by decide +kernel
theorem dJ7_copyOf_c38d5_2 : decode cJ7_copyOf_c38d5 2 = .ok (.arraylength, 1) := by decide +kernel
theorem dJ7_copyOf_c38d5_3 : decode cJ7_copyOf_c38d5 3 = .ok (.if_icmp .ne 11, 3) := by decide +kernel
theorem dJ7_copyOf_c38d5_6 : decode cJ7_copyOf_c38d5 6 = .ok (.aload_n 0, 1) := by decide +kernel
theorem dJ7_copyOf_c38d5_7 : decode cJ7_copyOf_c38d5 7 = .ok (.invokevirtual 319, 3) := by decide +kernel
theorem dJ7_copyOf_c38d5_10 : decode cJ7_copyOf_c38d5 10 = .ok (.checkcast 320, 3) := by decide +kernel
theorem dJ7_copyOf_c38d5_13 : decode cJ7_copyOf_c38d5 13 = .ok (.areturn, 1) := by decide +kernel
theorem dJ7_copyOf_c38d5_14 : decode cJ7_copyOf_c38d5 14 = .ok (.iload_n 1, 1) := by decide +kernel
theorem dJ7_copyOf_c38d5_15 : decode cJ7_copyOf_c38d5 15 = .ok (.newarray .long, 2) := by decide +kernel
theorem dJ7_copyOf_c38d5_17 : decode cJ7_copyOf_c38d5 17 = .ok (.astore_n 2, 1) := by decide +kernel
theorem dJ7_copyOf_c38d5_18 : decode cJ7_copyOf_c38d5 18 = .ok (.aload_n 0, 1) := by decide +kernel
theorem dJ7_copyOf_c38d5_19 : decode cJ7_copyOf_c38d5 19 = .ok (.iconst 0, 1) := by decide +kernel
theorem dJ7_copyOf_c38d5_20 : decode cJ7_copyOf_c38d5 20 = .ok (.aload_n 2, 1) := by decide +kernel
theorem dJ7_copyOf_c38d5_21 : decode cJ7_copyOf_c38d5 21 = .ok (.iconst 0, 1) := by decide +kernel
theorem dJ7_copyOf_c38d5_22 : decode cJ7_copyOf_c38d5 22 = .ok (.aload_n 0, 1) := by decide +kernel
theorem dJ7_copyOf_c38d5_23 : decode cJ7_copyOf_c38d5 23 = .ok (.arraylength, 1) := by decide +kernel
theorem dJ7_copyOf_c38d5_24 : decode cJ7_copyOf_c38d5 24 = .ok (.iload_n 1, 1) := by decide +kernel
theorem dJ7_copyOf_c38d5_25 : decode cJ7_copyOf_c38d5 25 = .ok (.invokestatic 304, 3) := by decide +kernel
theorem dJ7_copyOf_c38d5_28 : decode cJ7_copyOf_c38d5 28 = .ok (.invokestatic 150, 3) := by decide +kernel
theorem dJ7_copyOf_c38d5_31 : decode cJ7_copyOf_c38d5 31 = .ok (.aload_n 2, 1) := by decide +kernel
theorem dJ7_copyOf_c38d5_32 : decode cJ7_copyOf_c38d5 32 = .ok (.areturn, 1) := by decide +kernel
theorem dJ0_length_8abf5_0 : decode cJ0_length_8abf5 0 = .ok (.aload_n 0, 1) := by decide +kernel
theorem dJ0_length_8abf5_1 : decode cJ0_length_8abf5 1 = .ok (.getfield 9, 3) := by decide +kernel
theorem dJ0_length_8abf5_4 : decode cJ0_length_8abf5 4 = .ok (.arraylength, 1) := by decide +kernel
theorem dJ0_length_8abf5_5 : decode cJ0_length_8abf5 5 = .ok (.aload_n 0, 1) := by decide +kernel
theorem dJ0_length_8abf5_6 : decode cJ0_length_8abf5 6 = .ok (.invokevirtual 335, 3) := by decide +kernel
theorem dJ0_length_8abf5_9 : decode cJ0_length_8abf5 9 = .ok (.ishr, 1) := by decide +kernel
theorem dJ0_length_8abf5_10 : decode cJ0_length_8abf5 10 = .ok (.ireturn, 1) := by decide +kernel
theorem dJ0_charAt_5068e_0 : decode cJ0_charAt_5068e 0 = .ok (.aload_n 0, 1) := by decide +kernel
theorem dJ0_charAt_5068e_1 : decode cJ0_charAt_5068e 1 = .ok (.invokevirtual 492, 3) := by decide +kernel
theorem dJ0_charAt_5068e_4 : decode cJ0_charAt_5068e 4 = .ok (.ifCond .eq 12, 3) := by decide +kernel
theorem dJ0_charAt_5068e_7 : decode cJ0_charAt_5068e 7 = .ok (.aload_n 0, 1) := by decide +kernel
theorem dJ0_charAt_5068e_8 : decode cJ0_charAt_5068e 8 = .ok (.getfield 9, 3) := by decide +kernel
theorem dJ0_charAt_5068e_11 : decode cJ0_charAt_5068e 11 = .ok (.iload_n 1, 1) := by decide +kernel
theorem dJ0_charAt_5068e_12 : decode cJ0_charAt_5068e 12 = .ok (.invokestatic 495, 3) := by decide +kernel
theorem dJ0_charAt_5068e_15 : decode cJ0_charAt_5068e 15 = .ok (.ireturn, 1) := by decide +kernel
theorem dJ0_charAt_5068e_16 : decode cJ0_charAt_5068e 16 = .ok (.aload_n 0, 1) := by decide +kernel
theorem dJ0_charAt_5068e_17 : decode cJ0_charAt_5068e 17 = .ok (.getfield 9, 3) := by decide +kernel
theorem dJ0_charAt_5068e_20 : decode cJ0_charAt_5068e 20 = .ok (.iload_n 1, 1) := by decide +kernel
theorem dJ0_charAt_5068e_21 : decode cJ0_charAt_5068e 21 = .ok (.invokestatic 498, 3) := by decide +kernel
theorem dJ0_charAt_5068e_24 : decode cJ0_charAt_5068e 24 = .ok (.ireturn, 1) := by decide +kernel
theorem dJ0_coder_7d493_0 : decode cJ0_coder_7d493 0 = .ok (.getstatic 38, 3) := by decide +kernel
theorem dJ0_coder_7d493_3 : decode cJ0_coder_7d493 3 = .ok (.ifCond .eq 10, 3) := by decide +kernel
theorem dJ0_coder_7d493_6 : decode cJ0_coder_7d493 6 = .ok (.aload_n 0, 1) := by decide +kernel
theorem dJ0_coder_7d493_7 : decode cJ0_coder_7d493 7 = .ok (.getfield 15, 3) := by decide +kernel
theorem dJ0_coder_7d493_10 : decode cJ0_coder_7d493 10 = .ok (.goto 4, 3) := by decide +kernel
theorem dJ0_coder_7d493_13 : decode cJ0_coder_7d493 13 = .ok (.iconst 1, 1) := by decide +kernel
theorem dJ0_coder_7d493_14 : decode cJ0_coder_7d493 14 = .ok (.ireturn, 1) := by decide +kernel
theorem dJ0_isLatin1_aae02_0 : decode cJ0_isLatin1_aae02 0 = .ok (.getstatic 38, 3) := by decide +kernel
theorem dJ0_isLatin1_aae02_3 : decode cJ0_isLatin1_aae02 3 = .ok (.ifCond .eq 14, 3) := by decide +kernel
theorem dJ0_isLatin1_aae02_6 : decode cJ0_isLatin1_aae02 6 = .ok (.aload_n 0, 1) := by decide +kernel
theorem dJ0_isLatin1_aae02_7 : decode cJ0_isLatin1_aae02 7 = .ok (.getfield 15, 3) := by decide +kernel
theorem dJ0_isLatin1_aae02_10 : decode cJ0_isLatin1_aae02 10 = .ok (.ifCond .ne 7, 3) := by decide +kernel
theorem dJ0_isLatin1_aae02_13 : decode cJ0_isLatin1_aae02 13 = .ok (.iconst 1, 1) := by decide +kernel
theorem dJ0_isLatin1_aae02_14 : decode cJ0_isLatin1_aae02 14 = .ok (.goto 4, 3) := by decide +kernel
theorem dJ0_isLatin1_aae02_17 : decode cJ0_isLatin1_aae02 17 = .ok (.iconst 0, 1) := by decide +kernel
theorem dJ0_isLatin1_aae02_18 : decode cJ0_isLatin1_aae02 18 = .ok (.ireturn, 1) := by decide +kernel
theorem dJ0_checkIndex_df160_0 : decode cJ0_checkIndex_df160 0 = .ok (.iload_n 0, 1) := by decide +kernel
theorem dJ0_checkIndex_df160_1 : decode cJ0_checkIndex_df160 1 = .ok (.iload_n 1, 1) := by decide +kernel
theorem dJ0_checkIndex_df160_2 : decode cJ0_checkIndex_df160 2 = .ok (.getstatic 1053, 3) := by decide +kernel
theorem dJ0_checkIndex_df160_5 : decode cJ0_checkIndex_df160 5 = .ok (.invokestatic 1059, 3) := by decide +kernel
theorem dJ0_checkIndex_df160_8 : decode cJ0_checkIndex_df160 8 = .ok (.pop, 1) := by decide +kernel
theorem dJ0_checkIndex_df160_9 : decode cJ0_checkIndex_df160 9 = .ok (.return_, 1) := by decide +kernel
theorem dJ1_charAt_3b067_0 : decode cJ1_charAt_3b067 0 = .ok (.iload_n 1, 1) := by decide +kernel
theorem dJ1_charAt_3b067_1 : decode cJ1_charAt_3b067 1 = .ok (.aload_n 0, 1) := by decide +kernel
theorem dJ1_charAt_3b067_2 : decode cJ1_charAt_3b067 2 = .ok (.arraylength, 1) := by decide +kernel
theorem dJ1_charAt_3b067_3 : decode cJ1_charAt_3b067 3 = .ok (.invokestatic 9, 3) := by decide +kernel
theorem dJ1_charAt_3b067_6 : decode cJ1_charAt_3b067 6 = .ok (.aload_n 0, 1) := by decide +kernel
theorem dJ1_charAt_3b067_7 : decode cJ1_charAt_3b067 7 = .ok (.iload_n 1, 1) := by decide +kernel
theorem dJ1_charAt_3b067_8 : decode cJ1_charAt_3b067 8 = .ok (.baload, 1) := by decide +kernel
theorem dJ1_charAt_3b067_9 : decode cJ1_charAt_3b067 9 = .ok (.sipush 255, 3) := by decide +kernel
theorem dJ1_charAt_3b067_12 : decode cJ1_charAt_3b067 12 = .ok (.iand, 1) := by decide +kernel
theorem dJ1_charAt_3b067_13 : decode cJ1_charAt_3b067 13 = .ok (.i2c, 1) := by decide +kernel
theorem dJ1_charAt_3b067_14 : decode cJ1_charAt_3b067 14 = .ok (.ireturn, 1) := by decide +kernel
theorem dX6_init_0 : decode cX6_init 0 = .ok (.aload_n 0, 1) := by decide +kernel
theorem dX6_init_1 : decode cX6_init 1 = .ok (.invokespecial 1, 3) := by decide +kernel
theorem dX6_init_4 : decode cX6_init 4 = .ok (.aload_n 0, 1) := by decide +kernel
theorem dX6_init_5 : decode cX6_init 5 = .ok (.sipush 160, 3) := by decide +kernel
theorem dX6_init_8 : decode cX6_init 8 = .ok (.newarray .int, 2) := by decide +kernel
theorem dX6_init_10 : decode cX6_init 10 = .ok (.putfield 7, 3) := by decide +kernel
theorem dX6_init_13 : decode cX6_init 13 = .ok (.aload_n 0, 1) := by decide +kernel
theorem dX6_init_14 : decode cX6_init 14 = .ok (.sipush 500, 3) := by decide +kernel
theorem dX6_init_17 : decode cX6_init 17 = .ok (.newarray .int, 2) := by decide +kernel
theorem dX6_init_19 : decode cX6_init 19 = .ok (.putfield 13, 3) := by decide +kernel
theorem dX6_init_22 : decode cX6_init 22 = .ok (.aload_n 0, 1) := by decide +kernel
theorem dX6_init_23 : decode cX6_init 23 = .ok (.sipush 10001, 3) := by decide +kernel
theorem dX6_init_26 : decode cX6_init 26 = .ok (.newarray .long, 2) := by decide +kernel
theorem dX6_init_28 : decode cX6_init 28 = .ok (.putfield 16, 3) := by decide +kernel
theorem dX6_init_31 : decode cX6_init 31 = .ok (.aload_n 0, 1) := by decide +kernel
theorem dX6_init_32 : decode cX6_init 32 = .ok (.sipush 10001, 3) := by decide +kernel
theorem dX6_init_35 : decode cX6_init 35 = .ok (.newarray .int, 2) := by decide +kernel
theorem dX6_init_37 : decode cX6_init 37 = .ok (.putfield 20, 3) := by decide +kernel
theorem dX6_init_40 : decode cX6_init 40 = .ok (.aload_n 0, 1) := by decide +kernel
theorem dX6_init_41 : decode cX6_init 41 = .ok (.sipush 10001, 3) := by decide +kernel
theorem dX6_init_44 : decode cX6_init 44 = .ok (.newarray .int, 2) := by decide +kernel
theorem dX6_init_46 : decode cX6_init 46 = .ok (.putfield 23, 3) := by decide +kernel
theorem dX6_init_49 : decode cX6_init 49 = .ok (.aload_n 0, 1) := by decide +kernel
theorem dX6_init_50 : decode cX6_init 50 = .ok (.sipush 10001, 3) := by decide +kernel
theorem dX6_init_53 : decode cX6_init 53 = .ok (.newarray .int, 2) := by decide +kernel
theorem dX6_init_55 : decode cX6_init 55 = .ok (.putfield 26, 3) := by decide +kernel
theorem dX6_init_58 : decode cX6_init 58 = .ok (.aload_n 0, 1) := by decide +kernel
theorem dX6_init_59 : decode cX6_init 59 = .ok (.ldc 29, 2) := by decide +kernel
theorem dX6_init_61 : decode cX6_init 61 = .ok (.newarray .int, 2) := by decide +kernel
theorem dX6_init_63 : decode cX6_init 63 = .ok (.putfield 30, 3) := by decide +kernel
theorem dX6_init_66 : decode cX6_init 66 = .ok (.aload_n 0, 1) := by decide +kernel
theorem dX6_init_67 : decode cX6_init 67 = .ok (.sipush 10001, 3) := by decide +kernel
theorem dX6_init_70 : decode cX6_init 70 = .ok (.newarray .int, 2) := by decide +kernel
theorem dX6_init_72 : decode cX6_init 72 = .ok (.putfield 33, 3) := by decide +kernel
theorem dX6_init_75 : decode cX6_init 75 = .ok (.aload_n 0, 1) := by decide +kernel
theorem dX6_init_76 : decode cX6_init 76 = .ok (.bipush 64, 2) := by decide +kernel
theorem dX6_init_78 : decode cX6_init 78 = .ok (.newarray .int, 2) := by decide +kernel
theorem dX6_init_80 : decode cX6_init 80 = .ok (.putfield 36, 3) := by decide +kernel
theorem dX6_init_83 : decode cX6_init 83 = .ok (.aload_n 0, 1) := by decide +kernel
theorem dX6_init_84 : decode cX6_init 84 = .ok (.sipush 4096, 3) := by decide +kernel
theorem dX6_init_87 : decode cX6_init 87 = .ok (.newarray .int, 2) := by decide +kernel
theorem dX6_init_89 : decode cX6_init 89 = .ok (.putfield 39, 3) := by decide +kernel
theorem dX6_init_92 : decode cX6_init 92 = .ok (.return_, 1) := by decide +kernel
theorem dX6_thrown_0 : decode cX6_thrown 0 = .ok (.aload_n 0, 1) := by decide +kernel
theorem dX6_thrown_1 : decode cX6_thrown 1 = .ok (.getfield 42, 3) := by decide +kernel
theorem dX6_thrown_4 : decode cX6_thrown 4 = .ok (.ireturn, 1) := by decide +kernel
theorem dX6_throwsIf_0 : decode cX6_throwsIf 0 = .ok (.aload_n 0, 1) := by decide +kernel
theorem dX6_throwsIf_1 : decode cX6_throwsIf 1 = .ok (.iload_n 2, 1) := by decide +kernel
theorem dX6_throwsIf_2 : decode cX6_throwsIf 2 = .ok (.ifCond .eq 7, 3) := by decide +kernel
theorem dX6_throwsIf_5 : decode cX6_throwsIf 5 = .ok (.iload_n 1, 1) := by decide +kernel
theorem dX6_throwsIf_6 : decode cX6_throwsIf 6 = .ok (.goto 4, 3) := by decide +kernel
theorem dX6_throwsIf_9 : decode cX6_throwsIf 9 = .ok (.iconst 0, 1) := by decide +kernel
theorem dX6_throwsIf_10 : decode cX6_throwsIf 10 = .ok (.putfield 42, 3) := by decide +kernel
theorem dX6_throwsIf_13 : decode cX6_throwsIf 13 = .ok (.iload_n 2, 1) := by decide +kernel
theorem dX6_throwsIf_14 : decode cX6_throwsIf 14 = .ok (.ireturn, 1) := by decide +kernel
theorem dX6_isCell_0 : decode cX6_isCell 0 = .ok (.iload_n 1, 1) := by decide +kernel
theorem dX6_isCell_1 : decode cX6_isCell 1 = .ok (.ifCond .lt 27, 3) := by decide +kernel
theorem dX6_isCell_4 : decode cX6_isCell 4 = .ok (.iload_n 1, 1) := by decide +kernel
theorem dX6_isCell_5 : decode cX6_isCell 5 = .ok (.aload_n 0, 1) := by decide +kernel
theorem dX6_isCell_6 : decode cX6_isCell 6 = .ok (.getfield 46, 3) := by decide +kernel
theorem dX6_isCell_9 : decode cX6_isCell 9 = .ok (.if_icmp .ge 19, 3) := by decide +kernel
theorem dX6_isCell_12 : decode cX6_isCell 12 = .ok (.iload_n 2, 1) := by decide +kernel
theorem dX6_isCell_13 : decode cX6_isCell 13 = .ok (.ifCond .lt 15, 3) := by decide +kernel
theorem dX6_isCell_16 : decode cX6_isCell 16 = .ok (.iload_n 2, 1) := by decide +kernel
theorem dX6_isCell_17 : decode cX6_isCell 17 = .ok (.aload_n 0, 1) := by decide +kernel
theorem dX6_isCell_18 : decode cX6_isCell 18 = .ok (.getfield 49, 3) := by decide +kernel
theorem dX6_isCell_21 : decode cX6_isCell 21 = .ok (.if_icmp .ge 7, 3) := by decide +kernel
theorem dX6_isCell_24 : decode cX6_isCell 24 = .ok (.iconst 1, 1) := by decide +kernel
theorem dX6_isCell_25 : decode cX6_isCell 25 = .ok (.goto 4, 3) := by decide +kernel
theorem dX6_isCell_28 : decode cX6_isCell 28 = .ok (.iconst 0, 1) := by decide +kernel
theorem dX6_isCell_29 : decode cX6_isCell 29 = .ok (.ireturn, 1) := by decide +kernel
theorem dX6_has_0 : decode cX6_has 0 = .ok (.iload_n 2, 1) := by decide +kernel
theorem dX6_has_1 : decode cX6_has 1 = .ok (.ifCond .lt 17, 3) := by decide +kernel
theorem dX6_has_4 : decode cX6_has 4 = .ok (.lload_n 0, 1) := by decide +kernel
theorem dX6_has_5 : decode cX6_has 5 = .ok (.iload_n 2, 1) := by decide +kernel
theorem dX6_has_6 : decode cX6_has 6 = .ok (.lshr, 1) := by decide +kernel
theorem dX6_has_7 : decode cX6_has 7 = .ok (.lconst 1, 1) := by decide +kernel
theorem dX6_has_8 : decode cX6_has 8 = .ok (.land, 1) := by decide +kernel
theorem dX6_has_9 : decode cX6_has 9 = .ok (.lconst 1, 1) := by decide +kernel
theorem dX6_has_10 : decode cX6_has 10 = .ok (.lcmp, 1) := by decide +kernel
theorem dX6_has_11 : decode cX6_has 11 = .ok (.ifCond .ne 7, 3) := by decide +kernel
theorem dX6_has_14 : decode cX6_has 14 = .ok (.iconst 1, 1) := by decide +kernel
theorem dX6_has_15 : decode cX6_has 15 = .ok (.goto 4, 3) := by decide +kernel
theorem dX6_has_18 : decode cX6_has 18 = .ok (.iconst 0, 1) := by decide +kernel
theorem dX6_has_19 : decode cX6_has 19 = .ok (.ireturn, 1) := by decide +kernel
theorem dX6_beside_0 : decode cX6_beside 0 = .ok (.iload_n 1, 1) := by decide +kernel
theorem dX6_beside_1 : decode cX6_beside 1 = .ok (.bipush 8, 2) := by decide +kernel
theorem dX6_beside_3 : decode cX6_beside 3 = .ok (.irem, 1) := by decide +kernel
theorem dX6_beside_4 : decode cX6_beside 4 = .ok (.iload_n 2, 1) := by decide +kernel
theorem dX6_beside_5 : decode cX6_beside 5 = .ok (.ifCond .ne 7, 3) := by decide +kernel
theorem dX6_beside_8 : decode cX6_beside 8 = .ok (.iconst 1, 1) := by decide +kernel
theorem dX6_beside_9 : decode cX6_beside 9 = .ok (.goto 13, 3) := by decide +kernel
theorem dX6_beside_12 : decode cX6_beside 12 = .ok (.iload_n 2, 1) := by decide +kernel
theorem dX6_beside_13 : decode cX6_beside 13 = .ok (.iconst 2, 1) := by decide +kernel
theorem dX6_beside_14 : decode cX6_beside 14 = .ok (.if_icmp .ne 7, 3) := by decide +kernel
theorem dX6_beside_17 : decode cX6_beside 17 = .ok (.iconst (-1), 1) := by decide +kernel
theorem dX6_beside_18 : decode cX6_beside 18 = .ok (.goto 4, 3) := by decide +kernel
theorem dX6_beside_21 : decode cX6_beside 21 = .ok (.iconst 0, 1) := by decide +kernel
theorem dX6_beside_22 : decode cX6_beside 22 = .ok (.iadd, 1) := by decide +kernel
theorem dX6_beside_23 : decode cX6_beside 23 = .ok (.istore_n 3, 1) := by decide +kernel
theorem dX6_beside_24 : decode cX6_beside 24 = .ok (.iload_n 1, 1) := by decide +kernel
theorem dX6_beside_25 : decode cX6_beside 25 = .ok (.bipush 8, 2) := by decide +kernel
theorem dX6_beside_27 : decode cX6_beside 27 = .ok (.idiv, 1) := by decide +kernel
theorem dX6_beside_28 : decode cX6_beside 28 = .ok (.iload_n 2, 1) := by decide +kernel
theorem dX6_beside_29 : decode cX6_beside 29 = .ok (.iconst 1, 1) := by decide +kernel
theorem dX6_beside_30 : decode cX6_beside 30 = .ok (.if_icmp .ne 7, 3) := by decide +kernel
theorem dX6_beside_33 : decode cX6_beside 33 = .ok (.iconst 1, 1) := by decide +kernel
theorem dX6_beside_34 : decode cX6_beside 34 = .ok (.goto 13, 3) := by decide +kernel
theorem dX6_beside_37 : decode cX6_beside 37 = .ok (.iload_n 2, 1) := by decide +kernel
theorem dX6_beside_38 : decode cX6_beside 38 = .ok (.iconst 3, 1) := by decide +kernel
theorem dX6_beside_39 : decode cX6_beside 39 = .ok (.if_icmp .ne 7, 3) := by decide +kernel
theorem dX6_beside_42 : decode cX6_beside 42 = .ok (.iconst (-1), 1) := by decide +kernel
theorem dX6_beside_43 : decode cX6_beside 43 = .ok (.goto 4, 3) := by decide +kernel
theorem dX6_beside_46 : decode cX6_beside 46 = .ok (.iconst 0, 1) := by decide +kernel
theorem dX6_beside_47 : decode cX6_beside 47 = .ok (.iadd, 1) := by decide +kernel
theorem dX6_beside_48 : decode cX6_beside 48 = .ok (.istore 4, 2) := by decide +kernel
theorem dX6_beside_50 : decode cX6_beside 50 = .ok (.aload_n 0, 1) := by decide +kernel
theorem dX6_beside_51 : decode cX6_beside 51 = .ok (.iload_n 3, 1) := by decide +kernel
theorem dX6_beside_52 : decode cX6_beside 52 = .ok (.iload 4, 2) := by decide +kernel
theorem dX6_beside_54 : decode cX6_beside 54 = .ok (.invokevirtual 52, 3) := by decide +kernel
theorem dX6_beside_57 : decode cX6_beside 57 = .ok (.ifCond .eq 13, 3) := by decide +kernel
theorem dX6_beside_60 : decode cX6_beside 60 = .ok (.bipush 8, 2) := by decide +kernel
theorem dX6_beside_62 : decode cX6_beside 62 = .ok (.iload 4, 2) := by decide +kernel
theorem dX6_beside_64 : decode cX6_beside 64 = .ok (.imul, 1) := by decide +kernel
theorem dX6_beside_65 : decode cX6_beside 65 = .ok (.iload_n 3, 1) := by decide +kernel
theorem dX6_beside_66 : decode cX6_beside 66 = .ok (.iadd, 1) := by decide +kernel
theorem dX6_beside_67 : decode cX6_beside 67 = .ok (.goto 4, 3) := by decide +kernel
theorem dX6_beside_70 : decode cX6_beside 70 = .ok (.iconst (-1), 1) := by decide +kernel
theorem dX6_beside_71 : decode cX6_beside 71 = .ok (.ireturn, 1) := by decide +kernel
theorem dX6_against_0 : decode cX6_against 0 = .ok (.iload_n 1, 1) := by decide +kernel
theorem dX6_against_1 : decode cX6_against 1 = .ok (.iconst 2, 1) := by decide +kernel
theorem dX6_against_2 : decode cX6_against 2 = .ok (.iadd, 1) := by decide +kernel
theorem dX6_against_3 : decode cX6_against 3 = .ok (.iconst 4, 1) := by decide +kernel
theorem dX6_against_4 : decode cX6_against 4 = .ok (.irem, 1) := by decide +kernel
theorem dX6_against_5 : decode cX6_against 5 = .ok (.ireturn, 1) := by decide +kernel
theorem dX6_number_0 : decode cX6_number 0 = .ok (.iload_n 1, 1) := by decide +kernel
theorem dX6_number_1 : decode cX6_number 1 = .ok (.bipush 8, 2) := by decide +kernel
theorem dX6_number_3 : decode cX6_number 3 = .ok (.idiv, 1) := by decide +kernel
theorem dX6_number_4 : decode cX6_number 4 = .ok (.aload_n 0, 1) := by decide +kernel
theorem dX6_number_5 : decode cX6_number 5 = .ok (.getfield 46, 3) := by decide +kernel
theorem dX6_number_8 : decode cX6_number 8 = .ok (.imul, 1) := by decide +kernel
theorem dX6_number_9 : decode cX6_number 9 = .ok (.iload_n 1, 1) := by decide +kernel
theorem dX6_number_10 : decode cX6_number 10 = .ok (.bipush 8, 2) := by decide +kernel
theorem dX6_number_12 : decode cX6_number 12 = .ok (.irem, 1) := by decide +kernel
theorem dX6_number_13 : decode cX6_number 13 = .ok (.iadd, 1) := by decide +kernel
theorem dX6_number_14 : decode cX6_number 14 = .ok (.ireturn, 1) := by decide +kernel
theorem dX6_countOf_0 : decode cX6_countOf 0 = .ok (.iconst 0, 1) := by decide +kernel
theorem dX6_countOf_1 : decode cX6_countOf 1 = .ok (.istore_n 2, 1) := by decide +kernel
theorem dX6_countOf_2 : decode cX6_countOf 2 = .ok (.iconst 0, 1) := by decide +kernel
theorem dX6_countOf_3 : decode cX6_countOf 3 = .ok (.istore_n 3, 1) := by decide +kernel
theorem dX6_countOf_4 : decode cX6_countOf 4 = .ok (.iload_n 3, 1) := by decide +kernel
theorem dX6_countOf_5 : decode cX6_countOf 5 = .ok (.bipush 64, 2) := by decide +kernel
theorem dX6_countOf_7 : decode cX6_countOf 7 = .ok (.if_icmp .ge 18, 3) := by decide +kernel
theorem dX6_countOf_10 : decode cX6_countOf 10 = .ok (.iload_n 2, 1) := by decide +kernel
theorem dX6_countOf_11 : decode cX6_countOf 11 = .ok (.lload_n 0, 1) := by decide +kernel
theorem dX6_countOf_12 : decode cX6_countOf 12 = .ok (.iload_n 3, 1) := by decide +kernel
theorem dX6_countOf_13 : decode cX6_countOf 13 = .ok (.lshr, 1) := by decide +kernel
theorem dX6_countOf_14 : decode cX6_countOf 14 = .ok (.lconst 1, 1) := by decide +kernel
theorem dX6_countOf_15 : decode cX6_countOf 15 = .ok (.land, 1) := by decide +kernel
theorem dX6_countOf_16 : decode cX6_countOf 16 = .ok (.l2i, 1) := by decide +kernel
theorem dX6_countOf_17 : decode cX6_countOf 17 = .ok (.iadd, 1) := by decide +kernel
theorem dX6_countOf_18 : decode cX6_countOf 18 = .ok (.istore_n 2, 1) := by decide +kernel
theorem dX6_countOf_19 : decode cX6_countOf 19 = .ok (.iinc 3 1, 3) := by decide +kernel
theorem dX6_countOf_22 : decode cX6_countOf 22 = .ok (.goto (-18), 3) := by decide +kernel
theorem dX6_countOf_25 : decode cX6_countOf 25 = .ok (.iload_n 2, 1) := by decide +kernel
theorem dX6_countOf_26 : decode cX6_countOf 26 = .ok (.ireturn, 1) := by decide +kernel
theorem dX6_unit_0 : decode cX6_unit 0 = .ok (.aload_n 0, 1) := by decide +kernel
theorem dX6_unit_1 : decode cX6_unit 1 = .ok (.iconst 0, 1) := by decide +kernel
theorem dX6_unit_2 : decode cX6_unit 2 = .ok (.putfield 42, 3) := by decide +kernel
theorem dX6_unit_5 : decode cX6_unit 5 = .ok (.iload_n 1, 1) := by decide +kernel
theorem dX6_unit_6 : decode cX6_unit 6 = .ok (.ifCond .lt 20, 3) := by decide +kernel
theorem dX6_unit_9 : decode cX6_unit 9 = .ok (.iload_n 1, 1) := by decide +kernel
theorem dX6_unit_10 : decode cX6_unit 10 = .ok (.sipush 255, 3) := by decide +kernel
theorem dX6_unit_13 : decode cX6_unit 13 = .ok (.if_icmp .gt 13, 3) := by decide +kernel
theorem dX6_unit_16 : decode cX6_unit 16 = .ok (.aload_n 0, 1) := by decide +kernel
theorem dX6_unit_17 : decode cX6_unit 17 = .ok (.getfield 56, 3) := by decide +kernel
theorem dX6_unit_20 : decode cX6_unit 20 = .ok (.sipush 160, 3) := by decide +kernel
theorem dX6_unit_23 : decode cX6_unit 23 = .ok (.if_icmp .ne 5, 3) := by decide +kernel
theorem dX6_unit_26 : decode cX6_unit 26 = .ok (.iconst 0, 1) := by decide +kernel
theorem dX6_unit_27 : decode cX6_unit 27 = .ok (.ireturn, 1) := by decide +kernel
theorem dX6_unit_28 : decode cX6_unit 28 = .ok (.aload_n 0, 1) := by decide +kernel
theorem dX6_unit_29 : decode cX6_unit 29 = .ok (.getfield 7, 3) := by decide +kernel
theorem dX6_unit_32 : decode cX6_unit 32 = .ok (.aload_n 0, 1) := by decide +kernel
theorem dX6_unit_33 : decode cX6_unit 33 = .ok (.getfield 56, 3) := by decide +kernel
theorem dX6_unit_36 : decode cX6_unit 36 = .ok (.iload_n 1, 1) := by decide +kernel
theorem dX6_unit_37 : decode cX6_unit 37 = .ok (.iastore, 1) := by decide +kernel
theorem dX6_unit_38 : decode cX6_unit 38 = .ok (.aload_n 0, 1) := by decide +kernel
theorem dX6_unit_39 : decode cX6_unit 39 = .ok (.dup, 1) := by decide +kernel
theorem dX6_unit_40 : decode cX6_unit 40 = .ok (.getfield 56, 3) := by decide +kernel
theorem dX6_unit_43 : decode cX6_unit 43 = .ok (.iconst 1, 1) := by decide +kernel
theorem dX6_unit_44 : decode cX6_unit 44 = .ok (.iadd, 1) := by decide +kernel
theorem dX6_unit_45 : decode cX6_unit 45 = .ok (.putfield 56, 3) := by decide +kernel
theorem dX6_unit_48 : decode cX6_unit 48 = .ok (.iconst 1, 1) := by decide +kernel
theorem dX6_unit_49 : decode cX6_unit 49 = .ok (.ireturn, 1) := by decide +kernel
theorem dX6_look_0 : decode cX6_look 0 = .ok (.aload_n 0, 1) := by decide +kernel
theorem dX6_look_1 : decode cX6_look 1 = .ok (.lconst 0, 1) := by decide +kernel
theorem dX6_look_2 : decode cX6_look 2 = .ok (.putfield 59, 3) := by decide +kernel
theorem dX6_look_5 : decode cX6_look 5 = .ok (.aload_n 0, 1) := by decide +kernel
theorem dX6_look_6 : decode cX6_look 6 = .ok (.lconst 0, 1) := by decide +kernel
theorem dX6_look_7 : decode cX6_look 7 = .ok (.putfield 63, 3) := by decide +kernel
theorem dX6_look_10 : decode cX6_look 10 = .ok (.aload_n 0, 1) := by decide +kernel
theorem dX6_look_11 : decode cX6_look 11 = .ok (.lconst 0, 1) := by decide +kernel
theorem dX6_look_12 : decode cX6_look 12 = .ok (.putfield 66, 3) := by decide +kernel
theorem dX6_look_15 : decode cX6_look 15 = .ok (.aload_n 0, 1) := by decide +kernel
theorem dX6_look_16 : decode cX6_look 16 = .ok (.iconst (-1), 1) := by decide +kernel
theorem dX6_look_17 : decode cX6_look 17 = .ok (.putfield 69, 3) := by decide +kernel
theorem dX6_look_20 : decode cX6_look 20 = .ok (.aload_n 0, 1) := by decide +kernel
theorem dX6_look_21 : decode cX6_look 21 = .ok (.iconst 0, 1) := by decide +kernel
theorem dX6_look_22 : decode cX6_look 22 = .ok (.putfield 72, 3) := by decide +kernel
theorem dX6_look_25 : decode cX6_look 25 = .ok (.iconst 0, 1) := by decide +kernel
theorem dX6_look_26 : decode cX6_look 26 = .ok (.istore_n 1, 1) := by decide +kernel
theorem dX6_look_27 : decode cX6_look 27 = .ok (.iconst 0, 1) := by decide +kernel
theorem dX6_look_28 : decode cX6_look 28 = .ok (.istore_n 2, 1) := by decide +kernel
theorem dX6_look_29 : decode cX6_look 29 = .ok (.iconst 0, 1) := by decide +kernel
theorem dX6_look_30 : decode cX6_look 30 = .ok (.istore_n 3, 1) := by decide +kernel
theorem dX6_look_31 : decode cX6_look 31 = .ok (.iload_n 3, 1) := by decide +kernel
theorem dX6_look_32 : decode cX6_look 32 = .ok (.aload_n 0, 1) := by decide +kernel
theorem dX6_look_33 : decode cX6_look 33 = .ok (.getfield 56, 3) := by decide +kernel
theorem dX6_look_36 : decode cX6_look 36 = .ok (.if_icmp .ge 335, 3) := by decide +kernel
theorem dX6_look_39 : decode cX6_look 39 = .ok (.aload_n 0, 1) := by decide +kernel
theorem dX6_look_40 : decode cX6_look 40 = .ok (.getfield 7, 3) := by decide +kernel
theorem dX6_look_43 : decode cX6_look 43 = .ok (.iload_n 3, 1) := by decide +kernel
theorem dX6_look_44 : decode cX6_look 44 = .ok (.iaload, 1) := by decide +kernel
theorem dX6_look_45 : decode cX6_look 45 = .ok (.istore 4, 2) := by decide +kernel
theorem dX6_look_47 : decode cX6_look 47 = .ok (.iload_n 2, 1) := by decide +kernel
theorem dX6_look_48 : decode cX6_look 48 = .ok (.bipush 8, 2) := by decide +kernel
theorem dX6_look_50 : decode cX6_look 50 = .ok (.if_icmp .ne 5, 3) := by decide +kernel
theorem dX6_look_53 : decode cX6_look 53 = .ok (.iload_n 3, 1) := by decide +kernel
theorem dX6_look_54 : decode cX6_look 54 = .ok (.ireturn, 1) := by decide +kernel
theorem dX6_look_55 : decode cX6_look 55 = .ok (.iload 4, 2) := by decide +kernel
theorem dX6_look_57 : decode cX6_look 57 = .ok (.bipush 10, 2) := by decide +kernel
theorem dX6_look_59 : decode cX6_look 59 = .ok (.if_icmp .eq 10, 3) := by decide +kernel
theorem dX6_look_62 : decode cX6_look 62 = .ok (.iload 4, 2) := by decide +kernel
theorem dX6_look_64 : decode cX6_look 64 = .ok (.bipush 124, 2) := by decide +kernel
theorem dX6_look_66 : decode cX6_look 66 = .ok (.if_icmp .ne 11, 3) := by decide +kernel
theorem dX6_look_69 : decode cX6_look 69 = .ok (.iinc 2 1, 3) := by decide +kernel
theorem dX6_look_72 : decode cX6_look 72 = .ok (.iconst 0, 1) := by decide +kernel
theorem dX6_look_73 : decode cX6_look 73 = .ok (.istore_n 1, 1) := by decide +kernel
theorem dX6_look_74 : decode cX6_look 74 = .ok (.goto 291, 3) := by decide +kernel
theorem dX6_look_77 : decode cX6_look 77 = .ok (.iload 4, 2) := by decide +kernel
theorem dX6_look_79 : decode cX6_look 79 = .ok (.bipush 46, 2) := by decide +kernel
theorem dX6_look_81 : decode cX6_look 81 = .ok (.if_icmp .eq 17, 3) := by decide +kernel
theorem dX6_look_84 : decode cX6_look 84 = .ok (.iload 4, 2) := by decide +kernel
theorem dX6_look_86 : decode cX6_look 86 = .ok (.bipush 42, 2) := by decide +kernel
theorem dX6_look_88 : decode cX6_look 88 = .ok (.if_icmp .eq 10, 3) := by decide +kernel
theorem dX6_look_91 : decode cX6_look 91 = .ok (.iload 4, 2) := by decide +kernel
theorem dX6_look_93 : decode cX6_look 93 = .ok (.bipush 43, 2) := by decide +kernel
theorem dX6_look_95 : decode cX6_look 95 = .ok (.if_icmp .ne 7, 3) := by decide +kernel
theorem dX6_look_98 : decode cX6_look 98 = .ok (.iconst 1, 1) := by decide +kernel
theorem dX6_look_99 : decode cX6_look 99 = .ok (.goto 4, 3) := by decide +kernel
theorem dX6_look_102 : decode cX6_look 102 = .ok (.iconst 0, 1) := by decide +kernel
theorem dX6_look_103 : decode cX6_look 103 = .ok (.istore 5, 2) := by decide +kernel
theorem dX6_look_105 : decode cX6_look 105 = .ok (.iload 4, 2) := by decide +kernel
theorem dX6_look_107 : decode cX6_look 107 = .ok (.bipush 36, 2) := by decide +kernel
theorem dX6_look_109 : decode cX6_look 109 = .ok (.if_icmp .eq 10, 3) := by decide +kernel
theorem dX6_look_112 : decode cX6_look 112 = .ok (.iload 4, 2) := by decide +kernel
theorem dX6_look_114 : decode cX6_look 114 = .ok (.bipush 42, 2) := by decide +kernel
theorem dX6_look_116 : decode cX6_look 116 = .ok (.if_icmp .ne 7, 3) := by decide +kernel
theorem dX6_look_119 : decode cX6_look 119 = .ok (.iconst 1, 1) := by decide +kernel
theorem dX6_look_120 : decode cX6_look 120 = .ok (.goto 4, 3) := by decide +kernel
theorem dX6_look_123 : decode cX6_look 123 = .ok (.iconst 0, 1) := by decide +kernel
theorem dX6_look_124 : decode cX6_look 124 = .ok (.istore 6, 2) := by decide +kernel
theorem dX6_look_126 : decode cX6_look 126 = .ok (.iload 4, 2) := by decide +kernel
theorem dX6_look_128 : decode cX6_look 128 = .ok (.bipush 64, 2) := by decide +kernel
theorem dX6_look_130 : decode cX6_look 130 = .ok (.if_icmp .eq 10, 3) := by decide +kernel
theorem dX6_look_133 : decode cX6_look 133 = .ok (.iload 4, 2) := by decide +kernel
theorem dX6_look_135 : decode cX6_look 135 = .ok (.bipush 43, 2) := by decide +kernel
theorem dX6_look_137 : decode cX6_look 137 = .ok (.if_icmp .ne 7, 3) := by decide +kernel
theorem dX6_look_140 : decode cX6_look 140 = .ok (.iconst 1, 1) := by decide +kernel
theorem dX6_look_141 : decode cX6_look 141 = .ok (.goto 4, 3) := by decide +kernel
theorem dX6_look_144 : decode cX6_look 144 = .ok (.iconst 0, 1) := by decide +kernel
theorem dX6_look_145 : decode cX6_look 145 = .ok (.istore 7, 2) := by decide +kernel
theorem dX6_look_147 : decode cX6_look 147 = .ok (.iload 5, 2) := by decide +kernel
theorem dX6_look_149 : decode cX6_look 149 = .ok (.ifCond .ne 36, 3) := by decide +kernel
theorem dX6_look_152 : decode cX6_look 152 = .ok (.iload 6, 2) := by decide +kernel
theorem dX6_look_154 : decode cX6_look 154 = .ok (.ifCond .ne 31, 3) := by decide +kernel
theorem dX6_look_157 : decode cX6_look 157 = .ok (.iload 7, 2) := by decide +kernel
theorem dX6_look_159 : decode cX6_look 159 = .ok (.ifCond .ne 26, 3) := by decide +kernel
theorem dX6_look_162 : decode cX6_look 162 = .ok (.iload 4, 2) := by decide +kernel
theorem dX6_look_164 : decode cX6_look 164 = .ok (.bipush 35, 2) := by decide +kernel
theorem dX6_look_166 : decode cX6_look 166 = .ok (.if_icmp .eq 19, 3) := by decide +kernel
theorem dX6_look_169 : decode cX6_look 169 = .ok (.iload 4, 2) := by decide +kernel
theorem dX6_look_171 : decode cX6_look 171 = .ok (.bipush 32, 2) := by decide +kernel
theorem dX6_look_173 : decode cX6_look 173 = .ok (.if_icmp .eq 12, 3) := by decide +kernel
theorem dX6_look_176 : decode cX6_look 176 = .ok (.iload 4, 2) := by decide +kernel
theorem dX6_look_178 : decode cX6_look 178 = .ok (.bipush 95, 2) := by decide +kernel
theorem dX6_look_180 : decode cX6_look 180 = .ok (.if_icmp .eq 5, 3) := by decide +kernel
theorem dX6_look_183 : decode cX6_look 183 = .ok (.iload_n 3, 1) := by decide +kernel
theorem dX6_look_184 : decode cX6_look 184 = .ok (.ireturn, 1) := by decide +kernel
theorem dX6_look_185 : decode cX6_look 185 = .ok (.iload_n 1, 1) := by decide +kernel
theorem dX6_look_186 : decode cX6_look 186 = .ok (.bipush 8, 2) := by decide +kernel
theorem dX6_look_188 : decode cX6_look 188 = .ok (.if_icmp .eq 49, 3) := by decide +kernel
theorem dX6_look_191 : decode cX6_look 191 = .ok (.iload 7, 2) := by decide +kernel
theorem dX6_look_193 : decode cX6_look 193 = .ok (.ifCond .eq 10, 3) := by decide +kernel
theorem dX6_look_196 : decode cX6_look 196 = .ok (.aload_n 0, 1) := by decide +kernel
theorem dX6_look_197 : decode cX6_look 197 = .ok (.getfield 69, 3) := by decide +kernel
theorem dX6_look_200 : decode cX6_look 200 = .ok (.ifCond .ge 37, 3) := by decide +kernel
theorem dX6_look_203 : decode cX6_look 203 = .ok (.iload 5, 2) := by decide +kernel
theorem dX6_look_205 : decode cX6_look 205 = .ok (.ifCond .eq 15, 3) := by decide +kernel
theorem dX6_look_208 : decode cX6_look 208 = .ok (.aload_n 0, 1) := by decide +kernel
theorem dX6_look_209 : decode cX6_look 209 = .ok (.getfield 63, 3) := by decide +kernel
theorem dX6_look_212 : decode cX6_look 212 = .ok (.invokestatic 75, 3) := by decide +kernel
theorem dX6_look_215 : decode cX6_look 215 = .ok (.bipush 12, 2) := by decide +kernel
theorem dX6_look_217 : decode cX6_look 217 = .ok (.if_icmp .eq 20, 3) := by decide +kernel
theorem dX6_look_220 : decode cX6_look 220 = .ok (.iload 6, 2) := by decide +kernel
theorem dX6_look_222 : decode cX6_look 222 = .ok (.ifCond .eq 17, 3) := by decide +kernel
theorem dX6_look_225 : decode cX6_look 225 = .ok (.aload_n 0, 1) := by decide +kernel
theorem dX6_look_226 : decode cX6_look 226 = .ok (.getfield 66, 3) := by decide +kernel
theorem dX6_look_229 : decode cX6_look 229 = .ok (.invokestatic 75, 3) := by decide +kernel
theorem dX6_look_232 : decode cX6_look 232 = .ok (.bipush 12, 2) := by decide +kernel
theorem dX6_look_234 : decode cX6_look 234 = .ok (.if_icmp .ne 5, 3) := by decide +kernel
theorem dX6_look_237 : decode cX6_look 237 = .ok (.iload_n 3, 1) := by decide +kernel
theorem dX6_look_238 : decode cX6_look 238 = .ok (.ireturn, 1) := by decide +kernel
theorem dX6_look_239 : decode cX6_look 239 = .ok (.lconst 1, 1) := by decide +kernel
theorem dX6_look_240 : decode cX6_look 240 = .ok (.bipush 8, 2) := by decide +kernel
theorem dX6_look_242 : decode cX6_look 242 = .ok (.iload_n 2, 1) := by decide +kernel
theorem dX6_look_243 : decode cX6_look 243 = .ok (.imul, 1) := by decide +kernel
theorem dX6_look_244 : decode cX6_look 244 = .ok (.iload_n 1, 1) := by decide +kernel
theorem dX6_look_245 : decode cX6_look 245 = .ok (.iadd, 1) := by decide +kernel
theorem dX6_look_246 : decode cX6_look 246 = .ok (.lshl, 1) := by decide +kernel
theorem dX6_look_247 : decode cX6_look 247 = .ok (.lstore 8, 2) := by decide +kernel
theorem dX6_look_249 : decode cX6_look 249 = .ok (.aload_n 0, 1) := by decide +kernel
theorem dX6_look_250 : decode cX6_look 250 = .ok (.iload 4, 2) := by decide +kernel
theorem dX6_look_252 : decode cX6_look 252 = .ok (.bipush 35, 2) := by decide +kernel
theorem dX6_look_254 : decode cX6_look 254 = .ok (.if_icmp .ne 13, 3) := by decide +kernel
theorem dX6_look_257 : decode cX6_look 257 = .ok (.aload_n 0, 1) := by decide +kernel
theorem dX6_look_258 : decode cX6_look 258 = .ok (.getfield 59, 3) := by decide +kernel
theorem dX6_look_261 : decode cX6_look 261 = .ok (.lload 8, 2) := by decide +kernel
theorem dX6_look_263 : decode cX6_look 263 = .ok (.lor, 1) := by decide +kernel
theorem dX6_look_264 : decode cX6_look 264 = .ok (.goto 7, 3) := by decide +kernel
theorem dX6_look_267 : decode cX6_look 267 = .ok (.aload_n 0, 1) := by decide +kernel
theorem dX6_look_268 : decode cX6_look 268 = .ok (.getfield 59, 3) := by decide +kernel
theorem dX6_look_271 : decode cX6_look 271 = .ok (.putfield 59, 3) := by decide +kernel
theorem dX6_look_274 : decode cX6_look 274 = .ok (.aload_n 0, 1) := by decide +kernel
theorem dX6_look_275 : decode cX6_look 275 = .ok (.iload 5, 2) := by decide +kernel
theorem dX6_look_277 : decode cX6_look 277 = .ok (.ifCond .eq 13, 3) := by decide +kernel
theorem dX6_look_280 : decode cX6_look 280 = .ok (.aload_n 0, 1) := by decide +kernel
theorem dX6_look_281 : decode cX6_look 281 = .ok (.getfield 63, 3) := by decide +kernel
theorem dX6_look_284 : decode cX6_look 284 = .ok (.lload 8, 2) := by decide +kernel
theorem dX6_look_286 : decode cX6_look 286 = .ok (.lor, 1) := by decide +kernel
theorem dX6_look_287 : decode cX6_look 287 = .ok (.goto 7, 3) := by decide +kernel
theorem dX6_look_290 : decode cX6_look 290 = .ok (.aload_n 0, 1) := by decide +kernel
theorem dX6_look_291 : decode cX6_look 291 = .ok (.getfield 63, 3) := by decide +kernel
theorem dX6_look_294 : decode cX6_look 294 = .ok (.putfield 63, 3) := by decide +kernel
theorem dX6_look_297 : decode cX6_look 297 = .ok (.aload_n 0, 1) := by decide +kernel
theorem dX6_look_298 : decode cX6_look 298 = .ok (.iload 6, 2) := by decide +kernel
theorem dX6_look_300 : decode cX6_look 300 = .ok (.ifCond .eq 13, 3) := by decide +kernel
theorem dX6_look_303 : decode cX6_look 303 = .ok (.aload_n 0, 1) := by decide +kernel
theorem dX6_look_304 : decode cX6_look 304 = .ok (.getfield 66, 3) := by decide +kernel
theorem dX6_look_307 : decode cX6_look 307 = .ok (.lload 8, 2) := by decide +kernel
theorem dX6_look_309 : decode cX6_look 309 = .ok (.lor, 1) := by decide +kernel
theorem dX6_look_310 : decode cX6_look 310 = .ok (.goto 7, 3) := by decide +kernel
theorem dX6_look_313 : decode cX6_look 313 = .ok (.aload_n 0, 1) := by decide +kernel
theorem dX6_look_314 : decode cX6_look 314 = .ok (.getfield 66, 3) := by decide +kernel
theorem dX6_look_317 : decode cX6_look 317 = .ok (.putfield 66, 3) := by decide +kernel
theorem dX6_look_320 : decode cX6_look 320 = .ok (.aload_n 0, 1) := by decide +kernel
theorem dX6_look_321 : decode cX6_look 321 = .ok (.iload 7, 2) := by decide +kernel
theorem dX6_look_323 : decode cX6_look 323 = .ok (.ifCond .eq 12, 3) := by decide +kernel
theorem dX6_look_326 : decode cX6_look 326 = .ok (.bipush 8, 2) := by decide +kernel
theorem dX6_look_328 : decode cX6_look 328 = .ok (.iload_n 2, 1) := by decide +kernel
theorem dX6_look_329 : decode cX6_look 329 = .ok (.imul, 1) := by decide +kernel
theorem dX6_look_330 : decode cX6_look 330 = .ok (.iload_n 1, 1) := by decide +kernel
theorem dX6_look_331 : decode cX6_look 331 = .ok (.iadd, 1) := by decide +kernel
theorem dX6_look_332 : decode cX6_look 332 = .ok (.goto 7, 3) := by decide +kernel
theorem dX6_look_335 : decode cX6_look 335 = .ok (.aload_n 0, 1) := by decide +kernel
theorem dX6_look_336 : decode cX6_look 336 = .ok (.getfield 69, 3) := by decide +kernel
theorem dX6_look_339 : decode cX6_look 339 = .ok (.putfield 69, 3) := by decide +kernel
theorem dX6_look_342 : decode cX6_look 342 = .ok (.iinc 1 1, 3) := by decide +kernel
theorem dX6_look_345 : decode cX6_look 345 = .ok (.aload_n 0, 1) := by decide +kernel
theorem dX6_look_346 : decode cX6_look 346 = .ok (.iload_n 1, 1) := by decide +kernel
theorem dX6_look_347 : decode cX6_look 347 = .ok (.aload_n 0, 1) := by decide +kernel
theorem dX6_look_348 : decode cX6_look 348 = .ok (.getfield 72, 3) := by decide +kernel
theorem dX6_look_351 : decode cX6_look 351 = .ok (.if_icmp .le 7, 3) := by decide +kernel
theorem dX6_look_354 : decode cX6_look 354 = .ok (.iload_n 1, 1) := by decide +kernel
theorem dX6_look_355 : decode cX6_look 355 = .ok (.goto 7, 3) := by decide +kernel
theorem dX6_look_358 : decode cX6_look 358 = .ok (.aload_n 0, 1) := by decide +kernel
theorem dX6_look_359 : decode cX6_look 359 = .ok (.getfield 72, 3) := by decide +kernel
theorem dX6_look_362 : decode cX6_look 362 = .ok (.putfield 72, 3) := by decide +kernel
theorem dX6_look_365 : decode cX6_look 365 = .ok (.iinc 3 1, 3) := by decide +kernel
theorem dX6_look_368 : decode cX6_look 368 = .ok (.goto (-337), 3) := by decide +kernel
theorem dX6_look_371 : decode cX6_look 371 = .ok (.iconst (-1), 1) := by decide +kernel
theorem dX6_look_372 : decode cX6_look 372 = .ok (.ireturn, 1) := by decide +kernel
theorem dX6_read_0 : decode cX6_read 0 = .ok (.aload_n 0, 1) := by decide +kernel
theorem dX6_read_1 : decode cX6_read 1 = .ok (.iconst 0, 1) := by decide +kernel
theorem dX6_read_2 : decode cX6_read 2 = .ok (.putfield 42, 3) := by decide +kernel
theorem dX6_read_5 : decode cX6_read 5 = .ok (.aload_n 0, 1) := by decide +kernel
theorem dX6_read_6 : decode cX6_read 6 = .ok (.invokevirtual 79, 3) := by decide +kernel
theorem dX6_read_9 : decode cX6_read 9 = .ok (.istore_n 1, 1) := by decide +kernel
theorem dX6_read_10 : decode cX6_read 10 = .ok (.iconst 0, 1) := by decide +kernel
theorem dX6_read_11 : decode cX6_read 11 = .ok (.istore_n 2, 1) := by decide +kernel
theorem dX6_read_12 : decode cX6_read 12 = .ok (.iconst 0, 1) := by decide +kernel
theorem dX6_read_13 : decode cX6_read 13 = .ok (.istore_n 3, 1) := by decide +kernel
theorem dX6_read_14 : decode cX6_read 14 = .ok (.iload_n 3, 1) := by decide +kernel
theorem dX6_read_15 : decode cX6_read 15 = .ok (.aload_n 0, 1) := by decide +kernel
theorem dX6_read_16 : decode cX6_read 16 = .ok (.getfield 56, 3) := by decide +kernel
theorem dX6_read_19 : decode cX6_read 19 = .ok (.if_icmp .ge 49, 3) := by decide +kernel
theorem dX6_read_22 : decode cX6_read 22 = .ok (.iload_n 2, 1) := by decide +kernel
theorem dX6_read_23 : decode cX6_read 23 = .ok (.aload_n 0, 1) := by decide +kernel
theorem dX6_read_24 : decode cX6_read 24 = .ok (.getfield 7, 3) := by decide +kernel
theorem dX6_read_27 : decode cX6_read 27 = .ok (.iload_n 3, 1) := by decide +kernel
theorem dX6_read_28 : decode cX6_read 28 = .ok (.iaload, 1) := by decide +kernel
theorem dX6_read_29 : decode cX6_read 29 = .ok (.bipush 10, 2) := by decide +kernel
theorem dX6_read_31 : decode cX6_read 31 = .ok (.if_icmp .eq 24, 3) := by decide +kernel
theorem dX6_read_34 : decode cX6_read 34 = .ok (.aload_n 0, 1) := by decide +kernel
theorem dX6_read_35 : decode cX6_read 35 = .ok (.getfield 7, 3) := by decide +kernel
theorem dX6_read_38 : decode cX6_read 38 = .ok (.iload_n 3, 1) := by decide +kernel
theorem dX6_read_39 : decode cX6_read 39 = .ok (.iaload, 1) := by decide +kernel
theorem dX6_read_40 : decode cX6_read 40 = .ok (.bipush 124, 2) := by decide +kernel
theorem dX6_read_42 : decode cX6_read 42 = .ok (.if_icmp .eq 13, 3) := by decide +kernel
theorem dX6_read_45 : decode cX6_read 45 = .ok (.iload_n 3, 1) := by decide +kernel
theorem dX6_read_46 : decode cX6_read 46 = .ok (.aload_n 0, 1) := by decide +kernel
theorem dX6_read_47 : decode cX6_read 47 = .ok (.getfield 56, 3) := by decide +kernel
theorem dX6_read_50 : decode cX6_read 50 = .ok (.iconst 1, 1) := by decide +kernel
theorem dX6_read_51 : decode cX6_read 51 = .ok (.isub, 1) := by decide +kernel
theorem dX6_read_52 : decode cX6_read 52 = .ok (.if_icmp .ne 7, 3) := by decide +kernel
theorem dX6_read_55 : decode cX6_read 55 = .ok (.iconst 1, 1) := by decide +kernel
theorem dX6_read_56 : decode cX6_read 56 = .ok (.goto 4, 3) := by decide +kernel
theorem dX6_read_59 : decode cX6_read 59 = .ok (.iconst 0, 1) := by decide +kernel
theorem dX6_read_60 : decode cX6_read 60 = .ok (.iadd, 1) := by decide +kernel
theorem dX6_read_61 : decode cX6_read 61 = .ok (.istore_n 2, 1) := by decide +kernel
theorem dX6_read_62 : decode cX6_read 62 = .ok (.iinc 3 1, 3) := by decide +kernel
theorem dX6_read_65 : decode cX6_read 65 = .ok (.goto (-51), 3) := by decide +kernel
theorem dX6_read_68 : decode cX6_read 68 = .ok (.aload_n 0, 1) := by decide +kernel
theorem dX6_read_69 : decode cX6_read 69 = .ok (.iconst 0, 1) := by decide +kernel
theorem dX6_read_70 : decode cX6_read 70 = .ok (.putfield 56, 3) := by decide +kernel
theorem dX6_read_73 : decode cX6_read 73 = .ok (.iload_n 1, 1) := by decide +kernel
theorem dX6_read_74 : decode cX6_read 74 = .ok (.ifCond .lt 7, 3) := by decide +kernel
theorem dX6_read_77 : decode cX6_read 77 = .ok (.iconst (-1), 1) := by decide +kernel
theorem dX6_read_78 : decode cX6_read 78 = .ok (.iload_n 1, 1) := by decide +kernel
theorem dX6_read_79 : decode cX6_read 79 = .ok (.isub, 1) := by decide +kernel
theorem dX6_read_80 : decode cX6_read 80 = .ok (.ireturn, 1) := by decide +kernel
theorem dX6_read_81 : decode cX6_read 81 = .ok (.aload_n 0, 1) := by decide +kernel
theorem dX6_read_82 : decode cX6_read 82 = .ok (.getfield 72, 3) := by decide +kernel
theorem dX6_read_85 : decode cX6_read 85 = .ok (.ifCond .eq 27, 3) := by decide +kernel
theorem dX6_read_88 : decode cX6_read 88 = .ok (.aload_n 0, 1) := by decide +kernel
theorem dX6_read_89 : decode cX6_read 89 = .ok (.getfield 69, 3) := by decide +kernel
theorem dX6_read_92 : decode cX6_read 92 = .ok (.ifCond .lt 20, 3) := by decide +kernel
theorem dX6_read_95 : decode cX6_read 95 = .ok (.aload_n 0, 1) := by decide +kernel
theorem dX6_read_96 : decode cX6_read 96 = .ok (.getfield 66, 3) := by decide +kernel
theorem dX6_read_99 : decode cX6_read 99 = .ok (.invokestatic 75, 3) := by decide +kernel
theorem dX6_read_102 : decode cX6_read 102 = .ok (.aload_n 0, 1) := by decide +kernel
theorem dX6_read_103 : decode cX6_read 103 = .ok (.getfield 63, 3) := by decide +kernel
theorem dX6_read_106 : decode cX6_read 106 = .ok (.invokestatic 75, 3) := by decide +kernel
theorem dX6_read_109 : decode cX6_read 109 = .ok (.if_icmp .ge 7, 3) := by decide +kernel
theorem dX6_read_112 : decode cX6_read 112 = .ok (.sipush (-200), 3) := by decide +kernel
theorem dX6_read_115 : decode cX6_read 115 = .ok (.ireturn, 1) := by decide +kernel
theorem dX6_read_116 : decode cX6_read 116 = .ok (.aload_n 0, 1) := by decide +kernel
theorem dX6_read_117 : decode cX6_read 117 = .ok (.iconst 1, 1) := by decide +kernel
theorem dX6_read_118 : decode cX6_read 118 = .ok (.putfield 83, 3) := by decide +kernel
theorem dX6_read_121 : decode cX6_read 121 = .ok (.aload_n 0, 1) := by decide +kernel
theorem dX6_read_122 : decode cX6_read 122 = .ok (.aload_n 0, 1) := by decide +kernel
theorem dX6_read_123 : decode cX6_read 123 = .ok (.getfield 72, 3) := by decide +kernel
theorem dX6_read_126 : decode cX6_read 126 = .ok (.putfield 46, 3) := by decide +kernel
theorem dX6_read_129 : decode cX6_read 129 = .ok (.aload_n 0, 1) := by decide +kernel
theorem dX6_read_130 : decode cX6_read 130 = .ok (.iload_n 2, 1) := by decide +kernel
theorem dX6_read_131 : decode cX6_read 131 = .ok (.putfield 49, 3) := by decide +kernel
theorem dX6_read_134 : decode cX6_read 134 = .ok (.aload_n 0, 1) := by decide +kernel
theorem dX6_read_135 : decode cX6_read 135 = .ok (.lconst 0, 1) := by decide +kernel
theorem dX6_read_136 : decode cX6_read 136 = .ok (.putfield 87, 3) := by decide +kernel
theorem dX6_read_139 : decode cX6_read 139 = .ok (.iconst 0, 1) := by decide +kernel
theorem dX6_read_140 : decode cX6_read 140 = .ok (.istore_n 3, 1) := by decide +kernel
theorem dX6_read_141 : decode cX6_read 141 = .ok (.iload_n 3, 1) := by decide +kernel
theorem dX6_read_142 : decode cX6_read 142 = .ok (.aload_n 0, 1) := by decide +kernel
theorem dX6_read_143 : decode cX6_read 143 = .ok (.getfield 49, 3) := by decide +kernel
theorem dX6_read_146 : decode cX6_read 146 = .ok (.if_icmp .ge 62, 3) := by decide +kernel
theorem dX6_read_149 : decode cX6_read 149 = .ok (.iconst 0, 1) := by decide +kernel
theorem dX6_read_150 : decode cX6_read 150 = .ok (.istore 4, 2) := by decide +kernel
theorem dX6_read_152 : decode cX6_read 152 = .ok (.iload 4, 2) := by decide +kernel
theorem dX6_read_154 : decode cX6_read 154 = .ok (.aload_n 0, 1) := by decide +kernel
theorem dX6_read_155 : decode cX6_read 155 = .ok (.getfield 46, 3) := by decide +kernel
theorem dX6_read_158 : decode cX6_read 158 = .ok (.if_icmp .ge 44, 3) := by decide +kernel
theorem dX6_read_161 : decode cX6_read 161 = .ok (.aload_n 0, 1) := by decide +kernel
theorem dX6_read_162 : decode cX6_read 162 = .ok (.getfield 59, 3) := by decide +kernel
theorem dX6_read_165 : decode cX6_read 165 = .ok (.bipush 8, 2) := by decide +kernel
theorem dX6_read_167 : decode cX6_read 167 = .ok (.iload_n 3, 1) := by decide +kernel
theorem dX6_read_168 : decode cX6_read 168 = .ok (.imul, 1) := by decide +kernel
theorem dX6_read_169 : decode cX6_read 169 = .ok (.iload 4, 2) := by decide +kernel
theorem dX6_read_171 : decode cX6_read 171 = .ok (.iadd, 1) := by decide +kernel
theorem dX6_read_172 : decode cX6_read 172 = .ok (.invokestatic 90, 3) := by decide +kernel
theorem dX6_read_175 : decode cX6_read 175 = .ok (.ifCond .ne 21, 3) := by decide +kernel
theorem dX6_read_178 : decode cX6_read 178 = .ok (.aload_n 0, 1) := by decide +kernel
theorem dX6_read_179 : decode cX6_read 179 = .ok (.aload_n 0, 1) := by decide +kernel
theorem dX6_read_180 : decode cX6_read 180 = .ok (.getfield 87, 3) := by decide +kernel
theorem dX6_read_183 : decode cX6_read 183 = .ok (.lconst 1, 1) := by decide +kernel
theorem dX6_read_184 : decode cX6_read 184 = .ok (.bipush 8, 2) := by decide +kernel
theorem dX6_read_186 : decode cX6_read 186 = .ok (.iload_n 3, 1) := by decide +kernel
theorem dX6_read_187 : decode cX6_read 187 = .ok (.imul, 1) := by decide +kernel
theorem dX6_read_188 : decode cX6_read 188 = .ok (.iload 4, 2) := by decide +kernel
theorem dX6_read_190 : decode cX6_read 190 = .ok (.iadd, 1) := by decide +kernel
theorem dX6_read_191 : decode cX6_read 191 = .ok (.lshl, 1) := by decide +kernel
theorem dX6_read_192 : decode cX6_read 192 = .ok (.lor, 1) := by decide +kernel
theorem dX6_read_193 : decode cX6_read 193 = .ok (.putfield 87, 3) := by decide +kernel
theorem dX6_read_196 : decode cX6_read 196 = .ok (.iinc 4 1, 3) := by decide +kernel
theorem dX6_read_199 : decode cX6_read 199 = .ok (.goto (-47), 3) := by decide +kernel
theorem dX6_read_202 : decode cX6_read 202 = .ok (.iinc 3 1, 3) := by decide +kernel
theorem dX6_read_205 : decode cX6_read 205 = .ok (.goto (-64), 3) := by decide +kernel
theorem dX6_read_208 : decode cX6_read 208 = .ok (.aload_n 0, 1) := by decide +kernel
theorem dX6_read_209 : decode cX6_read 209 = .ok (.aload_n 0, 1) := by decide +kernel
theorem dX6_read_210 : decode cX6_read 210 = .ok (.getfield 63, 3) := by decide +kernel
theorem dX6_read_213 : decode cX6_read 213 = .ok (.putfield 94, 3) := by decide +kernel
theorem dX6_read_216 : decode cX6_read 216 = .ok (.aload_n 0, 1) := by decide +kernel
theorem dX6_read_217 : decode cX6_read 217 = .ok (.aload_n 0, 1) := by decide +kernel
theorem dX6_read_218 : decode cX6_read 218 = .ok (.getfield 66, 3) := by decide +kernel
theorem dX6_read_221 : decode cX6_read 221 = .ok (.putfield 97, 3) := by decide +kernel
theorem dX6_read_224 : decode cX6_read 224 = .ok (.aload_n 0, 1) := by decide +kernel
theorem dX6_read_225 : decode cX6_read 225 = .ok (.aload_n 0, 1) := by decide +kernel
theorem dX6_read_226 : decode cX6_read 226 = .ok (.getfield 69, 3) := by decide +kernel
theorem dX6_read_229 : decode cX6_read 229 = .ok (.putfield 100, 3) := by decide +kernel
theorem dX6_read_232 : decode cX6_read 232 = .ok (.aload_n 0, 1) := by decide +kernel
theorem dX6_read_233 : decode cX6_read 233 = .ok (.iconst 0, 1) := by decide +kernel
theorem dX6_read_234 : decode cX6_read 234 = .ok (.putfield 103, 3) := by decide +kernel
theorem dX6_read_237 : decode cX6_read 237 = .ok (.aload_n 0, 1) := by decide +kernel
theorem dX6_read_238 : decode cX6_read 238 = .ok (.iconst 0, 1) := by decide +kernel
theorem dX6_read_239 : decode cX6_read 239 = .ok (.putfield 106, 3) := by decide +kernel
theorem dX6_read_242 : decode cX6_read 242 = .ok (.aload_n 0, 1) := by decide +kernel
theorem dX6_read_243 : decode cX6_read 243 = .ok (.iconst 0, 1) := by decide +kernel
theorem dX6_read_244 : decode cX6_read 244 = .ok (.putfield 109, 3) := by decide +kernel
theorem dX6_read_247 : decode cX6_read 247 = .ok (.aload_n 0, 1) := by decide +kernel
theorem dX6_read_248 : decode cX6_read 248 = .ok (.getfield 97, 3) := by decide +kernel
theorem dX6_read_251 : decode cX6_read 251 = .ok (.invokestatic 75, 3) := by decide +kernel
theorem dX6_read_254 : decode cX6_read 254 = .ok (.ireturn, 1) := by decide +kernel
theorem dX6_go_0 : decode cX6_go 0 = .ok (.aload_n 0, 1) := by decide +kernel
theorem dX6_go_1 : decode cX6_go 1 = .ok (.aload_n 0, 1) := by decide +kernel
theorem dX6_go_2 : decode cX6_go 2 = .ok (.getfield 100, 3) := by decide +kernel
theorem dX6_go_5 : decode cX6_go 5 = .ok (.iload_n 1, 1) := by decide +kernel
theorem dX6_go_6 : decode cX6_go 6 = .ok (.invokevirtual 112, 3) := by decide +kernel
theorem dX6_go_9 : decode cX6_go 9 = .ok (.istore_n 2, 1) := by decide +kernel
theorem dX6_go_10 : decode cX6_go 10 = .ok (.aload_n 0, 1) := by decide +kernel
theorem dX6_go_11 : decode cX6_go 11 = .ok (.getfield 87, 3) := by decide +kernel
theorem dX6_go_14 : decode cX6_go 14 = .ok (.iload_n 2, 1) := by decide +kernel
theorem dX6_go_15 : decode cX6_go 15 = .ok (.invokestatic 90, 3) := by decide +kernel
theorem dX6_go_18 : decode cX6_go 18 = .ok (.ifCond .ne 5, 3) := by decide +kernel
theorem dX6_go_21 : decode cX6_go 21 = .ok (.iconst 0, 1) := by decide +kernel
theorem dX6_go_22 : decode cX6_go 22 = .ok (.ireturn, 1) := by decide +kernel
theorem dX6_go_23 : decode cX6_go 23 = .ok (.iconst 1, 1) := by decide +kernel
theorem dX6_go_24 : decode cX6_go 24 = .ok (.istore_n 3, 1) := by decide +kernel
theorem dX6_go_25 : decode cX6_go 25 = .ok (.aload_n 0, 1) := by decide +kernel
theorem dX6_go_26 : decode cX6_go 26 = .ok (.getfield 97, 3) := by decide +kernel
theorem dX6_go_29 : decode cX6_go 29 = .ok (.iload_n 2, 1) := by decide +kernel
theorem dX6_go_30 : decode cX6_go 30 = .ok (.invokestatic 90, 3) := by decide +kernel
theorem dX6_go_33 : decode cX6_go 33 = .ok (.ifCond .eq 60, 3) := by decide +kernel
theorem dX6_go_36 : decode cX6_go 36 = .ok (.aload_n 0, 1) := by decide +kernel
theorem dX6_go_37 : decode cX6_go 37 = .ok (.iload_n 2, 1) := by decide +kernel
theorem dX6_go_38 : decode cX6_go 38 = .ok (.iload_n 1, 1) := by decide +kernel
theorem dX6_go_39 : decode cX6_go 39 = .ok (.invokevirtual 112, 3) := by decide +kernel
theorem dX6_go_42 : decode cX6_go 42 = .ok (.istore 4, 2) := by decide +kernel
theorem dX6_go_44 : decode cX6_go 44 = .ok (.aload_n 0, 1) := by decide +kernel
theorem dX6_go_45 : decode cX6_go 45 = .ok (.getfield 87, 3) := by decide +kernel
theorem dX6_go_48 : decode cX6_go 48 = .ok (.iload 4, 2) := by decide +kernel
theorem dX6_go_50 : decode cX6_go 50 = .ok (.invokestatic 90, 3) := by decide +kernel
theorem dX6_go_53 : decode cX6_go 53 = .ok (.ifCond .eq 15, 3) := by decide +kernel
theorem dX6_go_56 : decode cX6_go 56 = .ok (.aload_n 0, 1) := by decide +kernel
theorem dX6_go_57 : decode cX6_go 57 = .ok (.getfield 97, 3) := by decide +kernel
theorem dX6_go_60 : decode cX6_go 60 = .ok (.iload 4, 2) := by decide +kernel
theorem dX6_go_62 : decode cX6_go 62 = .ok (.invokestatic 90, 3) := by decide +kernel
theorem dX6_go_65 : decode cX6_go 65 = .ok (.ifCond .eq 5, 3) := by decide +kernel
theorem dX6_go_68 : decode cX6_go 68 = .ok (.iconst 0, 1) := by decide +kernel
theorem dX6_go_69 : decode cX6_go 69 = .ok (.ireturn, 1) := by decide +kernel
theorem dX6_go_70 : decode cX6_go 70 = .ok (.aload_n 0, 1) := by decide +kernel
theorem dX6_go_71 : decode cX6_go 71 = .ok (.aload_n 0, 1) := by decide +kernel
theorem dX6_go_72 : decode cX6_go 72 = .ok (.getfield 97, 3) := by decide +kernel
theorem dX6_go_75 : decode cX6_go 75 = .ok (.lconst 1, 1) := by decide +kernel
theorem dX6_go_76 : decode cX6_go 76 = .ok (.iload_n 2, 1) := by decide +kernel
theorem dX6_go_77 : decode cX6_go 77 = .ok (.lshl, 1) := by decide +kernel
theorem dX6_go_78 : decode cX6_go 78 = .ok (.ldc2_w 116, 3) := by decide +kernel
theorem dX6_go_81 : decode cX6_go 81 = .ok (.lxor, 1) := by decide +kernel
theorem dX6_go_82 : decode cX6_go 82 = .ok (.land, 1) := by decide +kernel
theorem dX6_go_83 : decode cX6_go 83 = .ok (.lconst 1, 1) := by decide +kernel
theorem dX6_go_84 : decode cX6_go 84 = .ok (.iload 4, 2) := by decide +kernel
theorem dX6_go_86 : decode cX6_go 86 = .ok (.lshl, 1) := by decide +kernel
theorem dX6_go_87 : decode cX6_go 87 = .ok (.lor, 1) := by decide +kernel
theorem dX6_go_88 : decode cX6_go 88 = .ok (.putfield 97, 3) := by decide +kernel
theorem dX6_go_91 : decode cX6_go 91 = .ok (.iconst 2, 1) := by decide +kernel
theorem dX6_go_92 : decode cX6_go 92 = .ok (.istore_n 3, 1) := by decide +kernel
theorem dX6_go_93 : decode cX6_go 93 = .ok (.aload_n 0, 1) := by decide +kernel
theorem dX6_go_94 : decode cX6_go 94 = .ok (.iload_n 2, 1) := by decide +kernel
theorem dX6_go_95 : decode cX6_go 95 = .ok (.putfield 100, 3) := by decide +kernel
theorem dX6_go_98 : decode cX6_go 98 = .ok (.aload_n 0, 1) := by decide +kernel
theorem dX6_go_99 : decode cX6_go 99 = .ok (.dup, 1) := by decide +kernel
theorem dX6_go_100 : decode cX6_go 100 = .ok (.getfield 103, 3) := by decide +kernel
theorem dX6_go_103 : decode cX6_go 103 = .ok (.iconst 1, 1) := by decide +kernel
theorem dX6_go_104 : decode cX6_go 104 = .ok (.iadd, 1) := by decide +kernel
theorem dX6_go_105 : decode cX6_go 105 = .ok (.putfield 103, 3) := by decide +kernel
theorem dX6_go_108 : decode cX6_go 108 = .ok (.aload_n 0, 1) := by decide +kernel
theorem dX6_go_109 : decode cX6_go 109 = .ok (.dup, 1) := by decide +kernel
theorem dX6_go_110 : decode cX6_go 110 = .ok (.getfield 106, 3) := by decide +kernel
theorem dX6_go_113 : decode cX6_go 113 = .ok (.iload_n 3, 1) := by decide +kernel
theorem dX6_go_114 : decode cX6_go 114 = .ok (.iconst 1, 1) := by decide +kernel
theorem dX6_go_115 : decode cX6_go 115 = .ok (.isub, 1) := by decide +kernel
theorem dX6_go_116 : decode cX6_go 116 = .ok (.iadd, 1) := by decide +kernel
theorem dX6_go_117 : decode cX6_go 117 = .ok (.putfield 106, 3) := by decide +kernel
theorem dX6_go_120 : decode cX6_go 120 = .ok (.aload_n 0, 1) := by decide +kernel
theorem dX6_go_121 : decode cX6_go 121 = .ok (.getfield 109, 3) := by decide +kernel
theorem dX6_go_124 : decode cX6_go 124 = .ok (.sipush 500, 3) := by decide +kernel
theorem dX6_go_127 : decode cX6_go 127 = .ok (.if_icmp .ne 46, 3) := by decide +kernel
theorem dX6_go_130 : decode cX6_go 130 = .ok (.iconst 1, 1) := by decide +kernel
theorem dX6_go_131 : decode cX6_go 131 = .ok (.istore 4, 2) := by decide +kernel
theorem dX6_go_133 : decode cX6_go 133 = .ok (.iload 4, 2) := by decide +kernel
theorem dX6_go_135 : decode cX6_go 135 = .ok (.sipush 500, 3) := by decide +kernel
theorem dX6_go_138 : decode cX6_go 138 = .ok (.if_icmp .ge 25, 3) := by decide +kernel
theorem dX6_go_141 : decode cX6_go 141 = .ok (.aload_n 0, 1) := by decide +kernel
theorem dX6_go_142 : decode cX6_go 142 = .ok (.getfield 13, 3) := by decide +kernel
theorem dX6_go_145 : decode cX6_go 145 = .ok (.iload 4, 2) := by decide +kernel
theorem dX6_go_147 : decode cX6_go 147 = .ok (.iconst 1, 1) := by decide +kernel
theorem dX6_go_148 : decode cX6_go 148 = .ok (.isub, 1) := by decide +kernel
theorem dX6_go_149 : decode cX6_go 149 = .ok (.aload_n 0, 1) := by decide +kernel
theorem dX6_go_150 : decode cX6_go 150 = .ok (.getfield 13, 3) := by decide +kernel
theorem dX6_go_153 : decode cX6_go 153 = .ok (.iload 4, 2) := by decide +kernel
theorem dX6_go_155 : decode cX6_go 155 = .ok (.iaload, 1) := by decide +kernel
theorem dX6_go_156 : decode cX6_go 156 = .ok (.iastore, 1) := by decide +kernel
theorem dX6_go_157 : decode cX6_go 157 = .ok (.iinc 4 1, 3) := by decide +kernel
theorem dX6_go_160 : decode cX6_go 160 = .ok (.goto (-27), 3) := by decide +kernel
theorem dX6_go_163 : decode cX6_go 163 = .ok (.aload_n 0, 1) := by decide +kernel
theorem dX6_go_164 : decode cX6_go 164 = .ok (.dup, 1) := by decide +kernel
theorem dX6_go_165 : decode cX6_go 165 = .ok (.getfield 109, 3) := by decide +kernel
theorem dX6_go_168 : decode cX6_go 168 = .ok (.iconst 1, 1) := by decide +kernel
theorem dX6_go_169 : decode cX6_go 169 = .ok (.isub, 1) := by decide +kernel
theorem dX6_go_170 : decode cX6_go 170 = .ok (.putfield 109, 3) := by decide +kernel
theorem dX6_go_173 : decode cX6_go 173 = .ok (.aload_n 0, 1) := by decide +kernel
theorem dX6_go_174 : decode cX6_go 174 = .ok (.getfield 13, 3) := by decide +kernel
theorem dX6_go_177 : decode cX6_go 177 = .ok (.aload_n 0, 1) := by decide +kernel
theorem dX6_go_178 : decode cX6_go 178 = .ok (.getfield 109, 3) := by decide +kernel
theorem dX6_go_181 : decode cX6_go 181 = .ok (.iload_n 1, 1) := by decide +kernel
theorem dX6_go_182 : decode cX6_go 182 = .ok (.iconst 4, 1) := by decide +kernel
theorem dX6_go_183 : decode cX6_go 183 = .ok (.iload_n 3, 1) := by decide +kernel
theorem dX6_go_184 : decode cX6_go 184 = .ok (.iconst 1, 1) := by decide +kernel
theorem dX6_go_185 : decode cX6_go 185 = .ok (.isub, 1) := by decide +kernel
theorem dX6_go_186 : decode cX6_go 186 = .ok (.imul, 1) := by decide +kernel
theorem dX6_go_187 : decode cX6_go 187 = .ok (.iadd, 1) := by decide +kernel
theorem dX6_go_188 : decode cX6_go 188 = .ok (.iastore, 1) := by decide +kernel
theorem dX6_go_189 : decode cX6_go 189 = .ok (.aload_n 0, 1) := by decide +kernel
theorem dX6_go_190 : decode cX6_go 190 = .ok (.dup, 1) := by decide +kernel
theorem dX6_go_191 : decode cX6_go 191 = .ok (.getfield 109, 3) := by decide +kernel
theorem dX6_go_194 : decode cX6_go 194 = .ok (.iconst 1, 1) := by decide +kernel
theorem dX6_go_195 : decode cX6_go 195 = .ok (.iadd, 1) := by decide +kernel
theorem dX6_go_196 : decode cX6_go 196 = .ok (.putfield 109, 3) := by decide +kernel
theorem dX6_go_199 : decode cX6_go 199 = .ok (.iload_n 3, 1) := by decide +kernel
theorem dX6_go_200 : decode cX6_go 200 = .ok (.ireturn, 1) := by decide +kernel
theorem dX6_move_0 : decode cX6_move 0 = .ok (.aload_n 0, 1) := by decide +kernel
theorem dX6_move_1 : decode cX6_move 1 = .ok (.iconst 2, 1) := by decide +kernel
theorem dX6_move_2 : decode cX6_move 2 = .ok (.aload_n 0, 1) := by decide +kernel
theorem dX6_move_3 : decode cX6_move 3 = .ok (.getfield 83, 3) := by decide +kernel
theorem dX6_move_6 : decode cX6_move 6 = .ok (.ifCond .ne 7, 3) := by decide +kernel
theorem dX6_move_9 : decode cX6_move 9 = .ok (.iconst 1, 1) := by decide +kernel
theorem dX6_move_10 : decode cX6_move 10 = .ok (.goto 4, 3) := by decide +kernel
theorem dX6_move_13 : decode cX6_move 13 = .ok (.iconst 0, 1) := by decide +kernel
theorem dX6_move_14 : decode cX6_move 14 = .ok (.invokevirtual 118, 3) := by decide +kernel
theorem dX6_move_17 : decode cX6_move 17 = .ok (.ifCond .ne 25, 3) := by decide +kernel
theorem dX6_move_20 : decode cX6_move 20 = .ok (.aload_n 0, 1) := by decide +kernel
theorem dX6_move_21 : decode cX6_move 21 = .ok (.iconst 1, 1) := by decide +kernel
theorem dX6_move_22 : decode cX6_move 22 = .ok (.iload_n 1, 1) := by decide +kernel
theorem dX6_move_23 : decode cX6_move 23 = .ok (.ifCond .lt 8, 3) := by decide +kernel
theorem dX6_move_26 : decode cX6_move 26 = .ok (.iload_n 1, 1) := by decide +kernel
theorem dX6_move_27 : decode cX6_move 27 = .ok (.iconst 3, 1) := by decide +kernel
theorem dX6_move_28 : decode cX6_move 28 = .ok (.if_icmp .le 7, 3) := by decide +kernel
theorem dX6_move_31 : decode cX6_move 31 = .ok (.iconst 1, 1) := by decide +kernel
theorem dX6_move_32 : decode cX6_move 32 = .ok (.goto 4, 3) := by decide +kernel
theorem dX6_move_35 : decode cX6_move 35 = .ok (.iconst 0, 1) := by decide +kernel
theorem dX6_move_36 : decode cX6_move 36 = .ok (.invokevirtual 118, 3) := by decide +kernel
theorem dX6_move_39 : decode cX6_move 39 = .ok (.ifCond .eq 5, 3) := by decide +kernel
theorem dX6_move_42 : decode cX6_move 42 = .ok (.iconst 0, 1) := by decide +kernel
theorem dX6_move_43 : decode cX6_move 43 = .ok (.ireturn, 1) := by decide +kernel
theorem dX6_move_44 : decode cX6_move 44 = .ok (.aload_n 0, 1) := by decide +kernel
theorem dX6_move_45 : decode cX6_move 45 = .ok (.iload_n 1, 1) := by decide +kernel
theorem dX6_move_46 : decode cX6_move 46 = .ok (.invokevirtual 122, 3) := by decide +kernel
theorem dX6_move_49 : decode cX6_move 49 = .ok (.ireturn, 1) := by decide +kernel
theorem dX6_undo_0 : decode cX6_undo 0 = .ok (.aload_n 0, 1) := by decide +kernel
theorem dX6_undo_1 : decode cX6_undo 1 = .ok (.iconst 0, 1) := by decide +kernel
theorem dX6_undo_2 : decode cX6_undo 2 = .ok (.putfield 42, 3) := by decide +kernel
theorem dX6_undo_5 : decode cX6_undo 5 = .ok (.aload_n 0, 1) := by decide +kernel
theorem dX6_undo_6 : decode cX6_undo 6 = .ok (.getfield 109, 3) := by decide +kernel
theorem dX6_undo_9 : decode cX6_undo 9 = .ok (.ifCond .ne 5, 3) := by decide +kernel
theorem dX6_undo_12 : decode cX6_undo 12 = .ok (.iconst 0, 1) := by decide +kernel
theorem dX6_undo_13 : decode cX6_undo 13 = .ok (.ireturn, 1) := by decide +kernel
theorem dX6_undo_14 : decode cX6_undo 14 = .ok (.aload_n 0, 1) := by decide +kernel
theorem dX6_undo_15 : decode cX6_undo 15 = .ok (.dup, 1) := by decide +kernel
theorem dX6_undo_16 : decode cX6_undo 16 = .ok (.getfield 109, 3) := by decide +kernel
theorem dX6_undo_19 : decode cX6_undo 19 = .ok (.iconst 1, 1) := by decide +kernel
theorem dX6_undo_20 : decode cX6_undo 20 = .ok (.isub, 1) := by decide +kernel
theorem dX6_undo_21 : decode cX6_undo 21 = .ok (.putfield 109, 3) := by decide +kernel
theorem dX6_undo_24 : decode cX6_undo 24 = .ok (.aload_n 0, 1) := by decide +kernel
theorem dX6_undo_25 : decode cX6_undo 25 = .ok (.getfield 13, 3) := by decide +kernel
theorem dX6_undo_28 : decode cX6_undo 28 = .ok (.aload_n 0, 1) := by decide +kernel
theorem dX6_undo_29 : decode cX6_undo 29 = .ok (.getfield 109, 3) := by decide +kernel
theorem dX6_undo_32 : decode cX6_undo 32 = .ok (.iaload, 1) := by decide +kernel
theorem dX6_undo_33 : decode cX6_undo 33 = .ok (.iconst 4, 1) := by decide +kernel
theorem dX6_undo_34 : decode cX6_undo 34 = .ok (.irem, 1) := by decide +kernel
theorem dX6_undo_35 : decode cX6_undo 35 = .ok (.istore_n 1, 1) := by decide +kernel
theorem dX6_undo_36 : decode cX6_undo 36 = .ok (.aload_n 0, 1) := by decide +kernel
theorem dX6_undo_37 : decode cX6_undo 37 = .ok (.getfield 13, 3) := by decide +kernel
theorem dX6_undo_40 : decode cX6_undo 40 = .ok (.aload_n 0, 1) := by decide +kernel
theorem dX6_undo_41 : decode cX6_undo 41 = .ok (.getfield 109, 3) := by decide +kernel
theorem dX6_undo_44 : decode cX6_undo 44 = .ok (.iaload, 1) := by decide +kernel
theorem dX6_undo_45 : decode cX6_undo 45 = .ok (.iconst 3, 1) := by decide +kernel
theorem dX6_undo_46 : decode cX6_undo 46 = .ok (.if_icmp .le 7, 3) := by decide +kernel
theorem dX6_undo_49 : decode cX6_undo 49 = .ok (.iconst 1, 1) := by decide +kernel
theorem dX6_undo_50 : decode cX6_undo 50 = .ok (.goto 4, 3) := by decide +kernel
theorem dX6_undo_53 : decode cX6_undo 53 = .ok (.iconst 0, 1) := by decide +kernel
theorem dX6_undo_54 : decode cX6_undo 54 = .ok (.istore_n 2, 1) := by decide +kernel
theorem dX6_undo_55 : decode cX6_undo 55 = .ok (.iload_n 2, 1) := by decide +kernel
theorem dX6_undo_56 : decode cX6_undo 56 = .ok (.ifCond .eq 36, 3) := by decide +kernel
theorem dX6_undo_59 : decode cX6_undo 59 = .ok (.aload_n 0, 1) := by decide +kernel
theorem dX6_undo_60 : decode cX6_undo 60 = .ok (.aload_n 0, 1) := by decide +kernel
theorem dX6_undo_61 : decode cX6_undo 61 = .ok (.getfield 100, 3) := by decide +kernel
theorem dX6_undo_64 : decode cX6_undo 64 = .ok (.iload_n 1, 1) := by decide +kernel
theorem dX6_undo_65 : decode cX6_undo 65 = .ok (.invokevirtual 112, 3) := by decide +kernel
theorem dX6_undo_68 : decode cX6_undo 68 = .ok (.istore_n 3, 1) := by decide +kernel
theorem dX6_undo_69 : decode cX6_undo 69 = .ok (.aload_n 0, 1) := by decide +kernel
theorem dX6_undo_70 : decode cX6_undo 70 = .ok (.aload_n 0, 1) := by decide +kernel
theorem dX6_undo_71 : decode cX6_undo 71 = .ok (.getfield 97, 3) := by decide +kernel
theorem dX6_undo_74 : decode cX6_undo 74 = .ok (.lconst 1, 1) := by decide +kernel
theorem dX6_undo_75 : decode cX6_undo 75 = .ok (.iload_n 3, 1) := by decide +kernel
theorem dX6_undo_76 : decode cX6_undo 76 = .ok (.lshl, 1) := by decide +kernel
theorem dX6_undo_77 : decode cX6_undo 77 = .ok (.ldc2_w 116, 3) := by decide +kernel
theorem dX6_undo_80 : decode cX6_undo 80 = .ok (.lxor, 1) := by decide +kernel
theorem dX6_undo_81 : decode cX6_undo 81 = .ok (.land, 1) := by decide +kernel
theorem dX6_undo_82 : decode cX6_undo 82 = .ok (.lconst 1, 1) := by decide +kernel
theorem dX6_undo_83 : decode cX6_undo 83 = .ok (.aload_n 0, 1) := by decide +kernel
theorem dX6_undo_84 : decode cX6_undo 84 = .ok (.getfield 100, 3) := by decide +kernel
theorem dX6_undo_87 : decode cX6_undo 87 = .ok (.lshl, 1) := by decide +kernel
theorem dX6_undo_88 : decode cX6_undo 88 = .ok (.lor, 1) := by decide +kernel
theorem dX6_undo_89 : decode cX6_undo 89 = .ok (.putfield 97, 3) := by decide +kernel
theorem dX6_undo_92 : decode cX6_undo 92 = .ok (.aload_n 0, 1) := by decide +kernel
theorem dX6_undo_93 : decode cX6_undo 93 = .ok (.aload_n 0, 1) := by decide +kernel
theorem dX6_undo_94 : decode cX6_undo 94 = .ok (.aload_n 0, 1) := by decide +kernel
theorem dX6_undo_95 : decode cX6_undo 95 = .ok (.getfield 100, 3) := by decide +kernel
theorem dX6_undo_98 : decode cX6_undo 98 = .ok (.aload_n 0, 1) := by decide +kernel
theorem dX6_undo_99 : decode cX6_undo 99 = .ok (.iload_n 1, 1) := by decide +kernel
theorem dX6_undo_100 : decode cX6_undo 100 = .ok (.invokevirtual 126, 3) := by decide +kernel
theorem dX6_undo_103 : decode cX6_undo 103 = .ok (.invokevirtual 112, 3) := by decide +kernel
theorem dX6_undo_106 : decode cX6_undo 106 = .ok (.putfield 100, 3) := by decide +kernel
theorem dX6_undo_109 : decode cX6_undo 109 = .ok (.aload_n 0, 1) := by decide +kernel
theorem dX6_undo_110 : decode cX6_undo 110 = .ok (.dup, 1) := by decide +kernel
theorem dX6_undo_111 : decode cX6_undo 111 = .ok (.getfield 103, 3) := by decide +kernel
theorem dX6_undo_114 : decode cX6_undo 114 = .ok (.iconst 1, 1) := by decide +kernel
theorem dX6_undo_115 : decode cX6_undo 115 = .ok (.isub, 1) := by decide +kernel
theorem dX6_undo_116 : decode cX6_undo 116 = .ok (.putfield 103, 3) := by decide +kernel
theorem dX6_undo_119 : decode cX6_undo 119 = .ok (.aload_n 0, 1) := by decide +kernel
theorem dX6_undo_120 : decode cX6_undo 120 = .ok (.dup, 1) := by decide +kernel
theorem dX6_undo_121 : decode cX6_undo 121 = .ok (.getfield 106, 3) := by decide +kernel
theorem dX6_undo_124 : decode cX6_undo 124 = .ok (.iload_n 2, 1) := by decide +kernel
theorem dX6_undo_125 : decode cX6_undo 125 = .ok (.ifCond .eq 7, 3) := by decide +kernel
theorem dX6_undo_128 : decode cX6_undo 128 = .ok (.iconst 1, 1) := by decide +kernel
theorem dX6_undo_129 : decode cX6_undo 129 = .ok (.goto 4, 3) := by decide +kernel
theorem dX6_undo_132 : decode cX6_undo 132 = .ok (.iconst 0, 1) := by decide +kernel
theorem dX6_undo_133 : decode cX6_undo 133 = .ok (.isub, 1) := by decide +kernel
theorem dX6_undo_134 : decode cX6_undo 134 = .ok (.putfield 106, 3) := by decide +kernel
theorem dX6_undo_137 : decode cX6_undo 137 = .ok (.iload_n 2, 1) := by decide +kernel
theorem dX6_undo_138 : decode cX6_undo 138 = .ok (.ifCond .eq 7, 3) := by decide +kernel
theorem dX6_undo_141 : decode cX6_undo 141 = .ok (.iconst 2, 1) := by decide +kernel
theorem dX6_undo_142 : decode cX6_undo 142 = .ok (.goto 4, 3) := by decide +kernel
theorem dX6_undo_145 : decode cX6_undo 145 = .ok (.iconst 1, 1) := by decide +kernel
theorem dX6_undo_146 : decode cX6_undo 146 = .ok (.ireturn, 1) := by decide +kernel
theorem dX6_wayOf_0 : decode cX6_wayOf 0 = .ok (.iload_n 0, 1) := by decide +kernel
theorem dX6_wayOf_1 : decode cX6_wayOf 1 = .ok (.lookupswitch 83 #[(68, 77), (76, 79), (82, 75), (85, 81), (100, 77), (108, 79), (114, 75), (117, 81)], 75) := by decide +kernel
theorem dX6_wayOf_76 : decode cX6_wayOf 76 = .ok (.iconst 0, 1) := by decide +kernel
theorem dX6_wayOf_77 : decode cX6_wayOf 77 = .ok (.ireturn, 1) := by decide +kernel
theorem dX6_wayOf_78 : decode cX6_wayOf 78 = .ok (.iconst 1, 1) := by decide +kernel
theorem dX6_wayOf_79 : decode cX6_wayOf 79 = .ok (.ireturn, 1) := by decide +kernel
theorem dX6_wayOf_80 : decode cX6_wayOf 80 = .ok (.iconst 2, 1) := by decide +kernel
theorem dX6_wayOf_81 : decode cX6_wayOf 81 = .ok (.ireturn, 1) := by decide +kernel
theorem dX6_wayOf_82 : decode cX6_wayOf 82 = .ok (.iconst 3, 1) := by decide +kernel
theorem dX6_wayOf_83 : decode cX6_wayOf 83 = .ok (.ireturn, 1) := by decide +kernel
theorem dX6_wayOf_84 : decode cX6_wayOf 84 = .ok (.iconst (-1), 1) := by decide +kernel
theorem dX6_wayOf_85 : decode cX6_wayOf 85 = .ok (.ireturn, 1) := by decide +kernel
theorem dX6_row_0 : decode cX6_row 0 = .ok (.aload_n 0, 1) := by decide +kernel
theorem dX6_row_1 : decode cX6_row 1 = .ok (.iconst 0, 1) := by decide +kernel
theorem dX6_row_2 : decode cX6_row 2 = .ok (.putfield 42, 3) := by decide +kernel
theorem dX6_row_5 : decode cX6_row 5 = .ok (.aload_n 0, 1) := by decide +kernel
theorem dX6_row_6 : decode cX6_row 6 = .ok (.getfield 56, 3) := by decide +kernel
theorem dX6_row_9 : decode cX6_row 9 = .ok (.istore_n 1, 1) := by decide +kernel
theorem dX6_row_10 : decode cX6_row 10 = .ok (.aload_n 0, 1) := by decide +kernel
theorem dX6_row_11 : decode cX6_row 11 = .ok (.iconst 0, 1) := by decide +kernel
theorem dX6_row_12 : decode cX6_row 12 = .ok (.putfield 56, 3) := by decide +kernel
theorem dX6_row_15 : decode cX6_row 15 = .ok (.iconst 0, 1) := by decide +kernel
theorem dX6_row_16 : decode cX6_row 16 = .ok (.istore_n 2, 1) := by decide +kernel
theorem dX6_row_17 : decode cX6_row 17 = .ok (.iconst 0, 1) := by decide +kernel
theorem dX6_row_18 : decode cX6_row 18 = .ok (.istore_n 3, 1) := by decide +kernel
theorem dX6_row_19 : decode cX6_row 19 = .ok (.iconst 0, 1) := by decide +kernel
theorem dX6_row_20 : decode cX6_row 20 = .ok (.istore 4, 2) := by decide +kernel
theorem dX6_row_22 : decode cX6_row 22 = .ok (.iload 4, 2) := by decide +kernel
theorem dX6_row_24 : decode cX6_row 24 = .ok (.iload_n 1, 1) := by decide +kernel
theorem dX6_row_25 : decode cX6_row 25 = .ok (.if_icmp .ge 108, 3) := by decide +kernel
theorem dX6_row_28 : decode cX6_row 28 = .ok (.aload_n 0, 1) := by decide +kernel
theorem dX6_row_29 : decode cX6_row 29 = .ok (.getfield 7, 3) := by decide +kernel
theorem dX6_row_32 : decode cX6_row 32 = .ok (.iload 4, 2) := by decide +kernel
theorem dX6_row_34 : decode cX6_row 34 = .ok (.iaload, 1) := by decide +kernel
theorem dX6_row_35 : decode cX6_row 35 = .ok (.istore 5, 2) := by decide +kernel
theorem dX6_row_37 : decode cX6_row 37 = .ok (.iload_n 2, 1) := by decide +kernel
theorem dX6_row_38 : decode cX6_row 38 = .ok (.ifCond .ne 26, 3) := by decide +kernel
theorem dX6_row_41 : decode cX6_row 41 = .ok (.iload 5, 2) := by decide +kernel
theorem dX6_row_43 : decode cX6_row 43 = .ok (.bipush 50, 2) := by decide +kernel
theorem dX6_row_45 : decode cX6_row 45 = .ok (.if_icmp .lt 19, 3) := by decide +kernel
theorem dX6_row_48 : decode cX6_row 48 = .ok (.iload 5, 2) := by decide +kernel
theorem dX6_row_50 : decode cX6_row 50 = .ok (.bipush 57, 2) := by decide +kernel
theorem dX6_row_52 : decode cX6_row 52 = .ok (.if_icmp .gt 12, 3) := by decide +kernel
theorem dX6_row_55 : decode cX6_row 55 = .ok (.iload 5, 2) := by decide +kernel
theorem dX6_row_57 : decode cX6_row 57 = .ok (.bipush 48, 2) := by decide +kernel
theorem dX6_row_59 : decode cX6_row 59 = .ok (.isub, 1) := by decide +kernel
theorem dX6_row_60 : decode cX6_row 60 = .ok (.istore_n 2, 1) := by decide +kernel
theorem dX6_row_61 : decode cX6_row 61 = .ok (.goto 66, 3) := by decide +kernel
theorem dX6_row_64 : decode cX6_row 64 = .ok (.iload 5, 2) := by decide +kernel
theorem dX6_row_66 : decode cX6_row 66 = .ok (.invokestatic 129, 3) := by decide +kernel
theorem dX6_row_69 : decode cX6_row 69 = .ok (.istore 6, 2) := by decide +kernel
theorem dX6_row_71 : decode cX6_row 71 = .ok (.iload 6, 2) := by decide +kernel
theorem dX6_row_73 : decode cX6_row 73 = .ok (.ifCond .ge 8, 3) := by decide +kernel
theorem dX6_row_76 : decode cX6_row 76 = .ok (.iconst (-1), 1) := by decide +kernel
theorem dX6_row_77 : decode cX6_row 77 = .ok (.iload 4, 2) := by decide +kernel
theorem dX6_row_79 : decode cX6_row 79 = .ok (.isub, 1) := by decide +kernel
theorem dX6_row_80 : decode cX6_row 80 = .ok (.ireturn, 1) := by decide +kernel
theorem dX6_row_81 : decode cX6_row 81 = .ok (.iconst 0, 1) := by decide +kernel
theorem dX6_row_82 : decode cX6_row 82 = .ok (.istore 7, 2) := by decide +kernel
theorem dX6_row_84 : decode cX6_row 84 = .ok (.iload 7, 2) := by decide +kernel
theorem dX6_row_86 : decode cX6_row 86 = .ok (.iload_n 2, 1) := by decide +kernel
theorem dX6_row_87 : decode cX6_row 87 = .ok (.if_icmp .lt 8, 3) := by decide +kernel
theorem dX6_row_90 : decode cX6_row 90 = .ok (.iload 7, 2) := by decide +kernel
theorem dX6_row_92 : decode cX6_row 92 = .ok (.ifCond .ne 33, 3) := by decide +kernel
theorem dX6_row_95 : decode cX6_row 95 = .ok (.aload_n 0, 1) := by decide +kernel
theorem dX6_row_96 : decode cX6_row 96 = .ok (.getfield 83, 3) := by decide +kernel
theorem dX6_row_99 : decode cX6_row 99 = .ok (.ifCond .eq 12, 3) := by decide +kernel
theorem dX6_row_102 : decode cX6_row 102 = .ok (.aload_n 0, 1) := by decide +kernel
theorem dX6_row_103 : decode cX6_row 103 = .ok (.iload 6, 2) := by decide +kernel
theorem dX6_row_105 : decode cX6_row 105 = .ok (.invokevirtual 122, 3) := by decide +kernel
theorem dX6_row_108 : decode cX6_row 108 = .ok (.ifCond .ne 8, 3) := by decide +kernel
theorem dX6_row_111 : decode cX6_row 111 = .ok (.iconst (-1), 1) := by decide +kernel
theorem dX6_row_112 : decode cX6_row 112 = .ok (.iload 4, 2) := by decide +kernel
theorem dX6_row_114 : decode cX6_row 114 = .ok (.isub, 1) := by decide +kernel
theorem dX6_row_115 : decode cX6_row 115 = .ok (.ireturn, 1) := by decide +kernel
theorem dX6_row_116 : decode cX6_row 116 = .ok (.iinc 3 1, 3) := by decide +kernel
theorem dX6_row_119 : decode cX6_row 119 = .ok (.iinc 7 1, 3) := by decide +kernel
theorem dX6_row_122 : decode cX6_row 122 = .ok (.goto (-38), 3) := by decide +kernel
theorem dX6_row_125 : decode cX6_row 125 = .ok (.iconst 0, 1) := by decide +kernel
theorem dX6_row_126 : decode cX6_row 126 = .ok (.istore_n 2, 1) := by decide +kernel
theorem dX6_row_127 : decode cX6_row 127 = .ok (.iinc 4 1, 3) := by decide +kernel
theorem dX6_row_130 : decode cX6_row 130 = .ok (.goto (-108), 3) := by decide +kernel
theorem dX6_row_133 : decode cX6_row 133 = .ok (.iload_n 2, 1) := by decide +kernel
theorem dX6_row_134 : decode cX6_row 134 = .ok (.ifCond .le 9, 3) := by decide +kernel
theorem dX6_row_137 : decode cX6_row 137 = .ok (.iconst (-1), 1) := by decide +kernel
theorem dX6_row_138 : decode cX6_row 138 = .ok (.iload_n 1, 1) := by decide +kernel
theorem dX6_row_139 : decode cX6_row 139 = .ok (.isub, 1) := by decide +kernel
theorem dX6_row_140 : decode cX6_row 140 = .ok (.goto 4, 3) := by decide +kernel
theorem dX6_row_143 : decode cX6_row 143 = .ok (.iload_n 3, 1) := by decide +kernel
theorem dX6_row_144 : decode cX6_row 144 = .ok (.ireturn, 1) := by decide +kernel
theorem dX6_isDone_0 : decode cX6_isDone 0 = .ok (.aload_n 0, 1) := by decide +kernel
theorem dX6_isDone_1 : decode cX6_isDone 1 = .ok (.getfield 94, 3) := by decide +kernel
theorem dX6_isDone_4 : decode cX6_isDone 4 = .ok (.lload_n 1, 1) := by decide +kernel
theorem dX6_isDone_5 : decode cX6_isDone 5 = .ok (.ldc2_w 116, 3) := by decide +kernel
theorem dX6_isDone_8 : decode cX6_isDone 8 = .ok (.lxor, 1) := by decide +kernel
theorem dX6_isDone_9 : decode cX6_isDone 9 = .ok (.land, 1) := by decide +kernel
theorem dX6_isDone_10 : decode cX6_isDone 10 = .ok (.lconst 0, 1) := by decide +kernel
theorem dX6_isDone_11 : decode cX6_isDone 11 = .ok (.lcmp, 1) := by decide +kernel
theorem dX6_isDone_12 : decode cX6_isDone 12 = .ok (.ifCond .ne 7, 3) := by decide +kernel
theorem dX6_isDone_15 : decode cX6_isDone 15 = .ok (.iconst 1, 1) := by decide +kernel
theorem dX6_isDone_16 : decode cX6_isDone 16 = .ok (.goto 4, 3) := by decide +kernel
theorem dX6_isDone_19 : decode cX6_isDone 19 = .ok (.iconst 0, 1) := by decide +kernel
theorem dX6_isDone_20 : decode cX6_isDone 20 = .ok (.ireturn, 1) := by decide +kernel
theorem dX6_told_0 : decode cX6_told 0 = .ok (.aload_n 0, 1) := by decide +kernel
theorem dX6_told_1 : decode cX6_told 1 = .ok (.iconst 0, 1) := by decide +kernel
theorem dX6_told_2 : decode cX6_told 2 = .ok (.putfield 42, 3) := by decide +kernel
theorem dX6_told_5 : decode cX6_told 5 = .ok (.iload_n 1, 1) := by decide +kernel
end
section
theorem dX6_told_6 : decode cX6_told 6 = .ok (.tableswitch 143 0 8 #[50, 55, 60, 68, 76, 89, 94, 99, 119], 50) := by decide +kernel
theorem dX6_told_56 : decode cX6_told 56 = .ok (.aload_n 0, 1) := by decide +kernel
theorem dX6_told_57 : decode cX6_told 57 = .ok (.getfield 46, 3) := by decide +kernel
theorem dX6_told_60 : decode cX6_told 60 = .ok (.ireturn, 1) := by decide +kernel
theorem dX6_told_61 : decode cX6_told 61 = .ok (.aload_n 0, 1) := by decide +kernel
theorem dX6_told_62 : decode cX6_told 62 = .ok (.getfield 49, 3) := by decide +kernel
theorem dX6_told_65 : decode cX6_told 65 = .ok (.ireturn, 1) := by decide +kernel
theorem dX6_told_66 : decode cX6_told 66 = .ok (.aload_n 0, 1) := by decide +kernel
theorem dX6_told_67 : decode cX6_told 67 = .ok (.getfield 97, 3) := by decide +kernel
theorem dX6_told_70 : decode cX6_told 70 = .ok (.invokestatic 75, 3) := by decide +kernel
theorem dX6_told_73 : decode cX6_told 73 = .ok (.ireturn, 1) := by decide +kernel
theorem dX6_told_74 : decode cX6_told 74 = .ok (.aload_n 0, 1) := by decide +kernel
theorem dX6_told_75 : decode cX6_told 75 = .ok (.getfield 94, 3) := by decide +kernel
theorem dX6_told_78 : decode cX6_told 78 = .ok (.invokestatic 75, 3) := by decide +kernel
theorem dX6_told_81 : decode cX6_told 81 = .ok (.ireturn, 1) := by decide +kernel
theorem dX6_told_82 : decode cX6_told 82 = .ok (.aload_n 0, 1) := by decide +kernel
theorem dX6_told_83 : decode cX6_told 83 = .ok (.getfield 97, 3) := by decide +kernel
theorem dX6_told_86 : decode cX6_told 86 = .ok (.aload_n 0, 1) := by decide +kernel
theorem dX6_told_87 : decode cX6_told 87 = .ok (.getfield 94, 3) := by decide +kernel
theorem dX6_told_90 : decode cX6_told 90 = .ok (.land, 1) := by decide +kernel
theorem dX6_told_91 : decode cX6_told 91 = .ok (.invokestatic 75, 3) := by decide +kernel
theorem dX6_told_94 : decode cX6_told 94 = .ok (.ireturn, 1) := by decide +kernel
theorem dX6_told_95 : decode cX6_told 95 = .ok (.aload_n 0, 1) := by decide +kernel
theorem dX6_told_96 : decode cX6_told 96 = .ok (.getfield 103, 3) := by decide +kernel
theorem dX6_told_99 : decode cX6_told 99 = .ok (.ireturn, 1) := by decide +kernel
theorem dX6_told_100 : decode cX6_told 100 = .ok (.aload_n 0, 1) := by decide +kernel
theorem dX6_told_101 : decode cX6_told 101 = .ok (.getfield 106, 3) := by decide +kernel
theorem dX6_told_104 : decode cX6_told 104 = .ok (.ireturn, 1) := by decide +kernel
theorem dX6_told_105 : decode cX6_told 105 = .ok (.aload_n 0, 1) := by decide +kernel
theorem dX6_told_106 : decode cX6_told 106 = .ok (.getfield 83, 3) := by decide +kernel
theorem dX6_told_109 : decode cX6_told 109 = .ok (.ifCond .eq 14, 3) := by decide +kernel
theorem dX6_told_112 : decode cX6_told 112 = .ok (.aload_n 0, 1) := by decide +kernel
theorem dX6_told_113 : decode cX6_told 113 = .ok (.aload_n 0, 1) := by decide +kernel
theorem dX6_told_114 : decode cX6_told 114 = .ok (.getfield 100, 3) := by decide +kernel
theorem dX6_told_117 : decode cX6_told 117 = .ok (.invokevirtual 132, 3) := by decide +kernel
theorem dX6_told_120 : decode cX6_told 120 = .ok (.goto 4, 3) := by decide +kernel
theorem dX6_told_123 : decode cX6_told 123 = .ok (.iconst (-1), 1) := by decide +kernel
theorem dX6_told_124 : decode cX6_told 124 = .ok (.ireturn, 1) := by decide +kernel
theorem dX6_told_125 : decode cX6_told 125 = .ok (.aload_n 0, 1) := by decide +kernel
theorem dX6_told_126 : decode cX6_told 126 = .ok (.getfield 83, 3) := by decide +kernel
theorem dX6_told_129 : decode cX6_told 129 = .ok (.ifCond .eq 18, 3) := by decide +kernel
theorem dX6_told_132 : decode cX6_told 132 = .ok (.aload_n 0, 1) := by decide +kernel
theorem dX6_told_133 : decode cX6_told 133 = .ok (.aload_n 0, 1) := by decide +kernel
theorem dX6_told_134 : decode cX6_told 134 = .ok (.getfield 97, 3) := by decide +kernel
theorem dX6_told_137 : decode cX6_told 137 = .ok (.invokevirtual 135, 3) := by decide +kernel
theorem dX6_told_140 : decode cX6_told 140 = .ok (.ifCond .eq 7, 3) := by decide +kernel
theorem dX6_told_143 : decode cX6_told 143 = .ok (.iconst 1, 1) := by decide +kernel
theorem dX6_told_144 : decode cX6_told 144 = .ok (.goto 4, 3) := by decide +kernel
theorem dX6_told_147 : decode cX6_told 147 = .ok (.iconst 0, 1) := by decide +kernel
theorem dX6_told_148 : decode cX6_told 148 = .ok (.ireturn, 1) := by decide +kernel
theorem dX6_told_149 : decode cX6_told 149 = .ok (.iconst (-1), 1) := by decide +kernel
theorem dX6_told_150 : decode cX6_told 150 = .ok (.ireturn, 1) := by decide +kernel
theorem dX6_picture_0 : decode cX6_picture 0 = .ok (.aload_n 0, 1) := by decide +kernel
theorem dX6_picture_1 : decode cX6_picture 1 = .ok (.iconst 0, 1) := by decide +kernel
theorem dX6_picture_2 : decode cX6_picture 2 = .ok (.putfield 42, 3) := by decide +kernel
theorem dX6_picture_5 : decode cX6_picture 5 = .ok (.iload_n 1, 1) := by decide +kernel
theorem dX6_picture_6 : decode cX6_picture 6 = .ok (.ifCond .lt 18, 3) := by decide +kernel
theorem dX6_picture_9 : decode cX6_picture 9 = .ok (.iload_n 1, 1) := by decide +kernel
theorem dX6_picture_10 : decode cX6_picture 10 = .ok (.aload_n 0, 1) := by decide +kernel
theorem dX6_picture_11 : decode cX6_picture 11 = .ok (.getfield 46, 3) := by decide +kernel
theorem dX6_picture_14 : decode cX6_picture 14 = .ok (.iconst 1, 1) := by decide +kernel
theorem dX6_picture_15 : decode cX6_picture 15 = .ok (.iadd, 1) := by decide +kernel
theorem dX6_picture_16 : decode cX6_picture 16 = .ok (.aload_n 0, 1) := by decide +kernel
theorem dX6_picture_17 : decode cX6_picture 17 = .ok (.getfield 49, 3) := by decide +kernel
theorem dX6_picture_20 : decode cX6_picture 20 = .ok (.imul, 1) := by decide +kernel
theorem dX6_picture_21 : decode cX6_picture 21 = .ok (.if_icmp .lt 5, 3) := by decide +kernel
theorem dX6_picture_24 : decode cX6_picture 24 = .ok (.iconst (-1), 1) := by decide +kernel
theorem dX6_picture_25 : decode cX6_picture 25 = .ok (.ireturn, 1) := by decide +kernel
theorem dX6_picture_26 : decode cX6_picture 26 = .ok (.iload_n 1, 1) := by decide +kernel
theorem dX6_picture_27 : decode cX6_picture 27 = .ok (.aload_n 0, 1) := by decide +kernel
theorem dX6_picture_28 : decode cX6_picture 28 = .ok (.getfield 46, 3) := by decide +kernel
theorem dX6_picture_31 : decode cX6_picture 31 = .ok (.iconst 1, 1) := by decide +kernel
theorem dX6_picture_32 : decode cX6_picture 32 = .ok (.iadd, 1) := by decide +kernel
theorem dX6_picture_33 : decode cX6_picture 33 = .ok (.irem, 1) := by decide +kernel
theorem dX6_picture_34 : decode cX6_picture 34 = .ok (.istore_n 2, 1) := by decide +kernel
theorem dX6_picture_35 : decode cX6_picture 35 = .ok (.iload_n 2, 1) := by decide +kernel
theorem dX6_picture_36 : decode cX6_picture 36 = .ok (.aload_n 0, 1) := by decide +kernel
theorem dX6_picture_37 : decode cX6_picture 37 = .ok (.getfield 46, 3) := by decide +kernel
theorem dX6_picture_40 : decode cX6_picture 40 = .ok (.if_icmp .ne 6, 3) := by decide +kernel
theorem dX6_picture_43 : decode cX6_picture 43 = .ok (.bipush 10, 2) := by decide +kernel
theorem dX6_picture_45 : decode cX6_picture 45 = .ok (.ireturn, 1) := by decide +kernel
theorem dX6_picture_46 : decode cX6_picture 46 = .ok (.bipush 8, 2) := by decide +kernel
theorem dX6_picture_48 : decode cX6_picture 48 = .ok (.iload_n 1, 1) := by decide +kernel
theorem dX6_picture_49 : decode cX6_picture 49 = .ok (.aload_n 0, 1) := by decide +kernel
theorem dX6_picture_50 : decode cX6_picture 50 = .ok (.getfield 46, 3) := by decide +kernel
theorem dX6_picture_53 : decode cX6_picture 53 = .ok (.iconst 1, 1) := by decide +kernel
theorem dX6_picture_54 : decode cX6_picture 54 = .ok (.iadd, 1) := by decide +kernel
theorem dX6_picture_55 : decode cX6_picture 55 = .ok (.idiv, 1) := by decide +kernel
theorem dX6_picture_56 : decode cX6_picture 56 = .ok (.imul, 1) := by decide +kernel
theorem dX6_picture_57 : decode cX6_picture 57 = .ok (.iload_n 2, 1) := by decide +kernel
theorem dX6_picture_58 : decode cX6_picture 58 = .ok (.iadd, 1) := by decide +kernel
theorem dX6_picture_59 : decode cX6_picture 59 = .ok (.istore_n 3, 1) := by decide +kernel
theorem dX6_picture_60 : decode cX6_picture 60 = .ok (.aload_n 0, 1) := by decide +kernel
theorem dX6_picture_61 : decode cX6_picture 61 = .ok (.getfield 87, 3) := by decide +kernel
theorem dX6_picture_64 : decode cX6_picture 64 = .ok (.iload_n 3, 1) := by decide +kernel
theorem dX6_picture_65 : decode cX6_picture 65 = .ok (.invokestatic 90, 3) := by decide +kernel
theorem dX6_picture_68 : decode cX6_picture 68 = .ok (.ifCond .ne 6, 3) := by decide +kernel
theorem dX6_picture_71 : decode cX6_picture 71 = .ok (.bipush 35, 2) := by decide +kernel
theorem dX6_picture_73 : decode cX6_picture 73 = .ok (.ireturn, 1) := by decide +kernel
theorem dX6_picture_74 : decode cX6_picture 74 = .ok (.aload_n 0, 1) := by decide +kernel
theorem dX6_picture_75 : decode cX6_picture 75 = .ok (.getfield 97, 3) := by decide +kernel
theorem dX6_picture_78 : decode cX6_picture 78 = .ok (.iload_n 3, 1) := by decide +kernel
theorem dX6_picture_79 : decode cX6_picture 79 = .ok (.invokestatic 90, 3) := by decide +kernel
theorem dX6_picture_82 : decode cX6_picture 82 = .ok (.ifCond .eq 22, 3) := by decide +kernel
theorem dX6_picture_85 : decode cX6_picture 85 = .ok (.aload_n 0, 1) := by decide +kernel
theorem dX6_picture_86 : decode cX6_picture 86 = .ok (.getfield 94, 3) := by decide +kernel
theorem dX6_picture_89 : decode cX6_picture 89 = .ok (.iload_n 3, 1) := by decide +kernel
theorem dX6_picture_90 : decode cX6_picture 90 = .ok (.invokestatic 90, 3) := by decide +kernel
theorem dX6_picture_93 : decode cX6_picture 93 = .ok (.ifCond .eq 8, 3) := by decide +kernel
theorem dX6_picture_96 : decode cX6_picture 96 = .ok (.bipush 42, 2) := by decide +kernel
theorem dX6_picture_98 : decode cX6_picture 98 = .ok (.goto 5, 3) := by decide +kernel
theorem dX6_picture_101 : decode cX6_picture 101 = .ok (.bipush 36, 2) := by decide +kernel
theorem dX6_picture_103 : decode cX6_picture 103 = .ok (.ireturn, 1) := by decide +kernel
theorem dX6_picture_104 : decode cX6_picture 104 = .ok (.iload_n 3, 1) := by decide +kernel
theorem dX6_picture_105 : decode cX6_picture 105 = .ok (.aload_n 0, 1) := by decide +kernel
theorem dX6_picture_106 : decode cX6_picture 106 = .ok (.getfield 100, 3) := by decide +kernel
theorem dX6_picture_109 : decode cX6_picture 109 = .ok (.if_icmp .ne 22, 3) := by decide +kernel
theorem dX6_picture_112 : decode cX6_picture 112 = .ok (.aload_n 0, 1) := by decide +kernel
theorem dX6_picture_113 : decode cX6_picture 113 = .ok (.getfield 94, 3) := by decide +kernel
theorem dX6_picture_116 : decode cX6_picture 116 = .ok (.iload_n 3, 1) := by decide +kernel
theorem dX6_picture_117 : decode cX6_picture 117 = .ok (.invokestatic 90, 3) := by decide +kernel
theorem dX6_picture_120 : decode cX6_picture 120 = .ok (.ifCond .eq 8, 3) := by decide +kernel
theorem dX6_picture_123 : decode cX6_picture 123 = .ok (.bipush 43, 2) := by decide +kernel
theorem dX6_picture_125 : decode cX6_picture 125 = .ok (.goto 5, 3) := by decide +kernel
theorem dX6_picture_128 : decode cX6_picture 128 = .ok (.bipush 64, 2) := by decide +kernel
theorem dX6_picture_130 : decode cX6_picture 130 = .ok (.ireturn, 1) := by decide +kernel
theorem dX6_picture_131 : decode cX6_picture 131 = .ok (.aload_n 0, 1) := by decide +kernel
theorem dX6_picture_132 : decode cX6_picture 132 = .ok (.getfield 94, 3) := by decide +kernel
theorem dX6_picture_135 : decode cX6_picture 135 = .ok (.iload_n 3, 1) := by decide +kernel
theorem dX6_picture_136 : decode cX6_picture 136 = .ok (.invokestatic 90, 3) := by decide +kernel
theorem dX6_picture_139 : decode cX6_picture 139 = .ok (.ifCond .eq 8, 3) := by decide +kernel
theorem dX6_picture_142 : decode cX6_picture 142 = .ok (.bipush 46, 2) := by decide +kernel
theorem dX6_picture_144 : decode cX6_picture 144 = .ok (.goto 5, 3) := by decide +kernel
theorem dX6_picture_147 : decode cX6_picture 147 = .ok (.bipush 32, 2) := by decide +kernel
theorem dX6_picture_149 : decode cX6_picture 149 = .ok (.ireturn, 1) := by decide +kernel
theorem dX6_letter_0 : decode cX6_letter 0 = .ok (.aload_n 0, 1) := by decide +kernel
theorem dX6_letter_1 : decode cX6_letter 1 = .ok (.iconst 0, 1) := by decide +kernel
theorem dX6_letter_2 : decode cX6_letter 2 = .ok (.putfield 42, 3) := by decide +kernel
theorem dX6_letter_5 : decode cX6_letter 5 = .ok (.iload_n 1, 1) := by decide +kernel
theorem dX6_letter_6 : decode cX6_letter 6 = .ok (.ifCond .lt 11, 3) := by decide +kernel
theorem dX6_letter_9 : decode cX6_letter 9 = .ok (.iload_n 1, 1) := by decide +kernel
theorem dX6_letter_10 : decode cX6_letter 10 = .ok (.aload_n 0, 1) := by decide +kernel
theorem dX6_letter_11 : decode cX6_letter 11 = .ok (.getfield 109, 3) := by decide +kernel
theorem dX6_letter_14 : decode cX6_letter 14 = .ok (.if_icmp .lt 5, 3) := by decide +kernel
theorem dX6_letter_17 : decode cX6_letter 17 = .ok (.iconst (-1), 1) := by decide +kernel
theorem dX6_letter_18 : decode cX6_letter 18 = .ok (.ireturn, 1) := by decide +kernel
theorem dX6_letter_19 : decode cX6_letter 19 = .ok (.aload_n 0, 1) := by decide +kernel
theorem dX6_letter_20 : decode cX6_letter 20 = .ok (.getfield 13, 3) := by decide +kernel
theorem dX6_letter_23 : decode cX6_letter 23 = .ok (.iload_n 1, 1) := by decide +kernel
theorem dX6_letter_24 : decode cX6_letter 24 = .ok (.iaload, 1) := by decide +kernel
theorem dX6_letter_25 : decode cX6_letter 25 = .ok (.iconst 4, 1) := by decide +kernel
theorem dX6_letter_26 : decode cX6_letter 26 = .ok (.irem, 1) := by decide +kernel
theorem dX6_letter_27 : decode cX6_letter 27 = .ok (.istore_n 2, 1) := by decide +kernel
theorem dX6_letter_28 : decode cX6_letter 28 = .ok (.iload_n 2, 1) := by decide +kernel
theorem dX6_letter_29 : decode cX6_letter 29 = .ok (.ifCond .ne 8, 3) := by decide +kernel
theorem dX6_letter_32 : decode cX6_letter 32 = .ok (.bipush 114, 2) := by decide +kernel
theorem dX6_letter_34 : decode cX6_letter 34 = .ok (.goto 25, 3) := by decide +kernel
theorem dX6_letter_37 : decode cX6_letter 37 = .ok (.iload_n 2, 1) := by decide +kernel
theorem dX6_letter_38 : decode cX6_letter 38 = .ok (.iconst 1, 1) := by decide +kernel
theorem dX6_letter_39 : decode cX6_letter 39 = .ok (.if_icmp .ne 8, 3) := by decide +kernel
theorem dX6_letter_42 : decode cX6_letter 42 = .ok (.bipush 100, 2) := by decide +kernel
theorem dX6_letter_44 : decode cX6_letter 44 = .ok (.goto 15, 3) := by decide +kernel
theorem dX6_letter_47 : decode cX6_letter 47 = .ok (.iload_n 2, 1) := by decide +kernel
theorem dX6_letter_48 : decode cX6_letter 48 = .ok (.iconst 2, 1) := by decide +kernel
theorem dX6_letter_49 : decode cX6_letter 49 = .ok (.if_icmp .ne 8, 3) := by decide +kernel
theorem dX6_letter_52 : decode cX6_letter 52 = .ok (.bipush 108, 2) := by decide +kernel
theorem dX6_letter_54 : decode cX6_letter 54 = .ok (.goto 5, 3) := by decide +kernel
theorem dX6_letter_57 : decode cX6_letter 57 = .ok (.bipush 117, 2) := by decide +kernel
theorem dX6_letter_59 : decode cX6_letter 59 = .ok (.istore_n 3, 1) := by decide +kernel
theorem dX6_letter_60 : decode cX6_letter 60 = .ok (.aload_n 0, 1) := by decide +kernel
theorem dX6_letter_61 : decode cX6_letter 61 = .ok (.getfield 13, 3) := by decide +kernel
theorem dX6_letter_64 : decode cX6_letter 64 = .ok (.iload_n 1, 1) := by decide +kernel
theorem dX6_letter_65 : decode cX6_letter 65 = .ok (.iaload, 1) := by decide +kernel
theorem dX6_letter_66 : decode cX6_letter 66 = .ok (.iconst 3, 1) := by decide +kernel
theorem dX6_letter_67 : decode cX6_letter 67 = .ok (.if_icmp .le 10, 3) := by decide +kernel
theorem dX6_letter_70 : decode cX6_letter 70 = .ok (.iload_n 3, 1) := by decide +kernel
theorem dX6_letter_71 : decode cX6_letter 71 = .ok (.bipush 32, 2) := by decide +kernel
theorem dX6_letter_73 : decode cX6_letter 73 = .ok (.isub, 1) := by decide +kernel
theorem dX6_letter_74 : decode cX6_letter 74 = .ok (.goto 4, 3) := by decide +kernel
theorem dX6_letter_77 : decode cX6_letter 77 = .ok (.iload_n 3, 1) := by decide +kernel
theorem dX6_letter_78 : decode cX6_letter 78 = .ok (.ireturn, 1) := by decide +kernel
theorem dX6_reachOf_0 : decode cX6_reachOf 0 = .ok (.lconst 1, 1) := by decide +kernel
theorem dX6_reachOf_1 : decode cX6_reachOf 1 = .ok (.iload_n 1, 1) := by decide +kernel
theorem dX6_reachOf_2 : decode cX6_reachOf 2 = .ok (.lshl, 1) := by decide +kernel
theorem dX6_reachOf_3 : decode cX6_reachOf 3 = .ok (.lstore 4, 2) := by decide +kernel
theorem dX6_reachOf_5 : decode cX6_reachOf 5 = .ok (.lconst 0, 1) := by decide +kernel
theorem dX6_reachOf_6 : decode cX6_reachOf 6 = .ok (.lstore 6, 2) := by decide +kernel
theorem dX6_reachOf_8 : decode cX6_reachOf 8 = .ok (.lload 4, 2) := by decide +kernel
theorem dX6_reachOf_10 : decode cX6_reachOf 10 = .ok (.lload 6, 2) := by decide +kernel
theorem dX6_reachOf_12 : decode cX6_reachOf 12 = .ok (.lcmp, 1) := by decide +kernel
theorem dX6_reachOf_13 : decode cX6_reachOf 13 = .ok (.ifCond .eq 100, 3) := by decide +kernel
theorem dX6_reachOf_16 : decode cX6_reachOf 16 = .ok (.lload 4, 2) := by decide +kernel
theorem dX6_reachOf_18 : decode cX6_reachOf 18 = .ok (.lstore 6, 2) := by decide +kernel
theorem dX6_reachOf_20 : decode cX6_reachOf 20 = .ok (.iconst 0, 1) := by decide +kernel
theorem dX6_reachOf_21 : decode cX6_reachOf 21 = .ok (.istore 8, 2) := by decide +kernel
theorem dX6_reachOf_23 : decode cX6_reachOf 23 = .ok (.iload 8, 2) := by decide +kernel
theorem dX6_reachOf_25 : decode cX6_reachOf 25 = .ok (.bipush 64, 2) := by decide +kernel
theorem dX6_reachOf_27 : decode cX6_reachOf 27 = .ok (.if_icmp .ge 83, 3) := by decide +kernel
theorem dX6_reachOf_30 : decode cX6_reachOf 30 = .ok (.aload_n 0, 1) := by decide +kernel
theorem dX6_reachOf_31 : decode cX6_reachOf 31 = .ok (.getfield 87, 3) := by decide +kernel
theorem dX6_reachOf_34 : decode cX6_reachOf 34 = .ok (.iload 8, 2) := by decide +kernel
theorem dX6_reachOf_36 : decode cX6_reachOf 36 = .ok (.invokestatic 90, 3) := by decide +kernel
theorem dX6_reachOf_39 : decode cX6_reachOf 39 = .ok (.ifCond .eq 65, 3) := by decide +kernel
theorem dX6_reachOf_42 : decode cX6_reachOf 42 = .ok (.lload_n 2, 1) := by decide +kernel
theorem dX6_reachOf_43 : decode cX6_reachOf 43 = .ok (.iload 8, 2) := by decide +kernel
theorem dX6_reachOf_45 : decode cX6_reachOf 45 = .ok (.invokestatic 90, 3) := by decide +kernel
theorem dX6_reachOf_48 : decode cX6_reachOf 48 = .ok (.ifCond .ne 56, 3) := by decide +kernel
theorem dX6_reachOf_51 : decode cX6_reachOf 51 = .ok (.lload 4, 2) := by decide +kernel
theorem dX6_reachOf_53 : decode cX6_reachOf 53 = .ok (.iload 8, 2) := by decide +kernel
theorem dX6_reachOf_55 : decode cX6_reachOf 55 = .ok (.invokestatic 90, 3) := by decide +kernel
theorem dX6_reachOf_58 : decode cX6_reachOf 58 = .ok (.ifCond .eq 6, 3) := by decide +kernel
theorem dX6_reachOf_61 : decode cX6_reachOf 61 = .ok (.goto 43, 3) := by decide +kernel
theorem dX6_reachOf_64 : decode cX6_reachOf 64 = .ok (.iconst 0, 1) := by decide +kernel
theorem dX6_reachOf_65 : decode cX6_reachOf 65 = .ok (.istore 9, 2) := by decide +kernel
theorem dX6_reachOf_67 : decode cX6_reachOf 67 = .ok (.iload 9, 2) := by decide +kernel
theorem dX6_reachOf_69 : decode cX6_reachOf 69 = .ok (.iconst 4, 1) := by decide +kernel
theorem dX6_reachOf_70 : decode cX6_reachOf 70 = .ok (.if_icmp .ge 34, 3) := by decide +kernel
theorem dX6_reachOf_73 : decode cX6_reachOf 73 = .ok (.lload 4, 2) := by decide +kernel
theorem dX6_reachOf_75 : decode cX6_reachOf 75 = .ok (.aload_n 0, 1) := by decide +kernel
theorem dX6_reachOf_76 : decode cX6_reachOf 76 = .ok (.iload 8, 2) := by decide +kernel
theorem dX6_reachOf_78 : decode cX6_reachOf 78 = .ok (.iload 9, 2) := by decide +kernel
theorem dX6_reachOf_80 : decode cX6_reachOf 80 = .ok (.invokevirtual 112, 3) := by decide +kernel
theorem dX6_reachOf_83 : decode cX6_reachOf 83 = .ok (.invokestatic 90, 3) := by decide +kernel
theorem dX6_reachOf_86 : decode cX6_reachOf 86 = .ok (.ifCond .eq 12, 3) := by decide +kernel
theorem dX6_reachOf_89 : decode cX6_reachOf 89 = .ok (.lload 4, 2) := by decide +kernel
theorem dX6_reachOf_91 : decode cX6_reachOf 91 = .ok (.lconst 1, 1) := by decide +kernel
theorem dX6_reachOf_92 : decode cX6_reachOf 92 = .ok (.iload 8, 2) := by decide +kernel
theorem dX6_reachOf_94 : decode cX6_reachOf 94 = .ok (.lshl, 1) := by decide +kernel
theorem dX6_reachOf_95 : decode cX6_reachOf 95 = .ok (.lor, 1) := by decide +kernel
theorem dX6_reachOf_96 : decode cX6_reachOf 96 = .ok (.lstore 4, 2) := by decide +kernel
theorem dX6_reachOf_98 : decode cX6_reachOf 98 = .ok (.iinc 9 1, 3) := by decide +kernel
theorem dX6_reachOf_101 : decode cX6_reachOf 101 = .ok (.goto (-34), 3) := by decide +kernel
theorem dX6_reachOf_104 : decode cX6_reachOf 104 = .ok (.iinc 8 1, 3) := by decide +kernel
theorem dX6_reachOf_107 : decode cX6_reachOf 107 = .ok (.goto (-84), 3) := by decide +kernel
theorem dX6_reachOf_110 : decode cX6_reachOf 110 = .ok (.goto (-102), 3) := by decide +kernel
theorem dX6_reachOf_113 : decode cX6_reachOf 113 = .ok (.lload 4, 2) := by decide +kernel
theorem dX6_reachOf_115 : decode cX6_reachOf 115 = .ok (.lreturn, 1) := by decide +kernel
theorem dX6_reach_0 : decode cX6_reach 0 = .ok (.aload_n 0, 1) := by decide +kernel
theorem dX6_reach_1 : decode cX6_reach 1 = .ok (.iconst 0, 1) := by decide +kernel
theorem dX6_reach_2 : decode cX6_reach 2 = .ok (.putfield 42, 3) := by decide +kernel
theorem dX6_reach_5 : decode cX6_reach 5 = .ok (.aload_n 0, 1) := by decide +kernel
theorem dX6_reach_6 : decode cX6_reach 6 = .ok (.getfield 83, 3) := by decide +kernel
theorem dX6_reach_9 : decode cX6_reach 9 = .ok (.ifCond .eq 21, 3) := by decide +kernel
theorem dX6_reach_12 : decode cX6_reach 12 = .ok (.aload_n 0, 1) := by decide +kernel
theorem dX6_reach_13 : decode cX6_reach 13 = .ok (.aload_n 0, 1) := by decide +kernel
theorem dX6_reach_14 : decode cX6_reach 14 = .ok (.getfield 100, 3) := by decide +kernel
theorem dX6_reach_17 : decode cX6_reach 17 = .ok (.aload_n 0, 1) := by decide +kernel
theorem dX6_reach_18 : decode cX6_reach 18 = .ok (.getfield 97, 3) := by decide +kernel
theorem dX6_reach_21 : decode cX6_reach 21 = .ok (.invokevirtual 139, 3) := by decide +kernel
theorem dX6_reach_24 : decode cX6_reach 24 = .ok (.invokestatic 75, 3) := by decide +kernel
theorem dX6_reach_27 : decode cX6_reach 27 = .ok (.goto 4, 3) := by decide +kernel
theorem dX6_reach_30 : decode cX6_reach 30 = .ok (.iconst 0, 1) := by decide +kernel
theorem dX6_reach_31 : decode cX6_reach 31 = .ok (.ireturn, 1) := by decide +kernel
theorem dX6_way_0 : decode cX6_way 0 = .ok (.aload_n 0, 1) := by decide +kernel
theorem dX6_way_1 : decode cX6_way 1 = .ok (.iconst 1, 1) := by decide +kernel
theorem dX6_way_2 : decode cX6_way 2 = .ok (.aload_n 0, 1) := by decide +kernel
theorem dX6_way_3 : decode cX6_way 3 = .ok (.iload_n 1, 1) := by decide +kernel
theorem dX6_way_4 : decode cX6_way 4 = .ok (.iload_n 2, 1) := by decide +kernel
theorem dX6_way_5 : decode cX6_way 5 = .ok (.invokevirtual 52, 3) := by decide +kernel
theorem dX6_way_8 : decode cX6_way 8 = .ok (.ifCond .ne 7, 3) := by decide +kernel
theorem dX6_way_11 : decode cX6_way 11 = .ok (.iconst 1, 1) := by decide +kernel
theorem dX6_way_12 : decode cX6_way 12 = .ok (.goto 4, 3) := by decide +kernel
theorem dX6_way_15 : decode cX6_way 15 = .ok (.iconst 0, 1) := by decide +kernel
theorem dX6_way_16 : decode cX6_way 16 = .ok (.invokevirtual 118, 3) := by decide +kernel
theorem dX6_way_19 : decode cX6_way 19 = .ok (.ifCond .eq 5, 3) := by decide +kernel
theorem dX6_way_22 : decode cX6_way 22 = .ok (.iconst 0, 1) := by decide +kernel
theorem dX6_way_23 : decode cX6_way 23 = .ok (.ireturn, 1) := by decide +kernel
theorem dX6_way_24 : decode cX6_way 24 = .ok (.iconst 0, 1) := by decide +kernel
theorem dX6_way_25 : decode cX6_way 25 = .ok (.istore_n 3, 1) := by decide +kernel
theorem dX6_way_26 : decode cX6_way 26 = .ok (.iload_n 3, 1) := by decide +kernel
theorem dX6_way_27 : decode cX6_way 27 = .ok (.bipush 64, 2) := by decide +kernel
theorem dX6_way_29 : decode cX6_way 29 = .ok (.if_icmp .ge 28, 3) := by decide +kernel
theorem dX6_way_32 : decode cX6_way 32 = .ok (.aload_n 0, 1) := by decide +kernel
theorem dX6_way_33 : decode cX6_way 33 = .ok (.getfield 36, 3) := by decide +kernel
theorem dX6_way_36 : decode cX6_way 36 = .ok (.iload_n 3, 1) := by decide +kernel
theorem dX6_way_37 : decode cX6_way 37 = .ok (.iload_n 3, 1) := by decide +kernel
theorem dX6_way_38 : decode cX6_way 38 = .ok (.aload_n 0, 1) := by decide +kernel
theorem dX6_way_39 : decode cX6_way 39 = .ok (.getfield 100, 3) := by decide +kernel
theorem dX6_way_42 : decode cX6_way 42 = .ok (.if_icmp .ne 7, 3) := by decide +kernel
theorem dX6_way_45 : decode cX6_way 45 = .ok (.iconst 0, 1) := by decide +kernel
theorem dX6_way_46 : decode cX6_way 46 = .ok (.goto 4, 3) := by decide +kernel
theorem dX6_way_49 : decode cX6_way 49 = .ok (.iconst (-1), 1) := by decide +kernel
theorem dX6_way_50 : decode cX6_way 50 = .ok (.iastore, 1) := by decide +kernel
theorem dX6_way_51 : decode cX6_way 51 = .ok (.iinc 3 1, 3) := by decide +kernel
theorem dX6_way_54 : decode cX6_way 54 = .ok (.goto (-28), 3) := by decide +kernel
theorem dX6_way_57 : decode cX6_way 57 = .ok (.iconst 0, 1) := by decide +kernel
theorem dX6_way_58 : decode cX6_way 58 = .ok (.istore_n 3, 1) := by decide +kernel
theorem dX6_way_59 : decode cX6_way 59 = .ok (.iload_n 3, 1) := by decide +kernel
theorem dX6_way_60 : decode cX6_way 60 = .ok (.bipush 64, 2) := by decide +kernel
theorem dX6_way_62 : decode cX6_way 62 = .ok (.if_icmp .ge 115, 3) := by decide +kernel
theorem dX6_way_65 : decode cX6_way 65 = .ok (.iconst 0, 1) := by decide +kernel
theorem dX6_way_66 : decode cX6_way 66 = .ok (.istore 4, 2) := by decide +kernel
theorem dX6_way_68 : decode cX6_way 68 = .ok (.iload 4, 2) := by decide +kernel
theorem dX6_way_70 : decode cX6_way 70 = .ok (.bipush 64, 2) := by decide +kernel
theorem dX6_way_72 : decode cX6_way 72 = .ok (.if_icmp .ge 99, 3) := by decide +kernel
theorem dX6_way_75 : decode cX6_way 75 = .ok (.aload_n 0, 1) := by decide +kernel
theorem dX6_way_76 : decode cX6_way 76 = .ok (.getfield 87, 3) := by decide +kernel
theorem dX6_way_79 : decode cX6_way 79 = .ok (.iload 4, 2) := by decide +kernel
theorem dX6_way_81 : decode cX6_way 81 = .ok (.invokestatic 90, 3) := by decide +kernel
theorem dX6_way_84 : decode cX6_way 84 = .ok (.ifCond .eq 81, 3) := by decide +kernel
theorem dX6_way_87 : decode cX6_way 87 = .ok (.aload_n 0, 1) := by decide +kernel
theorem dX6_way_88 : decode cX6_way 88 = .ok (.getfield 97, 3) := by decide +kernel
theorem dX6_way_91 : decode cX6_way 91 = .ok (.iload 4, 2) := by decide +kernel
theorem dX6_way_93 : decode cX6_way 93 = .ok (.invokestatic 90, 3) := by decide +kernel
theorem dX6_way_96 : decode cX6_way 96 = .ok (.ifCond .ne 69, 3) := by decide +kernel
theorem dX6_way_99 : decode cX6_way 99 = .ok (.aload_n 0, 1) := by decide +kernel
theorem dX6_way_100 : decode cX6_way 100 = .ok (.getfield 36, 3) := by decide +kernel
theorem dX6_way_103 : decode cX6_way 103 = .ok (.iload 4, 2) := by decide +kernel
theorem dX6_way_105 : decode cX6_way 105 = .ok (.iaload, 1) := by decide +kernel
theorem dX6_way_106 : decode cX6_way 106 = .ok (.ifCond .lt 6, 3) := by decide +kernel
theorem dX6_way_109 : decode cX6_way 109 = .ok (.goto 56, 3) := by decide +kernel
theorem dX6_way_112 : decode cX6_way 112 = .ok (.iconst 0, 1) := by decide +kernel
theorem dX6_way_113 : decode cX6_way 113 = .ok (.istore 5, 2) := by decide +kernel
theorem dX6_way_115 : decode cX6_way 115 = .ok (.iload 5, 2) := by decide +kernel
theorem dX6_way_117 : decode cX6_way 117 = .ok (.iconst 4, 1) := by decide +kernel
theorem dX6_way_118 : decode cX6_way 118 = .ok (.if_icmp .ge 47, 3) := by decide +kernel
theorem dX6_way_121 : decode cX6_way 121 = .ok (.aload_n 0, 1) := by decide +kernel
theorem dX6_way_122 : decode cX6_way 122 = .ok (.iload 4, 2) := by decide +kernel
theorem dX6_way_124 : decode cX6_way 124 = .ok (.iload 5, 2) := by decide +kernel
theorem dX6_way_126 : decode cX6_way 126 = .ok (.invokevirtual 112, 3) := by decide +kernel
theorem dX6_way_129 : decode cX6_way 129 = .ok (.ifCond .lt 30, 3) := by decide +kernel
theorem dX6_way_132 : decode cX6_way 132 = .ok (.aload_n 0, 1) := by decide +kernel
theorem dX6_way_133 : decode cX6_way 133 = .ok (.getfield 36, 3) := by decide +kernel
theorem dX6_way_136 : decode cX6_way 136 = .ok (.aload_n 0, 1) := by decide +kernel
theorem dX6_way_137 : decode cX6_way 137 = .ok (.iload 4, 2) := by decide +kernel
theorem dX6_way_139 : decode cX6_way 139 = .ok (.iload 5, 2) := by decide +kernel
theorem dX6_way_141 : decode cX6_way 141 = .ok (.invokevirtual 112, 3) := by decide +kernel
theorem dX6_way_144 : decode cX6_way 144 = .ok (.iaload, 1) := by decide +kernel
theorem dX6_way_145 : decode cX6_way 145 = .ok (.iload_n 3, 1) := by decide +kernel
theorem dX6_way_146 : decode cX6_way 146 = .ok (.if_icmp .ne 13, 3) := by decide +kernel
theorem dX6_way_149 : decode cX6_way 149 = .ok (.aload_n 0, 1) := by decide +kernel
theorem dX6_way_150 : decode cX6_way 150 = .ok (.getfield 36, 3) := by decide +kernel
theorem dX6_way_153 : decode cX6_way 153 = .ok (.iload 4, 2) := by decide +kernel
theorem dX6_way_155 : decode cX6_way 155 = .ok (.iload_n 3, 1) := by decide +kernel
theorem dX6_way_156 : decode cX6_way 156 = .ok (.iconst 1, 1) := by decide +kernel
theorem dX6_way_157 : decode cX6_way 157 = .ok (.iadd, 1) := by decide +kernel
theorem dX6_way_158 : decode cX6_way 158 = .ok (.iastore, 1) := by decide +kernel
theorem dX6_way_159 : decode cX6_way 159 = .ok (.iinc 5 1, 3) := by decide +kernel
theorem dX6_way_162 : decode cX6_way 162 = .ok (.goto (-47), 3) := by decide +kernel
theorem dX6_way_165 : decode cX6_way 165 = .ok (.iinc 4 1, 3) := by decide +kernel
theorem dX6_way_168 : decode cX6_way 168 = .ok (.goto (-100), 3) := by decide +kernel
theorem dX6_way_171 : decode cX6_way 171 = .ok (.iinc 3 1, 3) := by decide +kernel
theorem dX6_way_174 : decode cX6_way 174 = .ok (.goto (-115), 3) := by decide +kernel
theorem dX6_way_177 : decode cX6_way 177 = .ok (.aload_n 0, 1) := by decide +kernel
theorem dX6_way_178 : decode cX6_way 178 = .ok (.getfield 36, 3) := by decide +kernel
theorem dX6_way_181 : decode cX6_way 181 = .ok (.bipush 8, 2) := by decide +kernel
theorem dX6_way_183 : decode cX6_way 183 = .ok (.iload_n 2, 1) := by decide +kernel
theorem dX6_way_184 : decode cX6_way 184 = .ok (.imul, 1) := by decide +kernel
theorem dX6_way_185 : decode cX6_way 185 = .ok (.iload_n 1, 1) := by decide +kernel
theorem dX6_way_186 : decode cX6_way 186 = .ok (.iadd, 1) := by decide +kernel
theorem dX6_way_187 : decode cX6_way 187 = .ok (.iaload, 1) := by decide +kernel
theorem dX6_way_188 : decode cX6_way 188 = .ok (.ireturn, 1) := by decide +kernel
theorem dX6_live_0 : decode cX6_live 0 = .ok (.aload_n 0, 1) := by decide +kernel
theorem dX6_live_1 : decode cX6_live 1 = .ok (.getfield 94, 3) := by decide +kernel
theorem dX6_live_4 : decode cX6_live 4 = .ok (.lstore_n 1, 1) := by decide +kernel
theorem dX6_live_5 : decode cX6_live 5 = .ok (.lconst 0, 1) := by decide +kernel
theorem dX6_live_6 : decode cX6_live 6 = .ok (.lstore_n 3, 1) := by decide +kernel
theorem dX6_live_7 : decode cX6_live 7 = .ok (.lload_n 1, 1) := by decide +kernel
theorem dX6_live_8 : decode cX6_live 8 = .ok (.lload_n 3, 1) := by decide +kernel
theorem dX6_live_9 : decode cX6_live 9 = .ok (.lcmp, 1) := by decide +kernel
theorem dX6_live_10 : decode cX6_live 10 = .ok (.ifCond .eq 107, 3) := by decide +kernel
theorem dX6_live_13 : decode cX6_live 13 = .ok (.lload_n 1, 1) := by decide +kernel
theorem dX6_live_14 : decode cX6_live 14 = .ok (.lstore_n 3, 1) := by decide +kernel
theorem dX6_live_15 : decode cX6_live 15 = .ok (.iconst 0, 1) := by decide +kernel
theorem dX6_live_16 : decode cX6_live 16 = .ok (.istore 5, 2) := by decide +kernel
theorem dX6_live_18 : decode cX6_live 18 = .ok (.iload 5, 2) := by decide +kernel
theorem dX6_live_20 : decode cX6_live 20 = .ok (.bipush 64, 2) := by decide +kernel
theorem dX6_live_22 : decode cX6_live 22 = .ok (.if_icmp .ge 92, 3) := by decide +kernel
theorem dX6_live_25 : decode cX6_live 25 = .ok (.aload_n 0, 1) := by decide +kernel
theorem dX6_live_26 : decode cX6_live 26 = .ok (.getfield 87, 3) := by decide +kernel
theorem dX6_live_29 : decode cX6_live 29 = .ok (.iload 5, 2) := by decide +kernel
theorem dX6_live_31 : decode cX6_live 31 = .ok (.invokestatic 90, 3) := by decide +kernel
theorem dX6_live_34 : decode cX6_live 34 = .ok (.ifCond .eq 74, 3) := by decide +kernel
theorem dX6_live_37 : decode cX6_live 37 = .ok (.lload_n 1, 1) := by decide +kernel
theorem dX6_live_38 : decode cX6_live 38 = .ok (.iload 5, 2) := by decide +kernel
theorem dX6_live_40 : decode cX6_live 40 = .ok (.invokestatic 90, 3) := by decide +kernel
theorem dX6_live_43 : decode cX6_live 43 = .ok (.ifCond .eq 6, 3) := by decide +kernel
theorem dX6_live_46 : decode cX6_live 46 = .ok (.goto 62, 3) := by decide +kernel
theorem dX6_live_49 : decode cX6_live 49 = .ok (.iconst 0, 1) := by decide +kernel
theorem dX6_live_50 : decode cX6_live 50 = .ok (.istore 6, 2) := by decide +kernel
theorem dX6_live_52 : decode cX6_live 52 = .ok (.iload 6, 2) := by decide +kernel
theorem dX6_live_54 : decode cX6_live 54 = .ok (.iconst 4, 1) := by decide +kernel
theorem dX6_live_55 : decode cX6_live 55 = .ok (.if_icmp .ge 53, 3) := by decide +kernel
theorem dX6_live_58 : decode cX6_live 58 = .ok (.lload_n 1, 1) := by decide +kernel
theorem dX6_live_59 : decode cX6_live 59 = .ok (.aload_n 0, 1) := by decide +kernel
theorem dX6_live_60 : decode cX6_live 60 = .ok (.iload 5, 2) := by decide +kernel
theorem dX6_live_62 : decode cX6_live 62 = .ok (.iload 6, 2) := by decide +kernel
theorem dX6_live_64 : decode cX6_live 64 = .ok (.invokevirtual 112, 3) := by decide +kernel
theorem dX6_live_67 : decode cX6_live 67 = .ok (.invokestatic 90, 3) := by decide +kernel
theorem dX6_live_70 : decode cX6_live 70 = .ok (.ifCond .eq 32, 3) := by decide +kernel
theorem dX6_live_73 : decode cX6_live 73 = .ok (.aload_n 0, 1) := by decide +kernel
theorem dX6_live_74 : decode cX6_live 74 = .ok (.getfield 87, 3) := by decide +kernel
theorem dX6_live_77 : decode cX6_live 77 = .ok (.aload_n 0, 1) := by decide +kernel
theorem dX6_live_78 : decode cX6_live 78 = .ok (.iload 5, 2) := by decide +kernel
theorem dX6_live_80 : decode cX6_live 80 = .ok (.aload_n 0, 1) := by decide +kernel
theorem dX6_live_81 : decode cX6_live 81 = .ok (.iload 6, 2) := by decide +kernel
theorem dX6_live_83 : decode cX6_live 83 = .ok (.invokevirtual 126, 3) := by decide +kernel
theorem dX6_live_86 : decode cX6_live 86 = .ok (.invokevirtual 112, 3) := by decide +kernel
theorem dX6_live_89 : decode cX6_live 89 = .ok (.invokestatic 90, 3) := by decide +kernel
theorem dX6_live_92 : decode cX6_live 92 = .ok (.ifCond .eq 10, 3) := by decide +kernel
theorem dX6_live_95 : decode cX6_live 95 = .ok (.lload_n 1, 1) := by decide +kernel
theorem dX6_live_96 : decode cX6_live 96 = .ok (.lconst 1, 1) := by decide +kernel
theorem dX6_live_97 : decode cX6_live 97 = .ok (.iload 5, 2) := by decide +kernel
theorem dX6_live_99 : decode cX6_live 99 = .ok (.lshl, 1) := by decide +kernel
theorem dX6_live_100 : decode cX6_live 100 = .ok (.lor, 1) := by decide +kernel
theorem dX6_live_101 : decode cX6_live 101 = .ok (.lstore_n 1, 1) := by decide +kernel
theorem dX6_live_102 : decode cX6_live 102 = .ok (.iinc 6 1, 3) := by decide +kernel
theorem dX6_live_105 : decode cX6_live 105 = .ok (.goto (-53), 3) := by decide +kernel
theorem dX6_live_108 : decode cX6_live 108 = .ok (.iinc 5 1, 3) := by decide +kernel
theorem dX6_live_111 : decode cX6_live 111 = .ok (.goto (-93), 3) := by decide +kernel
theorem dX6_live_114 : decode cX6_live 114 = .ok (.goto (-107), 3) := by decide +kernel
theorem dX6_live_117 : decode cX6_live 117 = .ok (.lload_n 1, 1) := by decide +kernel
theorem dX6_live_118 : decode cX6_live 118 = .ok (.lreturn, 1) := by decide +kernel
theorem dX6_dead_0 : decode cX6_dead 0 = .ok (.aload_n 0, 1) := by decide +kernel
theorem dX6_dead_1 : decode cX6_dead 1 = .ok (.iconst 1, 1) := by decide +kernel
theorem dX6_dead_2 : decode cX6_dead 2 = .ok (.aload_n 0, 1) := by decide +kernel
theorem dX6_dead_3 : decode cX6_dead 3 = .ok (.iload_n 1, 1) := by decide +kernel
theorem dX6_dead_4 : decode cX6_dead 4 = .ok (.iload_n 2, 1) := by decide +kernel
theorem dX6_dead_5 : decode cX6_dead 5 = .ok (.invokevirtual 52, 3) := by decide +kernel
theorem dX6_dead_8 : decode cX6_dead 8 = .ok (.ifCond .ne 7, 3) := by decide +kernel
theorem dX6_dead_11 : decode cX6_dead 11 = .ok (.iconst 1, 1) := by decide +kernel
theorem dX6_dead_12 : decode cX6_dead 12 = .ok (.goto 4, 3) := by decide +kernel
theorem dX6_dead_15 : decode cX6_dead 15 = .ok (.iconst 0, 1) := by decide +kernel
theorem dX6_dead_16 : decode cX6_dead 16 = .ok (.invokevirtual 118, 3) := by decide +kernel
theorem dX6_dead_19 : decode cX6_dead 19 = .ok (.ifCond .eq 5, 3) := by decide +kernel
theorem dX6_dead_22 : decode cX6_dead 22 = .ok (.iconst 0, 1) := by decide +kernel
theorem dX6_dead_23 : decode cX6_dead 23 = .ok (.ireturn, 1) := by decide +kernel
theorem dX6_dead_24 : decode cX6_dead 24 = .ok (.aload_n 0, 1) := by decide +kernel
theorem dX6_dead_25 : decode cX6_dead 25 = .ok (.getfield 87, 3) := by decide +kernel
theorem dX6_dead_28 : decode cX6_dead 28 = .ok (.aload_n 0, 1) := by decide +kernel
theorem dX6_dead_29 : decode cX6_dead 29 = .ok (.invokevirtual 143, 3) := by decide +kernel
theorem dX6_dead_32 : decode cX6_dead 32 = .ok (.ldc2_w 116, 3) := by decide +kernel
theorem dX6_dead_35 : decode cX6_dead 35 = .ok (.lxor, 1) := by decide +kernel
theorem dX6_dead_36 : decode cX6_dead 36 = .ok (.land, 1) := by decide +kernel
theorem dX6_dead_37 : decode cX6_dead 37 = .ok (.bipush 8, 2) := by decide +kernel
theorem dX6_dead_39 : decode cX6_dead 39 = .ok (.iload_n 2, 1) := by decide +kernel
theorem dX6_dead_40 : decode cX6_dead 40 = .ok (.imul, 1) := by decide +kernel
theorem dX6_dead_41 : decode cX6_dead 41 = .ok (.iload_n 1, 1) := by decide +kernel
theorem dX6_dead_42 : decode cX6_dead 42 = .ok (.iadd, 1) := by decide +kernel
theorem dX6_dead_43 : decode cX6_dead 43 = .ok (.invokestatic 90, 3) := by decide +kernel
theorem dX6_dead_46 : decode cX6_dead 46 = .ok (.ireturn, 1) := by decide +kernel
theorem dX6_canGo_0 : decode cX6_canGo 0 = .ok (.aload_n 0, 1) := by decide +kernel
theorem dX6_canGo_1 : decode cX6_canGo 1 = .ok (.iload_n 1, 1) := by decide +kernel
theorem dX6_canGo_2 : decode cX6_canGo 2 = .ok (.iload_n 2, 1) := by decide +kernel
theorem dX6_canGo_3 : decode cX6_canGo 3 = .ok (.invokevirtual 112, 3) := by decide +kernel
theorem dX6_canGo_6 : decode cX6_canGo 6 = .ok (.istore 7, 2) := by decide +kernel
theorem dX6_canGo_8 : decode cX6_canGo 8 = .ok (.aload_n 0, 1) := by decide +kernel
theorem dX6_canGo_9 : decode cX6_canGo 9 = .ok (.iload_n 1, 1) := by decide +kernel
theorem dX6_canGo_10 : decode cX6_canGo 10 = .ok (.aload_n 0, 1) := by decide +kernel
theorem dX6_canGo_11 : decode cX6_canGo 11 = .ok (.iload_n 2, 1) := by decide +kernel
theorem dX6_canGo_12 : decode cX6_canGo 12 = .ok (.invokevirtual 126, 3) := by decide +kernel
theorem dX6_canGo_15 : decode cX6_canGo 15 = .ok (.invokevirtual 112, 3) := by decide +kernel
theorem dX6_canGo_18 : decode cX6_canGo 18 = .ok (.istore 8, 2) := by decide +kernel
theorem dX6_canGo_20 : decode cX6_canGo 20 = .ok (.aload_n 0, 1) := by decide +kernel
theorem dX6_canGo_21 : decode cX6_canGo 21 = .ok (.getfield 87, 3) := by decide +kernel
theorem dX6_canGo_24 : decode cX6_canGo 24 = .ok (.iload 7, 2) := by decide +kernel
theorem dX6_canGo_26 : decode cX6_canGo 26 = .ok (.invokestatic 90, 3) := by decide +kernel
theorem dX6_canGo_29 : decode cX6_canGo 29 = .ok (.ifCond .eq 33, 3) := by decide +kernel
theorem dX6_canGo_32 : decode cX6_canGo 32 = .ok (.aload_n 0, 1) := by decide +kernel
theorem dX6_canGo_33 : decode cX6_canGo 33 = .ok (.getfield 87, 3) := by decide +kernel
theorem dX6_canGo_36 : decode cX6_canGo 36 = .ok (.iload 8, 2) := by decide +kernel
theorem dX6_canGo_38 : decode cX6_canGo 38 = .ok (.invokestatic 90, 3) := by decide +kernel
theorem dX6_canGo_41 : decode cX6_canGo 41 = .ok (.ifCond .eq 21, 3) := by decide +kernel
theorem dX6_canGo_44 : decode cX6_canGo 44 = .ok (.lload_n 3, 1) := by decide +kernel
theorem dX6_canGo_45 : decode cX6_canGo 45 = .ok (.iload 7, 2) := by decide +kernel
theorem dX6_canGo_47 : decode cX6_canGo 47 = .ok (.invokestatic 90, 3) := by decide +kernel
theorem dX6_canGo_50 : decode cX6_canGo 50 = .ok (.ifCond .ne 12, 3) := by decide +kernel
theorem dX6_canGo_53 : decode cX6_canGo 53 = .ok (.lload_n 3, 1) := by decide +kernel
theorem dX6_canGo_54 : decode cX6_canGo 54 = .ok (.iload 8, 2) := by decide +kernel
theorem dX6_canGo_56 : decode cX6_canGo 56 = .ok (.invokestatic 90, 3) := by decide +kernel
theorem dX6_canGo_59 : decode cX6_canGo 59 = .ok (.ifCond .eq 5, 3) := by decide +kernel
theorem dX6_canGo_62 : decode cX6_canGo 62 = .ok (.iconst 0, 1) := by decide +kernel
theorem dX6_canGo_63 : decode cX6_canGo 63 = .ok (.ireturn, 1) := by decide +kernel
theorem dX6_canGo_64 : decode cX6_canGo 64 = .ok (.lload 5, 2) := by decide +kernel
theorem dX6_canGo_66 : decode cX6_canGo 66 = .ok (.iload 7, 2) := by decide +kernel
theorem dX6_canGo_68 : decode cX6_canGo 68 = .ok (.invokestatic 90, 3) := by decide +kernel
theorem dX6_canGo_71 : decode cX6_canGo 71 = .ok (.ifCond .ne 13, 3) := by decide +kernel
theorem dX6_canGo_74 : decode cX6_canGo 74 = .ok (.lload 5, 2) := by decide +kernel
theorem dX6_canGo_76 : decode cX6_canGo 76 = .ok (.iload 8, 2) := by decide +kernel
theorem dX6_canGo_78 : decode cX6_canGo 78 = .ok (.invokestatic 90, 3) := by decide +kernel
theorem dX6_canGo_81 : decode cX6_canGo 81 = .ok (.ifCond .eq 7, 3) := by decide +kernel
theorem dX6_canGo_84 : decode cX6_canGo 84 = .ok (.iconst 1, 1) := by decide +kernel
theorem dX6_canGo_85 : decode cX6_canGo 85 = .ok (.goto 4, 3) := by decide +kernel
theorem dX6_canGo_88 : decode cX6_canGo 88 = .ok (.iconst 0, 1) := by decide +kernel
theorem dX6_canGo_89 : decode cX6_canGo 89 = .ok (.ireturn, 1) := by decide +kernel
theorem dX6_fastOf_0 : decode cX6_fastOf 0 = .ok (.lload_n 1, 1) := by decide +kernel
theorem dX6_fastOf_1 : decode cX6_fastOf 1 = .ok (.lstore 5, 2) := by decide +kernel
theorem dX6_fastOf_3 : decode cX6_fastOf 3 = .ok (.lconst 0, 1) := by decide +kernel
theorem dX6_fastOf_4 : decode cX6_fastOf 4 = .ok (.lstore 7, 2) := by decide +kernel
theorem dX6_fastOf_6 : decode cX6_fastOf 6 = .ok (.lload 5, 2) := by decide +kernel
theorem dX6_fastOf_8 : decode cX6_fastOf 8 = .ok (.lload 7, 2) := by decide +kernel
theorem dX6_fastOf_10 : decode cX6_fastOf 10 = .ok (.lcmp, 1) := by decide +kernel
theorem dX6_fastOf_11 : decode cX6_fastOf 11 = .ok (.ifCond .eq 75, 3) := by decide +kernel
theorem dX6_fastOf_14 : decode cX6_fastOf 14 = .ok (.lload 5, 2) := by decide +kernel
theorem dX6_fastOf_16 : decode cX6_fastOf 16 = .ok (.lstore 7, 2) := by decide +kernel
theorem dX6_fastOf_18 : decode cX6_fastOf 18 = .ok (.iconst 0, 1) := by decide +kernel
theorem dX6_fastOf_19 : decode cX6_fastOf 19 = .ok (.istore 9, 2) := by decide +kernel
theorem dX6_fastOf_21 : decode cX6_fastOf 21 = .ok (.iload 9, 2) := by decide +kernel
theorem dX6_fastOf_23 : decode cX6_fastOf 23 = .ok (.bipush 64, 2) := by decide +kernel
theorem dX6_fastOf_25 : decode cX6_fastOf 25 = .ok (.if_icmp .ge 58, 3) := by decide +kernel
theorem dX6_fastOf_28 : decode cX6_fastOf 28 = .ok (.lload 5, 2) := by decide +kernel
theorem dX6_fastOf_30 : decode cX6_fastOf 30 = .ok (.iload 9, 2) := by decide +kernel
theorem dX6_fastOf_32 : decode cX6_fastOf 32 = .ok (.invokestatic 90, 3) := by decide +kernel
theorem dX6_fastOf_35 : decode cX6_fastOf 35 = .ok (.ifCond .eq 42, 3) := by decide +kernel
theorem dX6_fastOf_38 : decode cX6_fastOf 38 = .ok (.aload_n 0, 1) := by decide +kernel
theorem dX6_fastOf_39 : decode cX6_fastOf 39 = .ok (.iload 9, 2) := by decide +kernel
theorem dX6_fastOf_41 : decode cX6_fastOf 41 = .ok (.iconst 0, 1) := by decide +kernel
theorem dX6_fastOf_42 : decode cX6_fastOf 42 = .ok (.lload 5, 2) := by decide +kernel
theorem dX6_fastOf_44 : decode cX6_fastOf 44 = .ok (.lload_n 3, 1) := by decide +kernel
theorem dX6_fastOf_45 : decode cX6_fastOf 45 = .ok (.invokevirtual 147, 3) := by decide +kernel
theorem dX6_fastOf_48 : decode cX6_fastOf 48 = .ok (.ifCond .ne 16, 3) := by decide +kernel
theorem dX6_fastOf_51 : decode cX6_fastOf 51 = .ok (.aload_n 0, 1) := by decide +kernel
theorem dX6_fastOf_52 : decode cX6_fastOf 52 = .ok (.iload 9, 2) := by decide +kernel
theorem dX6_fastOf_54 : decode cX6_fastOf 54 = .ok (.iconst 1, 1) := by decide +kernel
theorem dX6_fastOf_55 : decode cX6_fastOf 55 = .ok (.lload 5, 2) := by decide +kernel
theorem dX6_fastOf_57 : decode cX6_fastOf 57 = .ok (.lload_n 3, 1) := by decide +kernel
theorem dX6_fastOf_58 : decode cX6_fastOf 58 = .ok (.invokevirtual 147, 3) := by decide +kernel
theorem dX6_fastOf_61 : decode cX6_fastOf 61 = .ok (.ifCond .eq 16, 3) := by decide +kernel
theorem dX6_fastOf_64 : decode cX6_fastOf 64 = .ok (.lload 5, 2) := by decide +kernel
theorem dX6_fastOf_66 : decode cX6_fastOf 66 = .ok (.lconst 1, 1) := by decide +kernel
theorem dX6_fastOf_67 : decode cX6_fastOf 67 = .ok (.iload 9, 2) := by decide +kernel
theorem dX6_fastOf_69 : decode cX6_fastOf 69 = .ok (.lshl, 1) := by decide +kernel
theorem dX6_fastOf_70 : decode cX6_fastOf 70 = .ok (.ldc2_w 116, 3) := by decide +kernel
theorem dX6_fastOf_73 : decode cX6_fastOf 73 = .ok (.lxor, 1) := by decide +kernel
theorem dX6_fastOf_74 : decode cX6_fastOf 74 = .ok (.land, 1) := by decide +kernel
theorem dX6_fastOf_75 : decode cX6_fastOf 75 = .ok (.lstore 5, 2) := by decide +kernel
theorem dX6_fastOf_77 : decode cX6_fastOf 77 = .ok (.iinc 9 1, 3) := by decide +kernel
theorem dX6_fastOf_80 : decode cX6_fastOf 80 = .ok (.goto (-59), 3) := by decide +kernel
theorem dX6_fastOf_83 : decode cX6_fastOf 83 = .ok (.goto (-77), 3) := by decide +kernel
theorem dX6_fastOf_86 : decode cX6_fastOf 86 = .ok (.lload 5, 2) := by decide +kernel
theorem dX6_fastOf_88 : decode cX6_fastOf 88 = .ok (.lreturn, 1) := by decide +kernel
theorem dX6_fast_0 : decode cX6_fast 0 = .ok (.aload_n 0, 1) := by decide +kernel
theorem dX6_fast_1 : decode cX6_fast 1 = .ok (.iconst 0, 1) := by decide +kernel
theorem dX6_fast_2 : decode cX6_fast 2 = .ok (.putfield 42, 3) := by decide +kernel
theorem dX6_fast_5 : decode cX6_fast 5 = .ok (.aload_n 0, 1) := by decide +kernel
theorem dX6_fast_6 : decode cX6_fast 6 = .ok (.aload_n 0, 1) := by decide +kernel
theorem dX6_fast_7 : decode cX6_fast 7 = .ok (.getfield 97, 3) := by decide +kernel
theorem dX6_fast_10 : decode cX6_fast 10 = .ok (.aload_n 0, 1) := by decide +kernel
theorem dX6_fast_11 : decode cX6_fast 11 = .ok (.invokevirtual 143, 3) := by decide +kernel
theorem dX6_fast_14 : decode cX6_fast 14 = .ok (.invokevirtual 151, 3) := by decide +kernel
theorem dX6_fast_17 : decode cX6_fast 17 = .ok (.invokestatic 75, 3) := by decide +kernel
theorem dX6_fast_20 : decode cX6_fast 20 = .ok (.ireturn, 1) := by decide +kernel
theorem dX6_stuck_0 : decode cX6_stuck 0 = .ok (.aload_n 0, 1) := by decide +kernel
theorem dX6_stuck_1 : decode cX6_stuck 1 = .ok (.iconst 0, 1) := by decide +kernel
theorem dX6_stuck_2 : decode cX6_stuck 2 = .ok (.putfield 42, 3) := by decide +kernel
theorem dX6_stuck_5 : decode cX6_stuck 5 = .ok (.aload_n 0, 1) := by decide +kernel
theorem dX6_stuck_6 : decode cX6_stuck 6 = .ok (.aload_n 0, 1) := by decide +kernel
theorem dX6_stuck_7 : decode cX6_stuck 7 = .ok (.getfield 97, 3) := by decide +kernel
theorem dX6_stuck_10 : decode cX6_stuck 10 = .ok (.aload_n 0, 1) := by decide +kernel
theorem dX6_stuck_11 : decode cX6_stuck 11 = .ok (.invokevirtual 143, 3) := by decide +kernel
theorem dX6_stuck_14 : decode cX6_stuck 14 = .ok (.invokevirtual 151, 3) := by decide +kernel
theorem dX6_stuck_17 : decode cX6_stuck 17 = .ok (.aload_n 0, 1) := by decide +kernel
theorem dX6_stuck_18 : decode cX6_stuck 18 = .ok (.getfield 94, 3) := by decide +kernel
theorem dX6_stuck_21 : decode cX6_stuck 21 = .ok (.ldc2_w 116, 3) := by decide +kernel
theorem dX6_stuck_24 : decode cX6_stuck 24 = .ok (.lxor, 1) := by decide +kernel
theorem dX6_stuck_25 : decode cX6_stuck 25 = .ok (.land, 1) := by decide +kernel
theorem dX6_stuck_26 : decode cX6_stuck 26 = .ok (.lconst 0, 1) := by decide +kernel
theorem dX6_stuck_27 : decode cX6_stuck 27 = .ok (.lcmp, 1) := by decide +kernel
theorem dX6_stuck_28 : decode cX6_stuck 28 = .ok (.ifCond .eq 7, 3) := by decide +kernel
theorem dX6_stuck_31 : decode cX6_stuck 31 = .ok (.iconst 1, 1) := by decide +kernel
theorem dX6_stuck_32 : decode cX6_stuck 32 = .ok (.goto 4, 3) := by decide +kernel
theorem dX6_stuck_35 : decode cX6_stuck 35 = .ok (.iconst 0, 1) := by decide +kernel
theorem dX6_stuck_36 : decode cX6_stuck 36 = .ok (.ireturn, 1) := by decide +kernel
theorem dX6_measure_0 : decode cX6_measure 0 = .ok (.iconst 0, 1) := by decide +kernel
theorem dX6_measure_1 : decode cX6_measure 1 = .ok (.istore_n 2, 1) := by decide +kernel
theorem dX6_measure_2 : decode cX6_measure 2 = .ok (.iload_n 2, 1) := by decide +kernel
theorem dX6_measure_3 : decode cX6_measure 3 = .ok (.bipush 64, 2) := by decide +kernel
theorem dX6_measure_5 : decode cX6_measure 5 = .ok (.if_icmp .ge 36, 3) := by decide +kernel
theorem dX6_measure_8 : decode cX6_measure 8 = .ok (.aload_n 0, 1) := by decide +kernel
theorem dX6_measure_9 : decode cX6_measure 9 = .ok (.getfield 36, 3) := by decide +kernel
theorem dX6_measure_12 : decode cX6_measure 12 = .ok (.iload_n 2, 1) := by decide +kernel
theorem dX6_measure_13 : decode cX6_measure 13 = .ok (.iload_n 2, 1) := by decide +kernel
theorem dX6_measure_14 : decode cX6_measure 14 = .ok (.iload_n 1, 1) := by decide +kernel
theorem dX6_measure_15 : decode cX6_measure 15 = .ok (.if_icmp .ne 18, 3) := by decide +kernel
theorem dX6_measure_18 : decode cX6_measure 18 = .ok (.aload_n 0, 1) := by decide +kernel
theorem dX6_measure_19 : decode cX6_measure 19 = .ok (.getfield 87, 3) := by decide +kernel
theorem dX6_measure_22 : decode cX6_measure 22 = .ok (.iload_n 2, 1) := by decide +kernel
theorem dX6_measure_23 : decode cX6_measure 23 = .ok (.invokestatic 90, 3) := by decide +kernel
theorem dX6_measure_26 : decode cX6_measure 26 = .ok (.ifCond .eq 7, 3) := by decide +kernel
theorem dX6_measure_29 : decode cX6_measure 29 = .ok (.iconst 0, 1) := by decide +kernel
theorem dX6_measure_30 : decode cX6_measure 30 = .ok (.goto 4, 3) := by decide +kernel
theorem dX6_measure_33 : decode cX6_measure 33 = .ok (.iconst (-1), 1) := by decide +kernel
theorem dX6_measure_34 : decode cX6_measure 34 = .ok (.iastore, 1) := by decide +kernel
theorem dX6_measure_35 : decode cX6_measure 35 = .ok (.iinc 2 1, 3) := by decide +kernel
theorem dX6_measure_38 : decode cX6_measure 38 = .ok (.goto (-36), 3) := by decide +kernel
theorem dX6_measure_41 : decode cX6_measure 41 = .ok (.iconst 0, 1) := by decide +kernel
theorem dX6_measure_42 : decode cX6_measure 42 = .ok (.istore_n 2, 1) := by decide +kernel
theorem dX6_measure_43 : decode cX6_measure 43 = .ok (.iload_n 2, 1) := by decide +kernel
theorem dX6_measure_44 : decode cX6_measure 44 = .ok (.bipush 64, 2) := by decide +kernel
theorem dX6_measure_46 : decode cX6_measure 46 = .ok (.if_icmp .ge 113, 3) := by decide +kernel
theorem dX6_measure_49 : decode cX6_measure 49 = .ok (.iconst 0, 1) := by decide +kernel
theorem dX6_measure_50 : decode cX6_measure 50 = .ok (.istore_n 3, 1) := by decide +kernel
theorem dX6_measure_51 : decode cX6_measure 51 = .ok (.iload_n 3, 1) := by decide +kernel
theorem dX6_measure_52 : decode cX6_measure 52 = .ok (.bipush 64, 2) := by decide +kernel
theorem dX6_measure_54 : decode cX6_measure 54 = .ok (.if_icmp .ge 99, 3) := by decide +kernel
theorem dX6_measure_57 : decode cX6_measure 57 = .ok (.aload_n 0, 1) := by decide +kernel
theorem dX6_measure_58 : decode cX6_measure 58 = .ok (.getfield 36, 3) := by decide +kernel
theorem dX6_measure_61 : decode cX6_measure 61 = .ok (.iload_n 3, 1) := by decide +kernel
theorem dX6_measure_62 : decode cX6_measure 62 = .ok (.iaload, 1) := by decide +kernel
theorem dX6_measure_63 : decode cX6_measure 63 = .ok (.iload_n 2, 1) := by decide +kernel
theorem dX6_measure_64 : decode cX6_measure 64 = .ok (.if_icmp .eq 6, 3) := by decide +kernel
theorem dX6_measure_67 : decode cX6_measure 67 = .ok (.goto 80, 3) := by decide +kernel
theorem dX6_measure_70 : decode cX6_measure 70 = .ok (.iconst 0, 1) := by decide +kernel
theorem dX6_measure_71 : decode cX6_measure 71 = .ok (.istore 4, 2) := by decide +kernel
theorem dX6_measure_73 : decode cX6_measure 73 = .ok (.iload 4, 2) := by decide +kernel
theorem dX6_measure_75 : decode cX6_measure 75 = .ok (.iconst 4, 1) := by decide +kernel
theorem dX6_measure_76 : decode cX6_measure 76 = .ok (.if_icmp .ge 71, 3) := by decide +kernel
theorem dX6_measure_79 : decode cX6_measure 79 = .ok (.aload_n 0, 1) := by decide +kernel
theorem dX6_measure_80 : decode cX6_measure 80 = .ok (.iload_n 3, 1) := by decide +kernel
theorem dX6_measure_81 : decode cX6_measure 81 = .ok (.iload 4, 2) := by decide +kernel
theorem dX6_measure_83 : decode cX6_measure 83 = .ok (.invokevirtual 112, 3) := by decide +kernel
theorem dX6_measure_86 : decode cX6_measure 86 = .ok (.istore 5, 2) := by decide +kernel
theorem dX6_measure_88 : decode cX6_measure 88 = .ok (.aload_n 0, 1) := by decide +kernel
theorem dX6_measure_89 : decode cX6_measure 89 = .ok (.getfield 87, 3) := by decide +kernel
theorem dX6_measure_92 : decode cX6_measure 92 = .ok (.iload 5, 2) := by decide +kernel
theorem dX6_measure_94 : decode cX6_measure 94 = .ok (.invokestatic 90, 3) := by decide +kernel
theorem dX6_measure_97 : decode cX6_measure 97 = .ok (.ifCond .eq 44, 3) := by decide +kernel
theorem dX6_measure_100 : decode cX6_measure 100 = .ok (.aload_n 0, 1) := by decide +kernel
theorem dX6_measure_101 : decode cX6_measure 101 = .ok (.getfield 36, 3) := by decide +kernel
theorem dX6_measure_104 : decode cX6_measure 104 = .ok (.iload 5, 2) := by decide +kernel
theorem dX6_measure_106 : decode cX6_measure 106 = .ok (.iaload, 1) := by decide +kernel
theorem dX6_measure_107 : decode cX6_measure 107 = .ok (.ifCond .ge 34, 3) := by decide +kernel
theorem dX6_measure_110 : decode cX6_measure 110 = .ok (.aload_n 0, 1) := by decide +kernel
theorem dX6_measure_111 : decode cX6_measure 111 = .ok (.getfield 87, 3) := by decide +kernel
theorem dX6_measure_114 : decode cX6_measure 114 = .ok (.aload_n 0, 1) := by decide +kernel
theorem dX6_measure_115 : decode cX6_measure 115 = .ok (.iload_n 3, 1) := by decide +kernel
theorem dX6_measure_116 : decode cX6_measure 116 = .ok (.aload_n 0, 1) := by decide +kernel
theorem dX6_measure_117 : decode cX6_measure 117 = .ok (.iload 4, 2) := by decide +kernel
theorem dX6_measure_119 : decode cX6_measure 119 = .ok (.invokevirtual 126, 3) := by decide +kernel
theorem dX6_measure_122 : decode cX6_measure 122 = .ok (.invokevirtual 112, 3) := by decide +kernel
theorem dX6_measure_125 : decode cX6_measure 125 = .ok (.invokestatic 90, 3) := by decide +kernel
theorem dX6_measure_128 : decode cX6_measure 128 = .ok (.ifCond .eq 13, 3) := by decide +kernel
theorem dX6_measure_131 : decode cX6_measure 131 = .ok (.aload_n 0, 1) := by decide +kernel
theorem dX6_measure_132 : decode cX6_measure 132 = .ok (.getfield 36, 3) := by decide +kernel
theorem dX6_measure_135 : decode cX6_measure 135 = .ok (.iload 5, 2) := by decide +kernel
theorem dX6_measure_137 : decode cX6_measure 137 = .ok (.iload_n 2, 1) := by decide +kernel
theorem dX6_measure_138 : decode cX6_measure 138 = .ok (.iconst 1, 1) := by decide +kernel
theorem dX6_measure_139 : decode cX6_measure 139 = .ok (.iadd, 1) := by decide +kernel
theorem dX6_measure_140 : decode cX6_measure 140 = .ok (.iastore, 1) := by decide +kernel
theorem dX6_measure_141 : decode cX6_measure 141 = .ok (.iinc 4 1, 3) := by decide +kernel
theorem dX6_measure_144 : decode cX6_measure 144 = .ok (.goto (-71), 3) := by decide +kernel
theorem dX6_measure_147 : decode cX6_measure 147 = .ok (.iinc 3 1, 3) := by decide +kernel
theorem dX6_measure_150 : decode cX6_measure 150 = .ok (.goto (-99), 3) := by decide +kernel
theorem dX6_measure_153 : decode cX6_measure 153 = .ok (.iinc 2 1, 3) := by decide +kernel
theorem dX6_measure_156 : decode cX6_measure 156 = .ok (.goto (-113), 3) := by decide +kernel
theorem dX6_measure_159 : decode cX6_measure 159 = .ok (.return_, 1) := by decide +kernel
theorem dX6_pushes_0 : decode cX6_pushes 0 = .ok (.aload_n 0, 1) := by decide +kernel
theorem dX6_pushes_1 : decode cX6_pushes 1 = .ok (.iconst 1, 1) := by decide +kernel
theorem dX6_pushes_2 : decode cX6_pushes 2 = .ok (.aload_n 0, 1) := by decide +kernel
theorem dX6_pushes_3 : decode cX6_pushes 3 = .ok (.iload_n 1, 1) := by decide +kernel
theorem dX6_pushes_4 : decode cX6_pushes 4 = .ok (.iload_n 2, 1) := by decide +kernel
theorem dX6_pushes_5 : decode cX6_pushes 5 = .ok (.invokevirtual 52, 3) := by decide +kernel
theorem dX6_pushes_8 : decode cX6_pushes 8 = .ok (.ifCond .eq 13, 3) := by decide +kernel
theorem dX6_pushes_11 : decode cX6_pushes 11 = .ok (.aload_n 0, 1) := by decide +kernel
theorem dX6_pushes_12 : decode cX6_pushes 12 = .ok (.iload_n 3, 1) := by decide +kernel
theorem dX6_pushes_13 : decode cX6_pushes 13 = .ok (.iload 4, 2) := by decide +kernel
theorem dX6_pushes_15 : decode cX6_pushes 15 = .ok (.invokevirtual 52, 3) := by decide +kernel
theorem dX6_pushes_18 : decode cX6_pushes 18 = .ok (.ifCond .ne 7, 3) := by decide +kernel
theorem dX6_pushes_21 : decode cX6_pushes 21 = .ok (.iconst 1, 1) := by decide +kernel
theorem dX6_pushes_22 : decode cX6_pushes 22 = .ok (.goto 4, 3) := by decide +kernel
theorem dX6_pushes_25 : decode cX6_pushes 25 = .ok (.iconst 0, 1) := by decide +kernel
theorem dX6_pushes_26 : decode cX6_pushes 26 = .ok (.invokevirtual 118, 3) := by decide +kernel
theorem dX6_pushes_29 : decode cX6_pushes 29 = .ok (.ifCond .eq 5, 3) := by decide +kernel
theorem dX6_pushes_32 : decode cX6_pushes 32 = .ok (.iconst 0, 1) := by decide +kernel
theorem dX6_pushes_33 : decode cX6_pushes 33 = .ok (.ireturn, 1) := by decide +kernel
theorem dX6_pushes_34 : decode cX6_pushes 34 = .ok (.aload_n 0, 1) := by decide +kernel
theorem dX6_pushes_35 : decode cX6_pushes 35 = .ok (.bipush 8, 2) := by decide +kernel
theorem dX6_pushes_37 : decode cX6_pushes 37 = .ok (.iload_n 2, 1) := by decide +kernel
theorem dX6_pushes_38 : decode cX6_pushes 38 = .ok (.imul, 1) := by decide +kernel
theorem dX6_pushes_39 : decode cX6_pushes 39 = .ok (.iload_n 1, 1) := by decide +kernel
theorem dX6_pushes_40 : decode cX6_pushes 40 = .ok (.iadd, 1) := by decide +kernel
theorem dX6_pushes_41 : decode cX6_pushes 41 = .ok (.invokevirtual 155, 3) := by decide +kernel
theorem dX6_pushes_44 : decode cX6_pushes 44 = .ok (.aload_n 0, 1) := by decide +kernel
theorem dX6_pushes_45 : decode cX6_pushes 45 = .ok (.getfield 36, 3) := by decide +kernel
theorem dX6_pushes_48 : decode cX6_pushes 48 = .ok (.bipush 8, 2) := by decide +kernel
theorem dX6_pushes_50 : decode cX6_pushes 50 = .ok (.iload 4, 2) := by decide +kernel
theorem dX6_pushes_52 : decode cX6_pushes 52 = .ok (.imul, 1) := by decide +kernel
theorem dX6_pushes_53 : decode cX6_pushes 53 = .ok (.iload_n 3, 1) := by decide +kernel
theorem dX6_pushes_54 : decode cX6_pushes 54 = .ok (.iadd, 1) := by decide +kernel
theorem dX6_pushes_55 : decode cX6_pushes 55 = .ok (.iaload, 1) := by decide +kernel
theorem dX6_pushes_56 : decode cX6_pushes 56 = .ok (.ireturn, 1) := by decide +kernel
theorem dX6_goalAt_0 : decode cX6_goalAt 0 = .ok (.iconst 0, 1) := by decide +kernel
theorem dX6_goalAt_1 : decode cX6_goalAt 1 = .ok (.istore_n 2, 1) := by decide +kernel
theorem dX6_goalAt_2 : decode cX6_goalAt 2 = .ok (.iconst 0, 1) := by decide +kernel
theorem dX6_goalAt_3 : decode cX6_goalAt 3 = .ok (.istore_n 3, 1) := by decide +kernel
theorem dX6_goalAt_4 : decode cX6_goalAt 4 = .ok (.iload_n 3, 1) := by decide +kernel
theorem dX6_goalAt_5 : decode cX6_goalAt 5 = .ok (.bipush 64, 2) := by decide +kernel
theorem dX6_goalAt_7 : decode cX6_goalAt 7 = .ok (.if_icmp .ge 33, 3) := by decide +kernel
theorem dX6_goalAt_10 : decode cX6_goalAt 10 = .ok (.aload_n 0, 1) := by decide +kernel
theorem dX6_goalAt_11 : decode cX6_goalAt 11 = .ok (.getfield 94, 3) := by decide +kernel
theorem dX6_goalAt_14 : decode cX6_goalAt 14 = .ok (.iload_n 3, 1) := by decide +kernel
theorem dX6_goalAt_15 : decode cX6_goalAt 15 = .ok (.invokestatic 90, 3) := by decide +kernel
theorem dX6_goalAt_18 : decode cX6_goalAt 18 = .ok (.ifCond .ne 6, 3) := by decide +kernel
theorem dX6_goalAt_21 : decode cX6_goalAt 21 = .ok (.goto 13, 3) := by decide +kernel
theorem dX6_goalAt_24 : decode cX6_goalAt 24 = .ok (.iload_n 2, 1) := by decide +kernel
theorem dX6_goalAt_25 : decode cX6_goalAt 25 = .ok (.iload_n 1, 1) := by decide +kernel
theorem dX6_goalAt_26 : decode cX6_goalAt 26 = .ok (.if_icmp .ne 5, 3) := by decide +kernel
theorem dX6_goalAt_29 : decode cX6_goalAt 29 = .ok (.iload_n 3, 1) := by decide +kernel
theorem dX6_goalAt_30 : decode cX6_goalAt 30 = .ok (.ireturn, 1) := by decide +kernel
theorem dX6_goalAt_31 : decode cX6_goalAt 31 = .ok (.iinc 2 1, 3) := by decide +kernel
theorem dX6_goalAt_34 : decode cX6_goalAt 34 = .ok (.iinc 3 1, 3) := by decide +kernel
theorem dX6_goalAt_37 : decode cX6_goalAt 37 = .ok (.goto (-33), 3) := by decide +kernel
theorem dX6_goalAt_40 : decode cX6_goalAt 40 = .ok (.iconst (-1), 1) := by decide +kernel
theorem dX6_goalAt_41 : decode cX6_goalAt 41 = .ok (.ireturn, 1) := by decide +kernel
theorem dX6_bound_0 : decode cX6_bound 0 = .ok (.aload_n 0, 1) := by decide +kernel
theorem dX6_bound_1 : decode cX6_bound 1 = .ok (.iconst 0, 1) := by decide +kernel
theorem dX6_bound_2 : decode cX6_bound 2 = .ok (.putfield 42, 3) := by decide +kernel
theorem dX6_bound_5 : decode cX6_bound 5 = .ok (.aload_n 0, 1) := by decide +kernel
theorem dX6_bound_6 : decode cX6_bound 6 = .ok (.getfield 94, 3) := by decide +kernel
theorem dX6_bound_9 : decode cX6_bound 9 = .ok (.invokestatic 75, 3) := by decide +kernel
theorem dX6_bound_12 : decode cX6_bound 12 = .ok (.istore_n 1, 1) := by decide +kernel
theorem dX6_bound_13 : decode cX6_bound 13 = .ok (.iconst 0, 1) := by decide +kernel
theorem dX6_bound_14 : decode cX6_bound 14 = .ok (.istore_n 2, 1) := by decide +kernel
theorem dX6_bound_15 : decode cX6_bound 15 = .ok (.iload_n 2, 1) := by decide +kernel
theorem dX6_bound_16 : decode cX6_bound 16 = .ok (.iconst 1, 1) := by decide +kernel
theorem dX6_bound_17 : decode cX6_bound 17 = .ok (.iload_n 1, 1) := by decide +kernel
theorem dX6_bound_18 : decode cX6_bound 18 = .ok (.ishl, 1) := by decide +kernel
theorem dX6_bound_19 : decode cX6_bound 19 = .ok (.if_icmp .ge 24, 3) := by decide +kernel
theorem dX6_bound_22 : decode cX6_bound 22 = .ok (.aload_n 0, 1) := by decide +kernel
theorem dX6_bound_23 : decode cX6_bound 23 = .ok (.getfield 39, 3) := by decide +kernel
theorem dX6_bound_26 : decode cX6_bound 26 = .ok (.iload_n 2, 1) := by decide +kernel
theorem dX6_bound_27 : decode cX6_bound 27 = .ok (.iload_n 2, 1) := by decide +kernel
theorem dX6_bound_28 : decode cX6_bound 28 = .ok (.ifCond .ne 7, 3) := by decide +kernel
theorem dX6_bound_31 : decode cX6_bound 31 = .ok (.iconst 0, 1) := by decide +kernel
theorem dX6_bound_32 : decode cX6_bound 32 = .ok (.goto 4, 3) := by decide +kernel
theorem dX6_bound_35 : decode cX6_bound 35 = .ok (.iconst (-1), 1) := by decide +kernel
theorem dX6_bound_36 : decode cX6_bound 36 = .ok (.iastore, 1) := by decide +kernel
theorem dX6_bound_37 : decode cX6_bound 37 = .ok (.iinc 2 1, 3) := by decide +kernel
theorem dX6_bound_40 : decode cX6_bound 40 = .ok (.goto (-25), 3) := by decide +kernel
theorem dX6_bound_43 : decode cX6_bound 43 = .ok (.iconst 0, 1) := by decide +kernel
theorem dX6_bound_44 : decode cX6_bound 44 = .ok (.istore_n 2, 1) := by decide +kernel
theorem dX6_bound_45 : decode cX6_bound 45 = .ok (.iload_n 2, 1) := by decide +kernel
theorem dX6_bound_46 : decode cX6_bound 46 = .ok (.bipush 64, 2) := by decide +kernel
theorem dX6_bound_48 : decode cX6_bound 48 = .ok (.if_icmp .ge 159, 3) := by decide +kernel
theorem dX6_bound_51 : decode cX6_bound 51 = .ok (.aload_n 0, 1) := by decide +kernel
theorem dX6_bound_52 : decode cX6_bound 52 = .ok (.getfield 97, 3) := by decide +kernel
theorem dX6_bound_55 : decode cX6_bound 55 = .ok (.iload_n 2, 1) := by decide +kernel
theorem dX6_bound_56 : decode cX6_bound 56 = .ok (.invokestatic 90, 3) := by decide +kernel
theorem dX6_bound_59 : decode cX6_bound 59 = .ok (.ifCond .ne 6, 3) := by decide +kernel
theorem dX6_bound_62 : decode cX6_bound 62 = .ok (.goto 139, 3) := by decide +kernel
theorem dX6_bound_65 : decode cX6_bound 65 = .ok (.aload_n 0, 1) := by decide +kernel
theorem dX6_bound_66 : decode cX6_bound 66 = .ok (.iload_n 2, 1) := by decide +kernel
theorem dX6_bound_67 : decode cX6_bound 67 = .ok (.invokevirtual 155, 3) := by decide +kernel
theorem dX6_bound_70 : decode cX6_bound 70 = .ok (.iconst 1, 1) := by decide +kernel
theorem dX6_bound_71 : decode cX6_bound 71 = .ok (.iload_n 1, 1) := by decide +kernel
theorem dX6_bound_72 : decode cX6_bound 72 = .ok (.ishl, 1) := by decide +kernel
theorem dX6_bound_73 : decode cX6_bound 73 = .ok (.iconst 1, 1) := by decide +kernel
theorem dX6_bound_74 : decode cX6_bound 74 = .ok (.isub, 1) := by decide +kernel
theorem dX6_bound_75 : decode cX6_bound 75 = .ok (.istore_n 3, 1) := by decide +kernel
theorem dX6_bound_76 : decode cX6_bound 76 = .ok (.iload_n 3, 1) := by decide +kernel
theorem dX6_bound_77 : decode cX6_bound 77 = .ok (.ifCond .le 124, 3) := by decide +kernel
theorem dX6_bound_80 : decode cX6_bound 80 = .ok (.iconst 0, 1) := by decide +kernel
theorem dX6_bound_81 : decode cX6_bound 81 = .ok (.istore 4, 2) := by decide +kernel
theorem dX6_bound_83 : decode cX6_bound 83 = .ok (.iload 4, 2) := by decide +kernel
theorem dX6_bound_85 : decode cX6_bound 85 = .ok (.iload_n 1, 1) := by decide +kernel
theorem dX6_bound_86 : decode cX6_bound 86 = .ok (.if_icmp .ge 109, 3) := by decide +kernel
theorem dX6_bound_89 : decode cX6_bound 89 = .ok (.iload_n 3, 1) := by decide +kernel
theorem dX6_bound_90 : decode cX6_bound 90 = .ok (.iload 4, 2) := by decide +kernel
theorem dX6_bound_92 : decode cX6_bound 92 = .ok (.ishr, 1) := by decide +kernel
theorem dX6_bound_93 : decode cX6_bound 93 = .ok (.iconst 1, 1) := by decide +kernel
theorem dX6_bound_94 : decode cX6_bound 94 = .ok (.iand, 1) := by decide +kernel
theorem dX6_bound_95 : decode cX6_bound 95 = .ok (.ifCond .eq 94, 3) := by decide +kernel
theorem dX6_bound_98 : decode cX6_bound 98 = .ok (.aload_n 0, 1) := by decide +kernel
theorem dX6_bound_99 : decode cX6_bound 99 = .ok (.getfield 39, 3) := by decide +kernel
theorem dX6_bound_102 : decode cX6_bound 102 = .ok (.iload_n 3, 1) := by decide +kernel
theorem dX6_bound_103 : decode cX6_bound 103 = .ok (.iconst 1, 1) := by decide +kernel
theorem dX6_bound_104 : decode cX6_bound 104 = .ok (.iload 4, 2) := by decide +kernel
theorem dX6_bound_106 : decode cX6_bound 106 = .ok (.ishl, 1) := by decide +kernel
theorem dX6_bound_107 : decode cX6_bound 107 = .ok (.ixor, 1) := by decide +kernel
theorem dX6_bound_108 : decode cX6_bound 108 = .ok (.iaload, 1) := by decide +kernel
theorem dX6_bound_109 : decode cX6_bound 109 = .ok (.ifCond .ge 6, 3) := by decide +kernel
theorem dX6_bound_112 : decode cX6_bound 112 = .ok (.goto 77, 3) := by decide +kernel
theorem dX6_bound_115 : decode cX6_bound 115 = .ok (.aload_n 0, 1) := by decide +kernel
theorem dX6_bound_116 : decode cX6_bound 116 = .ok (.getfield 36, 3) := by decide +kernel
theorem dX6_bound_119 : decode cX6_bound 119 = .ok (.aload_n 0, 1) := by decide +kernel
theorem dX6_bound_120 : decode cX6_bound 120 = .ok (.iload 4, 2) := by decide +kernel
theorem dX6_bound_122 : decode cX6_bound 122 = .ok (.invokevirtual 159, 3) := by decide +kernel
theorem dX6_bound_125 : decode cX6_bound 125 = .ok (.iaload, 1) := by decide +kernel
theorem dX6_bound_126 : decode cX6_bound 126 = .ok (.istore 5, 2) := by decide +kernel
theorem dX6_bound_128 : decode cX6_bound 128 = .ok (.iload 5, 2) := by decide +kernel
theorem dX6_bound_130 : decode cX6_bound 130 = .ok (.ifCond .ge 6, 3) := by decide +kernel
theorem dX6_bound_133 : decode cX6_bound 133 = .ok (.goto 56, 3) := by decide +kernel
theorem dX6_bound_136 : decode cX6_bound 136 = .ok (.aload_n 0, 1) := by decide +kernel
theorem dX6_bound_137 : decode cX6_bound 137 = .ok (.getfield 39, 3) := by decide +kernel
theorem dX6_bound_140 : decode cX6_bound 140 = .ok (.iload_n 3, 1) := by decide +kernel
theorem dX6_bound_141 : decode cX6_bound 141 = .ok (.iconst 1, 1) := by decide +kernel
theorem dX6_bound_142 : decode cX6_bound 142 = .ok (.iload 4, 2) := by decide +kernel
theorem dX6_bound_144 : decode cX6_bound 144 = .ok (.ishl, 1) := by decide +kernel
theorem dX6_bound_145 : decode cX6_bound 145 = .ok (.ixor, 1) := by decide +kernel
theorem dX6_bound_146 : decode cX6_bound 146 = .ok (.iaload, 1) := by decide +kernel
theorem dX6_bound_147 : decode cX6_bound 147 = .ok (.iload 5, 2) := by decide +kernel
theorem dX6_bound_149 : decode cX6_bound 149 = .ok (.iadd, 1) := by decide +kernel
theorem dX6_bound_150 : decode cX6_bound 150 = .ok (.istore 6, 2) := by decide +kernel
theorem dX6_bound_152 : decode cX6_bound 152 = .ok (.aload_n 0, 1) := by decide +kernel
theorem dX6_bound_153 : decode cX6_bound 153 = .ok (.getfield 39, 3) := by decide +kernel
theorem dX6_bound_156 : decode cX6_bound 156 = .ok (.iload_n 3, 1) := by decide +kernel
theorem dX6_bound_157 : decode cX6_bound 157 = .ok (.aload_n 0, 1) := by decide +kernel
theorem dX6_bound_158 : decode cX6_bound 158 = .ok (.getfield 39, 3) := by decide +kernel
theorem dX6_bound_161 : decode cX6_bound 161 = .ok (.iload_n 3, 1) := by decide +kernel
theorem dX6_bound_162 : decode cX6_bound 162 = .ok (.iaload, 1) := by decide +kernel
theorem dX6_bound_163 : decode cX6_bound 163 = .ok (.ifCond .lt 14, 3) := by decide +kernel
theorem dX6_bound_166 : decode cX6_bound 166 = .ok (.iload 6, 2) := by decide +kernel
theorem dX6_bound_168 : decode cX6_bound 168 = .ok (.aload_n 0, 1) := by decide +kernel
theorem dX6_bound_169 : decode cX6_bound 169 = .ok (.getfield 39, 3) := by decide +kernel
theorem dX6_bound_172 : decode cX6_bound 172 = .ok (.iload_n 3, 1) := by decide +kernel
theorem dX6_bound_173 : decode cX6_bound 173 = .ok (.iaload, 1) := by decide +kernel
theorem dX6_bound_174 : decode cX6_bound 174 = .ok (.if_icmp .ge 8, 3) := by decide +kernel
theorem dX6_bound_177 : decode cX6_bound 177 = .ok (.iload 6, 2) := by decide +kernel
theorem dX6_bound_179 : decode cX6_bound 179 = .ok (.goto 9, 3) := by decide +kernel
theorem dX6_bound_182 : decode cX6_bound 182 = .ok (.aload_n 0, 1) := by decide +kernel
theorem dX6_bound_183 : decode cX6_bound 183 = .ok (.getfield 39, 3) := by decide +kernel
theorem dX6_bound_186 : decode cX6_bound 186 = .ok (.iload_n 3, 1) := by decide +kernel
theorem dX6_bound_187 : decode cX6_bound 187 = .ok (.iaload, 1) := by decide +kernel
theorem dX6_bound_188 : decode cX6_bound 188 = .ok (.iastore, 1) := by decide +kernel
theorem dX6_bound_189 : decode cX6_bound 189 = .ok (.iinc 4 1, 3) := by decide +kernel
theorem dX6_bound_192 : decode cX6_bound 192 = .ok (.goto (-109), 3) := by decide +kernel
theorem dX6_bound_195 : decode cX6_bound 195 = .ok (.iinc 3 (-1), 3) := by decide +kernel
theorem dX6_bound_198 : decode cX6_bound 198 = .ok (.goto (-122), 3) := by decide +kernel
theorem dX6_bound_201 : decode cX6_bound 201 = .ok (.iinc 2 1, 3) := by decide +kernel
theorem dX6_bound_204 : decode cX6_bound 204 = .ok (.goto (-159), 3) := by decide +kernel
theorem dX6_bound_207 : decode cX6_bound 207 = .ok (.aload_n 0, 1) := by decide +kernel
theorem dX6_bound_208 : decode cX6_bound 208 = .ok (.getfield 39, 3) := by decide +kernel
theorem dX6_bound_211 : decode cX6_bound 211 = .ok (.iconst 1, 1) := by decide +kernel
theorem dX6_bound_212 : decode cX6_bound 212 = .ok (.iload_n 1, 1) := by decide +kernel
theorem dX6_bound_213 : decode cX6_bound 213 = .ok (.ishl, 1) := by decide +kernel
theorem dX6_bound_214 : decode cX6_bound 214 = .ok (.iconst 1, 1) := by decide +kernel
theorem dX6_bound_215 : decode cX6_bound 215 = .ok (.isub, 1) := by decide +kernel
theorem dX6_bound_216 : decode cX6_bound 216 = .ok (.iaload, 1) := by decide +kernel
theorem dX6_bound_217 : decode cX6_bound 217 = .ok (.ireturn, 1) := by decide +kernel
theorem dX6_leastOf_0 : decode cX6_leastOf 0 = .ok (.iconst 0, 1) := by decide +kernel
theorem dX6_leastOf_1 : decode cX6_leastOf 1 = .ok (.istore_n 2, 1) := by decide +kernel
theorem dX6_leastOf_2 : decode cX6_leastOf 2 = .ok (.lload_n 0, 1) := by decide +kernel
theorem dX6_leastOf_3 : decode cX6_leastOf 3 = .ok (.iload_n 2, 1) := by decide +kernel
theorem dX6_leastOf_4 : decode cX6_leastOf 4 = .ok (.lshr, 1) := by decide +kernel
theorem dX6_leastOf_5 : decode cX6_leastOf 5 = .ok (.lconst 1, 1) := by decide +kernel
theorem dX6_leastOf_6 : decode cX6_leastOf 6 = .ok (.land, 1) := by decide +kernel
theorem dX6_leastOf_7 : decode cX6_leastOf 7 = .ok (.lconst 0, 1) := by decide +kernel
theorem dX6_leastOf_8 : decode cX6_leastOf 8 = .ok (.lcmp, 1) := by decide +kernel
theorem dX6_leastOf_9 : decode cX6_leastOf 9 = .ok (.ifCond .ne 9, 3) := by decide +kernel
theorem dX6_leastOf_12 : decode cX6_leastOf 12 = .ok (.iinc 2 1, 3) := by decide +kernel
theorem dX6_leastOf_15 : decode cX6_leastOf 15 = .ok (.goto (-13), 3) := by decide +kernel
theorem dX6_leastOf_18 : decode cX6_leastOf 18 = .ok (.iload_n 2, 1) := by decide +kernel
theorem dX6_leastOf_19 : decode cX6_leastOf 19 = .ok (.ireturn, 1) := by decide +kernel
theorem dX6_seatOf_0 : decode cX6_seatOf 0 = .ok (.lload_n 1, 1) := by decide +kernel
theorem dX6_seatOf_1 : decode cX6_seatOf 1 = .ok (.ldc2_w 162, 3) := by decide +kernel
theorem dX6_seatOf_4 : decode cX6_seatOf 4 = .ok (.lmul, 1) := by decide +kernel
theorem dX6_seatOf_5 : decode cX6_seatOf 5 = .ok (.iload_n 3, 1) := by decide +kernel
theorem dX6_seatOf_6 : decode cX6_seatOf 6 = .ok (.i2l, 1) := by decide +kernel
theorem dX6_seatOf_7 : decode cX6_seatOf 7 = .ok (.ladd, 1) := by decide +kernel
theorem dX6_seatOf_8 : decode cX6_seatOf 8 = .ok (.lstore 4, 2) := by decide +kernel
theorem dX6_seatOf_10 : decode cX6_seatOf 10 = .ok (.lload 4, 2) := by decide +kernel
theorem dX6_seatOf_12 : decode cX6_seatOf 12 = .ok (.lload 4, 2) := by decide +kernel
theorem dX6_seatOf_14 : decode cX6_seatOf 14 = .ok (.bipush 29, 2) := by decide +kernel
theorem dX6_seatOf_16 : decode cX6_seatOf 16 = .ok (.lushr, 1) := by decide +kernel
theorem dX6_seatOf_17 : decode cX6_seatOf 17 = .ok (.lxor, 1) := by decide +kernel
theorem dX6_seatOf_18 : decode cX6_seatOf 18 = .ok (.lload 4, 2) := by decide +kernel
theorem dX6_seatOf_20 : decode cX6_seatOf 20 = .ok (.bipush 47, 2) := by decide +kernel
theorem dX6_seatOf_22 : decode cX6_seatOf 22 = .ok (.lushr, 1) := by decide +kernel
theorem dX6_seatOf_23 : decode cX6_seatOf 23 = .ok (.lxor, 1) := by decide +kernel
theorem dX6_seatOf_24 : decode cX6_seatOf 24 = .ok (.lstore 4, 2) := by decide +kernel
theorem dX6_seatOf_26 : decode cX6_seatOf 26 = .ok (.lload 4, 2) := by decide +kernel
theorem dX6_seatOf_28 : decode cX6_seatOf 28 = .ok (.ldc2_w 164, 3) := by decide +kernel
theorem dX6_seatOf_31 : decode cX6_seatOf 31 = .ok (.land, 1) := by decide +kernel
theorem dX6_seatOf_32 : decode cX6_seatOf 32 = .ok (.l2i, 1) := by decide +kernel
theorem dX6_seatOf_33 : decode cX6_seatOf 33 = .ok (.istore 6, 2) := by decide +kernel
theorem dX6_seatOf_35 : decode cX6_seatOf 35 = .ok (.aload_n 0, 1) := by decide +kernel
theorem dX6_seatOf_36 : decode cX6_seatOf 36 = .ok (.getfield 30, 3) := by decide +kernel
theorem dX6_seatOf_39 : decode cX6_seatOf 39 = .ok (.iload 6, 2) := by decide +kernel
theorem dX6_seatOf_41 : decode cX6_seatOf 41 = .ok (.iaload, 1) := by decide +kernel
theorem dX6_seatOf_42 : decode cX6_seatOf 42 = .ok (.ifCond .lt 48, 3) := by decide +kernel
theorem dX6_seatOf_45 : decode cX6_seatOf 45 = .ok (.aload_n 0, 1) := by decide +kernel
theorem dX6_seatOf_46 : decode cX6_seatOf 46 = .ok (.getfield 16, 3) := by decide +kernel
theorem dX6_seatOf_49 : decode cX6_seatOf 49 = .ok (.aload_n 0, 1) := by decide +kernel
theorem dX6_seatOf_50 : decode cX6_seatOf 50 = .ok (.getfield 30, 3) := by decide +kernel
theorem dX6_seatOf_53 : decode cX6_seatOf 53 = .ok (.iload 6, 2) := by decide +kernel
theorem dX6_seatOf_55 : decode cX6_seatOf 55 = .ok (.iaload, 1) := by decide +kernel
theorem dX6_seatOf_56 : decode cX6_seatOf 56 = .ok (.laload, 1) := by decide +kernel
theorem dX6_seatOf_57 : decode cX6_seatOf 57 = .ok (.lload_n 1, 1) := by decide +kernel
theorem dX6_seatOf_58 : decode cX6_seatOf 58 = .ok (.lcmp, 1) := by decide +kernel
theorem dX6_seatOf_59 : decode cX6_seatOf 59 = .ok (.ifCond .ne 19, 3) := by decide +kernel
theorem dX6_seatOf_62 : decode cX6_seatOf 62 = .ok (.aload_n 0, 1) := by decide +kernel
theorem dX6_seatOf_63 : decode cX6_seatOf 63 = .ok (.getfield 20, 3) := by decide +kernel
theorem dX6_seatOf_66 : decode cX6_seatOf 66 = .ok (.aload_n 0, 1) := by decide +kernel
theorem dX6_seatOf_67 : decode cX6_seatOf 67 = .ok (.getfield 30, 3) := by decide +kernel
theorem dX6_seatOf_70 : decode cX6_seatOf 70 = .ok (.iload 6, 2) := by decide +kernel
theorem dX6_seatOf_72 : decode cX6_seatOf 72 = .ok (.iaload, 1) := by decide +kernel
theorem dX6_seatOf_73 : decode cX6_seatOf 73 = .ok (.iaload, 1) := by decide +kernel
theorem dX6_seatOf_74 : decode cX6_seatOf 74 = .ok (.iload_n 3, 1) := by decide +kernel
theorem dX6_seatOf_75 : decode cX6_seatOf 75 = .ok (.if_icmp .eq 15, 3) := by decide +kernel
theorem dX6_seatOf_78 : decode cX6_seatOf 78 = .ok (.iload 6, 2) := by decide +kernel
theorem dX6_seatOf_80 : decode cX6_seatOf 80 = .ok (.iconst 1, 1) := by decide +kernel
theorem dX6_seatOf_81 : decode cX6_seatOf 81 = .ok (.iadd, 1) := by decide +kernel
theorem dX6_seatOf_82 : decode cX6_seatOf 82 = .ok (.ldc 29, 2) := by decide +kernel
theorem dX6_seatOf_84 : decode cX6_seatOf 84 = .ok (.irem, 1) := by decide +kernel
theorem dX6_seatOf_85 : decode cX6_seatOf 85 = .ok (.istore 6, 2) := by decide +kernel
theorem dX6_seatOf_87 : decode cX6_seatOf 87 = .ok (.goto (-52), 3) := by decide +kernel
theorem dX6_seatOf_90 : decode cX6_seatOf 90 = .ok (.iload 6, 2) := by decide +kernel
theorem dX6_seatOf_92 : decode cX6_seatOf 92 = .ok (.ireturn, 1) := by decide +kernel
theorem dX6_isNew_0 : decode cX6_isNew 0 = .ok (.aload_n 0, 1) := by decide +kernel
theorem dX6_isNew_1 : decode cX6_isNew 1 = .ok (.iload_n 3, 1) := by decide +kernel
theorem dX6_isNew_2 : decode cX6_isNew 2 = .ok (.lload_n 1, 1) := by decide +kernel
theorem dX6_isNew_3 : decode cX6_isNew 3 = .ok (.invokevirtual 139, 3) := by decide +kernel
theorem dX6_isNew_6 : decode cX6_isNew 6 = .ok (.invokestatic 166, 3) := by decide +kernel
theorem dX6_isNew_9 : decode cX6_isNew 9 = .ok (.istore 6, 2) := by decide +kernel
theorem dX6_isNew_11 : decode cX6_isNew 11 = .ok (.aload_n 0, 1) := by decide +kernel
theorem dX6_isNew_12 : decode cX6_isNew 12 = .ok (.lload_n 1, 1) := by decide +kernel
theorem dX6_isNew_13 : decode cX6_isNew 13 = .ok (.iload 6, 2) := by decide +kernel
theorem dX6_isNew_15 : decode cX6_isNew 15 = .ok (.invokevirtual 169, 3) := by decide +kernel
theorem dX6_isNew_18 : decode cX6_isNew 18 = .ok (.istore 7, 2) := by decide +kernel
theorem dX6_isNew_20 : decode cX6_isNew 20 = .ok (.aload_n 0, 1) := by decide +kernel
theorem dX6_isNew_21 : decode cX6_isNew 21 = .ok (.getfield 30, 3) := by decide +kernel
theorem dX6_isNew_24 : decode cX6_isNew 24 = .ok (.iload 7, 2) := by decide +kernel
theorem dX6_isNew_26 : decode cX6_isNew 26 = .ok (.iaload, 1) := by decide +kernel
theorem dX6_isNew_27 : decode cX6_isNew 27 = .ok (.ifCond .lt 5, 3) := by decide +kernel
theorem dX6_isNew_30 : decode cX6_isNew 30 = .ok (.iconst 0, 1) := by decide +kernel
theorem dX6_isNew_31 : decode cX6_isNew 31 = .ok (.ireturn, 1) := by decide +kernel
theorem dX6_isNew_32 : decode cX6_isNew 32 = .ok (.aload_n 0, 1) := by decide +kernel
theorem dX6_isNew_33 : decode cX6_isNew 33 = .ok (.getfield 30, 3) := by decide +kernel
theorem dX6_isNew_36 : decode cX6_isNew 36 = .ok (.iload 7, 2) := by decide +kernel
theorem dX6_isNew_38 : decode cX6_isNew 38 = .ok (.aload_n 0, 1) := by decide +kernel
theorem dX6_isNew_39 : decode cX6_isNew 39 = .ok (.getfield 173, 3) := by decide +kernel
theorem dX6_isNew_42 : decode cX6_isNew 42 = .ok (.iastore, 1) := by decide +kernel
theorem dX6_isNew_43 : decode cX6_isNew 43 = .ok (.aload_n 0, 1) := by decide +kernel
theorem dX6_isNew_44 : decode cX6_isNew 44 = .ok (.getfield 16, 3) := by decide +kernel
theorem dX6_isNew_47 : decode cX6_isNew 47 = .ok (.aload_n 0, 1) := by decide +kernel
theorem dX6_isNew_48 : decode cX6_isNew 48 = .ok (.getfield 173, 3) := by decide +kernel
theorem dX6_isNew_51 : decode cX6_isNew 51 = .ok (.lload_n 1, 1) := by decide +kernel
theorem dX6_isNew_52 : decode cX6_isNew 52 = .ok (.lastore, 1) := by decide +kernel
theorem dX6_isNew_53 : decode cX6_isNew 53 = .ok (.aload_n 0, 1) := by decide +kernel
theorem dX6_isNew_54 : decode cX6_isNew 54 = .ok (.getfield 20, 3) := by decide +kernel
theorem dX6_isNew_57 : decode cX6_isNew 57 = .ok (.aload_n 0, 1) := by decide +kernel
theorem dX6_isNew_58 : decode cX6_isNew 58 = .ok (.getfield 173, 3) := by decide +kernel
theorem dX6_isNew_61 : decode cX6_isNew 61 = .ok (.iload 6, 2) := by decide +kernel
theorem dX6_isNew_63 : decode cX6_isNew 63 = .ok (.iastore, 1) := by decide +kernel
theorem dX6_isNew_64 : decode cX6_isNew 64 = .ok (.aload_n 0, 1) := by decide +kernel
theorem dX6_isNew_65 : decode cX6_isNew 65 = .ok (.getfield 23, 3) := by decide +kernel
theorem dX6_isNew_68 : decode cX6_isNew 68 = .ok (.aload_n 0, 1) := by decide +kernel
theorem dX6_isNew_69 : decode cX6_isNew 69 = .ok (.getfield 173, 3) := by decide +kernel
theorem dX6_isNew_72 : decode cX6_isNew 72 = .ok (.iload 4, 2) := by decide +kernel
theorem dX6_isNew_74 : decode cX6_isNew 74 = .ok (.iastore, 1) := by decide +kernel
theorem dX6_isNew_75 : decode cX6_isNew 75 = .ok (.aload_n 0, 1) := by decide +kernel
theorem dX6_isNew_76 : decode cX6_isNew 76 = .ok (.getfield 26, 3) := by decide +kernel
theorem dX6_isNew_79 : decode cX6_isNew 79 = .ok (.aload_n 0, 1) := by decide +kernel
theorem dX6_isNew_80 : decode cX6_isNew 80 = .ok (.getfield 173, 3) := by decide +kernel
theorem dX6_isNew_83 : decode cX6_isNew 83 = .ok (.iload 5, 2) := by decide +kernel
theorem dX6_isNew_85 : decode cX6_isNew 85 = .ok (.iastore, 1) := by decide +kernel
theorem dX6_isNew_86 : decode cX6_isNew 86 = .ok (.aload_n 0, 1) := by decide +kernel
theorem dX6_isNew_87 : decode cX6_isNew 87 = .ok (.dup, 1) := by decide +kernel
theorem dX6_isNew_88 : decode cX6_isNew 88 = .ok (.getfield 173, 3) := by decide +kernel
theorem dX6_isNew_91 : decode cX6_isNew 91 = .ok (.iconst 1, 1) := by decide +kernel
theorem dX6_isNew_92 : decode cX6_isNew 92 = .ok (.iadd, 1) := by decide +kernel
theorem dX6_isNew_93 : decode cX6_isNew 93 = .ok (.putfield 173, 3) := by decide +kernel
theorem dX6_isNew_96 : decode cX6_isNew 96 = .ok (.iconst 1, 1) := by decide +kernel
theorem dX6_isNew_97 : decode cX6_isNew 97 = .ok (.ireturn, 1) := by decide +kernel
theorem dX6_spread_0 : decode cX6_spread 0 = .ok (.iconst 0, 1) := by decide +kernel
theorem dX6_spread_1 : decode cX6_spread 1 = .ok (.istore_n 2, 1) := by decide +kernel
theorem dX6_spread_2 : decode cX6_spread 2 = .ok (.iload_n 2, 1) := by decide +kernel
theorem dX6_spread_3 : decode cX6_spread 3 = .ok (.ldc 29, 2) := by decide +kernel
theorem dX6_spread_5 : decode cX6_spread 5 = .ok (.if_icmp .ge 16, 3) := by decide +kernel
theorem dX6_spread_8 : decode cX6_spread 8 = .ok (.aload_n 0, 1) := by decide +kernel
theorem dX6_spread_9 : decode cX6_spread 9 = .ok (.getfield 30, 3) := by decide +kernel
theorem dX6_spread_12 : decode cX6_spread 12 = .ok (.iload_n 2, 1) := by decide +kernel
theorem dX6_spread_13 : decode cX6_spread 13 = .ok (.iconst (-1), 1) := by decide +kernel
theorem dX6_spread_14 : decode cX6_spread 14 = .ok (.iastore, 1) := by decide +kernel
theorem dX6_spread_15 : decode cX6_spread 15 = .ok (.iinc 2 1, 3) := by decide +kernel
theorem dX6_spread_18 : decode cX6_spread 18 = .ok (.goto (-16), 3) := by decide +kernel
theorem dX6_spread_21 : decode cX6_spread 21 = .ok (.aload_n 0, 1) := by decide +kernel
theorem dX6_spread_22 : decode cX6_spread 22 = .ok (.iconst 0, 1) := by decide +kernel
theorem dX6_spread_23 : decode cX6_spread 23 = .ok (.putfield 173, 3) := by decide +kernel
theorem dX6_spread_26 : decode cX6_spread 26 = .ok (.aload_n 0, 1) := by decide +kernel
theorem dX6_spread_27 : decode cX6_spread 27 = .ok (.aload_n 0, 1) := by decide +kernel
theorem dX6_spread_28 : decode cX6_spread 28 = .ok (.getfield 97, 3) := by decide +kernel
theorem dX6_spread_31 : decode cX6_spread 31 = .ok (.aload_n 0, 1) := by decide +kernel
theorem dX6_spread_32 : decode cX6_spread 32 = .ok (.getfield 100, 3) := by decide +kernel
theorem dX6_spread_35 : decode cX6_spread 35 = .ok (.iconst (-1), 1) := by decide +kernel
theorem dX6_spread_36 : decode cX6_spread 36 = .ok (.iconst 0, 1) := by decide +kernel
theorem dX6_spread_37 : decode cX6_spread 37 = .ok (.invokevirtual 176, 3) := by decide +kernel
theorem dX6_spread_40 : decode cX6_spread 40 = .ok (.pop, 1) := by decide +kernel
theorem dX6_spread_41 : decode cX6_spread 41 = .ok (.aload_n 0, 1) := by decide +kernel
theorem dX6_spread_42 : decode cX6_spread 42 = .ok (.aload_n 0, 1) := by decide +kernel
theorem dX6_spread_43 : decode cX6_spread 43 = .ok (.getfield 97, 3) := by decide +kernel
theorem dX6_spread_46 : decode cX6_spread 46 = .ok (.invokevirtual 135, 3) := by decide +kernel
theorem dX6_spread_49 : decode cX6_spread 49 = .ok (.ifCond .eq 5, 3) := by decide +kernel
theorem dX6_spread_52 : decode cX6_spread 52 = .ok (.iconst 0, 1) := by decide +kernel
theorem dX6_spread_53 : decode cX6_spread 53 = .ok (.ireturn, 1) := by decide +kernel
theorem dX6_spread_54 : decode cX6_spread 54 = .ok (.aload_n 0, 1) := by decide +kernel
theorem dX6_spread_55 : decode cX6_spread 55 = .ok (.invokevirtual 143, 3) := by decide +kernel
theorem dX6_spread_58 : decode cX6_spread 58 = .ok (.lstore_n 2, 1) := by decide +kernel
theorem dX6_spread_59 : decode cX6_spread 59 = .ok (.iconst 0, 1) := by decide +kernel
theorem dX6_spread_60 : decode cX6_spread 60 = .ok (.istore 4, 2) := by decide +kernel
theorem dX6_spread_62 : decode cX6_spread 62 = .ok (.iload 4, 2) := by decide +kernel
theorem dX6_spread_64 : decode cX6_spread 64 = .ok (.aload_n 0, 1) := by decide +kernel
theorem dX6_spread_65 : decode cX6_spread 65 = .ok (.getfield 173, 3) := by decide +kernel
theorem dX6_spread_68 : decode cX6_spread 68 = .ok (.if_icmp .ge 231, 3) := by decide +kernel
theorem dX6_spread_71 : decode cX6_spread 71 = .ok (.aload_n 0, 1) := by decide +kernel
theorem dX6_spread_72 : decode cX6_spread 72 = .ok (.getfield 16, 3) := by decide +kernel
theorem dX6_spread_75 : decode cX6_spread 75 = .ok (.iload 4, 2) := by decide +kernel
theorem dX6_spread_77 : decode cX6_spread 77 = .ok (.laload, 1) := by decide +kernel
theorem dX6_spread_78 : decode cX6_spread 78 = .ok (.lstore 5, 2) := by decide +kernel
theorem dX6_spread_80 : decode cX6_spread 80 = .ok (.aload_n 0, 1) := by decide +kernel
theorem dX6_spread_81 : decode cX6_spread 81 = .ok (.aload_n 0, 1) := by decide +kernel
theorem dX6_spread_82 : decode cX6_spread 82 = .ok (.getfield 20, 3) := by decide +kernel
theorem dX6_spread_85 : decode cX6_spread 85 = .ok (.iload 4, 2) := by decide +kernel
theorem dX6_spread_87 : decode cX6_spread 87 = .ok (.iaload, 1) := by decide +kernel
theorem dX6_spread_88 : decode cX6_spread 88 = .ok (.lload 5, 2) := by decide +kernel
theorem dX6_spread_90 : decode cX6_spread 90 = .ok (.invokevirtual 139, 3) := by decide +kernel
theorem dX6_spread_93 : decode cX6_spread 93 = .ok (.lstore 7, 2) := by decide +kernel
theorem dX6_spread_95 : decode cX6_spread 95 = .ok (.iconst 0, 1) := by decide +kernel
theorem dX6_spread_96 : decode cX6_spread 96 = .ok (.istore 9, 2) := by decide +kernel
theorem dX6_spread_98 : decode cX6_spread 98 = .ok (.iload 9, 2) := by decide +kernel
theorem dX6_spread_100 : decode cX6_spread 100 = .ok (.bipush 64, 2) := by decide +kernel
theorem dX6_spread_102 : decode cX6_spread 102 = .ok (.if_icmp .ge 191, 3) := by decide +kernel
theorem dX6_spread_105 : decode cX6_spread 105 = .ok (.iconst 0, 1) := by decide +kernel
theorem dX6_spread_106 : decode cX6_spread 106 = .ok (.istore 10, 2) := by decide +kernel
theorem dX6_spread_108 : decode cX6_spread 108 = .ok (.iload 10, 2) := by decide +kernel
theorem dX6_spread_110 : decode cX6_spread 110 = .ok (.iconst 4, 1) := by decide +kernel
theorem dX6_spread_111 : decode cX6_spread 111 = .ok (.if_icmp .ge 176, 3) := by decide +kernel
theorem dX6_spread_114 : decode cX6_spread 114 = .ok (.lload 5, 2) := by decide +kernel
theorem dX6_spread_116 : decode cX6_spread 116 = .ok (.iload 9, 2) := by decide +kernel
theorem dX6_spread_118 : decode cX6_spread 118 = .ok (.invokestatic 90, 3) := by decide +kernel
theorem dX6_spread_121 : decode cX6_spread 121 = .ok (.ifCond .eq 166, 3) := by decide +kernel
theorem dX6_spread_124 : decode cX6_spread 124 = .ok (.aload_n 0, 1) := by decide +kernel
theorem dX6_spread_125 : decode cX6_spread 125 = .ok (.iload 9, 2) := by decide +kernel
theorem dX6_spread_127 : decode cX6_spread 127 = .ok (.iload 10, 2) := by decide +kernel
theorem dX6_spread_129 : decode cX6_spread 129 = .ok (.invokevirtual 112, 3) := by decide +kernel
theorem dX6_spread_132 : decode cX6_spread 132 = .ok (.istore 11, 2) := by decide +kernel
theorem dX6_spread_134 : decode cX6_spread 134 = .ok (.lload 7, 2) := by decide +kernel
theorem dX6_spread_136 : decode cX6_spread 136 = .ok (.aload_n 0, 1) := by decide +kernel
theorem dX6_spread_137 : decode cX6_spread 137 = .ok (.iload 9, 2) := by decide +kernel
theorem dX6_spread_139 : decode cX6_spread 139 = .ok (.aload_n 0, 1) := by decide +kernel
theorem dX6_spread_140 : decode cX6_spread 140 = .ok (.iload 10, 2) := by decide +kernel
theorem dX6_spread_142 : decode cX6_spread 142 = .ok (.invokevirtual 126, 3) := by decide +kernel
theorem dX6_spread_145 : decode cX6_spread 145 = .ok (.invokevirtual 112, 3) := by decide +kernel
theorem dX6_spread_148 : decode cX6_spread 148 = .ok (.invokestatic 90, 3) := by decide +kernel
theorem dX6_spread_151 : decode cX6_spread 151 = .ok (.ifCond .eq 130, 3) := by decide +kernel
theorem dX6_spread_154 : decode cX6_spread 154 = .ok (.aload_n 0, 1) := by decide +kernel
theorem dX6_spread_155 : decode cX6_spread 155 = .ok (.getfield 87, 3) := by decide +kernel
theorem dX6_spread_158 : decode cX6_spread 158 = .ok (.iload 11, 2) := by decide +kernel
theorem dX6_spread_160 : decode cX6_spread 160 = .ok (.invokestatic 90, 3) := by decide +kernel
theorem dX6_spread_163 : decode cX6_spread 163 = .ok (.ifCond .eq 118, 3) := by decide +kernel
theorem dX6_spread_166 : decode cX6_spread 166 = .ok (.lload 5, 2) := by decide +kernel
theorem dX6_spread_168 : decode cX6_spread 168 = .ok (.iload 11, 2) := by decide +kernel
theorem dX6_spread_170 : decode cX6_spread 170 = .ok (.invokestatic 90, 3) := by decide +kernel
theorem dX6_spread_173 : decode cX6_spread 173 = .ok (.ifCond .ne 108, 3) := by decide +kernel
theorem dX6_spread_176 : decode cX6_spread 176 = .ok (.lload_n 2, 1) := by decide +kernel
theorem dX6_spread_177 : decode cX6_spread 177 = .ok (.iload 11, 2) := by decide +kernel
theorem dX6_spread_179 : decode cX6_spread 179 = .ok (.invokestatic 90, 3) := by decide +kernel
theorem dX6_spread_182 : decode cX6_spread 182 = .ok (.ifCond .ne 6, 3) := by decide +kernel
theorem dX6_spread_185 : decode cX6_spread 185 = .ok (.goto 96, 3) := by decide +kernel
theorem dX6_spread_188 : decode cX6_spread 188 = .ok (.lload 5, 2) := by decide +kernel
theorem dX6_spread_190 : decode cX6_spread 190 = .ok (.lconst 1, 1) := by decide +kernel
theorem dX6_spread_191 : decode cX6_spread 191 = .ok (.iload 9, 2) := by decide +kernel
theorem dX6_spread_193 : decode cX6_spread 193 = .ok (.lshl, 1) := by decide +kernel
theorem dX6_spread_194 : decode cX6_spread 194 = .ok (.ldc2_w 116, 3) := by decide +kernel
theorem dX6_spread_197 : decode cX6_spread 197 = .ok (.lxor, 1) := by decide +kernel
theorem dX6_spread_198 : decode cX6_spread 198 = .ok (.land, 1) := by decide +kernel
theorem dX6_spread_199 : decode cX6_spread 199 = .ok (.lconst 1, 1) := by decide +kernel
theorem dX6_spread_200 : decode cX6_spread 200 = .ok (.iload 11, 2) := by decide +kernel
theorem dX6_spread_202 : decode cX6_spread 202 = .ok (.lshl, 1) := by decide +kernel
theorem dX6_spread_203 : decode cX6_spread 203 = .ok (.lor, 1) := by decide +kernel
theorem dX6_spread_204 : decode cX6_spread 204 = .ok (.lstore 12, 2) := by decide +kernel
theorem dX6_spread_206 : decode cX6_spread 206 = .ok (.aload_n 0, 1) := by decide +kernel
theorem dX6_spread_207 : decode cX6_spread 207 = .ok (.lload 12, 2) := by decide +kernel
theorem dX6_spread_209 : decode cX6_spread 209 = .ok (.lload_n 2, 1) := by decide +kernel
theorem dX6_spread_210 : decode cX6_spread 210 = .ok (.invokevirtual 151, 3) := by decide +kernel
theorem dX6_spread_213 : decode cX6_spread 213 = .ok (.aload_n 0, 1) := by decide +kernel
theorem dX6_spread_214 : decode cX6_spread 214 = .ok (.getfield 94, 3) := by decide +kernel
theorem dX6_spread_217 : decode cX6_spread 217 = .ok (.ldc2_w 116, 3) := by decide +kernel
theorem dX6_spread_220 : decode cX6_spread 220 = .ok (.lxor, 1) := by decide +kernel
theorem dX6_spread_221 : decode cX6_spread 221 = .ok (.land, 1) := by decide +kernel
theorem dX6_spread_222 : decode cX6_spread 222 = .ok (.lconst 0, 1) := by decide +kernel
theorem dX6_spread_223 : decode cX6_spread 223 = .ok (.lcmp, 1) := by decide +kernel
theorem dX6_spread_224 : decode cX6_spread 224 = .ok (.ifCond .ne 57, 3) := by decide +kernel
theorem dX6_spread_227 : decode cX6_spread 227 = .ok (.aload_n 0, 1) := by decide +kernel
theorem dX6_spread_228 : decode cX6_spread 228 = .ok (.lload 12, 2) := by decide +kernel
theorem dX6_spread_230 : decode cX6_spread 230 = .ok (.iload 9, 2) := by decide +kernel
theorem dX6_spread_232 : decode cX6_spread 232 = .ok (.iload 4, 2) := by decide +kernel
theorem dX6_spread_234 : decode cX6_spread 234 = .ok (.iconst 4, 1) := by decide +kernel
theorem dX6_spread_235 : decode cX6_spread 235 = .ok (.aload_n 0, 1) := by decide +kernel
theorem dX6_spread_236 : decode cX6_spread 236 = .ok (.iload 9, 2) := by decide +kernel
theorem dX6_spread_238 : decode cX6_spread 238 = .ok (.invokevirtual 132, 3) := by decide +kernel
theorem dX6_spread_241 : decode cX6_spread 241 = .ok (.imul, 1) := by decide +kernel
theorem dX6_spread_242 : decode cX6_spread 242 = .ok (.iload 10, 2) := by decide +kernel
theorem dX6_spread_244 : decode cX6_spread 244 = .ok (.iadd, 1) := by decide +kernel
theorem dX6_spread_245 : decode cX6_spread 245 = .ok (.invokevirtual 176, 3) := by decide +kernel
theorem dX6_spread_248 : decode cX6_spread 248 = .ok (.ifCond .ne 6, 3) := by decide +kernel
theorem dX6_spread_251 : decode cX6_spread 251 = .ok (.goto 30, 3) := by decide +kernel
theorem dX6_spread_254 : decode cX6_spread 254 = .ok (.aload_n 0, 1) := by decide +kernel
theorem dX6_spread_255 : decode cX6_spread 255 = .ok (.getfield 173, 3) := by decide +kernel
theorem dX6_spread_258 : decode cX6_spread 258 = .ok (.iload_n 1, 1) := by decide +kernel
theorem dX6_spread_259 : decode cX6_spread 259 = .ok (.if_icmp .le 6, 3) := by decide +kernel
theorem dX6_spread_262 : decode cX6_spread 262 = .ok (.bipush (-2), 2) := by decide +kernel
theorem dX6_spread_264 : decode cX6_spread 264 = .ok (.ireturn, 1) := by decide +kernel
theorem dX6_spread_265 : decode cX6_spread 265 = .ok (.aload_n 0, 1) := by decide +kernel
theorem dX6_spread_266 : decode cX6_spread 266 = .ok (.lload 12, 2) := by decide +kernel
theorem dX6_spread_268 : decode cX6_spread 268 = .ok (.invokevirtual 135, 3) := by decide +kernel
theorem dX6_spread_271 : decode cX6_spread 271 = .ok (.ifCond .eq 10, 3) := by decide +kernel
theorem dX6_spread_274 : decode cX6_spread 274 = .ok (.aload_n 0, 1) := by decide +kernel
theorem dX6_spread_275 : decode cX6_spread 275 = .ok (.getfield 173, 3) := by decide +kernel
theorem dX6_spread_278 : decode cX6_spread 278 = .ok (.iconst 1, 1) := by decide +kernel
end
section
theorem dX6_spread_279 : decode cX6_spread 279 = .ok (.isub, 1) := by decide +kernel
theorem dX6_spread_280 : decode cX6_spread 280 = .ok (.ireturn, 1) := by decide +kernel
theorem dX6_spread_281 : decode cX6_spread 281 = .ok (.iinc 10 1, 3) := by decide +kernel
theorem dX6_spread_284 : decode cX6_spread 284 = .ok (.goto (-176), 3) := by decide +kernel
theorem dX6_spread_287 : decode cX6_spread 287 = .ok (.iinc 9 1, 3) := by decide +kernel
theorem dX6_spread_290 : decode cX6_spread 290 = .ok (.goto (-192), 3) := by decide +kernel
theorem dX6_spread_293 : decode cX6_spread 293 = .ok (.iinc 4 1, 3) := by decide +kernel
theorem dX6_spread_296 : decode cX6_spread 296 = .ok (.goto (-234), 3) := by decide +kernel
theorem dX6_spread_299 : decode cX6_spread 299 = .ok (.iconst (-1), 1) := by decide +kernel
theorem dX6_spread_300 : decode cX6_spread 300 = .ok (.ireturn, 1) := by decide +kernel
theorem dX6_search_0 : decode cX6_search 0 = .ok (.aload_n 0, 1) := by decide +kernel
theorem dX6_search_1 : decode cX6_search 1 = .ok (.iconst 0, 1) := by decide +kernel
theorem dX6_search_2 : decode cX6_search 2 = .ok (.putfield 42, 3) := by decide +kernel
theorem dX6_search_5 : decode cX6_search 5 = .ok (.aload_n 0, 1) := by decide +kernel
theorem dX6_search_6 : decode cX6_search 6 = .ok (.getfield 83, 3) := by decide +kernel
theorem dX6_search_9 : decode cX6_search 9 = .ok (.ifCond .eq 15, 3) := by decide +kernel
theorem dX6_search_12 : decode cX6_search 12 = .ok (.iload_n 1, 1) := by decide +kernel
theorem dX6_search_13 : decode cX6_search 13 = .ok (.iconst 1, 1) := by decide +kernel
theorem dX6_search_14 : decode cX6_search 14 = .ok (.if_icmp .lt 10, 3) := by decide +kernel
theorem dX6_search_17 : decode cX6_search 17 = .ok (.iload_n 1, 1) := by decide +kernel
theorem dX6_search_18 : decode cX6_search 18 = .ok (.sipush 10000, 3) := by decide +kernel
theorem dX6_search_21 : decode cX6_search 21 = .ok (.if_icmp .le 6, 3) := by decide +kernel
theorem dX6_search_24 : decode cX6_search 24 = .ok (.bipush (-3), 2) := by decide +kernel
theorem dX6_search_26 : decode cX6_search 26 = .ok (.ireturn, 1) := by decide +kernel
theorem dX6_search_27 : decode cX6_search 27 = .ok (.aload_n 0, 1) := by decide +kernel
theorem dX6_search_28 : decode cX6_search 28 = .ok (.iload_n 1, 1) := by decide +kernel
theorem dX6_search_29 : decode cX6_search 29 = .ok (.invokevirtual 180, 3) := by decide +kernel
theorem dX6_search_32 : decode cX6_search 32 = .ok (.istore_n 2, 1) := by decide +kernel
theorem dX6_search_33 : decode cX6_search 33 = .ok (.aload_n 0, 1) := by decide +kernel
theorem dX6_search_34 : decode cX6_search 34 = .ok (.iload_n 2, 1) := by decide +kernel
theorem dX6_search_35 : decode cX6_search 35 = .ok (.bipush (-2), 2) := by decide +kernel
theorem dX6_search_37 : decode cX6_search 37 = .ok (.if_icmp .ne 7, 3) := by decide +kernel
theorem dX6_search_40 : decode cX6_search 40 = .ok (.iload_n 1, 1) := by decide +kernel
theorem dX6_search_41 : decode cX6_search 41 = .ok (.goto 7, 3) := by decide +kernel
theorem dX6_search_44 : decode cX6_search 44 = .ok (.aload_n 0, 1) := by decide +kernel
theorem dX6_search_45 : decode cX6_search 45 = .ok (.getfield 173, 3) := by decide +kernel
theorem dX6_search_48 : decode cX6_search 48 = .ok (.putfield 183, 3) := by decide +kernel
theorem dX6_search_51 : decode cX6_search 51 = .ok (.aload_n 0, 1) := by decide +kernel
theorem dX6_search_52 : decode cX6_search 52 = .ok (.iconst 0, 1) := by decide +kernel
theorem dX6_search_53 : decode cX6_search 53 = .ok (.putfield 186, 3) := by decide +kernel
theorem dX6_search_56 : decode cX6_search 56 = .ok (.iload_n 2, 1) := by decide +kernel
theorem dX6_search_57 : decode cX6_search 57 = .ok (.ifCond .ge 5, 3) := by decide +kernel
theorem dX6_search_60 : decode cX6_search 60 = .ok (.iload_n 2, 1) := by decide +kernel
theorem dX6_search_61 : decode cX6_search 61 = .ok (.ireturn, 1) := by decide +kernel
theorem dX6_search_62 : decode cX6_search 62 = .ok (.iload_n 2, 1) := by decide +kernel
theorem dX6_search_63 : decode cX6_search 63 = .ok (.istore_n 3, 1) := by decide +kernel
theorem dX6_search_64 : decode cX6_search 64 = .ok (.iload_n 3, 1) := by decide +kernel
theorem dX6_search_65 : decode cX6_search 65 = .ok (.ifCond .le 23, 3) := by decide +kernel
theorem dX6_search_68 : decode cX6_search 68 = .ok (.aload_n 0, 1) := by decide +kernel
theorem dX6_search_69 : decode cX6_search 69 = .ok (.dup, 1) := by decide +kernel
theorem dX6_search_70 : decode cX6_search 70 = .ok (.getfield 186, 3) := by decide +kernel
theorem dX6_search_73 : decode cX6_search 73 = .ok (.iconst 1, 1) := by decide +kernel
theorem dX6_search_74 : decode cX6_search 74 = .ok (.iadd, 1) := by decide +kernel
theorem dX6_search_75 : decode cX6_search 75 = .ok (.putfield 186, 3) := by decide +kernel
theorem dX6_search_78 : decode cX6_search 78 = .ok (.aload_n 0, 1) := by decide +kernel
theorem dX6_search_79 : decode cX6_search 79 = .ok (.getfield 23, 3) := by decide +kernel
theorem dX6_search_82 : decode cX6_search 82 = .ok (.iload_n 3, 1) := by decide +kernel
theorem dX6_search_83 : decode cX6_search 83 = .ok (.iaload, 1) := by decide +kernel
theorem dX6_search_84 : decode cX6_search 84 = .ok (.istore_n 3, 1) := by decide +kernel
theorem dX6_search_85 : decode cX6_search 85 = .ok (.goto (-21), 3) := by decide +kernel
theorem dX6_search_88 : decode cX6_search 88 = .ok (.aload_n 0, 1) := by decide +kernel
theorem dX6_search_89 : decode cX6_search 89 = .ok (.getfield 186, 3) := by decide +kernel
theorem dX6_search_92 : decode cX6_search 92 = .ok (.istore_n 3, 1) := by decide +kernel
theorem dX6_search_93 : decode cX6_search 93 = .ok (.iload_n 2, 1) := by decide +kernel
theorem dX6_search_94 : decode cX6_search 94 = .ok (.istore 4, 2) := by decide +kernel
theorem dX6_search_96 : decode cX6_search 96 = .ok (.iload 4, 2) := by decide +kernel
theorem dX6_search_98 : decode cX6_search 98 = .ok (.ifCond .le 31, 3) := by decide +kernel
theorem dX6_search_101 : decode cX6_search 101 = .ok (.iinc 3 (-1), 3) := by decide +kernel
theorem dX6_search_104 : decode cX6_search 104 = .ok (.aload_n 0, 1) := by decide +kernel
theorem dX6_search_105 : decode cX6_search 105 = .ok (.getfield 33, 3) := by decide +kernel
theorem dX6_search_108 : decode cX6_search 108 = .ok (.iload_n 3, 1) := by decide +kernel
theorem dX6_search_109 : decode cX6_search 109 = .ok (.aload_n 0, 1) := by decide +kernel
theorem dX6_search_110 : decode cX6_search 110 = .ok (.getfield 26, 3) := by decide +kernel
theorem dX6_search_113 : decode cX6_search 113 = .ok (.iload 4, 2) := by decide +kernel
theorem dX6_search_115 : decode cX6_search 115 = .ok (.iaload, 1) := by decide +kernel
theorem dX6_search_116 : decode cX6_search 116 = .ok (.iastore, 1) := by decide +kernel
theorem dX6_search_117 : decode cX6_search 117 = .ok (.aload_n 0, 1) := by decide +kernel
theorem dX6_search_118 : decode cX6_search 118 = .ok (.getfield 23, 3) := by decide +kernel
theorem dX6_search_121 : decode cX6_search 121 = .ok (.iload 4, 2) := by decide +kernel
theorem dX6_search_123 : decode cX6_search 123 = .ok (.iaload, 1) := by decide +kernel
theorem dX6_search_124 : decode cX6_search 124 = .ok (.istore 4, 2) := by decide +kernel
theorem dX6_search_126 : decode cX6_search 126 = .ok (.goto (-30), 3) := by decide +kernel
theorem dX6_search_129 : decode cX6_search 129 = .ok (.aload_n 0, 1) := by decide +kernel
theorem dX6_search_130 : decode cX6_search 130 = .ok (.getfield 186, 3) := by decide +kernel
theorem dX6_search_133 : decode cX6_search 133 = .ok (.ireturn, 1) := by decide +kernel
theorem dX6_push_0 : decode cX6_push 0 = .ok (.aload_n 0, 1) := by decide +kernel
theorem dX6_push_1 : decode cX6_push 1 = .ok (.iconst 0, 1) := by decide +kernel
theorem dX6_push_2 : decode cX6_push 2 = .ok (.putfield 42, 3) := by decide +kernel
theorem dX6_push_5 : decode cX6_push 5 = .ok (.iload_n 1, 1) := by decide +kernel
theorem dX6_push_6 : decode cX6_push 6 = .ok (.ifCond .lt 11, 3) := by decide +kernel
theorem dX6_push_9 : decode cX6_push 9 = .ok (.iload_n 1, 1) := by decide +kernel
theorem dX6_push_10 : decode cX6_push 10 = .ok (.aload_n 0, 1) := by decide +kernel
theorem dX6_push_11 : decode cX6_push 11 = .ok (.getfield 186, 3) := by decide +kernel
theorem dX6_push_14 : decode cX6_push 14 = .ok (.if_icmp .lt 7, 3) := by decide +kernel
theorem dX6_push_17 : decode cX6_push 17 = .ok (.iconst (-1), 1) := by decide +kernel
theorem dX6_push_18 : decode cX6_push 18 = .ok (.goto 9, 3) := by decide +kernel
theorem dX6_push_21 : decode cX6_push 21 = .ok (.aload_n 0, 1) := by decide +kernel
theorem dX6_push_22 : decode cX6_push 22 = .ok (.getfield 33, 3) := by decide +kernel
theorem dX6_push_25 : decode cX6_push 25 = .ok (.iload_n 1, 1) := by decide +kernel
theorem dX6_push_26 : decode cX6_push 26 = .ok (.iaload, 1) := by decide +kernel
theorem dX6_push_27 : decode cX6_push 27 = .ok (.ireturn, 1) := by decide +kernel
theorem dX6_states_0 : decode cX6_states 0 = .ok (.aload_n 0, 1) := by decide +kernel
theorem dX6_states_1 : decode cX6_states 1 = .ok (.iconst 0, 1) := by decide +kernel
theorem dX6_states_2 : decode cX6_states 2 = .ok (.putfield 42, 3) := by decide +kernel
theorem dX6_states_5 : decode cX6_states 5 = .ok (.aload_n 0, 1) := by decide +kernel
theorem dX6_states_6 : decode cX6_states 6 = .ok (.getfield 183, 3) := by decide +kernel
theorem dX6_states_9 : decode cX6_states 9 = .ok (.ireturn, 1) := by decide +kernel
theorem dL_move_0 : decode cL_move 0 = .ok (.aload_n 2, 1) := by decide +kernel
theorem dL_move_1 : decode cL_move 1 = .ok (.iconst 0, 1) := by decide +kernel
theorem dL_move_2 : decode cL_move 2 = .ok (.aload_n 0, 1) := by decide +kernel
theorem dL_move_3 : decode cL_move 3 = .ok (.iload_n 1, 1) := by decide +kernel
theorem dL_move_4 : decode cL_move 4 = .ok (.invokevirtual 7, 3) := by decide +kernel
theorem dL_move_7 : decode cL_move 7 = .ok (.i2l, 1) := by decide +kernel
theorem dL_move_8 : decode cL_move 8 = .ok (.lastore, 1) := by decide +kernel
theorem dL_move_9 : decode cL_move 9 = .ok (.goto 9, 3) := by decide +kernel
theorem dL_move_12 : decode cL_move 12 = .ok (.astore_n 3, 1) := by decide +kernel
theorem dL_move_13 : decode cL_move 13 = .ok (.iconst 1, 1) := by decide +kernel
theorem dL_move_14 : decode cL_move 14 = .ok (.ireturn, 1) := by decide +kernel
theorem dL_move_15 : decode cL_move 15 = .ok (.astore_n 3, 1) := by decide +kernel
theorem dL_move_16 : decode cL_move 16 = .ok (.iconst 2, 1) := by decide +kernel
theorem dL_move_17 : decode cL_move 17 = .ok (.ireturn, 1) := by decide +kernel
theorem dL_move_18 : decode cL_move 18 = .ok (.iconst 0, 1) := by decide +kernel
theorem dL_move_19 : decode cL_move 19 = .ok (.ireturn, 1) := by decide +kernel
theorem dL_way_0 : decode cL_way 0 = .ok (.aload_n 3, 1) := by decide +kernel
theorem dL_way_1 : decode cL_way 1 = .ok (.iconst 0, 1) := by decide +kernel
theorem dL_way_2 : decode cL_way 2 = .ok (.aload_n 0, 1) := by decide +kernel
theorem dL_way_3 : decode cL_way 3 = .ok (.iload_n 1, 1) := by decide +kernel
theorem dL_way_4 : decode cL_way 4 = .ok (.iload_n 2, 1) := by decide +kernel
theorem dL_way_5 : decode cL_way 5 = .ok (.invokevirtual 17, 3) := by decide +kernel
theorem dL_way_8 : decode cL_way 8 = .ok (.i2l, 1) := by decide +kernel
theorem dL_way_9 : decode cL_way 9 = .ok (.lastore, 1) := by decide +kernel
theorem dL_way_10 : decode cL_way 10 = .ok (.goto 7, 3) := by decide +kernel
theorem dL_way_13 : decode cL_way 13 = .ok (.astore 4, 2) := by decide +kernel
theorem dL_way_15 : decode cL_way 15 = .ok (.iconst 1, 1) := by decide +kernel
theorem dL_way_16 : decode cL_way 16 = .ok (.ireturn, 1) := by decide +kernel
theorem dL_way_17 : decode cL_way 17 = .ok (.iconst 0, 1) := by decide +kernel
theorem dL_way_18 : decode cL_way 18 = .ok (.ireturn, 1) := by decide +kernel
theorem dL_dead_0 : decode cL_dead 0 = .ok (.aload_n 3, 1) := by decide +kernel
theorem dL_dead_1 : decode cL_dead 1 = .ok (.iconst 0, 1) := by decide +kernel
theorem dL_dead_2 : decode cL_dead 2 = .ok (.aload_n 0, 1) := by decide +kernel
theorem dL_dead_3 : decode cL_dead 3 = .ok (.iload_n 1, 1) := by decide +kernel
theorem dL_dead_4 : decode cL_dead 4 = .ok (.iload_n 2, 1) := by decide +kernel
theorem dL_dead_5 : decode cL_dead 5 = .ok (.invokevirtual 21, 3) := by decide +kernel
theorem dL_dead_8 : decode cL_dead 8 = .ok (.ifCond .eq 7, 3) := by decide +kernel
theorem dL_dead_11 : decode cL_dead 11 = .ok (.lconst 1, 1) := by decide +kernel
theorem dL_dead_12 : decode cL_dead 12 = .ok (.goto 4, 3) := by decide +kernel
theorem dL_dead_15 : decode cL_dead 15 = .ok (.lconst 0, 1) := by decide +kernel
theorem dL_dead_16 : decode cL_dead 16 = .ok (.lastore, 1) := by decide +kernel
theorem dL_dead_17 : decode cL_dead 17 = .ok (.goto 7, 3) := by decide +kernel
theorem dL_dead_20 : decode cL_dead 20 = .ok (.astore 4, 2) := by decide +kernel
theorem dL_dead_22 : decode cL_dead 22 = .ok (.iconst 1, 1) := by decide +kernel
theorem dL_dead_23 : decode cL_dead 23 = .ok (.ireturn, 1) := by decide +kernel
theorem dL_dead_24 : decode cL_dead 24 = .ok (.iconst 0, 1) := by decide +kernel
theorem dL_dead_25 : decode cL_dead 25 = .ok (.ireturn, 1) := by decide +kernel
theorem dL_pushes_0 : decode cL_pushes 0 = .ok (.aload 5, 2) := by decide +kernel
theorem dL_pushes_2 : decode cL_pushes 2 = .ok (.iconst 0, 1) := by decide +kernel
theorem dL_pushes_3 : decode cL_pushes 3 = .ok (.aload_n 0, 1) := by decide +kernel
theorem dL_pushes_4 : decode cL_pushes 4 = .ok (.iload_n 1, 1) := by decide +kernel
theorem dL_pushes_5 : decode cL_pushes 5 = .ok (.iload_n 2, 1) := by decide +kernel
theorem dL_pushes_6 : decode cL_pushes 6 = .ok (.iload_n 3, 1) := by decide +kernel
theorem dL_pushes_7 : decode cL_pushes 7 = .ok (.iload 4, 2) := by decide +kernel
theorem dL_pushes_9 : decode cL_pushes 9 = .ok (.invokevirtual 25, 3) := by decide +kernel
theorem dL_pushes_12 : decode cL_pushes 12 = .ok (.i2l, 1) := by decide +kernel
theorem dL_pushes_13 : decode cL_pushes 13 = .ok (.lastore, 1) := by decide +kernel
theorem dL_pushes_14 : decode cL_pushes 14 = .ok (.goto 7, 3) := by decide +kernel
theorem dL_pushes_17 : decode cL_pushes 17 = .ok (.astore 6, 2) := by decide +kernel
theorem dL_pushes_19 : decode cL_pushes 19 = .ok (.iconst 1, 1) := by decide +kernel
theorem dL_pushes_20 : decode cL_pushes 20 = .ok (.ireturn, 1) := by decide +kernel
theorem dL_pushes_21 : decode cL_pushes 21 = .ok (.iconst 0, 1) := by decide +kernel
theorem dL_pushes_22 : decode cL_pushes 22 = .ok (.ireturn, 1) := by decide +kernel
theorem dL_law_0 : decode cL_law 0 = .ok (.new 8, 3) := by decide +kernel
theorem dL_law_3 : decode cL_law 3 = .ok (.dup, 1) := by decide +kernel
theorem dL_law_4 : decode cL_law 4 = .ok (.invokespecial 29, 3) := by decide +kernel
theorem dL_law_7 : decode cL_law 7 = .ok (.astore_n 1, 1) := by decide +kernel
theorem dL_law_8 : decode cL_law 8 = .ok (.new 30, 3) := by decide +kernel
theorem dL_law_11 : decode cL_law 11 = .ok (.dup, 1) := by decide +kernel
theorem dL_law_12 : decode cL_law 12 = .ok (.invokespecial 32, 3) := by decide +kernel
theorem dL_law_15 : decode cL_law 15 = .ok (.astore_n 2, 1) := by decide +kernel
theorem dL_law_16 : decode cL_law 16 = .ok (.iconst 1, 1) := by decide +kernel
theorem dL_law_17 : decode cL_law 17 = .ok (.newarray .long, 2) := by decide +kernel
theorem dL_law_19 : decode cL_law 19 = .ok (.astore_n 3, 1) := by decide +kernel
theorem dL_law_20 : decode cL_law 20 = .ok (.iconst 0, 1) := by decide +kernel
theorem dL_law_21 : decode cL_law 21 = .ok (.istore 4, 2) := by decide +kernel
theorem dL_law_23 : decode cL_law 23 = .ok (.iload 4, 2) := by decide +kernel
theorem dL_law_25 : decode cL_law 25 = .ok (.aload_n 0, 1) := by decide +kernel
theorem dL_law_26 : decode cL_law 26 = .ok (.arraylength, 1) := by decide +kernel
theorem dL_law_27 : decode cL_law 27 = .ok (.iconst 5, 1) := by decide +kernel
theorem dL_law_28 : decode cL_law 28 = .ok (.isub, 1) := by decide +kernel
theorem dL_law_29 : decode cL_law 29 = .ok (.if_icmp .gt 646, 3) := by decide +kernel
theorem dL_law_32 : decode cL_law 32 = .ok (.aload_n 0, 1) := by decide +kernel
theorem dL_law_33 : decode cL_law 33 = .ok (.iload 4, 2) := by decide +kernel
theorem dL_law_35 : decode cL_law 35 = .ok (.iaload, 1) := by decide +kernel
theorem dL_law_36 : decode cL_law 36 = .ok (.bipush 31, 2) := by decide +kernel
theorem dL_law_38 : decode cL_law 38 = .ok (.iand, 1) := by decide +kernel
theorem dL_law_39 : decode cL_law 39 = .ok (.tableswitch 630 0 17 #[85, 110, 123, 136, 192, 205, 230, 255, 280, 293, 361, 436, 449, 462, 475, 567, 592, 617], 85) := by decide +kernel
theorem dL_law_124 : decode cL_law 124 = .ok (.aload_n 1, 1) := by decide +kernel
theorem dL_law_125 : decode cL_law 125 = .ok (.aload_n 0, 1) := by decide +kernel
theorem dL_law_126 : decode cL_law 126 = .ok (.iload 4, 2) := by decide +kernel
theorem dL_law_128 : decode cL_law 128 = .ok (.iconst 1, 1) := by decide +kernel
theorem dL_law_129 : decode cL_law 129 = .ok (.iadd, 1) := by decide +kernel
theorem dL_law_130 : decode cL_law 130 = .ok (.iaload, 1) := by decide +kernel
theorem dL_law_131 : decode cL_law 131 = .ok (.invokevirtual 33, 3) := by decide +kernel
theorem dL_law_134 : decode cL_law 134 = .ok (.aload_n 2, 1) := by decide +kernel
theorem dL_law_135 : decode cL_law 135 = .ok (.aload_n 0, 1) := by decide +kernel
theorem dL_law_136 : decode cL_law 136 = .ok (.iload 4, 2) := by decide +kernel
theorem dL_law_138 : decode cL_law 138 = .ok (.iconst 1, 1) := by decide +kernel
theorem dL_law_139 : decode cL_law 139 = .ok (.iadd, 1) := by decide +kernel
theorem dL_law_140 : decode cL_law 140 = .ok (.iaload, 1) := by decide +kernel
theorem dL_law_141 : decode cL_law 141 = .ok (.invokevirtual 37, 3) := by decide +kernel
theorem dL_law_144 : decode cL_law 144 = .ok (.if_icmp .eq 525, 3) := by decide +kernel
theorem dL_law_147 : decode cL_law 147 = .ok (.iconst 0, 1) := by decide +kernel
theorem dL_law_148 : decode cL_law 148 = .ok (.ireturn, 1) := by decide +kernel
theorem dL_law_149 : decode cL_law 149 = .ok (.aload_n 1, 1) := by decide +kernel
theorem dL_law_150 : decode cL_law 150 = .ok (.invokevirtual 38, 3) := by decide +kernel
theorem dL_law_153 : decode cL_law 153 = .ok (.aload_n 2, 1) := by decide +kernel
theorem dL_law_154 : decode cL_law 154 = .ok (.invokevirtual 42, 3) := by decide +kernel
theorem dL_law_157 : decode cL_law 157 = .ok (.if_icmp .eq 512, 3) := by decide +kernel
theorem dL_law_160 : decode cL_law 160 = .ok (.iconst 0, 1) := by decide +kernel
theorem dL_law_161 : decode cL_law 161 = .ok (.ireturn, 1) := by decide +kernel
theorem dL_law_162 : decode cL_law 162 = .ok (.aload_n 1, 1) := by decide +kernel
theorem dL_law_163 : decode cL_law 163 = .ok (.invokevirtual 43, 3) := by decide +kernel
theorem dL_law_166 : decode cL_law 166 = .ok (.aload_n 2, 1) := by decide +kernel
theorem dL_law_167 : decode cL_law 167 = .ok (.invokevirtual 46, 3) := by decide +kernel
theorem dL_law_170 : decode cL_law 170 = .ok (.if_icmp .eq 499, 3) := by decide +kernel
theorem dL_law_173 : decode cL_law 173 = .ok (.iconst 0, 1) := by decide +kernel
theorem dL_law_174 : decode cL_law 174 = .ok (.ireturn, 1) := by decide +kernel
theorem dL_law_175 : decode cL_law 175 = .ok (.aload_n 1, 1) := by decide +kernel
theorem dL_law_176 : decode cL_law 176 = .ok (.aload_n 0, 1) := by decide +kernel
theorem dL_law_177 : decode cL_law 177 = .ok (.iload 4, 2) := by decide +kernel
theorem dL_law_179 : decode cL_law 179 = .ok (.iconst 1, 1) := by decide +kernel
theorem dL_law_180 : decode cL_law 180 = .ok (.iadd, 1) := by decide +kernel
theorem dL_law_181 : decode cL_law 181 = .ok (.iaload, 1) := by decide +kernel
theorem dL_law_182 : decode cL_law 182 = .ok (.aload_n 3, 1) := by decide +kernel
theorem dL_law_183 : decode cL_law 183 = .ok (.invokestatic 47, 3) := by decide +kernel
theorem dL_law_186 : decode cL_law 186 = .ok (.istore 5, 2) := by decide +kernel
theorem dL_law_188 : decode cL_law 188 = .ok (.aload_n 2, 1) := by decide +kernel
theorem dL_law_189 : decode cL_law 189 = .ok (.aload_n 0, 1) := by decide +kernel
theorem dL_law_190 : decode cL_law 190 = .ok (.iload 4, 2) := by decide +kernel
theorem dL_law_192 : decode cL_law 192 = .ok (.iconst 1, 1) := by decide +kernel
theorem dL_law_193 : decode cL_law 193 = .ok (.iadd, 1) := by decide +kernel
theorem dL_law_194 : decode cL_law 194 = .ok (.iaload, 1) := by decide +kernel
theorem dL_law_195 : decode cL_law 195 = .ok (.invokevirtual 52, 3) := by decide +kernel
theorem dL_law_198 : decode cL_law 198 = .ok (.istore 6, 2) := by decide +kernel
theorem dL_law_200 : decode cL_law 200 = .ok (.aload_n 2, 1) := by decide +kernel
theorem dL_law_201 : decode cL_law 201 = .ok (.invokevirtual 53, 3) := by decide +kernel
theorem dL_law_204 : decode cL_law 204 = .ok (.iload 5, 2) := by decide +kernel
theorem dL_law_206 : decode cL_law 206 = .ok (.if_icmp .eq 5, 3) := by decide +kernel
theorem dL_law_209 : decode cL_law 209 = .ok (.iconst 0, 1) := by decide +kernel
theorem dL_law_210 : decode cL_law 210 = .ok (.ireturn, 1) := by decide +kernel
theorem dL_law_211 : decode cL_law 211 = .ok (.iload 5, 2) := by decide +kernel
theorem dL_law_213 : decode cL_law 213 = .ok (.ifCond .ne 15, 3) := by decide +kernel
theorem dL_law_216 : decode cL_law 216 = .ok (.aload_n 3, 1) := by decide +kernel
theorem dL_law_217 : decode cL_law 217 = .ok (.iconst 0, 1) := by decide +kernel
theorem dL_law_218 : decode cL_law 218 = .ok (.laload, 1) := by decide +kernel
theorem dL_law_219 : decode cL_law 219 = .ok (.iload 6, 2) := by decide +kernel
theorem dL_law_221 : decode cL_law 221 = .ok (.i2l, 1) := by decide +kernel
theorem dL_law_222 : decode cL_law 222 = .ok (.lcmp, 1) := by decide +kernel
theorem dL_law_223 : decode cL_law 223 = .ok (.ifCond .eq 5, 3) := by decide +kernel
theorem dL_law_226 : decode cL_law 226 = .ok (.iconst 0, 1) := by decide +kernel
theorem dL_law_227 : decode cL_law 227 = .ok (.ireturn, 1) := by decide +kernel
theorem dL_law_228 : decode cL_law 228 = .ok (.goto 441, 3) := by decide +kernel
theorem dL_law_231 : decode cL_law 231 = .ok (.aload_n 1, 1) := by decide +kernel
theorem dL_law_232 : decode cL_law 232 = .ok (.invokevirtual 56, 3) := by decide +kernel
theorem dL_law_235 : decode cL_law 235 = .ok (.aload_n 2, 1) := by decide +kernel
theorem dL_law_236 : decode cL_law 236 = .ok (.invokevirtual 59, 3) := by decide +kernel
theorem dL_law_239 : decode cL_law 239 = .ok (.if_icmp .eq 430, 3) := by decide +kernel
theorem dL_law_242 : decode cL_law 242 = .ok (.iconst 0, 1) := by decide +kernel
theorem dL_law_243 : decode cL_law 243 = .ok (.ireturn, 1) := by decide +kernel
theorem dL_law_244 : decode cL_law 244 = .ok (.aload_n 1, 1) := by decide +kernel
theorem dL_law_245 : decode cL_law 245 = .ok (.aload_n 0, 1) := by decide +kernel
theorem dL_law_246 : decode cL_law 246 = .ok (.iload 4, 2) := by decide +kernel
theorem dL_law_248 : decode cL_law 248 = .ok (.iconst 1, 1) := by decide +kernel
theorem dL_law_249 : decode cL_law 249 = .ok (.iadd, 1) := by decide +kernel
theorem dL_law_250 : decode cL_law 250 = .ok (.iaload, 1) := by decide +kernel
theorem dL_law_251 : decode cL_law 251 = .ok (.invokevirtual 60, 3) := by decide +kernel
theorem dL_law_254 : decode cL_law 254 = .ok (.aload_n 2, 1) := by decide +kernel
theorem dL_law_255 : decode cL_law 255 = .ok (.aload_n 0, 1) := by decide +kernel
theorem dL_law_256 : decode cL_law 256 = .ok (.iload 4, 2) := by decide +kernel
theorem dL_law_258 : decode cL_law 258 = .ok (.iconst 1, 1) := by decide +kernel
theorem dL_law_259 : decode cL_law 259 = .ok (.iadd, 1) := by decide +kernel
theorem dL_law_260 : decode cL_law 260 = .ok (.iaload, 1) := by decide +kernel
theorem dL_law_261 : decode cL_law 261 = .ok (.invokevirtual 63, 3) := by decide +kernel
theorem dL_law_264 : decode cL_law 264 = .ok (.if_icmp .eq 405, 3) := by decide +kernel
theorem dL_law_267 : decode cL_law 267 = .ok (.iconst 0, 1) := by decide +kernel
theorem dL_law_268 : decode cL_law 268 = .ok (.ireturn, 1) := by decide +kernel
theorem dL_law_269 : decode cL_law 269 = .ok (.aload_n 1, 1) := by decide +kernel
theorem dL_law_270 : decode cL_law 270 = .ok (.aload_n 0, 1) := by decide +kernel
theorem dL_law_271 : decode cL_law 271 = .ok (.iload 4, 2) := by decide +kernel
theorem dL_law_273 : decode cL_law 273 = .ok (.iconst 1, 1) := by decide +kernel
theorem dL_law_274 : decode cL_law 274 = .ok (.iadd, 1) := by decide +kernel
theorem dL_law_275 : decode cL_law 275 = .ok (.iaload, 1) := by decide +kernel
theorem dL_law_276 : decode cL_law 276 = .ok (.invokevirtual 64, 3) := by decide +kernel
theorem dL_law_279 : decode cL_law 279 = .ok (.aload_n 2, 1) := by decide +kernel
theorem dL_law_280 : decode cL_law 280 = .ok (.aload_n 0, 1) := by decide +kernel
theorem dL_law_281 : decode cL_law 281 = .ok (.iload 4, 2) := by decide +kernel
theorem dL_law_283 : decode cL_law 283 = .ok (.iconst 1, 1) := by decide +kernel
theorem dL_law_284 : decode cL_law 284 = .ok (.iadd, 1) := by decide +kernel
theorem dL_law_285 : decode cL_law 285 = .ok (.iaload, 1) := by decide +kernel
theorem dL_law_286 : decode cL_law 286 = .ok (.invokevirtual 67, 3) := by decide +kernel
theorem dL_law_289 : decode cL_law 289 = .ok (.if_icmp .eq 380, 3) := by decide +kernel
theorem dL_law_292 : decode cL_law 292 = .ok (.iconst 0, 1) := by decide +kernel
theorem dL_law_293 : decode cL_law 293 = .ok (.ireturn, 1) := by decide +kernel
theorem dL_law_294 : decode cL_law 294 = .ok (.aload_n 1, 1) := by decide +kernel
theorem dL_law_295 : decode cL_law 295 = .ok (.aload_n 0, 1) := by decide +kernel
theorem dL_law_296 : decode cL_law 296 = .ok (.iload 4, 2) := by decide +kernel
theorem dL_law_298 : decode cL_law 298 = .ok (.iconst 1, 1) := by decide +kernel
theorem dL_law_299 : decode cL_law 299 = .ok (.iadd, 1) := by decide +kernel
theorem dL_law_300 : decode cL_law 300 = .ok (.iaload, 1) := by decide +kernel
theorem dL_law_301 : decode cL_law 301 = .ok (.invokevirtual 68, 3) := by decide +kernel
theorem dL_law_304 : decode cL_law 304 = .ok (.aload_n 2, 1) := by decide +kernel
theorem dL_law_305 : decode cL_law 305 = .ok (.aload_n 0, 1) := by decide +kernel
theorem dL_law_306 : decode cL_law 306 = .ok (.iload 4, 2) := by decide +kernel
theorem dL_law_308 : decode cL_law 308 = .ok (.iconst 1, 1) := by decide +kernel
theorem dL_law_309 : decode cL_law 309 = .ok (.iadd, 1) := by decide +kernel
theorem dL_law_310 : decode cL_law 310 = .ok (.iaload, 1) := by decide +kernel
theorem dL_law_311 : decode cL_law 311 = .ok (.invokevirtual 71, 3) := by decide +kernel
theorem dL_law_314 : decode cL_law 314 = .ok (.if_icmp .eq 355, 3) := by decide +kernel
theorem dL_law_317 : decode cL_law 317 = .ok (.iconst 0, 1) := by decide +kernel
theorem dL_law_318 : decode cL_law 318 = .ok (.ireturn, 1) := by decide +kernel
theorem dL_law_319 : decode cL_law 319 = .ok (.aload_n 1, 1) := by decide +kernel
theorem dL_law_320 : decode cL_law 320 = .ok (.invokevirtual 72, 3) := by decide +kernel
theorem dL_law_323 : decode cL_law 323 = .ok (.aload_n 2, 1) := by decide +kernel
theorem dL_law_324 : decode cL_law 324 = .ok (.invokevirtual 75, 3) := by decide +kernel
theorem dL_law_327 : decode cL_law 327 = .ok (.if_icmp .eq 342, 3) := by decide +kernel
theorem dL_law_330 : decode cL_law 330 = .ok (.iconst 0, 1) := by decide +kernel
theorem dL_law_331 : decode cL_law 331 = .ok (.ireturn, 1) := by decide +kernel
theorem dL_law_332 : decode cL_law 332 = .ok (.aload_n 1, 1) := by decide +kernel
theorem dL_law_333 : decode cL_law 333 = .ok (.aload_n 0, 1) := by decide +kernel
theorem dL_law_334 : decode cL_law 334 = .ok (.iload 4, 2) := by decide +kernel
theorem dL_law_336 : decode cL_law 336 = .ok (.iconst 1, 1) := by decide +kernel
theorem dL_law_337 : decode cL_law 337 = .ok (.iadd, 1) := by decide +kernel
theorem dL_law_338 : decode cL_law 338 = .ok (.iaload, 1) := by decide +kernel
theorem dL_law_339 : decode cL_law 339 = .ok (.aload_n 0, 1) := by decide +kernel
theorem dL_law_340 : decode cL_law 340 = .ok (.iload 4, 2) := by decide +kernel
theorem dL_law_342 : decode cL_law 342 = .ok (.iconst 2, 1) := by decide +kernel
theorem dL_law_343 : decode cL_law 343 = .ok (.iadd, 1) := by decide +kernel
theorem dL_law_344 : decode cL_law 344 = .ok (.iaload, 1) := by decide +kernel
theorem dL_law_345 : decode cL_law 345 = .ok (.aload_n 3, 1) := by decide +kernel
theorem dL_law_346 : decode cL_law 346 = .ok (.invokestatic 76, 3) := by decide +kernel
theorem dL_law_349 : decode cL_law 349 = .ok (.istore 5, 2) := by decide +kernel
theorem dL_law_351 : decode cL_law 351 = .ok (.aload_n 2, 1) := by decide +kernel
theorem dL_law_352 : decode cL_law 352 = .ok (.aload_n 0, 1) := by decide +kernel
theorem dL_law_353 : decode cL_law 353 = .ok (.iload 4, 2) := by decide +kernel
theorem dL_law_355 : decode cL_law 355 = .ok (.iconst 1, 1) := by decide +kernel
theorem dL_law_356 : decode cL_law 356 = .ok (.iadd, 1) := by decide +kernel
theorem dL_law_357 : decode cL_law 357 = .ok (.iaload, 1) := by decide +kernel
theorem dL_law_358 : decode cL_law 358 = .ok (.aload_n 0, 1) := by decide +kernel
theorem dL_law_359 : decode cL_law 359 = .ok (.iload 4, 2) := by decide +kernel
theorem dL_law_361 : decode cL_law 361 = .ok (.iconst 2, 1) := by decide +kernel
theorem dL_law_362 : decode cL_law 362 = .ok (.iadd, 1) := by decide +kernel
theorem dL_law_363 : decode cL_law 363 = .ok (.iaload, 1) := by decide +kernel
theorem dL_law_364 : decode cL_law 364 = .ok (.invokevirtual 79, 3) := by decide +kernel
theorem dL_law_367 : decode cL_law 367 = .ok (.istore 6, 2) := by decide +kernel
theorem dL_law_369 : decode cL_law 369 = .ok (.aload_n 2, 1) := by decide +kernel
theorem dL_law_370 : decode cL_law 370 = .ok (.invokevirtual 53, 3) := by decide +kernel
theorem dL_law_373 : decode cL_law 373 = .ok (.iload 5, 2) := by decide +kernel
theorem dL_law_375 : decode cL_law 375 = .ok (.if_icmp .eq 5, 3) := by decide +kernel
theorem dL_law_378 : decode cL_law 378 = .ok (.iconst 0, 1) := by decide +kernel
theorem dL_law_379 : decode cL_law 379 = .ok (.ireturn, 1) := by decide +kernel
theorem dL_law_380 : decode cL_law 380 = .ok (.iload 5, 2) := by decide +kernel
theorem dL_law_382 : decode cL_law 382 = .ok (.ifCond .ne 15, 3) := by decide +kernel
theorem dL_law_385 : decode cL_law 385 = .ok (.aload_n 3, 1) := by decide +kernel
theorem dL_law_386 : decode cL_law 386 = .ok (.iconst 0, 1) := by decide +kernel
theorem dL_law_387 : decode cL_law 387 = .ok (.laload, 1) := by decide +kernel
theorem dL_law_388 : decode cL_law 388 = .ok (.iload 6, 2) := by decide +kernel
theorem dL_law_390 : decode cL_law 390 = .ok (.i2l, 1) := by decide +kernel
theorem dL_law_391 : decode cL_law 391 = .ok (.lcmp, 1) := by decide +kernel
theorem dL_law_392 : decode cL_law 392 = .ok (.ifCond .eq 5, 3) := by decide +kernel
theorem dL_law_395 : decode cL_law 395 = .ok (.iconst 0, 1) := by decide +kernel
theorem dL_law_396 : decode cL_law 396 = .ok (.ireturn, 1) := by decide +kernel
theorem dL_law_397 : decode cL_law 397 = .ok (.goto 272, 3) := by decide +kernel
theorem dL_law_400 : decode cL_law 400 = .ok (.aload_n 1, 1) := by decide +kernel
theorem dL_law_401 : decode cL_law 401 = .ok (.aload_n 0, 1) := by decide +kernel
theorem dL_law_402 : decode cL_law 402 = .ok (.iload 4, 2) := by decide +kernel
theorem dL_law_404 : decode cL_law 404 = .ok (.iconst 1, 1) := by decide +kernel
theorem dL_law_405 : decode cL_law 405 = .ok (.iadd, 1) := by decide +kernel
theorem dL_law_406 : decode cL_law 406 = .ok (.iaload, 1) := by decide +kernel
theorem dL_law_407 : decode cL_law 407 = .ok (.aload_n 0, 1) := by decide +kernel
theorem dL_law_408 : decode cL_law 408 = .ok (.iload 4, 2) := by decide +kernel
theorem dL_law_410 : decode cL_law 410 = .ok (.iconst 2, 1) := by decide +kernel
theorem dL_law_411 : decode cL_law 411 = .ok (.iadd, 1) := by decide +kernel
theorem dL_law_412 : decode cL_law 412 = .ok (.iaload, 1) := by decide +kernel
theorem dL_law_413 : decode cL_law 413 = .ok (.aload_n 3, 1) := by decide +kernel
theorem dL_law_414 : decode cL_law 414 = .ok (.invokestatic 80, 3) := by decide +kernel
theorem dL_law_417 : decode cL_law 417 = .ok (.istore 5, 2) := by decide +kernel
theorem dL_law_419 : decode cL_law 419 = .ok (.aload_n 2, 1) := by decide +kernel
theorem dL_law_420 : decode cL_law 420 = .ok (.aload_n 0, 1) := by decide +kernel
theorem dL_law_421 : decode cL_law 421 = .ok (.iload 4, 2) := by decide +kernel
theorem dL_law_423 : decode cL_law 423 = .ok (.iconst 1, 1) := by decide +kernel
theorem dL_law_424 : decode cL_law 424 = .ok (.iadd, 1) := by decide +kernel
theorem dL_law_425 : decode cL_law 425 = .ok (.iaload, 1) := by decide +kernel
theorem dL_law_426 : decode cL_law 426 = .ok (.aload_n 0, 1) := by decide +kernel
theorem dL_law_427 : decode cL_law 427 = .ok (.iload 4, 2) := by decide +kernel
theorem dL_law_429 : decode cL_law 429 = .ok (.iconst 2, 1) := by decide +kernel
theorem dL_law_430 : decode cL_law 430 = .ok (.iadd, 1) := by decide +kernel
theorem dL_law_431 : decode cL_law 431 = .ok (.iaload, 1) := by decide +kernel
theorem dL_law_432 : decode cL_law 432 = .ok (.invokevirtual 82, 3) := by decide +kernel
theorem dL_law_435 : decode cL_law 435 = .ok (.istore 6, 2) := by decide +kernel
theorem dL_law_437 : decode cL_law 437 = .ok (.aload_n 2, 1) := by decide +kernel
theorem dL_law_438 : decode cL_law 438 = .ok (.invokevirtual 53, 3) := by decide +kernel
theorem dL_law_441 : decode cL_law 441 = .ok (.iload 5, 2) := by decide +kernel
theorem dL_law_443 : decode cL_law 443 = .ok (.if_icmp .eq 5, 3) := by decide +kernel
theorem dL_law_446 : decode cL_law 446 = .ok (.iconst 0, 1) := by decide +kernel
theorem dL_law_447 : decode cL_law 447 = .ok (.ireturn, 1) := by decide +kernel
theorem dL_law_448 : decode cL_law 448 = .ok (.iload 5, 2) := by decide +kernel
theorem dL_law_450 : decode cL_law 450 = .ok (.ifCond .ne 22, 3) := by decide +kernel
theorem dL_law_453 : decode cL_law 453 = .ok (.aload_n 3, 1) := by decide +kernel
theorem dL_law_454 : decode cL_law 454 = .ok (.iconst 0, 1) := by decide +kernel
theorem dL_law_455 : decode cL_law 455 = .ok (.laload, 1) := by decide +kernel
theorem dL_law_456 : decode cL_law 456 = .ok (.iload 6, 2) := by decide +kernel
theorem dL_law_458 : decode cL_law 458 = .ok (.ifCond .eq 7, 3) := by decide +kernel
theorem dL_law_461 : decode cL_law 461 = .ok (.lconst 1, 1) := by decide +kernel
theorem dL_law_462 : decode cL_law 462 = .ok (.goto 4, 3) := by decide +kernel
theorem dL_law_465 : decode cL_law 465 = .ok (.lconst 0, 1) := by decide +kernel
theorem dL_law_466 : decode cL_law 466 = .ok (.lcmp, 1) := by decide +kernel
theorem dL_law_467 : decode cL_law 467 = .ok (.ifCond .eq 5, 3) := by decide +kernel
theorem dL_law_470 : decode cL_law 470 = .ok (.iconst 0, 1) := by decide +kernel
theorem dL_law_471 : decode cL_law 471 = .ok (.ireturn, 1) := by decide +kernel
theorem dL_law_472 : decode cL_law 472 = .ok (.goto 197, 3) := by decide +kernel
theorem dL_law_475 : decode cL_law 475 = .ok (.aload_n 1, 1) := by decide +kernel
theorem dL_law_476 : decode cL_law 476 = .ok (.invokevirtual 83, 3) := by decide +kernel
theorem dL_law_479 : decode cL_law 479 = .ok (.aload_n 2, 1) := by decide +kernel
theorem dL_law_480 : decode cL_law 480 = .ok (.invokevirtual 86, 3) := by decide +kernel
theorem dL_law_483 : decode cL_law 483 = .ok (.if_icmp .eq 186, 3) := by decide +kernel
theorem dL_law_486 : decode cL_law 486 = .ok (.iconst 0, 1) := by decide +kernel
theorem dL_law_487 : decode cL_law 487 = .ok (.ireturn, 1) := by decide +kernel
theorem dL_law_488 : decode cL_law 488 = .ok (.aload_n 1, 1) := by decide +kernel
theorem dL_law_489 : decode cL_law 489 = .ok (.invokevirtual 87, 3) := by decide +kernel
theorem dL_law_492 : decode cL_law 492 = .ok (.aload_n 2, 1) := by decide +kernel
theorem dL_law_493 : decode cL_law 493 = .ok (.invokevirtual 91, 3) := by decide +kernel
theorem dL_law_496 : decode cL_law 496 = .ok (.if_icmp .eq 173, 3) := by decide +kernel
theorem dL_law_499 : decode cL_law 499 = .ok (.iconst 0, 1) := by decide +kernel
theorem dL_law_500 : decode cL_law 500 = .ok (.ireturn, 1) := by decide +kernel
theorem dL_law_501 : decode cL_law 501 = .ok (.aload_n 1, 1) := by decide +kernel
theorem dL_law_502 : decode cL_law 502 = .ok (.invokevirtual 92, 3) := by decide +kernel
theorem dL_law_505 : decode cL_law 505 = .ok (.aload_n 2, 1) := by decide +kernel
theorem dL_law_506 : decode cL_law 506 = .ok (.invokevirtual 95, 3) := by decide +kernel
theorem dL_law_509 : decode cL_law 509 = .ok (.if_icmp .eq 160, 3) := by decide +kernel
theorem dL_law_512 : decode cL_law 512 = .ok (.iconst 0, 1) := by decide +kernel
theorem dL_law_513 : decode cL_law 513 = .ok (.ireturn, 1) := by decide +kernel
theorem dL_law_514 : decode cL_law 514 = .ok (.aload_n 1, 1) := by decide +kernel
theorem dL_law_515 : decode cL_law 515 = .ok (.aload_n 0, 1) := by decide +kernel
theorem dL_law_516 : decode cL_law 516 = .ok (.iload 4, 2) := by decide +kernel
theorem dL_law_518 : decode cL_law 518 = .ok (.iconst 1, 1) := by decide +kernel
theorem dL_law_519 : decode cL_law 519 = .ok (.iadd, 1) := by decide +kernel
theorem dL_law_520 : decode cL_law 520 = .ok (.iaload, 1) := by decide +kernel
theorem dL_law_521 : decode cL_law 521 = .ok (.aload_n 0, 1) := by decide +kernel
theorem dL_law_522 : decode cL_law 522 = .ok (.iload 4, 2) := by decide +kernel
theorem dL_law_524 : decode cL_law 524 = .ok (.iconst 2, 1) := by decide +kernel
theorem dL_law_525 : decode cL_law 525 = .ok (.iadd, 1) := by decide +kernel
theorem dL_law_526 : decode cL_law 526 = .ok (.iaload, 1) := by decide +kernel
theorem dL_law_527 : decode cL_law 527 = .ok (.aload_n 0, 1) := by decide +kernel
theorem dL_law_528 : decode cL_law 528 = .ok (.iload 4, 2) := by decide +kernel
theorem dL_law_530 : decode cL_law 530 = .ok (.iconst 3, 1) := by decide +kernel
theorem dL_law_531 : decode cL_law 531 = .ok (.iadd, 1) := by decide +kernel
theorem dL_law_532 : decode cL_law 532 = .ok (.iaload, 1) := by decide +kernel
theorem dL_law_533 : decode cL_law 533 = .ok (.aload_n 0, 1) := by decide +kernel
theorem dL_law_534 : decode cL_law 534 = .ok (.iload 4, 2) := by decide +kernel
theorem dL_law_536 : decode cL_law 536 = .ok (.iconst 4, 1) := by decide +kernel
theorem dL_law_537 : decode cL_law 537 = .ok (.iadd, 1) := by decide +kernel
theorem dL_law_538 : decode cL_law 538 = .ok (.iaload, 1) := by decide +kernel
theorem dL_law_539 : decode cL_law 539 = .ok (.aload_n 3, 1) := by decide +kernel
theorem dL_law_540 : decode cL_law 540 = .ok (.invokestatic 96, 3) := by decide +kernel
theorem dL_law_543 : decode cL_law 543 = .ok (.istore 5, 2) := by decide +kernel
theorem dL_law_545 : decode cL_law 545 = .ok (.aload_n 2, 1) := by decide +kernel
theorem dL_law_546 : decode cL_law 546 = .ok (.aload_n 0, 1) := by decide +kernel
theorem dL_law_547 : decode cL_law 547 = .ok (.iload 4, 2) := by decide +kernel
theorem dL_law_549 : decode cL_law 549 = .ok (.iconst 1, 1) := by decide +kernel
theorem dL_law_550 : decode cL_law 550 = .ok (.iadd, 1) := by decide +kernel
theorem dL_law_551 : decode cL_law 551 = .ok (.iaload, 1) := by decide +kernel
theorem dL_law_552 : decode cL_law 552 = .ok (.aload_n 0, 1) := by decide +kernel
theorem dL_law_553 : decode cL_law 553 = .ok (.iload 4, 2) := by decide +kernel
theorem dL_law_555 : decode cL_law 555 = .ok (.iconst 2, 1) := by decide +kernel
theorem dL_law_556 : decode cL_law 556 = .ok (.iadd, 1) := by decide +kernel
theorem dL_law_557 : decode cL_law 557 = .ok (.iaload, 1) := by decide +kernel
theorem dL_law_558 : decode cL_law 558 = .ok (.aload_n 0, 1) := by decide +kernel
theorem dL_law_559 : decode cL_law 559 = .ok (.iload 4, 2) := by decide +kernel
theorem dL_law_561 : decode cL_law 561 = .ok (.iconst 3, 1) := by decide +kernel
theorem dL_law_562 : decode cL_law 562 = .ok (.iadd, 1) := by decide +kernel
theorem dL_law_563 : decode cL_law 563 = .ok (.iaload, 1) := by decide +kernel
theorem dL_law_564 : decode cL_law 564 = .ok (.aload_n 0, 1) := by decide +kernel
theorem dL_law_565 : decode cL_law 565 = .ok (.iload 4, 2) := by decide +kernel
theorem dL_law_567 : decode cL_law 567 = .ok (.iconst 4, 1) := by decide +kernel
theorem dL_law_568 : decode cL_law 568 = .ok (.iadd, 1) := by decide +kernel
theorem dL_law_569 : decode cL_law 569 = .ok (.iaload, 1) := by decide +kernel
theorem dL_law_570 : decode cL_law 570 = .ok (.invokevirtual 99, 3) := by decide +kernel
theorem dL_law_573 : decode cL_law 573 = .ok (.istore 6, 2) := by decide +kernel
theorem dL_law_575 : decode cL_law 575 = .ok (.aload_n 2, 1) := by decide +kernel
theorem dL_law_576 : decode cL_law 576 = .ok (.invokevirtual 53, 3) := by decide +kernel
theorem dL_law_579 : decode cL_law 579 = .ok (.iload 5, 2) := by decide +kernel
theorem dL_law_581 : decode cL_law 581 = .ok (.if_icmp .eq 5, 3) := by decide +kernel
theorem dL_law_584 : decode cL_law 584 = .ok (.iconst 0, 1) := by decide +kernel
theorem dL_law_585 : decode cL_law 585 = .ok (.ireturn, 1) := by decide +kernel
theorem dL_law_586 : decode cL_law 586 = .ok (.iload 5, 2) := by decide +kernel
theorem dL_law_588 : decode cL_law 588 = .ok (.ifCond .ne 15, 3) := by decide +kernel
theorem dL_law_591 : decode cL_law 591 = .ok (.aload_n 3, 1) := by decide +kernel
theorem dL_law_592 : decode cL_law 592 = .ok (.iconst 0, 1) := by decide +kernel
theorem dL_law_593 : decode cL_law 593 = .ok (.laload, 1) := by decide +kernel
theorem dL_law_594 : decode cL_law 594 = .ok (.iload 6, 2) := by decide +kernel
theorem dL_law_596 : decode cL_law 596 = .ok (.i2l, 1) := by decide +kernel
theorem dL_law_597 : decode cL_law 597 = .ok (.lcmp, 1) := by decide +kernel
theorem dL_law_598 : decode cL_law 598 = .ok (.ifCond .eq 5, 3) := by decide +kernel
theorem dL_law_601 : decode cL_law 601 = .ok (.iconst 0, 1) := by decide +kernel
theorem dL_law_602 : decode cL_law 602 = .ok (.ireturn, 1) := by decide +kernel
theorem dL_law_603 : decode cL_law 603 = .ok (.goto 66, 3) := by decide +kernel
theorem dL_law_606 : decode cL_law 606 = .ok (.aload_n 1, 1) := by decide +kernel
theorem dL_law_607 : decode cL_law 607 = .ok (.aload_n 0, 1) := by decide +kernel
theorem dL_law_608 : decode cL_law 608 = .ok (.iload 4, 2) := by decide +kernel
theorem dL_law_610 : decode cL_law 610 = .ok (.iconst 1, 1) := by decide +kernel
theorem dL_law_611 : decode cL_law 611 = .ok (.iadd, 1) := by decide +kernel
theorem dL_law_612 : decode cL_law 612 = .ok (.iaload, 1) := by decide +kernel
theorem dL_law_613 : decode cL_law 613 = .ok (.invokevirtual 100, 3) := by decide +kernel
theorem dL_law_616 : decode cL_law 616 = .ok (.aload_n 2, 1) := by decide +kernel
theorem dL_law_617 : decode cL_law 617 = .ok (.aload_n 0, 1) := by decide +kernel
theorem dL_law_618 : decode cL_law 618 = .ok (.iload 4, 2) := by decide +kernel
theorem dL_law_620 : decode cL_law 620 = .ok (.iconst 1, 1) := by decide +kernel
theorem dL_law_621 : decode cL_law 621 = .ok (.iadd, 1) := by decide +kernel
theorem dL_law_622 : decode cL_law 622 = .ok (.iaload, 1) := by decide +kernel
theorem dL_law_623 : decode cL_law 623 = .ok (.invokevirtual 103, 3) := by decide +kernel
theorem dL_law_626 : decode cL_law 626 = .ok (.if_icmp .eq 43, 3) := by decide +kernel
theorem dL_law_629 : decode cL_law 629 = .ok (.iconst 0, 1) := by decide +kernel
theorem dL_law_630 : decode cL_law 630 = .ok (.ireturn, 1) := by decide +kernel
theorem dL_law_631 : decode cL_law 631 = .ok (.aload_n 1, 1) := by decide +kernel
theorem dL_law_632 : decode cL_law 632 = .ok (.aload_n 0, 1) := by decide +kernel
theorem dL_law_633 : decode cL_law 633 = .ok (.iload 4, 2) := by decide +kernel
theorem dL_law_635 : decode cL_law 635 = .ok (.iconst 1, 1) := by decide +kernel
theorem dL_law_636 : decode cL_law 636 = .ok (.iadd, 1) := by decide +kernel
theorem dL_law_637 : decode cL_law 637 = .ok (.iaload, 1) := by decide +kernel
theorem dL_law_638 : decode cL_law 638 = .ok (.invokevirtual 104, 3) := by decide +kernel
theorem dL_law_641 : decode cL_law 641 = .ok (.aload_n 2, 1) := by decide +kernel
theorem dL_law_642 : decode cL_law 642 = .ok (.aload_n 0, 1) := by decide +kernel
theorem dL_law_643 : decode cL_law 643 = .ok (.iload 4, 2) := by decide +kernel
theorem dL_law_645 : decode cL_law 645 = .ok (.iconst 1, 1) := by decide +kernel
theorem dL_law_646 : decode cL_law 646 = .ok (.iadd, 1) := by decide +kernel
theorem dL_law_647 : decode cL_law 647 = .ok (.iaload, 1) := by decide +kernel
theorem dL_law_648 : decode cL_law 648 = .ok (.invokevirtual 107, 3) := by decide +kernel
theorem dL_law_651 : decode cL_law 651 = .ok (.if_icmp .eq 18, 3) := by decide +kernel
theorem dL_law_654 : decode cL_law 654 = .ok (.iconst 0, 1) := by decide +kernel
theorem dL_law_655 : decode cL_law 655 = .ok (.ireturn, 1) := by decide +kernel
theorem dL_law_656 : decode cL_law 656 = .ok (.aload_n 1, 1) := by decide +kernel
theorem dL_law_657 : decode cL_law 657 = .ok (.invokevirtual 108, 3) := by decide +kernel
theorem dL_law_660 : decode cL_law 660 = .ok (.aload_n 2, 1) := by decide +kernel
theorem dL_law_661 : decode cL_law 661 = .ok (.invokevirtual 111, 3) := by decide +kernel
theorem dL_law_664 : decode cL_law 664 = .ok (.if_icmp .eq 5, 3) := by decide +kernel
theorem dL_law_667 : decode cL_law 667 = .ok (.iconst 0, 1) := by decide +kernel
theorem dL_law_668 : decode cL_law 668 = .ok (.ireturn, 1) := by decide +kernel
theorem dL_law_669 : decode cL_law 669 = .ok (.iinc 4 5, 3) := by decide +kernel
theorem dL_law_672 : decode cL_law 672 = .ok (.goto (-649), 3) := by decide +kernel
theorem dL_law_675 : decode cL_law 675 = .ok (.iconst 1, 1) := by decide +kernel
theorem dL_law_676 : decode cL_law 676 = .ok (.ireturn, 1) := by decide +kernel
theorem dJ9_max_7cf53_0 : decode cJ9_max_7cf53 0 = .ok (.iload_n 0, 1) := by decide +kernel
theorem dJ9_max_7cf53_1 : decode cJ9_max_7cf53 1 = .ok (.iload_n 1, 1) := by decide +kernel
theorem dJ9_max_7cf53_2 : decode cJ9_max_7cf53 2 = .ok (.if_icmp .lt 7, 3) := by decide +kernel
theorem dJ9_max_7cf53_5 : decode cJ9_max_7cf53 5 = .ok (.iload_n 0, 1) := by decide +kernel
theorem dJ9_max_7cf53_6 : decode cJ9_max_7cf53 6 = .ok (.goto 4, 3) := by decide +kernel
theorem dJ9_max_7cf53_9 : decode cJ9_max_7cf53 9 = .ok (.iload_n 1, 1) := by decide +kernel
theorem dJ9_max_7cf53_10 : decode cJ9_max_7cf53 10 = .ok (.ireturn, 1) := by decide +kernel
theorem dJ9_min_7cf53_0 : decode cJ9_min_7cf53 0 = .ok (.iload_n 0, 1) := by decide +kernel
theorem dJ9_min_7cf53_1 : decode cJ9_min_7cf53 1 = .ok (.iload_n 1, 1) := by decide +kernel
theorem dJ9_min_7cf53_2 : decode cJ9_min_7cf53 2 = .ok (.if_icmp .gt 7, 3) := by decide +kernel
theorem dJ9_min_7cf53_5 : decode cJ9_min_7cf53 5 = .ok (.iload_n 0, 1) := by decide +kernel
theorem dJ9_min_7cf53_6 : decode cJ9_min_7cf53 6 = .ok (.goto 4, 3) := by decide +kernel
theorem dJ9_min_7cf53_9 : decode cJ9_min_7cf53 9 = .ok (.iload_n 1, 1) := by decide +kernel
theorem dJ9_min_7cf53_10 : decode cJ9_min_7cf53 10 = .ok (.ireturn, 1) := by decide +kernel
theorem dJ2_getChar_3b067_0 : decode cJ2_getChar_3b067 0 = .ok (.getstatic 44, 3) := by decide +kernel
theorem dJ2_getChar_3b067_3 : decode cJ2_getChar_3b067 3 = .ok (.ifCond .ne 25, 3) := by decide +kernel
theorem dJ2_getChar_3b067_6 : decode cJ2_getChar_3b067 6 = .ok (.iload_n 1, 1) := by decide +kernel
theorem dJ2_getChar_3b067_7 : decode cJ2_getChar_3b067 7 = .ok (.ifCond .lt 11, 3) := by decide +kernel
theorem dJ2_getChar_3b067_10 : decode cJ2_getChar_3b067 10 = .ok (.iload_n 1, 1) := by decide +kernel
theorem dJ2_getChar_3b067_11 : decode cJ2_getChar_3b067 11 = .ok (.aload_n 0, 1) := by decide +kernel
theorem dJ2_getChar_3b067_12 : decode cJ2_getChar_3b067 12 = .ok (.invokestatic 48, 3) := by decide +kernel
theorem dJ2_getChar_3b067_15 : decode cJ2_getChar_3b067 15 = .ok (.if_icmp .lt 13, 3) := by decide +kernel
theorem dJ2_getChar_3b067_18 : decode cJ2_getChar_3b067 18 = .ok (.new 52, 3) := by decide +kernel
theorem dJ2_getChar_3b067_21 : decode cJ2_getChar_3b067 21 = .ok (.dup, 1) := by decide +kernel
theorem dJ2_getChar_3b067_22 : decode cJ2_getChar_3b067 22 = .ok (.ldc 54, 2) := by decide +kernel
theorem dJ2_getChar_3b067_24 : decode cJ2_getChar_3b067 24 = .ok (.invokespecial 56, 3) := by decide +kernel
theorem dJ2_getChar_3b067_27 : decode cJ2_getChar_3b067 27 = .ok (.athrow, 1) := by decide +kernel
theorem dJ2_getChar_3b067_28 : decode cJ2_getChar_3b067 28 = .ok (.iload_n 1, 1) := by decide +kernel
theorem dJ2_getChar_3b067_29 : decode cJ2_getChar_3b067 29 = .ok (.iconst 1, 1) := by decide +kernel
theorem dJ2_getChar_3b067_30 : decode cJ2_getChar_3b067 30 = .ok (.ishl, 1) := by decide +kernel
theorem dJ2_getChar_3b067_31 : decode cJ2_getChar_3b067 31 = .ok (.istore_n 1, 1) := by decide +kernel
theorem dJ2_getChar_3b067_32 : decode cJ2_getChar_3b067 32 = .ok (.aload_n 0, 1) := by decide +kernel
theorem dJ2_getChar_3b067_33 : decode cJ2_getChar_3b067 33 = .ok (.iload_n 1, 1) := by decide +kernel
theorem dJ2_getChar_3b067_34 : decode cJ2_getChar_3b067 34 = .ok (.iinc 1 1, 3) := by decide +kernel
theorem dJ2_getChar_3b067_37 : decode cJ2_getChar_3b067 37 = .ok (.baload, 1) := by decide +kernel
theorem dJ2_getChar_3b067_38 : decode cJ2_getChar_3b067 38 = .ok (.sipush 255, 3) := by decide +kernel
theorem dJ2_getChar_3b067_41 : decode cJ2_getChar_3b067 41 = .ok (.iand, 1) := by decide +kernel
theorem dJ2_getChar_3b067_42 : decode cJ2_getChar_3b067 42 = .ok (.getstatic 59, 3) := by decide +kernel
theorem dJ2_getChar_3b067_45 : decode cJ2_getChar_3b067 45 = .ok (.ishl, 1) := by decide +kernel
theorem dJ2_getChar_3b067_46 : decode cJ2_getChar_3b067 46 = .ok (.aload_n 0, 1) := by decide +kernel
theorem dJ2_getChar_3b067_47 : decode cJ2_getChar_3b067 47 = .ok (.iload_n 1, 1) := by decide +kernel
theorem dJ2_getChar_3b067_48 : decode cJ2_getChar_3b067 48 = .ok (.baload, 1) := by decide +kernel
theorem dJ2_getChar_3b067_49 : decode cJ2_getChar_3b067 49 = .ok (.sipush 255, 3) := by decide +kernel
theorem dJ2_getChar_3b067_52 : decode cJ2_getChar_3b067 52 = .ok (.iand, 1) := by decide +kernel
theorem dJ2_getChar_3b067_53 : decode cJ2_getChar_3b067 53 = .ok (.getstatic 63, 3) := by decide +kernel
theorem dJ2_getChar_3b067_56 : decode cJ2_getChar_3b067 56 = .ok (.ishl, 1) := by decide +kernel
theorem dJ2_getChar_3b067_57 : decode cJ2_getChar_3b067 57 = .ok (.ior, 1) := by decide +kernel
theorem dJ2_getChar_3b067_58 : decode cJ2_getChar_3b067 58 = .ok (.i2c, 1) := by decide +kernel
theorem dJ2_getChar_3b067_59 : decode cJ2_getChar_3b067 59 = .ok (.ireturn, 1) := by decide +kernel
theorem dJ2_length_9d52b_0 : decode cJ2_length_9d52b 0 = .ok (.aload_n 0, 1) := by decide +kernel
theorem dJ2_length_9d52b_1 : decode cJ2_length_9d52b 1 = .ok (.arraylength, 1) := by decide +kernel
theorem dJ2_length_9d52b_2 : decode cJ2_length_9d52b 2 = .ok (.iconst 1, 1) := by decide +kernel
theorem dJ2_length_9d52b_3 : decode cJ2_length_9d52b 3 = .ok (.ishr, 1) := by decide +kernel
theorem dJ2_length_9d52b_4 : decode cJ2_length_9d52b 4 = .ok (.ireturn, 1) := by decide +kernel
theorem dJ2_charAt_3b067_0 : decode cJ2_charAt_3b067 0 = .ok (.iload_n 1, 1) := by decide +kernel
theorem dJ2_charAt_3b067_1 : decode cJ2_charAt_3b067 1 = .ok (.aload_n 0, 1) := by decide +kernel
theorem dJ2_charAt_3b067_2 : decode cJ2_charAt_3b067 2 = .ok (.invokestatic 67, 3) := by decide +kernel
theorem dJ2_charAt_3b067_5 : decode cJ2_charAt_3b067 5 = .ok (.aload_n 0, 1) := by decide +kernel
theorem dJ2_charAt_3b067_6 : decode cJ2_charAt_3b067 6 = .ok (.iload_n 1, 1) := by decide +kernel
theorem dJ2_charAt_3b067_7 : decode cJ2_charAt_3b067 7 = .ok (.invokestatic 71, 3) := by decide +kernel
theorem dJ2_charAt_3b067_10 : decode cJ2_charAt_3b067 10 = .ok (.ireturn, 1) := by decide +kernel
theorem dJ2_checkIndex_2214a_0 : decode cJ2_checkIndex_2214a 0 = .ok (.iload_n 0, 1) := by decide +kernel
theorem dJ2_checkIndex_2214a_1 : decode cJ2_checkIndex_2214a 1 = .ok (.aload_n 1, 1) := by decide +kernel
theorem dJ2_checkIndex_2214a_2 : decode cJ2_checkIndex_2214a 2 = .ok (.invokestatic 48, 3) := by decide +kernel
theorem dJ2_checkIndex_2214a_5 : decode cJ2_checkIndex_2214a 5 = .ok (.invokestatic 414, 3) := by decide +kernel
theorem dJ2_checkIndex_2214a_8 : decode cJ2_checkIndex_2214a 8 = .ok (.return_, 1) := by decide +kernel
theorem dJ3_checkIndex_8e157_0 : decode cJ3_checkIndex_8e157 0 = .ok (.iload_n 0, 1) := by decide +kernel
theorem dJ3_checkIndex_8e157_1 : decode cJ3_checkIndex_8e157 1 = .ok (.ifCond .lt 8, 3) := by decide +kernel
theorem dJ3_checkIndex_8e157_4 : decode cJ3_checkIndex_8e157 4 = .ok (.iload_n 0, 1) := by decide +kernel
theorem dJ3_checkIndex_8e157_5 : decode cJ3_checkIndex_8e157 5 = .ok (.iload_n 1, 1) := by decide +kernel
theorem dJ3_checkIndex_8e157_6 : decode cJ3_checkIndex_8e157 6 = .ok (.if_icmp .lt 10, 3) := by decide +kernel
theorem dJ3_checkIndex_8e157_9 : decode cJ3_checkIndex_8e157 9 = .ok (.aload_n 2, 1) := by decide +kernel
theorem dJ3_checkIndex_8e157_10 : decode cJ3_checkIndex_8e157 10 = .ok (.iload_n 0, 1) := by decide +kernel
theorem dJ3_checkIndex_8e157_11 : decode cJ3_checkIndex_8e157 11 = .ok (.iload_n 1, 1) := by decide +kernel
theorem dJ3_checkIndex_8e157_12 : decode cJ3_checkIndex_8e157 12 = .ok (.invokestatic 95, 3) := by decide +kernel
theorem dJ3_checkIndex_8e157_15 : decode cJ3_checkIndex_8e157 15 = .ok (.athrow, 1) := by decide +kernel
theorem dJ3_checkIndex_8e157_16 : decode cJ3_checkIndex_8e157 16 = .ok (.iload_n 0, 1) := by decide +kernel
theorem dJ3_checkIndex_8e157_17 : decode cJ3_checkIndex_8e157 17 = .ok (.ireturn, 1) := by decide +kernel
end
section
def gNest : List (String × Nat × MethodName × String) := [(RX5, 15, yX3_init, "PushBoards"), (RX5, 22, yX0_init, "PushBoards"), (RX5, 29, yX1_init, "PushBoards"), (RX5, 36, yX2_init, "PushBoards"), (RX5, 43, yX4_init, "PushBoards"), (RX3, 37, yX5_cellAt, "PushBoards"), (RX0, 86, yX5_cellAt, "PushBoards"), (RX0, 72, yX5_against, "PushBoards"), (RX0, 58, yX5_shifted, "PushBoards"), (RX0, 68, yX5_spotOf, "PushBoards"), (RX4, 61, yX5_spotOf, "PushBoards"), (RX4, 86, yX5_has, "PushBoards"), (RX4, 90, yX5_shifted, "PushBoards"), (RX4, 94, yX5_against, "PushBoards")]
def gStr : List (String × Nat × String) := [(RX1, 36, "rdluRDLU"), (RX5, 100, "there is no board"), (RX5, 107, "there is no such way"), (RX5, 229, "there is no such cell")]
def gDecl : List MethodName := [⟨"java/lang/RuntimeException", "<init>", "()V"⟩, ⟨"java/lang/RuntimeException", "<init>", "(Ljava/lang/String;)V"⟩, ⟨"java/lang/Exception", "<init>", "()V"⟩, ⟨"java/lang/Exception", "<init>", "(Ljava/lang/String;)V"⟩, ⟨"java/lang/Throwable", "<init>", "()V"⟩, ⟨"java/lang/Throwable", "<init>", "(Ljava/lang/String;)V"⟩, ⟨"java/lang/IndexOutOfBoundsException", "<init>", "()V"⟩, ⟨"java/lang/IndexOutOfBoundsException", "<init>", "(Ljava/lang/String;)V"⟩]
def gCast : List (String × String) := [("[J", "java/lang/Cloneable"), ("[I", "java/lang/Cloneable"), ("java/lang/IllegalStateException", "java/lang/IllegalStateException"), ("java/lang/ArrayIndexOutOfBoundsException", "java/lang/ArrayIndexOutOfBoundsException")]
def gLet : List Int32 := [114, 100, 108, 117, 82, 68, 76, 85]
/-! the world of this claim: classes, words, the judgement's constants in one bundle -/
abbrev gCl : List vw_C := [(RX0, TX0, 10), (RX1, TX1, 5), (RX2, TX2, 7), (RX3, TX3, 8), (RX4, TX4, 9), (RX5, TX5, 7), (RX6, TX6, 30)]
def wAll : List Cond := lw_tbl.filter goodWord
theorem wAll_good {w : Cond} (h : w ∈ wAll) : (w.onTables && w.keeps) = true ∨ ∃ ty, w = .arrayClass ty := good_of_word (List.mem_filter.mp h).2
theorem inT {w : Cond} (i : Nat) (h : tables_1[i]? = some w) (hg : goodWord w = true) : w ∈ wAll := List.mem_filter.mpr ⟨List.mem_append_right _ (List.mem_of_getElem? h), hg⟩
theorem inL {w : Cond} (h : w ∈ k2_sels lw_privs) (hg : goodWord w = true) : w ∈ wAll := List.mem_filter.mpr ⟨List.mem_append_left _ h, hg⟩
theorem inC1 {w : Cond} (i : Nat) (hi : tables_1_1[i]? = some w) (hg : goodWord w = true) : w ∈ wAll := by
  have h : w ∈ tables_1_1 := List.mem_of_getElem? hi
  exact List.mem_filter.mpr ⟨List.mem_append_right _ (List.mem_append_left _ h), hg⟩
theorem inC2 {w : Cond} (i : Nat) (hi : tables_1_2[i]? = some w) (hg : goodWord w = true) : w ∈ wAll := by
  have h : w ∈ tables_1_2 := List.mem_of_getElem? hi
  exact List.mem_filter.mpr ⟨List.mem_append_right _ (List.mem_append_right _ (List.mem_append_left _ h)), hg⟩
theorem inC3 {w : Cond} (i : Nat) (hi : tables_1_3[i]? = some w) (hg : goodWord w = true) : w ∈ wAll := by
  have h : w ∈ tables_1_3 := List.mem_of_getElem? hi
  exact List.mem_filter.mpr ⟨List.mem_append_right _ (List.mem_append_right _ (List.mem_append_right _ (List.mem_append_left _ h))), hg⟩
theorem inC4 {w : Cond} (i : Nat) (hi : tables_1_4[i]? = some w) (hg : goodWord w = true) : w ∈ wAll := by
  have h : w ∈ tables_1_4 := List.mem_of_getElem? hi
  exact List.mem_filter.mpr ⟨List.mem_append_right _ (List.mem_append_right _ (List.mem_append_right _ (List.mem_append_right _ (List.mem_append_left _ h)))), hg⟩
theorem inC5 {w : Cond} (i : Nat) (hi : tables_1_5[i]? = some w) (hg : goodWord w = true) : w ∈ wAll := by
  have h : w ∈ tables_1_5 := List.mem_of_getElem? hi
  exact List.mem_filter.mpr ⟨List.mem_append_right _ (List.mem_append_right _ (List.mem_append_right _ (List.mem_append_right _ (List.mem_append_right _ h)))), hg⟩
/-- D, the three array classes, the first free address, where the texts lie -/
abbrev gEnv : Type := va_G × (ClassId × ClassId × ClassId) × Nat × (Nat → Nat) × (Nat → Nat)
abbrev gTy (G : gEnv) : List (ClassId × FieldType) := [(G.2.1.1, .int), (G.2.1.2.1, .long), (G.2.1.2.2, .boolean)]
def gNew (G : gEnv) : Nat → Prop := fun q => G.2.2.1 ≤ q
def gN (U : State) : Prop := ∀ q ∈ gNest, va_Nw (.methodLinkNest q.1 q.2.1 q.2.2.1 q.2.2.2) U
def gDW : List Cond := gDecl.map Cond.declares ++ gCast.map (fun q => Cond.castable q.1 q.2)
/-- words that keep only by their own laws; what isn't castable -/
def gX0 (U : State) : Prop := (∀ y ∈ gDecl, va_Nw (.declares y) U) ∧ (∀ q ∈ gCast, va_Nw (.castable q.1 q.2) U) ∧ va_Nc "java/lang/IllegalStateException" "java/lang/ArrayIndexOutOfBoundsException" U
theorem gX0.warm {s U : State} (hW : s.WarmedH U.vm) (h : gX0 s) : gX0 U :=
  ⟨fun y hy => va_Nw.warmD hW (h.1 y hy), fun q hq => va_tabs rfl (rfl : (s.setVm U.vm).vm = U.vm) (by rw [Cond.castable_setVm hW.alike]; exact h.2.1 q hq), va_Nc.moved hW.alike h.2.2⟩
theorem gX0.same {U V : State} (hv : V.vm = U.vm) (h : gX0 U) : gX0 V :=
  ⟨fun y hy => va_Nw.same rfl hv.symm (h.1 y hy), fun q hq => va_Nw.same rfl hv.symm (h.2.1 q hq), va_Nc.moved (by rw [hv]; exact Vm.Alike.refl _) h.2.2⟩
theorem gX0.dw {U : State} (h : gX0 U) {A : Array Value} : ∀ w ∈ gDW, w.before A U = true := by
  intro w hw
  rcases List.mem_append.mp hw with h1 | h1
  · obtain ⟨y, hy, rfl⟩ := List.mem_map.mp h1
    exact va_Nw.use rfl (h.1 y hy)
  · obtain ⟨q, hq, rfl⟩ := List.mem_map.mp h1
    exact va_Nw.use rfl (h.2.1 q hq)
def gS (G : gEnv) (U : State) : Prop := ∀ (k : Nat) (q : String × Nat × String), gStr[k]? = some q → vk_R q.1 q.2.1 q.2.2 (G.2.2.2.1 k) U
/-- what lies in the old heap -/
def gO (G : gEnv) (U : State) (H : Heap) : Prop := G.2.2.1 ≤ H.size ∧ va_Z "java/lang/String" "COMPACT_STRINGS" "Z" (.int 1) (gNew G) U H ∧ vk_S 1 [8] [gLet] G.2.2.2.1 G.2.2.2.2 (gNew G) U H ∧ vx_Zq Bundle.tN "UNASSIGNED_STACK" Bundle.steD (gNew G) U H ∧ vx_Zq Bundle.tN "SUPPRESSED_SENTINEL" Bundle.listD (gNew G) U H ∧ va_Zq "jdk/internal/util/Preconditions" "SIOOBE_FORMATTER" "Ljava/util/function/BiFunction;" (gNew G) U H
def gK (G : gEnv) (U : State) : Prop := va_K G.1 gCl (gTy G) U ∧ gN U ∧ gS G U ∧ gO G U U.heap ∧ gX0 U
theorem gO.kept {G : gEnv} {U : State} {H H1 : Heap} (h : gO G U H) (hz : H.size ≤ H1.size) (hq : ∀ a : Nat, a < H.size → ¬ gNew G a → H1[a]? = H[a]?) : gO G U H1 :=
  ⟨Nat.le_trans h.1 hz, va_Z.kept h.2.1 hq, vk_S.kept h.2.2.1 hq, vx_Zq.kept h.2.2.2.1 hq, vx_Zq.kept h.2.2.2.2.1 hq, va_Zq.kept h.2.2.2.2.2 hq⟩
theorem gO.moved {G : gEnv} {u U : State} {H : Heap} (hvm : u.vm.Alike U.vm) (h : gO G u H) : gO G U H :=
  ⟨h.1, va_Z.moved hvm h.2.1, vk_S.moved hvm h.2.2.1, vx_Zq.moved hvm h.2.2.2.1, vx_Zq.moved hvm h.2.2.2.2.1, va_Zq.moved hvm h.2.2.2.2.2⟩
theorem gK.warm {G : gEnv} {s U : State} (hW : s.WarmedH U.vm) (h : gK G s) (hz : s.heap.size ≤ U.heap.size) (hq : ∀ a : Nat, a < s.heap.size → ¬ gNew G a → U.heap[a]? = s.heap[a]?) : gK G U :=
  ⟨va_K.moved hW.alike h.1, fun q hq => va_Nw.warmM hW (h.2.1 q hq), fun k q hk => vk_R.warm hW (h.2.2.1 k q hk), (gO.moved hW.alike h.2.2.2.1).kept hz hq, h.2.2.2.2.warm hW⟩
theorem gK.same {G : gEnv} {U V : State} (hv : V.vm = U.vm) (hh : V.heap = U.heap) (h : gK G U) : gK G V :=
  ⟨va_K.moved (by rw [hv]; exact Vm.Alike.refl _) h.1, fun q hq => va_Nw.same rfl hv.symm (h.2.1 q hq), fun k q hk => vk_R.same hv (h.2.2.1 k q hk), by rw [hh]; exact gO.moved (by rw [hv]; exact Vm.Alike.refl _) h.2.2.2.1, h.2.2.2.2.same hv⟩
/-- a method's start -/
def gPc (G : gEnv) (av : List Value) (ws : va_W) (sz : Nat) : Array Value → State → Prop := va_Pc av (fun U => U.heap.size = sz ∧ va_P G.1 gCl ws U.heap ∧ gK G U ∧ va_D (gNew G) ws)
theorem gPc.blind {G : gEnv} {av : List Value} {ws : va_W} {sz : Nat} : FrameBlind (gPc G av ws sz) := fun a U g mk h => by
  obtain ⟨q0, q1, qP, qK, qD⟩ := h
  exact ⟨q0, q1, qP, gK.same (U := U) (V := U.calling g mk a) rfl rfl qK, qD⟩
def gQi {S : Type} (G : gEnv) (post : Int32 → S → Prop) (w1 : S → va_W) (A : Nat → Prop) : Array Value → State → Outcome → State → Prop := va_Qi post (fun u t => va_P G.1 gCl (w1 u) t.heap ∧ va_D A (w1 u)) A
def gQl {S : Type} (G : gEnv) (post : Int64 → S → Prop) (w1 : S → va_W) (A : Nat → Prop) : Array Value → State → Outcome → State → Prop := va_Ql post (fun u t => va_P G.1 gCl (w1 u) t.heap ∧ va_D A (w1 u)) A
def gQv {S : Type} (G : gEnv) (post : S → Prop) (w1 : S → va_W) (A : Nat → Prop) : Array Value → State → Outcome → State → Prop := va_Qv post (fun u t => va_P G.1 gCl (w1 u) t.heap ∧ va_D A (w1 u)) A
/-- what stays while a method's body is walked -/
def gX (p : Program) (m : MethodId) (meth : Method) (c : Code) (cc : ByteArray) (nL : Nat) (own : String) (ret : Option FieldType) (s : State) (args : Array Value) (G : gEnv) (A : Nat → Prop) : Prop :=
  p.tables.exec = Jvm.exec ∧ c.code = cc ∧ c.maxLocals = nL ∧ s.vm.findClass own = some m.cls ∧ (∀ w ∈ wAll, w.before args s = true) ∧ meth.sig.returnType = ret ∧ gK G s ∧ (∀ q, s.heap.size ≤ q → A q) ∧ (∀ q, A q → gNew G q) ∧ meth.locks = false
theorem gX.ofB {p : Program} {l : Launch} {y : MethodName} {cc : ByteArray} {nL : Nat} {ret : Option FieldType} {rm : Room} {e : Env} {s : State} {m : MethodId} {args : Array Value} {below : List Frame} {meth : Method} {c : Code} {s₁ : State} {G : gEnv} {ws : va_W}
    (B : BodyLoose p l y (headSpec (Cond.code y cc nL ret :: wAll) rm) cc nL ret e s m args below meth c s₁) (hml : c.maxLocals = nL) (hK : gK G s) (hD : va_D (gNew G) ws) : gX p m meth c cc nL y.cls ret s args G (va_A ws s.heap.size) := by
  refine ⟨B.exec, B.bytes, hml, findClass_of_methodNamed B.named, fun w hw => atoms_spec (ws := Cond.code y cc nL ret :: wAll) B.pre w (List.mem_cons_of_mem _ hw), B.returns, hK, fun q h => Or.inr h, fun q h => ?_, B.notSynchronized⟩
  rcases h with ⟨k, e, h⟩ | h
  · exact hD.2 k (q, e) h
  · exact Nat.le_trans hK.2.2.2.1.1 h
theorem mapFM {α β : Type} {f : α → Option β} : ∀ {l : List α} {w : List β}, l.map f = w.map some → l.filterMap f = w := by
  intro l
  induction l with
  | nil => intro w h; cases w with
    | nil => rfl
    | cons => cases h
  | cons a l ih => intro w h; cases w with
    | nil => cases h
    | cons b w =>
      have h1 : f a = some b := (List.cons.inj h).1
      rw [List.filterMap_cons, h1]
      exact congrArg _ (ih (List.cons.inj h).2)
section GW
variable {p : Program} {l : Launch} {e : Env} {R : Room} {s : State} {m : MethodId} {args : Array Value} {below : List Frame} {meth : Method} {c : Code} {H : Heap} {locs : List Loc} {cells slots : Nat} {Q : State → Prop}
variable {cc : ByteArray} {nL : Nat} {own : String} {ret : Option FieldType} {G : gEnv} {A : Nat → Prop} {pc : Nat} {ls : Array Slot} {rest : List Value} {ws : va_W} {a : Nat}
theorem gX.fix (X : gX p m meth c cc nL own ret s args G A) : CallFix p m c cc nL s args wAll own := ⟨X.1, X.2.1, X.2.2.1, X.2.2.2.1, X.2.2.2.2.1⟩
theorem gX.k (X : gX p m meth c cc nL own ret s args G A) : gK G s := X.2.2.2.2.2.2.1
theorem gX.hA (X : gX p m meth c cc nL own ret s args G A) : ∀ q, s.heap.size ≤ q → A q := X.2.2.2.2.2.2.2.1
theorem gX.new (X : gX p m meth c cc nL own ret s args G A) : ∀ q, A q → gNew G q := X.2.2.2.2.2.2.2.2.1
theorem gX.rty (X : gX p m meth c cc nL own ret s args G A) : meth.sig.returnType = ret := X.2.2.2.2.2.1
theorem gX.lk (X : gX p m meth c cc nL own ret s args G A) : meth.locks = false := X.2.2.2.2.2.2.2.2.2
/-- the constants at a callee's start -/
theorem gX.at (X : gX p m meth c cc nL own ret s args G A) (hS : va_S A s.heap H locs) {U : State} (hU : U.heap = H) (hW : s.WarmedH U.vm) : gK G U :=
  gK.warm hW X.k (by rw [hU]; exact hS.1) (fun q h1 h2 => by rw [hU]; exact hS.2.1 q h1 (fun h => h2 (X.new q h)))
theorem g_get (X : gX p m meth c cc nL own ret s args G A) (hP : va_P G.1 gCl ws H) (q0 ci k : Nat) {C : String} {T : u_T} {N index : Nat} {fs : List Value} {v : Value} (he : ws[q0]? = some (a, .inr (ci, fs))) (hc : gCl[ci]? = some (C, T, N)) (hin : ∀ w ∈ u_ws C T N, w ∈ wAll) (hk : k < N) (hl : Cond.fieldLink own index (T k).1 (T k).2.1 (T k).2.2.1 ∈ wAll) (hv : fs[k]? = some v) (hdg : decode cc pc = .ok (.getfield index, 3))
    (kk : W p l e R s m args below meth c H locs cells slots Q (F0 m (pc + 3) ls (v :: rest))) : W p l e R s m args below meth c H locs cells slots Q (F0 m pc ls (.ref a :: rest)) :=
  va_get (D := G.1) X.1 X.2.1 X.2.2.2.2.1 hin X.2.2.2.1 X.k.1 hP q0 he hc k hk (X.2.2.2.2.1 _ hl) (fun _ h9 => h9) hv hdg kk
theorem g_put (X : gX p m meth c cc nL own ret s args G A) (hP : va_P G.1 gCl ws H) (hD : va_D A ws) (hS : va_S A s.heap H locs) (q0 ci k : Nat) {C : String} {T : u_T} {N index : Nat} {fs : List Value} {v : Value} {ty : FieldType} (he : ws[q0]? = some (a, .inr (ci, fs))) (hc : gCl[ci]? = some (C, T, N)) (hin : ∀ w ∈ u_ws C T N, w ∈ wAll) (ty0 : Nat → FieldType) (hty : ∀ k, k < N → parseFieldDescriptor (T k).2.2.1 = some (ty0 k)) (hnm : ∀ a, a < N → ∀ b, b < N → a ≠ b → (T a).2.1 ≠ (T b).2.1) (hk : k < N) (hl : Cond.fieldLink own index (T k).1 (T k).2.1 (T k).2.2.1 ∈ wAll) (hfin : (T k).2.2.2 = false) (hd : ty0 k = ty) (hn : narrow ty v = v) (hfit : fits ty v = true) (hlen : k < fs.length) (hdg : decode cc pc = .ok (.putfield index, 3))
    (kk : ∀ (H1 : Heap) (locs1 : List Loc), va_P G.1 gCl (ws.set q0 (a, .inr (ci, fs.set k v))) H1 → va_D A (ws.set q0 (a, .inr (ci, fs.set k v))) → va_S A s.heap H1 locs1 → W p l e R s m args below meth c H1 locs1 cells slots Q (F0 m (pc + 3) ls rest)) : W p l e R s m args below meth c H locs cells slots Q (F0 m pc ls (v :: .ref a :: rest)) :=
  va_put (D := G.1) X.1 X.2.1 X.2.2.2.2.1 hin ty0 hty hnm X.2.2.2.1 X.k.1 hP hD hS q0 he hc k hk (X.2.2.2.2.1 _ hl) (fun _ h9 => h9) hfin (by rw [hty k hk, hd]) hn hfit hlen hdg kk
theorem g_lcmp_eq (X : gX p m meth c cc nL own ret s args G A) {x y : Int64} {off : Int} {tgt : Nat} (hd1 : decode cc pc = .ok (.lcmp, 1)) (hdg : decode cc (pc + 1) = .ok (.ifCond .eq off, 3)) (ht : ((pc + 1 : Nat) : Int) + off = (tgt : Int))
    (kt : x = y → W p l e R s m args below meth c H locs cells slots Q (F0 m tgt ls rest)) (kf : ¬ x = y → W p l e R s m args below meth c H locs cells slots Q (F0 m (pc + 1 + 3) ls rest)) : W p l e R s m args below meth c H locs cells slots Q (F0 m pc ls (.long y :: .long x :: rest)) :=
  W.lcmp X.1 X.2.1 hd1 (lv_if_eq X.1 X.2.1 hdg ht (fun h => kt ((lg_cmp_eq x y).mp h)) (fun h => kf (fun q => h ((lg_cmp_eq x y).mpr q))))
theorem g_lcmp_ne (X : gX p m meth c cc nL own ret s args G A) {x y : Int64} {off : Int} {tgt : Nat} (hd1 : decode cc pc = .ok (.lcmp, 1)) (hdg : decode cc (pc + 1) = .ok (.ifCond .ne off, 3)) (ht : ((pc + 1 : Nat) : Int) + off = (tgt : Int))
    (kt : ¬ x = y → W p l e R s m args below meth c H locs cells slots Q (F0 m tgt ls rest)) (kf : x = y → W p l e R s m args below meth c H locs cells slots Q (F0 m (pc + 1 + 3) ls rest)) : W p l e R s m args below meth c H locs cells slots Q (F0 m pc ls (.long y :: .long x :: rest)) :=
  W.lcmp X.1 X.2.1 hd1 (lv_if_ne X.1 X.2.1 hdg ht (fun h => kt (fun q => h ((lg_cmp_eq x y).mpr q))) (fun h => kf ((lg_cmp_eq x y).mp h)))
theorem g_iret {S : Type} {post : Int32 → S → Prop} {w1 : S → va_W} {v : Int32} (X : gX p m meth c cc nL own (some .int) s args G A) (u : S) (hp : post v u) (hP : va_P G.1 gCl (w1 u) H) (hD : va_D A (w1 u)) (hS : va_S A s.heap H locs) (hdg : decode cc pc = .ok (.ireturn, 1)) : W p l e R s m args below meth c H locs cells slots (MQ below (gQi G post w1 A) args s cells slots A) (F0 m pc ls [.int v]) :=
  W.iret (v := v) X.1 X.2.1 X.rty (fun t ht hW => ⟨⟨v, u, rfl, hp, by rw [ht]; exact hP, hD⟩, hS.F ht⟩) hS.2.2 hdg X.lk
theorem g_zret {S : Type} {post : Int32 → S → Prop} {w1 : S → va_W} {v : Int32} (X : gX p m meth c cc nL own (some .boolean) s args G A) (hv : v = 0 ∨ v = 1) (u : S) (hp : post v u) (hP : va_P G.1 gCl (w1 u) H) (hD : va_D A (w1 u)) (hS : va_S A s.heap H locs) (hdg : decode cc pc = .ok (.ireturn, 1)) : W p l e R s m args below meth c H locs cells slots (MQ below (gQi G post w1 A) args s cells slots A) (F0 m pc ls [.int v]) :=
  W.zret (v := v) X.1 X.2.1 X.rty (by rcases hv with rfl | rfl <;> rfl) (fun t ht hW => ⟨⟨v, u, rfl, hp, by rw [ht]; exact hP, hD⟩, hS.F ht⟩) hS.2.2 hdg X.lk
theorem g_nret {S : Type} {post : Int32 → S → Prop} {w1 : S → va_W} {v : Int32} {ty : FieldType} (X : gX p m meth c cc nL own (some ty) s args G A) (hn : narrow ty (.int v) = .int v) (u : S) (hp : post v u) (hP : va_P G.1 gCl (w1 u) H) (hD : va_D A (w1 u)) (hS : va_S A s.heap H locs) (hdg : decode cc pc = .ok (.ireturn, 1)) : W p l e R s m args below meth c H locs cells slots (MQ below (gQi G post w1 A) args s cells slots A) (F0 m pc ls [.int v]) :=
  W.zret (v := v) X.1 X.2.1 X.rty hn (fun t ht hW => ⟨⟨v, u, rfl, hp, by rw [ht]; exact hP, hD⟩, hS.F ht⟩) hS.2.2 hdg X.lk
theorem g_lret {S : Type} {post : Int64 → S → Prop} {w1 : S → va_W} {v : Int64} (X : gX p m meth c cc nL own (some .long) s args G A) (u : S) (hp : post v u) (hP : va_P G.1 gCl (w1 u) H) (hD : va_D A (w1 u)) (hS : va_S A s.heap H locs) (hdg : decode cc pc = .ok (.lreturn, 1)) : W p l e R s m args below meth c H locs cells slots (MQ below (gQl G post w1 A) args s cells slots A) (F0 m pc ls [.long v]) :=
  W.lret (v := v) X.1 X.2.1 X.rty (fun t ht hW => ⟨⟨v, u, rfl, hp, by rw [ht]; exact hP, hD⟩, hS.F ht⟩) hS.2.2 hdg X.lk
theorem g_vret {S : Type} {post : S → Prop} {w1 : S → va_W} (X : gX p m meth c cc nL own none s args G A) (u : S) (hp : post u) (hP : va_P G.1 gCl (w1 u) H) (hD : va_D A (w1 u)) (hS : va_S A s.heap H locs) (hdg : decode cc pc = .ok (.return_, 1)) : W p l e R s m args below meth c H locs cells slots (MQ below (gQv G post w1 A) args s cells slots A) (F0 m pc ls []) :=
  W.vret X.1 X.2.1 X.rty (fun t ht hW => ⟨⟨u, rfl, hp, by rw [ht]; exact hP, hD⟩, hS.F ht⟩) hS.2.2 hdg X.lk
/-- what a call by a name of a method needs of the tables -/
def gLV (own : String) (index : Nat) (C : String) (y : MethodName) (bytes : ByteArray) (maxL : Nat) (ret : Option FieldType) (n : Nat) : Prop :=
  (Cond.methodLink own index y ∈ wAll ∧ Cond.instanceMethod y ∈ wAll ∧ Cond.selects C y y ∈ wAll) ∧ Cond.initialized y.cls ∈ wAll ∧ Cond.code y bytes maxL ret ∈ wAll ∧ y.cls ≠ "java/lang/invoke/MethodHandle" ∧ y.cls ≠ "java/lang/invoke/VarHandle" ∧ (parseMethodDescriptor y.desc).map (fun d => d.parameters.length) = some n
def gLS (own : String) (index : Nat) (y : MethodName) (bytes : ByteArray) (maxL : Nat) (ret : Option FieldType) (n : Nat) : Prop :=
  (Cond.methodLink own index y ∈ wAll ∧ Cond.static y ∈ wAll) ∧ Cond.initialized y.cls ∈ wAll ∧ Cond.code y bytes maxL ret ∈ wAll ∧ y.cls ≠ "java/lang/invoke/MethodHandle" ∧ y.cls ≠ "java/lang/invoke/VarHandle" ∧ (parseMethodDescriptor y.desc).map (fun d => d.parameters.length) = some n
def gLN (own : String) (index : Nat) (y : MethodName) (host : String) (bytes : ByteArray) (maxL : Nat) (ret : Option FieldType) (n : Nat) : Prop :=
  ((own, index, y, host) ∈ gNest ∧ Cond.static y ∈ wAll) ∧ Cond.initialized y.cls ∈ wAll ∧ Cond.code y bytes maxL ret ∈ wAll ∧ y.cls ≠ "java/lang/invoke/MethodHandle" ∧ y.cls ≠ "java/lang/invoke/VarHandle" ∧ (parseMethodDescriptor y.desc).map (fun d => d.parameters.length) = some n
def gLI (own : String) (index : Nat) (y : MethodName) (host : String) (bytes : ByteArray) (maxL : Nat) (ret : Option FieldType) (n : Nat) : Prop :=
  ((own, index, y, host) ∈ gNest ∧ Cond.instanceMethod y ∈ wAll) ∧ Cond.initialized y.cls ∈ wAll ∧ Cond.code y bytes maxL ret ∈ wAll ∧ y.cls ≠ "java/lang/invoke/MethodHandle" ∧ y.cls ≠ "java/lang/invoke/VarHandle" ∧ (parseMethodDescriptor y.desc).map (fun d => d.parameters.length) = some n
theorem g_pay (X : gX p m meth c cc nL own ret s args G A) {y : MethodName} {bytes : ByteArray} {maxL : Nat} {r : Option FieldType} (hc : Cond.code y bytes maxL r ∈ wAll) : ∀ w ∈ (Cond.code y bytes maxL r :: wAll), ∀ (a' : Array Value) (U : State), s.WarmedH U.vm → w.before a' U = true :=
  fun w hw a' U hW => by
    have h1 : w ∈ wAll := by
      rcases List.mem_cons.mp hw with h | h
      · rw [h]; exact hc
      · exact h
    exact word_at hW (wAll_good h1) (X.2.2.2.2.1 w h1)
theorem g_sig {y : MethodName} {n : Nat} (h2 : (parseMethodDescriptor y.desc).map (fun d => d.parameters.length) = some n) : ∀ sig, parseMethodDescriptor y.desc = some sig → n = sig.parameters.length := fun sig h => by
  rw [h] at h2
  exact (Option.some.inj h2).symm
variable {y : MethodName} {bytes : ByteArray} {maxL mc ms n index : Nat} {rt : Option FieldType} {rm : Room} {Qc : Array Value → State → Outcome → State → Prop} {free : Addr → Prop} {C host : String} {b : Addr} {As : List Value} {wc wr : va_W} {st0 : List Value}
theorem g_pre (X : gX p m meth c cc nL own ret s args G A) (hP : va_P G.1 gCl ws H) (hD : va_D A ws) (hS : va_S A s.heap H locs) (isC : List Nat) (hC : isC.map (fun i => ws[i]?) = wc.map some) (hn : va_nd isC = true) {av : List Value} : ∀ U : State, U.heap = H → s.WarmedH U.vm → gPc G av wc H.size av.toArray U :=
  fun U hU hW => ⟨rfl, by rw [hU], by rw [hU]; exact hP.sub isC (mapFM hC), X.at hS hU hW, (hD.sub isC hn hC).weaken (fun _ q _ h => X.new q.1 h)⟩
theorem g_rV (X : gX p m meth c cc nL own ret s args G A) (hM : Met l y (Cond.code y bytes maxL rt :: wAll) rm (gPc G (.ref b :: As) wc H.size) Qc mc ms free) (k : gLV own index C y bytes maxL rt n) (hrc : rm.cells = mc) (hrs : rm.slots = ms) (hR : rm.frames + 1 ≤ R.frames ∧ 8 + (maxL + 11) + rm.locals ≤ R.locals)
    (hP : va_P G.1 gCl ws H) (hD : va_D A ws) (hS : va_S A s.heap H locs) (isC : List Nat) (hC : isC.map (fun i => ws[i]?) = wc.map some) (hnd : va_nd isC = true) (q0 ci : Nat) {T : u_T} {N : Nat} {fs : List Value} (hci : gCl[ci]? = some (C, T, N)) (he : ws[q0]? = some (b, .inr (ci, fs)))
    (hn : As.length = n) (hsize : ls.size = nL) (hstack : st0 = As.reverse ++ .ref b :: rest) (hW : (rest.map fun v => v.category).sum ≤ 8) (hdg : decode cc pc = .ok (.invokevirtual index, 3)) (hf : cells + mc ≤ R.cells ∧ slots + ms ≤ R.slots) :
    va_Run p l e R s m args below meth c H locs cells slots mc ms (F0 m pc ls st0) rest (Qc (Value.ref b :: As).toArray) free := by
  have hts := X.2.2.2.2.1
  exact va_runV X.fix hM ⟨⟨hrc, hrs, hR.1, hR.2, g_pay X k.2.2.1, List.mem_cons_self, hts _ k.2.2.1, hts _ k.2.1, ⟨k.2.2.2.1, k.2.2.2.2.1⟩, g_sig k.2.2.2.2.2, hts _ k.1.1⟩, hts _ k.1.2.1, hts _ k.1.2.2⟩ ⟨gPc.blind, va_recv X.k.1 hP hci he, g_pre X hP hD hS isC hC hnd⟩ rfl hn hsize hstack (lv_room hW) hdg hf
theorem g_rVr (X : gX p m meth c cc nL own ret s args G A) (hM : Met l y (Cond.code y bytes maxL rt :: wAll) rm (gPc G (.ref b :: As) wc H.size) Qc mc ms free) (k : gLV own index C y bytes maxL rt n) (hrc : rm.cells = mc) (hrs : rm.slots = ms) (hR : rm.frames + 1 ≤ R.frames ∧ 8 + (maxL + 11) + rm.locals ≤ R.locals)
    (hP : va_P G.1 gCl ws H) (hD : va_D A ws) (hS : va_S A s.heap H locs) (isC : List Nat) (hC : isC.map (fun i => ws[i]?) = wc.map some) (hnd : va_nd isC = true) (hrec : ∃ cell : Cell, H[b]? = some cell ∧ cell.vm.isStatics = false ∧ s.vm.findClass C = some cell.cls)
    (hn : As.length = n) (hsize : ls.size = nL) (hstack : st0 = As.reverse ++ .ref b :: rest) (hW : (rest.map fun v => v.category).sum ≤ 8) (hdg : decode cc pc = .ok (.invokevirtual index, 3)) (hf : cells + mc ≤ R.cells ∧ slots + ms ≤ R.slots) :
    va_Run p l e R s m args below meth c H locs cells slots mc ms (F0 m pc ls st0) rest (Qc (Value.ref b :: As).toArray) free := by
  have hts := X.2.2.2.2.1
  exact va_runV X.fix hM ⟨⟨hrc, hrs, hR.1, hR.2, g_pay X k.2.2.1, List.mem_cons_self, hts _ k.2.2.1, hts _ k.2.1, ⟨k.2.2.2.1, k.2.2.2.2.1⟩, g_sig k.2.2.2.2.2, hts _ k.1.1⟩, hts _ k.1.2.1, hts _ k.1.2.2⟩ ⟨gPc.blind, hrec, g_pre X hP hD hS isC hC hnd⟩ rfl hn hsize hstack (lv_room hW) hdg hf
theorem g_rS (X : gX p m meth c cc nL own ret s args G A) (hM : Met l y (Cond.code y bytes maxL rt :: wAll) rm (gPc G As wc H.size) Qc mc ms free) (k : gLS own index y bytes maxL rt n) (hrc : rm.cells = mc) (hrs : rm.slots = ms) (hR : rm.frames + 1 ≤ R.frames ∧ 8 + (maxL + 11) + rm.locals ≤ R.locals)
    (hP : va_P G.1 gCl ws H) (hD : va_D A ws) (hS : va_S A s.heap H locs) (isC : List Nat) (hC : isC.map (fun i => ws[i]?) = wc.map some) (hnd : va_nd isC = true)
    (hn : As.length = n) (hsize : ls.size = nL) (hstack : st0 = As.reverse ++ rest) (hW : (rest.map fun v => v.category).sum ≤ 8) (hdg : decode cc pc = .ok (.invokestatic index, 3)) (hf : cells + mc ≤ R.cells ∧ slots + ms ≤ R.slots) :
    va_Run p l e R s m args below meth c H locs cells slots mc ms (F0 m pc ls st0) rest (Qc As.toArray) free := by
  have hts := X.2.2.2.2.1
  exact va_runS X.fix hM ⟨⟨hrc, hrs, hR.1, hR.2, g_pay X k.2.2.1, List.mem_cons_self, hts _ k.2.2.1, hts _ k.2.1, ⟨k.2.2.2.1, k.2.2.2.2.1⟩, g_sig k.2.2.2.2.2, hts _ k.1.1⟩, hts _ k.1.2⟩ ⟨gPc.blind, g_pre X hP hD hS isC hC hnd⟩ rfl hn hsize hstack (lv_room hW) hdg hf
theorem g_rN (X : gX p m meth c cc nL own ret s args G A) (hM : Met l y (Cond.code y bytes maxL rt :: wAll) rm (gPc G As wc H.size) Qc mc ms free) (k : gLN own index y host bytes maxL rt n) (hrc : rm.cells = mc) (hrs : rm.slots = ms) (hR : rm.frames + 1 ≤ R.frames ∧ 8 + (maxL + 11) + rm.locals ≤ R.locals)
    (hP : va_P G.1 gCl ws H) (hD : va_D A ws) (hS : va_S A s.heap H locs) (isC : List Nat) (hC : isC.map (fun i => ws[i]?) = wc.map some) (hnd : va_nd isC = true)
    (hn : As.length = n) (hsize : ls.size = nL) (hstack : st0 = As.reverse ++ rest) (hW : (rest.map fun v => v.category).sum ≤ 8) (hdg : decode cc pc = .ok (.invokestatic index, 3)) (hf : cells + mc ≤ R.cells ∧ slots + ms ≤ R.slots) :
    va_Run p l e R s m args below meth c H locs cells slots mc ms (F0 m pc ls st0) rest (Qc As.toArray) free := by
  have hts := X.2.2.2.2.1
  exact va_runSN (host := host) X.fix hM ⟨⟨⟨hrc, hrs, hR.1, hR.2, g_pay X k.2.2.1, List.mem_cons_self⟩, hts _ k.2.2.1, hts _ k.2.1, ⟨k.2.2.2.1, k.2.2.2.2.1⟩, g_sig k.2.2.2.2.2, va_Nw.use rfl (X.k.2.1 _ k.1.1)⟩, hts _ k.1.2, trivial⟩ ⟨gPc.blind, g_pre X hP hD hS isC hC hnd⟩ rfl hn hsize hstack (lv_room hW) hdg hf
theorem g_rI (X : gX p m meth c cc nL own ret s args G A) (hM : Met l y (Cond.code y bytes maxL none :: wAll) rm (gPc G (.ref b :: As) wc H.size) Qc mc ms free) (k : gLI own index y host bytes maxL none n) (hy1 : y.name = "<init>") (hrc : rm.cells = mc) (hrs : rm.slots = ms) (hR : rm.frames + 1 ≤ R.frames ∧ 8 + (maxL + 11) + rm.locals ≤ R.locals)
    (hP : va_P G.1 gCl ws H) (hD : va_D A ws) (hS : va_S A s.heap H locs) (isC : List Nat) (hC : isC.map (fun i => ws[i]?) = wc.map some) (hnd : va_nd isC = true)
    (hn : As.length = n) (hsize : ls.size = nL) (hstack : st0 = As.reverse ++ .ref b :: rest) (hW : (rest.map fun v => v.category).sum ≤ 8) (hdg : decode cc pc = .ok (.invokespecial index, 3)) (hf : cells + mc ≤ R.cells ∧ slots + ms ≤ R.slots) :
    va_Run p l e R s m args below meth c H locs cells slots mc ms (F0 m pc ls st0) rest (Qc (Value.ref b :: As).toArray) free := by
  have hts := X.2.2.2.2.1
  exact va_runIN (host := host) X.fix hM ⟨⟨⟨hrc, hrs, hR.1, hR.2, g_pay X k.2.2.1, List.mem_cons_self⟩, hts _ k.2.2.1, hts _ k.2.1, ⟨k.2.2.2.1, k.2.2.2.2.1⟩, g_sig k.2.2.2.2.2, va_Nw.use rfl (X.k.2.1 _ k.1.1)⟩, hy1, hts _ k.1.2⟩ ⟨gPc.blind, g_pre X hP hD hS isC hC hnd⟩ rfl hn hsize hstack (lv_room hW) hdg hf
theorem g_ci {S : Type} {post : Int32 → S → Prop} {w1 : S → va_W} {av : Array Value} (X : gX p m meth c cc nL own ret s args G A) (isC isR : List Nat) (hr : va_Run p l e R s m args below meth c H locs cells slots mc ms (F0 m pc ls st0) rest (gQi G post w1 (va_A wc H.size) av) (va_A wc H.size)) (hP : va_P G.1 gCl ws H) (hD : va_D A ws) (hS : va_S A s.heap H locs)
    (hC : isC.map (fun i => ws[i]?) = wc.map some) (hRr : isR.map (fun i => ws[i]?) = wr.map some) (hn : va_nd isR = true) (hdis : ∀ i ∈ isR, i ∉ isC)
    (kk : ∀ (r : Int32) (u : S) (H1 : Heap) (locs1 : List Loc), post r u → va_P G.1 gCl (wr ++ w1 u) H1 → va_D A (wr ++ w1 u) → va_S A s.heap H1 locs1 → W p l e R s m args below meth c H1 locs1 (cells + mc) (slots + ms) Q (F0 m (pc + 3) ls (.int r :: rest))) : W p l e R s m args below meth c H locs cells slots Q (F0 m pc ls st0) := by
  have hFc := va_free (wc := wc) hD hS X.hA isC hC
  refine va_calli hr hS (fun q _ h => hFc q h) hFc (fun r u t H1 locs1 ht hvm hw hB hz1 hk1 hS1 => ?_)
  obtain ⟨hP1, hD1⟩ := hB
  rw [ht] at hP1
  obtain ⟨hP2, hD2⟩ := va_join (wr := wr) (w1 := w1 u) hP hD isC isR hC hRr hn hdis hk1 hFc hP1 hD1
  exact kk r u H1 locs1 hw hP2 hD2 hS1
theorem g_cl {S : Type} {post : Int64 → S → Prop} {w1 : S → va_W} {av : Array Value} (X : gX p m meth c cc nL own ret s args G A) (isC isR : List Nat) (hr : va_Run p l e R s m args below meth c H locs cells slots mc ms (F0 m pc ls st0) rest (gQl G post w1 (va_A wc H.size) av) (va_A wc H.size)) (hP : va_P G.1 gCl ws H) (hD : va_D A ws) (hS : va_S A s.heap H locs)
    (hC : isC.map (fun i => ws[i]?) = wc.map some) (hRr : isR.map (fun i => ws[i]?) = wr.map some) (hn : va_nd isR = true) (hdis : ∀ i ∈ isR, i ∉ isC)
    (kk : ∀ (r : Int64) (u : S) (H1 : Heap) (locs1 : List Loc), post r u → va_P G.1 gCl (wr ++ w1 u) H1 → va_D A (wr ++ w1 u) → va_S A s.heap H1 locs1 → W p l e R s m args below meth c H1 locs1 (cells + mc) (slots + ms) Q (F0 m (pc + 3) ls (.long r :: rest))) : W p l e R s m args below meth c H locs cells slots Q (F0 m pc ls st0) := by
  have hFc := va_free (wc := wc) hD hS X.hA isC hC
  refine va_calll hr hS (fun q _ h => hFc q h) hFc (fun r u t H1 locs1 ht hvm hw hB hz1 hk1 hS1 => ?_)
  obtain ⟨hP1, hD1⟩ := hB
  rw [ht] at hP1
  obtain ⟨hP2, hD2⟩ := va_join (wr := wr) (w1 := w1 u) hP hD isC isR hC hRr hn hdis hk1 hFc hP1 hD1
  exact kk r u H1 locs1 hw hP2 hD2 hS1
theorem g_cv {S : Type} {post : S → Prop} {w1 : S → va_W} {av : Array Value} (X : gX p m meth c cc nL own ret s args G A) (isC isR : List Nat) (hr : va_Run p l e R s m args below meth c H locs cells slots mc ms (F0 m pc ls st0) rest (gQv G post w1 (va_A wc H.size) av) (va_A wc H.size)) (hP : va_P G.1 gCl ws H) (hD : va_D A ws) (hS : va_S A s.heap H locs)
    (hC : isC.map (fun i => ws[i]?) = wc.map some) (hRr : isR.map (fun i => ws[i]?) = wr.map some) (hn : va_nd isR = true) (hdis : ∀ i ∈ isR, i ∉ isC)
    (kk : ∀ (u : S) (H1 : Heap) (locs1 : List Loc), post u → va_P G.1 gCl (wr ++ w1 u) H1 → va_D A (wr ++ w1 u) → va_S A s.heap H1 locs1 → W p l e R s m args below meth c H1 locs1 (cells + mc) (slots + ms) Q (F0 m (pc + 3) ls rest)) : W p l e R s m args below meth c H locs cells slots Q (F0 m pc ls st0) := by
  have hFc := va_free (wc := wc) hD hS X.hA isC hC
  refine va_callv hr hS (fun q _ h => hFc q h) hFc (fun u t H1 locs1 ht hvm hw hB hz1 hk1 hS1 => ?_)
  obtain ⟨hP1, hD1⟩ := hB
  rw [ht] at hP1
  obtain ⟨hP2, hD2⟩ := va_join (wr := wr) (w1 := w1 u) hP hD isC isR hC hRr hn hdis hk1 hFc hP1 hD1
  exact kk u H1 locs1 hw hP2 hD2 hS1
variable {q0 N : Nat} {i x : Int32}
theorem g_ist (X : gX p m meth c cc nL own ret s args G A) (hP : va_P G.1 gCl ws H) (hD : va_D A ws) (hS : va_S A s.heap H locs) (q0 : Nat) {N : Nat} {f : Nat → Int32} {i x : Int32} (ha : ws[q0]? = some (a, .inl (G.2.1.1, N, .inl f))) (hin : vp_in i N) (hdg : decode cc pc = .ok (.iastore, 1))
    (kk : ∀ f1 : Nat → Int32, f1 = upd f i.toNatClampNeg x → ∀ (H1 : Heap) (locs1 : List Loc), va_P G.1 gCl (ws.set q0 (a, .inl (G.2.1.1, N, .inl f1))) H1 → va_D A (ws.set q0 (a, .inl (G.2.1.1, N, .inl f1))) → va_S A s.heap H1 locs1 → W p l e R s m args below meth c H1 locs1 cells slots Q (F0 m (pc + 1) ls rest)) : W p l e R s m args below meth c H locs cells slots Q (F0 m pc ls (.int x :: .int i :: .ref a :: rest)) :=
  va_iast (D := G.1) X.1 X.2.1 X.k.1 hP hD hS q0 0 ha rfl hin hdg (fun H1 locs1 hP hD hS => kk _ rfl H1 locs1 hP hD hS)
theorem g_lst (X : gX p m meth c cc nL own ret s args G A) (hP : va_P G.1 gCl ws H) (hD : va_D A ws) (hS : va_S A s.heap H locs) (q0 : Nat) {N : Nat} {f : Nat → Int64} {i : Int32} {x : Int64} (ha : ws[q0]? = some (a, .inl (G.2.1.2.1, N, .inr (.inl f)))) (hin : vp_in i N) (hdg : decode cc pc = .ok (.lastore, 1))
    (kk : ∀ f1 : Nat → Int64, f1 = vp_updL f i.toNatClampNeg x → ∀ (H1 : Heap) (locs1 : List Loc), va_P G.1 gCl (ws.set q0 (a, .inl (G.2.1.2.1, N, .inr (.inl f1)))) H1 → va_D A (ws.set q0 (a, .inl (G.2.1.2.1, N, .inr (.inl f1)))) → va_S A s.heap H1 locs1 → W p l e R s m args below meth c H1 locs1 cells slots Q (F0 m (pc + 1) ls rest)) : W p l e R s m args below meth c H locs cells slots Q (F0 m pc ls (.long x :: .int i :: .ref a :: rest)) :=
  va_last (D := G.1) X.1 X.2.1 X.k.1 hP hD hS q0 1 ha rfl hin hdg (fun H1 locs1 hP hD hS => kk _ rfl H1 locs1 hP hD hS)
theorem g_zst (X : gX p m meth c cc nL own ret s args G A) (hP : va_P G.1 gCl ws H) (hD : va_D A ws) (hS : va_S A s.heap H locs) (q0 : Nat) {N : Nat} {f : Nat → Int32} {i x : Int32} (ha : ws[q0]? = some (a, .inl (G.2.1.2.2, N, .inl f))) (hin : vp_in i N) (hx : x = 0 ∨ x = 1) (hdg : decode cc pc = .ok (.bastore, 1))
    (kk : ∀ f1 : Nat → Int32, f1 = upd f i.toNatClampNeg x → ∀ (H1 : Heap) (locs1 : List Loc), va_P G.1 gCl (ws.set q0 (a, .inl (G.2.1.2.2, N, .inl f1))) H1 → va_D A (ws.set q0 (a, .inl (G.2.1.2.2, N, .inl f1))) → va_S A s.heap H1 locs1 → W p l e R s m args below meth c H1 locs1 cells slots Q (F0 m (pc + 1) ls rest)) : W p l e R s m args below meth c H locs cells slots Q (F0 m pc ls (.int x :: .int i :: .ref a :: rest)) :=
  va_zast (D := G.1) X.1 X.2.1 X.k.1 hP hD hS q0 2 ha rfl hin hdg (fun H1 locs1 hP hD hS => kk _ (by rcases hx with rfl | rfl <;> rfl) H1 locs1 hP hD hS)
end GW
end
section
theorem fl_J0_38 : Cond.fieldLink RJ0 38 "java/lang/String" "COMPACT_STRINGS" "Z" ∈ wAll := inC2 158 rfl rfl
theorem fl_J0_15 : Cond.fieldLink RJ0 15 "java/lang/String" "coder" "B" ∈ wAll := inC5 1 rfl rfl
theorem fl_J0_9 : Cond.fieldLink RJ0 9 "java/lang/String" "value" "[B" ∈ wAll := inC5 0 rfl rfl
theorem fl_J0_1053 : Cond.fieldLink RJ0 1053 "jdk/internal/util/Preconditions" "SIOOBE_FORMATTER" "Ljava/util/function/BiFunction;" ∈ wAll := inC2 174 rfl rfl
theorem wi_J0 : Cond.initialized RJ0 ∈ wAll := inC1 16 rfl rfl
theorem wi_J1 : Cond.initialized RJ1 ∈ wAll := inC1 17 rfl rfl
theorem wi_J3 : Cond.initialized RJ3 ∈ wAll := inC1 18 rfl rfl
theorem lk_J0_335 : gLV RJ0 335 RJ0 yJ0_coder_7d493 cJ0_coder_7d493 1 (some .byte) 0 := ⟨⟨inC2 154 rfl rfl, inC2 155 rfl rfl, inC2 156 rfl rfl⟩, wi_J0, inC2 157 rfl rfl, by decide +kernel, by decide +kernel, by decide +kernel⟩
theorem lk_J0_492 : gLV RJ0 492 RJ0 yJ0_isLatin1_aae02 cJ0_isLatin1_aae02 1 (some .boolean) 0 := ⟨⟨inC2 164 rfl rfl, inC2 165 rfl rfl, inC2 166 rfl rfl⟩, wi_J0, inC2 167 rfl rfl, by decide +kernel, by decide +kernel, by decide +kernel⟩
theorem lk_J0_495 : gLS RJ0 495 yJ1_charAt_3b067 cJ1_charAt_3b067 2 (some .char) 2 := ⟨⟨inC2 168 rfl rfl, inC2 169 rfl rfl⟩, wi_J1, inC2 170 rfl rfl, by decide +kernel, by decide +kernel, by decide +kernel⟩
theorem lk_J1_9 : gLS RJ1 9 yJ0_checkIndex_df160 cJ0_checkIndex_df160 2 none 2 := ⟨⟨inC2 171 rfl rfl, inC2 172 rfl rfl⟩, wi_J0, inC2 173 rfl rfl, by decide +kernel, by decide +kernel, by decide +kernel⟩
theorem lk_J0_1059 : gLS RJ0 1059 yJ3_checkIndex_8e157 cJ3_checkIndex_8e157 3 (some .int) 3 := ⟨⟨inC2 176 rfl rfl, inC2 177 rfl rfl⟩, wi_J3, inC2 178 rfl rfl, by decide +kernel, by decide +kernel, by decide +kernel⟩
theorem lk_X1_38 : gLV RX1 38 RJ0 yJ0_length_8abf5 cJ0_length_8abf5 1 (some .int) 0 := ⟨⟨inC2 150 rfl rfl, inC2 151 rfl rfl, inC2 152 rfl rfl⟩, wi_J0, inC2 153 rfl rfl, by decide +kernel, by decide +kernel, by decide +kernel⟩
theorem lk_X1_44 : gLV RX1 44 RJ0 yJ0_charAt_5068e cJ0_charAt_5068e 2 (some .char) 1 := ⟨⟨inC2 160 rfl rfl, inC2 161 rfl rfl, inC2 162 rfl rfl⟩, wi_J0, inC2 163 rfl rfl, by decide +kernel, by decide +kernel, by decide +kernel⟩
abbrev rm_0 : Room := { frames := 0, cells := 0, slots := 0, locals := 0 }
abbrev rm_s1 : Room := { frames := 1, cells := 0, slots := 0, locals := 30 }
abbrev rm_s2 : Room := { frames := 2, cells := 0, slots := 0, locals := 60 }
abbrev rm_s3 : Room := { frames := 3, cells := 0, slots := 0, locals := 90 }
abbrev gA0 (G : gEnv) : Nat := G.2.2.2.1 0
def jLet (k : Nat) : Int32 := ((gLet.getD k 0 &&& 255).toUInt32 % 65536).toInt32
theorem jLet_all : ∀ k, k < 8 → narrow .char (.int (jLet k)) = .int (jLet k) ∧ jLet k = gLet.getD k 0 := by decide +kernel
theorem jLet_c (k : Nat) (hk : k < 8) : ((gLet.getD k 0 &&& 255).toUInt32 % 65536).toInt32 = jLet k := rfl
theorem jLet_n (k : Nat) (hk : k < 8) : narrow .char (.int (jLet k)) = .int (jLet k) := (jLet_all k hk).1
set_option maxHeartbeats 4000000 in
set_option maxRecDepth 100000 in
theorem c_coder (l : Launch) (G : gEnv) (sz : Nat) : Met l yJ0_coder_7d493 (Cond.code yJ0_coder_7d493 cJ0_coder_7d493 1 (some .byte) :: wAll) rm_0 (gPc G [.ref (gA0 G)] [] sz) (gQi G (fun (r : Int32) (u : Unit) => r = 0) (fun _ => []) (va_A [] sz)) 0 0 (va_A [] sz) := by
  refine va_MetF (cc := cJ0_coder_7d493) (maxL := 1) (ret := (some .byte)) (by decide +kernel) rfl ?_
  intro p e s m args below meth c s₁ B hml hv
  obtain ⟨rfl, hsz, hP, hK, hD0⟩ := hv
  subst hsz
  have X := gX.ofB (ws := []) B hml hK hD0
  have hD := hD0.self (sz := s.heap.size)
  generalize hAe : va_A [] s.heap.size = A at X hD ⊢
  have hS : va_S A s.heap s.heap [] := va_S.rf
  have hl := lv_entry ([.ref (gA0 G)]) (n := 1) (Nat.le_of_ble_eq_true rfl)
  rw [lg_entry_eq]
  generalize (lg_sl ([.ref (gA0 G)]) ++ List.replicate (1 - (lg_sl ([.ref (gA0 G)])).length) Slot.unset).toArray = ls at hl ⊢
  have hl : lv_has ls 1 [(0, .ref (gA0 G))] := hl
  refine va_gets (A := A) X.1 X.2.1 (X.k.2.2.2.1.2.1.narrow X.new) hS X.2.2.2.1 (X.2.2.2.2.1 _ fl_J0_38) (fun _ h => h) dJ0_coder_7d493_0 ?_
  refine lv_if_eq (tgt := 13) X.1 X.2.1 dJ0_coder_7d493_3 (by decide) (fun hc => absurd hc (by decide)) (fun hc => ?_)
  refine lv_aload_n X.1 X.2.1 dJ0_coder_7d493_6 rfl (lv_at hl 0 rfl) ?_
  refine vk_getf X.1 X.2.1 ((X.k.2.2.2.1.2.2.1.1 0 (by decide)).2.1.narrow X.new) hS X.2.2.2.1 (X.2.2.2.2.1 _ fl_J0_15) (fun _ h => h) dJ0_coder_7d493_7 ?_
  refine lv_goto (tgt := 14) X.1 X.2.1 dJ0_coder_7d493_10 (by decide) ?_
  exact g_nret X rfl () rfl hP hD hS dJ0_coder_7d493_14
set_option maxHeartbeats 4000000 in
set_option maxRecDepth 100000 in
theorem c_isLatin1 (l : Launch) (G : gEnv) (sz : Nat) : Met l yJ0_isLatin1_aae02 (Cond.code yJ0_isLatin1_aae02 cJ0_isLatin1_aae02 1 (some .boolean) :: wAll) rm_0 (gPc G [.ref (gA0 G)] [] sz) (gQi G (fun (r : Int32) (u : Unit) => r = 1) (fun _ => []) (va_A [] sz)) 0 0 (va_A [] sz) := by
  refine va_MetF (cc := cJ0_isLatin1_aae02) (maxL := 1) (ret := (some .boolean)) (by decide +kernel) rfl ?_
  intro p e s m args below meth c s₁ B hml hv
  obtain ⟨rfl, hsz, hP, hK, hD0⟩ := hv
  subst hsz
  have X := gX.ofB (ws := []) B hml hK hD0
  have hD := hD0.self (sz := s.heap.size)
  generalize hAe : va_A [] s.heap.size = A at X hD ⊢
  have hS : va_S A s.heap s.heap [] := va_S.rf
  have hl := lv_entry ([.ref (gA0 G)]) (n := 1) (Nat.le_of_ble_eq_true rfl)
  rw [lg_entry_eq]
  generalize (lg_sl ([.ref (gA0 G)]) ++ List.replicate (1 - (lg_sl ([.ref (gA0 G)])).length) Slot.unset).toArray = ls at hl ⊢
  have hl : lv_has ls 1 [(0, .ref (gA0 G))] := hl
  refine va_gets (A := A) X.1 X.2.1 (X.k.2.2.2.1.2.1.narrow X.new) hS X.2.2.2.1 (X.2.2.2.2.1 _ fl_J0_38) (fun _ h => h) dJ0_isLatin1_aae02_0 ?_
  refine lv_if_eq (tgt := 17) X.1 X.2.1 dJ0_isLatin1_aae02_3 (by decide) (fun hc => absurd hc (by decide)) (fun hc => ?_)
  refine lv_aload_n X.1 X.2.1 dJ0_isLatin1_aae02_6 rfl (lv_at hl 0 rfl) ?_
  refine vk_getf X.1 X.2.1 ((X.k.2.2.2.1.2.2.1.1 0 (by decide)).2.1.narrow X.new) hS X.2.2.2.1 (X.2.2.2.2.1 _ fl_J0_15) (fun _ h => h) dJ0_isLatin1_aae02_7 ?_
  refine lv_if_ne (tgt := 17) X.1 X.2.1 dJ0_isLatin1_aae02_10 (by decide) (fun hc => absurd rfl hc) (fun hc => ?_)
  refine lv_iconst (v := (1 : Int32)) X.1 X.2.1 dJ0_isLatin1_aae02_13 (by decide) ?_
  refine lv_goto (tgt := 18) X.1 X.2.1 dJ0_isLatin1_aae02_14 (by decide) ?_
  exact g_nret X rfl () rfl hP hD hS dJ0_isLatin1_aae02_18
set_option maxHeartbeats 4000000 in
set_option maxRecDepth 100000 in
theorem c_checkIndexP (l : Launch) (G : gEnv) (i n : Int32) (f : Value) (hf : f = .null ∨ ∃ q, f = .ref q) (h0 : ¬ i < 0) (hn : i < n) (sz : Nat) : Met l yJ3_checkIndex_8e157 (Cond.code yJ3_checkIndex_8e157 cJ3_checkIndex_8e157 3 (some .int) :: wAll) rm_0 (gPc G [.int i, .int n, f] [] sz) (gQi G (fun (r : Int32) (u : Unit) => r = i) (fun _ => []) (va_A [] sz)) 0 0 (va_A [] sz) := by
  have hcat : lg_sl [.int i, .int n, f] = [.val (.int i), .val (.int n), .val f] := by rcases hf with rfl | ⟨q, rfl⟩ <;> rfl
  refine va_MetF (cc := cJ3_checkIndex_8e157) (maxL := 3) (ret := (some .int)) (by decide +kernel) rfl ?_
  intro p e s m args below meth c s₁ B hml hv
  obtain ⟨rfl, hsz, hP, hK, hD0⟩ := hv
  subst hsz
  have X := gX.ofB (ws := []) B hml hK hD0
  have hD := hD0.self (sz := s.heap.size)
  generalize hAe : va_A [] s.heap.size = A at X hD ⊢
  have hS : va_S A s.heap s.heap [] := va_S.rf
  have hl := lv_entry ([.int i, .int n, f]) (n := 3) (by rw [hcat]; exact Nat.le_refl 3)
  rw [lg_entry_eq]
  generalize (lg_sl ([.int i, .int n, f]) ++ List.replicate (3 - (lg_sl ([.int i, .int n, f])).length) Slot.unset).toArray = ls at hl ⊢
  have hl : lv_has ls 3 [(0, .int i), (1, .int n)] := ⟨hl.1, hl.2.1, fun q hq => hl.2.2 q (by
    rcases List.mem_cons.mp hq with h | h
    · rw [h]; exact List.mem_cons_self
    · rw [List.mem_singleton.mp h]; exact List.mem_cons_of_mem _ List.mem_cons_self)⟩
  refine lv_iload_n X.1 X.2.1 dJ3_checkIndex_8e157_0 rfl (lv_at hl 0 rfl) ?_
  refine lv_if_lt (tgt := 9) X.1 X.2.1 dJ3_checkIndex_8e157_1 (by decide) (fun hc => absurd hc h0) (fun hc => ?_)
  refine lv_iload_n X.1 X.2.1 dJ3_checkIndex_8e157_4 rfl (lv_at hl 0 rfl) ?_
  refine lv_iload_n X.1 X.2.1 dJ3_checkIndex_8e157_5 rfl (lv_at hl 1 rfl) ?_
  refine lv_icmp_lt (tgt := 16) X.1 X.2.1 dJ3_checkIndex_8e157_6 (by decide) (fun hc => ?_) (fun hc => absurd hn hc)
  refine lv_iload_n X.1 X.2.1 dJ3_checkIndex_8e157_16 rfl (lv_at hl 0 rfl) ?_
  exact g_iret X () rfl hP hD hS dJ3_checkIndex_8e157_17
set_option maxHeartbeats 4000000 in
set_option maxRecDepth 100000 in
theorem c_checkIndexS (l : Launch) (G : gEnv) (i n : Int32) (h0 : ¬ i < 0) (hn : i < n) (sz : Nat) : Met l yJ0_checkIndex_df160 (Cond.code yJ0_checkIndex_df160 cJ0_checkIndex_df160 2 none :: wAll) rm_s1 (gPc G [.int i, .int n] [] sz) (gQv G (fun (u : Unit) => True) (fun _ => []) (va_A [] sz)) 0 0 (va_A [] sz) := by
  refine va_MetF (cc := cJ0_checkIndex_df160) (maxL := 2) (ret := none) (by decide +kernel) rfl ?_
  intro p e s m args below meth c s₁ B hml hv
  obtain ⟨rfl, hsz, hP, hK, hD0⟩ := hv
  subst hsz
  have X := gX.ofB (ws := []) B hml hK hD0
  have hD := hD0.self (sz := s.heap.size)
  generalize hAe : va_A [] s.heap.size = A at X hD ⊢
  have hS : va_S A s.heap s.heap [] := va_S.rf
  have hl := lv_entry ([.int i, .int n]) (n := 2) (Nat.le_of_ble_eq_true rfl)
  rw [lg_entry_eq]
  generalize (lg_sl ([.int i, .int n]) ++ List.replicate (2 - (lg_sl ([.int i, .int n])).length) Slot.unset).toArray = ls at hl ⊢
  have hl : lv_has ls 2 [(0, .int i), (1, .int n)] := hl
  refine lv_iload_n X.1 X.2.1 dJ0_checkIndex_df160_0 rfl (lv_at hl 0 rfl) ?_
  refine lv_iload_n X.1 X.2.1 dJ0_checkIndex_df160_1 rfl (lv_at hl 1 rfl) ?_
  obtain ⟨f, hf, hZ⟩ : ∃ f : Value, (f = .null ∨ ∃ q, f = .ref q) ∧ va_Z "jdk/internal/util/Preconditions" "SIOOBE_FORMATTER" "Ljava/util/function/BiFunction;" f (gNew G) s s.heap := by
    rcases X.k.2.2.2.1.2.2.2.2.2 with h | ⟨t, h⟩
    · exact ⟨.null, Or.inl rfl, h⟩
    · exact ⟨.ref t, Or.inr ⟨t, rfl⟩, h⟩
  refine va_gets (A := A) X.1 X.2.1 (hZ.narrow X.new) hS X.2.2.2.1 (X.2.2.2.2.1 _ fl_J0_1053) (fun _ h => h) dJ0_checkIndex_df160_2 ?_
  refine g_ci (wr := []) X [] [] (g_rS (As := [.int i, .int n, f]) (rest := []) X (c_checkIndexP l G i n f hf h0 hn _) lk_J0_1059 rfl rfl ⟨Nat.le_of_ble_eq_true rfl, Nat.le_of_ble_eq_true rfl⟩ hP hD hS [] rfl rfl rfl hl.1 rfl (Nat.le_of_ble_eq_true rfl) dJ0_checkIndex_df160_5 ⟨Nat.le_of_ble_eq_true rfl, Nat.le_of_ble_eq_true rfl⟩) hP hD hS rfl rfl rfl (by decide) (fun r u H locs h hP hD hS => ?_)
  refine lv_pop X.1 X.2.1 dJ0_checkIndex_df160_8 rfl ?_
  exact g_vret X () trivial hP hD hS dJ0_checkIndex_df160_9
set_option maxHeartbeats 4000000 in
set_option maxRecDepth 100000 in
theorem c_charAtL (l : Launch) (G : gEnv) (k : Nat) (hk : k < 8) (sz : Nat) : Met l yJ1_charAt_3b067 (Cond.code yJ1_charAt_3b067 cJ1_charAt_3b067 2 (some .char) :: wAll) rm_s2 (gPc G [.ref (G.2.2.2.2 0), .int (nI k)] [] sz) (gQi G (fun (r : Int32) (u : Unit) => r = jLet k) (fun _ => []) (va_A [] sz)) 0 0 (va_A [] sz) := by
  refine va_MetF (cc := cJ1_charAt_3b067) (maxL := 2) (ret := (some .char)) (by decide +kernel) rfl ?_
  intro p e s m args below meth c s₁ B hml hv
  obtain ⟨rfl, hsz, hP, hK, hD0⟩ := hv
  subst hsz
  have X := gX.ofB (ws := []) B hml hK hD0
  have hD := hD0.self (sz := s.heap.size)
  generalize hAe : va_A [] s.heap.size = A at X hD ⊢
  have hS : va_S A s.heap s.heap [] := va_S.rf
  have hl := lv_entry ([.ref (G.2.2.2.2 0), .int (nI k)]) (n := 2) (Nat.le_of_ble_eq_true rfl)
  rw [lg_entry_eq]
  generalize (lg_sl ([.ref (G.2.2.2.2 0), .int (nI k)]) ++ List.replicate (2 - (lg_sl ([.ref (G.2.2.2.2 0), .int (nI k)])).length) Slot.unset).toArray = ls at hl ⊢
  have hl : lv_has ls 2 [(0, .ref (G.2.2.2.2 0)), (1, .int (nI k))] := hl
  have hT := (X.k.2.2.2.1.2.2.1.1 0 (by decide)).2.2.2.narrow X.new
  refine lv_iload_n X.1 X.2.1 dJ1_charAt_3b067_0 rfl (lv_at hl 1 rfl) ?_
  refine lv_aload_n X.1 X.2.1 dJ1_charAt_3b067_1 rfl (lv_at hl 0 rfl) ?_
  refine va_tlen (A := A) (v := Int32.ofNat 8) X.1 X.2.1 hT hS rfl dJ1_charAt_3b067_2 ?_
  refine g_cv (wr := []) X [] [] (g_rS (As := [.int (nI k), .int (Int32.ofNat 8)]) (rest := []) X (c_checkIndexS l G (nI k) (Int32.ofNat 8) (nI_pos (by omega)) (nI_lt hk (by decide)) _) lk_J1_9 rfl rfl ⟨Nat.le_of_ble_eq_true rfl, Nat.le_of_ble_eq_true rfl⟩ hP hD hS [] rfl rfl rfl hl.1 rfl (Nat.le_of_ble_eq_true rfl) dJ1_charAt_3b067_3 ⟨Nat.le_of_ble_eq_true rfl, Nat.le_of_ble_eq_true rfl⟩) hP hD hS rfl rfl rfl (by decide) (fun u H locs h hP hD hS => ?_)
  refine lv_aload_n X.1 X.2.1 dJ1_charAt_3b067_6 rfl (lv_at hl 0 rfl) ?_
  refine lv_iload_n X.1 X.2.1 dJ1_charAt_3b067_7 rfl (lv_at hl 1 rfl) ?_
  refine va_tb (A := A) (v := .int (gLet.getD k 0)) X.1 X.2.1 hT hS (vp_in_nI hk (by decide)) (by rw [nI_clamp (by omega)]; rfl) dJ1_charAt_3b067_8 ?_
  refine lv_sipush (v := (255 : Int32)) X.1 X.2.1 dJ1_charAt_3b067_9 (by decide) ?_
  refine lv_iand X.1 X.2.1 dJ1_charAt_3b067_12 ?_
  refine lv_i2c (v := jLet k) X.1 X.2.1 dJ1_charAt_3b067_13 (jLet_c k hk) ?_
  exact g_nret X (jLet_n k hk) () rfl hP hD hS dJ1_charAt_3b067_14
set_option maxHeartbeats 4000000 in
set_option maxRecDepth 100000 in
theorem c_charAt (l : Launch) (G : gEnv) (k : Nat) (hk : k < 8) (sz : Nat) : Met l yJ0_charAt_5068e (Cond.code yJ0_charAt_5068e cJ0_charAt_5068e 2 (some .char) :: wAll) rm_s3 (gPc G [.ref (gA0 G), .int (nI k)] [] sz) (gQi G (fun (r : Int32) (u : Unit) => r = jLet k) (fun _ => []) (va_A [] sz)) 0 0 (va_A [] sz) := by
  refine va_MetF (cc := cJ0_charAt_5068e) (maxL := 2) (ret := (some .char)) (by decide +kernel) rfl ?_
  intro p e s m args below meth c s₁ B hml hv
  obtain ⟨rfl, hsz, hP, hK, hD0⟩ := hv
  subst hsz
  have X := gX.ofB (ws := []) B hml hK hD0
  have hD := hD0.self (sz := s.heap.size)
  generalize hAe : va_A [] s.heap.size = A at X hD ⊢
  have hS : va_S A s.heap s.heap [] := va_S.rf
  have hl := lv_entry ([.ref (gA0 G), .int (nI k)]) (n := 2) (Nat.le_of_ble_eq_true rfl)
  rw [lg_entry_eq]
  generalize (lg_sl ([.ref (gA0 G), .int (nI k)]) ++ List.replicate (2 - (lg_sl ([.ref (gA0 G), .int (nI k)])).length) Slot.unset).toArray = ls at hl ⊢
  have hl : lv_has ls 2 [(0, .ref (gA0 G)), (1, .int (nI k))] := hl
  refine lv_aload_n X.1 X.2.1 dJ0_charAt_5068e_0 rfl (lv_at hl 0 rfl) ?_
  refine g_ci (wr := []) X [] [] (g_rVr (As := []) (rest := []) X (c_isLatin1 l G _) lk_J0_492 rfl rfl ⟨Nat.le_of_ble_eq_true rfl, Nat.le_of_ble_eq_true rfl⟩ hP hD hS [] rfl rfl (vk_recv (A := A) (vk_S.narrow X.k.2.2.2.1.2.2.1 X.new) (i := 0) (by decide) hS) rfl hl.1 rfl (Nat.le_of_ble_eq_true rfl) dJ0_charAt_5068e_1 ⟨Nat.le_of_ble_eq_true rfl, Nat.le_of_ble_eq_true rfl⟩) hP hD hS rfl rfl rfl (by decide) (fun r u H locs h hP hD hS => ?_)
  have h : r = 1 := h
  refine lv_if_eq (tgt := 16) X.1 X.2.1 dJ0_charAt_5068e_4 (by decide) (fun hc => absurd (h.symm.trans hc) (by decide)) (fun hc => ?_)
  refine lv_aload_n X.1 X.2.1 dJ0_charAt_5068e_7 rfl (lv_at hl 0 rfl) ?_
  refine vk_getf X.1 X.2.1 ((X.k.2.2.2.1.2.2.1.1 0 (by decide)).2.2.1.narrow X.new) hS X.2.2.2.1 (X.2.2.2.2.1 _ fl_J0_9) (fun _ h => h) dJ0_charAt_5068e_8 ?_
  refine lv_iload_n X.1 X.2.1 dJ0_charAt_5068e_11 rfl (lv_at hl 1 rfl) ?_
  refine g_ci (wr := []) X [] [] (g_rS (As := [.ref (G.2.2.2.2 0), .int (nI k)]) (rest := []) X (c_charAtL l G k hk _) lk_J0_495 rfl rfl ⟨Nat.le_of_ble_eq_true rfl, Nat.le_of_ble_eq_true rfl⟩ hP hD hS [] rfl rfl rfl hl.1 rfl (Nat.le_of_ble_eq_true rfl) dJ0_charAt_5068e_12 ⟨Nat.le_of_ble_eq_true rfl, Nat.le_of_ble_eq_true rfl⟩) hP hD hS rfl rfl rfl (by decide) (fun r u H locs h hP hD hS => ?_)
  have h : r = jLet k := h
  rw [h]
  exact g_nret X (jLet_n k hk) () rfl hP hD hS dJ0_charAt_5068e_15
set_option maxHeartbeats 4000000 in
set_option maxRecDepth 100000 in
theorem c_length (l : Launch) (G : gEnv) (sz : Nat) : Met l yJ0_length_8abf5 (Cond.code yJ0_length_8abf5 cJ0_length_8abf5 1 (some .int) :: wAll) rm_s1 (gPc G [.ref (gA0 G)] [] sz) (gQi G (fun (r : Int32) (u : Unit) => r = 8) (fun _ => []) (va_A [] sz)) 0 0 (va_A [] sz) := by
  refine va_MetF (cc := cJ0_length_8abf5) (maxL := 1) (ret := (some .int)) (by decide +kernel) rfl ?_
  intro p e s m args below meth c s₁ B hml hv
  obtain ⟨rfl, hsz, hP, hK, hD0⟩ := hv
  subst hsz
  have X := gX.ofB (ws := []) B hml hK hD0
  have hD := hD0.self (sz := s.heap.size)
  generalize hAe : va_A [] s.heap.size = A at X hD ⊢
  have hS : va_S A s.heap s.heap [] := va_S.rf
  have hl := lv_entry ([.ref (gA0 G)]) (n := 1) (Nat.le_of_ble_eq_true rfl)
  rw [lg_entry_eq]
  generalize (lg_sl ([.ref (gA0 G)]) ++ List.replicate (1 - (lg_sl ([.ref (gA0 G)])).length) Slot.unset).toArray = ls at hl ⊢
  have hl : lv_has ls 1 [(0, .ref (gA0 G))] := hl
  refine lv_aload_n X.1 X.2.1 dJ0_length_8abf5_0 rfl (lv_at hl 0 rfl) ?_
  refine vk_getf X.1 X.2.1 ((X.k.2.2.2.1.2.2.1.1 0 (by decide)).2.2.1.narrow X.new) hS X.2.2.2.1 (X.2.2.2.2.1 _ fl_J0_9) (fun _ h => h) dJ0_length_8abf5_1 ?_
  refine va_tlen (A := A) (v := Int32.ofNat 8) X.1 X.2.1 ((X.k.2.2.2.1.2.2.1.1 0 (by decide)).2.2.2.narrow X.new) hS rfl dJ0_length_8abf5_4 ?_
  refine lv_aload_n X.1 X.2.1 dJ0_length_8abf5_5 rfl (lv_at hl 0 rfl) ?_
  refine g_ci (wr := []) X [] [] (g_rVr (As := []) (rest := [.int (Int32.ofNat 8)]) X (c_coder l G _) lk_J0_335 rfl rfl ⟨Nat.le_of_ble_eq_true rfl, Nat.le_of_ble_eq_true rfl⟩ hP hD hS [] rfl rfl (vk_recv (A := A) (vk_S.narrow X.k.2.2.2.1.2.2.1 X.new) (i := 0) (by decide) hS) rfl hl.1 rfl (Nat.le_of_ble_eq_true rfl) dJ0_length_8abf5_6 ⟨Nat.le_of_ble_eq_true rfl, Nat.le_of_ble_eq_true rfl⟩) hP hD hS rfl rfl rfl (by decide) (fun r u H locs h hP hD hS => ?_)
  have h : r = 0 := h
  rw [h]
  refine lv_ishr X.1 X.2.1 dJ0_length_8abf5_9 ?_
  exact g_iret X () (by decide) hP hD hS dJ0_length_8abf5_10
theorem c_charAtZ (l : Launch) (G : gEnv) (z : Int32) (hz : vp_in z 8) (sz : Nat) : Met l yJ0_charAt_5068e (Cond.code yJ0_charAt_5068e cJ0_charAt_5068e 2 (some .char) :: wAll) rm_s3 (gPc G [.ref (gA0 G), .int z] [] sz) (gQi G (fun (r : Int32) (u : Unit) => r = jLet z.toNatClampNeg) (fun _ => []) (va_A [] sz)) 0 0 (va_A [] sz) := by
  obtain ⟨k, hk, rfl⟩ := vp_in_of hz (by decide)
  have h := c_charAt l G k hk sz
  rw [nI_clamp (by omega)]
  exact h
end
section
theorem inX0 : ∀ w ∈ u_ws RX0 TX0 10, w ∈ wAll := by
  intro w hw
  have h : w ∈ ([Cond.lays "PushBoards$Board" "PushBoards$Board" "width" "I", Cond.lays "PushBoards$Board" "PushBoards$Board" "height" "I", Cond.lays "PushBoards$Board" "PushBoards$Board" "floor" "J", Cond.lays "PushBoards$Board" "PushBoards$Board" "goals" "J", Cond.lays "PushBoards$Board" "PushBoards$Board" "live" "J", Cond.lays "PushBoards$Board" "PushBoards$Board" "boxes" "J", Cond.lays "PushBoards$Board" "PushBoards$Board" "person" "J", Cond.laysFinal "PushBoards$Board" "PushBoards$Board" "boxSteps" "[I", Cond.lays "PushBoards$Board" "PushBoards$Board" "liveBesideInRow" "J", Cond.lays "PushBoards$Board" "PushBoards$Board" "liveBesideInColumn" "J"] : List Cond) := hw
  simp only [List.mem_cons, List.not_mem_nil, or_false] at h
  rcases h with rfl | rfl | rfl | rfl | rfl | rfl | rfl | rfl | rfl | rfl
  · exact inC1 95 rfl rfl
  · exact inC1 97 rfl rfl
  · exact inC1 99 rfl rfl
  · exact inC1 101 rfl rfl
  · exact inC1 103 rfl rfl
  · exact inC1 105 rfl rfl
  · exact inC1 107 rfl rfl
  · exact inC1 109 rfl rfl
  · exact inC1 111 rfl rfl
  · exact inC1 113 rfl rfl
theorem inX1 : ∀ w ∈ u_ws RX1 TX1 5, w ∈ wAll := by
  intro w hw
  have h : w ∈ ([Cond.lays "PushBoards$Log" "PushBoards$Log" "kept" "I", Cond.lays "PushBoards$Log" "PushBoards$Log" "moves" "I", Cond.lays "PushBoards$Log" "PushBoards$Log" "pushed" "I", Cond.laysFinal "PushBoards$Log" "PushBoards$Log" "marks" "[I", Cond.lays "PushBoards$Log" "PushBoards$Log" "end" "I"] : List Cond) := hw
  simp only [List.mem_cons, List.not_mem_nil, or_false] at h
  rcases h with rfl | rfl | rfl | rfl | rfl
  · exact inC1 130 rfl rfl
  · exact inC1 132 rfl rfl
  · exact inC1 134 rfl rfl
  · exact inC1 136 rfl rfl
  · exact inC1 138 rfl rfl
theorem inX2 : ∀ w ∈ u_ws RX2 TX2 7, w ∈ wAll := by
  intro w hw
  have h : w ∈ ([Cond.laysFinal "PushBoards$Matching" "PushBoards$Matching" "costs" "[I", Cond.laysFinal "PushBoards$Matching" "PushBoards$Matching" "goalLevel" "[I", Cond.laysFinal "PushBoards$Matching" "PushBoards$Matching" "boxLevel" "[I", Cond.laysFinal "PushBoards$Matching" "PushBoards$Matching" "goalOfBox" "[I", Cond.laysFinal "PushBoards$Matching" "PushBoards$Matching" "boxBefore" "[I", Cond.laysFinal "PushBoards$Matching" "PushBoards$Matching" "slack" "[I", Cond.laysFinal "PushBoards$Matching" "PushBoards$Matching" "seen" "[Z"] : List Cond) := hw
  simp only [List.mem_cons, List.not_mem_nil, or_false] at h
  rcases h with rfl | rfl | rfl | rfl | rfl | rfl | rfl
  · exact inC1 154 rfl rfl
  · exact inC1 156 rfl rfl
  · exact inC1 158 rfl rfl
  · exact inC1 160 rfl rfl
  · exact inC1 162 rfl rfl
  · exact inC1 164 rfl rfl
  · exact inC1 166 rfl rfl
theorem inX3 : ∀ w ∈ u_ws RX3 TX3 8, w ∈ wAll := by
  intro w hw
  have h : w ∈ ([Cond.lays "PushBoards$Picture" "PushBoards$Picture" "width" "I", Cond.lays "PushBoards$Picture" "PushBoards$Picture" "height" "I", Cond.lays "PushBoards$Picture" "PushBoards$Picture" "walls" "J", Cond.lays "PushBoards$Picture" "PushBoards$Picture" "goals" "J", Cond.lays "PushBoards$Picture" "PushBoards$Picture" "boxes" "J", Cond.lays "PushBoards$Picture" "PushBoards$Picture" "person" "J", Cond.lays "PushBoards$Picture" "PushBoards$Picture" "x" "I", Cond.lays "PushBoards$Picture" "PushBoards$Picture" "endedRows" "I"] : List Cond) := hw
  simp only [List.mem_cons, List.not_mem_nil, or_false] at h
  rcases h with rfl | rfl | rfl | rfl | rfl | rfl | rfl | rfl
  · exact inC1 50 rfl rfl
  · exact inC1 52 rfl rfl
  · exact inC1 54 rfl rfl
  · exact inC1 56 rfl rfl
  · exact inC1 58 rfl rfl
  · exact inC1 60 rfl rfl
  · exact inC1 62 rfl rfl
  · exact inC1 64 rfl rfl
theorem inX4 : ∀ w ∈ u_ws RX4 TX4 9, w ∈ wAll := by
  intro w hw
  have h : w ∈ ([Cond.lays "PushBoards$Search" "PushBoards$Search" "count" "I", Cond.lays "PushBoards$Search" "PushBoards$Search" "length" "I", Cond.lays "PushBoards$Search" "PushBoards$Search" "boxesOf" "[J", Cond.lays "PushBoards$Search" "PushBoards$Search" "lowestOf" "[I", Cond.lays "PushBoards$Search" "PushBoards$Search" "parentOf" "[I", Cond.lays "PushBoards$Search" "PushBoards$Search" "pushOf" "[I", Cond.lays "PushBoards$Search" "PushBoards$Search" "slots" "[I", Cond.lays "PushBoards$Search" "PushBoards$Search" "found" "I", Cond.lays "PushBoards$Search" "PushBoards$Search" "overfull" "Z"] : List Cond) := hw
  simp only [List.mem_cons, List.not_mem_nil, or_false] at h
  rcases h with rfl | rfl | rfl | rfl | rfl | rfl | rfl | rfl | rfl
  · exact inC1 187 rfl rfl
  · exact inC1 189 rfl rfl
  · exact inC1 191 rfl rfl
  · exact inC1 193 rfl rfl
  · exact inC1 195 rfl rfl
  · exact inC1 197 rfl rfl
  · exact inC1 199 rfl rfl
  · exact inC1 201 rfl rfl
  · exact inC1 203 rfl rfl
theorem inX5 : ∀ w ∈ u_ws RX5 TX5 7, w ∈ wAll := by
  intro w hw
  have h : w ∈ ([Cond.laysFinal "PushBoards" "PushBoards" "text" "[I", Cond.lays "PushBoards" "PushBoards" "textLength" "I", Cond.laysFinal "PushBoards" "PushBoards" "drawn" "LPushBoards$Picture;", Cond.laysFinal "PushBoards" "PushBoards" "board" "LPushBoards$Board;", Cond.laysFinal "PushBoards" "PushBoards" "log" "LPushBoards$Log;", Cond.laysFinal "PushBoards" "PushBoards" "matching" "LPushBoards$Matching;", Cond.laysFinal "PushBoards" "PushBoards" "latest" "LPushBoards$Search;"] : List Cond) := hw
  simp only [List.mem_cons, List.not_mem_nil, or_false] at h
  rcases h with rfl | rfl | rfl | rfl | rfl | rfl | rfl
  · exact inC1 214 rfl rfl
  · exact inC1 216 rfl rfl
  · exact inC1 218 rfl rfl
  · exact inC1 220 rfl rfl
  · exact inC1 222 rfl rfl
  · exact inC1 224 rfl rfl
  · exact inC1 226 rfl rfl
theorem inX6 : ∀ w ∈ u_ws RX6 TX6 30, w ∈ wAll := by
  intro w hw
  have h : w ∈ ([Cond.lays "PushBoardsModel" "PushBoardsModel" "thrown" "I", Cond.lays "PushBoardsModel" "PushBoardsModel" "size" "I", Cond.laysFinal "PushBoardsModel" "PushBoardsModel" "text" "[I", Cond.lays "PushBoardsModel" "PushBoardsModel" "isBoard" "Z", Cond.lays "PushBoardsModel" "PushBoardsModel" "width" "I", Cond.lays "PushBoardsModel" "PushBoardsModel" "height" "I", Cond.lays "PushBoardsModel" "PushBoardsModel" "person" "I", Cond.lays "PushBoardsModel" "PushBoardsModel" "moves" "I", Cond.lays "PushBoardsModel" "PushBoardsModel" "pushes" "I", Cond.lays "PushBoardsModel" "PushBoardsModel" "floor" "J", Cond.lays "PushBoardsModel" "PushBoardsModel" "goals" "J", Cond.lays "PushBoardsModel" "PushBoardsModel" "boxes" "J", Cond.lays "PushBoardsModel" "PushBoardsModel" "newFloor" "J", Cond.lays "PushBoardsModel" "PushBoardsModel" "newGoals" "J", Cond.lays "PushBoardsModel" "PushBoardsModel" "newBoxes" "J", Cond.lays "PushBoardsModel" "PushBoardsModel" "newPerson" "I", Cond.lays "PushBoardsModel" "PushBoardsModel" "newWidth" "I", Cond.lays "PushBoardsModel" "PushBoardsModel" "kept" "I", Cond.laysFinal "PushBoardsModel" "PushBoardsModel" "done" "[I", Cond.lays "PushBoardsModel" "PushBoardsModel" "many" "I", Cond.lays "PushBoardsModel" "PushBoardsModel" "taken" "I", Cond.lays "PushBoardsModel" "PushBoardsModel" "length" "I", Cond.laysFinal "PushBoardsModel" "PushBoardsModel" "stateBoxes" "[J", Cond.laysFinal "PushBoardsModel" "PushBoardsModel" "stateCell" "[I", Cond.laysFinal "PushBoardsModel" "PushBoardsModel" "from" "[I", Cond.laysFinal "PushBoardsModel" "PushBoardsModel" "by" "[I", Cond.laysFinal "PushBoardsModel" "PushBoardsModel" "seats" "[I", Cond.laysFinal "PushBoardsModel" "PushBoardsModel" "path" "[I", Cond.laysFinal "PushBoardsModel" "PushBoardsModel" "far" "[I", Cond.laysFinal "PushBoardsModel" "PushBoardsModel" "least" "[I"] : List Cond) := hw
  simp only [List.mem_cons, List.not_mem_nil, or_false] at h
  rcases h with rfl | rfl | rfl | rfl | rfl | rfl | rfl | rfl | rfl | rfl | rfl | rfl | rfl | rfl | rfl | rfl | rfl | rfl | rfl | rfl | rfl | rfl | rfl | rfl | rfl | rfl | rfl | rfl | rfl | rfl
  · exact inC4 19 rfl rfl
  · exact inC4 21 rfl rfl
  · exact inC4 23 rfl rfl
  · exact inC4 25 rfl rfl
  · exact inC4 27 rfl rfl
  · exact inC4 29 rfl rfl
  · exact inC4 31 rfl rfl
  · exact inC4 33 rfl rfl
  · exact inC4 35 rfl rfl
  · exact inC4 37 rfl rfl
  · exact inC4 39 rfl rfl
  · exact inC4 41 rfl rfl
  · exact inC4 43 rfl rfl
  · exact inC4 45 rfl rfl
  · exact inC4 47 rfl rfl
  · exact inC4 49 rfl rfl
  · exact inC4 51 rfl rfl
  · exact inC4 53 rfl rfl
  · exact inC4 55 rfl rfl
  · exact inC4 57 rfl rfl
  · exact inC4 59 rfl rfl
  · exact inC4 61 rfl rfl
  · exact inC4 63 rfl rfl
  · exact inC4 65 rfl rfl
  · exact inC4 67 rfl rfl
  · exact inC4 69 rfl rfl
  · exact inC4 71 rfl rfl
  · exact inC4 73 rfl rfl
  · exact inC4 75 rfl rfl
  · exact inC4 77 rfl rfl
theorem ws_fill : Cond.static yJ7_fill_53178 ∈ wAll := inC2 236 rfl rfl
theorem wi_arr : Cond.initialized RJ7 ∈ wAll := inC1 20 rfl rfl
theorem wc_fill : Cond.code yJ7_fill_53178 cJ7_fill_53178 4 none ∈ wAll := inC2 237 rfl rfl
theorem ws_max : Cond.static Lib.Math.max.name ∈ wAll := inC2 35 rfl rfl
theorem wc_max : Cond.code Lib.Math.max.name Lib.Math.max.code 2 (some .int) ∈ wAll := inC2 36 rfl rfl
theorem ws_min : Cond.static Lib.Math.min.name ∈ wAll := inC2 96 rfl rfl
theorem wc_min : Cond.code Lib.Math.min.name Lib.Math.min.code 2 (some .int) ∈ wAll := inC2 97 rfl rfl
theorem wi_math : Cond.initialized "java/lang/Math" ∈ wAll := inC1 9 rfl rfl
theorem fl_X5_48 : Cond.fieldLink RX5 48 "PushBoards" "textLength" "I" ∈ wAll := inC1 208 rfl rfl
theorem fl_X5_9 : Cond.fieldLink RX5 9 "PushBoards" "text" "[I" ∈ wAll := inC1 207 rfl rfl
theorem fl_X3_9 : Cond.fieldLink RX3 9 "PushBoards$Picture" "width" "I" ∈ wAll := inC1 36 rfl rfl
theorem fl_X3_15 : Cond.fieldLink RX3 15 "PushBoards$Picture" "height" "I" ∈ wAll := inC1 38 rfl rfl
theorem fl_X3_18 : Cond.fieldLink RX3 18 "PushBoards$Picture" "walls" "J" ∈ wAll := inC1 40 rfl rfl
theorem fl_X3_22 : Cond.fieldLink RX3 22 "PushBoards$Picture" "goals" "J" ∈ wAll := inC1 42 rfl rfl
theorem fl_X3_25 : Cond.fieldLink RX3 25 "PushBoards$Picture" "boxes" "J" ∈ wAll := inC1 44 rfl rfl
theorem fl_X3_28 : Cond.fieldLink RX3 28 "PushBoards$Picture" "person" "J" ∈ wAll := inC1 46 rfl rfl
theorem fl_X3_31 : Cond.fieldLink RX3 31 "PushBoards$Picture" "x" "I" ∈ wAll := inC1 48 rfl rfl
theorem fl_X3_34 : Cond.fieldLink RX3 34 "PushBoards$Picture" "endedRows" "I" ∈ wAll := inC1 49 rfl rfl
theorem cn_J13_314 : Cond.constantLong RJ13 314 (6148914691236517205) ∈ wAll := inC2 23 rfl rfl
theorem cn_J13_316 : Cond.constantLong RJ13 316 (3689348814741910323) ∈ wAll := inC2 24 rfl rfl
theorem cn_J13_318 : Cond.constantLong RJ13 318 (1085102592571150095) ∈ wAll := inC2 25 rfl rfl
theorem wi_J13 : Cond.initialized RJ13 ∈ wAll := inC1 8 rfl rfl
theorem wc_J13_bitCount_95d88 : Cond.code yJ13_bitCount_95d88 cJ13_bitCount_95d88 2 (some .int) ∈ wAll := inC2 22 rfl rfl
theorem wm_J13_bitCount_95d88 : Cond.static yJ13_bitCount_95d88 ∈ wAll := inC2 21 rfl rfl
theorem lk_X3_51 : gLS RX3 51 yJ13_bitCount_95d88 cJ13_bitCount_95d88 2 (some .int) 1 := ⟨⟨(inC2 20 rfl rfl), wm_J13_bitCount_95d88⟩, wi_J13, wc_J13_bitCount_95d88, by decide +kernel, by decide +kernel, by decide +kernel⟩
theorem wi_X3 : Cond.initialized RX3 ∈ wAll := inC1 2 rfl rfl
theorem wc_X3_takesBox : Cond.code yX3_takesBox cX3_takesBox 3 (some .boolean) ∈ wAll := inC2 29 rfl rfl
theorem wm_X3_takesBox : Cond.instanceMethod yX3_takesBox ∈ wAll := inC2 28 rfl rfl
theorem wl_X3_takesBox : Cond.selects RX3 yX3_takesBox yX3_takesBox ∈ wAll := inL (by decide +kernel) rfl
theorem lk_X3_61 : gLV RX3 61 RX3 yX3_takesBox cX3_takesBox 3 (some .boolean) 1 := ⟨⟨(inC2 26 rfl rfl), wm_X3_takesBox, wl_X3_takesBox⟩, wi_X3, wc_X3_takesBox, by decide +kernel, by decide +kernel, by decide +kernel⟩
theorem wc_X3_takesGoal : Cond.code yX3_takesGoal cX3_takesGoal 3 (some .boolean) ∈ wAll := inC2 19 rfl rfl
theorem wm_X3_takesGoal : Cond.instanceMethod yX3_takesGoal ∈ wAll := inC2 18 rfl rfl
theorem wl_X3_takesGoal : Cond.selects RX3 yX3_takesGoal yX3_takesGoal ∈ wAll := inL (by decide +kernel) rfl
theorem lk_X3_57 : gLV RX3 57 RX3 yX3_takesGoal cX3_takesGoal 3 (some .boolean) 1 := ⟨⟨(inC2 16 rfl rfl), wm_X3_takesGoal, wl_X3_takesGoal⟩, wi_X3, wc_X3_takesGoal, by decide +kernel, by decide +kernel, by decide +kernel⟩
theorem wc_X3_takesPerson : Cond.code yX3_takesPerson cX3_takesPerson 4 (some .boolean) ∈ wAll := inC2 33 rfl rfl
theorem wm_X3_takesPerson : Cond.instanceMethod yX3_takesPerson ∈ wAll := inC2 32 rfl rfl
theorem wl_X3_takesPerson : Cond.selects RX3 yX3_takesPerson yX3_takesPerson ∈ wAll := inL (by decide +kernel) rfl
theorem lk_X3_64 : gLV RX3 64 RX3 yX3_takesPerson cX3_takesPerson 4 (some .boolean) 1 := ⟨⟨(inC2 30 rfl rfl), wm_X3_takesPerson, wl_X3_takesPerson⟩, wi_X3, wc_X3_takesPerson, by decide +kernel, by decide +kernel, by decide +kernel⟩
theorem wi_X5 : Cond.initialized RX5 ∈ wAll := inC1 1 rfl rfl
theorem wc_X5_cellAt : Cond.code yX5_cellAt cX5_cellAt 2 (some .long) ∈ wAll := inC2 11 rfl rfl
theorem wm_X5_cellAt : Cond.static yX5_cellAt ∈ wAll := inC2 10 rfl rfl
theorem lk_X3_37 : gLN RX3 37 yX5_cellAt "PushBoards" cX5_cellAt 2 (some .long) 2 := ⟨⟨by decide +kernel, wm_X5_cellAt⟩, wi_X5, wc_X5_cellAt, by decide +kernel, by decide +kernel, by decide +kernel⟩
theorem wc_X3_takesSign : Cond.code yX3_takesSign cX3_takesSign 4 (some .boolean) ∈ wAll := inC2 15 rfl rfl
theorem wm_X3_takesSign : Cond.instanceMethod yX3_takesSign ∈ wAll := inC2 14 rfl rfl
theorem wl_X3_takesSign : Cond.selects RX3 yX3_takesSign yX3_takesSign ∈ wAll := inL (by decide +kernel) rfl
theorem lk_X3_41 : gLV RX3 41 RX3 yX3_takesSign cX3_takesSign 4 (some .boolean) 2 := ⟨⟨(inC2 12 rfl rfl), wm_X3_takesSign, wl_X3_takesSign⟩, wi_X3, wc_X3_takesSign, by decide +kernel, by decide +kernel, by decide +kernel⟩
theorem mt_X3_45 : Cond.methodLink RX3 45 Lib.Math.max.name ∈ wAll := inC2 34 rfl rfl
theorem lk_X0_86 : gLN RX0 86 yX5_cellAt "PushBoards" cX5_cellAt 2 (some .long) 2 := ⟨⟨by decide +kernel, wm_X5_cellAt⟩, wi_X5, wc_X5_cellAt, by decide +kernel, by decide +kernel, by decide +kernel⟩
theorem cn_X5_231 : Cond.constantLong RX5 231 (9187201950435737471) ∈ wAll := inC2 60 rfl rfl
theorem cn_X5_233 : Cond.constantLong RX5 233 (-72340172838076674) ∈ wAll := inC2 61 rfl rfl
theorem fl_X0_36 : Cond.fieldLink RX0 36 "PushBoards$Board" "floor" "J" ∈ wAll := inC1 78 rfl rfl
theorem wc_X5_against : Cond.code yX5_against cX5_against 1 (some .int) ∈ wAll := inC2 56 rfl rfl
theorem wm_X5_against : Cond.static yX5_against ∈ wAll := inC2 55 rfl rfl
theorem lk_X0_72 : gLN RX0 72 yX5_against "PushBoards" cX5_against 1 (some .int) 1 := ⟨⟨by decide +kernel, wm_X5_against⟩, wi_X5, wc_X5_against, by decide +kernel, by decide +kernel, by decide +kernel⟩
theorem wc_X5_shifted : Cond.code yX5_shifted cX5_shifted 3 (some .long) ∈ wAll := inC2 59 rfl rfl
theorem wm_X5_shifted : Cond.static yX5_shifted ∈ wAll := inC2 58 rfl rfl
theorem lk_X0_58 : gLN RX0 58 yX5_shifted "PushBoards" cX5_shifted 3 (some .long) 2 := ⟨⟨by decide +kernel, wm_X5_shifted⟩, wi_X5, wc_X5_shifted, by decide +kernel, by decide +kernel, by decide +kernel⟩
theorem fl_X0_42 : Cond.fieldLink RX0 42 "PushBoards$Board" "goals" "J" ∈ wAll := inC1 80 rfl rfl
theorem fl_X0_15 : Cond.fieldLink RX0 15 "PushBoards$Picture" "width" "I" ∈ wAll := inC1 37 rfl rfl
theorem fl_X0_21 : Cond.fieldLink RX0 21 "PushBoards$Board" "width" "I" ∈ wAll := inC1 74 rfl rfl
theorem fl_X0_22 : Cond.fieldLink RX0 22 "PushBoards$Picture" "height" "I" ∈ wAll := inC1 39 rfl rfl
theorem fl_X0_25 : Cond.fieldLink RX0 25 "PushBoards$Board" "height" "I" ∈ wAll := inC1 76 rfl rfl
theorem wi_X0 : Cond.initialized RX0 ∈ wAll := inC1 3 rfl rfl
theorem wc_X0_rectangle : Cond.code yX0_rectangle cX0_rectangle 6 (some .long) ∈ wAll := inC2 47 rfl rfl
theorem wm_X0_rectangle : Cond.static yX0_rectangle ∈ wAll := inC2 46 rfl rfl
theorem lk_X0_26 : gLS RX0 26 yX0_rectangle cX0_rectangle 6 (some .long) 2 := ⟨⟨(inC2 45 rfl rfl), wm_X0_rectangle⟩, wi_X0, wc_X0_rectangle, by decide +kernel, by decide +kernel, by decide +kernel⟩
theorem fl_X0_30 : Cond.fieldLink RX0 30 "PushBoards$Picture" "walls" "J" ∈ wAll := inC1 41 rfl rfl
theorem cn_X0_34 : Cond.constantLong RX0 34 (-1) ∈ wAll := inC2 49 rfl rfl
theorem fl_X0_39 : Cond.fieldLink RX0 39 "PushBoards$Picture" "goals" "J" ∈ wAll := inC1 43 rfl rfl
theorem fl_X0_43 : Cond.fieldLink RX0 43 "PushBoards$Picture" "boxes" "J" ∈ wAll := inC1 45 rfl rfl
theorem fl_X0_46 : Cond.fieldLink RX0 46 "PushBoards$Board" "boxes" "J" ∈ wAll := inC1 86 rfl rfl
theorem fl_X0_47 : Cond.fieldLink RX0 47 "PushBoards$Picture" "person" "J" ∈ wAll := inC1 47 rfl rfl
theorem fl_X0_50 : Cond.fieldLink RX0 50 "PushBoards$Board" "person" "J" ∈ wAll := inC1 89 rfl rfl
theorem wc_X0_liveCells : Cond.code yX0_liveCells cX0_liveCells 7 (some .long) ∈ wAll := inC2 53 rfl rfl
theorem wm_X0_liveCells : Cond.instanceMethod yX0_liveCells ∈ wAll := inC2 52 rfl rfl
theorem wl_X0_liveCells : Cond.selects RX0 yX0_liveCells yX0_liveCells ∈ wAll := inL (by decide +kernel) rfl
theorem lk_X0_51 : gLV RX0 51 RX0 yX0_liveCells cX0_liveCells 7 (some .long) 0 := ⟨⟨(inC2 50 rfl rfl), wm_X0_liveCells, wl_X0_liveCells⟩, wi_X0, wc_X0_liveCells, by decide +kernel, by decide +kernel, by decide +kernel⟩
theorem fl_X0_55 : Cond.fieldLink RX0 55 "PushBoards$Board" "live" "J" ∈ wAll := inC1 82 rfl rfl
theorem fl_X0_62 : Cond.fieldLink RX0 62 "PushBoards$Board" "liveBesideInRow" "J" ∈ wAll := inC1 93 rfl rfl
theorem fl_X0_65 : Cond.fieldLink RX0 65 "PushBoards$Board" "liveBesideInColumn" "J" ∈ wAll := inC1 94 rfl rfl
theorem fl_X1_13 : Cond.fieldLink RX1 13 "PushBoards$Log" "kept" "I" ∈ wAll := inC1 122 rfl rfl
theorem fl_X1_17 : Cond.fieldLink RX1 17 "PushBoards$Log" "moves" "I" ∈ wAll := inC1 124 rfl rfl
theorem fl_X1_20 : Cond.fieldLink RX1 20 "PushBoards$Log" "pushed" "I" ∈ wAll := inC1 126 rfl rfl
theorem fl_X1_23 : Cond.fieldLink RX1 23 "PushBoards$Log" "end" "I" ∈ wAll := inC1 129 rfl rfl
theorem fl_X5_16 : Cond.fieldLink RX5 16 "PushBoards" "drawn" "LPushBoards$Picture;" ∈ wAll := inC1 209 rfl rfl
theorem wc_X3_isBoard : Cond.code yX3_isBoard cX3_isBoard 1 (some .boolean) ∈ wAll := inC2 40 rfl rfl
theorem wm_X3_isBoard : Cond.instanceMethod yX3_isBoard ∈ wAll := inC2 38 rfl rfl
theorem wl_X3_isBoard : Cond.selects RX3 yX3_isBoard yX3_isBoard ∈ wAll := inC2 39 rfl rfl
theorem lk_X5_63 : gLV RX5 63 RX3 yX3_isBoard cX3_isBoard 1 (some .boolean) 0 := ⟨⟨(inC2 37 rfl rfl), wm_X3_isBoard, wl_X3_isBoard⟩, wi_X3, wc_X3_isBoard, by decide +kernel, by decide +kernel, by decide +kernel⟩
theorem fl_X5_23 : Cond.fieldLink RX5 23 "PushBoards" "board" "LPushBoards$Board;" ∈ wAll := inC1 210 rfl rfl
theorem wc_X0_setUp : Cond.code yX0_setUp cX0_setUp 2 none ∈ wAll := inC2 44 rfl rfl
theorem wm_X0_setUp : Cond.instanceMethod yX0_setUp ∈ wAll := inC2 42 rfl rfl
theorem wl_X0_setUp : Cond.selects RX0 yX0_setUp yX0_setUp ∈ wAll := inC2 43 rfl rfl
theorem lk_X5_67 : gLV RX5 67 RX0 yX0_setUp cX0_setUp 2 none 1 := ⟨⟨(inC2 41 rfl rfl), wm_X0_setUp, wl_X0_setUp⟩, wi_X0, wc_X0_setUp, by decide +kernel, by decide +kernel, by decide +kernel⟩
theorem fl_X5_30 : Cond.fieldLink RX5 30 "PushBoards" "log" "LPushBoards$Log;" ∈ wAll := inC1 211 rfl rfl
theorem wi_X1 : Cond.initialized RX1 ∈ wAll := inC1 4 rfl rfl
theorem wc_X1_clear : Cond.code yX1_clear cX1_clear 1 none ∈ wAll := inC2 65 rfl rfl
theorem wm_X1_clear : Cond.instanceMethod yX1_clear ∈ wAll := inC2 63 rfl rfl
theorem wl_X1_clear : Cond.selects RX1 yX1_clear yX1_clear ∈ wAll := inC2 64 rfl rfl
theorem lk_X5_71 : gLV RX5 71 RX1 yX1_clear cX1_clear 1 none 0 := ⟨⟨(inC2 62 rfl rfl), wm_X1_clear, wl_X1_clear⟩, wi_X1, wc_X1_clear, by decide +kernel, by decide +kernel, by decide +kernel⟩
theorem fl_X5_72 : Cond.fieldLink RX5 72 "PushBoards$Board" "boxes" "J" ∈ wAll := inC1 87 rfl rfl
theorem lk_X5_76 : gLS RX5 76 yJ13_bitCount_95d88 cJ13_bitCount_95d88 2 (some .int) 1 := ⟨⟨(inC2 66 rfl rfl), wm_J13_bitCount_95d88⟩, wi_J13, wc_J13_bitCount_95d88, by decide +kernel, by decide +kernel, by decide +kernel⟩
theorem wc_X3_takes : Cond.code yX3_takes cX3_takes 2 (some .boolean) ∈ wAll := inC2 8 rfl rfl
theorem wm_X3_takes : Cond.instanceMethod yX3_takes ∈ wAll := inC2 6 rfl rfl
theorem wl_X3_takes : Cond.selects RX3 yX3_takes yX3_takes ∈ wAll := inC2 7 rfl rfl
theorem lk_X5_59 : gLV RX5 59 RX3 yX3_takes cX3_takes 2 (some .boolean) 1 := ⟨⟨(inC2 5 rfl rfl), wm_X3_takes, wl_X3_takes⟩, wi_X3, wc_X3_takes, by decide +kernel, by decide +kernel, by decide +kernel⟩
theorem wc_X5_takeText : Cond.code yX5_takeText cX5_takeText 2 (some .int) ∈ wAll := inC2 0 rfl rfl
theorem wm_X5_takeText : Cond.instanceMethod yX5_takeText ∈ wAll := inC1 239 rfl rfl
theorem wl_X5_takeText : Cond.selects RX5 yX5_takeText yX5_takeText ∈ wAll := inL (by decide +kernel) rfl
theorem lk_X5_52 : gLV RX5 52 RX5 yX5_takeText cX5_takeText 2 (some .int) 0 := ⟨⟨(inC1 237 rfl rfl), wm_X5_takeText, wl_X5_takeText⟩, wi_X5, wc_X5_takeText, by decide +kernel, by decide +kernel, by decide +kernel⟩
theorem wc_X3_clear : Cond.code yX3_clear cX3_clear 1 none ∈ wAll := inC2 4 rfl rfl
theorem wm_X3_clear : Cond.instanceMethod yX3_clear ∈ wAll := inC2 2 rfl rfl
theorem wl_X3_clear : Cond.selects RX3 yX3_clear yX3_clear ∈ wAll := inC2 3 rfl rfl
theorem lk_X5_56 : gLV RX5 56 RX3 yX3_clear cX3_clear 1 none 0 := ⟨⟨(inC2 1 rfl rfl), wm_X3_clear, wl_X3_clear⟩, wi_X3, wc_X3_clear, by decide +kernel, by decide +kernel, by decide +kernel⟩
theorem mt_X1_26 : Cond.methodLink RX1 26 Lib.Math.min.name ∈ wAll := inC2 95 rfl rfl
theorem fl_X1_9 : Cond.fieldLink RX1 9 "PushBoards$Log" "marks" "[I" ∈ wAll := inC1 128 rfl rfl
theorem wc_X1_add : Cond.code yX1_add cX1_add 3 none ∈ wAll := inC2 94 rfl rfl
theorem wm_X1_add : Cond.instanceMethod yX1_add ∈ wAll := inC2 92 rfl rfl
theorem wl_X1_add : Cond.selects RX1 yX1_add yX1_add ∈ wAll := inC2 93 rfl rfl
theorem lk_X5_226 : gLV RX5 226 RX1 yX1_add cX1_add 3 none 2 := ⟨⟨(inC2 91 rfl rfl), wm_X1_add, wl_X1_add⟩, wi_X1, wc_X1_add, by decide +kernel, by decide +kernel, by decide +kernel⟩
theorem wc_X0_isThere : Cond.code yX0_isThere cX0_isThere 1 (some .boolean) ∈ wAll := inC2 86 rfl rfl
theorem wm_X0_isThere : Cond.instanceMethod yX0_isThere ∈ wAll := inC2 84 rfl rfl
theorem wl_X0_isThere : Cond.selects RX0 yX0_isThere yX0_isThere ∈ wAll := inC2 85 rfl rfl
theorem lk_X5_95 : gLV RX5 95 RX0 yX0_isThere cX0_isThere 1 (some .boolean) 0 := ⟨⟨(inC2 83 rfl rfl), wm_X0_isThere, wl_X0_isThere⟩, wi_X0, wc_X0_isThere, by decide +kernel, by decide +kernel, by decide +kernel⟩
theorem wc_X0_go : Cond.code yX0_go cX0_go 6 (some .int) ∈ wAll := inC2 90 rfl rfl
theorem wm_X0_go : Cond.instanceMethod yX0_go ∈ wAll := inC2 88 rfl rfl
theorem wl_X0_go : Cond.selects RX0 yX0_go yX0_go ∈ wAll := inC2 89 rfl rfl
theorem lk_X5_223 : gLV RX5 223 RX0 yX0_go cX0_go 6 (some .int) 1 := ⟨⟨(inC2 87 rfl rfl), wm_X0_go, wl_X0_go⟩, wi_X0, wc_X0_go, by decide +kernel, by decide +kernel, by decide +kernel⟩
theorem wc_X5_goOnce : Cond.code yX5_goOnce cX5_goOnce 3 (some .int) ∈ wAll := inC2 82 rfl rfl
theorem wm_X5_goOnce : Cond.instanceMethod yX5_goOnce ∈ wAll := inC2 81 rfl rfl
theorem wl_X5_goOnce : Cond.selects RX5 yX5_goOnce yX5_goOnce ∈ wAll := inL (by decide +kernel) rfl
theorem lk_X5_110 : gLV RX5 110 RX5 yX5_goOnce cX5_goOnce 3 (some .int) 1 := ⟨⟨(inC2 79 rfl rfl), wm_X5_goOnce, wl_X5_goOnce⟩, wi_X5, wc_X5_goOnce, by decide +kernel, by decide +kernel, by decide +kernel⟩
theorem mt_X5_82 : Cond.methodLink RX5 82 Lib.Math.max.name ∈ wAll := inC2 71 rfl rfl
theorem wc_X5_wayOfLetter : Cond.code yX5_wayOfLetter cX5_wayOfLetter 1 (some .int) ∈ wAll := inC2 74 rfl rfl
theorem wm_X5_wayOfLetter : Cond.static yX5_wayOfLetter ∈ wAll := inC2 73 rfl rfl
theorem lk_X5_88 : gLS RX5 88 yX5_wayOfLetter cX5_wayOfLetter 1 (some .int) 1 := ⟨⟨(inC2 72 rfl rfl), wm_X5_wayOfLetter⟩, wi_X5, wc_X5_wayOfLetter, by decide +kernel, by decide +kernel, by decide +kernel⟩
theorem wc_X5_goOften : Cond.code yX5_goOften cX5_goOften 4 (some .int) ∈ wAll := inC2 78 rfl rfl
theorem wm_X5_goOften : Cond.instanceMethod yX5_goOften ∈ wAll := inC2 77 rfl rfl
theorem wl_X5_goOften : Cond.selects RX5 yX5_goOften yX5_goOften ∈ wAll := inL (by decide +kernel) rfl
theorem lk_X5_92 : gLV RX5 92 RX5 yX5_goOften cX5_goOften 4 (some .int) 2 := ⟨⟨(inC2 75 rfl rfl), wm_X5_goOften, wl_X5_goOften⟩, wi_X5, wc_X5_goOften, by decide +kernel, by decide +kernel, by decide +kernel⟩
theorem wc_X1_isPush : Cond.code yX1_isPush cX1_isPush 1 (some .boolean) ∈ wAll := inC2 108 rfl rfl
theorem wm_X1_isPush : Cond.static yX1_isPush ∈ wAll := inC2 107 rfl rfl
theorem lk_X1_32 : gLS RX1 32 yX1_isPush cX1_isPush 1 (some .boolean) 1 := ⟨⟨(inC2 106 rfl rfl), wm_X1_isPush⟩, wi_X1, wc_X1_isPush, by decide +kernel, by decide +kernel, by decide +kernel⟩
theorem fl_X5_113 : Cond.fieldLink RX5 113 "PushBoards$Log" "kept" "I" ∈ wAll := inC1 123 rfl rfl
theorem wc_X1_takeLast : Cond.code yX1_takeLast cX1_takeLast 2 (some .int) ∈ wAll := inC2 105 rfl rfl
theorem wm_X1_takeLast : Cond.instanceMethod yX1_takeLast ∈ wAll := inC2 103 rfl rfl
theorem wl_X1_takeLast : Cond.selects RX1 yX1_takeLast yX1_takeLast ∈ wAll := inC2 104 rfl rfl
theorem lk_X5_116 : gLV RX5 116 RX1 yX1_takeLast cX1_takeLast 2 (some .int) 0 := ⟨⟨(inC2 102 rfl rfl), wm_X1_takeLast, wl_X1_takeLast⟩, wi_X1, wc_X1_takeLast, by decide +kernel, by decide +kernel, by decide +kernel⟩
theorem lk_X5_119 : gLS RX5 119 yX1_isPush cX1_isPush 1 (some .boolean) 1 := ⟨⟨(inC2 109 rfl rfl), wm_X1_isPush⟩, wi_X1, wc_X1_isPush, by decide +kernel, by decide +kernel, by decide +kernel⟩
theorem wc_X1_wayOf : Cond.code yX1_wayOf cX1_wayOf 1 (some .int) ∈ wAll := inC2 112 rfl rfl
theorem wm_X1_wayOf : Cond.static yX1_wayOf ∈ wAll := inC2 111 rfl rfl
theorem lk_X5_122 : gLS RX5 122 yX1_wayOf cX1_wayOf 1 (some .int) 1 := ⟨⟨(inC2 110 rfl rfl), wm_X1_wayOf⟩, wi_X1, wc_X1_wayOf, by decide +kernel, by decide +kernel, by decide +kernel⟩
theorem wc_X0_goBack : Cond.code yX0_goBack cX0_goBack 3 none ∈ wAll := inC2 116 rfl rfl
theorem wm_X0_goBack : Cond.instanceMethod yX0_goBack ∈ wAll := inC2 114 rfl rfl
theorem wl_X0_goBack : Cond.selects RX0 yX0_goBack yX0_goBack ∈ wAll := inC2 115 rfl rfl
theorem lk_X5_125 : gLV RX5 125 RX0 yX0_goBack cX0_goBack 3 none 2 := ⟨⟨(inC2 113 rfl rfl), wm_X0_goBack, wl_X0_goBack⟩, wi_X0, wc_X0_goBack, by decide +kernel, by decide +kernel, by decide +kernel⟩
theorem wc_X5_spotOf : Cond.code yX5_spotOf cX5_spotOf 2 (some .int) ∈ wAll := inC2 127 rfl rfl
theorem wm_X5_spotOf : Cond.static yX5_spotOf ∈ wAll := inC2 126 rfl rfl
theorem lk_X0_68 : gLN RX0 68 yX5_spotOf "PushBoards" cX5_spotOf 2 (some .int) 1 := ⟨⟨by decide +kernel, wm_X5_spotOf⟩, wi_X5, wc_X5_spotOf, by decide +kernel, by decide +kernel, by decide +kernel⟩
theorem fl_X5_129 : Cond.fieldLink RX5 129 "PushBoards$Board" "width" "I" ∈ wAll := inC1 75 rfl rfl
theorem fl_X5_132 : Cond.fieldLink RX5 132 "PushBoards$Board" "height" "I" ∈ wAll := inC1 77 rfl rfl
theorem fl_X5_135 : Cond.fieldLink RX5 135 "PushBoards$Board" "goals" "J" ∈ wAll := inC1 81 rfl rfl
theorem fl_X5_138 : Cond.fieldLink RX5 138 "PushBoards$Log" "moves" "I" ∈ wAll := inC1 125 rfl rfl
theorem fl_X5_141 : Cond.fieldLink RX5 141 "PushBoards$Log" "pushed" "I" ∈ wAll := inC1 127 rfl rfl
theorem fl_X5_144 : Cond.fieldLink RX5 144 "PushBoards$Board" "person" "J" ∈ wAll := inC1 90 rfl rfl
theorem wc_X0_cellOf : Cond.code yX0_cellOf cX0_cellOf 4 (some .int) ∈ wAll := inC2 124 rfl rfl
theorem wm_X0_cellOf : Cond.instanceMethod yX0_cellOf ∈ wAll := inC2 122 rfl rfl
theorem wl_X0_cellOf : Cond.selects RX0 yX0_cellOf yX0_cellOf ∈ wAll := inC2 123 rfl rfl
theorem lk_X5_147 : gLV RX5 147 RX0 yX0_cellOf cX0_cellOf 4 (some .int) 1 := ⟨⟨(inC2 121 rfl rfl), wm_X0_cellOf, wl_X0_cellOf⟩, wi_X0, wc_X0_cellOf, by decide +kernel, by decide +kernel, by decide +kernel⟩
theorem wc_X0_isDone : Cond.code yX0_isDone cX0_isDone 3 (some .boolean) ∈ wAll := inC2 131 rfl rfl
theorem wm_X0_isDone : Cond.instanceMethod yX0_isDone ∈ wAll := inC2 129 rfl rfl
theorem wl_X0_isDone : Cond.selects RX0 yX0_isDone yX0_isDone ∈ wAll := inC2 130 rfl rfl
theorem lk_X5_150 : gLV RX5 150 RX0 yX0_isDone cX0_isDone 3 (some .boolean) 1 := ⟨⟨(inC2 128 rfl rfl), wm_X0_isDone, wl_X0_isDone⟩, wi_X0, wc_X0_isDone, by decide +kernel, by decide +kernel, by decide +kernel⟩
theorem lk_X5_154 : gLS RX5 154 yX5_cellAt cX5_cellAt 2 (some .long) 2 := ⟨⟨(inC2 136 rfl rfl), wm_X5_cellAt⟩, wi_X5, wc_X5_cellAt, by decide +kernel, by decide +kernel, by decide +kernel⟩
theorem wc_X0_signAt : Cond.code yX0_signAt cX0_signAt 4 (some .int) ∈ wAll := inC2 140 rfl rfl
theorem wm_X0_signAt : Cond.instanceMethod yX0_signAt ∈ wAll := inC2 138 rfl rfl
theorem wl_X0_signAt : Cond.selects RX0 yX0_signAt yX0_signAt ∈ wAll := inC2 139 rfl rfl
theorem lk_X5_158 : gLV RX5 158 RX0 yX0_signAt cX0_signAt 4 (some .int) 1 := ⟨⟨(inC2 137 rfl rfl), wm_X0_signAt, wl_X0_signAt⟩, wi_X0, wc_X0_signAt, by decide +kernel, by decide +kernel, by decide +kernel⟩
theorem wc_X1_letterAt : Cond.code yX1_letterAt cX1_letterAt 3 (some .int) ∈ wAll := inC2 148 rfl rfl
theorem wm_X1_letterAt : Cond.instanceMethod yX1_letterAt ∈ wAll := inC2 146 rfl rfl
theorem wl_X1_letterAt : Cond.selects RX1 yX1_letterAt yX1_letterAt ∈ wAll := inC2 147 rfl rfl
theorem lk_X5_161 : gLV RX5 161 RX1 yX1_letterAt cX1_letterAt 3 (some .int) 1 := ⟨⟨(inC2 145 rfl rfl), wm_X1_letterAt, wl_X1_letterAt⟩, wi_X1, wc_X1_letterAt, by decide +kernel, by decide +kernel, by decide +kernel⟩
theorem wc_X0_reachOf : Cond.code yX0_reachOf cX0_reachOf 13 (some .long) ∈ wAll := inC2 206 rfl rfl
theorem wm_X0_reachOf : Cond.instanceMethod yX0_reachOf ∈ wAll := inC2 204 rfl rfl
theorem wl_X0_reachOf : Cond.selects RX0 yX0_reachOf yX0_reachOf ∈ wAll := inC2 205 rfl rfl
theorem lk_X5_164 : gLV RX5 164 RX0 yX0_reachOf cX0_reachOf 13 (some .long) 2 := ⟨⟨(inC2 203 rfl rfl), wm_X0_reachOf, wl_X0_reachOf⟩, wi_X0, wc_X0_reachOf, by decide +kernel, by decide +kernel, by decide +kernel⟩
theorem wc_X0_standing : Cond.code yX0_standing cX0_standing 14 (some .long) ∈ wAll := inC2 214 rfl rfl
theorem wm_X0_standing : Cond.instanceMethod yX0_standing ∈ wAll := inC2 212 rfl rfl
theorem wl_X0_standing : Cond.selects RX0 yX0_standing yX0_standing ∈ wAll := inC2 213 rfl rfl
theorem lk_X5_182 : gLV RX5 182 RX0 yX0_standing cX0_standing 14 (some .long) 1 := ⟨⟨(inC2 211 rfl rfl), wm_X0_standing, wl_X0_standing⟩, wi_X0, wc_X0_standing, by decide +kernel, by decide +kernel, by decide +kernel⟩
theorem lk_X0_82 : gLV RX0 82 RX0 yX0_standing cX0_standing 14 (some .long) 1 := ⟨⟨(inC2 223 rfl rfl), wm_X0_standing, wl_X0_standing⟩, wi_X0, wc_X0_standing, by decide +kernel, by decide +kernel, by decide +kernel⟩
theorem wc_X0_isStuck : Cond.code yX0_isStuck cX0_isStuck 3 (some .boolean) ∈ wAll := inC2 222 rfl rfl
theorem wm_X0_isStuck : Cond.instanceMethod yX0_isStuck ∈ wAll := inC2 220 rfl rfl
theorem wl_X0_isStuck : Cond.selects RX0 yX0_isStuck yX0_isStuck ∈ wAll := inC2 221 rfl rfl
theorem lk_X5_186 : gLV RX5 186 RX0 yX0_isStuck cX0_isStuck 3 (some .boolean) 1 := ⟨⟨(inC2 219 rfl rfl), wm_X0_isStuck, wl_X0_isStuck⟩, wi_X0, wc_X0_isStuck, by decide +kernel, by decide +kernel, by decide +kernel⟩
theorem fl_X0_9 : Cond.fieldLink RX0 9 "PushBoards$Board" "boxSteps" "[I" ∈ wAll := inC1 91 rfl rfl
theorem lk_X0_76 : gLS RX0 76 yJ7_fill_53178 cJ7_fill_53178 4 none 2 := ⟨⟨(inC2 235 rfl rfl), ws_fill⟩, wi_arr, wc_fill, by decide +kernel, by decide +kernel, by decide +kernel⟩
theorem fl_X2_11 : Cond.fieldLink RX2 11 "PushBoards$Matching" "costs" "[I" ∈ wAll := inC1 147 rfl rfl
theorem cn_X2_34 : Cond.constant RX2 34 (100000) ∈ wAll := inC3 2 rfl rfl
theorem fl_X2_30 : Cond.fieldLink RX2 30 "PushBoards$Matching" "seen" "[Z" ∈ wAll := inC1 153 rfl rfl
theorem fl_X2_27 : Cond.fieldLink RX2 27 "PushBoards$Matching" "slack" "[I" ∈ wAll := inC1 152 rfl rfl
theorem fl_X2_15 : Cond.fieldLink RX2 15 "PushBoards$Matching" "goalLevel" "[I" ∈ wAll := inC1 148 rfl rfl
theorem fl_X2_21 : Cond.fieldLink RX2 21 "PushBoards$Matching" "goalOfBox" "[I" ∈ wAll := inC1 150 rfl rfl
theorem fl_X2_18 : Cond.fieldLink RX2 18 "PushBoards$Matching" "boxLevel" "[I" ∈ wAll := inC1 149 rfl rfl
theorem fl_X2_24 : Cond.fieldLink RX2 24 "PushBoards$Matching" "boxBefore" "[I" ∈ wAll := inC1 151 rfl rfl
theorem cn_X2_45 : Cond.constant RX2 45 (1000000000) ∈ wAll := inC3 12 rfl rfl
theorem wi_X2 : Cond.initialized RX2 ∈ wAll := inC1 5 rfl rfl
theorem wc_X2_nextBox : Cond.code yX2_nextBox cX2_nextBox 8 (some .int) ∈ wAll := inC3 16 rfl rfl
theorem wm_X2_nextBox : Cond.instanceMethod yX2_nextBox ∈ wAll := inC3 15 rfl rfl
theorem wl_X2_nextBox : Cond.selects RX2 yX2_nextBox yX2_nextBox ∈ wAll := inL (by decide +kernel) rfl
theorem lk_X2_46 : gLV RX2 46 RX2 yX2_nextBox cX2_nextBox 8 (some .int) 2 := ⟨⟨(inC3 13 rfl rfl), wm_X2_nextBox, wl_X2_nextBox⟩, wi_X2, wc_X2_nextBox, by decide +kernel, by decide +kernel, by decide +kernel⟩
theorem wc_X2_giveBoxTo : Cond.code yX2_giveBoxTo cX2_giveBoxTo 6 none ∈ wAll := inC3 11 rfl rfl
theorem wm_X2_giveBoxTo : Cond.instanceMethod yX2_giveBoxTo ∈ wAll := inC3 10 rfl rfl
theorem wl_X2_giveBoxTo : Cond.selects RX2 yX2_giveBoxTo yX2_giveBoxTo ∈ wAll := inL (by decide +kernel) rfl
theorem lk_X2_41 : gLV RX2 41 RX2 yX2_giveBoxTo cX2_giveBoxTo 6 none 2 := ⟨⟨(inC3 8 rfl rfl), wm_X2_giveBoxTo, wl_X2_giveBoxTo⟩, wi_X2, wc_X2_giveBoxTo, by decide +kernel, by decide +kernel, by decide +kernel⟩
theorem lk_X2_35 : gLS RX2 35 yJ7_fill_53178 cJ7_fill_53178 4 none 2 := ⟨⟨(inC3 7 rfl rfl), ws_fill⟩, wi_arr, wc_fill, by decide +kernel, by decide +kernel, by decide +kernel⟩
theorem wc_X5_has : Cond.code yX5_has cX5_has 3 (some .boolean) ∈ wAll := inC2 230 rfl rfl
theorem wm_X5_has : Cond.static yX5_has ∈ wAll := inC2 229 rfl rfl
theorem lk_X5_189 : gLS RX5 189 yX5_has cX5_has 3 (some .boolean) 2 := ⟨⟨(inC2 228 rfl rfl), wm_X5_has⟩, wi_X5, wc_X5_has, by decide +kernel, by decide +kernel, by decide +kernel⟩
theorem fl_X5_37 : Cond.fieldLink RX5 37 "PushBoards" "matching" "LPushBoards$Matching;" ∈ wAll := inC1 212 rfl rfl
theorem fl_X5_197 : Cond.fieldLink RX5 197 "PushBoards$Board" "boxSteps" "[I" ∈ wAll := inC1 92 rfl rfl
theorem wc_X2_setCost : Cond.code yX2_setCost cX2_setCost 4 none ∈ wAll := inC3 1 rfl rfl
theorem wm_X2_setCost : Cond.instanceMethod yX2_setCost ∈ wAll := inC2 239 rfl rfl
theorem wl_X2_setCost : Cond.selects RX2 yX2_setCost yX2_setCost ∈ wAll := inC3 0 rfl rfl
theorem lk_X5_200 : gLV RX5 200 RX2 yX2_setCost cX2_setCost 4 none 3 := ⟨⟨(inC2 238 rfl rfl), wm_X2_setCost, wl_X2_setCost⟩, wi_X2, wc_X2_setCost, by decide +kernel, by decide +kernel, by decide +kernel⟩
theorem wc_X2_leastSum : Cond.code yX2_leastSum cX2_leastSum 5 (some .int) ∈ wAll := inC3 6 rfl rfl
theorem wm_X2_leastSum : Cond.instanceMethod yX2_leastSum ∈ wAll := inC3 4 rfl rfl
theorem wl_X2_leastSum : Cond.selects RX2 yX2_leastSum yX2_leastSum ∈ wAll := inC3 5 rfl rfl
theorem lk_X5_204 : gLV RX5 204 RX2 yX2_leastSum cX2_leastSum 5 (some .int) 2 := ⟨⟨(inC3 3 rfl rfl), wm_X2_leastSum, wl_X2_leastSum⟩, wi_X2, wc_X2_leastSum, by decide +kernel, by decide +kernel, by decide +kernel⟩
theorem wc_X0_fillBoxSteps : Cond.code yX0_fillBoxSteps cX0_fillBoxSteps 13 none ∈ wAll := inC2 234 rfl rfl
theorem wm_X0_fillBoxSteps : Cond.instanceMethod yX0_fillBoxSteps ∈ wAll := inC2 232 rfl rfl
theorem wl_X0_fillBoxSteps : Cond.selects RX0 yX0_fillBoxSteps yX0_fillBoxSteps ∈ wAll := inC2 233 rfl rfl
theorem lk_X5_193 : gLV RX5 193 RX0 yX0_fillBoxSteps cX0_fillBoxSteps 13 none 1 := ⟨⟨(inC2 231 rfl rfl), wm_X0_fillBoxSteps, wl_X0_fillBoxSteps⟩, wi_X0, wc_X0_fillBoxSteps, by decide +kernel, by decide +kernel, by decide +kernel⟩
theorem fl_X4_25 : Cond.fieldLink RX4 25 "PushBoards$Search" "slots" "[I" ∈ wAll := inC1 184 rfl rfl
theorem fl_X4_11 : Cond.fieldLink RX4 11 "PushBoards$Search" "boxesOf" "[J" ∈ wAll := inC1 180 rfl rfl
theorem fl_X4_15 : Cond.fieldLink RX4 15 "PushBoards$Search" "lowestOf" "[I" ∈ wAll := inC1 181 rfl rfl
theorem cn_X4_121 : Cond.constantLong RX4 121 (-7046029254386353131) ∈ wAll := inC3 62 rfl rfl
theorem fl_X4_34 : Cond.fieldLink RX4 34 "PushBoards$Search" "count" "I" ∈ wAll := inC1 176 rfl rfl
theorem wi_X4 : Cond.initialized RX4 ∈ wAll := inC1 6 rfl rfl
theorem wc_X4_slotOf : Cond.code yX4_slotOf cX4_slotOf 10 (some .int) ∈ wAll := inC3 61 rfl rfl
theorem wm_X4_slotOf : Cond.instanceMethod yX4_slotOf ∈ wAll := inC3 60 rfl rfl
theorem wl_X4_slotOf : Cond.selects RX4 yX4_slotOf yX4_slotOf ∈ wAll := inL (by decide +kernel) rfl
theorem lk_X4_107 : gLV RX4 107 RX4 yX4_slotOf cX4_slotOf 10 (some .int) 2 := ⟨⟨(inC3 58 rfl rfl), wm_X4_slotOf, wl_X4_slotOf⟩, wi_X4, wc_X4_slotOf, by decide +kernel, by decide +kernel, by decide +kernel⟩
theorem lk_X4_114 : gLS RX4 114 yJ7_copyOf_c38d5 cJ7_copyOf_c38d5 3 (some (.array .long)) 2 := ⟨⟨(inC3 36 rfl rfl), (inC3 37 rfl rfl)⟩, wi_arr, (inC3 38 rfl rfl), by decide +kernel, by decide +kernel, by decide +kernel⟩
theorem lk_X4_118 : gLS RX4 118 yJ7_copyOf_59c91 cJ7_copyOf_59c91 3 (some (.array .int)) 2 := ⟨⟨(inC3 50 rfl rfl), (inC3 51 rfl rfl)⟩, wi_arr, (inC3 52 rfl rfl), by decide +kernel, by decide +kernel, by decide +kernel⟩
theorem fl_X4_19 : Cond.fieldLink RX4 19 "PushBoards$Search" "parentOf" "[I" ∈ wAll := inC1 182 rfl rfl
theorem fl_X4_22 : Cond.fieldLink RX4 22 "PushBoards$Search" "pushOf" "[I" ∈ wAll := inC1 183 rfl rfl
theorem wc_X4_makeRoom : Cond.code yX4_makeRoom cX4_makeRoom 2 none ∈ wAll := inC3 35 rfl rfl
theorem wm_X4_makeRoom : Cond.instanceMethod yX4_makeRoom ∈ wAll := inC3 34 rfl rfl
theorem wl_X4_makeRoom : Cond.selects RX4 yX4_makeRoom yX4_makeRoom ∈ wAll := inL (by decide +kernel) rfl
theorem lk_X4_111 : gLV RX4 111 RX4 yX4_makeRoom cX4_makeRoom 2 none 0 := ⟨⟨(inC3 32 rfl rfl), wm_X4_makeRoom, wl_X4_makeRoom⟩, wi_X4, wc_X4_makeRoom, by decide +kernel, by decide +kernel, by decide +kernel⟩
theorem lk_X4_104 : gLV RX4 104 RX0 yX0_isStuck cX0_isStuck 3 (some .boolean) 1 := ⟨⟨(inC3 77 rfl rfl), wm_X0_isStuck, wl_X0_isStuck⟩, wi_X0, wc_X0_isStuck, by decide +kernel, by decide +kernel, by decide +kernel⟩
theorem lk_X4_57 : gLV RX4 57 RX0 yX0_reachOf cX0_reachOf 13 (some .long) 2 := ⟨⟨(inC3 26 rfl rfl), wm_X0_reachOf, wl_X0_reachOf⟩, wi_X0, wc_X0_reachOf, by decide +kernel, by decide +kernel, by decide +kernel⟩
theorem lk_X4_61 : gLN RX4 61 yX5_spotOf "PushBoards" cX5_spotOf 2 (some .int) 1 := ⟨⟨by decide +kernel, wm_X5_spotOf⟩, wi_X5, wc_X5_spotOf, by decide +kernel, by decide +kernel, by decide +kernel⟩
theorem wc_X4_takeIn : Cond.code yX4_takeIn cX4_takeIn 6 none ∈ wAll := inC3 31 rfl rfl
theorem wm_X4_takeIn : Cond.instanceMethod yX4_takeIn ∈ wAll := inC3 30 rfl rfl
theorem wl_X4_takeIn : Cond.selects RX4 yX4_takeIn yX4_takeIn ∈ wAll := inL (by decide +kernel) rfl
theorem lk_X4_65 : gLV RX4 65 RX4 yX4_takeIn cX4_takeIn 6 none 4 := ⟨⟨(inC3 28 rfl rfl), wm_X4_takeIn, wl_X4_takeIn⟩, wi_X4, wc_X4_takeIn, by decide +kernel, by decide +kernel, by decide +kernel⟩
theorem lk_X4_69 : gLV RX4 69 RX0 yX0_isDone cX0_isDone 3 (some .boolean) 1 := ⟨⟨(inC3 63 rfl rfl), wm_X0_isDone, wl_X0_isDone⟩, wi_X0, wc_X0_isDone, by decide +kernel, by decide +kernel, by decide +kernel⟩
theorem fl_X4_41 : Cond.fieldLink RX4 41 "PushBoards$Search" "found" "I" ∈ wAll := inC1 185 rfl rfl
theorem fl_X4_44 : Cond.fieldLink RX4 44 "PushBoards$Search" "overfull" "Z" ∈ wAll := inC1 186 rfl rfl
theorem lk_X4_90 : gLN RX4 90 yX5_shifted "PushBoards" cX5_shifted 3 (some .long) 2 := ⟨⟨by decide +kernel, wm_X5_shifted⟩, wi_X5, wc_X5_shifted, by decide +kernel, by decide +kernel, by decide +kernel⟩
theorem lk_X4_94 : gLN RX4 94 yX5_against "PushBoards" cX5_against 1 (some .int) 1 := ⟨⟨by decide +kernel, wm_X5_against⟩, wi_X5, wc_X5_against, by decide +kernel, by decide +kernel, by decide +kernel⟩
theorem lk_X4_97 : gLV RX4 97 RX0 yX0_cellOf cX0_cellOf 4 (some .int) 1 := ⟨⟨(inC3 72 rfl rfl), wm_X0_cellOf, wl_X0_cellOf⟩, wi_X0, wc_X0_cellOf, by decide +kernel, by decide +kernel, by decide +kernel⟩
theorem wc_X4_comeTo : Cond.code yX4_comeTo cX4_comeTo 10 none ∈ wAll := inC3 76 rfl rfl
theorem wm_X4_comeTo : Cond.instanceMethod yX4_comeTo ∈ wAll := inC3 75 rfl rfl
theorem wl_X4_comeTo : Cond.selects RX4 yX4_comeTo yX4_comeTo ∈ wAll := inL (by decide +kernel) rfl
theorem lk_X4_100 : gLV RX4 100 RX4 yX4_comeTo cX4_comeTo 10 none 6 := ⟨⟨(inC3 73 rfl rfl), wm_X4_comeTo, wl_X4_comeTo⟩, wi_X4, wc_X4_comeTo, by decide +kernel, by decide +kernel, by decide +kernel⟩
theorem lk_X4_86 : gLN RX4 86 yX5_has "PushBoards" cX5_has 3 (some .boolean) 2 := ⟨⟨by decide +kernel, wm_X5_has⟩, wi_X5, wc_X5_has, by decide +kernel, by decide +kernel, by decide +kernel⟩
theorem fl_X4_81 : Cond.fieldLink RX4 81 "PushBoards$Board" "live" "J" ∈ wAll := inC1 83 rfl rfl
theorem cn_X4_84 : Cond.constantLong RX4 84 (-1) ∈ wAll := inC3 68 rfl rfl
theorem wc_X4_pushesTo : Cond.code yX4_pushesTo cX4_pushesTo 5 (some .int) ∈ wAll := inC3 81 rfl rfl
theorem wm_X4_pushesTo : Cond.instanceMethod yX4_pushesTo ∈ wAll := inC3 80 rfl rfl
theorem wl_X4_pushesTo : Cond.selects RX4 yX4_pushesTo yX4_pushesTo ∈ wAll := inL (by decide +kernel) rfl
theorem lk_X4_77 : gLV RX4 77 RX4 yX4_pushesTo cX4_pushesTo 5 (some .int) 1 := ⟨⟨(inC3 78 rfl rfl), wm_X4_pushesTo, wl_X4_pushesTo⟩, wi_X4, wc_X4_pushesTo, by decide +kernel, by decide +kernel, by decide +kernel⟩
theorem fl_X4_38 : Cond.fieldLink RX4 38 "PushBoards$Search" "length" "I" ∈ wAll := inC1 178 rfl rfl
theorem wc_X4_pushFrom : Cond.code yX4_pushFrom cX4_pushFrom 16 none ∈ wAll := inC3 67 rfl rfl
theorem wm_X4_pushFrom : Cond.instanceMethod yX4_pushFrom ∈ wAll := inC3 66 rfl rfl
theorem wl_X4_pushFrom : Cond.selects RX4 yX4_pushFrom yX4_pushFrom ∈ wAll := inL (by decide +kernel) rfl
theorem lk_X4_73 : gLV RX4 73 RX4 yX4_pushFrom cX4_pushFrom 16 none 3 := ⟨⟨(inC3 64 rfl rfl), wm_X4_pushFrom, wl_X4_pushFrom⟩, wi_X4, wc_X4_pushFrom, by decide +kernel, by decide +kernel, by decide +kernel⟩
theorem lk_X4_28 : gLS RX4 28 yJ7_fill_53178 cJ7_fill_53178 4 none 2 := ⟨⟨(inC3 25 rfl rfl), ws_fill⟩, wi_arr, wc_fill, by decide +kernel, by decide +kernel, by decide +kernel⟩
theorem fl_X4_48 : Cond.fieldLink RX4 48 "PushBoards$Board" "person" "J" ∈ wAll := inC1 88 rfl rfl
theorem fl_X4_54 : Cond.fieldLink RX4 54 "PushBoards$Board" "boxes" "J" ∈ wAll := inC1 85 rfl rfl
theorem fl_X5_44 : Cond.fieldLink RX5 44 "PushBoards" "latest" "LPushBoards$Search;" ∈ wAll := inC1 213 rfl rfl
theorem wc_X4_run : Cond.code yX4_run cX4_run 5 (some .int) ∈ wAll := inC3 24 rfl rfl
theorem wm_X4_run : Cond.instanceMethod yX4_run ∈ wAll := inC3 22 rfl rfl
theorem wl_X4_run : Cond.selects RX4 yX4_run yX4_run ∈ wAll := inC3 23 rfl rfl
theorem lk_X5_210 : gLV RX5 210 RX4 yX4_run cX4_run 5 (some .int) 2 := ⟨⟨(inC3 21 rfl rfl), wm_X4_run, wl_X4_run⟩, wi_X4, wc_X4_run, by decide +kernel, by decide +kernel, by decide +kernel⟩
theorem fl_X5_214 : Cond.fieldLink RX5 214 "PushBoards$Search" "length" "I" ∈ wAll := inC1 179 rfl rfl
theorem wc_X4_pushAt : Cond.code yX4_pushAt cX4_pushAt 4 (some .int) ∈ wAll := inC3 89 rfl rfl
theorem wm_X4_pushAt : Cond.instanceMethod yX4_pushAt ∈ wAll := inC3 87 rfl rfl
theorem wl_X4_pushAt : Cond.selects RX4 yX4_pushAt yX4_pushAt ∈ wAll := inC3 88 rfl rfl
theorem lk_X5_217 : gLV RX5 217 RX4 yX4_pushAt cX4_pushAt 4 (some .int) 1 := ⟨⟨(inC3 86 rfl rfl), wm_X4_pushAt, wl_X4_pushAt⟩, wi_X4, wc_X4_pushAt, by decide +kernel, by decide +kernel, by decide +kernel⟩
theorem fl_X5_220 : Cond.fieldLink RX5 220 "PushBoards$Search" "count" "I" ∈ wAll := inC1 177 rfl rfl
theorem fl_X6_42 : Cond.fieldLink RX6 42 "PushBoardsModel" "thrown" "I" ∈ wAll := inC3 229 rfl rfl
theorem fl_X6_46 : Cond.fieldLink RX6 46 "PushBoardsModel" "width" "I" ∈ wAll := inC3 233 rfl rfl
theorem fl_X6_49 : Cond.fieldLink RX6 49 "PushBoardsModel" "height" "I" ∈ wAll := inC3 234 rfl rfl
theorem wi_X6 : Cond.initialized RX6 ∈ wAll := inC1 7 rfl rfl
theorem wc_X6_isCell : Cond.code yX6_isCell cX6_isCell 3 (some .boolean) ∈ wAll := inC4 121 rfl rfl
theorem wm_X6_isCell : Cond.instanceMethod yX6_isCell ∈ wAll := inC4 120 rfl rfl
theorem wl_X6_isCell : Cond.selects RX6 yX6_isCell yX6_isCell ∈ wAll := inL (by decide +kernel) rfl
theorem lk_X6_52 : gLV RX6 52 RX6 yX6_isCell cX6_isCell 3 (some .boolean) 2 := ⟨⟨(inC4 118 rfl rfl), wm_X6_isCell, wl_X6_isCell⟩, wi_X6, wc_X6_isCell, by decide +kernel, by decide +kernel, by decide +kernel⟩
theorem fl_X6_56 : Cond.fieldLink RX6 56 "PushBoardsModel" "size" "I" ∈ wAll := inC3 230 rfl rfl
theorem fl_X6_7 : Cond.fieldLink RX6 7 "PushBoardsModel" "text" "[I" ∈ wAll := inC3 231 rfl rfl
theorem fl_X6_69 : Cond.fieldLink RX6 69 "PushBoardsModel" "newPerson" "I" ∈ wAll := inC4 4 rfl rfl
theorem fl_X6_72 : Cond.fieldLink RX6 72 "PushBoardsModel" "newWidth" "I" ∈ wAll := inC4 5 rfl rfl
theorem fl_X6_66 : Cond.fieldLink RX6 66 "PushBoardsModel" "newBoxes" "J" ∈ wAll := inC4 3 rfl rfl
theorem fl_X6_63 : Cond.fieldLink RX6 63 "PushBoardsModel" "newGoals" "J" ∈ wAll := inC4 2 rfl rfl
theorem fl_X6_59 : Cond.fieldLink RX6 59 "PushBoardsModel" "newFloor" "J" ∈ wAll := inC4 1 rfl rfl
theorem wc_X6_countOf : Cond.code yX6_countOf cX6_countOf 4 (some .int) ∈ wAll := inC4 98 rfl rfl
theorem wm_X6_countOf : Cond.static yX6_countOf ∈ wAll := inC4 97 rfl rfl
theorem lk_X6_75 : gLS RX6 75 yX6_countOf cX6_countOf 4 (some .int) 1 := ⟨⟨(inC4 96 rfl rfl), wm_X6_countOf⟩, wi_X6, wc_X6_countOf, by decide +kernel, by decide +kernel, by decide +kernel⟩
theorem wc_X6_has : Cond.code yX6_has cX6_has 3 (some .boolean) ∈ wAll := inC4 101 rfl rfl
theorem wm_X6_has : Cond.static yX6_has ∈ wAll := inC4 100 rfl rfl
theorem lk_X6_90 : gLS RX6 90 yX6_has cX6_has 3 (some .boolean) 2 := ⟨⟨(inC4 99 rfl rfl), wm_X6_has⟩, wi_X6, wc_X6_has, by decide +kernel, by decide +kernel, by decide +kernel⟩
theorem fl_X6_87 : Cond.fieldLink RX6 87 "PushBoardsModel" "floor" "J" ∈ wAll := inC3 238 rfl rfl
theorem fl_X6_94 : Cond.fieldLink RX6 94 "PushBoardsModel" "goals" "J" ∈ wAll := inC3 239 rfl rfl
theorem fl_X6_97 : Cond.fieldLink RX6 97 "PushBoardsModel" "boxes" "J" ∈ wAll := inC4 0 rfl rfl
theorem fl_X6_100 : Cond.fieldLink RX6 100 "PushBoardsModel" "person" "I" ∈ wAll := inC3 235 rfl rfl
theorem fl_X6_103 : Cond.fieldLink RX6 103 "PushBoardsModel" "moves" "I" ∈ wAll := inC3 236 rfl rfl
theorem fl_X6_106 : Cond.fieldLink RX6 106 "PushBoardsModel" "pushes" "I" ∈ wAll := inC3 237 rfl rfl
theorem fl_X6_109 : Cond.fieldLink RX6 109 "PushBoardsModel" "kept" "I" ∈ wAll := inC4 6 rfl rfl
theorem fl_X6_83 : Cond.fieldLink RX6 83 "PushBoardsModel" "isBoard" "Z" ∈ wAll := inC3 232 rfl rfl
theorem wc_X6_look : Cond.code yX6_look cX6_look 10 (some .int) ∈ wAll := inC4 95 rfl rfl
theorem wm_X6_look : Cond.instanceMethod yX6_look ∈ wAll := inC4 94 rfl rfl
theorem wl_X6_look : Cond.selects RX6 yX6_look yX6_look ∈ wAll := inL (by decide +kernel) rfl
theorem lk_X6_79 : gLV RX6 79 RX6 yX6_look cX6_look 10 (some .int) 0 := ⟨⟨(inC4 92 rfl rfl), wm_X6_look, wl_X6_look⟩, wi_X6, wc_X6_look, by decide +kernel, by decide +kernel, by decide +kernel⟩
theorem fl_X6_13 : Cond.fieldLink RX6 13 "PushBoardsModel" "done" "[I" ∈ wAll := inC4 7 rfl rfl
theorem wc_X6_beside : Cond.code yX6_beside cX6_beside 5 (some .int) ∈ wAll := inC4 117 rfl rfl
theorem wm_X6_beside : Cond.instanceMethod yX6_beside ∈ wAll := inC4 116 rfl rfl
theorem wl_X6_beside : Cond.selects RX6 yX6_beside yX6_beside ∈ wAll := inL (by decide +kernel) rfl
theorem lk_X6_112 : gLV RX6 112 RX6 yX6_beside cX6_beside 5 (some .int) 2 := ⟨⟨(inC4 114 rfl rfl), wm_X6_beside, wl_X6_beside⟩, wi_X6, wc_X6_beside, by decide +kernel, by decide +kernel, by decide +kernel⟩
theorem cn_X6_116 : Cond.constantLong RX6 116 (-1) ∈ wAll := inC4 122 rfl rfl
theorem wc_X6_throwsIf : Cond.code yX6_throwsIf cX6_throwsIf 3 (some .boolean) ∈ wAll := inC4 109 rfl rfl
theorem wm_X6_throwsIf : Cond.instanceMethod yX6_throwsIf ∈ wAll := inC4 108 rfl rfl
theorem wl_X6_throwsIf : Cond.selects RX6 yX6_throwsIf yX6_throwsIf ∈ wAll := inL (by decide +kernel) rfl
theorem lk_X6_118 : gLV RX6 118 RX6 yX6_throwsIf cX6_throwsIf 3 (some .boolean) 2 := ⟨⟨(inC4 106 rfl rfl), wm_X6_throwsIf, wl_X6_throwsIf⟩, wi_X6, wc_X6_throwsIf, by decide +kernel, by decide +kernel, by decide +kernel⟩
theorem wc_X6_go : Cond.code yX6_go cX6_go 5 (some .int) ∈ wAll := inC4 113 rfl rfl
theorem wm_X6_go : Cond.instanceMethod yX6_go ∈ wAll := inC4 112 rfl rfl
theorem wl_X6_go : Cond.selects RX6 yX6_go yX6_go ∈ wAll := inL (by decide +kernel) rfl
theorem lk_X6_122 : gLV RX6 122 RX6 yX6_go cX6_go 5 (some .int) 1 := ⟨⟨(inC4 110 rfl rfl), wm_X6_go, wl_X6_go⟩, wi_X6, wc_X6_go, by decide +kernel, by decide +kernel, by decide +kernel⟩
theorem wc_X6_against : Cond.code yX6_against cX6_against 2 (some .int) ∈ wAll := inC4 130 rfl rfl
theorem wm_X6_against : Cond.instanceMethod yX6_against ∈ wAll := inC4 129 rfl rfl
theorem wl_X6_against : Cond.selects RX6 yX6_against yX6_against ∈ wAll := inL (by decide +kernel) rfl
theorem lk_X6_126 : gLV RX6 126 RX6 yX6_against cX6_against 2 (some .int) 1 := ⟨⟨(inC4 127 rfl rfl), wm_X6_against, wl_X6_against⟩, wi_X6, wc_X6_against, by decide +kernel, by decide +kernel, by decide +kernel⟩
theorem wc_X6_wayOf : Cond.code yX6_wayOf cX6_wayOf 1 (some .int) ∈ wAll := inC4 137 rfl rfl
theorem wm_X6_wayOf : Cond.static yX6_wayOf ∈ wAll := inC4 136 rfl rfl
theorem lk_X6_129 : gLS RX6 129 yX6_wayOf cX6_wayOf 1 (some .int) 1 := ⟨⟨(inC4 135 rfl rfl), wm_X6_wayOf⟩, wi_X6, wc_X6_wayOf, by decide +kernel, by decide +kernel, by decide +kernel⟩
theorem wc_X6_number : Cond.code yX6_number cX6_number 2 (some .int) ∈ wAll := inC4 145 rfl rfl
theorem wm_X6_number : Cond.instanceMethod yX6_number ∈ wAll := inC4 144 rfl rfl
theorem wl_X6_number : Cond.selects RX6 yX6_number yX6_number ∈ wAll := inL (by decide +kernel) rfl
theorem lk_X6_132 : gLV RX6 132 RX6 yX6_number cX6_number 2 (some .int) 1 := ⟨⟨(inC4 142 rfl rfl), wm_X6_number, wl_X6_number⟩, wi_X6, wc_X6_number, by decide +kernel, by decide +kernel, by decide +kernel⟩
theorem wc_X6_isDone : Cond.code yX6_isDone cX6_isDone 3 (some .boolean) ∈ wAll := inC4 149 rfl rfl
theorem wm_X6_isDone : Cond.instanceMethod yX6_isDone ∈ wAll := inC4 148 rfl rfl
theorem wl_X6_isDone : Cond.selects RX6 yX6_isDone yX6_isDone ∈ wAll := inL (by decide +kernel) rfl
theorem lk_X6_135 : gLV RX6 135 RX6 yX6_isDone cX6_isDone 3 (some .boolean) 1 := ⟨⟨(inC4 146 rfl rfl), wm_X6_isDone, wl_X6_isDone⟩, wi_X6, wc_X6_isDone, by decide +kernel, by decide +kernel, by decide +kernel⟩
theorem wc_X6_reachOf : Cond.code yX6_reachOf cX6_reachOf 10 (some .long) ∈ wAll := inC4 165 rfl rfl
theorem wm_X6_reachOf : Cond.instanceMethod yX6_reachOf ∈ wAll := inC4 164 rfl rfl
theorem wl_X6_reachOf : Cond.selects RX6 yX6_reachOf yX6_reachOf ∈ wAll := inL (by decide +kernel) rfl
theorem lk_X6_139 : gLV RX6 139 RX6 yX6_reachOf cX6_reachOf 10 (some .long) 2 := ⟨⟨(inC4 162 rfl rfl), wm_X6_reachOf, wl_X6_reachOf⟩, wi_X6, wc_X6_reachOf, by decide +kernel, by decide +kernel, by decide +kernel⟩
theorem fl_X6_36 : Cond.fieldLink RX6 36 "PushBoardsModel" "far" "[I" ∈ wAll := inC4 17 rfl rfl
theorem wc_X6_live : Cond.code yX6_live cX6_live 7 (some .long) ∈ wAll := inC4 177 rfl rfl
theorem wm_X6_live : Cond.instanceMethod yX6_live ∈ wAll := inC4 176 rfl rfl
theorem wl_X6_live : Cond.selects RX6 yX6_live yX6_live ∈ wAll := inL (by decide +kernel) rfl
theorem lk_X6_143 : gLV RX6 143 RX6 yX6_live cX6_live 7 (some .long) 0 := ⟨⟨(inC4 174 rfl rfl), wm_X6_live, wl_X6_live⟩, wi_X6, wc_X6_live, by decide +kernel, by decide +kernel, by decide +kernel⟩
theorem wc_X6_canGo : Cond.code yX6_canGo cX6_canGo 9 (some .boolean) ∈ wAll := inC4 189 rfl rfl
theorem wm_X6_canGo : Cond.instanceMethod yX6_canGo ∈ wAll := inC4 188 rfl rfl
theorem wl_X6_canGo : Cond.selects RX6 yX6_canGo yX6_canGo ∈ wAll := inL (by decide +kernel) rfl
theorem lk_X6_147 : gLV RX6 147 RX6 yX6_canGo cX6_canGo 9 (some .boolean) 4 := ⟨⟨(inC4 186 rfl rfl), wm_X6_canGo, wl_X6_canGo⟩, wi_X6, wc_X6_canGo, by decide +kernel, by decide +kernel, by decide +kernel⟩
theorem wc_X6_fastOf : Cond.code yX6_fastOf cX6_fastOf 10 (some .long) ∈ wAll := inC4 185 rfl rfl
theorem wm_X6_fastOf : Cond.instanceMethod yX6_fastOf ∈ wAll := inC4 184 rfl rfl
theorem wl_X6_fastOf : Cond.selects RX6 yX6_fastOf yX6_fastOf ∈ wAll := inL (by decide +kernel) rfl
theorem lk_X6_151 : gLV RX6 151 RX6 yX6_fastOf cX6_fastOf 10 (some .long) 2 := ⟨⟨(inC4 182 rfl rfl), wm_X6_fastOf, wl_X6_fastOf⟩, wi_X6, wc_X6_fastOf, by decide +kernel, by decide +kernel, by decide +kernel⟩
theorem wc_X6_measure : Cond.code yX6_measure cX6_measure 6 none ∈ wAll := inC4 201 rfl rfl
theorem wm_X6_measure : Cond.instanceMethod yX6_measure ∈ wAll := inC4 200 rfl rfl
theorem wl_X6_measure : Cond.selects RX6 yX6_measure yX6_measure ∈ wAll := inL (by decide +kernel) rfl
theorem lk_X6_155 : gLV RX6 155 RX6 yX6_measure cX6_measure 6 none 1 := ⟨⟨(inC4 198 rfl rfl), wm_X6_measure, wl_X6_measure⟩, wi_X6, wc_X6_measure, by decide +kernel, by decide +kernel, by decide +kernel⟩
theorem fl_X6_39 : Cond.fieldLink RX6 39 "PushBoardsModel" "least" "[I" ∈ wAll := inC4 18 rfl rfl
theorem wc_X6_goalAt : Cond.code yX6_goalAt cX6_goalAt 4 (some .int) ∈ wAll := inC4 209 rfl rfl
theorem wm_X6_goalAt : Cond.instanceMethod yX6_goalAt ∈ wAll := inC4 208 rfl rfl
theorem wl_X6_goalAt : Cond.selects RX6 yX6_goalAt yX6_goalAt ∈ wAll := inL (by decide +kernel) rfl
theorem lk_X6_159 : gLV RX6 159 RX6 yX6_goalAt cX6_goalAt 4 (some .int) 1 := ⟨⟨(inC4 206 rfl rfl), wm_X6_goalAt, wl_X6_goalAt⟩, wi_X6, wc_X6_goalAt, by decide +kernel, by decide +kernel, by decide +kernel⟩
theorem cn_X6_29 : Cond.constant RX6 29 (32768) ∈ wAll := inC3 228 rfl rfl
theorem fl_X6_30 : Cond.fieldLink RX6 30 "PushBoardsModel" "seats" "[I" ∈ wAll := inC4 15 rfl rfl
theorem fl_X6_16 : Cond.fieldLink RX6 16 "PushBoardsModel" "stateBoxes" "[J" ∈ wAll := inC4 11 rfl rfl
theorem fl_X6_20 : Cond.fieldLink RX6 20 "PushBoardsModel" "stateCell" "[I" ∈ wAll := inC4 12 rfl rfl
theorem cn_X6_162 : Cond.constantLong RX6 162 (31) ∈ wAll := inC4 229 rfl rfl
theorem cn_X6_164 : Cond.constantLong RX6 164 (32767) ∈ wAll := inC4 230 rfl rfl
theorem wc_X6_leastOf : Cond.code yX6_leastOf cX6_leastOf 3 (some .int) ∈ wAll := inC4 224 rfl rfl
theorem wm_X6_leastOf : Cond.static yX6_leastOf ∈ wAll := inC4 223 rfl rfl
theorem lk_X6_166 : gLS RX6 166 yX6_leastOf cX6_leastOf 3 (some .int) 1 := ⟨⟨(inC4 222 rfl rfl), wm_X6_leastOf⟩, wi_X6, wc_X6_leastOf, by decide +kernel, by decide +kernel, by decide +kernel⟩
theorem wc_X6_seatOf : Cond.code yX6_seatOf cX6_seatOf 7 (some .int) ∈ wAll := inC4 228 rfl rfl
theorem wm_X6_seatOf : Cond.instanceMethod yX6_seatOf ∈ wAll := inC4 227 rfl rfl
theorem wl_X6_seatOf : Cond.selects RX6 yX6_seatOf yX6_seatOf ∈ wAll := inL (by decide +kernel) rfl
theorem lk_X6_169 : gLV RX6 169 RX6 yX6_seatOf cX6_seatOf 7 (some .int) 2 := ⟨⟨(inC4 225 rfl rfl), wm_X6_seatOf, wl_X6_seatOf⟩, wi_X6, wc_X6_seatOf, by decide +kernel, by decide +kernel, by decide +kernel⟩
theorem fl_X6_173 : Cond.fieldLink RX6 173 "PushBoardsModel" "many" "I" ∈ wAll := inC4 8 rfl rfl
theorem fl_X6_23 : Cond.fieldLink RX6 23 "PushBoardsModel" "from" "[I" ∈ wAll := inC4 13 rfl rfl
theorem fl_X6_26 : Cond.fieldLink RX6 26 "PushBoardsModel" "by" "[I" ∈ wAll := inC4 14 rfl rfl
theorem wc_X6_isNew : Cond.code yX6_isNew cX6_isNew 8 (some .boolean) ∈ wAll := inC4 221 rfl rfl
theorem wm_X6_isNew : Cond.instanceMethod yX6_isNew ∈ wAll := inC4 220 rfl rfl
theorem wl_X6_isNew : Cond.selects RX6 yX6_isNew yX6_isNew ∈ wAll := inL (by decide +kernel) rfl
theorem lk_X6_176 : gLV RX6 176 RX6 yX6_isNew cX6_isNew 8 (some .boolean) 4 := ⟨⟨(inC4 218 rfl rfl), wm_X6_isNew, wl_X6_isNew⟩, wi_X6, wc_X6_isNew, by decide +kernel, by decide +kernel, by decide +kernel⟩
theorem fl_X6_186 : Cond.fieldLink RX6 186 "PushBoardsModel" "length" "I" ∈ wAll := inC4 10 rfl rfl
theorem fl_X6_33 : Cond.fieldLink RX6 33 "PushBoardsModel" "path" "[I" ∈ wAll := inC4 16 rfl rfl
theorem fl_X6_183 : Cond.fieldLink RX6 183 "PushBoardsModel" "taken" "I" ∈ wAll := inC4 9 rfl rfl
theorem wc_X6_spread : Cond.code yX6_spread cX6_spread 14 (some .int) ∈ wAll := inC4 217 rfl rfl
theorem wm_X6_spread : Cond.instanceMethod yX6_spread ∈ wAll := inC4 216 rfl rfl
theorem wl_X6_spread : Cond.selects RX6 yX6_spread yX6_spread ∈ wAll := inL (by decide +kernel) rfl
theorem lk_X6_180 : gLV RX6 180 RX6 yX6_spread cX6_spread 14 (some .int) 1 := ⟨⟨(inC4 214 rfl rfl), wm_X6_spread, wl_X6_spread⟩, wi_X6, wc_X6_spread, by decide +kernel, by decide +kernel, by decide +kernel⟩
abbrev cI (G : gEnv) (h n : Nat) (f : Nat → Int32) : Nat × va_E := (h, .inl (G.2.1.1, n, .inl f))
abbrev cJ (G : gEnv) (h n : Nat) (f : Nat → Int64) : Nat × va_E := (h, .inl (G.2.1.2.1, n, .inr (.inl f)))
abbrev cZ (G : gEnv) (h n : Nat) (f : Nat → Int32) : Nat × va_E := (h, .inl (G.2.1.2.2, n, .inl f))
abbrev cPB (h : Nat) (f_text : Nat) (f_textLength : Int32) (f_drawn : Nat) (f_board : Nat) (f_log : Nat) (f_matching : Nat) (f_latest : Nat) : Nat × va_E := (h, .inr (5, [.ref f_text, .int f_textLength, .ref f_drawn, .ref f_board, .ref f_log, .ref f_matching, .ref f_latest]))
abbrev cPI (h : Nat) (f_width : Int32) (f_height : Int32) (f_walls : Int64) (f_goals : Int64) (f_boxes : Int64) (f_person : Int64) (f_x : Int32) (f_endedRows : Int32) : Nat × va_E := (h, .inr (3, [.int f_width, .int f_height, .long f_walls, .long f_goals, .long f_boxes, .long f_person, .int f_x, .int f_endedRows]))
abbrev cBO (h : Nat) (f_width : Int32) (f_height : Int32) (f_floor : Int64) (f_goals : Int64) (f_live : Int64) (f_boxes : Int64) (f_person : Int64) (f_boxSteps : Nat) (f_liveBesideInRow : Int64) (f_liveBesideInColumn : Int64) : Nat × va_E := (h, .inr (0, [.int f_width, .int f_height, .long f_floor, .long f_goals, .long f_live, .long f_boxes, .long f_person, .ref f_boxSteps, .long f_liveBesideInRow, .long f_liveBesideInColumn]))
abbrev cLO (h : Nat) (f_kept : Int32) (f_moves : Int32) (f_pushed : Int32) (f_marks : Nat) (f_end : Int32) : Nat × va_E := (h, .inr (1, [.int f_kept, .int f_moves, .int f_pushed, .ref f_marks, .int f_end]))
abbrev cMT (h : Nat) (f_costs : Nat) (f_goalLevel : Nat) (f_boxLevel : Nat) (f_goalOfBox : Nat) (f_boxBefore : Nat) (f_slack : Nat) (f_seen : Nat) : Nat × va_E := (h, .inr (2, [.ref f_costs, .ref f_goalLevel, .ref f_boxLevel, .ref f_goalOfBox, .ref f_boxBefore, .ref f_slack, .ref f_seen]))
abbrev cSE (h : Nat) (f_count : Int32) (f_length : Int32) (f_boxesOf : Nat) (f_lowestOf : Nat) (f_parentOf : Nat) (f_pushOf : Nat) (f_slots : Nat) (f_found : Int32) (f_overfull : Int32) : Nat × va_E := (h, .inr (4, [.int f_count, .int f_length, .ref f_boxesOf, .ref f_lowestOf, .ref f_parentOf, .ref f_pushOf, .ref f_slots, .int f_found, .int f_overfull]))
abbrev cMO (h : Nat) (f_thrown : Int32) (f_size : Int32) (f_text : Nat) (f_isBoard : Int32) (f_width : Int32) (f_height : Int32) (f_person : Int32) (f_moves : Int32) (f_pushes : Int32) (f_floor : Int64) (f_goals : Int64) (f_boxes : Int64) (f_newFloor : Int64) (f_newGoals : Int64) (f_newBoxes : Int64) (f_newPerson : Int32) (f_newWidth : Int32) (f_kept : Int32) (f_done : Nat) (f_many : Int32) (f_taken : Int32) (f_length : Int32) (f_stateBoxes : Nat) (f_stateCell : Nat) (f_from : Nat) (f_by : Nat) (f_seats : Nat) (f_path : Nat) (f_far : Nat) (f_least : Nat) : Nat × va_E := (h, .inr (6, [.int f_thrown, .int f_size, .ref f_text, .int f_isBoard, .int f_width, .int f_height, .int f_person, .int f_moves, .int f_pushes, .long f_floor, .long f_goals, .long f_boxes, .long f_newFloor, .long f_newGoals, .long f_newBoxes, .int f_newPerson, .int f_newWidth, .int f_kept, .ref f_done, .int f_many, .int f_taken, .int f_length, .ref f_stateBoxes, .ref f_stateCell, .ref f_from, .ref f_by, .ref f_seats, .ref f_path, .ref f_far, .ref f_least]))
section GM
variable {p : Program} {l : Launch} {e : Env} {R : Room} {s : State} {m : MethodId} {args : Array Value} {below : List Frame} {meth : Method} {c : Code} {H : Heap} {locs : List Loc} {cells slots : Nat} {Q : State → Prop}
variable {cc : ByteArray} {nL : Nat} {own : String} {ret : Option FieldType} {G : gEnv} {A : Nat → Prop} {pc : Nat} {ls : Array Slot} {rest : List Value} {index : Nat}
theorem g_mmax (X : gX p m meth c cc nL own ret s args G A) (hz : ls.size = nL) (hlink : Cond.methodLink own index Lib.Math.max.name ∈ wAll) (hframes : 1 ≤ R.frames) (hlocals : (rest.map fun v => v.category).sum + 13 ≤ R.locals) (hc : cells ≤ R.cells) (hs : slots ≤ R.slots) {x y : Int32} (hdg : decode cc pc = .ok (.invokestatic index, 3))
    (kk : W p l e R s m args below meth c H locs cells slots Q (F0 m (pc + 3) ls (.int (if x < y then y else x) :: rest))) : W p l e R s m args below meth c H locs cells slots Q (F0 m pc ls (.int y :: .int x :: rest)) :=
  va_mmax X.1 X.2.1 (X.2.2.1.trans hz.symm) X.2.2.2.1 (X.2.2.2.2.1 _ hlink) (X.2.2.2.2.1 _ ws_max) (X.2.2.2.2.1 _ wi_math) (X.2.2.2.2.1 _ wc_max) hframes hlocals hc hs hdg kk
theorem g_mmin (X : gX p m meth c cc nL own ret s args G A) (hz : ls.size = nL) (hlink : Cond.methodLink own index Lib.Math.min.name ∈ wAll) (hframes : 1 ≤ R.frames) (hlocals : (rest.map fun v => v.category).sum + 13 ≤ R.locals) (hc : cells ≤ R.cells) (hs : slots ≤ R.slots) {x y : Int32} (hdg : decode cc pc = .ok (.invokestatic index, 3))
    (kk : W p l e R s m args below meth c H locs cells slots Q (F0 m (pc + 3) ls (.int (if y < x then y else x) :: rest))) : W p l e R s m args below meth c H locs cells slots Q (F0 m pc ls (.int y :: .int x :: rest)) :=
  va_mmin X.1 X.2.1 (X.2.2.1.trans hz.symm) X.2.2.2.1 (X.2.2.2.2.1 _ hlink) (X.2.2.2.2.1 _ ws_min) (X.2.2.2.2.1 _ wi_math) (X.2.2.2.2.1 _ wc_min) hframes hlocals hc hs hdg kk
end GM
end
section
def gEx (k : Int32) : String := if k = 1 then "java/lang/ArrayIndexOutOfBoundsException" else "java/lang/IllegalStateException"
def gXC {S : Type} (G : gEnv) (px : Int32 → S → Prop) (w1 : S → va_W) (A : Nat → Prop) : String → State → State → Prop := vx_X (fun u : Int32 × S => px u.1 u.2) (fun E u t => E = gEx u.1 ∧ va_P G.1 gCl (w1 u.2) t.heap ∧ va_D A (w1 u.2)) A
section GE
variable {p : Program} {l : Launch} {e : Env} {R : Room} {s : State} {m : MethodId} {args : Array Value} {below : List Frame} {meth : Method} {c : Code} {H : Heap} {locs : List Loc} {cells slots : Nat} {Q : State → Prop}
variable {cc : ByteArray} {nL : Nat} {own : String} {ret : Option FieldType} {G : gEnv} {A : Nat → Prop} {pc : Nat} {ls : Array Slot} {rest : List Value} {ws : va_W} {a : Nat}
theorem g_xc {S : Type} {px : Int32 → S → Prop} {w1 : S → va_W} (k : Int32) {E : String} (hE : E = gEx k) (u : S) (hp : px k u) (hP : va_P G.1 gCl (w1 u) H) (hD : va_D A (w1 u)) (hS : va_S A s.heap H locs) : ∀ t : State, s.vm.Alike t.vm → H.size ≤ t.heap.size → (∀ q : Nat, q < H.size → t.heap[q]? = H[q]?) → gXC G px w1 A E s t :=
  fun t _ hz hq => ⟨(k, u), hp, ⟨hE, hP.kept (fun j q hj => hq q.1 (hP j q hj).lt), hD⟩, Nat.le_trans hS.1 hz, fun q h1 h2 => (hq q (Nat.lt_of_lt_of_le h1 hS.1)).trans (hS.2.1 q h1 h2)⟩
theorem g_hat (X : gX p m meth c cc nL own ret s args G A) {L : List Cond} (h1 : ∀ w ∈ L.filter goodWord, w ∈ lw_tbl) (h2 : ∀ w ∈ L.filter (fun w => !goodWord w), w ∈ gDW) : ∀ w ∈ L, w.before args s = true :=
  vx_hat (fun w hw => X.2.2.2.2.1 w (List.mem_filter.mpr ⟨h1 w hw, (List.mem_filter.mp hw).2⟩)) h2 (X.k.2.2.2.2.dw)
variable {y : MethodName} {bytes : ByteArray} {maxL mc ms n index : Nat} {rt : Option FieldType} {rm : Room} {Qc : Array Value → State → Outcome → State → Prop} {XC : String → State → State → Prop} {free : Addr → Prop} {C : String} {b : Addr} {As : List Value} {wc wr : va_W} {st0 : List Value}
theorem g_rVx (X : gX p m meth c cc nL own ret s args G A) (hM : vx_Met l y (Cond.code y bytes maxL rt :: wAll) rm (gPc G (.ref b :: As) wc H.size) Qc XC mc ms free) (k : gLV own index C y bytes maxL rt n) (hrc : rm.cells = mc) (hrs : rm.slots = ms) (hR : rm.frames + 1 ≤ R.frames ∧ 8 + (maxL + 11) + rm.locals ≤ R.locals)
    (hP : va_P G.1 gCl ws H) (hD : va_D A ws) (hS : va_S A s.heap H locs) (isC : List Nat) (hC : isC.map (fun i => ws[i]?) = wc.map some) (hnd : va_nd isC = true) (q0 ci : Nat) {T : u_T} {N : Nat} {fs : List Value} (hci : gCl[ci]? = some (C, T, N)) (he : ws[q0]? = some (b, .inr (ci, fs)))
    (hn : As.length = n) (hsize : ls.size = nL) (hstack : st0 = As.reverse ++ .ref b :: rest) (hW : (rest.map fun v => v.category).sum ≤ 8) (hdg : decode cc pc = .ok (.invokevirtual index, 3)) (hf : cells + mc ≤ R.cells ∧ slots + ms ≤ R.slots) :
    vx_Run p l e R s m args below meth c H locs cells slots mc ms (F0 m pc ls st0) rest (Qc (Value.ref b :: As).toArray) XC free := by
  have hts := X.2.2.2.2.1
  exact vx_runV X.fix hM ⟨⟨hrc, hrs, hR.1, hR.2, g_pay X k.2.2.1, List.mem_cons_self, hts _ k.2.2.1, hts _ k.2.1, ⟨k.2.2.2.1, k.2.2.2.2.1⟩, g_sig k.2.2.2.2.2, hts _ k.1.1⟩, hts _ k.1.2.1, hts _ k.1.2.2⟩ ⟨gPc.blind, va_recv X.k.1 hP hci he, g_pre X hP hD hS isC hC hnd⟩ rfl hn hsize hstack (lv_room hW) hdg hf
theorem g_xl {S : Type} {post : Int64 → S → Prop} {px : Int32 → S → Prop} {w1 : S → va_W} {av : Array Value} (X : gX p m meth c cc nL own ret s args G A) (isC isR : List Nat) (hr : vx_Run p l e R s m args below meth c H locs cells slots mc ms (F0 m pc ls st0) rest (gQl G post w1 (va_A wc H.size) av) (gXC G px w1 (va_A wc H.size)) (va_A wc H.size)) (hP : va_P G.1 gCl ws H) (hD : va_D A ws) (hS : va_S A s.heap H locs)
    (hC : isC.map (fun i => ws[i]?) = wc.map some) (hRr : isR.map (fun i => ws[i]?) = wr.map some) (hn : va_nd isR = true) (hdis : ∀ i ∈ isR, i ∉ isC)
    (kx : ∀ (E : String) (ce : Cell) (q9 : Addr) (k : Int32) (u : S) (H1 : Heap) (locs1 : List Loc), px k u → E = gEx k → va_P G.1 gCl (wr ++ w1 u) H1 → va_D A (wr ++ w1 u) → va_S A s.heap H1 locs1 → H1[q9]? = some ce → ce.vm = .none → s.vm.findClass E = some ce.cls → vx_W p l e R s m args below meth c H1 locs1 (cells + mc) (slots + ms) Q (F0 m pc ls rest) q9)
    (kk : ∀ (r : Int64) (u : S) (H1 : Heap) (locs1 : List Loc), post r u → va_P G.1 gCl (wr ++ w1 u) H1 → va_D A (wr ++ w1 u) → va_S A s.heap H1 locs1 → W p l e R s m args below meth c H1 locs1 (cells + mc) (slots + ms) Q (F0 m (pc + 3) ls (.long r :: rest))) : W p l e R s m args below meth c H locs cells slots Q (F0 m pc ls st0) := by
  have hFc := va_free (wc := wc) hD hS X.hA isC hC
  refine vx_calll hr hS (fun q _ h => hFc q h) hFc (fun q _ h => hFc q h) (fun E ce q9 u t H1 locs1 ht hvm hw hB hz1 hk1 hS1 h7 h8 h9 => ?_) (fun r u t H1 locs1 ht hvm hw hB hz1 hk1 hS1 => ?_)
  · obtain ⟨hE, hP1, hD1⟩ := hB
    rw [ht] at hP1
    obtain ⟨hP2, hD2⟩ := va_join (wr := wr) (w1 := w1 u.2) hP hD isC isR hC hRr hn hdis hk1 hFc hP1 hD1
    exact kx E ce q9 u.1 u.2 H1 locs1 hw hE hP2 hD2 hS1 h7 h8 h9
  · obtain ⟨hP1, hD1⟩ := hB
    rw [ht] at hP1
    obtain ⟨hP2, hD2⟩ := va_join (wr := wr) (w1 := w1 u) hP hD isC isR hC hRr hn hdis hk1 hFc hP1 hD1
    exact kk r u H1 locs1 hw hP2 hD2 hS1
theorem g_xi {S : Type} {post : Int32 → S → Prop} {px : Int32 → S → Prop} {w1 : S → va_W} {av : Array Value} (X : gX p m meth c cc nL own ret s args G A) (isC isR : List Nat) (hr : vx_Run p l e R s m args below meth c H locs cells slots mc ms (F0 m pc ls st0) rest (gQi G post w1 (va_A wc H.size) av) (gXC G px w1 (va_A wc H.size)) (va_A wc H.size)) (hP : va_P G.1 gCl ws H) (hD : va_D A ws) (hS : va_S A s.heap H locs)
    (hC : isC.map (fun i => ws[i]?) = wc.map some) (hRr : isR.map (fun i => ws[i]?) = wr.map some) (hn : va_nd isR = true) (hdis : ∀ i ∈ isR, i ∉ isC)
    (kx : ∀ (E : String) (ce : Cell) (q9 : Addr) (k : Int32) (u : S) (H1 : Heap) (locs1 : List Loc), px k u → E = gEx k → va_P G.1 gCl (wr ++ w1 u) H1 → va_D A (wr ++ w1 u) → va_S A s.heap H1 locs1 → H1[q9]? = some ce → ce.vm = .none → s.vm.findClass E = some ce.cls → vx_W p l e R s m args below meth c H1 locs1 (cells + mc) (slots + ms) Q (F0 m pc ls rest) q9)
    (kk : ∀ (r : Int32) (u : S) (H1 : Heap) (locs1 : List Loc), post r u → va_P G.1 gCl (wr ++ w1 u) H1 → va_D A (wr ++ w1 u) → va_S A s.heap H1 locs1 → W p l e R s m args below meth c H1 locs1 (cells + mc) (slots + ms) Q (F0 m (pc + 3) ls (.int r :: rest))) : W p l e R s m args below meth c H locs cells slots Q (F0 m pc ls st0) := by
  have hFc := va_free (wc := wc) hD hS X.hA isC hC
  refine vx_calli hr hS (fun q _ h => hFc q h) hFc (fun q _ h => hFc q h) (fun E ce q9 u t H1 locs1 ht hvm hw hB hz1 hk1 hS1 h7 h8 h9 => ?_) (fun r u t H1 locs1 ht hvm hw hB hz1 hk1 hS1 => ?_)
  · obtain ⟨hE, hP1, hD1⟩ := hB
    rw [ht] at hP1
    obtain ⟨hP2, hD2⟩ := va_join (wr := wr) (w1 := w1 u.2) hP hD isC isR hC hRr hn hdis hk1 hFc hP1 hD1
    exact kx E ce q9 u.1 u.2 H1 locs1 hw hE hP2 hD2 hS1 h7 h8 h9
  · obtain ⟨hP1, hD1⟩ := hB
    rw [ht] at hP1
    obtain ⟨hP2, hD2⟩ := va_join (wr := wr) (w1 := w1 u) hP hD isC isR hC hRr hn hdis hk1 hFc hP1 hD1
    exact kk r u H1 locs1 hw hP2 hD2 hS1
/-- an exception that a callee threw goes on out of this method -/
theorem g_pass {S : Type} {px : Int32 → S → Prop} {w1 : S → va_W} {q : Addr} {ce : Cell} {E : String} (X : gX p m meth c cc nL own ret s args G A) (hET : ∀ x ∈ c.exceptionTable.toList, False) (k : Int32) (hE : E = gEx k) (u : S) (hp : px k u) (hP : va_P G.1 gCl (w1 u) H) (hD : va_D A (w1 u)) (hS : va_S A s.heap H locs) (h7 : H[q]? = some ce) (h8 : ce.vm = .none) (h9 : s.vm.findClass E = some ce.cls) (hc : cells ≤ mc) (hs : slots ≤ ms) : vx_W p l e R s m args below meth c H locs cells slots (vx_MQ below Qc (gXC G px w1 A) args s mc ms A) (F0 m pc ls rest) q :=
  vx_out (fun x hx => (hET x hx).elim) X.lk h7 h8 h9 (fun t ht hvm => g_xc k hE u hp hP hD hS t hvm (by rw [ht]; exact Nat.le_refl _) (fun q _ => by rw [ht])) hS.2.2 hc hs
end GE
abbrev gNmI : List String := ["java/lang/IndexOutOfBoundsException", "java/lang/RuntimeException", "java/lang/Exception"]
abbrev gNmS : List String := ["java/lang/RuntimeException", "java/lang/Exception"]
theorem at_I1 : ∀ w ∈ (vx_atS RX5 109 "java/lang/ArrayIndexOutOfBoundsException" gNmI).filter goodWord, w ∈ lw_tbl := by decide +kernel
theorem at_I2 : ∀ w ∈ (vx_atS RX5 109 "java/lang/ArrayIndexOutOfBoundsException" gNmI).filter (fun w => !goodWord w), w ∈ gDW := by decide +kernel
theorem at_I3 : ∀ w ∈ Cond.classLink RX5 105 "java/lang/ArrayIndexOutOfBoundsException" :: Cond.initialized "java/lang/ArrayIndexOutOfBoundsException" :: vx_atS RX5 109 "java/lang/ArrayIndexOutOfBoundsException" gNmI, vx_ot w = true := by decide +kernel
theorem at_S1 : ∀ w ∈ (vx_atS RX5 102 "java/lang/IllegalStateException" gNmS).filter goodWord, w ∈ lw_tbl := by decide +kernel
theorem at_S2 : ∀ w ∈ (vx_atS RX5 102 "java/lang/IllegalStateException" gNmS).filter (fun w => !goodWord w), w ∈ gDW := by decide +kernel
theorem at_S3 : ∀ w ∈ Cond.classLink RX5 98 "java/lang/IllegalStateException" :: Cond.initialized "java/lang/IllegalStateException" :: vx_atS RX5 102 "java/lang/IllegalStateException" gNmS, vx_ot w = true := by decide +kernel
theorem cl_I : Cond.classLink RX5 105 "java/lang/ArrayIndexOutOfBoundsException" ∈ wAll := inC3 169 rfl rfl
theorem cl_S : Cond.classLink RX5 98 "java/lang/IllegalStateException" ∈ wAll := inC3 103 rfl rfl
theorem wi_I : Cond.initialized "java/lang/ArrayIndexOutOfBoundsException" ∈ wAll := inC1 15 rfl rfl
theorem wi_S : Cond.initialized "java/lang/IllegalStateException" ∈ wAll := inC1 13 rfl rfl
end
