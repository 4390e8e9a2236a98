section
-- ===== PART A: goes FIRST, ahead of the names: the tables' words, and 'selects' of the private methods out of them =====
/-- a private method of a class that the tables say can be made, by its rows of tables_1 -/
def lw_okq (q : MethodName × Nat) : Prop := (q.1.cls ≠ "java/lang/invoke/MethodHandle" ∧ q.1.cls ≠ "java/lang/invoke/VarHandle") ∧ Cond.instantiable q.1.cls q.2 ∈ tables_1 ∧ Cond.privateMethod q.1 ∈ tables_1 ∧ Cond.instanceMethod q.1 ∈ tables_1
theorem lw_p0 : lw_okq (⟨"java/lang/Throwable", "fillInStackTrace", "(I)Ljava/lang/Throwable;"⟩, 6) := ⟨⟨by decide +kernel, by decide +kernel⟩, List.mem_of_getElem? (i := 274) (by decide +kernel), List.mem_of_getElem? (i := 272) (by decide +kernel), List.mem_of_getElem? (i := 273) (by decide +kernel)⟩
theorem lw_p1 : lw_okq (⟨"KeyTour", "solved", "()LKeyTour$Tables;"⟩, 12) := ⟨⟨by decide +kernel, by decide +kernel⟩, List.mem_of_getElem? (i := 27) (by decide +kernel), List.mem_of_getElem? (i := 308) (by decide +kernel), List.mem_of_getElem? (i := 309) (by decide +kernel)⟩
theorem lw_p2 : lw_okq (⟨"KeyTour$Tables", "addWalks", "(IIJ)V"⟩, 7) := ⟨⟨by decide +kernel, by decide +kernel⟩, List.mem_of_getElem? (i := 146) (by decide +kernel), List.mem_of_getElem? (i := 323) (by decide +kernel), List.mem_of_getElem? (i := 324) (by decide +kernel)⟩
theorem lw_p3 : lw_okq (⟨"KeyTour$Level", "opens", "(III)Z"⟩, 15) := ⟨⟨by decide +kernel, by decide +kernel⟩, List.mem_of_getElem? (i := 52) (by decide +kernel), List.mem_of_getElem? (i := 338) (by decide +kernel), List.mem_of_getElem? (i := 339) (by decide +kernel)⟩
theorem lw_p4 : lw_okq (⟨"KeyTour$Tables", "spreadFrom", "(I[I)V"⟩, 7) := ⟨⟨by decide +kernel, by decide +kernel⟩, List.mem_of_getElem? (i := 146) (by decide +kernel), List.mem_of_getElem? (i := 342) (by decide +kernel), List.mem_of_getElem? (i := 343) (by decide +kernel)⟩
theorem lw_p5 : lw_okq (⟨"KeyTour$Tables", "toursOn", "(II)J"⟩, 7) := ⟨⟨by decide +kernel, by decide +kernel⟩, List.mem_of_getElem? (i := 146) (by decide +kernel), List.mem_of_getElem? (i := 354) (by decide +kernel), List.mem_of_getElem? (i := 355) (by decide +kernel)⟩
theorem lw_p6 : lw_okq (⟨"KeyTour", "record", "()V"⟩, 12) := ⟨⟨by decide +kernel, by decide +kernel⟩, List.mem_of_getElem? (i := 27) (by decide +kernel), List.mem_of_getElem? (i := 393) (by decide +kernel), List.mem_of_getElem? (i := 394) (by decide +kernel)⟩
theorem lw_p7 : lw_okq (⟨"KeyTour$Parser", "nextToken", "()V"⟩, 9) := ⟨⟨by decide +kernel, by decide +kernel⟩, List.mem_of_getElem? (i := 750) (by decide +kernel), List.mem_of_getElem? (i := 798) (by decide +kernel), List.mem_of_getElem? (i := 799) (by decide +kernel)⟩
theorem lw_p8 : lw_okq (⟨"KeyTour$Parser", "typeAt", "(I)I"⟩, 9) := ⟨⟨by decide +kernel, by decide +kernel⟩, List.mem_of_getElem? (i := 750) (by decide +kernel), List.mem_of_getElem? (i := 802) (by decide +kernel), List.mem_of_getElem? (i := 803) (by decide +kernel)⟩
theorem lw_p9 : lw_okq (⟨"KeyTour$Parser", "readStatement", "()Z"⟩, 9) := ⟨⟨by decide +kernel, by decide +kernel⟩, List.mem_of_getElem? (i := 750) (by decide +kernel), List.mem_of_getElem? (i := 807) (by decide +kernel), List.mem_of_getElem? (i := 808) (by decide +kernel)⟩
theorem lw_p10 : lw_okq (⟨"KeyTour$Parser", "isWord", "(J)Z"⟩, 9) := ⟨⟨by decide +kernel, by decide +kernel⟩, List.mem_of_getElem? (i := 750) (by decide +kernel), List.mem_of_getElem? (i := 812) (by decide +kernel), List.mem_of_getElem? (i := 813) (by decide +kernel)⟩
theorem lw_p11 : lw_okq (⟨"KeyTour$Parser", "readRoom", "()Z"⟩, 9) := ⟨⟨by decide +kernel, by decide +kernel⟩, List.mem_of_getElem? (i := 750) (by decide +kernel), List.mem_of_getElem? (i := 816) (by decide +kernel), List.mem_of_getElem? (i := 817) (by decide +kernel)⟩
theorem lw_p12 : lw_okq (⟨"KeyTour$Parser", "fail", "(I)Z"⟩, 9) := ⟨⟨by decide +kernel, by decide +kernel⟩, List.mem_of_getElem? (i := 750) (by decide +kernel), List.mem_of_getElem? (i := 820) (by decide +kernel), List.mem_of_getElem? (i := 821) (by decide +kernel)⟩
theorem lw_p13 : lw_okq (⟨"KeyTour$Parser", "isName", "()Z"⟩, 9) := ⟨⟨by decide +kernel, by decide +kernel⟩, List.mem_of_getElem? (i := 750) (by decide +kernel), List.mem_of_getElem? (i := 824) (by decide +kernel), List.mem_of_getElem? (i := 825) (by decide +kernel)⟩
theorem lw_p14 : lw_okq (⟨"KeyTour$Parser", "isKeyword", "()Z"⟩, 9) := ⟨⟨by decide +kernel, by decide +kernel⟩, List.mem_of_getElem? (i := 750) (by decide +kernel), List.mem_of_getElem? (i := 828) (by decide +kernel), List.mem_of_getElem? (i := 829) (by decide +kernel)⟩
theorem lw_p15 : lw_okq (⟨"KeyTour$Parser", "readKeys", "(I)Z"⟩, 9) := ⟨⟨by decide +kernel, by decide +kernel⟩, List.mem_of_getElem? (i := 750) (by decide +kernel), List.mem_of_getElem? (i := 847) (by decide +kernel), List.mem_of_getElem? (i := 848) (by decide +kernel)⟩
def lw_privs_1 : List (MethodName × Nat) := [(⟨"java/lang/Throwable", "fillInStackTrace", "(I)Ljava/lang/Throwable;"⟩, 6), (⟨"KeyTour", "solved", "()LKeyTour$Tables;"⟩, 12), (⟨"KeyTour$Tables", "addWalks", "(IIJ)V"⟩, 7), (⟨"KeyTour$Level", "opens", "(III)Z"⟩, 15), (⟨"KeyTour$Tables", "spreadFrom", "(I[I)V"⟩, 7), (⟨"KeyTour$Tables", "toursOn", "(II)J"⟩, 7), (⟨"KeyTour", "record", "()V"⟩, 12), (⟨"KeyTour$Parser", "nextToken", "()V"⟩, 9), (⟨"KeyTour$Parser", "typeAt", "(I)I"⟩, 9), (⟨"KeyTour$Parser", "readStatement", "()Z"⟩, 9), (⟨"KeyTour$Parser", "isWord", "(J)Z"⟩, 9), (⟨"KeyTour$Parser", "readRoom", "()Z"⟩, 9), (⟨"KeyTour$Parser", "fail", "(I)Z"⟩, 9), (⟨"KeyTour$Parser", "isName", "()Z"⟩, 9), (⟨"KeyTour$Parser", "isKeyword", "()Z"⟩, 9), (⟨"KeyTour$Parser", "readKeys", "(I)Z"⟩, 9)]
theorem lw_r1 : ∀ q ∈ lw_privs_1, lw_okq q := List.forall_mem_cons.mpr ⟨lw_p0, List.forall_mem_cons.mpr ⟨lw_p1, List.forall_mem_cons.mpr ⟨lw_p2, List.forall_mem_cons.mpr ⟨lw_p3, List.forall_mem_cons.mpr ⟨lw_p4, List.forall_mem_cons.mpr ⟨lw_p5, List.forall_mem_cons.mpr ⟨lw_p6, List.forall_mem_cons.mpr ⟨lw_p7, List.forall_mem_cons.mpr ⟨lw_p8, List.forall_mem_cons.mpr ⟨lw_p9, List.forall_mem_cons.mpr ⟨lw_p10, List.forall_mem_cons.mpr ⟨lw_p11, List.forall_mem_cons.mpr ⟨lw_p12, List.forall_mem_cons.mpr ⟨lw_p13, List.forall_mem_cons.mpr ⟨lw_p14, List.forall_mem_cons.mpr ⟨lw_p15, fun _ h => absurd h List.not_mem_nil⟩⟩⟩⟩⟩⟩⟩⟩⟩⟩⟩⟩⟩⟩⟩⟩
theorem lw_p16 : lw_okq (⟨"KeyTour$Parser", "fits", "(I)Z"⟩, 9) := ⟨⟨by decide +kernel, by decide +kernel⟩, List.mem_of_getElem? (i := 750) (by decide +kernel), List.mem_of_getElem? (i := 851) (by decide +kernel), List.mem_of_getElem? (i := 852) (by decide +kernel)⟩
theorem lw_p17 : lw_okq (⟨"KeyTour$Parser", "isSymbol", "(I)Z"⟩, 9) := ⟨⟨by decide +kernel, by decide +kernel⟩, List.mem_of_getElem? (i := 750) (by decide +kernel), List.mem_of_getElem? (i := 856) (by decide +kernel), List.mem_of_getElem? (i := 857) (by decide +kernel)⟩
theorem lw_p18 : lw_okq (⟨"KeyTour$Parser", "readCoins", "(I)Z"⟩, 9) := ⟨⟨by decide +kernel, by decide +kernel⟩, List.mem_of_getElem? (i := 750) (by decide +kernel), List.mem_of_getElem? (i := 860) (by decide +kernel), List.mem_of_getElem? (i := 861) (by decide +kernel)⟩
theorem lw_p19 : lw_okq (⟨"KeyTour$Parser", "readSemicolon", "()Z"⟩, 9) := ⟨⟨by decide +kernel, by decide +kernel⟩, List.mem_of_getElem? (i := 750) (by decide +kernel), List.mem_of_getElem? (i := 864) (by decide +kernel), List.mem_of_getElem? (i := 865) (by decide +kernel)⟩
theorem lw_p20 : lw_okq (⟨"KeyTour$Parser", "readDoor", "()Z"⟩, 9) := ⟨⟨by decide +kernel, by decide +kernel⟩, List.mem_of_getElem? (i := 750) (by decide +kernel), List.mem_of_getElem? (i := 868) (by decide +kernel), List.mem_of_getElem? (i := 869) (by decide +kernel)⟩
theorem lw_p21 : lw_okq (⟨"KeyTour$Parser", "toldRoom", "()I"⟩, 9) := ⟨⟨by decide +kernel, by decide +kernel⟩, List.mem_of_getElem? (i := 750) (by decide +kernel), List.mem_of_getElem? (i := 872) (by decide +kernel), List.mem_of_getElem? (i := 873) (by decide +kernel)⟩
theorem lw_p22 : lw_okq (⟨"KeyTour$Parser", "readLock", "(I)Z"⟩, 9) := ⟨⟨by decide +kernel, by decide +kernel⟩, List.mem_of_getElem? (i := 750) (by decide +kernel), List.mem_of_getElem? (i := 884) (by decide +kernel), List.mem_of_getElem? (i := 885) (by decide +kernel)⟩
theorem lw_p23 : lw_okq (⟨"KeyTour$Parser", "readOneway", "(I)Z"⟩, 9) := ⟨⟨by decide +kernel, by decide +kernel⟩, List.mem_of_getElem? (i := 750) (by decide +kernel), List.mem_of_getElem? (i := 892) (by decide +kernel), List.mem_of_getElem? (i := 893) (by decide +kernel)⟩
theorem lw_p24 : lw_okq (⟨"KeyTour$Parser", "readStart", "()Z"⟩, 9) := ⟨⟨by decide +kernel, by decide +kernel⟩, List.mem_of_getElem? (i := 750) (by decide +kernel), List.mem_of_getElem? (i := 896) (by decide +kernel), List.mem_of_getElem? (i := 897) (by decide +kernel)⟩
theorem lw_p25 : lw_okq (⟨"KeyTour$Parser", "readEnd", "()Z"⟩, 9) := ⟨⟨by decide +kernel, by decide +kernel⟩, List.mem_of_getElem? (i := 750) (by decide +kernel), List.mem_of_getElem? (i := 901) (by decide +kernel), List.mem_of_getElem? (i := 902) (by decide +kernel)⟩
theorem lw_p26 : lw_okq (⟨"KeyTour", "needRoom", "(I)V"⟩, 12) := ⟨⟨by decide +kernel, by decide +kernel⟩, List.mem_of_getElem? (i := 27) (by decide +kernel), List.mem_of_getElem? (i := 926) (by decide +kernel), List.mem_of_getElem? (i := 927) (by decide +kernel)⟩
theorem lw_p27 : lw_okq (⟨"KeyTour", "needTour", "(J)V"⟩, 12) := ⟨⟨by decide +kernel, by decide +kernel⟩, List.mem_of_getElem? (i := 27) (by decide +kernel), List.mem_of_getElem? (i := 992) (by decide +kernel), List.mem_of_getElem? (i := 993) (by decide +kernel)⟩
theorem lw_p28 : lw_okq (⟨"KeyTour", "fillRow", "(J)V"⟩, 12) := ⟨⟨by decide +kernel, by decide +kernel⟩, List.mem_of_getElem? (i := 27) (by decide +kernel), List.mem_of_getElem? (i := 997) (by decide +kernel), List.mem_of_getElem? (i := 998) (by decide +kernel)⟩
theorem lw_p29 : lw_okq (⟨"KeyTour", "needDoor", "(I)V"⟩, 12) := ⟨⟨by decide +kernel, by decide +kernel⟩, List.mem_of_getElem? (i := 27) (by decide +kernel), List.mem_of_getElem? (i := 1025) (by decide +kernel), List.mem_of_getElem? (i := 1026) (by decide +kernel)⟩
theorem lw_p30 : lw_okq (⟨"KeyTour", "needTwoRooms", "(II)V"⟩, 12) := ⟨⟨by decide +kernel, by decide +kernel⟩, List.mem_of_getElem? (i := 27) (by decide +kernel), List.mem_of_getElem? (i := 1042) (by decide +kernel), List.mem_of_getElem? (i := 1043) (by decide +kernel)⟩
theorem lw_p31 : lw_okq (⟨"KeyTour", "countTours", "(LKeyTour$Level;I)J"⟩, 12) := ⟨⟨by decide +kernel, by decide +kernel⟩, List.mem_of_getElem? (i := 27) (by decide +kernel), List.mem_of_getElem? (i := 1138) (by decide +kernel), List.mem_of_getElem? (i := 1139) (by decide +kernel)⟩
def lw_privs_2 : List (MethodName × Nat) := [(⟨"KeyTour$Parser", "fits", "(I)Z"⟩, 9), (⟨"KeyTour$Parser", "isSymbol", "(I)Z"⟩, 9), (⟨"KeyTour$Parser", "readCoins", "(I)Z"⟩, 9), (⟨"KeyTour$Parser", "readSemicolon", "()Z"⟩, 9), (⟨"KeyTour$Parser", "readDoor", "()Z"⟩, 9), (⟨"KeyTour$Parser", "toldRoom", "()I"⟩, 9), (⟨"KeyTour$Parser", "readLock", "(I)Z"⟩, 9), (⟨"KeyTour$Parser", "readOneway", "(I)Z"⟩, 9), (⟨"KeyTour$Parser", "readStart", "()Z"⟩, 9), (⟨"KeyTour$Parser", "readEnd", "()Z"⟩, 9), (⟨"KeyTour", "needRoom", "(I)V"⟩, 12), (⟨"KeyTour", "needTour", "(J)V"⟩, 12), (⟨"KeyTour", "fillRow", "(J)V"⟩, 12), (⟨"KeyTour", "needDoor", "(I)V"⟩, 12), (⟨"KeyTour", "needTwoRooms", "(II)V"⟩, 12), (⟨"KeyTour", "countTours", "(LKeyTour$Level;I)J"⟩, 12)]
theorem lw_r2 : ∀ q ∈ lw_privs_2, lw_okq q := List.forall_mem_cons.mpr ⟨lw_p16, List.forall_mem_cons.mpr ⟨lw_p17, List.forall_mem_cons.mpr ⟨lw_p18, List.forall_mem_cons.mpr ⟨lw_p19, List.forall_mem_cons.mpr ⟨lw_p20, List.forall_mem_cons.mpr ⟨lw_p21, List.forall_mem_cons.mpr ⟨lw_p22, List.forall_mem_cons.mpr ⟨lw_p23, List.forall_mem_cons.mpr ⟨lw_p24, List.forall_mem_cons.mpr ⟨lw_p25, List.forall_mem_cons.mpr ⟨lw_p26, List.forall_mem_cons.mpr ⟨lw_p27, List.forall_mem_cons.mpr ⟨lw_p28, List.forall_mem_cons.mpr ⟨lw_p29, List.forall_mem_cons.mpr ⟨lw_p30, List.forall_mem_cons.mpr ⟨lw_p31, fun _ h => absurd h List.not_mem_nil⟩⟩⟩⟩⟩⟩⟩⟩⟩⟩⟩⟩⟩⟩⟩⟩
theorem lw_p32 : lw_okq (⟨"KeyTour", "needPlace", "(I)V"⟩, 12) := ⟨⟨by decide +kernel, by decide +kernel⟩, List.mem_of_getElem? (i := 27) (by decide +kernel), List.mem_of_getElem? (i := 1165) (by decide +kernel), List.mem_of_getElem? (i := 1166) (by decide +kernel)⟩
def lw_privs_3 : List (MethodName × Nat) := [(⟨"KeyTour", "needPlace", "(I)V"⟩, 12)]
theorem lw_r3 : ∀ q ∈ lw_privs_3, lw_okq q := List.forall_mem_cons.mpr ⟨lw_p32, fun _ h => absurd h List.not_mem_nil⟩
def lw_privs : List (MethodName × Nat) := lw_privs_1 ++ (lw_privs_2 ++ (lw_privs_3))
def lw_tbl : List Cond := k2_sels lw_privs ++ tables_1
theorem lw_privs_ok : ∀ q ∈ lw_privs, lw_okq q := by
  show ∀ q ∈ lw_privs_1 ++ (lw_privs_2 ++ (lw_privs_3)), lw_okq q
  exact List.forall_mem_append.mpr ⟨lw_r1, List.forall_mem_append.mpr ⟨lw_r2, lw_r3⟩⟩

/-! ===== BEGIN words of one list among another's, by their places ===== -/
theorem goodIn_r {big : List Cond} (ws : List Cond) (ps : List Nat) (hp : ws = ps.filterMap (fun i => big[i]?)) (h : ws.all goodWord = true) : GoodIn big ws := by
  intro w hw
  have h1 := List.all_eq_true.mp h w hw
  rw [hp] at hw
  obtain ⟨i, -, hi⟩ := List.mem_filterMap.mp hw
  have hm : w ∈ big := by first | exact List.mem_of_getElem? hi | exact List.getElem?_mem hi
  exact ⟨hm, good_of_word h1⟩
theorem goodIn_app {big a b : List Cond} (ha : GoodIn big a) (hb : GoodIn big b) : GoodIn big (a ++ b) := fun w h => (List.mem_append.mp h).elim (ha w) (hb w)
theorem goodIn_ca {big a b : List Cond} {c : Cond} (ha : GoodIn big (c :: a)) (hb : GoodIn big b) : GoodIn big (c :: (a ++ b)) := fun w h => (List.mem_cons.mp h).elim (fun e => ha w (List.mem_cons.mpr (Or.inl e))) (fun h => (List.mem_append.mp h).elim (fun h => ha w (List.mem_cons.mpr (Or.inr h))) (hb w))
theorem goodIn_sub {big ws : List Cond} (hm : ∀ w ∈ ws, w ∈ big) (h : ws.all goodWord = true) : GoodIn big ws := fun w hw => ⟨hm w hw, good_of_word (List.all_eq_true.mp h w hw)⟩
/-! ===== END ===== -/

/-! ===== BEGIN exceptions that leave a method, and their catching by the caller (launches without stack traces) ===== -/
section VXA
/-! The laws vx_back, vx_callV, vx_callS, vx_callSW, vx_throw0, vx_throwS follow proofs of the library, with one case more: JvmDerived/Free/Laws.lean (Back.of_free), Shelf42/LK1.lean (callV, callS), Shelf/KitTraced.lean (throwNew0V, throwNewS). -/
/-- where a method has thrown q: the class by its name, the cell, what was written, the world -/
def vx_T (XC : String → State → State → Prop) (st : State) (q : Addr) (t : State) (mc ms : Nat) (free : Addr → Prop) : Prop :=
  ∃ (E : String) (ce : Cell) (L : List Loc), XC E st t ∧ t.heap[q]? = some ce ∧ ce.vm = .none ∧ st.vm.findClass E = some ce.cls ∧ st.WarmedH t.vm ∧ st.sameButNew ({ t with vm := st.vm } : State) L mc ms ∧ ∀ z ∈ L, free z.base
def vx_Q (Qc : Array Value → State → Outcome → State → Prop) (XC : String → State → State → Prop) (mc ms : Nat) (free : Addr → Prop) : Array Value → State → Outcome → State → Prop := fun a st o t =>
  (Qc a st o t ∧ ∃ L, FrameEnd st o t L mc ms ∧ ∀ q ∈ L, free q.base) ∨ ∃ q, o = .threw q ∧ vx_T XC st q t mc ms free
/-- a callee that returns or throws -/
def vx_Met (l : Launch) (y : MethodName) (ws : List Cond) (rm : Room) (Pc : Array Value → State → Prop) (Qc : Array Value → State → Outcome → State → Prop) (XC : String → State → State → Prop) (mc ms : Nat) (free : Addr → Prop) : Prop :=
  MetFree l y (headSpec ws rm) Pc (fun _ _ _ _ _ => True) (vx_Q Qc XC mc ms free)
def vx_Post (XC : String → State → State → Prop) (mc ms : Nat) (free : Addr → Prop) : Pt → Array Value → Addr → Pt → Prop := fun A a q B =>
  ∃ (g : JFrame) (mk : MethodId) (t : State) (L : List Loc) (E : String) (ce : Cell), B.U.heap = t.heap ∧ B.U.vm = t.vm ∧ XC E (A.U.calling g mk a) t ∧ t.heap[q]? = some ce ∧ ce.vm = .none ∧ A.U.vm.findClass E = some ce.cls ∧ B.locs = A.locs ++ L ∧ (∀ z ∈ L, free z.base) ∧ B.cells = A.cells + mc ∧ B.slots = A.slots + ms
def vx_Back (l : Launch) (R : Room) (p : Program) (e : Env) (below : List Frame) (s : State) (sargs : Array Value) (y : MethodName) (len W9 : Nat)
    (Pre : Pt → Array Value → Prop) (Post : Pt → Array Value → Option Value → Pt → Prop) (PostX : Pt → Array Value → Addr → Pt → Prop) : Prop :=
  ∀ (m : MethodId) (meth : Method) (c : Code) (A : Pt) (g : JFrame) (ig : Instr) (mk : MethodId) (a : Array Value),
    Stand p l e R s m sargs below meth c A.U A.locs A.cells A.slots → g.method = m → g.locals.size = c.maxLocals → decode c.code g.pc = .ok (ig, len) →
    2 * g.monitorRoom + (g.stack.map fun v => v.category).sum ≤ W9 → A.U.methodNamed? y = some mk → Pre A a →
    (∃ (v : Option Value) (B : Pt), Stand p l e R s m sargs below meth c B.U B.locs B.cells B.slots ∧ Post A a v B ∧
      Steps p.tables e below (doInvoke e (A.U.setTop g) [] mk a).1 (B.U.setTop { g with pc := g.pc + len, stack := v.toList ++ g.stack })) ∨
    (∃ (q : Addr) (B : Pt), Stand p l e R s m sargs below meth c B.U B.locs B.cells B.slots ∧ PostX A a q B ∧
      Steps p.tables e below (doInvoke e (A.U.setTop g) [] mk a).1 ((B.U.setTop g).pushFrame (.throwing q)))
section Payer
variable {l : Launch} {R : Room} {p : Program} {e : Env} {below : List Frame} {s : State} {sargs : Array Value} {y : MethodName} {len W9 : Nat}
theorem vx_back {ws : List Cond} {rm : Room} {Pc : Array Value → State → Prop} {Qc : Array Value → State → Outcome → State → Prop} {XC : String → State → State → Prop} {mc ms : Nat} {free : Addr → Prop} {bytes : ByteArray} {maxL : Nat} {ret : Option FieldType}
    (hM : vx_Met l y ws rm Pc Qc XC mc ms free) (hblind : FrameBlind Pc) (hrc : rm.cells = mc) (hrs : rm.slots = ms)
    (hframes : rm.frames + 1 ≤ R.frames) (hlocals : W9 + (maxL + 11) + rm.locals ≤ R.locals)
    (hws : ∀ w ∈ ws, ∀ a' U, s.WarmedH U.vm → w.before a' U = true) (hcode : Cond.code y bytes maxL ret ∈ ws) (hinit : ∀ a' U, s.WarmedH U.vm → (Cond.initialized y.cls).before a' U = true) :
    vx_Back l R p e below s sargs y len W9 (PreOf R mc ms Pc) (PostOf Qc mc ms free) (vx_Post XC mc ms free) := by
  intro m meth c A g ig mk a X hg hsize hdg hW hn hp
  have h1 : (headSpec ws rm).pre.before a A.U = true := atoms_intro fun w hw => hws w hw _ _ X.warmed
  have h2 : (Cond.code y bytes maxL ret).before a A.U = true := hws _ hcode _ _ X.warmed
  have h3 : (Cond.initialized y.cls).before a A.U = true := hinit _ _ X.warmed
  have h4 : A.cells + (headSpec ws rm).room.cells ≤ R.cells := by rw [show (headSpec ws rm).room.cells = mc from hrc]; exact hp.1
  have h5 : A.slots + (headSpec ws rm).room.slots ≤ R.slots := by rw [show (headSpec ws rm).room.slots = ms from hrs]; exact hp.2.1
  have hPc : Pc a (A.U.calling g mk a) := hblind _ _ _ _ hp.2.2
  obtain ⟨U, Ls, c0, s0⟩ := A
  dsimp only [Pt.U, Pt.locs, Pt.cells, Pt.slots] at h1 h2 h3 h4 h5 X hn hPc ⊢
  obtain ⟨methY, cY, hmY, hcY, -, hlY, -, -, -, -⟩ := Cond.code_spec hn h2
  obtain ⟨kY, hkY, -⟩ := className_of_methodNamed hn
  have hinitY : kY.init = .initialized := Cond.initialized_spec (findClass_of_methodNamed hn) hkY h3
  have h : At U g.method c below := by rw [hg]; exact X.here
  have hlocals9 : W9 + (maxL + 11) + (headSpec ws rm).room.locals ≤ R.locals := hlocals
  have happ : (headSpec ws rm).appliesLoose y e.platform (U.calling g mk a) = true :=
    Spec.appliesLoose_calling (g := g) h hdg hn hkY hinitY
      (X.room_calling (g := g) (R' := (headSpec ws rm).room) hsize hmY hcY hframes (by rw [hlY]; omega) h4 h5) h1
  obtain ⟨mid, hmid⟩ := h.above
  have hfr : (U.setTop g).frames = (.java g :: mid) ++ below := by rw [State.frames_setTop' g h.top, hmid]; rfl
  obtain ⟨o, s₂, hsteps, -, hend, hq⟩ := Steps.callFree hM p X.admits X.cas X.clock (acts := []) hfr happ hPc trivial
  have hq' : vx_Q Qc XC mc ms free a (U.calling g mk a) o s₂ := hq
  rw [State.frames_setTop' g h.top] at hend
  obtain ⟨g₀, hg0⟩ := Option.isSome_iff_exists.mp h.top
  obtain ⟨r, hr⟩ := State.topJava?_eq_some.mp hg0
  have hr' : (({ U with heap := s₂.heap, slotsUsed := s₂.slotsUsed } : State).setVm s₂.vm).frames = .java g₀ :: r := hr
  rcases hq' with ⟨hqc, L, hfe, hL⟩ | ⟨q, rfl, E, ce, L, hx, hce, hcv, hcl, hW₂, hsm, hL⟩
  · obtain ⟨⟨v, rfl⟩, hW₂, e2, q2, q3, q4, q5, q6⟩ := id hfe
    have e3 : s₂ = ({ (U.calling g mk a).setFrames s₂.frames with heap := s₂.heap, slotsUsed := s₂.slotsUsed } : State).setVm s₂.vm := by
      have : s₂ = ({ s₂ with vm := (U.calling g mk a).vm } : State).setVm s₂.vm := rfl
      rw [e2] at this
      exact this
    obtain ⟨c₂, i₂, len₂, hc₂, hd₂, hf₂⟩ := hend
    have hW' : U.WarmedH s₂.vm := hW₂
    have hcc : c₂ = c := by
      have h1 : s₂.code? g.method = U.code? g.method := by
        rw [State.code?_eq, State.code?_eq, hW'.alike.method?]
      exact Option.some.inj (hc₂.symm.trans (h1.trans h.code))
    subst hcc
    have hlen : len₂ = len := by rw [hdg] at hd₂; cases hd₂; rfl
    subst hlen
    have hs₂ : s₂ = (({ U with heap := s₂.heap, slotsUsed := s₂.slotsUsed } : State).setVm s₂.vm).setTop { g with pc := g.pc + len₂, stack := v.toList ++ g.stack } := by
      refine e3.trans ?_
      rw [hf₂, State.calling_eq h.top, State.setFrames_setFrames, State.setTop_of_frames _ hr', hr]
      rfl
    have hsame : U.sameButNew ({ U with heap := s₂.heap, slotsUsed := s₂.slotsUsed } : State) L mc ms := by
      refine ⟨?_, q2, q3, q4, q5, q6⟩
      obtain ⟨t, ht, -⟩ := State.frames_cons hr
      show ({ U with heap := s₂.heap, slotsUsed := s₂.slotsUsed } : State) = { U.setFrames U.frames with heap := s₂.heap, slotsUsed := s₂.slotsUsed }
      rw [State.setFrames_self ht]
    subst hg
    refine Or.inl ⟨v, ⟨(({ U with heap := s₂.heap, slotsUsed := s₂.slotsUsed } : State).setVm s₂.vm), Ls ++ L, c0 + mc, s0 + ms⟩,
      ⟨X.admits, X.cas, X.clock, X.frames, X.room, X.hears, X.method, X.code, (X.here.setHeapUsed s₂.heap s₂.slotsUsed).setVm hW'.alike, X.tail, State.WarmedH.trans X.warmed hW', X.limits, X.bytes, X.same.trans (hsame.setVm s.vm)⟩,
      ⟨g, mk, s₂, L, rfl, rfl, hqc, rfl, hL, rfl, rfl⟩, ?_⟩
    show Steps p.tables e below _ ((({ U with heap := s₂.heap, slotsUsed := s₂.slotsUsed } : State).setVm s₂.vm).setTop { g with pc := g.pc + len₂, stack := v.toList ++ g.stack })
    rw [← hs₂]
    exact hsteps
  · obtain ⟨e2, q2, q3, q4, q5, q6⟩ := id hsm
    have e3 : s₂ = ({ (U.calling g mk a).setFrames s₂.frames with heap := s₂.heap, slotsUsed := s₂.slotsUsed } : State).setVm s₂.vm := by
      have : s₂ = ({ s₂ with vm := (U.calling g mk a).vm } : State).setVm s₂.vm := rfl
      rw [e2] at this
      exact this
    have hf₂ : s₂.frames = .throwing q :: .java g :: U.frames.tail := hend
    have hW' : U.WarmedH s₂.vm := hW₂
    have hs₂ : s₂ = ((({ U with heap := s₂.heap, slotsUsed := s₂.slotsUsed } : State).setVm s₂.vm).setTop g).pushFrame (.throwing q) := by
      refine e3.trans ?_
      rw [hf₂, State.calling_eq h.top, State.setFrames_setFrames, State.pushFrame, State.frames_setTop _ hr', State.setTop_of_frames _ hr', State.setFrames_setFrames, hr]
      rfl
    have hsame : U.sameButNew ({ U with heap := s₂.heap, slotsUsed := s₂.slotsUsed } : State) L mc ms := by
      refine ⟨?_, q2, q3, q4, q5, q6⟩
      obtain ⟨t, ht, -⟩ := State.frames_cons hr
      show ({ U with heap := s₂.heap, slotsUsed := s₂.slotsUsed } : State) = { U.setFrames U.frames with heap := s₂.heap, slotsUsed := s₂.slotsUsed }
      rw [State.setFrames_self ht]
    subst hg
    refine Or.inr ⟨q, ⟨(({ U with heap := s₂.heap, slotsUsed := s₂.slotsUsed } : State).setVm s₂.vm), Ls ++ L, c0 + mc, s0 + ms⟩,
      ⟨X.admits, X.cas, X.clock, X.frames, X.room, X.hears, X.method, X.code, (X.here.setHeapUsed s₂.heap s₂.slotsUsed).setVm hW'.alike, X.tail, State.WarmedH.trans X.warmed hW', X.limits, X.bytes, X.same.trans (hsame.setVm s.vm)⟩,
      ⟨g, mk, s₂, L, E, ce, rfl, rfl, hx, hce, hcv, hcl, rfl, hL, rfl, rfl⟩, ?_⟩
    show Steps p.tables e below _ (((({ U with heap := s₂.heap, slotsUsed := s₂.slotsUsed } : State).setVm s₂.vm).setTop g).pushFrame (.throwing q))
    rw [← hs₂]
    exact hsteps
end Payer
section Calls
variable {p : Program} {l : Launch} {e : Env} {R : Room} {s : State} {m : MethodId} {args : Array Value} {below : List Frame} {meth : Method} {c : Code} {T : State} {locs : List Loc} {cells slots : Nat}
theorem vx_callV (X : Stand p l e R s m args below meth c T locs cells slots) (hexec : p.tables.exec = Jvm.exec) {own C : String} {index : Nat} {y : MethodName} {bytes : ByteArray} {maxL : Nat} {ret : Option FieldType}
    (hown : s.vm.findClass own = some m.cls) (hlink : (Cond.methodLink own index y).before args s = true) (hinst : (Cond.instanceMethod y).before args s = true) (hsel : (Cond.selects C y y).before args s = true)
    (hcode : (Cond.code y bytes maxL ret).before args s = true) (hy : y.cls ≠ "java/lang/invoke/MethodHandle" ∧ y.cls ≠ "java/lang/invoke/VarHandle")
    {W9 : Nat} {Pre : Pt → Array Value → Prop} {Post : Pt → Array Value → Option Value → Pt → Prop} {PostX : Pt → Array Value → Addr → Pt → Prop} (hK : vx_Back l R p e below s args y 3 W9 Pre Post PostX)
    {b : Addr} {cellB : Cell} (hcell : T.heap[b]? = some cellB) (hobj : cellB.vm.isStatics = false) (hcls : s.vm.findClass C = some cellB.cls)
    {g : JFrame} (hg : g.method = m) (hsize : g.locals.size = c.maxLocals) {argsL rest : List Value} (hlen : ∀ sig, parseMethodDescriptor y.desc = some sig → argsL.length = sig.parameters.length)
    (hstack : g.stack = argsL.reverse ++ .ref b :: rest) (hW : 2 * g.monitorRoom + (rest.map fun v => v.category).sum ≤ W9) (hdg : decode c.code g.pc = .ok (.invokevirtual index, 3))
    (hpre : ∀ vm₁, s.WarmedH vm₁ → Pre ⟨T.setVm vm₁, locs, cells, slots⟩ (Value.ref b :: argsL).toArray) :
    (∃ (v : Option Value) (vm₁ : Vm) (B : Pt), s.WarmedH vm₁ ∧ Stand p l e R s m args below meth c B.U B.locs B.cells B.slots ∧ Post ⟨T.setVm vm₁, locs, cells, slots⟩ (Value.ref b :: argsL).toArray v B ∧
      ∀ target, Steps p.tables e below (B.U.setTop { g with pc := g.pc + 3, stack := v.toList ++ rest }) target → Steps p.tables e below (T.setTop g) target) ∨
    (∃ (q : Addr) (vm₁ : Vm) (B : Pt), s.WarmedH vm₁ ∧ Stand p l e R s m args below meth c B.U B.locs B.cells B.slots ∧ PostX ⟨T.setVm vm₁, locs, cells, slots⟩ (Value.ref b :: argsL).toArray q B ∧
      Steps p.tables e below (T.setTop g) ((B.U.setTop { g with stack := rest }).pushFrame (.throwing q))) := by
  obtain ⟨mk, methM, hnamed, hmethM, hstM, habM⟩ := Cond.instanceMethod_spec hinst
  obtain ⟨methM', cM, hmethM', -, -, -, -, -, -, hsigM⟩ := Cond.code_spec hnamed hcode
  cases hmethM.symm.trans hmethM'
  obtain ⟨c2, r2, m2, q1, q2, q3, q4, kP, hkP, hkPi⟩ := Cond.selects_spec hsel
  cases hcls.symm.trans q1
  cases (State.methodFound?_of_named hnamed hy).symm.trans q2
  cases hnamed.symm.trans q3
  have hselP : selectMethod e.platform s.vm cellB.cls mk = .method mk := by rw [Launch.admits_selectMethod X.admits]; exact q4
  obtain ⟨vm₁, X₁, hstep₁⟩ := X.invokevirtual hexec hown hlink hnamed hmethM hstM hkP hkPi hy (a := b) (cell := cellB) hcell
    (fun z h => by rw [h] at hobj; cases hobj) hselP hmethM habM hkP hkPi (g := g) hg (argsL := argsL) (rest := rest) (hlen _ hsigM) hstack hdg
  rcases hK m meth c ⟨T.setVm vm₁, locs, cells, slots⟩ { g with stack := rest } (.invokevirtual index) mk (Value.ref b :: argsL).toArray X₁ hg hsize hdg hW (X₁.named hnamed) (hpre vm₁ X₁.warmed) with ⟨v, B, X', hpost, hsteps⟩ | ⟨q, B, X', hpost, hsteps⟩
  · exact Or.inl ⟨v, vm₁, B, X₁.warmed, X', hpost, fun target h => hstep₁ _ fun acts => by rw [doInvoke_state]; exact hsteps.trans h⟩
  · exact Or.inr ⟨q, vm₁, B, X₁.warmed, X', hpost, hstep₁ _ fun acts => by rw [doInvoke_state]; exact hsteps⟩
theorem vx_callS (X : Stand p l e R s m args below meth c T locs cells slots) (hexec : p.tables.exec = Jvm.exec) {own : String} {index : Nat} {y : MethodName} {bytes : ByteArray} {maxL : Nat} {ret : Option FieldType}
    (hown : s.vm.findClass own = some m.cls) (hlink : (Cond.methodLink own index y).before args s = true) (hstat : (Cond.static y).before args s = true) (hinit : (Cond.initialized y.cls).before args s = true)
    (hcode : (Cond.code y bytes maxL ret).before args s = true) (hy : y.cls ≠ "java/lang/invoke/MethodHandle" ∧ y.cls ≠ "java/lang/invoke/VarHandle")
    {W9 : Nat} {Pre : Pt → Array Value → Prop} {Post : Pt → Array Value → Option Value → Pt → Prop} {PostX : Pt → Array Value → Addr → Pt → Prop} (hK : vx_Back l R p e below s args y 3 W9 Pre Post PostX)
    {g : JFrame} (hg : g.method = m) (hsize : g.locals.size = c.maxLocals) {argsL rest : List Value} (hlen : ∀ sig, parseMethodDescriptor y.desc = some sig → argsL.length = sig.parameters.length)
    (hstack : g.stack = argsL.reverse ++ rest) (hW : 2 * g.monitorRoom + (rest.map fun v => v.category).sum ≤ W9) (hdg : decode c.code g.pc = .ok (.invokestatic index, 3))
    (hpre : ∀ vm₁, s.WarmedH vm₁ → Pre ⟨T.setVm vm₁, locs, cells, slots⟩ argsL.toArray) :
    (∃ (v : Option Value) (vm₁ : Vm) (B : Pt), s.WarmedH vm₁ ∧ Stand p l e R s m args below meth c B.U B.locs B.cells B.slots ∧ Post ⟨T.setVm vm₁, locs, cells, slots⟩ argsL.toArray v B ∧
      ∀ target, Steps p.tables e below (B.U.setTop { g with pc := g.pc + 3, stack := v.toList ++ rest }) target → Steps p.tables e below (T.setTop g) target) ∨
    (∃ (q : Addr) (vm₁ : Vm) (B : Pt), s.WarmedH vm₁ ∧ Stand p l e R s m args below meth c B.U B.locs B.cells B.slots ∧ PostX ⟨T.setVm vm₁, locs, cells, slots⟩ argsL.toArray q B ∧
      Steps p.tables e below (T.setTop g) ((B.U.setTop { g with stack := rest }).pushFrame (.throwing q))) := by
  obtain ⟨mk, hnamed⟩ := Cond.code_named hcode
  obtain ⟨methM, cM, hmethM, -, -, -, -, -, -, hsigM⟩ := Cond.code_spec hnamed hcode
  have hstatic : methM.isStatic = true := Cond.static_spec hnamed hmethM hstat
  obtain ⟨kP, hkP, -⟩ := className_of_methodNamed hnamed
  have hinitP : kP.init = .initialized := Cond.initialized_spec (findClass_of_methodNamed hnamed) hkP hinit
  obtain ⟨vm₁, X₁, hstep₁⟩ := X.invokestatic hexec hown hlink hnamed hmethM hstatic hkP hinitP hy (g := g) hg (argsL := argsL) (rest := rest) (hlen _ hsigM) hstack hdg
  rcases hK m meth c ⟨T.setVm vm₁, locs, cells, slots⟩ { g with stack := rest } (.invokestatic index) mk argsL.toArray X₁ hg hsize hdg hW (X₁.named hnamed) (hpre vm₁ X₁.warmed) with ⟨v, B, X', hpost, hsteps⟩ | ⟨q, B, X', hpost, hsteps⟩
  · exact Or.inl ⟨v, vm₁, B, X₁.warmed, X', hpost, fun target h => hstep₁ _ fun acts => by rw [doInvoke_state]; exact hsteps.trans h⟩
  · exact Or.inr ⟨q, vm₁, B, X₁.warmed, X', hpost, hstep₁ _ fun acts => by rw [doInvoke_state]; exact hsteps⟩
end Calls
theorem vx_cls {s : State} {T : State} {vm₁ : Vm} {E : String} {k : ClassId} (hW : s.WarmedH vm₁) (h : (T.setVm vm₁).vm.findClass E = some k) : s.vm.findClass E = some k := by
  have h1 : vm₁.findClass E = some k := h
  rw [hW.alike.findClass] at h1
  exact h1
/-- the method's frame g, with q thrown over it -/
def vx_W (p : Program) (l : Launch) (e : Env) (R : Room) (s : State) (m : MethodId) (args : Array Value) (below : List Frame) (meth : Method) (c : Code) (H : Heap) (locs : List Loc) (cells slots : Nat) (Q : State → Prop) (g : JFrame) (q : Addr) : Prop :=
  ∀ T : State, T.heap = H → Stand p l e R s m args below meth c T locs cells slots → ∃ t, Steps p.tables e below ((T.setTop g).pushFrame (.throwing q)) t ∧ Q t
def vx_Run (p : Program) (l : Launch) (e : Env) (R : Room) (s : State) (m : MethodId) (args : Array Value) (below : List Frame) (meth : Method) (c : Code) (H : Heap) (locs : List Loc) (cells slots mc ms : Nat) (g : JFrame) (rest : List Value) (Qa : State → Outcome → State → Prop) (XC : String → State → State → Prop) (free : Addr → Prop) : Prop :=
  ∀ T : State, T.heap = H → Stand p l e R s m args below meth c T locs cells slots →
    (∃ (v : Option Value) (st₀ t T' : State) (L : List Loc), st₀.heap = H ∧ Stand p l e R s m args below meth c T' (locs ++ L) (cells + mc) (slots + ms) ∧ (∀ q ∈ L, free q.base) ∧ T'.heap = t.heap ∧ T'.vm = t.vm ∧ Qa st₀ (.returned v) t ∧
      Goes p e below T g T' { g with pc := g.pc + 3, stack := v.toList ++ rest }) ∨
    (∃ (q : Addr) (st₀ t T' : State) (L : List Loc) (E : String) (ce : Cell), st₀.heap = H ∧ Stand p l e R s m args below meth c T' (locs ++ L) (cells + mc) (slots + ms) ∧ (∀ z ∈ L, free z.base) ∧ T'.heap = t.heap ∧ T'.vm = t.vm ∧ XC E st₀ t ∧ t.heap[q]? = some ce ∧ ce.vm = .none ∧ s.vm.findClass E = some ce.cls ∧
      Steps p.tables e below (T.setTop g) ((T'.setTop { g with stack := rest }).pushFrame (.throwing q)))
def vx_X {S : Type} (px : S → Prop) (B : String → S → State → Prop) (A : Nat → Prop) : String → State → State → Prop := fun E st t => ∃ u : S, px u ∧ B E u t ∧ va_F A st t
section Runs
variable {p : Program} {l : Launch} {e : Env} {R : Room} {s : State} {m : MethodId} {args : Array Value} {below : List Frame} {meth : Method} {c : Code} {H : Heap} {locs : List Loc} {cells slots : Nat}
variable {y : MethodName} {bytes cc : ByteArray} {maxL nL mc ms n index : Nat} {ret : Option FieldType} {ws : List Cond} {rm : Room} {Pc : Array Value → State → Prop} {Qc : Array Value → State → Outcome → State → Prop} {XC : String → State → State → Prop} {free : Addr → Prop} {Ts : List Cond} {own C : String} {b : Addr} {As rest : List Value} {g : JFrame}
theorem vx_callBack (cb : CallB R s args own index y bytes maxL ret ws rm mc ms n) (hM : vx_Met l y ws rm Pc Qc XC mc ms free) (hbl : FrameBlind Pc) : vx_Back l R p e below s args y 3 8 (PreOf R mc ms Pc) (PostOf Qc mc ms free) (vx_Post XC mc ms free) := by
  obtain ⟨hrc, hrs, hfr, hlo, hws, hcw, -, hini, -⟩ := cb
  exact vx_back (bytes := bytes) (maxL := maxL) (ret := ret) hM hbl hrc hrs hfr hlo hws hcw (fun a' U hW => word_at hW (Or.inl (by first | rfl | simp [Cond.onTables, Cond.keeps, Cond.steady])) hini)
theorem vx_runV (S : CallFix p m c cc nL s args Ts own) (hM : vx_Met l y ws rm Pc Qc XC mc ms free) (cw : CallW R s args own C index y bytes maxL ret ws rm mc ms n) (hp : PreV s H C b Pc As)
    (hg : g.method = m) (hn : As.length = n) (hsize : g.locals.size = nL) (hstack : g.stack = As.reverse ++ .ref b :: rest) (hW : 2 * g.monitorRoom + (rest.map fun v => v.category).sum ≤ 8) (hdg : decode cc g.pc = .ok (.invokevirtual index, 3)) (hf : cells + mc ≤ R.cells ∧ slots + ms ≤ R.slots) :
    vx_Run p l e R s m args below meth c H locs cells slots mc ms g rest (Qc (Value.ref b :: As).toArray) XC free := by
  have hK : vx_Back l R p e below s args y 3 8 (PreOf R mc ms Pc) (PostOf Qc mc ms free) (vx_Post XC mc ms free) := vx_callBack cw.1 hM hp.1
  obtain ⟨⟨-, -, -, -, -, -, hcode, -, hy, hlen, hl⟩, hin, hse⟩ := cw
  obtain ⟨hx, hb, hml, ho, -⟩ := S
  obtain ⟨-, ⟨cellB, hcB, hoB, hclB⟩, hPc⟩ := hp
  intro T hT X
  rcases vx_callV X hx (C := C) (bytes := bytes) (maxL := maxL) (ret := ret) ho hl hin hse hcode hy hK (by rw [hT]; exact hcB) hoB hclB hg (hsize.trans hml.symm) (argsL := As) (rest := rest) (fun sig h => hn.trans (hlen sig h)) hstack hW (by rw [hb]; exact hdg)
    (fun vm₁ hW₁ => ⟨hf.1, hf.2, hPc (T.setVm vm₁) hT hW₁⟩) with ⟨v, vm₁, ⟨U', l2, c2, s2⟩, hW₁, X', ⟨g', mk, t, L, e1, e2, hq, h1, hL, h2, h3⟩, st⟩ | ⟨q, vm₁, ⟨U', l2, c2, s2⟩, hW₁, X', ⟨g', mk, t, L, E, ce, e1, e2, hq, hce, hcv, hcl, h1, hL, h2, h3⟩, st⟩
  · dsimp only [Pt.U, Pt.locs, Pt.cells, Pt.slots] at X' e1 e2 h1 h2 h3 st
    subst h1; subst h2; subst h3
    exact Or.inl ⟨v, (T.setVm vm₁).calling g' mk (Value.ref b :: As).toArray, t, U', L, hT, X', hL, e1, e2, hq, st⟩
  · dsimp only [Pt.U, Pt.locs, Pt.cells, Pt.slots] at X' e1 e2 h1 h2 h3 st hcl
    subst h1; subst h2; subst h3
    exact Or.inr ⟨q, (T.setVm vm₁).calling g' mk (Value.ref b :: As).toArray, t, U', L, E, ce, hT, X', hL, e1, e2, hq, hce, hcv, vx_cls hW₁ hcl, st⟩
theorem vx_runS (S : CallFix p m c cc nL s args Ts own) (hM : vx_Met l y ws rm Pc Qc XC mc ms free) (cw : CallB R s args own index y bytes maxL ret ws rm mc ms n ∧ (Cond.static y).before args s = true) (hp : PreS s H Pc As)
    (hg : g.method = m) (hn : As.length = n) (hsize : g.locals.size = nL) (hstack : g.stack = As.reverse ++ rest) (hW : 2 * g.monitorRoom + (rest.map fun v => v.category).sum ≤ 8) (hdg : decode cc g.pc = .ok (.invokestatic index, 3)) (hf : cells + mc ≤ R.cells ∧ slots + ms ≤ R.slots) :
    vx_Run p l e R s m args below meth c H locs cells slots mc ms g rest (Qc As.toArray) XC free := by
  have hK : vx_Back l R p e below s args y 3 8 (PreOf R mc ms Pc) (PostOf Qc mc ms free) (vx_Post XC mc ms free) := vx_callBack cw.1 hM hp.1
  obtain ⟨⟨-, -, -, -, -, -, hcode, hini, hy, hlen, hl⟩, hstt⟩ := cw
  obtain ⟨hx, hb, hml, ho, -⟩ := S
  intro T hT X
  rcases vx_callS X hx (bytes := bytes) (maxL := maxL) (ret := ret) ho hl hstt hini hcode hy hK hg (hsize.trans hml.symm) (argsL := As) (rest := rest) (fun sig h => hn.trans (hlen sig h)) hstack hW (by rw [hb]; exact hdg)
    (fun vm₁ hW₁ => ⟨hf.1, hf.2, hp.2 (T.setVm vm₁) hT hW₁⟩) with ⟨v, vm₁, ⟨U', l2, c2, s2⟩, hW₁, X', ⟨g', mk, t, L, e1, e2, hq, h1, hL, h2, h3⟩, st⟩ | ⟨q, vm₁, ⟨U', l2, c2, s2⟩, hW₁, X', ⟨g', mk, t, L, E, ce, e1, e2, hq, hce, hcv, hcl, h1, hL, h2, h3⟩, st⟩
  · dsimp only [Pt.U, Pt.locs, Pt.cells, Pt.slots] at X' e1 e2 h1 h2 h3 st
    subst h1; subst h2; subst h3
    exact Or.inl ⟨v, (T.setVm vm₁).calling g' mk As.toArray, t, U', L, hT, X', hL, e1, e2, hq, st⟩
  · dsimp only [Pt.U, Pt.locs, Pt.cells, Pt.slots] at X' e1 e2 h1 h2 h3 st hcl
    subst h1; subst h2; subst h3
    exact Or.inr ⟨q, (T.setVm vm₁).calling g' mk As.toArray, t, U', L, E, ce, hT, X', hL, e1, e2, hq, hce, hcv, vx_cls hW₁ hcl, st⟩
end Runs
section Rows
variable {p : Program} {l : Launch} {e : Env} {R : Room} {s : State} {m : MethodId} {args : Array Value} {below : List Frame} {meth : Method} {c : Code} {H : Heap} {locs : List Loc} {cells slots : Nat} {Q : State → Prop}
variable {mc ms : Nat} {free : Addr → Prop} {A0 A1 : Nat → Prop} {H0 : Heap} {a : Array Value} {pc : Nat} {ls : Array Slot} {st0 rest : List Value}
theorem vx_keep {st₀ t T' : State} {L : List Loc} (h0 : st₀.heap = H) (e1 : T'.heap = t.heap) (hS : va_S A0 H0 H locs) (hA : ∀ q, q < H.size → A1 q → A0 q) (hf : ∀ q, free q → A0 q) (hL : ∀ q ∈ L, free q.base) (hF : va_F A1 st₀ t) :
    H.size ≤ T'.heap.size ∧ (∀ q : Nat, q < H.size → ¬ A1 q → T'.heap[q]? = H[q]?) ∧ va_S A0 H0 T'.heap (locs ++ L) := by
  obtain ⟨hz, hk⟩ := hF
  rw [h0] at hz hk
  exact ⟨by rw [e1]; exact hz, fun q h1 h2 => by rw [e1]; exact hk q h1 h2,
    ⟨Nat.le_trans hS.1 (by rw [e1]; exact hz), fun q h1 h2 => by rw [e1, hk q (Nat.lt_of_lt_of_le h1 hS.1) (fun z => h2 (hA q (Nat.lt_of_lt_of_le h1 hS.1) z))]; exact hS.2.1 q h1 h2, fun q hq => by
      rcases List.mem_append.mp hq with h | h
      · exact hS.2.2 q h
      · exact hf _ (hL q h)⟩⟩
theorem vx_calli {S SX : Type} {post : Int32 → S → Prop} {px : SX → Prop} {B : S → State → Prop} {BX : String → SX → State → Prop} {AX : Nat → Prop} (hr : vx_Run p l e R s m args below meth c H locs cells slots mc ms (F0 m pc ls st0) rest (va_Qi post B A1 a) (vx_X px BX AX) free) (hS : va_S A0 H0 H locs) (hA : ∀ q, q < H.size → A1 q → A0 q) (hf : ∀ q, free q → A0 q) (hAX : ∀ q, q < H.size → AX q → A0 q)
    (kx : ∀ (E : String) (ce : Cell) (q9 : Addr) (u : SX) (t : State) (H1 : Heap) (locs1 : List Loc), t.heap = H1 → s.vm.Alike t.vm → px u → BX E u t → H.size ≤ H1.size → (∀ q : Nat, q < H.size → ¬ AX q → H1[q]? = H[q]?) → va_S A0 H0 H1 locs1 → H1[q9]? = some ce → ce.vm = .none → s.vm.findClass E = some ce.cls → vx_W p l e R s m args below meth c H1 locs1 (cells + mc) (slots + ms) Q (F0 m pc ls rest) q9)
    (kk : ∀ (r : Int32) (u : S) (t : State) (H1 : Heap) (locs1 : List Loc), t.heap = H1 → s.vm.Alike t.vm → post r u → B u t → H.size ≤ H1.size → (∀ q : Nat, q < H.size → ¬ A1 q → H1[q]? = H[q]?) → va_S A0 H0 H1 locs1 → W p l e R s m args below meth c H1 locs1 (cells + mc) (slots + ms) Q (F0 m (pc + 3) ls (.int r :: rest))) : W p l e R s m args below meth c H locs cells slots Q (F0 m pc ls st0) := by
  intro T hT X
  rcases hr T hT X with ⟨v, st₀, t, T', L, h0, X', hL, e1, e2, ⟨⟨r, u, hv, hp, hb⟩, hF⟩, st⟩ | ⟨q, st₀, t, T', L, E, ce, h0, X', hL, e1, e2, ⟨u, hp, hb, hF⟩, hce, hcv, hcl, st⟩
  · cases hv
    obtain ⟨k1, k2, k3⟩ := vx_keep h0 e1 hS hA hf hL hF
    obtain ⟨t2, a1, b1⟩ := kk r u t T'.heap (locs ++ L) e1.symm (by rw [← e2]; exact X'.warmed.alike) hp hb k1 k2 k3 T' rfl X'
    exact ⟨t2, st t2 a1, b1⟩
  · obtain ⟨k1, k2, k3⟩ := vx_keep h0 e1 hS hAX hf hL hF
    obtain ⟨t2, a1, b1⟩ := kx E ce q u t T'.heap (locs ++ L) e1.symm (by rw [← e2]; exact X'.warmed.alike) hp hb k1 k2 k3 (by rw [e1]; exact hce) hcv hcl T' rfl X'
    exact ⟨t2, st.trans a1, b1⟩
theorem vx_calll {S SX : Type} {post : Int64 → S → Prop} {px : SX → Prop} {B : S → State → Prop} {BX : String → SX → State → Prop} {AX : Nat → Prop} (hr : vx_Run p l e R s m args below meth c H locs cells slots mc ms (F0 m pc ls st0) rest (va_Ql post B A1 a) (vx_X px BX AX) free) (hS : va_S A0 H0 H locs) (hA : ∀ q, q < H.size → A1 q → A0 q) (hf : ∀ q, free q → A0 q) (hAX : ∀ q, q < H.size → AX q → A0 q)
    (kx : ∀ (E : String) (ce : Cell) (q9 : Addr) (u : SX) (t : State) (H1 : Heap) (locs1 : List Loc), t.heap = H1 → s.vm.Alike t.vm → px u → BX E u t → H.size ≤ H1.size → (∀ q : Nat, q < H.size → ¬ AX q → H1[q]? = H[q]?) → va_S A0 H0 H1 locs1 → H1[q9]? = some ce → ce.vm = .none → s.vm.findClass E = some ce.cls → vx_W p l e R s m args below meth c H1 locs1 (cells + mc) (slots + ms) Q (F0 m pc ls rest) q9)
    (kk : ∀ (r : Int64) (u : S) (t : State) (H1 : Heap) (locs1 : List Loc), t.heap = H1 → s.vm.Alike t.vm → post r u → B u t → H.size ≤ H1.size → (∀ q : Nat, q < H.size → ¬ A1 q → H1[q]? = H[q]?) → va_S A0 H0 H1 locs1 → W p l e R s m args below meth c H1 locs1 (cells + mc) (slots + ms) Q (F0 m (pc + 3) ls (.long r :: rest))) : W p l e R s m args below meth c H locs cells slots Q (F0 m pc ls st0) := by
  intro T hT X
  rcases hr T hT X with ⟨v, st₀, t, T', L, h0, X', hL, e1, e2, ⟨⟨r, u, hv, hp, hb⟩, hF⟩, st⟩ | ⟨q, st₀, t, T', L, E, ce, h0, X', hL, e1, e2, ⟨u, hp, hb, hF⟩, hce, hcv, hcl, st⟩
  · cases hv
    obtain ⟨k1, k2, k3⟩ := vx_keep h0 e1 hS hA hf hL hF
    obtain ⟨t2, a1, b1⟩ := kk r u t T'.heap (locs ++ L) e1.symm (by rw [← e2]; exact X'.warmed.alike) hp hb k1 k2 k3 T' rfl X'
    exact ⟨t2, st t2 a1, b1⟩
  · obtain ⟨k1, k2, k3⟩ := vx_keep h0 e1 hS hAX hf hL hF
    obtain ⟨t2, a1, b1⟩ := kx E ce q u t T'.heap (locs ++ L) e1.symm (by rw [← e2]; exact X'.warmed.alike) hp hb k1 k2 k3 (by rw [e1]; exact hce) hcv hcl T' rfl X'
    exact ⟨t2, st.trans a1, b1⟩
theorem vx_callf {S SX : Type} {post : UInt32 → S → Prop} {px : SX → Prop} {B : S → State → Prop} {BX : String → SX → State → Prop} {AX : Nat → Prop} (hr : vx_Run p l e R s m args below meth c H locs cells slots mc ms (F0 m pc ls st0) rest (va_Qf post B A1 a) (vx_X px BX AX) free) (hS : va_S A0 H0 H locs) (hA : ∀ q, q < H.size → A1 q → A0 q) (hf : ∀ q, free q → A0 q) (hAX : ∀ q, q < H.size → AX q → A0 q)
    (kx : ∀ (E : String) (ce : Cell) (q9 : Addr) (u : SX) (t : State) (H1 : Heap) (locs1 : List Loc), t.heap = H1 → s.vm.Alike t.vm → px u → BX E u t → H.size ≤ H1.size → (∀ q : Nat, q < H.size → ¬ AX q → H1[q]? = H[q]?) → va_S A0 H0 H1 locs1 → H1[q9]? = some ce → ce.vm = .none → s.vm.findClass E = some ce.cls → vx_W p l e R s m args below meth c H1 locs1 (cells + mc) (slots + ms) Q (F0 m pc ls rest) q9)
    (kk : ∀ (r : UInt32) (u : S) (t : State) (H1 : Heap) (locs1 : List Loc), t.heap = H1 → s.vm.Alike t.vm → post r u → B u t → H.size ≤ H1.size → (∀ q : Nat, q < H.size → ¬ A1 q → H1[q]? = H[q]?) → va_S A0 H0 H1 locs1 → W p l e R s m args below meth c H1 locs1 (cells + mc) (slots + ms) Q (F0 m (pc + 3) ls (.float r :: rest))) : W p l e R s m args below meth c H locs cells slots Q (F0 m pc ls st0) := by
  intro T hT X
  rcases hr T hT X with ⟨v, st₀, t, T', L, h0, X', hL, e1, e2, ⟨⟨r, u, hv, hp, hb⟩, hF⟩, st⟩ | ⟨q, st₀, t, T', L, E, ce, h0, X', hL, e1, e2, ⟨u, hp, hb, hF⟩, hce, hcv, hcl, st⟩
  · cases hv
    obtain ⟨k1, k2, k3⟩ := vx_keep h0 e1 hS hA hf hL hF
    obtain ⟨t2, a1, b1⟩ := kk r u t T'.heap (locs ++ L) e1.symm (by rw [← e2]; exact X'.warmed.alike) hp hb k1 k2 k3 T' rfl X'
    exact ⟨t2, st t2 a1, b1⟩
  · obtain ⟨k1, k2, k3⟩ := vx_keep h0 e1 hS hAX hf hL hF
    obtain ⟨t2, a1, b1⟩ := kx E ce q u t T'.heap (locs ++ L) e1.symm (by rw [← e2]; exact X'.warmed.alike) hp hb k1 k2 k3 (by rw [e1]; exact hce) hcv hcl T' rfl X'
    exact ⟨t2, st.trans a1, b1⟩
theorem vx_calld {S SX : Type} {post : UInt64 → S → Prop} {px : SX → Prop} {B : S → State → Prop} {BX : String → SX → State → Prop} {AX : Nat → Prop} (hr : vx_Run p l e R s m args below meth c H locs cells slots mc ms (F0 m pc ls st0) rest (va_Qd post B A1 a) (vx_X px BX AX) free) (hS : va_S A0 H0 H locs) (hA : ∀ q, q < H.size → A1 q → A0 q) (hf : ∀ q, free q → A0 q) (hAX : ∀ q, q < H.size → AX q → A0 q)
    (kx : ∀ (E : String) (ce : Cell) (q9 : Addr) (u : SX) (t : State) (H1 : Heap) (locs1 : List Loc), t.heap = H1 → s.vm.Alike t.vm → px u → BX E u t → H.size ≤ H1.size → (∀ q : Nat, q < H.size → ¬ AX q → H1[q]? = H[q]?) → va_S A0 H0 H1 locs1 → H1[q9]? = some ce → ce.vm = .none → s.vm.findClass E = some ce.cls → vx_W p l e R s m args below meth c H1 locs1 (cells + mc) (slots + ms) Q (F0 m pc ls rest) q9)
    (kk : ∀ (r : UInt64) (u : S) (t : State) (H1 : Heap) (locs1 : List Loc), t.heap = H1 → s.vm.Alike t.vm → post r u → B u t → H.size ≤ H1.size → (∀ q : Nat, q < H.size → ¬ A1 q → H1[q]? = H[q]?) → va_S A0 H0 H1 locs1 → W p l e R s m args below meth c H1 locs1 (cells + mc) (slots + ms) Q (F0 m (pc + 3) ls (.double r :: rest))) : W p l e R s m args below meth c H locs cells slots Q (F0 m pc ls st0) := by
  intro T hT X
  rcases hr T hT X with ⟨v, st₀, t, T', L, h0, X', hL, e1, e2, ⟨⟨r, u, hv, hp, hb⟩, hF⟩, st⟩ | ⟨q, st₀, t, T', L, E, ce, h0, X', hL, e1, e2, ⟨u, hp, hb, hF⟩, hce, hcv, hcl, st⟩
  · cases hv
    obtain ⟨k1, k2, k3⟩ := vx_keep h0 e1 hS hA hf hL hF
    obtain ⟨t2, a1, b1⟩ := kk r u t T'.heap (locs ++ L) e1.symm (by rw [← e2]; exact X'.warmed.alike) hp hb k1 k2 k3 T' rfl X'
    exact ⟨t2, st t2 a1, b1⟩
  · obtain ⟨k1, k2, k3⟩ := vx_keep h0 e1 hS hAX hf hL hF
    obtain ⟨t2, a1, b1⟩ := kx E ce q u t T'.heap (locs ++ L) e1.symm (by rw [← e2]; exact X'.warmed.alike) hp hb k1 k2 k3 (by rw [e1]; exact hce) hcv hcl T' rfl X'
    exact ⟨t2, st.trans a1, b1⟩
theorem vx_callv {S SX : Type} {post : S → Prop} {px : SX → Prop} {B : S → State → Prop} {BX : String → SX → State → Prop} {AX : Nat → Prop} (hr : vx_Run p l e R s m args below meth c H locs cells slots mc ms (F0 m pc ls st0) rest (va_Qv post B A1 a) (vx_X px BX AX) free) (hS : va_S A0 H0 H locs) (hA : ∀ q, q < H.size → A1 q → A0 q) (hf : ∀ q, free q → A0 q) (hAX : ∀ q, q < H.size → AX q → A0 q)
    (kx : ∀ (E : String) (ce : Cell) (q9 : Addr) (u : SX) (t : State) (H1 : Heap) (locs1 : List Loc), t.heap = H1 → s.vm.Alike t.vm → px u → BX E u t → H.size ≤ H1.size → (∀ q : Nat, q < H.size → ¬ AX q → H1[q]? = H[q]?) → va_S A0 H0 H1 locs1 → H1[q9]? = some ce → ce.vm = .none → s.vm.findClass E = some ce.cls → vx_W p l e R s m args below meth c H1 locs1 (cells + mc) (slots + ms) Q (F0 m pc ls rest) q9)
    (kk : ∀ (u : S) (t : State) (H1 : Heap) (locs1 : List Loc), t.heap = H1 → s.vm.Alike t.vm → post u → B u t → H.size ≤ H1.size → (∀ q : Nat, q < H.size → ¬ A1 q → H1[q]? = H[q]?) → va_S A0 H0 H1 locs1 → W p l e R s m args below meth c H1 locs1 (cells + mc) (slots + ms) Q (F0 m (pc + 3) ls (rest))) : W p l e R s m args below meth c H locs cells slots Q (F0 m pc ls st0) := by
  intro T hT X
  rcases hr T hT X with ⟨v, st₀, t, T', L, h0, X', hL, e1, e2, ⟨⟨u, hv, hp, hb⟩, hF⟩, st⟩ | ⟨q, st₀, t, T', L, E, ce, h0, X', hL, e1, e2, ⟨u, hp, hb, hF⟩, hce, hcv, hcl, st⟩
  · cases hv
    obtain ⟨k1, k2, k3⟩ := vx_keep h0 e1 hS hA hf hL hF
    obtain ⟨t2, a1, b1⟩ := kk u t T'.heap (locs ++ L) e1.symm (by rw [← e2]; exact X'.warmed.alike) hp hb k1 k2 k3 T' rfl X'
    exact ⟨t2, st t2 a1, b1⟩
  · obtain ⟨k1, k2, k3⟩ := vx_keep h0 e1 hS hAX hf hL hF
    obtain ⟨t2, a1, b1⟩ := kx E ce q u t T'.heap (locs ++ L) e1.symm (by rw [← e2]; exact X'.warmed.alike) hp hb k1 k2 k3 (by rw [e1]; exact hce) hcv hcl T' rfl X'
    exact ⟨t2, st.trans a1, b1⟩
/-- caught by the row x of this method's table; the rows ahead don't take it -/
theorem vx_catch {own name : String} {E : String} {ce : Cell} {q : Addr} (hown : s.vm.findClass own = some m.cls) (pre : List ExceptionTableEntry) (x : ExceptionTableEntry) (suf : List ExceptionTableEntry) (hsplit : c.exceptionTable.toList = pre ++ x :: suf)
    (hpass : ∀ z ∈ pre, covers z pc = false ∨ (z.catchType ≠ 0 ∧ ∃ nm : String, (Cond.classLink own z.catchType nm).before args s = true ∧ va_Nc E nm s)) (hx : covers x pc = true) (h0 : x.catchType ≠ 0)
    (hlink : (Cond.classLink own x.catchType name).before args s = true) (hcast : (Cond.castable E name).before args s = true) (hcell : H[q]? = some ce) (hv : ce.vm = .none) (hcl : s.vm.findClass E = some ce.cls)
    (kk : W p l e R s m args below meth c H locs cells slots Q (F0 m x.handlerPc ls [.ref q])) : vx_W p l e R s m args below meth c H locs cells slots Q (F0 m pc ls rest) q := by
  intro T hT X
  have hpl : e.platform.magicAccessors = ({} : Platform).magicAccessors := by rw [X.admits.platform]
  obtain ⟨c3, c4, hc3, hc4, hasg⟩ := Cond.castable_spec hcast
  cases Option.some.inj (hc3.symm.trans hcl)
  obtain ⟨c5, hc5, hcl5⟩ := Cond.classLink_spec hown hlink e.platform hpl
  cases Option.some.inj (hc4.symm.trans hc5)
  obtain ⟨vm', X', st⟩ := X.thenCaughtThrough q (g := F0 m pc ls rest) rfl (Steps.refl _) (by rw [hT]; exact hcell) (by rw [hv]; rfl) (by obtain ⟨k9, h9, -⟩ := Vm.findClass_spec hcl; exact ⟨k9, h9⟩) pre x suf hsplit
    (fun z hz => by
      rcases hpass z hz with h | ⟨hz0, nm, hl1, hn1⟩
      · exact Or.inl h
      · obtain ⟨c6, hc6, hcl6⟩ := Cond.classLink_spec hown hl1 e.platform hpl
        obtain ⟨a8, b8, h1, h2, h3⟩ := hn1
        cases Option.some.inj (h1.symm.trans hcl)
        cases Option.some.inj (h2.symm.trans hc6)
        exact Or.inr ⟨hz0, _, hcl6, h3⟩) hx (Or.inr ⟨h0, c4, hcl5, hasg⟩)
  obtain ⟨t, a1, b1⟩ := kk (T.setVm vm') hT X'
  exact ⟨t, st.trans a1, b1⟩
end Rows
section Ends
variable {p : Program} {l : Launch} {e : Env} {R : Room} {s : State} {m : MethodId} {args : Array Value} {below : List Frame} {meth : Method} {c : Code} {H : Heap} {locs : List Loc} {cells slots : Nat} {Q : State → Prop}
variable {mc ms : Nat} {free : Addr → Prop} {A0 A1 : Nat → Prop} {H0 : Heap} {a : Array Value} {ls : Array Slot} {st0 rest : List Value}
variable {Qc : Array Value → State → Outcome → State → Prop} {XC : String → State → State → Prop}
/-- what a body that may throw owes at its end -/
def vx_MQ (below : List Frame) (Qc : Array Value → State → Outcome → State → Prop) (XC : String → State → State → Prop) (a : Array Value) (s : State) (mc ms : Nat) (free : Addr → Prop) : State → Prop := fun t =>
  ∃ o, t.status = .running ∧ Ended t below o ∧ vx_Q Qc XC mc ms free a s o t
theorem vx_ret {g : JFrame} {mc ms : Nat} (k : W p l e R s m args below meth c H locs cells slots (MQ below Qc args s mc ms free) g) : W p l e R s m args below meth c H locs cells slots (vx_MQ below Qc XC args s mc ms free) g := by
  intro T hT X
  obtain ⟨t, a1, o, b1, b2, b3, b4⟩ := k T hT X
  exact ⟨t, a1, o, b1, b2, Or.inl ⟨b3, b4⟩⟩
/-- not caught here: it goes on to the caller -/
theorem vx_widen {g : JFrame} {q : Addr} {k n : Nat} (h1 : cells ≤ k) (h2 : slots ≤ n) (kk : vx_W p l e R s m args below meth c H locs k n Q g q) : vx_W p l e R s m args below meth c H locs cells slots Q g q := fun T hT X => kk T hT (stand_widen X h1 h2)
theorem vx_out {pc : Nat} {E : String} {ce : Cell} {q : Addr} {mc ms : Nat} (hout : ∀ x ∈ c.exceptionTable.toList, covers x pc = false) (hlocks : meth.locks = false) (hcell : H[q]? = some ce) (hv : ce.vm = .none) (hcl : s.vm.findClass E = some ce.cls)
    (hx : ∀ t : State, t.heap = H → s.vm.Alike t.vm → XC E s t) (hf : ∀ z ∈ locs, free z.base) (hc : cells ≤ mc) (hs : slots ≤ ms) :
    vx_W p l e R s m args below meth c H locs cells slots (vx_MQ below Qc XC args s mc ms free) (F0 m pc ls rest) q := by
  intro T hT X
  obtain ⟨st1, hrun, hend, hW, hsm⟩ := X.leaveThrown q (g := F0 m pc ls rest) rfl rfl rfl hout hlocks
  have hcell9 : (T.setFrames (.throwing q :: below)).heap[q]? = some ce := by
    show T.heap[q]? = some ce
    rw [hT]; exact hcell
  exact ⟨_, st1, .threw q, hrun, hend, Or.inr ⟨q, rfl, E, ce, locs, hx _ hT hW.alike, hcell9, hv, hcl, hW, hsm.mono hc hs, hf⟩⟩
theorem vx_frame {U : State} {k n : Nat} (h : s.sameButNew ({ U with vm := s.vm } : State) locs k n) : s.heap.size ≤ U.heap.size ∧ ∀ q : Nat, q < s.heap.size → (∀ z ∈ locs, z.base ≠ q) → U.heap[q]? = s.heap[q]? := by
  obtain ⟨-, h2, -, -, -, h6⟩ := h
  refine ⟨h2, fun q hq hz => ?_⟩
  obtain ⟨c9, e1, e2, e3, e4⟩ := h6 q _ (Array.getElem?_eq_getElem hq)
  have hs : c9.slots = (s.heap[q]).slots := Array.ext_getElem? fun i => e4 i fun hm => hz _ hm rfl
  have h9 : c9 = s.heap[q] := by
    rw [hs] at e2
    exact e2
  have e5 : U.heap[q]? = some c9 := e1
  rw [e5, h9, Array.getElem?_eq_getElem hq]
/-- the words of a throw but the four that speak of the heap -/
def vx_no (w : Cond) : Bool := decide (w ≠ .isRef (.static Bundle.tN "UNASSIGNED_STACK" Bundle.steD)) && decide (w ≠ .isRef (.static Bundle.tN "SUPPRESSED_SENTINEL" Bundle.listD)) && decide (w ≠ .laysStatic Bundle.tN "UNASSIGNED_STACK" Bundle.steD) && decide (w ≠ .laysStatic Bundle.tN "SUPPRESSED_SENTINEL" Bundle.listD)
def vx_at0 (own : String) (ic : Nat) (X : String) (names : List String) : List Cond := (Bundle.ownAtoms0 own ic X names).filter vx_no
def vx_atS (own : String) (ic : Nat) (X : String) (names : List String) : List Cond := (Bundle.ownAtoms own ic X names).filter vx_no
/-- a word that the tables alone decide, or a good one -/
def vx_ot (w : Cond) : Bool := w.onTables || goodWord w
theorem vx_ot_at {args a' : Array Value} {s U : State} {w : Cond} (hW : s.WarmedH U.vm) (hvm : s.vm = U.vm) (hg : vx_ot w = true) (h : w.before args s = true) : w.before a' U = true := by
  simp only [vx_ot, Bool.or_eq_true] at hg
  rcases hg with hg | hg
  · exact va_tabs hg hvm h
  · exact word_at hW (good_of_word hg) h
/-- a list's words: the good ones out of the method's own list, the others by premises of their own -/
theorem vx_hat {args : Array Value} {s : State} {L B : List Cond} (h1 : ∀ w ∈ L.filter goodWord, w.before args s = true) (h2 : ∀ w ∈ L.filter (fun w => !goodWord w), w ∈ B) (h3 : ∀ w ∈ B, w.before args s = true) : ∀ w ∈ L, w.before args s = true := by
  intro w hw
  by_cases g : goodWord w = true
  · exact h1 w (List.mem_filter.mpr ⟨hw, g⟩)
  · refine h3 w (h2 w (List.mem_filter.mpr ⟨hw, ?_⟩))
    show (!goodWord w) = true
    cases hgw : goodWord w
    · rfl
    · exact absurd hgw g
theorem vx_c {args : Array Value} {s : State} {w : Cond} {B : List Cond} (h : w.before args s = true) (t : ∀ w ∈ B, w.before args s = true) : ∀ w' ∈ w :: B, w'.before args s = true := fun w' h' => (List.mem_cons.mp h').elim (fun e => by rw [e]; exact h) (t w')
theorem vx_n {args : Array Value} {s : State} : ∀ w ∈ ([] : List Cond), w.before args s = true := fun _ h => nomatch h
theorem vx_own {args : Array Value} {s : State} {L : List Cond} (h1 : ∀ w ∈ L.filter vx_no, w.before args s = true)
    (hU : (Cond.isRef (.static Bundle.tN "UNASSIGNED_STACK" Bundle.steD)).before args s = true) (hN : (Cond.isRef (.static Bundle.tN "SUPPRESSED_SENTINEL" Bundle.listD)).before args s = true)
    (lU : (Cond.laysStatic Bundle.tN "UNASSIGNED_STACK" Bundle.steD).before args s = true) (lN : (Cond.laysStatic Bundle.tN "SUPPRESSED_SENTINEL" Bundle.listD).before args s = true) : ∀ w ∈ L, w.before args s = true := by
  intro w hw
  by_cases e1 : w = .isRef (.static Bundle.tN "UNASSIGNED_STACK" Bundle.steD)
  · rw [e1]; exact hU
  · by_cases e2 : w = .isRef (.static Bundle.tN "SUPPRESSED_SENTINEL" Bundle.listD)
    · rw [e2]; exact hN
    · by_cases e3 : w = .laysStatic Bundle.tN "UNASSIGNED_STACK" Bundle.steD
      · rw [e3]; exact lU
      · by_cases e4 : w = .laysStatic Bundle.tN "SUPPRESSED_SENTINEL" Bundle.listD
        · rw [e4]; exact lN
        · exact h1 w (List.mem_filter.mpr ⟨hw, by unfold vx_no; rw [decide_eq_true e1, decide_eq_true e2, decide_eq_true e3, decide_eq_true e4]; rfl⟩)
/-- where a static field lies, its class's statics cell in H -/
def vx_L (C n d : String) (A : Nat → Prop) (U : State) (H : Heap) : Prop := ∃ (c : ClassId) (k : Class) (i : Nat) (f : Field) (a : Nat) (cell : Cell), U.vm.findClass C = some c ∧ U.fieldFound? C n d = some (c, k, i, f) ∧ f.isStatic = true ∧ k.statics = some a ∧ H[a]? = some cell ∧ cell.vm.isStatics = true ∧ cell.cls = c ∧ f.slot < cell.slots.size ∧ k.staticTypes[f.slot]? = some f.type ∧ ¬ A a
theorem vx_L.moved {C n d : String} {A : Nat → Prop} {u U : State} {H : Heap} (hvm : u.vm.Alike U.vm) (h : vx_L C n d A u H) : vx_L C n d A U H := by
  obtain ⟨c, k, i, f, a, cell, h1, h2, h3, h4, h5, h6, h7, h8, h9, h10⟩ := h
  obtain ⟨k', hi', he⟩ := State.fieldFound?_setVm hvm h2
  exact ⟨c, k', i, f, a, cell, by rw [hvm.findClass]; exact h1, hi', h3, by rw [he]; exact h4, h5, h6, h7, h8, by rw [he]; exact h9, h10⟩
theorem vx_L.kept {C n d : String} {A : Nat → Prop} {U : State} {H H1 : Heap} (h : vx_L C n d A U H) (hq : ∀ a : Nat, a < H.size → ¬ A a → H1[a]? = H[a]?) : vx_L C n d A U H1 := by
  obtain ⟨c, k, i, f, a, cell, h1, h2, h3, h4, h5, h6, h7, h8, h9, h10⟩ := h
  exact ⟨c, k, i, f, a, cell, h1, h2, h3, h4, by rw [hq a (Array.getElem?_eq_some_iff.mp h5).1 h10]; exact h5, h6, h7, h8, h9, h10⟩
theorem vx_L.narrow {C n d : String} {A B : Nat → Prop} {U : State} {H : Heap} (h : vx_L C n d A U H) (hAB : ∀ q, B q → A q) : vx_L C n d B U H := by
  obtain ⟨c, k, i, f, a, cell, h1, h2, h3, h4, h5, h6, h7, h8, h9, h10⟩ := h
  exact ⟨c, k, i, f, a, cell, h1, h2, h3, h4, h5, h6, h7, h8, h9, fun z => h10 (hAB _ z)⟩
theorem vx_L.word {C n d : String} {A : Nat → Prop} {s : State} {args : Array Value} (h : vx_L C n d A s s.heap) : (Cond.laysStatic C n d).before args s = true := by
  obtain ⟨c, k, i, f, a, cell, h1, h2, h3, h4, h5, h6, h7, h8, h9, -⟩ := h
  show (Cond.laysStatic C n d).holds args s none s [] = true
  exact Cond.laysStatic_of h1 h2 h3 h4 h5 h6 h7 h8 h9
/-- .. and what it holds: null or some reference -/
def vx_Zq (C n d : String) (A : Nat → Prop) (U : State) (H : Heap) : Prop := va_Zq C n d A U H ∧ vx_L C n d A U H
theorem vx_Zq.moved {C n d : String} {A : Nat → Prop} {u U : State} {H : Heap} (hvm : u.vm.Alike U.vm) (h : vx_Zq C n d A u H) : vx_Zq C n d A U H := ⟨va_Zq.moved hvm h.1, vx_L.moved hvm h.2⟩
theorem vx_Zq.kept {C n d : String} {A : Nat → Prop} {U : State} {H H1 : Heap} (h : vx_Zq C n d A U H) (hq : ∀ a : Nat, a < H.size → ¬ A a → H1[a]? = H[a]?) : vx_Zq C n d A U H1 := ⟨va_Zq.kept h.1 hq, vx_L.kept h.2 hq⟩
theorem vx_Zq.narrow {C n d : String} {A B : Nat → Prop} {U : State} {H : Heap} (h : vx_Zq C n d A U H) (hAB : ∀ q, B q → A q) : vx_Zq C n d B U H := ⟨va_Zq.narrow h.1 hAB, vx_L.narrow h.2 hAB⟩
theorem vx_Zqof {args : Array Value} {s : State} {C n d : String} {A : Nat → Prop} (hl : (Cond.laysStatic C n d).before args s = true) (hini : (Cond.initialized C).before args s = true) (h : (Cond.isRef (.static C n d)).before args s = true) (hA : ∀ a : Nat, a < s.heap.size → ¬ A a) : vx_Zq C n d A s s.heap := by
  refine ⟨va_Zqof hl hini h hA, ?_⟩
  obtain ⟨c, k, i, f, a, cell, h1, h2, h3, h4, h5, h6, h7, h8, h9⟩ := Cond.laysStatic_spec hl
  exact ⟨c, k, i, f, a, cell, h1, h2, h3, h4, h5, h6, h7, h8, h9, hA a (Array.getElem?_eq_some_iff.mp h5).1⟩
theorem vx_isRef {C n d : String} {v : Value} {A : Nat → Prop} {s : State} {args : Array Value} (h : va_Z C n d v A s s.heap) (hv : v.isRef = true) : (Cond.isRef (.static C n d)).before args s = true := by
  obtain ⟨cf, kf, fi, f, a, cell, h1, h2, h3, h4, h5, h6, h7, -⟩ := h
  have he : (Term.static C n d).eval args s none [] s = some v := by
    simp [Term.eval, State.fieldNamed?, h1, h2, h4, h5, h6, h7]
  simp only [Cond.before, Cond.holds, Cond.value, he]
  cases v <;> simp_all [Value.isRef]
theorem vx_isRefq {C n d : String} {A : Nat → Prop} {s : State} {args : Array Value} (h : va_Zq C n d A s s.heap) : (Cond.isRef (.static C n d)).before args s = true := by
  rcases h with h | ⟨t, h⟩
  · exact vx_isRef h rfl
  · exact vx_isRef h rfl
/-- the same frame, seen from here: as if the method were called anew in this heap -/
theorem vx_rebase {T : State} (X : Stand p l e R s m args below meth c T locs cells slots) {R' : Room} (hf : R'.frames ≤ R.frames) (hl : R'.locals ≤ R.locals) (hc : cells + R'.cells ≤ R.cells) (hs : slots + R'.slots ≤ R.slots) :
    Stand p l e R' ((T.setVm s.vm).setFrames (.invoking m args :: below)) m args below meth c T [] 0 0 := by
  have htop : (T.setVm s.vm).topJava?.isSome := X.here.top
  have hF : ((T.setVm s.vm).setFrames (.invoking m args :: below)).frames = .invoking m args :: below := State.frames_setFrames _ (State.cur_lt_of_top htop)
  obtain ⟨g₀, hg0⟩ := Option.isSome_iff_exists.mp htop
  obtain ⟨r, hr⟩ := State.topJava?_eq_some.mp hg0
  have hl9 : e.platform.stackLimits (T.setVm s.vm).me = e.platform.stackLimits s.me := X.limits
  have hb9 : (T.setVm s.vm).me.stackBytes = s.me.stackBytes := X.bytes
  refine ⟨X.admits, X.cas, X.clock, hF, ?_, X.hears, X.method, X.code, X.here, X.tail, X.warmed, ?_, ?_, ?_⟩
  · have h := X.room
    have hU : ((T.setVm s.vm).setFrames (.invoking m args :: below)).localsInUse = s.localsInUse := by
      rw [State.localsInUse_invoking hF (meth := meth) (c := c) X.method X.code, State.localsInUse_invoking X.frames X.method X.code]
    simp only [State.hasRoom, Bool.and_eq_true, decide_eq_true_eq] at h ⊢
    obtain ⟨⟨⟨⟨h1, h2, h3, h4, h5, h6⟩, h7⟩, h8⟩, h9⟩ := h
    rw [X.frames, List.length_cons] at h2 h3
    have q1 := X.heapSize
    have q2 := X.used
    simp only [hF, hU, List.length_cons, State.stackLimits_setFrames, State.stackBytes_setFrames, hl9, hb9]
    refine ⟨⟨⟨⟨by omega, by omega, by omega, by omega, by omega, h6⟩, ?_⟩, ?_⟩, X.book⟩
    · show T.heap.size + R'.cells ≤ e.platform.maxCells
      omega
    · show T.slotsUsed + R'.slots ≤ e.platform.maxSlots
      omega
  · rw [State.stackLimits_setFrames]; rfl
  · rw [State.stackBytes_setFrames]; rfl
  · refine ⟨?_, Nat.le_refl _, Nat.le_refl _, ?_, ?_, fun a c9 h9 => ⟨c9, h9, rfl, rfl, fun _ _ => rfl⟩⟩
    · obtain ⟨t, ht, -⟩ := State.frames_cons hr
      show T.setVm s.vm = { ((T.setVm s.vm).setFrames (.invoking m args :: below)).setFrames (T.setVm s.vm).frames with heap := T.heap, slotsUsed := T.slotsUsed }
      rw [State.setFrames_setFrames, State.setFrames_self ht]
      rfl
    · show T.slotsUsed = T.slotsUsed + ((T.heap.toList.drop T.heap.size).map (·.slots.size)).sum
      rw [List.drop_eq_nil_of_le (Nat.le_of_eq Array.length_toList)]
      rfl
    · show ((T.heap.toList.drop T.heap.size).map (·.slots.size)).sum ≤ 0
      rw [List.drop_eq_nil_of_le (Nat.le_of_eq Array.length_toList)]
      exact Nat.le_refl _
/-- 'throw new E()': new; dup; invokespecial; athrow -/
theorem vx_throw0 {cc : ByteArray} {pc : Nat} (hexec : p.tables.exec = Jvm.exec) (hb : c.code = cc) (hl : l.stackTraces = false) {own cls : String} {names : List String} {ik ic mc ms : Nat} {A : Nat → Prop}
    (hown : s.vm.findClass own = some m.cls) (hcls : Bundle.fit cls = true) (hnames : ∀ n ∈ names, Bundle.fit n = true)
    (hk : (Cond.classLink own ik cls).before args s = true) (hini : (Cond.initialized cls).before args s = true) (hat : ∀ w ∈ vx_at0 own ic cls names, w.before args s = true)
    (hgood : ∀ w ∈ Cond.classLink own ik cls :: Cond.initialized cls :: vx_at0 own ic cls names, vx_ot w = true)
    (hU : vx_Zq Bundle.tN "UNASSIGNED_STACK" Bundle.steD A s s.heap) (hN : vx_Zq Bundle.tN "SUPPRESSED_SENTINEL" Bundle.listD A s s.heap) (hS : va_S A s.heap H locs) (hsize : ls.size = c.maxLocals)
    (d0 : decode cc pc = .ok (.new ik, 3)) (d3 : decode cc (pc + 3) = .ok (.dup, 1)) (d4 : decode cc (pc + 4) = .ok (.invokespecial ic, 3)) (d7 : decode cc (pc + 7) = .ok (.athrow, 1))
    (hout : ∀ x ∈ c.exceptionTable.toList, covers x (pc + 7) = false)
    (hRframes : names.length + 3 < R.frames) (hRlocals : (rest.map fun v => v.category).sum + (13 * (names.length + 1) + 42) ≤ R.locals) (hRcells : cells + 1 ≤ R.cells) (hRslots : slots + 6 ≤ R.slots) (hlocks : meth.locks = false)
    (hx : ∀ t : State, s.vm.Alike t.vm → H.size ≤ t.heap.size → (∀ q : Nat, q < H.size → t.heap[q]? = H[q]?) → XC cls s t)
    (hf : ∀ z ∈ locs, free z.base) (hc : cells + 1 ≤ mc) (hs : slots + 6 ≤ ms) :
    W p l e R s m args below meth c H locs cells slots (vx_MQ below Qc XC args s mc ms free) (F0 m pc ls rest) := by
  intro T hT X
  have htr : e.platform.stackTraces = false := (show e.platform.stackTraces = l.stackTraces by rw [X.admits.platform]).trans hl
  have Y := vx_rebase X (R' := { frames := R.frames, locals := R.locals, cells := 1, slots := 6 }) (Nat.le_refl _) (Nat.le_refl _) hRcells hRslots
  obtain ⟨s', hA⟩ : ∃ z, z = (T.setVm s.vm).setFrames (.invoking m args :: below) := ⟨_, rfl⟩
  rw [← hA] at Y
  have hvm : s'.vm = s.vm := by rw [hA]; rfl
  have hhp : s'.heap = H := by rw [hA]; exact hT
  have hW0 : s.WarmedH s'.vm := by rw [hvm]; exact State.WarmedH.refl s
  have hat' : ∀ w ∈ vx_at0 own ic cls names, w.before args s' = true := fun w hw => vx_ot_at hW0 hvm.symm (hgood w (List.mem_cons_of_mem _ (List.mem_cons_of_mem _ hw))) (hat w hw)
  have hk' : (Cond.classLink own ik cls).before args s' = true := vx_ot_at hW0 hvm.symm (hgood _ List.mem_cons_self) hk
  have hini' : (Cond.initialized cls).before args s' = true := vx_ot_at hW0 hvm.symm (hgood _ (List.mem_cons_of_mem _ List.mem_cons_self)) hini
  have hU' : vx_Zq Bundle.tN "UNASSIGNED_STACK" Bundle.steD A s' s'.heap := by rw [hhp]; exact vx_Zq.moved hW0.alike (hU.kept hS.2.1)
  have hN' : vx_Zq Bundle.tN "SUPPRESSED_SENTINEL" Bundle.listD A s' s'.heap := by rw [hhp]; exact vx_Zq.moved hW0.alike (hN.kept hS.2.1)
  have h : ∀ w ∈ Bundle.ownAtoms0 own ic cls names, w.before args s' = true := vx_own hat' (vx_isRefq hU'.1) (vx_isRefq hN'.1) hU'.2.word hN'.2.word
  have hown' : s'.vm.findClass own = some m.cls := by rw [hvm]; exact hown
  have hins : (Cond.instantiable cls 6).before args s' = true := h _ (by simp [Bundle.ownAtoms0])
  obtain ⟨vm₁, cX, kX, hfX, hkX, -, -, X₁, st1⟩ := Y.newCold hexec (own := own) (C := cls) (index := ik) (n := 6) hown' hk' hins hini'
    (g := F0 m pc ls rest) rfl (by rw [hb]; exact d0) (Nat.le_refl _) (Nat.le_refl _)
  generalize hT1 : (T.setVm vm₁).pushCell { cls := cX, slots := kX.instanceTypes.map defaultValue, vm := .none } = T1 at X₁ st1
  have hcat : (Value.ref T.heap.size).category = 1 := rfl
  have hcellA : T1.heap[T.heap.size]? = some (freshCell cX kX) := by rw [← hT1]; exact State.heap_pushCell_size _ _
  have d3' : decode c.code (pc + 3) = .ok (.dup, 1) := by rw [hb]; exact d3
  obtain ⟨U, hsteps, hrun, hend, hW, hsame, ce, hce, hO⟩ := X₁.ctorThrow0 hexec htr (own := own) (cls := cls) (names := names) (ic := ic) hown' hcls hnames h (fun x hx => nomatch hx) hfX hkX hcellA (by rw [hhp, hT]; exact Nat.le_refl _)
    (g := { method := m, pc := pc + 4, locals := ls, stack := .ref T.heap.size :: .ref T.heap.size :: rest, locked := none }) rfl hsize rfl rfl (rest := rest) rfl
    (by rw [hb]; exact d4) (by rw [hb]; exact d7) hout hRframes (by simp only [List.map_cons, List.sum_cons, hcat]; omega) hlocks
  obtain ⟨f1, f2⟩ := vx_frame hsame
  rw [hhp] at f1 f2
  have hWs : s.WarmedH U.vm := State.WarmedH.trans hW0 hW
  have hcl : s.vm.findClass cls = some ce.cls := by
    have h9 := hO.cls
    rw [hvm] at h9
    exact h9
  have hall : s.sameButNew ({ U with vm := s.vm } : State) locs mc ms := by
    subst hA
    obtain ⟨e1, e2⟩ := hsame
    rw [State.setFrames_setFrames] at e1
    have h2 : (T.setVm s.vm).sameButNew ({ U with vm := s.vm } : State) [] (0 + 1) (0 + 6) := ⟨e1, e2⟩
    have h3 := X.same.trans h2
    rw [List.append_nil] at h3
    exact h3.mono hc hs
  refine ⟨U, ?_, .threw T.heap.size, hrun, hend, Or.inr ⟨T.heap.size, rfl, cls, ce, locs, hx U hWs.alike f1 (fun q hq => f2 q hq (fun z hz => nomatch hz)), hce, hO.vm, hcl, hWs, hall, hf⟩⟩
  refine st1 _ ?_
  show Steps p.tables e below (T1.setTop { method := m, pc := pc + 3, locals := ls, stack := .ref T.heap.size :: rest, locked := none }) _
  jvm_step X₁.here [X₁.here.top, hexec, d3', Value.category]
  exact hsteps
/-- 'throw new E("text")': new; dup; ldc; invokespecial; athrow -/
theorem vx_throwS {cc : ByteArray} {pc : Nat} (hexec : p.tables.exec = Jvm.exec) (hb : c.code = cc) (hl : l.stackTraces = false) {own cls text : String} {names : List String} {ik is ic mc ms sa : Nat} {A : Nat → Prop}
    (hown : s.vm.findClass own = some m.cls) (hcls : Bundle.fit cls = true) (hnames : ∀ n ∈ names, Bundle.fit n = true)
    (hk : (Cond.classLink own ik cls).before args s = true) (hini : (Cond.initialized cls).before args s = true) (hstr : vk_R own is text sa s) (hat : ∀ w ∈ vx_atS own ic cls names, w.before args s = true)
    (hgood : ∀ w ∈ Cond.classLink own ik cls :: Cond.initialized cls :: vx_atS own ic cls names, vx_ot w = true)
    (hU : vx_Zq Bundle.tN "UNASSIGNED_STACK" Bundle.steD A s s.heap) (hN : vx_Zq Bundle.tN "SUPPRESSED_SENTINEL" Bundle.listD A s s.heap) (hS : va_S A s.heap H locs) (hsize : ls.size = c.maxLocals)
    (d0 : decode cc pc = .ok (.new ik, 3)) (d3 : decode cc (pc + 3) = .ok (.dup, 1)) (d4 : decode cc (pc + 4) = .ok (.ldc is, 2)) (d6 : decode cc (pc + 6) = .ok (.invokespecial ic, 3)) (d9 : decode cc (pc + 9) = .ok (.athrow, 1))
    (hout : ∀ x ∈ c.exceptionTable.toList, covers x (pc + 9) = false)
    (hRframes : names.length + 3 < R.frames) (hRlocals : (rest.map fun v => v.category).sum + (13 * (names.length + 1) + 43) ≤ R.locals) (hRcells : cells + 1 ≤ R.cells) (hRslots : slots + 6 ≤ R.slots) (hlocks : meth.locks = false)
    (hx : ∀ t : State, s.vm.Alike t.vm → H.size ≤ t.heap.size → (∀ q : Nat, q < H.size → t.heap[q]? = H[q]?) → XC cls s t)
    (hf : ∀ z ∈ locs, free z.base) (hc : cells + 1 ≤ mc) (hs : slots + 6 ≤ ms) :
    W p l e R s m args below meth c H locs cells slots (vx_MQ below Qc XC args s mc ms free) (F0 m pc ls rest) := by
  intro T hT X
  have htr : e.platform.stackTraces = false := (show e.platform.stackTraces = l.stackTraces by rw [X.admits.platform]).trans hl
  have Y := vx_rebase X (R' := { frames := R.frames, locals := R.locals, cells := 1, slots := 6 }) (Nat.le_refl _) (Nat.le_refl _) hRcells hRslots
  obtain ⟨s', hA⟩ : ∃ z, z = (T.setVm s.vm).setFrames (.invoking m args :: below) := ⟨_, rfl⟩
  rw [← hA] at Y
  have hvm : s'.vm = s.vm := by rw [hA]; rfl
  have hhp : s'.heap = H := by rw [hA]; exact hT
  have hW0 : s.WarmedH s'.vm := by rw [hvm]; exact State.WarmedH.refl s
  have hat' : ∀ w ∈ vx_atS own ic cls names, w.before args s' = true := fun w hw => vx_ot_at hW0 hvm.symm (hgood w (List.mem_cons_of_mem _ (List.mem_cons_of_mem _ hw))) (hat w hw)
  have hk' : (Cond.classLink own ik cls).before args s' = true := vx_ot_at hW0 hvm.symm (hgood _ List.mem_cons_self) hk
  have hini' : (Cond.initialized cls).before args s' = true := vx_ot_at hW0 hvm.symm (hgood _ (List.mem_cons_of_mem _ List.mem_cons_self)) hini
  have hU' : vx_Zq Bundle.tN "UNASSIGNED_STACK" Bundle.steD A s' s'.heap := by rw [hhp]; exact vx_Zq.moved hW0.alike (hU.kept hS.2.1)
  have hN' : vx_Zq Bundle.tN "SUPPRESSED_SENTINEL" Bundle.listD A s' s'.heap := by rw [hhp]; exact vx_Zq.moved hW0.alike (hN.kept hS.2.1)
  have h : ∀ w ∈ Bundle.ownAtoms own ic cls names, w.before args s' = true := vx_own hat' (vx_isRefq hU'.1) (vx_isRefq hN'.1) hU'.2.word hN'.2.word
  have hown' : s'.vm.findClass own = some m.cls := by rw [hvm]; exact hown
  have hins : (Cond.instantiable cls 6).before args s' = true := h _ (by simp [Bundle.ownAtoms])
  obtain ⟨vm₁, cX, kX, hfX, hkX, -, -, X₁, st1⟩ := Y.newCold hexec (own := own) (C := cls) (index := ik) (n := 6) hown' hk' hins hini'
    (g := F0 m pc ls rest) rfl (by rw [hb]; exact d0) (Nat.le_refl _) (Nat.le_refl _)
  generalize hT1 : (T.setVm vm₁).pushCell { cls := cX, slots := kX.instanceTypes.map defaultValue, vm := .none } = T1 at X₁ st1
  have hcat : (Value.ref T.heap.size).category = 1 := rfl
  have hcellA : T1.heap[T.heap.size]? = some (freshCell cX kX) := by rw [← hT1]; exact State.heap_pushCell_size _ _
  have d3' : decode c.code (pc + 3) = .ok (.dup, 1) := by rw [hb]; exact d3
  have d4' : decode c.code (pc + 4) = .ok (.ldc is, 2) := by rw [hb]; exact d4
  have hstr' : vk_R own is text sa s' := vk_R.warm hW0 hstr
  obtain ⟨U, hsteps, hrun, hend, hW, hsame, ce, hce, hO⟩ := X₁.ctorThrowS hexec htr (own := own) (cls := cls) (names := names) (ic := ic) hown' hcls hnames h (fun x hx => nomatch hx) hfX hkX hcellA (by rw [hhp, hT]; exact Nat.le_refl _) (msg := .ref sa) rfl
    (g := { method := m, pc := pc + 6, locals := ls, stack := .ref sa :: .ref T.heap.size :: .ref T.heap.size :: rest, locked := none }) rfl hsize rfl rfl (rest := rest) rfl
    (by rw [hb]; exact d6) (by rw [hb]; exact d9) hout hRframes (by simp only [List.map_cons, List.sum_cons, hcat]; omega) hlocks
  obtain ⟨f1, f2⟩ := vx_frame hsame
  rw [hhp] at f1 f2
  have hWs : s.WarmedH U.vm := State.WarmedH.trans hW0 hW
  have hcl : s.vm.findClass cls = some ce.cls := by
    have h9 := hO.cls
    rw [hvm] at h9
    exact h9
  have hall : s.sameButNew ({ U with vm := s.vm } : State) locs mc ms := by
    subst hA
    obtain ⟨e1, e2⟩ := hsame
    rw [State.setFrames_setFrames] at e1
    have h2 : (T.setVm s.vm).sameButNew ({ U with vm := s.vm } : State) [] (0 + 1) (0 + 6) := ⟨e1, e2⟩
    have h3 := X.same.trans h2
    rw [List.append_nil] at h3
    exact h3.mono hc hs
  refine ⟨U, ?_, .threw T.heap.size, hrun, hend, Or.inr ⟨T.heap.size, rfl, cls, ce, locs, hx U hWs.alike f1 (fun q hq => f2 q hq (fun z hz => nomatch hz)), hce, hO.vm, hcl, hWs, hall, hf⟩⟩
  refine st1 _ ?_
  show Steps p.tables e below (T1.setTop { method := m, pc := pc + 3, locals := ls, stack := .ref T.heap.size :: rest, locked := none }) _
  jvm_step X₁.here [X₁.here.top, hexec, d3', Value.category]
  exact X₁.ldcString hexec (own := own) (text := text) (index := is) (a := sa) hown' hstr'.1 hstr'.2
    (g := { method := m, pc := pc + 4, locals := ls, stack := .ref T.heap.size :: .ref T.heap.size :: rest, locked := none }) rfl d4' _ hsteps
/-- 'throw new E("text")', the text by a wide index -/
theorem vx_throwSW {cc : ByteArray} {pc : Nat} (hexec : p.tables.exec = Jvm.exec) (hb : c.code = cc) (hl : l.stackTraces = false) {own cls text : String} {names : List String} {ik is ic mc ms sa : Nat} {A : Nat → Prop}
    (hown : s.vm.findClass own = some m.cls) (hcls : Bundle.fit cls = true) (hnames : ∀ n ∈ names, Bundle.fit n = true)
    (hk : (Cond.classLink own ik cls).before args s = true) (hini : (Cond.initialized cls).before args s = true) (hstr : vk_R own is text sa s) (hat : ∀ w ∈ vx_atS own ic cls names, w.before args s = true)
    (hgood : ∀ w ∈ Cond.classLink own ik cls :: Cond.initialized cls :: vx_atS own ic cls names, vx_ot w = true)
    (hU : vx_Zq Bundle.tN "UNASSIGNED_STACK" Bundle.steD A s s.heap) (hN : vx_Zq Bundle.tN "SUPPRESSED_SENTINEL" Bundle.listD A s s.heap) (hS : va_S A s.heap H locs) (hsize : ls.size = c.maxLocals)
    (d0 : decode cc pc = .ok (.new ik, 3)) (d3 : decode cc (pc + 3) = .ok (.dup, 1)) (d4 : decode cc (pc + 4) = .ok (.ldc_w is, 3)) (d7 : decode cc (pc + 7) = .ok (.invokespecial ic, 3)) (d10 : decode cc (pc + 10) = .ok (.athrow, 1))
    (hout : ∀ x ∈ c.exceptionTable.toList, covers x (pc + 10) = false)
    (hRframes : names.length + 3 < R.frames) (hRlocals : (rest.map fun v => v.category).sum + (13 * (names.length + 1) + 43) ≤ R.locals) (hRcells : cells + 1 ≤ R.cells) (hRslots : slots + 6 ≤ R.slots) (hlocks : meth.locks = false)
    (hx : ∀ t : State, s.vm.Alike t.vm → H.size ≤ t.heap.size → (∀ q : Nat, q < H.size → t.heap[q]? = H[q]?) → XC cls s t)
    (hf : ∀ z ∈ locs, free z.base) (hc : cells + 1 ≤ mc) (hs : slots + 6 ≤ ms) :
    W p l e R s m args below meth c H locs cells slots (vx_MQ below Qc XC args s mc ms free) (F0 m pc ls rest) := by
  intro T hT X
  have htr : e.platform.stackTraces = false := (show e.platform.stackTraces = l.stackTraces by rw [X.admits.platform]).trans hl
  have Y := vx_rebase X (R' := { frames := R.frames, locals := R.locals, cells := 1, slots := 6 }) (Nat.le_refl _) (Nat.le_refl _) hRcells hRslots
  obtain ⟨s', hA⟩ : ∃ z, z = (T.setVm s.vm).setFrames (.invoking m args :: below) := ⟨_, rfl⟩
  rw [← hA] at Y
  have hvm : s'.vm = s.vm := by rw [hA]; rfl
  have hhp : s'.heap = H := by rw [hA]; exact hT
  have hW0 : s.WarmedH s'.vm := by rw [hvm]; exact State.WarmedH.refl s
  have hat' : ∀ w ∈ vx_atS own ic cls names, w.before args s' = true := fun w hw => vx_ot_at hW0 hvm.symm (hgood w (List.mem_cons_of_mem _ (List.mem_cons_of_mem _ hw))) (hat w hw)
  have hk' : (Cond.classLink own ik cls).before args s' = true := vx_ot_at hW0 hvm.symm (hgood _ List.mem_cons_self) hk
  have hini' : (Cond.initialized cls).before args s' = true := vx_ot_at hW0 hvm.symm (hgood _ (List.mem_cons_of_mem _ List.mem_cons_self)) hini
  have hU' : vx_Zq Bundle.tN "UNASSIGNED_STACK" Bundle.steD A s' s'.heap := by rw [hhp]; exact vx_Zq.moved hW0.alike (hU.kept hS.2.1)
  have hN' : vx_Zq Bundle.tN "SUPPRESSED_SENTINEL" Bundle.listD A s' s'.heap := by rw [hhp]; exact vx_Zq.moved hW0.alike (hN.kept hS.2.1)
  have h : ∀ w ∈ Bundle.ownAtoms own ic cls names, w.before args s' = true := vx_own hat' (vx_isRefq hU'.1) (vx_isRefq hN'.1) hU'.2.word hN'.2.word
  have hown' : s'.vm.findClass own = some m.cls := by rw [hvm]; exact hown
  have hins : (Cond.instantiable cls 6).before args s' = true := h _ (by simp [Bundle.ownAtoms])
  obtain ⟨vm₁, cX, kX, hfX, hkX, -, -, X₁, st1⟩ := Y.newCold hexec (own := own) (C := cls) (index := ik) (n := 6) hown' hk' hins hini'
    (g := F0 m pc ls rest) rfl (by rw [hb]; exact d0) (Nat.le_refl _) (Nat.le_refl _)
  generalize hT1 : (T.setVm vm₁).pushCell { cls := cX, slots := kX.instanceTypes.map defaultValue, vm := .none } = T1 at X₁ st1
  have hcat : (Value.ref T.heap.size).category = 1 := rfl
  have hcellA : T1.heap[T.heap.size]? = some (freshCell cX kX) := by rw [← hT1]; exact State.heap_pushCell_size _ _
  have d3' : decode c.code (pc + 3) = .ok (.dup, 1) := by rw [hb]; exact d3
  have d4' : decode c.code (pc + 4) = .ok (.ldc_w is, 3) := by rw [hb]; exact d4
  have hstr' : vk_R own is text sa s' := vk_R.warm hW0 hstr
  obtain ⟨U, hsteps, hrun, hend, hW, hsame, ce, hce, hO⟩ := X₁.ctorThrowS hexec htr (own := own) (cls := cls) (names := names) (ic := ic) hown' hcls hnames h (fun x hx => nomatch hx) hfX hkX hcellA (by rw [hhp, hT]; exact Nat.le_refl _) (msg := .ref sa) rfl
    (g := { method := m, pc := pc + 7, locals := ls, stack := .ref sa :: .ref T.heap.size :: .ref T.heap.size :: rest, locked := none }) rfl hsize rfl rfl (rest := rest) rfl
    (by rw [hb]; exact d7) (by rw [hb]; exact d10) hout hRframes (by simp only [List.map_cons, List.sum_cons, hcat]; omega) hlocks
  obtain ⟨f1, f2⟩ := vx_frame hsame
  rw [hhp] at f1 f2
  have hWs : s.WarmedH U.vm := State.WarmedH.trans hW0 hW
  have hcl : s.vm.findClass cls = some ce.cls := by
    have h9 := hO.cls
    rw [hvm] at h9
    exact h9
  have hall : s.sameButNew ({ U with vm := s.vm } : State) locs mc ms := by
    subst hA
    obtain ⟨e1, e2⟩ := hsame
    rw [State.setFrames_setFrames] at e1
    have h2 : (T.setVm s.vm).sameButNew ({ U with vm := s.vm } : State) [] (0 + 1) (0 + 6) := ⟨e1, e2⟩
    have h3 := X.same.trans h2
    rw [List.append_nil] at h3
    exact h3.mono hc hs
  refine ⟨U, ?_, .threw T.heap.size, hrun, hend, Or.inr ⟨T.heap.size, rfl, cls, ce, locs, hx U hWs.alike f1 (fun q hq => f2 q hq (fun z hz => nomatch hz)), hce, hO.vm, hcl, hWs, hall, hf⟩⟩
  refine st1 _ ?_
  show Steps p.tables e below (T1.setTop { method := m, pc := pc + 3, locals := ls, stack := .ref T.heap.size :: rest, locked := none }) _
  jvm_step X₁.here [X₁.here.top, hexec, d3', Value.category]
  exact X₁.ldcStringW hexec (own := own) (text := text) (index := is) (a := sa) hown' hstr'.1 hstr'.2
    (g := { method := m, pc := pc + 4, locals := ls, stack := .ref T.heap.size :: .ref T.heap.size :: rest, locked := none }) rfl d4' _ hsteps
end Ends
section Bodies
variable {l : Launch}
theorem vx_ofW {y : MethodName} {ws ws' : List Cond} {rm : Room} {Pc : Array Value → State → Prop} {Qc : Array Value → State → Outcome → State → Prop} {XC : String → State → State → Prop} {mc ms : Nat} {free : Addr → Prop} {cc : ByteArray} {maxL : Nat} {ret : Option FieldType}
    (hy : plainName y.cls = true) (hw : ws = Cond.code y cc maxL ret :: ws')
    (body : ∀ p e s m args below meth c s₁, BodyLoose p l y (headSpec ws rm) cc maxL ret e s m args below meth c s₁ → c.maxLocals = maxL → (∀ x ∈ c.exceptionTable.toList, False) → Pc args s →
      W p l e (headSpec ws rm).room s m args below meth c s.heap [] 0 0 (vx_MQ below Qc XC args s mc ms free) (entryFrame m args maxL)) : vx_Met l y ws rm Pc Qc XC mc ms free := by
  refine MetFree.of_bodyS (code := cc) (maxLocals := maxL) (ret := ret) hy ?_ ?_
  · intro args s m h hn
    obtain ⟨meth, c, h1, h2, h3, h4, h5, h6, -, -⟩ := Cond.code_spec hn (atoms_spec (ws := ws) h _ (by rw [hw]; exact List.mem_cons_self))
    exact ⟨meth, c, h1, h2, h3, h4, h5, h6⟩
  · intro p e s m args below meth c s₁ B hml hP _
    have hh0 : s₁.heap = s.heap := by rw [B.state]; rfl
    have ht : ∀ x ∈ c.exceptionTable.toList, False := by
      obtain ⟨meth9, c9, h1, h2, -, -, -, -, h7, -⟩ := Cond.code_spec B.named (atoms_spec (ws := ws) B.pre _ (by rw [hw]; exact List.mem_cons_self))
      cases Option.some.inj (h1.symm.trans B.method)
      cases Option.some.inj (h2.symm.trans (Stand.of_body B).code)
      intro x hx
      rw [Array.isEmpty_iff.mp h7] at hx
      cases hx
    obtain ⟨t, a1, o, b1, b2, b3⟩ := body p e s m args below meth c s₁ B hml ht hP s₁ hh0 (Stand.of_body B)
    exact ⟨t, o, a1, b1, b2, b3⟩
/-- the table of a body with handlers -/
theorem vx_table {p : Program} {x y : MethodName} {S : Spec} {cc bytes : ByteArray} {maxL maxL' : Nat} {ret ret' : Option FieldType} {e : Env} {s s₁ : State} {m : MethodId} {args : Array Value} {below : List Frame} {meth : Method} {c : Code} {hh : List (Nat × Nat × Nat × Nat)}
    (B : BodyLoose p l y S cc maxL ret e s m args below meth c s₁) (h : (Cond.codeWith y bytes maxL' ret' hh).before args s = true) : c.exceptionTable.toList = tableOf hh := by
  obtain ⟨m9, meth9, c9, hn9, h1, h2, -, -, h6, -⟩ := Cond.codeWith_spec h
  cases Option.some.inj (hn9.symm.trans B.named)
  cases Option.some.inj (h1.symm.trans B.method)
  cases Option.some.inj (h2.symm.trans (Stand.of_body B).code)
  rw [← h6, table_eq]
end Bodies
end VXA
/-! ===== END ===== -/
/-! ===== BEGIN a static call of a method with an exception table ===== -/
section VXS
variable {p : Program} {l : Launch} {e : Env} {R : Room} {s : State} {m : MethodId} {args : Array Value} {below : List Frame} {meth : Method} {c : Code} {T : State} {H : Heap} {locs : List Loc} {cells slots : Nat}
abbrev vx_CSW (R : Room) (s : State) (args : Array Value) (own : String) (index : Nat) (y : MethodName) (bytes : ByteArray) (maxL : Nat) (ret : Option FieldType) (hh : List (Nat × Nat × Nat × Nat)) (ws : List Cond) (rm : Room) (mc ms n : Nat) : Prop :=
  (rm.cells = mc ∧ rm.slots = ms ∧ rm.frames + 1 ≤ R.frames ∧ 8 + (maxL + 11) + rm.locals ≤ R.locals ∧ (∀ w ∈ ws, ∀ (a' : Array Value) (U : State), s.WarmedH U.vm → w.before a' U = true) ∧ Cond.codeWith y bytes maxL ret hh ∈ ws) ∧
  (Cond.codeWith y bytes maxL ret hh).before args s = true ∧ (Cond.initialized y.cls).before args s = true ∧ (y.cls ≠ "java/lang/invoke/MethodHandle" ∧ y.cls ≠ "java/lang/invoke/VarHandle") ∧
  (∀ sig, parseMethodDescriptor y.desc = some sig → n = sig.parameters.length) ∧ (Cond.methodLink own index y).before args s = true ∧ (Cond.static y).before args s = true
theorem vx_cwSW {own : String} {index maxL mc ms : Nat} {y : MethodName} {bytes : ByteArray} {ret : Option FieldType} {hh : List (Nat × Nat × Nat × Nat)} {Ts ws ws' : List Cond} {rm : Room} (n : Nat) (ht : ∀ w ∈ Ts, w.before args s = true) (hT : GoodIn Ts (va_wsS own index y ws)) (hw : ws = Cond.codeWith y bytes maxL ret hh :: ws') (hrc : rm.cells = mc) (hrs : rm.slots = ms)
    (hd : y.cls ≠ "java/lang/invoke/MethodHandle" ∧ y.cls ≠ "java/lang/invoke/VarHandle" ∧ (parseMethodDescriptor y.desc).map (fun d => d.parameters.length) = some n) (hR : rm.frames + 1 ≤ R.frames ∧ 8 + (maxL + 11) + rm.locals ≤ R.locals) :
    vx_CSW R s args own index y bytes maxL ret hh ws rm mc ms n := by
  have ok : ∀ w ∈ va_wsS own index y ws, w.before args s = true := fun w h => ht w (hT w h).1
  have hG : GoodIn Ts ws := fun w h => hT w (by unfold va_wsS; exact List.mem_append_right _ h)
  have hc : Cond.codeWith y bytes maxL ret hh ∈ ws := by rw [hw]; exact List.mem_cons_self
  refine ⟨⟨hrc, hrs, hR.1, hR.2, pay_in ht hG, hc⟩, ht _ (hG _ hc).1, ok _ (by simp [va_wsS]), ⟨hd.1, hd.2.1⟩, fun sig h => ?_, ok _ (by simp [va_wsS]), ok _ (by simp [va_wsS])⟩
  have h2 := hd.2.2
  rw [h] at h2
  exact (Option.some.inj h2).symm
theorem vx_callSW (X : Stand p l e R s m args below meth c T locs cells slots) (hexec : p.tables.exec = Jvm.exec) {own : String} {index : Nat} {y : MethodName} {bytes : ByteArray} {maxL : Nat} {ret : Option FieldType} {hh : List (Nat × Nat × Nat × Nat)}
    (hown : s.vm.findClass own = some m.cls) (hlink : (Cond.methodLink own index y).before args s = true) (hstat : (Cond.static y).before args s = true) (hinit : (Cond.initialized y.cls).before args s = true)
    (hcode : (Cond.codeWith y bytes maxL ret hh).before args s = true) (hy : y.cls ≠ "java/lang/invoke/MethodHandle" ∧ y.cls ≠ "java/lang/invoke/VarHandle")
    {W9 : Nat} {Pre : Pt → Array Value → Prop} {Post : Pt → Array Value → Option Value → Pt → Prop} (hK : Back l R p e below s args y 3 W9 Pre Post)
    {g : JFrame} (hg : g.method = m) (hsize : g.locals.size = c.maxLocals) {argsL rest : List Value} (hlen : ∀ sig, parseMethodDescriptor y.desc = some sig → argsL.length = sig.parameters.length)
    (hstack : g.stack = argsL.reverse ++ rest) (hW : 2 * g.monitorRoom + (rest.map fun v => v.category).sum ≤ W9) (hdg : decode c.code g.pc = .ok (.invokestatic index, 3))
    (hpre : ∀ vm₁, s.WarmedH vm₁ → Pre ⟨T.setVm vm₁, locs, cells, slots⟩ argsL.toArray) :
    ∃ (v : Option Value) (vm₁ : Vm) (B : Pt), s.WarmedH vm₁ ∧ Stand p l e R s m args below meth c B.U B.locs B.cells B.slots ∧ Post ⟨T.setVm vm₁, locs, cells, slots⟩ argsL.toArray v B ∧
      ∀ target, Steps p.tables e below (B.U.setTop { g with pc := g.pc + 3, stack := v.toList ++ rest }) target → Steps p.tables e below (T.setTop g) target := by
  obtain ⟨mk, methM, cM, hnamed, hmethM, -, -, -, -, -, -, hsigM⟩ := Cond.codeWith_spec hcode
  have hstatic : methM.isStatic = true := Cond.static_spec hnamed hmethM hstat
  obtain ⟨kP, hkP, -⟩ := className_of_methodNamed hnamed
  have hinitP : kP.init = .initialized := Cond.initialized_spec (findClass_of_methodNamed hnamed) hkP hinit
  obtain ⟨vm₁, X₁, hstep₁⟩ := X.invokestatic hexec hown hlink hnamed hmethM hstatic hkP hinitP hy (g := g) hg (argsL := argsL) (rest := rest) (hlen _ hsigM) hstack hdg
  obtain ⟨v, B, X', hpost, hsteps⟩ := hK m meth c ⟨T.setVm vm₁, locs, cells, slots⟩ { g with stack := rest } (.invokestatic index) mk argsL.toArray X₁ hg hsize hdg hW (X₁.named hnamed) (hpre vm₁ X₁.warmed)
  exact ⟨v, vm₁, B, X₁.warmed, X', hpost, fun target h => hstep₁ _ fun acts => by rw [doInvoke_state]; exact hsteps.trans h⟩
theorem vx_runSW {y : MethodName} {bytes cc : ByteArray} {maxL nL mc ms n index : Nat} {ret : Option FieldType} {hh : List (Nat × Nat × Nat × Nat)} {ws : List Cond} {rm : Room} {Pc : Array Value → State → Prop} {Qc : Array Value → State → Outcome → State → Prop} {free : Addr → Prop} {Ts : List Cond} {own : String} {As rest : List Value} {g : JFrame}
    (S : CallFix p m c cc nL s args Ts own) (hM : Met l y ws rm Pc Qc mc ms free) (cw : vx_CSW R s args own index y bytes maxL ret hh ws rm mc ms n) (hp : PreS s H Pc As)
    (hg : g.method = m) (hn : As.length = n) (hsize : g.locals.size = nL) (hstack : g.stack = As.reverse ++ rest) (hW : 2 * g.monitorRoom + (rest.map fun v => v.category).sum ≤ 8) (hdg : decode cc g.pc = .ok (.invokestatic index, 3)) (hf : cells + mc ≤ R.cells ∧ slots + ms ≤ R.slots) :
    va_Run p l e R s m args below meth c H locs cells slots mc ms g rest (Qc As.toArray) (free) := by
  obtain ⟨⟨hrc, hrs, hfr, hlo, hws, hcw⟩, hcode, hini, hy, hlen, hl, hstt⟩ := cw
  have hK : Back l R p e below s args y 3 8 (PreOf R mc ms Pc) (PostOf Qc mc ms free) := va_backW (hh := hh) (bytes := bytes) (maxL := maxL) (ret := ret) hM hp.1 hrc hrs hfr hlo hws hcw (fun a' U hW => word_at hW (Or.inl (by first | rfl | simp [Cond.onTables, Cond.keeps, Cond.steady])) hini)
  obtain ⟨hx, hb, hml, ho, -⟩ := S
  intro T hT X
  obtain ⟨v, vm₁, ⟨U', l2, c2, s2⟩, hW₁, X', ⟨g', mk, t, L, e1, e2, hq, h1, hL, h2, h3⟩, st⟩ := vx_callSW X hx (hh := hh) (bytes := bytes) (maxL := maxL) (ret := ret) ho hl hstt hini hcode hy hK hg (hsize.trans hml.symm) (argsL := As) (rest := rest) (fun sig h => hn.trans (hlen sig h)) hstack hW (by rw [hb]; exact hdg)
    (fun vm₁ hW₁ => ⟨hf.1, hf.2, hp.2 (T.setVm vm₁) hT hW₁⟩)
  dsimp only [Pt.U, Pt.locs, Pt.cells, Pt.slots] at X' e1 e2 h1 h2 h3 st
  subst h1; subst h2; subst h3
  exact ⟨v, (T.setVm vm₁).calling g' mk As.toArray, t, U', L, hT, X', hL, e1, e2, hq, st⟩
/-- not caught here, past rows that name other classes: it goes on to the caller -/
theorem vx_outP {p : Program} {l : Launch} {e : Env} {R : Room} {s : State} {m : MethodId} {args : Array Value} {below : List Frame} {meth : Method} {c : Code} {H : Heap} {locs : List Loc} {cells slots : Nat} {free : Addr → Prop} {ls : Array Slot} {rest : List Value} {Qc : Array Value → State → Outcome → State → Prop} {XC : String → State → State → Prop}
    {pc : Nat} {own E : String} {ce : Cell} {q : Addr} {mc ms : Nat} (hown : s.vm.findClass own = some m.cls) (hlocks : meth.locks = false)
    (hpass : ∀ z ∈ c.exceptionTable.toList, covers z pc = false ∨ (z.catchType ≠ 0 ∧ ∃ nm : String, (Cond.classLink own z.catchType nm).before args s = true ∧ va_Nc E nm s)) (hcell : H[q]? = some ce) (hv : ce.vm = .none) (hcl : s.vm.findClass E = some ce.cls)
    (hx : ∀ t : State, t.heap = H → s.vm.Alike t.vm → XC E s t) (hf : ∀ z ∈ locs, free z.base) (hc : cells ≤ mc) (hs : slots ≤ ms) :
    vx_W p l e R s m args below meth c H locs cells slots (vx_MQ below Qc XC args s mc ms free) (F0 m pc ls rest) q := by
  intro T hT X
  have hpl : e.platform.magicAccessors = ({} : Platform).magicAccessors := by rw [X.admits.platform]
  obtain ⟨vm', hW', X', st⟩ := X.outThrough hlocks q (g := F0 m pc ls rest) rfl rfl rfl (cell := ce) (by rw [hT]; exact hcell) (by rw [hv]; rfl)
    (by obtain ⟨k9, h9, -⟩ := Vm.findClass_spec hcl; exact ⟨k9, h9⟩) (fun z hz => by
      rcases hpass z hz with h | ⟨hz0, nm, hl1, hn1⟩
      · exact Or.inl h
      · obtain ⟨c6, hc6, hcl6⟩ := Cond.classLink_spec hown hl1 e.platform hpl
        obtain ⟨a8, b8, h1, h2, h3⟩ := hn1
        cases Option.some.inj (h1.symm.trans hcl)
        cases Option.some.inj (h2.symm.trans hc6)
        exact Or.inr ⟨hz0, _, hcl6, h3⟩)
  obtain ⟨g₀, hfr⟩ := X'.frames_eq
  have hcell9 : ((T.setVm vm').setFrames (.throwing q :: below)).heap[q]? = some ce := by
    show T.heap[q]? = some ce
    rw [hT]; exact hcell
  have hend : Ended ((T.setVm vm').setFrames (.throwing q :: below)) below (.threw q) := State.frames_setFrames _ (State.cur_lt_of_frames hfr)
  refine ⟨(T.setVm vm').setFrames (.throwing q :: below), ?_, .threw q, X'.here.running, hend, Or.inr ⟨q, rfl, E, ce, locs, hx _ hT (X'.ends _).1.alike, hcell9, hv, hcl, (X'.ends _).1, (X'.ends _).2.mono hc hs, hf⟩⟩
  rw [X.pushThrowing_eq]
  exact st
/-- a thing of a world lies in the heap -/
theorem vx_lt {D : va_G} {cl : List vw_C} {ws : va_W} {H1 : Heap} (h : va_P D cl ws H1) {k : Nat} {q : Nat × va_E} (hk : ws[k]? = some q) : q.1 < H1.size := (h k q hk).lt
end VXS
/-! ===== END ===== -/
/-! ===== BEGIN methods with a table of their own: called by a name, returning or throwing ===== -/
section VXH
/-! vx_backW, vx_callVX, vx_callSX, vx_callVW, vx_runVW, vx_runVX, vx_runSX, vx_ofWH follow the same proofs as their sisters above (Free/Laws.lean, Shelf42/LK1.lean); vx_outP calls Shelf42/NT130.lean (outThrough). -/
section
variable {l : Launch} {R : Room} {p : Program} {e : Env} {below : List Frame} {s : State} {sargs : Array Value} {y : MethodName} {len W9 : Nat}
theorem vx_backW {ws : List Cond} {rm : Room} {Pc : Array Value → State → Prop} {Qc : Array Value → State → Outcome → State → Prop} {XC : String → State → State → Prop} {mc ms : Nat} {free : Addr → Prop} {bytes : ByteArray} {maxL : Nat} {ret : Option FieldType} {hh : List (Nat × Nat × Nat × Nat)}
    (hM : vx_Met l y ws rm Pc Qc XC mc ms free) (hblind : FrameBlind Pc) (hrc : rm.cells = mc) (hrs : rm.slots = ms)
    (hframes : rm.frames + 1 ≤ R.frames) (hlocals : W9 + (maxL + 11) + rm.locals ≤ R.locals)
    (hws : ∀ w ∈ ws, ∀ a' U, s.WarmedH U.vm → w.before a' U = true) (hcode : Cond.codeWith y bytes maxL ret hh ∈ ws) (hinit : ∀ a' U, s.WarmedH U.vm → (Cond.initialized y.cls).before a' U = true) :
    vx_Back l R p e below s sargs y len W9 (PreOf R mc ms Pc) (PostOf Qc mc ms free) (vx_Post XC mc ms free) := by
  intro m meth c A g ig mk a X hg hsize hdg hW hn hp
  have h1 : (headSpec ws rm).pre.before a A.U = true := atoms_intro fun w hw => hws w hw _ _ X.warmed
  have h2 : (Cond.codeWith y bytes maxL ret hh).before a A.U = true := hws _ hcode _ _ X.warmed
  have h3 : (Cond.initialized y.cls).before a A.U = true := hinit _ _ X.warmed
  have h4 : A.cells + (headSpec ws rm).room.cells ≤ R.cells := by rw [show (headSpec ws rm).room.cells = mc from hrc]; exact hp.1
  have h5 : A.slots + (headSpec ws rm).room.slots ≤ R.slots := by rw [show (headSpec ws rm).room.slots = ms from hrs]; exact hp.2.1
  have hPc : Pc a (A.U.calling g mk a) := hblind _ _ _ _ hp.2.2
  obtain ⟨U, Ls, c0, s0⟩ := A
  dsimp only [Pt.U, Pt.locs, Pt.cells, Pt.slots] at h1 h2 h3 h4 h5 X hn hPc ⊢
  obtain ⟨m9, methY, cY, hn9, hmY, hcY, -, hlY, -⟩ := Cond.codeWith_spec h2
  cases Option.some.inj (hn9.symm.trans hn)
  obtain ⟨kY, hkY, -⟩ := className_of_methodNamed hn
  have hinitY : kY.init = .initialized := Cond.initialized_spec (findClass_of_methodNamed hn) hkY h3
  have h : At U g.method c below := by rw [hg]; exact X.here
  have hlocals9 : W9 + (maxL + 11) + (headSpec ws rm).room.locals ≤ R.locals := hlocals
  have happ : (headSpec ws rm).appliesLoose y e.platform (U.calling g mk a) = true :=
    Spec.appliesLoose_calling (g := g) h hdg hn hkY hinitY
      (X.room_calling (g := g) (R' := (headSpec ws rm).room) hsize hmY hcY hframes (by rw [hlY]; omega) h4 h5) h1
  obtain ⟨mid, hmid⟩ := h.above
  have hfr : (U.setTop g).frames = (.java g :: mid) ++ below := by rw [State.frames_setTop' g h.top, hmid]; rfl
  obtain ⟨o, s₂, hsteps, -, hend, hq⟩ := Steps.callFree hM p X.admits X.cas X.clock (acts := []) hfr happ hPc trivial
  have hq' : vx_Q Qc XC mc ms free a (U.calling g mk a) o s₂ := hq
  rw [State.frames_setTop' g h.top] at hend
  obtain ⟨g₀, hg0⟩ := Option.isSome_iff_exists.mp h.top
  obtain ⟨r, hr⟩ := State.topJava?_eq_some.mp hg0
  have hr' : (({ U with heap := s₂.heap, slotsUsed := s₂.slotsUsed } : State).setVm s₂.vm).frames = .java g₀ :: r := hr
  rcases hq' with ⟨hqc, L, hfe, hL⟩ | ⟨q, rfl, E, ce, L, hx, hce, hcv, hcl, hW₂, hsm, hL⟩
  · obtain ⟨⟨v, rfl⟩, hW₂, e2, q2, q3, q4, q5, q6⟩ := id hfe
    have e3 : s₂ = ({ (U.calling g mk a).setFrames s₂.frames with heap := s₂.heap, slotsUsed := s₂.slotsUsed } : State).setVm s₂.vm := by
      have : s₂ = ({ s₂ with vm := (U.calling g mk a).vm } : State).setVm s₂.vm := rfl
      rw [e2] at this
      exact this
    obtain ⟨c₂, i₂, len₂, hc₂, hd₂, hf₂⟩ := hend
    have hW' : U.WarmedH s₂.vm := hW₂
    have hcc : c₂ = c := by
      have h1 : s₂.code? g.method = U.code? g.method := by
        rw [State.code?_eq, State.code?_eq, hW'.alike.method?]
      exact Option.some.inj (hc₂.symm.trans (h1.trans h.code))
    subst hcc
    have hlen : len₂ = len := by rw [hdg] at hd₂; cases hd₂; rfl
    subst hlen
    have hs₂ : s₂ = (({ U with heap := s₂.heap, slotsUsed := s₂.slotsUsed } : State).setVm s₂.vm).setTop { g with pc := g.pc + len₂, stack := v.toList ++ g.stack } := by
      refine e3.trans ?_
      rw [hf₂, State.calling_eq h.top, State.setFrames_setFrames, State.setTop_of_frames _ hr', hr]
      rfl
    have hsame : U.sameButNew ({ U with heap := s₂.heap, slotsUsed := s₂.slotsUsed } : State) L mc ms := by
      refine ⟨?_, q2, q3, q4, q5, q6⟩
      obtain ⟨t, ht, -⟩ := State.frames_cons hr
      show ({ U with heap := s₂.heap, slotsUsed := s₂.slotsUsed } : State) = { U.setFrames U.frames with heap := s₂.heap, slotsUsed := s₂.slotsUsed }
      rw [State.setFrames_self ht]
    subst hg
    refine Or.inl ⟨v, ⟨(({ U with heap := s₂.heap, slotsUsed := s₂.slotsUsed } : State).setVm s₂.vm), Ls ++ L, c0 + mc, s0 + ms⟩,
      ⟨X.admits, X.cas, X.clock, X.frames, X.room, X.hears, X.method, X.code, (X.here.setHeapUsed s₂.heap s₂.slotsUsed).setVm hW'.alike, X.tail, State.WarmedH.trans X.warmed hW', X.limits, X.bytes, X.same.trans (hsame.setVm s.vm)⟩,
      ⟨g, mk, s₂, L, rfl, rfl, hqc, rfl, hL, rfl, rfl⟩, ?_⟩
    show Steps p.tables e below _ ((({ U with heap := s₂.heap, slotsUsed := s₂.slotsUsed } : State).setVm s₂.vm).setTop { g with pc := g.pc + len₂, stack := v.toList ++ g.stack })
    rw [← hs₂]
    exact hsteps
  · obtain ⟨e2, q2, q3, q4, q5, q6⟩ := id hsm
    have e3 : s₂ = ({ (U.calling g mk a).setFrames s₂.frames with heap := s₂.heap, slotsUsed := s₂.slotsUsed } : State).setVm s₂.vm := by
      have : s₂ = ({ s₂ with vm := (U.calling g mk a).vm } : State).setVm s₂.vm := rfl
      rw [e2] at this
      exact this
    have hf₂ : s₂.frames = .throwing q :: .java g :: U.frames.tail := hend
    have hW' : U.WarmedH s₂.vm := hW₂
    have hs₂ : s₂ = ((({ U with heap := s₂.heap, slotsUsed := s₂.slotsUsed } : State).setVm s₂.vm).setTop g).pushFrame (.throwing q) := by
      refine e3.trans ?_
      rw [hf₂, State.calling_eq h.top, State.setFrames_setFrames, State.pushFrame, State.frames_setTop _ hr', State.setTop_of_frames _ hr', State.setFrames_setFrames, hr]
      rfl
    have hsame : U.sameButNew ({ U with heap := s₂.heap, slotsUsed := s₂.slotsUsed } : State) L mc ms := by
      refine ⟨?_, q2, q3, q4, q5, q6⟩
      obtain ⟨t, ht, -⟩ := State.frames_cons hr
      show ({ U with heap := s₂.heap, slotsUsed := s₂.slotsUsed } : State) = { U.setFrames U.frames with heap := s₂.heap, slotsUsed := s₂.slotsUsed }
      rw [State.setFrames_self ht]
    subst hg
    refine Or.inr ⟨q, ⟨(({ U with heap := s₂.heap, slotsUsed := s₂.slotsUsed } : State).setVm s₂.vm), Ls ++ L, c0 + mc, s0 + ms⟩,
      ⟨X.admits, X.cas, X.clock, X.frames, X.room, X.hears, X.method, X.code, (X.here.setHeapUsed s₂.heap s₂.slotsUsed).setVm hW'.alike, X.tail, State.WarmedH.trans X.warmed hW', X.limits, X.bytes, X.same.trans (hsame.setVm s.vm)⟩,
      ⟨g, mk, s₂, L, E, ce, rfl, rfl, hx, hce, hcv, hcl, rfl, hL, rfl, rfl⟩, ?_⟩
    show Steps p.tables e below _ (((({ U with heap := s₂.heap, slotsUsed := s₂.slotsUsed } : State).setVm s₂.vm).setTop g).pushFrame (.throwing q))
    rw [← hs₂]
    exact hsteps
end
variable {p : Program} {l : Launch} {e : Env} {R : Room} {s : State} {m : MethodId} {args : Array Value} {below : List Frame} {meth : Method} {c : Code} {T : State} {H : Heap} {locs : List Loc} {cells slots : Nat}
theorem vx_callVX (X : Stand p l e R s m args below meth c T locs cells slots) (hexec : p.tables.exec = Jvm.exec) {own C : String} {index : Nat} {y : MethodName} {bytes : ByteArray} {maxL : Nat} {ret : Option FieldType} {hh : List (Nat × Nat × Nat × Nat)}
    (hown : s.vm.findClass own = some m.cls) (hlink : (Cond.methodLink own index y).before args s = true) (hinst : (Cond.instanceMethod y).before args s = true) (hsel : (Cond.selects C y y).before args s = true)
    (hcode : (Cond.codeWith y bytes maxL ret hh).before args s = true) (hy : y.cls ≠ "java/lang/invoke/MethodHandle" ∧ y.cls ≠ "java/lang/invoke/VarHandle")
    {W9 : Nat} {Pre : Pt → Array Value → Prop} {Post : Pt → Array Value → Option Value → Pt → Prop} {PostX : Pt → Array Value → Addr → Pt → Prop} (hK : vx_Back l R p e below s args y 3 W9 Pre Post PostX)
    {b : Addr} {cellB : Cell} (hcell : T.heap[b]? = some cellB) (hobj : cellB.vm.isStatics = false) (hcls : s.vm.findClass C = some cellB.cls)
    {g : JFrame} (hg : g.method = m) (hsize : g.locals.size = c.maxLocals) {argsL rest : List Value} (hlen : ∀ sig, parseMethodDescriptor y.desc = some sig → argsL.length = sig.parameters.length)
    (hstack : g.stack = argsL.reverse ++ .ref b :: rest) (hW : 2 * g.monitorRoom + (rest.map fun v => v.category).sum ≤ W9) (hdg : decode c.code g.pc = .ok (.invokevirtual index, 3))
    (hpre : ∀ vm₁, s.WarmedH vm₁ → Pre ⟨T.setVm vm₁, locs, cells, slots⟩ (Value.ref b :: argsL).toArray) :
    (∃ (v : Option Value) (vm₁ : Vm) (B : Pt), s.WarmedH vm₁ ∧ Stand p l e R s m args below meth c B.U B.locs B.cells B.slots ∧ Post ⟨T.setVm vm₁, locs, cells, slots⟩ (Value.ref b :: argsL).toArray v B ∧
      ∀ target, Steps p.tables e below (B.U.setTop { g with pc := g.pc + 3, stack := v.toList ++ rest }) target → Steps p.tables e below (T.setTop g) target) ∨
    (∃ (q : Addr) (vm₁ : Vm) (B : Pt), s.WarmedH vm₁ ∧ Stand p l e R s m args below meth c B.U B.locs B.cells B.slots ∧ PostX ⟨T.setVm vm₁, locs, cells, slots⟩ (Value.ref b :: argsL).toArray q B ∧
      Steps p.tables e below (T.setTop g) ((B.U.setTop { g with stack := rest }).pushFrame (.throwing q))) := by
  obtain ⟨mk, methM, hnamed, hmethM, hstM, habM⟩ := Cond.instanceMethod_spec hinst
  obtain ⟨m8, methM', cM, hn8, hmethM', -, -, -, -, -, -, hsigM⟩ := Cond.codeWith_spec hcode
  cases Option.some.inj (hn8.symm.trans hnamed)
  cases hmethM.symm.trans hmethM'
  obtain ⟨c2, r2, m2, q1, q2, q3, q4, kP, hkP, hkPi⟩ := Cond.selects_spec hsel
  cases hcls.symm.trans q1
  cases (State.methodFound?_of_named hnamed hy).symm.trans q2
  cases hnamed.symm.trans q3
  have hselP : selectMethod e.platform s.vm cellB.cls mk = .method mk := by rw [Launch.admits_selectMethod X.admits]; exact q4
  obtain ⟨vm₁, X₁, hstep₁⟩ := X.invokevirtual hexec hown hlink hnamed hmethM hstM hkP hkPi hy (a := b) (cell := cellB) hcell
    (fun z h => by rw [h] at hobj; cases hobj) hselP hmethM habM hkP hkPi (g := g) hg (argsL := argsL) (rest := rest) (hlen _ hsigM) hstack hdg
  rcases hK m meth c ⟨T.setVm vm₁, locs, cells, slots⟩ { g with stack := rest } (.invokevirtual index) mk (Value.ref b :: argsL).toArray X₁ hg hsize hdg hW (X₁.named hnamed) (hpre vm₁ X₁.warmed) with ⟨v, B, X', hpost, hsteps⟩ | ⟨q, B, X', hpost, hsteps⟩
  · exact Or.inl ⟨v, vm₁, B, X₁.warmed, X', hpost, fun target h => hstep₁ _ fun acts => by rw [doInvoke_state]; exact hsteps.trans h⟩
  · exact Or.inr ⟨q, vm₁, B, X₁.warmed, X', hpost, hstep₁ _ fun acts => by rw [doInvoke_state]; exact hsteps⟩
theorem vx_callSX (X : Stand p l e R s m args below meth c T locs cells slots) (hexec : p.tables.exec = Jvm.exec) {own : String} {index : Nat} {y : MethodName} {bytes : ByteArray} {maxL : Nat} {ret : Option FieldType} {hh : List (Nat × Nat × Nat × Nat)}
    (hown : s.vm.findClass own = some m.cls) (hlink : (Cond.methodLink own index y).before args s = true) (hstat : (Cond.static y).before args s = true) (hinit : (Cond.initialized y.cls).before args s = true)
    (hcode : (Cond.codeWith y bytes maxL ret hh).before args s = true) (hy : y.cls ≠ "java/lang/invoke/MethodHandle" ∧ y.cls ≠ "java/lang/invoke/VarHandle")
    {W9 : Nat} {Pre : Pt → Array Value → Prop} {Post : Pt → Array Value → Option Value → Pt → Prop} {PostX : Pt → Array Value → Addr → Pt → Prop} (hK : vx_Back l R p e below s args y 3 W9 Pre Post PostX)
    {g : JFrame} (hg : g.method = m) (hsize : g.locals.size = c.maxLocals) {argsL rest : List Value} (hlen : ∀ sig, parseMethodDescriptor y.desc = some sig → argsL.length = sig.parameters.length)
    (hstack : g.stack = argsL.reverse ++ rest) (hW : 2 * g.monitorRoom + (rest.map fun v => v.category).sum ≤ W9) (hdg : decode c.code g.pc = .ok (.invokestatic index, 3))
    (hpre : ∀ vm₁, s.WarmedH vm₁ → Pre ⟨T.setVm vm₁, locs, cells, slots⟩ argsL.toArray) :
    (∃ (v : Option Value) (vm₁ : Vm) (B : Pt), s.WarmedH vm₁ ∧ Stand p l e R s m args below meth c B.U B.locs B.cells B.slots ∧ Post ⟨T.setVm vm₁, locs, cells, slots⟩ argsL.toArray v B ∧
      ∀ target, Steps p.tables e below (B.U.setTop { g with pc := g.pc + 3, stack := v.toList ++ rest }) target → Steps p.tables e below (T.setTop g) target) ∨
    (∃ (q : Addr) (vm₁ : Vm) (B : Pt), s.WarmedH vm₁ ∧ Stand p l e R s m args below meth c B.U B.locs B.cells B.slots ∧ PostX ⟨T.setVm vm₁, locs, cells, slots⟩ argsL.toArray q B ∧
      Steps p.tables e below (T.setTop g) ((B.U.setTop { g with stack := rest }).pushFrame (.throwing q))) := by
  obtain ⟨mk, methM, cM, hnamed, hmethM, -, -, -, -, -, -, hsigM⟩ := Cond.codeWith_spec hcode
  have hstatic : methM.isStatic = true := Cond.static_spec hnamed hmethM hstat
  obtain ⟨kP, hkP, -⟩ := className_of_methodNamed hnamed
  have hinitP : kP.init = .initialized := Cond.initialized_spec (findClass_of_methodNamed hnamed) hkP hinit
  obtain ⟨vm₁, X₁, hstep₁⟩ := X.invokestatic hexec hown hlink hnamed hmethM hstatic hkP hinitP hy (g := g) hg (argsL := argsL) (rest := rest) (hlen _ hsigM) hstack hdg
  rcases hK m meth c ⟨T.setVm vm₁, locs, cells, slots⟩ { g with stack := rest } (.invokestatic index) mk argsL.toArray X₁ hg hsize hdg hW (X₁.named hnamed) (hpre vm₁ X₁.warmed) with ⟨v, B, X', hpost, hsteps⟩ | ⟨q, B, X', hpost, hsteps⟩
  · exact Or.inl ⟨v, vm₁, B, X₁.warmed, X', hpost, fun target h => hstep₁ _ fun acts => by rw [doInvoke_state]; exact hsteps.trans h⟩
  · exact Or.inr ⟨q, vm₁, B, X₁.warmed, X', hpost, hstep₁ _ fun acts => by rw [doInvoke_state]; exact hsteps⟩
theorem vx_callVW (X : Stand p l e R s m args below meth c T locs cells slots) (hexec : p.tables.exec = Jvm.exec) {own C : String} {index : Nat} {y : MethodName} {bytes : ByteArray} {maxL : Nat} {ret : Option FieldType} {hh : List (Nat × Nat × Nat × Nat)}
    (hown : s.vm.findClass own = some m.cls) (hlink : (Cond.methodLink own index y).before args s = true) (hinst : (Cond.instanceMethod y).before args s = true) (hsel : (Cond.selects C y y).before args s = true)
    (hcode : (Cond.codeWith y bytes maxL ret hh).before args s = true) (hy : y.cls ≠ "java/lang/invoke/MethodHandle" ∧ y.cls ≠ "java/lang/invoke/VarHandle")
    {W9 : Nat} {Pre : Pt → Array Value → Prop} {Post : Pt → Array Value → Option Value → Pt → Prop} (hK : Back l R p e below s args y 3 W9 Pre Post)
    {b : Addr} {cellB : Cell} (hcell : T.heap[b]? = some cellB) (hobj : cellB.vm.isStatics = false) (hcls : s.vm.findClass C = some cellB.cls)
    {g : JFrame} (hg : g.method = m) (hsize : g.locals.size = c.maxLocals) {argsL rest : List Value} (hlen : ∀ sig, parseMethodDescriptor y.desc = some sig → argsL.length = sig.parameters.length)
    (hstack : g.stack = argsL.reverse ++ .ref b :: rest) (hW : 2 * g.monitorRoom + (rest.map fun v => v.category).sum ≤ W9) (hdg : decode c.code g.pc = .ok (.invokevirtual index, 3))
    (hpre : ∀ vm₁, s.WarmedH vm₁ → Pre ⟨T.setVm vm₁, locs, cells, slots⟩ (Value.ref b :: argsL).toArray) :
    ∃ (v : Option Value) (vm₁ : Vm) (B : Pt), s.WarmedH vm₁ ∧ Stand p l e R s m args below meth c B.U B.locs B.cells B.slots ∧ Post ⟨T.setVm vm₁, locs, cells, slots⟩ (Value.ref b :: argsL).toArray v B ∧
      ∀ target, Steps p.tables e below (B.U.setTop { g with pc := g.pc + 3, stack := v.toList ++ rest }) target → Steps p.tables e below (T.setTop g) target := by
  obtain ⟨mk, methM, hnamed, hmethM, hstM, habM⟩ := Cond.instanceMethod_spec hinst
  obtain ⟨m8, methM', cM, hn8, hmethM', -, -, -, -, -, -, hsigM⟩ := Cond.codeWith_spec hcode
  cases Option.some.inj (hn8.symm.trans hnamed)
  cases hmethM.symm.trans hmethM'
  obtain ⟨c2, r2, m2, q1, q2, q3, q4, kP, hkP, hkPi⟩ := Cond.selects_spec hsel
  cases hcls.symm.trans q1
  cases (State.methodFound?_of_named hnamed hy).symm.trans q2
  cases hnamed.symm.trans q3
  have hselP : selectMethod e.platform s.vm cellB.cls mk = .method mk := by rw [Launch.admits_selectMethod X.admits]; exact q4
  obtain ⟨vm₁, X₁, hstep₁⟩ := X.invokevirtual hexec hown hlink hnamed hmethM hstM hkP hkPi hy (a := b) (cell := cellB) hcell
    (fun z h => by rw [h] at hobj; cases hobj) hselP hmethM habM hkP hkPi (g := g) hg (argsL := argsL) (rest := rest) (hlen _ hsigM) hstack hdg
  obtain ⟨v, B, X', hpost, hsteps⟩ := hK m meth c ⟨T.setVm vm₁, locs, cells, slots⟩ { g with stack := rest } (.invokevirtual index) mk (Value.ref b :: argsL).toArray X₁ hg hsize hdg hW (X₁.named hnamed) (hpre vm₁ X₁.warmed)
  exact ⟨v, vm₁, B, X₁.warmed, X', hpost, fun target h => hstep₁ _ fun acts => by rw [doInvoke_state]; exact hsteps.trans h⟩
abbrev vx_CVW (R : Room) (s : State) (args : Array Value) (own C : String) (index : Nat) (y : MethodName) (bytes : ByteArray) (maxL : Nat) (ret : Option FieldType) (hh : List (Nat × Nat × Nat × Nat)) (ws : List Cond) (rm : Room) (mc ms n : Nat) : Prop :=
  (rm.cells = mc ∧ rm.slots = ms ∧ rm.frames + 1 ≤ R.frames ∧ 8 + (maxL + 11) + rm.locals ≤ R.locals ∧ (∀ w ∈ ws, ∀ (a' : Array Value) (U : State), s.WarmedH U.vm → w.before a' U = true) ∧ Cond.codeWith y bytes maxL ret hh ∈ ws) ∧
  (Cond.codeWith y bytes maxL ret hh).before args s = true ∧ (Cond.initialized y.cls).before args s = true ∧ (y.cls ≠ "java/lang/invoke/MethodHandle" ∧ y.cls ≠ "java/lang/invoke/VarHandle") ∧
  (∀ sig, parseMethodDescriptor y.desc = some sig → n = sig.parameters.length) ∧ (Cond.methodLink own index y).before args s = true ∧ (Cond.instanceMethod y).before args s = true ∧ (Cond.selects C y y).before args s = true
theorem vx_cwVW {own C : String} {index maxL mc ms : Nat} {y : MethodName} {bytes : ByteArray} {ret : Option FieldType} {hh : List (Nat × Nat × Nat × Nat)} {Ts ws ws' : List Cond} {rm : Room} (n : Nat) (ht : ∀ w ∈ Ts, w.before args s = true) (hT : GoodIn Ts (wsV own index C y ws)) (hw : ws = Cond.codeWith y bytes maxL ret hh :: ws') (hrc : rm.cells = mc) (hrs : rm.slots = ms)
    (hd : y.cls = C ∧ y.cls ≠ "java/lang/invoke/MethodHandle" ∧ y.cls ≠ "java/lang/invoke/VarHandle" ∧ (parseMethodDescriptor y.desc).map (fun d => d.parameters.length) = some n) (hR : rm.frames + 1 ≤ R.frames ∧ 8 + (maxL + 11) + rm.locals ≤ R.locals) :
    vx_CVW R s args own C index y bytes maxL ret hh ws rm mc ms n := by
  obtain ⟨hC, hd⟩ := hd
  subst hC
  have ok : ∀ w ∈ wsV own index y.cls y ws, w.before args s = true := fun w h => ht w (hT w h).1
  have hG : GoodIn Ts ws := fun w h => hT w (by unfold wsV; exact List.mem_append_right _ h)
  have hc : Cond.codeWith y bytes maxL ret hh ∈ ws := by rw [hw]; exact List.mem_cons_self
  refine ⟨⟨hrc, hrs, hR.1, hR.2, pay_in ht hG, hc⟩, ht _ (hG _ hc).1, ok _ (by simp [wsV]), ⟨hd.1, hd.2.1⟩, fun sig h => ?_, ok _ (by simp [wsV]), ok _ (by simp [wsV]), ok _ (by simp [wsV])⟩
  have h2 := hd.2.2
  rw [h] at h2
  exact (Option.some.inj h2).symm
theorem vx_runVW {y : MethodName} {bytes cc : ByteArray} {maxL nL mc ms n index : Nat} {ret : Option FieldType} {hh : List (Nat × Nat × Nat × Nat)} {ws : List Cond} {rm : Room} {Pc : Array Value → State → Prop} {Qc : Array Value → State → Outcome → State → Prop} {free : Addr → Prop} {Ts : List Cond} {own C : String} {b : Addr} {As rest : List Value} {g : JFrame}
    (S : CallFix p m c cc nL s args Ts own) (hM : Met l y ws rm Pc Qc mc ms free) (cw : vx_CVW R s args own C index y bytes maxL ret hh ws rm mc ms n) (hp : PreV s H C b Pc As)
    (hg : g.method = m) (hn : As.length = n) (hsize : g.locals.size = nL) (hstack : g.stack = As.reverse ++ .ref b :: rest) (hW : 2 * g.monitorRoom + (rest.map fun v => v.category).sum ≤ 8) (hdg : decode cc g.pc = .ok (.invokevirtual index, 3)) (hf : cells + mc ≤ R.cells ∧ slots + ms ≤ R.slots) :
    va_Run p l e R s m args below meth c H locs cells slots mc ms g rest (Qc (Value.ref b :: As).toArray) free := by
  obtain ⟨⟨hrc, hrs, hfr, hlo, hws, hcw⟩, hcode, hini, hy, hlen, hl, hin, hse⟩ := cw
  have hK : Back l R p e below s args y 3 8 (PreOf R mc ms Pc) (PostOf Qc mc ms free) := va_backW (hh := hh) (bytes := bytes) (maxL := maxL) (ret := ret) hM hp.1 hrc hrs hfr hlo hws hcw (fun a' U hW => word_at hW (Or.inl (by first | rfl | simp [Cond.onTables, Cond.keeps, Cond.steady])) hini)
  obtain ⟨hx, hb, hml, ho, -⟩ := S
  obtain ⟨-, ⟨cellB, hcB, hoB, hclB⟩, hPc⟩ := hp
  intro T hT X
  obtain ⟨v, vm₁, ⟨U', l2, c2, s2⟩, hW₁, X', ⟨g', mk, t, L, e1, e2, hq, h1, hL, h2, h3⟩, st⟩ := vx_callVW X hx (C := C) (hh := hh) (bytes := bytes) (maxL := maxL) (ret := ret) ho hl hin hse hcode hy hK (by rw [hT]; exact hcB) hoB hclB hg (hsize.trans hml.symm) (argsL := As) (rest := rest) (fun sig h => hn.trans (hlen sig h)) hstack hW (by rw [hb]; exact hdg)
    (fun vm₁ hW₁ => ⟨hf.1, hf.2, hPc (T.setVm vm₁) hT hW₁⟩)
  dsimp only [Pt.U, Pt.locs, Pt.cells, Pt.slots] at X' e1 e2 h1 h2 h3 st
  subst h1; subst h2; subst h3
  exact ⟨v, (T.setVm vm₁).calling g' mk (Value.ref b :: As).toArray, t, U', L, hT, X', hL, e1, e2, hq, st⟩
section
variable {y : MethodName} {bytes cc : ByteArray} {maxL nL mc ms n index : Nat} {ret : Option FieldType} {ws : List Cond} {rm : Room} {Pc : Array Value → State → Prop} {Qc : Array Value → State → Outcome → State → Prop} {XC : String → State → State → Prop} {free : Addr → Prop} {Ts : List Cond} {own C : String} {b : Addr} {As rest : List Value} {g : JFrame}
theorem vx_runVX {hh : List (Nat × Nat × Nat × Nat)} (S : CallFix p m c cc nL s args Ts own) (hM : vx_Met l y ws rm Pc Qc XC mc ms free) (cw : vx_CVW R s args own C index y bytes maxL ret hh ws rm mc ms n) (hp : PreV s H C b Pc As)
    (hg : g.method = m) (hn : As.length = n) (hsize : g.locals.size = nL) (hstack : g.stack = As.reverse ++ .ref b :: rest) (hW : 2 * g.monitorRoom + (rest.map fun v => v.category).sum ≤ 8) (hdg : decode cc g.pc = .ok (.invokevirtual index, 3)) (hf : cells + mc ≤ R.cells ∧ slots + ms ≤ R.slots) :
    vx_Run p l e R s m args below meth c H locs cells slots mc ms g rest (Qc (Value.ref b :: As).toArray) XC free := by
  obtain ⟨⟨hrc, hrs, hfr, hlo, hws, hcw⟩, hcode, hini, hy, hlen, hl, hin, hse⟩ := cw
  have hK : vx_Back l R p e below s args y 3 8 (PreOf R mc ms Pc) (PostOf Qc mc ms free) (vx_Post XC mc ms free) := vx_backW (hh := hh) (bytes := bytes) (maxL := maxL) (ret := ret) hM hp.1 hrc hrs hfr hlo hws hcw (fun a' U hW => word_at hW (Or.inl (by first | rfl | simp [Cond.onTables, Cond.keeps, Cond.steady])) hini)
  obtain ⟨hx, hb, hml, ho, -⟩ := S
  obtain ⟨-, ⟨cellB, hcB, hoB, hclB⟩, hPc⟩ := hp
  intro T hT X
  rcases vx_callVX X hx (C := C) (hh := hh) (bytes := bytes) (maxL := maxL) (ret := ret) ho hl hin hse hcode hy hK (by rw [hT]; exact hcB) hoB hclB hg (hsize.trans hml.symm) (argsL := As) (rest := rest) (fun sig h => hn.trans (hlen sig h)) hstack hW (by rw [hb]; exact hdg)
    (fun vm₁ hW₁ => ⟨hf.1, hf.2, hPc (T.setVm vm₁) hT hW₁⟩) with ⟨v, vm₁, ⟨U', l2, c2, s2⟩, hW₁, X', ⟨g', mk, t, L, e1, e2, hq, h1, hL, h2, h3⟩, st⟩ | ⟨q, vm₁, ⟨U', l2, c2, s2⟩, hW₁, X', ⟨g', mk, t, L, E, ce, e1, e2, hq, hce, hcv, hcl, h1, hL, h2, h3⟩, st⟩
  · dsimp only [Pt.U, Pt.locs, Pt.cells, Pt.slots] at X' e1 e2 h1 h2 h3 st
    subst h1; subst h2; subst h3
    exact Or.inl ⟨v, (T.setVm vm₁).calling g' mk (Value.ref b :: As).toArray, t, U', L, hT, X', hL, e1, e2, hq, st⟩
  · dsimp only [Pt.U, Pt.locs, Pt.cells, Pt.slots] at X' e1 e2 h1 h2 h3 st hcl
    subst h1; subst h2; subst h3
    exact Or.inr ⟨q, (T.setVm vm₁).calling g' mk (Value.ref b :: As).toArray, t, U', L, E, ce, hT, X', hL, e1, e2, hq, hce, hcv, vx_cls hW₁ hcl, st⟩
theorem vx_runSX {hh : List (Nat × Nat × Nat × Nat)} (S : CallFix p m c cc nL s args Ts own) (hM : vx_Met l y ws rm Pc Qc XC mc ms free) (cw : vx_CSW R s args own index y bytes maxL ret hh ws rm mc ms n) (hp : PreS s H Pc As)
    (hg : g.method = m) (hn : As.length = n) (hsize : g.locals.size = nL) (hstack : g.stack = As.reverse ++ rest) (hW : 2 * g.monitorRoom + (rest.map fun v => v.category).sum ≤ 8) (hdg : decode cc g.pc = .ok (.invokestatic index, 3)) (hf : cells + mc ≤ R.cells ∧ slots + ms ≤ R.slots) :
    vx_Run p l e R s m args below meth c H locs cells slots mc ms g rest (Qc As.toArray) XC free := by
  obtain ⟨⟨hrc, hrs, hfr, hlo, hws, hcw⟩, hcode, hini, hy, hlen, hl, hstt⟩ := cw
  have hK : vx_Back l R p e below s args y 3 8 (PreOf R mc ms Pc) (PostOf Qc mc ms free) (vx_Post XC mc ms free) := vx_backW (hh := hh) (bytes := bytes) (maxL := maxL) (ret := ret) hM hp.1 hrc hrs hfr hlo hws hcw (fun a' U hW => word_at hW (Or.inl (by first | rfl | simp [Cond.onTables, Cond.keeps, Cond.steady])) hini)
  obtain ⟨hx, hb, hml, ho, -⟩ := S
  intro T hT X
  rcases vx_callSX X hx (hh := hh) (bytes := bytes) (maxL := maxL) (ret := ret) ho hl hstt hini hcode hy hK hg (hsize.trans hml.symm) (argsL := As) (rest := rest) (fun sig h => hn.trans (hlen sig h)) hstack hW (by rw [hb]; exact hdg)
    (fun vm₁ hW₁ => ⟨hf.1, hf.2, hp.2 (T.setVm vm₁) hT hW₁⟩) with ⟨v, vm₁, ⟨U', l2, c2, s2⟩, hW₁, X', ⟨g', mk, t, L, e1, e2, hq, h1, hL, h2, h3⟩, st⟩ | ⟨q, vm₁, ⟨U', l2, c2, s2⟩, hW₁, X', ⟨g', mk, t, L, E, ce, e1, e2, hq, hce, hcv, hcl, h1, hL, h2, h3⟩, st⟩
  · dsimp only [Pt.U, Pt.locs, Pt.cells, Pt.slots] at X' e1 e2 h1 h2 h3 st
    subst h1; subst h2; subst h3
    exact Or.inl ⟨v, (T.setVm vm₁).calling g' mk As.toArray, t, U', L, hT, X', hL, e1, e2, hq, st⟩
  · dsimp only [Pt.U, Pt.locs, Pt.cells, Pt.slots] at X' e1 e2 h1 h2 h3 st hcl
    subst h1; subst h2; subst h3
    exact Or.inr ⟨q, (T.setVm vm₁).calling g' mk As.toArray, t, U', L, E, ce, hT, X', hL, e1, e2, hq, hce, hcv, vx_cls hW₁ hcl, st⟩
end
end VXH
theorem vx_ofWH {l : Launch} {y : MethodName} {ws ws' : List Cond} {rm : Room} {Pc : Array Value → State → Prop} {Qc : Array Value → State → Outcome → State → Prop} {XC : String → State → State → Prop} {mc ms : Nat} {free : Addr → Prop} {cc : ByteArray} {maxL : Nat} {ret : Option FieldType} {hh : List (Nat × Nat × Nat × Nat)}
    (hy : plainName y.cls = true) (hw : ws = Cond.codeWith y cc maxL ret hh :: ws')
    (body : ∀ p e s m args below meth c s₁, BodyLoose p l y (headSpec ws rm) cc maxL ret e s m args below meth c s₁ → c.maxLocals = maxL → Pc args s →
      W p l e (headSpec ws rm).room s m args below meth c s.heap [] 0 0 (vx_MQ below Qc XC args s mc ms free) (entryFrame m args maxL)) : vx_Met l y ws rm Pc Qc XC mc ms free := by
  refine MetFree.of_bodyS (code := cc) (maxLocals := maxL) (ret := ret) hy ?_ ?_
  · intro args s m h hn
    obtain ⟨m9, meth, c, hn9, h1, h2, h3, h4, -, h5, h6, -⟩ := Cond.codeWith_spec (atoms_spec (ws := ws) h _ (by rw [hw]; exact List.mem_cons_self))
    cases hn.symm.trans hn9
    exact ⟨meth, c, h1, h2, h3, h4, h5, h6⟩
  · intro p e s m args below meth c s₁ B hml hP _
    have hh0 : s₁.heap = s.heap := by rw [B.state]; rfl
    obtain ⟨t, a1, o, b1, b2, b3⟩ := body p e s m args below meth c s₁ B hml hP s₁ hh0 (Stand.of_body B)
    exact ⟨t, o, a1, b1, b2, b3⟩
/-! ===== END ===== -/

/-! ===== BEGIN printed: names, fields, word lists, decode rows ===== -/
def RX0 : String := "KeyTour$Bytes"
def TX0 : u_T := fun k => match k with
  | 0 => ("KeyTour$Bytes", "bytes", "[I", true)
  | _ => ("KeyTour$Bytes", "length", "I", false)
def tyX0 : Nat → FieldType := fun k => match k with
  | 0 => .array .int
  | _ => .int
abbrev wsX00 : List Cond := u_ws RX0 TX0 2
theorem nmX0 : ∀ a, a < 2 → ∀ b, b < 2 → a ≠ b → (TX0 a).2.1 ≠ (TX0 b).2.1 := by decide +kernel
theorem tyX0_ok : ∀ k, k < 2 → parseFieldDescriptor (TX0 k).2.2.1 = some (tyX0 k) := by decide +kernel
abbrev cX0_init : ByteArray := prog_2_method_1_code
def yX0_init : MethodName := ⟨RX0, "<init>", "(I)V"⟩
abbrev cX0_add : ByteArray := prog_2_method_2_code
def yX0_add : MethodName := ⟨RX0, "add", "(I)V"⟩
abbrev cX0_addFour : ByteArray := prog_2_method_3_code
def yX0_addFour : MethodName := ⟨RX0, "addFour", "(I)V"⟩
def RX1 : String := "KeyTour$History"
def TX1 : u_T := fun k => match k with
  | 0 => ("KeyTour$History", "levels", "[LKeyTour$Level;", true)
  | 1 => ("KeyTour$History", "next", "I", false)
  | _ => ("KeyTour$History", "count", "I", false)
def tyX1 : Nat → FieldType := fun k => match k with
  | 0 => .array (.object "KeyTour$Level")
  | 1 => .int
  | _ => .int
abbrev wsX10 : List Cond := u_ws RX1 TX1 3
theorem nmX1 : ∀ a, a < 3 → ∀ b, b < 3 → a ≠ b → (TX1 a).2.1 ≠ (TX1 b).2.1 := by decide +kernel
theorem tyX1_ok : ∀ k, k < 3 → parseFieldDescriptor (TX1 k).2.2.1 = some (tyX1 k) := by decide +kernel
abbrev cX1_init : ByteArray := prog_3_method_1_code
def yX1_init : MethodName := ⟨RX1, "<init>", "()V"⟩
abbrev cX1_push : ByteArray := prog_3_method_2_code
def yX1_push : MethodName := ⟨RX1, "push", "(LKeyTour$Level;)V"⟩
abbrev cX1_pop : ByteArray := prog_3_method_3_code
def yX1_pop : MethodName := ⟨RX1, "pop", "(LKeyTour$Level;)V"⟩
def RX2 : String := "KeyTour$Level"
def TX2 : u_T := fun k => match k with
  | 0 => ("KeyTour$Level", "rooms", "I", false)
  | 1 => ("KeyTour$Level", "names", "[J", true)
  | 2 => ("KeyTour$Level", "keys", "[I", true)
  | 3 => ("KeyTour$Level", "coins", "[I", true)
  | 4 => ("KeyTour$Level", "doors", "I", false)
  | 5 => ("KeyTour$Level", "first", "[I", true)
  | 6 => ("KeyTour$Level", "second", "[I", true)
  | 7 => ("KeyTour$Level", "kind", "[I", true)
  | 8 => ("KeyTour$Level", "number", "[I", true)
  | 9 => ("KeyTour$Level", "oneway", "[Z", true)
  | 10 => ("KeyTour$Level", "start", "I", false)
  | 11 => ("KeyTour$Level", "end", "I", false)
  | 12 => ("KeyTour$Level", "walk", "[I", true)
  | 13 => ("KeyTour$Level", "length", "I", false)
  | _ => ("KeyTour$Level", "leads", "[I", true)
def tyX2 : Nat → FieldType := fun k => match k with
  | 0 => .int
  | 1 => .array .long
  | 2 => .array .int
  | 3 => .array .int
  | 4 => .int
  | 5 => .array .int
  | 6 => .array .int
  | 7 => .array .int
  | 8 => .array .int
  | 9 => .array .boolean
  | 10 => .int
  | 11 => .int
  | 12 => .array .int
  | 13 => .int
  | _ => .array .int
abbrev wsX20 : List Cond := u_ws RX2 TX2 15
theorem nmX2 : ∀ a, a < 15 → ∀ b, b < 15 → a ≠ b → (TX2 a).2.1 ≠ (TX2 b).2.1 := by decide +kernel
theorem tyX2_ok : ∀ k, k < 15 → parseFieldDescriptor (TX2 k).2.2.1 = some (tyX2 k) := by decide +kernel
abbrev cX2_init : ByteArray := prog_4_method_1_code
def yX2_init : MethodName := ⟨RX2, "<init>", "()V"⟩
abbrev cX2_copyFrom : ByteArray := prog_4_method_2_code
def yX2_copyFrom : MethodName := ⟨RX2, "copyFrom", "(LKeyTour$Level;)V"⟩
abbrev cX2_clear : ByteArray := prog_4_method_3_code
def yX2_clear : MethodName := ⟨RX2, "clear", "()V"⟩
abbrev cX2_beginAt : ByteArray := prog_4_method_4_code
def yX2_beginAt : MethodName := ⟨RX2, "beginAt", "(I)V"⟩
abbrev cX2_addRoom : ByteArray := prog_4_method_5_code
def yX2_addRoom : MethodName := ⟨RX2, "addRoom", "(J)I"⟩
abbrev cX2_build : ByteArray := prog_4_method_6_code
def yX2_build : MethodName := ⟨RX2, "build", "(II)I"⟩
abbrev cX2_lock : ByteArray := prog_4_method_7_code
def yX2_lock : MethodName := ⟨RX2, "lock", "(III)V"⟩
abbrev cX2_dropDoor : ByteArray := prog_4_method_8_code
def yX2_dropDoor : MethodName := ⟨RX2, "dropDoor", "(I)V"⟩
abbrev cX2_roomNamed : ByteArray := prog_4_method_9_code
def yX2_roomNamed : MethodName := ⟨RX2, "roomNamed", "(J)I"⟩
abbrev cX2_everyRoom : ByteArray := prog_4_method_10_code
def yX2_everyRoom : MethodName := ⟨RX2, "everyRoom", "()I"⟩
abbrev cX2_keysIn : ByteArray := prog_4_method_11_code
def yX2_keysIn : MethodName := ⟨RX2, "keysIn", "(I)I"⟩
abbrev cX2_coinsIn : ByteArray := prog_4_method_12_code
def yX2_coinsIn : MethodName := ⟨RX2, "coinsIn", "(I)I"⟩
abbrev cX2_openDoors : ByteArray := prog_4_method_13_code
def yX2_openDoors : MethodName := ⟨RX2, "openDoors", "(I)I"⟩
abbrev cX2_opens : ByteArray := prog_4_method_14_code
def yX2_opens : MethodName := ⟨RX2, "opens", "(III)Z"⟩
abbrev cX2_doorsFrom : ByteArray := prog_4_method_15_code
def yX2_doorsFrom : MethodName := ⟨RX2, "doorsFrom", "(I)I"⟩
abbrev cX2_doorsInto : ByteArray := prog_4_method_16_code
def yX2_doorsInto : MethodName := ⟨RX2, "doorsInto", "(I)I"⟩
abbrev cX2_anyToll : ByteArray := prog_4_method_17_code
def yX2_anyToll : MethodName := ⟨RX2, "anyToll", "(I)Z"⟩
abbrev cX2_leads : ByteArray := prog_4_method_18_code
def yX2_leads : MethodName := ⟨RX2, "leads", "(I)[I"⟩
abbrev cX2_mayEnd : ByteArray := prog_4_method_19_code
def yX2_mayEnd : MethodName := ⟨RX2, "mayEnd", "(I)Z"⟩
abbrev cX2_walkSet : ByteArray := prog_4_method_20_code
def yX2_walkSet : MethodName := ⟨RX2, "walkSet", "()I"⟩
abbrev cX2_lastRoom : ByteArray := prog_4_method_21_code
def yX2_lastRoom : MethodName := ⟨RX2, "lastRoom", "()I"⟩
abbrev cX2_placeOf : ByteArray := prog_4_method_22_code
def yX2_placeOf : MethodName := ⟨RX2, "placeOf", "(I)I"⟩
abbrev cX2_enter : ByteArray := prog_4_method_23_code
def yX2_enter : MethodName := ⟨RX2, "enter", "(I)V"⟩
abbrev cX2_cutWalk : ByteArray := prog_4_method_24_code
def yX2_cutWalk : MethodName := ⟨RX2, "cutWalk", "()V"⟩
def RX3 : String := "KeyTour$Parser"
def TX3 : u_T := fun k => match k with
  | 0 => ("KeyTour$Parser", "text", "LKeyTour$Bytes;", true)
  | 1 => ("KeyTour$Parser", "level", "LKeyTour$Level;", true)
  | 2 => ("KeyTour$Parser", "startTold", "Z", false)
  | 3 => ("KeyTour$Parser", "position", "I", false)
  | 4 => ("KeyTour$Parser", "type", "I", false)
  | 5 => ("KeyTour$Parser", "word", "J", false)
  | 6 => ("KeyTour$Parser", "number", "I", false)
  | 7 => ("KeyTour$Parser", "begin", "I", false)
  | _ => ("KeyTour$Parser", "code", "I", false)
def tyX3 : Nat → FieldType := fun k => match k with
  | 0 => .object "KeyTour$Bytes"
  | 1 => .object "KeyTour$Level"
  | 2 => .boolean
  | 3 => .int
  | 4 => .int
  | 5 => .long
  | 6 => .int
  | 7 => .int
  | _ => .int
abbrev wsX30 : List Cond := u_ws RX3 TX3 9
theorem nmX3 : ∀ a, a < 9 → ∀ b, b < 9 → a ≠ b → (TX3 a).2.1 ≠ (TX3 b).2.1 := by decide +kernel
theorem tyX3_ok : ∀ k, k < 9 → parseFieldDescriptor (TX3 k).2.2.1 = some (tyX3 k) := by decide +kernel
abbrev cX3_init : ByteArray := prog_5_method_1_code
def yX3_init : MethodName := ⟨RX3, "<init>", "(LKeyTour$Bytes;LKeyTour$Level;)V"⟩
abbrev cX3_parse : ByteArray := prog_5_method_2_code
def yX3_parse : MethodName := ⟨RX3, "parse", "()Z"⟩
abbrev cX3_fail : ByteArray := prog_5_method_3_code
def yX3_fail : MethodName := ⟨RX3, "fail", "(I)Z"⟩
abbrev cX3_readStatement : ByteArray := prog_5_method_4_code
def yX3_readStatement : MethodName := ⟨RX3, "readStatement", "()Z"⟩
abbrev cX3_readRoom : ByteArray := prog_5_method_5_code
def yX3_readRoom : MethodName := ⟨RX3, "readRoom", "()Z"⟩
abbrev cX3_readKeys : ByteArray := prog_5_method_6_code
def yX3_readKeys : MethodName := ⟨RX3, "readKeys", "(I)Z"⟩
abbrev cX3_readCoins : ByteArray := prog_5_method_7_code
def yX3_readCoins : MethodName := ⟨RX3, "readCoins", "(I)Z"⟩
abbrev cX3_readDoor : ByteArray := prog_5_method_8_code
def yX3_readDoor : MethodName := ⟨RX3, "readDoor", "()Z"⟩
abbrev cX3_readLock : ByteArray := prog_5_method_9_code
def yX3_readLock : MethodName := ⟨RX3, "readLock", "(I)Z"⟩
abbrev cX3_readOneway : ByteArray := prog_5_method_10_code
def yX3_readOneway : MethodName := ⟨RX3, "readOneway", "(I)Z"⟩
abbrev cX3_readStart : ByteArray := prog_5_method_11_code
def yX3_readStart : MethodName := ⟨RX3, "readStart", "()Z"⟩
abbrev cX3_readEnd : ByteArray := prog_5_method_12_code
def yX3_readEnd : MethodName := ⟨RX3, "readEnd", "()Z"⟩
abbrev cX3_readSemicolon : ByteArray := prog_5_method_13_code
def yX3_readSemicolon : MethodName := ⟨RX3, "readSemicolon", "()Z"⟩
abbrev cX3_toldRoom : ByteArray := prog_5_method_14_code
def yX3_toldRoom : MethodName := ⟨RX3, "toldRoom", "()I"⟩
abbrev cX3_fits : ByteArray := prog_5_method_15_code
def yX3_fits : MethodName := ⟨RX3, "fits", "(I)Z"⟩
abbrev cX3_isWord : ByteArray := prog_5_method_16_code
def yX3_isWord : MethodName := ⟨RX3, "isWord", "(J)Z"⟩
abbrev cX3_isSymbol : ByteArray := prog_5_method_17_code
def yX3_isSymbol : MethodName := ⟨RX3, "isSymbol", "(I)Z"⟩
abbrev cX3_isName : ByteArray := prog_5_method_18_code
def yX3_isName : MethodName := ⟨RX3, "isName", "()Z"⟩
abbrev cX3_isKeyword : ByteArray := prog_5_method_19_code
def yX3_isKeyword : MethodName := ⟨RX3, "isKeyword", "()Z"⟩
abbrev cX3_nextToken : ByteArray := prog_5_method_20_code
def yX3_nextToken : MethodName := ⟨RX3, "nextToken", "()V"⟩
abbrev cX3_typeAt : ByteArray := prog_5_method_21_code
def yX3_typeAt : MethodName := ⟨RX3, "typeAt", "(I)I"⟩
def RX4 : String := "KeyTour$Tables"
def TX4 : u_T := fun k => match k with
  | 0 => ("KeyTour$Tables", "lasts", "[I", true)
  | 1 => ("KeyTour$Tables", "walks", "[J", true)
  | 2 => ("KeyTour$Tables", "next", "[I", true)
  | 3 => ("KeyTour$Tables", "tours", "[J", true)
  | 4 => ("KeyTour$Tables", "rooms", "I", false)
  | 5 => ("KeyTour$Tables", "all", "I", false)
  | _ => ("KeyTour$Tables", "endings", "I", false)
def tyX4 : Nat → FieldType := fun k => match k with
  | 0 => .array .int
  | 1 => .array .long
  | 2 => .array .int
  | 3 => .array .long
  | 4 => .int
  | 5 => .int
  | _ => .int
abbrev wsX40 : List Cond := u_ws RX4 TX4 7
theorem nmX4 : ∀ a, a < 7 → ∀ b, b < 7 → a ≠ b → (TX4 a).2.1 ≠ (TX4 b).2.1 := by decide +kernel
theorem tyX4_ok : ∀ k, k < 7 → parseFieldDescriptor (TX4 k).2.2.1 = some (tyX4 k) := by decide +kernel
abbrev cX4_init : ByteArray := prog_6_method_1_code
def yX4_init : MethodName := ⟨RX4, "<init>", "()V"⟩
abbrev cX4_cell : ByteArray := prog_6_method_2_code
def yX4_cell : MethodName := ⟨RX4, "cell", "(II)I"⟩
abbrev cX4_spread : ByteArray := prog_6_method_3_code
def yX4_spread : MethodName := ⟨RX4, "spread", "(LKeyTour$Level;II)V"⟩
abbrev cX4_spreadFrom : ByteArray := prog_6_method_4_code
def yX4_spreadFrom : MethodName := ⟨RX4, "spreadFrom", "(I[I)V"⟩
abbrev cX4_addWalks : ByteArray := prog_6_method_5_code
def yX4_addWalks : MethodName := ⟨RX4, "addWalks", "(IIJ)V"⟩
abbrev cX4_gather : ByteArray := prog_6_method_6_code
def yX4_gather : MethodName := ⟨RX4, "gather", "()V"⟩
abbrev cX4_toursOn : ByteArray := prog_6_method_7_code
def yX4_toursOn : MethodName := ⟨RX4, "toursOn", "(II)J"⟩
abbrev cX4_begun : ByteArray := prog_6_method_8_code
def yX4_begun : MethodName := ⟨RX4, "begun", "(II)J"⟩
abbrev cX4_walksTo : ByteArray := prog_6_method_9_code
def yX4_walksTo : MethodName := ⟨RX4, "walksTo", "(II)J"⟩
abbrev cX4_toursBy : ByteArray := prog_6_method_10_code
def yX4_toursBy : MethodName := ⟨RX4, "toursBy", "(II)J"⟩
abbrev cX4_fullWalks : ByteArray := prog_6_method_12_code
def yX4_fullWalks : MethodName := ⟨RX4, "fullWalks", "()J"⟩
abbrev cX4_follow : ByteArray := prog_6_method_14_code
def yX4_follow : MethodName := ⟨RX4, "follow", "([IIJ)V"⟩
abbrev cX4_toursAhead : ByteArray := prog_6_method_15_code
def yX4_toursAhead : MethodName := ⟨RX4, "toursAhead", "([II)J"⟩
def RX5 : String := "KeyTour"
def TX5 : u_T := fun k => match k with
  | 0 => ("KeyTour", "input", "LKeyTour$Bytes;", true)
  | 1 => ("KeyTour", "output", "LKeyTour$Bytes;", true)
  | 2 => ("KeyTour", "level", "LKeyTour$Level;", true)
  | 3 => ("KeyTour", "draft", "LKeyTour$Level;", true)
  | 4 => ("KeyTour", "history", "LKeyTour$History;", true)
  | 5 => ("KeyTour", "slots", "[LKeyTour$Level;", true)
  | 6 => ("KeyTour", "filled", "[Z", true)
  | 7 => ("KeyTour", "tables", "LKeyTour$Tables;", true)
  | 8 => ("KeyTour", "stale", "Z", false)
  | 9 => ("KeyTour", "row", "[I", true)
  | 10 => ("KeyTour", "parseError", "I", false)
  | _ => ("KeyTour", "parsePosition", "I", false)
def tyX5 : Nat → FieldType := fun k => match k with
  | 0 => .object "KeyTour$Bytes"
  | 1 => .object "KeyTour$Bytes"
  | 2 => .object "KeyTour$Level"
  | 3 => .object "KeyTour$Level"
  | 4 => .object "KeyTour$History"
  | 5 => .array (.object "KeyTour$Level")
  | 6 => .array .boolean
  | 7 => .object "KeyTour$Tables"
  | 8 => .boolean
  | 9 => .array .int
  | 10 => .int
  | _ => .int
abbrev wsX50 : List Cond := u_ws RX5 TX5 12
theorem nmX5 : ∀ a, a < 12 → ∀ b, b < 12 → a ≠ b → (TX5 a).2.1 ≠ (TX5 b).2.1 := by decide +kernel
theorem tyX5_ok : ∀ k, k < 12 → parseFieldDescriptor (TX5 k).2.2.1 = some (tyX5 k) := by decide +kernel
abbrev cX5_init : ByteArray := prog_1_method_1_code
def yX5_init : MethodName := ⟨RX5, "<init>", "()V"⟩
abbrev cX5_append : ByteArray := prog_1_method_2_code
def yX5_append : MethodName := ⟨RX5, "append", "(IIIII)I"⟩
abbrev cX5_truncate : ByteArray := prog_1_method_3_code
def yX5_truncate : MethodName := ⟨RX5, "truncate", "(I)V"⟩
abbrev cX5_load : ByteArray := prog_1_method_4_code
def yX5_load : MethodName := ⟨RX5, "load", "()I"⟩
abbrev cX5_errorCode : ByteArray := prog_1_method_5_code
def yX5_errorCode : MethodName := ⟨RX5, "errorCode", "()I"⟩
abbrev cX5_property : ByteArray := prog_1_method_8_code
def yX5_property : MethodName := ⟨RX5, "property", "(I)I"⟩
abbrev cX5_room : ByteArray := prog_1_method_9_code
def yX5_room : MethodName := ⟨RX5, "room", "(II)I"⟩
abbrev cX5_door : ByteArray := prog_1_method_10_code
def yX5_door : MethodName := ⟨RX5, "door", "(II)I"⟩
abbrev cX5_walked : ByteArray := prog_1_method_11_code
def yX5_walked : MethodName := ⟨RX5, "walked", "(I)I"⟩
abbrev cX5_why : ByteArray := prog_1_method_13_code
def yX5_why : MethodName := ⟨RX5, "why", "(I)I"⟩
abbrev cX5_exits : ByteArray := prog_1_method_14_code
def yX5_exits : MethodName := ⟨RX5, "exits", "()I"⟩
abbrev cX5_tours : ByteArray := prog_1_method_15_code
def yX5_tours : MethodName := ⟨RX5, "tours", "()J"⟩
abbrev cX5_completions : ByteArray := prog_1_method_16_code
def yX5_completions : MethodName := ⟨RX5, "completions", "()J"⟩
abbrev cX5_completionsBy : ByteArray := prog_1_method_17_code
def yX5_completionsBy : MethodName := ⟨RX5, "completionsBy", "(I)J"⟩
abbrev cX5_good : ByteArray := prog_1_method_18_code
def yX5_good : MethodName := ⟨RX5, "good", "()I"⟩
abbrev cX5_wrong : ByteArray := prog_1_method_19_code
def yX5_wrong : MethodName := ⟨RX5, "wrong", "()I"⟩
abbrev cX5_rank : ByteArray := prog_1_method_21_code
def yX5_rank : MethodName := ⟨RX5, "rank", "()J"⟩
abbrev cX5_endings : ByteArray := prog_1_method_24_code
def yX5_endings : MethodName := ⟨RX5, "endings", "()I"⟩
abbrev cX5_starts : ByteArray := prog_1_method_25_code
def yX5_starts : MethodName := ⟨RX5, "starts", "()I"⟩
abbrev cX5_toursFrom : ByteArray := prog_1_method_26_code
def yX5_toursFrom : MethodName := ⟨RX5, "toursFrom", "(I)J"⟩
abbrev cX5_toursTo : ByteArray := prog_1_method_27_code
def yX5_toursTo : MethodName := ⟨RX5, "toursTo", "(I)J"⟩
abbrev cX5_ahead : ByteArray := prog_1_method_35_code
def yX5_ahead : MethodName := ⟨RX5, "ahead", "(II)J"⟩
abbrev cX5_atPlace : ByteArray := prog_1_method_36_code
def yX5_atPlace : MethodName := ⟨RX5, "atPlace", "(II)J"⟩
abbrev cX5_go : ByteArray := prog_1_method_42_code
def yX5_go : MethodName := ⟨RX5, "go", "(I)J"⟩
abbrev cX5_back : ByteArray := prog_1_method_43_code
def yX5_back : MethodName := ⟨RX5, "back", "(I)I"⟩
abbrev cX5_again : ByteArray := prog_1_method_44_code
def yX5_again : MethodName := ⟨RX5, "again", "()I"⟩
abbrev cX5_complete : ByteArray := prog_1_method_45_code
def yX5_complete : MethodName := ⟨RX5, "complete", "()I"⟩
abbrev cX5_walk : ByteArray := prog_1_method_46_code
def yX5_walk : MethodName := ⟨RX5, "walk", "(J)I"⟩
abbrev cX5_setKey : ByteArray := prog_1_method_47_code
def yX5_setKey : MethodName := ⟨RX5, "setKey", "(IIZ)Z"⟩
abbrev cX5_setCoins : ByteArray := prog_1_method_48_code
def yX5_setCoins : MethodName := ⟨RX5, "setCoins", "(II)I"⟩
abbrev cX5_setLock : ByteArray := prog_1_method_49_code
def yX5_setLock : MethodName := ⟨RX5, "setLock", "(III)I"⟩
abbrev cX5_addDoor : ByteArray := prog_1_method_50_code
def yX5_addDoor : MethodName := ⟨RX5, "addDoor", "(IIZ)I"⟩
abbrev cX5_removeDoor : ByteArray := prog_1_method_51_code
def yX5_removeDoor : MethodName := ⟨RX5, "removeDoor", "(I)I"⟩
abbrev cX5_setStart : ByteArray := prog_1_method_52_code
def yX5_setStart : MethodName := ⟨RX5, "setStart", "(I)I"⟩
abbrev cX5_setEnd : ByteArray := prog_1_method_53_code
def yX5_setEnd : MethodName := ⟨RX5, "setEnd", "(I)I"⟩
abbrev cX5_undo : ByteArray := prog_1_method_56_code
def yX5_undo : MethodName := ⟨RX5, "undo", "()I"⟩
abbrev cX5_has : ByteArray := prog_1_method_62_code
def yX5_has : MethodName := ⟨RX5, "has", "(II)Z"⟩
abbrev cX5_greatestNumber : ByteArray := prog_1_method_63_code
def yX5_greatestNumber : MethodName := ⟨RX5, "greatestNumber", "(I)I"⟩
abbrev cX5_needRoom : ByteArray := prog_1_method_64_code
def yX5_needRoom : MethodName := ⟨RX5, "needRoom", "(I)V"⟩
abbrev cX5_needTwoRooms : ByteArray := prog_1_method_65_code
def yX5_needTwoRooms : MethodName := ⟨RX5, "needTwoRooms", "(II)V"⟩
abbrev cX5_needDoor : ByteArray := prog_1_method_66_code
def yX5_needDoor : MethodName := ⟨RX5, "needDoor", "(I)V"⟩
abbrev cX5_needKey : ByteArray := prog_1_method_67_code
def yX5_needKey : MethodName := ⟨RX5, "needKey", "(I)V"⟩
abbrev cX5_needPlace : ByteArray := prog_1_method_69_code
def yX5_needPlace : MethodName := ⟨RX5, "needPlace", "(I)V"⟩
abbrev cX5_needTour : ByteArray := prog_1_method_70_code
def yX5_needTour : MethodName := ⟨RX5, "needTour", "(J)V"⟩
abbrev cX5_record : ByteArray := prog_1_method_71_code
def yX5_record : MethodName := ⟨RX5, "record", "()V"⟩
abbrev cX5_solved : ByteArray := prog_1_method_72_code
def yX5_solved : MethodName := ⟨RX5, "solved", "()LKeyTour$Tables;"⟩
abbrev cX5_countTours : ByteArray := prog_1_method_73_code
def yX5_countTours : MethodName := ⟨RX5, "countTours", "(LKeyTour$Level;I)J"⟩
abbrev cX5_fillRow : ByteArray := prog_1_method_74_code
def yX5_fillRow : MethodName := ⟨RX5, "fillRow", "(J)V"⟩
def RX6 : String := "KeyTourModel"
def TX6 : u_T := fun k => match k with
  | _ => ("", "", "", false)
def tyX6 : Nat → FieldType := fun k => match k with
  | _ => .int
abbrev wsX60 : List Cond := u_ws RX6 TX6 0
theorem nmX6 : ∀ a, a < 0 → ∀ b, b < 0 → a ≠ b → (TX6 a).2.1 ≠ (TX6 b).2.1 := by decide +kernel
theorem tyX6_ok : ∀ k, k < 0 → parseFieldDescriptor (TX6 k).2.2.1 = some (tyX6 k) := by decide +kernel
def RJx145de : String := "java/io/Serializable"
def TJx145de : u_T := fun k => match k with
  | _ => ("", "", "", false)
def tyJx145de : Nat → FieldType := fun k => match k with
  | _ => .int
abbrev wsJx145de0 : List Cond := u_ws RJx145de TJx145de 0
theorem nmJx145de : ∀ a, a < 0 → ∀ b, b < 0 → a ≠ b → (TJx145de a).2.1 ≠ (TJx145de b).2.1 := by decide +kernel
theorem tyJx145de_ok : ∀ k, k < 0 → parseFieldDescriptor (TJx145de k).2.2.1 = some (tyJx145de k) := by decide +kernel
def RJ5 : String := "java/lang/AbstractStringBuilder"
def TJ5 : u_T := fun k => match k with
  | _ => ("", "", "", false)
def tyJ5 : Nat → FieldType := fun k => match k with
  | _ => .int
abbrev wsJ50 : List Cond := u_ws RJ5 TJ5 0
theorem nmJ5 : ∀ a, a < 0 → ∀ b, b < 0 → a ≠ b → (TJ5 a).2.1 ≠ (TJ5 b).2.1 := by decide +kernel
theorem tyJ5_ok : ∀ k, k < 0 → parseFieldDescriptor (TJ5 k).2.2.1 = some (tyJ5 k) := by decide +kernel
abbrev cJ5_init_d00df : ByteArray := prog_10_method_2_code
def yJ5_init_d00df : MethodName := ⟨RJ5, "<init>", "(I)V"⟩
abbrev cJ5_length_8abf5 : ByteArray := prog_10_method_6_code
def yJ5_length_8abf5 : MethodName := ⟨RJ5, "length", "()I"⟩
abbrev cJ5_ensureCapacityInternal_d00df : ByteArray := prog_10_method_9_code
def yJ5_ensureCapacityInternal_d00df : MethodName := ⟨RJ5, "ensureCapacityInternal", "(I)V"⟩
abbrev cJ5_newCapacity_0f7a4 : ByteArray := prog_10_method_10_code
def yJ5_newCapacity_0f7a4 : MethodName := ⟨RJ5, "newCapacity", "(I)I"⟩
abbrev cJ5_inflate_da8c8 : ByteArray := prog_10_method_11_code
def yJ5_inflate_da8c8 : MethodName := ⟨RJ5, "inflate", "()V"⟩
abbrev cJ5_append_cf1ce : ByteArray := prog_10_method_22_code
def yJ5_append_cf1ce : MethodName := ⟨RJ5, "append", "(Ljava/lang/String;)Ljava/lang/AbstractStringBuilder;"⟩
abbrev cJ5_appendNull_278bc : ByteArray := prog_10_method_26_code
def yJ5_appendNull_278bc : MethodName := ⟨RJ5, "appendNull", "()Ljava/lang/AbstractStringBuilder;"⟩
abbrev cJ5_append_3fe6f : ByteArray := prog_10_method_31_code
def yJ5_append_3fe6f : MethodName := ⟨RJ5, "append", "(C)Ljava/lang/AbstractStringBuilder;"⟩
abbrev cJ5_append_c97b9 : ByteArray := prog_10_method_32_code
def yJ5_append_c97b9 : MethodName := ⟨RJ5, "append", "(I)Ljava/lang/AbstractStringBuilder;"⟩
abbrev cJ5_getValue_6d5f1 : ByteArray := prog_10_method_64_code
def yJ5_getValue_6d5f1 : MethodName := ⟨RJ5, "getValue", "()[B"⟩
abbrev cJ5_isLatin1_aae02 : ByteArray := prog_10_method_68_code
def yJ5_isLatin1_aae02 : MethodName := ⟨RJ5, "isLatin1", "()Z"⟩
abbrev cJ5_inflateIfNeededFor_a7421 : ByteArray := prog_10_method_71_code
def yJ5_inflateIfNeededFor_a7421 : MethodName := ⟨RJ5, "inflateIfNeededFor", "(Ljava/lang/String;)V"⟩
abbrev cJ5_putStringAt_47b60 : ByteArray := prog_10_method_73_code
def yJ5_putStringAt_47b60 : MethodName := ⟨RJ5, "putStringAt", "(ILjava/lang/String;)V"⟩
def RJx2cfe8 : String := "java/lang/Appendable"
def TJx2cfe8 : u_T := fun k => match k with
  | _ => ("", "", "", false)
def tyJx2cfe8 : Nat → FieldType := fun k => match k with
  | _ => .int
abbrev wsJx2cfe80 : List Cond := u_ws RJx2cfe8 TJx2cfe8 0
theorem nmJx2cfe8 : ∀ a, a < 0 → ∀ b, b < 0 → a ≠ b → (TJx2cfe8 a).2.1 ≠ (TJx2cfe8 b).2.1 := by decide +kernel
theorem tyJx2cfe8_ok : ∀ k, k < 0 → parseFieldDescriptor (TJx2cfe8 k).2.2.1 = some (tyJx2cfe8 k) := by decide +kernel
def RJx9f9b0 : String := "java/lang/CharSequence"
def TJx9f9b0 : u_T := fun k => match k with
  | _ => ("", "", "", false)
def tyJx9f9b0 : Nat → FieldType := fun k => match k with
  | _ => .int
abbrev wsJx9f9b00 : List Cond := u_ws RJx9f9b0 TJx9f9b0 0
theorem nmJx9f9b0 : ∀ a, a < 0 → ∀ b, b < 0 → a ≠ b → (TJx9f9b0 a).2.1 ≠ (TJx9f9b0 b).2.1 := by decide +kernel
theorem tyJx9f9b0_ok : ∀ k, k < 0 → parseFieldDescriptor (TJx9f9b0 k).2.2.1 = some (tyJx9f9b0 k) := by decide +kernel
def RJx8e188 : String := "java/lang/Cloneable"
def TJx8e188 : u_T := fun k => match k with
  | _ => ("", "", "", false)
def tyJx8e188 : Nat → FieldType := fun k => match k with
  | _ => .int
abbrev wsJx8e1880 : List Cond := u_ws RJx8e188 TJx8e188 0
theorem nmJx8e188 : ∀ a, a < 0 → ∀ b, b < 0 → a ≠ b → (TJx8e188 a).2.1 ≠ (TJx8e188 b).2.1 := by decide +kernel
theorem tyJx8e188_ok : ∀ k, k < 0 → parseFieldDescriptor (TJx8e188 k).2.2.1 = some (tyJx8e188 k) := by decide +kernel
def RJxb160c : String := "java/lang/Comparable"
def TJxb160c : u_T := fun k => match k with
  | _ => ("", "", "", false)
def tyJxb160c : Nat → FieldType := fun k => match k with
  | _ => .int
abbrev wsJxb160c0 : List Cond := u_ws RJxb160c TJxb160c 0
theorem nmJxb160c : ∀ a, a < 0 → ∀ b, b < 0 → a ≠ b → (TJxb160c a).2.1 ≠ (TJxb160c b).2.1 := by decide +kernel
theorem tyJxb160c_ok : ∀ k, k < 0 → parseFieldDescriptor (TJxb160c k).2.2.1 = some (tyJxb160c k) := by decide +kernel
def RJ6 : String := "java/lang/Integer"
def TJ6 : u_T := fun k => match k with
  | _ => ("", "", "", false)
def tyJ6 : Nat → FieldType := fun k => match k with
  | _ => .int
abbrev wsJ60 : List Cond := u_ws RJ6 TJ6 0
theorem nmJ6 : ∀ a, a < 0 → ∀ b, b < 0 → a ≠ b → (TJ6 a).2.1 ≠ (TJ6 b).2.1 := by decide +kernel
theorem tyJ6_ok : ∀ k, k < 0 → parseFieldDescriptor (TJ6 k).2.2.1 = some (tyJ6 k) := by decide +kernel
abbrev cJ6_getChars_ba4f3 : ByteArray := prog_19_method_12_code
def yJ6_getChars_ba4f3 : MethodName := ⟨RJ6, "getChars", "(II[B)I"⟩
abbrev cJ6_stringSize_0f7a4 : ByteArray := prog_19_method_13_code
def yJ6_stringSize_0f7a4 : MethodName := ⟨RJ6, "stringSize", "(I)I"⟩
abbrev cJ6_bitCount_0f7a4 : ByteArray := prog_19_method_49_code
def yJ6_bitCount_0f7a4 : MethodName := ⟨RJ6, "bitCount", "(I)I"⟩
def RJ9 : String := "java/lang/Math"
def TJ9 : u_T := fun k => match k with
  | _ => ("", "", "", false)
def tyJ9 : Nat → FieldType := fun k => match k with
  | _ => .int
abbrev wsJ90 : List Cond := u_ws RJ9 TJ9 0
theorem nmJ9 : ∀ a, a < 0 → ∀ b, b < 0 → a ≠ b → (TJ9 a).2.1 ≠ (TJ9 b).2.1 := by decide +kernel
theorem tyJ9_ok : ∀ k, k < 0 → parseFieldDescriptor (TJ9 k).2.2.1 = some (tyJ9 k) := by decide +kernel
abbrev cJ9_max_7cf53 : ByteArray := prog_20_method_65_code
def yJ9_max_7cf53 : MethodName := ⟨RJ9, "max", "(II)I"⟩
abbrev cJ9_min_7cf53 : ByteArray := prog_20_method_69_code
def yJ9_min_7cf53 : MethodName := ⟨RJ9, "min", "(II)I"⟩
def RJxd2413 : String := "java/lang/Number"
def TJxd2413 : u_T := fun k => match k with
  | _ => ("", "", "", false)
def tyJxd2413 : Nat → FieldType := fun k => match k with
  | _ => .int
abbrev wsJxd24130 : List Cond := u_ws RJxd2413 TJxd2413 0
theorem nmJxd2413 : ∀ a, a < 0 → ∀ b, b < 0 → a ≠ b → (TJxd2413 a).2.1 ≠ (TJxd2413 b).2.1 := by decide +kernel
theorem tyJxd2413_ok : ∀ k, k < 0 → parseFieldDescriptor (TJxd2413 k).2.2.1 = some (tyJxd2413 k) := by decide +kernel
def RJ0 : String := "java/lang/String"
def TJ0 : u_T := fun k => match k with
  | 0 => ("java/lang/String", "value", "[B", true)
  | 1 => ("java/lang/String", "coder", "B", true)
  | 2 => ("java/lang/String", "hash", "I", false)
  | _ => ("java/lang/String", "hashIsZero", "Z", false)
def tyJ0 : Nat → FieldType := fun k => match k with
  | 0 => .array .byte
  | 1 => .byte
  | 2 => .int
  | _ => .boolean
abbrev wsJ00 : List Cond := u_ws RJ0 TJ0 4
theorem nmJ0 : ∀ a, a < 4 → ∀ b, b < 4 → a ≠ b → (TJ0 a).2.1 ≠ (TJ0 b).2.1 := by decide +kernel
theorem tyJ0_ok : ∀ k, k < 4 → parseFieldDescriptor (TJ0 k).2.2.1 = some (tyJ0 k) := by decide +kernel
abbrev cJ0_init_81219 : ByteArray := prog_23_method_53_code
def yJ0_init_81219 : MethodName := ⟨RJ0, "<init>", "(Ljava/lang/StringBuilder;)V"⟩
abbrev cJ0_length_8abf5 : ByteArray := prog_23_method_54_code
def yJ0_length_8abf5 : MethodName := ⟨RJ0, "length", "()I"⟩
abbrev cJ0_charAt_5068e : ByteArray := prog_23_method_56_code
def yJ0_charAt_5068e : MethodName := ⟨RJ0, "charAt", "(I)C"⟩
abbrev cJ0_getBytes_840e7 : ByteArray := prog_23_method_147_code
def yJ0_getBytes_840e7 : MethodName := ⟨RJ0, "getBytes", "([BIB)V"⟩
abbrev cJ0_init_db425 : ByteArray := prog_23_method_150_code
def yJ0_init_db425 : MethodName := ⟨RJ0, "<init>", "(Ljava/lang/AbstractStringBuilder;Ljava/lang/Void;)V"⟩
abbrev cJ0_coder_7d493 : ByteArray := prog_23_method_152_code
def yJ0_coder_7d493 : MethodName := ⟨RJ0, "coder", "()B"⟩
abbrev cJ0_isLatin1_aae02 : ByteArray := prog_23_method_154_code
def yJ0_isLatin1_aae02 : MethodName := ⟨RJ0, "isLatin1", "()Z"⟩
abbrev cJ0_checkIndex_df160 : ByteArray := prog_23_method_155_code
def yJ0_checkIndex_df160 : MethodName := ⟨RJ0, "checkIndex", "(II)V"⟩
abbrev cJ0_checkBoundsOffCount_cabcc : ByteArray := prog_23_method_157_code
def yJ0_checkBoundsOffCount_cabcc : MethodName := ⟨RJ0, "checkBoundsOffCount", "(III)I"⟩
abbrev cJ0_checkBoundsBeginEnd_23922 : ByteArray := prog_23_method_158_code
def yJ0_checkBoundsBeginEnd_23922 : MethodName := ⟨RJ0, "checkBoundsBeginEnd", "(III)V"⟩
def RJ4 : String := "java/lang/StringBuilder"
def TJ4 : u_T := fun k => match k with
  | 0 => ("java/lang/AbstractStringBuilder", "value", "[B", false)
  | 1 => ("java/lang/AbstractStringBuilder", "coder", "B", false)
  | 2 => ("java/lang/AbstractStringBuilder", "maybeLatin1", "Z", false)
  | _ => ("java/lang/AbstractStringBuilder", "count", "I", false)
def tyJ4 : Nat → FieldType := fun k => match k with
  | 0 => .array .byte
  | 1 => .byte
  | 2 => .boolean
  | _ => .int
abbrev wsJ40 : List Cond := u_ws RJ4 TJ4 4
theorem nmJ4 : ∀ a, a < 4 → ∀ b, b < 4 → a ≠ b → (TJ4 a).2.1 ≠ (TJ4 b).2.1 := by decide +kernel
theorem tyJ4_ok : ∀ k, k < 4 → parseFieldDescriptor (TJ4 k).2.2.1 = some (tyJ4 k) := by decide +kernel
abbrev cJ4_init_da8c8 : ByteArray := prog_24_method_1_code
def yJ4_init_da8c8 : MethodName := ⟨RJ4, "<init>", "()V"⟩
abbrev cJ4_append_15ec4 : ByteArray := prog_24_method_7_code
def yJ4_append_15ec4 : MethodName := ⟨RJ4, "append", "(Ljava/lang/String;)Ljava/lang/StringBuilder;"⟩
abbrev cJ4_append_cf468 : ByteArray := prog_24_method_14_code
def yJ4_append_cf468 : MethodName := ⟨RJ4, "append", "(C)Ljava/lang/StringBuilder;"⟩
abbrev cJ4_append_bf812 : ByteArray := prog_24_method_15_code
def yJ4_append_bf812 : MethodName := ⟨RJ4, "append", "(I)Ljava/lang/StringBuilder;"⟩
abbrev cJ4_toString_0e30d : ByteArray := prog_24_method_42_code
def yJ4_toString_0e30d : MethodName := ⟨RJ4, "toString", "()Ljava/lang/String;"⟩
abbrev cJ4_length_8abf5 : ByteArray := prog_24_method_93_code
def yJ4_length_8abf5 : MethodName := ⟨RJ4, "length", "()I"⟩
def RJ1 : String := "java/lang/StringLatin1"
def TJ1 : u_T := fun k => match k with
  | _ => ("", "", "", false)
def tyJ1 : Nat → FieldType := fun k => match k with
  | _ => .int
abbrev wsJ10 : List Cond := u_ws RJ1 TJ1 0
theorem nmJ1 : ∀ a, a < 0 → ∀ b, b < 0 → a ≠ b → (TJ1 a).2.1 ≠ (TJ1 b).2.1 := by decide +kernel
theorem tyJ1_ok : ∀ k, k < 0 → parseFieldDescriptor (TJ1 k).2.2.1 = some (tyJ1 k) := by decide +kernel
abbrev cJ1_charAt_3b067 : ByteArray := prog_25_method_2_code
def yJ1_charAt_3b067 : MethodName := ⟨RJ1, "charAt", "([BI)C"⟩
abbrev cJ1_canEncode_fc78d : ByteArray := prog_25_method_3_code
def yJ1_canEncode_fc78d : MethodName := ⟨RJ1, "canEncode", "(C)Z"⟩
abbrev cJ1_inflate_0e8fd : ByteArray := prog_25_method_50_code
def yJ1_inflate_0e8fd : MethodName := ⟨RJ1, "inflate", "([BI[BII)V"⟩
def RJ2 : String := "java/lang/StringUTF16"
def TJ2 : u_T := fun k => match k with
  | _ => ("", "", "", false)
def tyJ2 : Nat → FieldType := fun k => match k with
  | _ => .int
abbrev wsJ20 : List Cond := u_ws RJ2 TJ2 0
theorem nmJ2 : ∀ a, a < 0 → ∀ b, b < 0 → a ≠ b → (TJ2 a).2.1 ≠ (TJ2 b).2.1 := by decide +kernel
theorem tyJ2_ok : ∀ k, k < 0 → parseFieldDescriptor (TJ2 k).2.2.1 = some (tyJ2 k) := by decide +kernel
abbrev cJ2_newBytesFor_77867 : ByteArray := prog_26_method_2_code
def yJ2_newBytesFor_77867 : MethodName := ⟨RJ2, "newBytesFor", "(I)[B"⟩
abbrev cJ2_newBytesLength_0f7a4 : ByteArray := prog_26_method_3_code
def yJ2_newBytesLength_0f7a4 : MethodName := ⟨RJ2, "newBytesLength", "(I)I"⟩
abbrev cJ2_putChar_b72d1 : ByteArray := prog_26_method_4_code
def yJ2_putChar_b72d1 : MethodName := ⟨RJ2, "putChar", "([BII)V"⟩
abbrev cJ2_getChar_3b067 : ByteArray := prog_26_method_5_code
def yJ2_getChar_3b067 : MethodName := ⟨RJ2, "getChar", "([BI)C"⟩
abbrev cJ2_length_9d52b : ByteArray := prog_26_method_6_code
def yJ2_length_9d52b : MethodName := ⟨RJ2, "length", "([B)I"⟩
abbrev cJ2_coderFromArrayLen_85cad : ByteArray := prog_26_method_15_code
def yJ2_coderFromArrayLen_85cad : MethodName := ⟨RJ2, "coderFromArrayLen", "([BI)B"⟩
abbrev cJ2_compress_39247 : ByteArray := prog_26_method_17_code
def yJ2_compress_39247 : MethodName := ⟨RJ2, "compress", "([BII)[B"⟩
abbrev cJ2_compress_5af95 : ByteArray := prog_26_method_22_code
def yJ2_compress_5af95 : MethodName := ⟨RJ2, "compress", "([BI[BII)I"⟩
abbrev cJ2_putCharSB_b72d1 : ByteArray := prog_26_method_71_code
def yJ2_putCharSB_b72d1 : MethodName := ⟨RJ2, "putCharSB", "([BII)V"⟩
abbrev cJ2_getChars_46870 : ByteArray := prog_26_method_77_code
def yJ2_getChars_46870 : MethodName := ⟨RJ2, "getChars", "(III[B)I"⟩
abbrev cJ2_putCharsAt_cd4e5 : ByteArray := prog_26_method_81_code
def yJ2_putCharsAt_cd4e5 : MethodName := ⟨RJ2, "putCharsAt", "([BICCCC)I"⟩
abbrev cJ2_charAt_3b067 : ByteArray := prog_26_method_83_code
def yJ2_charAt_3b067 : MethodName := ⟨RJ2, "charAt", "([BI)C"⟩
abbrev cJ2_inflate_0e8fd : ByteArray := prog_26_method_86_code
def yJ2_inflate_0e8fd : MethodName := ⟨RJ2, "inflate", "([BI[BII)V"⟩
abbrev cJ2_getChars_ba4f3 : ByteArray := prog_26_method_89_code
def yJ2_getChars_ba4f3 : MethodName := ⟨RJ2, "getChars", "(II[B)I"⟩
abbrev cJ2_checkIndex_2214a : ByteArray := prog_26_method_91_code
def yJ2_checkIndex_2214a : MethodName := ⟨RJ2, "checkIndex", "(I[B)V"⟩
abbrev cJ2_checkBoundsBeginEnd_d044e : ByteArray := prog_26_method_93_code
def yJ2_checkBoundsBeginEnd_d044e : MethodName := ⟨RJ2, "checkBoundsBeginEnd", "(II[B)V"⟩
abbrev cJ2_checkBoundsOffCount_d044e : ByteArray := prog_26_method_94_code
def yJ2_checkBoundsOffCount_d044e : MethodName := ⟨RJ2, "checkBoundsOffCount", "(II[B)V"⟩
def RJ10 : String := "java/lang/System"
def TJ10 : u_T := fun k => match k with
  | _ => ("", "", "", false)
def tyJ10 : Nat → FieldType := fun k => match k with
  | _ => .int
abbrev wsJ100 : List Cond := u_ws RJ10 TJ10 0
theorem nmJ10 : ∀ a, a < 0 → ∀ b, b < 0 → a ≠ b → (TJ10 a).2.1 ≠ (TJ10 b).2.1 := by decide +kernel
theorem tyJ10_ok : ∀ k, k < 0 → parseFieldDescriptor (TJ10 k).2.2.1 = some (tyJ10 k) := by decide +kernel
def RJxfd54e : String := "java/lang/constant/Constable"
def TJxfd54e : u_T := fun k => match k with
  | _ => ("", "", "", false)
def tyJxfd54e : Nat → FieldType := fun k => match k with
  | _ => .int
abbrev wsJxfd54e0 : List Cond := u_ws RJxfd54e TJxfd54e 0
theorem nmJxfd54e : ∀ a, a < 0 → ∀ b, b < 0 → a ≠ b → (TJxfd54e a).2.1 ≠ (TJxfd54e b).2.1 := by decide +kernel
theorem tyJxfd54e_ok : ∀ k, k < 0 → parseFieldDescriptor (TJxfd54e k).2.2.1 = some (tyJxfd54e k) := by decide +kernel
def RJx3cf43 : String := "java/lang/constant/ConstantDesc"
def TJx3cf43 : u_T := fun k => match k with
  | _ => ("", "", "", false)
def tyJx3cf43 : Nat → FieldType := fun k => match k with
  | _ => .int
abbrev wsJx3cf430 : List Cond := u_ws RJx3cf43 TJx3cf43 0
theorem nmJx3cf43 : ∀ a, a < 0 → ∀ b, b < 0 → a ≠ b → (TJx3cf43 a).2.1 ≠ (TJx3cf43 b).2.1 := by decide +kernel
theorem tyJx3cf43_ok : ∀ k, k < 0 → parseFieldDescriptor (TJx3cf43 k).2.2.1 = some (tyJx3cf43 k) := by decide +kernel
def RJ7 : String := "java/util/Arrays"
def TJ7 : u_T := fun k => match k with
  | _ => ("", "", "", false)
def tyJ7 : Nat → FieldType := fun k => match k with
  | _ => .int
abbrev wsJ70 : List Cond := u_ws RJ7 TJ7 0
theorem nmJ7 : ∀ a, a < 0 → ∀ b, b < 0 → a ≠ b → (TJ7 a).2.1 ≠ (TJ7 b).2.1 := by decide +kernel
theorem tyJ7_ok : ∀ k, k < 0 → parseFieldDescriptor (TJ7 k).2.2.1 = some (tyJ7 k) := by decide +kernel
abbrev cJ7_fill_53178 : ByteArray := prog_31_method_103_code
def yJ7_fill_53178 : MethodName := ⟨RJ7, "fill", "([II)V"⟩
abbrev cJ7_copyOf_9075b : ByteArray := prog_31_method_121_code
def yJ7_copyOf_9075b : MethodName := ⟨RJ7, "copyOf", "([BI)[B"⟩
abbrev cJ7_checkLength_df160 : ByteArray := prog_31_method_131_code
def yJ7_checkLength_df160 : MethodName := ⟨RJ7, "checkLength", "(II)V"⟩
abbrev cJ7_copyOfRange_39247 : ByteArray := prog_31_method_132_code
def yJ7_copyOfRange_39247 : MethodName := ⟨RJ7, "copyOfRange", "([BII)[B"⟩
abbrev cJ7_copyOfRangeByte_39247 : ByteArray := prog_31_method_133_code
def yJ7_copyOfRangeByte_39247 : MethodName := ⟨RJ7, "copyOfRangeByte", "([BII)[B"⟩
def RJ8 : String := "jdk/internal/util/ArraysSupport"
def TJ8 : u_T := fun k => match k with
  | _ => ("", "", "", false)
def tyJ8 : Nat → FieldType := fun k => match k with
  | _ => .int
abbrev wsJ80 : List Cond := u_ws RJ8 TJ8 0
theorem nmJ8 : ∀ a, a < 0 → ∀ b, b < 0 → a ≠ b → (TJ8 a).2.1 ≠ (TJ8 b).2.1 := by decide +kernel
theorem tyJ8_ok : ∀ k, k < 0 → parseFieldDescriptor (TJ8 k).2.2.1 = some (tyJ8 k) := by decide +kernel
abbrev cJ8_newLength_cabcc : ByteArray := prog_33_method_27_code
def yJ8_newLength_cabcc : MethodName := ⟨RJ8, "newLength", "(III)I"⟩
abbrev cJ8_hugeLength_7cf53 : ByteArray := prog_33_method_28_code
def yJ8_hugeLength_7cf53 : MethodName := ⟨RJ8, "hugeLength", "(II)I"⟩
def RJ3 : String := "jdk/internal/util/Preconditions"
def TJ3 : u_T := fun k => match k with
  | _ => ("", "", "", false)
def tyJ3 : Nat → FieldType := fun k => match k with
  | _ => .int
abbrev wsJ30 : List Cond := u_ws RJ3 TJ3 0
theorem nmJ3 : ∀ a, a < 0 → ∀ b, b < 0 → a ≠ b → (TJ3 a).2.1 ≠ (TJ3 b).2.1 := by decide +kernel
theorem tyJ3_ok : ∀ k, k < 0 → parseFieldDescriptor (TJ3 k).2.2.1 = some (tyJ3 k) := by decide +kernel
abbrev cJ3_checkIndex_8e157 : ByteArray := prog_34_method_11_code
def yJ3_checkIndex_8e157 : MethodName := ⟨RJ3, "checkIndex", "(IILjava/util/function/BiFunction;)I"⟩
abbrev cJ3_checkFromToIndex_8c36e : ByteArray := prog_34_method_12_code
def yJ3_checkFromToIndex_8c36e : MethodName := ⟨RJ3, "checkFromToIndex", "(IIILjava/util/function/BiFunction;)I"⟩
abbrev cJ3_checkFromIndexSize_8c36e : ByteArray := prog_34_method_13_code
def yJ3_checkFromIndexSize_8c36e : MethodName := ⟨RJ3, "checkFromIndexSize", "(IIILjava/util/function/BiFunction;)I"⟩
def RL : String := "KeyTourLaw"
abbrev cL_draw : ByteArray := method_2_code
def yL_draw : MethodName := ⟨RL, "draw", "([III)I"⟩
abbrev cL_four : ByteArray := method_3_code
def yL_four : MethodName := ⟨RL, "four", "(Ljava/lang/String;I)I"⟩
abbrev cL_feed : ByteArray := method_4_code
def yL_feed : MethodName := ⟨RL, "feed", "(LKeyTour;Ljava/lang/String;)V"⟩
abbrev cL_name : ByteArray := method_5_code
def yL_name : MethodName := ⟨RL, "name", "(I)C"⟩
abbrev cL_load : ByteArray := method_6_code
def yL_load : MethodName := ⟨RL, "load", "(LKeyTour;[I)Z"⟩
abbrev cL_went : ByteArray := method_7_code
def yL_went : MethodName := ⟨RL, "went", "(LKeyTour;I)J"⟩
abbrev cL_completed : ByteArray := method_8_code
def yL_completed : MethodName := ⟨RL, "completed", "(LKeyTour;)J"⟩
abbrev cL_doored : ByteArray := method_9_code
def yL_doored : MethodName := ⟨RL, "doored", "(LKeyTour;IIZ)I"⟩
abbrev cL_act : ByteArray := method_10_code
def yL_act : MethodName := ⟨RL, "act", "(LKeyTour;[II)J"⟩
abbrev cL_has : ByteArray := method_12_code
def yL_has : MethodName := ⟨RL, "has", "(II)Z"⟩
abbrev cL_keys : ByteArray := method_13_code
def yL_keys : MethodName := ⟨RL, "keys", "(LKeyTour;I)I"⟩
abbrev cL_coins : ByteArray := method_14_code
def yL_coins : MethodName := ⟨RL, "coins", "(LKeyTour;I)I"⟩
abbrev cL_isOpen : ByteArray := method_15_code
def yL_isOpen : MethodName := ⟨RL, "isOpen", "(LKeyTour;II)Z"⟩
abbrev cL_leads : ByteArray := method_16_code
def yL_leads : MethodName := ⟨RL, "leads", "(LKeyTour;III)Z"⟩
abbrev cL_count : ByteArray := method_17_code
def yL_count : MethodName := ⟨RL, "count", "(LKeyTour;II)J"⟩
abbrev cL_stands : ByteArray := method_18_code
def yL_stands : MethodName := ⟨RL, "stands", "(LKeyTour;)Z"⟩
abbrev cL_sums : ByteArray := method_19_code
def yL_sums : MethodName := ⟨RL, "sums", "(LKeyTour;)Z"⟩
abbrev cL_law : ByteArray := code
def yL_law : MethodName := ⟨RL, "law", "([I)Z"⟩
abbrev vwCl : List vw_C := [(RX0, TX0, 2), (RX1, TX1, 3), (RX2, TX2, 15), (RX3, TX3, 9), (RX4, TX4, 7), (RX5, TX5, 12), (RJ4, TJ4, 4), (RJ0, TJ0, 4)]
end
section
/-! THE ABSTRACT MACHINE: a heap of cells at places 0, 1, .. (numbers, not addresses), a step that is a function, and its tie to the machine's own steps. -/
section ZM
abbrev zm_H : Type := Nat × (Nat → Nat × Nat) × (Nat → Nat → Int32) × (Nat → Nat → Int64) × (Nat → Nat → Option Nat) × (Nat → Nat → UInt64)
def zN (h : zm_H) : Nat := h.1
def zK (h : zm_H) : Nat → Nat × Nat := h.2.1
def zI (h : zm_H) : Nat → Nat → Int32 := h.2.2.1
def zJ (h : zm_H) : Nat → Nat → Int64 := h.2.2.2.1
def zP (h : zm_H) : Nat → Nat → Option Nat := h.2.2.2.2.1
def zD (h : zm_H) : Nat → Nat → UInt64 := h.2.2.2.2.2
def zrow {α : Type} (f : Nat → α) (a : Nat) (g : α) : Nat → α := fun b => if b = a then g else f b
def zput {α : Type} (f : Nat → α) (i : Nat) (x : α) : Nat → α := fun j => if j = i then x else f j
def zsI (h : zm_H) (a i : Nat) (x : Int32) : zm_H := (h.1, h.2.1, zrow h.2.2.1 a (zput (h.2.2.1 a) i x), h.2.2.2)
def zsJ (h : zm_H) (a i : Nat) (x : Int64) : zm_H := (h.1, h.2.1, h.2.2.1, zrow h.2.2.2.1 a (zput (h.2.2.2.1 a) i x), h.2.2.2.2)
def zsP (h : zm_H) (a i : Nat) (x : Option Nat) : zm_H := (h.1, h.2.1, h.2.2.1, h.2.2.2.1, zrow h.2.2.2.2.1 a (zput (h.2.2.2.2.1 a) i x), h.2.2.2.2.2)
def zsD (h : zm_H) (a i : Nat) (x : UInt64) : zm_H := (h.1, h.2.1, h.2.2.1, h.2.2.2.1, h.2.2.2.2.1, zrow h.2.2.2.2.2 a (zput (h.2.2.2.2.2 a) i x))
def zrI (h : zm_H) (a : Nat) (g : Nat → Int32) : zm_H := (h.1, h.2.1, zrow h.2.2.1 a g, h.2.2.2)
def zrJ (h : zm_H) (a : Nat) (g : Nat → Int64) : zm_H := (h.1, h.2.1, h.2.2.1, zrow h.2.2.2.1 a g, h.2.2.2.2)
def znew (h : zm_H) (kd len : Nat) : zm_H := (h.1 + 1, zrow h.2.1 h.1 (kd, len), zrow h.2.2.1 h.1 (fun _ => 0), zrow h.2.2.2.1 h.1 (fun _ => 0), zrow h.2.2.2.2.1 h.1 (fun _ => none), zrow h.2.2.2.2.2 h.1 (fun _ => 0))
/-- types of the fields, by class and place; what they hold -/
def zty : Nat → Nat → FieldType
  | 0 => tyX0 | 1 => tyX1 | 2 => tyX2 | 3 => tyX3 | 4 => tyX4 | 5 => tyX5 | 6 => tyJ4 | _ => tyJ0
def zcode : FieldType → Nat
  | .long => 1 | .object _ => 2 | .array _ => 2 | .boolean => 3 | _ => 0
def cv (ad : Nat → Nat) : Value → Value
  | .ref k => .ref (ad k)
  | v => v
def zfv (ad : Nat → Nat) (h : zm_H) (a j : Nat) : Nat → Value
  | 1 => .long (zJ h a j)
  | 2 => va_rf ((zP h a j).map ad)
  | _ => .int (zI h a j)
def zfs (ad : Nat → Nat) (h : zm_H) (a ci n : Nat) : List Value := (List.range n).map (fun j => zfv ad h a j (zcode (zty ci j)))
def zent (tc : Nat → ClassId) (ad : Nat → Nat) (h : zm_H) (a : Nat) : va_E :=
  match (zK h a).1 with
  | 0 => .inl (tc 0, (zK h a).2, .inl (zI h a))
  | 1 => .inl (tc 1, (zK h a).2, .inr (.inl (zJ h a)))
  | 2 => .inl (tc 2, (zK h a).2, .inl (zI h a))
  | 3 => .inl (tc 3, (zK h a).2, .inl (zI h a))
  | 4 => .inl (tc 4, (zK h a).2, .inr (.inr (.inr (.inl (zD h a)))))
  | 5 => .inl (tc 5, (zK h a).2, .inr (.inr (.inr (.inr (fun i => (zP h a i).map ad)))))
  | k + 6 => .inr (k, zfs ad h a k (zK h a).2)
def zws (tc : Nat → ClassId) (ad : Nat → Nat) (h : zm_H) : va_W := (List.range (zN h)).map (fun a => (ad a, zent tc ad h a))
def ztys (tc : Nat → ClassId) : List (ClassId × FieldType) := [(tc 0, .int), (tc 1, .long), (tc 2, .byte), (tc 3, .boolean), (tc 4, .double), (tc 5, .object "KeyTour$Level")]
def zgd {X : Type} (c : Prop) [Decidable c] (k : Option X) : Option X := if c then k else none
theorem zgd_some {X : Type} {c : Prop} [Decidable c] {k : Option X} {x : X} (h : zgd c k = some x) : c ∧ k = some x := by
  unfold zgd at h; split at h
  · exact ⟨by assumption, h⟩
  · cases h
-- locals
def zclr1 (i : Nat) (ls : List (Option Value)) : List (Option Value) := match ls[i]? with
  | some (some v) => if v.category = 2 then ls.set i none else ls
  | _ => ls
def zclr : Nat → List (Option Value) → List (Option Value)
  | 0, ls => ls
  | i + 1, ls => zclr1 i ls
def zst1 (i : Nat) (v : Value) (ls : List (Option Value)) : List (Option Value) := (zclr i ls).set i (some v)
def zst2 (i : Nat) (v : Value) (ls : List (Option Value)) : List (Option Value) := ((zclr i ls).set (i + 1) none).set i (some v)
def zkill (ks : List Nat) (ls : List (Option Value)) : List (Option Value) := ks.foldl (fun l k => l.set k none) ls
abbrev zm_L : Type := List (Option Value)
-- what needs neither heap nor words
def zb32 (f : Int32 → Int32 → Int32) (ls : zm_L) (st : List Value) : Option (zm_L × List Value) := match st with
  | .int y :: .int x :: s => some (ls, Value.int (f x y) :: s) | _ => none
def zb64 (f : Int64 → Int64 → Int64) (ls : zm_L) (st : List Value) : Option (zm_L × List Value) := match st with
  | .long y :: .long x :: s => some (ls, Value.long (f x y) :: s) | _ => none
def zldI (i : Nat) (ls : zm_L) (st : List Value) : Option (zm_L × List Value) := match ls[i]? with
  | some (some (.int x)) => some (ls, Value.int x :: st) | _ => none
def zldL (i : Nat) (ls : zm_L) (st : List Value) : Option (zm_L × List Value) := match ls[i]? with
  | some (some (.long x)) => some (ls, Value.long x :: st) | _ => none
def zldD (i : Nat) (ls : zm_L) (st : List Value) : Option (zm_L × List Value) := match ls[i]? with
  | some (some (.double x)) => some (ls, Value.double x :: st) | _ => none
def zldA (i : Nat) (ls : zm_L) (st : List Value) : Option (zm_L × List Value) := match ls[i]? with
  | some (some (.ref x)) => some (ls, Value.ref x :: st) | _ => none
def zsoI (i : Nat) (ls : zm_L) (st : List Value) : Option (zm_L × List Value) := match st with
  | .int x :: s => some (zst1 i (.int x) ls, s) | _ => none
def zsoA (i : Nat) (ls : zm_L) (st : List Value) : Option (zm_L × List Value) := match st with
  | .ref x :: s => some (zst1 i (.ref x) ls, s) | _ => none
def zsoL (i : Nat) (ls : zm_L) (st : List Value) : Option (zm_L × List Value) := match st with
  | .long x :: s => some (zst2 i (.long x) ls, s) | _ => none
def zsoD (i : Nat) (ls : zm_L) (st : List Value) : Option (zm_L × List Value) := match st with
  | .double x :: s => some (zst2 i (.double x) ls, s) | _ => none
def zpure (i : Instr) (c : Int32) (cl : Int64) (ls : zm_L) (st : List Value) : Option (zm_L × List Value) :=
  match i with
  | .iload_n n => zldI n.val ls st | .iload n => zldI n ls st
  | .lload_n n => zldL n.val ls st | .lload n => zldL n ls st
  | .dload_n n => zldD n.val ls st | .dload n => zldD n ls st
  | .aload_n n => zldA n.val ls st | .aload n => zldA n ls st
  | .istore_n n => zsoI n.val ls st | .istore n => zsoI n ls st
  | .lstore_n n => zsoL n.val ls st | .lstore n => zsoL n ls st
  | .dstore_n n => zsoD n.val ls st | .dstore n => zsoD n ls st
  | .astore_n n => zsoA n.val ls st | .astore n => zsoA n ls st
  | .iconst _ => some (ls, .int c :: st) | .bipush _ => some (ls, .int c :: st) | .sipush _ => some (ls, .int c :: st)
  | .lconst _ => some (ls, .long cl :: st)
  | .iinc n _ => (match ls[n]? with | some (some (.int x)) => some (zst1 n (.int (x + c)) ls, st) | _ => none)
  | .iadd => zb32 (fun x y => x + y) ls st
  | .isub => zb32 (fun x y => x - y) ls st
  | .imul => zb32 (fun x y => x * y) ls st
  | .iand => zb32 (fun x y => x &&& y) ls st
  | .ior => zb32 (fun x y => x ||| y) ls st
  | .ixor => zb32 (fun x y => x ^^^ y) ls st
  | .ishl => zb32 (fun x y => x <<< (y &&& 31)) ls st
  | .ishr => zb32 (fun x y => x >>> (y &&& 31)) ls st
  | .iushr => zb32 (fun x y => (x.toUInt32 >>> (y.toUInt32 &&& Int32.toUInt32 31)).toInt32) ls st
  | .ladd => zb64 (fun x y => x + y) ls st
  | .lsub => zb64 (fun x y => x - y) ls st
  | .lmul => zb64 (fun x y => x * y) ls st
  | .land => zb64 (fun x y => x &&& y) ls st
  | .lor => zb64 (fun x y => x ||| y) ls st
  | .lshl => (match st with | .int y :: .long x :: s => some (ls, .long (x <<< (y.toInt64 &&& 63)) :: s) | _ => none)
  | .lshr => (match st with | .int y :: .long x :: s => some (ls, .long (x >>> (y.toInt64 &&& 63)) :: s) | _ => none)
  | .i2l => (match st with | .int x :: s => some (ls, .long x.toInt64 :: s) | _ => none)
  | .l2i => (match st with | .long x :: s => some (ls, .int x.toInt32 :: s) | _ => none)
  | .i2b => (match st with | .int x :: s => some (ls, .int x.toInt8.toInt32 :: s) | _ => none)
  | .lcmp => (match st with | .long y :: .long x :: s => some (ls, .int (lg_cmp x y) :: s) | _ => none)
  | .dcmp o => (match st with | .double y :: .double x :: s => some (ls, .int (Op.cmpValue (FP.dcmp x y) o) :: s) | _ => none)
  | .l2d => (match st with | .long x :: s => some (ls, .double (FP.l2d x) :: s) | _ => none)
  | .i2f => (match st with | .int x :: s => some (ls, .float (FP.i2f x) :: s) | _ => none)
  | .dconst n => (match n with | 0 => some (ls, .double FP.dconst0 :: st) | _ => none)
  | .fconst n => (match n with | 0 => some (ls, .float FP.fconst0 :: st) | _ => none)
  | .dup => (match st with | .int x :: s => some (ls, .int x :: .int x :: s) | .ref x :: s => some (ls, .ref x :: .ref x :: s) | _ => none)
  | .dup2 => (match st with | .int x :: .ref y :: s => some (ls, .int x :: .ref y :: .int x :: .ref y :: s) | _ => none)
  | .dup_x1 => (match st with | .int x :: .ref y :: s => some (ls, .int x :: .ref y :: .int x :: s) | _ => none)
  | .ineg => (match st with | .int x :: s => some (ls, .int (-x) :: s) | _ => none)
  | .i2c => (match st with | .int x :: s => some (ls, .int (x.toUInt32 % 65536).toInt32 :: s) | _ => none)
  | .aconst_null => some (ls, .null :: st)
  | .pop => (match st with | .int _ :: s => some (ls, s) | .ref _ :: s => some (ls, s) | _ => none)
  | _ => none
/-- an instruction's length in bytes -/
def zlen : Instr → Nat
  | .iload _ => 2 | .lload _ => 2 | .dload _ => 2 | .aload _ => 2 | .istore _ => 2 | .lstore _ => 2 | .dstore _ => 2 | .astore _ => 2
  | .bipush _ => 2 | .sipush _ => 3 | .iinc _ _ => 3 | .goto _ => 3 | .ifCond _ _ => 3 | .if_icmp _ _ => 3
  | .getfield _ => 3 | .putfield _ => 3 | .new _ => 3 | .newarray _ => 2 | .anewarray _ => 3
  | .ifnonnull _ => 3 | .getstatic _ => 3 | .checkcast _ => 3
  | .invokevirtual _ => 3 | .invokestatic _ => 3 | .invokespecial _ => 3 | .ldc _ => 2 | .ldc_w _ => 3 | .ldc2_w _ => 3
  | _ => 1
def zimm (i : Instr) (c : Int32) (cl : Int64) : Bool := match i with
  | .iconst n => decide (Int32.ofInt n = c)
  | .bipush n => decide ((Int8.ofInt n).toInt32 = c)
  | .sipush n => decide ((Int16.ofInt n).toInt32 = c)
  | .lconst n => decide (Int64.ofNat n.val = cl)
  | .iinc _ n => decide (Int32.ofInt n = c)
  | _ => true
/-- the machine's locals hold the abstract ones -/
def zLh (ad : Nat → Nat) (nL : Nat) (la : zm_L) (ls : Array Slot) : Prop := ls.size = nL ∧ lv_wf ls ∧ la.length = nL ∧ ∀ (i : Nat) (v : Value), la[i]? = some (some v) → ls[i]? = some (Slot.val (cv ad v))
def zasc (ad : Nat → Nat) (la : zm_L) : List (Nat × Value) := (List.range la.length).filterMap (fun i => match la[i]? with | some (some v) => some (i, cv ad v) | _ => none)
theorem zasc_mem {ad : Nat → Nat} {la : zm_L} {i : Nat} {w : Value} : (i, w) ∈ zasc ad la ↔ ∃ v, la[i]? = some (some v) ∧ w = cv ad v := by
  unfold zasc
  rw [List.mem_filterMap]
  constructor
  · rintro ⟨j, hj, h⟩
    split at h
    · rename_i v hv
      cases h
      exact ⟨v, hv, rfl⟩
    · cases h
  · rintro ⟨v, hv, rfl⟩
    refine ⟨i, ?_, ?_⟩
    · rw [List.mem_range]
      exact (List.getElem?_eq_some_iff.mp hv).1
    · rw [hv]
theorem zLh.has {ad : Nat → Nat} {nL : Nat} {la : zm_L} {ls : Array Slot} (h : zLh ad nL la ls) : lv_has ls nL (zasc ad la) := by
  refine ⟨h.1, h.2.1, fun q hq => ?_⟩
  obtain ⟨i, w⟩ := q
  obtain ⟨v, hv, rfl⟩ := zasc_mem.mp hq
  exact h.2.2.2 i v hv
theorem zLh.at {ad : Nat → Nat} {nL : Nat} {la : zm_L} {ls : Array Slot} (h : zLh ad nL la ls) {i : Nat} {v : Value} (hv : la[i]? = some (some v)) : ls[i]? = some (Slot.val (cv ad v)) := h.2.2.2 i v hv
theorem zLh.lt {ad : Nat → Nat} {nL : Nat} {la : zm_L} {ls : Array Slot} (h : zLh ad nL la ls) {i : Nat} {v : Option Value} (hv : la[i]? = some v) : i < nL := by
  rw [← h.2.2.1]
  exact (List.getElem?_eq_some_iff.mp hv).1
theorem zclr_len (i : Nat) (la : zm_L) : (zclr i la).length = la.length := by
  cases i with
  | zero => rfl
  | succ i =>
    show (zclr1 i la).length = la.length
    unfold zclr1
    split
    · split <;> simp
    · rfl
theorem zclr_at {i j : Nat} {la : zm_L} {v : Value} (h : (zclr i la)[j]? = some (some v)) : la[j]? = some (some v) ∧ ¬ (j + 1 = i ∧ v.category = 2) := by
  cases i with
  | zero => exact ⟨h, by omega⟩
  | succ i =>
    replace h : (zclr1 i la)[j]? = some (some v) := h
    unfold zclr1 at h
    split at h
    · rename_i w hw
      split at h
      · by_cases hj : j = i
        · subst hj
          rw [List.getElem?_set] at h
          simp at h
        · rw [List.getElem?_set_ne (Ne.symm hj)] at h
          exact ⟨h, by omega⟩
      · rename_i hc
        refine ⟨h, fun hh => ?_⟩
        have hj : j = i := by omega
        subst hj
        rw [hw] at h
        cases h
        exact hc hh.2
    · rename_i hn
      refine ⟨h, fun hh => ?_⟩
      have hj : j = i := by omega
      subst hj
      exact hn v h
theorem cv_cat (ad : Nat → Nat) (v : Value) : (cv ad v).category = v.category := by cases v <;> rfl
/-- a store of one word: what the kit's row gives is enough for the abstract locals -/
theorem zLh_st1 {ad : Nat → Nat} {nL : Nat} {la : zm_L} {ls' : Array Slot} {i : Nat} {v : Value} (hn : la.length = nL)
    (h : lv_has ls' nL ((i, cv ad v) :: (zasc ad la).filter (fun q => !(q.1 == i) && !(q.1 + 1 == i && q.2.category == 2)))) : zLh ad nL (zst1 i v la) ls' := by
  refine ⟨h.1, h.2.1, by simp [zst1, zclr_len, hn], fun j w hj => ?_⟩
  unfold zst1 at hj
  by_cases e : j = i
  · subst e
    rw [List.getElem?_set] at hj
    split at hj
    · split at hj
      · cases hj; exact h.2.2 (j, cv ad v) List.mem_cons_self
      · cases hj
    · contradiction
  · rw [List.getElem?_set_ne (Ne.symm e)] at hj
    obtain ⟨h1, h2⟩ := zclr_at hj
    refine h.2.2 (j, cv ad w) (List.mem_cons_of_mem _ (List.mem_filter.mpr ⟨zasc_mem.mpr ⟨w, h1, rfl⟩, ?_⟩))
    simp only [Bool.and_eq_true, Bool.not_eq_true', beq_eq_false_iff_ne, ne_eq, Bool.and_eq_false_iff]
    refine ⟨e, ?_⟩
    rw [cv_cat]
    by_cases e2 : j + 1 = i
    · exact Or.inr (fun hc => h2 ⟨e2, hc⟩)
    · exact Or.inl e2
theorem zLh_st2 {ad : Nat → Nat} {nL : Nat} {la : zm_L} {ls' : Array Slot} {i : Nat} {v : Value} (hn : la.length = nL)
    (h : lv_has ls' nL ((i, cv ad v) :: (zasc ad la).filter (fun q => !(q.1 == i) && (!(q.1 == i + 1) && !(q.1 + 1 == i && q.2.category == 2))))) : zLh ad nL (zst2 i v la) ls' := by
  refine ⟨h.1, h.2.1, by simp [zst2, zclr_len, hn], fun j w hj => ?_⟩
  unfold zst2 at hj
  by_cases e : j = i
  · subst e
    rw [List.getElem?_set] at hj
    split at hj
    · split at hj
      · cases hj; exact h.2.2 (j, cv ad v) List.mem_cons_self
      · cases hj
    · contradiction
  · rw [List.getElem?_set_ne (Ne.symm e)] at hj
    by_cases e1 : j = i + 1
    · subst e1
      rw [List.getElem?_set] at hj
      simp at hj
    · rw [List.getElem?_set_ne (Ne.symm e1)] at hj
      obtain ⟨h1, h2⟩ := zclr_at hj
      refine h.2.2 (j, cv ad w) (List.mem_cons_of_mem _ (List.mem_filter.mpr ⟨zasc_mem.mpr ⟨w, h1, rfl⟩, ?_⟩))
      simp only [Bool.and_eq_true, Bool.not_eq_true', beq_eq_false_iff_ne, ne_eq, Bool.and_eq_false_iff]
      refine ⟨e, e1, ?_⟩
      rw [cv_cat]
      by_cases e2 : j + 1 = i
      · exact Or.inr (fun hc => h2 ⟨e2, hc⟩)
      · exact Or.inl e2
theorem zkill_at (ks : List Nat) : ∀ {la : zm_L} {j : Nat} {v : Value}, (zkill ks la)[j]? = some (some v) → la[j]? = some (some v) := by
  induction ks with
  | nil => intro la j v h; exact h
  | cons k ks ih =>
    intro la j v h
    have h1 : (zkill ks (la.set k none))[j]? = some (some v) := h
    have h2 := ih h1
    by_cases e : j = k
    · subst e
      rw [List.getElem?_set] at h2
      simp at h2
    · rwa [List.getElem?_set_ne (Ne.symm e)] at h2
theorem zkill_len (ks : List Nat) : ∀ (la : zm_L), (zkill ks la).length = la.length := by
  induction ks with
  | nil => intro la; rfl
  | cons k ks ih =>
    intro la
    have : zkill (k :: ks) la = zkill ks (la.set k none) := rfl
    rw [this, ih, List.length_set]
theorem zLh.kill {ad : Nat → Nat} {nL : Nat} {la : zm_L} {ls : Array Slot} (h : zLh ad nL la ls) (ks : List Nat) : zLh ad nL (zkill ks la) ls :=
  ⟨h.1, h.2.1, by rw [zkill_len]; exact h.2.2.1, fun i v hv => h.2.2.2 i v (zkill_at ks hv)⟩
end ZM
end
section
/-! THE ABSTRACT STEP AND THE MACHINE: what needs neither heap nor words. -/
section ZS
variable {p : Program} {l : Launch} {e : Env} {R : Room} {s : State} {m : MethodId} {args : Array Value} {below : List Frame} {meth : Method} {c : Code} {H : Heap} {locs : List Loc} {cells slots : Nat} {Q : State → Prop}
theorem zb32_inv {f : Int32 → Int32 → Int32} {la la2 : zm_L} {st st2 : List Value} (h : zb32 f la st = some (la2, st2)) : ∃ x y s, st = .int y :: .int x :: s ∧ la2 = la ∧ st2 = .int (f x y) :: s := by
  unfold zb32 at h; split at h
  · cases h; exact ⟨_, _, _, rfl, rfl, rfl⟩
  · cases h
theorem zb64_inv {f : Int64 → Int64 → Int64} {la la2 : zm_L} {st st2 : List Value} (h : zb64 f la st = some (la2, st2)) : ∃ x y s, st = .long y :: .long x :: s ∧ la2 = la ∧ st2 = .long (f x y) :: s := by
  unfold zb64 at h; split at h
  · cases h; exact ⟨_, _, _, rfl, rfl, rfl⟩
  · cases h
theorem zldI_inv {i : Nat} {la la2 : zm_L} {st st2 : List Value} (h : zldI i la st = some (la2, st2)) : ∃ x, la[i]? = some (some (.int x)) ∧ la2 = la ∧ st2 = .int x :: st := by
  unfold zldI at h; split at h
  · rename_i x hx; cases h; exact ⟨x, hx, rfl, rfl⟩
  · cases h
theorem zsoI_inv {i : Nat} {la la2 : zm_L} {st st2 : List Value} (h : zsoI i la st = some (la2, st2)) : ∃ x s, st = .int x :: s ∧ la2 = zst1 i (.int x) la ∧ st2 = s := by
  unfold zsoI at h; split at h
  · cases h; exact ⟨_, _, rfl, rfl, rfl⟩
  · cases h
theorem zldL_inv {i : Nat} {la la2 : zm_L} {st st2 : List Value} (h : zldL i la st = some (la2, st2)) : ∃ x, la[i]? = some (some (.long x)) ∧ la2 = la ∧ st2 = .long x :: st := by
  unfold zldL at h; split at h
  · rename_i x hx; cases h; exact ⟨x, hx, rfl, rfl⟩
  · cases h
theorem zsoL_inv {i : Nat} {la la2 : zm_L} {st st2 : List Value} (h : zsoL i la st = some (la2, st2)) : ∃ x s, st = .long x :: s ∧ la2 = zst2 i (.long x) la ∧ st2 = s := by
  unfold zsoL at h; split at h
  · cases h; exact ⟨_, _, rfl, rfl, rfl⟩
  · cases h
theorem zldD_inv {i : Nat} {la la2 : zm_L} {st st2 : List Value} (h : zldD i la st = some (la2, st2)) : ∃ x, la[i]? = some (some (.double x)) ∧ la2 = la ∧ st2 = .double x :: st := by
  unfold zldD at h; split at h
  · rename_i x hx; cases h; exact ⟨x, hx, rfl, rfl⟩
  · cases h
theorem zsoD_inv {i : Nat} {la la2 : zm_L} {st st2 : List Value} (h : zsoD i la st = some (la2, st2)) : ∃ x s, st = .double x :: s ∧ la2 = zst2 i (.double x) la ∧ st2 = s := by
  unfold zsoD at h; split at h
  · cases h; exact ⟨_, _, rfl, rfl, rfl⟩
  · cases h
theorem zldA_inv {i : Nat} {la la2 : zm_L} {st st2 : List Value} (h : zldA i la st = some (la2, st2)) : ∃ x, la[i]? = some (some (.ref x)) ∧ la2 = la ∧ st2 = .ref x :: st := by
  unfold zldA at h; split at h
  · rename_i x hx; cases h; exact ⟨x, hx, rfl, rfl⟩
  · cases h
theorem zsoA_inv {i : Nat} {la la2 : zm_L} {st st2 : List Value} (h : zsoA i la st = some (la2, st2)) : ∃ x s, st = .ref x :: s ∧ la2 = zst1 i (.ref x) la ∧ st2 = s := by
  unfold zsoA at h; split at h
  · cases h; exact ⟨_, _, rfl, rfl, rfl⟩
  · cases h
set_option maxHeartbeats 4000000 in
theorem zsim_pure {cc : ByteArray} (hx : p.tables.exec = Jvm.exec) (hb : c.code = cc) {i : Instr} {pc n nL : Nat} (hd : decode cc pc = .ok (i, n)) (hn : n = zlen i) {im : Int32} {il : Int64} (hi : zimm i im il = true) {ad : Nat → Nat} {la la2 : zm_L} {st st2 : List Value} {ls : Array Slot} (hl : zLh ad nL la ls) (hlen : ∀ (k : Nat), (i = .istore k ∨ i = .astore k ∨ (∃ z, i = .iinc k z) ∨ (∃ f : Fin 4, f.val = k ∧ (i = .istore_n f ∨ i = .astore_n f)) → k < nL) ∧ ((i = .lstore k ∨ i = .dstore k ∨ ∃ f : Fin 4, f.val = k ∧ (i = .lstore_n f ∨ i = .dstore_n f)) → k + 1 < nL)) (h : zpure i im il la st = some (la2, st2))
    (kk : ∀ ls2 : Array Slot, zLh ad nL la2 ls2 → W p l e R s m args below meth c H locs cells slots Q (F0 m (pc + zlen i) ls2 (st2.map (cv ad)))) : W p l e R s m args below meth c H locs cells slots Q (F0 m pc ls (st.map (cv ad))) := by
  subst hn
  cases i
  case iadd =>
    obtain ⟨x, y, s, rfl, rfl, rfl⟩ := zb32_inv h
    exact lv_iadd hx hb hd (kk _ hl)
  case isub =>
    obtain ⟨x, y, s, rfl, rfl, rfl⟩ := zb32_inv h
    exact lv_isub hx hb hd (kk _ hl)
  case imul =>
    obtain ⟨x, y, s, rfl, rfl, rfl⟩ := zb32_inv h
    exact lv_imul hx hb hd (kk _ hl)
  case iand =>
    obtain ⟨x, y, s, rfl, rfl, rfl⟩ := zb32_inv h
    exact lv_iand hx hb hd (kk _ hl)
  case ior =>
    obtain ⟨x, y, s, rfl, rfl, rfl⟩ := zb32_inv h
    exact lv_ior hx hb hd (kk _ hl)
  case ixor =>
    obtain ⟨x, y, s, rfl, rfl, rfl⟩ := zb32_inv h
    exact lv_ixor hx hb hd (kk _ hl)
  case ishl =>
    obtain ⟨x, y, s, rfl, rfl, rfl⟩ := zb32_inv h
    exact lv_ishl hx hb hd (kk _ hl)
  case ishr =>
    obtain ⟨x, y, s, rfl, rfl, rfl⟩ := zb32_inv h
    exact lv_ishr hx hb hd (kk _ hl)
  case iushr =>
    obtain ⟨x, y, s, rfl, rfl, rfl⟩ := zb32_inv h
    exact lv_iushr hx hb hd rfl (kk _ hl)
  case ladd =>
    obtain ⟨x, y, s, rfl, rfl, rfl⟩ := zb64_inv h
    exact lv_ladd hx hb hd (kk _ hl)
  case lsub =>
    obtain ⟨x, y, s, rfl, rfl, rfl⟩ := zb64_inv h
    exact lv_lsub hx hb hd (kk _ hl)
  case lmul =>
    obtain ⟨x, y, s, rfl, rfl, rfl⟩ := zb64_inv h
    exact lv_lmul hx hb hd (kk _ hl)
  case land =>
    obtain ⟨x, y, s, rfl, rfl, rfl⟩ := zb64_inv h
    exact lv_land hx hb hd (kk _ hl)
  case lor =>
    obtain ⟨x, y, s, rfl, rfl, rfl⟩ := zb64_inv h
    exact lv_lor hx hb hd (kk _ hl)
  case iload k =>
    obtain ⟨x, hv, rfl, rfl⟩ := zldI_inv h
    exact lv_iload hx hb hd (hl.at hv) (kk _ hl)
  case iload_n k =>
    obtain ⟨x, hv, rfl, rfl⟩ := zldI_inv h
    exact lv_iload_n hx hb hd rfl (hl.at hv) (kk _ hl)
  case lload k =>
    obtain ⟨x, hv, rfl, rfl⟩ := zldL_inv h
    exact lv_lload hx hb hd (hl.at hv) (kk _ hl)
  case lload_n k =>
    obtain ⟨x, hv, rfl, rfl⟩ := zldL_inv h
    exact lv_lload_n hx hb hd rfl (hl.at hv) (kk _ hl)
  case dload k =>
    obtain ⟨x, hv, rfl, rfl⟩ := zldD_inv h
    exact lv_dload hx hb hd (hl.at hv) (kk _ hl)
  case dload_n k =>
    obtain ⟨x, hv, rfl, rfl⟩ := zldD_inv h
    exact lv_dload_n hx hb hd rfl (hl.at hv) (kk _ hl)
  case aload k =>
    obtain ⟨x, hv, rfl, rfl⟩ := zldA_inv h
    exact lv_aload hx hb hd (hl.at hv) (kk _ hl)
  case aload_n k =>
    obtain ⟨x, hv, rfl, rfl⟩ := zldA_inv h
    exact lv_aload_n hx hb hd rfl (hl.at hv) (kk _ hl)
  case istore k =>
    obtain ⟨x, s, rfl, rfl, rfl⟩ := zsoI_inv h
    exact lv_istore hx hb hd hl.has ((hlen k).1 (by simp)) rfl (fun ls2 h2 => kk _ (zLh_st1 hl.2.2.1 h2))
  case istore_n k =>
    obtain ⟨x, s, rfl, rfl, rfl⟩ := zsoI_inv h
    exact lv_istore_n hx hb hd rfl hl.has ((hlen k.val).1 (by simp)) rfl (fun ls2 h2 => kk _ (zLh_st1 hl.2.2.1 h2))
  case astore k =>
    obtain ⟨x, s, rfl, rfl, rfl⟩ := zsoA_inv h
    exact lv_astore hx hb hd hl.has ((hlen k).1 (by simp)) rfl (fun ls2 h2 => kk _ (zLh_st1 hl.2.2.1 h2))
  case astore_n k =>
    obtain ⟨x, s, rfl, rfl, rfl⟩ := zsoA_inv h
    exact lv_astore_n hx hb hd rfl hl.has ((hlen k.val).1 (by simp)) rfl (fun ls2 h2 => kk _ (zLh_st1 hl.2.2.1 h2))
  case lstore k =>
    obtain ⟨x, s, rfl, rfl, rfl⟩ := zsoL_inv h
    exact lv_lstore hx hb hd hl.has ((hlen k).2 (by simp)) rfl (fun ls2 h2 => kk _ (zLh_st2 hl.2.2.1 h2))
  case lstore_n k =>
    obtain ⟨x, s, rfl, rfl, rfl⟩ := zsoL_inv h
    exact lv_lstore_n hx hb hd rfl hl.has ((hlen k.val).2 (by simp)) rfl (fun ls2 h2 => kk _ (zLh_st2 hl.2.2.1 h2))
  case dstore k =>
    obtain ⟨x, s, rfl, rfl, rfl⟩ := zsoD_inv h
    exact lv_dstore hx hb hd hl.has ((hlen k).2 (by simp)) rfl (fun ls2 h2 => kk _ (zLh_st2 hl.2.2.1 h2))
  case dstore_n k =>
    obtain ⟨x, s, rfl, rfl, rfl⟩ := zsoD_inv h
    exact lv_dstore_n hx hb hd rfl hl.has ((hlen k.val).2 (by simp)) rfl (fun ls2 h2 => kk _ (zLh_st2 hl.2.2.1 h2))
  case iconst z =>
    simp only [zpure] at h
    cases h
    exact lv_iconst hx hb hd (of_decide_eq_true hi) (kk _ hl)
  case bipush z =>
    simp only [zpure] at h
    cases h
    exact lv_bipush hx hb hd (of_decide_eq_true hi) (kk _ hl)
  case sipush z =>
    simp only [zpure] at h
    cases h
    exact lv_sipush hx hb hd (of_decide_eq_true hi) (kk _ hl)
  case lconst z =>
    simp only [zpure] at h
    cases h
    exact lv_lconst hx hb hd (of_decide_eq_true hi) (kk _ hl)
  case iinc k z =>
    simp only [zpure] at h
    split at h
    · rename_i x hv
      cases h
      obtain ⟨j, hj⟩ := List.getElem?_of_mem (zasc_mem.mpr ⟨_, hv, rfl⟩)
      have hz := of_decide_eq_true hi
      exact lv_iinc (v := x + im) hx hb hd hl.has hj (by rw [hz]) ((hlen k).1 (by simp)) rfl (fun ls2 h2 => kk _ (zLh_st1 hl.2.2.1 h2))
    · cases h
  case lshl =>
    simp only [zpure] at h
    split at h
    · cases h
      exact lv_lshl hx hb hd rfl (kk _ hl)
    · cases h
  case lshr =>
    simp only [zpure] at h
    split at h
    · cases h
      exact lv_lshr hx hb hd rfl (kk _ hl)
    · cases h
  case i2l =>
    simp only [zpure] at h
    split at h
    · cases h
      exact lv_i2l hx hb hd rfl (kk _ hl)
    · cases h
  case l2i =>
    simp only [zpure] at h
    split at h
    · cases h
      exact lv_l2i hx hb hd rfl (kk _ hl)
    · cases h
  case i2b =>
    simp only [zpure] at h
    split at h
    · cases h
      exact lv_i2b hx hb hd rfl (kk _ hl)
    · cases h
  case lcmp =>
    simp only [zpure] at h
    split at h
    · cases h
      exact W.lcmp hx hb hd (kk _ hl)
    · cases h
  case dcmp o =>
    simp only [zpure] at h
    split at h
    · cases h
      exact lv_dcmp hx hb hd (kk _ hl)
    · cases h
  case l2d =>
    simp only [zpure] at h
    split at h
    · cases h
      exact lv_l2d hx hb hd (kk _ hl)
    · cases h
  case i2f =>
    simp only [zpure] at h
    split at h
    · cases h
      exact lv_i2f hx hb hd (kk _ hl)
    · cases h
  case dconst n =>
    simp only [zpure] at h
    split at h
    · cases h
      exact lv_dconst0 hx hb hd (kk _ hl)
    · cases h
  case fconst n =>
    simp only [zpure] at h
    split at h
    · cases h
      exact lv_fconst0 hx hb hd (kk _ hl)
    · cases h
  case dup =>
    simp only [zpure] at h
    split at h
    · cases h
      exact lv_dup hx hb hd rfl (kk _ hl)
    · cases h
      exact lv_dup hx hb hd rfl (kk _ hl)
    · cases h
  case dup2 =>
    simp only [zpure] at h
    split at h
    · cases h
      exact lv_dup2_11 hx hb hd rfl rfl (kk _ hl)
    · cases h
  case dup_x1 =>
    simp only [zpure] at h
    split at h
    · cases h
      exact lv_dup_x1 hx hb hd rfl rfl (kk _ hl)
    · cases h
  case ineg =>
    simp only [zpure] at h
    split at h
    · cases h
      exact lv_ineg hx hb hd (kk _ hl)
    · cases h
  case i2c =>
    simp only [zpure] at h
    split at h
    · cases h
      exact lv_i2c hx hb hd rfl (kk _ hl)
    · cases h
  case aconst_null =>
    simp only [zpure] at h
    cases h
    exact lv_null hx hb hd (kk _ hl)
  case pop =>
    simp only [zpure] at h
    split at h
    · cases h
      exact lv_pop hx hb hd rfl (kk _ hl)
    · cases h
      exact lv_pop hx hb hd rfl (kk _ hl)
    · cases h
  all_goals (exact nomatch h)
end ZS
end
section
/-! THE ABSTRACT HEAP AND THE MACHINE'S: reads, writes, new cells. -/
section ZT
/-- private methods of the builder, called on its heir -/
def zw_pv : List MethodName := [yJ5_ensureCapacityInternal_d00df, yJ5_newCapacity_0f7a4, yJ5_putStringAt_47b60, yJ5_inflateIfNeededFor_a7421]
def zw_tbl : List Cond := zw_pv.map (fun y => Cond.selects RJ4 y y) ++ lw_tbl
/-- the tables' good words -/
def gT : List Cond := zw_tbl.filter goodWord
theorem gT_in {w : Cond} (h : w ∈ zw_tbl) (g : goodWord w = true) : w ∈ gT := List.mem_filter.mpr ⟨h, g⟩
theorem gT_good {ws : List Cond} (h : ∀ w ∈ ws, w ∈ gT) : GoodIn gT ws := fun w hw => ⟨h w hw, good_of_word (List.mem_filter.mp (h w hw)).2⟩
def zcN : Nat → String
  | 0 => RX0 | 1 => RX1 | 2 => RX2 | 3 => RX3 | 4 => RX4 | 5 => RX5 | 6 => RJ4 | _ => RJ0
def zcT : Nat → u_T
  | 0 => TX0 | 1 => TX1 | 2 => TX2 | 3 => TX3 | 4 => TX4 | 5 => TX5 | 6 => TJ4 | _ => TJ0
def zcn : Nat → Nat
  | 0 => 2 | 1 => 3 | 2 => 15 | 3 => 9 | 4 => 7 | 5 => 12 | 6 => 4 | _ => 4
theorem zcl_at : ∀ ci, ci < 8 → vwCl[ci]? = some (zcN ci, zcT ci, zcn ci) := by
  intro ci h
  match ci, h with
  | 0, _ => rfl
  | 1, _ => rfl
  | 2, _ => rfl
  | 3, _ => rfl
  | 4, _ => rfl
  | 5, _ => rfl
  | 6, _ => rfl
  | 7, _ => rfl
theorem zcty_ok : ∀ ci, ci < 8 → ∀ k, k < zcn ci → parseFieldDescriptor (zcT ci k).2.2.1 = some (zty ci k) := by
  intro ci h
  match ci, h with
  | 0, _ => exact tyX0_ok
  | 1, _ => exact tyX1_ok
  | 2, _ => exact tyX2_ok
  | 3, _ => exact tyX3_ok
  | 4, _ => exact tyX4_ok
  | 5, _ => exact tyX5_ok
  | 6, _ => exact tyJ4_ok
  | 7, _ => exact tyJ0_ok
theorem zcnm_ok : ∀ ci, ci < 8 → ∀ a, a < zcn ci → ∀ b, b < zcn ci → a ≠ b → (zcT ci a).2.1 ≠ (zcT ci b).2.1 := by
  intro ci h
  match ci, h with
  | 0, _ => exact nmX0
  | 1, _ => exact nmX1
  | 2, _ => exact nmX2
  | 3, _ => exact nmX3
  | 4, _ => exact nmX4
  | 5, _ => exact nmX5
  | 6, _ => exact nmJ4
  | 7, _ => exact nmJ0
theorem zcin0 : ∀ w ∈ u_ws RX0 TX0 2, w ∈ gT := fun w h => gT_in ((by decide +kernel : ∀ w ∈ u_ws RX0 TX0 2, w ∈ zw_tbl) w h) ((by decide +kernel : ∀ w ∈ u_ws RX0 TX0 2, goodWord w = true) w h)
theorem zcin1 : ∀ w ∈ u_ws RX1 TX1 3, w ∈ gT := fun w h => gT_in ((by decide +kernel : ∀ w ∈ u_ws RX1 TX1 3, w ∈ zw_tbl) w h) ((by decide +kernel : ∀ w ∈ u_ws RX1 TX1 3, goodWord w = true) w h)
theorem zcin2 : ∀ w ∈ u_ws RX2 TX2 15, w ∈ gT := fun w h => gT_in ((by decide +kernel : ∀ w ∈ u_ws RX2 TX2 15, w ∈ zw_tbl) w h) ((by decide +kernel : ∀ w ∈ u_ws RX2 TX2 15, goodWord w = true) w h)
theorem zcin3 : ∀ w ∈ u_ws RX3 TX3 9, w ∈ gT := fun w h => gT_in ((by decide +kernel : ∀ w ∈ u_ws RX3 TX3 9, w ∈ zw_tbl) w h) ((by decide +kernel : ∀ w ∈ u_ws RX3 TX3 9, goodWord w = true) w h)
theorem zcin4 : ∀ w ∈ u_ws RX4 TX4 7, w ∈ gT := fun w h => gT_in ((by decide +kernel : ∀ w ∈ u_ws RX4 TX4 7, w ∈ zw_tbl) w h) ((by decide +kernel : ∀ w ∈ u_ws RX4 TX4 7, goodWord w = true) w h)
theorem zcin5 : ∀ w ∈ u_ws RX5 TX5 12, w ∈ gT := fun w h => gT_in ((by decide +kernel : ∀ w ∈ u_ws RX5 TX5 12, w ∈ zw_tbl) w h) ((by decide +kernel : ∀ w ∈ u_ws RX5 TX5 12, goodWord w = true) w h)
theorem zcin6 : ∀ w ∈ u_ws RJ4 TJ4 4, w ∈ gT := fun w h => gT_in ((by decide +kernel : ∀ w ∈ u_ws RJ4 TJ4 4, w ∈ zw_tbl) w h) ((by decide +kernel : ∀ w ∈ u_ws RJ4 TJ4 4, goodWord w = true) w h)
theorem zcin7 : ∀ w ∈ u_ws RJ0 TJ0 4, w ∈ gT := fun w h => gT_in ((by decide +kernel : ∀ w ∈ u_ws RJ0 TJ0 4, w ∈ zw_tbl) w h) ((by decide +kernel : ∀ w ∈ u_ws RJ0 TJ0 4, goodWord w = true) w h)
theorem zcin : ∀ ci, ci < 8 → ∀ w ∈ u_ws (zcN ci) (zcT ci) (zcn ci), w ∈ gT := by
  intro ci h
  match ci, h with
  | 0, _ => exact zcin0
  | 1, _ => exact zcin1
  | 2, _ => exact zcin2
  | 3, _ => exact zcin3
  | 4, _ => exact zcin4
  | 5, _ => exact zcin5
  | 6, _ => exact zcin6
  | 7, _ => exact zcin7
-- entries
theorem zfv_congr {ad ad' : Nat → Nat} {h h' : zm_H} {b j c : Nat} (i : zI h' b = zI h b) (jj : zJ h' b = zJ h b) (p : ∀ x, (zP h' b x).map ad' = (zP h b x).map ad) : zfv ad' h' b j c = zfv ad h b j c := by
  unfold zfv
  split
  · rw [jj]
  · rw [p]
  · rw [i]
theorem zfs_congr {ad ad' : Nat → Nat} {h h' : zm_H} {b ci n : Nat} (i : zI h' b = zI h b) (jj : zJ h' b = zJ h b) (p : ∀ x, (zP h' b x).map ad' = (zP h b x).map ad) : zfs ad' h' b ci n = zfs ad h b ci n := by
  unfold zfs
  exact List.map_congr_left fun j _ => zfv_congr i jj p
theorem zent_congr {tc : Nat → ClassId} {ad ad' : Nat → Nat} {h h' : zm_H} {b : Nat} (k : zK h' b = zK h b) (i : zI h' b = zI h b) (jj : zJ h' b = zJ h b) (p : ∀ x, (zP h' b x).map ad' = (zP h b x).map ad) (d : zD h' b = zD h b) : zent tc ad' h' b = zent tc ad h b := by
  unfold zent
  rw [k, i, jj, d]
  split
  · rfl
  · rfl
  · rfl
  · rfl
  · rfl
  · simp only [p]
  · rw [zfs_congr i jj p]
theorem zws_len {tc : Nat → ClassId} {ad : Nat → Nat} {h : zm_H} : (zws tc ad h).length = zN h := by simp [zws]
theorem zws_get {tc : Nat → ClassId} {ad : Nat → Nat} {h : zm_H} {a : Nat} (ha : a < zN h) : (zws tc ad h)[a]? = some (ad a, zent tc ad h a) := by
  simp [zws, ha]
theorem zws_set {tc : Nat → ClassId} {ad : Nat → Nat} {h h' : zm_H} {a : Nat} {en : va_E} (hN : zN h' = zN h) (ha : a < zN h) (he : zent tc ad h' a = en) (ho : ∀ b, b ≠ a → zent tc ad h' b = zent tc ad h b) : (zws tc ad h).set a (ad a, en) = zws tc ad h' := by
  apply List.ext_getElem?
  intro i
  by_cases e : i = a
  · subst e
    rw [List.getElem?_set, if_pos rfl, if_pos (by rw [zws_len]; exact ha), zws_get (by rw [hN]; exact ha), he]
  · rw [List.getElem?_set_ne (Ne.symm e)]
    by_cases hi : i < zN h
    · rw [zws_get hi, zws_get (by rw [hN]; exact hi), ho i e]
    · rw [List.getElem?_eq_none (by rw [zws_len]; omega), List.getElem?_eq_none (by rw [zws_len, hN]; omega)]
theorem zws_push {tc : Nat → ClassId} {ad ad' : Nat → Nat} {h h' : zm_H} {q : Nat} {en : va_E} (hN : zN h' = zN h + 1) (hq : ad' (zN h) = q) (he : zent tc ad' h' (zN h) = en) (ho : ∀ b, b < zN h → ad' b = ad b ∧ zent tc ad' h' b = zent tc ad h b) : zws tc ad h ++ [(q, en)] = zws tc ad' h' := by
  unfold zws
  rw [hN, List.range_succ, List.map_append]
  congr 1
  · exact List.map_congr_left fun b hb => by rw [(ho b (List.mem_range.mp hb)).1, (ho b (List.mem_range.mp hb)).2]
  · simp [hq, he]
theorem zfs_at {ad : Nat → Nat} {h : zm_H} {a ci n j : Nat} (hj : j < n) : (zfs ad h a ci n)[j]? = some (zfv ad h a j (zcode (zty ci j))) := by
  simp [zfs, hj]
theorem zfs_set {ad : Nat → Nat} {h h' : zm_H} {a ci n j : Nat} {v : Value} (hv : zfv ad h' a j (zcode (zty ci j)) = v) (ho : ∀ i, i ≠ j → ∀ c, zfv ad h' a i c = zfv ad h a i c) : (zfs ad h a ci n).set j v = zfs ad h' a ci n := by
  apply List.ext_getElem?
  intro i
  by_cases e : i = j
  · subst e
    rw [List.getElem?_set, if_pos rfl]
    by_cases hi : i < n
    · rw [if_pos (by simp [zfs, hi]), zfs_at hi, hv]
    · rw [if_neg (by simp [zfs]; omega), List.getElem?_eq_none (by simp [zfs]; omega)]
  · rw [List.getElem?_set_ne (Ne.symm e)]
    by_cases hi : i < n
    · rw [zfs_at hi, zfs_at hi, ho i e]
    · rw [List.getElem?_eq_none (by simp [zfs]; omega), List.getElem?_eq_none (by simp [zfs]; omega)]
theorem zrow_self {α : Type} (f : Nat → α) (a : Nat) (g : α) : zrow f a g a = g := by simp [zrow]
theorem zrow_ne {α : Type} (f : Nat → α) {a b : Nat} (g : α) (h : b ≠ a) : zrow f a g b = f b := by simp [zrow, h]
theorem zput_self {α : Type} (f : Nat → α) (a : Nat) (g : α) : zput f a g a = g := by simp [zput]
theorem zput_ne {α : Type} (f : Nat → α) {a b : Nat} (g : α) (h : b ≠ a) : zput f a g b = f b := by simp [zput, h]
/-- references stay below the number of cells, or are of the read-only range -/
def zokV (n : Nat) (v : Value) : Prop := match v with | .ref k => k < n ∨ 1000000 ≤ k | _ => True
def zokS (n : Nat) (st : List Value) : Prop := ∀ v ∈ st, zokV n v
def zokL (n : Nat) (la : zm_L) : Prop := ∀ v, some v ∈ la → zokV n v
def zokH (h : zm_H) : Prop := (∀ a i k, zP h a i = some k → k < zN h) ∧ zN h ≤ 900000 ∧ ∀ a, zN h ≤ a → (zK h a).1 = 77
/-- the world -/
def zR (D : va_G) (tc : Nat → ClassId) (ad : Nat → Nat) (A : Nat → Prop) (s : State) (h : zm_H) (H : Heap) (locs : List Loc) : Prop :=
  va_P D vwCl (zws tc ad h) H ∧ va_D A (zws tc ad h) ∧ va_S A s.heap H locs ∧ zokH h
end ZT
section ZU
variable {p : Program} {l : Launch} {e : Env} {R : Room} {s : State} {m : MethodId} {args : Array Value} {below : List Frame} {meth : Method} {c : Code} {H : Heap} {locs : List Loc} {cells slots : Nat} {Q : State → Prop}
variable {cc : ByteArray} {pc : Nat} {ls : Array Slot} {rest : List Value} {D : va_G} {tc : Nat → ClassId} {ad : Nat → Nat} {A : Nat → Prop} {h : zm_H} {own : String}
theorem zobj {ci a : Nat} (hk : zK h a = (ci + 6, zcn ci)) : zent tc ad h a = .inr (ci, zfs ad h a ci (zcn ci)) := by simp [zent, hk]
theorem zsim_get (hx : p.tables.exec = Jvm.exec) (hb : c.code = cc) (hts : ∀ w ∈ gT, w.before args s = true) (hown : s.vm.findClass own = some m.cls) (hK : va_K D vwCl (ztys tc) s) (hR : zR D tc ad A s h H locs)
    {idx ci j a : Nat} (hci : ci < 8) (hj : j < zcn ci) (ha : a < zN h) (hk : zK h a = (ci + 6, zcn ci)) (hlink : Cond.fieldLink own idx (zcT ci j).1 (zcT ci j).2.1 (zcT ci j).2.2.1 ∈ gT) (hd : decode cc pc = .ok (.getfield idx, 3))
    (kk : W p l e R s m args below meth c H locs cells slots Q (F0 m (pc + 3) ls (zfv ad h a j (zcode (zty ci j)) :: rest))) : W p l e R s m args below meth c H locs cells slots Q (F0 m pc ls (.ref (ad a) :: rest)) := by
  refine va_get (D := D) (cl := vwCl) (C := zcN ci) (T := zcT ci) (N := zcn ci) (ci := ci) hx hb hts (zcin ci hci) hown hK hR.1 a (by rw [zws_get ha, zobj hk]) (zcl_at ci hci) j hj (hts _ hlink) (fun _ h9 => h9) (zfs_at hj) hd kk
theorem zsim_getN (hx : p.tables.exec = Jvm.exec) (hb : c.code = cc) (hts : ∀ w ∈ gT, w.before args s = true) (hown : s.vm.findClass own = some m.cls) (hK : va_K D vwCl (ztys tc) s) (hR : zR D tc ad A s h H locs)
    {idx ci j a : Nat} {host : String} (hci : ci < 8) (hj : j < zcn ci) (ha : a < zN h) (hk : zK h a = (ci + 6, zcn ci)) (hlink : Cond.fieldLinkNest own idx (zcT ci j).1 (zcT ci j).2.1 (zcT ci j).2.2.1 host ∈ gT) (hd : decode cc pc = .ok (.getfield idx, 3))
    (kk : W p l e R s m args below meth c H locs cells slots Q (F0 m (pc + 3) ls (zfv ad h a j (zcode (zty ci j)) :: rest))) : W p l e R s m args below meth c H locs cells slots Q (F0 m pc ls (.ref (ad a) :: rest)) := by
  refine va_getN (D := D) (cl := vwCl) (C := zcN ci) (T := zcT ci) (N := zcn ci) (ci := ci) hx hb hts (zcin ci hci) hown hK hR.1 a (by rw [zws_get ha, zobj hk]) (zcl_at ci hci) j hj (hts _ hlink) (fun _ h9 => h9) (zfs_at hj) hd kk
/-- a write of a field: h2 is the heap behind it -/
theorem zsim_put (hx : p.tables.exec = Jvm.exec) (hb : c.code = cc) (hts : ∀ w ∈ gT, w.before args s = true) (hown : s.vm.findClass own = some m.cls) (hK : va_K D vwCl (ztys tc) s) (hR : zR D tc ad A s h H locs)
    {idx ci j a : Nat} (hci : ci < 8) (hj : j < zcn ci) (ha : a < zN h) (hk : zK h a = (ci + 6, zcn ci)) (hlink : Cond.fieldLink own idx (zcT ci j).1 (zcT ci j).2.1 (zcT ci j).2.2.1 ∈ gT)
    (hfin : (zcT ci j).2.2.2 = false ∨ ((zcT ci j).2.2.2 = true ∧ meth.name = "<init>" ∧ (zcT ci j).1 = own)) {v : Value} (hn : narrow (zty ci j) v = v) (hfit : fits (zty ci j) v = true) (hd : decode cc pc = .ok (.putfield idx, 3))
    {h2 : zm_H} (e1 : zN h2 = zN h) (e2 : zK h2 = zK h) (e3 : zfv ad h2 a j (zcode (zty ci j)) = v) (e4 : ∀ i, i ≠ j → ∀ cd, zfv ad h2 a i cd = zfv ad h a i cd) (e5 : ∀ b, b ≠ a → zent tc ad h2 b = zent tc ad h b) (e6 : zokH h2)
    (kk : ∀ (H1 : Heap) (locs1 : List Loc), zR D tc ad A s h2 H1 locs1 → W p l e R s m args below meth c H1 locs1 cells slots Q (F0 m (pc + 3) ls rest)) : W p l e R s m args below meth c H locs cells slots Q (F0 m pc ls (v :: .ref (ad a) :: rest)) := by
  have hset : (zws tc ad h).set a (ad a, .inr (ci, (zfs ad h a ci (zcn ci)).set j v)) = zws tc ad h2 :=
    zws_set e1 ha (by rw [zobj (h := h2) (by rw [e2]; exact hk), zfs_set e3 e4]) e5
  have hlen : j < (zfs ad h a ci (zcn ci)).length := by simp [zfs, hj]
  rcases hfin with hfin | ⟨hfin, hin, hdecl⟩
  · refine va_put (D := D) (cl := vwCl) (C := zcN ci) (T := zcT ci) (N := zcn ci) (ci := ci) hx hb hts (zcin ci hci) (zty ci) (zcty_ok ci hci) (zcnm_ok ci hci) hown hK hR.1 hR.2.1 hR.2.2.1 a (by rw [zws_get ha, zobj hk]) (zcl_at ci hci) j hj (hts _ hlink) (fun _ h9 => h9) hfin (zcty_ok ci hci j hj) hn hfit hlen hd (fun H1 locs1 hP hD hS => ?_)
    rw [hset] at hP hD
    exact kk H1 locs1 ⟨hP, hD, hS, e6⟩
  · refine va_putF (D := D) (cl := vwCl) (C := zcN ci) (T := zcT ci) (N := zcn ci) (ci := ci) hx hb hts (zcin ci hci) (zty ci) (zcty_ok ci hci) (zcnm_ok ci hci) hown hK hR.1 hR.2.1 hR.2.2.1 a (by rw [zws_get ha, zobj hk]) (zcl_at ci hci) j hj (hts _ hlink) (fun _ h9 => h9) hfin hin hdecl (zcty_ok ci hci j hj) hn hfit hlen hd (fun H1 locs1 hP hD hS => ?_)
    rw [hset] at hP hD
    exact kk H1 locs1 ⟨hP, hD, hS, e6⟩
end ZU
end
section
/-! ARRAYS, NEW CELLS over the abstract heap. -/
section ZA
theorem zsI_ent {tc : Nat → ClassId} {ad : Nat → Nat} {h : zm_H} {a i : Nat} {x : Int32} : ∀ b, b ≠ a → zent tc ad (zsI h a i x) b = zent tc ad h b := fun b hb => zent_congr rfl (by show zrow _ _ _ b = _; rw [zrow_ne _ _ hb]; rfl) rfl (fun _ => rfl) rfl
theorem zrI_ent {tc : Nat → ClassId} {ad : Nat → Nat} {h : zm_H} {a : Nat} {g : Nat → Int32} : ∀ b, b ≠ a → zent tc ad (zrI h a g) b = zent tc ad h b := fun b hb => zent_congr rfl (by show zrow _ _ _ b = _; rw [zrow_ne _ _ hb]; rfl) rfl (fun _ => rfl) rfl
theorem zsJ_ent {tc : Nat → ClassId} {ad : Nat → Nat} {h : zm_H} {a i : Nat} {x : Int64} : ∀ b, b ≠ a → zent tc ad (zsJ h a i x) b = zent tc ad h b := fun b hb => zent_congr rfl rfl (by show zrow _ _ _ b = _; rw [zrow_ne _ _ hb]; rfl) (fun _ => rfl) rfl
theorem zrJ_ent {tc : Nat → ClassId} {ad : Nat → Nat} {h : zm_H} {a : Nat} {g : Nat → Int64} : ∀ b, b ≠ a → zent tc ad (zrJ h a g) b = zent tc ad h b := fun b hb => zent_congr rfl rfl (by show zrow _ _ _ b = _; rw [zrow_ne _ _ hb]; rfl) (fun _ => rfl) rfl
theorem zsP_ent {tc : Nat → ClassId} {ad : Nat → Nat} {h : zm_H} {a i : Nat} {x : Option Nat} : ∀ b, b ≠ a → zent tc ad (zsP h a i x) b = zent tc ad h b := fun b hb => zent_congr rfl rfl rfl (fun y => by rw [show zP (zsP h a i x) b = zP h b from zrow_ne _ _ hb]) rfl
theorem zsD_ent {tc : Nat → ClassId} {ad : Nat → Nat} {h : zm_H} {a i : Nat} {x : UInt64} : ∀ b, b ≠ a → zent tc ad (zsD h a i x) b = zent tc ad h b := fun b hb => zent_congr rfl rfl rfl (fun _ => rfl) (by show zrow _ _ _ b = _; rw [zrow_ne _ _ hb]; rfl)
theorem zsP_ok {h : zm_H} {a i q : Nat} (hq : q < zN h) (h0 : zokH h) : zokH (zsP h a i (some q)) := by
  refine ⟨fun b j k hk => ?_, h0.2⟩
  have hk : zrow (zP h) a (zput (zP h a) i (some q)) b j = some k := hk
  by_cases e : b = a
  · subst e
    rw [zrow_self] at hk
    by_cases e2 : j = i
    · subst e2; rw [zput_self] at hk; cases hk; exact hq
    · rw [zput_ne _ _ e2] at hk; exact h0.1 _ _ _ hk
  · rw [zrow_ne _ _ e] at hk; exact h0.1 _ _ _ hk
end ZA
section ZB
variable {p : Program} {l : Launch} {e : Env} {R : Room} {s : State} {m : MethodId} {args : Array Value} {below : List Frame} {meth : Method} {c : Code} {H : Heap} {locs : List Loc} {cells slots : Nat} {Q : State → Prop}
variable {cc : ByteArray} {pc : Nat} {ls : Array Slot} {rest : List Value} {D : va_G} {tc : Nat → ClassId} {ad : Nat → Nat} {A : Nat → Prop} {h : zm_H} {own : String}
theorem zsim_iald (hx : p.tables.exec = Jvm.exec) (hb : c.code = cc) (hK : va_K D vwCl (ztys tc) s) (hR : zR D tc ad A s h H locs) {a : Nat} (ha : a < zN h) (hk : (zK h a).1 = 0) {i : Int32} (hin : vp_in i (zK h a).2) (hd : decode cc pc = .ok (.iaload, 1)) (kk : W p l e R s m args below meth c H locs cells slots Q (F0 m (pc + 1) ls (.int (zI h a i.toNatClampNeg) :: rest))) : W p l e R s m args below meth c H locs cells slots Q (F0 m pc ls (.int i :: .ref (ad a) :: rest)) :=
  va_iald hx hb hK hR.1 a 0 (cA := tc 0) (n := (zK h a).2) (f := zI h a) (by rw [zws_get ha]; simp [zent, hk]) rfl hin hd kk
theorem zsim_iast (hx : p.tables.exec = Jvm.exec) (hb : c.code = cc) (hK : va_K D vwCl (ztys tc) s) (hR : zR D tc ad A s h H locs) {a : Nat} (ha : a < zN h) (hk : (zK h a).1 = 0) {i : Int32} (hin : vp_in i (zK h a).2) {x : Int32} (hd : decode cc pc = .ok (.iastore, 1)) (kk : ∀ (H1 : Heap) (locs1 : List Loc), zR D tc ad A s (zsI h a i.toNatClampNeg (x)) H1 locs1 → W p l e R s m args below meth c H1 locs1 cells slots Q (F0 m (pc + 1) ls rest)) : W p l e R s m args below meth c H locs cells slots Q (F0 m pc ls (.int x :: .int i :: .ref (ad a) :: rest)) := by
  have hset : (zws tc ad h).set a (ad a, .inl (tc 0, (zK h a).2, .inl (zput (zI h a) i.toNatClampNeg (x)))) = zws tc ad (zsI h a i.toNatClampNeg (x)) := zws_set rfl ha (by
    have e1 : zK (zsI h a i.toNatClampNeg (x)) a = zK h a := rfl
    have e2 : zI (zsI h a i.toNatClampNeg (x)) a = zput (zI h a) i.toNatClampNeg (x) := zrow_self _ _ _
    simp [zent, e1, e2, hk]) zsI_ent
  refine va_iast hx hb hK hR.1 hR.2.1 hR.2.2.1 a 0 (cA := tc 0) (n := (zK h a).2) (f := zI h a) (by rw [zws_get ha]; simp [zent, hk]) rfl hin hd (fun H1 locs1 hP hD hS => ?_)
  replace hP := hset ▸ hP
  replace hD := hset ▸ hD
  exact kk H1 locs1 ⟨hP, hD, hS, hR.2.2.2⟩
theorem zsim_lald (hx : p.tables.exec = Jvm.exec) (hb : c.code = cc) (hK : va_K D vwCl (ztys tc) s) (hR : zR D tc ad A s h H locs) {a : Nat} (ha : a < zN h) (hk : (zK h a).1 = 1) {i : Int32} (hin : vp_in i (zK h a).2) (hd : decode cc pc = .ok (.laload, 1)) (kk : W p l e R s m args below meth c H locs cells slots Q (F0 m (pc + 1) ls (.long (zJ h a i.toNatClampNeg) :: rest))) : W p l e R s m args below meth c H locs cells slots Q (F0 m pc ls (.int i :: .ref (ad a) :: rest)) :=
  va_lald hx hb hK hR.1 a 1 (cA := tc 1) (n := (zK h a).2) (f := zJ h a) (by rw [zws_get ha]; simp [zent, hk]) rfl hin hd kk
theorem zsim_last (hx : p.tables.exec = Jvm.exec) (hb : c.code = cc) (hK : va_K D vwCl (ztys tc) s) (hR : zR D tc ad A s h H locs) {a : Nat} (ha : a < zN h) (hk : (zK h a).1 = 1) {i : Int32} (hin : vp_in i (zK h a).2) {x : Int64} (hd : decode cc pc = .ok (.lastore, 1)) (kk : ∀ (H1 : Heap) (locs1 : List Loc), zR D tc ad A s (zsJ h a i.toNatClampNeg (x)) H1 locs1 → W p l e R s m args below meth c H1 locs1 cells slots Q (F0 m (pc + 1) ls rest)) : W p l e R s m args below meth c H locs cells slots Q (F0 m pc ls (.long x :: .int i :: .ref (ad a) :: rest)) := by
  have hset : (zws tc ad h).set a (ad a, .inl (tc 1, (zK h a).2, .inr (.inl (zput (zJ h a) i.toNatClampNeg (x))))) = zws tc ad (zsJ h a i.toNatClampNeg (x)) := zws_set rfl ha (by
    have e1 : zK (zsJ h a i.toNatClampNeg (x)) a = zK h a := rfl
    have e2 : zJ (zsJ h a i.toNatClampNeg (x)) a = zput (zJ h a) i.toNatClampNeg (x) := zrow_self _ _ _
    simp [zent, e1, e2, hk]) zsJ_ent
  refine va_last hx hb hK hR.1 hR.2.1 hR.2.2.1 a 1 (cA := tc 1) (n := (zK h a).2) (f := zJ h a) (by rw [zws_get ha]; simp [zent, hk]) rfl hin hd (fun H1 locs1 hP hD hS => ?_)
  replace hP := hset ▸ hP
  replace hD := hset ▸ hD
  exact kk H1 locs1 ⟨hP, hD, hS, hR.2.2.2⟩
theorem zsim_bald (hx : p.tables.exec = Jvm.exec) (hb : c.code = cc) (hK : va_K D vwCl (ztys tc) s) (hR : zR D tc ad A s h H locs) {a : Nat} (ha : a < zN h) (hk : (zK h a).1 = 2) {i : Int32} (hin : vp_in i (zK h a).2) (hd : decode cc pc = .ok (.baload, 1)) (kk : W p l e R s m args below meth c H locs cells slots Q (F0 m (pc + 1) ls (.int (zI h a i.toNatClampNeg) :: rest))) : W p l e R s m args below meth c H locs cells slots Q (F0 m pc ls (.int i :: .ref (ad a) :: rest)) :=
  va_bald hx hb hK hR.1 a 2 (cA := tc 2) (n := (zK h a).2) (f := zI h a) (by rw [zws_get ha]; simp [zent, hk]) rfl hin hd kk
theorem zsim_bast (hx : p.tables.exec = Jvm.exec) (hb : c.code = cc) (hK : va_K D vwCl (ztys tc) s) (hR : zR D tc ad A s h H locs) {a : Nat} (ha : a < zN h) (hk : (zK h a).1 = 2) {i : Int32} (hin : vp_in i (zK h a).2) {x : Int32} (hd : decode cc pc = .ok (.bastore, 1)) (kk : ∀ (H1 : Heap) (locs1 : List Loc), zR D tc ad A s (zsI h a i.toNatClampNeg (x.toInt8.toInt32)) H1 locs1 → W p l e R s m args below meth c H1 locs1 cells slots Q (F0 m (pc + 1) ls rest)) : W p l e R s m args below meth c H locs cells slots Q (F0 m pc ls (.int x :: .int i :: .ref (ad a) :: rest)) := by
  have hset : (zws tc ad h).set a (ad a, .inl (tc 2, (zK h a).2, .inl (zput (zI h a) i.toNatClampNeg (x.toInt8.toInt32)))) = zws tc ad (zsI h a i.toNatClampNeg (x.toInt8.toInt32)) := zws_set rfl ha (by
    have e1 : zK (zsI h a i.toNatClampNeg (x.toInt8.toInt32)) a = zK h a := rfl
    have e2 : zI (zsI h a i.toNatClampNeg (x.toInt8.toInt32)) a = zput (zI h a) i.toNatClampNeg (x.toInt8.toInt32) := zrow_self _ _ _
    simp [zent, e1, e2, hk]) zsI_ent
  refine va_bast hx hb hK hR.1 hR.2.1 hR.2.2.1 a 2 (cA := tc 2) (n := (zK h a).2) (f := zI h a) (by rw [zws_get ha]; simp [zent, hk]) rfl hin hd (fun H1 locs1 hP hD hS => ?_)
  rw [vp_nar_byte] at hP hD
  replace hP := hset ▸ hP
  replace hD := hset ▸ hD
  exact kk H1 locs1 ⟨hP, hD, hS, hR.2.2.2⟩
theorem zsim_zald (hx : p.tables.exec = Jvm.exec) (hb : c.code = cc) (hK : va_K D vwCl (ztys tc) s) (hR : zR D tc ad A s h H locs) {a : Nat} (ha : a < zN h) (hk : (zK h a).1 = 3) {i : Int32} (hin : vp_in i (zK h a).2) (hd : decode cc pc = .ok (.baload, 1)) (kk : W p l e R s m args below meth c H locs cells slots Q (F0 m (pc + 1) ls (.int (zI h a i.toNatClampNeg) :: rest))) : W p l e R s m args below meth c H locs cells slots Q (F0 m pc ls (.int i :: .ref (ad a) :: rest)) :=
  va_zald hx hb hK hR.1 a 3 (cA := tc 3) (n := (zK h a).2) (f := zI h a) (by rw [zws_get ha]; simp [zent, hk]) rfl hin hd kk
theorem zsim_zast (hx : p.tables.exec = Jvm.exec) (hb : c.code = cc) (hK : va_K D vwCl (ztys tc) s) (hR : zR D tc ad A s h H locs) {a : Nat} (ha : a < zN h) (hk : (zK h a).1 = 3) {i : Int32} (hin : vp_in i (zK h a).2) {x : Int32} (hz : x = 0 ∨ x = 1) (hd : decode cc pc = .ok (.bastore, 1)) (kk : ∀ (H1 : Heap) (locs1 : List Loc), zR D tc ad A s (zsI h a i.toNatClampNeg (x)) H1 locs1 → W p l e R s m args below meth c H1 locs1 cells slots Q (F0 m (pc + 1) ls rest)) : W p l e R s m args below meth c H locs cells slots Q (F0 m pc ls (.int x :: .int i :: .ref (ad a) :: rest)) := by
  have hset : (zws tc ad h).set a (ad a, .inl (tc 3, (zK h a).2, .inl (zput (zI h a) i.toNatClampNeg (x)))) = zws tc ad (zsI h a i.toNatClampNeg (x)) := zws_set rfl ha (by
    have e1 : zK (zsI h a i.toNatClampNeg (x)) a = zK h a := rfl
    have e2 : zI (zsI h a i.toNatClampNeg (x)) a = zput (zI h a) i.toNatClampNeg (x) := zrow_self _ _ _
    simp [zent, e1, e2, hk]) zsI_ent
  have hv : vp_nar .boolean x = x := by rcases hz with rfl | rfl <;> rfl
  refine va_zast hx hb hK hR.1 hR.2.1 hR.2.2.1 a 3 (cA := tc 3) (n := (zK h a).2) (f := zI h a) (by rw [zws_get ha]; simp [zent, hk]) rfl hin hd (fun H1 locs1 hP hD hS => ?_)
  rw [hv] at hP hD
  replace hP := hset ▸ hP
  replace hD := hset ▸ hD
  exact kk H1 locs1 ⟨hP, hD, hS, hR.2.2.2⟩
theorem zsim_dald (hx : p.tables.exec = Jvm.exec) (hb : c.code = cc) (hK : va_K D vwCl (ztys tc) s) (hR : zR D tc ad A s h H locs) {a : Nat} (ha : a < zN h) (hk : (zK h a).1 = 4) {i : Int32} (hin : vp_in i (zK h a).2) (hd : decode cc pc = .ok (.daload, 1)) (kk : W p l e R s m args below meth c H locs cells slots Q (F0 m (pc + 1) ls (.double (zD h a i.toNatClampNeg) :: rest))) : W p l e R s m args below meth c H locs cells slots Q (F0 m pc ls (.int i :: .ref (ad a) :: rest)) :=
  va_dald hx hb hK hR.1 a 4 (cA := tc 4) (n := (zK h a).2) (f := zD h a) (by rw [zws_get ha]; simp [zent, hk]) rfl hin hd kk
theorem zsim_dast (hx : p.tables.exec = Jvm.exec) (hb : c.code = cc) (hK : va_K D vwCl (ztys tc) s) (hR : zR D tc ad A s h H locs) {a : Nat} (ha : a < zN h) (hk : (zK h a).1 = 4) {i : Int32} (hin : vp_in i (zK h a).2) {x : UInt64} (hd : decode cc pc = .ok (.dastore, 1)) (kk : ∀ (H1 : Heap) (locs1 : List Loc), zR D tc ad A s (zsD h a i.toNatClampNeg (x)) H1 locs1 → W p l e R s m args below meth c H1 locs1 cells slots Q (F0 m (pc + 1) ls rest)) : W p l e R s m args below meth c H locs cells slots Q (F0 m pc ls (.double x :: .int i :: .ref (ad a) :: rest)) := by
  have hset : (zws tc ad h).set a (ad a, .inl (tc 4, (zK h a).2, .inr (.inr (.inr (.inl (zput (zD h a) i.toNatClampNeg (x))))))) = zws tc ad (zsD h a i.toNatClampNeg (x)) := zws_set rfl ha (by
    have e1 : zK (zsD h a i.toNatClampNeg (x)) a = zK h a := rfl
    have e2 : zD (zsD h a i.toNatClampNeg (x)) a = zput (zD h a) i.toNatClampNeg (x) := zrow_self _ _ _
    simp [zent, e1, e2, hk]) zsD_ent
  refine va_dast hx hb hK hR.1 hR.2.1 hR.2.2.1 a 4 (cA := tc 4) (n := (zK h a).2) (f := zD h a) (by rw [zws_get ha]; simp [zent, hk]) rfl hin hd (fun H1 locs1 hP hD hS => ?_)
  replace hP := hset ▸ hP
  replace hD := hset ▸ hD
  exact kk H1 locs1 ⟨hP, hD, hS, hR.2.2.2⟩
theorem zsim_aald (hx : p.tables.exec = Jvm.exec) (hb : c.code = cc) (hK : va_K D vwCl (ztys tc) s) (hR : zR D tc ad A s h H locs) {a q : Nat} (ha : a < zN h) (hk : (zK h a).1 = 5) {i : Int32} (hin : vp_in i (zK h a).2) (hq : zP h a i.toNatClampNeg = some q) (hd : decode cc pc = .ok (.aaload, 1)) (kk : W p l e R s m args below meth c H locs cells slots Q (F0 m (pc + 1) ls (.ref (ad q) :: rest))) : W p l e R s m args below meth c H locs cells slots Q (F0 m pc ls (.int i :: .ref (ad a) :: rest)) := by
  refine va_aldq hx hb hK hR.1 a 5 (cA := tc 5) (C := "KeyTour$Level") (n := (zK h a).2) (f := fun i => (zP h a i).map ad) (by rw [zws_get ha]; simp [zent, hk]) rfl hin hd ?_
  rw [hq]; exact kk
theorem zsim_aast (hx : p.tables.exec = Jvm.exec) (hb : c.code = cc) (hK : va_K D vwCl (ztys tc) s) (hR : zR D tc ad A s h H locs) {a q : Nat} (ha : a < zN h) (hk : (zK h a).1 = 5) (hq : q < zN h) (hkq : (zK h q).1 = 8) {i : Int32} (hin : vp_in i (zK h a).2) (hd : decode cc pc = .ok (.aastore, 1)) (kk : ∀ (H1 : Heap) (locs1 : List Loc), zR D tc ad A s (zsP h a i.toNatClampNeg (some q)) H1 locs1 → W p l e R s m args below meth c H1 locs1 cells slots Q (F0 m (pc + 1) ls rest)) : W p l e R s m args below meth c H locs cells slots Q (F0 m pc ls (.ref (ad q) :: .int i :: .ref (ad a) :: rest)) := by
  have hset : (zws tc ad h).set a (ad a, .inl (tc 5, (zK h a).2, .inr (.inr (.inr (.inr (va_up (fun i => (zP h a i).map ad) i.toNatClampNeg (some (ad q)))))))) = zws tc ad (zsP h a i.toNatClampNeg (some q)) := zws_set rfl ha (by
    have e1 : zK (zsP h a i.toNatClampNeg (some q)) a = zK h a := rfl
    have e2 : zP (zsP h a i.toNatClampNeg (some q)) a = zput (zP h a) i.toNatClampNeg (some q) := zrow_self _ _ _
    have e3 : (fun j => (zput (zP h a) i.toNatClampNeg (some q) j).map ad) = va_up (fun i => (zP h a i).map ad) i.toNatClampNeg (some (ad q)) := by
      funext j
      by_cases ej : j = i.toNatClampNeg <;> simp [zput, va_up, ej]
    simp [zent, e1, e2, hk, e3]) zsP_ent
  refine va_astq hx hb hK hR.1 hR.2.1 hR.2.2.1 a 5 q 2 (cA := tc 5) (r := (RX2, TX2, 15)) (n := (zK h a).2) (vs := zfs ad h q 2 (zK h q).2) (f := fun i => (zP h a i).map ad) (by rw [zws_get ha]; simp [zent, hk]) rfl (by rw [zws_get hq]; simp [zent, hkq]) rfl hin hd (fun H1 locs1 hP hD hS => ?_)
  replace hP := hset ▸ hP
  replace hD := hset ▸ hD
  exact kk H1 locs1 ⟨hP, hD, hS, zsP_ok hq hR.2.2.2⟩
theorem zsim_alen (hx : p.tables.exec = Jvm.exec) (hb : c.code = cc) (hK : va_K D vwCl (ztys tc) s) (hR : zR D tc ad A s h H locs) {a t : Nat} (ha : a < zN h) (hk : (zK h a).1 = t) (ht : t < 6) (hd : decode cc pc = .ok (.arraylength, 1)) (kk : W p l e R s m args below meth c H locs cells slots Q (F0 m (pc + 1) ls (.int (nI (zK h a).2) :: rest))) : W p l e R s m args below meth c H locs cells slots Q (F0 m pc ls (.ref (ad a) :: rest)) := by
  have key : ∃ (y : (Nat → Int32) ⊕ (Nat → Int64) ⊕ (Nat → UInt32) ⊕ (Nat → UInt64) ⊕ (Nat → Option Nat)) (ty : FieldType), zent tc ad h a = .inl (tc t, (zK h a).2, y) ∧ (ztys tc)[t]? = some (tc t, ty) := by
    match t, ht, hk with
    | 0, _, hk => exact ⟨.inl (zI h a), _, by simp [zent, hk], rfl⟩
    | 1, _, hk => exact ⟨.inr (.inl (zJ h a)), _, by simp [zent, hk], rfl⟩
    | 2, _, hk => exact ⟨.inl (zI h a), _, by simp [zent, hk], rfl⟩
    | 3, _, hk => exact ⟨.inl (zI h a), _, by simp [zent, hk], rfl⟩
    | 4, _, hk => exact ⟨.inr (.inr (.inr (.inl (zD h a)))), _, by simp [zent, hk], rfl⟩
    | 5, _, hk => exact ⟨.inr (.inr (.inr (.inr (fun i => (zP h a i).map ad)))), _, by simp [zent, hk], rfl⟩
  obtain ⟨y, ty, he, hty⟩ := key
  exact va_alen hx hb hK hR.1 a t (cA := tc t) (x := ((zK h a).2, y)) (by rw [zws_get ha, he]) hty rfl hd kk
theorem zsim_copyi (hx : p.tables.exec = Jvm.exec) (hb : c.code = cc) (hml : c.maxLocals = ls.size) (hown : s.vm.findClass own = some m.cls) (hts : ∀ w ∈ gT, w.before args s = true) {index : Nat} (hw : Cond.methodLink own index arraycopyName ∈ gT ∧ Cond.native arraycopyName ∈ gT ∧ Cond.static arraycopyName ∈ gT ∧ Cond.initialized "java/lang/System" ∈ gT) (hK : va_K D vwCl (ztys tc) s) (hR : zR D tc ad A s h H locs) {a a0 : Nat} (ha : a < zN h) (ha0 : a0 < zN h) (hk : (zK h a).1 = 0) (hk0 : (zK h a0).1 = 0) {sp dp n : Int32} (h1 : ¬ sp < 0) (h2 : ¬ dp < 0) (h3 : ¬ n < 0) (h4 : sp.toNatClampNeg + n.toNatClampNeg ≤ (zK h a0).2) (h5 : dp.toNatClampNeg + n.toNatClampNeg ≤ (zK h a).2) (hfit : ∀ i, i < n.toNatClampNeg → fits .int (.int (zI h a0 (sp.toNatClampNeg + i))) = true) (hfr : 1 ≤ R.frames) (hlo : (rest.map fun v => v.category).sum + (nativeFrameWords "java/lang/System" "arraycopy" 5 + 11) ≤ R.locals) (hd : decode cc pc = .ok (.invokestatic index, 3)) (kk : ∀ (H1 : Heap) (locs1 : List Loc), zR D tc ad A s (zrI h a (va_cpy (zI h a0) (zI h a) sp.toNatClampNeg dp.toNatClampNeg n.toNatClampNeg)) H1 locs1 → W p l e R s m args below meth c H1 locs1 cells slots Q (F0 m (pc + 3) ls rest)) : W p l e R s m args below meth c H locs cells slots Q (F0 m pc ls (.int n :: .int dp :: .ref (ad a) :: .int sp :: .ref (ad a0) :: rest)) := by
  have hset : (zws tc ad h).set a (ad a, .inl (tc 0, (zK h a).2, .inl (va_cpy (zI h a0) (zI h a) sp.toNatClampNeg dp.toNatClampNeg n.toNatClampNeg))) = zws tc ad (zrI h a (va_cpy (zI h a0) (zI h a) sp.toNatClampNeg dp.toNatClampNeg n.toNatClampNeg)) := zws_set rfl ha (by
    have e1 : zK (zrI h a (va_cpy (zI h a0) (zI h a) sp.toNatClampNeg dp.toNatClampNeg n.toNatClampNeg)) a = zK h a := rfl
    have e2 : zI (zrI h a (va_cpy (zI h a0) (zI h a) sp.toNatClampNeg dp.toNatClampNeg n.toNatClampNeg)) a = (va_cpy (zI h a0) (zI h a) sp.toNatClampNeg dp.toNatClampNeg n.toNatClampNeg) := zrow_self _ _ _
    simp [zent, e1, e2, hk]) zrI_ent
  refine va_copyi hx hb hml hown (hts _ hw.1) (hts _ hw.2.1) (hts _ hw.2.2.1) (hts _ hw.2.2.2) hK hR.1 hR.2.1 hR.2.2.1 a0 a 0 0 (c0 := tc 0) (c1 := tc 0) (n0 := (zK h a0).2) (n1 := (zK h a).2) (f := zI h a0) (g := zI h a) (ty := .int) (by rw [zws_get ha0]; simp [zent, hk0]) (by rw [zws_get ha]; simp [zent, hk]) rfl rfl rfl h1 h2 h3 h4 h5 hfit hfr hlo hd (fun H1 locs1 hP hD hS => ?_)
  replace hP := hset ▸ hP
  replace hD := hset ▸ hD
  exact kk H1 locs1 ⟨hP, hD, hS, hR.2.2.2⟩
theorem zsim_copyz (hx : p.tables.exec = Jvm.exec) (hb : c.code = cc) (hml : c.maxLocals = ls.size) (hown : s.vm.findClass own = some m.cls) (hts : ∀ w ∈ gT, w.before args s = true) {index : Nat} (hw : Cond.methodLink own index arraycopyName ∈ gT ∧ Cond.native arraycopyName ∈ gT ∧ Cond.static arraycopyName ∈ gT ∧ Cond.initialized "java/lang/System" ∈ gT) (hK : va_K D vwCl (ztys tc) s) (hR : zR D tc ad A s h H locs) {a a0 : Nat} (ha : a < zN h) (ha0 : a0 < zN h) (hk : (zK h a).1 = 3) (hk0 : (zK h a0).1 = 3) {sp dp n : Int32} (h1 : ¬ sp < 0) (h2 : ¬ dp < 0) (h3 : ¬ n < 0) (h4 : sp.toNatClampNeg + n.toNatClampNeg ≤ (zK h a0).2) (h5 : dp.toNatClampNeg + n.toNatClampNeg ≤ (zK h a).2) (hfit : ∀ i, i < n.toNatClampNeg → fits .boolean (.int (zI h a0 (sp.toNatClampNeg + i))) = true) (hfr : 1 ≤ R.frames) (hlo : (rest.map fun v => v.category).sum + (nativeFrameWords "java/lang/System" "arraycopy" 5 + 11) ≤ R.locals) (hd : decode cc pc = .ok (.invokestatic index, 3)) (kk : ∀ (H1 : Heap) (locs1 : List Loc), zR D tc ad A s (zrI h a (va_cpy (zI h a0) (zI h a) sp.toNatClampNeg dp.toNatClampNeg n.toNatClampNeg)) H1 locs1 → W p l e R s m args below meth c H1 locs1 cells slots Q (F0 m (pc + 3) ls rest)) : W p l e R s m args below meth c H locs cells slots Q (F0 m pc ls (.int n :: .int dp :: .ref (ad a) :: .int sp :: .ref (ad a0) :: rest)) := by
  have hset : (zws tc ad h).set a (ad a, .inl (tc 3, (zK h a).2, .inl (va_cpy (zI h a0) (zI h a) sp.toNatClampNeg dp.toNatClampNeg n.toNatClampNeg))) = zws tc ad (zrI h a (va_cpy (zI h a0) (zI h a) sp.toNatClampNeg dp.toNatClampNeg n.toNatClampNeg)) := zws_set rfl ha (by
    have e1 : zK (zrI h a (va_cpy (zI h a0) (zI h a) sp.toNatClampNeg dp.toNatClampNeg n.toNatClampNeg)) a = zK h a := rfl
    have e2 : zI (zrI h a (va_cpy (zI h a0) (zI h a) sp.toNatClampNeg dp.toNatClampNeg n.toNatClampNeg)) a = (va_cpy (zI h a0) (zI h a) sp.toNatClampNeg dp.toNatClampNeg n.toNatClampNeg) := zrow_self _ _ _
    simp [zent, e1, e2, hk]) zrI_ent
  refine va_copyi hx hb hml hown (hts _ hw.1) (hts _ hw.2.1) (hts _ hw.2.2.1) (hts _ hw.2.2.2) hK hR.1 hR.2.1 hR.2.2.1 a0 a 3 3 (c0 := tc 3) (c1 := tc 3) (n0 := (zK h a0).2) (n1 := (zK h a).2) (f := zI h a0) (g := zI h a) (ty := .boolean) (by rw [zws_get ha0]; simp [zent, hk0]) (by rw [zws_get ha]; simp [zent, hk]) rfl rfl rfl h1 h2 h3 h4 h5 hfit hfr hlo hd (fun H1 locs1 hP hD hS => ?_)
  replace hP := hset ▸ hP
  replace hD := hset ▸ hD
  exact kk H1 locs1 ⟨hP, hD, hS, hR.2.2.2⟩
theorem zsim_copyb (hx : p.tables.exec = Jvm.exec) (hb : c.code = cc) (hml : c.maxLocals = ls.size) (hown : s.vm.findClass own = some m.cls) (hts : ∀ w ∈ gT, w.before args s = true) {index : Nat} (hw : Cond.methodLink own index arraycopyName ∈ gT ∧ Cond.native arraycopyName ∈ gT ∧ Cond.static arraycopyName ∈ gT ∧ Cond.initialized "java/lang/System" ∈ gT) (hK : va_K D vwCl (ztys tc) s) (hR : zR D tc ad A s h H locs) {a a0 : Nat} (ha : a < zN h) (ha0 : a0 < zN h) (hk : (zK h a).1 = 2) (hk0 : (zK h a0).1 = 2) {sp dp n : Int32} (h1 : ¬ sp < 0) (h2 : ¬ dp < 0) (h3 : ¬ n < 0) (h4 : sp.toNatClampNeg + n.toNatClampNeg ≤ (zK h a0).2) (h5 : dp.toNatClampNeg + n.toNatClampNeg ≤ (zK h a).2) (hfit : ∀ i, i < n.toNatClampNeg → fits .byte (.int (zI h a0 (sp.toNatClampNeg + i))) = true) (hfr : 1 ≤ R.frames) (hlo : (rest.map fun v => v.category).sum + (nativeFrameWords "java/lang/System" "arraycopy" 5 + 11) ≤ R.locals) (hd : decode cc pc = .ok (.invokestatic index, 3)) (kk : ∀ (H1 : Heap) (locs1 : List Loc), zR D tc ad A s (zrI h a (va_cpy (zI h a0) (zI h a) sp.toNatClampNeg dp.toNatClampNeg n.toNatClampNeg)) H1 locs1 → W p l e R s m args below meth c H1 locs1 cells slots Q (F0 m (pc + 3) ls rest)) : W p l e R s m args below meth c H locs cells slots Q (F0 m pc ls (.int n :: .int dp :: .ref (ad a) :: .int sp :: .ref (ad a0) :: rest)) := by
  have hset : (zws tc ad h).set a (ad a, .inl (tc 2, (zK h a).2, .inl (va_cpy (zI h a0) (zI h a) sp.toNatClampNeg dp.toNatClampNeg n.toNatClampNeg))) = zws tc ad (zrI h a (va_cpy (zI h a0) (zI h a) sp.toNatClampNeg dp.toNatClampNeg n.toNatClampNeg)) := zws_set rfl ha (by
    have e1 : zK (zrI h a (va_cpy (zI h a0) (zI h a) sp.toNatClampNeg dp.toNatClampNeg n.toNatClampNeg)) a = zK h a := rfl
    have e2 : zI (zrI h a (va_cpy (zI h a0) (zI h a) sp.toNatClampNeg dp.toNatClampNeg n.toNatClampNeg)) a = (va_cpy (zI h a0) (zI h a) sp.toNatClampNeg dp.toNatClampNeg n.toNatClampNeg) := zrow_self _ _ _
    simp [zent, e1, e2, hk]) zrI_ent
  refine va_copyi hx hb hml hown (hts _ hw.1) (hts _ hw.2.1) (hts _ hw.2.2.1) (hts _ hw.2.2.2) hK hR.1 hR.2.1 hR.2.2.1 a0 a 2 2 (c0 := tc 2) (c1 := tc 2) (n0 := (zK h a0).2) (n1 := (zK h a).2) (f := zI h a0) (g := zI h a) (ty := .byte) (by rw [zws_get ha0]; simp [zent, hk0]) (by rw [zws_get ha]; simp [zent, hk]) rfl rfl rfl h1 h2 h3 h4 h5 hfit hfr hlo hd (fun H1 locs1 hP hD hS => ?_)
  replace hP := hset ▸ hP
  replace hD := hset ▸ hD
  exact kk H1 locs1 ⟨hP, hD, hS, hR.2.2.2⟩
theorem zsim_copyl (hx : p.tables.exec = Jvm.exec) (hb : c.code = cc) (hml : c.maxLocals = ls.size) (hown : s.vm.findClass own = some m.cls) (hts : ∀ w ∈ gT, w.before args s = true) {index : Nat} (hw : Cond.methodLink own index arraycopyName ∈ gT ∧ Cond.native arraycopyName ∈ gT ∧ Cond.static arraycopyName ∈ gT ∧ Cond.initialized "java/lang/System" ∈ gT) (hK : va_K D vwCl (ztys tc) s) (hR : zR D tc ad A s h H locs) {a a0 : Nat} (ha : a < zN h) (ha0 : a0 < zN h) (hk : (zK h a).1 = 1) (hk0 : (zK h a0).1 = 1) {sp dp n : Int32} (h1 : ¬ sp < 0) (h2 : ¬ dp < 0) (h3 : ¬ n < 0) (h4 : sp.toNatClampNeg + n.toNatClampNeg ≤ (zK h a0).2) (h5 : dp.toNatClampNeg + n.toNatClampNeg ≤ (zK h a).2) (hfit : ∀ i, i < n.toNatClampNeg → fits .long (.long (zJ h a0 (sp.toNatClampNeg + i))) = true) (hfr : 1 ≤ R.frames) (hlo : (rest.map fun v => v.category).sum + (nativeFrameWords "java/lang/System" "arraycopy" 5 + 11) ≤ R.locals) (hd : decode cc pc = .ok (.invokestatic index, 3)) (kk : ∀ (H1 : Heap) (locs1 : List Loc), zR D tc ad A s (zrJ h a (va_cpy (zJ h a0) (zJ h a) sp.toNatClampNeg dp.toNatClampNeg n.toNatClampNeg)) H1 locs1 → W p l e R s m args below meth c H1 locs1 cells slots Q (F0 m (pc + 3) ls rest)) : W p l e R s m args below meth c H locs cells slots Q (F0 m pc ls (.int n :: .int dp :: .ref (ad a) :: .int sp :: .ref (ad a0) :: rest)) := by
  have hset : (zws tc ad h).set a (ad a, .inl (tc 1, (zK h a).2, .inr (.inl (va_cpy (zJ h a0) (zJ h a) sp.toNatClampNeg dp.toNatClampNeg n.toNatClampNeg)))) = zws tc ad (zrJ h a (va_cpy (zJ h a0) (zJ h a) sp.toNatClampNeg dp.toNatClampNeg n.toNatClampNeg)) := zws_set rfl ha (by
    have e1 : zK (zrJ h a (va_cpy (zJ h a0) (zJ h a) sp.toNatClampNeg dp.toNatClampNeg n.toNatClampNeg)) a = zK h a := rfl
    have e2 : zJ (zrJ h a (va_cpy (zJ h a0) (zJ h a) sp.toNatClampNeg dp.toNatClampNeg n.toNatClampNeg)) a = (va_cpy (zJ h a0) (zJ h a) sp.toNatClampNeg dp.toNatClampNeg n.toNatClampNeg) := zrow_self _ _ _
    simp [zent, e1, e2, hk]) zrJ_ent
  refine va_copyl hx hb hml hown (hts _ hw.1) (hts _ hw.2.1) (hts _ hw.2.2.1) (hts _ hw.2.2.2) hK hR.1 hR.2.1 hR.2.2.1 a0 a 1 1 (c0 := tc 1) (c1 := tc 1) (n0 := (zK h a0).2) (n1 := (zK h a).2) (f := zJ h a0) (g := zJ h a) (ty := .long) (by rw [zws_get ha0]; simp [zent, hk0]) (by rw [zws_get ha]; simp [zent, hk]) rfl rfl rfl h1 h2 h3 h4 h5 hfit hfr hlo hd (fun H1 locs1 hP hD hS => ?_)
  replace hP := hset ▸ hP
  replace hD := hset ▸ hD
  exact kk H1 locs1 ⟨hP, hD, hS, hR.2.2.2⟩
end ZB
end
section
/-! NEW CELLS over the abstract heap. -/
section ZC
def zext (n : Nat) (ad ad2 : Nat → Nat) : Prop := ∀ k, k < n ∨ 1000000 ≤ k → ad2 k = ad k
theorem zext.rf {n : Nat} {ad : Nat → Nat} : zext n ad ad := fun _ _ => rfl
theorem zext.trans {n n2 : Nat} {a b c : Nat → Nat} (h1 : zext n a b) (h2 : zext n2 b c) (hn : n ≤ n2) : zext n a c := fun k hk => (h2 k (by omega)).trans (h1 k hk)
theorem cv_ext {n : Nat} {ad ad2 : Nat → Nat} (h : zext n ad ad2) {v : Value} (hv : zokV n v) : cv ad2 v = cv ad v := by
  cases v with
  | ref k => exact congrArg Value.ref (h k hv)
  | _ => rfl
theorem cvs_ext {n : Nat} {ad ad2 : Nat → Nat} (h : zext n ad ad2) {st : List Value} (hv : zokS n st) : st.map (cv ad2) = st.map (cv ad) := List.map_congr_left fun v hm => cv_ext h (hv v hm)
theorem zLh.ext {n : Nat} {ad ad2 : Nat → Nat} (h : zext n ad ad2) {nL : Nat} {la : zm_L} {ls : Array Slot} (hv : zokL n la) (hl : zLh ad nL la ls) : zLh ad2 nL la ls := ⟨hl.1, hl.2.1, hl.2.2.1, fun i v hi => by rw [cv_ext h (hv v (List.mem_of_getElem? hi))]; exact hl.2.2.2 i v hi⟩
theorem zokV.mono {n k : Nat} (hn : n ≤ k) {v : Value} (h : zokV n v) : zokV k v := by
  cases v with
  | ref j => exact h.elim (fun h => Or.inl (Nat.lt_of_lt_of_le h hn)) Or.inr
  | _ => trivial
theorem zokS.mono {n k : Nat} (hn : n ≤ k) {st : List Value} (h : zokS n st) : zokS k st := fun v hv => (h v hv).mono hn
theorem zokL.mono {n k : Nat} (hn : n ≤ k) {la : zm_L} (h : zokL n la) : zokL k la := fun v hv => (h v hv).mono hn
def zdef (ci n : Nat) : List Value := (List.range n).map (fun j => match zcode (zty ci j) with | 1 => .long 0 | 2 => .null | _ => .int 0)
theorem zdef_ok : ∀ ci, ci < 8 → ∀ j, j < zcn ci → defaultValue (zty ci j) = vp_V (zdef ci (zcn ci)) j := by decide +kernel
def znad (ad : Nat → Nat) (n q : Nat) : Nat → Nat := fun b => if b = n then q else ad b
theorem znad_self {ad : Nat → Nat} {n q : Nat} : znad ad n q n = q := by simp [znad]
theorem znad_ext {ad : Nat → Nat} {n q : Nat} (hn : n ≤ 900000) : zext n ad (znad ad n q) := fun k hk => by unfold znad; rw [if_neg (by omega)]
theorem znew_ok {h : zm_H} {kd len : Nat} (h0 : zokH h) (hn : zN h < 900000) : zokH (znew h kd len) := by
  refine ⟨fun a i k hk => ?_, by show zN h + 1 ≤ 900000; omega, fun a ha => ?_⟩
  rotate_left
  · have ha : zN h + 1 ≤ a := ha
    show (zrow (zK h) (zN h) (kd, len) a).1 = 77
    rw [zrow_ne _ _ (by omega)]
    exact h0.2.2 a (by omega)
  have hk : zrow (zP h) (zN h) (fun _ => none) a i = some k := hk
  show k < zN h + 1
  by_cases e : a = zN h
  · subst e; rw [zrow_self] at hk; cases hk
  · rw [zrow_ne _ _ e] at hk; have := h0.1 _ _ _ hk; omega
theorem znew_ent {tc : Nat → ClassId} {ad : Nat → Nat} {h : zm_H} {kd len q : Nat} (h0 : zokH h) : ∀ b, b < zN h → znad ad (zN h) q b = ad b ∧ zent tc (znad ad (zN h) q) (znew h kd len) b = zent tc ad h b := by
  intro b hb
  have e : b ≠ zN h := Nat.ne_of_lt hb
  refine ⟨by unfold znad; rw [if_neg e], zent_congr (zrow_ne _ _ e) (zrow_ne _ _ e) (zrow_ne _ _ e) (fun x => ?_) (zrow_ne _ _ e)⟩
  rw [show zP (znew h kd len) b = zP h b from zrow_ne _ _ e]
  cases hx : zP h b x with
  | none => rfl
  | some k => have hk := h0.1 _ _ _ hx; simp only [Option.map_some]; unfold znad; rw [if_neg (Nat.ne_of_lt hk)]
theorem zsI_at {h : zm_H} {a j : Nat} {x : Int32} : zI (zsI h a j x) a j = x := by
  show (zrow (zI h) a (zput (zI h a) j x)) a j = x
  rw [zrow_self, zput_self]
theorem zsI_off {h : zm_H} {a j i : Nat} {x : Int32} (hi : i ≠ j) : zI (zsI h a j x) a i = zI h a i := by
  show (zrow (zI h) a (zput (zI h a) j x)) a i = _
  rw [zrow_self, zput_ne _ _ hi]
theorem zsJ_at {h : zm_H} {a j : Nat} {x : Int64} : zJ (zsJ h a j x) a j = x := by
  show (zrow (zJ h) a (zput (zJ h a) j x)) a j = x
  rw [zrow_self, zput_self]
theorem zsJ_off {h : zm_H} {a j i : Nat} {x : Int64} (hi : i ≠ j) : zJ (zsJ h a j x) a i = zJ h a i := by
  show (zrow (zJ h) a (zput (zJ h a) j x)) a i = _
  rw [zrow_self, zput_ne _ _ hi]
theorem zsP_at {h : zm_H} {a j : Nat} {x : Option Nat} : zP (zsP h a j x) a j = x := by
  show (zrow (zP h) a (zput (zP h a) j x)) a j = x
  rw [zrow_self, zput_self]
theorem zsP_off {h : zm_H} {a j i : Nat} {x : Option Nat} (hi : i ≠ j) : zP (zsP h a j x) a i = zP h a i := by
  show (zrow (zP h) a (zput (zP h a) j x)) a i = _
  rw [zrow_self, zput_ne _ _ hi]
theorem zsD_at {h : zm_H} {a j : Nat} {x : UInt64} : zD (zsD h a j x) a j = x := by
  show (zrow (zD h) a (zput (zD h a) j x)) a j = x
  rw [zrow_self, zput_self]
theorem zsD_off {h : zm_H} {a j i : Nat} {x : UInt64} (hi : i ≠ j) : zD (zsD h a j x) a i = zD h a i := by
  show (zrow (zD h) a (zput (zD h a) j x)) a i = _
  rw [zrow_self, zput_ne _ _ hi]
end ZC
section ZE
variable {p : Program} {l : Launch} {e : Env} {R : Room} {s : State} {m : MethodId} {args : Array Value} {below : List Frame} {meth : Method} {c : Code} {H : Heap} {locs : List Loc} {cells slots : Nat} {Q : State → Prop}
variable {cc : ByteArray} {pc : Nat} {ls : Array Slot} {rest : List Value} {D : va_G} {tc : Nat → ClassId} {ad : Nat → Nat} {A : Nat → Prop} {h : zm_H} {own : String}
theorem zsim_new (hx : p.tables.exec = Jvm.exec) (hb : c.code = cc) (hts : ∀ w ∈ gT, w.before args s = true) (hown : s.vm.findClass own = some m.cls) (hK : va_K D vwCl (ztys tc) s) (hR : zR D tc ad A s h H locs) (hA : ∀ q, s.heap.size ≤ q → A q)
    {idx ci : Nat} (hci : ci < 8) (hw : Cond.classLink own idx (zcN ci) ∈ gT ∧ Cond.instantiable (zcN ci) (zcn ci) ∈ gT ∧ Cond.initialized (zcN ci) ∈ gT) (hn : zN h < 900000) (hc : cells + 1 ≤ R.cells) (hs : slots + zcn ci ≤ R.slots) (hd : decode cc pc = .ok (.new idx, 3))
    (kk : ∀ (ad2 : Nat → Nat) (H1 : Heap), zext (zN h) ad ad2 → zR D tc ad2 A s (znew h (ci + 6) (zcn ci)) H1 locs → W p l e R s m args below meth c H1 locs (cells + 1) (slots + zcn ci) Q (F0 m (pc + 3) ls (.ref (ad2 (zN h)) :: rest))) : W p l e R s m args below meth c H locs cells slots Q (F0 m pc ls rest) := by
  refine va_new (D := D) (cl := vwCl) (C := zcN ci) (T := zcT ci) (N := zcn ci) (ci := ci) (fs := zdef ci (zcn ci)) hx hb hts (zcin ci hci) (zty ci) (zcty_ok ci hci) hown (hts _ hw.1) (hts _ hw.2.1) (hts _ hw.2.2) hK hR.1 hR.2.1 hR.2.2.1 hA (zcl_at ci hci) (zdef_ok ci hci) hc hs hd (fun q H1 hP hD hS => ?_)
  have hpush : zws tc ad h ++ [(q, .inr (ci, zdef ci (zcn ci)))] = zws tc (znad ad (zN h) q) (znew h (ci + 6) (zcn ci)) := by
    refine zws_push rfl znad_self ?_ (znew_ent hR.2.2.2)
    have e1 : zK (znew h (ci + 6) (zcn ci)) (zN h) = (ci + 6, zcn ci) := zrow_self _ _ _
    rw [zobj e1]
    refine congrArg Sum.inr (congrArg (Prod.mk ci) (List.map_congr_left fun j _ => ?_))
    have e2 : zI (znew h (ci + 6) (zcn ci)) (zN h) = fun _ => 0 := zrow_self _ _ _
    have e3 : zJ (znew h (ci + 6) (zcn ci)) (zN h) = fun _ => 0 := zrow_self _ _ _
    have e4 : zP (znew h (ci + 6) (zcn ci)) (zN h) = fun _ => none := zrow_self _ _ _
    unfold zfv
    rw [e2, e3, e4]
    split <;> rename_i hz
    · rw [hz]; rfl
    · rw [hz]; rfl
    · split <;> first | rfl | contradiction
  rw [hpush] at hP hD
  have := kk (znad ad (zN h) q) H1 (znad_ext (Nat.le_of_lt hn)) ⟨hP, hD, hS, znew_ok hR.2.2.2 hn⟩
  rw [znad_self] at this
  exact this
def zaty : Nat → ArrayType
  | 0 => .int | 1 => .long | 2 => .byte | 3 => .boolean | _ => .double
theorem zraU {cA cB : ClassId} {ty : FieldType} {U : State} (hp : ty = .int ∨ ty = .long ∨ ty = .byte ∨ ty = .boolean ∨ ty = .double) (h1 : va_RA U cA ty) (h2 : va_RA U cB ty) : cA = cB := by
  rcases hp with rfl | rfl | rfl | rfl | rfl <;> exact Option.some.inj ((show U.vm.findClass _ = some cA from h1).symm.trans h2)
theorem zsim_newa (hx : p.tables.exec = Jvm.exec) (hb : c.code = cc) (hts : ∀ w ∈ gT, w.before args s = true) (hK : va_K D vwCl (ztys tc) s) (hR : zR D tc ad A s h H locs) (hA : ∀ q, s.heap.size ≤ q → A q)
    {kd N : Nat} {n : Int32} (hkd : kd < 5) (hw : Cond.arrayClass (newarray.typeOf (zaty kd)) ∈ gT) (hn : zN h < 900000) (h0 : ¬ n < 0) (hN : n.toNatClampNeg = N) (hby : N ≤ 60000000) (hc : cells + 1 ≤ R.cells) (hs : slots + N ≤ R.slots) (hd : decode cc pc = .ok (.newarray (zaty kd), 2))
    (kk : ∀ (ad2 : Nat → Nat) (H1 : Heap), zext (zN h) ad ad2 → zR D tc ad2 A s (znew h kd N) H1 locs → W p l e R s m args below meth c H1 locs (cells + 1) (slots + N) Q (F0 m (pc + 2) ls (.ref (ad2 (zN h)) :: rest))) : W p l e R s m args below meth c H locs cells slots Q (F0 m pc ls (.int n :: rest)) := by
  have e1 : zK (znew h kd N) (zN h) = (kd, N) := zrow_self _ _ _
  have e2 : zI (znew h kd N) (zN h) = fun _ => 0 := zrow_self _ _ _
  have e3 : zJ (znew h kd N) (zN h) = fun _ => 0 := zrow_self _ _ _
  have e4 : zD (znew h kd N) (zN h) = fun _ => 0 := zrow_self _ _ _
  have fin : ∀ (q : Nat) (H1 : Heap) (en : va_E), (∀ ad2, zent tc ad2 (znew h kd N) (zN h) = en) → va_P D vwCl (zws tc ad h ++ [(q, en)]) H1 → va_D A (zws tc ad h ++ [(q, en)]) → va_S A s.heap H1 locs → W p l e R s m args below meth c H1 locs (cells + 1) (slots + N) Q (F0 m (pc + 2) ls (.ref q :: rest)) := by
    intro q H1 en he hP hD hS
    have hpush : zws tc ad h ++ [(q, en)] = zws tc (znad ad (zN h) q) (znew h kd N) := zws_push rfl znad_self (he _) (znew_ent hR.2.2.2)
    rw [hpush] at hP hD
    have := kk (znad ad (zN h) q) H1 (znad_ext (Nat.le_of_lt hn)) ⟨hP, hD, hS, znew_ok hR.2.2.2 hn⟩
    rw [znad_self] at this
    exact this
  match kd, hkd, hw, hd, e1, e2, e3, e4, fin with
  | 0, _, hw, hd, e1, e2, e3, e4, fin =>
    refine va_newa (atype := .int) (ty := .int) (a0 := (N, .inl (fun _ => 0))) hx hb (hts _ hw) rfl hK hR.1 hR.2.1 hR.2.2.1 hA (fun _ => rfl) h0 hN (by simp [componentBytes]; omega) hc hs hd (fun q cA H1 hK1 hP hD hS => ?_)
    have ecA : cA = tc 0 := zraU (by simp) (hK1.2 6 (cA, .int) rfl).2 (hK.2 0 (tc 0, .int) rfl).2
    subst ecA
    exact fin q H1 _ (fun ad2 => by simp [zent, e1, e2]) hP hD hS
  | 1, _, hw, hd, e1, e2, e3, e4, fin =>
    refine va_newa (atype := .long) (ty := .long) (a0 := (N, .inr (.inl (fun _ => 0)))) hx hb (hts _ hw) rfl hK hR.1 hR.2.1 hR.2.2.1 hA (fun _ => rfl) h0 hN (by simp [componentBytes]; omega) hc hs hd (fun q cA H1 hK1 hP hD hS => ?_)
    have ecA : cA = tc 1 := zraU (by simp) (hK1.2 6 (cA, .long) rfl).2 (hK.2 1 (tc 1, .long) rfl).2
    subst ecA
    exact fin q H1 _ (fun ad2 => by simp [zent, e1, e3]) hP hD hS
  | 2, _, hw, hd, e1, e2, e3, e4, fin =>
    refine va_newa (atype := .byte) (ty := .byte) (a0 := (N, .inl (fun _ => 0))) hx hb (hts _ hw) rfl hK hR.1 hR.2.1 hR.2.2.1 hA (fun _ => rfl) h0 hN (by simp [componentBytes]; omega) hc hs hd (fun q cA H1 hK1 hP hD hS => ?_)
    have ecA : cA = tc 2 := zraU (by simp) (hK1.2 6 (cA, .byte) rfl).2 (hK.2 2 (tc 2, .byte) rfl).2
    subst ecA
    exact fin q H1 _ (fun ad2 => by simp [zent, e1, e2]) hP hD hS
  | 3, _, hw, hd, e1, e2, e3, e4, fin =>
    refine va_newa (atype := .boolean) (ty := .boolean) (a0 := (N, .inl (fun _ => 0))) hx hb (hts _ hw) rfl hK hR.1 hR.2.1 hR.2.2.1 hA (fun _ => rfl) h0 hN (by simp [componentBytes]; omega) hc hs hd (fun q cA H1 hK1 hP hD hS => ?_)
    have ecA : cA = tc 3 := zraU (by simp) (hK1.2 6 (cA, .boolean) rfl).2 (hK.2 3 (tc 3, .boolean) rfl).2
    subst ecA
    exact fin q H1 _ (fun ad2 => by simp [zent, e1, e2]) hP hD hS
  | 4, _, hw, hd, e1, e2, e3, e4, fin =>
    refine va_newa (atype := .double) (ty := .double) (a0 := (N, .inr (.inr (.inr (.inl (fun _ => 0)))))) hx hb (hts _ hw) rfl hK hR.1 hR.2.1 hR.2.2.1 hA (fun _ => rfl) h0 hN (by simp [componentBytes]; omega) hc hs hd (fun q cA H1 hK1 hP hD hS => ?_)
    have ecA : cA = tc 4 := zraU (by simp) (hK1.2 6 (cA, .double) rfl).2 (hK.2 4 (tc 4, .double) rfl).2
    subst ecA
    exact fin q H1 _ (fun ad2 => by simp [zent, e1, e4]) hP hD hS
theorem zsim_newq (hx : p.tables.exec = Jvm.exec) (hb : c.code = cc) (hts : ∀ w ∈ gT, w.before args s = true) (hown : s.vm.findClass own = some m.cls) (hK : va_K D vwCl (ztys tc) s) (hR : zR D tc ad A s h H locs) (hA : ∀ q, s.heap.size ≤ q → A q)
    {idx N : Nat} {n : Int32} (hw : Cond.classLink own idx "KeyTour$Level" ∈ gT) (hO : va_AO "KeyTour$Level" s) (hn : zN h < 900000) (h0 : ¬ n < 0) (hN : n.toNatClampNeg = N) (hby : N ≤ 60000000) (hc : cells + 1 ≤ R.cells) (hs : slots + N ≤ R.slots) (hd : decode cc pc = .ok (.anewarray idx, 3))
    (kk : ∀ (ad2 : Nat → Nat) (H1 : Heap), zext (zN h) ad ad2 → zR D tc ad2 A s (znew h 5 N) H1 locs → W p l e R s m args below meth c H1 locs (cells + 1) (slots + N) Q (F0 m (pc + 3) ls (.ref (ad2 (zN h)) :: rest))) : W p l e R s m args below meth c H locs cells slots Q (F0 m pc ls (.int n :: rest)) := by
  refine va_newq hx hb hown (hts _ hw) hO hK hR.1 hR.2.1 hR.2.2.1 hA h0 hN (by omega) hc hs hd (fun q cA H1 hK1 hP hD hS => ?_)
  have ecA : cA = tc 5 := by
    obtain ⟨kA, comp, -, -, -, h4⟩ := (hK1.2 6 (cA, .object "KeyTour$Level") rfl).2
    obtain ⟨kA2, comp2, -, -, -, h5⟩ := (hK.2 5 (tc 5, .object "KeyTour$Level") rfl).2
    exact Option.some.inj (h4.symm.trans h5)
  subst ecA
  have e1 : zK (znew h 5 N) (zN h) = (5, N) := zrow_self _ _ _
  have e4 : zP (znew h 5 N) (zN h) = fun _ => none := zrow_self _ _ _
  have hpush : zws tc ad h ++ [(q, .inl (tc 5, N, .inr (.inr (.inr (.inr (fun _ => none))))))] = zws tc (znad ad (zN h) q) (znew h 5 N) := zws_push rfl znad_self (by simp [zent, e1, e4]) (znew_ent hR.2.2.2)
  rw [hpush] at hP hD
  have := kk (znad ad (zN h) q) H1 (znad_ext (Nat.le_of_lt hn)) ⟨hP, hD, hS, znew_ok hR.2.2.2 hn⟩
  rw [znad_self] at this
  exact this
theorem zsim_putI (hx : p.tables.exec = Jvm.exec) (hb : c.code = cc) (hts : ∀ w ∈ gT, w.before args s = true) (hown : s.vm.findClass own = some m.cls) (hK : va_K D vwCl (ztys tc) s) (hR : zR D tc ad A s h H locs)
    {idx ci j a : Nat} (hci : ci < 8) (hj : j < zcn ci) (ha : a < zN h) (hk : zK h a = (ci + 6, zcn ci)) (hlink : Cond.fieldLink own idx (zcT ci j).1 (zcT ci j).2.1 (zcT ci j).2.2.1 ∈ gT)
    (hfin : (zcT ci j).2.2.2 = false ∨ ((zcT ci j).2.2.2 = true ∧ meth.name = "<init>" ∧ (zcT ci j).1 = own)) (hty : zty ci j = .int) {x : Int32} (hd : decode cc pc = .ok (.putfield idx, 3))
    (kk : ∀ (H1 : Heap) (locs1 : List Loc), zR D tc ad A s (zsI h a j x) H1 locs1 → W p l e R s m args below meth c H1 locs1 cells slots Q (F0 m (pc + 3) ls rest)) : W p l e R s m args below meth c H locs cells slots Q (F0 m pc ls (.int x :: .ref (ad a) :: rest)) := by
  refine zsim_put hx hb hts hown hK hR hci hj ha hk hlink hfin (v := .int x) (by rw [hty]; rfl) (by rw [hty]; rfl) hd (h2 := zsI h a j x) rfl rfl ?_ ?_ zsI_ent hR.2.2.2 kk
  · rw [hty]; exact congrArg Value.int zsI_at
  · intro i hi cd; unfold zfv; split <;> first | rfl | exact congrArg Value.int (zsI_off hi)
theorem zsim_putZ (hx : p.tables.exec = Jvm.exec) (hb : c.code = cc) (hts : ∀ w ∈ gT, w.before args s = true) (hown : s.vm.findClass own = some m.cls) (hK : va_K D vwCl (ztys tc) s) (hR : zR D tc ad A s h H locs)
    {idx ci j a : Nat} (hci : ci < 8) (hj : j < zcn ci) (ha : a < zN h) (hk : zK h a = (ci + 6, zcn ci)) (hlink : Cond.fieldLink own idx (zcT ci j).1 (zcT ci j).2.1 (zcT ci j).2.2.1 ∈ gT)
    (hfin : (zcT ci j).2.2.2 = false ∨ ((zcT ci j).2.2.2 = true ∧ meth.name = "<init>" ∧ (zcT ci j).1 = own)) (hty : zty ci j = .boolean) {x : Int32} (hz : x = 0 ∨ x = 1) (hd : decode cc pc = .ok (.putfield idx, 3))
    (kk : ∀ (H1 : Heap) (locs1 : List Loc), zR D tc ad A s (zsI h a j x) H1 locs1 → W p l e R s m args below meth c H1 locs1 cells slots Q (F0 m (pc + 3) ls rest)) : W p l e R s m args below meth c H locs cells slots Q (F0 m pc ls (.int x :: .ref (ad a) :: rest)) := by
  refine zsim_put hx hb hts hown hK hR hci hj ha hk hlink hfin (v := .int x) (by rw [hty]; rcases hz with rfl | rfl <;> rfl) (by rw [hty]; rcases hz with rfl | rfl <;> rfl) hd (h2 := zsI h a j x) rfl rfl ?_ ?_ zsI_ent hR.2.2.2 kk
  · rw [hty]; exact congrArg Value.int zsI_at
  · intro i hi cd; unfold zfv; split <;> first | rfl | exact congrArg Value.int (zsI_off hi)
theorem zsim_putB (hx : p.tables.exec = Jvm.exec) (hb : c.code = cc) (hts : ∀ w ∈ gT, w.before args s = true) (hown : s.vm.findClass own = some m.cls) (hK : va_K D vwCl (ztys tc) s) (hR : zR D tc ad A s h H locs)
    {idx ci j a : Nat} (hci : ci < 8) (hj : j < zcn ci) (ha : a < zN h) (hk : zK h a = (ci + 6, zcn ci)) (hlink : Cond.fieldLink own idx (zcT ci j).1 (zcT ci j).2.1 (zcT ci j).2.2.1 ∈ gT)
    (hfin : (zcT ci j).2.2.2 = false ∨ ((zcT ci j).2.2.2 = true ∧ meth.name = "<init>" ∧ (zcT ci j).1 = own)) (hty : zty ci j = .byte) {x : Int32} (hz : x.toInt8.toInt32 = x) (hd : decode cc pc = .ok (.putfield idx, 3))
    (kk : ∀ (H1 : Heap) (locs1 : List Loc), zR D tc ad A s (zsI h a j x) H1 locs1 → W p l e R s m args below meth c H1 locs1 cells slots Q (F0 m (pc + 3) ls rest)) : W p l e R s m args below meth c H locs cells slots Q (F0 m pc ls (.int x :: .ref (ad a) :: rest)) := by
  refine zsim_put hx hb hts hown hK hR hci hj ha hk hlink hfin (v := .int x) (by rw [hty, ← hz]; exact pk_nb _) (by rw [hty, ← hz]; exact pk_fb _) hd (h2 := zsI h a j x) rfl rfl ?_ ?_ zsI_ent hR.2.2.2 kk
  · rw [hty]; exact congrArg Value.int zsI_at
  · intro i hi cd; unfold zfv; split <;> first | rfl | exact congrArg Value.int (zsI_off hi)
theorem zsim_putJ (hx : p.tables.exec = Jvm.exec) (hb : c.code = cc) (hts : ∀ w ∈ gT, w.before args s = true) (hown : s.vm.findClass own = some m.cls) (hK : va_K D vwCl (ztys tc) s) (hR : zR D tc ad A s h H locs)
    {idx ci j a : Nat} (hci : ci < 8) (hj : j < zcn ci) (ha : a < zN h) (hk : zK h a = (ci + 6, zcn ci)) (hlink : Cond.fieldLink own idx (zcT ci j).1 (zcT ci j).2.1 (zcT ci j).2.2.1 ∈ gT)
    (hfin : (zcT ci j).2.2.2 = false ∨ ((zcT ci j).2.2.2 = true ∧ meth.name = "<init>" ∧ (zcT ci j).1 = own)) (hty : zty ci j = .long) {x : Int64} (hd : decode cc pc = .ok (.putfield idx, 3))
    (kk : ∀ (H1 : Heap) (locs1 : List Loc), zR D tc ad A s (zsJ h a j x) H1 locs1 → W p l e R s m args below meth c H1 locs1 cells slots Q (F0 m (pc + 3) ls rest)) : W p l e R s m args below meth c H locs cells slots Q (F0 m pc ls (.long x :: .ref (ad a) :: rest)) := by
  refine zsim_put hx hb hts hown hK hR hci hj ha hk hlink hfin (v := .long x) (by rw [hty]; rfl) (by rw [hty]; rfl) hd (h2 := zsJ h a j x) rfl rfl ?_ ?_ zsJ_ent hR.2.2.2 kk
  · rw [hty]; exact congrArg Value.long zsJ_at
  · intro i hi cd; unfold zfv; split <;> first | rfl | exact congrArg Value.long (zsJ_off hi)
theorem zsim_putP (hx : p.tables.exec = Jvm.exec) (hb : c.code = cc) (hts : ∀ w ∈ gT, w.before args s = true) (hown : s.vm.findClass own = some m.cls) (hK : va_K D vwCl (ztys tc) s) (hR : zR D tc ad A s h H locs)
    {idx ci j a : Nat} (hci : ci < 8) (hj : j < zcn ci) (ha : a < zN h) (hk : zK h a = (ci + 6, zcn ci)) (hlink : Cond.fieldLink own idx (zcT ci j).1 (zcT ci j).2.1 (zcT ci j).2.2.1 ∈ gT)
    (hfin : (zcT ci j).2.2.2 = false ∨ ((zcT ci j).2.2.2 = true ∧ meth.name = "<init>" ∧ (zcT ci j).1 = own)) (hty : zcode (zty ci j) = 2) {q : Nat} (hq : q < zN h) (hd : decode cc pc = .ok (.putfield idx, 3))
    (kk : ∀ (H1 : Heap) (locs1 : List Loc), zR D tc ad A s (zsP h a j (some q)) H1 locs1 → W p l e R s m args below meth c H1 locs1 cells slots Q (F0 m (pc + 3) ls rest)) : W p l e R s m args below meth c H locs cells slots Q (F0 m pc ls (.ref (ad q) :: .ref (ad a) :: rest)) := by
  refine zsim_put hx hb hts hown hK hR hci hj ha hk hlink hfin (v := .ref (ad q)) (by revert hty; cases zty ci j <;> simp [zcode, narrow]) (by revert hty; cases zty ci j <;> simp [zcode, fits]) hd (h2 := zsP h a j (some q)) rfl rfl ?_ ?_ zsP_ent (zsP_ok hq hR.2.2.2) kk
  · rw [hty]; show va_rf ((zP (zsP h a j (some q)) a j).map ad) = _; rw [zsP_at]; rfl
  · intro i hi cd; unfold zfv; split <;> first | rfl | (show va_rf ((zP (zsP h a j (some q)) a i).map ad) = _; rw [zsP_off hi])
theorem zsim_clone (hx : p.tables.exec = Jvm.exec) (hb : c.code = cc) (hml : c.maxLocals = ls.size) (hts : ∀ w ∈ gT, w.before args s = true) (hown : s.vm.findClass own = some m.cls) (hK : va_K D vwCl (ztys tc) s) (hR : zR D tc ad A s h H locs) (hA : ∀ q, s.heap.size ≤ q → A q)
    {idx a : Nat} (hw : Cond.methodLink own idx ⟨"[B", "clone", "()Ljava/lang/Object;"⟩ ∈ gT ∧ Cond.sameMethod "[B" "java/lang/Object" "clone" "()Ljava/lang/Object;" ∈ gT ∧ Cond.native ⟨"java/lang/Object", "clone", "()Ljava/lang/Object;"⟩ ∈ gT ∧ Cond.instanceMethod ⟨"java/lang/Object", "clone", "()Ljava/lang/Object;"⟩ ∈ gT ∧ Cond.selects "[B" ⟨"[B", "clone", "()Ljava/lang/Object;"⟩ ⟨"java/lang/Object", "clone", "()Ljava/lang/Object;"⟩ ∈ gT) (hcl : va_Nw (.castable "[B" "java/lang/Cloneable") s) (ha : a < zN h) (hk : (zK h a).1 = 2) (hn : zN h < 900000) (hfit : ∀ i, i < (zK h a).2 → (zI h a i).toInt8.toInt32 = zI h a i) (hfr : 1 ≤ R.frames) (hlo : (rest.map fun v => v.category).sum + 14 ≤ R.locals) (hc : cells + 1 ≤ R.cells) (hs : slots + (zK h a).2 ≤ R.slots) (hd : decode cc pc = .ok (.invokevirtual idx, 3))
    (kk : ∀ (ad2 : Nat → Nat) (H1 : Heap), zext (zN h) ad ad2 → zR D tc ad2 A s (zrI (znew h 2 (zK h a).2) (zN h) (zI h a)) H1 locs → W p l e R s m args below meth c H1 locs (cells + 1) (slots + (zK h a).2) Q (F0 m (pc + 3) ls (.ref (ad2 (zN h)) :: rest))) : W p l e R s m args below meth c H locs cells slots Q (F0 m pc ls (.ref (ad a) :: rest)) := by
  refine va_clone hx hb hml hown (hts _ hw.1) (hts _ hw.2.1) (hts _ hw.2.2.1) (hts _ hw.2.2.2.1) (hts _ hw.2.2.2.2) hcl hK hR.1 hR.2.1 hR.2.2.1 hA a 2 (cA := tc 2) (x := ((zK h a).2, .inl (zI h a))) (ty := .byte) (by rw [zws_get ha]; simp [zent, hk]) rfl (va_nm_byte (hK.2 2 (tc 2, .byte) rfl).2) (va_fit (fun i hi => by rw [← hfit i hi]; exact pk_fb _)) hfr hlo hc hs hd (fun q H1 hK1 hP hD hS => ?_)
  have e1 : zK (zrI (znew h 2 (zK h a).2) (zN h) (zI h a)) (zN h) = (2, (zK h a).2) := zrow_self _ _ _
  have e2 : zI (zrI (znew h 2 (zK h a).2) (zN h) (zI h a)) (zN h) = zI h a := zrow_self _ _ _
  have hpush : zws tc ad h ++ [(q, .inl (tc 2, (zK h a).2, .inl (zI h a)))] = zws tc (znad ad (zN h) q) (zrI (znew h 2 (zK h a).2) (zN h) (zI h a)) := zws_push rfl znad_self (by simp [zent, e1, e2]) (fun b hb => ⟨(znew_ent (tc := tc) (kd := 2) (len := (zK h a).2) hR.2.2.2 b hb).1, (zrI_ent b (Nat.ne_of_lt hb)).trans (znew_ent hR.2.2.2 b hb).2⟩)
  rw [hpush] at hP hD
  have := kk (znad ad (zN h) q) H1 (znad_ext (Nat.le_of_lt hn)) ⟨hP, hD, hS, (znew_ok hR.2.2.2 hn : zokH (znew h 2 (zK h a).2))⟩
  rw [znad_self] at this
  exact this
end ZE
end
section
/-! THE ABSTRACT STEP, A METHOD'S RUN, AND WHAT A METHOD'S CONTRACT IS. -/
section ZG
/-- a method: name, bytes, locals, answer, room (frames, cells, slots, locals), number of parameters that its descriptor has, handlers, cells and slots where it throws -/
abbrev zm_M : Type := MethodName × ByteArray × Nat × Option FieldType × (Nat × Nat × Nat × Nat) × Nat × List (Nat × Nat × Nat × Nat) × (Nat × Nat)
def zmY (M : zm_M) : MethodName := M.1
def zmB (M : zm_M) : ByteArray := M.2.1
def zmL (M : zm_M) : Nat := M.2.2.1
def zmR (M : zm_M) : Option FieldType := M.2.2.2.1
def zmRoom (M : zm_M) : Room := { frames := M.2.2.2.2.1.1, cells := M.2.2.2.2.1.2.1, slots := M.2.2.2.2.1.2.2.1, locals := M.2.2.2.2.1.2.2.2 }
def zmC (M : zm_M) : Nat := M.2.2.2.2.1.2.1
def zmS (M : zm_M) : Nat := M.2.2.2.2.1.2.2.1
def zmN (M : zm_M) : Nat := M.2.2.2.2.2.1
def zmH (M : zm_M) : List (Nat × Nat × Nat × Nat) := M.2.2.2.2.2.2.1
def zmTc (M : zm_M) : Nat := M.2.2.2.2.2.2.2.1
def zmTs (M : zm_M) : Nat := M.2.2.2.2.2.2.2.2
def zmRoomT (M : zm_M) : Room := { frames := M.2.2.2.2.1.1, cells := zmTc M, slots := zmTs M, locals := M.2.2.2.2.1.2.2.2 }
def zmW (M : zm_M) : Cond := if (zmH M).isEmpty then .code (zmY M) (zmB M) (zmL M) (zmR M) else .codeWith (zmY M) (zmB M) (zmL M) (zmR M) (zmH M)
def zmWs (M : zm_M) : List Cond := zmW M :: gT
/-- an outcome: an answer, or an exception by its number; the heap behind it -/
abbrev zm_O : Type := (Option Value ⊕ Nat) × zm_H
abbrev zm_S : Type := List Value → zm_H → Option zm_O
def zex : Nat → String
  | 0 => "java/lang/IllegalStateException" | 1 => "java/lang/IllegalArgumentException" | 2 => "java/lang/IndexOutOfBoundsException" | _ => "java/util/NoSuchElementException"
/-- a row: pc, instruction, group, operands, constants, cells and slots made up to here, whether runs stop here, locals that are dead here -/
abbrev zm_R : Type := Nat × Instr × Nat × List Nat × Int32 × Int64 × (Nat × Nat) × Bool × List Nat
def rP (r : zm_R) : Nat := r.1
def rI (r : zm_R) : Instr := r.2.1
def rG (r : zm_R) : Nat := r.2.2.1
def rO (r : zm_R) : List Nat := r.2.2.2.1
def rC (r : zm_R) : Int32 := r.2.2.2.2.1
def rL (r : zm_R) : Int64 := r.2.2.2.2.2.1
def rN (r : zm_R) : Nat × Nat := r.2.2.2.2.2.2.1
def rH (r : zm_R) : Bool := r.2.2.2.2.2.2.2.1
def rK (r : zm_R) : List Nat := r.2.2.2.2.2.2.2.2
abbrev zm_K (X : Type) : Type := Nat → zm_L → List Value → zm_H → Option X
def zin (i : Int32) (n : Nat) : Prop := ¬ (i < 0 ∨ n ≤ i.toNatClampNeg)
def zcV {X : Type} (o : Option zm_O) (k : zm_H → Option X) : Option X := match o with | some (.inl none, h) => k h | _ => none
def zcI {X : Type} (o : Option zm_O) (k : Int32 → zm_H → Option X) : Option X := match o with | some (.inl (some (.int x)), h) => k x h | _ => none
def zcJ {X : Type} (o : Option zm_O) (k : Int64 → zm_H → Option X) : Option X := match o with | some (.inl (some (.long x)), h) => k x h | _ => none
def zcA {X : Type} (o : Option zm_O) (k : Nat → zm_H → Option X) : Option X := match o with | some (.inl (some (.ref x)), h) => k x h | _ => none
def zcD {X : Type} (o : Option zm_O) (k : UInt64 → zm_H → Option X) : Option X := match o with | some (.inl (some (.double x)), h) => k x h | _ => none
def zcF {X : Type} (o : Option zm_O) (k : UInt32 → zm_H → Option X) : Option X := match o with | some (.inl (some (.float x)), h) => k x h | _ => none
def zthr {X : Type} (o : Option zm_O) (kx : Nat → zm_H → Option X) (k : Option X) : Option X := match o with | some (.inr E, h) => kx E h | _ => k
def zhnd : List Nat → Nat → Option (Nat × Nat)
  | E1 :: p :: j :: t, E => if E = E1 then some (p, j) else zhnd t E
  | _, _ => none
section
variable {X : Type}
def zg1 (r : zm_R) (pc : Nat) (ls : zm_L) (st : List Value) (h : zm_H) (k : zm_K X) : Option X :=
  match rI r, rO r with
  | .goto _, [t] => k t ls st h
  | .ifCond .eq _, [t] => (match st with | .int x :: s => if x = 0 then k t ls s h else k (pc + 1) ls s h | _ => none)
  | .ifCond .ne _, [t] => (match st with | .int x :: s => if x = 0 then k (pc + 1) ls s h else k t ls s h | _ => none)
  | .ifCond .lt _, [t] => (match st with | .int x :: s => if x < 0 then k t ls s h else k (pc + 1) ls s h | _ => none)
  | .ifCond .ge _, [t] => (match st with | .int x :: s => if 0 ≤ x then k t ls s h else k (pc + 1) ls s h | _ => none)
  | .ifCond .gt _, [t] => (match st with | .int x :: s => if 0 < x then k t ls s h else k (pc + 1) ls s h | _ => none)
  | .ifCond .le _, [t] => (match st with | .int x :: s => if x ≤ 0 then k t ls s h else k (pc + 1) ls s h | _ => none)
  | .if_icmp .eq _, [t] => (match st with | .int y :: .int x :: s => if x = y then k t ls s h else k (pc + 1) ls s h | _ => none)
  | .if_icmp .ne _, [t] => (match st with | .int y :: .int x :: s => if x = y then k (pc + 1) ls s h else k t ls s h | _ => none)
  | .if_icmp .lt _, [t] => (match st with | .int y :: .int x :: s => if x < y then k t ls s h else k (pc + 1) ls s h | _ => none)
  | .if_icmp .ge _, [t] => (match st with | .int y :: .int x :: s => if y ≤ x then k t ls s h else k (pc + 1) ls s h | _ => none)
  | .if_icmp .gt _, [t] => (match st with | .int y :: .int x :: s => if y < x then k t ls s h else k (pc + 1) ls s h | _ => none)
  | .if_icmp .le _, [t] => (match st with | .int y :: .int x :: s => if x ≤ y then k t ls s h else k (pc + 1) ls s h | _ => none)
  | .ifnonnull _, [t] => (match st with | .ref _ :: s => k t ls s h | _ => none)
  | .tableswitch _ lo hi _, t0 :: ts => (match st with | .int x :: s => if x.toInt < lo ∨ hi < x.toInt then k t0 ls s h else (match ts[(x.toInt - lo).toNat]? with | some t => k t ls s h | none => none) | _ => none)
  | _, _ => none
def zg2 (r : zm_R) (pc : Nat) (ls : zm_L) (st : List Value) (h : zm_H) (k : zm_K X) : Option X :=
  match rI r, rO r with
  | .getfield _, [ci, j, nf, cd] => (match st with
    | .ref a :: s => zgd (zK h a = (ci + 6, nf)) (match cd with
      | 1 => k (pc + 1) ls (.long (zJ h a j) :: s) h
      | 2 => (match zP h a j with | some q => k (pc + 1) ls (.ref q :: s) h | none => none)
      | _ => k (pc + 1) ls (.int (zI h a j) :: s) h)
    | _ => none)
  | .putfield _, [ci, j, nf, cd] => (match cd, st with
    | 0, .int x :: .ref a :: s => zgd (zK h a = (ci + 6, nf)) (k (pc + 1) ls s (zsI h a j x))
    | 3, .int x :: .ref a :: s => zgd (zK h a = (ci + 6, nf) ∧ (x = 0 ∨ x = 1)) (k (pc + 1) ls s (zsI h a j x))
    | 4, .int x :: .ref a :: s => zgd (zK h a = (ci + 6, nf) ∧ x.toInt8.toInt32 = x) (k (pc + 1) ls s (zsI h a j x))
    | 1, .long x :: .ref a :: s => zgd (zK h a = (ci + 6, nf)) (k (pc + 1) ls s (zsJ h a j x))
    | 2, .ref q :: .ref a :: s => zgd (zK h a = (ci + 6, nf) ∧ q < zN h) (k (pc + 1) ls s (zsP h a j (some q)))
    | _, _ => none)
  | _, _ => none
def zg3 (scr : Nat × (Nat → Int32)) (r : zm_R) (pc : Nat) (ls : zm_L) (st : List Value) (h : zm_H) (k : zm_K X) : Option X :=
  match rI r, rO r with
  | .iaload, [0] => (match st with | .int i :: .ref a :: s => zgd ((zK h a).1 = 0 ∧ ¬ (i < 0 ∨ (zK h a).2 ≤ i.toNatClampNeg)) (k (pc + 1) ls (.int (zI h a i.toNatClampNeg) :: s) h) | _ => none)
  | .iaload, [9] => (match st with | .int i :: .ref a :: s => zgd (a = 2000000 ∧ ¬ (i < 0 ∨ scr.1 ≤ i.toNatClampNeg)) (k (pc + 1) ls (.int (scr.2 i.toNatClampNeg) :: s) h) | _ => none)
  | .laload, [1] => (match st with | .int i :: .ref a :: s => zgd ((zK h a).1 = 1 ∧ ¬ (i < 0 ∨ (zK h a).2 ≤ i.toNatClampNeg)) (k (pc + 1) ls (.long (zJ h a i.toNatClampNeg) :: s) h) | _ => none)
  | .baload, [2] => (match st with | .int i :: .ref a :: s => zgd ((zK h a).1 = 2 ∧ ¬ (i < 0 ∨ (zK h a).2 ≤ i.toNatClampNeg)) (k (pc + 1) ls (.int (zI h a i.toNatClampNeg) :: s) h) | _ => none)
  | .baload, [3] => (match st with | .int i :: .ref a :: s => zgd ((zK h a).1 = 3 ∧ ¬ (i < 0 ∨ (zK h a).2 ≤ i.toNatClampNeg)) (k (pc + 1) ls (.int (zI h a i.toNatClampNeg) :: s) h) | _ => none)
  | .daload, [4] => (match st with | .int i :: .ref a :: s => zgd ((zK h a).1 = 4 ∧ ¬ (i < 0 ∨ (zK h a).2 ≤ i.toNatClampNeg)) (k (pc + 1) ls (.double (zD h a i.toNatClampNeg) :: s) h) | _ => none)
  | .aaload, [5] => (match st with | .int i :: .ref a :: s => zgd ((zK h a).1 = 5 ∧ ¬ (i < 0 ∨ (zK h a).2 ≤ i.toNatClampNeg)) (match zP h a i.toNatClampNeg with | some q => k (pc + 1) ls (.ref q :: s) h | none => none) | _ => none)
  | .iastore, [0] => (match st with | .int x :: .int i :: .ref a :: s => zgd ((zK h a).1 = 0 ∧ ¬ (i < 0 ∨ (zK h a).2 ≤ i.toNatClampNeg)) (k (pc + 1) ls s (zsI h a i.toNatClampNeg x)) | _ => none)
  | .lastore, [1] => (match st with | .long x :: .int i :: .ref a :: s => zgd ((zK h a).1 = 1 ∧ ¬ (i < 0 ∨ (zK h a).2 ≤ i.toNatClampNeg)) (k (pc + 1) ls s (zsJ h a i.toNatClampNeg x)) | _ => none)
  | .bastore, [2] => (match st with | .int x :: .int i :: .ref a :: s => zgd ((zK h a).1 = 2 ∧ ¬ (i < 0 ∨ (zK h a).2 ≤ i.toNatClampNeg)) (k (pc + 1) ls s (zsI h a i.toNatClampNeg x.toInt8.toInt32)) | _ => none)
  | .bastore, [3] => (match st with | .int x :: .int i :: .ref a :: s => zgd (((zK h a).1 = 3 ∧ ¬ (i < 0 ∨ (zK h a).2 ≤ i.toNatClampNeg)) ∧ (x = 0 ∨ x = 1)) (k (pc + 1) ls s (zsI h a i.toNatClampNeg x)) | _ => none)
  | .dastore, [4] => (match st with | .double x :: .int i :: .ref a :: s => zgd ((zK h a).1 = 4 ∧ ¬ (i < 0 ∨ (zK h a).2 ≤ i.toNatClampNeg)) (k (pc + 1) ls s (zsD h a i.toNatClampNeg x)) | _ => none)
  | .aastore, [5] => (match st with | .ref q :: .int i :: .ref a :: s => zgd (((zK h a).1 = 5 ∧ ¬ (i < 0 ∨ (zK h a).2 ≤ i.toNatClampNeg)) ∧ (zK h q).1 = 8) (k (pc + 1) ls s (zsP h a i.toNatClampNeg (some q))) | _ => none)
  | .arraylength, [9] => (match st with | .ref a :: s => zgd (a = 2000000) (k (pc + 1) ls (.int (nI scr.1) :: s) h) | _ => none)
  | .arraylength, [t] => (match st with | .ref a :: s => zgd ((zK h a).1 = t) (k (pc + 1) ls (.int (nI (zK h a).2) :: s) h) | _ => none)
  | _, _ => none
def zg4 (r : zm_R) (pc : Nat) (ls : zm_L) (st : List Value) (h : zm_H) (k : zm_K X) : Option X :=
  match rI r, rO r with
  | .new _, [ci, nf] => zgd (zN h < 900000) (k (pc + 1) ls (.ref (zN h) :: st) (znew h (ci + 6) nf))
  | .newarray _, [kd, bd] => (match st with | .int n :: s => zgd (zN h < 900000 ∧ ¬ n < 0 ∧ n.toNatClampNeg ≤ bd) (k (pc + 1) ls (.ref (zN h) :: s) (znew h kd n.toNatClampNeg)) | _ => none)
  | .anewarray _, [_, bd] => (match st with | .int n :: s => zgd (zN h < 900000 ∧ ¬ n < 0 ∧ n.toNatClampNeg ≤ bd) (k (pc + 1) ls (.ref (zN h) :: s) (znew h 5 n.toNatClampNeg)) | _ => none)
  | _, _ => none
def zg5 (r : zm_R) (st : List Value) (h : zm_H) : Option zm_O :=
  match rI r, rO r with
  | .ireturn, [0] => (match st with | [.int x] => some (.inl (some (.int x)), h) | _ => none)
  | .ireturn, [1] => (match st with | [.int x] => zgd (x = 0 ∨ x = 1) (some (.inl (some (.int x)), h)) | _ => none)
  | .ireturn, [2] => (match st with | [.int x] => zgd (x.toInt8.toInt32 = x) (some (.inl (some (.int x)), h)) | _ => none)
  | .ireturn, [3] => (match st with | [.int x] => zgd ((x.toUInt32 % 65536).toInt32 = x) (some (.inl (some (.int x)), h)) | _ => none)
  | .lreturn, _ => (match st with | [.long x] => some (.inl (some (.long x)), h) | _ => none)
  | .dreturn, _ => (match st with | [.double x] => some (.inl (some (.double x)), h) | _ => none)
  | .freturn, _ => (match st with | [.float x] => some (.inl (some (.float x)), h) | _ => none)
  | .areturn, _ => (match st with | [.ref x] => some (.inl (some (.ref x)), h) | _ => none)
  | .return_, _ => (match st with | [] => some (.inl none, h) | _ => none)
  | _, _ => none
def znrm (rk : Nat) (o : Option zm_O) (pc : Nat) (ls : zm_L) (rest : List Value) (k : zm_K X) : Option X := match rk with
  | 0 => zcV o (fun h2 => k (pc + 1) ls rest h2)
  | 1 => zcI o (fun x h2 => k (pc + 1) ls (.int x :: rest) h2)
  | 2 => zcJ o (fun x h2 => k (pc + 1) ls (.long x :: rest) h2)
  | 3 => zcA o (fun x h2 => k (pc + 1) ls (.ref x :: rest) h2)
  | 4 => zcD o (fun x h2 => k (pc + 1) ls (.double x :: rest) h2)
  | _ => zcF o (fun x h2 => k (pc + 1) ls (.float x :: rest) h2)
def zrcv (kd ci : Nat) (vs : List Value) (h : zm_H) (o : Option X) : Option X := match kd with
  | 0 => (match vs with | .ref y :: _ => zgd ((zK h y).1 = ci + 6) o | _ => none)
  | 2 => (match vs with | .ref _ :: _ => o | _ => none)
  | 4 => (match vs with | .ref _ :: _ => o | _ => none)
  | 6 => (match vs with | .ref y :: _ => zgd ((1000000 ≤ y ∧ y < 1000010) ∨ (zK h y).1 = 13) o | _ => none)
  | 7 => (match vs with | .ref y :: _ => zgd ((zK h y).1 = 12) o | _ => none)
  | 8 => (match vs with | .ref y :: _ => zgd ((zK h y).1 = 12) o | _ => none)
  | 10 => (match vs with | .ref y :: _ => zgd ((zK h y).1 = 12) o | _ => none)
  | _ => o
def zg6 (env : List (zm_M × zm_S)) (r : zm_R) (pc : Nat) (ls : zm_L) (st : List Value) (h : zm_H) (fin : zm_O → Option X) (k : zm_K X) : Option X :=
  match rO r with
  | kd :: e :: n :: rk :: th :: ci :: hs => (match env[e]? with
    | some (_, S) => (match Nat.ble n st.length && Nat.ble ((st.drop n).map fun v => v.category).sum 8 with
      | true => zrcv kd ci (st.drop (n - 1)) h (match th with
        | 0 => znrm rk (S (st.take n).reverse h) pc ls (st.drop n) k
        | 1 => zthr (S (st.take n).reverse h) (fun E h2 => fin (.inr E, h2)) (znrm rk (S (st.take n).reverse h) pc ls (st.drop n) k)
        | _ => zthr (S (st.take n).reverse h) (fun E h2 => match zhnd hs E with | some (p, j) => k (p + 1) ((zclr j ls).set j none) [] h2 | none => none) (znrm rk (S (st.take n).reverse h) pc ls (st.drop n) k))
      | false => none)
    | none => none)
  | _ => none
def zcpk (h : zm_H) (a a0 : Nat) (sp dp n : Int32) (t : Nat) : Prop := (zK h a).1 = t ∧ (zK h a0).1 = t ∧ ¬ sp < 0 ∧ ¬ dp < 0 ∧ ¬ n < 0 ∧ sp.toNatClampNeg + n.toNatClampNeg ≤ (zK h a0).2 ∧ dp.toNatClampNeg + n.toNatClampNeg ≤ (zK h a).2
def zg8 (r : zm_R) (pc : Nat) (ls : zm_L) (st : List Value) (h : zm_H) (k : zm_K X) : Option X :=
  match rO r, st with
  | [0], [.int n, .int dp, .ref a, .int sp, .ref a0] => zgd ((zK h a).1 = 0 ∧ (zK h a0).1 = 0 ∧ ¬ sp < 0 ∧ ¬ dp < 0 ∧ ¬ n < 0 ∧ sp.toNatClampNeg + n.toNatClampNeg ≤ (zK h a0).2 ∧ dp.toNatClampNeg + n.toNatClampNeg ≤ (zK h a).2) (k (pc + 1) ls [] (zrI h a (va_cpy (zI h a0) (zI h a) sp.toNatClampNeg dp.toNatClampNeg n.toNatClampNeg)))
  | [1], [.int n, .int dp, .ref a, .int sp, .ref a0] => zgd ((zK h a).1 = 1 ∧ (zK h a0).1 = 1 ∧ ¬ sp < 0 ∧ ¬ dp < 0 ∧ ¬ n < 0 ∧ sp.toNatClampNeg + n.toNatClampNeg ≤ (zK h a0).2 ∧ dp.toNatClampNeg + n.toNatClampNeg ≤ (zK h a).2) (k (pc + 1) ls [] (zrJ h a (va_cpy (zJ h a0) (zJ h a) sp.toNatClampNeg dp.toNatClampNeg n.toNatClampNeg)))
  | [3], [.int n, .int dp, .ref a, .int sp, .ref a0] => zgd (((zK h a).1 = 3 ∧ (zK h a0).1 = 3 ∧ ¬ sp < 0 ∧ ¬ dp < 0 ∧ ¬ n < 0 ∧ sp.toNatClampNeg + n.toNatClampNeg ≤ (zK h a0).2 ∧ dp.toNatClampNeg + n.toNatClampNeg ≤ (zK h a).2) ∧ ∀ i, i < n.toNatClampNeg → (zI h a0 (sp.toNatClampNeg + i) = 0 ∨ zI h a0 (sp.toNatClampNeg + i) = 1)) (k (pc + 1) ls [] (zrI h a (va_cpy (zI h a0) (zI h a) sp.toNatClampNeg dp.toNatClampNeg n.toNatClampNeg)))
  | _, _ => none
/-- what is read alone: the bytes of the texts (1000200 on), the two tables of digits (1000300, 1000301) -/
def zdig (t : Nat) : List Int32 := (List.range 100).map (fun k => nI (48 + (if t = 0 then k % 10 else k / 10)))
def zkey : List (List Int32) := [[114, 111, 111, 109, 32, 114], [32, 107, 101, 121, 32], [32, 99, 111, 105, 110, 115, 32], [59], [100, 111, 111, 114, 32, 114], [32, 114], [32, 116, 111, 108, 108, 32], [32, 111, 110, 101, 119, 97, 121], [115, 116, 97, 114, 116, 32, 114], [101, 110, 100, 32, 114]]
def zro (a : Nat) : Option (List Int32) := if 1000200 ≤ a ∧ a < 1000210 then some (zkey.getD (a - 1000200) []) else if a = 1000300 then some (zdig 0) else if a = 1000301 then some (zdig 1) else none
/-- a row of bytes: its length, a byte of it -/
def zbl (h : zm_H) (a : Nat) : Option Nat := match zro a with | some bs => some bs.length | none => if (zK h a).1 = 2 then some (zK h a).2 else none
def zby (h : zm_H) (a i : Nat) : Int32 := match zro a with | some bs => bs.getD i 0 | none => zI h a i
/-- a text's row of bytes, its coder -/
def zsv (h : zm_H) (a : Nat) : Option Nat := if 1000000 ≤ a ∧ a < 1000010 then some (a + 200) else if zK h a = (13, 4) then zP h a 0 else none
def zsd (h : zm_H) (a : Nat) : Option Int32 := if 1000000 ≤ a ∧ a < 1000010 then some 0 else if zK h a = (13, 4) then some (zI h a 1) else none
/-- statics, texts' fields, bytes wherever they lie, a copy of a row of bytes -/
def zg14 (r : zm_R) (pc : Nat) (ls : zm_L) (st : List Value) (h : zm_H) (k : zm_K X) : Option X :=
  match rI r, rO r with
  | .getstatic _, [0] => k (pc + 1) ls (.int 1 :: st) h
  | .getstatic _, [t] => k (pc + 1) ls (.ref (1000299 + t) :: st) h
  | .getfield _, [0] => (match st with | .ref a :: s => (match zsv h a with | some q => k (pc + 1) ls (.ref q :: s) h | none => none) | _ => none)
  | .getfield _, [_] => (match st with | .ref a :: s => (match zsd h a with | some x => k (pc + 1) ls (.int x :: s) h | none => none) | _ => none)
  | .baload, [_] => (match st with | .int i :: .ref a :: s => (match zbl h a with | some n => zgd (¬ (i < 0 ∨ n ≤ i.toNatClampNeg)) (k (pc + 1) ls (.int (zby h a i.toNatClampNeg) :: s) h) | none => none) | _ => none)
  | .arraylength, [_] => (match st with | .ref a :: s => (match zbl h a with | some n => k (pc + 1) ls (.int (nI n) :: s) h | none => none) | _ => none)
  | .invokevirtual _, [bd] => (match st with | .ref a :: s => zgd ((zN h < 900000 ∧ (zK h a).1 = 2 ∧ (zK h a).2 ≤ bd ∧ Nat.ble (s.map fun v => v.category).sum 8 = true) ∧ ∀ i, i < (zK h a).2 → (zI h a i).toInt8.toInt32 = zI h a i) (k (pc + 1) ls (.ref (zN h) :: s) (zrI (znew h 2 (zK h a).2) (zN h) (zI h a))) | _ => none)
  | .checkcast _, [_] => (match st with | .ref a :: s => zgd ((zK h a).1 = 2) (k (pc + 1) ls (.ref a :: s) h) | _ => none)
  | _, _ => none
def zg15 (r : zm_R) (pc : Nat) (ls : zm_L) (st : List Value) (h : zm_H) (k : zm_K X) : Option X :=
  match st with
  | [.int n, .int dp, .ref a, .int sp, .ref a0] => (match zbl h a0 with
    | some n0 => zgd (((zK h a).1 = 2 ∧ ¬ sp < 0 ∧ ¬ dp < 0 ∧ ¬ n < 0 ∧ sp.toNatClampNeg + n.toNatClampNeg ≤ n0 ∧ dp.toNatClampNeg + n.toNatClampNeg ≤ (zK h a).2) ∧ ∀ i, i < n.toNatClampNeg → (zby h a0 (sp.toNatClampNeg + i)).toInt8.toInt32 = zby h a0 (sp.toNatClampNeg + i)) (k (pc + 1) ls [] (zrI h a (va_cpy (zby h a0) (zI h a) sp.toNatClampNeg dp.toNatClampNeg n.toNatClampNeg)))
    | none => none)
  | _ => none
def zg9 (r : zm_R) (pc : Nat) (ls : zm_L) (st : List Value) (h : zm_H) (k : zm_K X) : Option X :=
  match rI r, rO r with
  | .ldc _, [7, i] => k (pc + 1) ls (.ref (1000000 + i) :: st) h
  | .ldc _, [0] => k (pc + 1) ls (.int (rC r) :: st) h
  | .ldc_w _, [0] => k (pc + 1) ls (.int (rC r) :: st) h
  | .ldc2_w _, [1] => k (pc + 1) ls (.long (rL r) :: st) h
  | _, _ => none
def zg11 (r : zm_R) (pc : Nat) (ls : zm_L) (st : List Value) (h : zm_H) (k : zm_K X) : Option X :=
  match rI r, st with
  | .idiv, .int y :: .int x :: s => zgd (¬ y = 0) (k (pc + 1) ls (.int (x / y) :: s) h)
  | .lrem, .long y :: .long x :: s => zgd (¬ y = 0) (k (pc + 1) ls (.long (x - x / y * y) :: s) h)
  | .irem, .int y :: .int x :: s => zgd (¬ y = 0) (k (pc + 1) ls (.int (x - x / y * y) :: s) h)
  | .fdiv, .float y :: .float x :: s => zgd (FP.fdiv x y &&& 0x7fffffff ≤ 0x7f800000) (k (pc + 1) ls (.float (FP.fdiv x y) :: s) h)
  | .ddiv, .double y :: .double x :: s => zgd (FP.ddiv x y &&& 0x7fffffffffffffff ≤ 0x7ff0000000000000) (k (pc + 1) ls (.double (FP.ddiv x y) :: s) h)
  | .f2d, .float x :: s => zgd (FP.f2d x &&& 0x7fffffffffffffff ≤ 0x7ff0000000000000) (k (pc + 1) ls (.double (FP.f2d x) :: s) h)
  | _, _ => none
def zg13 (r : zm_R) (pc : Nat) (ls : zm_L) (st : List Value) (h : zm_H) (k : zm_K X) : Option X :=
  match rO r, st with
  | [0], .int y :: .int x :: s => (match Nat.ble (s.map fun v => v.category).sum 8 with | true => k (pc + 1) ls (.int (if x < y then y else x) :: s) h | false => none)
  | [1], .int y :: .int x :: s => (match Nat.ble (s.map fun v => v.category).sum 8 with | true => k (pc + 1) ls (.int (if y < x then y else x) :: s) h | false => none)
  | [2], .long y :: .long x :: s => (match Nat.ble (s.map fun v => v.category).sum 8 with | true => k (pc + 1) ls (.long (if y < x then x else y) :: s) h | false => none)
  | _, _ => none
def zstep (env : List (zm_M × zm_S)) (scr : Nat × (Nat → Int32)) (r : zm_R) (pc : Nat) (ls : zm_L) (st : List Value) (h : zm_H) (fin : zm_O → Option X) (k : zm_K X) : Option X :=
  match rG r with
  | 0 => (match zpure (rI r) (rC r) (rL r) ls st with | some (ls2, st2) => k (pc + 1) ls2 st2 h | none => none)
  | 1 => zg1 r pc ls st h k
  | 2 => zg2 r pc ls st h k
  | 3 => zg3 scr r pc ls st h k
  | 4 => zg4 r pc ls st h k
  | 5 => (match zg5 r st h with | some o => fin o | none => none)
  | 6 => zg6 env r pc ls st h fin k
  | 7 => (match rO r, st with | E :: _, [] => fin (.inr E, h) | _, _ => none)
  | 8 => zg8 r pc ls st h k
  | 9 => zg9 r pc ls st h k
  | 10 => (match st with | [.ref _] => k (pc + 1) ls [] h | _ => none)
  | 11 => zg11 r pc ls st h k
  | 13 => zg13 r pc ls st h k
  | 14 => zg14 r pc ls st h k
  | 15 => zg15 r pc ls st h k
  | _ => none
end
abbrev zm_T : Type := Nat × zm_L × List Value × zm_H
/-- what follows a step: a stop, or a run on by f -/
def zcont (rows : List zm_R) (f : zm_K (zm_T ⊕ zm_O)) : zm_K (zm_T ⊕ zm_O) := fun pc2 ls2 st2 h2 => match rows[pc2]? with
  | none => none
  | some r2 => match rH r2 with
    | true => some (.inl (pc2, zkill (rK r2) ls2, st2, h2))
    | false => f pc2 ls2 st2 h2
/-- from a state on to the next stop, or to the end -/
def zev (env : List (zm_M × zm_S)) (scr : Nat × (Nat → Int32)) (rows : List zm_R) : Nat → zm_K (zm_T ⊕ zm_O)
  | 0 => fun _ _ _ _ => none
  | n + 1 => fun pc ls st h => match rows[pc]? with
    | none => none
    | some r => zstep env scr r pc ls st h (fun o => some (.inr o)) (zcont rows (zev env scr rows n))
def zE (env : List (zm_M × zm_S)) (scr : Nat × (Nat → Int32)) (rows : List zm_R) (t : zm_T) : Option (zm_T ⊕ zm_O) := zev env scr rows 4000 t.1 t.2.1 t.2.2.1 t.2.2.2
def zrun (env : List (zm_M × zm_S)) (scr : Nat × (Nat → Int32)) (rows : List zm_R) : Nat → zm_T → Option zm_O
  | 0, _ => none
  | n + 1, t => match zE env scr rows t with
    | some (.inl t2) => zrun env scr rows n t2
    | some (.inr o) => some o
    | none => none
/-- the run from t ends with o -/
def zRn (env : List (zm_M × zm_S)) (scr : Nat × (Nat → Int32)) (rows : List zm_R) (t : zm_T) (o : zm_O) : Prop := ∃ n, zrun env scr rows n t = some o
theorem zRn.head {env : List (zm_M × zm_S)} {scr : Nat × (Nat → Int32)} {rows : List zm_R} {t t2 : zm_T} {o : zm_O} (h : zE env scr rows t = some (.inl t2)) (k : zRn env scr rows t2 o) : zRn env scr rows t o := by
  obtain ⟨n, hn⟩ := k
  exact ⟨n + 1, by simp only [zrun, h]; exact hn⟩
theorem zRn.done {env : List (zm_M × zm_S)} {scr : Nat × (Nat → Int32)} {rows : List zm_R} {t : zm_T} {o : zm_O} (h : zE env scr rows t = some (.inr o)) : zRn env scr rows t o := ⟨1, by simp only [zrun, h]⟩
theorem zrun_mono {env : List (zm_M × zm_S)} {scr : Nat × (Nat → Int32)} {rows : List zm_R} {o : zm_O} : ∀ {n : Nat} {t : zm_T}, zrun env scr rows n t = some o → zrun env scr rows (n + 1) t = some o := by
  intro n
  induction n with
  | zero => intro t h; cases h
  | succ n ih =>
    intro t h
    rw [zrun] at h
    rw [zrun]
    cases e : zE env scr rows t with
    | none => rw [e] at h; cases h
    | some x =>
      rw [e] at h
      cases x with
      | inl t2 => exact ih h
      | inr o2 => exact h
theorem zrun_le {env : List (zm_M × zm_S)} {scr : Nat × (Nat → Int32)} {rows : List zm_R} {o : zm_O} {n k : Nat} {t : zm_T} (h : zrun env scr rows n t = some o) (hk : n ≤ k) : zrun env scr rows k t = some o := by
  induction hk with
  | refl => exact h
  | step _ ih => exact zrun_mono ih
theorem zRn.one {env : List (zm_M × zm_S)} {scr : Nat × (Nat → Int32)} {rows : List zm_R} {t : zm_T} {o o2 : zm_O} (h : zRn env scr rows t o) (h2 : zRn env scr rows t o2) : o = o2 := by
  obtain ⟨n, hn⟩ := h
  obtain ⟨k, hk⟩ := h2
  have h1 := zrun_le hn (Nat.le_max_left n k)
  have h3 := zrun_le hk (Nat.le_max_right n k)
  exact Option.some.inj (h1.symm.trans h3)
/-- the locals at a method's entry -/
def zarg : List Value → zm_L
  | [] => []
  | v :: vs => if v.category = 2 then some v :: none :: zarg vs else some v :: zarg vs
def zlok (n : Nat) (vs : List Value) : zm_L := zarg vs ++ List.replicate (n - (zarg vs).length) none
/-- what a method does, by its rows; sc: the script, for who reads it -/
noncomputable def zsem2 (sc : Nat × (Nat → Int32)) (env : List (zm_M × zm_S)) (rows : List zm_R) (nL : Nat) : zm_S := fun av h =>
  @dite (Option zm_O) ((zarg av).length ≤ nL ∧ ∃ o, zRn env sc rows (0, zlok nL av, [], h) o) (Classical.propDecidable _) (fun q => some q.2.choose) (fun _ => none)
noncomputable abbrev zsem (env : List (zm_M × zm_S)) (rows : List zm_R) (nL : Nat) : zm_S := zsem2 (0, fun _ => 0) env rows nL
theorem zsem2_of {sc : Nat × (Nat → Int32)} {env : List (zm_M × zm_S)} {rows : List zm_R} {nL : Nat} {av : List Value} {h : zm_H} {o : zm_O} (hn : (zarg av).length ≤ nL) (q : zRn env sc rows (0, zlok nL av, [], h) o) : zsem2 sc env rows nL av h = some o := by
  unfold zsem2
  rw [dif_pos ⟨hn, o, q⟩]
  exact congrArg some (zRn.one (Exists.choose_spec (⟨o, q⟩ : ∃ o, zRn env sc rows (0, zlok nL av, [], h) o)) q)
theorem zsem_of {env : List (zm_M × zm_S)} {rows : List zm_R} {nL : Nat} {av : List Value} {h : zm_H} {o : zm_O} (hn : (zarg av).length ≤ nL) (q : zRn env (0, fun _ => 0) rows (0, zlok nL av, [], h) o) : zsem env rows nL av h = some o := zsem2_of hn q
theorem zsem2_rn {sc : Nat × (Nat → Int32)} {env : List (zm_M × zm_S)} {rows : List zm_R} {nL : Nat} {av : List Value} {h : zm_H} {o : zm_O} (q : zsem2 sc env rows nL av h = some o) : (zarg av).length ≤ nL ∧ zRn env sc rows (0, zlok nL av, [], h) o := by
  unfold zsem2 at q
  split at q
  · rename_i hq
    rw [← Option.some.inj q]
    exact ⟨hq.1, hq.2.choose_spec⟩
  · cases q
end ZG
end
section
/-! WHAT A METHOD'S ROWS MUST KEEP TO; WHAT STAYS TRUE OF THE START; CONTRACTS. -/
section ZQ
theorem zokL_set {n : Nat} {la : zm_L} {i : Nat} {v : Option Value} (h : zokL n la) (hv : ∀ w, v = some w → zokV n w) : zokL n (la.set i v) := by
  intro w hw
  rcases List.mem_or_eq_of_mem_set hw with h1 | h1
  · exact h w h1
  · exact hv w h1.symm
theorem zokL_clr {n : Nat} {la : zm_L} {i : Nat} (h : zokL n la) : zokL n (zclr i la) := by
  cases i with
  | zero => exact h
  | succ i =>
    show zokL n (zclr1 i la)
    unfold zclr1
    split
    · split
      · exact zokL_set h (fun w hw => by cases hw)
      · exact h
    · exact h
theorem zokL_st1 {n : Nat} {la : zm_L} {i : Nat} {v : Value} (h : zokL n la) (hv : zokV n v) : zokL n (zst1 i v la) := zokL_set (zokL_clr h) (fun w hw => by cases hw; exact hv)
theorem zokL_st2 {n : Nat} {la : zm_L} {i : Nat} {v : Value} (h : zokL n la) (hv : zokV n v) : zokL n (zst2 i v la) := zokL_set (zokL_set (zokL_clr h) (fun w hw => by cases hw)) (fun w hw => by cases hw; exact hv)
theorem zokL_kill {n : Nat} (ks : List Nat) : ∀ {la : zm_L}, zokL n la → zokL n (zkill ks la) := by
  induction ks with
  | nil => intro la h; exact h
  | cons k ks ih => intro la h; exact ih (la := la.set k none) (zokL_set h (fun w hw => by cases hw))
theorem zokS_cons {n : Nat} {v : Value} {st : List Value} : zokS n (v :: st) ↔ zokV n v ∧ zokS n st := by simp [zokS]
theorem zokS_nil {n : Nat} : zokS n [] := fun v hv => by cases hv
theorem zokL_at {n : Nat} {la : zm_L} {i : Nat} {v : Value} (h : zokL n la) (hv : la[i]? = some (some v)) : zokV n v := h v (List.mem_of_getElem? hv)
set_option maxHeartbeats 2000000 in
theorem zpure_ok {i : Instr} {im : Int32} {il : Int64} {la la2 : zm_L} {st st2 : List Value} {n : Nat} (h : zpure i im il la st = some (la2, st2)) (hL : zokL n la) (hS : zokS n st) : zokL n la2 ∧ zokS n st2 := by
  cases i
  case iadd =>
    obtain ⟨x, y, s, rfl, rfl, rfl⟩ := zb32_inv h
    exact ⟨hL, zokS_cons.mpr ⟨trivial, (zokS_cons.mp (zokS_cons.mp hS).2).2⟩⟩
  case isub =>
    obtain ⟨x, y, s, rfl, rfl, rfl⟩ := zb32_inv h
    exact ⟨hL, zokS_cons.mpr ⟨trivial, (zokS_cons.mp (zokS_cons.mp hS).2).2⟩⟩
  case imul =>
    obtain ⟨x, y, s, rfl, rfl, rfl⟩ := zb32_inv h
    exact ⟨hL, zokS_cons.mpr ⟨trivial, (zokS_cons.mp (zokS_cons.mp hS).2).2⟩⟩
  case iand =>
    obtain ⟨x, y, s, rfl, rfl, rfl⟩ := zb32_inv h
    exact ⟨hL, zokS_cons.mpr ⟨trivial, (zokS_cons.mp (zokS_cons.mp hS).2).2⟩⟩
  case ior =>
    obtain ⟨x, y, s, rfl, rfl, rfl⟩ := zb32_inv h
    exact ⟨hL, zokS_cons.mpr ⟨trivial, (zokS_cons.mp (zokS_cons.mp hS).2).2⟩⟩
  case ixor =>
    obtain ⟨x, y, s, rfl, rfl, rfl⟩ := zb32_inv h
    exact ⟨hL, zokS_cons.mpr ⟨trivial, (zokS_cons.mp (zokS_cons.mp hS).2).2⟩⟩
  case ishl =>
    obtain ⟨x, y, s, rfl, rfl, rfl⟩ := zb32_inv h
    exact ⟨hL, zokS_cons.mpr ⟨trivial, (zokS_cons.mp (zokS_cons.mp hS).2).2⟩⟩
  case ishr =>
    obtain ⟨x, y, s, rfl, rfl, rfl⟩ := zb32_inv h
    exact ⟨hL, zokS_cons.mpr ⟨trivial, (zokS_cons.mp (zokS_cons.mp hS).2).2⟩⟩
  case iushr =>
    obtain ⟨x, y, s, rfl, rfl, rfl⟩ := zb32_inv h
    exact ⟨hL, zokS_cons.mpr ⟨trivial, (zokS_cons.mp (zokS_cons.mp hS).2).2⟩⟩
  case ladd =>
    obtain ⟨x, y, s, rfl, rfl, rfl⟩ := zb64_inv h
    exact ⟨hL, zokS_cons.mpr ⟨trivial, (zokS_cons.mp (zokS_cons.mp hS).2).2⟩⟩
  case lsub =>
    obtain ⟨x, y, s, rfl, rfl, rfl⟩ := zb64_inv h
    exact ⟨hL, zokS_cons.mpr ⟨trivial, (zokS_cons.mp (zokS_cons.mp hS).2).2⟩⟩
  case lmul =>
    obtain ⟨x, y, s, rfl, rfl, rfl⟩ := zb64_inv h
    exact ⟨hL, zokS_cons.mpr ⟨trivial, (zokS_cons.mp (zokS_cons.mp hS).2).2⟩⟩
  case land =>
    obtain ⟨x, y, s, rfl, rfl, rfl⟩ := zb64_inv h
    exact ⟨hL, zokS_cons.mpr ⟨trivial, (zokS_cons.mp (zokS_cons.mp hS).2).2⟩⟩
  case lor =>
    obtain ⟨x, y, s, rfl, rfl, rfl⟩ := zb64_inv h
    exact ⟨hL, zokS_cons.mpr ⟨trivial, (zokS_cons.mp (zokS_cons.mp hS).2).2⟩⟩
  case iload k =>
    obtain ⟨x, hv, rfl, rfl⟩ := zldI_inv h
    exact ⟨hL, zokS_cons.mpr ⟨zokL_at hL hv, hS⟩⟩
  case iload_n k =>
    obtain ⟨x, hv, rfl, rfl⟩ := zldI_inv h
    exact ⟨hL, zokS_cons.mpr ⟨zokL_at hL hv, hS⟩⟩
  case lload k =>
    obtain ⟨x, hv, rfl, rfl⟩ := zldL_inv h
    exact ⟨hL, zokS_cons.mpr ⟨zokL_at hL hv, hS⟩⟩
  case lload_n k =>
    obtain ⟨x, hv, rfl, rfl⟩ := zldL_inv h
    exact ⟨hL, zokS_cons.mpr ⟨zokL_at hL hv, hS⟩⟩
  case dload k =>
    obtain ⟨x, hv, rfl, rfl⟩ := zldD_inv h
    exact ⟨hL, zokS_cons.mpr ⟨zokL_at hL hv, hS⟩⟩
  case dload_n k =>
    obtain ⟨x, hv, rfl, rfl⟩ := zldD_inv h
    exact ⟨hL, zokS_cons.mpr ⟨zokL_at hL hv, hS⟩⟩
  case aload k =>
    obtain ⟨x, hv, rfl, rfl⟩ := zldA_inv h
    exact ⟨hL, zokS_cons.mpr ⟨zokL_at hL hv, hS⟩⟩
  case aload_n k =>
    obtain ⟨x, hv, rfl, rfl⟩ := zldA_inv h
    exact ⟨hL, zokS_cons.mpr ⟨zokL_at hL hv, hS⟩⟩
  case istore k =>
    obtain ⟨x, s, rfl, rfl, rfl⟩ := zsoI_inv h
    exact ⟨zokL_st1 hL (zokS_cons.mp hS).1, (zokS_cons.mp hS).2⟩
  case istore_n k =>
    obtain ⟨x, s, rfl, rfl, rfl⟩ := zsoI_inv h
    exact ⟨zokL_st1 hL (zokS_cons.mp hS).1, (zokS_cons.mp hS).2⟩
  case astore k =>
    obtain ⟨x, s, rfl, rfl, rfl⟩ := zsoA_inv h
    exact ⟨zokL_st1 hL (zokS_cons.mp hS).1, (zokS_cons.mp hS).2⟩
  case astore_n k =>
    obtain ⟨x, s, rfl, rfl, rfl⟩ := zsoA_inv h
    exact ⟨zokL_st1 hL (zokS_cons.mp hS).1, (zokS_cons.mp hS).2⟩
  case lstore k =>
    obtain ⟨x, s, rfl, rfl, rfl⟩ := zsoL_inv h
    exact ⟨zokL_st2 hL (zokS_cons.mp hS).1, (zokS_cons.mp hS).2⟩
  case lstore_n k =>
    obtain ⟨x, s, rfl, rfl, rfl⟩ := zsoL_inv h
    exact ⟨zokL_st2 hL (zokS_cons.mp hS).1, (zokS_cons.mp hS).2⟩
  case dstore k =>
    obtain ⟨x, s, rfl, rfl, rfl⟩ := zsoD_inv h
    exact ⟨zokL_st2 hL (zokS_cons.mp hS).1, (zokS_cons.mp hS).2⟩
  case dstore_n k =>
    obtain ⟨x, s, rfl, rfl, rfl⟩ := zsoD_inv h
    exact ⟨zokL_st2 hL (zokS_cons.mp hS).1, (zokS_cons.mp hS).2⟩
  case iconst z =>
    simp only [zpure] at h
    cases h
    exact ⟨hL, zokS_cons.mpr ⟨trivial, hS⟩⟩
  case bipush z =>
    simp only [zpure] at h
    cases h
    exact ⟨hL, zokS_cons.mpr ⟨trivial, hS⟩⟩
  case sipush z =>
    simp only [zpure] at h
    cases h
    exact ⟨hL, zokS_cons.mpr ⟨trivial, hS⟩⟩
  case lconst z =>
    simp only [zpure] at h
    cases h
    exact ⟨hL, zokS_cons.mpr ⟨trivial, hS⟩⟩
  case iinc k z =>
    simp only [zpure] at h
    split at h
    · cases h; exact ⟨zokL_st1 hL trivial, hS⟩
    · cases h
  case lshl =>
    simp only [zpure] at h
    split at h
    · cases h; exact ⟨hL, zokS_cons.mpr ⟨trivial, (zokS_cons.mp (zokS_cons.mp hS).2).2⟩⟩
    · cases h
  case lshr =>
    simp only [zpure] at h
    split at h
    · cases h; exact ⟨hL, zokS_cons.mpr ⟨trivial, (zokS_cons.mp (zokS_cons.mp hS).2).2⟩⟩
    · cases h
  case lcmp =>
    simp only [zpure] at h
    split at h
    · cases h; exact ⟨hL, zokS_cons.mpr ⟨trivial, (zokS_cons.mp (zokS_cons.mp hS).2).2⟩⟩
    · cases h
  case dcmp o =>
    simp only [zpure] at h
    split at h
    · cases h; exact ⟨hL, zokS_cons.mpr ⟨trivial, (zokS_cons.mp (zokS_cons.mp hS).2).2⟩⟩
    · cases h
  case i2l =>
    simp only [zpure] at h
    split at h
    · cases h; exact ⟨hL, zokS_cons.mpr ⟨trivial, (zokS_cons.mp hS).2⟩⟩
    · cases h
  case l2i =>
    simp only [zpure] at h
    split at h
    · cases h; exact ⟨hL, zokS_cons.mpr ⟨trivial, (zokS_cons.mp hS).2⟩⟩
    · cases h
  case i2b =>
    simp only [zpure] at h
    split at h
    · cases h; exact ⟨hL, zokS_cons.mpr ⟨trivial, (zokS_cons.mp hS).2⟩⟩
    · cases h
  case l2d =>
    simp only [zpure] at h
    split at h
    · cases h; exact ⟨hL, zokS_cons.mpr ⟨trivial, (zokS_cons.mp hS).2⟩⟩
    · cases h
  case i2f =>
    simp only [zpure] at h
    split at h
    · cases h; exact ⟨hL, zokS_cons.mpr ⟨trivial, (zokS_cons.mp hS).2⟩⟩
    · cases h
  case dconst n =>
    simp only [zpure] at h
    split at h
    · cases h; exact ⟨hL, zokS_cons.mpr ⟨trivial, hS⟩⟩
    · cases h
  case fconst n =>
    simp only [zpure] at h
    split at h
    · cases h; exact ⟨hL, zokS_cons.mpr ⟨trivial, hS⟩⟩
    · cases h
  case ineg =>
    simp only [zpure] at h
    split at h
    · cases h; exact ⟨hL, zokS_cons.mpr ⟨trivial, (zokS_cons.mp hS).2⟩⟩
    · cases h
  case i2c =>
    simp only [zpure] at h
    split at h
    · cases h; exact ⟨hL, zokS_cons.mpr ⟨trivial, (zokS_cons.mp hS).2⟩⟩
    · cases h
  case aconst_null =>
    simp only [zpure] at h
    cases h
    exact ⟨hL, zokS_cons.mpr ⟨trivial, hS⟩⟩
  case dup =>
    simp only [zpure] at h
    split at h
    · cases h; exact ⟨hL, zokS_cons.mpr ⟨trivial, hS⟩⟩
    · cases h; exact ⟨hL, zokS_cons.mpr ⟨(zokS_cons.mp hS).1, hS⟩⟩
    · cases h
  case dup2 =>
    simp only [zpure] at h
    split at h
    · cases h; exact ⟨hL, zokS_cons.mpr ⟨trivial, zokS_cons.mpr ⟨(zokS_cons.mp (zokS_cons.mp hS).2).1, hS⟩⟩⟩
    · cases h
  case dup_x1 =>
    simp only [zpure] at h
    split at h
    · cases h; exact ⟨hL, zokS_cons.mpr ⟨trivial, zokS_cons.mpr ⟨(zokS_cons.mp (zokS_cons.mp hS).2).1, zokS_cons.mpr ⟨trivial, (zokS_cons.mp (zokS_cons.mp hS).2).2⟩⟩⟩⟩
    · cases h
  case pop =>
    simp only [zpure] at h
    split at h
    · cases h; exact ⟨hL, (zokS_cons.mp hS).2⟩
    · cases h; exact ⟨hL, (zokS_cons.mp hS).2⟩
    · cases h
  all_goals (exact nomatch h)
/-- the strings: class, entry, text; the law's own first -/
def zstr : List (String × Nat × String) := [("KeyTourLaw", 47, "room r"), ("KeyTourLaw", 58, " key "), ("KeyTourLaw", 63, " coins "), ("KeyTourLaw", 65, ";"), ("KeyTourLaw", 67, "door r"), ("KeyTourLaw", 69, " r"), ("KeyTourLaw", 71, " toll "), ("KeyTourLaw", 73, " oneway"), ("KeyTourLaw", 75, "start r"), ("KeyTourLaw", 77, "end r"), ("KeyTour", 379, "room"), ("KeyTour", 386, "key"), ("KeyTour", 384, "door"), ("KeyTour", 73, "the input buffer is full"), ("KeyTour", 83, "length"), ("KeyTour", 142, "what"), ("KeyTour", 189, "the walk is not so long"), ("KeyTour", 392, "rank"), ("KeyTour", 390, "place"), ("KeyTour", 382, "both rooms are the same"), ("KeyTour", 306, "the walk cannot go on to this room"), ("KeyTour", 311, "rooms"), ("KeyTour", 312, "no tour begins with the walk"), ("KeyTour", 327, "coins"), ("KeyTour", 328, "kind"), ("KeyTour", 332, "number"), ("KeyTour", 333, "there are 20 doors"), ("KeyTour", 350, "there is nothing to undo")]
/-- words that are kept by rows of their own -/
def zspc : Cond → Bool
  | .castable _ _ => true | .methodLinkNest _ _ _ _ => true | .declares _ => true | _ => false
def zexs : List (Nat × Nat) := [(0, 1), (0, 2), (0, 3), (1, 0), (1, 2), (1, 3), (2, 0), (2, 1), (2, 3), (3, 0), (3, 1), (3, 2)]
/-- what stays true of the start in all its followers: strings, statics, the words that the lists don't hold -/
def zRO (sc : Nat × (Nat → Int32)) (A : Nat → Prop) (ad : Nat → Nat) (U : State) (H : Heap) : Prop :=
  (∀ w ∈ lw_tbl, zspc w = true → va_Nw w U) ∧ (∀ (k : Nat) (q : String × Nat × String), zstr[k]? = some q → vk_R q.1 q.2.1 q.2.2 (ad (1000000 + k)) U) ∧
  (∀ k, k < 10 → vk_S 1 [(zkey.getD k []).length] [zkey.getD k []] (fun _ => ad (1000000 + k)) (fun _ => ad (1000200 + k)) A U H) ∧
  (va_Z "java/lang/String" "COMPACT_STRINGS" "Z" (.int 1) A U H ∧ va_Zq "jdk/internal/util/Preconditions" "SIOOBE_FORMATTER" "Ljava/util/function/BiFunction;" A U H ∧
    va_T .int (ad 2000000) sc.1 (fun j => .int (sc.2 j)) A U H ∧ (∀ t, t < 2 → va_T .byte (ad (1000300 + t)) 100 (fun j => .int ((zdig t).getD j 0)) A U H) ∧
    va_Z "java/lang/Integer" "DigitOnes" "[B" (.ref (ad 1000300)) A U H ∧ va_Z "java/lang/Integer" "DigitTens" "[B" (.ref (ad 1000301)) A U H) ∧
  vx_Zq Bundle.tN "UNASSIGNED_STACK" Bundle.steD A U H ∧ vx_Zq Bundle.tN "SUPPRESSED_SENTINEL" Bundle.listD A U H ∧
  va_AO "KeyTour$Level" U ∧ (∀ q ∈ zexs, va_Nc (zex q.1) (zex q.2) U)
theorem zspc_warm {w : Cond} (h : zspc w = true) {s U : State} (hW : s.WarmedH U.vm) (hw : va_Nw w s) : va_Nw w U := by
  unfold zspc at h
  split at h
  · exact va_Nw.warmC hW hw
  · exact va_Nw.warmM hW hw
  · exact va_Nw.warmD hW hw
  · cases h
variable {sc : Nat × (Nat → Int32)}
theorem zRO_go {A B : Nat → Prop} {ad : Nat → Nat} {s U : State} {H : Heap} {locs : List Loc} (h : zRO sc A ad s s.heap) (hS : va_S A s.heap H locs) (hW : s.WarmedH U.vm) (hAB : ∀ q, B q → A q) : zRO sc B ad U H := by
  obtain ⟨h1, h2, h3, ⟨h41, h42, h43, h44, h45, h46⟩, h5, h6, h7, h8⟩ := h
  have hk : ∀ a : Nat, a < s.heap.size → ¬ A a → H[a]? = s.heap[a]? := hS.2.1
  have ha := hW.alike
  exact ⟨fun w hw hs => zspc_warm hs hW (h1 w hw hs), fun k q hq => (h2 k q hq).warm hW, fun k hk8 => ((((h3 k hk8).kept hk).narrow hAB).moved ha), ⟨((h41.kept hk).narrow hAB).moved ha, ((h42.kept hk).narrow hAB).moved ha, ((h43.kept hk).narrow hAB).moved ha, fun t ht => (((h44 t ht).kept hk).narrow hAB).moved ha, ((h45.kept hk).narrow hAB).moved ha, ((h46.kept hk).narrow hAB).moved ha⟩, ((h5.kept hk).narrow hAB).moved ha, ((h6.kept hk).narrow hAB).moved ha, h7.moved ha, fun q hq => (h8 q hq).moved ha⟩
theorem zRO_ad {A : Nat → Prop} {n : Nat} {ad ad2 : Nat → Nat} {U : State} {H : Heap} (he : zext n ad ad2) (h : zRO sc A ad U H) : zRO sc A ad2 U H := by
  have e : ∀ k, 1000000 ≤ k → ad2 k = ad k := fun k hk => he _ (Or.inr hk)
  obtain ⟨h1, h2, h3, ⟨h41, h42, h43, h44, h45, h46⟩, h5⟩ := h
  refine ⟨h1, fun k q hq => by rw [e _ (by omega)]; exact h2 k q hq, fun k hk => ?_, ⟨h41, h42, by rw [e _ (by omega)]; exact h43, fun t ht => by rw [e _ (by omega)]; exact h44 t ht, by rw [e _ (by omega)]; exact h45, by rw [e _ (by omega)]; exact h46⟩, h5⟩
  have := h3 k hk
  rw [show (fun _ : Nat => ad2 (1000000 + k)) = (fun _ => ad (1000000 + k)) from funext fun _ => e _ (by omega), show (fun _ : Nat => ad2 (1000200 + k)) = (fun _ => ad (1000200 + k)) from funext fun _ => e _ (by omega)]
  exact this
/-- the world at a call, and behind it -/
def zPre (sc : Nat × (Nat → Int32)) (D : va_G) (tc : Nat → ClassId) (ad : Nat → Nat) (h : zm_H) (sz : Nat) (U : State) : Prop :=
  U.heap.size = sz ∧ va_P D vwCl (zws tc ad h) U.heap ∧ va_K D vwCl (ztys tc) U ∧ va_D (fun _ => True) (zws tc ad h) ∧ zRO sc (va_A (zws tc ad h) sz) ad U U.heap
def zPst (D : va_G) (tc : Nat → ClassId) (ad : Nat → Nat) (h : zm_H) (sz : Nat) (ad2 : Nat → Nat) (h2 : zm_H) (t : State) : Prop :=
  zext (zN h) ad ad2 ∧ va_P D vwCl (zws tc ad2 h2) t.heap ∧ va_K D vwCl (ztys tc) t ∧ va_D (va_A (zws tc ad h) sz) (zws tc ad2 h2) ∧ zokH h2 ∧ zN h ≤ zN h2
/-- M does what S says: it answers as S does, in its room; it throws as S does, in its room for that -/
def MetA (sc : Nat × (Nat → Int32)) (l : Launch) (M : zm_M) (S : zm_S) : Prop :=
  ∀ (D : va_G) (tc : Nat → ClassId) (ad : Nat → Nat) (h : zm_H) (sz : Nat) (av : List Value), zokH h → zokS (zN h) av →
    (∀ (v : Option Value) (h2 : zm_H), S av h = some (.inl v, h2) → vx_Met l (zmY M) (zmWs M) (zmRoom M) (va_Pc (av.map (cv ad)) (zPre sc D tc ad h sz))
      (fun _ st oc t => (∃ (ad2 : Nat → Nat), oc = .returned (v.map (cv ad2)) ∧ zPst D tc ad h sz ad2 h2 t ∧ ∀ w, v = some w → zokV (zN h2) w) ∧ va_F (va_A (zws tc ad h) sz) st t)
      (fun _ _ _ => False) (zmC M) (zmS M) (va_A (zws tc ad h) sz)) ∧
    (∀ (x : Nat) (h2 : zm_H), S av h = some (.inr x, h2) → vx_Met l (zmY M) (zmWs M) (zmRoomT M) (va_Pc (av.map (cv ad)) (zPre sc D tc ad h sz)) (fun _ _ _ _ => False)
      (fun E st t => (∃ (ad2 : Nat → Nat), E = zex x ∧ zPst D tc ad h sz ad2 h2 t) ∧ va_F (va_A (zws tc ad h) sz) st t)
      (zmTc M) (zmTs M) (va_A (zws tc ad h) sz))
-- checks
def znx (rows : List zm_R) (i : Nat) (r : zm_R) (c s : Nat) : Bool := match rows[i + 1]? with
  | some r2 => decide (rP r2 = rP r + zlen (rI r)) && decide ((rN r).1 + c ≤ (rN r2).1) && decide ((rN r).2 + s ≤ (rN r2).2)
  | none => false
def ztg (rows : List zm_R) (r : zm_R) (t : Nat) (off : Int) : Bool := match rows[t]? with
  | some r2 => decide ((rP r : Int) + off = (rP r2 : Int)) && decide ((rN r).1 ≤ (rN r2).1) && decide ((rN r).2 ≤ (rN r2).2)
  | none => false
def zdec (b : ByteArray) (r : zm_R) : Bool := match rI r with
  | .tableswitch d lo hi offs => (match decode b (rP r) with | .ok (.tableswitch d2 lo2 hi2 offs2, _) => decide (d2 = d ∧ lo2 = lo ∧ hi2 = hi ∧ offs2 = offs) | _ => false)
  | i => decide (decode b (rP r) = .ok (i, zlen i))
def zslt (n : Nat) : Instr → Bool
  | .istore k => decide (k < n) | .astore k => decide (k < n) | .iinc k _ => decide (k < n)
  | .istore_n f => decide (f.val < n) | .astore_n f => decide (f.val < n)
  | .lstore k => decide (k + 1 < n) | .dstore k => decide (k + 1 < n)
  | .lstore_n f => decide (f.val + 1 < n) | .dstore_n f => decide (f.val + 1 < n)
  | _ => true
def zplain (y : MethodName) (n : Nat) : Bool := decide (y.cls ≠ "java/lang/invoke/MethodHandle") && decide (y.cls ≠ "java/lang/invoke/VarHandle") && decide ((parseMethodDescriptor y.desc).map (fun d => d.parameters.length) = some n)
def zref : Option FieldType → Bool
  | some (.object _) => true | some (.array _) => true | _ => false
/-- the constructor of NoSuchElementException: its link to its superclass's stands at another place than the others' -/
def zn6 : ByteArray := ⟨#[0x2a, 0x2b, 0xb7, 0x00, 0x0d, 0xb1]⟩
def znOwn (own : String) (ic : Nat) : List Cond :=
  Bundle.throwableAtoms ++ Bundle.throwableSAtoms ++ (Bundle.passSAtoms (zex 3) "java/lang/RuntimeException" 13 zn6 ++ Bundle.chainSAtoms "java/lang/RuntimeException" ["java/lang/Exception"]) ++
  [.methodLink own ic (Bundle.initS (zex 3)), .instantiable (zex 3) 6, .castable (zex 3) (zex 3), .selects (zex 3) Bundle.tFill0 Bundle.tFill0, .selects (zex 3) Bundle.tFill Bundle.tFill,
   .lays (zex 3) Bundle.tN "cause" "Ljava/lang/Throwable;", .lays (zex 3) Bundle.tN "stackTrace" Bundle.steD, .lays (zex 3) Bundle.tN "suppressedExceptions" Bundle.listD, .lays (zex 3) Bundle.tN "detailMessage" "Ljava/lang/String;",
   .isRef (.static Bundle.tN "UNASSIGNED_STACK" Bundle.steD), .isRef (.static Bundle.tN "SUPPRESSED_SENTINEL" Bundle.listD),
   .fieldLink Bundle.tN 198 Bundle.tN "backtrace" "Ljava/lang/Object;", .lays Bundle.tN Bundle.tN "backtrace" "Ljava/lang/Object;", .lays (zex 3) Bundle.tN "backtrace" "Ljava/lang/Object;"]
/-- the words of a throw -/
def zat (own : String) (ic : Nat) : Nat → List Cond
  | 3 => (znOwn own ic).filter vx_no
  | x => vx_atS own ic (zex x) ["java/lang/RuntimeException", "java/lang/Exception"]
def zkind (kd : Nat) (ir : Instr) (n th ci : Nat) (Mc : zm_M) : Bool := match kd, ir with
  | 7, .invokespecial _ => decide (n = zmN Mc + 1) && (zmH Mc).isEmpty && decide ((zmY Mc).name ≠ "<init>") && decide (th = 0)
  | 8, .invokevirtual _ => decide (n = zmN Mc + 1) && (zmH Mc).isEmpty && decide ((zmY Mc).cls = RJ5) && decide (th = 0)
  | 10, .invokevirtual _ => decide (n = zmN Mc + 1) && (zmH Mc).isEmpty && decide ((zmY Mc).name = "length" ∧ (zmY Mc).desc = "()I") && decide (th = 0)
  | 0, .invokevirtual _ => decide (n = zmN Mc + 1) && (zmH Mc).isEmpty && decide (ci < 8 ∧ zcN ci = (zmY Mc).cls)
  | 6, .invokevirtual _ => decide (n = zmN Mc + 1) && (zmH Mc).isEmpty && decide ((zmY Mc).cls = "java/lang/String")
  | 1, .invokestatic _ => decide (n = zmN Mc) && (zmH Mc).isEmpty && decide (th < 2)
  | 2, .invokespecial _ => decide (n = zmN Mc + 1) && (zmH Mc).isEmpty && decide ((zmY Mc).name = "<init>") && decide (zmR Mc = none) && decide (th = 0)
  | 3, .invokestatic _ => decide (n = zmN Mc) && (zmH Mc).isEmpty && decide (th = 0)
  | 4, .invokespecial _ => decide (n = zmN Mc + 1) && (zmH Mc).isEmpty && decide ((zmY Mc).name = "<init>") && decide (zmR Mc = none) && decide (th = 0)
  | 5, .invokestatic _ => decide (n = zmN Mc) && !(zmH Mc).isEmpty && decide (th = 0)
  | _, _ => false
/-- the handlers of a call: its triples against the method's table, in order -/
def zhck (rows : List zm_R) (r : zm_R) (nL cc ss : Nat) : List Nat → List (Nat × Nat × Nat × Nat) → List Nat → Bool
  | [], [], _ => true
  | E :: p :: j :: t, x :: hh, seen => (match rows[p]? with
      | some rp => (match rI rp with | .astore k => decide (k = j) | .astore_n f => decide (f.val = j) | _ => false) && decide (x.2.2.1 = rP rp) && (match rows[p + 1]? with | some r2 => decide (rP r2 = rP rp + zlen (rI rp)) && decide ((rN r).1 + cc ≤ (rN r2).1) && decide ((rN r).2 + ss ≤ (rN r2).2) | none => false)
      | none => false) && decide (x.1 ≤ rP r ∧ rP r < x.2.1) && decide (x.2.2.2 ≠ 0) && decide (E < 4 ∧ j < nL) && seen.all (fun E0 => decide ((E, E0) ∈ zexs)) && zhck rows r nL cc ss t hh (E :: seen)
  | _, _, _ => false
def zchk (own : String) (M : zm_M) (envM : List zm_M) (rows : List zm_R) (i : Nat) (r : zm_R) : Bool :=
  zdec (zmB M) r && (match rG r with
  | 0 => zimm (rI r) (rC r) (rL r) && zslt (zmL M) (rI r) && znx rows i r 0 0
  | 1 => (match rI r, rO r with
    | .goto o, [t] => ztg rows r t o
    | .ifCond _ o, [t] => ztg rows r t o && znx rows i r 0 0
    | .if_icmp _ o, [t] => ztg rows r t o && znx rows i r 0 0
    | .ifnonnull o, [t] => ztg rows r t o
    | .tableswitch d _ _ os, t0 :: ts => ztg rows r t0 d && decide (ts.length = os.size) && (List.range ts.length).all (fun j => ztg rows r (ts.getD j 0) (os.getD j 0))
    | _, _ => false)
  | 2 => (match rI r, rO r with
    | .getfield _, [ci, j, nf, cd] => decide (ci < 8) && decide (j < nf) && decide (nf = zcn ci) && decide (cd = zcode (zty ci j)) && znx rows i r 0 0
    | .putfield _, [ci, j, nf, cd] => decide (ci < 8) && decide (j < nf) && decide (nf = zcn ci) && (match cd with | 0 => decide (zty ci j = .int) | 4 => decide (zty ci j = .byte) | 3 => decide (zty ci j = .boolean) | 1 => decide (zty ci j = .long) | 2 => decide (zcode (zty ci j) = 2) | _ => false) && (match (zcT ci j).2.2.2 with | false => true | true => decide ((zmY M).name = "<init>") && decide ((zcT ci j).1 = own)) && znx rows i r 0 0
    | _, _ => false)
  | 3 => znx rows i r 0 0 && (match rO r with | [t] => decide (t < 6) || (decide (t = 9) && decide ((zmY M).name = "draw")) | _ => false)
  | 4 => (match rI r, rO r with
    | .new _, [ci, nf] => decide (ci < 8) && decide (nf = zcn ci) && znx rows i r 1 nf && decide ((rN r).1 + 1 ≤ zmC M) && decide ((rN r).2 + nf ≤ zmS M)
    | .newarray a, [kd, bd] => decide (kd < 5) && decide (a = zaty kd) && decide (bd ≤ 60000000) && znx rows i r 1 bd && decide ((rN r).1 + 1 ≤ zmC M) && decide ((rN r).2 + bd ≤ zmS M)
    | .anewarray _, [_, bd] => decide (bd ≤ 60000000) && znx rows i r 1 bd && decide ((rN r).1 + 1 ≤ zmC M) && decide ((rN r).2 + bd ≤ zmS M)
    | _, _ => false)
  | 5 => decide ((rN r).1 ≤ zmC M) && decide ((rN r).2 ≤ zmS M) && (match rI r, rO r with
    | .ireturn, [0] => decide (zmR M = some .int)
    | .ireturn, [1] => decide (zmR M = some .boolean)
    | .ireturn, [2] => decide (zmR M = some .byte)
    | .ireturn, [3] => decide (zmR M = some .char)
    | .lreturn, _ => decide (zmR M = some .long)
    | .dreturn, _ => decide (zmR M = some .double)
    | .freturn, _ => decide (zmR M = some .float)
    | .areturn, _ => zref (zmR M)
    | .return_, _ => decide (zmR M = none)
    | _, _ => false)
  | 6 => (match rO r with
    | kd :: e :: n :: _ :: th :: ci :: hs => (match envM[e]? with
      | some Mc => decide ((zmRoom Mc).frames + 1 ≤ (zmRoom M).frames) && decide (8 + (zmL Mc + 11) + (zmRoom Mc).locals ≤ (zmRoom M).locals) && zplain (zmY Mc) (zmN Mc) && znx rows i r (zmC Mc) (zmS Mc) && decide ((rN r).1 + zmC Mc ≤ zmC M) && decide ((rN r).2 + zmS Mc ≤ zmS M) &&
        zkind kd (rI r) n th ci Mc && (match th with | 0 => true | 1 => (zmH M).isEmpty && decide ((rN r).1 + zmTc Mc ≤ zmTc M) && decide ((rN r).2 + zmTs Mc ≤ zmTs M) | 2 => zhck rows r (zmL M) (zmTc Mc) (zmTs Mc) hs (zmH M) [] && decide ((rN r).1 + zmTc Mc ≤ zmC M) && decide ((rN r).2 + zmTs Mc ≤ zmS M) | _ => false)
      | none => false)
    | _ => false)
  | 7 => (match rO r with
    | [x, k, ik, is, ic, wd] => decide (x < 4) && decide (10 ≤ k ∧ k < 28) && decide ((zstr.getD k ("", 0, "")).1 = own ∧ (zstr.getD k ("", 0, "")).2.1 = is) && decide (rI r = .new ik) && decide (decode (zmB M) (rP r + 3) = .ok (.dup, 1)) && (match wd with | 0 => decide (decode (zmB M) (rP r + 4) = .ok (.ldc is, 2)) && decide (decode (zmB M) (rP r + 6) = .ok (.invokespecial ic, 3)) && decide (decode (zmB M) (rP r + 9) = .ok (.athrow, 1)) | _ => decide (decode (zmB M) (rP r + 4) = .ok (.ldc_w is, 3)) && decide (decode (zmB M) (rP r + 7) = .ok (.invokespecial ic, 3)) && decide (decode (zmB M) (rP r + 10) = .ok (.athrow, 1))) && (zmH M).isEmpty && Bundle.fit (zex x) && (Cond.classLink own ik (zex x) :: Cond.initialized (zex x) :: zat own ic x).all vx_ot && decide (6 ≤ (zmRoom M).frames) && decide (120 ≤ (zmRoom M).locals) && decide ((rN r).1 + 1 ≤ zmTc M) && decide ((rN r).2 + 6 ≤ zmTs M)
    | _ => false)
  | 8 => (match rI r with | .invokestatic _ => true | _ => false) && znx rows i r 0 0 && decide (1 ≤ (zmRoom M).frames) && decide (nativeFrameWords "java/lang/System" "arraycopy" 5 + 11 ≤ (zmRoom M).locals)
  | 9 => (match rI r, rO r with
    | .ldc is, [7, k] => decide (k < 28) && decide ((zstr.getD k ("", 0, "")).1 = own ∧ (zstr.getD k ("", 0, "")).2.1 = is) && znx rows i r 0 0
    | .ldc _, [0] => znx rows i r 0 0
    | .ldc_w _, [0] => znx rows i r 0 0
    | .ldc2_w _, [1] => znx rows i r 0 0
    | _, _ => false)
  | 10 => (match rI r with | .invokespecial _ => true | _ => false) && znx rows i r 0 0 && decide (1 ≤ (zmRoom M).frames) && decide (12 ≤ (zmRoom M).locals)
  | 11 => znx rows i r 0 0
  | 12 => true
  | 14 => (match rI r, rO r with
    | .getstatic _, [t] => decide (t < 3) && znx rows i r 0 0
    | .getfield _, [t] => decide (t < 2) && znx rows i r 0 0
    | .baload, [22] => znx rows i r 0 0
    | .arraylength, [22] => znx rows i r 0 0
    | .invokevirtual _, [bd] => znx rows i r 1 bd && decide ((rN r).1 + 1 ≤ zmC M) && decide ((rN r).2 + bd ≤ zmS M) && decide (1 ≤ (zmRoom M).frames) && decide (22 ≤ (zmRoom M).locals)
    | .checkcast _, [2] => znx rows i r 0 0
    | _, _ => false)
  | 15 => (match rI r with | .invokestatic _ => true | _ => false) && znx rows i r 0 0 && decide (1 ≤ (zmRoom M).frames) && decide (nativeFrameWords "java/lang/System" "arraycopy" 5 + 11 ≤ (zmRoom M).locals)
  | 13 => (match rI r with | .invokestatic _ => true | _ => false) && znx rows i r 0 0 && decide (1 ≤ (zmRoom M).frames) && decide (23 ≤ (zmRoom M).locals) && decide ((rN r).1 ≤ zmC M) && decide ((rN r).2 ≤ zmS M)
  | _ => false)
def zhwd (own : String) : List Nat → List (Nat × Nat × Nat × Nat) → List Cond
  | E :: _ :: _ :: t, x :: hh => .classLink own x.2.2.2 (zex E) :: zhwd own t hh
  | _, _ => []
def zhwx : List Nat → List Cond
  | E :: _ :: _ :: t => .castable (zex E) (zex E) :: zhwx t
  | _ => []
/-- a static, a text's field, by number -/
def zgsF : Nat → String × String × String
  | 0 => ("java/lang/String", "COMPACT_STRINGS", "Z") | 1 => ("java/lang/Integer", "DigitOnes", "[B") | _ => ("java/lang/Integer", "DigitTens", "[B")
def zgtF : Nat → String × String
  | 0 => ("value", "[B") | _ => ("coder", "B")
def zclo : MethodName := ⟨"java/lang/Object", "clone", "()Ljava/lang/Object;"⟩
def zcloB : MethodName := ⟨"[B", "clone", "()Ljava/lang/Object;"⟩
/-- the words that a row needs -/
def zwd (own : String) (M : zm_M) (envM : List zm_M) (r : zm_R) : List Cond := match rG r, rI r, rO r with
  | 2, .getfield x, [ci, j, _, _] => [.fieldLink own x (zcT ci j).1 (zcT ci j).2.1 (zcT ci j).2.2.1]
  | 2, .putfield x, [ci, j, _, _] => [.fieldLink own x (zcT ci j).1 (zcT ci j).2.1 (zcT ci j).2.2.1]
  | 4, .new x, [ci, _] => [.classLink own x (zcN ci), .instantiable (zcN ci) (zcn ci), .initialized (zcN ci)]
  | 4, .newarray a, _ => [.arrayClass (newarray.typeOf a)]
  | 4, .anewarray x, _ => [.classLink own x "KeyTour$Level"]
  | 6, .invokevirtual x, 8 :: e :: _ => (match envM[e]? with | some Mc => [.methodLink own x (zmY Mc), .sameMethod RJ5 RJ5 (zmY Mc).name (zmY Mc).desc, .selects RJ4 (zmY Mc) (zmY Mc), .instanceMethod (zmY Mc), .initialized (zmY Mc).cls, zmW Mc] | none => [])
  | 6, .invokevirtual x, 10 :: e :: _ => (match envM[e]? with | some Mc => [.methodLink own x yJ5_length_8abf5, .sameMethod RJ5 RJ5 "length" "()I", .instanceMethod yJ5_length_8abf5, .selects RJ4 yJ5_length_8abf5 (zmY Mc), .instanceMethod (zmY Mc), .initialized (zmY Mc).cls, .code yJ5_length_8abf5 cJ5_length_8abf5 1 (some .int), zmW Mc] | none => [])
  | 6, .invokespecial x, 7 :: e :: _ => (match envM[e]? with | some Mc => [.methodLink own x (zmY Mc), .sameMethod (zmY Mc).cls (zmY Mc).cls (zmY Mc).name (zmY Mc).desc, .superclass own (zmY Mc).cls, .instanceMethod (zmY Mc), .initialized (zmY Mc).cls, zmW Mc] | none => [])
  | 6, .invokevirtual x, _ :: e :: _ :: _ :: th :: _ :: hs => (match envM[e]? with | some Mc => [.methodLink own x (zmY Mc), .instanceMethod (zmY Mc), .selects (zmY Mc).cls (zmY Mc) (zmY Mc), .initialized (zmY Mc).cls, zmW Mc] ++ (match th with | 2 => zhwd own hs (zmH M) | _ => []) | none => [])
  | 6, .invokestatic x, 1 :: e :: _ => (match envM[e]? with | some Mc => [.methodLink own x (zmY Mc), .static (zmY Mc), .initialized (zmY Mc).cls, zmW Mc] | none => [])
  | 6, .invokespecial x, 2 :: e :: _ => (match envM[e]? with | some Mc => [.methodLink own x (zmY Mc), .instanceMethod (zmY Mc), .initialized (zmY Mc).cls, zmW Mc] | none => [])
  | 6, .invokestatic _, 3 :: e :: _ => (match envM[e]? with | some Mc => [.static (zmY Mc), .initialized (zmY Mc).cls, zmW Mc] | none => [])
  | 6, .invokespecial _, 4 :: e :: _ => (match envM[e]? with | some Mc => [.instanceMethod (zmY Mc), .initialized (zmY Mc).cls, zmW Mc] | none => [])
  | 6, .invokestatic x, 5 :: e :: _ => (match envM[e]? with | some Mc => [.methodLink own x (zmY Mc), .static (zmY Mc), .initialized (zmY Mc).cls, zmW Mc] | none => [])
  | 7, _, [x, _, ik, _, ic, _] => .classLink own ik (zex x) :: .initialized (zex x) :: (zat own ic x).filter goodWord
  | 8, .invokestatic x, _ => [.methodLink own x arraycopyName, .native arraycopyName, .static arraycopyName, .initialized "java/lang/System"]
  | 14, .getstatic x, [t] => [.fieldLink own x (zgsF t).1 (zgsF t).2.1 (zgsF t).2.2]
  | 14, .getfield x, [t] => [.fieldLink own x "java/lang/String" (zgtF t).1 (zgtF t).2]
  | 14, .invokevirtual x, _ => [.methodLink own x zcloB, .sameMethod "[B" "java/lang/Object" "clone" "()Ljava/lang/Object;", .native zclo, .instanceMethod zclo, .selects "[B" zcloB zclo]
  | 14, .checkcast x, _ => [.classLink own x "[B"]
  | 15, .invokestatic x, _ => [.methodLink own x arraycopyName, .native arraycopyName, .static arraycopyName, .initialized "java/lang/System"]
  | 9, .ldc x, [0] => [.constant own x (rC r)]
  | 9, .ldc_w x, [0] => [.constant own x (rC r)]
  | 9, .ldc2_w x, _ => [.constantLong own x (rL r)]
  | 13, .invokestatic x, [0] => [.methodLink own x Lib.Math.max.name, .static Lib.Math.max.name, .initialized "java/lang/Math", .code Lib.Math.max.name Lib.Math.max.code 2 (some .int)]
  | 13, .invokestatic x, [1] => [.methodLink own x Lib.Math.min.name, .static Lib.Math.min.name, .initialized "java/lang/Math", .code Lib.Math.min.name Lib.Math.min.code 2 (some .int)]
  | 13, .invokestatic x, [2] => [.methodLink own x Lib.MathLoose.max_long.x, .static Lib.MathLoose.max_long.x, .initialized "java/lang/Math", .code Lib.MathLoose.max_long.x Lib.MathLoose.max_long.code 4 (some .long)]
  | 10, .invokespecial x, _ => [.methodLink own x objectInit, .instanceMethod objectInit, .code objectInit ⟨#[0xb1]⟩ 1 none]
  | _, _, _ => []
/-- words of the other kind -/
def zwx (own : String) (M : zm_M) (envM : List zm_M) (r : zm_R) : List Cond := match rG r, rI r, rO r with
  | 6, .invokestatic x, 3 :: e :: _ => (match envM[e]? with | some Mc => [.methodLinkNest own x (zmY Mc) "KeyTour"] | none => [])
  | 6, .invokespecial x, 4 :: e :: _ => (match envM[e]? with | some Mc => [.methodLinkNest own x (zmY Mc) "KeyTour"] | none => [])
  | 6, .invokevirtual _, _ :: _ :: _ :: _ :: 2 :: _ :: hs => zhwx hs
  | 7, _, [x, _, _, _, ic, _] => (zat own ic x).filter (fun w => !goodWord w)
  | 14, .invokevirtual _, _ => [.castable "[B" "java/lang/Cloneable"]
  | _, _, _ => []
end ZQ
end
section
/-! ONE ABSTRACT STEP IS A STEP OF THE MACHINE, group by group. -/
section ZX
def zCx (p : Program) (l : Launch) (R : Room) (s : State) (m : MethodId) (args : Array Value) (meth : Method) (c : Code) (own : String) (M : zm_M) (D : va_G) (tc : Nat → ClassId) (A : Nat → Prop) : Prop :=
  p.tables.exec = Jvm.exec ∧ c.code = zmB M ∧ c.maxLocals = zmL M ∧ s.vm.findClass own = some m.cls ∧ (∀ w ∈ gT, w.before args s = true) ∧ va_K D vwCl (ztys tc) s ∧ (∀ q, s.heap.size ≤ q → A q) ∧ (zmRoom M).frames ≤ R.frames ∧ (zmRoom M).locals ≤ R.locals ∧ meth.locks = false ∧ l.stackTraces = false ∧ meth.name = (zmY M).name ∧ meth.sig.returnType = zmR M
theorem zdec_ok {b : ByteArray} {r : zm_R} (h : zdec b r = true) (hn : ∀ d lo hi o, rI r ≠ .tableswitch d lo hi o) : decode b (rP r) = .ok (rI r, zlen (rI r)) := by
  unfold zdec at h
  split at h
  · rename_i d lo hi o e; exact absurd e (hn d lo hi o)
  · exact of_decide_eq_true h
theorem znx_ok {rows : List zm_R} {i : Nat} {r : zm_R} {c s : Nat} (h : znx rows i r c s = true) : ∃ r2, rows[i + 1]? = some r2 ∧ rP r2 = rP r + zlen (rI r) ∧ (rN r).1 + c ≤ (rN r2).1 ∧ (rN r).2 + s ≤ (rN r2).2 := by
  unfold znx at h
  split at h
  · rename_i r2 e
    simp only [Bool.and_eq_true, decide_eq_true_eq] at h
    exact ⟨r2, e, h.1.1, h.1.2, h.2⟩
  · cases h
theorem ztg_ok {rows : List zm_R} {r : zm_R} {t : Nat} {off : Int} (h : ztg rows r t off = true) : ∃ r2, rows[t]? = some r2 ∧ (rP r : Int) + off = (rP r2 : Int) ∧ (rN r).1 ≤ (rN r2).1 ∧ (rN r).2 ≤ (rN r2).2 := by
  unfold ztg at h
  split at h
  · rename_i r2 e
    simp only [Bool.and_eq_true, decide_eq_true_eq] at h
    exact ⟨r2, e, h.1.1, h.1.2, h.2⟩
  · cases h
theorem zlt_of {n : Nat} {h : zm_H} (hh : ∀ a, zN h ≤ a → (zK h a).1 = n) {a : Nat} (hk : (zK h a).1 ≠ n) : a < zN h := by
  rcases Nat.lt_or_ge a (zN h) with q | q
  · exact q
  · exact absurd (hh a q) hk
end ZX
section ZY
variable {p : Program} {l : Launch} {e : Env} {R : Room} {s : State} {m : MethodId} {args : Array Value} {below : List Frame} {meth : Method} {c : Code} {H : Heap} {locs : List Loc} {Q : State → Prop}
variable {own : String} {M : zm_M} {envM : List zm_M} {D : va_G} {tc : Nat → ClassId} {ad : Nat → Nat} {A : Nat → Prop} {h : zm_H} {rows : List zm_R} {i : Nat} {r : zm_R} {la : zm_L} {st : List Value} {ls : Array Slot} {c0 s0 : Nat} {X : Type} {x : X} {k : zm_K X}
/-- on to the next row -/
theorem znext {cc sc : Nat} (hz : zN h ≤ zN h) (hn : znx rows i r cc sc = true)
    (kk : ∀ (i2 : Nat) (r2 : zm_R) (la2 : zm_L) (st2 : List Value) (h2 : zm_H) (ad2 : Nat → Nat) (H2 : Heap) (locs2 : List Loc) (ls2 : Array Slot), rows[i2]? = some r2 → k i2 la2 st2 h2 = some x → zext (zN h) ad ad2 → zN h ≤ zN h2 → zR D tc ad2 A s h2 H2 locs2 → zLh ad2 (zmL M) la2 ls2 → zokS (zN h2) st2 → zokL (zN h2) la2 → W p l e R s m args below meth c H2 locs2 (c0 + (rN r2).1) (s0 + (rN r2).2) Q (F0 m (rP r2) ls2 (st2.map (cv ad2))))
    {la2 : zm_L} {st2 : List Value} {h2 : zm_H} {ad2 : Nat → Nat} {H2 : Heap} {locs2 : List Loc} {ls2 : Array Slot} (hk : k (i + 1) la2 st2 h2 = some x) (he : zext (zN h) ad ad2) (hz2 : zN h ≤ zN h2) (hR2 : zR D tc ad2 A s h2 H2 locs2) (hl2 : zLh ad2 (zmL M) la2 ls2) (hS2 : zokS (zN h2) st2) (hL2 : zokL (zN h2) la2) :
    W p l e R s m args below meth c H2 locs2 (c0 + (rN r).1 + cc) (s0 + (rN r).2 + sc) Q (F0 m (rP r + zlen (rI r)) ls2 (st2.map (cv ad2))) := by
  obtain ⟨r2, e1, e2, e3, e4⟩ := znx_ok hn
  rw [← e2]
  exact W.widen (by omega) (by omega) (kk (i + 1) r2 la2 st2 h2 ad2 H2 locs2 ls2 e1 hk he hz2 hR2 hl2 hS2 hL2)
theorem zjump {t : Nat} {off : Int} (hn : ztg rows r t off = true)
    (kk : ∀ (i2 : Nat) (r2 : zm_R) (la2 : zm_L) (st2 : List Value) (h2 : zm_H) (ad2 : Nat → Nat) (H2 : Heap) (locs2 : List Loc) (ls2 : Array Slot), rows[i2]? = some r2 → k i2 la2 st2 h2 = some x → zext (zN h) ad ad2 → zN h ≤ zN h2 → zR D tc ad2 A s h2 H2 locs2 → zLh ad2 (zmL M) la2 ls2 → zokS (zN h2) st2 → zokL (zN h2) la2 → W p l e R s m args below meth c H2 locs2 (c0 + (rN r2).1) (s0 + (rN r2).2) Q (F0 m (rP r2) ls2 (st2.map (cv ad2))))
    {la2 : zm_L} {st2 : List Value} {h2 : zm_H} {ad2 : Nat → Nat} {H2 : Heap} {locs2 : List Loc} {ls2 : Array Slot} (hk : k t la2 st2 h2 = some x) (he : zext (zN h) ad ad2) (hz2 : zN h ≤ zN h2) (hR2 : zR D tc ad2 A s h2 H2 locs2) (hl2 : zLh ad2 (zmL M) la2 ls2) (hS2 : zokS (zN h2) st2) (hL2 : zokL (zN h2) la2) :
    ∃ tgt : Nat, (rP r : Int) + off = (tgt : Int) ∧ W p l e R s m args below meth c H2 locs2 (c0 + (rN r).1) (s0 + (rN r).2) Q (F0 m tgt ls2 (st2.map (cv ad2))) := by
  obtain ⟨r2, e1, e2, e3, e4⟩ := ztg_ok hn
  exact ⟨rP r2, e2, W.widen (by omega) (by omega) (kk t r2 la2 st2 h2 ad2 H2 locs2 ls2 e1 hk he hz2 hR2 hl2 hS2 hL2)⟩
set_option maxHeartbeats 1000000 in
theorem zs0 (C : zCx p l R s m args meth c own M D tc A) (hdc : zdec (zmB M) r = true) (hR : zR D tc ad A s h H locs) (hl : zLh ad (zmL M) la ls) (hS : zokS (zN h) st) (hL : zokL (zN h) la) (hi : zimm (rI r) (rC r) (rL r) = true) (hsl : zslt (zmL M) (rI r) = true) (hn : znx rows i r 0 0 = true) {la2 : zm_L} {st2 : List Value} (hp : zpure (rI r) (rC r) (rL r) la st = some (la2, st2)) (hk : k (i + 1) la2 st2 h = some x)
    (kk : ∀ (i2 : Nat) (r2 : zm_R) (la2 : zm_L) (st2 : List Value) (h2 : zm_H) (ad2 : Nat → Nat) (H2 : Heap) (locs2 : List Loc) (ls2 : Array Slot), rows[i2]? = some r2 → k i2 la2 st2 h2 = some x → zext (zN h) ad ad2 → zN h ≤ zN h2 → zR D tc ad2 A s h2 H2 locs2 → zLh ad2 (zmL M) la2 ls2 → zokS (zN h2) st2 → zokL (zN h2) la2 → W p l e R s m args below meth c H2 locs2 (c0 + (rN r2).1) (s0 + (rN r2).2) Q (F0 m (rP r2) ls2 (st2.map (cv ad2)))) : W p l e R s m args below meth c H locs (c0 + (rN r).1) (s0 + (rN r).2) Q (F0 m (rP r) ls (st.map (cv ad))) := by
  have hd := zdec_ok hdc (fun d lo hi o e9 => by rw [e9] at hp; cases hp)
  obtain ⟨hL2, hS2⟩ := zpure_ok hp hL hS
  refine zsim_pure (i := rI r) C.1 C.2.1 hd rfl hi hl (fun q => ⟨fun hq => ?_, fun hq => ?_⟩) hp (fun ls2 hl2 => znext (Nat.le_refl _) hn kk hk zext.rf (Nat.le_refl _) hR hl2 hS2 hL2)
  · rcases hq with e9 | e9 | ⟨z, e9⟩ | ⟨f, rfl, e9 | e9⟩ <;> (rw [e9] at hsl; exact of_decide_eq_true hsl)
  · rcases hq with e9 | e9 | ⟨f, rfl, e9 | e9⟩ <;> (rw [e9] at hsl; exact of_decide_eq_true hsl)
set_option maxHeartbeats 4000000 in
theorem zs1 (C : zCx p l R s m args meth c own M D tc A) (hdc : zdec (zmB M) r = true) (hR : zR D tc ad A s h H locs) (hl : zLh ad (zmL M) la ls) (hS : zokS (zN h) st) (hL : zokL (zN h) la) (hs : zg1 r i la st h k = some x) (hc : zchk own M envM rows i r = true) (hg : rG r = 1)
    (kk : ∀ (i2 : Nat) (r2 : zm_R) (la2 : zm_L) (st2 : List Value) (h2 : zm_H) (ad2 : Nat → Nat) (H2 : Heap) (locs2 : List Loc) (ls2 : Array Slot), rows[i2]? = some r2 → k i2 la2 st2 h2 = some x → zext (zN h) ad ad2 → zN h ≤ zN h2 → zR D tc ad2 A s h2 H2 locs2 → zLh ad2 (zmL M) la2 ls2 → zokS (zN h2) st2 → zokL (zN h2) la2 → W p l e R s m args below meth c H2 locs2 (c0 + (rN r2).1) (s0 + (rN r2).2) Q (F0 m (rP r2) ls2 (st2.map (cv ad2)))) : W p l e R s m args below meth c H locs (c0 + (rN r).1) (s0 + (rN r).2) Q (F0 m (rP r) ls (st.map (cv ad))) := by
  unfold zchk at hc
  rw [hg] at hc
  simp only [hdc, Bool.true_and] at hc
  have hx := C.1
  have hb := C.2.1
  unfold zg1 at hs
  split at hs
  · rename_i o t e1 e2
    rw [e1, e2] at hc
    have hd := zdec_ok hdc (fun d lo hi q e9 => by rw [e1] at e9; cases e9)
    rw [e1] at hd
    obtain ⟨tgt, ht, K⟩ := zjump hc kk hs zext.rf (Nat.le_refl _) hR hl hS hL
    exact lv_goto hx hb hd ht K
  · rename_i o t e1 e2
    rw [e1, e2] at hc
    simp only [Bool.and_eq_true] at hc
    have hd := zdec_ok hdc (fun d lo hi q e9 => by rw [e1] at e9; cases e9)
    rw [e1] at hd
    have hzl : zlen (rI r) = 3 := by rw [e1]; rfl
    split at hs
    · obtain ⟨r2, f1, f2, f3, f4⟩ := ztg_ok hc.1
      refine lv_if_eq hx hb hd f2 (fun cq => ?_) (fun cq => ?_)
      · first | rw [if_pos cq] at hs | rw [if_neg cq] at hs
        obtain ⟨tgt, ht, K⟩ := zjump hc.1 kk hs zext.rf (Nat.le_refl _) hR hl (zokS_cons.mp hS).2 hL
        have : tgt = rP r2 := by omega
        rw [← this]; exact K
      · first | rw [if_neg cq] at hs | rw [if_pos cq] at hs
        have K := znext (Nat.le_refl _) hc.2 kk hs zext.rf (Nat.le_refl _) hR hl (zokS_cons.mp hS).2 hL
        rw [hzl] at K
        exact K
    · cases hs
  · rename_i o t e1 e2
    rw [e1, e2] at hc
    simp only [Bool.and_eq_true] at hc
    have hd := zdec_ok hdc (fun d lo hi q e9 => by rw [e1] at e9; cases e9)
    rw [e1] at hd
    have hzl : zlen (rI r) = 3 := by rw [e1]; rfl
    split at hs
    · obtain ⟨r2, f1, f2, f3, f4⟩ := ztg_ok hc.1
      refine lv_if_ne hx hb hd f2 (fun cq => ?_) (fun cq => ?_)
      · first | rw [if_pos cq] at hs | rw [if_neg cq] at hs
        obtain ⟨tgt, ht, K⟩ := zjump hc.1 kk hs zext.rf (Nat.le_refl _) hR hl (zokS_cons.mp hS).2 hL
        have : tgt = rP r2 := by omega
        rw [← this]; exact K
      · first | rw [if_neg cq] at hs | rw [if_pos cq] at hs
        have K := znext (Nat.le_refl _) hc.2 kk hs zext.rf (Nat.le_refl _) hR hl (zokS_cons.mp hS).2 hL
        rw [hzl] at K
        exact K
    · cases hs
  · rename_i o t e1 e2
    rw [e1, e2] at hc
    simp only [Bool.and_eq_true] at hc
    have hd := zdec_ok hdc (fun d lo hi q e9 => by rw [e1] at e9; cases e9)
    rw [e1] at hd
    have hzl : zlen (rI r) = 3 := by rw [e1]; rfl
    split at hs
    · obtain ⟨r2, f1, f2, f3, f4⟩ := ztg_ok hc.1
      refine lv_if_lt hx hb hd f2 (fun cq => ?_) (fun cq => ?_)
      · first | rw [if_pos cq] at hs | rw [if_neg cq] at hs
        obtain ⟨tgt, ht, K⟩ := zjump hc.1 kk hs zext.rf (Nat.le_refl _) hR hl (zokS_cons.mp hS).2 hL
        have : tgt = rP r2 := by omega
        rw [← this]; exact K
      · first | rw [if_neg cq] at hs | rw [if_pos cq] at hs
        have K := znext (Nat.le_refl _) hc.2 kk hs zext.rf (Nat.le_refl _) hR hl (zokS_cons.mp hS).2 hL
        rw [hzl] at K
        exact K
    · cases hs
  · rename_i o t e1 e2
    rw [e1, e2] at hc
    simp only [Bool.and_eq_true] at hc
    have hd := zdec_ok hdc (fun d lo hi q e9 => by rw [e1] at e9; cases e9)
    rw [e1] at hd
    have hzl : zlen (rI r) = 3 := by rw [e1]; rfl
    split at hs
    · obtain ⟨r2, f1, f2, f3, f4⟩ := ztg_ok hc.1
      refine lv_if_ge hx hb hd f2 (fun cq => ?_) (fun cq => ?_)
      · first | rw [if_pos cq] at hs | rw [if_neg cq] at hs
        obtain ⟨tgt, ht, K⟩ := zjump hc.1 kk hs zext.rf (Nat.le_refl _) hR hl (zokS_cons.mp hS).2 hL
        have : tgt = rP r2 := by omega
        rw [← this]; exact K
      · first | rw [if_neg cq] at hs | rw [if_pos cq] at hs
        have K := znext (Nat.le_refl _) hc.2 kk hs zext.rf (Nat.le_refl _) hR hl (zokS_cons.mp hS).2 hL
        rw [hzl] at K
        exact K
    · cases hs
  · rename_i o t e1 e2
    rw [e1, e2] at hc
    simp only [Bool.and_eq_true] at hc
    have hd := zdec_ok hdc (fun d lo hi q e9 => by rw [e1] at e9; cases e9)
    rw [e1] at hd
    have hzl : zlen (rI r) = 3 := by rw [e1]; rfl
    split at hs
    · obtain ⟨r2, f1, f2, f3, f4⟩ := ztg_ok hc.1
      refine lv_if_gt hx hb hd f2 (fun cq => ?_) (fun cq => ?_)
      · first | rw [if_pos cq] at hs | rw [if_neg cq] at hs
        obtain ⟨tgt, ht, K⟩ := zjump hc.1 kk hs zext.rf (Nat.le_refl _) hR hl (zokS_cons.mp hS).2 hL
        have : tgt = rP r2 := by omega
        rw [← this]; exact K
      · first | rw [if_neg cq] at hs | rw [if_pos cq] at hs
        have K := znext (Nat.le_refl _) hc.2 kk hs zext.rf (Nat.le_refl _) hR hl (zokS_cons.mp hS).2 hL
        rw [hzl] at K
        exact K
    · cases hs
  · rename_i o t e1 e2
    rw [e1, e2] at hc
    simp only [Bool.and_eq_true] at hc
    have hd := zdec_ok hdc (fun d lo hi q e9 => by rw [e1] at e9; cases e9)
    rw [e1] at hd
    have hzl : zlen (rI r) = 3 := by rw [e1]; rfl
    split at hs
    · obtain ⟨r2, f1, f2, f3, f4⟩ := ztg_ok hc.1
      refine lv_if_le hx hb hd f2 (fun cq => ?_) (fun cq => ?_)
      · first | rw [if_pos cq] at hs | rw [if_neg cq] at hs
        obtain ⟨tgt, ht, K⟩ := zjump hc.1 kk hs zext.rf (Nat.le_refl _) hR hl (zokS_cons.mp hS).2 hL
        have : tgt = rP r2 := by omega
        rw [← this]; exact K
      · first | rw [if_neg cq] at hs | rw [if_pos cq] at hs
        have K := znext (Nat.le_refl _) hc.2 kk hs zext.rf (Nat.le_refl _) hR hl (zokS_cons.mp hS).2 hL
        rw [hzl] at K
        exact K
    · cases hs
  · rename_i o t e1 e2
    rw [e1, e2] at hc
    simp only [Bool.and_eq_true] at hc
    have hd := zdec_ok hdc (fun d lo hi q e9 => by rw [e1] at e9; cases e9)
    rw [e1] at hd
    have hzl : zlen (rI r) = 3 := by rw [e1]; rfl
    split at hs
    · obtain ⟨r2, f1, f2, f3, f4⟩ := ztg_ok hc.1
      refine lv_icmp_eq hx hb hd f2 (fun cq => ?_) (fun cq => ?_)
      · first | rw [if_pos cq] at hs | rw [if_neg cq] at hs
        obtain ⟨tgt, ht, K⟩ := zjump hc.1 kk hs zext.rf (Nat.le_refl _) hR hl (zokS_cons.mp (zokS_cons.mp hS).2).2 hL
        have : tgt = rP r2 := by omega
        rw [← this]; exact K
      · first | rw [if_neg cq] at hs | rw [if_pos cq] at hs
        have K := znext (Nat.le_refl _) hc.2 kk hs zext.rf (Nat.le_refl _) hR hl (zokS_cons.mp (zokS_cons.mp hS).2).2 hL
        rw [hzl] at K
        exact K
    · cases hs
  · rename_i o t e1 e2
    rw [e1, e2] at hc
    simp only [Bool.and_eq_true] at hc
    have hd := zdec_ok hdc (fun d lo hi q e9 => by rw [e1] at e9; cases e9)
    rw [e1] at hd
    have hzl : zlen (rI r) = 3 := by rw [e1]; rfl
    split at hs
    · obtain ⟨r2, f1, f2, f3, f4⟩ := ztg_ok hc.1
      refine lv_icmp_ne hx hb hd f2 (fun cq => ?_) (fun cq => ?_)
      · first | rw [if_pos cq] at hs | rw [if_neg cq] at hs
        obtain ⟨tgt, ht, K⟩ := zjump hc.1 kk hs zext.rf (Nat.le_refl _) hR hl (zokS_cons.mp (zokS_cons.mp hS).2).2 hL
        have : tgt = rP r2 := by omega
        rw [← this]; exact K
      · first | rw [if_neg cq] at hs | rw [if_pos cq] at hs
        have K := znext (Nat.le_refl _) hc.2 kk hs zext.rf (Nat.le_refl _) hR hl (zokS_cons.mp (zokS_cons.mp hS).2).2 hL
        rw [hzl] at K
        exact K
    · cases hs
  · rename_i o t e1 e2
    rw [e1, e2] at hc
    simp only [Bool.and_eq_true] at hc
    have hd := zdec_ok hdc (fun d lo hi q e9 => by rw [e1] at e9; cases e9)
    rw [e1] at hd
    have hzl : zlen (rI r) = 3 := by rw [e1]; rfl
    split at hs
    · obtain ⟨r2, f1, f2, f3, f4⟩ := ztg_ok hc.1
      refine lv_icmp_lt hx hb hd f2 (fun cq => ?_) (fun cq => ?_)
      · first | rw [if_pos cq] at hs | rw [if_neg cq] at hs
        obtain ⟨tgt, ht, K⟩ := zjump hc.1 kk hs zext.rf (Nat.le_refl _) hR hl (zokS_cons.mp (zokS_cons.mp hS).2).2 hL
        have : tgt = rP r2 := by omega
        rw [← this]; exact K
      · first | rw [if_neg cq] at hs | rw [if_pos cq] at hs
        have K := znext (Nat.le_refl _) hc.2 kk hs zext.rf (Nat.le_refl _) hR hl (zokS_cons.mp (zokS_cons.mp hS).2).2 hL
        rw [hzl] at K
        exact K
    · cases hs
  · rename_i o t e1 e2
    rw [e1, e2] at hc
    simp only [Bool.and_eq_true] at hc
    have hd := zdec_ok hdc (fun d lo hi q e9 => by rw [e1] at e9; cases e9)
    rw [e1] at hd
    have hzl : zlen (rI r) = 3 := by rw [e1]; rfl
    split at hs
    · obtain ⟨r2, f1, f2, f3, f4⟩ := ztg_ok hc.1
      refine lv_icmp_ge hx hb hd f2 (fun cq => ?_) (fun cq => ?_)
      · first | rw [if_pos cq] at hs | rw [if_neg cq] at hs
        obtain ⟨tgt, ht, K⟩ := zjump hc.1 kk hs zext.rf (Nat.le_refl _) hR hl (zokS_cons.mp (zokS_cons.mp hS).2).2 hL
        have : tgt = rP r2 := by omega
        rw [← this]; exact K
      · first | rw [if_neg cq] at hs | rw [if_pos cq] at hs
        have K := znext (Nat.le_refl _) hc.2 kk hs zext.rf (Nat.le_refl _) hR hl (zokS_cons.mp (zokS_cons.mp hS).2).2 hL
        rw [hzl] at K
        exact K
    · cases hs
  · rename_i o t e1 e2
    rw [e1, e2] at hc
    simp only [Bool.and_eq_true] at hc
    have hd := zdec_ok hdc (fun d lo hi q e9 => by rw [e1] at e9; cases e9)
    rw [e1] at hd
    have hzl : zlen (rI r) = 3 := by rw [e1]; rfl
    split at hs
    · obtain ⟨r2, f1, f2, f3, f4⟩ := ztg_ok hc.1
      refine lv_icmp_gt hx hb hd f2 (fun cq => ?_) (fun cq => ?_)
      · first | rw [if_pos cq] at hs | rw [if_neg cq] at hs
        obtain ⟨tgt, ht, K⟩ := zjump hc.1 kk hs zext.rf (Nat.le_refl _) hR hl (zokS_cons.mp (zokS_cons.mp hS).2).2 hL
        have : tgt = rP r2 := by omega
        rw [← this]; exact K
      · first | rw [if_neg cq] at hs | rw [if_pos cq] at hs
        have K := znext (Nat.le_refl _) hc.2 kk hs zext.rf (Nat.le_refl _) hR hl (zokS_cons.mp (zokS_cons.mp hS).2).2 hL
        rw [hzl] at K
        exact K
    · cases hs
  · rename_i o t e1 e2
    rw [e1, e2] at hc
    simp only [Bool.and_eq_true] at hc
    have hd := zdec_ok hdc (fun d lo hi q e9 => by rw [e1] at e9; cases e9)
    rw [e1] at hd
    have hzl : zlen (rI r) = 3 := by rw [e1]; rfl
    split at hs
    · obtain ⟨r2, f1, f2, f3, f4⟩ := ztg_ok hc.1
      refine lv_icmp_le hx hb hd f2 (fun cq => ?_) (fun cq => ?_)
      · first | rw [if_pos cq] at hs | rw [if_neg cq] at hs
        obtain ⟨tgt, ht, K⟩ := zjump hc.1 kk hs zext.rf (Nat.le_refl _) hR hl (zokS_cons.mp (zokS_cons.mp hS).2).2 hL
        have : tgt = rP r2 := by omega
        rw [← this]; exact K
      · first | rw [if_neg cq] at hs | rw [if_pos cq] at hs
        have K := znext (Nat.le_refl _) hc.2 kk hs zext.rf (Nat.le_refl _) hR hl (zokS_cons.mp (zokS_cons.mp hS).2).2 hL
        rw [hzl] at K
        exact K
    · cases hs
  · rename_i o t e1 e2
    rw [e1, e2] at hc
    have hd := zdec_ok hdc (fun d lo hi q e9 => by rw [e1] at e9; cases e9)
    rw [e1] at hd
    split at hs
    · rename_i a s9
      obtain ⟨tgt, ht, K⟩ := zjump hc kk hs zext.rf (Nat.le_refl _) hR hl (zokS_cons.mp hS).2 hL
      exact lv_ifnonnull hx hb hd ht K
    · cases hs
  · rename_i d lo hi os t0 ts e1 e2
    rw [e1, e2] at hc
    simp only [Bool.and_eq_true, decide_eq_true_eq, List.all_eq_true, List.mem_range] at hc
    obtain ⟨⟨hc0, hlen⟩, hts⟩ := hc
    obtain ⟨n9, hd⟩ : ∃ n9, decode (zmB M) (rP r) = .ok (.tableswitch d lo hi os, n9) := by
      unfold zdec at hdc
      rw [e1] at hdc
      simp only [] at hdc
      split at hdc
      · rename_i d2 lo2 hi2 os2 n2 e3
        obtain ⟨rfl, rfl, rfl, rfl⟩ := of_decide_eq_true hdc
        exact ⟨_, e3⟩
      · cases hdc
    split at hs
    · rename_i y s9
      split at hs
      · rename_i ho
        obtain ⟨tgt, ht, K⟩ := zjump hc0 kk hs zext.rf (Nat.le_refl _) hR hl (zokS_cons.mp hS).2 hL
        exact lv_tableOut hx hb hd ho ht K
      · rename_i ho
        split at hs
        · rename_i t e3
          have hj := (List.getElem?_eq_some_iff.mp e3).1
          have h9 := hts _ hj
          rw [show ts.getD (y.toInt - lo).toNat 0 = t by rw [List.getD_eq_getElem?_getD, e3]; rfl] at h9
          obtain ⟨tgt, ht, K⟩ := zjump h9 kk hs zext.rf (Nat.le_refl _) hR hl (zokS_cons.mp hS).2 hL
          refine lv_tableIn hx hb hd (fun q => ho (Or.inl q)) (fun q => ho (Or.inr q)) (off := os.getD (y.toInt - lo).toNat 0) ?_ ht K
          rw [Array.getD_eq_getD_getElem?]
          have h10 : (y.toInt - lo).toNat < os.size := by omega
          simp [h10]
        · cases hs
    · cases hs
  · cases hs
end ZY
end
section
/-! ONE ABSTRACT STEP IS A STEP OF THE MACHINE: fields, arrays, new cells, copies, constants. -/
section ZZ
theorem zok_lt {h : zm_H} (hk : zokH h) {a : Nat} : a < zN h ∨ zN h ≤ a := Nat.lt_or_ge _ _
end ZZ
section ZY2
variable {sc : Nat × (Nat → Int32)}
variable {p : Program} {l : Launch} {e : Env} {R : Room} {s : State} {m : MethodId} {args : Array Value} {below : List Frame} {meth : Method} {c : Code} {H : Heap} {locs : List Loc} {Q : State → Prop}
variable {own : String} {M : zm_M} {envM : List zm_M} {D : va_G} {tc : Nat → ClassId} {ad : Nat → Nat} {A : Nat → Prop} {h : zm_H} {rows : List zm_R} {i : Nat} {r : zm_R} {la : zm_L} {st : List Value} {ls : Array Slot} {c0 s0 : Nat} {X : Type} {x : X} {k : zm_K X}
theorem zK77 {h : zm_H} (hk : ∀ a, zN h ≤ a → (zK h a).1 = 77) {a n : Nat} (e : (zK h a).1 = n) (hn : n < 77) : a < zN h := by
  rcases Nat.lt_or_ge a (zN h) with q | q
  · exact q
  · have := hk a q; omega
set_option maxHeartbeats 4000000 in
theorem zs2 (C : zCx p l R s m args meth c own M D tc A) (hdc : zdec (zmB M) r = true) (hR : zR D tc ad A s h H locs) (hl : zLh ad (zmL M) la ls) (hS : zokS (zN h) st) (hL : zokL (zN h) la) (h77 : ∀ a, zN h ≤ a → (zK h a).1 = 77) (hwd : ∀ w ∈ zwd own M envM r, w ∈ gT) (hs : zg2 r i la st h k = some x) (hc : zchk own M envM rows i r = true) (hg : rG r = 2)
    (kk : ∀ (i2 : Nat) (r2 : zm_R) (la2 : zm_L) (st2 : List Value) (h2 : zm_H) (ad2 : Nat → Nat) (H2 : Heap) (locs2 : List Loc) (ls2 : Array Slot), rows[i2]? = some r2 → k i2 la2 st2 h2 = some x → zext (zN h) ad ad2 → zN h ≤ zN h2 → zR D tc ad2 A s h2 H2 locs2 → zLh ad2 (zmL M) la2 ls2 → zokS (zN h2) st2 → zokL (zN h2) la2 → W p l e R s m args below meth c H2 locs2 (c0 + (rN r2).1) (s0 + (rN r2).2) Q (F0 m (rP r2) ls2 (st2.map (cv ad2)))) : W p l e R s m args below meth c H locs (c0 + (rN r).1) (s0 + (rN r).2) Q (F0 m (rP r) ls (st.map (cv ad))) := by
  unfold zchk at hc
  rw [hg] at hc
  simp only [hdc, Bool.true_and] at hc
  have hx := C.1
  have hb := C.2.1
  have hts := C.2.2.2.2.1
  have hown := C.2.2.2.1
  have hK := C.2.2.2.2.2.1
  have hA := C.2.2.2.2.2.2.1
  unfold zg2 at hs
  split at hs
  · rename_i idx ci j nf cd e1 e2
    rw [e1, e2] at hc
    simp only [Bool.and_eq_true, decide_eq_true_eq] at hc
    obtain ⟨⟨⟨⟨hci, hj⟩, rfl⟩, hcd⟩, hn⟩ := hc
    have hd := zdec_ok hdc (fun d lo hi q e9 => by rw [e1] at e9; cases e9)
    have hzl : zlen (rI r) = 3 := by rw [e1]; rfl
    rw [e1] at hd
    have hlink := hwd (.fieldLink own idx (zcT ci j).1 (zcT ci j).2.1 (zcT ci j).2.2.1) (by unfold zwd; rw [hg, e1, e2]; exact List.mem_cons_self)
    split at hs
    · rename_i a s9
      obtain ⟨hk, hs⟩ := zgd_some hs
      have ha : a < zN h := zK77 h77 (congrArg Prod.fst hk) (by simp only []; omega)
      have hS2 := (zokS_cons.mp hS).2
      refine zsim_get hx hb hts hown hK hR hci hj ha hk hlink hd ?_
      rw [← hcd]
      split at hs
      · have K := znext (Nat.le_refl _) hn kk hs zext.rf (Nat.le_refl _) hR hl (zokS_cons.mpr ⟨trivial, hS2⟩) hL
        rw [hzl] at K
        exact K
      · split at hs
        · rename_i q hq
          have K := znext (Nat.le_refl _) hn kk hs zext.rf (Nat.le_refl _) hR hl (zokS_cons.mpr ⟨Or.inl (hR.2.2.2.1 _ _ _ hq), hS2⟩) hL
          rw [hzl] at K
          have ez : zfv ad h a j 2 = .ref (ad q) := by show va_rf ((zP h a j).map ad) = _; rw [hq]; rfl
          rw [ez]
          exact K
        · cases hs
      · rename_i n1 n2
        have K := znext (Nat.le_refl _) hn kk hs zext.rf (Nat.le_refl _) hR hl (zokS_cons.mpr ⟨trivial, hS2⟩) hL
        rw [hzl] at K
        have ez : zfv ad h a j cd = .int (zI h a j) := by
          unfold zfv
          split
          · rename_i q; exact absurd rfl n1
          · rename_i q; exact absurd rfl n2
          · rfl
        rw [ez]
        exact K
    · cases hs
  · rename_i idx ci j nf cd e1 e2
    rw [e1, e2] at hc
    simp only [Bool.and_eq_true, decide_eq_true_eq] at hc
    obtain ⟨⟨⟨⟨⟨hci, hj⟩, rfl⟩, hcd⟩, hfi⟩, hn⟩ := hc
    have hd := zdec_ok hdc (fun d lo hi q e9 => by rw [e1] at e9; cases e9)
    have hzl : zlen (rI r) = 3 := by rw [e1]; rfl
    rw [e1] at hd
    have hlink := hwd (.fieldLink own idx (zcT ci j).1 (zcT ci j).2.1 (zcT ci j).2.2.1) (by unfold zwd; rw [hg, e1, e2]; exact List.mem_cons_self)
    have hfin : (zcT ci j).2.2.2 = false ∨ ((zcT ci j).2.2.2 = true ∧ meth.name = "<init>" ∧ (zcT ci j).1 = own) := by
      split at hfi
      · rename_i hf; exact Or.inl hf
      · rename_i hf
        simp only [Bool.and_eq_true, decide_eq_true_eq] at hfi
        exact Or.inr ⟨hf, by rw [C.2.2.2.2.2.2.2.2.2.2.2.1]; exact hfi.1, hfi.2⟩
    split at hs
    · rename_i y a s9
      obtain ⟨hk, hs⟩ := zgd_some hs
      have ha : a < zN h := zK77 h77 (congrArg Prod.fst hk) (by simp only []; omega)
      refine zsim_putI hx hb hts hown hK hR hci hj ha hk hlink hfin (of_decide_eq_true hcd) hd (fun H1 locs1 hR1 => ?_)
      have K := znext (Nat.le_refl _) hn kk hs zext.rf (Nat.le_refl _) hR1 hl (zokS_cons.mp (zokS_cons.mp hS).2).2 hL
      rw [hzl] at K
      exact K
    · rename_i y a s9
      obtain ⟨⟨hk, hz⟩, hs⟩ := zgd_some hs
      have ha : a < zN h := zK77 h77 (congrArg Prod.fst hk) (by simp only []; omega)
      refine zsim_putZ hx hb hts hown hK hR hci hj ha hk hlink hfin (of_decide_eq_true hcd) hz hd (fun H1 locs1 hR1 => ?_)
      have K := znext (Nat.le_refl _) hn kk hs zext.rf (Nat.le_refl _) hR1 hl (zokS_cons.mp (zokS_cons.mp hS).2).2 hL
      rw [hzl] at K
      exact K
    · rename_i y a s9
      obtain ⟨⟨hk, hz⟩, hs⟩ := zgd_some hs
      have ha : a < zN h := zK77 h77 (congrArg Prod.fst hk) (by simp only []; omega)
      refine zsim_putB hx hb hts hown hK hR hci hj ha hk hlink hfin (of_decide_eq_true hcd) hz hd (fun H1 locs1 hR1 => ?_)
      have K := znext (Nat.le_refl _) hn kk hs zext.rf (Nat.le_refl _) hR1 hl (zokS_cons.mp (zokS_cons.mp hS).2).2 hL
      rw [hzl] at K
      exact K
    · rename_i y a s9
      obtain ⟨hk, hs⟩ := zgd_some hs
      have ha : a < zN h := zK77 h77 (congrArg Prod.fst hk) (by simp only []; omega)
      refine zsim_putJ hx hb hts hown hK hR hci hj ha hk hlink hfin (of_decide_eq_true hcd) hd (fun H1 locs1 hR1 => ?_)
      have K := znext (Nat.le_refl _) hn kk hs zext.rf (Nat.le_refl _) hR1 hl (zokS_cons.mp (zokS_cons.mp hS).2).2 hL
      rw [hzl] at K
      exact K
    · rename_i y a s9
      obtain ⟨⟨hk, hq⟩, hs⟩ := zgd_some hs
      have ha : a < zN h := zK77 h77 (congrArg Prod.fst hk) (by simp only []; omega)
      refine zsim_putP hx hb hts hown hK hR hci hj ha hk hlink hfin (of_decide_eq_true hcd) hq hd (fun H1 locs1 hR1 => ?_)
      have K := znext (Nat.le_refl _) hn kk hs zext.rf (Nat.le_refl _) hR1 hl (zokS_cons.mp (zokS_cons.mp hS).2).2 hL
      rw [hzl] at K
      exact K
    · cases hs
  · cases hs
set_option maxHeartbeats 8000000 in
theorem zs3 {scr : Nat × (Nat → Int32)} (C : zCx p l R s m args meth c own M D tc A) (hdc : zdec (zmB M) r = true) (hR : zR D tc ad A s h H locs) (hl : zLh ad (zmL M) la ls) (hS : zokS (zN h) st) (hL : zokL (zN h) la) (h77 : ∀ a, zN h ≤ a → (zK h a).1 = 77) (hscr : (zmY M).name = "draw" → scr = sc) (hRO : zRO sc A ad s s.heap) (hs : zg3 scr r i la st h k = some x) (hc : zchk own M envM rows i r = true) (hg : rG r = 3)
    (kk : ∀ (i2 : Nat) (r2 : zm_R) (la2 : zm_L) (st2 : List Value) (h2 : zm_H) (ad2 : Nat → Nat) (H2 : Heap) (locs2 : List Loc) (ls2 : Array Slot), rows[i2]? = some r2 → k i2 la2 st2 h2 = some x → zext (zN h) ad ad2 → zN h ≤ zN h2 → zR D tc ad2 A s h2 H2 locs2 → zLh ad2 (zmL M) la2 ls2 → zokS (zN h2) st2 → zokL (zN h2) la2 → W p l e R s m args below meth c H2 locs2 (c0 + (rN r2).1) (s0 + (rN r2).2) Q (F0 m (rP r2) ls2 (st2.map (cv ad2)))) : W p l e R s m args below meth c H locs (c0 + (rN r).1) (s0 + (rN r).2) Q (F0 m (rP r) ls (st.map (cv ad))) := by
  unfold zchk at hc
  rw [hg] at hc
  simp only [hdc, Bool.true_and] at hc
  have hx := C.1
  have hb := C.2.1
  have hts := C.2.2.2.2.1
  have hown := C.2.2.2.1
  have hK := C.2.2.2.2.2.1
  have hA := C.2.2.2.2.2.2.1
  simp only [Bool.and_eq_true] at hc
  have hn := hc.1
  have hc := hc.2
  unfold zg3 at hs
  split at hs
  · rename_i e1 e2
    have hd := zdec_ok hdc (fun d lo hi q e9 => by rw [e1] at e9; cases e9)
    have hzl : zlen (rI r) = 1 := by rw [e1]; rfl
    rw [e1] at hd
    split at hs
    · rename_i j a s9
      obtain ⟨⟨hk, hin⟩, hs⟩ := zgd_some hs
      have ha : a < zN h := zK77 h77 hk (by omega)
      have K := znext (Nat.le_refl _) hn kk hs zext.rf (Nat.le_refl _) hR hl (zokS_cons.mpr ⟨trivial, (zokS_cons.mp (zokS_cons.mp hS).2).2⟩) hL
      rw [hzl] at K
      exact zsim_iald hx hb hK hR ha hk hin hd K
    · cases hs
  · rename_i e1 e2
    have hd := zdec_ok hdc (fun d lo hi q e9 => by rw [e1] at e9; cases e9)
    have hzl : zlen (rI r) = 1 := by rw [e1]; rfl
    rw [e1] at hd
    split at hs
    · rename_i j a s9
      obtain ⟨⟨ha, hin⟩, hs2⟩ := zgd_some hs
      subst ha
      have K := znext (Nat.le_refl _) hn kk hs2 zext.rf (Nat.le_refl _) hR hl (zokS_cons.mpr ⟨trivial, (zokS_cons.mp (zokS_cons.mp hS).2).2⟩) hL
      rw [hzl] at K
      rw [e2] at hc
      simp only [Bool.or_eq_true, Bool.and_eq_true, decide_eq_true_eq] at hc
      have hq := hscr (hc.elim (fun q => absurd q (by omega)) (fun q => q.2))
      subst hq
      exact va_ti hx hb hRO.2.2.2.1.2.2.1 hR.2.2.1 hin rfl hd K
    · cases hs
  · rename_i e1 e2
    have hd := zdec_ok hdc (fun d lo hi q e9 => by rw [e1] at e9; cases e9)
    have hzl : zlen (rI r) = 1 := by rw [e1]; rfl
    rw [e1] at hd
    split at hs
    · rename_i j a s9
      obtain ⟨⟨hk, hin⟩, hs⟩ := zgd_some hs
      have ha : a < zN h := zK77 h77 hk (by omega)
      have K := znext (Nat.le_refl _) hn kk hs zext.rf (Nat.le_refl _) hR hl (zokS_cons.mpr ⟨trivial, (zokS_cons.mp (zokS_cons.mp hS).2).2⟩) hL
      rw [hzl] at K
      exact zsim_lald hx hb hK hR ha hk hin hd K
    · cases hs
  · rename_i e1 e2
    have hd := zdec_ok hdc (fun d lo hi q e9 => by rw [e1] at e9; cases e9)
    have hzl : zlen (rI r) = 1 := by rw [e1]; rfl
    rw [e1] at hd
    split at hs
    · rename_i j a s9
      obtain ⟨⟨hk, hin⟩, hs⟩ := zgd_some hs
      have ha : a < zN h := zK77 h77 hk (by omega)
      have K := znext (Nat.le_refl _) hn kk hs zext.rf (Nat.le_refl _) hR hl (zokS_cons.mpr ⟨trivial, (zokS_cons.mp (zokS_cons.mp hS).2).2⟩) hL
      rw [hzl] at K
      exact zsim_bald hx hb hK hR ha hk hin hd K
    · cases hs
  · rename_i e1 e2
    have hd := zdec_ok hdc (fun d lo hi q e9 => by rw [e1] at e9; cases e9)
    have hzl : zlen (rI r) = 1 := by rw [e1]; rfl
    rw [e1] at hd
    split at hs
    · rename_i j a s9
      obtain ⟨⟨hk, hin⟩, hs⟩ := zgd_some hs
      have ha : a < zN h := zK77 h77 hk (by omega)
      have K := znext (Nat.le_refl _) hn kk hs zext.rf (Nat.le_refl _) hR hl (zokS_cons.mpr ⟨trivial, (zokS_cons.mp (zokS_cons.mp hS).2).2⟩) hL
      rw [hzl] at K
      exact zsim_zald hx hb hK hR ha hk hin hd K
    · cases hs
  · rename_i e1 e2
    have hd := zdec_ok hdc (fun d lo hi q e9 => by rw [e1] at e9; cases e9)
    have hzl : zlen (rI r) = 1 := by rw [e1]; rfl
    rw [e1] at hd
    split at hs
    · rename_i j a s9
      obtain ⟨⟨hk, hin⟩, hs⟩ := zgd_some hs
      have ha : a < zN h := zK77 h77 hk (by omega)
      have K := znext (Nat.le_refl _) hn kk hs zext.rf (Nat.le_refl _) hR hl (zokS_cons.mpr ⟨trivial, (zokS_cons.mp (zokS_cons.mp hS).2).2⟩) hL
      rw [hzl] at K
      exact zsim_dald hx hb hK hR ha hk hin hd K
    · cases hs
  · rename_i e1 e2
    have hd := zdec_ok hdc (fun d lo hi q e9 => by rw [e1] at e9; cases e9)
    have hzl : zlen (rI r) = 1 := by rw [e1]; rfl
    rw [e1] at hd
    split at hs
    · rename_i j a s9
      obtain ⟨⟨hk, hin⟩, hs⟩ := zgd_some hs
      have ha : a < zN h := zK77 h77 hk (by omega)
      split at hs
      · rename_i q hq
        have K := znext (Nat.le_refl _) hn kk hs zext.rf (Nat.le_refl _) hR hl (zokS_cons.mpr ⟨Or.inl (hR.2.2.2.1 _ _ _ hq), (zokS_cons.mp (zokS_cons.mp hS).2).2⟩) hL
        rw [hzl] at K
        exact zsim_aald hx hb hK hR ha hk hin hq hd K
      · cases hs
    · cases hs
  · rename_i e1 e2
    have hd := zdec_ok hdc (fun d lo hi q e9 => by rw [e1] at e9; cases e9)
    have hzl : zlen (rI r) = 1 := by rw [e1]; rfl
    rw [e1] at hd
    split at hs
    · rename_i y j a s9
      obtain ⟨⟨hk, hin⟩, hs⟩ := zgd_some hs
      have ha : a < zN h := zK77 h77 hk (by omega)
      refine zsim_iast hx hb hK hR ha hk hin hd (fun H1 locs1 hR1 => ?_)
      have K := znext (Nat.le_refl _) hn kk hs zext.rf (Nat.le_refl _) hR1 hl (zokS_cons.mp (zokS_cons.mp (zokS_cons.mp hS).2).2).2 hL
      rw [hzl] at K
      exact K
    · cases hs
  · rename_i e1 e2
    have hd := zdec_ok hdc (fun d lo hi q e9 => by rw [e1] at e9; cases e9)
    have hzl : zlen (rI r) = 1 := by rw [e1]; rfl
    rw [e1] at hd
    split at hs
    · rename_i y j a s9
      obtain ⟨⟨hk, hin⟩, hs⟩ := zgd_some hs
      have ha : a < zN h := zK77 h77 hk (by omega)
      refine zsim_last hx hb hK hR ha hk hin hd (fun H1 locs1 hR1 => ?_)
      have K := znext (Nat.le_refl _) hn kk hs zext.rf (Nat.le_refl _) hR1 hl (zokS_cons.mp (zokS_cons.mp (zokS_cons.mp hS).2).2).2 hL
      rw [hzl] at K
      exact K
    · cases hs
  · rename_i e1 e2
    have hd := zdec_ok hdc (fun d lo hi q e9 => by rw [e1] at e9; cases e9)
    have hzl : zlen (rI r) = 1 := by rw [e1]; rfl
    rw [e1] at hd
    split at hs
    · rename_i y j a s9
      obtain ⟨⟨hk, hin⟩, hs⟩ := zgd_some hs
      have ha : a < zN h := zK77 h77 hk (by omega)
      refine zsim_bast hx hb hK hR ha hk hin hd (fun H1 locs1 hR1 => ?_)
      have K := znext (Nat.le_refl _) hn kk hs zext.rf (Nat.le_refl _) hR1 hl (zokS_cons.mp (zokS_cons.mp (zokS_cons.mp hS).2).2).2 hL
      rw [hzl] at K
      exact K
    · cases hs
  · rename_i e1 e2
    have hd := zdec_ok hdc (fun d lo hi q e9 => by rw [e1] at e9; cases e9)
    have hzl : zlen (rI r) = 1 := by rw [e1]; rfl
    rw [e1] at hd
    split at hs
    · rename_i y j a s9
      obtain ⟨⟨⟨hk, hin⟩, hz⟩, hs⟩ := zgd_some hs
      have ha : a < zN h := zK77 h77 hk (by omega)
      refine zsim_zast hx hb hK hR ha hk hin hz hd (fun H1 locs1 hR1 => ?_)
      have K := znext (Nat.le_refl _) hn kk hs zext.rf (Nat.le_refl _) hR1 hl (zokS_cons.mp (zokS_cons.mp (zokS_cons.mp hS).2).2).2 hL
      rw [hzl] at K
      exact K
    · cases hs
  · rename_i e1 e2
    have hd := zdec_ok hdc (fun d lo hi q e9 => by rw [e1] at e9; cases e9)
    have hzl : zlen (rI r) = 1 := by rw [e1]; rfl
    rw [e1] at hd
    split at hs
    · rename_i y j a s9
      obtain ⟨⟨hk, hin⟩, hs⟩ := zgd_some hs
      have ha : a < zN h := zK77 h77 hk (by omega)
      refine zsim_dast hx hb hK hR ha hk hin hd (fun H1 locs1 hR1 => ?_)
      have K := znext (Nat.le_refl _) hn kk hs zext.rf (Nat.le_refl _) hR1 hl (zokS_cons.mp (zokS_cons.mp (zokS_cons.mp hS).2).2).2 hL
      rw [hzl] at K
      exact K
    · cases hs
  · rename_i e1 e2
    have hd := zdec_ok hdc (fun d lo hi q e9 => by rw [e1] at e9; cases e9)
    have hzl : zlen (rI r) = 1 := by rw [e1]; rfl
    rw [e1] at hd
    split at hs
    · rename_i y j a s9
      obtain ⟨⟨⟨hk, hin⟩, hkq⟩, hs⟩ := zgd_some hs
      have hq : y < zN h := zK77 h77 hkq (by omega)
      have ha : a < zN h := zK77 h77 hk (by omega)
      refine zsim_aast hx hb hK hR ha hk hq hkq hin hd (fun H1 locs1 hR1 => ?_)
      have K := znext (Nat.le_refl _) hn kk hs zext.rf (Nat.le_refl _) hR1 hl (zokS_cons.mp (zokS_cons.mp (zokS_cons.mp hS).2).2).2 hL
      rw [hzl] at K
      exact K
    · cases hs
  · rename_i e1 e2
    have hd := zdec_ok hdc (fun d lo hi q e9 => by rw [e1] at e9; cases e9)
    have hzl : zlen (rI r) = 1 := by rw [e1]; rfl
    rw [e1] at hd
    split at hs
    · rename_i a s9
      obtain ⟨ha, hs2⟩ := zgd_some hs
      subst ha
      have K := znext (Nat.le_refl _) hn kk hs2 zext.rf (Nat.le_refl _) hR hl (zokS_cons.mpr ⟨trivial, (zokS_cons.mp hS).2⟩) hL
      rw [hzl] at K
      rw [e2] at hc
      simp only [Bool.or_eq_true, Bool.and_eq_true, decide_eq_true_eq] at hc
      have hq := hscr (hc.elim (fun q => absurd q (by omega)) (fun q => q.2))
      subst hq
      exact va_tlen hx hb hRO.2.2.2.1.2.2.1 hR.2.2.1 rfl hd K
    · cases hs
  · rename_i t n9 e1 e2
    have hd := zdec_ok hdc (fun d lo hi q e9 => by rw [e1] at e9; cases e9)
    have hzl : zlen (rI r) = 1 := by rw [e1]; rfl
    rw [e1] at hd
    rw [e2] at hc
    simp only [Bool.or_eq_true, Bool.and_eq_true, decide_eq_true_eq] at hc
    have ht : t < 6 := hc.elim id (fun q => absurd q.1 n9)
    split at hs
    · rename_i a s9
      obtain ⟨hk, hs⟩ := zgd_some hs
      have K := znext (Nat.le_refl _) hn kk hs zext.rf (Nat.le_refl _) hR hl (zokS_cons.mpr ⟨trivial, (zokS_cons.mp hS).2⟩) hL
      rw [hzl] at K
      exact zsim_alen hx hb hK hR (zK77 h77 hk (by omega)) hk ht hd K
    · cases hs
  · cases hs
set_option maxHeartbeats 4000000 in
theorem zs4 (C : zCx p l R s m args meth c own M D tc A) (hdc : zdec (zmB M) r = true) (hR : zR D tc ad A s h H locs) (hl : zLh ad (zmL M) la ls) (hS : zokS (zN h) st) (hL : zokL (zN h) la) (hRO : zRO sc A ad s s.heap) (hcR : c0 + zmC M ≤ R.cells) (hsR : s0 + zmS M ≤ R.slots) (hwd : ∀ w ∈ zwd own M envM r, w ∈ gT) (hs : zg4 r i la st h k = some x) (hc : zchk own M envM rows i r = true) (hg : rG r = 4)
    (kk : ∀ (i2 : Nat) (r2 : zm_R) (la2 : zm_L) (st2 : List Value) (h2 : zm_H) (ad2 : Nat → Nat) (H2 : Heap) (locs2 : List Loc) (ls2 : Array Slot), rows[i2]? = some r2 → k i2 la2 st2 h2 = some x → zext (zN h) ad ad2 → zN h ≤ zN h2 → zR D tc ad2 A s h2 H2 locs2 → zLh ad2 (zmL M) la2 ls2 → zokS (zN h2) st2 → zokL (zN h2) la2 → W p l e R s m args below meth c H2 locs2 (c0 + (rN r2).1) (s0 + (rN r2).2) Q (F0 m (rP r2) ls2 (st2.map (cv ad2)))) : W p l e R s m args below meth c H locs (c0 + (rN r).1) (s0 + (rN r).2) Q (F0 m (rP r) ls (st.map (cv ad))) := by
  unfold zchk at hc
  rw [hg] at hc
  simp only [hdc, Bool.true_and] at hc
  have hx := C.1
  have hb := C.2.1
  have hts := C.2.2.2.2.1
  have hown := C.2.2.2.1
  have hK := C.2.2.2.2.2.1
  have hA := C.2.2.2.2.2.2.1
  unfold zg4 at hs
  split at hs
  · rename_i idx ci nf e1 e2
    rw [e1, e2] at hc
    simp only [Bool.and_eq_true, decide_eq_true_eq] at hc
    obtain ⟨⟨⟨⟨hci, rfl⟩, hn⟩, h8⟩, h9⟩ := hc
    have hd := zdec_ok hdc (fun d lo hi q e9 => by rw [e1] at e9; cases e9)
    have hzl : zlen (rI r) = 3 := by rw [e1]; rfl
    rw [e1] at hd
    obtain ⟨hnn, hs⟩ := zgd_some hs
    have hw : ∀ w ∈ ([.classLink own idx (zcN ci), .instantiable (zcN ci) (zcn ci), .initialized (zcN ci)] : List Cond), w ∈ gT := fun w hw => hwd w (by unfold zwd; rw [hg, e1, e2]; exact hw)
    refine zsim_new hx hb hts hown hK hR hA hci ⟨hw _ (by simp), hw _ (by simp), hw _ (by simp)⟩ hnn (by omega) (by omega) hd (fun ad2 H1 he hR1 => ?_)
    have hz2 : zN h ≤ zN (znew h (ci + 6) (zcn ci)) := Nat.le_succ _
    have K := znext (Nat.le_refl _) hn kk hs he hz2 hR1 (hl.ext he hL) (zokS_cons.mpr ⟨Or.inl (Nat.lt_succ_self _), hS.mono hz2⟩) (hL.mono hz2)
    rw [hzl] at K
    rw [← cvs_ext he hS]
    exact K
  · rename_i at9 kd bd e1 e2
    rw [e1, e2] at hc
    simp only [Bool.and_eq_true, decide_eq_true_eq] at hc
    obtain ⟨⟨⟨⟨⟨hkd, rfl⟩, hbd⟩, hn⟩, h8⟩, h9⟩ := hc
    have hd := zdec_ok hdc (fun d lo hi q e9 => by rw [e1] at e9; cases e9)
    have hzl : zlen (rI r) = 2 := by rw [e1]; rfl
    rw [e1] at hd
    split at hs
    · rename_i n s9
      obtain ⟨⟨hnn, hn0, hnb⟩, hs⟩ := zgd_some hs
      have hw : Cond.arrayClass (newarray.typeOf (zaty kd)) ∈ gT := hwd _ (by unfold zwd; rw [hg, e1, e2]; exact List.mem_cons_self)
      refine zsim_newa hx hb hts hK hR hA hkd hw hnn hn0 rfl (by omega) (by omega) (by omega) hd (fun ad2 H1 he hR1 => ?_)
      have hz2 : zN h ≤ zN (znew h kd n.toNatClampNeg) := Nat.le_succ _
      have hS9 := (zokS_cons.mp hS).2
      have K := znext (Nat.le_refl _) hn kk hs he hz2 hR1 (hl.ext he hL) (zokS_cons.mpr ⟨Or.inl (Nat.lt_succ_self _), hS9.mono hz2⟩) (hL.mono hz2)
      rw [hzl] at K
      rw [← cvs_ext he hS9]
      exact W.widen (Nat.le_refl _) (by omega) K
    · cases hs
  · rename_i idx b9 bd e1 e2
    rw [e1, e2] at hc
    simp only [Bool.and_eq_true, decide_eq_true_eq] at hc
    obtain ⟨⟨⟨hbd, hn⟩, h8⟩, h9⟩ := hc
    have hd := zdec_ok hdc (fun d lo hi q e9 => by rw [e1] at e9; cases e9)
    have hzl : zlen (rI r) = 3 := by rw [e1]; rfl
    rw [e1] at hd
    split at hs
    · rename_i n s9
      obtain ⟨⟨hnn, hn0, hnb⟩, hs⟩ := zgd_some hs
      have hw : Cond.classLink own idx "KeyTour$Level" ∈ gT := hwd _ (by unfold zwd; rw [hg, e1, e2]; exact List.mem_cons_self)
      refine zsim_newq hx hb hts hown hK hR hA hw hRO.2.2.2.2.2.2.1 hnn hn0 rfl (by omega) (by omega) (by omega) hd (fun ad2 H1 he hR1 => ?_)
      have hz2 : zN h ≤ zN (znew h 5 n.toNatClampNeg) := Nat.le_succ _
      have hS9 := (zokS_cons.mp hS).2
      have K := znext (Nat.le_refl _) hn kk hs he hz2 hR1 (hl.ext he hL) (zokS_cons.mpr ⟨Or.inl (Nat.lt_succ_self _), hS9.mono hz2⟩) (hL.mono hz2)
      rw [hzl] at K
      rw [← cvs_ext he hS9]
      exact W.widen (Nat.le_refl _) (by omega) K
    · cases hs
  · cases hs
set_option maxHeartbeats 4000000 in
theorem zs8 (C : zCx p l R s m args meth c own M D tc A) (hdc : zdec (zmB M) r = true) (hR : zR D tc ad A s h H locs) (hl : zLh ad (zmL M) la ls) (hS : zokS (zN h) st) (hL : zokL (zN h) la) (h77 : ∀ a, zN h ≤ a → (zK h a).1 = 77) (hwd : ∀ w ∈ zwd own M envM r, w ∈ gT) (hs : zg8 r i la st h k = some x) (hc : zchk own M envM rows i r = true) (hg : rG r = 8)
    (kk : ∀ (i2 : Nat) (r2 : zm_R) (la2 : zm_L) (st2 : List Value) (h2 : zm_H) (ad2 : Nat → Nat) (H2 : Heap) (locs2 : List Loc) (ls2 : Array Slot), rows[i2]? = some r2 → k i2 la2 st2 h2 = some x → zext (zN h) ad ad2 → zN h ≤ zN h2 → zR D tc ad2 A s h2 H2 locs2 → zLh ad2 (zmL M) la2 ls2 → zokS (zN h2) st2 → zokL (zN h2) la2 → W p l e R s m args below meth c H2 locs2 (c0 + (rN r2).1) (s0 + (rN r2).2) Q (F0 m (rP r2) ls2 (st2.map (cv ad2)))) : W p l e R s m args below meth c H locs (c0 + (rN r).1) (s0 + (rN r).2) Q (F0 m (rP r) ls (st.map (cv ad))) := by
  unfold zchk at hc
  rw [hg] at hc
  simp only [hdc, Bool.true_and] at hc
  have hx := C.1
  have hb := C.2.1
  have hts := C.2.2.2.2.1
  have hown := C.2.2.2.1
  have hK := C.2.2.2.2.2.1
  have hA := C.2.2.2.2.2.2.1
  simp only [Bool.and_eq_true, decide_eq_true_eq] at hc
  obtain ⟨⟨⟨hc, hn⟩, hf1⟩, hf2⟩ := hc
  obtain ⟨idx, e1⟩ : ∃ idx, rI r = .invokestatic idx := by
    split at hc
    · exact ⟨_, by assumption⟩
    · cases hc
  have hd := zdec_ok hdc (fun d lo hi q e9 => by rw [e1] at e9; cases e9)
  have hzl : zlen (rI r) = 3 := by rw [e1]; rfl
  rw [e1] at hd
  have hw : ∀ w ∈ ([.methodLink own idx arraycopyName, .native arraycopyName, .static arraycopyName, .initialized "java/lang/System"] : List Cond), w ∈ gT := fun w hw => hwd w (by unfold zwd; rw [hg, e1]; exact hw)
  have hws := (⟨hw _ (by simp), hw _ (by simp), hw _ (by simp), hw _ (by simp)⟩ : Cond.methodLink own idx arraycopyName ∈ gT ∧ Cond.native arraycopyName ∈ gT ∧ Cond.static arraycopyName ∈ gT ∧ Cond.initialized "java/lang/System" ∈ gT)
  have hml : c.maxLocals = ls.size := C.2.2.1.trans hl.1.symm
  have hfr : 1 ≤ R.frames := Nat.le_trans hf1 C.2.2.2.2.2.2.2.1
  have hlo : (([] : List Value).map fun v => v.category).sum + (nativeFrameWords "java/lang/System" "arraycopy" 5 + 11) ≤ R.locals := by
    have := C.2.2.2.2.2.2.2.2.1
    simp only [List.map_nil, List.sum_nil, Nat.zero_add]
    exact Nat.le_trans hf2 this
  unfold zg8 at hs
  split at hs
  · rename_i n dp a sp a0 e2
    obtain ⟨⟨hk, hk0, h1, h2, h3, h4, h5⟩, hs⟩ := zgd_some hs
    refine zsim_copyi (rest := []) hx hb hml hown hts hws hK hR (zK77 h77 hk (by omega)) (zK77 h77 hk0 (by omega)) hk hk0 h1 h2 h3 h4 h5 (fun _ _ => rfl) hfr hlo hd (fun H1 locs1 hR1 => ?_)
    have K := znext (Nat.le_refl _) hn kk hs zext.rf (Nat.le_refl _) hR1 hl zokS_nil hL
    rw [hzl] at K
    exact K
  · rename_i n dp a sp a0 e2
    obtain ⟨⟨hk, hk0, h1, h2, h3, h4, h5⟩, hs⟩ := zgd_some hs
    refine zsim_copyl (rest := []) hx hb hml hown hts hws hK hR (zK77 h77 hk (by omega)) (zK77 h77 hk0 (by omega)) hk hk0 h1 h2 h3 h4 h5 (fun _ _ => rfl) hfr hlo hd (fun H1 locs1 hR1 => ?_)
    have K := znext (Nat.le_refl _) hn kk hs zext.rf (Nat.le_refl _) hR1 hl zokS_nil hL
    rw [hzl] at K
    exact K
  · rename_i n dp a sp a0 e2
    obtain ⟨⟨⟨hk, hk0, h1, h2, h3, h4, h5⟩, hft⟩, hs⟩ := zgd_some hs
    refine zsim_copyz (rest := []) hx hb hml hown hts hws hK hR (zK77 h77 hk (by omega)) (zK77 h77 hk0 (by omega)) hk hk0 h1 h2 h3 h4 h5 ((fun j hj => by rcases hft j hj with q | q <;> rw [q] <;> rfl)) hfr hlo hd (fun H1 locs1 hR1 => ?_)
    have K := znext (Nat.le_refl _) hn kk hs zext.rf (Nat.le_refl _) hR1 hl zokS_nil hL
    rw [hzl] at K
    exact K
  · cases hs
set_option maxHeartbeats 4000000 in
theorem zs9 (C : zCx p l R s m args meth c own M D tc A) (hdc : zdec (zmB M) r = true) (hR : zR D tc ad A s h H locs) (hl : zLh ad (zmL M) la ls) (hS : zokS (zN h) st) (hL : zokL (zN h) la) (hRO : zRO sc A ad s s.heap) (hwd : ∀ w ∈ zwd own M envM r, w ∈ gT) (hs : zg9 r i la st h k = some x) (hc : zchk own M envM rows i r = true) (hg : rG r = 9)
    (kk : ∀ (i2 : Nat) (r2 : zm_R) (la2 : zm_L) (st2 : List Value) (h2 : zm_H) (ad2 : Nat → Nat) (H2 : Heap) (locs2 : List Loc) (ls2 : Array Slot), rows[i2]? = some r2 → k i2 la2 st2 h2 = some x → zext (zN h) ad ad2 → zN h ≤ zN h2 → zR D tc ad2 A s h2 H2 locs2 → zLh ad2 (zmL M) la2 ls2 → zokS (zN h2) st2 → zokL (zN h2) la2 → W p l e R s m args below meth c H2 locs2 (c0 + (rN r2).1) (s0 + (rN r2).2) Q (F0 m (rP r2) ls2 (st2.map (cv ad2)))) : W p l e R s m args below meth c H locs (c0 + (rN r).1) (s0 + (rN r).2) Q (F0 m (rP r) ls (st.map (cv ad))) := by
  unfold zchk at hc
  rw [hg] at hc
  simp only [hdc, Bool.true_and] at hc
  have hx := C.1
  have hb := C.2.1
  have hts := C.2.2.2.2.1
  have hown := C.2.2.2.1
  have hK := C.2.2.2.2.2.1
  have hA := C.2.2.2.2.2.2.1
  have hstr : ∀ (ix j : Nat), j < 28 → (zstr.getD j ("", 0, "")).1 = own ∧ (zstr.getD j ("", 0, "")).2.1 = ix → ∃ tx, vk_R own ix tx (ad (1000000 + j)) s := by
    intro ix j hj hq
    obtain ⟨q, hq9⟩ : ∃ q, zstr[j]? = some q := ⟨_, List.getElem?_eq_getElem (by simpa [zstr] using hj)⟩
    have h9 := hRO.2.1 j q hq9
    rw [List.getD_eq_getElem?_getD, hq9] at hq
    simp only [Option.getD_some] at hq
    rw [← hq.1, ← hq.2]
    exact ⟨_, h9⟩
  unfold zg9 at hs
  split at hs
  · rename_i ix j e1 e2
    rw [e1, e2] at hc
    simp only [Bool.and_eq_true, decide_eq_true_eq] at hc
    have hd := zdec_ok hdc (fun d lo hi q e9 => by rw [e1] at e9; cases e9)
    have hzl : zlen (rI r) = 2 := by rw [e1]; rfl
    rw [e1] at hd
    obtain ⟨tx, hv⟩ := hstr ix j hc.1.1 hc.1.2
    have K := znext (Nat.le_refl _) hc.2 kk hs zext.rf (Nat.le_refl _) hR hl (zokS_cons.mpr ⟨Or.inr (Nat.le_add_right _ _), hS⟩) hL
    rw [hzl] at K
    exact va_ldcS hx hb hown hv hd K
  · rename_i ix e1 e2
    rw [e1, e2] at hc
    have hd := zdec_ok hdc (fun d lo hi q e9 => by rw [e1] at e9; cases e9)
    have hzl : zlen (rI r) = 2 := by rw [e1]; rfl
    rw [e1] at hd
    have K := znext (Nat.le_refl _) hc kk hs zext.rf (Nat.le_refl _) hR hl (zokS_cons.mpr ⟨trivial, hS⟩) hL
    rw [hzl] at K
    exact lv_ldc hx hb hown (hts _ (hwd (.constant own ix (rC r)) (by unfold zwd; rw [hg, e1, e2]; exact List.mem_cons_self))) hd K
  · rename_i ix e1 e2
    rw [e1, e2] at hc
    have hd := zdec_ok hdc (fun d lo hi q e9 => by rw [e1] at e9; cases e9)
    have hzl : zlen (rI r) = 3 := by rw [e1]; rfl
    rw [e1] at hd
    have K := znext (Nat.le_refl _) hc kk hs zext.rf (Nat.le_refl _) hR hl (zokS_cons.mpr ⟨trivial, hS⟩) hL
    rw [hzl] at K
    exact lv_ldcw hx hb hown (hts _ (hwd (.constant own ix (rC r)) (by unfold zwd; rw [hg, e1, e2]; exact List.mem_cons_self))) hd K
  · rename_i ix e1 e2
    rw [e1, e2] at hc
    have hd := zdec_ok hdc (fun d lo hi q e9 => by rw [e1] at e9; cases e9)
    have hzl : zlen (rI r) = 3 := by rw [e1]; rfl
    rw [e1] at hd
    have K := znext (Nat.le_refl _) hc kk hs zext.rf (Nat.le_refl _) hR hl (zokS_cons.mpr ⟨trivial, hS⟩) hL
    rw [hzl] at K
    exact lv_ldc2 hx hb hown (hts _ (hwd (.constantLong own ix (rL r)) (by unfold zwd; rw [hg, e1, e2]; exact List.mem_cons_self))) hd K
  · cases hs
set_option maxHeartbeats 4000000 in
theorem zs10 (C : zCx p l R s m args meth c own M D tc A) (hdc : zdec (zmB M) r = true) (hR : zR D tc ad A s h H locs) (hl : zLh ad (zmL M) la ls) (hS : zokS (zN h) st) (hL : zokL (zN h) la) (hwd : ∀ w ∈ zwd own M envM r, w ∈ gT) {a : Nat} (hst : st = [.ref a]) (hs : k (i + 1) la [] h = some x) (hc : zchk own M envM rows i r = true) (hg : rG r = 10)
    (kk : ∀ (i2 : Nat) (r2 : zm_R) (la2 : zm_L) (st2 : List Value) (h2 : zm_H) (ad2 : Nat → Nat) (H2 : Heap) (locs2 : List Loc) (ls2 : Array Slot), rows[i2]? = some r2 → k i2 la2 st2 h2 = some x → zext (zN h) ad ad2 → zN h ≤ zN h2 → zR D tc ad2 A s h2 H2 locs2 → zLh ad2 (zmL M) la2 ls2 → zokS (zN h2) st2 → zokL (zN h2) la2 → W p l e R s m args below meth c H2 locs2 (c0 + (rN r2).1) (s0 + (rN r2).2) Q (F0 m (rP r2) ls2 (st2.map (cv ad2)))) : W p l e R s m args below meth c H locs (c0 + (rN r).1) (s0 + (rN r).2) Q (F0 m (rP r) ls (st.map (cv ad))) := by
  unfold zchk at hc
  rw [hg] at hc
  simp only [hdc, Bool.true_and] at hc
  have hx := C.1
  have hb := C.2.1
  have hts := C.2.2.2.2.1
  have hown := C.2.2.2.1
  have hK := C.2.2.2.2.2.1
  have hA := C.2.2.2.2.2.2.1
  simp only [Bool.and_eq_true, decide_eq_true_eq] at hc
  obtain ⟨⟨⟨hc, hn⟩, hf1⟩, hf2⟩ := hc
  obtain ⟨idx, e1⟩ : ∃ idx, rI r = .invokespecial idx := by
    split at hc
    · exact ⟨_, by assumption⟩
    · cases hc
  have hd := zdec_ok hdc (fun d lo hi q e9 => by rw [e1] at e9; cases e9)
  have hzl : zlen (rI r) = 3 := by rw [e1]; rfl
  rw [e1] at hd
  have hw : ∀ w ∈ ([.methodLink own idx objectInit, .instanceMethod objectInit, .code objectInit ⟨#[0xb1]⟩ 1 none] : List Cond), w ∈ gT := fun w hw => hwd w (by unfold zwd; rw [hg, e1]; exact hw)
  subst hst
  have K := znext (Nat.le_refl _) hn kk hs zext.rf (Nat.le_refl _) hR hl zokS_nil hL
  rw [hzl] at K
  refine W.objInit hx hb hown (hts _ (hw _ (by simp))) (hts _ (hw _ (by simp))) (hts _ (hw _ (by simp))) (g := F0 m (rP r) ls [.ref (ad a)]) rfl (by show ls.size = _; rw [hl.1]; exact C.2.2.1.symm) (rest := []) rfl hd (Nat.le_trans hf1 C.2.2.2.2.2.2.2.1) ?_ K
  have := C.2.2.2.2.2.2.2.2.1
  show 2 * 0 + 0 + 12 ≤ _
  omega
set_option maxHeartbeats 4000000 in
theorem zs11 (C : zCx p l R s m args meth c own M D tc A) (hdc : zdec (zmB M) r = true) (hR : zR D tc ad A s h H locs) (hl : zLh ad (zmL M) la ls) (hS : zokS (zN h) st) (hL : zokL (zN h) la) (hs : zg11 r i la st h k = some x) (hc : zchk own M envM rows i r = true) (hg : rG r = 11)
    (kk : ∀ (i2 : Nat) (r2 : zm_R) (la2 : zm_L) (st2 : List Value) (h2 : zm_H) (ad2 : Nat → Nat) (H2 : Heap) (locs2 : List Loc) (ls2 : Array Slot), rows[i2]? = some r2 → k i2 la2 st2 h2 = some x → zext (zN h) ad ad2 → zN h ≤ zN h2 → zR D tc ad2 A s h2 H2 locs2 → zLh ad2 (zmL M) la2 ls2 → zokS (zN h2) st2 → zokL (zN h2) la2 → W p l e R s m args below meth c H2 locs2 (c0 + (rN r2).1) (s0 + (rN r2).2) Q (F0 m (rP r2) ls2 (st2.map (cv ad2)))) : W p l e R s m args below meth c H locs (c0 + (rN r).1) (s0 + (rN r).2) Q (F0 m (rP r) ls (st.map (cv ad))) := by
  unfold zchk at hc
  rw [hg] at hc
  simp only [hdc, Bool.true_and] at hc
  have hx := C.1
  have hb := C.2.1
  have hts := C.2.2.2.2.1
  have hown := C.2.2.2.1
  have hK := C.2.2.2.2.2.1
  have hA := C.2.2.2.2.2.2.1
  unfold zg11 at hs
  split at hs
  · rename_i y z s9 e1
    obtain ⟨hq, hs⟩ := zgd_some hs
    have hd := zdec_ok hdc (fun d lo hi q e9 => by rw [e1] at e9; cases e9)
    have hzl : zlen (rI r) = 1 := by rw [e1]; rfl
    rw [e1] at hd
    have K := znext (Nat.le_refl _) hc kk hs zext.rf (Nat.le_refl _) hR hl (zokS_cons.mpr ⟨trivial, (zokS_cons.mp (zokS_cons.mp hS).2).2⟩) hL
    rw [hzl] at K
    exact lv_idiv hx hb hd hq K
  · rename_i y z s9 e1
    obtain ⟨hq, hs⟩ := zgd_some hs
    have hd := zdec_ok hdc (fun d lo hi q e9 => by rw [e1] at e9; cases e9)
    have hzl : zlen (rI r) = 1 := by rw [e1]; rfl
    rw [e1] at hd
    have K := znext (Nat.le_refl _) hc kk hs zext.rf (Nat.le_refl _) hR hl (zokS_cons.mpr ⟨trivial, (zokS_cons.mp (zokS_cons.mp hS).2).2⟩) hL
    rw [hzl] at K
    exact lv_lrem hx hb hd hq K
  · rename_i y z s9 e1
    obtain ⟨hq, hs⟩ := zgd_some hs
    have hd := zdec_ok hdc (fun d lo hi q e9 => by rw [e1] at e9; cases e9)
    have hzl : zlen (rI r) = 1 := by rw [e1]; rfl
    rw [e1] at hd
    have K := znext (Nat.le_refl _) hc kk hs zext.rf (Nat.le_refl _) hR hl (zokS_cons.mpr ⟨trivial, (zokS_cons.mp (zokS_cons.mp hS).2).2⟩) hL
    rw [hzl] at K
    exact lv_irem hx hb hd hq K
  · rename_i y z s9 e1
    obtain ⟨hq, hs⟩ := zgd_some hs
    have hd := zdec_ok hdc (fun d lo hi q e9 => by rw [e1] at e9; cases e9)
    have hzl : zlen (rI r) = 1 := by rw [e1]; rfl
    rw [e1] at hd
    have K := znext (Nat.le_refl _) hc kk hs zext.rf (Nat.le_refl _) hR hl (zokS_cons.mpr ⟨trivial, (zokS_cons.mp (zokS_cons.mp hS).2).2⟩) hL
    rw [hzl] at K
    exact lv_fdiv hx hb hd hq K
  · rename_i y z s9 e1
    obtain ⟨hq, hs⟩ := zgd_some hs
    have hd := zdec_ok hdc (fun d lo hi q e9 => by rw [e1] at e9; cases e9)
    have hzl : zlen (rI r) = 1 := by rw [e1]; rfl
    rw [e1] at hd
    have K := znext (Nat.le_refl _) hc kk hs zext.rf (Nat.le_refl _) hR hl (zokS_cons.mpr ⟨trivial, (zokS_cons.mp (zokS_cons.mp hS).2).2⟩) hL
    rw [hzl] at K
    exact lv_ddiv hx hb hd hq K
  · rename_i y s9 e1
    obtain ⟨hq, hs⟩ := zgd_some hs
    have hd := zdec_ok hdc (fun d lo hi q e9 => by rw [e1] at e9; cases e9)
    have hzl : zlen (rI r) = 1 := by rw [e1]; rfl
    rw [e1] at hd
    have K := znext (Nat.le_refl _) hc kk hs zext.rf (Nat.le_refl _) hR hl (zokS_cons.mpr ⟨trivial, (zokS_cons.mp hS).2⟩) hL
    rw [hzl] at K
    exact lv_f2d hx hb hd hq K
  · cases hs
set_option maxHeartbeats 4000000 in
theorem zs13 (C : zCx p l R s m args meth c own M D tc A) (hdc : zdec (zmB M) r = true) (hR : zR D tc ad A s h H locs) (hl : zLh ad (zmL M) la ls) (hS : zokS (zN h) st) (hL : zokL (zN h) la) (hcR : c0 + zmC M ≤ R.cells) (hsR : s0 + zmS M ≤ R.slots) (hwd : ∀ w ∈ zwd own M envM r, w ∈ gT) (hs : zg13 r i la st h k = some x) (hc : zchk own M envM rows i r = true) (hg : rG r = 13)
    (kk : ∀ (i2 : Nat) (r2 : zm_R) (la2 : zm_L) (st2 : List Value) (h2 : zm_H) (ad2 : Nat → Nat) (H2 : Heap) (locs2 : List Loc) (ls2 : Array Slot), rows[i2]? = some r2 → k i2 la2 st2 h2 = some x → zext (zN h) ad ad2 → zN h ≤ zN h2 → zR D tc ad2 A s h2 H2 locs2 → zLh ad2 (zmL M) la2 ls2 → zokS (zN h2) st2 → zokL (zN h2) la2 → W p l e R s m args below meth c H2 locs2 (c0 + (rN r2).1) (s0 + (rN r2).2) Q (F0 m (rP r2) ls2 (st2.map (cv ad2)))) : W p l e R s m args below meth c H locs (c0 + (rN r).1) (s0 + (rN r).2) Q (F0 m (rP r) ls (st.map (cv ad))) := by
  unfold zchk at hc
  rw [hg] at hc
  simp only [hdc, Bool.true_and] at hc
  have hx := C.1
  have hb := C.2.1
  have hts := C.2.2.2.2.1
  have hown := C.2.2.2.1
  have hK := C.2.2.2.2.2.1
  have hA := C.2.2.2.2.2.2.1
  simp only [Bool.and_eq_true, decide_eq_true_eq] at hc
  obtain ⟨⟨⟨⟨⟨hc, hn⟩, hf1⟩, hf2⟩, hf3⟩, hf4⟩ := hc
  obtain ⟨idx, e1⟩ : ∃ idx, rI r = .invokestatic idx := by
    split at hc
    · exact ⟨_, by assumption⟩
    · cases hc
  have hd := zdec_ok hdc (fun d lo hi q e9 => by rw [e1] at e9; cases e9)
  have hzl : zlen (rI r) = 3 := by rw [e1]; rfl
  rw [e1] at hd
  have hml : c.maxLocals = ls.size := C.2.2.1.trans hl.1.symm
  have hfr : 1 ≤ R.frames := Nat.le_trans hf1 C.2.2.2.2.2.2.2.1
  have hlo := Nat.le_trans hf2 C.2.2.2.2.2.2.2.2.1
  have hsm : ∀ s9 : List Value, Nat.ble (s9.map fun v => v.category).sum 8 = true → ((s9.map (cv ad)).map fun v => v.category).sum ≤ 8 := fun s9 h9 => by
    rw [List.map_map, show ((fun v : Value => v.category) ∘ cv ad) = fun v => v.category from funext fun v => cv_cat ad v]
    exact Nat.ble_eq.mp h9
  unfold zg13 at hs
  split at hs
  · rename_i y z s9 e2
    split at hs
    · rename_i hb9
      have hw : ∀ w ∈ ([.methodLink own idx Lib.Math.max.name, .static Lib.Math.max.name, .initialized "java/lang/Math", .code Lib.Math.max.name Lib.Math.max.code 2 (some .int)] : List Cond), w ∈ gT := fun w hw => hwd w (by unfold zwd; rw [hg, e1, e2]; exact hw)
      have K := znext (Nat.le_refl _) hn kk hs zext.rf (Nat.le_refl _) hR hl (zokS_cons.mpr ⟨trivial, (zokS_cons.mp (zokS_cons.mp hS).2).2⟩) hL
      rw [hzl] at K
      have h8 := hsm s9 hb9
      exact va_mmax hx hb hml hown (hts _ (hw _ (by simp))) (hts _ (hw _ (by simp))) (hts _ (hw _ (by simp))) (hts _ (hw _ (by simp))) hfr (by omega) (by omega) (by omega) hd K
    · cases hs
  · rename_i y z s9 e2
    split at hs
    · rename_i hb9
      have hw : ∀ w ∈ ([.methodLink own idx Lib.Math.min.name, .static Lib.Math.min.name, .initialized "java/lang/Math", .code Lib.Math.min.name Lib.Math.min.code 2 (some .int)] : List Cond), w ∈ gT := fun w hw => hwd w (by unfold zwd; rw [hg, e1, e2]; exact hw)
      have K := znext (Nat.le_refl _) hn kk hs zext.rf (Nat.le_refl _) hR hl (zokS_cons.mpr ⟨trivial, (zokS_cons.mp (zokS_cons.mp hS).2).2⟩) hL
      rw [hzl] at K
      have h8 := hsm s9 hb9
      exact va_mmin hx hb hml hown (hts _ (hw _ (by simp))) (hts _ (hw _ (by simp))) (hts _ (hw _ (by simp))) (hts _ (hw _ (by simp))) hfr (by omega) (by omega) (by omega) hd K
    · cases hs
  · rename_i y z s9 e2
    split at hs
    · rename_i hb9
      have hw : ∀ w ∈ ([.methodLink own idx Lib.MathLoose.max_long.x, .static Lib.MathLoose.max_long.x, .initialized "java/lang/Math", .code Lib.MathLoose.max_long.x Lib.MathLoose.max_long.code 4 (some .long)] : List Cond), w ∈ gT := fun w hw => hwd w (by unfold zwd; rw [hg, e1, e2]; exact hw)
      have K := znext (Nat.le_refl _) hn kk hs zext.rf (Nat.le_refl _) hR hl (zokS_cons.mpr ⟨trivial, (zokS_cons.mp (zokS_cons.mp hS).2).2⟩) hL
      rw [hzl] at K
      have h8 := hsm s9 hb9
      exact va_mmax_long hx hb hml hown (hts _ (hw _ (by simp))) (hts _ (hw _ (by simp))) (hts _ (hw _ (by simp))) (hts _ (hw _ (by simp))) hfr (by omega) (by omega) (by omega) hd K
    · cases hs
  · cases hs
theorem zokV_ro {n k : Nat} (h : 1000000 ≤ k) : zokV n (.ref k) := Or.inr h
theorem zro_a {a : Nat} (h : 1000000 ≤ a ∧ a < 1000010) : 1000000 + (a - 1000000) = a ∧ 1000200 + (a - 1000000) = a + 200 ∧ a - 1000000 < 10 ∧ 1000000 ≤ a + 200 := by omega
theorem zro_t {t : Nat} : 1000000 ≤ 1000299 + t := by omega
theorem zdig_len : ∀ t, t < 2 → (zdig t).length = 100 := fun t _ => by simp [zdig]
/-- what is read alone lies there -/
theorem zro_T {U : State} {Hh : Heap} (hRO : zRO sc A ad U Hh) {a : Nat} {bs : List Int32} (h : zro a = some bs) : va_T .byte (ad a) bs.length (fun j => .int (bs.getD j 0)) A U Hh := by
  unfold zro at h
  split at h
  · rename_i q
    obtain rfl := Option.some.inj h
    have h1 := ((hRO.2.2.1 (a - 1000200) (by omega)).1 0 (by omega)).2.2.2
    rw [show (1000200 + (a - 1000200)) = a by omega] at h1
    obtain ⟨bs, hbs⟩ : ∃ bs, bs = zkey.getD (a - 1000200) [] := ⟨_, rfl⟩
    rw [← hbs] at h1 ⊢
    exact h1
  · split at h
    · rename_i q
      obtain rfl := Option.some.inj h
      have h1 := hRO.2.2.2.1.2.2.2.1 0 (by omega)
      rw [zdig_len 0 (by omega), q]
      exact h1
    · split at h
      · rename_i q
        obtain rfl := Option.some.inj h
        have h1 := hRO.2.2.2.1.2.2.2.1 1 (by omega)
        rw [zdig_len 1 (by omega), q]
        exact h1
      · cases h
theorem zbl_cases {a n : Nat} (h9 : zbl h a = some n) : (∃ bs, zro a = some bs ∧ n = bs.length ∧ zby h a = fun i => bs.getD i 0) ∨ (zro a = none ∧ (zK h a).1 = 2 ∧ n = (zK h a).2 ∧ zby h a = zI h a) := by
  unfold zbl at h9
  split at h9
  · rename_i bs e
    cases h9
    exact Or.inl ⟨bs, e, rfl, funext fun i => by unfold zby; rw [e]⟩
  · rename_i e
    split at h9
    · rename_i q
      cases h9
      exact Or.inr ⟨e, q, rfl, funext fun i => by unfold zby; rw [e]⟩
    · cases h9
set_option maxHeartbeats 8000000 in
theorem zs14 (C : zCx p l R s m args meth c own M D tc A) (hdc : zdec (zmB M) r = true) (hR : zR D tc ad A s h H locs) (hl : zLh ad (zmL M) la ls) (hS : zokS (zN h) st) (hL : zokL (zN h) la) (h77 : ∀ a, zN h ≤ a → (zK h a).1 = 77) (hRO : zRO sc A ad s s.heap) (hcR : c0 + zmC M ≤ R.cells) (hsR : s0 + zmS M ≤ R.slots) (hwd : ∀ w ∈ zwd own M envM r, w ∈ gT) (hwx : ∀ w ∈ zwx own M envM r, va_Nw w s) (hs : zg14 r i la st h k = some x) (hc : zchk own M envM rows i r = true) (hg : rG r = 14)
    (kk : ∀ (i2 : Nat) (r2 : zm_R) (la2 : zm_L) (st2 : List Value) (h2 : zm_H) (ad2 : Nat → Nat) (H2 : Heap) (locs2 : List Loc) (ls2 : Array Slot), rows[i2]? = some r2 → k i2 la2 st2 h2 = some x → zext (zN h) ad ad2 → zN h ≤ zN h2 → zR D tc ad2 A s h2 H2 locs2 → zLh ad2 (zmL M) la2 ls2 → zokS (zN h2) st2 → zokL (zN h2) la2 → W p l e R s m args below meth c H2 locs2 (c0 + (rN r2).1) (s0 + (rN r2).2) Q (F0 m (rP r2) ls2 (st2.map (cv ad2)))) : W p l e R s m args below meth c H locs (c0 + (rN r).1) (s0 + (rN r).2) Q (F0 m (rP r) ls (st.map (cv ad))) := by
  unfold zchk at hc
  rw [hg] at hc
  simp only [hdc, Bool.true_and] at hc
  have hx := C.1
  have hb := C.2.1
  have hts := C.2.2.2.2.1
  have hown := C.2.2.2.1
  have hK := C.2.2.2.2.2.1
  have hA := C.2.2.2.2.2.2.1
  unfold zg14 at hs
  split at hs
  · rename_i ix e1 e2
    rw [e1, e2] at hc
    simp only [Bool.and_eq_true, decide_eq_true_eq] at hc
    have hd := zdec_ok hdc (fun d lo hi q e9 => by rw [e1] at e9; cases e9)
    have hzl : zlen (rI r) = 3 := by rw [e1]; rfl
    rw [e1] at hd
    have hw : Cond.fieldLink own ix "java/lang/String" "COMPACT_STRINGS" "Z" ∈ gT := hwd _ (by unfold zwd; rw [hg, e1, e2]; exact List.mem_cons_self)
    have K := znext (Nat.le_refl _) hc.2 kk hs zext.rf (Nat.le_refl _) hR hl (zokS_cons.mpr ⟨trivial, hS⟩) hL
    rw [hzl] at K
    exact va_gets hx hb hRO.2.2.2.1.1 hR.2.2.1 hown (hts _ hw) (fun _ h9 => h9) hd K
  · rename_i ix t n9 e1 e2
    rw [e1, e2] at hc
    simp only [Bool.and_eq_true, decide_eq_true_eq] at hc
    have hd := zdec_ok hdc (fun d lo hi q e9 => by rw [e1] at e9; cases e9)
    have hzl : zlen (rI r) = 3 := by rw [e1]; rfl
    rw [e1] at hd
    have hw : Cond.fieldLink own ix (zgsF t).1 (zgsF t).2.1 (zgsF t).2.2 ∈ gT := hwd _ (by unfold zwd; rw [hg, e1, e2]; exact List.mem_cons_self)
    have K := znext (Nat.le_refl _) hc.2 kk hs zext.rf (Nat.le_refl _) hR hl (zokS_cons.mpr ⟨zokV_ro zro_t, hS⟩) hL
    rw [hzl] at K
    have ht : t = 1 ∨ t = 2 := by
      have := hc.1
      have h0 : t ≠ 0 := fun q => n9 q
      omega
    rcases ht with rfl | rfl
    · exact va_gets hx hb hRO.2.2.2.1.2.2.2.2.1 hR.2.2.1 hown (hts _ hw) (fun _ h9 => h9) hd K
    · exact va_gets hx hb hRO.2.2.2.1.2.2.2.2.2 hR.2.2.1 hown (hts _ hw) (fun _ h9 => h9) hd K
  · rename_i ix e1 e2
    rw [e1, e2] at hc
    simp only [Bool.and_eq_true, decide_eq_true_eq] at hc
    have hd := zdec_ok hdc (fun d lo hi q e9 => by rw [e1] at e9; cases e9)
    have hzl : zlen (rI r) = 3 := by rw [e1]; rfl
    rw [e1] at hd
    have hw : Cond.fieldLink own ix "java/lang/String" "value" "[B" ∈ gT := hwd _ (by unfold zwd; rw [hg, e1, e2]; exact List.mem_cons_self)
    split at hs
    · rename_i a s9
      have hS2 := (zokS_cons.mp hS).2
      split at hs
      · rename_i q hq
        unfold zsv at hq
        split at hq
        · rename_i ha
          cases hq
          obtain ⟨a1, a2, a3, a4⟩ := zro_a ha
          have K := znext (Nat.le_refl _) hc.2 kk hs zext.rf (Nat.le_refl _) hR hl (zokS_cons.mpr ⟨zokV_ro a4, hS2⟩) hL
          rw [hzl] at K
          have h1 := ((hRO.2.2.1 (a - 1000000) a3).1 0 (by omega)).2.2.1
          rw [a1, a2] at h1
          exact vk_getf hx hb h1 hR.2.2.1 hown (hts _ hw) (fun _ h9 => h9) hd K
        · split at hq
          · rename_i hk
            have K := znext (Nat.le_refl _) hc.2 kk hs zext.rf (Nat.le_refl _) hR hl (zokS_cons.mpr ⟨Or.inl (hR.2.2.2.1 _ _ _ hq), hS2⟩) hL
            rw [hzl] at K
            refine zsim_get (ci := 7) (j := 0) hx hb hts hown hK hR (by decide) (by decide) (zK77 h77 (congrArg Prod.fst hk) (by decide)) hk hw hd ?_
            have ez : zfv ad h a 0 (zcode (zty 7 0)) = .ref (ad q) := by show va_rf ((zP h a 0).map ad) = _; rw [hq]; rfl
            rw [ez]
            exact K
          · cases hq
      · cases hs
    · cases hs
  · rename_i ix t n9 e1 e2
    rw [e1, e2] at hc
    simp only [Bool.and_eq_true, decide_eq_true_eq] at hc
    have hd := zdec_ok hdc (fun d lo hi q e9 => by rw [e1] at e9; cases e9)
    have hzl : zlen (rI r) = 3 := by rw [e1]; rfl
    rw [e1] at hd
    have ht : t = 1 := by
      have := hc.1
      have h0 : t ≠ 0 := fun q => n9 q
      omega
    subst ht
    have hw : Cond.fieldLink own ix "java/lang/String" "coder" "B" ∈ gT := hwd _ (by unfold zwd; rw [hg, e1, e2]; exact List.mem_cons_self)
    split at hs
    · rename_i a s9
      have hS2 := (zokS_cons.mp hS).2
      split at hs
      · rename_i q hq
        have K := znext (Nat.le_refl _) hc.2 kk hs zext.rf (Nat.le_refl _) hR hl (zokS_cons.mpr ⟨trivial, hS2⟩) hL
        rw [hzl] at K
        unfold zsd at hq
        split at hq
        · rename_i ha
          cases hq
          obtain ⟨a1, a2, a3, a4⟩ := zro_a ha
          have h1 := ((hRO.2.2.1 (a - 1000000) a3).1 0 (by omega)).2.1
          rw [a1] at h1
          exact vk_getf hx hb h1 hR.2.2.1 hown (hts _ hw) (fun _ h9 => h9) hd K
        · split at hq
          · rename_i hk
            cases hq
            exact zsim_get (ci := 7) (j := 1) hx hb hts hown hK hR (by decide) (by decide) (zK77 h77 (congrArg Prod.fst hk) (by decide)) hk hw hd K
          · cases hq
      · cases hs
    · cases hs
  · rename_i n8 e1 e2
    have hd := zdec_ok hdc (fun d lo hi q e9 => by rw [e1] at e9; cases e9)
    have hzl : zlen (rI r) = 1 := by rw [e1]; rfl
    rw [e1] at hd
    have hn : znx rows i r 0 0 = true := by
      rw [e1, e2] at hc
      split at hc <;> simp_all
    split at hs
    · rename_i j a s9
      split at hs
      · rename_i n hq
        obtain ⟨hin, hs⟩ := zgd_some hs
        have K := znext (Nat.le_refl _) hn kk hs zext.rf (Nat.le_refl _) hR hl (zokS_cons.mpr ⟨trivial, (zokS_cons.mp (zokS_cons.mp hS).2).2⟩) hL
        rw [hzl] at K
        rcases zbl_cases hq with ⟨bs, e3, rfl, e4⟩ | ⟨e3, e4, rfl, e5⟩
        · rw [e4] at K
          exact va_tb hx hb (zro_T hRO e3) hR.2.2.1 hin rfl hd K
        · rw [e5] at K
          exact zsim_bald hx hb hK hR (zK77 h77 e4 (by decide)) e4 hin hd K
      · cases hs
    · cases hs
  · rename_i n8 e1 e2
    have hd := zdec_ok hdc (fun d lo hi q e9 => by rw [e1] at e9; cases e9)
    have hzl : zlen (rI r) = 1 := by rw [e1]; rfl
    rw [e1] at hd
    have hn : znx rows i r 0 0 = true := by
      rw [e1, e2] at hc
      split at hc <;> simp_all
    split at hs
    · rename_i a s9
      split at hs
      · rename_i n hq
        have K := znext (Nat.le_refl _) hn kk hs zext.rf (Nat.le_refl _) hR hl (zokS_cons.mpr ⟨trivial, (zokS_cons.mp hS).2⟩) hL
        rw [hzl] at K
        rcases zbl_cases hq with ⟨bs, e3, rfl, e4⟩ | ⟨e3, e4, rfl, e5⟩
        · exact va_tlen hx hb (zro_T hRO e3) hR.2.2.1 rfl hd K
        · exact zsim_alen hx hb hK hR (zK77 h77 e4 (by decide)) e4 (by decide) hd K
      · cases hs
    · cases hs
  · rename_i ix bd e1 e2
    rw [e1, e2] at hc
    simp only [Bool.and_eq_true, decide_eq_true_eq] at hc
    obtain ⟨⟨⟨⟨hn, h8⟩, h9⟩, hf1⟩, hf2⟩ := hc
    have hd := zdec_ok hdc (fun d lo hi q e9 => by rw [e1] at e9; cases e9)
    have hzl : zlen (rI r) = 3 := by rw [e1]; rfl
    rw [e1] at hd
    have hw : ∀ w ∈ ([.methodLink own ix zcloB, .sameMethod "[B" "java/lang/Object" "clone" "()Ljava/lang/Object;", .native zclo, .instanceMethod zclo, .selects "[B" zcloB zclo] : List Cond), w ∈ gT := fun w hw => hwd w (by unfold zwd; rw [hg, e1, e2]; exact hw)
    have hcl : va_Nw (.castable "[B" "java/lang/Cloneable") s := hwx _ (by unfold zwx; rw [hg, e1, e2]; exact List.mem_cons_self)
    split at hs
    · rename_i a s9
      obtain ⟨⟨⟨hnn, hk, hb9, hsm⟩, hft⟩, hs⟩ := zgd_some hs
      have ha : a < zN h := zK77 h77 hk (by decide)
      have hS9 := (zokS_cons.mp hS).2
      have hfr : 1 ≤ R.frames := Nat.le_trans hf1 C.2.2.2.2.2.2.2.1
      have hlo9 := Nat.le_trans hf2 C.2.2.2.2.2.2.2.2.1
      have h88 : ((s9.map (cv ad)).map fun v => v.category).sum ≤ 8 := by
        rw [List.map_map, show ((fun v : Value => v.category) ∘ cv ad) = fun v => v.category from funext fun v => cv_cat ad v]
        exact Nat.ble_eq.mp hsm
      refine zsim_clone hx hb (C.2.2.1.trans hl.1.symm) hts hown hK hR hA ⟨hw _ (by simp [zcloB]), hw _ (by simp), hw _ (by simp [zclo]), hw _ (by simp [zclo]), hw _ (by simp [zclo, zcloB])⟩ hcl ha hk hnn hft hfr (by omega) (by omega) (by omega) hd (fun ad2 H1 he hR1 => ?_)
      have hz2 : zN h ≤ zN (zrI (znew h 2 (zK h a).2) (zN h) (zI h a)) := Nat.le_succ _
      have K := znext (Nat.le_refl _) hn kk hs he hz2 hR1 (hl.ext he hL) (zokS_cons.mpr ⟨Or.inl (Nat.lt_succ_self _), hS9.mono hz2⟩) (hL.mono hz2)
      rw [hzl] at K
      rw [← cvs_ext he hS9]
      exact W.widen (Nat.le_refl _) (by omega) K
    · cases hs
  · rename_i ix n8 e1 e2
    have hd := zdec_ok hdc (fun d lo hi q e9 => by rw [e1] at e9; cases e9)
    have hzl : zlen (rI r) = 3 := by rw [e1]; rfl
    rw [e1] at hd
    have hn : znx rows i r 0 0 = true := by
      rw [e1, e2] at hc
      split at hc <;> simp_all
    have hw : Cond.classLink own ix "[B" ∈ gT := hwd _ (by unfold zwd; rw [hg, e1]; exact List.mem_cons_self)
    split at hs
    · rename_i a s9
      obtain ⟨hk, hs⟩ := zgd_some hs
      have ha : a < zN h := zK77 h77 hk (by decide)
      have K := znext (Nat.le_refl _) hn kk hs zext.rf (Nat.le_refl _) hR hl hS hL
      rw [hzl] at K
      exact va_castA hx hb hown (hts _ hw) hR.1 a (cA := tc 2) (x := ((zK h a).2, .inl (zI h a))) (by rw [zws_get ha]; simp [zent, hk]) (va_nm_byte (hK.2 2 (tc 2, .byte) rfl).2) hd K
    · cases hs
  · cases hs
set_option maxHeartbeats 4000000 in
theorem zs15 (C : zCx p l R s m args meth c own M D tc A) (hdc : zdec (zmB M) r = true) (hR : zR D tc ad A s h H locs) (hl : zLh ad (zmL M) la ls) (hS : zokS (zN h) st) (hL : zokL (zN h) la) (h77 : ∀ a, zN h ≤ a → (zK h a).1 = 77) (hRO : zRO sc A ad s s.heap) (hwd : ∀ w ∈ zwd own M envM r, w ∈ gT) (hs : zg15 r i la st h k = some x) (hc : zchk own M envM rows i r = true) (hg : rG r = 15)
    (kk : ∀ (i2 : Nat) (r2 : zm_R) (la2 : zm_L) (st2 : List Value) (h2 : zm_H) (ad2 : Nat → Nat) (H2 : Heap) (locs2 : List Loc) (ls2 : Array Slot), rows[i2]? = some r2 → k i2 la2 st2 h2 = some x → zext (zN h) ad ad2 → zN h ≤ zN h2 → zR D tc ad2 A s h2 H2 locs2 → zLh ad2 (zmL M) la2 ls2 → zokS (zN h2) st2 → zokL (zN h2) la2 → W p l e R s m args below meth c H2 locs2 (c0 + (rN r2).1) (s0 + (rN r2).2) Q (F0 m (rP r2) ls2 (st2.map (cv ad2)))) : W p l e R s m args below meth c H locs (c0 + (rN r).1) (s0 + (rN r).2) Q (F0 m (rP r) ls (st.map (cv ad))) := by
  unfold zchk at hc
  rw [hg] at hc
  simp only [hdc, Bool.true_and] at hc
  have hx := C.1
  have hb := C.2.1
  have hts := C.2.2.2.2.1
  have hown := C.2.2.2.1
  have hK := C.2.2.2.2.2.1
  have hA := C.2.2.2.2.2.2.1
  simp only [Bool.and_eq_true, decide_eq_true_eq] at hc
  obtain ⟨⟨⟨hc, hn⟩, hf1⟩, hf2⟩ := hc
  obtain ⟨idx, e1⟩ : ∃ idx, rI r = .invokestatic idx := by
    split at hc
    · exact ⟨_, by assumption⟩
    · cases hc
  have hd := zdec_ok hdc (fun d lo hi q e9 => by rw [e1] at e9; cases e9)
  have hzl : zlen (rI r) = 3 := by rw [e1]; rfl
  rw [e1] at hd
  have hw : ∀ w ∈ ([.methodLink own idx arraycopyName, .native arraycopyName, .static arraycopyName, .initialized "java/lang/System"] : List Cond), w ∈ gT := fun w hw => hwd w (by unfold zwd; rw [hg, e1]; exact hw)
  have hws := (⟨hw _ (by simp), hw _ (by simp), hw _ (by simp), hw _ (by simp)⟩ : Cond.methodLink own idx arraycopyName ∈ gT ∧ Cond.native arraycopyName ∈ gT ∧ Cond.static arraycopyName ∈ gT ∧ Cond.initialized "java/lang/System" ∈ gT)
  have hml : c.maxLocals = ls.size := C.2.2.1.trans hl.1.symm
  have hfr : 1 ≤ R.frames := Nat.le_trans hf1 C.2.2.2.2.2.2.2.1
  have hlo : (([] : List Value).map fun v => v.category).sum + (nativeFrameWords "java/lang/System" "arraycopy" 5 + 11) ≤ R.locals := by
    have := C.2.2.2.2.2.2.2.2.1
    simp only [List.map_nil, List.sum_nil, Nat.zero_add]
    exact Nat.le_trans hf2 this
  unfold zg15 at hs
  split at hs
  · rename_i n dp a sp a0
    split at hs
    · rename_i n0 hq
      obtain ⟨⟨⟨hk, h1, h2, h3, h4, h5⟩, hft⟩, hs⟩ := zgd_some hs
      have ha : a < zN h := zK77 h77 hk (by decide)
      have key : ∀ (H1 : Heap) (locs1 : List Loc), zR D tc ad A s (zrI h a (va_cpy (zby h a0) (zI h a) sp.toNatClampNeg dp.toNatClampNeg n.toNatClampNeg)) H1 locs1 → W p l e R s m args below meth c H1 locs1 (c0 + (rN r).1) (s0 + (rN r).2) Q (F0 m (rP r + 3) ls []) := fun H1 locs1 hR1 => by
        have K := znext (Nat.le_refl _) hn kk hs zext.rf (Nat.le_refl _) hR1 hl zokS_nil hL
        rw [hzl] at K
        exact K
      rcases zbl_cases hq with ⟨bs, e3, rfl, e4⟩ | ⟨e3, e4, rfl, e5⟩
      · obtain ⟨f, hf⟩ : ∃ f : Nat → Int32, f = fun i => bs.getD i 0 := ⟨_, rfl⟩
        have hT : va_T .byte (ad a0) bs.length (fun j => .int (f j)) A s s.heap := by rw [hf]; exact zro_T hRO e3
        rw [e4, ← hf] at key hft
        refine vk_copyt (rest := []) hx hb hml hown (hts _ hws.1) (hts _ hws.2.1) (hts _ hws.2.2.1) (hts _ hws.2.2.2) hK hR.1 hR.2.1 hR.2.2.1 hT a 2 (c1 := tc 2) (n1 := (zK h a).2) (g := zI h a) (by rw [zws_get ha]; simp [zent, hk]) rfl h1 h2 h3 h4 h5 (fun j hj => by rw [← hft j hj]; exact pk_fb _) hfr hlo hd (fun H1 locs1 hP hD hS => ?_)
        have hset : (zws tc ad h).set a (ad a, .inl (tc 2, (zK h a).2, .inl (va_cpy f (zI h a) sp.toNatClampNeg dp.toNatClampNeg n.toNatClampNeg))) = zws tc ad (zrI h a (va_cpy f (zI h a) sp.toNatClampNeg dp.toNatClampNeg n.toNatClampNeg)) := zws_set rfl ha (by
          have e1 : zK (zrI h a (va_cpy f (zI h a) sp.toNatClampNeg dp.toNatClampNeg n.toNatClampNeg)) a = zK h a := rfl
          have e2 : zI (zrI h a (va_cpy f (zI h a) sp.toNatClampNeg dp.toNatClampNeg n.toNatClampNeg)) a = (va_cpy f (zI h a) sp.toNatClampNeg dp.toNatClampNeg n.toNatClampNeg) := zrow_self _ _ _
          simp [zent, e1, e2, hk]) zrI_ent
        replace hP := hset ▸ hP
        replace hD := hset ▸ hD
        exact key H1 locs1 ⟨hP, hD, hS, hR.2.2.2⟩
      · rw [e5] at key hft
        exact zsim_copyb (rest := []) hx hb hml hown hts hws hK hR ha (zK77 h77 e4 (by decide)) hk e4 h1 h2 h3 h4 h5 (fun j hj => by rw [← hft j hj]; exact pk_fb _) hfr hlo hd key
    · cases hs
  · cases hs
end ZY2
end
section
/-! CALLS, ANSWERS, THROWS. -/
section ZV
variable {sc : Nat × (Nat → Int32)}
theorem znrm_inv {X : Type} {rk : Nat} {o : Option zm_O} {pc : Nat} {ls : zm_L} {rest : List Value} {k : zm_K X} {x : X} (h : znrm rk o pc ls rest k = some x) : ∃ v h2, o = some (.inl v, h2) ∧ k (pc + 1) ls (v.toList ++ rest) h2 = some x := by
  unfold znrm at h
  split at h
  · unfold zcV at h; split at h
    · exact ⟨_, _, rfl, h⟩
    · cases h
  · unfold zcI at h; split at h
    · exact ⟨_, _, rfl, h⟩
    · cases h
  · unfold zcJ at h; split at h
    · exact ⟨_, _, rfl, h⟩
    · cases h
  · unfold zcA at h; split at h
    · exact ⟨_, _, rfl, h⟩
    · cases h
  · unfold zcD at h; split at h
    · exact ⟨_, _, rfl, h⟩
    · cases h
  · unfold zcF at h; split at h
    · exact ⟨_, _, rfl, h⟩
    · cases h
theorem zthr_inv {X : Type} {o : Option zm_O} {kx : Nat → zm_H → Option X} {k : Option X} {x : X} (h : zthr o kx k = some x) : (∃ E h2, o = some (.inr E, h2) ∧ kx E h2 = some x) ∨ k = some x := by
  unfold zthr at h
  split at h
  · exact Or.inl ⟨_, _, rfl, h⟩
  · exact Or.inr h
theorem zRO_same {A : Nat → Prop} {ad : Nat → Nat} {u U : State} {H : Heap} (hv : u.vm = U.vm) (h : zRO sc A ad u H) : zRO sc A ad U H := by
  obtain ⟨h1, h2, h3, ⟨h41, h42, h43, h44, h45, h46⟩, h5, h6, h7, h8⟩ := h
  have ha : u.vm.Alike U.vm := hv ▸ Vm.Alike.refl _
  refine ⟨fun w hw hs => ?_, fun k q hq => (h2 k q hq).same hv.symm, fun k hk8 => (h3 k hk8).moved ha, ⟨h41.moved ha, h42.moved ha, h43.moved ha, fun t ht => (h44 t ht).moved ha, h45.moved ha, h46.moved ha⟩, h5.moved ha, h6.moved ha, h7.moved ha, fun q hq => (h8 q hq).moved ha⟩
  have hw1 := h1 w hw hs
  unfold zspc at hs
  split at hs
  · exact va_Nw.same rfl hv hw1
  · exact va_Nw.same rfl hv hw1
  · exact va_Nw.same rfl hv hw1
  · cases hs
theorem zPre_blind {D : va_G} {tc : Nat → ClassId} {ad : Nat → Nat} {h : zm_H} {sz : Nat} {vs : List Value} : FrameBlind (va_Pc vs (zPre sc D tc ad h sz)) := by
  intro a U g mk q
  obtain ⟨q0, q1, q2, q3, q4, q5⟩ := q
  exact ⟨q0, q1, q2, va_K.moved (u := U) (U := U.calling g mk a) (Vm.Alike.refl U.vm) q3, q4, zRO_same (u := U) (U := U.calling g mk a) rfl q5⟩
theorem zBA {D : va_G} {tc : Nat → ClassId} {ad : Nat → Nat} {A : Nat → Prop} {s : State} {h : zm_H} {H : Heap} {locs : List Loc} (hR : zR D tc ad A s h H locs) (hA : ∀ q, s.heap.size ≤ q → A q) : ∀ q, va_A (zws tc ad h) H.size q → A q := by
  rintro q (⟨k, en, hk⟩ | hq)
  · exact hR.2.1.2 k _ hk
  · exact hA q (Nat.le_trans hR.2.2.1.1 hq)
theorem zPre_of {D : va_G} {tc : Nat → ClassId} {ad : Nat → Nat} {A : Nat → Prop} {s : State} {h : zm_H} {H : Heap} {locs : List Loc} (hR : zR D tc ad A s h H locs) (hA : ∀ q, s.heap.size ≤ q → A q) (hK : va_K D vwCl (ztys tc) s) (hRO : zRO sc A ad s s.heap) : ∀ U : State, U.heap = H → s.WarmedH U.vm → zPre sc D tc ad h H.size U := by
  intro U hU hW
  refine ⟨by rw [hU], by rw [hU]; exact hR.1, va_K.moved hW.alike hK, ⟨hR.2.1.1, fun _ _ _ => trivial⟩, ?_⟩
  rw [hU]
  exact zRO_go hRO hR.2.2.1 hW (zBA hR hA)
/-- a contract without throws, where nothing is thrown -/
theorem Met_of_vx {l : Launch} {y : MethodName} {ws : List Cond} {rm : Room} {Pc : Array Value → State → Prop} {Qc : Array Value → State → Outcome → State → Prop} {XC : String → State → State → Prop} {mc ms : Nat} {free : Addr → Prop} (hM : vx_Met l y ws rm Pc Qc XC mc ms free) (hn : ∀ E st t, ¬ XC E st t) : Met l y ws rm Pc Qc mc ms free := by
  intro p e a1 a2 a3 s m args below hf ha hp hk
  obtain ⟨n, o, h1, h2, h3, h4⟩ := hM p e a1 a2 a3 s m args below hf ha hp hk
  refine ⟨n, o, h1, h2, h3, ?_⟩
  rcases h4 with h4 | ⟨q, rfl, E, ce, L, hx, -⟩
  · exact h4
  · exact absurd hx (hn E _ _)
end ZV
section ZW
variable {sc : Nat × (Nat → Int32)}
variable {p : Program} {l : Launch} {e : Env} {R : Room} {s : State} {m : MethodId} {args : Array Value} {below : List Frame} {meth : Method} {c : Code} {H : Heap} {locs : List Loc} {cells slots : Nat} {Q : State → Prop}
variable {own : String} {M : zm_M} {envM : List zm_M} {D : va_G} {tc : Nat → ClassId} {ad : Nat → Nat} {A : Nat → Prop} {h : zm_H} {rows : List zm_R} {i : Nat} {r : zm_R} {la : zm_L} {st : List Value} {ls : Array Slot} {c0 s0 : Nat} {X : Type} {x : X} {k : zm_K X}
theorem zkind_inv {kd : Nat} {ir : Instr} {n th ci : Nat} {Mc : zm_M} (h : zkind kd ir n th ci Mc = true) :
    ((kd = 0 ∧ ci < 8 ∧ zcN ci = (zmY Mc).cls ∨ kd = 6 ∧ (zmY Mc).cls = "java/lang/String") ∧ ∃ ix, ir = .invokevirtual ix ∧ n = zmN Mc + 1 ∧ (zmH Mc).isEmpty = true) ∨ (kd = 1 ∧ ∃ ix, ir = .invokestatic ix ∧ n = zmN Mc ∧ (zmH Mc).isEmpty = true ∧ th < 2) ∨
    (kd = 2 ∧ ∃ ix, ir = .invokespecial ix ∧ n = zmN Mc + 1 ∧ (zmH Mc).isEmpty = true ∧ (zmY Mc).name = "<init>" ∧ zmR Mc = none ∧ th = 0) ∨ (kd = 3 ∧ ∃ ix, ir = .invokestatic ix ∧ n = zmN Mc ∧ (zmH Mc).isEmpty = true ∧ th = 0) ∨
    (kd = 4 ∧ ∃ ix, ir = .invokespecial ix ∧ n = zmN Mc + 1 ∧ (zmH Mc).isEmpty = true ∧ (zmY Mc).name = "<init>" ∧ zmR Mc = none ∧ th = 0) ∨ (kd = 5 ∧ ∃ ix, ir = .invokestatic ix ∧ n = zmN Mc ∧ ¬ (zmH Mc).isEmpty = true ∧ th = 0) ∨
    ((kd = 7 ∧ (∃ ix, ir = .invokespecial ix) ∧ (zmY Mc).name ≠ "<init>" ∨ kd = 8 ∧ (∃ ix, ir = .invokevirtual ix) ∧ (zmY Mc).cls = RJ5 ∨ kd = 10 ∧ (∃ ix, ir = .invokevirtual ix) ∧ (zmY Mc).name = "length" ∧ (zmY Mc).desc = "()I") ∧ n = zmN Mc + 1 ∧ (zmH Mc).isEmpty = true ∧ th = 0) := by
  unfold zkind at h
  split at h
  · simp only [Bool.and_eq_true, decide_eq_true_eq] at h
    exact Or.inr (Or.inr (Or.inr (Or.inr (Or.inr (Or.inr ⟨Or.inl ⟨rfl, ⟨_, rfl⟩, h.1.2⟩, h.1.1.1, h.1.1.2, h.2⟩)))))
  · simp only [Bool.and_eq_true, decide_eq_true_eq] at h
    exact Or.inr (Or.inr (Or.inr (Or.inr (Or.inr (Or.inr ⟨Or.inr (Or.inl ⟨rfl, ⟨_, rfl⟩, h.1.2⟩), h.1.1.1, h.1.1.2, h.2⟩)))))
  · simp only [Bool.and_eq_true, decide_eq_true_eq] at h
    exact Or.inr (Or.inr (Or.inr (Or.inr (Or.inr (Or.inr ⟨Or.inr (Or.inr ⟨rfl, ⟨_, rfl⟩, h.1.2⟩), h.1.1.1, h.1.1.2, h.2⟩)))))
  · simp only [Bool.and_eq_true, decide_eq_true_eq] at h
    exact Or.inl ⟨Or.inl ⟨rfl, h.2⟩, _, rfl, h.1⟩
  · simp only [Bool.and_eq_true, decide_eq_true_eq] at h
    exact Or.inl ⟨Or.inr ⟨rfl, h.2⟩, _, rfl, h.1⟩
  · simp only [Bool.and_eq_true, decide_eq_true_eq] at h
    exact Or.inr (Or.inl ⟨rfl, _, rfl, h.1.1, h.1.2, h.2⟩)
  · simp only [Bool.and_eq_true, decide_eq_true_eq] at h
    exact Or.inr (Or.inr (Or.inl ⟨rfl, _, rfl, h.1.1.1.1, h.1.1.1.2, h.1.1.2, h.1.2, h.2⟩))
  · simp only [Bool.and_eq_true, decide_eq_true_eq] at h
    exact Or.inr (Or.inr (Or.inr (Or.inl ⟨rfl, _, rfl, h.1.1, h.1.2, h.2⟩)))
  · simp only [Bool.and_eq_true, decide_eq_true_eq] at h
    exact Or.inr (Or.inr (Or.inr (Or.inr (Or.inl ⟨rfl, _, rfl, h.1.1.1.1, h.1.1.1.2, h.1.1.2, h.1.2, h.2⟩))))
  · simp only [Bool.and_eq_true, decide_eq_true_eq, Bool.not_eq_true'] at h
    exact Or.inr (Or.inr (Or.inr (Or.inr (Or.inr (Or.inl ⟨rfl, _, rfl, h.1.1, by rw [h.1.2]; decide, h.2⟩)))))
  · cases h
theorem zcallN {v : Option Value} {h2 : zm_H} {rest st0 : List Value} {mc ms pc : Nat} (hR : zR D tc ad A s h H locs) (hA : ∀ q, s.heap.size ≤ q → A q)
    (hr : vx_Run p l e R s m args below meth c H locs cells slots mc ms (F0 m pc ls st0) rest
      (fun st oc t => (∃ (ad2 : Nat → Nat), oc = .returned (v.map (cv ad2)) ∧ zPst D tc ad h H.size ad2 h2 t ∧ ∀ w, v = some w → zokV (zN h2) w) ∧ va_F (va_A (zws tc ad h) H.size) st t)
      (fun _ _ _ => False) (va_A (zws tc ad h) H.size))
    (kv : ∀ (ad2 : Nat → Nat) (H2 : Heap) (locs2 : List Loc), zext (zN h) ad ad2 → zN h ≤ zN h2 → zR D tc ad2 A s h2 H2 locs2 → (∀ w, v = some w → zokV (zN h2) w) → W p l e R s m args below meth c H2 locs2 (cells + mc) (slots + ms) Q (F0 m (pc + 3) ls ((v.map (cv ad2)).toList ++ rest))) :
    W p l e R s m args below meth c H locs cells slots Q (F0 m pc ls st0) := by
  have hBA := zBA hR hA
  intro T hT X
  rcases hr T hT X with ⟨v9, st₀, t, T', L, h0, X', hL, e1, e2, ⟨⟨ad2, hv, ⟨p1, p2, p3, p4, p5, p6⟩, hok⟩, hF⟩, st9⟩ | ⟨q, st₀, t, T', L, E, ce, h0, X', hL, e1, e2, hx, -⟩
  · cases hv
    obtain ⟨k1, k2, k3⟩ := vx_keep h0 e1 hR.2.2.1 (fun q _ hq => hBA q hq) hBA hL hF
    obtain ⟨t2, a1, b1⟩ := kv ad2 T'.heap (locs ++ L) p1 p6 ⟨by rw [e1]; exact p2, ⟨p4.1, fun k q hk => hBA _ (p4.2 k q hk)⟩, k3, p5⟩ hok T' rfl X'
    exact ⟨t2, st9 t2 a1, b1⟩
  · exact hx.elim
theorem zcallT {y : Nat} {h2 : zm_H} {rest st0 : List Value} {mc ms pc : Nat} (hR : zR D tc ad A s h H locs) (hA : ∀ q, s.heap.size ≤ q → A q)
    (hr : vx_Run p l e R s m args below meth c H locs cells slots mc ms (F0 m pc ls st0) rest (fun _ _ _ => False)
      (fun E st t => (∃ (ad2 : Nat → Nat), E = zex y ∧ zPst D tc ad h H.size ad2 h2 t) ∧ va_F (va_A (zws tc ad h) H.size) st t) (va_A (zws tc ad h) H.size))
    (kx : ∀ (ad2 : Nat → Nat) (H2 : Heap) (locs2 : List Loc) (ce : Cell) (q : Addr), zext (zN h) ad ad2 → zN h ≤ zN h2 → zR D tc ad2 A s h2 H2 locs2 → H2[q]? = some ce → ce.vm = .none → s.vm.findClass (zex y) = some ce.cls → vx_W p l e R s m args below meth c H2 locs2 (cells + mc) (slots + ms) Q (F0 m pc ls rest) q) :
    W p l e R s m args below meth c H locs cells slots Q (F0 m pc ls st0) := by
  have hBA := zBA hR hA
  intro T hT X
  rcases hr T hT X with ⟨v9, st₀, t, T', L, h0, X', hL, e1, e2, hx, -⟩ | ⟨q, st₀, t, T', L, E, ce, h0, X', hL, e1, e2, ⟨⟨ad2, rfl, ⟨p1, p2, p3, p4, p5, p6⟩⟩, hF⟩, hce, hcv, hcl, st9⟩
  · exact hx.elim
  · obtain ⟨k1, k2, k3⟩ := vx_keep h0 e1 hR.2.2.1 (fun q _ hq => hBA q hq) hBA hL hF
    obtain ⟨t2, a1, b1⟩ := kx ad2 T'.heap (locs ++ L) ce q p1 p6 ⟨by rw [e1]; exact p2, ⟨p4.1, fun k q hk => hBA _ (p4.2 k q hk)⟩, k3, p5⟩ (by rw [e1]; exact hce) hcv hcl T' rfl X'
    exact ⟨t2, st9.trans a1, b1⟩
theorem zmW_plain {M : zm_M} (h : (zmH M).isEmpty = true) : zmW M = .code (zmY M) (zmB M) (zmL M) (zmR M) := by unfold zmW; rw [if_pos h]
theorem zmW_hand {M : zm_M} (h : ¬ (zmH M).isEmpty = true) : zmW M = .codeWith (zmY M) (zmB M) (zmL M) (zmR M) (zmH M) := by unfold zmW; rw [if_neg h]
theorem zplain_ok {y : MethodName} {n : Nat} (h : zplain y n = true) : y.cls ≠ "java/lang/invoke/MethodHandle" ∧ y.cls ≠ "java/lang/invoke/VarHandle" ∧ (parseMethodDescriptor y.desc).map (fun d => d.parameters.length) = some n := by
  unfold zplain at h
  simp only [Bool.and_eq_true, decide_eq_true_eq] at h
  exact ⟨h.1.1, h.1.2, h.2⟩
theorem zgW {M : zm_M} (h : zmW M ∈ gT) : GoodIn gT (zmWs M) := gT_good (fun w hw => (List.mem_cons.mp hw).elim (fun q => by rw [q]; exact h) id)
theorem gT_app {as bs : List Cond} (h1 : ∀ w ∈ as, w ∈ gT) (h2 : ∀ w ∈ bs, w ∈ gT) : ∀ w ∈ as ++ bs, w ∈ gT := fun w h => (List.mem_append.mp h).elim (h1 w) (h2 w)
set_option maxHeartbeats 4000000 in
/-- the run of a call, of whatever kind -/
theorem zrunc {Mc : zm_M} {rm : Room} {mc ms : Nat} {Qc : Array Value → State → Outcome → State → Prop} {XC : String → State → State → Prop} (hrm : rm.frames = (zmRoom Mc).frames ∧ rm.locals = (zmRoom Mc).locals ∧ rm.cells = mc ∧ rm.slots = ms) (C : zCx p l R s m args meth c own M D tc A) (hdc : zdec (zmB M) r = true) (hR : zR D tc ad A s h H locs) (hl : zLh ad (zmL M) la ls) (hS : zokS (zN h) st) (hRO : zRO sc A ad s s.heap) (hcR : cells + mc ≤ R.cells) (hsR : slots + ms ≤ R.slots) (hwd : ∀ w ∈ zwd own M envM r, w ∈ gT) (hwx : ∀ w ∈ zwx own M envM r, va_Nw w s) (hg : rG r = 6)
    {kd ei n rk th ci : Nat} {hs9 : List Nat} (e2 : rO r = kd :: ei :: n :: rk :: th :: ci :: hs9) (hM : envM[ei]? = some Mc) (hMt : vx_Met l (zmY Mc) (zmWs Mc) rm (va_Pc ((st.take n).reverse.map (cv ad)) (zPre sc D tc ad h H.size)) Qc XC mc ms (va_A (zws tc ad h) H.size)) (h77 : ∀ a, zN h ≤ a → (zK h a).1 = 77)
    (hrcv : ∀ y rest, (kd = 0 ∨ kd = 6) → st.drop (zmN Mc) = .ref y :: rest → (∃ cell : Cell, H[ad y]? = some cell ∧ cell.vm.isStatics = false ∧ s.vm.findClass (zmY Mc).cls = some cell.cls))
    (f1 : (zmRoom Mc).frames + 1 ≤ (zmRoom M).frames) (f2 : 8 + (zmL Mc + 11) + (zmRoom Mc).locals ≤ (zmRoom M).locals) (f3 : zplain (zmY Mc) (zmN Mc) = true)
    (f4 : zkind kd (rI r) n th ci Mc = true)
    (hn : n ≤ st.length) (hsum : ((st.drop n).map fun v => v.category).sum ≤ 8) (hth : th = 0 → ∀ E st9 t, ¬ XC E st9 t) (hnull : ∀ v rest, (kd = 0 ∨ kd = 6 ∨ kd = 2 ∨ kd = 4 ∨ kd = 7 ∨ kd = 8 ∨ kd = 10) → st.drop (zmN Mc) = v :: rest → ∃ y, v = .ref y)
    (hrcvB : ∀ y rest, (kd = 7 ∨ kd = 8 ∨ kd = 10) → st.drop (zmN Mc) = .ref y :: rest → (∃ cell : Cell, H[ad y]? = some cell ∧ cell.vm.isStatics = false ∧ s.vm.findClass RJ4 = some cell.cls)) :
    vx_Run p l e R s m args below meth c H locs cells slots mc ms (F0 m (rP r) ls (st.map (cv ad))) ((st.drop n).map (cv ad)) (Qc ((st.take n).reverse.map (cv ad)).toArray) XC (va_A (zws tc ad h) H.size) := by
  obtain ⟨hx, hb, hml, hown, hts, hK, hA, hRf, hRl, hlk, hlt, hnm, hret⟩ := C
  have hav : zokS (zN h) (st.take n).reverse := fun v hv => hS v (List.mem_of_mem_take (List.mem_reverse.mp hv))
  have hpl := zplain_ok f3
  have hRR : rm.frames + 1 ≤ R.frames ∧ 8 + (zmL Mc + 11) + rm.locals ≤ R.locals := ⟨by rw [hrm.1]; exact Nat.le_trans f1 hRf, by rw [hrm.2.1]; exact Nat.le_trans f2 hRl⟩
  have hfit : cells + mc ≤ R.cells ∧ slots + ms ≤ R.slots := ⟨hcR, hsR⟩
  have hFix : CallFix p m c (zmB M) (zmL M) s args gT own := ⟨hx, hb, hml, hown, hts⟩
  have hpre := zPre_of hR hA hK hRO
  have hsumc : 2 * (F0 m (rP r) ls (st.map (cv ad))).monitorRoom + (((st.drop n).map (cv ad)).map fun v => v.category).sum ≤ 8 := by
    refine lv_room ?_
    rw [List.map_map]
    have : ((fun v : Value => v.category) ∘ cv ad) = fun v => v.category := funext fun v => cv_cat ad v
    rw [this]
    exact hsum
  have hsplit : st.map (cv ad) = (((st.take n).reverse.map (cv ad)).reverse) ++ (st.drop n).map (cv ad) := by
    rw [← List.map_reverse, List.reverse_reverse, ← List.map_append, List.take_append_drop]
  have hlenAv : ((st.take n).reverse.map (cv ad)).length = n := by simp; omega
  -- a receiver: the last of what is taken
  have hrecv : ∀ n', n = n' + 1 → (∀ v rest, st.drop n' = v :: rest → ∃ y, v = .ref y) → ∃ y, (st.take n).reverse = .ref y :: (st.take n').reverse ∧ st.drop n' = .ref y :: st.drop n := by
    intro n' e3 hv
    subst e3
    have hlt : n' < st.length := by omega
    obtain ⟨y, hy⟩ := hv _ _ (List.drop_eq_getElem_cons hlt)
    refine ⟨y, ?_, ?_⟩
    · rw [List.take_add_one, List.getElem?_eq_getElem hlt, hy]
      simp
    · rw [List.drop_eq_getElem_cons hlt, hy]
  have hdd := zdec_ok hdc
  rcases zkind_inv f4 with ⟨hkd, ix, e1, rfl, hH⟩ | ⟨rfl, ix, e1, rfl, hH, hth1⟩ | ⟨rfl, ix, e1, rfl, hH, hi, hrn, rfl⟩ | ⟨rfl, ix, e1, rfl, hH, rfl⟩ | ⟨rfl, ix, e1, rfl, hH, hi, hrn, rfl⟩ | ⟨rfl, ix, e1, rfl, hH, rfl⟩ | ⟨⟨rfl, ⟨ix, e1⟩, hno⟩ | ⟨rfl, ⟨ix, e1⟩, hcls⟩ | ⟨rfl, ⟨ix, e1⟩, hnm9, hds9⟩, rfl, hH, rfl⟩
  · -- virtual
    have hd := hdd (fun d lo hi q e9 => by rw [e1] at e9; cases e9)
    rw [e1] at hd
    have hW := zmW_plain hH
    have hw0 : ∀ w ∈ ([.methodLink own ix (zmY Mc), .instanceMethod (zmY Mc), .selects (zmY Mc).cls (zmY Mc) (zmY Mc), .initialized (zmY Mc).cls, zmW Mc] : List Cond), w ∈ gT := fun w hw => hwd w (by rcases hkd with z | z <;> (rw [z.1] at e2; unfold zwd; rw [hg, e1, e2]; simp only [hM]; exact List.mem_append_left _ hw))
    obtain ⟨y, ey, ed⟩ := hrecv _ rfl (fun v rest q => hnull v rest (hkd.elim (fun z => Or.inl z.1) (fun z => Or.inr (Or.inl z.1))) q)
    have hgood : GoodIn gT (wsV own ix (zmY Mc).cls (zmY Mc) (zmWs Mc)) := gT_good (gT_app (fun w hw => hw0 w (by simp at hw ⊢; rcases hw with q | q | q | q <;> simp [q])) (fun w hw => ((zgW (M := Mc) (hw0 _ (by simp))) w hw).1))
    have cw := cwV (R := R) (y := zmY Mc) (bytes := zmB Mc) (maxL := zmL Mc) (ret := zmR Mc) (mc := mc) (ms := ms) (rm := rm) (zmN Mc) hts hgood (ws' := gT) (by unfold zmWs; rw [hW]) hrm.2.2.1 hrm.2.2.2 ⟨rfl, hpl⟩ hRR
    rw [ey] at hMt ⊢
    have hrun := vx_runV (p := p) (e := e) (below := below) (meth := meth) (locs := locs) (cells := cells) (slots := slots) (H := H) hFix hMt cw (b := ad y) (As := (st.take (zmN Mc)).reverse.map (cv ad)) (rest := (st.drop (zmN Mc + 1)).map (cv ad)) ⟨zPre_blind, hrcv y _ (hkd.elim (fun z => Or.inl z.1) (fun z => Or.inr z.1)) ed, fun U hU hW9 => ⟨rfl, hpre U hU hW9⟩⟩ (g := F0 m (rP r) ls (st.map (cv ad))) rfl (by simp; omega) (hl.1) (by
      show st.map (cv ad) = _
      rw [hsplit, ey]
      simp [cv]) hsumc hd hfit
    exact hrun
  · -- static
    have hd := hdd (fun d lo hi q e9 => by rw [e1] at e9; cases e9)
    rw [e1] at hd
    have hW := zmW_plain hH
    have hw0 : ∀ w ∈ ([.methodLink own ix (zmY Mc), .static (zmY Mc), .initialized (zmY Mc).cls, zmW Mc] : List Cond), w ∈ gT := fun w hw => hwd w (by unfold zwd; rw [hg, e1, e2]; simp only [hM]; exact hw)
    have hgood : GoodIn gT (va_wsS own ix (zmY Mc) (zmWs Mc)) := gT_good (gT_app (fun w hw => hw0 w (by simp at hw ⊢; rcases hw with q | q | q <;> simp [q])) (fun w hw => ((zgW (M := Mc) (hw0 _ (by simp))) w hw).1))
    have cw := va_cwS (R := R) (y := zmY Mc) (bytes := zmB Mc) (maxL := zmL Mc) (ret := zmR Mc) (mc := mc) (ms := ms) (rm := rm) (zmN Mc) hts hgood (ws' := gT) (by unfold zmWs; rw [hW]) hrm.2.2.1 hrm.2.2.2 hpl hRR
    exact vx_runS (p := p) (e := e) (below := below) (meth := meth) (locs := locs) (cells := cells) (slots := slots) (H := H) hFix hMt cw (As := (st.take (zmN Mc)).reverse.map (cv ad)) (rest := (st.drop (zmN Mc)).map (cv ad)) ⟨zPre_blind, fun U hU hW9 => ⟨rfl, hpre U hU hW9⟩⟩ (g := F0 m (rP r) ls (st.map (cv ad))) rfl hlenAv hl.1 hsplit hsumc hd hfit
  · -- a constructor
    have hd := hdd (fun d lo hi q e9 => by rw [e1] at e9; cases e9)
    rw [e1] at hd
    have hW := zmW_plain hH
    have hw0 : ∀ w ∈ ([.methodLink own ix (zmY Mc), .instanceMethod (zmY Mc), .initialized (zmY Mc).cls, zmW Mc] : List Cond), w ∈ gT := fun w hw => hwd w (by unfold zwd; rw [hg, e1, e2]; simp only [hM]; exact hw)
    obtain ⟨y, ey, ed⟩ := hrecv _ rfl (fun v rest q => hnull v rest (Or.inr (Or.inr (Or.inl rfl))) q)
    have cw := cwI (R := R) (s := s) (args := args) (own := own) (index := ix) (y := zmY Mc) (bytes := zmB Mc) (maxL := zmL Mc) (mc := mc) (ms := ms) (rm := rm) (zmN Mc) hts (zgW (M := Mc) (hw0 _ (by simp))) (ws' := gT) (by unfold zmWs; rw [hW, hrn]) hrm.2.2.1 hrm.2.2.2 (hts _ (hw0 _ (by simp))) (hts _ (hw0 _ (by simp))) (hts _ (hw0 _ (by simp))) hi hpl hRR
    rw [ey] at hMt ⊢
    have hM2 := Met_of_vx hMt (hth rfl)
    have hrun := va_runI (p := p) (e := e) (below := below) (meth := meth) (locs := locs) (cells := cells) (slots := slots) (H := H) hFix hM2 cw (b := ad y) (As := (st.take (zmN Mc)).reverse.map (cv ad)) (rest := (st.drop (zmN Mc + 1)).map (cv ad)) ⟨zPre_blind, fun U hU hW9 => ⟨rfl, hpre U hU hW9⟩⟩ (g := F0 m (rP r) ls (st.map (cv ad))) rfl (by simp; omega) hl.1 (by
      show st.map (cv ad) = _
      rw [hsplit, ey]
      simp [cv]) hsumc hd hfit
    intro T hT X
    obtain ⟨v, st₀, t, T', L, a1, a2, a3, a4, a5, a6, a7⟩ := hrun T hT X
    exact Or.inl ⟨v, st₀, t, T', L, a1, a2, a3, a4, a5, a6, a7⟩
  · -- static, of the nest
    have hd := hdd (fun d lo hi q e9 => by rw [e1] at e9; cases e9)
    rw [e1] at hd
    have hW := zmW_plain hH
    have hw0 : ∀ w ∈ ([.static (zmY Mc), .initialized (zmY Mc).cls, zmW Mc] : List Cond), w ∈ gT := fun w hw => hwd w (by unfold zwd; rw [hg, e1, e2]; simp only [hM]; exact hw)
    have hlk9 : va_Nw (.methodLinkNest own ix (zmY Mc) "KeyTour") s := hwx _ (by unfold zwx; rw [hg, e1, e2]; simp only [hM]; exact List.mem_cons_self)
    have cw := va_cnB (R := R) (y := zmY Mc) (bytes := zmB Mc) (maxL := zmL Mc) (ret := zmR Mc) (mc := mc) (ms := ms) (rm := rm) (zmN Mc) hts (zgW (M := Mc) (hw0 _ (by simp))) (ws' := gT) (by unfold zmWs; rw [hW]) hrm.2.2.1 hrm.2.2.2 hlk9 (hts _ (hw0 _ (by simp))) hpl hRR
    have hM2 := Met_of_vx hMt (hth rfl)
    have hrun := va_runSN (p := p) (e := e) (below := below) (meth := meth) (locs := locs) (cells := cells) (slots := slots) (H := H) hFix hM2 ⟨cw, hts _ (hw0 _ (by simp)), trivial⟩ (As := (st.take (zmN Mc)).reverse.map (cv ad)) (rest := (st.drop (zmN Mc)).map (cv ad)) ⟨zPre_blind, fun U hU hW9 => ⟨rfl, hpre U hU hW9⟩⟩ (g := F0 m (rP r) ls (st.map (cv ad))) rfl hlenAv hl.1 hsplit hsumc hd hfit
    intro T hT X
    obtain ⟨v, st₀, t, T', L, a1, a2, a3, a4, a5, a6, a7⟩ := hrun T hT X
    exact Or.inl ⟨v, st₀, t, T', L, a1, a2, a3, a4, a5, a6, a7⟩
  · -- a constructor, of the nest
    have hd := hdd (fun d lo hi q e9 => by rw [e1] at e9; cases e9)
    rw [e1] at hd
    have hW := zmW_plain hH
    have hw0 : ∀ w ∈ ([.instanceMethod (zmY Mc), .initialized (zmY Mc).cls, zmW Mc] : List Cond), w ∈ gT := fun w hw => hwd w (by unfold zwd; rw [hg, e1, e2]; simp only [hM]; exact hw)
    have hlk9 : va_Nw (.methodLinkNest own ix (zmY Mc) "KeyTour") s := hwx _ (by unfold zwx; rw [hg, e1, e2]; simp only [hM]; exact List.mem_cons_self)
    obtain ⟨y, ey, ed⟩ := hrecv _ rfl (fun v rest q => hnull v rest (Or.inr (Or.inr (Or.inr (Or.inl rfl)))) q)
    have cw := va_cnB (R := R) (y := zmY Mc) (bytes := zmB Mc) (maxL := zmL Mc) (ret := none) (mc := mc) (ms := ms) (rm := rm) (zmN Mc) hts (zgW (M := Mc) (hw0 _ (by simp))) (ws' := gT) (by unfold zmWs; rw [hW, hrn]) hrm.2.2.1 hrm.2.2.2 hlk9 (hts _ (hw0 _ (by simp))) hpl hRR
    rw [ey] at hMt ⊢
    have hM2 := Met_of_vx hMt (hth rfl)
    have hrun := va_runIN (p := p) (e := e) (below := below) (meth := meth) (locs := locs) (cells := cells) (slots := slots) (H := H) hFix hM2 ⟨cw, hi, hts _ (hw0 _ (by simp))⟩ (b := ad y) (As := (st.take (zmN Mc)).reverse.map (cv ad)) (rest := (st.drop (zmN Mc + 1)).map (cv ad)) ⟨zPre_blind, fun U hU hW9 => ⟨rfl, hpre U hU hW9⟩⟩ (g := F0 m (rP r) ls (st.map (cv ad))) rfl (by simp; omega) hl.1 (by
      show st.map (cv ad) = _
      rw [hsplit, ey]
      simp [cv]) hsumc hd hfit
    intro T hT X
    obtain ⟨v, st₀, t, T', L, a1, a2, a3, a4, a5, a6, a7⟩ := hrun T hT X
    exact Or.inl ⟨v, st₀, t, T', L, a1, a2, a3, a4, a5, a6, a7⟩
  · -- static, with handlers
    have hd := hdd (fun d lo hi q e9 => by rw [e1] at e9; cases e9)
    rw [e1] at hd
    have hW := zmW_hand hH
    have hw0 : ∀ w ∈ ([.methodLink own ix (zmY Mc), .static (zmY Mc), .initialized (zmY Mc).cls, zmW Mc] : List Cond), w ∈ gT := fun w hw => hwd w (by unfold zwd; rw [hg, e1, e2]; simp only [hM]; exact hw)
    have hgood : GoodIn gT (va_wsS own ix (zmY Mc) (zmWs Mc)) := gT_good (gT_app (fun w hw => hw0 w (by simp at hw ⊢; rcases hw with q | q | q <;> simp [q])) (fun w hw => ((zgW (M := Mc) (hw0 _ (by simp))) w hw).1))
    have cw := vx_cwSW (R := R) (y := zmY Mc) (bytes := zmB Mc) (maxL := zmL Mc) (ret := zmR Mc) (hh := zmH Mc) (mc := mc) (ms := ms) (rm := rm) (zmN Mc) hts hgood (ws' := gT) (by unfold zmWs; rw [hW]) hrm.2.2.1 hrm.2.2.2 hpl hRR
    have hM2 := Met_of_vx hMt (hth rfl)
    have hrun := vx_runSW (p := p) (e := e) (below := below) (meth := meth) (locs := locs) (cells := cells) (slots := slots) (H := H) hFix hM2 cw (As := (st.take (zmN Mc)).reverse.map (cv ad)) (rest := (st.drop (zmN Mc)).map (cv ad)) ⟨zPre_blind, fun U hU hW9 => ⟨rfl, hpre U hU hW9⟩⟩ (g := F0 m (rP r) ls (st.map (cv ad))) rfl hlenAv hl.1 hsplit hsumc hd hfit
    intro T hT X
    obtain ⟨v, st₀, t, T', L, a1, a2, a3, a4, a5, a6, a7⟩ := hrun T hT X
    exact Or.inl ⟨v, st₀, t, T', L, a1, a2, a3, a4, a5, a6, a7⟩
  · -- a method of the class above
    have hd := hdd (fun d lo hi q e9 => by rw [e1] at e9; cases e9)
    rw [e1] at hd
    have hW := zmW_plain hH
    have hw0 : ∀ w ∈ ([.methodLink own ix (zmY Mc), .sameMethod (zmY Mc).cls (zmY Mc).cls (zmY Mc).name (zmY Mc).desc, .superclass own (zmY Mc).cls, .instanceMethod (zmY Mc), .initialized (zmY Mc).cls, zmW Mc] : List Cond), w ∈ gT := fun w hw => hwd w (by unfold zwd; rw [hg, e1, e2]; simp only [hM]; exact hw)
    obtain ⟨y, ey, ed⟩ := hrecv _ rfl (fun v rest q => hnull v rest (Or.inr (Or.inr (Or.inr (Or.inr (Or.inl rfl))))) q)
    have hgood : GoodIn gT (va_wsSU own ix (zmY Mc) (zmWs Mc)) := gT_good (gT_app (fun w hw => hw0 w (by simp at hw ⊢; rcases hw with q | q | q | q | q <;> simp [q])) (fun w hw => ((zgW (M := Mc) (hw0 _ (by simp))) w hw).1))
    have cw := va_cwSU (R := R) (y := zmY Mc) (bytes := zmB Mc) (maxL := zmL Mc) (ret := zmR Mc) (mc := mc) (ms := ms) (rm := rm) (zmN Mc) hts hgood (ws' := gT) (by unfold zmWs; rw [hW]) hrm.2.2.1 hrm.2.2.2 ⟨hno, hpl.2.2⟩ hRR
    have hat : ClassAt s RJ4 (D.1 6) := (hK.1 6 (RJ4, TJ4, 4) rfl).2
    rw [ey] at hMt ⊢
    have hM2 := Met_of_vx hMt (hth rfl)
    have hrun := va_runSU (p := p) (e := e) (below := below) (meth := meth) (locs := locs) (cells := cells) (slots := slots) (H := H) hat hFix hM2 cw (b := ad y) (As := (st.take (zmN Mc)).reverse.map (cv ad)) (rest := (st.drop (zmN Mc + 1)).map (cv ad)) ⟨zPre_blind, hrcvB y _ (Or.inl rfl) ed, fun U hU hW9 => ⟨rfl, hpre U hU hW9⟩⟩ (g := F0 m (rP r) ls (st.map (cv ad))) rfl (by simp; omega) hl.1 (by
      show st.map (cv ad) = _
      rw [hsplit, ey]
      simp [cv]) hsumc hd hfit
    intro T hT X
    obtain ⟨v, st₀, t, T', L, a1, a2, a3, a4, a5, a6, a7⟩ := hrun T hT X
    exact Or.inl ⟨v, st₀, t, T', L, a1, a2, a3, a4, a5, a6, a7⟩
  · -- inherited
    have hd := hdd (fun d lo hi q e9 => by rw [e1] at e9; cases e9)
    rw [e1] at hd
    have hW := zmW_plain hH
    have hw0 : ∀ w ∈ ([.methodLink own ix (zmY Mc), .sameMethod RJ5 RJ5 (zmY Mc).name (zmY Mc).desc, .selects RJ4 (zmY Mc) (zmY Mc), .instanceMethod (zmY Mc), .initialized (zmY Mc).cls, zmW Mc] : List Cond), w ∈ gT := fun w hw => hwd w (by unfold zwd; rw [hg, e1, e2]; simp only [hM]; exact hw)
    obtain ⟨y, ey, ed⟩ := hrecv _ rfl (fun v rest q => hnull v rest (Or.inr (Or.inr (Or.inr (Or.inr (Or.inr (Or.inl rfl)))))) q)
    have hgood : GoodIn gT (va_wsU own ix RJ4 RJ5 (zmY Mc) (zmY Mc) (zmWs Mc)) := gT_good (gT_app (fun w hw => hw0 w (by rw [hcls] at hw; simp at hw ⊢; rcases hw with q | q | q | q | q <;> simp [q, hcls])) (fun w hw => ((zgW (M := Mc) (hw0 _ (by simp))) w hw).1))
    have cw := va_cwU (R := R) (C := RJ4) (owner := RJ5) (x := zmY Mc) (y := zmY Mc) (bytes := zmB Mc) (maxL := zmL Mc) (ret := zmR Mc) (mc := mc) (ms := ms) (rm := rm) (zmN Mc) hts hgood (ws' := gT) (by unfold zmWs; rw [hW]) hrm.2.2.1 hrm.2.2.2 (by rw [← hcls]) ⟨by decide +kernel, by decide +kernel, hpl.2.2⟩ hRR
    rw [ey] at hMt ⊢
    have hM2 := Met_of_vx hMt (hth rfl)
    have hrun := va_runU (p := p) (e := e) (below := below) (meth := meth) (locs := locs) (cells := cells) (slots := slots) (H := H) hFix hM2 cw (b := ad y) (As := (st.take (zmN Mc)).reverse.map (cv ad)) (rest := (st.drop (zmN Mc + 1)).map (cv ad)) ⟨zPre_blind, hrcvB y _ (Or.inr (Or.inl rfl)) ed, fun U hU hW9 => ⟨rfl, hpre U hU hW9⟩⟩ (g := F0 m (rP r) ls (st.map (cv ad))) rfl (by simp; omega) hl.1 (by
      show st.map (cv ad) = _
      rw [hsplit, ey]
      simp [cv]) hsumc hd hfit
    intro T hT X
    obtain ⟨v, st₀, t, T', L, a1, a2, a3, a4, a5, a6, a7⟩ := hrun T hT X
    exact Or.inl ⟨v, st₀, t, T', L, a1, a2, a3, a4, a5, a6, a7⟩
  · -- overriding
    have hd := hdd (fun d lo hi q e9 => by rw [e1] at e9; cases e9)
    rw [e1] at hd
    have hW := zmW_plain hH
    have hw0 : ∀ w ∈ ([.methodLink own ix yJ5_length_8abf5, .sameMethod RJ5 RJ5 "length" "()I", .instanceMethod yJ5_length_8abf5, .selects RJ4 yJ5_length_8abf5 (zmY Mc), .instanceMethod (zmY Mc), .initialized (zmY Mc).cls, .code yJ5_length_8abf5 cJ5_length_8abf5 1 (some .int), zmW Mc] : List Cond), w ∈ gT := fun w hw => hwd w (by unfold zwd; rw [hg, e1, e2]; simp only [hM]; exact hw)
    obtain ⟨y, ey, ed⟩ := hrecv _ rfl (fun v rest q => hnull v rest (Or.inr (Or.inr (Or.inr (Or.inr (Or.inr (Or.inr rfl)))))) q)
    have hgood : GoodIn gT (va_wsO own ix RJ4 RJ5 yJ5_length_8abf5 (zmY Mc) (zmWs Mc)) := gT_good (gT_app (fun w hw => hw0 w (by simp [yJ5_length_8abf5] at hw ⊢; rcases hw with q | q | q | q | q | q <;> simp [q])) (fun w hw => ((zgW (M := Mc) (hw0 _ (by simp))) w hw).1))
    have cw := va_cwO (R := R) (C := RJ4) (owner := RJ5) (x := yJ5_length_8abf5) (y := zmY Mc) (bytes := zmB Mc) (maxL := zmL Mc) (ret := zmR Mc) (mc := mc) (ms := ms) (rm := rm) (zmN Mc) hts hgood (ws' := gT) (by unfold zmWs; rw [hW]) hrm.2.2.1 hrm.2.2.2 (b0 := cJ5_length_8abf5) (m0 := 1) (r0 := some .int) (hw0 _ (by simp [yJ5_length_8abf5])) ⟨by decide +kernel, by decide +kernel, by rw [← hpl.2.2, hds9]; rfl⟩ hRR
    rw [ey] at hMt ⊢
    have hM2 := Met_of_vx hMt (hth rfl)
    have hrun := va_runU (p := p) (e := e) (below := below) (meth := meth) (locs := locs) (cells := cells) (slots := slots) (H := H) hFix hM2 cw (b := ad y) (As := (st.take (zmN Mc)).reverse.map (cv ad)) (rest := (st.drop (zmN Mc + 1)).map (cv ad)) ⟨zPre_blind, hrcvB y _ (Or.inr (Or.inr rfl)) ed, fun U hU hW9 => ⟨rfl, hpre U hU hW9⟩⟩ (g := F0 m (rP r) ls (st.map (cv ad))) rfl (by simp; omega) hl.1 (by
      show st.map (cv ad) = _
      rw [hsplit, ey]
      simp [cv]) hsumc hd hfit
    intro T hT X
    obtain ⟨v, st₀, t, T', L, a1, a2, a3, a4, a5, a6, a7⟩ := hrun T hT X
    exact Or.inl ⟨v, st₀, t, T', L, a1, a2, a3, a4, a5, a6, a7⟩
end ZW
end
section
/-! A NoSuchElementException MADE AND THROWN: its constructor passes the text on by another index than its sisters (written by wip/whole/gen11n.py). -/
section ZN11
def zn_T : String := "java/lang/RuntimeException"
variable {p : Program} {l : Launch} {e : Env} {R : Room} {s : State} {m₀ : MethodId} {args : Array Value} {below : List Frame} {meth : Method} {c : Code} {W : State} {cells slots : Nat}
set_option maxHeartbeats 4000000 in
/-- from the call of the constructor to the throw -/
theorem zk_ctor (X : Stand p l e R s m₀ args below meth c W [] cells slots) (hexec : p.tables.exec = Jvm.exec) (htr : e.platform.stackTraces = false) {own : String} {ic : Nat} (hown : s.vm.findClass own = some m₀.cls) (h : ∀ w ∈ znOwn own ic, w.before args s = true)
    {a : Addr} {cX : ClassId} {kX : Class} (hfX : s.vm.findClass (zex 3) = some cX) (hkX : s.vm.classes[cX]? = some kX) (hcell : W.heap[a]? = some (freshCell cX kX)) (hnew : s.heap.size ≤ a) {msg : Value} (hmsg : msg.isRef = true)
    {g : JFrame} (hg : g.method = m₀) (hsize : g.locals.size = c.maxLocals) (hlocked : g.locked = none) (hentered : g.entered = []) {rest : List Value} (hst : g.stack = msg :: .ref a :: .ref a :: rest)
    (hd6 : decode c.code g.pc = .ok (.invokespecial ic, 3)) (hd9 : decode c.code (g.pc + 3) = .ok (.athrow, 1)) (hout : ∀ x ∈ c.exceptionTable.toList, covers x (g.pc + 3) = false)
    (hRf : 5 < R.frames) (hRl : 2 * g.monitorRoom + ((Value.ref a :: rest).map fun v => v.category).sum + 81 ≤ R.locals) (hlocks : meth.locks = false) :
    ∃ U : State, Steps p.tables e below (W.setTop g) U ∧ U.status = .running ∧ Ended U below (.threw a) ∧ s.WarmedH U.vm ∧ s.sameButNew ({ U with vm := s.vm } : State) [] cells slots ∧ ∃ ce, U.heap[a]? = some ce ∧ ce.vm = .none ∧ s.vm.findClass (zex 3) = some ce.cls := by
  have e1 : e.platform.frameOwnsMonitors = true := by rw [X.admits.platform]
  have e2 : e.platform.finalization = false := by rw [X.admits.platform]
  have e3 : e.platform.magicAccessors = ({} : Platform).magicAccessors := by rw [X.admits.platform]
  have ho : ∀ x, x ∈ znOwn own ic → x.holds args s none s [] = true := fun x hx => h x hx
  obtain ⟨T, Z0, L, -, Y⟩ := ThrowableC.of_atoms (args := args) e1 e2 e3 (fun x hx => h x (by simp [znOwn, hx]))
  obtain ⟨Z, M, LZ, LM, hZ⟩ := Init0T.ofS_atoms (args := args) e3 L Y (fun x hx => h x (by simp [znOwn, hx]))
  obtain ⟨P1, L1, hm1, hs1⟩ := PassC.ofS_atoms (args := args) (s := s) e3 (X := zex 3) (Y := "java/lang/RuntimeException") (index := 13) (bytes := zn6) (by decide +kernel) (by decide +kernel) (by decide +kernel) (by decide +kernel) (by decide +kernel) (by decide +kernel) (fun x hx => h x (by simp [znOwn, hx]))
  obtain ⟨P2, Ps, hlen, L2, L3, hm2, hl2, hl3⟩ := Bundle.chainS (args := args) e3 hZ ["java/lang/Exception"] "java/lang/RuntimeException" (by decide +kernel) (by decide +kernel) (fun x hx => h x (by simp [znOwn, hx]))
  have hsup : P1.sup = P2.m := Option.some.inj (hs1.symm.trans hm2)
  have hfd : s.vm.findClass (zex 3) = some P1.m.cls := findClass_of_methodNamed hm1
  cases Option.some.inj (hfX.symm.trans hfd)
  obtain ⟨c1, kX', hc1, hk, hord, -, -, -⟩ := Cond.instantiable_spec (ho (.instantiable (zex 3) 6) (by simp [znOwn]))
  cases Option.some.inj (hc1.symm.trans hfd)
  cases Option.some.inj (hkX.symm.trans hk)
  have hsel : ∀ {x : MethodName} {y : MethodId}, (Cond.selects (zex 3) x x).holds args s none s [] = true → s.methodNamed? x = some y → s.methodFound? x.cls x.name x.desc = some y → selectMethod e.platform s.vm P1.m.cls y = .method y := by
    intro x y hw hy hy2
    obtain ⟨c2, r2, m2, q1, q2, q3, q4, -⟩ := Cond.selects_spec hw
    cases Option.some.inj (q1.symm.trans hfd)
    cases Option.some.inj (q2.symm.trans hy2)
    cases Option.some.inj (q3.symm.trans hy)
    rw [Launch.admits_selectMethod X.admits]; exact q4
  have f0 := hsel (ho (.selects (zex 3) Bundle.tFill0 Bundle.tFill0) (by simp [znOwn])) Y.fill0 (State.methodFound?_of_named Y.fill0 (by decide))
  have f1 := hsel (ho (.selects (zex 3) Bundle.tFill Bundle.tFill) (by simp [znOwn])) Y.fill (State.methodFound?_of_named Y.fill (by decide))
  obtain ⟨cS0, hcS0, hiS⟩ := Y.statics
  obtain ⟨u0, hu0⟩ := Cond.staticRefV Y.unassigned L.unassignedStatic L.statics hcS0 hiS (ho (.isRef (.static Bundle.tN "UNASSIGNED_STACK" Bundle.steD)) (by simp [znOwn]))
  obtain ⟨sen, hsen⟩ := Cond.staticRefV Y.sentinel L.sentinelStatic L.statics hcS0 hiS (ho (.isRef (.static Bundle.tN "SUPPRESSED_SENTINEL" Bundle.listD)) (by simp [znOwn]))
  obtain ⟨ci, ix, fB, k1, k2, k3, k4, -, hnB, htB, hfB⟩ := Cond.ownField (t := .object "java/lang/Object") Y.found L.cls (by decide +kernel) (ho (.fieldLink Bundle.tN 198 Bundle.tN "backtrace" "Ljava/lang/Object;") (by simp [znOwn])) (ho (.lays Bundle.tN Bundle.tN "backtrace" "Ljava/lang/Object;") (by simp [znOwn])) e.platform e3
  obtain ⟨cS, hcS, hcSv, -, hkp⟩ := X.same.2.2.2.2.2 T.aS cS0 hcS0
  have hcS : W.heap[T.aS]? = some cS := hcS
  have hcSu : cS.vm ≠ .unknown := by
    rw [hcSv]; intro hu
    rw [show cS0.vm = .unknown from hu] at hiS
    cases hiS
  have hneS : T.aS ≠ a := Nat.ne_of_lt (Nat.lt_of_lt_of_le (Array.getElem?_eq_some_iff.mp hcS0).1 hnew)
  obtain ⟨iM, hM⟩ := Y.msg
  obtain ⟨tC, dC, lC, nC⟩ := Cond.laysAt hfd hk Y.cause (ho (.lays (zex 3) Bundle.tN "cause" "Ljava/lang/Throwable;") (by simp [znOwn]))
  obtain ⟨tS, dS, lS, nS⟩ := Cond.laysAt hfd hk Y.stack (ho (.lays (zex 3) Bundle.tN "stackTrace" Bundle.steD) (by simp [znOwn]))
  obtain ⟨tP, dP, lP, nP⟩ := Cond.laysAt hfd hk Y.supp (ho (.lays (zex 3) Bundle.tN "suppressedExceptions" Bundle.listD) (by simp [znOwn]))
  obtain ⟨tM, dM, lM, nM⟩ := Cond.laysAt hfd hk hM (ho (.lays (zex 3) Bundle.tN "detailMessage" "Ljava/lang/String;") (by simp [znOwn]))
  obtain ⟨tB, dB, lB, nB⟩ := Cond.laysAt hfd hk hfB (ho (.lays (zex 3) Bundle.tN "backtrace" "Ljava/lang/Object;") (by simp [znOwn]))
  have b1 := Cond.laysApart lB lC nB nC (by rw [hnB, Y.causeName]; decide)
  have b2 := Cond.laysApart lB lS nB nS (by rw [hnB, Y.stackName]; decide)
  have b3 := Cond.laysApart lB lP nB nP (by rw [hnB, Y.suppName]; decide)
  have hsk : SkipFacts T e.platform s (fun u => u) u0 ((preparedCellV T.toThrowableT (freshCell P1.m.cls kX) a u0 sen).withEntry W.cur) :=
    ⟨{ ci198 := ci, i198 := ix, fBack := fB }, ⟨k1, k2, k3, k4⟩, by
      have h9 := fresh_default (c := P1.m.cls) tB
      rw [htB] at h9
      simpa [preparedCellV, Cell.setSlot, Cell.withEntry, Array.getElem?_setIfInBounds, b1, b2, b3, b1.symm, b2.symm, b3.symm, defaultValue] using h9, fun _ _ => rfl⟩
  obtain ⟨tm, meC, cdC, kC, vm1, hnC, -, -, -, -, -, -, -, hW1, st1⟩ := Steps.initColdS (tb := p.tables) (e := e) (below := below) (s := s) (U := W) X.here hexec X.warmed e3 hown (t := Bundle.initS (zex 3)) rfl rfl (by decide +kernel)
    (ho (.methodLink own ic (Bundle.initS (zex 3))) (by simp [znOwn])) (h (.instanceMethod (Bundle.initS (zex 3))) (by simp [znOwn, Bundle.passSAtoms])) (bytes := zn6) (maxL := 2) (h (.code (Bundle.initS (zex 3)) zn6 2 none) (by simp [znOwn, Bundle.passSAtoms]))
    (f := g) hg (a := a) (msg := msg) (rest := .ref a :: rest) hst hd6
  cases Option.some.inj (hnC.symm.trans hm1)
  obtain ⟨vm2, X2, st2⟩ := (X.noted hW1).ctorMessageOffV hexec (g := { g with stack := .ref a :: rest }) hg hsize T L Z LZ M LM (P1 :: P2 :: Ps)
    (fun P hP => by
      rcases List.mem_cons.mp hP with rfl | hP
      · exact L1
      · rcases List.mem_cons.mp hP with rfl | hP
        · exact L2
        · exact L3 P hP) ⟨hsup, hl2, hl3⟩ (u0 := u0) (sen := sen) (self := a) hmsg (cell := freshCell P1.m.cls kX) (cellS := cS)
    hcell (fun _ => by simp) (by simp) rfl rfl f0 f1 hcS hneS hcSu (by rw [hkp _ (fun z => nomatch z)]; exact hu0) (by rw [hkp _ (fun z => nomatch z)]; exact hsen)
    (Takes.of_laid hk hord tC (by rw [Y.causeType]; rfl)) (Takes.of_laid hk hord tS (by rw [Y.stackType]; exact fits_refV_array _ u0)) (Takes.of_laid hk hord tP (by rw [Y.suppType]; exact fits_refV_object _ sen))
    (Takes.of_laid hk hord tM (by rw [Y.msgType]; exact fits_refV_object _ ⟨msg, hmsg⟩)) Y.objLocals hsk htr [] hd6
    (by simp only [List.length_cons, hlen, List.length_nil]; omega) (by simp only [List.length_cons, hlen, List.length_nil]; exact hRl)
  obtain ⟨hwalk, hrun, hend, hWU, hsame⟩ := X2.athrowLeaves hexec (g := { g with stack := .ref a :: rest, pc := g.pc + 3 }) hg hlocked hentered hout (a := a) (rest := rest) rfl hd9
  have hlt : a < ((W.setVm vm1).setVm vm2).heap.size := (Array.getElem?_eq_some_iff.mp hcell).1
  refine ⟨_, st1 _ (fun acts => ?_), hrun, hend, hWU, hsame.weaken (fun y hy hlt2 => ?_) (Nat.le_refl _) (Nat.le_refl _), _, heapAt_setCell_self (s := (W.setVm vm1).setVm vm2) (plainBareV T.toThrowableT (freshCell P1.m.cls kX) a u0 sen msg) hlt, rfl, hfd⟩
  · rw [doInvoke_state]
    exact st2 _ hwalk
  · exfalso
    have hb : y.base = a := by
      simp only [List.mem_cons, List.not_mem_nil, or_false, List.nil_append] at hy
      rcases hy with rfl | rfl | rfl | rfl | rfl <;> rfl
    rw [hb] at hlt2
    exact Nat.not_lt.mpr hnew hlt2
end ZN11
set_option maxHeartbeats 4000000 in
theorem zthrowN {p : Program} {l : Launch} {e : Env} {R : Room} {s : State} {m : MethodId} {args : Array Value} {below : List Frame} {meth : Method} {c : Code} {H : Heap} {locs : List Loc} {cells slots : Nat} {free : Addr → Prop} {ls : Array Slot} {rest : List Value} {Qc : Array Value → State → Outcome → State → Prop} {XC : String → State → State → Prop} {cc : ByteArray} {pc : Nat} (hexec : p.tables.exec = Jvm.exec) (hb : c.code = cc) (hl : l.stackTraces = false) {own text : String} {ik is ic mc ms sa : Nat} {A : Nat → Prop}
    (hown : s.vm.findClass own = some m.cls)
    (hk : (Cond.classLink own ik (zex 3)).before args s = true) (hini : (Cond.initialized (zex 3)).before args s = true) (hstr : vk_R own is text sa s) (hat : ∀ w ∈ zat own ic 3, w.before args s = true)
    (hgood : ∀ w ∈ Cond.classLink own ik (zex 3) :: Cond.initialized (zex 3) :: zat own ic 3, vx_ot w = true)
    (hU : vx_Zq Bundle.tN "UNASSIGNED_STACK" Bundle.steD A s s.heap) (hN : vx_Zq Bundle.tN "SUPPRESSED_SENTINEL" Bundle.listD A s s.heap) (hS : va_S A s.heap H locs) (hsize : ls.size = c.maxLocals)
    (d0 : decode cc pc = .ok (.new ik, 3)) (d3 : decode cc (pc + 3) = .ok (.dup, 1)) (d4 : decode cc (pc + 4) = .ok (.ldc is, 2)) (d6 : decode cc (pc + 6) = .ok (.invokespecial ic, 3)) (d9 : decode cc (pc + 9) = .ok (.athrow, 1)) (hout : ∀ x ∈ c.exceptionTable.toList, covers x (pc + 9) = false)
    (hRframes : 6 ≤ R.frames) (hRlocals : (rest.map fun v => v.category).sum + 82 ≤ R.locals) (hRcells : cells + 1 ≤ R.cells) (hRslots : slots + 6 ≤ R.slots) (hlocks : meth.locks = false)
    (hx : ∀ t : State, s.vm.Alike t.vm → H.size ≤ t.heap.size → (∀ q : Nat, q < H.size → t.heap[q]? = H[q]?) → XC (zex 3) s t)
    (hf : ∀ z ∈ locs, free z.base) (hc : cells + 1 ≤ mc) (hs : slots + 6 ≤ ms) :
    W p l e R s m args below meth c H locs cells slots (vx_MQ below Qc XC args s mc ms free) (F0 m pc ls rest) := by
  intro T hT X
  have htr : e.platform.stackTraces = false := (show e.platform.stackTraces = l.stackTraces by rw [X.admits.platform]).trans hl
  have Y := vx_rebase X (R' := { frames := R.frames, locals := R.locals, cells := 1, slots := 6 }) (Nat.le_refl _) (Nat.le_refl _) hRcells hRslots
  obtain ⟨s', hA⟩ : ∃ z, z = (T.setVm s.vm).setFrames (.invoking m args :: below) := ⟨_, rfl⟩
  rw [← hA] at Y
  have hvm : s'.vm = s.vm := by rw [hA]; rfl
  have hhp : s'.heap = H := by rw [hA]; exact hT
  have hW0 : s.WarmedH s'.vm := by rw [hvm]; exact State.WarmedH.refl s
  have hat' : ∀ w ∈ (znOwn own ic).filter vx_no, w.before args s' = true := fun w hw => vx_ot_at hW0 hvm.symm (hgood w (List.mem_cons_of_mem _ (List.mem_cons_of_mem _ hw))) (hat w hw)
  have hk' : (Cond.classLink own ik (zex 3)).before args s' = true := vx_ot_at hW0 hvm.symm (hgood _ List.mem_cons_self) hk
  have hini' : (Cond.initialized (zex 3)).before args s' = true := vx_ot_at hW0 hvm.symm (hgood _ (List.mem_cons_of_mem _ List.mem_cons_self)) hini
  have hU' : vx_Zq Bundle.tN "UNASSIGNED_STACK" Bundle.steD A s' s'.heap := by rw [hhp]; exact vx_Zq.moved hW0.alike (hU.kept hS.2.1)
  have hN' : vx_Zq Bundle.tN "SUPPRESSED_SENTINEL" Bundle.listD A s' s'.heap := by rw [hhp]; exact vx_Zq.moved hW0.alike (hN.kept hS.2.1)
  have h : ∀ w ∈ znOwn own ic, w.before args s' = true := vx_own hat' (vx_isRefq hU'.1) (vx_isRefq hN'.1) hU'.2.word hN'.2.word
  have hown' : s'.vm.findClass own = some m.cls := by rw [hvm]; exact hown
  obtain ⟨vm1, cX, kX, hfX, hkX, -, -, X1, st1⟩ := Y.newCold hexec (own := own) (C := zex 3) (index := ik) (n := 6) hown' hk' (h (.instantiable (zex 3) 6) (by simp [znOwn])) hini'
    (g := F0 m pc ls rest) rfl (by rw [hb]; exact d0) (Nat.le_refl _) (Nat.le_refl _)
  generalize hT1 : (T.setVm vm1).pushCell { cls := cX, slots := kX.instanceTypes.map defaultValue, vm := .none } = T1 at X1 st1
  have hcat : (Value.ref T.heap.size).category = 1 := rfl
  have hcell : T1.heap[T.heap.size]? = some (freshCell cX kX) := by rw [← hT1]; exact State.heap_pushCell_size _ _
  have d3' : decode c.code (pc + 3) = .ok (.dup, 1) := by rw [hb]; exact d3
  have d4' : decode c.code (pc + 4) = .ok (.ldc is, 2) := by rw [hb]; exact d4
  have hstr' : vk_R own is text sa s' := vk_R.warm hW0 hstr
  obtain ⟨U, hsteps, hrun, hend, hW, hsame, ce, hce, hcv, hcl⟩ := zk_ctor X1 hexec htr (own := own) (ic := ic) hown' h hfX hkX hcell (by rw [hhp, hT]; exact Nat.le_refl _) (msg := .ref sa) rfl
    (g := { method := m, pc := pc + 6, locals := ls, stack := .ref sa :: .ref T.heap.size :: .ref T.heap.size :: rest, locked := none }) rfl hsize rfl rfl (rest := rest) rfl
    (by rw [hb]; exact d6) (by rw [hb]; exact d9) hout (by show 5 < R.frames; omega) (by show 2 * 0 + _ + 81 ≤ R.locals; simp only [List.map_cons, List.sum_cons, hcat]; omega) hlocks
  obtain ⟨f1, f2⟩ := vx_frame hsame
  rw [hhp] at f1 f2
  have hWs : s.WarmedH U.vm := State.WarmedH.trans hW0 hW
  have hcl9 : s.vm.findClass (zex 3) = some ce.cls := by rw [← hvm]; exact hcl
  have hall : s.sameButNew ({ U with vm := s.vm } : State) locs mc ms := by
    subst hA
    obtain ⟨e1, e2⟩ := hsame
    rw [State.setFrames_setFrames] at e1
    have h2 : (T.setVm s.vm).sameButNew ({ U with vm := s.vm } : State) [] (0 + 1) (0 + 6) := ⟨e1, e2⟩
    have h3 := X.same.trans h2
    rw [List.append_nil] at h3
    exact h3.mono hc hs
  refine ⟨U, ?_, .threw T.heap.size, hrun, hend, Or.inr ⟨T.heap.size, rfl, zex 3, ce, locs, hx U hWs.alike f1 (fun q hq => f2 q hq (fun z hz => nomatch hz)), hce, hcv, hcl9, hWs, hall, hf⟩⟩
  refine st1 _ ?_
  show Steps p.tables e below (T1.setTop { method := m, pc := pc + 3, locals := ls, stack := .ref T.heap.size :: rest, locked := none }) _
  jvm_step X1.here [X1.here.top, hexec, d3', Value.category]
  exact X1.ldcString hexec (own := own) (text := text) (index := is) (a := sa) hown' hstr'.1 hstr'.2
    (g := { method := m, pc := pc + 4, locals := ls, stack := .ref T.heap.size :: .ref T.heap.size :: rest, locked := none }) rfl d4' _ hsteps
set_option maxHeartbeats 4000000 in
theorem zthrowNW {p : Program} {l : Launch} {e : Env} {R : Room} {s : State} {m : MethodId} {args : Array Value} {below : List Frame} {meth : Method} {c : Code} {H : Heap} {locs : List Loc} {cells slots : Nat} {free : Addr → Prop} {ls : Array Slot} {rest : List Value} {Qc : Array Value → State → Outcome → State → Prop} {XC : String → State → State → Prop} {cc : ByteArray} {pc : Nat} (hexec : p.tables.exec = Jvm.exec) (hb : c.code = cc) (hl : l.stackTraces = false) {own text : String} {ik is ic mc ms sa : Nat} {A : Nat → Prop}
    (hown : s.vm.findClass own = some m.cls)
    (hk : (Cond.classLink own ik (zex 3)).before args s = true) (hini : (Cond.initialized (zex 3)).before args s = true) (hstr : vk_R own is text sa s) (hat : ∀ w ∈ zat own ic 3, w.before args s = true)
    (hgood : ∀ w ∈ Cond.classLink own ik (zex 3) :: Cond.initialized (zex 3) :: zat own ic 3, vx_ot w = true)
    (hU : vx_Zq Bundle.tN "UNASSIGNED_STACK" Bundle.steD A s s.heap) (hN : vx_Zq Bundle.tN "SUPPRESSED_SENTINEL" Bundle.listD A s s.heap) (hS : va_S A s.heap H locs) (hsize : ls.size = c.maxLocals)
    (d0 : decode cc pc = .ok (.new ik, 3)) (d3 : decode cc (pc + 3) = .ok (.dup, 1)) (d4 : decode cc (pc + 4) = .ok (.ldc_w is, 3)) (d6 : decode cc (pc + 7) = .ok (.invokespecial ic, 3)) (d9 : decode cc (pc + 10) = .ok (.athrow, 1)) (hout : ∀ x ∈ c.exceptionTable.toList, covers x (pc + 10) = false)
    (hRframes : 6 ≤ R.frames) (hRlocals : (rest.map fun v => v.category).sum + 82 ≤ R.locals) (hRcells : cells + 1 ≤ R.cells) (hRslots : slots + 6 ≤ R.slots) (hlocks : meth.locks = false)
    (hx : ∀ t : State, s.vm.Alike t.vm → H.size ≤ t.heap.size → (∀ q : Nat, q < H.size → t.heap[q]? = H[q]?) → XC (zex 3) s t)
    (hf : ∀ z ∈ locs, free z.base) (hc : cells + 1 ≤ mc) (hs : slots + 6 ≤ ms) :
    W p l e R s m args below meth c H locs cells slots (vx_MQ below Qc XC args s mc ms free) (F0 m pc ls rest) := by
  intro T hT X
  have htr : e.platform.stackTraces = false := (show e.platform.stackTraces = l.stackTraces by rw [X.admits.platform]).trans hl
  have Y := vx_rebase X (R' := { frames := R.frames, locals := R.locals, cells := 1, slots := 6 }) (Nat.le_refl _) (Nat.le_refl _) hRcells hRslots
  obtain ⟨s', hA⟩ : ∃ z, z = (T.setVm s.vm).setFrames (.invoking m args :: below) := ⟨_, rfl⟩
  rw [← hA] at Y
  have hvm : s'.vm = s.vm := by rw [hA]; rfl
  have hhp : s'.heap = H := by rw [hA]; exact hT
  have hW0 : s.WarmedH s'.vm := by rw [hvm]; exact State.WarmedH.refl s
  have hat' : ∀ w ∈ (znOwn own ic).filter vx_no, w.before args s' = true := fun w hw => vx_ot_at hW0 hvm.symm (hgood w (List.mem_cons_of_mem _ (List.mem_cons_of_mem _ hw))) (hat w hw)
  have hk' : (Cond.classLink own ik (zex 3)).before args s' = true := vx_ot_at hW0 hvm.symm (hgood _ List.mem_cons_self) hk
  have hini' : (Cond.initialized (zex 3)).before args s' = true := vx_ot_at hW0 hvm.symm (hgood _ (List.mem_cons_of_mem _ List.mem_cons_self)) hini
  have hU' : vx_Zq Bundle.tN "UNASSIGNED_STACK" Bundle.steD A s' s'.heap := by rw [hhp]; exact vx_Zq.moved hW0.alike (hU.kept hS.2.1)
  have hN' : vx_Zq Bundle.tN "SUPPRESSED_SENTINEL" Bundle.listD A s' s'.heap := by rw [hhp]; exact vx_Zq.moved hW0.alike (hN.kept hS.2.1)
  have h : ∀ w ∈ znOwn own ic, w.before args s' = true := vx_own hat' (vx_isRefq hU'.1) (vx_isRefq hN'.1) hU'.2.word hN'.2.word
  have hown' : s'.vm.findClass own = some m.cls := by rw [hvm]; exact hown
  obtain ⟨vm1, cX, kX, hfX, hkX, -, -, X1, st1⟩ := Y.newCold hexec (own := own) (C := zex 3) (index := ik) (n := 6) hown' hk' (h (.instantiable (zex 3) 6) (by simp [znOwn])) hini'
    (g := F0 m pc ls rest) rfl (by rw [hb]; exact d0) (Nat.le_refl _) (Nat.le_refl _)
  generalize hT1 : (T.setVm vm1).pushCell { cls := cX, slots := kX.instanceTypes.map defaultValue, vm := .none } = T1 at X1 st1
  have hcat : (Value.ref T.heap.size).category = 1 := rfl
  have hcell : T1.heap[T.heap.size]? = some (freshCell cX kX) := by rw [← hT1]; exact State.heap_pushCell_size _ _
  have d3' : decode c.code (pc + 3) = .ok (.dup, 1) := by rw [hb]; exact d3
  have d4' : decode c.code (pc + 4) = .ok (.ldc_w is, 3) := by rw [hb]; exact d4
  have hstr' : vk_R own is text sa s' := vk_R.warm hW0 hstr
  obtain ⟨U, hsteps, hrun, hend, hW, hsame, ce, hce, hcv, hcl⟩ := zk_ctor X1 hexec htr (own := own) (ic := ic) hown' h hfX hkX hcell (by rw [hhp, hT]; exact Nat.le_refl _) (msg := .ref sa) rfl
    (g := { method := m, pc := pc + 7, locals := ls, stack := .ref sa :: .ref T.heap.size :: .ref T.heap.size :: rest, locked := none }) rfl hsize rfl rfl (rest := rest) rfl
    (by rw [hb]; exact d6) (by rw [hb]; exact d9) hout (by show 5 < R.frames; omega) (by show 2 * 0 + _ + 81 ≤ R.locals; simp only [List.map_cons, List.sum_cons, hcat]; omega) hlocks
  obtain ⟨f1, f2⟩ := vx_frame hsame
  rw [hhp] at f1 f2
  have hWs : s.WarmedH U.vm := State.WarmedH.trans hW0 hW
  have hcl9 : s.vm.findClass (zex 3) = some ce.cls := by rw [← hvm]; exact hcl
  have hall : s.sameButNew ({ U with vm := s.vm } : State) locs mc ms := by
    subst hA
    obtain ⟨e1, e2⟩ := hsame
    rw [State.setFrames_setFrames] at e1
    have h2 : (T.setVm s.vm).sameButNew ({ U with vm := s.vm } : State) [] (0 + 1) (0 + 6) := ⟨e1, e2⟩
    have h3 := X.same.trans h2
    rw [List.append_nil] at h3
    exact h3.mono hc hs
  refine ⟨U, ?_, .threw T.heap.size, hrun, hend, Or.inr ⟨T.heap.size, rfl, zex 3, ce, locs, hx U hWs.alike f1 (fun q hq => f2 q hq (fun z hz => nomatch hz)), hce, hcv, hcl9, hWs, hall, hf⟩⟩
  refine st1 _ ?_
  show Steps p.tables e below (T1.setTop { method := m, pc := pc + 3, locals := ls, stack := .ref T.heap.size :: rest, locked := none }) _
  jvm_step X1.here [X1.here.top, hexec, d3', Value.category]
  exact X1.ldcStringW hexec (own := own) (text := text) (index := is) (a := sa) hown' hstr'.1 hstr'.2
    (g := { method := m, pc := pc + 4, locals := ls, stack := .ref T.heap.size :: .ref T.heap.size :: rest, locked := none }) rfl d4' _ hsteps
end
section
/-! ANSWERS, CALLS WITH WHAT FOLLOWS, THROWS, HANDLERS. -/
section ZR1
theorem zLh_drop {ad : Nat → Nat} {nL : Nat} {la : zm_L} {ls' : Array Slot} {i : Nat} {w : Value} (hn : la.length = nL)
    (h : lv_has ls' nL ((i, w) :: (zasc ad la).filter (fun q => !(q.1 == i) && !(q.1 + 1 == i && q.2.category == 2)))) : zLh ad nL ((zclr i la).set i none) ls' := by
  refine ⟨h.1, h.2.1, by simp [zclr_len, hn], fun j u hj => ?_⟩
  by_cases e : j = i
  · subst e
    rw [List.getElem?_set] at hj
    simp at hj
  · rw [List.getElem?_set_ne (Ne.symm e)] at hj
    obtain ⟨h1, h2⟩ := zclr_at hj
    refine h.2.2 (j, cv ad u) (List.mem_cons_of_mem _ (List.mem_filter.mpr ⟨zasc_mem.mpr ⟨u, h1, rfl⟩, ?_⟩))
    simp only [Bool.and_eq_true, Bool.not_eq_true', beq_eq_false_iff_ne, ne_eq, Bool.and_eq_false_iff]
    refine ⟨e, ?_⟩
    rw [cv_cat]
    by_cases e2 : j + 1 = i
    · exact Or.inr (fun hc => h2 ⟨e2, hc⟩)
    · exact Or.inl e2
end ZR1
section ZR2
variable {sc : Nat × (Nat → Int32)}
variable {p : Program} {l : Launch} {e : Env} {R : Room} {s : State} {m : MethodId} {args : Array Value} {below : List Frame} {meth : Method} {c : Code} {H : Heap} {locs : List Loc} {cells slots : Nat} {Q : State → Prop}
variable {own : String} {M : zm_M} {envM : List zm_M} {D : va_G} {tc : Nat → ClassId} {ad : Nat → Nat} {A : Nat → Prop} {h : zm_H} {rows : List zm_R} {i : Nat} {r : zm_R} {la : zm_L} {st : List Value} {ls : Array Slot} {c0 s0 : Nat} {X : Type} {x : X} {k : zm_K X}
set_option maxHeartbeats 4000000 in
theorem zs5 (C : zCx p l R s m args meth c own M D tc A) (hdc : zdec (zmB M) r = true) (hR : zR D tc ad A s h H locs) (hl : zLh ad (zmL M) la ls) (hS : zokS (zN h) st) (hL : zokL (zN h) la) {o : zm_O} (hs : zg5 r st h = some o) (hc : zchk own M envM rows i r = true) (hg : rG r = 5) {Qc : Array Value → State → Outcome → State → Prop} {XC : String → State → State → Prop} {free : Addr → Prop} (h1 : cells ≤ (rN r).1) (h2 : slots ≤ (rN r).2)
    (hq : ∀ v : Option Value, o = (.inl v, h) → (∀ w, v = some w → zokV (zN h) w) → ∀ t : State, t.heap = H → s.WarmedH t.vm → Qc args s (.returned (v.map (cv ad))) t) (hf : ∀ q ∈ locs, free q.base) :
    W p l e R s m args below meth c H locs cells slots (vx_MQ below Qc XC args s (zmC M) (zmS M) free) (F0 m (rP r) ls (st.map (cv ad))) := by
  unfold zchk at hc
  rw [hg] at hc
  simp only [hdc, Bool.true_and, Bool.and_eq_true, decide_eq_true_eq] at hc
  obtain ⟨⟨hc1, hc2⟩, hc⟩ := hc
  have hx := C.1
  have hb := C.2.1
  have hlk := C.2.2.2.2.2.2.2.2.2.1
  have hret := C.2.2.2.2.2.2.2.2.2.2.2.2
  refine W.widen (k := zmC M) (n := zmS M) (by omega) (by omega) (vx_ret ?_)
  unfold zg5 at hs
  split at hs
  · rename_i e1 e2
    have hd := zdec_ok hdc (fun d lo hi q e9 => by rw [e1] at e9; cases e9)
    rw [e1] at hd
    rw [e1, e2] at hc
    have hr := hret.trans (of_decide_eq_true hc)
    split at hs
    · rename_i v
      cases hs
      exact W.iret hx hb hr (fun t ht hW => hq (some (.int v)) rfl (fun w hw => by cases hw; trivial) t ht hW) hf hd hlk
    · cases hs
  · rename_i e1 e2
    have hd := zdec_ok hdc (fun d lo hi q e9 => by rw [e1] at e9; cases e9)
    rw [e1] at hd
    rw [e1, e2] at hc
    have hr := hret.trans (of_decide_eq_true hc)
    split at hs
    · rename_i v
      obtain ⟨hz, hs⟩ := zgd_some hs
      cases hs
      exact W.zret hx hb hr (by rcases hz with q | q <;> rw [q] <;> rfl) (fun t ht hW => hq (some (.int v)) rfl (fun w hw => by cases hw; trivial) t ht hW) hf hd hlk
    · cases hs
  · rename_i e1 e2
    have hd := zdec_ok hdc (fun d lo hi q e9 => by rw [e1] at e9; cases e9)
    rw [e1] at hd
    rw [e1, e2] at hc
    have hr := hret.trans (of_decide_eq_true hc)
    split at hs
    · rename_i v
      obtain ⟨hz, hs⟩ := zgd_some hs
      cases hs
      exact W.zret hx hb hr (by have := pk_nb v; rw [hz] at this; exact this) (fun t ht hW => hq (some (.int v)) rfl (fun w hw => by cases hw; trivial) t ht hW) hf hd hlk
    · cases hs
  · rename_i e1 e2
    have hd := zdec_ok hdc (fun d lo hi q e9 => by rw [e1] at e9; cases e9)
    rw [e1] at hd
    rw [e1, e2] at hc
    have hr := hret.trans (of_decide_eq_true hc)
    split at hs
    · rename_i v
      obtain ⟨hz, hs⟩ := zgd_some hs
      cases hs
      exact W.zret hx hb hr (by have := pk_nc v; rw [hz] at this; exact this) (fun t ht hW => hq (some (.int v)) rfl (fun w hw => by cases hw; trivial) t ht hW) hf hd hlk
    · cases hs
  · rename_i e1
    have hd := zdec_ok hdc (fun d lo hi q e9 => by rw [e1] at e9; cases e9)
    rw [e1] at hd
    rw [e1] at hc
    have hr := hret.trans (of_decide_eq_true hc)
    split at hs
    · rename_i v
      cases hs
      exact W.lret hx hb hr (fun t ht hW => hq (some (.long v)) rfl (fun w hw => by cases hw; trivial) t ht hW) hf hd hlk
    · cases hs
  · rename_i e1
    have hd := zdec_ok hdc (fun d lo hi q e9 => by rw [e1] at e9; cases e9)
    rw [e1] at hd
    rw [e1] at hc
    have hr := hret.trans (of_decide_eq_true hc)
    split at hs
    · rename_i v
      cases hs
      exact W.dret hx hb hr (fun t ht hW => hq (some (.double v)) rfl (fun w hw => by cases hw; trivial) t ht hW) hf hd hlk
    · cases hs
  · rename_i e1
    have hd := zdec_ok hdc (fun d lo hi q e9 => by rw [e1] at e9; cases e9)
    rw [e1] at hd
    rw [e1] at hc
    have hr := hret.trans (of_decide_eq_true hc)
    split at hs
    · rename_i v
      cases hs
      exact W.fret hx hb hr (fun t ht hW => hq (some (.float v)) rfl (fun w hw => by cases hw; trivial) t ht hW) hf hd hlk
    · cases hs
  · rename_i e1
    have hd := zdec_ok hdc (fun d lo hi q e9 => by rw [e1] at e9; cases e9)
    rw [e1] at hd
    rw [e1] at hc
    split at hs
    · rename_i v
      cases hs
      obtain ⟨rt, hrt, hk9⟩ : ∃ rt, zmR M = some rt ∧ ((∃ n, rt = .object n) ∨ ∃ t, rt = .array t) := by
        have hc : zref (zmR M) = true := hc
        unfold zref at hc
        split at hc
        · rename_i n e9; exact ⟨_, e9, Or.inl ⟨_, rfl⟩⟩
        · rename_i n e9; exact ⟨_, e9, Or.inr ⟨_, rfl⟩⟩
        · cases hc
      have hv9 := (zokS_cons.mp hS).1
      exact W.aret hx hb (hret.trans hrt) hk9 (Or.inr ⟨ad v, rfl⟩) (fun t ht hW => hq (some (.ref v)) rfl (fun w hw => by cases hw; exact hv9) t ht hW) hf hd hlk
    · cases hs
  · rename_i e1
    have hd := zdec_ok hdc (fun d lo hi q e9 => by rw [e1] at e9; cases e9)
    rw [e1] at hd
    rw [e1] at hc
    have hr := hret.trans (of_decide_eq_true hc)
    split at hs
    · cases hs
      exact W.vret hx hb hr (fun t ht hW => hq none rfl (fun w hw => by cases hw) t ht hW) hf hd hlk
    · cases hs
  · cases hs
set_option maxHeartbeats 4000000 in
theorem zs5G {mc ms : Nat} (C : zCx p l R s m args meth c own M D tc A) (hdc : zdec (zmB M) r = true) (hR : zR D tc ad A s h H locs) (hl : zLh ad (zmL M) la ls) (hS : zokS (zN h) st) (hL : zokL (zN h) la) {o : zm_O} (hs : zg5 r st h = some o) (hc : zchk own M envM rows i r = true) (hg : rG r = 5) {Qc : Array Value → State → Outcome → State → Prop} {XC : String → State → State → Prop} {free : Addr → Prop} (h1 : cells ≤ mc) (h2 : slots ≤ ms)
    (hq : ∀ v : Option Value, o = (.inl v, h) → (∀ w, v = some w → zokV (zN h) w) → ∀ t : State, t.heap = H → s.WarmedH t.vm → Qc args s (.returned (v.map (cv ad))) t) (hf : ∀ q ∈ locs, free q.base) :
    W p l e R s m args below meth c H locs cells slots (vx_MQ below Qc XC args s mc ms free) (F0 m (rP r) ls (st.map (cv ad))) := by
  unfold zchk at hc
  rw [hg] at hc
  simp only [hdc, Bool.true_and, Bool.and_eq_true, decide_eq_true_eq] at hc
  obtain ⟨⟨hc1, hc2⟩, hc⟩ := hc
  have hx := C.1
  have hb := C.2.1
  have hlk := C.2.2.2.2.2.2.2.2.2.1
  have hret := C.2.2.2.2.2.2.2.2.2.2.2.2
  refine W.widen (k := mc) (n := ms) h1 h2 (vx_ret ?_)
  unfold zg5 at hs
  split at hs
  · rename_i e1 e2
    have hd := zdec_ok hdc (fun d lo hi q e9 => by rw [e1] at e9; cases e9)
    rw [e1] at hd
    rw [e1, e2] at hc
    have hr := hret.trans (of_decide_eq_true hc)
    split at hs
    · rename_i v
      cases hs
      exact W.iret hx hb hr (fun t ht hW => hq (some (.int v)) rfl (fun w hw => by cases hw; trivial) t ht hW) hf hd hlk
    · cases hs
  · rename_i e1 e2
    have hd := zdec_ok hdc (fun d lo hi q e9 => by rw [e1] at e9; cases e9)
    rw [e1] at hd
    rw [e1, e2] at hc
    have hr := hret.trans (of_decide_eq_true hc)
    split at hs
    · rename_i v
      obtain ⟨hz, hs⟩ := zgd_some hs
      cases hs
      exact W.zret hx hb hr (by rcases hz with q | q <;> rw [q] <;> rfl) (fun t ht hW => hq (some (.int v)) rfl (fun w hw => by cases hw; trivial) t ht hW) hf hd hlk
    · cases hs
  · rename_i e1 e2
    have hd := zdec_ok hdc (fun d lo hi q e9 => by rw [e1] at e9; cases e9)
    rw [e1] at hd
    rw [e1, e2] at hc
    have hr := hret.trans (of_decide_eq_true hc)
    split at hs
    · rename_i v
      obtain ⟨hz, hs⟩ := zgd_some hs
      cases hs
      exact W.zret hx hb hr (by have := pk_nb v; rw [hz] at this; exact this) (fun t ht hW => hq (some (.int v)) rfl (fun w hw => by cases hw; trivial) t ht hW) hf hd hlk
    · cases hs
  · rename_i e1 e2
    have hd := zdec_ok hdc (fun d lo hi q e9 => by rw [e1] at e9; cases e9)
    rw [e1] at hd
    rw [e1, e2] at hc
    have hr := hret.trans (of_decide_eq_true hc)
    split at hs
    · rename_i v
      obtain ⟨hz, hs⟩ := zgd_some hs
      cases hs
      exact W.zret hx hb hr (by have := pk_nc v; rw [hz] at this; exact this) (fun t ht hW => hq (some (.int v)) rfl (fun w hw => by cases hw; trivial) t ht hW) hf hd hlk
    · cases hs
  · rename_i e1
    have hd := zdec_ok hdc (fun d lo hi q e9 => by rw [e1] at e9; cases e9)
    rw [e1] at hd
    rw [e1] at hc
    have hr := hret.trans (of_decide_eq_true hc)
    split at hs
    · rename_i v
      cases hs
      exact W.lret hx hb hr (fun t ht hW => hq (some (.long v)) rfl (fun w hw => by cases hw; trivial) t ht hW) hf hd hlk
    · cases hs
  · rename_i e1
    have hd := zdec_ok hdc (fun d lo hi q e9 => by rw [e1] at e9; cases e9)
    rw [e1] at hd
    rw [e1] at hc
    have hr := hret.trans (of_decide_eq_true hc)
    split at hs
    · rename_i v
      cases hs
      exact W.dret hx hb hr (fun t ht hW => hq (some (.double v)) rfl (fun w hw => by cases hw; trivial) t ht hW) hf hd hlk
    · cases hs
  · rename_i e1
    have hd := zdec_ok hdc (fun d lo hi q e9 => by rw [e1] at e9; cases e9)
    rw [e1] at hd
    rw [e1] at hc
    have hr := hret.trans (of_decide_eq_true hc)
    split at hs
    · rename_i v
      cases hs
      exact W.fret hx hb hr (fun t ht hW => hq (some (.float v)) rfl (fun w hw => by cases hw; trivial) t ht hW) hf hd hlk
    · cases hs
  · rename_i e1
    have hd := zdec_ok hdc (fun d lo hi q e9 => by rw [e1] at e9; cases e9)
    rw [e1] at hd
    rw [e1] at hc
    split at hs
    · rename_i v
      cases hs
      obtain ⟨rt, hrt, hk9⟩ : ∃ rt, zmR M = some rt ∧ ((∃ n, rt = .object n) ∨ ∃ t, rt = .array t) := by
        have hc : zref (zmR M) = true := hc
        unfold zref at hc
        split at hc
        · rename_i n e9; exact ⟨_, e9, Or.inl ⟨_, rfl⟩⟩
        · rename_i n e9; exact ⟨_, e9, Or.inr ⟨_, rfl⟩⟩
        · cases hc
      have hv9 := (zokS_cons.mp hS).1
      exact W.aret hx hb (hret.trans hrt) hk9 (Or.inr ⟨ad v, rfl⟩) (fun t ht hW => hq (some (.ref v)) rfl (fun w hw => by cases hw; exact hv9) t ht hW) hf hd hlk
    · cases hs
  · rename_i e1
    have hd := zdec_ok hdc (fun d lo hi q e9 => by rw [e1] at e9; cases e9)
    rw [e1] at hd
    rw [e1] at hc
    have hr := hret.trans (of_decide_eq_true hc)
    split at hs
    · cases hs
      exact W.vret hx hb hr (fun t ht hW => hq none rfl (fun w hw => by cases hw) t ht hW) hf hd hlk
    · cases hs
  · cases hs
set_option maxHeartbeats 4000000 in
theorem zs7 (C : zCx p l R s m args meth c own M D tc A) (hdc : zdec (zmB M) r = true) (hR : zR D tc ad A s h H locs) (hl : zLh ad (zmL M) la ls) (hS : zokS (zN h) st) (hL : zokL (zN h) la) (hRO : zRO sc A ad s s.heap) (hwd : ∀ w ∈ zwd own M envM r, w ∈ gT) (hwx : ∀ w ∈ zwx own M envM r, va_Nw w s) (hout : ∀ z ∈ c.exceptionTable.toList, False) (hc : zchk own M envM rows i r = true) (hg : rG r = 7) {y : Nat} {os : List Nat} (e2 : rO r = y :: os) (hst : (st.map fun v => v.category).sum ≤ 8) (hcR : c0 + zmTc M ≤ R.cells) (hsR : s0 + zmTs M ≤ R.slots) (hc0 : c0 = 0) (hs0 : s0 = 0)
    {Qc : Array Value → State → Outcome → State → Prop} {XC : String → State → State → Prop} {free : Addr → Prop}
    (hx9 : ∀ t : State, s.vm.Alike t.vm → H.size ≤ t.heap.size → (∀ q : Nat, q < H.size → t.heap[q]? = H[q]?) → XC (zex y) s t) (hf : ∀ q ∈ locs, free q.base) :
    W p l e R s m args below meth c H locs (c0 + (rN r).1) (s0 + (rN r).2) (vx_MQ below Qc XC args s (zmTc M) (zmTs M) free) (F0 m (rP r) ls (st.map (cv ad))) := by
  unfold zchk at hc
  rw [hg] at hc
  simp only [hdc, Bool.true_and] at hc
  split at hc
  · rename_i y9 k9 ik is ic wd e3
    rw [e2] at e3
    cases e3
    simp only [Bool.and_eq_true, decide_eq_true_eq, List.all_eq_true] at hc
    obtain ⟨⟨⟨⟨⟨⟨⟨⟨⟨⟨⟨⟨q1, q2, q3⟩, q4, q5⟩, q6⟩, q7⟩, q8⟩, q12⟩, q13⟩, q14⟩, q15⟩, q16⟩, q17⟩, q18⟩ := hc
    obtain ⟨hx, hb, hml, hown, hts, hK, hA, hRf, hRl, hlk, hlt, hnm, hret⟩ := C
    have hd := zdec_ok hdc (fun d lo hi q e9 => by rw [q6] at e9; cases e9)
    rw [q6] at hd
    have hw0 : ∀ w ∈ zwd own M envM r, w.before args s = true := fun w hw => hts w (hwd w hw)
    have hz : zwd own M envM r = .classLink own ik (zex y) :: .initialized (zex y) :: (zat own ic y).filter goodWord := by unfold zwd; rw [hg, e2, q6]; rfl
    have hz2 : zwx own M envM r = (zat own ic y).filter (fun w => !goodWord w) := by unfold zwx; rw [hg, e2, q6]; rfl
    rw [hz] at hw0
    rw [hz2] at hwx
    have hk := hw0 _ List.mem_cons_self
    have hini := hw0 _ (List.mem_cons_of_mem _ List.mem_cons_self)
    have hat : ∀ w ∈ zat own ic y, w.before args s = true :=
      vx_hat (fun w hw => hw0 w (List.mem_cons_of_mem _ (List.mem_cons_of_mem _ hw))) (fun w hw => hw) (fun w hw => by
        have hot : w.onTables = true := by
          have h1 := (List.mem_filter.mp hw)
          have h2 := q14 w (List.mem_cons_of_mem _ (List.mem_cons_of_mem _ h1.1))
          have h3 : goodWord w = false := by simpa using h1.2
          unfold vx_ot at h2
          rw [h3, Bool.or_false] at h2
          exact h2
        exact va_Nw.use hot (hwx w hw))
    obtain ⟨tx, hstr⟩ : ∃ tx, vk_R own is tx (ad (1000000 + k9)) s := by
      obtain ⟨q, hq9⟩ : ∃ q, zstr[k9]? = some q := ⟨_, List.getElem?_eq_getElem (by simpa [zstr] using q3)⟩
      have h9 := hRO.2.1 k9 q hq9
      rw [List.getD_eq_getElem?_getD, hq9] at q4 q5
      simp only [Option.getD_some] at q4 q5
      rw [← q4, ← q5]
      exact ⟨_, h9⟩
    have hnames : ∀ n ∈ (["java/lang/RuntimeException", "java/lang/Exception"] : List String), Bundle.fit n = true := by decide +kernel
    have hsum : ((st.map (cv ad)).map fun v => v.category).sum ≤ 8 := by
      rw [List.map_map, show ((fun v : Value => v.category) ∘ cv ad) = fun v => v.category from funext fun v => cv_cat ad v]
      exact hst
    have hRl2 := Nat.le_trans q16 hRl
    have hRf2 := Nat.le_trans q15 hRf
    by_cases hy3 : y = 3
    · subst hy3
      split at q8
      · simp only [Bool.and_eq_true, decide_eq_true_eq] at q8
        exact zthrowN hx hb hlt hown hk hini hstr hat q14 hRO.2.2.2.2.1 hRO.2.2.2.2.2.1 hR.2.2.1 (hl.1.trans hml.symm) hd q7 q8.1.1 q8.1.2 q8.2 (fun z hz9 => absurd (hout z hz9) id) (by omega) (by omega) (by omega) (by omega) hlk hx9 hf (by omega) (by omega)
      · simp only [Bool.and_eq_true, decide_eq_true_eq] at q8
        exact zthrowNW hx hb hlt hown hk hini hstr hat q14 hRO.2.2.2.2.1 hRO.2.2.2.2.2.1 hR.2.2.1 (hl.1.trans hml.symm) hd q7 q8.1.1 q8.1.2 q8.2 (fun z hz9 => absurd (hout z hz9) id) (by omega) (by omega) (by omega) (by omega) hlk hx9 hf (by omega) (by omega)
    · have hza : zat own ic y = vx_atS own ic (zex y) ["java/lang/RuntimeException", "java/lang/Exception"] := by
        unfold zat
        split
        · exact absurd rfl hy3
        · rfl
      rw [hza] at hat q14
      split at q8
      · simp only [Bool.and_eq_true, decide_eq_true_eq] at q8
        exact vx_throwS (names := ["java/lang/RuntimeException", "java/lang/Exception"]) hx hb hlt hown q13 hnames hk hini hstr hat q14 hRO.2.2.2.2.1 hRO.2.2.2.2.2.1 hR.2.2.1 (hl.1.trans hml.symm) hd q7 q8.1.1 q8.1.2 q8.2 (fun z hz9 => absurd (hout z hz9) id) (by show 2 + 3 < R.frames; omega) (by show ((st.map (cv ad)).map fun v => v.category).sum + (13 * (2 + 1) + 43) ≤ R.locals; omega) (by omega) (by omega) hlk hx9 hf (by omega) (by omega)
      · simp only [Bool.and_eq_true, decide_eq_true_eq] at q8
        exact vx_throwSW (names := ["java/lang/RuntimeException", "java/lang/Exception"]) hx hb hlt hown q13 hnames hk hini hstr hat q14 hRO.2.2.2.2.1 hRO.2.2.2.2.2.1 hR.2.2.1 (hl.1.trans hml.symm) hd q7 q8.1.1 q8.1.2 q8.2 (fun z hz9 => absurd (hout z hz9) id) (by show 2 + 3 < R.frames; omega) (by show ((st.map (cv ad)).map fun v => v.category).sum + (13 * (2 + 1) + 43) ≤ R.locals; omega) (by omega) (by omega) hlk hx9 hf (by omega) (by omega)
  · cases hc
theorem zhck_catch (C : zCx p l R s m args meth c own M D tc A) (hRO : zRO sc A ad s s.heap) {H : Heap} {locs : List Loc} {cells slots cc ss : Nat} {E q9 : Nat} {ce : Cell} (hcell : H[q9]? = some ce) (hcv : ce.vm = .none) (hcl : s.vm.findClass (zex E) = some ce.cls) {rest : List Value} {la : zm_L} (hl : zLh ad (zmL M) la ls) {p9 j9 : Nat}
    (hdec : ∀ (i2 : Nat) (r2 : zm_R), rows[i2]? = some r2 → zdec (zmB M) r2 = true) :
    ∀ (hs : List Nat) (hh pre : List (Nat × Nat × Nat × Nat)) (seen : List Nat), zhck rows r (zmL M) cc ss hs hh seen = true → c.exceptionTable.toList = tableOf (pre ++ hh) →
      (∀ z ∈ pre, z.2.2.2 ≠ 0 ∧ ∃ E0 ∈ seen, Cond.classLink own z.2.2.2 (zex E0) ∈ gT) → (∀ w ∈ zhwd own hs hh, w ∈ gT) → (∀ w ∈ zhwx hs, va_Nw w s) → zhnd hs E = some (p9, j9) →
      (∀ (rp r2 : zm_R) (ls2 : Array Slot), rows[p9]? = some rp → rows[p9 + 1]? = some r2 → rP r2 = rP rp + zlen (rI rp) → (rN r).1 + cc ≤ (rN r2).1 → (rN r).2 + ss ≤ (rN r2).2 → zLh ad (zmL M) ((zclr j9 la).set j9 none) ls2 → W p l e R s m args below meth c H locs cells slots Q (F0 m (rP r2) ls2 [])) →
      vx_W p l e R s m args below meth c H locs cells slots Q (F0 m (rP r) ls rest) q9 := by
  intro hs hh
  obtain ⟨hx, hb, hml, hown, hts, hK, hA, hRf, hRl, hlk, hlt, hnm, hret⟩ := C
  induction hh generalizing hs with
  | nil =>
    intro pre seen h1 h2 h3 h4 h5 h6 h7
    match hs, h1, h6 with
    | [], _, h6 => cases h6
    | [_], h1, _ => cases h1
    | [_, _], h1, _ => cases h1
    | _ :: _ :: _ :: _, h1, _ => cases h1
  | cons z hh ih =>
    intro pre seen h1 h2 h3 h4 h5 h6 h7
    match hs, h1, h4, h5, h6 with
    | [], h1, _, _, _ => cases h1
    | [_], h1, _, _, _ => cases h1
    | [_, _], h1, _, _, _ => cases h1
    | E1 :: p :: j :: t, h1, h4, h5, h6 =>
      unfold zhck at h1
      simp only [Bool.and_eq_true, decide_eq_true_eq, List.all_eq_true] at h1
      obtain ⟨⟨⟨⟨⟨hrow, hrng⟩, hct⟩, hE4⟩, hseen⟩, hrest⟩ := h1
      have hlink : Cond.classLink own z.2.2.2 (zex E1) ∈ gT := h4 _ List.mem_cons_self
      have hcast : va_Nw (.castable (zex E1) (zex E1)) s := h5 _ List.mem_cons_self
      unfold zhnd at h6
      split at h6
      · rename_i eE
        subst eE
        cases h6
        split at hrow
        · rename_i rp erp
          simp only [Bool.and_eq_true, decide_eq_true_eq] at hrow
          obtain ⟨⟨hi1, hi2⟩, hi3⟩ := hrow
          split at hi3
          · rename_i r2 er2
            simp only [Bool.and_eq_true, decide_eq_true_eq] at hi3
            obtain ⟨⟨g1, g2⟩, g3⟩ := hi3
            have hdp := hdec _ _ erp
            refine vx_catch (name := zex E) hown (tableOf pre) ⟨z.1, z.2.1, z.2.2.1, z.2.2.2⟩ (tableOf hh) (by rw [h2]; simp [tableOf]) (fun y hy => ?_) ?_ hct (hts _ hlink) (va_Nw.use rfl hcast) hcell hcv hcl ?_
            · obtain ⟨y9, hy9, rfl⟩ := List.mem_map.mp hy
              obtain ⟨a1, E0, a2, a3⟩ := h3 y9 hy9
              exact Or.inr ⟨a1, zex E0, hts _ a3, hRO.2.2.2.2.2.2.2 (E, E0) (hseen E0 a2)⟩
            · simp only [covers, Bool.and_eq_true, decide_eq_true_eq]
              exact hrng
            · have key : ∀ ls2 : Array Slot, zLh ad (zmL M) ((zclr j9 la).set j9 none) ls2 → W p l e R s m args below meth c H locs cells slots Q (F0 m (rP rp + zlen (rI rp)) ls2 []) := fun ls2 hl2 => by
                have := h7 rp r2 ls2 erp er2 g1 g2 g3 hl2
                rw [g1] at this
                exact this
              show W p l e R s m args below meth c H locs cells slots Q (F0 m z.2.2.1 ls [.ref q9])
              rw [hi2]
              split at hi1
              · rename_i k9 e9
                have hd := zdec_ok hdp (fun d lo hi q e8 => by rw [e9] at e8; cases e8)
                rw [e9] at hd key
                have hkj : k9 = j9 := of_decide_eq_true hi1
                subst hkj
                exact lv_astore hx hb hd hl.has hE4.2 rfl (fun ls2 hh2 => key ls2 (zLh_drop hl.2.2.1 hh2))
              · rename_i f9 e9
                have hd := zdec_ok hdp (fun d lo hi q e8 => by rw [e9] at e8; cases e8)
                rw [e9] at hd key
                have hkj : f9.val = j9 := of_decide_eq_true hi1
                subst hkj
                exact lv_astore_n hx hb hd rfl hl.has hE4.2 rfl (fun ls2 hh2 => key ls2 (zLh_drop hl.2.2.1 hh2))
              · cases hi1
          · cases hi3
        · cases hrow
      · exact ih t (pre ++ [z]) (E1 :: seen) hrest (by rw [h2, List.append_assoc]; rfl) (fun y hy => by
          rcases List.mem_append.mp hy with q | q
          · obtain ⟨a1, E0, a2, a3⟩ := h3 y q
            exact ⟨a1, E0, List.mem_cons_of_mem _ a2, a3⟩
          · have : y = z := by simpa using q
            subst this
            exact ⟨hct, E1, List.mem_cons_self, hlink⟩) (fun w hw => h4 w (List.mem_cons_of_mem _ hw)) (fun w hw => h5 w (List.mem_cons_of_mem _ hw)) h6 h7
end ZR2
end
section
/-! A TEST OF A TEXT'S INDEX: its method carries a static that nobody looks at. -/
section ZST
theorem dQa_0 : decode cJ3_checkIndex_8e157 0 = .ok (.iload_n 0, 1) := by decide +kernel
theorem dQa_1 : decode cJ3_checkIndex_8e157 1 = .ok (.ifCond .lt 8, 3) := by decide +kernel
theorem dQa_4 : decode cJ3_checkIndex_8e157 4 = .ok (.iload_n 0, 1) := by decide +kernel
theorem dQa_5 : decode cJ3_checkIndex_8e157 5 = .ok (.iload_n 1, 1) := by decide +kernel
theorem dQa_6 : decode cJ3_checkIndex_8e157 6 = .ok (.if_icmp .lt 10, 3) := by decide +kernel
theorem dQa_16 : decode cJ3_checkIndex_8e157 16 = .ok (.iload_n 0, 1) := by decide +kernel
theorem dQa_17 : decode cJ3_checkIndex_8e157 17 = .ok (.ireturn, 1) := by decide +kernel
theorem dQb_0 : decode cJ0_checkIndex_df160 0 = .ok (.iload_n 0, 1) := by decide +kernel
theorem dQb_1 : decode cJ0_checkIndex_df160 1 = .ok (.iload_n 1, 1) := by decide +kernel
theorem dQb_2 : decode cJ0_checkIndex_df160 2 = .ok (.getstatic 1053, 3) := by decide +kernel
theorem dQb_5 : decode cJ0_checkIndex_df160 5 = .ok (.invokestatic 1059, 3) := by decide +kernel
theorem dQb_8 : decode cJ0_checkIndex_df160 8 = .ok (.pop, 1) := by decide +kernel
theorem dQb_9 : decode cJ0_checkIndex_df160 9 = .ok (.return_, 1) := by decide +kernel
def zq_ws : List Cond := [.fieldLink RJ0 1053 "jdk/internal/util/Preconditions" "SIOOBE_FORMATTER" "Ljava/util/function/BiFunction;", .methodLink RJ0 1059 yJ3_checkIndex_8e157, .static yJ3_checkIndex_8e157, .initialized "jdk/internal/util/Preconditions", .code yJ3_checkIndex_8e157 cJ3_checkIndex_8e157 3 (some .int)]
set_option maxRecDepth 100000 in
theorem zq_l : ∀ w ∈ zq_ws, w ∈ zw_tbl := by decide +kernel
set_option maxRecDepth 100000 in
theorem zq_g : ∀ w ∈ zq_ws, goodWord w = true := by decide +kernel
theorem zq_in {i : Nat} {w : Cond} (h : zq_ws[i]? = some w) : w ∈ gT := gT_in (zq_l w (List.mem_of_getElem? h)) (zq_g w (List.mem_of_getElem? h))
theorem zq_gd {y : MethodName} {bytes : ByteArray} {n i : Nat} {ret : Option FieldType} (h : zq_ws[i]? = some (Cond.code y bytes n ret)) : ∀ w ∈ Cond.code y bytes n ret :: gT, w ∈ gT := fun w hw => (List.mem_cons.mp hw).elim (fun q => by rw [q]; exact zq_in h) id
theorem zq_c1 {w : Cond} {L : List Cond} (h : w ∈ gT) (t : ∀ v ∈ L, v ∈ gT) : ∀ v ∈ w :: L, v ∈ gT := fun v hv => (List.mem_cons.mp hv).elim (fun q => by rw [q]; exact h) (t v)
theorem zq_c0 : ∀ v ∈ ([] : List Cond), v ∈ gT := fun v hv => by cases hv
variable {l : Launch}
set_option maxHeartbeats 4000000 in
theorem cq_pci (sz : Nat) (i n : Int32) (v : Value) (hv : v = .null ∨ ∃ t, v = .ref t) (h0 : ¬ i < 0) (h1 : i < n) : Met l yJ3_checkIndex_8e157 (Cond.code yJ3_checkIndex_8e157 cJ3_checkIndex_8e157 3 (some .int) :: gT) ({ frames := 0, cells := 0, slots := 0, locals := 0 }) (va_Pc [.int i, .int n, v] (fun U => U.heap.size = sz)) (va_Qi (fun (r : Int32) (_ : Unit) => r = i) (fun _ _ => True) (fun q : Nat => sz ≤ q)) 0 0 (fun q : Nat => sz ≤ q) := by
  refine Met.ofW (cc := cJ3_checkIndex_8e157) (maxL := 3) (ret := some .int) (by decide +kernel) rfl ?_
  intro p e s m args below meth c s₁ B hml hpc
  obtain ⟨rfl, hsz⟩ := hpc
  have hx := B.exec
  have hb := B.bytes
  have hr := B.returns
  have hlocks := B.notSynchronized
  have hts0 := atoms_spec (ws := _) B.pre
  have hts : ∀ w ∈ gT, w.before _ s = true := fun w hw => hts0 w (List.mem_cons_of_mem _ hw)
  subst hsz
  have hS : va_S (fun q : Nat => s.heap.size ≤ q) s.heap s.heap [] := va_S.rf
  have hl : ∃ ls : Array Slot, entryFrame m ([.int i, .int n, v] : List Value).toArray 3 = F0 m 0 ls [] ∧ lv_has ls 3 [(0, .int i), (1, .int n)] := by
    rcases hv with rfl | ⟨t, rfl⟩
    · have hl := lv_entry ([.int i, .int n, .null]) (n := 3) (Nat.le_of_ble_eq_true rfl)
      rw [lg_entry_eq]
      exact ⟨_, rfl, lv_sub hl [0, 1] rfl⟩
    · have hl := lv_entry ([.int i, .int n, .ref t]) (n := 3) (Nat.le_of_ble_eq_true rfl)
      rw [lg_entry_eq]
      exact ⟨_, rfl, lv_sub hl [0, 1] rfl⟩
  obtain ⟨ls, e9, hl⟩ := hl
  rw [e9]
  refine lv_iload_n hx hb dQa_0 rfl (lv_at hl 0 rfl) ?_
  refine lv_if_lt (tgt := 9) hx hb dQa_1 (by decide) (fun q => absurd q h0) (fun _ => ?_)
  refine lv_iload_n hx hb dQa_4 rfl (lv_at hl 0 rfl) ?_
  refine lv_iload_n hx hb dQa_5 rfl (lv_at hl 1 rfl) ?_
  refine lv_icmp_lt (tgt := 16) hx hb dQa_6 (by decide) (fun _ => ?_) (fun q => absurd h1 q)
  refine lv_iload_n hx hb dQa_16 rfl (lv_at hl 0 rfl) ?_
  exact W.iret (v := i) hx hb hr (fun t ht hW => ⟨⟨i, (), rfl, rfl, trivial⟩, hS.F ht⟩) hS.2.2 dQa_17
set_option maxHeartbeats 4000000 in
theorem cq_sci (sz : Nat) (i n : Int32) (h0 : ¬ i < 0) (h1 : i < n) : Met l yJ0_checkIndex_df160 (Cond.code yJ0_checkIndex_df160 cJ0_checkIndex_df160 2 none :: gT) ({ frames := 1, cells := 0, slots := 0, locals := 22 }) (va_Pc [.int i, .int n] (fun U => U.heap.size = sz ∧ va_Zq "jdk/internal/util/Preconditions" "SIOOBE_FORMATTER" "Ljava/util/function/BiFunction;" (fun q : Nat => sz ≤ q) U U.heap)) (va_Qv (fun (_ : Unit) => True) (fun _ _ => True) (fun q : Nat => sz ≤ q)) 0 0 (fun q : Nat => sz ≤ q) := by
  refine Met.ofW (cc := cJ0_checkIndex_df160) (maxL := 2) (ret := none) (by decide +kernel) rfl ?_
  intro p e s m args below meth c s₁ B hml hpc
  obtain ⟨rfl, hsz, hZ⟩ := hpc
  have hx := B.exec
  have hb := B.bytes
  have hr := B.returns
  have hlocks := B.notSynchronized
  have hts0 := atoms_spec (ws := _) B.pre
  have hts : ∀ w ∈ gT, w.before _ s = true := fun w hw => hts0 w (List.mem_cons_of_mem _ hw)
  have hown : s.vm.findClass RJ0 = some m.cls := findClass_of_methodNamed B.named
  subst hsz
  have hS : va_S (fun q : Nat => s.heap.size ≤ q) s.heap s.heap [] := va_S.rf
  have hl := lv_entry ([.int i, .int n]) (n := 2) (Nat.le_of_ble_eq_true rfl)
  rw [lg_entry_eq]
  generalize (lg_sl ([.int i, .int n]) ++ List.replicate (2 - (lg_sl ([.int i, .int n])).length) Slot.unset).toArray = ls at hl ⊢
  have hl : lv_has ls 2 [(0, .int i), (1, .int n)] := hl
  have main : ∀ v : Value, (v = .null ∨ ∃ t, v = .ref t) → va_Z "jdk/internal/util/Preconditions" "SIOOBE_FORMATTER" "Ljava/util/function/BiFunction;" v (fun q : Nat => s.heap.size ≤ q) s s.heap → W p l e (headSpec (Cond.code yJ0_checkIndex_df160 cJ0_checkIndex_df160 2 none :: gT) ({ frames := 1, cells := 0, slots := 0, locals := 22 })).room s m #[Value.int i, Value.int n] below meth c s.heap [] 0 0 (MQ below (va_Qv (fun (_ : Unit) => True) (fun _ _ => True) (fun q : Nat => s.heap.size ≤ q)) #[Value.int i, Value.int n] s 0 0 (fun q : Nat => s.heap.size ≤ q)) (F0 m 0 ls []) := by
    intro v hv hZ
    refine lv_iload_n hx hb dQb_0 rfl (lv_at hl 0 rfl) ?_
    refine lv_iload_n hx hb dQb_1 rfl (lv_at hl 1 rfl) ?_
    refine va_gets hx hb hZ hS hown (hts _ (zq_in (i := 0) rfl)) (fun _ h9 => h9) dQb_2 ?_
    refine va_calli (va_runS (As := [.int i, .int n, v]) (rest := []) ⟨hx, hb, hml, hown, hts⟩ (cq_pci s.heap.size i n v hv h0 h1) (va_cwS (bytes := cJ3_checkIndex_8e157) (maxL := 3) (ret := some .int) 3 hts (gT_good (gT_app (zq_c1 (zq_in (i := 1) rfl) (zq_c1 (zq_in (i := 2) rfl) (zq_c1 (zq_in (i := 3) rfl) zq_c0))) (zq_gd (i := 4) rfl))) rfl rfl rfl ⟨by decide +kernel, by decide +kernel, by decide +kernel⟩ ⟨Nat.le_of_ble_eq_true rfl, Nat.le_of_ble_eq_true rfl⟩) ⟨fun a U g mk q => ⟨q.1, q.2⟩, fun U hU hW => ⟨rfl, by show U.heap.size = s.heap.size; rw [hU]⟩⟩ rfl rfl hl.1 rfl (lv_room (Nat.le_of_ble_eq_true rfl)) dQb_5 ⟨Nat.zero_le _, Nat.zero_le _⟩) hS (fun q h1 h2 => absurd h1 (Nat.not_lt.mpr h2)) (fun q h => h) (fun r u t H1 locs ht hvm hw hB hz1 hk1 hS => ?_)
    refine lv_pop hx hb dQb_8 rfl ?_
    exact W.vret hx hb hr (fun t ht hW => ⟨⟨(), rfl, trivial, trivial⟩, hS.F ht⟩) hS.2.2 dQb_9
  rcases hZ with hZ | ⟨t, hZ⟩
  · exact main _ (Or.inl rfl) hZ
  · exact main _ (Or.inr ⟨t, rfl⟩) hZ
end ZST
def mJ0_checkIndex_df160 : zm_M := (yJ0_checkIndex_df160, cJ0_checkIndex_df160, 2, none, (2, 0, 0, 60), 2, [], (0, 0))
def sJ0_checkIndex_df160 : zm_S := fun av h => match av with
  | [.int i, .int n] => if ¬ i < 0 ∧ i < n then some (.inl none, h) else none
  | _ => none
section ZSU
variable {sc : Nat × (Nat → Int32)}
set_option maxHeartbeats 4000000 in
theorem tJ0_checkIndex_df160 {l : Launch} (hlt : l.stackTraces = false) : MetA sc l mJ0_checkIndex_df160 sJ0_checkIndex_df160 := by
  intro D tc ad h sz av hoH hoS
  refine ⟨fun v h2 h9 => ?_, fun x h2 h9 => ?_⟩
  · unfold sJ0_checkIndex_df160 at h9
    split at h9
    · rename_i i n
      split at h9
      case isFalse => cases h9
      rename_i hk9
      obtain ⟨h0, h1⟩ := hk9
      cases h9
      refine vx_ofW (cc := cJ0_checkIndex_df160) (maxL := 2) (ret := none) (ws' := gT) (by decide +kernel) rfl ?_
      intro p e s m args below meth c s₁ B hml hno hpc
      obtain ⟨rfl, hsz, hP, hK, hD0, hRO⟩ := hpc
      have hx := B.exec
      have hb := B.bytes
      have hr := B.returns
      have hlocks := B.notSynchronized
      have hts0 : ∀ w ∈ zmWs mJ0_checkIndex_df160, w.before _ s = true := atoms_spec (ws := zmWs mJ0_checkIndex_df160) B.pre
      have hts : ∀ w ∈ gT, w.before _ s = true := fun w hw => hts0 w (List.mem_cons_of_mem _ hw)
      have hown : s.vm.findClass RJ0 = some m.cls := findClass_of_methodNamed B.named
      subst hsz
      have hZ := hRO.2.2.2.1.2.1.narrow (B := (fun q : Nat => s.heap.size ≤ q)) (fun q hq => Or.inr hq)
      have hS : va_S (fun q : Nat => s.heap.size ≤ q) s.heap s.heap [] := va_S.rf
      have hend : ∀ {H1 : Heap} {locs : List Loc}, va_S (fun q : Nat => s.heap.size ≤ q) s.heap H1 locs → ∀ t : State, t.heap = H1 → s.WarmedH t.vm → zPst D tc ad h s.heap.size ad h t ∧ va_F (va_A (zws tc ad h) s.heap.size) s t := fun hS t ht hW => by
        have hP1 : va_P D vwCl (zws tc ad h) t.heap := by
          rw [ht]
          exact hP.kept (fun k q hq => hS.2.1 q.1 ((hP k q hq).lt) (Nat.not_le.mpr ((hP k q hq).lt)))
        refine ⟨⟨zext.rf, hP1, va_K.moved hW.alike hK, hD0.self, hoH, Nat.le_refl _⟩, by rw [ht]; exact hS.1, fun q q1 q2 => ?_⟩
        rw [ht]
        exact hS.2.1 q q1 (Nat.not_le.mpr q1)
      have hfree : ∀ {H1 : Heap} {locs : List Loc}, va_S (fun q : Nat => s.heap.size ≤ q) s.heap H1 locs → ∀ q ∈ locs, va_A (zws tc ad h) s.heap.size q.base := fun hS q hq => Or.inr (hS.2.2 q hq)
      have hl := lv_entry ([.int i, .int n]) (n := 2) (Nat.le_of_ble_eq_true rfl)
      show W p l e _ s m _ below meth c s.heap [] 0 0 _ (entryFrame m ([.int i, .int n] : List Value).toArray 2)
      rw [lg_entry_eq]
      generalize (lg_sl ([.int i, .int n]) ++ List.replicate (2 - (lg_sl ([.int i, .int n])).length) Slot.unset).toArray = ls at hl ⊢
      have hl : lv_has ls 2 [(0, .int i), (1, .int n)] := hl
      refine vx_ret ?_
      refine lv_iload_n hx hb dQb_0 rfl (lv_at hl 0 rfl) ?_
      refine lv_iload_n hx hb dQb_1 rfl (lv_at hl 1 rfl) ?_
      obtain ⟨v, hv, hZ⟩ : ∃ v : Value, (v = .null ∨ ∃ t, v = .ref t) ∧ va_Z "jdk/internal/util/Preconditions" "SIOOBE_FORMATTER" "Ljava/util/function/BiFunction;" v (fun q : Nat => s.heap.size ≤ q) s s.heap := by
        rcases hZ with hZ | ⟨t, hZ⟩
        · exact ⟨_, Or.inl rfl, hZ⟩
        · exact ⟨_, Or.inr ⟨t, rfl⟩, hZ⟩
      refine va_gets hx hb hZ hS hown (hts _ (zq_in (i := 0) rfl)) (fun _ h9 => h9) dQb_2 ?_
      refine va_calli (va_runS (As := [.int i, .int n, v]) (rest := []) ⟨hx, hb, hml, hown, hts⟩ (cq_pci s.heap.size i n v hv h0 h1) (va_cwS (bytes := cJ3_checkIndex_8e157) (maxL := 3) (ret := some .int) 3 hts (gT_good (gT_app (zq_c1 (zq_in (i := 1) rfl) (zq_c1 (zq_in (i := 2) rfl) (zq_c1 (zq_in (i := 3) rfl) zq_c0))) (zq_gd (i := 4) rfl))) rfl rfl rfl ⟨by decide +kernel, by decide +kernel, by decide +kernel⟩ ⟨Nat.le_of_ble_eq_true rfl, Nat.le_of_ble_eq_true rfl⟩) ⟨fun a U g mk q => ⟨q.1, q.2⟩, fun U hU hW => ⟨rfl, by show U.heap.size = s.heap.size; rw [hU]⟩⟩ rfl rfl hl.1 rfl (lv_room (Nat.le_of_ble_eq_true rfl)) dQb_5 ⟨Nat.zero_le _, Nat.zero_le _⟩) hS (fun q h1 h2 => absurd h1 (Nat.not_lt.mpr h2)) (fun q h => h) (fun r u t H1 locs ht hvm hw hB hz1 hk1 hS => ?_)
      refine lv_pop hx hb dQb_8 rfl ?_
      exact W.vret hx hb hr (fun t ht hW => ⟨⟨ad, rfl, (hend hS t ht hW).1, fun w hw => by cases hw⟩, (hend hS t ht hW).2⟩) (hfree hS) dQb_9
    · cases h9
  · unfold sJ0_checkIndex_df160 at h9
    split at h9
    · split at h9 <;> cases h9
    · cases h9
end ZSU
end
section
/-! A CALL WITH WHAT FOLLOWS; A RUN OF A METHOD; A METHOD'S CONTRACT OUT OF ITS ROWS. -/
section ZM6
variable {sc : Nat × (Nat → Int32)}
variable {p : Program} {l : Launch} {e : Env} {R : Room} {s : State} {m : MethodId} {args : Array Value} {below : List Frame} {meth : Method} {c : Code} {H : Heap} {locs : List Loc} {cells slots : Nat} {Q : State → Prop}
variable {own : String} {M : zm_M} {envM : List zm_M} {D : va_G} {tc : Nat → ClassId} {ad : Nat → Nat} {A : Nat → Prop} {h : zm_H} {rows : List zm_R} {i : Nat} {r : zm_R} {la : zm_L} {st : List Value} {ls : Array Slot} {c0 s0 : Nat} {X : Type} {x : X} {k : zm_K X}
theorem zrcv_inv {kd ci : Nat} {vs : List Value} {o : Option X} (h9 : zrcv kd ci vs h o = some x) : o = some x ∧ (kd = 0 → ∃ (y : Nat) (rest : List Value), vs = .ref y :: rest ∧ (zK h y).1 = ci + 6) ∧ (kd = 6 → ∃ (y : Nat) (rest : List Value), vs = .ref y :: rest ∧ ((1000000 ≤ y ∧ y < 1000010) ∨ (zK h y).1 = 13)) ∧ ((kd = 2 ∨ kd = 4) → ∃ (y : Nat) (rest : List Value), vs = .ref y :: rest) ∧ ((kd = 7 ∨ kd = 8 ∨ kd = 10) → ∃ (y : Nat) (rest : List Value), vs = .ref y :: rest ∧ (zK h y).1 = 12) := by
  unfold zrcv at h9
  split at h9
  · split at h9
    · obtain ⟨h1, h2⟩ := zgd_some h9
      exact ⟨h2, fun _ => ⟨_, _, rfl, h1⟩, fun q => absurd q (by decide), fun q => by omega, fun q => by omega⟩
    · cases h9
  · split at h9
    · exact ⟨h9, fun q => absurd q (by decide), fun q => absurd q (by decide), fun _ => ⟨_, _, rfl⟩, fun q => by omega⟩
    · cases h9
  · split at h9
    · exact ⟨h9, fun q => absurd q (by decide), fun q => absurd q (by decide), fun _ => ⟨_, _, rfl⟩, fun q => by omega⟩
    · cases h9
  · split at h9
    · obtain ⟨h1, h2⟩ := zgd_some h9
      exact ⟨h2, fun q => absurd q (by decide), fun _ => ⟨_, _, rfl, h1⟩, fun q => by omega, fun q => by omega⟩
    · cases h9
  · split at h9
    · obtain ⟨h1, h2⟩ := zgd_some h9
      exact ⟨h2, fun q => absurd q (by decide), fun q => absurd q (by decide), fun q => by omega, fun _ => ⟨_, _, rfl, h1⟩⟩
    · cases h9
  · split at h9
    · obtain ⟨h1, h2⟩ := zgd_some h9
      exact ⟨h2, fun q => absurd q (by decide), fun q => absurd q (by decide), fun q => by omega, fun _ => ⟨_, _, rfl, h1⟩⟩
    · cases h9
  · split at h9
    · obtain ⟨h1, h2⟩ := zgd_some h9
      exact ⟨h2, fun q => absurd q (by decide), fun q => absurd q (by decide), fun q => by omega, fun _ => ⟨_, _, rfl, h1⟩⟩
    · cases h9
  · rename_i n1 n2 n3 n4 n5 n6 n7
    exact ⟨h9, fun q => absurd q n1, fun q => absurd q n4, fun q => q.elim (fun z => absurd z n2) (fun z => absurd z n3), fun q => q.elim (fun z => absurd z n5) (fun z => z.elim (fun z => absurd z n6) (fun z => absurd z n7))⟩
set_option maxHeartbeats 4000000 in
theorem zs6 {env : List (zm_M × zm_S)} {fin : zm_O → Option X} (C : zCx p l R s m args meth c own M D tc A) (hdc : zdec (zmB M) r = true) (hR : zR D tc ad A s h H locs) (hl : zLh ad (zmL M) la ls) (hS : zokS (zN h) st) (hL : zokL (zN h) la) (hRO : zRO sc A ad s s.heap) (hcR : c0 + zmC M ≤ R.cells) (hsR : s0 + zmS M ≤ R.slots) (hwd : ∀ w ∈ zwd own M envM r, w ∈ gT) (hwx : ∀ w ∈ zwx own M envM r, va_Nw w s) (hs : zg6 env r i la st h fin k = some x) (hc : zchk own M envM rows i r = true) (hg : rG r = 6)
    (henv : envM = env.map Prod.fst) (hE : ∀ (j : Nat) (q : zm_M × zm_S), env[j]? = some q → MetA sc l q.1 q.2) (hdecA : ∀ (i2 : Nat) (r2 : zm_R), rows[i2]? = some r2 → zdec (zmB M) r2 = true) (htab : c.exceptionTable.toList = tableOf (zmH M))
    (kk : ∀ (i2 : Nat) (r2 : zm_R) (la2 : zm_L) (st2 : List Value) (h2 : zm_H) (ad2 : Nat → Nat) (H2 : Heap) (locs2 : List Loc) (ls2 : Array Slot), rows[i2]? = some r2 → k i2 la2 st2 h2 = some x → zext (zN h) ad ad2 → zN h ≤ zN h2 → zR D tc ad2 A s h2 H2 locs2 → zLh ad2 (zmL M) la2 ls2 → zokS (zN h2) st2 → zokL (zN h2) la2 → W p l e R s m args below meth c H2 locs2 (c0 + (rN r2).1) (s0 + (rN r2).2) Q (F0 m (rP r2) ls2 (st2.map (cv ad2))))
    (hxT : ∀ (E : Nat) (h2 : zm_H), fin (.inr E, h2) = some x → c0 + zmTc M ≤ R.cells ∧ s0 + zmTs M ≤ R.slots)
    (kprop : ∀ (E : Nat) (h2 : zm_H) (ad2 : Nat → Nat) (H2 : Heap) (locs2 : List Loc) (ce : Cell) (q : Addr) (rest : List Value), fin (.inr E, h2) = some x → (zmH M).isEmpty = true → zext (zN h) ad ad2 → zN h ≤ zN h2 → zR D tc ad2 A s h2 H2 locs2 → H2[q]? = some ce → ce.vm = .none → s.vm.findClass (zex E) = some ce.cls → vx_W p l e R s m args below meth c H2 locs2 (c0 + zmTc M) (s0 + zmTs M) Q (F0 m (rP r) ls rest) q) : W p l e R s m args below meth c H locs (c0 + (rN r).1) (s0 + (rN r).2) Q (F0 m (rP r) ls (st.map (cv ad))) := by
  unfold zchk at hc
  rw [hg] at hc
  simp only [hdc, Bool.true_and] at hc
  split at hc
  · rename_i kd ei n rk th ci hs9 e2
    split at hc
    · rename_i Mc hM
      simp only [Bool.and_eq_true, decide_eq_true_eq] at hc
      obtain ⟨⟨⟨⟨⟨⟨⟨f1, f2⟩, f3⟩, hn⟩, hcc⟩, hss⟩, f4⟩, hth⟩ := hc
      have hK := C.2.2.2.2.2.1
      have hA := C.2.2.2.2.2.2.1
      unfold zg6 at hs
      rw [e2] at hs
      simp only [] at hs
      split at hs
      · rename_i Mc2 S hen
        have hMc : Mc2 = Mc := by
          rw [henv, List.getElem?_map, hen] at hM
          exact Option.some.inj hM
        subst hMc
        have hMet : MetA sc l Mc2 S := hE ei _ hen
        split at hs
        · rename_i hb9
          simp only [Bool.and_eq_true, Nat.ble_eq] at hb9
          obtain ⟨hnl, hsum⟩ := hb9
          obtain ⟨hsX, hr0, hr6, hr24, hr78⟩ := zrcv_inv hs
          clear hs
          have hs := hsX
          clear hsX
          have hn1 : ∀ {kk9 : Nat}, n = zmN Mc2 + 1 → n - 1 = zmN Mc2 := fun q => by omega
          have hkind := zkind_inv f4
          have hzl : zlen (rI r) = 3 := by rcases hkind with ⟨-, ix, q, -⟩ | ⟨-, ix, q, -⟩ | ⟨-, ix, q, -⟩ | ⟨-, ix, q, -⟩ | ⟨-, ix, q, -⟩ | ⟨-, ix, q, -⟩ | ⟨⟨-, ⟨ix, q⟩, -⟩ | ⟨-, ⟨ix, q⟩, -⟩ | ⟨-, ⟨ix, q⟩, -⟩, -⟩ <;> rw [q] <;> rfl
          have hnn : (kd = 0 ∨ kd = 6 ∨ kd = 2 ∨ kd = 4 ∨ kd = 7 ∨ kd = 8 ∨ kd = 10) → n - 1 = zmN Mc2 := by
            intro q
            rcases hkind with ⟨-, ix, -, e9, -⟩ | ⟨e8, -⟩ | ⟨-, ix, -, e9, -⟩ | ⟨e8, -⟩ | ⟨-, ix, -, e9, -⟩ | ⟨e8, -⟩ | ⟨-, e9, -⟩ <;> omega
          have hnull : ∀ v rest, (kd = 0 ∨ kd = 6 ∨ kd = 2 ∨ kd = 4 ∨ kd = 7 ∨ kd = 8 ∨ kd = 10) → st.drop (zmN Mc2) = v :: rest → ∃ y, v = .ref y := by
            intro v rest q ed
            rw [← hnn q] at ed
            rcases q with q | q | q | q | q
            · obtain ⟨y, r9, e8, -⟩ := hr0 q; rw [e8] at ed; cases ed; exact ⟨_, rfl⟩
            · obtain ⟨y, r9, e8, -⟩ := hr6 q; rw [e8] at ed; cases ed; exact ⟨_, rfl⟩
            · obtain ⟨y, r9, e8⟩ := hr24 (Or.inl q); rw [e8] at ed; cases ed; exact ⟨_, rfl⟩
            · obtain ⟨y, r9, e8⟩ := hr24 (Or.inr q); rw [e8] at ed; cases ed; exact ⟨_, rfl⟩
            · obtain ⟨y, r9, e8, -⟩ := hr78 q; rw [e8] at ed; cases ed; exact ⟨_, rfl⟩
          have hrcvB : ∀ y rest, (kd = 7 ∨ kd = 8 ∨ kd = 10) → st.drop (zmN Mc2) = .ref y :: rest → (∃ cell : Cell, H[ad y]? = some cell ∧ cell.vm.isStatics = false ∧ s.vm.findClass RJ4 = some cell.cls) := by
            intro y rest q ed
            rw [← hnn (Or.inr (Or.inr (Or.inr (Or.inr q))))] at ed
            obtain ⟨y2, r9, e8, hk9⟩ := hr78 q
            rw [e8] at ed
            cases ed
            have hy : y < zN h := zK77 hR.2.2.2.2.2 hk9 (by decide)
            exact va_recv (q := (zcN 6, zcT 6, zcn 6)) (fs := zfs ad h y 6 (zK h y).2) hK hR.1 (zcl_at 6 (by decide)) (q0 := y) (a := ad y) (by rw [zws_get hy]; simp [zent, hk9])
          have hrcv : ∀ y rest, (kd = 0 ∨ kd = 6) → st.drop (zmN Mc2) = .ref y :: rest → (∃ cell : Cell, H[ad y]? = some cell ∧ cell.vm.isStatics = false ∧ s.vm.findClass (zmY Mc2).cls = some cell.cls) := by
            intro y rest q ed
            rcases q with q | q
            · rw [← hnn (Or.inl q)] at ed
              obtain ⟨y2, r9, e8, hk9⟩ := hr0 q
              rw [e8] at ed
              cases ed
              have hci : ci < 8 ∧ zcN ci = (zmY Mc2).cls := by
                rcases hkind with ⟨z | z, -⟩ | ⟨z, -⟩ | ⟨z, -⟩ | ⟨z, -⟩ | ⟨z, -⟩ | ⟨z, -⟩ | ⟨⟨z, -⟩ | ⟨z, -⟩ | ⟨z, -⟩, -⟩
                · exact z.2
                · omega
                all_goals omega
              have hy : y < zN h := zK77 hR.2.2.2.2.2 hk9 (by omega)
              have := va_recv (q := (zcN ci, zcT ci, zcn ci)) (fs := zfs ad h y ci (zK h y).2) hK hR.1 (zcl_at ci hci.1) (q0 := y) (a := ad y) (by rw [zws_get hy]; simp [zent, hk9])
              rw [← hci.2]
              exact this
            · rw [← hnn (Or.inr (Or.inl q))] at ed
              obtain ⟨y2, r9, e8, hy1⟩ := hr6 q
              rw [e8] at ed
              cases ed
              have hcs : (zmY Mc2).cls = "java/lang/String" := by
                rcases hkind with ⟨z | z, -⟩ | ⟨z, -⟩ | ⟨z, -⟩ | ⟨z, -⟩ | ⟨z, -⟩ | ⟨z, -⟩ | ⟨⟨z, -⟩ | ⟨z, -⟩ | ⟨z, -⟩, -⟩
                · omega
                · exact z.2
                all_goals omega
              rw [hcs]
              rcases hy1 with hy1 | hy1
              · obtain ⟨a1, a2, a3, a4⟩ := zro_a hy1
                have h1 := vk_recv (i := 0) (hRO.2.2.1 (y - 1000000) a3) (by decide) hR.2.2.1
                rw [a1] at h1
                exact h1
              · have hy : y < zN h := zK77 hR.2.2.2.2.2 hy1 (by decide)
                exact va_recv (q := (zcN 7, zcT 7, zcn 7)) (fs := zfs ad h y 7 (zK h y).2) hK hR.1 (zcl_at 7 (by decide)) (q0 := y) (a := ad y) (by rw [zws_get hy]; simp [zent, hy1])
          have hMN := (hMet D tc ad h H.size (st.take n).reverse hR.2.2.2 (fun v hv => hS v (List.mem_of_mem_take (List.mem_reverse.mp hv))))
          have hrunN : ∀ (v : Option Value) (h2 : zm_H), S (st.take n).reverse h = some (.inl v, h2) → _ := fun v h2 e8 => zrunc (p := p) (e := e) (below := below) (meth := meth) (locs := locs) (cells := c0 + (rN r).1) (slots := s0 + (rN r).2) (rm := zmRoom Mc2) (mc := zmC Mc2) (ms := zmS Mc2) ⟨rfl, rfl, rfl, rfl⟩ C hdc hR hl hS hRO (by omega) (by omega) hwd hwx hg e2 hM (hMN.1 v h2 e8) hR.2.2.2.2.2 hrcv f1 f2 f3 f4 hnl hsum (fun _ _ _ _ q => q) hnull hrcvB
          have hSd : zokS (zN h) (st.drop n) := fun v hv => hS v (List.mem_of_mem_drop hv)
          have hcatS : ∀ (v : Option Value) (ad2 : Nat → Nat), zext (zN h) ad ad2 → (v.map (cv ad2)).toList ++ (st.drop n).map (cv ad) = (v.toList ++ st.drop n).map (cv ad2) := by
            intro v ad2 he
            rw [List.map_append, cvs_ext he hSd]
            cases v <;> rfl
          -- what follows an answer
          have kvv : ∀ (v : Option Value) (h2 : zm_H) (ad2 : Nat → Nat) (H2 : Heap) (locs2 : List Loc), k (i + 1) la (v.toList ++ st.drop n) h2 = some x → zext (zN h) ad ad2 → zN h ≤ zN h2 → zR D tc ad2 A s h2 H2 locs2 → (∀ w, v = some w → zokV (zN h2) w) → W p l e R s m args below meth c H2 locs2 (c0 + (rN r).1 + zmC Mc2) (s0 + (rN r).2 + zmS Mc2) Q (F0 m (rP r + 3) ls ((v.map (cv ad2)).toList ++ (st.drop n).map (cv ad))) := by
            intro v h2 ad2 H2 locs2 hk9 he hz hR2 hok
            rw [hcatS v ad2 he, ← hzl]
            refine znext (Nat.le_refl _) hn kk hk9 he hz hR2 (hl.ext he hL) ?_ (hL.mono hz)
            intro w hw
            rcases List.mem_append.mp hw with q | q
            · exact hok w (by cases v <;> simp_all)
            · exact (hSd w q).mono hz
          have goN : znrm rk (S (st.take n).reverse h) i la (st.drop n) k = some x → W p l e R s m args below meth c H locs (c0 + (rN r).1) (s0 + (rN r).2) Q (F0 m (rP r) ls (st.map (cv ad))) := by
            intro hs
            obtain ⟨v, h2, e8, hk9⟩ := znrm_inv hs
            exact zcallN hR hA (hrunN v h2 e8) (fun ad2 H2 locs2 he hz hR2 hok => kvv v h2 ad2 H2 locs2 hk9 he hz hR2 hok)
          have hrunT : th ≠ 0 → ∀ (y : Nat) (h2 : zm_H), S (st.take n).reverse h = some (.inr y, h2) → c0 + (rN r).1 + zmTc Mc2 ≤ R.cells → s0 + (rN r).2 + zmTs Mc2 ≤ R.slots → _ := fun h0 y h2 e8 g1 g2 => zrunc (p := p) (e := e) (below := below) (meth := meth) (locs := locs) (cells := c0 + (rN r).1) (slots := s0 + (rN r).2) (rm := zmRoomT Mc2) (mc := zmTc Mc2) (ms := zmTs Mc2) ⟨rfl, rfl, rfl, rfl⟩ C hdc hR hl hS hRO g1 g2 hwd hwx hg e2 hM (hMN.2 y h2 e8) hR.2.2.2.2.2 hrcv f1 f2 f3 f4 hnl hsum (fun q => absurd q h0) hnull hrcvB
          split at hs
          · exact goN hs
          · simp only [Bool.and_eq_true, decide_eq_true_eq] at hth
            rcases zthr_inv hs with ⟨E, h2, e8, hf⟩ | hs
            · obtain ⟨g1, g2⟩ := hxT E h2 hf
              exact zcallT hR hA (hrunT (by decide) E h2 e8 (by omega) (by omega)) (fun ad2 H2 locs2 ce q he hz hR2 hce hcv hcl => vx_widen (by omega) (by omega) (kprop E h2 ad2 H2 locs2 ce q _ hf hth.1.1 he hz hR2 hce hcv hcl))
            · exact goN hs
          · rename_i n0 n1
            have h2th : th = 2 := by
              match th, hth with
              | 0, _ => exact absurd rfl n0
              | 1, _ => exact absurd rfl n1
              | 2, _ => rfl
            subst h2th
            simp only [Bool.and_eq_true, decide_eq_true_eq] at hth
            rcases zthr_inv hs with ⟨E, h2, e8, hf⟩ | hs
            · split at hf
              · rename_i p9 j9 hnd
                refine zcallT hR hA (hrunT (by decide) E h2 e8 (by omega) (by omega)) (fun ad2 H2 locs2 ce q he hz hR2 hce hcv hcl => ?_)
                obtain ⟨hvk, ix, e1⟩ : (kd = 0 ∨ kd = 6) ∧ ∃ ix, rI r = .invokevirtual ix := by
                  rcases hkind with ⟨z, ix, e9, -⟩ | ⟨-, ix, -, -, -, z⟩ | ⟨-, ix, -, -, -, -, -, z⟩ | ⟨-, ix, -, -, -, z⟩ | ⟨-, ix, -, -, -, -, -, z⟩ | ⟨-, ix, -, -, -, z⟩ | ⟨-, -, -, z⟩
                  · exact ⟨z.elim (fun q => Or.inl q.1) (fun q => Or.inr q.1), ix, e9⟩
                  all_goals omega
                refine zhck_catch C (zRO_ad he hRO) hce hcv hcl (hl.ext he hL) (p9 := p9) (j9 := j9) hdecA hs9 (zmH M) [] [] hth.1.1 (by simpa using htab) (fun z hz => by cases hz) (fun w hw => hwd w ?_) (fun w hw => hwx w ?_) hnd (fun rp r2 ls2 q1 q2 q3 q4 q5 hl2 => ?_)
                · rcases hvk with rfl | rfl <;>
                  (unfold zwd
                   rw [hg, e1, e2]
                   simp only [hM]
                   exact List.mem_append_right _ hw)
                · rcases hvk with rfl | rfl <;> (unfold zwx; rw [hg, e1, e2]; exact hw)
                · exact W.widen (by omega) (by omega) (kk (p9 + 1) r2 _ [] h2 ad2 H2 locs2 ls2 q2 hf he hz hR2 hl2 zokS_nil (zokL_set (zokL_clr (hL.mono hz)) (fun w hw => by cases hw)))
              · cases hf
            · exact goN hs
        · cases hs
      · cases hs
    · cases hc
  · cases hc
end ZM6
section ZMAIN
variable {sc : Nat × (Nat → Int32)}
variable {p : Program} {l : Launch} {e : Env} {R : Room} {s : State} {m : MethodId} {args : Array Value} {below : List Frame} {meth : Method} {c : Code} {Q : State → Prop}
variable {own : String} {M : zm_M} {envM : List zm_M} {D : va_G} {tc : Nat → ClassId} {A : Nat → Prop} {rows : List zm_R} {c0 s0 : Nat}
set_option maxHeartbeats 4000000 in
/-- a run from a row to the next stop or to an end is a run of the machine -/
theorem zsim_ev {env : List (zm_M × zm_S)} {scr : Nat × (Nat → Int32)} {n0 : Nat} {ad0 : Nat → Nat} {x : zm_T ⊕ zm_O} (C : zCx p l R s m args meth c own M D tc A) (hcR : c0 + zmC M ≤ R.cells) (hsR : s0 + zmS M ≤ R.slots)
    (henv : envM = env.map Prod.fst) (hE : ∀ (j : Nat) (q : zm_M × zm_S), env[j]? = some q → MetA sc l q.1 q.2) (hch : ∀ (i : Nat) (r : zm_R), rows[i]? = some r → zchk own M envM rows i r = true)
    (hwd : ∀ (i : Nat) (r : zm_R), rows[i]? = some r → ∀ w ∈ zwd own M envM r, w ∈ gT) (hwx : ∀ (i : Nat) (r : zm_R), rows[i]? = some r → ∀ w ∈ zwx own M envM r, zspc w = true ∧ w ∈ lw_tbl)
    (hscr : (zmY M).name = "draw" → scr = sc) (hRO : zRO sc A ad0 s s.heap) (htab : c.exceptionTable.toList = tableOf (zmH M))
    (kret : ∀ (i : Nat) (r : zm_R) (la : zm_L) (st : List Value) (h : zm_H) (ad : Nat → Nat) (H : Heap) (locs : List Loc) (ls : Array Slot) (o : zm_O), rows[i]? = some r → zdec (zmB M) r = true → rG r = 5 → zg5 r st h = some o → x = .inr o → zext n0 ad0 ad → n0 ≤ zN h → zR D tc ad A s h H locs → zLh ad (zmL M) la ls → zokS (zN h) st → zokL (zN h) la → W p l e R s m args below meth c H locs (c0 + (rN r).1) (s0 + (rN r).2) Q (F0 m (rP r) ls (st.map (cv ad))))
    (kthr : ∀ (i : Nat) (r : zm_R) (la : zm_L) (st : List Value) (h : zm_H) (ad : Nat → Nat) (H : Heap) (locs : List Loc) (ls : Array Slot) (y : Nat) (os : List Nat), rows[i]? = some r → zdec (zmB M) r = true → rG r = 7 → rO r = y :: os → (st.map fun v => v.category).sum ≤ 8 → x = .inr (.inr y, h) → zext n0 ad0 ad → n0 ≤ zN h → zR D tc ad A s h H locs → zLh ad (zmL M) la ls → zokS (zN h) st → zokL (zN h) la → W p l e R s m args below meth c H locs (c0 + (rN r).1) (s0 + (rN r).2) Q (F0 m (rP r) ls (st.map (cv ad))))
    (kprop : ∀ (E : Nat) (h2 : zm_H) (ad2 : Nat → Nat) (H2 : Heap) (locs2 : List Loc) (ce : Cell) (q : Addr) (rest : List Value) (pc : Nat) (ls : Array Slot), x = .inr (.inr E, h2) → (zmH M).isEmpty = true → zext n0 ad0 ad2 → n0 ≤ zN h2 → zR D tc ad2 A s h2 H2 locs2 → H2[q]? = some ce → ce.vm = .none → s.vm.findClass (zex E) = some ce.cls → vx_W p l e R s m args below meth c H2 locs2 (c0 + zmTc M) (s0 + zmTs M) Q (F0 m pc ls rest) q)
    (hxT : ∀ (E : Nat) (h2 : zm_H), x = .inr (.inr E, h2) → c0 + zmTc M ≤ R.cells ∧ s0 + zmTs M ≤ R.slots)
    (khead : ∀ (i : Nat) (r : zm_R) (la : zm_L) (st : List Value) (h : zm_H) (ad : Nat → Nat) (H : Heap) (locs : List Loc) (ls : Array Slot), rows[i]? = some r → x = .inl (i, la, st, h) → zext n0 ad0 ad → n0 ≤ zN h → zR D tc ad A s h H locs → zLh ad (zmL M) la ls → zokS (zN h) st → zokL (zN h) la → W p l e R s m args below meth c H locs (c0 + (rN r).1) (s0 + (rN r).2) Q (F0 m (rP r) ls (st.map (cv ad)))) :
    ∀ (n : Nat) (i : Nat) (r : zm_R) (la : zm_L) (st : List Value) (h : zm_H) (ad : Nat → Nat) (H : Heap) (locs : List Loc) (ls : Array Slot), rows[i]? = some r → zev env scr rows n i la st h = some x → zext n0 ad0 ad → n0 ≤ zN h → zR D tc ad A s h H locs → zLh ad (zmL M) la ls → zokS (zN h) st → zokL (zN h) la → W p l e R s m args below meth c H locs (c0 + (rN r).1) (s0 + (rN r).2) Q (F0 m (rP r) ls (st.map (cv ad))) := by
  have hdecA : ∀ (i2 : Nat) (r2 : zm_R), rows[i2]? = some r2 → zdec (zmB M) r2 = true := fun i2 r2 h9 => by
    have := hch i2 r2 h9
    unfold zchk at this
    exact (Bool.and_eq_true_iff.mp this).1
  intro n
  induction n with
  | zero => intro i r la st h ad H locs ls hr hs; cases hs
  | succ n ih =>
    intro i r la st h ad H locs ls hr hs he hz hR hl hS hL
    have hRO2 := zRO_ad he hRO
    have hdc := hdecA i r hr
    have hc := hch i r hr
    have hwd0 := hwd i r hr
    have hwx0 : ∀ w ∈ zwx own M envM r, va_Nw w s := fun w hw => hRO2.1 w (hwx i r hr w hw).2 (hwx i r hr w hw).1
    unfold zev at hs
    rw [hr] at hs
    simp only [] at hs
    obtain ⟨k, hkd⟩ : ∃ k : zm_K (zm_T ⊕ zm_O), k = zcont rows (zev env scr rows n) := ⟨_, rfl⟩
    rw [← hkd] at hs
    have kk : ∀ (i2 : Nat) (r2 : zm_R) (la2 : zm_L) (st2 : List Value) (h2 : zm_H) (ad2 : Nat → Nat) (H2 : Heap) (locs2 : List Loc) (ls2 : Array Slot), rows[i2]? = some r2 → k i2 la2 st2 h2 = some x → zext (zN h) ad ad2 → zN h ≤ zN h2 → zR D tc ad2 A s h2 H2 locs2 → zLh ad2 (zmL M) la2 ls2 → zokS (zN h2) st2 → zokL (zN h2) la2 → W p l e R s m args below meth c H2 locs2 (c0 + (rN r2).1) (s0 + (rN r2).2) Q (F0 m (rP r2) ls2 (st2.map (cv ad2))) := by
      intro i2 r2 la2 st2 h2 ad2 H2 locs2 ls2 hr2 hk9 he9 hz9 hR9 hl9 hS9 hL9
      rw [hkd] at hk9
      unfold zcont at hk9
      simp only [hr2] at hk9
      split at hk9
      · have hx9 := (Option.some.inj hk9).symm
        exact khead i2 r2 _ st2 h2 ad2 H2 locs2 ls2 hr2 hx9 (he.trans he9 hz) (Nat.le_trans hz hz9) hR9 (hl9.kill _) hS9 (zokL_kill _ hL9)
      · exact ih i2 r2 la2 st2 h2 ad2 H2 locs2 ls2 hr2 hk9 (he.trans he9 hz) (Nat.le_trans hz hz9) hR9 hl9 hS9 hL9
    unfold zstep at hs
    split at hs
    · rename_i hg
      split at hs
      · rename_i la2 st2 hp
        have hcc := hc
        unfold zchk at hcc
        rw [hg] at hcc
        simp only [hdc, Bool.true_and, Bool.and_eq_true] at hcc
        exact zs0 C hdc hR hl hS hL hcc.1.1 hcc.1.2 hcc.2 hp hs kk
      · cases hs
    · rename_i hg; exact zs1 C hdc hR hl hS hL hs hc hg kk
    · rename_i hg; exact zs2 C hdc hR hl hS hL hR.2.2.2.2.2 hwd0 hs hc hg kk
    · rename_i hg
      exact zs3 C hdc hR hl hS hL hR.2.2.2.2.2 hscr hRO2 hs hc hg kk
    · rename_i hg; exact zs4 C hdc hR hl hS hL hRO2 hcR hsR hwd0 hs hc hg kk
    · rename_i hg
      split at hs
      · rename_i o ho
        exact kret i r la st h ad H locs ls o hr hdc hg ho (Option.some.inj hs).symm he hz hR hl hS hL
      · cases hs
    · rename_i hg
      refine zs6 C hdc hR hl hS hL hRO2 hcR hsR hwd0 hwx0 hs hc hg henv hE hdecA htab kk (fun E h2 hf => hxT E h2 (Option.some.inj hf).symm) (fun E h2 ad2 H2 locs2 ce q rest hf hem he9 hz9 hR9 q1 q2 q3 => ?_)
      exact kprop E h2 ad2 H2 locs2 ce q rest _ ls (Option.some.inj hf).symm hem (he.trans he9 hz) (Nat.le_trans hz hz9) hR9 q1 q2 q3
    · rename_i hg
      split at hs
      · rename_i y os e2
        exact kthr i r la [] h ad H locs ls y os hr hdc hg e2 (by decide) (Option.some.inj hs).symm he hz hR hl hS hL
      · cases hs
    · rename_i hg; exact zs8 C hdc hR hl hS hL hR.2.2.2.2.2 hwd0 hs hc hg kk
    · rename_i hg; exact zs9 C hdc hR hl hS hL hRO2 hwd0 hs hc hg kk
    · rename_i hg
      split at hs
      · exact zs10 C hdc hR hl hS hL hwd0 rfl hs hc hg kk
      · cases hs
    · rename_i hg; exact zs11 C hdc hR hl hS hL hs hc hg kk
    · rename_i hg; exact zs13 C hdc hR hl hS hL hcR hsR hwd0 hs hc hg kk
    · rename_i hg; exact zs14 C hdc hR hl hS hL hR.2.2.2.2.2 hRO2 hcR hsR hwd0 hwx0 hs hc hg kk
    · rename_i hg; exact zs15 C hdc hR hl hS hL hR.2.2.2.2.2 hRO2 hwd0 hs hc hg kk
    · cases hs
end ZMAIN
end
section
/-! A METHOD'S CONTRACT OUT OF ITS ROWS. -/
section ZME
variable {sc : Nat × (Nat → Int32)}
theorem zarg_in {ad : Nat → Nat} : ∀ (av : List Value) (b j : Nat) (v : Value), (zarg av)[j]? = some (some v) → (b + j, cv ad v) ∈ lv_args b (av.map (cv ad)) := by
  intro av
  induction av with
  | nil => intro b j v h; simp [zarg] at h
  | cons a av ih =>
    intro b j v h
    show (b + j, cv ad v) ∈ (b, cv ad a) :: lv_args (if (cv ad a).category = 2 then b + 2 else b + 1) (av.map (cv ad))
    rw [cv_cat]
    unfold zarg at h
    split at h
    · rename_i hc
      rw [if_pos hc]
      match j, h with
      | 0, h => cases h; exact List.mem_cons_self
      | 1, h => cases h
      | j + 2, h =>
        have := ih (b + 2) j v h
        rw [show b + 2 + j = b + (j + 2) by omega] at this
        exact List.mem_cons_of_mem _ this
    · rename_i hc
      rw [if_neg hc]
      match j, h with
      | 0, h => cases h; exact List.mem_cons_self
      | j + 1, h =>
        have := ih (b + 1) j v h
        rw [show b + 1 + j = b + (j + 1) by omega] at this
        exact List.mem_cons_of_mem _ this
theorem zarg_len {ad : Nat → Nat} : ∀ (av : List Value), (lg_sl (av.map (cv ad))).length = (zarg av).length := by
  intro av
  induction av with
  | nil => rfl
  | cons a av ih =>
    have h1 : lg_sl ((a :: av).map (cv ad)) = (if (cv ad a).category = 2 then [Slot.val (cv ad a), .second] else [Slot.val (cv ad a)]) ++ lg_sl (av.map (cv ad)) := rfl
    have h2 : zarg (a :: av) = (if a.category = 2 then some a :: none :: zarg av else some a :: zarg av) := rfl
    rw [h1, h2, List.length_append, ih, cv_cat]
    split <;> simp <;> omega
theorem zlok_len {n : Nat} {av : List Value} (h : (zarg av).length ≤ n) : (zlok n av).length = n := by simp [zlok]; omega
theorem zlok_at {n j : Nat} {av : List Value} {v : Value} (h : (zlok n av)[j]? = some (some v)) : (zarg av)[j]? = some (some v) := by
  unfold zlok at h
  by_cases hj : j < (zarg av).length
  · rwa [List.getElem?_append_left hj] at h
  · rw [List.getElem?_append_right (by omega)] at h
    obtain ⟨h1, h2⟩ := List.getElem?_eq_some_iff.mp h
    rw [List.getElem_replicate] at h2
    cases h2
theorem zarg_ok {n : Nat} : ∀ {av : List Value}, zokS n av → ∀ v, some v ∈ zarg av → zokV n v := by
  intro av
  induction av with
  | nil => intro _ v h; simp [zarg] at h
  | cons a av ih =>
    intro ha v h
    have h2 := (zokS_cons.mp ha)
    unfold zarg at h
    split at h
    · simp only [List.mem_cons, Option.some.injEq, reduceCtorEq, false_or] at h
      rcases h with rfl | h
      · exact h2.1
      · exact ih h2.2 v h
    · simp only [List.mem_cons, Option.some.injEq] at h
      rcases h with rfl | h
      · exact h2.1
      · exact ih h2.2 v h
theorem zlok_ok {n k : Nat} {av : List Value} (h : zokS n av) : zokL n (zlok k av) := by
  intro v hv
  unfold zlok at hv
  rcases List.mem_append.mp hv with q | q
  · exact zarg_ok h v q
  · exact absurd (List.eq_of_mem_replicate q) (by simp)
/-- what is checked of a method, all in one -/
def zall (own : String) (M : zm_M) (envM : List zm_M) (rows : List zm_R) : Bool := decide (zmC M ≤ zmTc M) && decide (zmS M ≤ zmTs M) && (List.range rows.length).all (fun i => match rows[i]? with | some r => zchk own M envM rows i r | none => true)
def zwds (own : String) (M : zm_M) (envM : List zm_M) (rows : List zm_R) : List Cond := rows.flatMap (zwd own M envM)
def zwxs (own : String) (M : zm_M) (envM : List zm_M) (rows : List zm_R) : List Cond := rows.flatMap (zwx own M envM)
theorem zall_at {own : String} {M : zm_M} {envM : List zm_M} {rows : List zm_R} (h : zall own M envM rows = true) : ∀ (i : Nat) (r : zm_R), rows[i]? = some r → zchk own M envM rows i r = true := by
  intro i r hr
  unfold zall at h
  simp only [Bool.and_eq_true] at h
  have h1 := List.all_eq_true.mp h.2 i (List.mem_range.mpr (List.getElem?_eq_some_iff.mp hr).1)
  rw [hr] at h1
  exact h1
theorem zall_T {own : String} {M : zm_M} {envM : List zm_M} {rows : List zm_R} (h : zall own M envM rows = true) : zmC M ≤ zmTc M ∧ zmS M ≤ zmTs M := by
  unfold zall at h
  simp only [Bool.and_eq_true, decide_eq_true_eq] at h
  exact h.1
set_option maxHeartbeats 4000000 in
theorem zbody {l : Launch} (hlt : l.stackTraces = false) {M : zm_M} {env : List (zm_M × zm_S)} {envM : List zm_M} {rows : List zm_R} {own : String} {scr : Nat × (Nat → Int32)} (hown9 : own = (zmY M).cls) (hnl : (zmY M).name = "draw" → scr = sc) (henv : envM = env.map Prod.fst) (hE : ∀ (j : Nat) (q : zm_M × zm_S), env[j]? = some q → MetA sc l q.1 q.2)
    (hch : zall own M envM rows = true) (hwd : ∀ w ∈ zwds own M envM rows, w ∈ gT) (hwx : ∀ w ∈ zwxs own M envM rows, zspc w = true ∧ w ∈ lw_tbl) (h00 : (rows[0]?).map (fun r => (rP r, rN r)) = some (0, 0, 0))
    {D : va_G} {tc : Nat → ClassId} {ad : Nat → Nat} {h : zm_H} {sz : Nat} {av : List Value} (hoH : zokH h) (hoS : zokS (zN h) av) {o : zm_O} (ho : zsem2 scr env rows (zmL M) av h = some o)
    {rm : Room} {mc ms : Nat} {Qc : Array Value → State → Outcome → State → Prop} {XC : String → State → State → Prop} (hrm : rm.frames = (zmRoom M).frames ∧ rm.locals = (zmRoom M).locals ∧ zmC M ≤ rm.cells ∧ zmS M ≤ rm.slots)
    (hQ : ∀ v h2, o = (.inl v, h2) → mc = zmC M ∧ ms = zmS M ∧ ∀ (ar : Array Value) (st9 : State) (ad2 : Nat → Nat) (t : State), zPst D tc ad h sz ad2 h2 t → (∀ w, v = some w → zokV (zN h2) w) → va_F (va_A (zws tc ad h) sz) st9 t → Qc ar st9 (.returned (v.map (cv ad2))) t)
    (hX : ∀ y h2, o = (.inr y, h2) → mc = zmTc M ∧ ms = zmTs M ∧ rm.cells = zmTc M ∧ rm.slots = zmTs M ∧ ∀ (st9 : State) (ad2 : Nat → Nat) (t : State), zPst D tc ad h sz ad2 h2 t → va_F (va_A (zws tc ad h) sz) st9 t → XC (zex y) st9 t) :
    ∀ p e s m args below meth c s₁, BodyLoose p l (zmY M) (headSpec (zmWs M) rm) (zmB M) (zmL M) (zmR M) e s m args below meth c s₁ → c.maxLocals = zmL M → c.exceptionTable.toList = tableOf (zmH M) → va_Pc (av.map (cv ad)) (zPre sc D tc ad h sz) args s →
      W p l e (headSpec (zmWs M) rm).room s m args below meth c s.heap [] 0 0 (vx_MQ below Qc XC args s mc ms (va_A (zws tc ad h) sz)) (entryFrame m args (zmL M)) := by
  obtain ⟨hna, nr, hrun⟩ := zsem2_rn ho
  have hchA := zall_at hch
  have hwdA : ∀ (i : Nat) (r : zm_R), rows[i]? = some r → ∀ w ∈ zwd own M envM r, w ∈ gT := fun i r hr w hw => hwd w (List.mem_flatMap.mpr ⟨r, List.mem_of_getElem? hr, hw⟩)
  have hwxA : ∀ (i : Nat) (r : zm_R), rows[i]? = some r → ∀ w ∈ zwx own M envM r, zspc w = true ∧ w ∈ lw_tbl := fun i r hr w hw => hwx w (List.mem_flatMap.mpr ⟨r, List.mem_of_getElem? hr, hw⟩)
  intro p e s m args below meth c s₁ B hml htab hpc
  obtain ⟨rfl, hsz, hP, hK, hD0, hRO⟩ := hpc
  have htsW : ∀ w ∈ zmWs M, w.before (av.map (cv ad)).toArray s = true := atoms_spec (ws := zmWs M) B.pre
  have hts : ∀ w ∈ gT, w.before (av.map (cv ad)).toArray s = true := fun w hw => htsW w (List.mem_cons_of_mem _ hw)
  subst hsz
  obtain ⟨A, hAe⟩ : ∃ A, A = va_A (zws tc ad h) s.heap.size := ⟨_, rfl⟩
  rw [← hAe] at hRO ⊢
  rw [← hAe] at hQ hX
  have hA : ∀ q : Nat, s.heap.size ≤ q → A q := fun q hq => by rw [hAe]; exact Or.inr hq
  have hD : va_D A (zws tc ad h) := ⟨hD0.1, fun k q hq => by rw [hAe]; exact Or.inl ⟨k, q.2, hq⟩⟩
  have hR0 : zR D tc ad A s h s.heap [] := ⟨hP, hD, va_S.rf, hoH⟩
  have C : zCx p l rm s m (av.map (cv ad)).toArray meth c own M D tc A := ⟨B.exec, B.bytes, hml, by rw [hown9]; exact findClass_of_methodNamed B.named, hts, hK, hA, by rw [hrm.1]; exact Nat.le_refl _, by rw [hrm.2.1]; exact Nat.le_refl _, B.notSynchronized, hlt, (name_of_methodNamed B.named B.method).1, B.returns⟩
  have hfin : ∀ (ad1 : Nat → Nat) (h1 : zm_H) (H : Heap) (locs : List Loc), zext (zN h) ad ad1 → zN h ≤ zN h1 → zR D tc ad1 A s h1 H locs → ∀ t : State, t.heap = H → s.vm.Alike t.vm → zPst D tc ad h s.heap.size ad1 h1 t ∧ va_F A s t := by
    intro ad1 h1 H locs he hz hR t ht hW
    exact ⟨⟨he, by rw [ht]; exact hR.1, va_K.moved hW hK, by rw [← hAe]; exact hR.2.1, hR.2.2.2, hz⟩, hR.2.2.1.F ht⟩
  have main : ∀ (n i : Nat) (r : zm_R) (la : zm_L) (st : List Value) (h1 : zm_H) (ad1 : Nat → Nat) (H : Heap) (locs : List Loc) (ls : Array Slot), rows[i]? = some r → zrun env scr rows n (i, la, st, h1) = some o → zext (zN h) ad ad1 → zN h ≤ zN h1 → zR D tc ad1 A s h1 H locs → zLh ad1 (zmL M) la ls → zokS (zN h1) st → zokL (zN h1) la →
      W p l e rm s m (av.map (cv ad)).toArray below meth c H locs (0 + (rN r).1) (0 + (rN r).2) (vx_MQ below Qc XC (av.map (cv ad)).toArray s mc ms A) (F0 m (rP r) ls (st.map (cv ad1))) := by
    intro n
    induction n with
    | zero => intro i r la st h1 ad1 H locs ls hr hrun; cases hrun
    | succ n ih =>
      intro i r la st h1 ad1 H locs ls hr hrun he hz hR hl hS hL
      unfold zrun at hrun
      cases hx : zE env scr rows (i, la, st, h1) with
      | none => rw [hx] at hrun; cases hrun
      | some x =>
        rw [hx] at hrun
        refine zsim_ev (c0 := 0) (s0 := 0) (n0 := zN h) (ad0 := ad) (x := x) C (by rw [Nat.zero_add]; exact hrm.2.2.1) (by rw [Nat.zero_add]; exact hrm.2.2.2) henv hE hchA hwdA hwxA hnl hRO htab ?_ ?_ ?_ ?_ ?_ 4000 i r la st h1 ad1 H locs ls hr hx he hz hR hl hS hL
        · intro i r la st h1 ad1 H locs ls o2 hr hdc hg ho2 hx2 he hz hR hl hS hL
          subst hx2
          cases hrun
          have ho2' := ho2
          have hoin : ∃ v, o = (.inl v, h1) := by
            unfold zg5 at ho2'
            split at ho2' <;> (try split at ho2') <;> first | (cases ho2'; exact ⟨_, rfl⟩) | (cases ho2') | (obtain ⟨-, ho2'⟩ := zgd_some ho2'; cases ho2'; exact ⟨_, rfl⟩)
          obtain ⟨v, hv⟩ := hoin
          obtain ⟨rfl, rfl, hq⟩ := hQ v h1 hv
          refine zs5 C hdc hR hl hS hL ho2 (hchA i r hr) hg (by omega) (by omega) (fun v2 hv2 hok t ht hW => ?_) hR.2.2.1.2.2
          rw [hv] at hv2
          cases hv2
          obtain ⟨f1, f2⟩ := hfin ad1 h1 H locs he hz hR t ht hW.alike
          exact hq _ s ad1 t f1 hok f2
        · intro i r la st h1 ad1 H locs ls y os hr hdc hg e2 hst hx2 he hz hR hl hS hL
          subst hx2
          cases hrun
          have hchr := hchA i r hr
          have hem : (zmH M).isEmpty = true := by
            unfold zchk at hchr
            rw [hg, e2] at hchr
            simp only [hdc, Bool.true_and] at hchr
            split at hchr
            · simp only [Bool.and_eq_true] at hchr
              exact hchr.1.1.1.1.1.1.2
            · cases hchr
          obtain ⟨rfl, rfl, g1, g2, hq⟩ := hX y h1 rfl
          refine zs7 C hdc hR hl hS hL (zRO_ad he hRO) (hwdA i r hr) (fun w hw => (zRO_ad he hRO).1 w (hwxA i r hr w hw).2 (hwxA i r hr w hw).1) (fun z hz9 => by rw [htab, List.isEmpty_iff.mp hem] at hz9; cases hz9) hchr hg e2 hst (by rw [Nat.zero_add]; exact Nat.le_of_eq g1.symm) (by rw [Nat.zero_add]; exact Nat.le_of_eq g2.symm) rfl rfl (fun t hW h8 h9 => ?_) hR.2.2.1.2.2
          have hP9 : va_P D vwCl (zws tc ad1 h1) t.heap := hR.1.kept (fun k q hq => h9 q.1 ((hR.1 k q hq).lt))
          exact hq s ad1 t ⟨he, hP9, va_K.moved hW hK, by rw [← hAe]; exact hR.2.1, hR.2.2.2, hz⟩ ⟨Nat.le_trans hR.2.2.1.1 h8, fun q h3 h4 => (h9 q (Nat.lt_of_lt_of_le h3 hR.2.2.1.1)).trans (hR.2.2.1.2.1 q h3 h4)⟩
        · intro E h2 ad2 H2 locs2 ce q rest pc ls hx2 hem he hz hR q1 q2 q3
          subst hx2
          cases hrun
          obtain ⟨rfl, rfl, g1, g2, hq⟩ := hX E h2 rfl
          refine vx_out (fun z hz9 => by rw [htab, List.isEmpty_iff.mp hem] at hz9; cases hz9) C.2.2.2.2.2.2.2.2.2.1 q1 q2 q3 (fun t ht hW => ?_) hR.2.2.1.2.2 (by omega) (by omega)
          obtain ⟨f1, f2⟩ := hfin ad2 h2 H2 locs2 he hz hR t ht hW
          exact hq s ad2 t f1 f2
        · intro E h2 hx2
          subst hx2
          cases hrun
          obtain ⟨-, -, g1, g2, -⟩ := hX E h2 rfl
          omega
        · intro i r la st h1 ad1 H locs ls hr hx2 he hz hR hl hS hL
          subst hx2
          exact ih i r la st h1 ad1 H locs ls hr hrun he hz hR hl hS hL
  have hlE := lv_entry (av.map (cv ad)) (n := zmL M) (by rw [zarg_len]; exact hna)
  rw [lg_entry_eq]
  generalize (lg_sl (av.map (cv ad)) ++ List.replicate (zmL M - (lg_sl (av.map (cv ad))).length) Slot.unset).toArray = ls at hlE ⊢
  have hl0 : zLh ad (zmL M) (zlok (zmL M) av) ls := ⟨hlE.1, hlE.2.1, zlok_len hna, fun i v hv => by
    have h1 := hlE.2.2 _ (zarg_in (ad := ad) av 0 i v (zlok_at hv))
    rw [Nat.zero_add] at h1
    exact h1⟩
  cases hr0 : rows[0]? with
  | none => rw [hr0] at h00; cases h00
  | some r0 =>
    rw [hr0] at h00
    have h01 := Option.some.inj h00
    have e1 : rP r0 = 0 := congrArg Prod.fst h01
    have e2 : rN r0 = (0, 0) := congrArg Prod.snd h01
    have K := main nr 0 r0 (zlok (zmL M) av) [] h ad s.heap [] ls hr0 hrun zext.rf (Nat.le_refl _) hR0 hl0 zokS_nil (zlok_ok hoS)
    rw [e1, e2] at K
    exact K
theorem zmet2 {l : Launch} (hlt : l.stackTraces = false) {M : zm_M} {env : List (zm_M × zm_S)} {envM : List zm_M} {rows : List zm_R} {own : String} (hown9 : own = (zmY M).cls) (hy : plainName (zmY M).cls = true) {scr : Nat × (Nat → Int32)} (hnl : (zmY M).name = "draw" → scr = sc) (henv : envM = env.map Prod.fst) (hE : ∀ (j : Nat) (q : zm_M × zm_S), env[j]? = some q → MetA sc l q.1 q.2)
    (hch : zall own M envM rows = true) (hwd : ∀ w ∈ zwds own M envM rows, w ∈ gT) (hwx : ∀ w ∈ zwxs own M envM rows, zspc w = true ∧ w ∈ lw_tbl) (h00 : (rows[0]?).map (fun r => (rP r, rN r)) = some (0, 0, 0)) : MetA sc l M (zsem2 scr env rows (zmL M)) := by
  intro D tc ad h sz av hoH hoS
  have close : ∀ {rm : Room} {mc ms : Nat} {Qc : Array Value → State → Outcome → State → Prop} {XC : String → State → State → Prop}, (∀ p e s m args below meth c s₁, BodyLoose p l (zmY M) (headSpec (zmWs M) rm) (zmB M) (zmL M) (zmR M) e s m args below meth c s₁ → c.maxLocals = zmL M → c.exceptionTable.toList = tableOf (zmH M) → va_Pc (av.map (cv ad)) (zPre sc D tc ad h sz) args s →
      W p l e (headSpec (zmWs M) rm).room s m args below meth c s.heap [] 0 0 (vx_MQ below Qc XC args s mc ms (va_A (zws tc ad h) sz)) (entryFrame m args (zmL M))) → vx_Met l (zmY M) (zmWs M) rm (va_Pc (av.map (cv ad)) (zPre sc D tc ad h sz)) Qc XC mc ms (va_A (zws tc ad h) sz) := by
    intro rm mc ms Qc XC body
    by_cases hem : (zmH M).isEmpty = true
    · have hW : zmWs M = Cond.code (zmY M) (zmB M) (zmL M) (zmR M) :: gT := by unfold zmWs; rw [zmW_plain hem]
      refine vx_ofW hy hW (fun p e s m args below meth c s₁ B hml hno hpc => body p e s m args below meth c s₁ B hml ?_ hpc)
      rw [List.isEmpty_iff.mp hem]
      show c.exceptionTable.toList = []
      exact List.eq_nil_iff_forall_not_mem.mpr (fun z hz => hno z hz)
    · have hW : zmWs M = Cond.codeWith (zmY M) (zmB M) (zmL M) (zmR M) (zmH M) :: gT := by unfold zmWs; rw [zmW_hand hem]
      exact vx_ofWH hy hW (fun p e s m args below meth c s₁ B hml hpc => body p e s m args below meth c s₁ B hml (vx_table (x := zmY M) B (atoms_spec (ws := zmWs M) B.pre _ (by rw [hW]; exact List.mem_cons_self))) hpc)
  refine ⟨fun v h2 ho => close ?_, fun x h2 ho => close ?_⟩
  · refine zbody hlt hown9 hnl henv hE hch hwd hwx h00 hoH hoS ho ⟨rfl, rfl, Nat.le_refl _, Nat.le_refl _⟩ (fun v2 h3 e => ?_) (fun y h3 e => by cases e)
    cases e
    exact ⟨rfl, rfl, fun ar st9 ad2 t f1 f2 f3 => ⟨⟨ad2, rfl, f1, f2⟩, f3⟩⟩
  · refine zbody hlt hown9 hnl henv hE hch hwd hwx h00 hoH hoS ho ⟨rfl, rfl, (zall_T hch).1, (zall_T hch).2⟩ (fun v2 h3 e => by cases e) (fun y h3 e => ?_)
    cases e
    exact ⟨rfl, rfl, rfl, rfl, fun st9 ad2 t f1 f3 => ⟨⟨ad2, rfl, f1⟩, f3⟩⟩
theorem zmet {l : Launch} (hlt : l.stackTraces = false) {M : zm_M} {env : List (zm_M × zm_S)} {envM : List zm_M} {rows : List zm_R} {own : String} (hown9 : own = (zmY M).cls) (hy : plainName (zmY M).cls = true) (hnl : (zmY M).name ≠ "draw") (henv : envM = env.map Prod.fst) (hE : ∀ (j : Nat) (q : zm_M × zm_S), env[j]? = some q → MetA sc l q.1 q.2)
    (hch : zall own M envM rows = true) (hwd : ∀ w ∈ zwds own M envM rows, w ∈ gT) (hwx : ∀ w ∈ zwxs own M envM rows, zspc w = true ∧ w ∈ lw_tbl) (h00 : (rows[0]?).map (fun r => (rP r, rN r)) = some (0, 0, 0)) : MetA sc l M (zsem env rows (zmL M)) := zmet2 hlt hown9 hy (fun q => absurd q hnl) henv hE hch hwd hwx h00
-- words by their places
theorem z7_no {own : String} {M : zm_M} {envM : List zm_M} {rows : List zm_R} (h : rows.all (fun r => rG r != 7) = true) : ∀ r ∈ rows, rG r = 7 → ∀ w ∈ zwd own M envM r, w ∈ gT := fun r hr hg => by
  have := List.all_eq_true.mp h r hr
  rw [hg] at this
  cases this
theorem z7_of {own : String} {M : zm_M} {envM : List zm_M} {rows L : List zm_R} (hL : rows.filter (fun r => rG r == 7) = L) (h : ∀ r ∈ L, ∀ w ∈ zwd own M envM r, w ∈ gT) : ∀ r ∈ rows, rG r = 7 → ∀ w ∈ zwd own M envM r, w ∈ gT := fun r hr hg => h r (by rw [← hL]; exact List.mem_filter.mpr ⟨hr, by rw [hg]; rfl⟩)
theorem zwd_of {own : String} {M : zm_M} {envM : List zm_M} {rows : List zm_R} (ps : List Nat) (hp : (rows.filter (fun r => rG r != 7)).flatMap (zwd own M envM) = ps.filterMap (fun i => zw_tbl[i]?)) (hg : ((rows.filter (fun r => rG r != 7)).flatMap (zwd own M envM)).all goodWord = true) (h7 : ∀ r ∈ rows, rG r = 7 → ∀ w ∈ zwd own M envM r, w ∈ gT) : ∀ w ∈ zwds own M envM rows, w ∈ gT := by
  intro w hw
  obtain ⟨r, hr, hw⟩ := List.mem_flatMap.mp hw
  by_cases h9 : rG r = 7
  · exact h7 r hr h9 w hw
  · have h1 : w ∈ (rows.filter (fun r => rG r != 7)).flatMap (zwd own M envM) := List.mem_flatMap.mpr ⟨r, List.mem_filter.mpr ⟨hr, by simpa using h9⟩, hw⟩
    have h2 := List.all_eq_true.mp hg w h1
    rw [hp] at h1
    obtain ⟨i, -, hi⟩ := List.mem_filterMap.mp h1
    exact gT_in (List.mem_of_getElem? hi) h2
theorem zw7 {own : String} {M : zm_M} {envM : List zm_M} {r : zm_R} {x ik ic : Nat} (hr : zwd own M envM r = .classLink own ik (zex x) :: .initialized (zex x) :: (zat own ic x).filter goodWord) (h1 : Cond.classLink own ik (zex x) ∈ gT) (h2 : Cond.initialized (zex x) ∈ gT) (h3 : ∀ w ∈ (zat own ic x).filter goodWord, w ∈ gT) : ∀ w ∈ zwd own M envM r, w ∈ gT := by
  intro w hw
  rw [hr] at hw
  rcases List.mem_cons.mp hw with rfl | hw
  · exact h1
  · rcases List.mem_cons.mp hw with rfl | hw
    · exact h2
    · exact h3 w hw
end ZME
end
section
/-! RUNS THAT GO BACK: a loop whose rounds make cells is cut; at the cut the run goes on at the loop's head, and its counters grow by one round. -/
section ZJ1
/-- a run: n steps from stop to stop, k ways back -/
def zrunJ (env : List (zm_M × zm_S)) (scr : Nat × (Nat → Int32)) (rows : List zm_R) (J : Nat → Option Nat) : Nat → Nat → zm_T → Option zm_O
  | 0, _, _ => none
  | n + 1, k, t => match zE env scr rows t with
    | some (.inl t2) => (match J t2.1 with
      | none => zrunJ env scr rows J n k t2
      | some hd => (match k with | 0 => none | k + 1 => zrunJ env scr rows J n k (hd, t2.2)))
    | some (.inr o) => some o
    | none => none
def zRJ (env : List (zm_M × zm_S)) (scr : Nat × (Nat → Int32)) (rows : List zm_R) (J : Nat → Option Nat) (k : Nat) (t : zm_T) (o : zm_O) : Prop := ∃ n, zrunJ env scr rows J n k t = some o
variable {env : List (zm_M × zm_S)} {scr : Nat × (Nat → Int32)} {rows : List zm_R} {J : Nat → Option Nat}
theorem zRJ.head {k : Nat} {t t2 : zm_T} {o : zm_O} (h : zE env scr rows t = some (.inl t2)) (hj : J t2.1 = none) (q : zRJ env scr rows J k t2 o) : zRJ env scr rows J k t o := by
  obtain ⟨n, hn⟩ := q
  exact ⟨n + 1, by simp only [zrunJ, h, hj]; exact hn⟩
theorem zRJ.back {k hd : Nat} {t t2 : zm_T} {o : zm_O} (h : zE env scr rows t = some (.inl t2)) (hj : J t2.1 = some hd) (q : zRJ env scr rows J k (hd, t2.2) o) : zRJ env scr rows J (k + 1) t o := by
  obtain ⟨n, hn⟩ := q
  exact ⟨n + 1, by simp only [zrunJ, h, hj]; exact hn⟩
theorem zRJ.done {k : Nat} {t : zm_T} {o : zm_O} (h : zE env scr rows t = some (.inr o)) : zRJ env scr rows J k t o := ⟨1, by simp only [zrunJ, h]⟩
theorem zrunJ_mono {o : zm_O} : ∀ {n k : Nat} {t : zm_T}, zrunJ env scr rows J n k t = some o → zrunJ env scr rows J (n + 1) k t = some o := by
  intro n
  induction n with
  | zero => intro k t h; cases h
  | succ n ih =>
    intro k t h
    rw [zrunJ] at h
    rw [zrunJ]
    cases e : zE env scr rows t with
    | none => rw [e] at h; cases h
    | some x =>
      rw [e] at h
      cases x with
      | inr o2 => exact h
      | inl t2 =>
        simp only [] at h ⊢
        cases e2 : J t2.1 with
        | none => rw [e2] at h; simp only [] at h ⊢; exact ih h
        | some hd =>
          rw [e2] at h
          simp only [] at h ⊢
          cases k with
          | zero => cases h
          | succ k => exact ih h
theorem zrunJ_le {o : zm_O} {n m k : Nat} {t : zm_T} (h : zrunJ env scr rows J n k t = some o) (hk : n ≤ m) : zrunJ env scr rows J m k t = some o := by
  induction hk with
  | refl => exact h
  | step _ ih => exact zrunJ_mono ih
theorem zRJ.one {k : Nat} {t : zm_T} {o o2 : zm_O} (h : zRJ env scr rows J k t o) (h2 : zRJ env scr rows J k t o2) : o = o2 := by
  obtain ⟨n, hn⟩ := h
  obtain ⟨m, hm⟩ := h2
  exact Option.some.inj ((zrunJ_le hn (Nat.le_max_left n m)).symm.trans (zrunJ_le hm (Nat.le_max_right n m)))
/-- what such a method answers; where it would throw, nothing is said -/
noncomputable def zsemJ (env : List (zm_M × zm_S)) (rows : List zm_R) (J : Nat → Option Nat) (K nL : Nat) : zm_S := fun av h =>
  @dite (Option zm_O) ((zarg av).length ≤ nL ∧ ∃ o : zm_O, (∃ v h2, o = (.inl v, h2)) ∧ zRJ env (0, fun _ => 0) rows J K (0, zlok nL av, [], h) o) (Classical.propDecidable _) (fun q => some q.2.choose) (fun _ => none)
theorem zsemJ_of {K nL : Nat} {av : List Value} {h : zm_H} {v : Option Value} {h2 : zm_H} (hn : (zarg av).length ≤ nL) (q : zRJ env (0, fun _ => 0) rows J K (0, zlok nL av, [], h) (.inl v, h2)) : zsemJ env rows J K nL av h = some (.inl v, h2) := by
  have e : ∃ o : zm_O, (∃ v h2, o = (.inl v, h2)) ∧ zRJ env (0, fun _ => 0) rows J K (0, zlok nL av, [], h) o := ⟨_, ⟨_, _, rfl⟩, q⟩
  unfold zsemJ
  rw [dif_pos ⟨hn, e⟩]
  exact congrArg some (zRJ.one e.choose_spec.2 q)
theorem zsemJ_rn {K nL : Nat} {av : List Value} {h : zm_H} {o : zm_O} (q : zsemJ env rows J K nL av h = some o) : (∃ v h2, o = (.inl v, h2)) ∧ (zarg av).length ≤ nL ∧ zRJ env (0, fun _ => 0) rows J K (0, zlok nL av, [], h) o := by
  unfold zsemJ at q
  split at q
  · rename_i hq
    rw [← Option.some.inj q]
    exact ⟨hq.2.choose_spec.1, hq.1, hq.2.choose_spec.2⟩
  · cases q
/-- a method with more room -/
def zmUp (M : zm_M) (c s : Nat) : zm_M := (M.1, M.2.1, M.2.2.1, M.2.2.2.1, (M.2.2.2.2.1.1, c, s, M.2.2.2.2.1.2.2.2), M.2.2.2.2.2.1, M.2.2.2.2.2.2.1, (c, s))
end ZJ1
section ZJ2
variable {sc : Nat × (Nat → Int32)}
variable {p : Program} {l : Launch} {e : Env} {R : Room} {s : State} {m : MethodId} {args : Array Value} {below : List Frame} {meth : Method} {c : Code} {Q : State → Prop}
variable {own : String} {M : zm_M} {envM : List zm_M} {D : va_G} {tc : Nat → ClassId} {A : Nat → Prop} {rows : List zm_R}
set_option maxHeartbeats 4000000 in
theorem zJ_main {env : List (zm_M × zm_S)} {scr : Nat × (Nat → Int32)} {n0 : Nat} {ad0 : Nat → Nat} {v : Option Value} {h' : zm_H} {J : Nat → Option Nat} {K dc ds : Nat} (C : zCx p l R s m args meth c own M D tc A) (hcR : K * dc + zmC M ≤ R.cells) (hsR : K * ds + zmS M ≤ R.slots)
    (henv : envM = env.map Prod.fst) (hE : ∀ (j : Nat) (q : zm_M × zm_S), env[j]? = some q → MetA sc l q.1 q.2) (hch : ∀ (i : Nat) (r : zm_R), rows[i]? = some r → zchk own M envM rows i r = true)
    (hwd : ∀ (i : Nat) (r : zm_R), rows[i]? = some r → ∀ w ∈ zwd own M envM r, w ∈ gT) (hwx : ∀ (i : Nat) (r : zm_R), rows[i]? = some r → ∀ w ∈ zwx own M envM r, zspc w = true ∧ w ∈ lw_tbl)
    (hnl : (zmY M).name ≠ "draw") (hRO : zRO sc A ad0 s s.heap) (htab : c.exceptionTable.toList = tableOf (zmH M))
    (hJ : ∀ (i hd : Nat) (r : zm_R), rows[i]? = some r → J i = some hd → ∃ rh, rows[hd]? = some rh ∧ rP rh = rP r ∧ (rN rh).1 + dc = (rN r).1 ∧ (rN rh).2 + ds = (rN r).2)
    (kret : ∀ (i : Nat) (r : zm_R) (la : zm_L) (st : List Value) (h : zm_H) (ad : Nat → Nat) (H : Heap) (locs : List Loc) (ls : Array Slot) (c0 s0 : Nat), rows[i]? = some r → zdec (zmB M) r = true → rG r = 5 → zg5 r st h = some (.inl v, h') → c0 ≤ K * dc → s0 ≤ K * ds → zext n0 ad0 ad → n0 ≤ zN h → zR D tc ad A s h H locs → zLh ad (zmL M) la ls → zokS (zN h) st → zokL (zN h) la → W p l e R s m args below meth c H locs (c0 + (rN r).1) (s0 + (rN r).2) Q (F0 m (rP r) ls (st.map (cv ad)))) :
    ∀ (n k i : Nat) (r : zm_R) (la : zm_L) (st : List Value) (h : zm_H) (ad : Nat → Nat) (H : Heap) (locs : List Loc) (ls : Array Slot), k ≤ K → rows[i]? = some r → zrunJ env scr rows J n k (i, la, st, h) = some (.inl v, h') → zext n0 ad0 ad → n0 ≤ zN h → zR D tc ad A s h H locs → zLh ad (zmL M) la ls → zokS (zN h) st → zokL (zN h) la → W p l e R s m args below meth c H locs ((K - k) * dc + (rN r).1) ((K - k) * ds + (rN r).2) Q (F0 m (rP r) ls (st.map (cv ad))) := by
  have hle : ∀ k d : Nat, (K - k) * d ≤ K * d := fun k d => Nat.mul_le_mul_right d (Nat.sub_le K k)
  intro n
  induction n with
  | zero => intro k i r la st h ad H locs ls hk hr hrun; cases hrun
  | succ n ih =>
    intro k i r la st h ad H locs ls hk hr hrun he hz hR hl hS hL
    unfold zrunJ at hrun
    cases hx : zE env scr rows (i, la, st, h) with
    | none => rw [hx] at hrun; cases hrun
    | some x =>
      rw [hx] at hrun
      have g1 := hle k dc
      have g2 := hle k ds
      refine zsim_ev (c0 := (K - k) * dc) (s0 := (K - k) * ds) (n0 := n0) (ad0 := ad0) (x := x) (scr := scr) C (by omega) (by omega) henv hE hch hwd hwx (fun q => absurd q hnl) hRO htab ?_ ?_ ?_ ?_ ?_ 4000 i r la st h ad H locs ls hr hx he hz hR hl hS hL
      · intro i2 r2 la2 st2 h2 ad2 H2 locs2 ls2 o2 hr2 hdc hg ho2 hx2 he2 hz2 hR2 hl2 hS2 hL2
        subst hx2
        cases hrun
        exact kret i2 r2 la2 st2 h2 ad2 H2 locs2 ls2 _ _ hr2 hdc hg ho2 g1 g2 he2 hz2 hR2 hl2 hS2 hL2
      · intro i2 r2 la2 st2 h2 ad2 H2 locs2 ls2 y os hr2 hdc hg e2 hst hx2
        subst hx2
        cases hrun
      · intro E h2 ad2 H2 locs2 ce q rest pc ls2 hx2
        subst hx2
        cases hrun
      · intro E h2 hx2
        subst hx2
        cases hrun
      · intro i2 r2 la2 st2 h2 ad2 H2 locs2 ls2 hr2 hx2 he2 hz2 hR2 hl2 hS2 hL2
        subst hx2
        simp only [] at hrun
        cases hj : J i2 with
        | none =>
          rw [hj] at hrun
          exact ih k i2 r2 la2 st2 h2 ad2 H2 locs2 ls2 hk hr2 hrun he2 hz2 hR2 hl2 hS2 hL2
        | some hd =>
          rw [hj] at hrun
          cases k with
          | zero => cases hrun
          | succ k =>
            obtain ⟨rh, e1, e2, e3, e4⟩ := hJ i2 hd r2 hr2 hj
            have K0 := ih k hd rh la2 st2 h2 ad2 H2 locs2 ls2 (by omega) e1 hrun he2 hz2 hR2 hl2 hS2 hL2
            have q1 : K - k = (K - (k + 1)) + 1 := by omega
            rw [e2, q1, Nat.add_mul, Nat.one_mul, Nat.add_mul, Nat.one_mul] at K0
            have q2 : (K - (k + 1)) * dc + dc + (rN rh).1 = (K - (k + 1)) * dc + (rN r2).1 := by omega
            have q3 : (K - (k + 1)) * ds + ds + (rN rh).2 = (K - (k + 1)) * ds + (rN r2).2 := by omega
            rw [q2, q3] at K0
            exact K0
end ZJ2
section ZJ3
variable {sc : Nat × (Nat → Int32)}
set_option maxHeartbeats 4000000 in
theorem zmetJ {l : Launch} (hlt : l.stackTraces = false) {M : zm_M} {env : List (zm_M × zm_S)} {envM : List zm_M} {rows : List zm_R} {own : String} {J : Nat → Option Nat} {K dc ds : Nat} (hown9 : own = (zmY M).cls) (hy : plainName (zmY M).cls = true) (hnl : (zmY M).name ≠ "draw") (hem : (zmH M).isEmpty = true) (henv : envM = env.map Prod.fst) (hE : ∀ (j : Nat) (q : zm_M × zm_S), env[j]? = some q → MetA sc l q.1 q.2)
    (hchA : ∀ (i : Nat) (r : zm_R), rows[i]? = some r → zchk own M envM rows i r = true) (hwdA : ∀ (i : Nat) (r : zm_R), rows[i]? = some r → ∀ w ∈ zwd own M envM r, w ∈ gT) (hwxA : ∀ (i : Nat) (r : zm_R), rows[i]? = some r → ∀ w ∈ zwx own M envM r, zspc w = true ∧ w ∈ lw_tbl) (h00 : (rows[0]?).map (fun r => (rP r, rN r)) = some (0, 0, 0))
    (hJ : ∀ (i hd : Nat) (r : zm_R), rows[i]? = some r → J i = some hd → ∃ rh, rows[hd]? = some rh ∧ rP rh = rP r ∧ (rN rh).1 + dc = (rN r).1 ∧ (rN rh).2 + ds = (rN r).2) : MetA sc l (zmUp M (K * dc + zmC M) (K * ds + zmS M)) (zsemJ env rows J K (zmL M)) := by
  intro D tc ad h sz av hoH hoS
  refine ⟨fun v h2 ho => ?_, fun x h2 ho => ?_⟩
  rotate_left
  · obtain ⟨⟨v9, h9, e9⟩, -⟩ := zsemJ_rn ho
    cases e9
  obtain ⟨-, hna, nr, hrun⟩ := zsemJ_rn ho
  have hW : zmWs (zmUp M (K * dc + zmC M) (K * ds + zmS M)) = Cond.code (zmY M) (zmB M) (zmL M) (zmR M) :: gT := by
    show zmW (zmUp M (K * dc + zmC M) (K * ds + zmS M)) :: gT = _
    rw [zmW_plain (M := zmUp M (K * dc + zmC M) (K * ds + zmS M)) hem]
    rfl
  refine vx_ofW (cc := zmB M) (maxL := zmL M) (ret := zmR M) (ws' := gT) hy hW (fun p e s m args below meth c s₁ B hml hno hpc => ?_)
  have htab : c.exceptionTable.toList = tableOf (zmH M) := by
    rw [List.isEmpty_iff.mp hem]
    show c.exceptionTable.toList = []
    exact List.eq_nil_iff_forall_not_mem.mpr (fun z hz => hno z hz)
  obtain ⟨rfl, hsz, hP, hK, hD0, hRO⟩ := hpc
  have htsW := atoms_spec (ws := _) B.pre
  rw [hW] at htsW
  have hts : ∀ w ∈ gT, w.before (av.map (cv ad)).toArray s = true := fun w hw => htsW w (List.mem_cons_of_mem _ hw)
  subst hsz
  obtain ⟨A, hAe⟩ : ∃ A, A = va_A (zws tc ad h) s.heap.size := ⟨_, rfl⟩
  rw [← hAe] at hRO ⊢
  have hA : ∀ q : Nat, s.heap.size ≤ q → A q := fun q hq => by rw [hAe]; exact Or.inr hq
  have hD : va_D A (zws tc ad h) := ⟨hD0.1, fun k q hq => by rw [hAe]; exact Or.inl ⟨k, q.2, hq⟩⟩
  have hR0 : zR D tc ad A s h s.heap [] := ⟨hP, hD, va_S.rf, hoH⟩
  have C : zCx p l (zmRoom (zmUp M (K * dc + zmC M) (K * ds + zmS M))) s m (av.map (cv ad)).toArray meth c own M D tc A := ⟨B.exec, B.bytes, hml, by rw [hown9]; exact findClass_of_methodNamed B.named, hts, hK, hA, Nat.le_refl _, Nat.le_refl _, B.notSynchronized, hlt, (name_of_methodNamed B.named B.method).1, B.returns⟩
  have hfin : ∀ (ad1 : Nat → Nat) (h1 : zm_H) (H : Heap) (locs : List Loc), zext (zN h) ad ad1 → zN h ≤ zN h1 → zR D tc ad1 A s h1 H locs → ∀ t : State, t.heap = H → s.vm.Alike t.vm → zPst D tc ad h s.heap.size ad1 h1 t ∧ va_F A s t := by
    intro ad1 h1 H locs he hz hR t ht hW
    exact ⟨⟨he, by rw [ht]; exact hR.1, va_K.moved hW hK, by rw [← hAe]; exact hR.2.1, hR.2.2.2, hz⟩, hR.2.2.1.F ht⟩
  have hlE := lv_entry (av.map (cv ad)) (n := zmL M) (by rw [zarg_len]; exact hna)
  rw [lg_entry_eq]
  generalize (lg_sl (av.map (cv ad)) ++ List.replicate (zmL M - (lg_sl (av.map (cv ad))).length) Slot.unset).toArray = ls at hlE ⊢
  have hl0 : zLh ad (zmL M) (zlok (zmL M) av) ls := ⟨hlE.1, hlE.2.1, zlok_len hna, fun i v hv => by
    have h1 := hlE.2.2 _ (zarg_in (ad := ad) av 0 i v (zlok_at hv))
    rw [Nat.zero_add] at h1
    exact h1⟩
  cases hr0 : rows[0]? with
  | none => rw [hr0] at h00; cases h00
  | some r0 =>
    rw [hr0] at h00
    have h01 := Option.some.inj h00
    have e1 : rP r0 = 0 := congrArg Prod.fst h01
    have e2 : rN r0 = (0, 0) := congrArg Prod.snd h01
    have K0 := zJ_main (e := e) (below := below) (Q := vx_MQ below (fun _ st oc t => (∃ (ad2 : Nat → Nat), oc = .returned (v.map (cv ad2)) ∧ zPst D tc ad h s.heap.size ad2 h2 t ∧ ∀ w, v = some w → zokV (zN h2) w) ∧ va_F A st t) (fun _ _ _ => False) (av.map (cv ad)).toArray s (K * dc + zmC M) (K * ds + zmS M) A) (scr := (0, fun _ => 0)) (n0 := zN h) (ad0 := ad) (K := K) C (Nat.le_refl _) (Nat.le_refl _) henv hE hchA hwdA hwxA hnl hRO htab hJ (fun i r la st h1 ad1 H locs ls c0 s0 hr hdc hg ho2 g1 g2 he hz hR hl hS hL => by
      have hvh : h1 = h2 := by
        unfold zg5 at ho2
        split at ho2 <;> (try split at ho2) <;> first | (cases ho2; rfl) | (cases ho2) | (obtain ⟨-, ho2⟩ := zgd_some ho2; cases ho2; rfl)
      subst hvh
      have hc := hchA i r hr
      have hcc : (rN r).1 ≤ zmC M ∧ (rN r).2 ≤ zmS M := by
        unfold zchk at hc
        rw [hg] at hc
        simp only [hdc, Bool.true_and, Bool.and_eq_true, decide_eq_true_eq] at hc
        exact hc.1
      refine zs5G C hdc hR hl hS hL ho2 hc hg (by omega) (by omega) (fun v2 hv2 hok t ht hW => ?_) hR.2.2.1.2.2
      cases hv2
      obtain ⟨f1, f2⟩ := hfin ad1 h1 H locs he hz hR t ht hW.alike
      exact ⟨⟨ad1, rfl, f1, hok⟩, f2⟩) nr K 0 r0 (zlok (zmL M) av) [] h ad s.heap [] ls (Nat.le_refl _) hr0 hrun zext.rf (Nat.le_refl _) hR0 hl0 zokS_nil (zlok_ok hoS)
    rw [e1, e2, Nat.sub_self, Nat.zero_mul, Nat.zero_mul] at K0
    exact K0
end ZJ3
end
