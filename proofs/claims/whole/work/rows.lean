section
-- ===== PART A: goes FIRST, ahead of the names: the tables' words, and 'selects' of the private methods out of them =====
/-- a private method of a class that the tables say can be made, by its rows of tables_1 -/
def lw_okq (q : MethodName × Nat) : Prop := (q.1.cls ≠ "java/lang/invoke/MethodHandle" ∧ q.1.cls ≠ "java/lang/invoke/VarHandle") ∧ Cond.instantiable q.1.cls q.2 ∈ tables_1 ∧ Cond.privateMethod q.1 ∈ tables_1 ∧ Cond.instanceMethod q.1 ∈ tables_1
theorem lw_p0 : lw_okq (⟨"StemShapes$Shadows", "countOf", "(I)I"⟩, 7) := ⟨⟨by decide +kernel, by decide +kernel⟩, List.mem_of_getElem? (i := 33) (by decide +kernel), List.mem_of_getElem? (i := 174) (by decide +kernel), List.mem_of_getElem? (i := 175) (by decide +kernel)⟩
theorem lw_p1 : lw_okq (⟨"StemShapes$Shadows", "place", "(II)I"⟩, 7) := ⟨⟨by decide +kernel, by decide +kernel⟩, List.mem_of_getElem? (i := 33) (by decide +kernel), List.mem_of_getElem? (i := 178) (by decide +kernel), List.mem_of_getElem? (i := 179) (by decide +kernel)⟩
theorem lw_p2 : lw_okq (⟨"StemShapes$Shadows", "fitCentre", "(LStemShapes$Stem;I)Z"⟩, 7) := ⟨⟨by decide +kernel, by decide +kernel⟩, List.mem_of_getElem? (i := 33) (by decide +kernel), List.mem_of_getElem? (i := 182) (by decide +kernel), List.mem_of_getElem? (i := 183) (by decide +kernel)⟩
theorem lw_p3 : lw_okq (⟨"StemShapes$Shadows", "sumOfRadii", "(I)D"⟩, 7) := ⟨⟨by decide +kernel, by decide +kernel⟩, List.mem_of_getElem? (i := 33) (by decide +kernel), List.mem_of_getElem? (i := 187) (by decide +kernel), List.mem_of_getElem? (i := 188) (by decide +kernel)⟩
theorem lw_p4 : lw_okq (⟨"StemShapes$Shadows", "sumOfErrors", "(IDD)D"⟩, 7) := ⟨⟨by decide +kernel, by decide +kernel⟩, List.mem_of_getElem? (i := 33) (by decide +kernel), List.mem_of_getElem? (i := 191) (by decide +kernel), List.mem_of_getElem? (i := 192) (by decide +kernel)⟩
theorem lw_p5 : lw_okq (⟨"StemShapes$Stem", "fittedBefore", "(I)I"⟩, 7) := ⟨⟨by decide +kernel, by decide +kernel⟩, List.mem_of_getElem? (i := 67) (by decide +kernel), List.mem_of_getElem? (i := 199) (by decide +kernel), List.mem_of_getElem? (i := 200) (by decide +kernel)⟩
theorem lw_p6 : lw_okq (⟨"StemShapes$Stem", "fittedBehind", "(I)I"⟩, 7) := ⟨⟨by decide +kernel, by decide +kernel⟩, List.mem_of_getElem? (i := 67) (by decide +kernel), List.mem_of_getElem? (i := 203) (by decide +kernel), List.mem_of_getElem? (i := 204) (by decide +kernel)⟩
theorem lw_p7 : lw_okq (⟨"StemShapes$Stem", "mendOne", "(III)V"⟩, 7) := ⟨⟨by decide +kernel, by decide +kernel⟩, List.mem_of_getElem? (i := 67) (by decide +kernel), List.mem_of_getElem? (i := 207) (by decide +kernel), List.mem_of_getElem? (i := 208) (by decide +kernel)⟩
theorem lw_p8 : lw_okq (⟨"StemShapes", "needView", "(I)V"⟩, 7) := ⟨⟨by decide +kernel, by decide +kernel⟩, List.mem_of_getElem? (i := 16) (by decide +kernel), List.mem_of_getElem? (i := 226) (by decide +kernel), List.mem_of_getElem? (i := 227) (by decide +kernel)⟩
theorem lw_p9 : lw_okq (⟨"java/lang/Throwable", "fillInStackTrace", "(I)Ljava/lang/Throwable;"⟩, 6) := ⟨⟨by decide +kernel, by decide +kernel⟩, List.mem_of_getElem? (i := 270) (by decide +kernel), List.mem_of_getElem? (i := 268) (by decide +kernel), List.mem_of_getElem? (i := 269) (by decide +kernel)⟩
theorem lw_p10 : lw_okq (⟨"StemShapes", "needSlice", "(I)V"⟩, 7) := ⟨⟨by decide +kernel, by decide +kernel⟩, List.mem_of_getElem? (i := 16) (by decide +kernel), List.mem_of_getElem? (i := 334) (by decide +kernel), List.mem_of_getElem? (i := 335) (by decide +kernel)⟩
theorem lw_p11 : lw_okq (⟨"StemShapes", "needShape", "()V"⟩, 7) := ⟨⟨by decide +kernel, by decide +kernel⟩, List.mem_of_getElem? (i := 16) (by decide +kernel), List.mem_of_getElem? (i := 366) (by decide +kernel), List.mem_of_getElem? (i := 367) (by decide +kernel)⟩
theorem lw_p12 : lw_okq (⟨"StemShapes$Stem", "straight", "([DI)D"⟩, 7) := ⟨⟨by decide +kernel, by decide +kernel⟩, List.mem_of_getElem? (i := 67) (by decide +kernel), List.mem_of_getElem? (i := 456) (by decide +kernel), List.mem_of_getElem? (i := 457) (by decide +kernel)⟩
theorem lw_p13 : lw_okq (⟨"StemShapes", "needKept", "()V"⟩, 7) := ⟨⟨by decide +kernel, by decide +kernel⟩, List.mem_of_getElem? (i := 16) (by decide +kernel), List.mem_of_getElem? (i := 518) (by decide +kernel), List.mem_of_getElem? (i := 519) (by decide +kernel)⟩
theorem lw_p14 : lw_okq (⟨"StemShapes$Kept", "turnedX", "(II)D"⟩, 3) := ⟨⟨by decide +kernel, by decide +kernel⟩, List.mem_of_getElem? (i := 107) (by decide +kernel), List.mem_of_getElem? (i := 527) (by decide +kernel), List.mem_of_getElem? (i := 528) (by decide +kernel)⟩
theorem lw_p15 : lw_okq (⟨"StemShapes$Kept", "turnedY", "(II)D"⟩, 3) := ⟨⟨by decide +kernel, by decide +kernel⟩, List.mem_of_getElem? (i := 107) (by decide +kernel), List.mem_of_getElem? (i := 531) (by decide +kernel), List.mem_of_getElem? (i := 532) (by decide +kernel)⟩
def lw_privs_1 : List (MethodName × Nat) := [(⟨"StemShapes$Shadows", "countOf", "(I)I"⟩, 7), (⟨"StemShapes$Shadows", "place", "(II)I"⟩, 7), (⟨"StemShapes$Shadows", "fitCentre", "(LStemShapes$Stem;I)Z"⟩, 7), (⟨"StemShapes$Shadows", "sumOfRadii", "(I)D"⟩, 7), (⟨"StemShapes$Shadows", "sumOfErrors", "(IDD)D"⟩, 7), (⟨"StemShapes$Stem", "fittedBefore", "(I)I"⟩, 7), (⟨"StemShapes$Stem", "fittedBehind", "(I)I"⟩, 7), (⟨"StemShapes$Stem", "mendOne", "(III)V"⟩, 7), (⟨"StemShapes", "needView", "(I)V"⟩, 7), (⟨"java/lang/Throwable", "fillInStackTrace", "(I)Ljava/lang/Throwable;"⟩, 6), (⟨"StemShapes", "needSlice", "(I)V"⟩, 7), (⟨"StemShapes", "needShape", "()V"⟩, 7), (⟨"StemShapes$Stem", "straight", "([DI)D"⟩, 7), (⟨"StemShapes", "needKept", "()V"⟩, 7), (⟨"StemShapes$Kept", "turnedX", "(II)D"⟩, 3), (⟨"StemShapes$Kept", "turnedY", "(II)D"⟩, 3)]
theorem lw_r1 : ∀ q ∈ lw_privs_1, lw_okq q := List.forall_mem_cons.mpr ⟨lw_p0, List.forall_mem_cons.mpr ⟨lw_p1, List.forall_mem_cons.mpr ⟨lw_p2, List.forall_mem_cons.mpr ⟨lw_p3, List.forall_mem_cons.mpr ⟨lw_p4, List.forall_mem_cons.mpr ⟨lw_p5, List.forall_mem_cons.mpr ⟨lw_p6, List.forall_mem_cons.mpr ⟨lw_p7, List.forall_mem_cons.mpr ⟨lw_p8, List.forall_mem_cons.mpr ⟨lw_p9, List.forall_mem_cons.mpr ⟨lw_p10, List.forall_mem_cons.mpr ⟨lw_p11, List.forall_mem_cons.mpr ⟨lw_p12, List.forall_mem_cons.mpr ⟨lw_p13, List.forall_mem_cons.mpr ⟨lw_p14, List.forall_mem_cons.mpr ⟨lw_p15, fun _ h => absurd h List.not_mem_nil⟩⟩⟩⟩⟩⟩⟩⟩⟩⟩⟩⟩⟩⟩⟩⟩
theorem lw_p16 : lw_okq (⟨"StemShapesModel", "noView", "(I)Z"⟩, 19) := ⟨⟨by decide +kernel, by decide +kernel⟩, List.mem_of_getElem? (i := 559) (by decide +kernel), List.mem_of_getElem? (i := 631) (by decide +kernel), List.mem_of_getElem? (i := 632) (by decide +kernel)⟩
theorem lw_p17 : lw_okq (⟨"StemShapesModel", "noSlice", "(I)Z"⟩, 19) := ⟨⟨by decide +kernel, by decide +kernel⟩, List.mem_of_getElem? (i := 559) (by decide +kernel), List.mem_of_getElem? (i := 644) (by decide +kernel), List.mem_of_getElem? (i := 645) (by decide +kernel)⟩
theorem lw_p18 : lw_okq (⟨"StemShapesModel", "fit", "(I)Z"⟩, 19) := ⟨⟨by decide +kernel, by decide +kernel⟩, List.mem_of_getElem? (i := 559) (by decide +kernel), List.mem_of_getElem? (i := 658) (by decide +kernel), List.mem_of_getElem? (i := 659) (by decide +kernel)⟩
theorem lw_p19 : lw_okq (⟨"StemShapesModel", "middle", "(I)D"⟩, 19) := ⟨⟨by decide +kernel, by decide +kernel⟩, List.mem_of_getElem? (i := 559) (by decide +kernel), List.mem_of_getElem? (i := 662) (by decide +kernel), List.mem_of_getElem? (i := 663) (by decide +kernel)⟩
theorem lw_p20 : lw_okq (⟨"StemShapesModel", "set", "(IDDDD)V"⟩, 19) := ⟨⟨by decide +kernel, by decide +kernel⟩, List.mem_of_getElem? (i := 559) (by decide +kernel), List.mem_of_getElem? (i := 671) (by decide +kernel), List.mem_of_getElem? (i := 672) (by decide +kernel)⟩
theorem lw_p21 : lw_okq (⟨"StemShapesModel", "mend", "(I)V"⟩, 19) := ⟨⟨by decide +kernel, by decide +kernel⟩, List.mem_of_getElem? (i := 559) (by decide +kernel), List.mem_of_getElem? (i := 675) (by decide +kernel), List.mem_of_getElem? (i := 676) (by decide +kernel)⟩
theorem lw_p22 : lw_okq (⟨"StemShapesModel", "mixed", "(IIII)D"⟩, 19) := ⟨⟨by decide +kernel, by decide +kernel⟩, List.mem_of_getElem? (i := 559) (by decide +kernel), List.mem_of_getElem? (i := 679) (by decide +kernel), List.mem_of_getElem? (i := 680) (by decide +kernel)⟩
theorem lw_p23 : lw_okq (⟨"StemShapesModel", "hasShape", "()Z"⟩, 19) := ⟨⟨by decide +kernel, by decide +kernel⟩, List.mem_of_getElem? (i := 559) (by decide +kernel), List.mem_of_getElem? (i := 687) (by decide +kernel), List.mem_of_getElem? (i := 688) (by decide +kernel)⟩
theorem lw_p24 : lw_okq (⟨"StemShapesModel", "area", "(I)D"⟩, 19) := ⟨⟨by decide +kernel, by decide +kernel⟩, List.mem_of_getElem? (i := 559) (by decide +kernel), List.mem_of_getElem? (i := 691) (by decide +kernel), List.mem_of_getElem? (i := 692) (by decide +kernel)⟩
theorem lw_p25 : lw_okq (⟨"StemShapesModel", "isInside", "(IDD)Z"⟩, 19) := ⟨⟨by decide +kernel, by decide +kernel⟩, List.mem_of_getElem? (i := 559) (by decide +kernel), List.mem_of_getElem? (i := 704) (by decide +kernel), List.mem_of_getElem? (i := 705) (by decide +kernel)⟩
theorem lw_p26 : lw_okq (⟨"StemShapesModel", "volumeNow", "()D"⟩, 19) := ⟨⟨by decide +kernel, by decide +kernel⟩, List.mem_of_getElem? (i := 559) (by decide +kernel), List.mem_of_getElem? (i := 716) (by decide +kernel), List.mem_of_getElem? (i := 717) (by decide +kernel)⟩
theorem lw_p27 : lw_okq (⟨"StemShapesModel", "taperNow", "()D"⟩, 19) := ⟨⟨by decide +kernel, by decide +kernel⟩, List.mem_of_getElem? (i := 559) (by decide +kernel), List.mem_of_getElem? (i := 724) (by decide +kernel), List.mem_of_getElem? (i := 725) (by decide +kernel)⟩
theorem lw_p28 : lw_okq (⟨"StemShapesModel", "sweepNow", "()D"⟩, 19) := ⟨⟨by decide +kernel, by decide +kernel⟩, List.mem_of_getElem? (i := 559) (by decide +kernel), List.mem_of_getElem? (i := 732) (by decide +kernel), List.mem_of_getElem? (i := 733) (by decide +kernel)⟩
theorem lw_p29 : lw_okq (⟨"StemShapesModel", "off", "(II)D"⟩, 19) := ⟨⟨by decide +kernel, by decide +kernel⟩, List.mem_of_getElem? (i := 559) (by decide +kernel), List.mem_of_getElem? (i := 736) (by decide +kernel), List.mem_of_getElem? (i := 737) (by decide +kernel)⟩
theorem lw_p30 : lw_okq (⟨"StemShapesModel", "holds", "(I)Z"⟩, 19) := ⟨⟨by decide +kernel, by decide +kernel⟩, List.mem_of_getElem? (i := 559) (by decide +kernel), List.mem_of_getElem? (i := 748) (by decide +kernel), List.mem_of_getElem? (i := 749) (by decide +kernel)⟩
theorem lw_p31 : lw_okq (⟨"StemShapesModel", "apartBy", "(I)D"⟩, 19) := ⟨⟨by decide +kernel, by decide +kernel⟩, List.mem_of_getElem? (i := 559) (by decide +kernel), List.mem_of_getElem? (i := 760) (by decide +kernel), List.mem_of_getElem? (i := 761) (by decide +kernel)⟩
def lw_privs_2 : List (MethodName × Nat) := [(⟨"StemShapesModel", "noView", "(I)Z"⟩, 19), (⟨"StemShapesModel", "noSlice", "(I)Z"⟩, 19), (⟨"StemShapesModel", "fit", "(I)Z"⟩, 19), (⟨"StemShapesModel", "middle", "(I)D"⟩, 19), (⟨"StemShapesModel", "set", "(IDDDD)V"⟩, 19), (⟨"StemShapesModel", "mend", "(I)V"⟩, 19), (⟨"StemShapesModel", "mixed", "(IIII)D"⟩, 19), (⟨"StemShapesModel", "hasShape", "()Z"⟩, 19), (⟨"StemShapesModel", "area", "(I)D"⟩, 19), (⟨"StemShapesModel", "isInside", "(IDD)Z"⟩, 19), (⟨"StemShapesModel", "volumeNow", "()D"⟩, 19), (⟨"StemShapesModel", "taperNow", "()D"⟩, 19), (⟨"StemShapesModel", "sweepNow", "()D"⟩, 19), (⟨"StemShapesModel", "off", "(II)D"⟩, 19), (⟨"StemShapesModel", "holds", "(I)Z"⟩, 19), (⟨"StemShapesModel", "apartBy", "(I)D"⟩, 19)]
theorem lw_r2 : ∀ q ∈ lw_privs_2, lw_okq q := List.forall_mem_cons.mpr ⟨lw_p16, List.forall_mem_cons.mpr ⟨lw_p17, List.forall_mem_cons.mpr ⟨lw_p18, List.forall_mem_cons.mpr ⟨lw_p19, List.forall_mem_cons.mpr ⟨lw_p20, List.forall_mem_cons.mpr ⟨lw_p21, List.forall_mem_cons.mpr ⟨lw_p22, List.forall_mem_cons.mpr ⟨lw_p23, List.forall_mem_cons.mpr ⟨lw_p24, List.forall_mem_cons.mpr ⟨lw_p25, List.forall_mem_cons.mpr ⟨lw_p26, List.forall_mem_cons.mpr ⟨lw_p27, List.forall_mem_cons.mpr ⟨lw_p28, List.forall_mem_cons.mpr ⟨lw_p29, List.forall_mem_cons.mpr ⟨lw_p30, List.forall_mem_cons.mpr ⟨lw_p31, fun _ h => absurd h List.not_mem_nil⟩⟩⟩⟩⟩⟩⟩⟩⟩⟩⟩⟩⟩⟩⟩⟩
def lw_privs : List (MethodName × Nat) := lw_privs_1 ++ (lw_privs_2)
def lw_tbl : List Cond := k2_sels lw_privs ++ tables_1
theorem lw_privs_ok : ∀ q ∈ lw_privs, lw_okq q := by
  show ∀ q ∈ lw_privs_1 ++ (lw_privs_2), lw_okq q
  exact List.forall_mem_append.mpr ⟨lw_r1, lw_r2⟩
end
section
/-! ===== BEGIN words of one list among another's, by their places ===== -/
theorem goodIn_r {big : List Cond} (ws : List Cond) (ps : List Nat) (hp : ws = ps.filterMap (fun i => big[i]?)) (h : ws.all goodWord = true) : GoodIn big ws := by
  intro w hw
  have h1 := List.all_eq_true.mp h w hw
  rw [hp] at hw
  obtain ⟨i, -, hi⟩ := List.mem_filterMap.mp hw
  have hm : w ∈ big := by first | exact List.mem_of_getElem? hi | exact List.getElem?_mem hi
  exact ⟨hm, good_of_word h1⟩
theorem goodIn_app {big a b : List Cond} (ha : GoodIn big a) (hb : GoodIn big b) : GoodIn big (a ++ b) := fun w h => (List.mem_append.mp h).elim (ha w) (hb w)
theorem goodIn_ca {big a b : List Cond} {c : Cond} (ha : GoodIn big (c :: a)) (hb : GoodIn big b) : GoodIn big (c :: (a ++ b)) := fun w h => (List.mem_cons.mp h).elim (fun e => ha w (List.mem_cons.mpr (Or.inl e))) (fun h => (List.mem_append.mp h).elim (fun h => ha w (List.mem_cons.mpr (Or.inr h))) (hb w))
theorem goodIn_sub {big ws : List Cond} (hm : ∀ w ∈ ws, w ∈ big) (h : ws.all goodWord = true) : GoodIn big ws := fun w hw => ⟨hm w hw, good_of_word (List.all_eq_true.mp h w hw)⟩
/-! ===== END ===== -/

/-! ===== BEGIN exceptions that leave a method, and their catching by the caller (launches without stack traces) ===== -/
section VXA
/-! The laws vx_back, vx_callV, vx_callS, vx_callSW, vx_throw0, vx_throwS follow proofs of the library, with one case more: JvmDerived/Free/Laws.lean (Back.of_free), Shelf42/LK1.lean (callV, callS), Shelf/KitTraced.lean (throwNew0V, throwNewS). -/
/-- where a method has thrown q: the class by its name, the cell, what was written, the world -/
def vx_T (XC : String → State → State → Prop) (st : State) (q : Addr) (t : State) (mc ms : Nat) (free : Addr → Prop) : Prop :=
  ∃ (E : String) (ce : Cell) (L : List Loc), XC E st t ∧ t.heap[q]? = some ce ∧ ce.vm = .none ∧ st.vm.findClass E = some ce.cls ∧ st.WarmedH t.vm ∧ st.sameButNew ({ t with vm := st.vm } : State) L mc ms ∧ ∀ z ∈ L, free z.base
def vx_Q (Qc : Array Value → State → Outcome → State → Prop) (XC : String → State → State → Prop) (mc ms : Nat) (free : Addr → Prop) : Array Value → State → Outcome → State → Prop := fun a st o t =>
  (Qc a st o t ∧ ∃ L, FrameEnd st o t L mc ms ∧ ∀ q ∈ L, free q.base) ∨ ∃ q, o = .threw q ∧ vx_T XC st q t mc ms free
/-- a callee that returns or throws -/
def vx_Met (l : Launch) (y : MethodName) (ws : List Cond) (rm : Room) (Pc : Array Value → State → Prop) (Qc : Array Value → State → Outcome → State → Prop) (XC : String → State → State → Prop) (mc ms : Nat) (free : Addr → Prop) : Prop :=
  MetFree l y (headSpec ws rm) Pc (fun _ _ _ _ _ => True) (vx_Q Qc XC mc ms free)
def vx_Post (XC : String → State → State → Prop) (mc ms : Nat) (free : Addr → Prop) : Pt → Array Value → Addr → Pt → Prop := fun A a q B =>
  ∃ (g : JFrame) (mk : MethodId) (t : State) (L : List Loc) (E : String) (ce : Cell), B.U.heap = t.heap ∧ B.U.vm = t.vm ∧ XC E (A.U.calling g mk a) t ∧ t.heap[q]? = some ce ∧ ce.vm = .none ∧ A.U.vm.findClass E = some ce.cls ∧ B.locs = A.locs ++ L ∧ (∀ z ∈ L, free z.base) ∧ B.cells = A.cells + mc ∧ B.slots = A.slots + ms
def vx_Back (l : Launch) (R : Room) (p : Program) (e : Env) (below : List Frame) (s : State) (sargs : Array Value) (y : MethodName) (len W9 : Nat)
    (Pre : Pt → Array Value → Prop) (Post : Pt → Array Value → Option Value → Pt → Prop) (PostX : Pt → Array Value → Addr → Pt → Prop) : Prop :=
  ∀ (m : MethodId) (meth : Method) (c : Code) (A : Pt) (g : JFrame) (ig : Instr) (mk : MethodId) (a : Array Value),
    Stand p l e R s m sargs below meth c A.U A.locs A.cells A.slots → g.method = m → g.locals.size = c.maxLocals → decode c.code g.pc = .ok (ig, len) →
    2 * g.monitorRoom + (g.stack.map fun v => v.category).sum ≤ W9 → A.U.methodNamed? y = some mk → Pre A a →
    (∃ (v : Option Value) (B : Pt), Stand p l e R s m sargs below meth c B.U B.locs B.cells B.slots ∧ Post A a v B ∧
      Steps p.tables e below (doInvoke e (A.U.setTop g) [] mk a).1 (B.U.setTop { g with pc := g.pc + len, stack := v.toList ++ g.stack })) ∨
    (∃ (q : Addr) (B : Pt), Stand p l e R s m sargs below meth c B.U B.locs B.cells B.slots ∧ PostX A a q B ∧
      Steps p.tables e below (doInvoke e (A.U.setTop g) [] mk a).1 ((B.U.setTop g).pushFrame (.throwing q)))
section Payer
variable {l : Launch} {R : Room} {p : Program} {e : Env} {below : List Frame} {s : State} {sargs : Array Value} {y : MethodName} {len W9 : Nat}
theorem vx_back {ws : List Cond} {rm : Room} {Pc : Array Value → State → Prop} {Qc : Array Value → State → Outcome → State → Prop} {XC : String → State → State → Prop} {mc ms : Nat} {free : Addr → Prop} {bytes : ByteArray} {maxL : Nat} {ret : Option FieldType}
    (hM : vx_Met l y ws rm Pc Qc XC mc ms free) (hblind : FrameBlind Pc) (hrc : rm.cells = mc) (hrs : rm.slots = ms)
    (hframes : rm.frames + 1 ≤ R.frames) (hlocals : W9 + (maxL + 11) + rm.locals ≤ R.locals)
    (hws : ∀ w ∈ ws, ∀ a' U, s.WarmedH U.vm → w.before a' U = true) (hcode : Cond.code y bytes maxL ret ∈ ws) (hinit : ∀ a' U, s.WarmedH U.vm → (Cond.initialized y.cls).before a' U = true) :
    vx_Back l R p e below s sargs y len W9 (PreOf R mc ms Pc) (PostOf Qc mc ms free) (vx_Post XC mc ms free) := by
  intro m meth c A g ig mk a X hg hsize hdg hW hn hp
  have h1 : (headSpec ws rm).pre.before a A.U = true := atoms_intro fun w hw => hws w hw _ _ X.warmed
  have h2 : (Cond.code y bytes maxL ret).before a A.U = true := hws _ hcode _ _ X.warmed
  have h3 : (Cond.initialized y.cls).before a A.U = true := hinit _ _ X.warmed
  have h4 : A.cells + (headSpec ws rm).room.cells ≤ R.cells := by rw [show (headSpec ws rm).room.cells = mc from hrc]; exact hp.1
  have h5 : A.slots + (headSpec ws rm).room.slots ≤ R.slots := by rw [show (headSpec ws rm).room.slots = ms from hrs]; exact hp.2.1
  have hPc : Pc a (A.U.calling g mk a) := hblind _ _ _ _ hp.2.2
  obtain ⟨U, Ls, c0, s0⟩ := A
  dsimp only [Pt.U, Pt.locs, Pt.cells, Pt.slots] at h1 h2 h3 h4 h5 X hn hPc ⊢
  obtain ⟨methY, cY, hmY, hcY, -, hlY, -, -, -, -⟩ := Cond.code_spec hn h2
  obtain ⟨kY, hkY, -⟩ := className_of_methodNamed hn
  have hinitY : kY.init = .initialized := Cond.initialized_spec (findClass_of_methodNamed hn) hkY h3
  have h : At U g.method c below := by rw [hg]; exact X.here
  have hlocals9 : W9 + (maxL + 11) + (headSpec ws rm).room.locals ≤ R.locals := hlocals
  have happ : (headSpec ws rm).appliesLoose y e.platform (U.calling g mk a) = true :=
    Spec.appliesLoose_calling (g := g) h hdg hn hkY hinitY
      (X.room_calling (g := g) (R' := (headSpec ws rm).room) hsize hmY hcY hframes (by rw [hlY]; omega) h4 h5) h1
  obtain ⟨mid, hmid⟩ := h.above
  have hfr : (U.setTop g).frames = (.java g :: mid) ++ below := by rw [State.frames_setTop' g h.top, hmid]; rfl
  obtain ⟨o, s₂, hsteps, -, hend, hq⟩ := Steps.callFree hM p X.admits X.cas X.clock (acts := []) hfr happ hPc trivial
  have hq' : vx_Q Qc XC mc ms free a (U.calling g mk a) o s₂ := hq
  rw [State.frames_setTop' g h.top] at hend
  obtain ⟨g₀, hg0⟩ := Option.isSome_iff_exists.mp h.top
  obtain ⟨r, hr⟩ := State.topJava?_eq_some.mp hg0
  have hr' : (({ U with heap := s₂.heap, slotsUsed := s₂.slotsUsed } : State).setVm s₂.vm).frames = .java g₀ :: r := hr
  rcases hq' with ⟨hqc, L, hfe, hL⟩ | ⟨q, rfl, E, ce, L, hx, hce, hcv, hcl, hW₂, hsm, hL⟩
  · obtain ⟨⟨v, rfl⟩, hW₂, e2, q2, q3, q4, q5, q6⟩ := id hfe
    have e3 : s₂ = ({ (U.calling g mk a).setFrames s₂.frames with heap := s₂.heap, slotsUsed := s₂.slotsUsed } : State).setVm s₂.vm := by
      have : s₂ = ({ s₂ with vm := (U.calling g mk a).vm } : State).setVm s₂.vm := rfl
      rw [e2] at this
      exact this
    obtain ⟨c₂, i₂, len₂, hc₂, hd₂, hf₂⟩ := hend
    have hW' : U.WarmedH s₂.vm := hW₂
    have hcc : c₂ = c := by
      have h1 : s₂.code? g.method = U.code? g.method := by
        rw [State.code?_eq, State.code?_eq, hW'.alike.method?]
      exact Option.some.inj (hc₂.symm.trans (h1.trans h.code))
    subst hcc
    have hlen : len₂ = len := by rw [hdg] at hd₂; cases hd₂; rfl
    subst hlen
    have hs₂ : s₂ = (({ U with heap := s₂.heap, slotsUsed := s₂.slotsUsed } : State).setVm s₂.vm).setTop { g with pc := g.pc + len₂, stack := v.toList ++ g.stack } := by
      refine e3.trans ?_
      rw [hf₂, State.calling_eq h.top, State.setFrames_setFrames, State.setTop_of_frames _ hr', hr]
      rfl
    have hsame : U.sameButNew ({ U with heap := s₂.heap, slotsUsed := s₂.slotsUsed } : State) L mc ms := by
      refine ⟨?_, q2, q3, q4, q5, q6⟩
      obtain ⟨t, ht, -⟩ := State.frames_cons hr
      show ({ U with heap := s₂.heap, slotsUsed := s₂.slotsUsed } : State) = { U.setFrames U.frames with heap := s₂.heap, slotsUsed := s₂.slotsUsed }
      rw [State.setFrames_self ht]
    subst hg
    refine Or.inl ⟨v, ⟨(({ U with heap := s₂.heap, slotsUsed := s₂.slotsUsed } : State).setVm s₂.vm), Ls ++ L, c0 + mc, s0 + ms⟩,
      ⟨X.admits, X.cas, X.clock, X.frames, X.room, X.hears, X.method, X.code, (X.here.setHeapUsed s₂.heap s₂.slotsUsed).setVm hW'.alike, X.tail, State.WarmedH.trans X.warmed hW', X.limits, X.bytes, X.same.trans (hsame.setVm s.vm)⟩,
      ⟨g, mk, s₂, L, rfl, rfl, hqc, rfl, hL, rfl, rfl⟩, ?_⟩
    show Steps p.tables e below _ ((({ U with heap := s₂.heap, slotsUsed := s₂.slotsUsed } : State).setVm s₂.vm).setTop { g with pc := g.pc + len₂, stack := v.toList ++ g.stack })
    rw [← hs₂]
    exact hsteps
  · obtain ⟨e2, q2, q3, q4, q5, q6⟩ := id hsm
    have e3 : s₂ = ({ (U.calling g mk a).setFrames s₂.frames with heap := s₂.heap, slotsUsed := s₂.slotsUsed } : State).setVm s₂.vm := by
      have : s₂ = ({ s₂ with vm := (U.calling g mk a).vm } : State).setVm s₂.vm := rfl
      rw [e2] at this
      exact this
    have hf₂ : s₂.frames = .throwing q :: .java g :: U.frames.tail := hend
    have hW' : U.WarmedH s₂.vm := hW₂
    have hs₂ : s₂ = ((({ U with heap := s₂.heap, slotsUsed := s₂.slotsUsed } : State).setVm s₂.vm).setTop g).pushFrame (.throwing q) := by
      refine e3.trans ?_
      rw [hf₂, State.calling_eq h.top, State.setFrames_setFrames, State.pushFrame, State.frames_setTop _ hr', State.setTop_of_frames _ hr', State.setFrames_setFrames, hr]
      rfl
    have hsame : U.sameButNew ({ U with heap := s₂.heap, slotsUsed := s₂.slotsUsed } : State) L mc ms := by
      refine ⟨?_, q2, q3, q4, q5, q6⟩
      obtain ⟨t, ht, -⟩ := State.frames_cons hr
      show ({ U with heap := s₂.heap, slotsUsed := s₂.slotsUsed } : State) = { U.setFrames U.frames with heap := s₂.heap, slotsUsed := s₂.slotsUsed }
      rw [State.setFrames_self ht]
    subst hg
    refine Or.inr ⟨q, ⟨(({ U with heap := s₂.heap, slotsUsed := s₂.slotsUsed } : State).setVm s₂.vm), Ls ++ L, c0 + mc, s0 + ms⟩,
      ⟨X.admits, X.cas, X.clock, X.frames, X.room, X.hears, X.method, X.code, (X.here.setHeapUsed s₂.heap s₂.slotsUsed).setVm hW'.alike, X.tail, State.WarmedH.trans X.warmed hW', X.limits, X.bytes, X.same.trans (hsame.setVm s.vm)⟩,
      ⟨g, mk, s₂, L, E, ce, rfl, rfl, hx, hce, hcv, hcl, rfl, hL, rfl, rfl⟩, ?_⟩
    show Steps p.tables e below _ (((({ U with heap := s₂.heap, slotsUsed := s₂.slotsUsed } : State).setVm s₂.vm).setTop g).pushFrame (.throwing q))
    rw [← hs₂]
    exact hsteps
end Payer
section Calls
variable {p : Program} {l : Launch} {e : Env} {R : Room} {s : State} {m : MethodId} {args : Array Value} {below : List Frame} {meth : Method} {c : Code} {T : State} {locs : List Loc} {cells slots : Nat}
theorem vx_callV (X : Stand p l e R s m args below meth c T locs cells slots) (hexec : p.tables.exec = Jvm.exec) {own C : String} {index : Nat} {y : MethodName} {bytes : ByteArray} {maxL : Nat} {ret : Option FieldType}
    (hown : s.vm.findClass own = some m.cls) (hlink : (Cond.methodLink own index y).before args s = true) (hinst : (Cond.instanceMethod y).before args s = true) (hsel : (Cond.selects C y y).before args s = true)
    (hcode : (Cond.code y bytes maxL ret).before args s = true) (hy : y.cls ≠ "java/lang/invoke/MethodHandle" ∧ y.cls ≠ "java/lang/invoke/VarHandle")
    {W9 : Nat} {Pre : Pt → Array Value → Prop} {Post : Pt → Array Value → Option Value → Pt → Prop} {PostX : Pt → Array Value → Addr → Pt → Prop} (hK : vx_Back l R p e below s args y 3 W9 Pre Post PostX)
    {b : Addr} {cellB : Cell} (hcell : T.heap[b]? = some cellB) (hobj : cellB.vm.isStatics = false) (hcls : s.vm.findClass C = some cellB.cls)
    {g : JFrame} (hg : g.method = m) (hsize : g.locals.size = c.maxLocals) {argsL rest : List Value} (hlen : ∀ sig, parseMethodDescriptor y.desc = some sig → argsL.length = sig.parameters.length)
    (hstack : g.stack = argsL.reverse ++ .ref b :: rest) (hW : 2 * g.monitorRoom + (rest.map fun v => v.category).sum ≤ W9) (hdg : decode c.code g.pc = .ok (.invokevirtual index, 3))
    (hpre : ∀ vm₁, s.WarmedH vm₁ → Pre ⟨T.setVm vm₁, locs, cells, slots⟩ (Value.ref b :: argsL).toArray) :
    (∃ (v : Option Value) (vm₁ : Vm) (B : Pt), s.WarmedH vm₁ ∧ Stand p l e R s m args below meth c B.U B.locs B.cells B.slots ∧ Post ⟨T.setVm vm₁, locs, cells, slots⟩ (Value.ref b :: argsL).toArray v B ∧
      ∀ target, Steps p.tables e below (B.U.setTop { g with pc := g.pc + 3, stack := v.toList ++ rest }) target → Steps p.tables e below (T.setTop g) target) ∨
    (∃ (q : Addr) (vm₁ : Vm) (B : Pt), s.WarmedH vm₁ ∧ Stand p l e R s m args below meth c B.U B.locs B.cells B.slots ∧ PostX ⟨T.setVm vm₁, locs, cells, slots⟩ (Value.ref b :: argsL).toArray q B ∧
      Steps p.tables e below (T.setTop g) ((B.U.setTop { g with stack := rest }).pushFrame (.throwing q))) := by
  obtain ⟨mk, methM, hnamed, hmethM, hstM, habM⟩ := Cond.instanceMethod_spec hinst
  obtain ⟨methM', cM, hmethM', -, -, -, -, -, -, hsigM⟩ := Cond.code_spec hnamed hcode
  cases hmethM.symm.trans hmethM'
  obtain ⟨c2, r2, m2, q1, q2, q3, q4, kP, hkP, hkPi⟩ := Cond.selects_spec hsel
  cases hcls.symm.trans q1
  cases (State.methodFound?_of_named hnamed hy).symm.trans q2
  cases hnamed.symm.trans q3
  have hselP : selectMethod e.platform s.vm cellB.cls mk = .method mk := by rw [Launch.admits_selectMethod X.admits]; exact q4
  obtain ⟨vm₁, X₁, hstep₁⟩ := X.invokevirtual hexec hown hlink hnamed hmethM hstM hkP hkPi hy (a := b) (cell := cellB) hcell
    (fun z h => by rw [h] at hobj; cases hobj) hselP hmethM habM hkP hkPi (g := g) hg (argsL := argsL) (rest := rest) (hlen _ hsigM) hstack hdg
  rcases hK m meth c ⟨T.setVm vm₁, locs, cells, slots⟩ { g with stack := rest } (.invokevirtual index) mk (Value.ref b :: argsL).toArray X₁ hg hsize hdg hW (X₁.named hnamed) (hpre vm₁ X₁.warmed) with ⟨v, B, X', hpost, hsteps⟩ | ⟨q, B, X', hpost, hsteps⟩
  · exact Or.inl ⟨v, vm₁, B, X₁.warmed, X', hpost, fun target h => hstep₁ _ fun acts => by rw [doInvoke_state]; exact hsteps.trans h⟩
  · exact Or.inr ⟨q, vm₁, B, X₁.warmed, X', hpost, hstep₁ _ fun acts => by rw [doInvoke_state]; exact hsteps⟩
theorem vx_callS (X : Stand p l e R s m args below meth c T locs cells slots) (hexec : p.tables.exec = Jvm.exec) {own : String} {index : Nat} {y : MethodName} {bytes : ByteArray} {maxL : Nat} {ret : Option FieldType}
    (hown : s.vm.findClass own = some m.cls) (hlink : (Cond.methodLink own index y).before args s = true) (hstat : (Cond.static y).before args s = true) (hinit : (Cond.initialized y.cls).before args s = true)
    (hcode : (Cond.code y bytes maxL ret).before args s = true) (hy : y.cls ≠ "java/lang/invoke/MethodHandle" ∧ y.cls ≠ "java/lang/invoke/VarHandle")
    {W9 : Nat} {Pre : Pt → Array Value → Prop} {Post : Pt → Array Value → Option Value → Pt → Prop} {PostX : Pt → Array Value → Addr → Pt → Prop} (hK : vx_Back l R p e below s args y 3 W9 Pre Post PostX)
    {g : JFrame} (hg : g.method = m) (hsize : g.locals.size = c.maxLocals) {argsL rest : List Value} (hlen : ∀ sig, parseMethodDescriptor y.desc = some sig → argsL.length = sig.parameters.length)
    (hstack : g.stack = argsL.reverse ++ rest) (hW : 2 * g.monitorRoom + (rest.map fun v => v.category).sum ≤ W9) (hdg : decode c.code g.pc = .ok (.invokestatic index, 3))
    (hpre : ∀ vm₁, s.WarmedH vm₁ → Pre ⟨T.setVm vm₁, locs, cells, slots⟩ argsL.toArray) :
    (∃ (v : Option Value) (vm₁ : Vm) (B : Pt), s.WarmedH vm₁ ∧ Stand p l e R s m args below meth c B.U B.locs B.cells B.slots ∧ Post ⟨T.setVm vm₁, locs, cells, slots⟩ argsL.toArray v B ∧
      ∀ target, Steps p.tables e below (B.U.setTop { g with pc := g.pc + 3, stack := v.toList ++ rest }) target → Steps p.tables e below (T.setTop g) target) ∨
    (∃ (q : Addr) (vm₁ : Vm) (B : Pt), s.WarmedH vm₁ ∧ Stand p l e R s m args below meth c B.U B.locs B.cells B.slots ∧ PostX ⟨T.setVm vm₁, locs, cells, slots⟩ argsL.toArray q B ∧
      Steps p.tables e below (T.setTop g) ((B.U.setTop { g with stack := rest }).pushFrame (.throwing q))) := by
  obtain ⟨mk, hnamed⟩ := Cond.code_named hcode
  obtain ⟨methM, cM, hmethM, -, -, -, -, -, -, hsigM⟩ := Cond.code_spec hnamed hcode
  have hstatic : methM.isStatic = true := Cond.static_spec hnamed hmethM hstat
  obtain ⟨kP, hkP, -⟩ := className_of_methodNamed hnamed
  have hinitP : kP.init = .initialized := Cond.initialized_spec (findClass_of_methodNamed hnamed) hkP hinit
  obtain ⟨vm₁, X₁, hstep₁⟩ := X.invokestatic hexec hown hlink hnamed hmethM hstatic hkP hinitP hy (g := g) hg (argsL := argsL) (rest := rest) (hlen _ hsigM) hstack hdg
  rcases hK m meth c ⟨T.setVm vm₁, locs, cells, slots⟩ { g with stack := rest } (.invokestatic index) mk argsL.toArray X₁ hg hsize hdg hW (X₁.named hnamed) (hpre vm₁ X₁.warmed) with ⟨v, B, X', hpost, hsteps⟩ | ⟨q, B, X', hpost, hsteps⟩
  · exact Or.inl ⟨v, vm₁, B, X₁.warmed, X', hpost, fun target h => hstep₁ _ fun acts => by rw [doInvoke_state]; exact hsteps.trans h⟩
  · exact Or.inr ⟨q, vm₁, B, X₁.warmed, X', hpost, hstep₁ _ fun acts => by rw [doInvoke_state]; exact hsteps⟩
end Calls
theorem vx_cls {s : State} {T : State} {vm₁ : Vm} {E : String} {k : ClassId} (hW : s.WarmedH vm₁) (h : (T.setVm vm₁).vm.findClass E = some k) : s.vm.findClass E = some k := by
  have h1 : vm₁.findClass E = some k := h
  rw [hW.alike.findClass] at h1
  exact h1
/-- the method's frame g, with q thrown over it -/
def vx_W (p : Program) (l : Launch) (e : Env) (R : Room) (s : State) (m : MethodId) (args : Array Value) (below : List Frame) (meth : Method) (c : Code) (H : Heap) (locs : List Loc) (cells slots : Nat) (Q : State → Prop) (g : JFrame) (q : Addr) : Prop :=
  ∀ T : State, T.heap = H → Stand p l e R s m args below meth c T locs cells slots → ∃ t, Steps p.tables e below ((T.setTop g).pushFrame (.throwing q)) t ∧ Q t
def vx_Run (p : Program) (l : Launch) (e : Env) (R : Room) (s : State) (m : MethodId) (args : Array Value) (below : List Frame) (meth : Method) (c : Code) (H : Heap) (locs : List Loc) (cells slots mc ms : Nat) (g : JFrame) (rest : List Value) (Qa : State → Outcome → State → Prop) (XC : String → State → State → Prop) (free : Addr → Prop) : Prop :=
  ∀ T : State, T.heap = H → Stand p l e R s m args below meth c T locs cells slots →
    (∃ (v : Option Value) (st₀ t T' : State) (L : List Loc), st₀.heap = H ∧ Stand p l e R s m args below meth c T' (locs ++ L) (cells + mc) (slots + ms) ∧ (∀ q ∈ L, free q.base) ∧ T'.heap = t.heap ∧ T'.vm = t.vm ∧ Qa st₀ (.returned v) t ∧
      Goes p e below T g T' { g with pc := g.pc + 3, stack := v.toList ++ rest }) ∨
    (∃ (q : Addr) (st₀ t T' : State) (L : List Loc) (E : String) (ce : Cell), st₀.heap = H ∧ Stand p l e R s m args below meth c T' (locs ++ L) (cells + mc) (slots + ms) ∧ (∀ z ∈ L, free z.base) ∧ T'.heap = t.heap ∧ T'.vm = t.vm ∧ XC E st₀ t ∧ t.heap[q]? = some ce ∧ ce.vm = .none ∧ s.vm.findClass E = some ce.cls ∧
      Steps p.tables e below (T.setTop g) ((T'.setTop { g with stack := rest }).pushFrame (.throwing q)))
def vx_X {S : Type} (px : S → Prop) (B : String → S → State → Prop) (A : Nat → Prop) : String → State → State → Prop := fun E st t => ∃ u : S, px u ∧ B E u t ∧ va_F A st t
section Runs
variable {p : Program} {l : Launch} {e : Env} {R : Room} {s : State} {m : MethodId} {args : Array Value} {below : List Frame} {meth : Method} {c : Code} {H : Heap} {locs : List Loc} {cells slots : Nat}
variable {y : MethodName} {bytes cc : ByteArray} {maxL nL mc ms n index : Nat} {ret : Option FieldType} {ws : List Cond} {rm : Room} {Pc : Array Value → State → Prop} {Qc : Array Value → State → Outcome → State → Prop} {XC : String → State → State → Prop} {free : Addr → Prop} {Ts : List Cond} {own C : String} {b : Addr} {As rest : List Value} {g : JFrame}
theorem vx_callBack (cb : CallB R s args own index y bytes maxL ret ws rm mc ms n) (hM : vx_Met l y ws rm Pc Qc XC mc ms free) (hbl : FrameBlind Pc) : vx_Back l R p e below s args y 3 8 (PreOf R mc ms Pc) (PostOf Qc mc ms free) (vx_Post XC mc ms free) := by
  obtain ⟨hrc, hrs, hfr, hlo, hws, hcw, -, hini, -⟩ := cb
  exact vx_back (bytes := bytes) (maxL := maxL) (ret := ret) hM hbl hrc hrs hfr hlo hws hcw (fun a' U hW => word_at hW (Or.inl (by first | rfl | simp [Cond.onTables, Cond.keeps, Cond.steady])) hini)
theorem vx_runV (S : CallFix p m c cc nL s args Ts own) (hM : vx_Met l y ws rm Pc Qc XC mc ms free) (cw : CallW R s args own C index y bytes maxL ret ws rm mc ms n) (hp : PreV s H C b Pc As)
    (hg : g.method = m) (hn : As.length = n) (hsize : g.locals.size = nL) (hstack : g.stack = As.reverse ++ .ref b :: rest) (hW : 2 * g.monitorRoom + (rest.map fun v => v.category).sum ≤ 8) (hdg : decode cc g.pc = .ok (.invokevirtual index, 3)) (hf : cells + mc ≤ R.cells ∧ slots + ms ≤ R.slots) :
    vx_Run p l e R s m args below meth c H locs cells slots mc ms g rest (Qc (Value.ref b :: As).toArray) XC free := by
  have hK : vx_Back l R p e below s args y 3 8 (PreOf R mc ms Pc) (PostOf Qc mc ms free) (vx_Post XC mc ms free) := vx_callBack cw.1 hM hp.1
  obtain ⟨⟨-, -, -, -, -, -, hcode, -, hy, hlen, hl⟩, hin, hse⟩ := cw
  obtain ⟨hx, hb, hml, ho, -⟩ := S
  obtain ⟨-, ⟨cellB, hcB, hoB, hclB⟩, hPc⟩ := hp
  intro T hT X
  rcases vx_callV X hx (C := C) (bytes := bytes) (maxL := maxL) (ret := ret) ho hl hin hse hcode hy hK (by rw [hT]; exact hcB) hoB hclB hg (hsize.trans hml.symm) (argsL := As) (rest := rest) (fun sig h => hn.trans (hlen sig h)) hstack hW (by rw [hb]; exact hdg)
    (fun vm₁ hW₁ => ⟨hf.1, hf.2, hPc (T.setVm vm₁) hT hW₁⟩) with ⟨v, vm₁, ⟨U', l2, c2, s2⟩, hW₁, X', ⟨g', mk, t, L, e1, e2, hq, h1, hL, h2, h3⟩, st⟩ | ⟨q, vm₁, ⟨U', l2, c2, s2⟩, hW₁, X', ⟨g', mk, t, L, E, ce, e1, e2, hq, hce, hcv, hcl, h1, hL, h2, h3⟩, st⟩
  · dsimp only [Pt.U, Pt.locs, Pt.cells, Pt.slots] at X' e1 e2 h1 h2 h3 st
    subst h1; subst h2; subst h3
    exact Or.inl ⟨v, (T.setVm vm₁).calling g' mk (Value.ref b :: As).toArray, t, U', L, hT, X', hL, e1, e2, hq, st⟩
  · dsimp only [Pt.U, Pt.locs, Pt.cells, Pt.slots] at X' e1 e2 h1 h2 h3 st hcl
    subst h1; subst h2; subst h3
    exact Or.inr ⟨q, (T.setVm vm₁).calling g' mk (Value.ref b :: As).toArray, t, U', L, E, ce, hT, X', hL, e1, e2, hq, hce, hcv, vx_cls hW₁ hcl, st⟩
theorem vx_runS (S : CallFix p m c cc nL s args Ts own) (hM : vx_Met l y ws rm Pc Qc XC mc ms free) (cw : CallB R s args own index y bytes maxL ret ws rm mc ms n ∧ (Cond.static y).before args s = true) (hp : PreS s H Pc As)
    (hg : g.method = m) (hn : As.length = n) (hsize : g.locals.size = nL) (hstack : g.stack = As.reverse ++ rest) (hW : 2 * g.monitorRoom + (rest.map fun v => v.category).sum ≤ 8) (hdg : decode cc g.pc = .ok (.invokestatic index, 3)) (hf : cells + mc ≤ R.cells ∧ slots + ms ≤ R.slots) :
    vx_Run p l e R s m args below meth c H locs cells slots mc ms g rest (Qc As.toArray) XC free := by
  have hK : vx_Back l R p e below s args y 3 8 (PreOf R mc ms Pc) (PostOf Qc mc ms free) (vx_Post XC mc ms free) := vx_callBack cw.1 hM hp.1
  obtain ⟨⟨-, -, -, -, -, -, hcode, hini, hy, hlen, hl⟩, hstt⟩ := cw
  obtain ⟨hx, hb, hml, ho, -⟩ := S
  intro T hT X
  rcases vx_callS X hx (bytes := bytes) (maxL := maxL) (ret := ret) ho hl hstt hini hcode hy hK hg (hsize.trans hml.symm) (argsL := As) (rest := rest) (fun sig h => hn.trans (hlen sig h)) hstack hW (by rw [hb]; exact hdg)
    (fun vm₁ hW₁ => ⟨hf.1, hf.2, hp.2 (T.setVm vm₁) hT hW₁⟩) with ⟨v, vm₁, ⟨U', l2, c2, s2⟩, hW₁, X', ⟨g', mk, t, L, e1, e2, hq, h1, hL, h2, h3⟩, st⟩ | ⟨q, vm₁, ⟨U', l2, c2, s2⟩, hW₁, X', ⟨g', mk, t, L, E, ce, e1, e2, hq, hce, hcv, hcl, h1, hL, h2, h3⟩, st⟩
  · dsimp only [Pt.U, Pt.locs, Pt.cells, Pt.slots] at X' e1 e2 h1 h2 h3 st
    subst h1; subst h2; subst h3
    exact Or.inl ⟨v, (T.setVm vm₁).calling g' mk As.toArray, t, U', L, hT, X', hL, e1, e2, hq, st⟩
  · dsimp only [Pt.U, Pt.locs, Pt.cells, Pt.slots] at X' e1 e2 h1 h2 h3 st hcl
    subst h1; subst h2; subst h3
    exact Or.inr ⟨q, (T.setVm vm₁).calling g' mk As.toArray, t, U', L, E, ce, hT, X', hL, e1, e2, hq, hce, hcv, vx_cls hW₁ hcl, st⟩
end Runs
section Rows
variable {p : Program} {l : Launch} {e : Env} {R : Room} {s : State} {m : MethodId} {args : Array Value} {below : List Frame} {meth : Method} {c : Code} {H : Heap} {locs : List Loc} {cells slots : Nat} {Q : State → Prop}
variable {mc ms : Nat} {free : Addr → Prop} {A0 A1 : Nat → Prop} {H0 : Heap} {a : Array Value} {pc : Nat} {ls : Array Slot} {st0 rest : List Value}
theorem vx_keep {st₀ t T' : State} {L : List Loc} (h0 : st₀.heap = H) (e1 : T'.heap = t.heap) (hS : va_S A0 H0 H locs) (hA : ∀ q, q < H.size → A1 q → A0 q) (hf : ∀ q, free q → A0 q) (hL : ∀ q ∈ L, free q.base) (hF : va_F A1 st₀ t) :
    H.size ≤ T'.heap.size ∧ (∀ q : Nat, q < H.size → ¬ A1 q → T'.heap[q]? = H[q]?) ∧ va_S A0 H0 T'.heap (locs ++ L) := by
  obtain ⟨hz, hk⟩ := hF
  rw [h0] at hz hk
  exact ⟨by rw [e1]; exact hz, fun q h1 h2 => by rw [e1]; exact hk q h1 h2,
    ⟨Nat.le_trans hS.1 (by rw [e1]; exact hz), fun q h1 h2 => by rw [e1, hk q (Nat.lt_of_lt_of_le h1 hS.1) (fun z => h2 (hA q (Nat.lt_of_lt_of_le h1 hS.1) z))]; exact hS.2.1 q h1 h2, fun q hq => by
      rcases List.mem_append.mp hq with h | h
      · exact hS.2.2 q h
      · exact hf _ (hL q h)⟩⟩
theorem vx_calli {S SX : Type} {post : Int32 → S → Prop} {px : SX → Prop} {B : S → State → Prop} {BX : String → SX → State → Prop} {AX : Nat → Prop} (hr : vx_Run p l e R s m args below meth c H locs cells slots mc ms (F0 m pc ls st0) rest (va_Qi post B A1 a) (vx_X px BX AX) free) (hS : va_S A0 H0 H locs) (hA : ∀ q, q < H.size → A1 q → A0 q) (hf : ∀ q, free q → A0 q) (hAX : ∀ q, q < H.size → AX q → A0 q)
    (kx : ∀ (E : String) (ce : Cell) (q9 : Addr) (u : SX) (t : State) (H1 : Heap) (locs1 : List Loc), t.heap = H1 → s.vm.Alike t.vm → px u → BX E u t → H.size ≤ H1.size → (∀ q : Nat, q < H.size → ¬ AX q → H1[q]? = H[q]?) → va_S A0 H0 H1 locs1 → H1[q9]? = some ce → ce.vm = .none → s.vm.findClass E = some ce.cls → vx_W p l e R s m args below meth c H1 locs1 (cells + mc) (slots + ms) Q (F0 m pc ls rest) q9)
    (kk : ∀ (r : Int32) (u : S) (t : State) (H1 : Heap) (locs1 : List Loc), t.heap = H1 → s.vm.Alike t.vm → post r u → B u t → H.size ≤ H1.size → (∀ q : Nat, q < H.size → ¬ A1 q → H1[q]? = H[q]?) → va_S A0 H0 H1 locs1 → W p l e R s m args below meth c H1 locs1 (cells + mc) (slots + ms) Q (F0 m (pc + 3) ls (.int r :: rest))) : W p l e R s m args below meth c H locs cells slots Q (F0 m pc ls st0) := by
  intro T hT X
  rcases hr T hT X with ⟨v, st₀, t, T', L, h0, X', hL, e1, e2, ⟨⟨r, u, hv, hp, hb⟩, hF⟩, st⟩ | ⟨q, st₀, t, T', L, E, ce, h0, X', hL, e1, e2, ⟨u, hp, hb, hF⟩, hce, hcv, hcl, st⟩
  · cases hv
    obtain ⟨k1, k2, k3⟩ := vx_keep h0 e1 hS hA hf hL hF
    obtain ⟨t2, a1, b1⟩ := kk r u t T'.heap (locs ++ L) e1.symm (by rw [← e2]; exact X'.warmed.alike) hp hb k1 k2 k3 T' rfl X'
    exact ⟨t2, st t2 a1, b1⟩
  · obtain ⟨k1, k2, k3⟩ := vx_keep h0 e1 hS hAX hf hL hF
    obtain ⟨t2, a1, b1⟩ := kx E ce q u t T'.heap (locs ++ L) e1.symm (by rw [← e2]; exact X'.warmed.alike) hp hb k1 k2 k3 (by rw [e1]; exact hce) hcv hcl T' rfl X'
    exact ⟨t2, st.trans a1, b1⟩
theorem vx_calll {S SX : Type} {post : Int64 → S → Prop} {px : SX → Prop} {B : S → State → Prop} {BX : String → SX → State → Prop} {AX : Nat → Prop} (hr : vx_Run p l e R s m args below meth c H locs cells slots mc ms (F0 m pc ls st0) rest (va_Ql post B A1 a) (vx_X px BX AX) free) (hS : va_S A0 H0 H locs) (hA : ∀ q, q < H.size → A1 q → A0 q) (hf : ∀ q, free q → A0 q) (hAX : ∀ q, q < H.size → AX q → A0 q)
    (kx : ∀ (E : String) (ce : Cell) (q9 : Addr) (u : SX) (t : State) (H1 : Heap) (locs1 : List Loc), t.heap = H1 → s.vm.Alike t.vm → px u → BX E u t → H.size ≤ H1.size → (∀ q : Nat, q < H.size → ¬ AX q → H1[q]? = H[q]?) → va_S A0 H0 H1 locs1 → H1[q9]? = some ce → ce.vm = .none → s.vm.findClass E = some ce.cls → vx_W p l e R s m args below meth c H1 locs1 (cells + mc) (slots + ms) Q (F0 m pc ls rest) q9)
    (kk : ∀ (r : Int64) (u : S) (t : State) (H1 : Heap) (locs1 : List Loc), t.heap = H1 → s.vm.Alike t.vm → post r u → B u t → H.size ≤ H1.size → (∀ q : Nat, q < H.size → ¬ A1 q → H1[q]? = H[q]?) → va_S A0 H0 H1 locs1 → W p l e R s m args below meth c H1 locs1 (cells + mc) (slots + ms) Q (F0 m (pc + 3) ls (.long r :: rest))) : W p l e R s m args below meth c H locs cells slots Q (F0 m pc ls st0) := by
  intro T hT X
  rcases hr T hT X with ⟨v, st₀, t, T', L, h0, X', hL, e1, e2, ⟨⟨r, u, hv, hp, hb⟩, hF⟩, st⟩ | ⟨q, st₀, t, T', L, E, ce, h0, X', hL, e1, e2, ⟨u, hp, hb, hF⟩, hce, hcv, hcl, st⟩
  · cases hv
    obtain ⟨k1, k2, k3⟩ := vx_keep h0 e1 hS hA hf hL hF
    obtain ⟨t2, a1, b1⟩ := kk r u t T'.heap (locs ++ L) e1.symm (by rw [← e2]; exact X'.warmed.alike) hp hb k1 k2 k3 T' rfl X'
    exact ⟨t2, st t2 a1, b1⟩
  · obtain ⟨k1, k2, k3⟩ := vx_keep h0 e1 hS hAX hf hL hF
    obtain ⟨t2, a1, b1⟩ := kx E ce q u t T'.heap (locs ++ L) e1.symm (by rw [← e2]; exact X'.warmed.alike) hp hb k1 k2 k3 (by rw [e1]; exact hce) hcv hcl T' rfl X'
    exact ⟨t2, st.trans a1, b1⟩
theorem vx_callf {S SX : Type} {post : UInt32 → S → Prop} {px : SX → Prop} {B : S → State → Prop} {BX : String → SX → State → Prop} {AX : Nat → Prop} (hr : vx_Run p l e R s m args below meth c H locs cells slots mc ms (F0 m pc ls st0) rest (va_Qf post B A1 a) (vx_X px BX AX) free) (hS : va_S A0 H0 H locs) (hA : ∀ q, q < H.size → A1 q → A0 q) (hf : ∀ q, free q → A0 q) (hAX : ∀ q, q < H.size → AX q → A0 q)
    (kx : ∀ (E : String) (ce : Cell) (q9 : Addr) (u : SX) (t : State) (H1 : Heap) (locs1 : List Loc), t.heap = H1 → s.vm.Alike t.vm → px u → BX E u t → H.size ≤ H1.size → (∀ q : Nat, q < H.size → ¬ AX q → H1[q]? = H[q]?) → va_S A0 H0 H1 locs1 → H1[q9]? = some ce → ce.vm = .none → s.vm.findClass E = some ce.cls → vx_W p l e R s m args below meth c H1 locs1 (cells + mc) (slots + ms) Q (F0 m pc ls rest) q9)
    (kk : ∀ (r : UInt32) (u : S) (t : State) (H1 : Heap) (locs1 : List Loc), t.heap = H1 → s.vm.Alike t.vm → post r u → B u t → H.size ≤ H1.size → (∀ q : Nat, q < H.size → ¬ A1 q → H1[q]? = H[q]?) → va_S A0 H0 H1 locs1 → W p l e R s m args below meth c H1 locs1 (cells + mc) (slots + ms) Q (F0 m (pc + 3) ls (.float r :: rest))) : W p l e R s m args below meth c H locs cells slots Q (F0 m pc ls st0) := by
  intro T hT X
  rcases hr T hT X with ⟨v, st₀, t, T', L, h0, X', hL, e1, e2, ⟨⟨r, u, hv, hp, hb⟩, hF⟩, st⟩ | ⟨q, st₀, t, T', L, E, ce, h0, X', hL, e1, e2, ⟨u, hp, hb, hF⟩, hce, hcv, hcl, st⟩
  · cases hv
    obtain ⟨k1, k2, k3⟩ := vx_keep h0 e1 hS hA hf hL hF
    obtain ⟨t2, a1, b1⟩ := kk r u t T'.heap (locs ++ L) e1.symm (by rw [← e2]; exact X'.warmed.alike) hp hb k1 k2 k3 T' rfl X'
    exact ⟨t2, st t2 a1, b1⟩
  · obtain ⟨k1, k2, k3⟩ := vx_keep h0 e1 hS hAX hf hL hF
    obtain ⟨t2, a1, b1⟩ := kx E ce q u t T'.heap (locs ++ L) e1.symm (by rw [← e2]; exact X'.warmed.alike) hp hb k1 k2 k3 (by rw [e1]; exact hce) hcv hcl T' rfl X'
    exact ⟨t2, st.trans a1, b1⟩
theorem vx_calld {S SX : Type} {post : UInt64 → S → Prop} {px : SX → Prop} {B : S → State → Prop} {BX : String → SX → State → Prop} {AX : Nat → Prop} (hr : vx_Run p l e R s m args below meth c H locs cells slots mc ms (F0 m pc ls st0) rest (va_Qd post B A1 a) (vx_X px BX AX) free) (hS : va_S A0 H0 H locs) (hA : ∀ q, q < H.size → A1 q → A0 q) (hf : ∀ q, free q → A0 q) (hAX : ∀ q, q < H.size → AX q → A0 q)
    (kx : ∀ (E : String) (ce : Cell) (q9 : Addr) (u : SX) (t : State) (H1 : Heap) (locs1 : List Loc), t.heap = H1 → s.vm.Alike t.vm → px u → BX E u t → H.size ≤ H1.size → (∀ q : Nat, q < H.size → ¬ AX q → H1[q]? = H[q]?) → va_S A0 H0 H1 locs1 → H1[q9]? = some ce → ce.vm = .none → s.vm.findClass E = some ce.cls → vx_W p l e R s m args below meth c H1 locs1 (cells + mc) (slots + ms) Q (F0 m pc ls rest) q9)
    (kk : ∀ (r : UInt64) (u : S) (t : State) (H1 : Heap) (locs1 : List Loc), t.heap = H1 → s.vm.Alike t.vm → post r u → B u t → H.size ≤ H1.size → (∀ q : Nat, q < H.size → ¬ A1 q → H1[q]? = H[q]?) → va_S A0 H0 H1 locs1 → W p l e R s m args below meth c H1 locs1 (cells + mc) (slots + ms) Q (F0 m (pc + 3) ls (.double r :: rest))) : W p l e R s m args below meth c H locs cells slots Q (F0 m pc ls st0) := by
  intro T hT X
  rcases hr T hT X with ⟨v, st₀, t, T', L, h0, X', hL, e1, e2, ⟨⟨r, u, hv, hp, hb⟩, hF⟩, st⟩ | ⟨q, st₀, t, T', L, E, ce, h0, X', hL, e1, e2, ⟨u, hp, hb, hF⟩, hce, hcv, hcl, st⟩
  · cases hv
    obtain ⟨k1, k2, k3⟩ := vx_keep h0 e1 hS hA hf hL hF
    obtain ⟨t2, a1, b1⟩ := kk r u t T'.heap (locs ++ L) e1.symm (by rw [← e2]; exact X'.warmed.alike) hp hb k1 k2 k3 T' rfl X'
    exact ⟨t2, st t2 a1, b1⟩
  · obtain ⟨k1, k2, k3⟩ := vx_keep h0 e1 hS hAX hf hL hF
    obtain ⟨t2, a1, b1⟩ := kx E ce q u t T'.heap (locs ++ L) e1.symm (by rw [← e2]; exact X'.warmed.alike) hp hb k1 k2 k3 (by rw [e1]; exact hce) hcv hcl T' rfl X'
    exact ⟨t2, st.trans a1, b1⟩
theorem vx_callv {S SX : Type} {post : S → Prop} {px : SX → Prop} {B : S → State → Prop} {BX : String → SX → State → Prop} {AX : Nat → Prop} (hr : vx_Run p l e R s m args below meth c H locs cells slots mc ms (F0 m pc ls st0) rest (va_Qv post B A1 a) (vx_X px BX AX) free) (hS : va_S A0 H0 H locs) (hA : ∀ q, q < H.size → A1 q → A0 q) (hf : ∀ q, free q → A0 q) (hAX : ∀ q, q < H.size → AX q → A0 q)
    (kx : ∀ (E : String) (ce : Cell) (q9 : Addr) (u : SX) (t : State) (H1 : Heap) (locs1 : List Loc), t.heap = H1 → s.vm.Alike t.vm → px u → BX E u t → H.size ≤ H1.size → (∀ q : Nat, q < H.size → ¬ AX q → H1[q]? = H[q]?) → va_S A0 H0 H1 locs1 → H1[q9]? = some ce → ce.vm = .none → s.vm.findClass E = some ce.cls → vx_W p l e R s m args below meth c H1 locs1 (cells + mc) (slots + ms) Q (F0 m pc ls rest) q9)
    (kk : ∀ (u : S) (t : State) (H1 : Heap) (locs1 : List Loc), t.heap = H1 → s.vm.Alike t.vm → post u → B u t → H.size ≤ H1.size → (∀ q : Nat, q < H.size → ¬ A1 q → H1[q]? = H[q]?) → va_S A0 H0 H1 locs1 → W p l e R s m args below meth c H1 locs1 (cells + mc) (slots + ms) Q (F0 m (pc + 3) ls (rest))) : W p l e R s m args below meth c H locs cells slots Q (F0 m pc ls st0) := by
  intro T hT X
  rcases hr T hT X with ⟨v, st₀, t, T', L, h0, X', hL, e1, e2, ⟨⟨u, hv, hp, hb⟩, hF⟩, st⟩ | ⟨q, st₀, t, T', L, E, ce, h0, X', hL, e1, e2, ⟨u, hp, hb, hF⟩, hce, hcv, hcl, st⟩
  · cases hv
    obtain ⟨k1, k2, k3⟩ := vx_keep h0 e1 hS hA hf hL hF
    obtain ⟨t2, a1, b1⟩ := kk u t T'.heap (locs ++ L) e1.symm (by rw [← e2]; exact X'.warmed.alike) hp hb k1 k2 k3 T' rfl X'
    exact ⟨t2, st t2 a1, b1⟩
  · obtain ⟨k1, k2, k3⟩ := vx_keep h0 e1 hS hAX hf hL hF
    obtain ⟨t2, a1, b1⟩ := kx E ce q u t T'.heap (locs ++ L) e1.symm (by rw [← e2]; exact X'.warmed.alike) hp hb k1 k2 k3 (by rw [e1]; exact hce) hcv hcl T' rfl X'
    exact ⟨t2, st.trans a1, b1⟩
/-- caught by the row x of this method's table; the rows ahead don't take it -/
theorem vx_catch {own name : String} {E : String} {ce : Cell} {q : Addr} (hown : s.vm.findClass own = some m.cls) (pre : List ExceptionTableEntry) (x : ExceptionTableEntry) (suf : List ExceptionTableEntry) (hsplit : c.exceptionTable.toList = pre ++ x :: suf)
    (hpass : ∀ z ∈ pre, covers z pc = false ∨ (z.catchType ≠ 0 ∧ ∃ nm : String, (Cond.classLink own z.catchType nm).before args s = true ∧ va_Nc E nm s)) (hx : covers x pc = true) (h0 : x.catchType ≠ 0)
    (hlink : (Cond.classLink own x.catchType name).before args s = true) (hcast : (Cond.castable E name).before args s = true) (hcell : H[q]? = some ce) (hv : ce.vm = .none) (hcl : s.vm.findClass E = some ce.cls)
    (kk : W p l e R s m args below meth c H locs cells slots Q (F0 m x.handlerPc ls [.ref q])) : vx_W p l e R s m args below meth c H locs cells slots Q (F0 m pc ls rest) q := by
  intro T hT X
  have hpl : e.platform.magicAccessors = ({} : Platform).magicAccessors := by rw [X.admits.platform]
  obtain ⟨c3, c4, hc3, hc4, hasg⟩ := Cond.castable_spec hcast
  cases Option.some.inj (hc3.symm.trans hcl)
  obtain ⟨c5, hc5, hcl5⟩ := Cond.classLink_spec hown hlink e.platform hpl
  cases Option.some.inj (hc4.symm.trans hc5)
  obtain ⟨vm', X', st⟩ := Stand.thenCaughtThrough X q (g := F0 m pc ls rest) rfl (Steps.refl _) (by rw [hT]; exact hcell) (by rw [hv]; rfl) (by obtain ⟨k9, h9, -⟩ := Vm.findClass_spec hcl; exact ⟨k9, h9⟩) pre x suf hsplit
    (fun z hz => by
      rcases hpass z hz with h | ⟨hz0, nm, hl1, hn1⟩
      · exact Or.inl h
      · obtain ⟨c6, hc6, hcl6⟩ := Cond.classLink_spec hown hl1 e.platform hpl
        obtain ⟨a8, b8, h1, h2, h3⟩ := hn1
        cases Option.some.inj (h1.symm.trans hcl)
        cases Option.some.inj (h2.symm.trans hc6)
        exact Or.inr ⟨hz0, _, hcl6, h3⟩) hx (Or.inr ⟨h0, c4, hcl5, hasg⟩)
  obtain ⟨t, a1, b1⟩ := kk (T.setVm vm') hT X'
  exact ⟨t, st.trans a1, b1⟩
end Rows
section Ends
variable {p : Program} {l : Launch} {e : Env} {R : Room} {s : State} {m : MethodId} {args : Array Value} {below : List Frame} {meth : Method} {c : Code} {H : Heap} {locs : List Loc} {cells slots : Nat} {Q : State → Prop}
variable {mc ms : Nat} {free : Addr → Prop} {A0 A1 : Nat → Prop} {H0 : Heap} {a : Array Value} {ls : Array Slot} {st0 rest : List Value}
variable {Qc : Array Value → State → Outcome → State → Prop} {XC : String → State → State → Prop}
/-- what a body that may throw owes at its end -/
def vx_MQ (below : List Frame) (Qc : Array Value → State → Outcome → State → Prop) (XC : String → State → State → Prop) (a : Array Value) (s : State) (mc ms : Nat) (free : Addr → Prop) : State → Prop := fun t =>
  ∃ o, t.status = .running ∧ Ended t below o ∧ vx_Q Qc XC mc ms free a s o t
theorem vx_ret {g : JFrame} {mc ms : Nat} (k : W p l e R s m args below meth c H locs cells slots (MQ below Qc args s mc ms free) g) : W p l e R s m args below meth c H locs cells slots (vx_MQ below Qc XC args s mc ms free) g := by
  intro T hT X
  obtain ⟨t, a1, o, b1, b2, b3, b4⟩ := k T hT X
  exact ⟨t, a1, o, b1, b2, Or.inl ⟨b3, b4⟩⟩
/-- not caught here: it goes on to the caller -/
theorem vx_widen {g : JFrame} {q : Addr} {k n : Nat} (h1 : cells ≤ k) (h2 : slots ≤ n) (kk : vx_W p l e R s m args below meth c H locs k n Q g q) : vx_W p l e R s m args below meth c H locs cells slots Q g q := fun T hT X => kk T hT (stand_widen X h1 h2)
theorem vx_out {pc : Nat} {E : String} {ce : Cell} {q : Addr} {mc ms : Nat} (hout : ∀ x ∈ c.exceptionTable.toList, covers x pc = false) (hlocks : meth.locks = false) (hcell : H[q]? = some ce) (hv : ce.vm = .none) (hcl : s.vm.findClass E = some ce.cls)
    (hx : ∀ t : State, t.heap = H → s.vm.Alike t.vm → XC E s t) (hf : ∀ z ∈ locs, free z.base) (hc : cells ≤ mc) (hs : slots ≤ ms) :
    vx_W p l e R s m args below meth c H locs cells slots (vx_MQ below Qc XC args s mc ms free) (F0 m pc ls rest) q := by
  intro T hT X
  obtain ⟨st1, hrun, hend, hW, hsm⟩ := X.leaveThrown q (g := F0 m pc ls rest) rfl rfl rfl hout hlocks
  have hcell9 : (T.setFrames (.throwing q :: below)).heap[q]? = some ce := by
    show T.heap[q]? = some ce
    rw [hT]; exact hcell
  exact ⟨_, st1, .threw q, hrun, hend, Or.inr ⟨q, rfl, E, ce, locs, hx _ hT hW.alike, hcell9, hv, hcl, hW, hsm.mono hc hs, hf⟩⟩
theorem vx_frame {U : State} {k n : Nat} (h : s.sameButNew ({ U with vm := s.vm } : State) locs k n) : s.heap.size ≤ U.heap.size ∧ ∀ q : Nat, q < s.heap.size → (∀ z ∈ locs, z.base ≠ q) → U.heap[q]? = s.heap[q]? := by
  obtain ⟨-, h2, -, -, -, h6⟩ := h
  refine ⟨h2, fun q hq hz => ?_⟩
  obtain ⟨c9, e1, e2, e3, e4⟩ := h6 q _ (Array.getElem?_eq_getElem hq)
  have hs : c9.slots = (s.heap[q]).slots := Array.ext_getElem? fun i => e4 i fun hm => hz _ hm rfl
  have h9 : c9 = s.heap[q] := by
    rw [hs] at e2
    exact e2
  have e5 : U.heap[q]? = some c9 := e1
  rw [e5, h9, Array.getElem?_eq_getElem hq]
/-- the words of a throw but the four that speak of the heap -/
def vx_no (w : Cond) : Bool := decide (w ≠ .isRef (.static Bundle.tN "UNASSIGNED_STACK" Bundle.steD)) && decide (w ≠ .isRef (.static Bundle.tN "SUPPRESSED_SENTINEL" Bundle.listD)) && decide (w ≠ .laysStatic Bundle.tN "UNASSIGNED_STACK" Bundle.steD) && decide (w ≠ .laysStatic Bundle.tN "SUPPRESSED_SENTINEL" Bundle.listD)
def vx_at0 (own : String) (ic : Nat) (X : String) (names : List String) : List Cond := (Bundle.ownAtoms0 own ic X names).filter vx_no
def vx_atS (own : String) (ic : Nat) (X : String) (names : List String) : List Cond := (Bundle.ownAtoms own ic X names).filter vx_no
/-- a word that the tables alone decide, or a good one -/
def vx_ot (w : Cond) : Bool := w.onTables || goodWord w
theorem vx_ot_at {args a' : Array Value} {s U : State} {w : Cond} (hW : s.WarmedH U.vm) (hvm : s.vm = U.vm) (hg : vx_ot w = true) (h : w.before args s = true) : w.before a' U = true := by
  simp only [vx_ot, Bool.or_eq_true] at hg
  rcases hg with hg | hg
  · exact va_tabs hg hvm h
  · exact word_at hW (good_of_word hg) h
/-- a list's words: the good ones out of the method's own list, the others by premises of their own -/
theorem vx_hat {args : Array Value} {s : State} {L B : List Cond} (h1 : ∀ w ∈ L.filter goodWord, w.before args s = true) (h2 : ∀ w ∈ L.filter (fun w => !goodWord w), w ∈ B) (h3 : ∀ w ∈ B, w.before args s = true) : ∀ w ∈ L, w.before args s = true := by
  intro w hw
  by_cases g : goodWord w = true
  · exact h1 w (List.mem_filter.mpr ⟨hw, g⟩)
  · refine h3 w (h2 w (List.mem_filter.mpr ⟨hw, ?_⟩))
    show (!goodWord w) = true
    cases hgw : goodWord w
    · rfl
    · exact absurd hgw g
theorem vx_c {args : Array Value} {s : State} {w : Cond} {B : List Cond} (h : w.before args s = true) (t : ∀ w ∈ B, w.before args s = true) : ∀ w' ∈ w :: B, w'.before args s = true := fun w' h' => (List.mem_cons.mp h').elim (fun e => by rw [e]; exact h) (t w')
theorem vx_n {args : Array Value} {s : State} : ∀ w ∈ ([] : List Cond), w.before args s = true := fun _ h => nomatch h
theorem vx_own {args : Array Value} {s : State} {L : List Cond} (h1 : ∀ w ∈ L.filter vx_no, w.before args s = true)
    (hU : (Cond.isRef (.static Bundle.tN "UNASSIGNED_STACK" Bundle.steD)).before args s = true) (hN : (Cond.isRef (.static Bundle.tN "SUPPRESSED_SENTINEL" Bundle.listD)).before args s = true)
    (lU : (Cond.laysStatic Bundle.tN "UNASSIGNED_STACK" Bundle.steD).before args s = true) (lN : (Cond.laysStatic Bundle.tN "SUPPRESSED_SENTINEL" Bundle.listD).before args s = true) : ∀ w ∈ L, w.before args s = true := by
  intro w hw
  by_cases e1 : w = .isRef (.static Bundle.tN "UNASSIGNED_STACK" Bundle.steD)
  · rw [e1]; exact hU
  · by_cases e2 : w = .isRef (.static Bundle.tN "SUPPRESSED_SENTINEL" Bundle.listD)
    · rw [e2]; exact hN
    · by_cases e3 : w = .laysStatic Bundle.tN "UNASSIGNED_STACK" Bundle.steD
      · rw [e3]; exact lU
      · by_cases e4 : w = .laysStatic Bundle.tN "SUPPRESSED_SENTINEL" Bundle.listD
        · rw [e4]; exact lN
        · exact h1 w (List.mem_filter.mpr ⟨hw, by unfold vx_no; rw [decide_eq_true e1, decide_eq_true e2, decide_eq_true e3, decide_eq_true e4]; rfl⟩)
/-- where a static field lies, its class's statics cell in H -/
def vx_L (C n d : String) (A : Nat → Prop) (U : State) (H : Heap) : Prop := ∃ (c : ClassId) (k : Class) (i : Nat) (f : Field) (a : Nat) (cell : Cell), U.vm.findClass C = some c ∧ U.fieldFound? C n d = some (c, k, i, f) ∧ f.isStatic = true ∧ k.statics = some a ∧ H[a]? = some cell ∧ cell.vm.isStatics = true ∧ cell.cls = c ∧ f.slot < cell.slots.size ∧ k.staticTypes[f.slot]? = some f.type ∧ ¬ A a
theorem vx_L.moved {C n d : String} {A : Nat → Prop} {u U : State} {H : Heap} (hvm : u.vm.Alike U.vm) (h : vx_L C n d A u H) : vx_L C n d A U H := by
  obtain ⟨c, k, i, f, a, cell, h1, h2, h3, h4, h5, h6, h7, h8, h9, h10⟩ := h
  obtain ⟨k', hi', he⟩ := State.fieldFound?_setVm hvm h2
  exact ⟨c, k', i, f, a, cell, by rw [hvm.findClass]; exact h1, hi', h3, by rw [he]; exact h4, h5, h6, h7, h8, by rw [he]; exact h9, h10⟩
theorem vx_L.kept {C n d : String} {A : Nat → Prop} {U : State} {H H1 : Heap} (h : vx_L C n d A U H) (hq : ∀ a : Nat, a < H.size → ¬ A a → H1[a]? = H[a]?) : vx_L C n d A U H1 := by
  obtain ⟨c, k, i, f, a, cell, h1, h2, h3, h4, h5, h6, h7, h8, h9, h10⟩ := h
  exact ⟨c, k, i, f, a, cell, h1, h2, h3, h4, by rw [hq a (Array.getElem?_eq_some_iff.mp h5).1 h10]; exact h5, h6, h7, h8, h9, h10⟩
theorem vx_L.narrow {C n d : String} {A B : Nat → Prop} {U : State} {H : Heap} (h : vx_L C n d A U H) (hAB : ∀ q, B q → A q) : vx_L C n d B U H := by
  obtain ⟨c, k, i, f, a, cell, h1, h2, h3, h4, h5, h6, h7, h8, h9, h10⟩ := h
  exact ⟨c, k, i, f, a, cell, h1, h2, h3, h4, h5, h6, h7, h8, h9, fun z => h10 (hAB _ z)⟩
theorem vx_L.word {C n d : String} {A : Nat → Prop} {s : State} {args : Array Value} (h : vx_L C n d A s s.heap) : (Cond.laysStatic C n d).before args s = true := by
  obtain ⟨c, k, i, f, a, cell, h1, h2, h3, h4, h5, h6, h7, h8, h9, -⟩ := h
  show (Cond.laysStatic C n d).holds args s none s [] = true
  exact Cond.laysStatic_of h1 h2 h3 h4 h5 h6 h7 h8 h9
/-- .. and what it holds: null or some reference -/
def vx_Zq (C n d : String) (A : Nat → Prop) (U : State) (H : Heap) : Prop := va_Zq C n d A U H ∧ vx_L C n d A U H
theorem vx_Zq.moved {C n d : String} {A : Nat → Prop} {u U : State} {H : Heap} (hvm : u.vm.Alike U.vm) (h : vx_Zq C n d A u H) : vx_Zq C n d A U H := ⟨va_Zq.moved hvm h.1, vx_L.moved hvm h.2⟩
theorem vx_Zq.kept {C n d : String} {A : Nat → Prop} {U : State} {H H1 : Heap} (h : vx_Zq C n d A U H) (hq : ∀ a : Nat, a < H.size → ¬ A a → H1[a]? = H[a]?) : vx_Zq C n d A U H1 := ⟨va_Zq.kept h.1 hq, vx_L.kept h.2 hq⟩
theorem vx_Zq.narrow {C n d : String} {A B : Nat → Prop} {U : State} {H : Heap} (h : vx_Zq C n d A U H) (hAB : ∀ q, B q → A q) : vx_Zq C n d B U H := ⟨va_Zq.narrow h.1 hAB, vx_L.narrow h.2 hAB⟩
theorem vx_Zqof {args : Array Value} {s : State} {C n d : String} {A : Nat → Prop} (hl : (Cond.laysStatic C n d).before args s = true) (hini : (Cond.initialized C).before args s = true) (h : (Cond.isRef (.static C n d)).before args s = true) (hA : ∀ a : Nat, a < s.heap.size → ¬ A a) : vx_Zq C n d A s s.heap := by
  refine ⟨va_Zqof hl hini h hA, ?_⟩
  obtain ⟨c, k, i, f, a, cell, h1, h2, h3, h4, h5, h6, h7, h8, h9⟩ := Cond.laysStatic_spec hl
  exact ⟨c, k, i, f, a, cell, h1, h2, h3, h4, h5, h6, h7, h8, h9, hA a (Array.getElem?_eq_some_iff.mp h5).1⟩
theorem vx_isRef {C n d : String} {v : Value} {A : Nat → Prop} {s : State} {args : Array Value} (h : va_Z C n d v A s s.heap) (hv : v.isRef = true) : (Cond.isRef (.static C n d)).before args s = true := by
  obtain ⟨cf, kf, fi, f, a, cell, h1, h2, h3, h4, h5, h6, h7, -⟩ := h
  have he : (Term.static C n d).eval args s none [] s = some v := by
    simp [Term.eval, State.fieldNamed?, h1, h2, h4, h5, h6, h7]
  simp only [Cond.before, Cond.holds, Cond.value, he]
  cases v <;> simp_all [Value.isRef]
theorem vx_isRefq {C n d : String} {A : Nat → Prop} {s : State} {args : Array Value} (h : va_Zq C n d A s s.heap) : (Cond.isRef (.static C n d)).before args s = true := by
  rcases h with h | ⟨t, h⟩
  · exact vx_isRef h rfl
  · exact vx_isRef h rfl
/-- the same frame, seen from here: as if the method were called anew in this heap -/
theorem vx_rebase {T : State} (X : Stand p l e R s m args below meth c T locs cells slots) {R' : Room} (hf : R'.frames ≤ R.frames) (hl : R'.locals ≤ R.locals) (hc : cells + R'.cells ≤ R.cells) (hs : slots + R'.slots ≤ R.slots) :
    Stand p l e R' ((T.setVm s.vm).setFrames (.invoking m args :: below)) m args below meth c T [] 0 0 := by
  have htop : (T.setVm s.vm).topJava?.isSome := X.here.top
  have hF : ((T.setVm s.vm).setFrames (.invoking m args :: below)).frames = .invoking m args :: below := State.frames_setFrames _ (State.cur_lt_of_top htop)
  obtain ⟨g₀, hg0⟩ := Option.isSome_iff_exists.mp htop
  obtain ⟨r, hr⟩ := State.topJava?_eq_some.mp hg0
  have hl9 : e.platform.stackLimits (T.setVm s.vm).me = e.platform.stackLimits s.me := X.limits
  have hb9 : (T.setVm s.vm).me.stackBytes = s.me.stackBytes := X.bytes
  refine ⟨X.admits, X.cas, X.clock, hF, ?_, X.hears, X.method, X.code, X.here, X.tail, X.warmed, ?_, ?_, ?_⟩
  · have h := X.room
    have hU : ((T.setVm s.vm).setFrames (.invoking m args :: below)).localsInUse = s.localsInUse := by
      rw [State.localsInUse_invoking hF (meth := meth) (c := c) X.method X.code, State.localsInUse_invoking X.frames X.method X.code]
    simp only [State.hasRoom, Bool.and_eq_true, decide_eq_true_eq] at h ⊢
    obtain ⟨⟨⟨⟨h1, h2, h3, h4, h5, h6⟩, h7⟩, h8⟩, h9⟩ := h
    rw [X.frames, List.length_cons] at h2 h3
    have q1 := X.heapSize
    have q2 := X.used
    simp only [hF, hU, List.length_cons, State.stackLimits_setFrames, State.stackBytes_setFrames, hl9, hb9]
    refine ⟨⟨⟨⟨by omega, by omega, by omega, by omega, by omega, h6⟩, ?_⟩, ?_⟩, X.book⟩
    · show T.heap.size + R'.cells ≤ e.platform.maxCells
      omega
    · show T.slotsUsed + R'.slots ≤ e.platform.maxSlots
      omega
  · rw [State.stackLimits_setFrames]; rfl
  · rw [State.stackBytes_setFrames]; rfl
  · refine ⟨?_, Nat.le_refl _, Nat.le_refl _, ?_, ?_, fun a c9 h9 => ⟨c9, h9, rfl, rfl, fun _ _ => rfl⟩⟩
    · obtain ⟨t, ht, -⟩ := State.frames_cons hr
      show T.setVm s.vm = { ((T.setVm s.vm).setFrames (.invoking m args :: below)).setFrames (T.setVm s.vm).frames with heap := T.heap, slotsUsed := T.slotsUsed }
      rw [State.setFrames_setFrames, State.setFrames_self ht]
      rfl
    · show T.slotsUsed = T.slotsUsed + ((T.heap.toList.drop T.heap.size).map (·.slots.size)).sum
      rw [List.drop_eq_nil_of_le (Nat.le_of_eq Array.length_toList)]
      rfl
    · show ((T.heap.toList.drop T.heap.size).map (·.slots.size)).sum ≤ 0
      rw [List.drop_eq_nil_of_le (Nat.le_of_eq Array.length_toList)]
      exact Nat.le_refl _
/-- 'throw new E()': new; dup; invokespecial; athrow -/
theorem vx_throw0 {cc : ByteArray} {pc : Nat} (hexec : p.tables.exec = Jvm.exec) (hb : c.code = cc) (hl : l.stackTraces = false) {own cls : String} {names : List String} {ik ic mc ms : Nat} {A : Nat → Prop}
    (hown : s.vm.findClass own = some m.cls) (hcls : Bundle.fit cls = true) (hnames : ∀ n ∈ names, Bundle.fit n = true)
    (hk : (Cond.classLink own ik cls).before args s = true) (hini : (Cond.initialized cls).before args s = true) (hat : ∀ w ∈ vx_at0 own ic cls names, w.before args s = true)
    (hgood : ∀ w ∈ Cond.classLink own ik cls :: Cond.initialized cls :: vx_at0 own ic cls names, vx_ot w = true)
    (hU : vx_Zq Bundle.tN "UNASSIGNED_STACK" Bundle.steD A s s.heap) (hN : vx_Zq Bundle.tN "SUPPRESSED_SENTINEL" Bundle.listD A s s.heap) (hS : va_S A s.heap H locs) (hsize : ls.size = c.maxLocals)
    (d0 : decode cc pc = .ok (.new ik, 3)) (d3 : decode cc (pc + 3) = .ok (.dup, 1)) (d4 : decode cc (pc + 4) = .ok (.invokespecial ic, 3)) (d7 : decode cc (pc + 7) = .ok (.athrow, 1))
    (hout : ∀ x ∈ c.exceptionTable.toList, covers x (pc + 7) = false)
    (hRframes : names.length + 3 < R.frames) (hRlocals : (rest.map fun v => v.category).sum + (13 * (names.length + 1) + 42) ≤ R.locals) (hRcells : cells + 1 ≤ R.cells) (hRslots : slots + 6 ≤ R.slots) (hlocks : meth.locks = false)
    (hx : ∀ t : State, s.vm.Alike t.vm → H.size ≤ t.heap.size → (∀ q : Nat, q < H.size → t.heap[q]? = H[q]?) → XC cls s t)
    (hf : ∀ z ∈ locs, free z.base) (hc : cells + 1 ≤ mc) (hs : slots + 6 ≤ ms) :
    W p l e R s m args below meth c H locs cells slots (vx_MQ below Qc XC args s mc ms free) (F0 m pc ls rest) := by
  intro T hT X
  have htr : e.platform.stackTraces = false := (show e.platform.stackTraces = l.stackTraces by rw [X.admits.platform]).trans hl
  have Y := vx_rebase X (R' := { frames := R.frames, locals := R.locals, cells := 1, slots := 6 }) (Nat.le_refl _) (Nat.le_refl _) hRcells hRslots
  obtain ⟨s', hA⟩ : ∃ z, z = (T.setVm s.vm).setFrames (.invoking m args :: below) := ⟨_, rfl⟩
  rw [← hA] at Y
  have hvm : s'.vm = s.vm := by rw [hA]; rfl
  have hhp : s'.heap = H := by rw [hA]; exact hT
  have hW0 : s.WarmedH s'.vm := by rw [hvm]; exact State.WarmedH.refl s
  have hat' : ∀ w ∈ vx_at0 own ic cls names, w.before args s' = true := fun w hw => vx_ot_at hW0 hvm.symm (hgood w (List.mem_cons_of_mem _ (List.mem_cons_of_mem _ hw))) (hat w hw)
  have hk' : (Cond.classLink own ik cls).before args s' = true := vx_ot_at hW0 hvm.symm (hgood _ List.mem_cons_self) hk
  have hini' : (Cond.initialized cls).before args s' = true := vx_ot_at hW0 hvm.symm (hgood _ (List.mem_cons_of_mem _ List.mem_cons_self)) hini
  have hU' : vx_Zq Bundle.tN "UNASSIGNED_STACK" Bundle.steD A s' s'.heap := by rw [hhp]; exact vx_Zq.moved hW0.alike (hU.kept hS.2.1)
  have hN' : vx_Zq Bundle.tN "SUPPRESSED_SENTINEL" Bundle.listD A s' s'.heap := by rw [hhp]; exact vx_Zq.moved hW0.alike (hN.kept hS.2.1)
  have h : ∀ w ∈ Bundle.ownAtoms0 own ic cls names, w.before args s' = true := vx_own hat' (vx_isRefq hU'.1) (vx_isRefq hN'.1) hU'.2.word hN'.2.word
  have hown' : s'.vm.findClass own = some m.cls := by rw [hvm]; exact hown
  have hins : (Cond.instantiable cls 6).before args s' = true := h _ (by simp [Bundle.ownAtoms0])
  obtain ⟨vm₁, cX, kX, hfX, hkX, -, -, X₁, st1⟩ := Y.newCold hexec (own := own) (C := cls) (index := ik) (n := 6) hown' hk' hins hini'
    (g := F0 m pc ls rest) rfl (by rw [hb]; exact d0) (Nat.le_refl _) (Nat.le_refl _)
  generalize hT1 : (T.setVm vm₁).pushCell { cls := cX, slots := kX.instanceTypes.map defaultValue, vm := .none } = T1 at X₁ st1
  have hcat : (Value.ref T.heap.size).category = 1 := rfl
  have hcellA : T1.heap[T.heap.size]? = some (freshCell cX kX) := by rw [← hT1]; exact State.heap_pushCell_size _ _
  have d3' : decode c.code (pc + 3) = .ok (.dup, 1) := by rw [hb]; exact d3
  obtain ⟨U, hsteps, hrun, hend, hW, hsame, ce, hce, hO⟩ := X₁.ctorThrow0 hexec htr (own := own) (cls := cls) (names := names) (ic := ic) hown' hcls hnames h (fun x hx => nomatch hx) hfX hkX hcellA (by rw [hhp, hT]; exact Nat.le_refl _)
    (g := { method := m, pc := pc + 4, locals := ls, stack := .ref T.heap.size :: .ref T.heap.size :: rest, locked := none }) rfl hsize rfl rfl (rest := rest) rfl
    (by rw [hb]; exact d4) (by rw [hb]; exact d7) hout hRframes (by simp only [List.map_cons, List.sum_cons, hcat]; omega) hlocks
  obtain ⟨f1, f2⟩ := vx_frame hsame
  rw [hhp] at f1 f2
  have hWs : s.WarmedH U.vm := State.WarmedH.trans hW0 hW
  have hcl : s.vm.findClass cls = some ce.cls := by
    have h9 := hO.cls
    rw [hvm] at h9
    exact h9
  have hall : s.sameButNew ({ U with vm := s.vm } : State) locs mc ms := by
    subst hA
    obtain ⟨e1, e2⟩ := hsame
    rw [State.setFrames_setFrames] at e1
    have h2 : (T.setVm s.vm).sameButNew ({ U with vm := s.vm } : State) [] (0 + 1) (0 + 6) := ⟨e1, e2⟩
    have h3 := X.same.trans h2
    rw [List.append_nil] at h3
    exact h3.mono hc hs
  refine ⟨U, ?_, .threw T.heap.size, hrun, hend, Or.inr ⟨T.heap.size, rfl, cls, ce, locs, hx U hWs.alike f1 (fun q hq => f2 q hq (fun z hz => nomatch hz)), hce, hO.vm, hcl, hWs, hall, hf⟩⟩
  refine st1 _ ?_
  show Steps p.tables e below (T1.setTop { method := m, pc := pc + 3, locals := ls, stack := .ref T.heap.size :: rest, locked := none }) _
  jvm_step X₁.here [X₁.here.top, hexec, d3', Value.category]
  exact hsteps
/-- 'throw new E("text")': new; dup; ldc; invokespecial; athrow -/
theorem vx_throwS {cc : ByteArray} {pc : Nat} (hexec : p.tables.exec = Jvm.exec) (hb : c.code = cc) (hl : l.stackTraces = false) {own cls text : String} {names : List String} {ik is ic mc ms sa : Nat} {A : Nat → Prop}
    (hown : s.vm.findClass own = some m.cls) (hcls : Bundle.fit cls = true) (hnames : ∀ n ∈ names, Bundle.fit n = true)
    (hk : (Cond.classLink own ik cls).before args s = true) (hini : (Cond.initialized cls).before args s = true) (hstr : vk_R own is text sa s) (hat : ∀ w ∈ vx_atS own ic cls names, w.before args s = true)
    (hgood : ∀ w ∈ Cond.classLink own ik cls :: Cond.initialized cls :: vx_atS own ic cls names, vx_ot w = true)
    (hU : vx_Zq Bundle.tN "UNASSIGNED_STACK" Bundle.steD A s s.heap) (hN : vx_Zq Bundle.tN "SUPPRESSED_SENTINEL" Bundle.listD A s s.heap) (hS : va_S A s.heap H locs) (hsize : ls.size = c.maxLocals)
    (d0 : decode cc pc = .ok (.new ik, 3)) (d3 : decode cc (pc + 3) = .ok (.dup, 1)) (d4 : decode cc (pc + 4) = .ok (.ldc is, 2)) (d6 : decode cc (pc + 6) = .ok (.invokespecial ic, 3)) (d9 : decode cc (pc + 9) = .ok (.athrow, 1))
    (hout : ∀ x ∈ c.exceptionTable.toList, covers x (pc + 9) = false)
    (hRframes : names.length + 3 < R.frames) (hRlocals : (rest.map fun v => v.category).sum + (13 * (names.length + 1) + 43) ≤ R.locals) (hRcells : cells + 1 ≤ R.cells) (hRslots : slots + 6 ≤ R.slots) (hlocks : meth.locks = false)
    (hx : ∀ t : State, s.vm.Alike t.vm → H.size ≤ t.heap.size → (∀ q : Nat, q < H.size → t.heap[q]? = H[q]?) → XC cls s t)
    (hf : ∀ z ∈ locs, free z.base) (hc : cells + 1 ≤ mc) (hs : slots + 6 ≤ ms) :
    W p l e R s m args below meth c H locs cells slots (vx_MQ below Qc XC args s mc ms free) (F0 m pc ls rest) := by
  intro T hT X
  have htr : e.platform.stackTraces = false := (show e.platform.stackTraces = l.stackTraces by rw [X.admits.platform]).trans hl
  have Y := vx_rebase X (R' := { frames := R.frames, locals := R.locals, cells := 1, slots := 6 }) (Nat.le_refl _) (Nat.le_refl _) hRcells hRslots
  obtain ⟨s', hA⟩ : ∃ z, z = (T.setVm s.vm).setFrames (.invoking m args :: below) := ⟨_, rfl⟩
  rw [← hA] at Y
  have hvm : s'.vm = s.vm := by rw [hA]; rfl
  have hhp : s'.heap = H := by rw [hA]; exact hT
  have hW0 : s.WarmedH s'.vm := by rw [hvm]; exact State.WarmedH.refl s
  have hat' : ∀ w ∈ vx_atS own ic cls names, w.before args s' = true := fun w hw => vx_ot_at hW0 hvm.symm (hgood w (List.mem_cons_of_mem _ (List.mem_cons_of_mem _ hw))) (hat w hw)
  have hk' : (Cond.classLink own ik cls).before args s' = true := vx_ot_at hW0 hvm.symm (hgood _ List.mem_cons_self) hk
  have hini' : (Cond.initialized cls).before args s' = true := vx_ot_at hW0 hvm.symm (hgood _ (List.mem_cons_of_mem _ List.mem_cons_self)) hini
  have hU' : vx_Zq Bundle.tN "UNASSIGNED_STACK" Bundle.steD A s' s'.heap := by rw [hhp]; exact vx_Zq.moved hW0.alike (hU.kept hS.2.1)
  have hN' : vx_Zq Bundle.tN "SUPPRESSED_SENTINEL" Bundle.listD A s' s'.heap := by rw [hhp]; exact vx_Zq.moved hW0.alike (hN.kept hS.2.1)
  have h : ∀ w ∈ Bundle.ownAtoms own ic cls names, w.before args s' = true := vx_own hat' (vx_isRefq hU'.1) (vx_isRefq hN'.1) hU'.2.word hN'.2.word
  have hown' : s'.vm.findClass own = some m.cls := by rw [hvm]; exact hown
  have hins : (Cond.instantiable cls 6).before args s' = true := h _ (by simp [Bundle.ownAtoms])
  obtain ⟨vm₁, cX, kX, hfX, hkX, -, -, X₁, st1⟩ := Y.newCold hexec (own := own) (C := cls) (index := ik) (n := 6) hown' hk' hins hini'
    (g := F0 m pc ls rest) rfl (by rw [hb]; exact d0) (Nat.le_refl _) (Nat.le_refl _)
  generalize hT1 : (T.setVm vm₁).pushCell { cls := cX, slots := kX.instanceTypes.map defaultValue, vm := .none } = T1 at X₁ st1
  have hcat : (Value.ref T.heap.size).category = 1 := rfl
  have hcellA : T1.heap[T.heap.size]? = some (freshCell cX kX) := by rw [← hT1]; exact State.heap_pushCell_size _ _
  have d3' : decode c.code (pc + 3) = .ok (.dup, 1) := by rw [hb]; exact d3
  have d4' : decode c.code (pc + 4) = .ok (.ldc is, 2) := by rw [hb]; exact d4
  have hstr' : vk_R own is text sa s' := vk_R.warm hW0 hstr
  obtain ⟨U, hsteps, hrun, hend, hW, hsame, ce, hce, hO⟩ := X₁.ctorThrowS hexec htr (own := own) (cls := cls) (names := names) (ic := ic) hown' hcls hnames h (fun x hx => nomatch hx) hfX hkX hcellA (by rw [hhp, hT]; exact Nat.le_refl _) (msg := .ref sa) rfl
    (g := { method := m, pc := pc + 6, locals := ls, stack := .ref sa :: .ref T.heap.size :: .ref T.heap.size :: rest, locked := none }) rfl hsize rfl rfl (rest := rest) rfl
    (by rw [hb]; exact d6) (by rw [hb]; exact d9) hout hRframes (by simp only [List.map_cons, List.sum_cons, hcat]; omega) hlocks
  obtain ⟨f1, f2⟩ := vx_frame hsame
  rw [hhp] at f1 f2
  have hWs : s.WarmedH U.vm := State.WarmedH.trans hW0 hW
  have hcl : s.vm.findClass cls = some ce.cls := by
    have h9 := hO.cls
    rw [hvm] at h9
    exact h9
  have hall : s.sameButNew ({ U with vm := s.vm } : State) locs mc ms := by
    subst hA
    obtain ⟨e1, e2⟩ := hsame
    rw [State.setFrames_setFrames] at e1
    have h2 : (T.setVm s.vm).sameButNew ({ U with vm := s.vm } : State) [] (0 + 1) (0 + 6) := ⟨e1, e2⟩
    have h3 := X.same.trans h2
    rw [List.append_nil] at h3
    exact h3.mono hc hs
  refine ⟨U, ?_, .threw T.heap.size, hrun, hend, Or.inr ⟨T.heap.size, rfl, cls, ce, locs, hx U hWs.alike f1 (fun q hq => f2 q hq (fun z hz => nomatch hz)), hce, hO.vm, hcl, hWs, hall, hf⟩⟩
  refine st1 _ ?_
  show Steps p.tables e below (T1.setTop { method := m, pc := pc + 3, locals := ls, stack := .ref T.heap.size :: rest, locked := none }) _
  jvm_step X₁.here [X₁.here.top, hexec, d3', Value.category]
  exact X₁.ldcString hexec (own := own) (text := text) (index := is) (a := sa) hown' hstr'.1 hstr'.2
    (g := { method := m, pc := pc + 4, locals := ls, stack := .ref T.heap.size :: .ref T.heap.size :: rest, locked := none }) rfl d4' _ hsteps
/-- 'throw new E("text")', the text by a wide index -/
theorem vx_throwSW {cc : ByteArray} {pc : Nat} (hexec : p.tables.exec = Jvm.exec) (hb : c.code = cc) (hl : l.stackTraces = false) {own cls text : String} {names : List String} {ik is ic mc ms sa : Nat} {A : Nat → Prop}
    (hown : s.vm.findClass own = some m.cls) (hcls : Bundle.fit cls = true) (hnames : ∀ n ∈ names, Bundle.fit n = true)
    (hk : (Cond.classLink own ik cls).before args s = true) (hini : (Cond.initialized cls).before args s = true) (hstr : vk_R own is text sa s) (hat : ∀ w ∈ vx_atS own ic cls names, w.before args s = true)
    (hgood : ∀ w ∈ Cond.classLink own ik cls :: Cond.initialized cls :: vx_atS own ic cls names, vx_ot w = true)
    (hU : vx_Zq Bundle.tN "UNASSIGNED_STACK" Bundle.steD A s s.heap) (hN : vx_Zq Bundle.tN "SUPPRESSED_SENTINEL" Bundle.listD A s s.heap) (hS : va_S A s.heap H locs) (hsize : ls.size = c.maxLocals)
    (d0 : decode cc pc = .ok (.new ik, 3)) (d3 : decode cc (pc + 3) = .ok (.dup, 1)) (d4 : decode cc (pc + 4) = .ok (.ldc_w is, 3)) (d7 : decode cc (pc + 7) = .ok (.invokespecial ic, 3)) (d10 : decode cc (pc + 10) = .ok (.athrow, 1))
    (hout : ∀ x ∈ c.exceptionTable.toList, covers x (pc + 10) = false)
    (hRframes : names.length + 3 < R.frames) (hRlocals : (rest.map fun v => v.category).sum + (13 * (names.length + 1) + 43) ≤ R.locals) (hRcells : cells + 1 ≤ R.cells) (hRslots : slots + 6 ≤ R.slots) (hlocks : meth.locks = false)
    (hx : ∀ t : State, s.vm.Alike t.vm → H.size ≤ t.heap.size → (∀ q : Nat, q < H.size → t.heap[q]? = H[q]?) → XC cls s t)
    (hf : ∀ z ∈ locs, free z.base) (hc : cells + 1 ≤ mc) (hs : slots + 6 ≤ ms) :
    W p l e R s m args below meth c H locs cells slots (vx_MQ below Qc XC args s mc ms free) (F0 m pc ls rest) := by
  intro T hT X
  have htr : e.platform.stackTraces = false := (show e.platform.stackTraces = l.stackTraces by rw [X.admits.platform]).trans hl
  have Y := vx_rebase X (R' := { frames := R.frames, locals := R.locals, cells := 1, slots := 6 }) (Nat.le_refl _) (Nat.le_refl _) hRcells hRslots
  obtain ⟨s', hA⟩ : ∃ z, z = (T.setVm s.vm).setFrames (.invoking m args :: below) := ⟨_, rfl⟩
  rw [← hA] at Y
  have hvm : s'.vm = s.vm := by rw [hA]; rfl
  have hhp : s'.heap = H := by rw [hA]; exact hT
  have hW0 : s.WarmedH s'.vm := by rw [hvm]; exact State.WarmedH.refl s
  have hat' : ∀ w ∈ vx_atS own ic cls names, w.before args s' = true := fun w hw => vx_ot_at hW0 hvm.symm (hgood w (List.mem_cons_of_mem _ (List.mem_cons_of_mem _ hw))) (hat w hw)
  have hk' : (Cond.classLink own ik cls).before args s' = true := vx_ot_at hW0 hvm.symm (hgood _ List.mem_cons_self) hk
  have hini' : (Cond.initialized cls).before args s' = true := vx_ot_at hW0 hvm.symm (hgood _ (List.mem_cons_of_mem _ List.mem_cons_self)) hini
  have hU' : vx_Zq Bundle.tN "UNASSIGNED_STACK" Bundle.steD A s' s'.heap := by rw [hhp]; exact vx_Zq.moved hW0.alike (hU.kept hS.2.1)
  have hN' : vx_Zq Bundle.tN "SUPPRESSED_SENTINEL" Bundle.listD A s' s'.heap := by rw [hhp]; exact vx_Zq.moved hW0.alike (hN.kept hS.2.1)
  have h : ∀ w ∈ Bundle.ownAtoms own ic cls names, w.before args s' = true := vx_own hat' (vx_isRefq hU'.1) (vx_isRefq hN'.1) hU'.2.word hN'.2.word
  have hown' : s'.vm.findClass own = some m.cls := by rw [hvm]; exact hown
  have hins : (Cond.instantiable cls 6).before args s' = true := h _ (by simp [Bundle.ownAtoms])
  obtain ⟨vm₁, cX, kX, hfX, hkX, -, -, X₁, st1⟩ := Y.newCold hexec (own := own) (C := cls) (index := ik) (n := 6) hown' hk' hins hini'
    (g := F0 m pc ls rest) rfl (by rw [hb]; exact d0) (Nat.le_refl _) (Nat.le_refl _)
  generalize hT1 : (T.setVm vm₁).pushCell { cls := cX, slots := kX.instanceTypes.map defaultValue, vm := .none } = T1 at X₁ st1
  have hcat : (Value.ref T.heap.size).category = 1 := rfl
  have hcellA : T1.heap[T.heap.size]? = some (freshCell cX kX) := by rw [← hT1]; exact State.heap_pushCell_size _ _
  have d3' : decode c.code (pc + 3) = .ok (.dup, 1) := by rw [hb]; exact d3
  have d4' : decode c.code (pc + 4) = .ok (.ldc_w is, 3) := by rw [hb]; exact d4
  have hstr' : vk_R own is text sa s' := vk_R.warm hW0 hstr
  obtain ⟨U, hsteps, hrun, hend, hW, hsame, ce, hce, hO⟩ := X₁.ctorThrowS hexec htr (own := own) (cls := cls) (names := names) (ic := ic) hown' hcls hnames h (fun x hx => nomatch hx) hfX hkX hcellA (by rw [hhp, hT]; exact Nat.le_refl _) (msg := .ref sa) rfl
    (g := { method := m, pc := pc + 7, locals := ls, stack := .ref sa :: .ref T.heap.size :: .ref T.heap.size :: rest, locked := none }) rfl hsize rfl rfl (rest := rest) rfl
    (by rw [hb]; exact d7) (by rw [hb]; exact d10) hout hRframes (by simp only [List.map_cons, List.sum_cons, hcat]; omega) hlocks
  obtain ⟨f1, f2⟩ := vx_frame hsame
  rw [hhp] at f1 f2
  have hWs : s.WarmedH U.vm := State.WarmedH.trans hW0 hW
  have hcl : s.vm.findClass cls = some ce.cls := by
    have h9 := hO.cls
    rw [hvm] at h9
    exact h9
  have hall : s.sameButNew ({ U with vm := s.vm } : State) locs mc ms := by
    subst hA
    obtain ⟨e1, e2⟩ := hsame
    rw [State.setFrames_setFrames] at e1
    have h2 : (T.setVm s.vm).sameButNew ({ U with vm := s.vm } : State) [] (0 + 1) (0 + 6) := ⟨e1, e2⟩
    have h3 := X.same.trans h2
    rw [List.append_nil] at h3
    exact h3.mono hc hs
  refine ⟨U, ?_, .threw T.heap.size, hrun, hend, Or.inr ⟨T.heap.size, rfl, cls, ce, locs, hx U hWs.alike f1 (fun q hq => f2 q hq (fun z hz => nomatch hz)), hce, hO.vm, hcl, hWs, hall, hf⟩⟩
  refine st1 _ ?_
  show Steps p.tables e below (T1.setTop { method := m, pc := pc + 3, locals := ls, stack := .ref T.heap.size :: rest, locked := none }) _
  jvm_step X₁.here [X₁.here.top, hexec, d3', Value.category]
  exact X₁.ldcStringW hexec (own := own) (text := text) (index := is) (a := sa) hown' hstr'.1 hstr'.2
    (g := { method := m, pc := pc + 4, locals := ls, stack := .ref T.heap.size :: .ref T.heap.size :: rest, locked := none }) rfl d4' _ hsteps
end Ends
section Bodies
variable {l : Launch}
theorem vx_ofW {y : MethodName} {ws ws' : List Cond} {rm : Room} {Pc : Array Value → State → Prop} {Qc : Array Value → State → Outcome → State → Prop} {XC : String → State → State → Prop} {mc ms : Nat} {free : Addr → Prop} {cc : ByteArray} {maxL : Nat} {ret : Option FieldType}
    (hy : plainName y.cls = true) (hw : ws = Cond.code y cc maxL ret :: ws')
    (body : ∀ p e s m args below meth c s₁, BodyLoose p l y (headSpec ws rm) cc maxL ret e s m args below meth c s₁ → c.maxLocals = maxL → (∀ x ∈ c.exceptionTable.toList, False) → Pc args s →
      W p l e (headSpec ws rm).room s m args below meth c s.heap [] 0 0 (vx_MQ below Qc XC args s mc ms free) (entryFrame m args maxL)) : vx_Met l y ws rm Pc Qc XC mc ms free := by
  refine MetFree.of_bodyS (code := cc) (maxLocals := maxL) (ret := ret) hy ?_ ?_
  · intro args s m h hn
    obtain ⟨meth, c, h1, h2, h3, h4, h5, h6, -, -⟩ := Cond.code_spec hn (atoms_spec (ws := ws) h _ (by rw [hw]; exact List.mem_cons_self))
    exact ⟨meth, c, h1, h2, h3, h4, h5, h6⟩
  · intro p e s m args below meth c s₁ B hml hP _
    have hh0 : s₁.heap = s.heap := by rw [B.state]; rfl
    have ht : ∀ x ∈ c.exceptionTable.toList, False := by
      obtain ⟨meth9, c9, h1, h2, -, -, -, -, h7, -⟩ := Cond.code_spec B.named (atoms_spec (ws := ws) B.pre _ (by rw [hw]; exact List.mem_cons_self))
      cases Option.some.inj (h1.symm.trans B.method)
      cases Option.some.inj (h2.symm.trans (Stand.of_body B).code)
      intro x hx
      rw [Array.isEmpty_iff.mp h7] at hx
      cases hx
    obtain ⟨t, a1, o, b1, b2, b3⟩ := body p e s m args below meth c s₁ B hml ht hP s₁ hh0 (Stand.of_body B)
    exact ⟨t, o, a1, b1, b2, b3⟩
/-- the table of a body with handlers -/
theorem vx_table {p : Program} {x y : MethodName} {S : Spec} {cc bytes : ByteArray} {maxL maxL' : Nat} {ret ret' : Option FieldType} {e : Env} {s s₁ : State} {m : MethodId} {args : Array Value} {below : List Frame} {meth : Method} {c : Code} {hh : List (Nat × Nat × Nat × Nat)}
    (B : BodyLoose p l y S cc maxL ret e s m args below meth c s₁) (h : (Cond.codeWith y bytes maxL' ret' hh).before args s = true) : c.exceptionTable.toList = tableOf hh := by
  obtain ⟨m9, meth9, c9, hn9, h1, h2, -, -, h6, -⟩ := Cond.codeWith_spec h
  cases Option.some.inj (hn9.symm.trans B.named)
  cases Option.some.inj (h1.symm.trans B.method)
  cases Option.some.inj (h2.symm.trans (Stand.of_body B).code)
  rw [← h6, table_eq]
end Bodies
end VXA
/-! ===== END ===== -/
/-! ===== BEGIN a static call of a method with an exception table ===== -/
section VXS
variable {p : Program} {l : Launch} {e : Env} {R : Room} {s : State} {m : MethodId} {args : Array Value} {below : List Frame} {meth : Method} {c : Code} {T : State} {H : Heap} {locs : List Loc} {cells slots : Nat}
abbrev vx_CSW (R : Room) (s : State) (args : Array Value) (own : String) (index : Nat) (y : MethodName) (bytes : ByteArray) (maxL : Nat) (ret : Option FieldType) (hh : List (Nat × Nat × Nat × Nat)) (ws : List Cond) (rm : Room) (mc ms n : Nat) : Prop :=
  (rm.cells = mc ∧ rm.slots = ms ∧ rm.frames + 1 ≤ R.frames ∧ 8 + (maxL + 11) + rm.locals ≤ R.locals ∧ (∀ w ∈ ws, ∀ (a' : Array Value) (U : State), s.WarmedH U.vm → w.before a' U = true) ∧ Cond.codeWith y bytes maxL ret hh ∈ ws) ∧
  (Cond.codeWith y bytes maxL ret hh).before args s = true ∧ (Cond.initialized y.cls).before args s = true ∧ (y.cls ≠ "java/lang/invoke/MethodHandle" ∧ y.cls ≠ "java/lang/invoke/VarHandle") ∧
  (∀ sig, parseMethodDescriptor y.desc = some sig → n = sig.parameters.length) ∧ (Cond.methodLink own index y).before args s = true ∧ (Cond.static y).before args s = true
theorem vx_cwSW {own : String} {index maxL mc ms : Nat} {y : MethodName} {bytes : ByteArray} {ret : Option FieldType} {hh : List (Nat × Nat × Nat × Nat)} {Ts ws ws' : List Cond} {rm : Room} (n : Nat) (ht : ∀ w ∈ Ts, w.before args s = true) (hT : GoodIn Ts (va_wsS own index y ws)) (hw : ws = Cond.codeWith y bytes maxL ret hh :: ws') (hrc : rm.cells = mc) (hrs : rm.slots = ms)
    (hd : y.cls ≠ "java/lang/invoke/MethodHandle" ∧ y.cls ≠ "java/lang/invoke/VarHandle" ∧ (parseMethodDescriptor y.desc).map (fun d => d.parameters.length) = some n) (hR : rm.frames + 1 ≤ R.frames ∧ 8 + (maxL + 11) + rm.locals ≤ R.locals) :
    vx_CSW R s args own index y bytes maxL ret hh ws rm mc ms n := by
  have ok : ∀ w ∈ va_wsS own index y ws, w.before args s = true := fun w h => ht w (hT w h).1
  have hG : GoodIn Ts ws := fun w h => hT w (by unfold va_wsS; exact List.mem_append_right _ h)
  have hc : Cond.codeWith y bytes maxL ret hh ∈ ws := by rw [hw]; exact List.mem_cons_self
  refine ⟨⟨hrc, hrs, hR.1, hR.2, pay_in ht hG, hc⟩, ht _ (hG _ hc).1, ok _ (by simp [va_wsS]), ⟨hd.1, hd.2.1⟩, fun sig h => ?_, ok _ (by simp [va_wsS]), ok _ (by simp [va_wsS])⟩
  have h2 := hd.2.2
  rw [h] at h2
  exact (Option.some.inj h2).symm
theorem vx_callSW (X : Stand p l e R s m args below meth c T locs cells slots) (hexec : p.tables.exec = Jvm.exec) {own : String} {index : Nat} {y : MethodName} {bytes : ByteArray} {maxL : Nat} {ret : Option FieldType} {hh : List (Nat × Nat × Nat × Nat)}
    (hown : s.vm.findClass own = some m.cls) (hlink : (Cond.methodLink own index y).before args s = true) (hstat : (Cond.static y).before args s = true) (hinit : (Cond.initialized y.cls).before args s = true)
    (hcode : (Cond.codeWith y bytes maxL ret hh).before args s = true) (hy : y.cls ≠ "java/lang/invoke/MethodHandle" ∧ y.cls ≠ "java/lang/invoke/VarHandle")
    {W9 : Nat} {Pre : Pt → Array Value → Prop} {Post : Pt → Array Value → Option Value → Pt → Prop} (hK : Back l R p e below s args y 3 W9 Pre Post)
    {g : JFrame} (hg : g.method = m) (hsize : g.locals.size = c.maxLocals) {argsL rest : List Value} (hlen : ∀ sig, parseMethodDescriptor y.desc = some sig → argsL.length = sig.parameters.length)
    (hstack : g.stack = argsL.reverse ++ rest) (hW : 2 * g.monitorRoom + (rest.map fun v => v.category).sum ≤ W9) (hdg : decode c.code g.pc = .ok (.invokestatic index, 3))
    (hpre : ∀ vm₁, s.WarmedH vm₁ → Pre ⟨T.setVm vm₁, locs, cells, slots⟩ argsL.toArray) :
    ∃ (v : Option Value) (vm₁ : Vm) (B : Pt), s.WarmedH vm₁ ∧ Stand p l e R s m args below meth c B.U B.locs B.cells B.slots ∧ Post ⟨T.setVm vm₁, locs, cells, slots⟩ argsL.toArray v B ∧
      ∀ target, Steps p.tables e below (B.U.setTop { g with pc := g.pc + 3, stack := v.toList ++ rest }) target → Steps p.tables e below (T.setTop g) target := by
  obtain ⟨mk, methM, cM, hnamed, hmethM, -, -, -, -, -, -, hsigM⟩ := Cond.codeWith_spec hcode
  have hstatic : methM.isStatic = true := Cond.static_spec hnamed hmethM hstat
  obtain ⟨kP, hkP, -⟩ := className_of_methodNamed hnamed
  have hinitP : kP.init = .initialized := Cond.initialized_spec (findClass_of_methodNamed hnamed) hkP hinit
  obtain ⟨vm₁, X₁, hstep₁⟩ := X.invokestatic hexec hown hlink hnamed hmethM hstatic hkP hinitP hy (g := g) hg (argsL := argsL) (rest := rest) (hlen _ hsigM) hstack hdg
  obtain ⟨v, B, X', hpost, hsteps⟩ := hK m meth c ⟨T.setVm vm₁, locs, cells, slots⟩ { g with stack := rest } (.invokestatic index) mk argsL.toArray X₁ hg hsize hdg hW (X₁.named hnamed) (hpre vm₁ X₁.warmed)
  exact ⟨v, vm₁, B, X₁.warmed, X', hpost, fun target h => hstep₁ _ fun acts => by rw [doInvoke_state]; exact hsteps.trans h⟩
theorem vx_runSW {y : MethodName} {bytes cc : ByteArray} {maxL nL mc ms n index : Nat} {ret : Option FieldType} {hh : List (Nat × Nat × Nat × Nat)} {ws : List Cond} {rm : Room} {Pc : Array Value → State → Prop} {Qc : Array Value → State → Outcome → State → Prop} {free : Addr → Prop} {Ts : List Cond} {own : String} {As rest : List Value} {g : JFrame}
    (S : CallFix p m c cc nL s args Ts own) (hM : Met l y ws rm Pc Qc mc ms free) (cw : vx_CSW R s args own index y bytes maxL ret hh ws rm mc ms n) (hp : PreS s H Pc As)
    (hg : g.method = m) (hn : As.length = n) (hsize : g.locals.size = nL) (hstack : g.stack = As.reverse ++ rest) (hW : 2 * g.monitorRoom + (rest.map fun v => v.category).sum ≤ 8) (hdg : decode cc g.pc = .ok (.invokestatic index, 3)) (hf : cells + mc ≤ R.cells ∧ slots + ms ≤ R.slots) :
    va_Run p l e R s m args below meth c H locs cells slots mc ms g rest (Qc As.toArray) (free) := by
  obtain ⟨⟨hrc, hrs, hfr, hlo, hws, hcw⟩, hcode, hini, hy, hlen, hl, hstt⟩ := cw
  have hK : Back l R p e below s args y 3 8 (PreOf R mc ms Pc) (PostOf Qc mc ms free) := va_backW (hh := hh) (bytes := bytes) (maxL := maxL) (ret := ret) hM hp.1 hrc hrs hfr hlo hws hcw (fun a' U hW => word_at hW (Or.inl (by first | rfl | simp [Cond.onTables, Cond.keeps, Cond.steady])) hini)
  obtain ⟨hx, hb, hml, ho, -⟩ := S
  intro T hT X
  obtain ⟨v, vm₁, ⟨U', l2, c2, s2⟩, hW₁, X', ⟨g', mk, t, L, e1, e2, hq, h1, hL, h2, h3⟩, st⟩ := vx_callSW X hx (hh := hh) (bytes := bytes) (maxL := maxL) (ret := ret) ho hl hstt hini hcode hy hK hg (hsize.trans hml.symm) (argsL := As) (rest := rest) (fun sig h => hn.trans (hlen sig h)) hstack hW (by rw [hb]; exact hdg)
    (fun vm₁ hW₁ => ⟨hf.1, hf.2, hp.2 (T.setVm vm₁) hT hW₁⟩)
  dsimp only [Pt.U, Pt.locs, Pt.cells, Pt.slots] at X' e1 e2 h1 h2 h3 st
  subst h1; subst h2; subst h3
  exact ⟨v, (T.setVm vm₁).calling g' mk As.toArray, t, U', L, hT, X', hL, e1, e2, hq, st⟩
/-- not caught here, past rows that name other classes: it goes on to the caller -/
theorem vx_outP {p : Program} {l : Launch} {e : Env} {R : Room} {s : State} {m : MethodId} {args : Array Value} {below : List Frame} {meth : Method} {c : Code} {H : Heap} {locs : List Loc} {cells slots : Nat} {free : Addr → Prop} {ls : Array Slot} {rest : List Value} {Qc : Array Value → State → Outcome → State → Prop} {XC : String → State → State → Prop}
    {pc : Nat} {own E : String} {ce : Cell} {q : Addr} {mc ms : Nat} (hown : s.vm.findClass own = some m.cls) (hlocks : meth.locks = false)
    (hpass : ∀ z ∈ c.exceptionTable.toList, covers z pc = false ∨ (z.catchType ≠ 0 ∧ ∃ nm : String, (Cond.classLink own z.catchType nm).before args s = true ∧ va_Nc E nm s)) (hcell : H[q]? = some ce) (hv : ce.vm = .none) (hcl : s.vm.findClass E = some ce.cls)
    (hx : ∀ t : State, t.heap = H → s.vm.Alike t.vm → XC E s t) (hf : ∀ z ∈ locs, free z.base) (hc : cells ≤ mc) (hs : slots ≤ ms) :
    vx_W p l e R s m args below meth c H locs cells slots (vx_MQ below Qc XC args s mc ms free) (F0 m pc ls rest) q := by
  intro T hT X
  have hpl : e.platform.magicAccessors = ({} : Platform).magicAccessors := by rw [X.admits.platform]
  obtain ⟨vm', hW', X', st⟩ := Stand.outThrough X hlocks q (g := F0 m pc ls rest) rfl rfl rfl (cell := ce) (by rw [hT]; exact hcell) (by rw [hv]; rfl)
    (by obtain ⟨k9, h9, -⟩ := Vm.findClass_spec hcl; exact ⟨k9, h9⟩) (fun z hz => by
      rcases hpass z hz with h | ⟨hz0, nm, hl1, hn1⟩
      · exact Or.inl h
      · obtain ⟨c6, hc6, hcl6⟩ := Cond.classLink_spec hown hl1 e.platform hpl
        obtain ⟨a8, b8, h1, h2, h3⟩ := hn1
        cases Option.some.inj (h1.symm.trans hcl)
        cases Option.some.inj (h2.symm.trans hc6)
        exact Or.inr ⟨hz0, _, hcl6, h3⟩)
  obtain ⟨g₀, hfr⟩ := X'.frames_eq
  have hcell9 : ((T.setVm vm').setFrames (.throwing q :: below)).heap[q]? = some ce := by
    show T.heap[q]? = some ce
    rw [hT]; exact hcell
  have hend : Ended ((T.setVm vm').setFrames (.throwing q :: below)) below (.threw q) := State.frames_setFrames _ (State.cur_lt_of_frames hfr)
  refine ⟨(T.setVm vm').setFrames (.throwing q :: below), ?_, .threw q, X'.here.running, hend, Or.inr ⟨q, rfl, E, ce, locs, hx _ hT (X'.ends _).1.alike, hcell9, hv, hcl, (X'.ends _).1, (X'.ends _).2.mono hc hs, hf⟩⟩
  rw [X.pushThrowing_eq]
  exact st
/-- a thing of a world lies in the heap -/
theorem vx_lt {D : va_G} {cl : List vw_C} {ws : va_W} {H1 : Heap} (h : va_P D cl ws H1) {k : Nat} {q : Nat × va_E} (hk : ws[k]? = some q) : q.1 < H1.size := (h k q hk).lt
end VXS
/-! ===== END ===== -/
/-! ===== BEGIN methods with a table of their own: called by a name, returning or throwing ===== -/
section VXH
/-! vx_backW, vx_callVX, vx_callSX, vx_callVW, vx_runVW, vx_runVX, vx_runSX, vx_ofWH follow the same proofs as their sisters above (Free/Laws.lean, Shelf42/LK1.lean); vx_outP calls Shelf42/NT130.lean (outThrough). -/
section
variable {l : Launch} {R : Room} {p : Program} {e : Env} {below : List Frame} {s : State} {sargs : Array Value} {y : MethodName} {len W9 : Nat}
theorem vx_backW {ws : List Cond} {rm : Room} {Pc : Array Value → State → Prop} {Qc : Array Value → State → Outcome → State → Prop} {XC : String → State → State → Prop} {mc ms : Nat} {free : Addr → Prop} {bytes : ByteArray} {maxL : Nat} {ret : Option FieldType} {hh : List (Nat × Nat × Nat × Nat)}
    (hM : vx_Met l y ws rm Pc Qc XC mc ms free) (hblind : FrameBlind Pc) (hrc : rm.cells = mc) (hrs : rm.slots = ms)
    (hframes : rm.frames + 1 ≤ R.frames) (hlocals : W9 + (maxL + 11) + rm.locals ≤ R.locals)
    (hws : ∀ w ∈ ws, ∀ a' U, s.WarmedH U.vm → w.before a' U = true) (hcode : Cond.codeWith y bytes maxL ret hh ∈ ws) (hinit : ∀ a' U, s.WarmedH U.vm → (Cond.initialized y.cls).before a' U = true) :
    vx_Back l R p e below s sargs y len W9 (PreOf R mc ms Pc) (PostOf Qc mc ms free) (vx_Post XC mc ms free) := by
  intro m meth c A g ig mk a X hg hsize hdg hW hn hp
  have h1 : (headSpec ws rm).pre.before a A.U = true := atoms_intro fun w hw => hws w hw _ _ X.warmed
  have h2 : (Cond.codeWith y bytes maxL ret hh).before a A.U = true := hws _ hcode _ _ X.warmed
  have h3 : (Cond.initialized y.cls).before a A.U = true := hinit _ _ X.warmed
  have h4 : A.cells + (headSpec ws rm).room.cells ≤ R.cells := by rw [show (headSpec ws rm).room.cells = mc from hrc]; exact hp.1
  have h5 : A.slots + (headSpec ws rm).room.slots ≤ R.slots := by rw [show (headSpec ws rm).room.slots = ms from hrs]; exact hp.2.1
  have hPc : Pc a (A.U.calling g mk a) := hblind _ _ _ _ hp.2.2
  obtain ⟨U, Ls, c0, s0⟩ := A
  dsimp only [Pt.U, Pt.locs, Pt.cells, Pt.slots] at h1 h2 h3 h4 h5 X hn hPc ⊢
  obtain ⟨m9, methY, cY, hn9, hmY, hcY, -, hlY, -⟩ := Cond.codeWith_spec h2
  cases Option.some.inj (hn9.symm.trans hn)
  obtain ⟨kY, hkY, -⟩ := className_of_methodNamed hn
  have hinitY : kY.init = .initialized := Cond.initialized_spec (findClass_of_methodNamed hn) hkY h3
  have h : At U g.method c below := by rw [hg]; exact X.here
  have hlocals9 : W9 + (maxL + 11) + (headSpec ws rm).room.locals ≤ R.locals := hlocals
  have happ : (headSpec ws rm).appliesLoose y e.platform (U.calling g mk a) = true :=
    Spec.appliesLoose_calling (g := g) h hdg hn hkY hinitY
      (X.room_calling (g := g) (R' := (headSpec ws rm).room) hsize hmY hcY hframes (by rw [hlY]; omega) h4 h5) h1
  obtain ⟨mid, hmid⟩ := h.above
  have hfr : (U.setTop g).frames = (.java g :: mid) ++ below := by rw [State.frames_setTop' g h.top, hmid]; rfl
  obtain ⟨o, s₂, hsteps, -, hend, hq⟩ := Steps.callFree hM p X.admits X.cas X.clock (acts := []) hfr happ hPc trivial
  have hq' : vx_Q Qc XC mc ms free a (U.calling g mk a) o s₂ := hq
  rw [State.frames_setTop' g h.top] at hend
  obtain ⟨g₀, hg0⟩ := Option.isSome_iff_exists.mp h.top
  obtain ⟨r, hr⟩ := State.topJava?_eq_some.mp hg0
  have hr' : (({ U with heap := s₂.heap, slotsUsed := s₂.slotsUsed } : State).setVm s₂.vm).frames = .java g₀ :: r := hr
  rcases hq' with ⟨hqc, L, hfe, hL⟩ | ⟨q, rfl, E, ce, L, hx, hce, hcv, hcl, hW₂, hsm, hL⟩
  · obtain ⟨⟨v, rfl⟩, hW₂, e2, q2, q3, q4, q5, q6⟩ := id hfe
    have e3 : s₂ = ({ (U.calling g mk a).setFrames s₂.frames with heap := s₂.heap, slotsUsed := s₂.slotsUsed } : State).setVm s₂.vm := by
      have : s₂ = ({ s₂ with vm := (U.calling g mk a).vm } : State).setVm s₂.vm := rfl
      rw [e2] at this
      exact this
    obtain ⟨c₂, i₂, len₂, hc₂, hd₂, hf₂⟩ := hend
    have hW' : U.WarmedH s₂.vm := hW₂
    have hcc : c₂ = c := by
      have h1 : s₂.code? g.method = U.code? g.method := by
        rw [State.code?_eq, State.code?_eq, hW'.alike.method?]
      exact Option.some.inj (hc₂.symm.trans (h1.trans h.code))
    subst hcc
    have hlen : len₂ = len := by rw [hdg] at hd₂; cases hd₂; rfl
    subst hlen
    have hs₂ : s₂ = (({ U with heap := s₂.heap, slotsUsed := s₂.slotsUsed } : State).setVm s₂.vm).setTop { g with pc := g.pc + len₂, stack := v.toList ++ g.stack } := by
      refine e3.trans ?_
      rw [hf₂, State.calling_eq h.top, State.setFrames_setFrames, State.setTop_of_frames _ hr', hr]
      rfl
    have hsame : U.sameButNew ({ U with heap := s₂.heap, slotsUsed := s₂.slotsUsed } : State) L mc ms := by
      refine ⟨?_, q2, q3, q4, q5, q6⟩
      obtain ⟨t, ht, -⟩ := State.frames_cons hr
      show ({ U with heap := s₂.heap, slotsUsed := s₂.slotsUsed } : State) = { U.setFrames U.frames with heap := s₂.heap, slotsUsed := s₂.slotsUsed }
      rw [State.setFrames_self ht]
    subst hg
    refine Or.inl ⟨v, ⟨(({ U with heap := s₂.heap, slotsUsed := s₂.slotsUsed } : State).setVm s₂.vm), Ls ++ L, c0 + mc, s0 + ms⟩,
      ⟨X.admits, X.cas, X.clock, X.frames, X.room, X.hears, X.method, X.code, (X.here.setHeapUsed s₂.heap s₂.slotsUsed).setVm hW'.alike, X.tail, State.WarmedH.trans X.warmed hW', X.limits, X.bytes, X.same.trans (hsame.setVm s.vm)⟩,
      ⟨g, mk, s₂, L, rfl, rfl, hqc, rfl, hL, rfl, rfl⟩, ?_⟩
    show Steps p.tables e below _ ((({ U with heap := s₂.heap, slotsUsed := s₂.slotsUsed } : State).setVm s₂.vm).setTop { g with pc := g.pc + len₂, stack := v.toList ++ g.stack })
    rw [← hs₂]
    exact hsteps
  · obtain ⟨e2, q2, q3, q4, q5, q6⟩ := id hsm
    have e3 : s₂ = ({ (U.calling g mk a).setFrames s₂.frames with heap := s₂.heap, slotsUsed := s₂.slotsUsed } : State).setVm s₂.vm := by
      have : s₂ = ({ s₂ with vm := (U.calling g mk a).vm } : State).setVm s₂.vm := rfl
      rw [e2] at this
      exact this
    have hf₂ : s₂.frames = .throwing q :: .java g :: U.frames.tail := hend
    have hW' : U.WarmedH s₂.vm := hW₂
    have hs₂ : s₂ = ((({ U with heap := s₂.heap, slotsUsed := s₂.slotsUsed } : State).setVm s₂.vm).setTop g).pushFrame (.throwing q) := by
      refine e3.trans ?_
      rw [hf₂, State.calling_eq h.top, State.setFrames_setFrames, State.pushFrame, State.frames_setTop _ hr', State.setTop_of_frames _ hr', State.setFrames_setFrames, hr]
      rfl
    have hsame : U.sameButNew ({ U with heap := s₂.heap, slotsUsed := s₂.slotsUsed } : State) L mc ms := by
      refine ⟨?_, q2, q3, q4, q5, q6⟩
      obtain ⟨t, ht, -⟩ := State.frames_cons hr
      show ({ U with heap := s₂.heap, slotsUsed := s₂.slotsUsed } : State) = { U.setFrames U.frames with heap := s₂.heap, slotsUsed := s₂.slotsUsed }
      rw [State.setFrames_self ht]
    subst hg
    refine Or.inr ⟨q, ⟨(({ U with heap := s₂.heap, slotsUsed := s₂.slotsUsed } : State).setVm s₂.vm), Ls ++ L, c0 + mc, s0 + ms⟩,
      ⟨X.admits, X.cas, X.clock, X.frames, X.room, X.hears, X.method, X.code, (X.here.setHeapUsed s₂.heap s₂.slotsUsed).setVm hW'.alike, X.tail, State.WarmedH.trans X.warmed hW', X.limits, X.bytes, X.same.trans (hsame.setVm s.vm)⟩,
      ⟨g, mk, s₂, L, E, ce, rfl, rfl, hx, hce, hcv, hcl, rfl, hL, rfl, rfl⟩, ?_⟩
    show Steps p.tables e below _ (((({ U with heap := s₂.heap, slotsUsed := s₂.slotsUsed } : State).setVm s₂.vm).setTop g).pushFrame (.throwing q))
    rw [← hs₂]
    exact hsteps
end
variable {p : Program} {l : Launch} {e : Env} {R : Room} {s : State} {m : MethodId} {args : Array Value} {below : List Frame} {meth : Method} {c : Code} {T : State} {H : Heap} {locs : List Loc} {cells slots : Nat}
theorem vx_callVX (X : Stand p l e R s m args below meth c T locs cells slots) (hexec : p.tables.exec = Jvm.exec) {own C : String} {index : Nat} {y : MethodName} {bytes : ByteArray} {maxL : Nat} {ret : Option FieldType} {hh : List (Nat × Nat × Nat × Nat)}
    (hown : s.vm.findClass own = some m.cls) (hlink : (Cond.methodLink own index y).before args s = true) (hinst : (Cond.instanceMethod y).before args s = true) (hsel : (Cond.selects C y y).before args s = true)
    (hcode : (Cond.codeWith y bytes maxL ret hh).before args s = true) (hy : y.cls ≠ "java/lang/invoke/MethodHandle" ∧ y.cls ≠ "java/lang/invoke/VarHandle")
    {W9 : Nat} {Pre : Pt → Array Value → Prop} {Post : Pt → Array Value → Option Value → Pt → Prop} {PostX : Pt → Array Value → Addr → Pt → Prop} (hK : vx_Back l R p e below s args y 3 W9 Pre Post PostX)
    {b : Addr} {cellB : Cell} (hcell : T.heap[b]? = some cellB) (hobj : cellB.vm.isStatics = false) (hcls : s.vm.findClass C = some cellB.cls)
    {g : JFrame} (hg : g.method = m) (hsize : g.locals.size = c.maxLocals) {argsL rest : List Value} (hlen : ∀ sig, parseMethodDescriptor y.desc = some sig → argsL.length = sig.parameters.length)
    (hstack : g.stack = argsL.reverse ++ .ref b :: rest) (hW : 2 * g.monitorRoom + (rest.map fun v => v.category).sum ≤ W9) (hdg : decode c.code g.pc = .ok (.invokevirtual index, 3))
    (hpre : ∀ vm₁, s.WarmedH vm₁ → Pre ⟨T.setVm vm₁, locs, cells, slots⟩ (Value.ref b :: argsL).toArray) :
    (∃ (v : Option Value) (vm₁ : Vm) (B : Pt), s.WarmedH vm₁ ∧ Stand p l e R s m args below meth c B.U B.locs B.cells B.slots ∧ Post ⟨T.setVm vm₁, locs, cells, slots⟩ (Value.ref b :: argsL).toArray v B ∧
      ∀ target, Steps p.tables e below (B.U.setTop { g with pc := g.pc + 3, stack := v.toList ++ rest }) target → Steps p.tables e below (T.setTop g) target) ∨
    (∃ (q : Addr) (vm₁ : Vm) (B : Pt), s.WarmedH vm₁ ∧ Stand p l e R s m args below meth c B.U B.locs B.cells B.slots ∧ PostX ⟨T.setVm vm₁, locs, cells, slots⟩ (Value.ref b :: argsL).toArray q B ∧
      Steps p.tables e below (T.setTop g) ((B.U.setTop { g with stack := rest }).pushFrame (.throwing q))) := by
  obtain ⟨mk, methM, hnamed, hmethM, hstM, habM⟩ := Cond.instanceMethod_spec hinst
  obtain ⟨m8, methM', cM, hn8, hmethM', -, -, -, -, -, -, hsigM⟩ := Cond.codeWith_spec hcode
  cases Option.some.inj (hn8.symm.trans hnamed)
  cases hmethM.symm.trans hmethM'
  obtain ⟨c2, r2, m2, q1, q2, q3, q4, kP, hkP, hkPi⟩ := Cond.selects_spec hsel
  cases hcls.symm.trans q1
  cases (State.methodFound?_of_named hnamed hy).symm.trans q2
  cases hnamed.symm.trans q3
  have hselP : selectMethod e.platform s.vm cellB.cls mk = .method mk := by rw [Launch.admits_selectMethod X.admits]; exact q4
  obtain ⟨vm₁, X₁, hstep₁⟩ := X.invokevirtual hexec hown hlink hnamed hmethM hstM hkP hkPi hy (a := b) (cell := cellB) hcell
    (fun z h => by rw [h] at hobj; cases hobj) hselP hmethM habM hkP hkPi (g := g) hg (argsL := argsL) (rest := rest) (hlen _ hsigM) hstack hdg
  rcases hK m meth c ⟨T.setVm vm₁, locs, cells, slots⟩ { g with stack := rest } (.invokevirtual index) mk (Value.ref b :: argsL).toArray X₁ hg hsize hdg hW (X₁.named hnamed) (hpre vm₁ X₁.warmed) with ⟨v, B, X', hpost, hsteps⟩ | ⟨q, B, X', hpost, hsteps⟩
  · exact Or.inl ⟨v, vm₁, B, X₁.warmed, X', hpost, fun target h => hstep₁ _ fun acts => by rw [doInvoke_state]; exact hsteps.trans h⟩
  · exact Or.inr ⟨q, vm₁, B, X₁.warmed, X', hpost, hstep₁ _ fun acts => by rw [doInvoke_state]; exact hsteps⟩
theorem vx_callSX (X : Stand p l e R s m args below meth c T locs cells slots) (hexec : p.tables.exec = Jvm.exec) {own : String} {index : Nat} {y : MethodName} {bytes : ByteArray} {maxL : Nat} {ret : Option FieldType} {hh : List (Nat × Nat × Nat × Nat)}
    (hown : s.vm.findClass own = some m.cls) (hlink : (Cond.methodLink own index y).before args s = true) (hstat : (Cond.static y).before args s = true) (hinit : (Cond.initialized y.cls).before args s = true)
    (hcode : (Cond.codeWith y bytes maxL ret hh).before args s = true) (hy : y.cls ≠ "java/lang/invoke/MethodHandle" ∧ y.cls ≠ "java/lang/invoke/VarHandle")
    {W9 : Nat} {Pre : Pt → Array Value → Prop} {Post : Pt → Array Value → Option Value → Pt → Prop} {PostX : Pt → Array Value → Addr → Pt → Prop} (hK : vx_Back l R p e below s args y 3 W9 Pre Post PostX)
    {g : JFrame} (hg : g.method = m) (hsize : g.locals.size = c.maxLocals) {argsL rest : List Value} (hlen : ∀ sig, parseMethodDescriptor y.desc = some sig → argsL.length = sig.parameters.length)
    (hstack : g.stack = argsL.reverse ++ rest) (hW : 2 * g.monitorRoom + (rest.map fun v => v.category).sum ≤ W9) (hdg : decode c.code g.pc = .ok (.invokestatic index, 3))
    (hpre : ∀ vm₁, s.WarmedH vm₁ → Pre ⟨T.setVm vm₁, locs, cells, slots⟩ argsL.toArray) :
    (∃ (v : Option Value) (vm₁ : Vm) (B : Pt), s.WarmedH vm₁ ∧ Stand p l e R s m args below meth c B.U B.locs B.cells B.slots ∧ Post ⟨T.setVm vm₁, locs, cells, slots⟩ argsL.toArray v B ∧
      ∀ target, Steps p.tables e below (B.U.setTop { g with pc := g.pc + 3, stack := v.toList ++ rest }) target → Steps p.tables e below (T.setTop g) target) ∨
    (∃ (q : Addr) (vm₁ : Vm) (B : Pt), s.WarmedH vm₁ ∧ Stand p l e R s m args below meth c B.U B.locs B.cells B.slots ∧ PostX ⟨T.setVm vm₁, locs, cells, slots⟩ argsL.toArray q B ∧
      Steps p.tables e below (T.setTop g) ((B.U.setTop { g with stack := rest }).pushFrame (.throwing q))) := by
  obtain ⟨mk, methM, cM, hnamed, hmethM, -, -, -, -, -, -, hsigM⟩ := Cond.codeWith_spec hcode
  have hstatic : methM.isStatic = true := Cond.static_spec hnamed hmethM hstat
  obtain ⟨kP, hkP, -⟩ := className_of_methodNamed hnamed
  have hinitP : kP.init = .initialized := Cond.initialized_spec (findClass_of_methodNamed hnamed) hkP hinit
  obtain ⟨vm₁, X₁, hstep₁⟩ := X.invokestatic hexec hown hlink hnamed hmethM hstatic hkP hinitP hy (g := g) hg (argsL := argsL) (rest := rest) (hlen _ hsigM) hstack hdg
  rcases hK m meth c ⟨T.setVm vm₁, locs, cells, slots⟩ { g with stack := rest } (.invokestatic index) mk argsL.toArray X₁ hg hsize hdg hW (X₁.named hnamed) (hpre vm₁ X₁.warmed) with ⟨v, B, X', hpost, hsteps⟩ | ⟨q, B, X', hpost, hsteps⟩
  · exact Or.inl ⟨v, vm₁, B, X₁.warmed, X', hpost, fun target h => hstep₁ _ fun acts => by rw [doInvoke_state]; exact hsteps.trans h⟩
  · exact Or.inr ⟨q, vm₁, B, X₁.warmed, X', hpost, hstep₁ _ fun acts => by rw [doInvoke_state]; exact hsteps⟩
theorem vx_callVW (X : Stand p l e R s m args below meth c T locs cells slots) (hexec : p.tables.exec = Jvm.exec) {own C : String} {index : Nat} {y : MethodName} {bytes : ByteArray} {maxL : Nat} {ret : Option FieldType} {hh : List (Nat × Nat × Nat × Nat)}
    (hown : s.vm.findClass own = some m.cls) (hlink : (Cond.methodLink own index y).before args s = true) (hinst : (Cond.instanceMethod y).before args s = true) (hsel : (Cond.selects C y y).before args s = true)
    (hcode : (Cond.codeWith y bytes maxL ret hh).before args s = true) (hy : y.cls ≠ "java/lang/invoke/MethodHandle" ∧ y.cls ≠ "java/lang/invoke/VarHandle")
    {W9 : Nat} {Pre : Pt → Array Value → Prop} {Post : Pt → Array Value → Option Value → Pt → Prop} (hK : Back l R p e below s args y 3 W9 Pre Post)
    {b : Addr} {cellB : Cell} (hcell : T.heap[b]? = some cellB) (hobj : cellB.vm.isStatics = false) (hcls : s.vm.findClass C = some cellB.cls)
    {g : JFrame} (hg : g.method = m) (hsize : g.locals.size = c.maxLocals) {argsL rest : List Value} (hlen : ∀ sig, parseMethodDescriptor y.desc = some sig → argsL.length = sig.parameters.length)
    (hstack : g.stack = argsL.reverse ++ .ref b :: rest) (hW : 2 * g.monitorRoom + (rest.map fun v => v.category).sum ≤ W9) (hdg : decode c.code g.pc = .ok (.invokevirtual index, 3))
    (hpre : ∀ vm₁, s.WarmedH vm₁ → Pre ⟨T.setVm vm₁, locs, cells, slots⟩ (Value.ref b :: argsL).toArray) :
    ∃ (v : Option Value) (vm₁ : Vm) (B : Pt), s.WarmedH vm₁ ∧ Stand p l e R s m args below meth c B.U B.locs B.cells B.slots ∧ Post ⟨T.setVm vm₁, locs, cells, slots⟩ (Value.ref b :: argsL).toArray v B ∧
      ∀ target, Steps p.tables e below (B.U.setTop { g with pc := g.pc + 3, stack := v.toList ++ rest }) target → Steps p.tables e below (T.setTop g) target := by
  obtain ⟨mk, methM, hnamed, hmethM, hstM, habM⟩ := Cond.instanceMethod_spec hinst
  obtain ⟨m8, methM', cM, hn8, hmethM', -, -, -, -, -, -, hsigM⟩ := Cond.codeWith_spec hcode
  cases Option.some.inj (hn8.symm.trans hnamed)
  cases hmethM.symm.trans hmethM'
  obtain ⟨c2, r2, m2, q1, q2, q3, q4, kP, hkP, hkPi⟩ := Cond.selects_spec hsel
  cases hcls.symm.trans q1
  cases (State.methodFound?_of_named hnamed hy).symm.trans q2
  cases hnamed.symm.trans q3
  have hselP : selectMethod e.platform s.vm cellB.cls mk = .method mk := by rw [Launch.admits_selectMethod X.admits]; exact q4
  obtain ⟨vm₁, X₁, hstep₁⟩ := X.invokevirtual hexec hown hlink hnamed hmethM hstM hkP hkPi hy (a := b) (cell := cellB) hcell
    (fun z h => by rw [h] at hobj; cases hobj) hselP hmethM habM hkP hkPi (g := g) hg (argsL := argsL) (rest := rest) (hlen _ hsigM) hstack hdg
  obtain ⟨v, B, X', hpost, hsteps⟩ := hK m meth c ⟨T.setVm vm₁, locs, cells, slots⟩ { g with stack := rest } (.invokevirtual index) mk (Value.ref b :: argsL).toArray X₁ hg hsize hdg hW (X₁.named hnamed) (hpre vm₁ X₁.warmed)
  exact ⟨v, vm₁, B, X₁.warmed, X', hpost, fun target h => hstep₁ _ fun acts => by rw [doInvoke_state]; exact hsteps.trans h⟩
abbrev vx_CVW (R : Room) (s : State) (args : Array Value) (own C : String) (index : Nat) (y : MethodName) (bytes : ByteArray) (maxL : Nat) (ret : Option FieldType) (hh : List (Nat × Nat × Nat × Nat)) (ws : List Cond) (rm : Room) (mc ms n : Nat) : Prop :=
  (rm.cells = mc ∧ rm.slots = ms ∧ rm.frames + 1 ≤ R.frames ∧ 8 + (maxL + 11) + rm.locals ≤ R.locals ∧ (∀ w ∈ ws, ∀ (a' : Array Value) (U : State), s.WarmedH U.vm → w.before a' U = true) ∧ Cond.codeWith y bytes maxL ret hh ∈ ws) ∧
  (Cond.codeWith y bytes maxL ret hh).before args s = true ∧ (Cond.initialized y.cls).before args s = true ∧ (y.cls ≠ "java/lang/invoke/MethodHandle" ∧ y.cls ≠ "java/lang/invoke/VarHandle") ∧
  (∀ sig, parseMethodDescriptor y.desc = some sig → n = sig.parameters.length) ∧ (Cond.methodLink own index y).before args s = true ∧ (Cond.instanceMethod y).before args s = true ∧ (Cond.selects C y y).before args s = true
theorem vx_cwVW {own C : String} {index maxL mc ms : Nat} {y : MethodName} {bytes : ByteArray} {ret : Option FieldType} {hh : List (Nat × Nat × Nat × Nat)} {Ts ws ws' : List Cond} {rm : Room} (n : Nat) (ht : ∀ w ∈ Ts, w.before args s = true) (hT : GoodIn Ts (wsV own index C y ws)) (hw : ws = Cond.codeWith y bytes maxL ret hh :: ws') (hrc : rm.cells = mc) (hrs : rm.slots = ms)
    (hd : y.cls = C ∧ y.cls ≠ "java/lang/invoke/MethodHandle" ∧ y.cls ≠ "java/lang/invoke/VarHandle" ∧ (parseMethodDescriptor y.desc).map (fun d => d.parameters.length) = some n) (hR : rm.frames + 1 ≤ R.frames ∧ 8 + (maxL + 11) + rm.locals ≤ R.locals) :
    vx_CVW R s args own C index y bytes maxL ret hh ws rm mc ms n := by
  obtain ⟨hC, hd⟩ := hd
  subst hC
  have ok : ∀ w ∈ wsV own index y.cls y ws, w.before args s = true := fun w h => ht w (hT w h).1
  have hG : GoodIn Ts ws := fun w h => hT w (by unfold wsV; exact List.mem_append_right _ h)
  have hc : Cond.codeWith y bytes maxL ret hh ∈ ws := by rw [hw]; exact List.mem_cons_self
  refine ⟨⟨hrc, hrs, hR.1, hR.2, pay_in ht hG, hc⟩, ht _ (hG _ hc).1, ok _ (by simp [wsV]), ⟨hd.1, hd.2.1⟩, fun sig h => ?_, ok _ (by simp [wsV]), ok _ (by simp [wsV]), ok _ (by simp [wsV])⟩
  have h2 := hd.2.2
  rw [h] at h2
  exact (Option.some.inj h2).symm
theorem vx_runVW {y : MethodName} {bytes cc : ByteArray} {maxL nL mc ms n index : Nat} {ret : Option FieldType} {hh : List (Nat × Nat × Nat × Nat)} {ws : List Cond} {rm : Room} {Pc : Array Value → State → Prop} {Qc : Array Value → State → Outcome → State → Prop} {free : Addr → Prop} {Ts : List Cond} {own C : String} {b : Addr} {As rest : List Value} {g : JFrame}
    (S : CallFix p m c cc nL s args Ts own) (hM : Met l y ws rm Pc Qc mc ms free) (cw : vx_CVW R s args own C index y bytes maxL ret hh ws rm mc ms n) (hp : PreV s H C b Pc As)
    (hg : g.method = m) (hn : As.length = n) (hsize : g.locals.size = nL) (hstack : g.stack = As.reverse ++ .ref b :: rest) (hW : 2 * g.monitorRoom + (rest.map fun v => v.category).sum ≤ 8) (hdg : decode cc g.pc = .ok (.invokevirtual index, 3)) (hf : cells + mc ≤ R.cells ∧ slots + ms ≤ R.slots) :
    va_Run p l e R s m args below meth c H locs cells slots mc ms g rest (Qc (Value.ref b :: As).toArray) free := by
  obtain ⟨⟨hrc, hrs, hfr, hlo, hws, hcw⟩, hcode, hini, hy, hlen, hl, hin, hse⟩ := cw
  have hK : Back l R p e below s args y 3 8 (PreOf R mc ms Pc) (PostOf Qc mc ms free) := va_backW (hh := hh) (bytes := bytes) (maxL := maxL) (ret := ret) hM hp.1 hrc hrs hfr hlo hws hcw (fun a' U hW => word_at hW (Or.inl (by first | rfl | simp [Cond.onTables, Cond.keeps, Cond.steady])) hini)
  obtain ⟨hx, hb, hml, ho, -⟩ := S
  obtain ⟨-, ⟨cellB, hcB, hoB, hclB⟩, hPc⟩ := hp
  intro T hT X
  obtain ⟨v, vm₁, ⟨U', l2, c2, s2⟩, hW₁, X', ⟨g', mk, t, L, e1, e2, hq, h1, hL, h2, h3⟩, st⟩ := vx_callVW X hx (C := C) (hh := hh) (bytes := bytes) (maxL := maxL) (ret := ret) ho hl hin hse hcode hy hK (by rw [hT]; exact hcB) hoB hclB hg (hsize.trans hml.symm) (argsL := As) (rest := rest) (fun sig h => hn.trans (hlen sig h)) hstack hW (by rw [hb]; exact hdg)
    (fun vm₁ hW₁ => ⟨hf.1, hf.2, hPc (T.setVm vm₁) hT hW₁⟩)
  dsimp only [Pt.U, Pt.locs, Pt.cells, Pt.slots] at X' e1 e2 h1 h2 h3 st
  subst h1; subst h2; subst h3
  exact ⟨v, (T.setVm vm₁).calling g' mk (Value.ref b :: As).toArray, t, U', L, hT, X', hL, e1, e2, hq, st⟩
section
variable {y : MethodName} {bytes cc : ByteArray} {maxL nL mc ms n index : Nat} {ret : Option FieldType} {ws : List Cond} {rm : Room} {Pc : Array Value → State → Prop} {Qc : Array Value → State → Outcome → State → Prop} {XC : String → State → State → Prop} {free : Addr → Prop} {Ts : List Cond} {own C : String} {b : Addr} {As rest : List Value} {g : JFrame}
theorem vx_runVX {hh : List (Nat × Nat × Nat × Nat)} (S : CallFix p m c cc nL s args Ts own) (hM : vx_Met l y ws rm Pc Qc XC mc ms free) (cw : vx_CVW R s args own C index y bytes maxL ret hh ws rm mc ms n) (hp : PreV s H C b Pc As)
    (hg : g.method = m) (hn : As.length = n) (hsize : g.locals.size = nL) (hstack : g.stack = As.reverse ++ .ref b :: rest) (hW : 2 * g.monitorRoom + (rest.map fun v => v.category).sum ≤ 8) (hdg : decode cc g.pc = .ok (.invokevirtual index, 3)) (hf : cells + mc ≤ R.cells ∧ slots + ms ≤ R.slots) :
    vx_Run p l e R s m args below meth c H locs cells slots mc ms g rest (Qc (Value.ref b :: As).toArray) XC free := by
  obtain ⟨⟨hrc, hrs, hfr, hlo, hws, hcw⟩, hcode, hini, hy, hlen, hl, hin, hse⟩ := cw
  have hK : vx_Back l R p e below s args y 3 8 (PreOf R mc ms Pc) (PostOf Qc mc ms free) (vx_Post XC mc ms free) := vx_backW (hh := hh) (bytes := bytes) (maxL := maxL) (ret := ret) hM hp.1 hrc hrs hfr hlo hws hcw (fun a' U hW => word_at hW (Or.inl (by first | rfl | simp [Cond.onTables, Cond.keeps, Cond.steady])) hini)
  obtain ⟨hx, hb, hml, ho, -⟩ := S
  obtain ⟨-, ⟨cellB, hcB, hoB, hclB⟩, hPc⟩ := hp
  intro T hT X
  rcases vx_callVX X hx (C := C) (hh := hh) (bytes := bytes) (maxL := maxL) (ret := ret) ho hl hin hse hcode hy hK (by rw [hT]; exact hcB) hoB hclB hg (hsize.trans hml.symm) (argsL := As) (rest := rest) (fun sig h => hn.trans (hlen sig h)) hstack hW (by rw [hb]; exact hdg)
    (fun vm₁ hW₁ => ⟨hf.1, hf.2, hPc (T.setVm vm₁) hT hW₁⟩) with ⟨v, vm₁, ⟨U', l2, c2, s2⟩, hW₁, X', ⟨g', mk, t, L, e1, e2, hq, h1, hL, h2, h3⟩, st⟩ | ⟨q, vm₁, ⟨U', l2, c2, s2⟩, hW₁, X', ⟨g', mk, t, L, E, ce, e1, e2, hq, hce, hcv, hcl, h1, hL, h2, h3⟩, st⟩
  · dsimp only [Pt.U, Pt.locs, Pt.cells, Pt.slots] at X' e1 e2 h1 h2 h3 st
    subst h1; subst h2; subst h3
    exact Or.inl ⟨v, (T.setVm vm₁).calling g' mk (Value.ref b :: As).toArray, t, U', L, hT, X', hL, e1, e2, hq, st⟩
  · dsimp only [Pt.U, Pt.locs, Pt.cells, Pt.slots] at X' e1 e2 h1 h2 h3 st hcl
    subst h1; subst h2; subst h3
    exact Or.inr ⟨q, (T.setVm vm₁).calling g' mk (Value.ref b :: As).toArray, t, U', L, E, ce, hT, X', hL, e1, e2, hq, hce, hcv, vx_cls hW₁ hcl, st⟩
theorem vx_runSX {hh : List (Nat × Nat × Nat × Nat)} (S : CallFix p m c cc nL s args Ts own) (hM : vx_Met l y ws rm Pc Qc XC mc ms free) (cw : vx_CSW R s args own index y bytes maxL ret hh ws rm mc ms n) (hp : PreS s H Pc As)
    (hg : g.method = m) (hn : As.length = n) (hsize : g.locals.size = nL) (hstack : g.stack = As.reverse ++ rest) (hW : 2 * g.monitorRoom + (rest.map fun v => v.category).sum ≤ 8) (hdg : decode cc g.pc = .ok (.invokestatic index, 3)) (hf : cells + mc ≤ R.cells ∧ slots + ms ≤ R.slots) :
    vx_Run p l e R s m args below meth c H locs cells slots mc ms g rest (Qc As.toArray) XC free := by
  obtain ⟨⟨hrc, hrs, hfr, hlo, hws, hcw⟩, hcode, hini, hy, hlen, hl, hstt⟩ := cw
  have hK : vx_Back l R p e below s args y 3 8 (PreOf R mc ms Pc) (PostOf Qc mc ms free) (vx_Post XC mc ms free) := vx_backW (hh := hh) (bytes := bytes) (maxL := maxL) (ret := ret) hM hp.1 hrc hrs hfr hlo hws hcw (fun a' U hW => word_at hW (Or.inl (by first | rfl | simp [Cond.onTables, Cond.keeps, Cond.steady])) hini)
  obtain ⟨hx, hb, hml, ho, -⟩ := S
  intro T hT X
  rcases vx_callSX X hx (hh := hh) (bytes := bytes) (maxL := maxL) (ret := ret) ho hl hstt hini hcode hy hK hg (hsize.trans hml.symm) (argsL := As) (rest := rest) (fun sig h => hn.trans (hlen sig h)) hstack hW (by rw [hb]; exact hdg)
    (fun vm₁ hW₁ => ⟨hf.1, hf.2, hp.2 (T.setVm vm₁) hT hW₁⟩) with ⟨v, vm₁, ⟨U', l2, c2, s2⟩, hW₁, X', ⟨g', mk, t, L, e1, e2, hq, h1, hL, h2, h3⟩, st⟩ | ⟨q, vm₁, ⟨U', l2, c2, s2⟩, hW₁, X', ⟨g', mk, t, L, E, ce, e1, e2, hq, hce, hcv, hcl, h1, hL, h2, h3⟩, st⟩
  · dsimp only [Pt.U, Pt.locs, Pt.cells, Pt.slots] at X' e1 e2 h1 h2 h3 st
    subst h1; subst h2; subst h3
    exact Or.inl ⟨v, (T.setVm vm₁).calling g' mk As.toArray, t, U', L, hT, X', hL, e1, e2, hq, st⟩
  · dsimp only [Pt.U, Pt.locs, Pt.cells, Pt.slots] at X' e1 e2 h1 h2 h3 st hcl
    subst h1; subst h2; subst h3
    exact Or.inr ⟨q, (T.setVm vm₁).calling g' mk As.toArray, t, U', L, E, ce, hT, X', hL, e1, e2, hq, hce, hcv, vx_cls hW₁ hcl, st⟩
end
end VXH
theorem vx_ofWH {l : Launch} {y : MethodName} {ws ws' : List Cond} {rm : Room} {Pc : Array Value → State → Prop} {Qc : Array Value → State → Outcome → State → Prop} {XC : String → State → State → Prop} {mc ms : Nat} {free : Addr → Prop} {cc : ByteArray} {maxL : Nat} {ret : Option FieldType} {hh : List (Nat × Nat × Nat × Nat)}
    (hy : plainName y.cls = true) (hw : ws = Cond.codeWith y cc maxL ret hh :: ws')
    (body : ∀ p e s m args below meth c s₁, BodyLoose p l y (headSpec ws rm) cc maxL ret e s m args below meth c s₁ → c.maxLocals = maxL → Pc args s →
      W p l e (headSpec ws rm).room s m args below meth c s.heap [] 0 0 (vx_MQ below Qc XC args s mc ms free) (entryFrame m args maxL)) : vx_Met l y ws rm Pc Qc XC mc ms free := by
  refine MetFree.of_bodyS (code := cc) (maxLocals := maxL) (ret := ret) hy ?_ ?_
  · intro args s m h hn
    obtain ⟨m9, meth, c, hn9, h1, h2, h3, h4, -, h5, h6, -⟩ := Cond.codeWith_spec (atoms_spec (ws := ws) h _ (by rw [hw]; exact List.mem_cons_self))
    cases hn.symm.trans hn9
    exact ⟨meth, c, h1, h2, h3, h4, h5, h6⟩
  · intro p e s m args below meth c s₁ B hml hP _
    have hh0 : s₁.heap = s.heap := by rw [B.state]; rfl
    obtain ⟨t, a1, o, b1, b2, b3⟩ := body p e s m args below meth c s₁ B hml hP s₁ hh0 (Stand.of_body B)
    exact ⟨t, o, a1, b1, b2, b3⟩
/-! ===== END ===== -/
end
section
/-! ===== BEGIN printed: names, fields, word lists, decode rows ===== -/
def RX0 : String := "StemShapes$Kept"
def TX0 : u_T := fun k => match k with
  | 0 => ("StemShapes$Kept", "x", "[D", true)
  | 1 => ("StemShapes$Kept", "y", "[D", true)
  | _ => ("StemShapes$Kept", "isThere", "Z", false)
def tyX0 : Nat → FieldType := fun k => match k with
  | 0 => .array .double
  | 1 => .array .double
  | _ => .boolean
abbrev wsX00 : List Cond := u_ws RX0 TX0 3
theorem nmX0 : ∀ a, a < 3 → ∀ b, b < 3 → a ≠ b → (TX0 a).2.1 ≠ (TX0 b).2.1 := by decide +kernel
theorem tyX0_ok : ∀ k, k < 3 → parseFieldDescriptor (TX0 k).2.2.1 = some (tyX0 k) := by decide +kernel
abbrev cX0_init : ByteArray := prog_2_method_1_code
def yX0_init : MethodName := ⟨RX0, "<init>", "(I)V"⟩
abbrev cX0_take : ByteArray := prog_2_method_2_code
def yX0_take : MethodName := ⟨RX0, "take", "(LStemShapes$Stem;)V"⟩
abbrev cX0_distance : ByteArray := prog_2_method_3_code
def yX0_distance : MethodName := ⟨RX0, "distance", "(LStemShapes$Stem;I)D"⟩
abbrev cX0_nearestTurn : ByteArray := prog_2_method_4_code
def yX0_nearestTurn : MethodName := ⟨RX0, "nearestTurn", "(LStemShapes$Stem;)I"⟩
abbrev cX0_turnedX : ByteArray := prog_2_method_5_code
def yX0_turnedX : MethodName := ⟨RX0, "turnedX", "(II)D"⟩
abbrev cX0_turnedY : ByteArray := prog_2_method_6_code
def yX0_turnedY : MethodName := ⟨RX0, "turnedY", "(II)D"⟩
def RX1 : String := "StemShapes$RuleList"
def TX1 : u_T := fun k => match k with
  | 0 => ("StemShapes$RuleList", "kinds", "[I", true)
  | 1 => ("StemShapes$RuleList", "limits", "[D", true)
  | 2 => ("StemShapes$RuleList", "classes", "[I", true)
  | _ => ("StemShapes$RuleList", "count", "I", false)
def tyX1 : Nat → FieldType := fun k => match k with
  | 0 => .array .int
  | 1 => .array .double
  | 2 => .array .int
  | _ => .int
abbrev wsX10 : List Cond := u_ws RX1 TX1 4
theorem nmX1 : ∀ a, a < 4 → ∀ b, b < 4 → a ≠ b → (TX1 a).2.1 ≠ (TX1 b).2.1 := by decide +kernel
theorem tyX1_ok : ∀ k, k < 4 → parseFieldDescriptor (TX1 k).2.2.1 = some (tyX1 k) := by decide +kernel
abbrev cX1_init : ByteArray := prog_3_method_1_code
def yX1_init : MethodName := ⟨RX1, "<init>", "()V"⟩
abbrev cX1_isFull : ByteArray := prog_3_method_2_code
def yX1_isFull : MethodName := ⟨RX1, "isFull", "()Z"⟩
abbrev cX1_addOne : ByteArray := prog_3_method_3_code
def yX1_addOne : MethodName := ⟨RX1, "addOne", "(IDI)I"⟩
abbrev cX1_classOf : ByteArray := prog_3_method_4_code
def yX1_classOf : MethodName := ⟨RX1, "classOf", "(LStemShapes$Stem;)I"⟩
abbrev cX1_holds : ByteArray := prog_3_method_5_code
def yX1_holds : MethodName := ⟨RX1, "holds", "(LStemShapes$Stem;ID)Z"⟩
def RX2 : String := "StemShapes$Shadows"
def TX2 : u_T := fun k => match k with
  | 0 => ("StemShapes$Shadows", "views", "I", true)
  | 1 => ("StemShapes$Shadows", "p", "[D", true)
  | 2 => ("StemShapes$Shadows", "q", "[D", true)
  | 3 => ("StemShapes$Shadows", "length", "[D", true)
  | 4 => ("StemShapes$Shadows", "there", "[Z", true)
  | 5 => ("StemShapes$Shadows", "middle", "[D", true)
  | _ => ("StemShapes$Shadows", "half", "[D", true)
def tyX2 : Nat → FieldType := fun k => match k with
  | 0 => .int
  | 1 => .array .double
  | 2 => .array .double
  | 3 => .array .double
  | 4 => .array .boolean
  | 5 => .array .double
  | _ => .array .double
abbrev wsX20 : List Cond := u_ws RX2 TX2 7
theorem nmX2 : ∀ a, a < 7 → ∀ b, b < 7 → a ≠ b → (TX2 a).2.1 ≠ (TX2 b).2.1 := by decide +kernel
theorem tyX2_ok : ∀ k, k < 7 → parseFieldDescriptor (TX2 k).2.2.1 = some (tyX2 k) := by decide +kernel
abbrev cX2_init : ByteArray := prog_4_method_1_code
def yX2_init : MethodName := ⟨RX2, "<init>", "(II)V"⟩
abbrev cX2_direct : ByteArray := prog_4_method_2_code
def yX2_direct : MethodName := ⟨RX2, "direct", "(IDD)V"⟩
abbrev cX2_cast : ByteArray := prog_4_method_3_code
def yX2_cast : MethodName := ⟨RX2, "cast", "(IIDD)V"⟩
abbrev cX2_takeAway : ByteArray := prog_4_method_4_code
def yX2_takeAway : MethodName := ⟨RX2, "takeAway", "(II)Z"⟩
abbrev cX2_fitInto : ByteArray := prog_4_method_5_code
def yX2_fitInto : MethodName := ⟨RX2, "fitInto", "(LStemShapes$Stem;I)Z"⟩
abbrev cX2_place : ByteArray := prog_4_method_6_code
def yX2_place : MethodName := ⟨RX2, "place", "(II)I"⟩
abbrev cX2_countOf : ByteArray := prog_4_method_7_code
def yX2_countOf : MethodName := ⟨RX2, "countOf", "(I)I"⟩
abbrev cX2_fitCentre : ByteArray := prog_4_method_8_code
def yX2_fitCentre : MethodName := ⟨RX2, "fitCentre", "(LStemShapes$Stem;I)Z"⟩
abbrev cX2_sumOfRadii : ByteArray := prog_4_method_9_code
def yX2_sumOfRadii : MethodName := ⟨RX2, "sumOfRadii", "(I)D"⟩
abbrev cX2_sumOfErrors : ByteArray := prog_4_method_10_code
def yX2_sumOfErrors : MethodName := ⟨RX2, "sumOfErrors", "(IDD)D"⟩
def RX3 : String := "StemShapes$Stem"
def TX3 : u_T := fun k => match k with
  | 0 => ("StemShapes$Stem", "slices", "I", true)
  | 1 => ("StemShapes$Stem", "x", "[D", true)
  | 2 => ("StemShapes$Stem", "y", "[D", true)
  | 3 => ("StemShapes$Stem", "radius", "[D", true)
  | 4 => ("StemShapes$Stem", "residual", "[D", true)
  | 5 => ("StemShapes$Stem", "isFitted", "[Z", true)
  | _ => ("StemShapes$Stem", "mended", "I", false)
def tyX3 : Nat → FieldType := fun k => match k with
  | 0 => .int
  | 1 => .array .double
  | 2 => .array .double
  | 3 => .array .double
  | 4 => .array .double
  | 5 => .array .boolean
  | _ => .int
abbrev wsX30 : List Cond := u_ws RX3 TX3 7
theorem nmX3 : ∀ a, a < 7 → ∀ b, b < 7 → a ≠ b → (TX3 a).2.1 ≠ (TX3 b).2.1 := by decide +kernel
theorem tyX3_ok : ∀ k, k < 7 → parseFieldDescriptor (TX3 k).2.2.1 = some (tyX3 k) := by decide +kernel
abbrev cX3_init : ByteArray := prog_5_method_1_code
def yX3_init : MethodName := ⟨RX3, "<init>", "(I)V"⟩
abbrev cX3_mendAll : ByteArray := prog_5_method_2_code
def yX3_mendAll : MethodName := ⟨RX3, "mendAll", "()V"⟩
abbrev cX3_areaOf : ByteArray := prog_5_method_3_code
def yX3_areaOf : MethodName := ⟨RX3, "areaOf", "(I)D"⟩
abbrev cX3_covers : ByteArray := prog_5_method_4_code
def yX3_covers : MethodName := ⟨RX3, "covers", "(IDD)Z"⟩
abbrev cX3_cellsOf : ByteArray := prog_5_method_5_code
def yX3_cellsOf : MethodName := ⟨RX3, "cellsOf", "(I)I"⟩
abbrev cX3_sumOfAreas : ByteArray := prog_5_method_6_code
def yX3_sumOfAreas : MethodName := ⟨RX3, "sumOfAreas", "()D"⟩
abbrev cX3_thinning : ByteArray := prog_5_method_7_code
def yX3_thinning : MethodName := ⟨RX3, "thinning", "()D"⟩
abbrev cX3_greatestBend : ByteArray := prog_5_method_8_code
def yX3_greatestBend : MethodName := ⟨RX3, "greatestBend", "()D"⟩
abbrev cX3_lastRadius : ByteArray := prog_5_method_9_code
def yX3_lastRadius : MethodName := ⟨RX3, "lastRadius", "()D"⟩
abbrev cX3_straight : ByteArray := prog_5_method_10_code
def yX3_straight : MethodName := ⟨RX3, "straight", "([DI)D"⟩
abbrev cX3_fittedBefore : ByteArray := prog_5_method_11_code
def yX3_fittedBefore : MethodName := ⟨RX3, "fittedBefore", "(I)I"⟩
abbrev cX3_fittedBehind : ByteArray := prog_5_method_12_code
def yX3_fittedBehind : MethodName := ⟨RX3, "fittedBehind", "(I)I"⟩
abbrev cX3_mendOne : ByteArray := prog_5_method_13_code
def yX3_mendOne : MethodName := ⟨RX3, "mendOne", "(III)V"⟩
abbrev cX3_between : ByteArray := prog_5_method_14_code
def yX3_between : MethodName := ⟨RX3, "between", "([DIII)D"⟩
def RX4 : String := "StemShapes"
def TX4 : u_T := fun k => match k with
  | 0 => ("StemShapes", "slices", "I", true)
  | 1 => ("StemShapes", "views", "I", true)
  | 2 => ("StemShapes", "shadows", "LStemShapes$Shadows;", true)
  | 3 => ("StemShapes", "stem", "LStemShapes$Stem;", true)
  | 4 => ("StemShapes", "kept", "LStemShapes$Kept;", true)
  | 5 => ("StemShapes", "rules", "LStemShapes$RuleList;", true)
  | _ => ("StemShapes", "shaped", "Z", false)
def tyX4 : Nat → FieldType := fun k => match k with
  | 0 => .int
  | 1 => .int
  | 2 => .object "StemShapes$Shadows"
  | 3 => .object "StemShapes$Stem"
  | 4 => .object "StemShapes$Kept"
  | 5 => .object "StemShapes$RuleList"
  | _ => .boolean
abbrev wsX40 : List Cond := u_ws RX4 TX4 7
theorem nmX4 : ∀ a, a < 7 → ∀ b, b < 7 → a ≠ b → (TX4 a).2.1 ≠ (TX4 b).2.1 := by decide +kernel
theorem tyX4_ok : ∀ k, k < 7 → parseFieldDescriptor (TX4 k).2.2.1 = some (tyX4 k) := by decide +kernel
abbrev cX4_init : ByteArray := prog_1_method_1_code
def yX4_init : MethodName := ⟨RX4, "<init>", "(II)V"⟩
abbrev cX4_aim : ByteArray := prog_1_method_2_code
def yX4_aim : MethodName := ⟨RX4, "aim", "(IDD)V"⟩
abbrev cX4_shadow : ByteArray := prog_1_method_3_code
def yX4_shadow : MethodName := ⟨RX4, "shadow", "(IIDD)V"⟩
abbrev cX4_lift : ByteArray := prog_1_method_4_code
def yX4_lift : MethodName := ⟨RX4, "lift", "(II)Z"⟩
abbrev cX4_run : ByteArray := prog_1_method_5_code
def yX4_run : MethodName := ⟨RX4, "run", "()I"⟩
abbrev cX4_shape : ByteArray := prog_1_method_6_code
def yX4_shape : MethodName := ⟨RX4, "shape", "(II)D"⟩
abbrev cX4_fitted : ByteArray := prog_1_method_7_code
def yX4_fitted : MethodName := ⟨RX4, "fitted", "(I)Z"⟩
abbrev cX4_inside : ByteArray := prog_1_method_8_code
def yX4_inside : MethodName := ⟨RX4, "inside", "(IDD)Z"⟩
abbrev cX4_wholes : ByteArray := prog_1_method_9_code
def yX4_wholes : MethodName := ⟨RX4, "wholes", "(I)I"⟩
abbrev cX4_volume : ByteArray := prog_1_method_10_code
def yX4_volume : MethodName := ⟨RX4, "volume", "()D"⟩
abbrev cX4_taper : ByteArray := prog_1_method_11_code
def yX4_taper : MethodName := ⟨RX4, "taper", "()D"⟩
abbrev cX4_sweep : ByteArray := prog_1_method_12_code
def yX4_sweep : MethodName := ⟨RX4, "sweep", "()D"⟩
abbrev cX4_rule : ByteArray := prog_1_method_13_code
def yX4_rule : MethodName := ⟨RX4, "rule", "(IDI)I"⟩
abbrev cX4_cls : ByteArray := prog_1_method_14_code
def yX4_cls : MethodName := ⟨RX4, "cls", "()I"⟩
abbrev cX4_keep : ByteArray := prog_1_method_15_code
def yX4_keep : MethodName := ⟨RX4, "keep", "()V"⟩
abbrev cX4_apart : ByteArray := prog_1_method_16_code
def yX4_apart : MethodName := ⟨RX4, "apart", "(I)D"⟩
abbrev cX4_match : ByteArray := prog_1_method_17_code
def yX4_match : MethodName := ⟨RX4, "match", "()I"⟩
abbrev cX4_law : ByteArray := prog_1_method_18_code
def yX4_law : MethodName := ⟨RX4, "law", "(JJJ)J"⟩
abbrev cX4_needSlice : ByteArray := prog_1_method_19_code
def yX4_needSlice : MethodName := ⟨RX4, "needSlice", "(I)V"⟩
abbrev cX4_needView : ByteArray := prog_1_method_20_code
def yX4_needView : MethodName := ⟨RX4, "needView", "(I)V"⟩
abbrev cX4_needShape : ByteArray := prog_1_method_21_code
def yX4_needShape : MethodName := ⟨RX4, "needShape", "()V"⟩
abbrev cX4_needKept : ByteArray := prog_1_method_22_code
def yX4_needKept : MethodName := ⟨RX4, "needKept", "()V"⟩
abbrev cX4_nearest : ByteArray := prog_1_method_23_code
def yX4_nearest : MethodName := ⟨RX4, "nearest", "(II)I"⟩
abbrev cX4_within : ByteArray := prog_1_method_24_code
def yX4_within : MethodName := ⟨RX4, "within", "(DI)Z"⟩
abbrev cX4_root : ByteArray := prog_1_method_25_code
def yX4_root : MethodName := ⟨RX4, "root", "(D)D"⟩
def RX5 : String := "StemShapesModel"
def TX5 : u_T := fun k => match k with
  | 0 => ("StemShapesModel", "thrown", "I", false)
  | 1 => ("StemShapesModel", "slices", "I", false)
  | 2 => ("StemShapesModel", "views", "I", false)
  | 3 => ("StemShapesModel", "ps", "[D", true)
  | 4 => ("StemShapesModel", "qs", "[D", true)
  | 5 => ("StemShapesModel", "there", "[Z", true)
  | 6 => ("StemShapesModel", "froms", "[D", true)
  | 7 => ("StemShapesModel", "tos", "[D", true)
  | 8 => ("StemShapesModel", "known", "Z", false)
  | 9 => ("StemShapesModel", "fits", "I", false)
  | 10 => ("StemShapesModel", "fitted", "[Z", true)
  | 11 => ("StemShapesModel", "shapes", "[D", true)
  | 12 => ("StemShapesModel", "rules", "I", false)
  | 13 => ("StemShapesModel", "kinds", "[I", true)
  | 14 => ("StemShapesModel", "limits", "[D", true)
  | 15 => ("StemShapesModel", "classes", "[I", true)
  | 16 => ("StemShapesModel", "kept", "Z", false)
  | 17 => ("StemShapesModel", "keptX", "[D", true)
  | _ => ("StemShapesModel", "keptY", "[D", true)
def tyX5 : Nat → FieldType := fun k => match k with
  | 0 => .int
  | 1 => .int
  | 2 => .int
  | 3 => .array .double
  | 4 => .array .double
  | 5 => .array .boolean
  | 6 => .array .double
  | 7 => .array .double
  | 8 => .boolean
  | 9 => .int
  | 10 => .array .boolean
  | 11 => .array .double
  | 12 => .int
  | 13 => .array .int
  | 14 => .array .double
  | 15 => .array .int
  | 16 => .boolean
  | 17 => .array .double
  | _ => .array .double
abbrev wsX50 : List Cond := u_ws RX5 TX5 19
theorem nmX5 : ∀ a, a < 19 → ∀ b, b < 19 → a ≠ b → (TX5 a).2.1 ≠ (TX5 b).2.1 := by decide +kernel
theorem tyX5_ok : ∀ k, k < 19 → parseFieldDescriptor (TX5 k).2.2.1 = some (tyX5 k) := by decide +kernel
abbrev cX5_init : ByteArray := prog_7_method_1_code
def yX5_init : MethodName := ⟨RX5, "<init>", "(II)V"⟩
abbrev cX5_thrown : ByteArray := prog_7_method_2_code
def yX5_thrown : MethodName := ⟨RX5, "thrown", "()I"⟩
abbrev cX5_between : ByteArray := prog_7_method_3_code
def yX5_between : MethodName := ⟨RX5, "between", "(DDD)Z"⟩
abbrev cX5_noSlice : ByteArray := prog_7_method_4_code
def yX5_noSlice : MethodName := ⟨RX5, "noSlice", "(I)Z"⟩
abbrev cX5_noView : ByteArray := prog_7_method_5_code
def yX5_noView : MethodName := ⟨RX5, "noView", "(I)Z"⟩
abbrev cX5_aim : ByteArray := prog_7_method_6_code
def yX5_aim : MethodName := ⟨RX5, "aim", "(IDD)V"⟩
abbrev cX5_shadow : ByteArray := prog_7_method_7_code
def yX5_shadow : MethodName := ⟨RX5, "shadow", "(IIDD)V"⟩
abbrev cX5_lift : ByteArray := prog_7_method_8_code
def yX5_lift : MethodName := ⟨RX5, "lift", "(II)Z"⟩
abbrev cX5_root : ByteArray := prog_7_method_9_code
def yX5_root : MethodName := ⟨RX5, "root", "(D)D"⟩
abbrev cX5_middle : ByteArray := prog_7_method_10_code
def yX5_middle : MethodName := ⟨RX5, "middle", "(I)D"⟩
abbrev cX5_fit : ByteArray := prog_7_method_11_code
def yX5_fit : MethodName := ⟨RX5, "fit", "(I)Z"⟩
abbrev cX5_set : ByteArray := prog_7_method_12_code
def yX5_set : MethodName := ⟨RX5, "set", "(IDDDD)V"⟩
abbrev cX5_mixed : ByteArray := prog_7_method_13_code
def yX5_mixed : MethodName := ⟨RX5, "mixed", "(IIII)D"⟩
abbrev cX5_mend : ByteArray := prog_7_method_14_code
def yX5_mend : MethodName := ⟨RX5, "mend", "(I)V"⟩
abbrev cX5_run : ByteArray := prog_7_method_15_code
def yX5_run : MethodName := ⟨RX5, "run", "()I"⟩
abbrev cX5_hasShape : ByteArray := prog_7_method_16_code
def yX5_hasShape : MethodName := ⟨RX5, "hasShape", "()Z"⟩
abbrev cX5_area : ByteArray := prog_7_method_17_code
def yX5_area : MethodName := ⟨RX5, "area", "(I)D"⟩
abbrev cX5_shape : ByteArray := prog_7_method_18_code
def yX5_shape : MethodName := ⟨RX5, "shape", "(II)D"⟩
abbrev cX5_fitted : ByteArray := prog_7_method_19_code
def yX5_fitted : MethodName := ⟨RX5, "fitted", "(I)Z"⟩
abbrev cX5_isInside : ByteArray := prog_7_method_20_code
def yX5_isInside : MethodName := ⟨RX5, "isInside", "(IDD)Z"⟩
abbrev cX5_inside : ByteArray := prog_7_method_21_code
def yX5_inside : MethodName := ⟨RX5, "inside", "(IDD)Z"⟩
abbrev cX5_wholes : ByteArray := prog_7_method_22_code
def yX5_wholes : MethodName := ⟨RX5, "wholes", "(I)I"⟩
abbrev cX5_volumeNow : ByteArray := prog_7_method_23_code
def yX5_volumeNow : MethodName := ⟨RX5, "volumeNow", "()D"⟩
abbrev cX5_taperNow : ByteArray := prog_7_method_24_code
def yX5_taperNow : MethodName := ⟨RX5, "taperNow", "()D"⟩
abbrev cX5_off : ByteArray := prog_7_method_25_code
def yX5_off : MethodName := ⟨RX5, "off", "(II)D"⟩
abbrev cX5_sweepNow : ByteArray := prog_7_method_26_code
def yX5_sweepNow : MethodName := ⟨RX5, "sweepNow", "()D"⟩
abbrev cX5_volume : ByteArray := prog_7_method_27_code
def yX5_volume : MethodName := ⟨RX5, "volume", "()D"⟩
abbrev cX5_taper : ByteArray := prog_7_method_28_code
def yX5_taper : MethodName := ⟨RX5, "taper", "()D"⟩
abbrev cX5_sweep : ByteArray := prog_7_method_29_code
def yX5_sweep : MethodName := ⟨RX5, "sweep", "()D"⟩
abbrev cX5_rule : ByteArray := prog_7_method_30_code
def yX5_rule : MethodName := ⟨RX5, "rule", "(IDI)I"⟩
abbrev cX5_holds : ByteArray := prog_7_method_31_code
def yX5_holds : MethodName := ⟨RX5, "holds", "(I)Z"⟩
abbrev cX5_cls : ByteArray := prog_7_method_32_code
def yX5_cls : MethodName := ⟨RX5, "cls", "()I"⟩
abbrev cX5_keep : ByteArray := prog_7_method_33_code
def yX5_keep : MethodName := ⟨RX5, "keep", "()V"⟩
abbrev cX5_apartBy : ByteArray := prog_7_method_34_code
def yX5_apartBy : MethodName := ⟨RX5, "apartBy", "(I)D"⟩
abbrev cX5_apart : ByteArray := prog_7_method_35_code
def yX5_apart : MethodName := ⟨RX5, "apart", "(I)D"⟩
abbrev cX5_match : ByteArray := prog_7_method_36_code
def yX5_match : MethodName := ⟨RX5, "match", "()I"⟩
abbrev cX5_law : ByteArray := prog_7_method_37_code
def yX5_law : MethodName := ⟨RX5, "law", "(JJJ)J"⟩
def RJx00060 : String := "java/lang/ArrayIndexOutOfBoundsException"
def TJx00060 : u_T := fun k => match k with
  | 0 => ("java/lang/Throwable", "cause", "Ljava/lang/Throwable;", false)
  | 1 => ("java/lang/Throwable", "stackTrace", "[Ljava/lang/StackTraceElement;", false)
  | 2 => ("java/lang/Throwable", "suppressedExceptions", "Ljava/util/List;", false)
  | 3 => ("java/lang/Throwable", "detailMessage", "Ljava/lang/String;", false)
  | 4 => ("java/lang/Throwable", "backtrace", "Ljava/lang/Object;", false)
  | _ => ("java/lang/Throwable", "depth", "I", false)
def tyJx00060 : Nat → FieldType := fun k => match k with
  | 0 => .object "java/lang/Throwable"
  | 1 => .array (.object "java/lang/StackTraceElement")
  | 2 => .object "java/util/List"
  | 3 => .object "java/lang/String"
  | 4 => .object "java/lang/Object"
  | _ => .int
abbrev wsJx000600 : List Cond := u_ws RJx00060 TJx00060 6
theorem nmJx00060 : ∀ a, a < 6 → ∀ b, b < 6 → a ≠ b → (TJx00060 a).2.1 ≠ (TJx00060 b).2.1 := by decide +kernel
theorem tyJx00060_ok : ∀ k, k < 6 → parseFieldDescriptor (TJx00060 k).2.2.1 = some (tyJx00060 k) := by decide +kernel
abbrev cJx00060_init_a7421 : ByteArray := prog_8_method_2_code
def yJx00060_init_a7421 : MethodName := ⟨RJx00060, "<init>", "(Ljava/lang/String;)V"⟩
def RJ9 : String := "java/lang/Math"
def TJ9 : u_T := fun k => match k with
  | _ => ("", "", "", false)
def tyJ9 : Nat → FieldType := fun k => match k with
  | _ => .int
abbrev wsJ90 : List Cond := u_ws RJ9 TJ9 0
theorem nmJ9 : ∀ a, a < 0 → ∀ b, b < 0 → a ≠ b → (TJ9 a).2.1 ≠ (TJ9 b).2.1 := by decide +kernel
theorem tyJ9_ok : ∀ k, k < 0 → parseFieldDescriptor (TJ9 k).2.2.1 = some (tyJ9 k) := by decide +kernel
abbrev cJ9_max_7cf53 : ByteArray := prog_13_method_65_code
def yJ9_max_7cf53 : MethodName := ⟨RJ9, "max", "(II)I"⟩
abbrev cJ9_min_7cf53 : ByteArray := prog_13_method_69_code
def yJ9_min_7cf53 : MethodName := ⟨RJ9, "min", "(II)I"⟩
def RJ0 : String := "java/lang/String"
def TJ0 : u_T := fun k => match k with
  | _ => ("", "", "", false)
def tyJ0 : Nat → FieldType := fun k => match k with
  | _ => .int
abbrev wsJ00 : List Cond := u_ws RJ0 TJ0 0
theorem nmJ0 : ∀ a, a < 0 → ∀ b, b < 0 → a ≠ b → (TJ0 a).2.1 ≠ (TJ0 b).2.1 := by decide +kernel
theorem tyJ0_ok : ∀ k, k < 0 → parseFieldDescriptor (TJ0 k).2.2.1 = some (tyJ0 k) := by decide +kernel
def RL : String := "StemShapesLaw"
abbrev cL_cell : ByteArray := method_2_code
def yL_cell : MethodName := ⟨RL, "cell", "([II)I"⟩
abbrev cL_aim : ByteArray := method_3_code
def yL_aim : MethodName := ⟨RL, "aim", "(LStemShapes;IDD)I"⟩
abbrev cL_shadow : ByteArray := method_4_code
def yL_shadow : MethodName := ⟨RL, "shadow", "(LStemShapes;IIDD)I"⟩
abbrev cL_lift : ByteArray := method_5_code
def yL_lift : MethodName := ⟨RL, "lift", "(LStemShapes;II[J)I"⟩
abbrev cL_shape : ByteArray := method_6_code
def yL_shape : MethodName := ⟨RL, "shape", "(LStemShapes;II[D)I"⟩
abbrev cL_fitted : ByteArray := method_7_code
def yL_fitted : MethodName := ⟨RL, "fitted", "(LStemShapes;I[J)I"⟩
abbrev cL_inside : ByteArray := method_8_code
def yL_inside : MethodName := ⟨RL, "inside", "(LStemShapes;IDD[J)I"⟩
abbrev cL_wholes : ByteArray := method_9_code
def yL_wholes : MethodName := ⟨RL, "wholes", "(LStemShapes;I[J)I"⟩
abbrev cL_volume : ByteArray := method_10_code
def yL_volume : MethodName := ⟨RL, "volume", "(LStemShapes;[D)I"⟩
abbrev cL_taper : ByteArray := method_11_code
def yL_taper : MethodName := ⟨RL, "taper", "(LStemShapes;[D)I"⟩
abbrev cL_sweep : ByteArray := method_12_code
def yL_sweep : MethodName := ⟨RL, "sweep", "(LStemShapes;[D)I"⟩
abbrev cL_rule : ByteArray := method_13_code
def yL_rule : MethodName := ⟨RL, "rule", "(LStemShapes;IDI[J)I"⟩
abbrev cL_cls : ByteArray := method_14_code
def yL_cls : MethodName := ⟨RL, "cls", "(LStemShapes;[J)I"⟩
abbrev cL_keep : ByteArray := method_15_code
def yL_keep : MethodName := ⟨RL, "keep", "(LStemShapes;)I"⟩
abbrev cL_apart : ByteArray := method_16_code
def yL_apart : MethodName := ⟨RL, "apart", "(LStemShapes;I[D)I"⟩
abbrev cL_match : ByteArray := method_17_code
def yL_match : MethodName := ⟨RL, "match", "(LStemShapes;[J)I"⟩
abbrev cL_law : ByteArray := method_18_code
def yL_law : MethodName := ⟨RL, "law", "(LStemShapes;JJJ[J)I"⟩
abbrev cL_law_ : ByteArray := code
def yL_law_ : MethodName := ⟨RL, "law", "([I)Z"⟩
def wsX0_init : List Cond := .code yX0_init cX0_init 2 none :: ([.methodLink RX0 3 objectInit, .instanceMethod objectInit, .code objectInit ⟨#[0xb1]⟩ 1 none, .arrayClass .double, .fieldLink RX0 9 "StemShapes$Kept" "x" "[D", .fieldLink RX0 15 "StemShapes$Kept" "y" "[D"] ++ wsX00)
def wsX0_take : List Cond := .code yX0_take cX0_take 3 none :: ([.fieldLink RX0 9 "StemShapes$Kept" "x" "[D", .fieldLink RX0 15 "StemShapes$Kept" "y" "[D", .fieldLink RX0 22 "StemShapes$Kept" "isThere" "Z"] ++ wsX00 ++ wsX30)
def wsX0_turnedX : List Cond := .code yX0_turnedX cX0_turnedX 3 (some .double) :: ([.fieldLink RX0 9 "StemShapes$Kept" "x" "[D", .fieldLink RX0 15 "StemShapes$Kept" "y" "[D"] ++ wsX00)
def wsX0_turnedY : List Cond := .code yX0_turnedY cX0_turnedY 3 (some .double) :: ([.fieldLink RX0 15 "StemShapes$Kept" "y" "[D", .fieldLink RX0 9 "StemShapes$Kept" "x" "[D"] ++ wsX00)
def wsX0_distance : List Cond := .code yX0_distance cX0_distance 10 (some .double) :: ([.fieldLink RX0 9 "StemShapes$Kept" "x" "[D", .methodLink RX0 26 yX0_turnedX, .instanceMethod yX0_turnedX, .selects RX0 yX0_turnedX yX0_turnedX, .initialized RX0, .code yX0_turnedX cX0_turnedX 3 (some .double), .fieldLink RX0 15 "StemShapes$Kept" "y" "[D", .methodLink RX0 30 yX0_turnedY, .instanceMethod yX0_turnedY, .selects RX0 yX0_turnedY yX0_turnedY, .code yX0_turnedY cX0_turnedY 3 (some .double)] ++ wsX00 ++ wsX30)
def wsX0_nearestTurn : List Cond := .code yX0_nearestTurn cX0_nearestTurn 8 (some .int) :: ([.methodLink RX0 33 yX0_distance, .instanceMethod yX0_distance, .selects RX0 yX0_distance yX0_distance, .initialized RX0, .code yX0_distance cX0_distance 10 (some .double), .fieldLink RX0 9 "StemShapes$Kept" "x" "[D", .methodLink RX0 26 yX0_turnedX, .instanceMethod yX0_turnedX, .selects RX0 yX0_turnedX yX0_turnedX, .code yX0_turnedX cX0_turnedX 3 (some .double), .fieldLink RX0 15 "StemShapes$Kept" "y" "[D", .methodLink RX0 30 yX0_turnedY, .instanceMethod yX0_turnedY, .selects RX0 yX0_turnedY yX0_turnedY, .code yX0_turnedY cX0_turnedY 3 (some .double)] ++ wsX00 ++ wsX30)
def wsX1_init : List Cond := .code yX1_init cX1_init 1 none :: ([.methodLink RX1 3 objectInit, .instanceMethod objectInit, .code objectInit ⟨#[0xb1]⟩ 1 none, .arrayClass .int, .fieldLink RX1 9 "StemShapes$RuleList" "kinds" "[I", .arrayClass .double, .fieldLink RX1 15 "StemShapes$RuleList" "limits" "[D", .fieldLink RX1 19 "StemShapes$RuleList" "classes" "[I"] ++ wsX10)
def wsX1_isFull : List Cond := .code yX1_isFull cX1_isFull 1 (some .boolean) :: ([.fieldLink RX1 22 "StemShapes$RuleList" "count" "I"] ++ wsX10)
def wsX1_addOne : List Cond := .code yX1_addOne cX1_addOne 5 (some .int) :: ([.fieldLink RX1 9 "StemShapes$RuleList" "kinds" "[I", .fieldLink RX1 22 "StemShapes$RuleList" "count" "I", .fieldLink RX1 15 "StemShapes$RuleList" "limits" "[D", .fieldLink RX1 19 "StemShapes$RuleList" "classes" "[I"] ++ wsX10)
def wsX3_straight : List Cond := .code yX3_straight cX3_straight 3 (some .double) :: ([.fieldLink RX3 9 "StemShapes$Stem" "slices" "I"] ++ wsX30)
def wsX3_greatestBend : List Cond := .code yX3_greatestBend cX3_greatestBend 10 (some .double) :: ([.fieldLink RX3 9 "StemShapes$Stem" "slices" "I", .fieldLink RX3 15 "StemShapes$Stem" "x" "[D", .fieldLink RX3 19 "StemShapes$Stem" "y" "[D", .methodLink RX3 53 yX3_straight, .instanceMethod yX3_straight, .selects RX3 yX3_straight yX3_straight, .initialized RX3, .code yX3_straight cX3_straight 3 (some .double)] ++ wsX30)
def wsX3_thinning : List Cond := .code yX3_thinning cX3_thinning 1 (some .double) :: ([.fieldLink RX3 9 "StemShapes$Stem" "slices" "I", .fieldLink RX3 22 "StemShapes$Stem" "radius" "[D"] ++ wsX30)
def wsX3_lastRadius : List Cond := .code yX3_lastRadius cX3_lastRadius 1 (some .double) :: ([.fieldLink RX3 22 "StemShapes$Stem" "radius" "[D", .fieldLink RX3 9 "StemShapes$Stem" "slices" "I"] ++ wsX30)
def wsX3_areaOf : List Cond := .code yX3_areaOf cX3_areaOf 2 (some .double) :: ([.constantDouble RX3 43 (4614254477589872640), .fieldLink RX3 22 "StemShapes$Stem" "radius" "[D"] ++ wsX30)
def wsX3_sumOfAreas : List Cond := .code yX3_sumOfAreas cX3_sumOfAreas 4 (some .double) :: ([.fieldLink RX3 9 "StemShapes$Stem" "slices" "I", .methodLink RX3 49 yX3_areaOf, .instanceMethod yX3_areaOf, .selects RX3 yX3_areaOf yX3_areaOf, .initialized RX3, .code yX3_areaOf cX3_areaOf 2 (some .double), .constantDouble RX3 43 (4614254477589872640), .fieldLink RX3 22 "StemShapes$Stem" "radius" "[D"] ++ wsX30)
def wsX1_holds_r1 : List Cond := [Cond.methodLink RX1 30 yX3_greatestBend, Cond.instanceMethod yX3_greatestBend, Cond.selects RX3 yX3_greatestBend yX3_greatestBend, Cond.initialized RX3, Cond.code yX3_greatestBend cX3_greatestBend 10 (some .double), Cond.fieldLink RX3 9 "StemShapes$Stem" "slices" "I", Cond.fieldLink RX3 15 "StemShapes$Stem" "x" "[D", Cond.fieldLink RX3 19 "StemShapes$Stem" "y" "[D", Cond.methodLink RX3 53 yX3_straight, Cond.instanceMethod yX3_straight, Cond.selects RX3 yX3_straight yX3_straight, Cond.code yX3_straight cX3_straight 3 (some .double), Cond.methodLink RX1 36 yX3_thinning, Cond.instanceMethod yX3_thinning, Cond.selects RX3 yX3_thinning yX3_thinning, Cond.code yX3_thinning cX3_thinning 1 (some .double), Cond.fieldLink RX3 22 "StemShapes$Stem" "radius" "[D", Cond.methodLink RX1 39 yX3_lastRadius, Cond.instanceMethod yX3_lastRadius, Cond.selects RX3 yX3_lastRadius yX3_lastRadius, Cond.code yX3_lastRadius cX3_lastRadius 1 (some .double), Cond.methodLink RX1 42 yX3_sumOfAreas, Cond.instanceMethod yX3_sumOfAreas, Cond.selects RX3 yX3_sumOfAreas yX3_sumOfAreas]
def wsX1_holds_r2 : List Cond := [Cond.code yX3_sumOfAreas cX3_sumOfAreas 4 (some .double), Cond.methodLink RX3 49 yX3_areaOf, Cond.instanceMethod yX3_areaOf, Cond.selects RX3 yX3_areaOf yX3_areaOf, Cond.code yX3_areaOf cX3_areaOf 2 (some .double), Cond.constantDouble RX3 43 (4614254477589872640)]
def wsX1_holds : List Cond := .code yX1_holds cX1_holds 4 (some .boolean) :: ((wsX1_holds_r1 ++ wsX1_holds_r2) ++ wsX30)
def wsX1_classOf_r1 : List Cond := [Cond.fieldLink RX1 22 "StemShapes$RuleList" "count" "I", Cond.fieldLink RX1 9 "StemShapes$RuleList" "kinds" "[I", Cond.fieldLink RX1 15 "StemShapes$RuleList" "limits" "[D", Cond.fieldLink RX1 19 "StemShapes$RuleList" "classes" "[I", Cond.methodLink RX1 26 yX1_holds, Cond.static yX1_holds, Cond.initialized RX1, Cond.code yX1_holds cX1_holds 4 (some .boolean), Cond.methodLink RX1 30 yX3_greatestBend, Cond.instanceMethod yX3_greatestBend, Cond.selects RX3 yX3_greatestBend yX3_greatestBend, Cond.initialized RX3, Cond.code yX3_greatestBend cX3_greatestBend 10 (some .double), Cond.fieldLink RX3 9 "StemShapes$Stem" "slices" "I", Cond.fieldLink RX3 15 "StemShapes$Stem" "x" "[D", Cond.fieldLink RX3 19 "StemShapes$Stem" "y" "[D", Cond.methodLink RX3 53 yX3_straight, Cond.instanceMethod yX3_straight, Cond.selects RX3 yX3_straight yX3_straight, Cond.code yX3_straight cX3_straight 3 (some .double), Cond.methodLink RX1 36 yX3_thinning, Cond.instanceMethod yX3_thinning, Cond.selects RX3 yX3_thinning yX3_thinning, Cond.code yX3_thinning cX3_thinning 1 (some .double)]
def wsX1_classOf_r2 : List Cond := [Cond.fieldLink RX3 22 "StemShapes$Stem" "radius" "[D", Cond.methodLink RX1 39 yX3_lastRadius, Cond.instanceMethod yX3_lastRadius, Cond.selects RX3 yX3_lastRadius yX3_lastRadius, Cond.code yX3_lastRadius cX3_lastRadius 1 (some .double), Cond.methodLink RX1 42 yX3_sumOfAreas, Cond.instanceMethod yX3_sumOfAreas, Cond.selects RX3 yX3_sumOfAreas yX3_sumOfAreas, Cond.code yX3_sumOfAreas cX3_sumOfAreas 4 (some .double), Cond.methodLink RX3 49 yX3_areaOf, Cond.instanceMethod yX3_areaOf, Cond.selects RX3 yX3_areaOf yX3_areaOf, Cond.code yX3_areaOf cX3_areaOf 2 (some .double), Cond.constantDouble RX3 43 (4614254477589872640)]
def wsX1_classOf : List Cond := .code yX1_classOf cX1_classOf 3 (some .int) :: ((wsX1_classOf_r1 ++ wsX1_classOf_r2) ++ wsX10 ++ wsX30)
def wsX4_root : List Cond := .code yX4_root cX4_root 5 (some .double) :: ([.constantDouble RX4 216 (4611686018427387904)])
def wsX2_init : List Cond := .code yX2_init cX2_init 4 none :: ([.methodLink RX2 1 objectInit, .instanceMethod objectInit, .code objectInit ⟨#[0xb1]⟩ 1 none, .fieldLink RX2 7 "StemShapes$Shadows" "views" "I", .arrayClass .double, .fieldLink RX2 13 "StemShapes$Shadows" "p" "[D", .fieldLink RX2 17 "StemShapes$Shadows" "q" "[D", .fieldLink RX2 20 "StemShapes$Shadows" "length" "[D", .arrayClass .boolean, .fieldLink RX2 23 "StemShapes$Shadows" "there" "[Z", .fieldLink RX2 27 "StemShapes$Shadows" "middle" "[D", .fieldLink RX2 30 "StemShapes$Shadows" "half" "[D", .static yX4_root, .initialized RX4, .code yX4_root cX4_root 5 (some .double), .constantDouble RX4 216 (4611686018427387904)] ++ wsX20)
def wsX2_direct : List Cond := .code yX2_direct cX2_direct 6 none :: ([.fieldLink RX2 13 "StemShapes$Shadows" "p" "[D", .fieldLink RX2 17 "StemShapes$Shadows" "q" "[D", .fieldLink RX2 20 "StemShapes$Shadows" "length" "[D", .static yX4_root, .initialized RX4, .code yX4_root cX4_root 5 (some .double), .constantDouble RX4 216 (4611686018427387904)] ++ wsX20)
def wsX2_place : List Cond := .code yX2_place cX2_place 3 (some .int) :: ([.fieldLink RX2 7 "StemShapes$Shadows" "views" "I"] ++ wsX20)
def wsX2_cast : List Cond := .code yX2_cast cX2_cast 8 none :: ([.fieldLink RX2 23 "StemShapes$Shadows" "there" "[Z", .fieldLink RX2 27 "StemShapes$Shadows" "middle" "[D", .constantDouble RX2 43 (4611686018427387904), .fieldLink RX2 30 "StemShapes$Shadows" "half" "[D", .methodLink RX2 39 yX2_place, .instanceMethod yX2_place, .selects RX2 yX2_place yX2_place, .initialized RX2, .code yX2_place cX2_place 3 (some .int), .fieldLink RX2 7 "StemShapes$Shadows" "views" "I"] ++ wsX20)
def wsX2_takeAway : List Cond := .code yX2_takeAway cX2_takeAway 5 (some .boolean) :: ([.fieldLink RX2 23 "StemShapes$Shadows" "there" "[Z", .methodLink RX2 39 yX2_place, .instanceMethod yX2_place, .selects RX2 yX2_place yX2_place, .initialized RX2, .code yX2_place cX2_place 3 (some .int), .fieldLink RX2 7 "StemShapes$Shadows" "views" "I"] ++ wsX20)
def wsX2_countOf : List Cond := .code yX2_countOf cX2_countOf 4 (some .int) :: ([.fieldLink RX2 7 "StemShapes$Shadows" "views" "I", .fieldLink RX2 23 "StemShapes$Shadows" "there" "[Z", .methodLink RX2 39 yX2_place, .instanceMethod yX2_place, .selects RX2 yX2_place yX2_place, .initialized RX2, .code yX2_place cX2_place 3 (some .int)] ++ wsX20)
def wsX2_fitCentre : List Cond := .code yX2_fitCentre cX2_fitCentre 17 (some .boolean) :: ([.fieldLink RX2 7 "StemShapes$Shadows" "views" "I", .fieldLink RX2 23 "StemShapes$Shadows" "there" "[Z", .fieldLink RX2 13 "StemShapes$Shadows" "p" "[D", .fieldLink RX2 17 "StemShapes$Shadows" "q" "[D", .fieldLink RX2 27 "StemShapes$Shadows" "middle" "[D", .constantDouble RX2 75 (4517110426252607488), .methodLink RX2 39 yX2_place, .instanceMethod yX2_place, .selects RX2 yX2_place yX2_place, .initialized RX2, .code yX2_place cX2_place 3 (some .int)] ++ wsX20 ++ wsX30)
def wsX2_sumOfRadii : List Cond := .code yX2_sumOfRadii cX2_sumOfRadii 6 (some .double) :: ([.fieldLink RX2 7 "StemShapes$Shadows" "views" "I", .fieldLink RX2 23 "StemShapes$Shadows" "there" "[Z", .fieldLink RX2 30 "StemShapes$Shadows" "half" "[D", .fieldLink RX2 20 "StemShapes$Shadows" "length" "[D", .methodLink RX2 39 yX2_place, .instanceMethod yX2_place, .selects RX2 yX2_place yX2_place, .initialized RX2, .code yX2_place cX2_place 3 (some .int)] ++ wsX20)
def wsX2_sumOfErrors : List Cond := .code yX2_sumOfErrors cX2_sumOfErrors 12 (some .double) :: ([.fieldLink RX2 7 "StemShapes$Shadows" "views" "I", .fieldLink RX2 23 "StemShapes$Shadows" "there" "[Z", .fieldLink RX2 27 "StemShapes$Shadows" "middle" "[D", .fieldLink RX2 13 "StemShapes$Shadows" "p" "[D", .fieldLink RX2 17 "StemShapes$Shadows" "q" "[D", .methodLink RX2 39 yX2_place, .instanceMethod yX2_place, .selects RX2 yX2_place yX2_place, .initialized RX2, .code yX2_place cX2_place 3 (some .int)] ++ wsX20)
def wsX2_fitInto_r1 : List Cond := [Cond.methodLink RX2 45 yX2_countOf, Cond.instanceMethod yX2_countOf, Cond.selects RX2 yX2_countOf yX2_countOf, Cond.initialized RX2, Cond.code yX2_countOf cX2_countOf 4 (some .int), Cond.fieldLink RX2 7 "StemShapes$Shadows" "views" "I", Cond.fieldLink RX2 23 "StemShapes$Shadows" "there" "[Z", Cond.methodLink RX2 39 yX2_place, Cond.instanceMethod yX2_place, Cond.selects RX2 yX2_place yX2_place, Cond.code yX2_place cX2_place 3 (some .int), Cond.methodLink RX2 49 yX2_fitCentre, Cond.instanceMethod yX2_fitCentre, Cond.selects RX2 yX2_fitCentre yX2_fitCentre, Cond.code yX2_fitCentre cX2_fitCentre 17 (some .boolean), Cond.fieldLink RX2 13 "StemShapes$Shadows" "p" "[D", Cond.fieldLink RX2 17 "StemShapes$Shadows" "q" "[D", Cond.fieldLink RX2 27 "StemShapes$Shadows" "middle" "[D", Cond.constantDouble RX2 75 (4517110426252607488), Cond.methodLink RX2 58 yX2_sumOfRadii, Cond.instanceMethod yX2_sumOfRadii, Cond.selects RX2 yX2_sumOfRadii yX2_sumOfRadii, Cond.code yX2_sumOfRadii cX2_sumOfRadii 6 (some .double), Cond.fieldLink RX2 30 "StemShapes$Shadows" "half" "[D"]
def wsX2_fitInto_r2 : List Cond := [Cond.fieldLink RX2 20 "StemShapes$Shadows" "length" "[D", Cond.methodLink RX2 71 yX2_sumOfErrors, Cond.instanceMethod yX2_sumOfErrors, Cond.selects RX2 yX2_sumOfErrors yX2_sumOfErrors, Cond.code yX2_sumOfErrors cX2_sumOfErrors 12 (some .double)]
def wsX2_fitInto : List Cond := .code yX2_fitInto cX2_fitInto 4 (some .boolean) :: ((wsX2_fitInto_r1 ++ wsX2_fitInto_r2) ++ wsX30 ++ wsX20)
def wsX3_init : List Cond := .code yX3_init cX3_init 2 none :: ([.methodLink RX3 3 objectInit, .instanceMethod objectInit, .code objectInit ⟨#[0xb1]⟩ 1 none, .fieldLink RX3 9 "StemShapes$Stem" "slices" "I", .arrayClass .double, .fieldLink RX3 15 "StemShapes$Stem" "x" "[D", .fieldLink RX3 19 "StemShapes$Stem" "y" "[D", .fieldLink RX3 22 "StemShapes$Stem" "radius" "[D", .fieldLink RX3 25 "StemShapes$Stem" "residual" "[D", .arrayClass .boolean, .fieldLink RX3 28 "StemShapes$Stem" "isFitted" "[Z"] ++ wsX30)
def wsX3_fittedBefore : List Cond := .code yX3_fittedBefore cX3_fittedBefore 3 (some .int) :: ([.fieldLink RX3 28 "StemShapes$Stem" "isFitted" "[Z"] ++ wsX30)
def wsX3_fittedBehind : List Cond := .code yX3_fittedBehind cX3_fittedBehind 3 (some .int) :: ([.fieldLink RX3 9 "StemShapes$Stem" "slices" "I", .fieldLink RX3 28 "StemShapes$Stem" "isFitted" "[Z"] ++ wsX30)
def wsX3_between : List Cond := .code yX3_between cX3_between 4 (some .double) :: ([])
def wsX3_mendOne : List Cond := .code yX3_mendOne cX3_mendOne 6 none :: ([.fieldLink RX3 15 "StemShapes$Stem" "x" "[D", .fieldLink RX3 19 "StemShapes$Stem" "y" "[D", .fieldLink RX3 22 "StemShapes$Stem" "radius" "[D", .fieldLink RX3 25 "StemShapes$Stem" "residual" "[D", .methodLink RX3 57 yX3_between, .static yX3_between, .initialized RX3, .code yX3_between cX3_between 4 (some .double)] ++ wsX30)
def wsX3_mendAll : List Cond := .code yX3_mendAll cX3_mendAll 2 none :: ([.fieldLink RX3 9 "StemShapes$Stem" "slices" "I", .fieldLink RX3 28 "StemShapes$Stem" "isFitted" "[Z", .methodLink RX3 32 yX3_fittedBefore, .instanceMethod yX3_fittedBefore, .selects RX3 yX3_fittedBefore yX3_fittedBefore, .initialized RX3, .code yX3_fittedBefore cX3_fittedBefore 3 (some .int), .methodLink RX3 36 yX3_fittedBehind, .instanceMethod yX3_fittedBehind, .selects RX3 yX3_fittedBehind yX3_fittedBehind, .code yX3_fittedBehind cX3_fittedBehind 3 (some .int), .methodLink RX3 39 yX3_mendOne, .instanceMethod yX3_mendOne, .selects RX3 yX3_mendOne yX3_mendOne, .code yX3_mendOne cX3_mendOne 6 none, .fieldLink RX3 15 "StemShapes$Stem" "x" "[D", .fieldLink RX3 19 "StemShapes$Stem" "y" "[D", .fieldLink RX3 22 "StemShapes$Stem" "radius" "[D", .fieldLink RX3 25 "StemShapes$Stem" "residual" "[D", .methodLink RX3 57 yX3_between, .static yX3_between, .code yX3_between cX3_between 4 (some .double)] ++ wsX30)
def wsX3_covers : List Cond := .code yX3_covers cX3_covers 10 (some .boolean) :: ([.fieldLink RX3 15 "StemShapes$Stem" "x" "[D", .fieldLink RX3 19 "StemShapes$Stem" "y" "[D", .fieldLink RX3 22 "StemShapes$Stem" "radius" "[D"] ++ wsX30)
def wsX3_cellsOf : List Cond := .code yX3_cellsOf cX3_cellsOf 5 (some .int) :: ([.methodLink RX3 45 yX3_covers, .instanceMethod yX3_covers, .selects RX3 yX3_covers yX3_covers, .initialized RX3, .code yX3_covers cX3_covers 10 (some .boolean), .fieldLink RX3 15 "StemShapes$Stem" "x" "[D", .fieldLink RX3 19 "StemShapes$Stem" "y" "[D", .fieldLink RX3 22 "StemShapes$Stem" "radius" "[D"] ++ wsX30)
def wsX4_nearest : List Cond := .code yX4_nearest cX4_nearest 2 (some .int) :: ([.methodLink RX4 208 Lib.Math.min.name, .static Lib.Math.min.name, .initialized "java/lang/Math", .code Lib.Math.min.name Lib.Math.min.code 2 (some .int), .methodLink RX4 213 Lib.Math.max.name, .static Lib.Math.max.name, .code Lib.Math.max.name Lib.Math.max.code 2 (some .int)])
def wsX4_init_r1 : List Cond := [Cond.methodLink RX4 1 objectInit, Cond.instanceMethod objectInit, Cond.code objectInit ⟨#[0xb1]⟩ 1 none, Cond.fieldLink RX4 13 "StemShapes" "slices" "I", Cond.fieldLink RX4 17 "StemShapes" "views" "I", Cond.classLink RX4 20 RX2, Cond.instantiable RX2 7, Cond.initialized RX2, Cond.fieldLink RX4 25 "StemShapes" "shadows" "LStemShapes$Shadows;", Cond.classLink RX4 29 RX3, Cond.instantiable RX3 7, Cond.initialized RX3, Cond.fieldLink RX4 34 "StemShapes" "stem" "LStemShapes$Stem;", Cond.classLink RX4 38 RX0, Cond.instantiable RX0 3, Cond.initialized RX0, Cond.fieldLink RX4 41 "StemShapes" "kept" "LStemShapes$Kept;", Cond.classLink RX4 45 RX1, Cond.instantiable RX1 4, Cond.initialized RX1, Cond.fieldLink RX4 48 "StemShapes" "rules" "LStemShapes$RuleList;", Cond.methodLink RX4 9 yX4_nearest, Cond.static yX4_nearest, Cond.initialized RX4]
def wsX4_init_r2 : List Cond := [Cond.code yX4_nearest cX4_nearest 2 (some .int), Cond.methodLink RX4 208 Lib.Math.min.name, Cond.static Lib.Math.min.name, Cond.initialized "java/lang/Math", Cond.code Lib.Math.min.name Lib.Math.min.code 2 (some .int), Cond.methodLink RX4 213 Lib.Math.max.name, Cond.static Lib.Math.max.name, Cond.code Lib.Math.max.name Lib.Math.max.code 2 (some .int), Cond.methodLink RX4 22 yX2_init, Cond.instanceMethod yX2_init, Cond.code yX2_init cX2_init 4 none, Cond.methodLink RX2 1 objectInit, Cond.fieldLink RX2 7 "StemShapes$Shadows" "views" "I", Cond.arrayClass .double, Cond.fieldLink RX2 13 "StemShapes$Shadows" "p" "[D", Cond.fieldLink RX2 17 "StemShapes$Shadows" "q" "[D", Cond.fieldLink RX2 20 "StemShapes$Shadows" "length" "[D", Cond.arrayClass .boolean, Cond.fieldLink RX2 23 "StemShapes$Shadows" "there" "[Z", Cond.fieldLink RX2 27 "StemShapes$Shadows" "middle" "[D", Cond.fieldLink RX2 30 "StemShapes$Shadows" "half" "[D", Cond.static yX4_root, Cond.code yX4_root cX4_root 5 (some .double), Cond.constantDouble RX4 216 (4611686018427387904)]
def wsX4_init_r3 : List Cond := [Cond.methodLink RX4 31 yX3_init, Cond.instanceMethod yX3_init, Cond.code yX3_init cX3_init 2 none, Cond.methodLink RX3 3 objectInit, Cond.fieldLink RX3 9 "StemShapes$Stem" "slices" "I", Cond.fieldLink RX3 15 "StemShapes$Stem" "x" "[D", Cond.fieldLink RX3 19 "StemShapes$Stem" "y" "[D", Cond.fieldLink RX3 22 "StemShapes$Stem" "radius" "[D", Cond.fieldLink RX3 25 "StemShapes$Stem" "residual" "[D", Cond.fieldLink RX3 28 "StemShapes$Stem" "isFitted" "[Z", Cond.methodLink RX4 40 yX0_init, Cond.instanceMethod yX0_init, Cond.code yX0_init cX0_init 2 none, Cond.methodLink RX0 3 objectInit, Cond.fieldLink RX0 9 "StemShapes$Kept" "x" "[D", Cond.fieldLink RX0 15 "StemShapes$Kept" "y" "[D", Cond.instanceMethod yX1_init, Cond.code yX1_init cX1_init 1 none, Cond.methodLink RX1 3 objectInit, Cond.arrayClass .int, Cond.fieldLink RX1 9 "StemShapes$RuleList" "kinds" "[I", Cond.fieldLink RX1 15 "StemShapes$RuleList" "limits" "[D", Cond.fieldLink RX1 19 "StemShapes$RuleList" "classes" "[I"]
def wsX4_init : List Cond := .code yX4_init cX4_init 3 none :: ((wsX4_init_r1 ++ (wsX4_init_r2 ++ wsX4_init_r3)) ++ wsX40 ++ wsX20 ++ wsX30 ++ wsX00 ++ wsX10)
def wsX4_needView : List Cond := .code yX4_needView cX4_needView 2 none :: ([.fieldLink RX4 17 "StemShapes" "views" "I", .classLink RX4 105 RJx00060, .instantiable RJx00060 6, .initialized RJx00060] ++ wsX40 ++ wsJx000600)
def wsX4_within : List Cond := .code yX4_within cX4_within 3 (some .boolean) :: ([])
def wsX4_aim_r1 : List Cond := [Cond.classLink RX4 59 "java/lang/IllegalArgumentException", Cond.initialized "java/lang/IllegalArgumentException", Cond.fieldLink RX4 25 "StemShapes" "shadows" "LStemShapes$Shadows;", Cond.fieldLink RX4 72 "StemShapes" "shaped" "Z", Cond.methodLink RX4 52 yX4_needView, Cond.instanceMethod yX4_needView, Cond.selects RX4 yX4_needView yX4_needView, Cond.initialized RX4, Cond.code yX4_needView cX4_needView 2 none, Cond.fieldLink RX4 17 "StemShapes" "views" "I", Cond.classLink RX4 105 RJx00060, Cond.instantiable RJx00060 6, Cond.initialized RJx00060, Cond.methodLink RX4 55 yX4_within, Cond.static yX4_within, Cond.code yX4_within cX4_within 3 (some .boolean), Cond.methodLink RX4 68 yX2_direct, Cond.instanceMethod yX2_direct, Cond.selects RX2 yX2_direct yX2_direct, Cond.initialized RX2, Cond.code yX2_direct cX2_direct 6 none, Cond.fieldLink RX2 13 "StemShapes$Shadows" "p" "[D", Cond.fieldLink RX2 17 "StemShapes$Shadows" "q" "[D", Cond.fieldLink RX2 20 "StemShapes$Shadows" "length" "[D"]
def wsX4_aim_r2 : List Cond := [Cond.static yX4_root, Cond.code yX4_root cX4_root 5 (some .double), Cond.constantDouble RX4 216 (4611686018427387904)]
def wsX4_aim : List Cond := .code yX4_aim cX4_aim 6 none :: ((wsX4_aim_r1 ++ wsX4_aim_r2) ++ wsX40 ++ wsJx000600 ++ wsX20 ++ (vx_atS RX4 63 "java/lang/IllegalArgumentException" ["java/lang/RuntimeException", "java/lang/Exception"]).filter goodWord)
def wsX4_needSlice : List Cond := .code yX4_needSlice cX4_needSlice 2 none :: ([.fieldLink RX4 13 "StemShapes" "slices" "I", .classLink RX4 105 RJx00060, .instantiable RJx00060 6, .initialized RJx00060] ++ wsX40 ++ wsJx000600)
def wsX4_shadow_r1 : List Cond := [Cond.classLink RX4 59 "java/lang/IllegalArgumentException", Cond.initialized "java/lang/IllegalArgumentException", Cond.fieldLink RX4 25 "StemShapes" "shadows" "LStemShapes$Shadows;", Cond.fieldLink RX4 72 "StemShapes" "shaped" "Z", Cond.methodLink RX4 76 yX4_needSlice, Cond.instanceMethod yX4_needSlice, Cond.selects RX4 yX4_needSlice yX4_needSlice, Cond.initialized RX4, Cond.code yX4_needSlice cX4_needSlice 2 none, Cond.fieldLink RX4 13 "StemShapes" "slices" "I", Cond.classLink RX4 105 RJx00060, Cond.instantiable RJx00060 6, Cond.initialized RJx00060, Cond.methodLink RX4 52 yX4_needView, Cond.instanceMethod yX4_needView, Cond.selects RX4 yX4_needView yX4_needView, Cond.code yX4_needView cX4_needView 2 none, Cond.fieldLink RX4 17 "StemShapes" "views" "I", Cond.methodLink RX4 55 yX4_within, Cond.static yX4_within, Cond.code yX4_within cX4_within 3 (some .boolean), Cond.methodLink RX4 83 yX2_cast, Cond.instanceMethod yX2_cast, Cond.selects RX2 yX2_cast yX2_cast]
def wsX4_shadow_r2 : List Cond := [Cond.initialized RX2, Cond.code yX2_cast cX2_cast 8 none, Cond.fieldLink RX2 23 "StemShapes$Shadows" "there" "[Z", Cond.fieldLink RX2 27 "StemShapes$Shadows" "middle" "[D", Cond.constantDouble RX2 43 (4611686018427387904), Cond.fieldLink RX2 30 "StemShapes$Shadows" "half" "[D", Cond.methodLink RX2 39 yX2_place, Cond.instanceMethod yX2_place, Cond.selects RX2 yX2_place yX2_place, Cond.code yX2_place cX2_place 3 (some .int), Cond.fieldLink RX2 7 "StemShapes$Shadows" "views" "I"]
def wsX4_shadow : List Cond := .code yX4_shadow cX4_shadow 7 none :: ((wsX4_shadow_r1 ++ wsX4_shadow_r2) ++ wsX40 ++ wsJx000600 ++ wsX20 ++ (vx_atS RX4 63 "java/lang/IllegalArgumentException" ["java/lang/RuntimeException", "java/lang/Exception"]).filter goodWord)
def wsX4_lift_r1 : List Cond := [Cond.fieldLink RX4 25 "StemShapes" "shadows" "LStemShapes$Shadows;", Cond.fieldLink RX4 72 "StemShapes" "shaped" "Z", Cond.methodLink RX4 76 yX4_needSlice, Cond.instanceMethod yX4_needSlice, Cond.selects RX4 yX4_needSlice yX4_needSlice, Cond.initialized RX4, Cond.code yX4_needSlice cX4_needSlice 2 none, Cond.fieldLink RX4 13 "StemShapes" "slices" "I", Cond.classLink RX4 105 RJx00060, Cond.instantiable RJx00060 6, Cond.initialized RJx00060, Cond.methodLink RX4 52 yX4_needView, Cond.instanceMethod yX4_needView, Cond.selects RX4 yX4_needView yX4_needView, Cond.code yX4_needView cX4_needView 2 none, Cond.fieldLink RX4 17 "StemShapes" "views" "I", Cond.methodLink RX4 87 yX2_takeAway, Cond.instanceMethod yX2_takeAway, Cond.selects RX2 yX2_takeAway yX2_takeAway, Cond.initialized RX2, Cond.code yX2_takeAway cX2_takeAway 5 (some .boolean), Cond.fieldLink RX2 23 "StemShapes$Shadows" "there" "[Z", Cond.methodLink RX2 39 yX2_place, Cond.instanceMethod yX2_place]
def wsX4_lift_r2 : List Cond := [Cond.selects RX2 yX2_place yX2_place, Cond.code yX2_place cX2_place 3 (some .int), Cond.fieldLink RX2 7 "StemShapes$Shadows" "views" "I"]
def wsX4_lift : List Cond := .code yX4_lift cX4_lift 4 (some .boolean) :: ((wsX4_lift_r1 ++ wsX4_lift_r2) ++ wsX40 ++ wsJx000600 ++ wsX20)
def wsX4_run_r1 : List Cond := [Cond.fieldLink RX4 13 "StemShapes" "slices" "I", Cond.fieldLink RX4 34 "StemShapes" "stem" "LStemShapes$Stem;", Cond.fieldLink RX4 25 "StemShapes" "shadows" "LStemShapes$Shadows;", Cond.fieldLink RX4 72 "StemShapes" "shaped" "Z", Cond.methodLink RX4 95 yX2_fitInto, Cond.instanceMethod yX2_fitInto, Cond.selects RX2 yX2_fitInto yX2_fitInto, Cond.initialized RX2, Cond.code yX2_fitInto cX2_fitInto 4 (some .boolean), Cond.methodLink RX2 45 yX2_countOf, Cond.instanceMethod yX2_countOf, Cond.selects RX2 yX2_countOf yX2_countOf, Cond.code yX2_countOf cX2_countOf 4 (some .int), Cond.fieldLink RX2 7 "StemShapes$Shadows" "views" "I", Cond.fieldLink RX2 23 "StemShapes$Shadows" "there" "[Z", Cond.methodLink RX2 39 yX2_place, Cond.instanceMethod yX2_place, Cond.selects RX2 yX2_place yX2_place, Cond.code yX2_place cX2_place 3 (some .int), Cond.methodLink RX2 49 yX2_fitCentre, Cond.instanceMethod yX2_fitCentre, Cond.selects RX2 yX2_fitCentre yX2_fitCentre, Cond.code yX2_fitCentre cX2_fitCentre 17 (some .boolean), Cond.fieldLink RX2 13 "StemShapes$Shadows" "p" "[D"]
def wsX4_run_r2 : List Cond := [Cond.fieldLink RX2 17 "StemShapes$Shadows" "q" "[D", Cond.fieldLink RX2 27 "StemShapes$Shadows" "middle" "[D", Cond.constantDouble RX2 75 (4517110426252607488), Cond.methodLink RX2 58 yX2_sumOfRadii, Cond.instanceMethod yX2_sumOfRadii, Cond.selects RX2 yX2_sumOfRadii yX2_sumOfRadii, Cond.code yX2_sumOfRadii cX2_sumOfRadii 6 (some .double), Cond.fieldLink RX2 30 "StemShapes$Shadows" "half" "[D", Cond.fieldLink RX2 20 "StemShapes$Shadows" "length" "[D", Cond.methodLink RX2 71 yX2_sumOfErrors, Cond.instanceMethod yX2_sumOfErrors, Cond.selects RX2 yX2_sumOfErrors yX2_sumOfErrors, Cond.code yX2_sumOfErrors cX2_sumOfErrors 12 (some .double), Cond.methodLink RX4 102 yX3_mendAll, Cond.instanceMethod yX3_mendAll, Cond.selects RX3 yX3_mendAll yX3_mendAll, Cond.initialized RX3, Cond.code yX3_mendAll cX3_mendAll 2 none, Cond.fieldLink RX3 9 "StemShapes$Stem" "slices" "I", Cond.fieldLink RX3 28 "StemShapes$Stem" "isFitted" "[Z", Cond.methodLink RX3 32 yX3_fittedBefore, Cond.instanceMethod yX3_fittedBefore, Cond.selects RX3 yX3_fittedBefore yX3_fittedBefore, Cond.code yX3_fittedBefore cX3_fittedBefore 3 (some .int)]
def wsX4_run_r3 : List Cond := [Cond.methodLink RX3 36 yX3_fittedBehind, Cond.instanceMethod yX3_fittedBehind, Cond.selects RX3 yX3_fittedBehind yX3_fittedBehind, Cond.code yX3_fittedBehind cX3_fittedBehind 3 (some .int), Cond.methodLink RX3 39 yX3_mendOne, Cond.instanceMethod yX3_mendOne, Cond.selects RX3 yX3_mendOne yX3_mendOne, Cond.code yX3_mendOne cX3_mendOne 6 none, Cond.fieldLink RX3 15 "StemShapes$Stem" "x" "[D", Cond.fieldLink RX3 19 "StemShapes$Stem" "y" "[D", Cond.fieldLink RX3 22 "StemShapes$Stem" "radius" "[D", Cond.fieldLink RX3 25 "StemShapes$Stem" "residual" "[D", Cond.methodLink RX3 57 yX3_between, Cond.static yX3_between, Cond.code yX3_between cX3_between 4 (some .double)]
def wsX4_run : List Cond := .code yX4_run cX4_run 3 (some .int) :: ((wsX4_run_r1 ++ (wsX4_run_r2 ++ wsX4_run_r3)) ++ wsX40 ++ wsX30 ++ wsX20)
def wsX4_needShape : List Cond := .code yX4_needShape cX4_needShape 1 none :: ([.classLink RX4 158 "java/lang/IllegalStateException", .initialized "java/lang/IllegalStateException", .fieldLink RX4 72 "StemShapes" "shaped" "Z"] ++ wsX40 ++ (vx_atS RX4 162 "java/lang/IllegalStateException" ["java/lang/RuntimeException", "java/lang/Exception"]).filter goodWord)
def wsX4_shape : List Cond := .code yX4_shape cX4_shape 3 (some .double) :: ([.classLink RX4 105 RJx00060, .instantiable RJx00060 6, .initialized RJx00060, .fieldLink RX4 34 "StemShapes" "stem" "LStemShapes$Stem;", .methodLink RX4 76 yX4_needSlice, .instanceMethod yX4_needSlice, .selects RX4 yX4_needSlice yX4_needSlice, .initialized RX4, .code yX4_needSlice cX4_needSlice 2 none, .fieldLink RX4 13 "StemShapes" "slices" "I", .methodLink RX4 110 yX4_needShape, .instanceMethod yX4_needShape, .selects RX4 yX4_needShape yX4_needShape, .code yX4_needShape cX4_needShape 1 none, .classLink RX4 158 "java/lang/IllegalStateException", .initialized "java/lang/IllegalStateException", .fieldLink RX4 72 "StemShapes" "shaped" "Z", .methodLink RX4 126 yX3_areaOf, .instanceMethod yX3_areaOf, .selects RX3 yX3_areaOf yX3_areaOf, .initialized RX3, .code yX3_areaOf cX3_areaOf 2 (some .double), .constantDouble RX3 43 (4614254477589872640), .fieldLink RX3 22 "StemShapes$Stem" "radius" "[D"] ++ wsJx000600 ++ wsX40 ++ wsX30 ++ (vx_atS RX4 162 "java/lang/IllegalStateException" ["java/lang/RuntimeException", "java/lang/Exception"]).filter goodWord)
def wsX4_fitted : List Cond := .code yX4_fitted cX4_fitted 2 (some .boolean) :: ([.fieldLink RX4 34 "StemShapes" "stem" "LStemShapes$Stem;", .methodLink RX4 76 yX4_needSlice, .instanceMethod yX4_needSlice, .selects RX4 yX4_needSlice yX4_needSlice, .initialized RX4, .code yX4_needSlice cX4_needSlice 2 none, .fieldLink RX4 13 "StemShapes" "slices" "I", .classLink RX4 105 RJx00060, .instantiable RJx00060 6, .initialized RJx00060, .methodLink RX4 110 yX4_needShape, .instanceMethod yX4_needShape, .selects RX4 yX4_needShape yX4_needShape, .code yX4_needShape cX4_needShape 1 none, .classLink RX4 158 "java/lang/IllegalStateException", .initialized "java/lang/IllegalStateException", .fieldLink RX4 72 "StemShapes" "shaped" "Z"] ++ wsX40 ++ wsX30 ++ wsJx000600 ++ (vx_atS RX4 162 "java/lang/IllegalStateException" ["java/lang/RuntimeException", "java/lang/Exception"]).filter goodWord)
def wsX4_inside_r1 : List Cond := [Cond.classLink RX4 59 "java/lang/IllegalArgumentException", Cond.initialized "java/lang/IllegalArgumentException", Cond.fieldLink RX4 34 "StemShapes" "stem" "LStemShapes$Stem;", Cond.methodLink RX4 76 yX4_needSlice, Cond.instanceMethod yX4_needSlice, Cond.selects RX4 yX4_needSlice yX4_needSlice, Cond.initialized RX4, Cond.code yX4_needSlice cX4_needSlice 2 none, Cond.fieldLink RX4 13 "StemShapes" "slices" "I", Cond.classLink RX4 105 RJx00060, Cond.instantiable RJx00060 6, Cond.initialized RJx00060, Cond.methodLink RX4 55 yX4_within, Cond.static yX4_within, Cond.code yX4_within cX4_within 3 (some .boolean), Cond.methodLink RX4 110 yX4_needShape, Cond.instanceMethod yX4_needShape, Cond.selects RX4 yX4_needShape yX4_needShape, Cond.code yX4_needShape cX4_needShape 1 none, Cond.classLink RX4 158 "java/lang/IllegalStateException", Cond.initialized "java/lang/IllegalStateException", Cond.fieldLink RX4 72 "StemShapes" "shaped" "Z", Cond.methodLink RX4 132 yX3_covers, Cond.instanceMethod yX3_covers]
def wsX4_inside_r2 : List Cond := [Cond.selects RX3 yX3_covers yX3_covers, Cond.initialized RX3, Cond.code yX3_covers cX3_covers 10 (some .boolean), Cond.fieldLink RX3 15 "StemShapes$Stem" "x" "[D", Cond.fieldLink RX3 19 "StemShapes$Stem" "y" "[D", Cond.fieldLink RX3 22 "StemShapes$Stem" "radius" "[D"]
def wsX4_inside : List Cond := .code yX4_inside cX4_inside 6 (some .boolean) :: ((wsX4_inside_r1 ++ wsX4_inside_r2) ++ wsX40 ++ wsJx000600 ++ wsX30 ++ (vx_atS RX4 63 "java/lang/IllegalArgumentException" ["java/lang/RuntimeException", "java/lang/Exception"]).filter goodWord ++ (vx_atS RX4 162 "java/lang/IllegalStateException" ["java/lang/RuntimeException", "java/lang/Exception"]).filter goodWord)
def wsX4_wholes_r1 : List Cond := [Cond.fieldLink RX4 34 "StemShapes" "stem" "LStemShapes$Stem;", Cond.methodLink RX4 76 yX4_needSlice, Cond.instanceMethod yX4_needSlice, Cond.selects RX4 yX4_needSlice yX4_needSlice, Cond.initialized RX4, Cond.code yX4_needSlice cX4_needSlice 2 none, Cond.fieldLink RX4 13 "StemShapes" "slices" "I", Cond.classLink RX4 105 RJx00060, Cond.instantiable RJx00060 6, Cond.initialized RJx00060, Cond.methodLink RX4 110 yX4_needShape, Cond.instanceMethod yX4_needShape, Cond.selects RX4 yX4_needShape yX4_needShape, Cond.code yX4_needShape cX4_needShape 1 none, Cond.classLink RX4 158 "java/lang/IllegalStateException", Cond.initialized "java/lang/IllegalStateException", Cond.fieldLink RX4 72 "StemShapes" "shaped" "Z", Cond.methodLink RX4 136 yX3_cellsOf, Cond.instanceMethod yX3_cellsOf, Cond.selects RX3 yX3_cellsOf yX3_cellsOf, Cond.initialized RX3, Cond.code yX3_cellsOf cX3_cellsOf 5 (some .int), Cond.methodLink RX3 45 yX3_covers, Cond.instanceMethod yX3_covers]
def wsX4_wholes_r2 : List Cond := [Cond.selects RX3 yX3_covers yX3_covers, Cond.code yX3_covers cX3_covers 10 (some .boolean), Cond.fieldLink RX3 15 "StemShapes$Stem" "x" "[D", Cond.fieldLink RX3 19 "StemShapes$Stem" "y" "[D", Cond.fieldLink RX3 22 "StemShapes$Stem" "radius" "[D"]
def wsX4_wholes : List Cond := .code yX4_wholes cX4_wholes 2 (some .int) :: ((wsX4_wholes_r1 ++ wsX4_wholes_r2) ++ wsX40 ++ wsJx000600 ++ wsX30 ++ (vx_atS RX4 162 "java/lang/IllegalStateException" ["java/lang/RuntimeException", "java/lang/Exception"]).filter goodWord)
def wsX4_volume : List Cond := .code yX4_volume cX4_volume 1 (some .double) :: ([.fieldLink RX4 34 "StemShapes" "stem" "LStemShapes$Stem;", .methodLink RX4 110 yX4_needShape, .instanceMethod yX4_needShape, .selects RX4 yX4_needShape yX4_needShape, .initialized RX4, .code yX4_needShape cX4_needShape 1 none, .classLink RX4 158 "java/lang/IllegalStateException", .initialized "java/lang/IllegalStateException", .fieldLink RX4 72 "StemShapes" "shaped" "Z", .methodLink RX4 140 yX3_sumOfAreas, .instanceMethod yX3_sumOfAreas, .selects RX3 yX3_sumOfAreas yX3_sumOfAreas, .initialized RX3, .code yX3_sumOfAreas cX3_sumOfAreas 4 (some .double), .fieldLink RX3 9 "StemShapes$Stem" "slices" "I", .methodLink RX3 49 yX3_areaOf, .instanceMethod yX3_areaOf, .selects RX3 yX3_areaOf yX3_areaOf, .code yX3_areaOf cX3_areaOf 2 (some .double), .constantDouble RX3 43 (4614254477589872640), .fieldLink RX3 22 "StemShapes$Stem" "radius" "[D"] ++ wsX40 ++ wsX30 ++ (vx_atS RX4 162 "java/lang/IllegalStateException" ["java/lang/RuntimeException", "java/lang/Exception"]).filter goodWord)
def wsX4_taper : List Cond := .code yX4_taper cX4_taper 1 (some .double) :: ([.fieldLink RX4 34 "StemShapes" "stem" "LStemShapes$Stem;", .methodLink RX4 110 yX4_needShape, .instanceMethod yX4_needShape, .selects RX4 yX4_needShape yX4_needShape, .initialized RX4, .code yX4_needShape cX4_needShape 1 none, .classLink RX4 158 "java/lang/IllegalStateException", .initialized "java/lang/IllegalStateException", .fieldLink RX4 72 "StemShapes" "shaped" "Z", .methodLink RX4 144 yX3_thinning, .instanceMethod yX3_thinning, .selects RX3 yX3_thinning yX3_thinning, .initialized RX3, .code yX3_thinning cX3_thinning 1 (some .double), .fieldLink RX3 9 "StemShapes$Stem" "slices" "I", .fieldLink RX3 22 "StemShapes$Stem" "radius" "[D"] ++ wsX40 ++ wsX30 ++ (vx_atS RX4 162 "java/lang/IllegalStateException" ["java/lang/RuntimeException", "java/lang/Exception"]).filter goodWord)
def wsX4_sweep : List Cond := .code yX4_sweep cX4_sweep 1 (some .double) :: ([.fieldLink RX4 34 "StemShapes" "stem" "LStemShapes$Stem;", .methodLink RX4 110 yX4_needShape, .instanceMethod yX4_needShape, .selects RX4 yX4_needShape yX4_needShape, .initialized RX4, .code yX4_needShape cX4_needShape 1 none, .classLink RX4 158 "java/lang/IllegalStateException", .initialized "java/lang/IllegalStateException", .fieldLink RX4 72 "StemShapes" "shaped" "Z", .methodLink RX4 147 yX3_greatestBend, .instanceMethod yX3_greatestBend, .selects RX3 yX3_greatestBend yX3_greatestBend, .initialized RX3, .code yX3_greatestBend cX3_greatestBend 10 (some .double), .fieldLink RX3 9 "StemShapes$Stem" "slices" "I", .fieldLink RX3 15 "StemShapes$Stem" "x" "[D", .fieldLink RX3 19 "StemShapes$Stem" "y" "[D", .methodLink RX3 53 yX3_straight, .instanceMethod yX3_straight, .selects RX3 yX3_straight yX3_straight, .code yX3_straight cX3_straight 3 (some .double)] ++ wsX40 ++ wsX30 ++ (vx_atS RX4 162 "java/lang/IllegalStateException" ["java/lang/RuntimeException", "java/lang/Exception"]).filter goodWord)
def wsX4_rule : List Cond := .code yX4_rule cX4_rule 5 (some .int) :: ([.classLink RX4 59 "java/lang/IllegalArgumentException", .initialized "java/lang/IllegalArgumentException", .classLink RX4 158 "java/lang/IllegalStateException", .initialized "java/lang/IllegalStateException", .fieldLink RX4 48 "StemShapes" "rules" "LStemShapes$RuleList;", .methodLink RX4 154 yX1_isFull, .instanceMethod yX1_isFull, .selects RX1 yX1_isFull yX1_isFull, .initialized RX1, .code yX1_isFull cX1_isFull 1 (some .boolean), .fieldLink RX1 22 "StemShapes$RuleList" "count" "I", .methodLink RX4 163 yX1_addOne, .instanceMethod yX1_addOne, .selects RX1 yX1_addOne yX1_addOne, .code yX1_addOne cX1_addOne 5 (some .int), .fieldLink RX1 9 "StemShapes$RuleList" "kinds" "[I", .fieldLink RX1 15 "StemShapes$RuleList" "limits" "[D", .fieldLink RX1 19 "StemShapes$RuleList" "classes" "[I"] ++ wsX40 ++ wsX10 ++ (vx_atS RX4 63 "java/lang/IllegalArgumentException" ["java/lang/RuntimeException", "java/lang/Exception"]).filter goodWord ++ (vx_atS RX4 162 "java/lang/IllegalStateException" ["java/lang/RuntimeException", "java/lang/Exception"]).filter goodWord)
def wsX4_cls_r1 : List Cond := [Cond.fieldLink RX4 48 "StemShapes" "rules" "LStemShapes$RuleList;", Cond.fieldLink RX4 34 "StemShapes" "stem" "LStemShapes$Stem;", Cond.methodLink RX4 110 yX4_needShape, Cond.instanceMethod yX4_needShape, Cond.selects RX4 yX4_needShape yX4_needShape, Cond.initialized RX4, Cond.code yX4_needShape cX4_needShape 1 none, Cond.classLink RX4 158 "java/lang/IllegalStateException", Cond.initialized "java/lang/IllegalStateException", Cond.fieldLink RX4 72 "StemShapes" "shaped" "Z", Cond.methodLink RX4 167 yX1_classOf, Cond.instanceMethod yX1_classOf, Cond.selects RX1 yX1_classOf yX1_classOf, Cond.initialized RX1, Cond.code yX1_classOf cX1_classOf 3 (some .int), Cond.fieldLink RX1 22 "StemShapes$RuleList" "count" "I", Cond.fieldLink RX1 9 "StemShapes$RuleList" "kinds" "[I", Cond.fieldLink RX1 15 "StemShapes$RuleList" "limits" "[D", Cond.fieldLink RX1 19 "StemShapes$RuleList" "classes" "[I", Cond.methodLink RX1 26 yX1_holds, Cond.static yX1_holds, Cond.code yX1_holds cX1_holds 4 (some .boolean), Cond.methodLink RX1 30 yX3_greatestBend, Cond.instanceMethod yX3_greatestBend]
def wsX4_cls_r2 : List Cond := [Cond.selects RX3 yX3_greatestBend yX3_greatestBend, Cond.initialized RX3, Cond.code yX3_greatestBend cX3_greatestBend 10 (some .double), Cond.fieldLink RX3 9 "StemShapes$Stem" "slices" "I", Cond.fieldLink RX3 15 "StemShapes$Stem" "x" "[D", Cond.fieldLink RX3 19 "StemShapes$Stem" "y" "[D", Cond.methodLink RX3 53 yX3_straight, Cond.instanceMethod yX3_straight, Cond.selects RX3 yX3_straight yX3_straight, Cond.code yX3_straight cX3_straight 3 (some .double), Cond.methodLink RX1 36 yX3_thinning, Cond.instanceMethod yX3_thinning, Cond.selects RX3 yX3_thinning yX3_thinning, Cond.code yX3_thinning cX3_thinning 1 (some .double), Cond.fieldLink RX3 22 "StemShapes$Stem" "radius" "[D", Cond.methodLink RX1 39 yX3_lastRadius, Cond.instanceMethod yX3_lastRadius, Cond.selects RX3 yX3_lastRadius yX3_lastRadius, Cond.code yX3_lastRadius cX3_lastRadius 1 (some .double), Cond.methodLink RX1 42 yX3_sumOfAreas, Cond.instanceMethod yX3_sumOfAreas, Cond.selects RX3 yX3_sumOfAreas yX3_sumOfAreas, Cond.code yX3_sumOfAreas cX3_sumOfAreas 4 (some .double), Cond.methodLink RX3 49 yX3_areaOf]
def wsX4_cls_r3 : List Cond := [Cond.instanceMethod yX3_areaOf, Cond.selects RX3 yX3_areaOf yX3_areaOf, Cond.code yX3_areaOf cX3_areaOf 2 (some .double), Cond.constantDouble RX3 43 (4614254477589872640)]
def wsX4_cls : List Cond := .code yX4_cls cX4_cls 1 (some .int) :: ((wsX4_cls_r1 ++ (wsX4_cls_r2 ++ wsX4_cls_r3)) ++ wsX40 ++ wsX10 ++ wsX30 ++ (vx_atS RX4 162 "java/lang/IllegalStateException" ["java/lang/RuntimeException", "java/lang/Exception"]).filter goodWord)
def wsX4_keep : List Cond := .code yX4_keep cX4_keep 1 none :: ([.fieldLink RX4 41 "StemShapes" "kept" "LStemShapes$Kept;", .fieldLink RX4 34 "StemShapes" "stem" "LStemShapes$Stem;", .methodLink RX4 110 yX4_needShape, .instanceMethod yX4_needShape, .selects RX4 yX4_needShape yX4_needShape, .initialized RX4, .code yX4_needShape cX4_needShape 1 none, .classLink RX4 158 "java/lang/IllegalStateException", .initialized "java/lang/IllegalStateException", .fieldLink RX4 72 "StemShapes" "shaped" "Z", .methodLink RX4 171 yX0_take, .instanceMethod yX0_take, .selects RX0 yX0_take yX0_take, .initialized RX0, .code yX0_take cX0_take 3 none, .fieldLink RX0 9 "StemShapes$Kept" "x" "[D", .fieldLink RX0 15 "StemShapes$Kept" "y" "[D", .fieldLink RX0 22 "StemShapes$Kept" "isThere" "Z"] ++ wsX40 ++ wsX00 ++ wsX30 ++ (vx_atS RX4 162 "java/lang/IllegalStateException" ["java/lang/RuntimeException", "java/lang/Exception"]).filter goodWord)
def wsX4_needKept : List Cond := .code yX4_needKept cX4_needKept 1 none :: ([.classLink RX4 158 "java/lang/IllegalStateException", .initialized "java/lang/IllegalStateException", .fieldLink RX4 41 "StemShapes" "kept" "LStemShapes$Kept;"] ++ wsX40 ++ wsX00 ++ (vx_atS RX4 162 "java/lang/IllegalStateException" ["java/lang/RuntimeException", "java/lang/Exception"]).filter goodWord)
def wsX4_apart_r1 : List Cond := [Cond.classLink RX4 59 "java/lang/IllegalArgumentException", Cond.initialized "java/lang/IllegalArgumentException", Cond.fieldLink RX4 41 "StemShapes" "kept" "LStemShapes$Kept;", Cond.fieldLink RX4 34 "StemShapes" "stem" "LStemShapes$Stem;", Cond.methodLink RX4 110 yX4_needShape, Cond.instanceMethod yX4_needShape, Cond.selects RX4 yX4_needShape yX4_needShape, Cond.initialized RX4, Cond.code yX4_needShape cX4_needShape 1 none, Cond.classLink RX4 158 "java/lang/IllegalStateException", Cond.initialized "java/lang/IllegalStateException", Cond.fieldLink RX4 72 "StemShapes" "shaped" "Z", Cond.methodLink RX4 177 yX4_needKept, Cond.instanceMethod yX4_needKept, Cond.selects RX4 yX4_needKept yX4_needKept, Cond.code yX4_needKept cX4_needKept 1 none, Cond.methodLink RX4 180 yX0_distance, Cond.instanceMethod yX0_distance, Cond.selects RX0 yX0_distance yX0_distance, Cond.initialized RX0, Cond.code yX0_distance cX0_distance 10 (some .double), Cond.fieldLink RX0 9 "StemShapes$Kept" "x" "[D", Cond.methodLink RX0 26 yX0_turnedX, Cond.instanceMethod yX0_turnedX]
def wsX4_apart_r2 : List Cond := [Cond.selects RX0 yX0_turnedX yX0_turnedX, Cond.code yX0_turnedX cX0_turnedX 3 (some .double), Cond.fieldLink RX0 15 "StemShapes$Kept" "y" "[D", Cond.methodLink RX0 30 yX0_turnedY, Cond.instanceMethod yX0_turnedY, Cond.selects RX0 yX0_turnedY yX0_turnedY, Cond.code yX0_turnedY cX0_turnedY 3 (some .double)]
def wsX4_apart : List Cond := .code yX4_apart cX4_apart 2 (some .double) :: ((wsX4_apart_r1 ++ wsX4_apart_r2) ++ wsX40 ++ wsX00 ++ wsX30 ++ (vx_atS RX4 63 "java/lang/IllegalArgumentException" ["java/lang/RuntimeException", "java/lang/Exception"]).filter goodWord ++ (vx_atS RX4 162 "java/lang/IllegalStateException" ["java/lang/RuntimeException", "java/lang/Exception"]).filter goodWord)
def wsX4_match_r1 : List Cond := [Cond.fieldLink RX4 41 "StemShapes" "kept" "LStemShapes$Kept;", Cond.fieldLink RX4 34 "StemShapes" "stem" "LStemShapes$Stem;", Cond.methodLink RX4 110 yX4_needShape, Cond.instanceMethod yX4_needShape, Cond.selects RX4 yX4_needShape yX4_needShape, Cond.initialized RX4, Cond.code yX4_needShape cX4_needShape 1 none, Cond.classLink RX4 158 "java/lang/IllegalStateException", Cond.initialized "java/lang/IllegalStateException", Cond.fieldLink RX4 72 "StemShapes" "shaped" "Z", Cond.methodLink RX4 177 yX4_needKept, Cond.instanceMethod yX4_needKept, Cond.selects RX4 yX4_needKept yX4_needKept, Cond.code yX4_needKept cX4_needKept 1 none, Cond.methodLink RX4 184 yX0_nearestTurn, Cond.instanceMethod yX0_nearestTurn, Cond.selects RX0 yX0_nearestTurn yX0_nearestTurn, Cond.initialized RX0, Cond.code yX0_nearestTurn cX0_nearestTurn 8 (some .int), Cond.methodLink RX0 33 yX0_distance, Cond.instanceMethod yX0_distance, Cond.selects RX0 yX0_distance yX0_distance, Cond.code yX0_distance cX0_distance 10 (some .double), Cond.fieldLink RX0 9 "StemShapes$Kept" "x" "[D"]
def wsX4_match_r2 : List Cond := [Cond.methodLink RX0 26 yX0_turnedX, Cond.instanceMethod yX0_turnedX, Cond.selects RX0 yX0_turnedX yX0_turnedX, Cond.code yX0_turnedX cX0_turnedX 3 (some .double), Cond.fieldLink RX0 15 "StemShapes$Kept" "y" "[D", Cond.methodLink RX0 30 yX0_turnedY, Cond.instanceMethod yX0_turnedY, Cond.selects RX0 yX0_turnedY yX0_turnedY, Cond.code yX0_turnedY cX0_turnedY 3 (some .double)]
def wsX4_match : List Cond := .code yX4_match cX4_match 1 (some .int) :: ((wsX4_match_r1 ++ wsX4_match_r2) ++ wsX40 ++ wsX00 ++ wsX30 ++ (vx_atS RX4 162 "java/lang/IllegalStateException" ["java/lang/RuntimeException", "java/lang/Exception"]).filter goodWord)
def wsX4_law : List Cond := .code yX4_law cX4_law 9 (some .long) :: ([.classLink RX4 59 "java/lang/IllegalArgumentException", .initialized "java/lang/IllegalArgumentException", .constantLong RX4 187 (1000000000), .constantLong RX4 191 (1000000)] ++ (vx_atS RX4 63 "java/lang/IllegalArgumentException" ["java/lang/RuntimeException", "java/lang/Exception"]).filter goodWord)
def wsX5_init : List Cond := .code yX5_init cX5_init 3 none :: ([.methodLink RX5 1 objectInit, .instanceMethod objectInit, .code objectInit ⟨#[0xb1]⟩ 1 none, .arrayClass .double, .fieldLink RX5 7 "StemShapesModel" "ps" "[D", .fieldLink RX5 13 "StemShapesModel" "qs" "[D", .arrayClass .boolean, .fieldLink RX5 16 "StemShapesModel" "there" "[Z", .fieldLink RX5 20 "StemShapesModel" "froms" "[D", .fieldLink RX5 23 "StemShapesModel" "tos" "[D", .fieldLink RX5 26 "StemShapesModel" "fitted" "[Z", .fieldLink RX5 29 "StemShapesModel" "shapes" "[D", .arrayClass .int, .fieldLink RX5 32 "StemShapesModel" "kinds" "[I", .fieldLink RX5 36 "StemShapesModel" "limits" "[D", .fieldLink RX5 39 "StemShapesModel" "classes" "[I", .fieldLink RX5 42 "StemShapesModel" "keptX" "[D", .fieldLink RX5 45 "StemShapesModel" "keptY" "[D", .fieldLink RX5 48 "StemShapesModel" "slices" "I", .fieldLink RX5 52 "StemShapesModel" "views" "I"] ++ wsX50)
def wsX5_thrown : List Cond := .code yX5_thrown cX5_thrown 1 (some .int) :: ([.fieldLink RX5 55 "StemShapesModel" "thrown" "I"] ++ wsX50)
def wsX5_between : List Cond := .code yX5_between cX5_between 6 (some .boolean) :: ([])
def wsX5_noSlice : List Cond := .code yX5_noSlice cX5_noSlice 2 (some .boolean) :: ([.fieldLink RX5 48 "StemShapesModel" "slices" "I"] ++ wsX50)
def wsX5_noView : List Cond := .code yX5_noView cX5_noView 2 (some .boolean) :: ([.fieldLink RX5 52 "StemShapesModel" "views" "I"] ++ wsX50)
def wsX5_aim : List Cond := .code yX5_aim cX5_aim 6 none :: ([.constantDouble RX5 62 (13848568854164275200), .constantDouble RX5 64 (4625196817309499392), .fieldLink RX5 55 "StemShapesModel" "thrown" "I", .fieldLink RX5 7 "StemShapesModel" "ps" "[D", .fieldLink RX5 13 "StemShapesModel" "qs" "[D", .fieldLink RX5 70 "StemShapesModel" "known" "Z", .methodLink RX5 58 yX5_noView, .instanceMethod yX5_noView, .selects RX5 yX5_noView yX5_noView, .initialized RX5, .code yX5_noView cX5_noView 2 (some .boolean), .fieldLink RX5 52 "StemShapesModel" "views" "I", .methodLink RX5 66 yX5_between, .static yX5_between, .code yX5_between cX5_between 6 (some .boolean)] ++ wsX50)
def wsX5_shadow : List Cond := .code yX5_shadow cX5_shadow 7 none :: ([.constantDouble RX5 77 (13875379345695965184), .constantDouble RX5 79 (4652007308841189376), .fieldLink RX5 55 "StemShapesModel" "thrown" "I", .fieldLink RX5 16 "StemShapesModel" "there" "[Z", .fieldLink RX5 20 "StemShapesModel" "froms" "[D", .fieldLink RX5 23 "StemShapesModel" "tos" "[D", .fieldLink RX5 70 "StemShapesModel" "known" "Z", .methodLink RX5 74 yX5_noSlice, .instanceMethod yX5_noSlice, .selects RX5 yX5_noSlice yX5_noSlice, .initialized RX5, .code yX5_noSlice cX5_noSlice 2 (some .boolean), .fieldLink RX5 48 "StemShapesModel" "slices" "I", .methodLink RX5 58 yX5_noView, .instanceMethod yX5_noView, .selects RX5 yX5_noView yX5_noView, .code yX5_noView cX5_noView 2 (some .boolean), .fieldLink RX5 52 "StemShapesModel" "views" "I", .methodLink RX5 66 yX5_between, .static yX5_between, .code yX5_between cX5_between 6 (some .boolean)] ++ wsX50)
def wsX5_lift : List Cond := .code yX5_lift cX5_lift 3 (some .boolean) :: ([.fieldLink RX5 55 "StemShapesModel" "thrown" "I", .fieldLink RX5 16 "StemShapesModel" "there" "[Z", .fieldLink RX5 70 "StemShapesModel" "known" "Z", .methodLink RX5 74 yX5_noSlice, .instanceMethod yX5_noSlice, .selects RX5 yX5_noSlice yX5_noSlice, .initialized RX5, .code yX5_noSlice cX5_noSlice 2 (some .boolean), .fieldLink RX5 48 "StemShapesModel" "slices" "I", .methodLink RX5 58 yX5_noView, .instanceMethod yX5_noView, .selects RX5 yX5_noView yX5_noView, .code yX5_noView cX5_noView 2 (some .boolean), .fieldLink RX5 52 "StemShapesModel" "views" "I"] ++ wsX50)
def wsX5_root : List Cond := .code yX5_root cX5_root 5 (some .double) :: ([.constantDouble RX5 81 (4611686018427387904)])
def wsX5_middle : List Cond := .code yX5_middle cX5_middle 2 (some .double) :: ([.fieldLink RX5 20 "StemShapesModel" "froms" "[D", .fieldLink RX5 23 "StemShapesModel" "tos" "[D", .constantDouble RX5 81 (4611686018427387904)] ++ wsX50)
def wsX5_set : List Cond := .code yX5_set cX5_set 10 none :: ([.fieldLink RX5 29 "StemShapesModel" "shapes" "[D"] ++ wsX50)
def wsX5_fit : List Cond := .code yX5_fit cX5_fit 27 (some .boolean) :: ([.fieldLink RX5 52 "StemShapesModel" "views" "I", .fieldLink RX5 16 "StemShapesModel" "there" "[Z", .fieldLink RX5 7 "StemShapesModel" "ps" "[D", .fieldLink RX5 13 "StemShapesModel" "qs" "[D", .fieldLink RX5 23 "StemShapesModel" "tos" "[D", .fieldLink RX5 20 "StemShapesModel" "froms" "[D", .constantDouble RX5 81 (4611686018427387904), .constantDouble RX5 91 (4517110426252607488), .methodLink RX5 83 yX5_middle, .instanceMethod yX5_middle, .selects RX5 yX5_middle yX5_middle, .initialized RX5, .code yX5_middle cX5_middle 2 (some .double), .methodLink RX5 87 yX5_root, .static yX5_root, .code yX5_root cX5_root 5 (some .double), .methodLink RX5 93 yX5_set, .instanceMethod yX5_set, .selects RX5 yX5_set yX5_set, .code yX5_set cX5_set 10 none, .fieldLink RX5 29 "StemShapesModel" "shapes" "[D"] ++ wsX50)
def wsX5_mixed : List Cond := .code yX5_mixed cX5_mixed 7 (some .double) :: ([.fieldLink RX5 29 "StemShapesModel" "shapes" "[D"] ++ wsX50)
def wsX5_mend : List Cond := .code yX5_mend cX5_mend 5 none :: ([.fieldLink RX5 26 "StemShapesModel" "fitted" "[Z", .fieldLink RX5 48 "StemShapesModel" "slices" "I", .fieldLink RX5 29 "StemShapesModel" "shapes" "[D", .methodLink RX5 97 yX5_mixed, .instanceMethod yX5_mixed, .selects RX5 yX5_mixed yX5_mixed, .initialized RX5, .code yX5_mixed cX5_mixed 7 (some .double), .methodLink RX5 93 yX5_set, .instanceMethod yX5_set, .selects RX5 yX5_set yX5_set, .code yX5_set cX5_set 10 none] ++ wsX50)
def wsX5_run_r1 : List Cond := [Cond.fieldLink RX5 55 "StemShapesModel" "thrown" "I", Cond.fieldLink RX5 70 "StemShapesModel" "known" "Z", Cond.fieldLink RX5 101 "StemShapesModel" "fits" "I", Cond.fieldLink RX5 48 "StemShapesModel" "slices" "I", Cond.fieldLink RX5 26 "StemShapesModel" "fitted" "[Z", Cond.methodLink RX5 104 yX5_fit, Cond.instanceMethod yX5_fit, Cond.selects RX5 yX5_fit yX5_fit, Cond.initialized RX5, Cond.code yX5_fit cX5_fit 27 (some .boolean), Cond.fieldLink RX5 52 "StemShapesModel" "views" "I", Cond.fieldLink RX5 16 "StemShapesModel" "there" "[Z", Cond.fieldLink RX5 7 "StemShapesModel" "ps" "[D", Cond.fieldLink RX5 13 "StemShapesModel" "qs" "[D", Cond.fieldLink RX5 23 "StemShapesModel" "tos" "[D", Cond.fieldLink RX5 20 "StemShapesModel" "froms" "[D", Cond.constantDouble RX5 81 (4611686018427387904), Cond.constantDouble RX5 91 (4517110426252607488), Cond.methodLink RX5 83 yX5_middle, Cond.instanceMethod yX5_middle, Cond.selects RX5 yX5_middle yX5_middle, Cond.code yX5_middle cX5_middle 2 (some .double), Cond.methodLink RX5 87 yX5_root, Cond.static yX5_root]
def wsX5_run_r2 : List Cond := [Cond.code yX5_root cX5_root 5 (some .double), Cond.methodLink RX5 93 yX5_set, Cond.instanceMethod yX5_set, Cond.selects RX5 yX5_set yX5_set, Cond.code yX5_set cX5_set 10 none, Cond.fieldLink RX5 29 "StemShapesModel" "shapes" "[D", Cond.methodLink RX5 107 yX5_mend, Cond.instanceMethod yX5_mend, Cond.selects RX5 yX5_mend yX5_mend, Cond.code yX5_mend cX5_mend 5 none, Cond.methodLink RX5 97 yX5_mixed, Cond.instanceMethod yX5_mixed, Cond.selects RX5 yX5_mixed yX5_mixed, Cond.code yX5_mixed cX5_mixed 7 (some .double)]
def wsX5_run : List Cond := .code yX5_run cX5_run 2 (some .int) :: ((wsX5_run_r1 ++ wsX5_run_r2) ++ wsX50)
def wsX5_hasShape : List Cond := .code yX5_hasShape cX5_hasShape 1 (some .boolean) :: ([.fieldLink RX5 70 "StemShapesModel" "known" "Z", .fieldLink RX5 101 "StemShapesModel" "fits" "I"] ++ wsX50)
def wsX5_area : List Cond := .code yX5_area cX5_area 4 (some .double) :: ([.fieldLink RX5 29 "StemShapesModel" "shapes" "[D", .constantDouble RX5 111 (4614254477589872640)] ++ wsX50)
def wsX5_shape : List Cond := .code yX5_shape cX5_shape 3 (some .double) :: ([.fieldLink RX5 55 "StemShapesModel" "thrown" "I", .fieldLink RX5 29 "StemShapesModel" "shapes" "[D", .methodLink RX5 74 yX5_noSlice, .instanceMethod yX5_noSlice, .selects RX5 yX5_noSlice yX5_noSlice, .initialized RX5, .code yX5_noSlice cX5_noSlice 2 (some .boolean), .fieldLink RX5 48 "StemShapesModel" "slices" "I", .methodLink RX5 113 yX5_hasShape, .instanceMethod yX5_hasShape, .selects RX5 yX5_hasShape yX5_hasShape, .code yX5_hasShape cX5_hasShape 1 (some .boolean), .fieldLink RX5 70 "StemShapesModel" "known" "Z", .fieldLink RX5 101 "StemShapesModel" "fits" "I", .methodLink RX5 117 yX5_area, .instanceMethod yX5_area, .selects RX5 yX5_area yX5_area, .code yX5_area cX5_area 4 (some .double), .constantDouble RX5 111 (4614254477589872640)] ++ wsX50)
def wsX5_fitted : List Cond := .code yX5_fitted cX5_fitted 2 (some .boolean) :: ([.fieldLink RX5 55 "StemShapesModel" "thrown" "I", .fieldLink RX5 26 "StemShapesModel" "fitted" "[Z", .methodLink RX5 74 yX5_noSlice, .instanceMethod yX5_noSlice, .selects RX5 yX5_noSlice yX5_noSlice, .initialized RX5, .code yX5_noSlice cX5_noSlice 2 (some .boolean), .fieldLink RX5 48 "StemShapesModel" "slices" "I", .methodLink RX5 113 yX5_hasShape, .instanceMethod yX5_hasShape, .selects RX5 yX5_hasShape yX5_hasShape, .code yX5_hasShape cX5_hasShape 1 (some .boolean), .fieldLink RX5 70 "StemShapesModel" "known" "Z", .fieldLink RX5 101 "StemShapesModel" "fits" "I"] ++ wsX50)
def wsX5_isInside : List Cond := .code yX5_isInside cX5_isInside 12 (some .boolean) :: ([.fieldLink RX5 29 "StemShapesModel" "shapes" "[D"] ++ wsX50)
def wsX5_inside : List Cond := .code yX5_inside cX5_inside 6 (some .boolean) :: ([.constantDouble RX5 77 (13875379345695965184), .constantDouble RX5 79 (4652007308841189376), .fieldLink RX5 55 "StemShapesModel" "thrown" "I", .methodLink RX5 74 yX5_noSlice, .instanceMethod yX5_noSlice, .selects RX5 yX5_noSlice yX5_noSlice, .initialized RX5, .code yX5_noSlice cX5_noSlice 2 (some .boolean), .fieldLink RX5 48 "StemShapesModel" "slices" "I", .methodLink RX5 66 yX5_between, .static yX5_between, .code yX5_between cX5_between 6 (some .boolean), .methodLink RX5 113 yX5_hasShape, .instanceMethod yX5_hasShape, .selects RX5 yX5_hasShape yX5_hasShape, .code yX5_hasShape cX5_hasShape 1 (some .boolean), .fieldLink RX5 70 "StemShapesModel" "known" "Z", .fieldLink RX5 101 "StemShapesModel" "fits" "I", .methodLink RX5 120 yX5_isInside, .instanceMethod yX5_isInside, .selects RX5 yX5_isInside yX5_isInside, .code yX5_isInside cX5_isInside 12 (some .boolean), .fieldLink RX5 29 "StemShapesModel" "shapes" "[D"] ++ wsX50)
def wsX5_wholes : List Cond := .code yX5_wholes cX5_wholes 5 (some .int) :: ([.fieldLink RX5 55 "StemShapesModel" "thrown" "I", .methodLink RX5 74 yX5_noSlice, .instanceMethod yX5_noSlice, .selects RX5 yX5_noSlice yX5_noSlice, .initialized RX5, .code yX5_noSlice cX5_noSlice 2 (some .boolean), .fieldLink RX5 48 "StemShapesModel" "slices" "I", .methodLink RX5 113 yX5_hasShape, .instanceMethod yX5_hasShape, .selects RX5 yX5_hasShape yX5_hasShape, .code yX5_hasShape cX5_hasShape 1 (some .boolean), .fieldLink RX5 70 "StemShapesModel" "known" "Z", .fieldLink RX5 101 "StemShapesModel" "fits" "I", .methodLink RX5 120 yX5_isInside, .instanceMethod yX5_isInside, .selects RX5 yX5_isInside yX5_isInside, .code yX5_isInside cX5_isInside 12 (some .boolean), .fieldLink RX5 29 "StemShapesModel" "shapes" "[D"] ++ wsX50)
def wsX5_volumeNow : List Cond := .code yX5_volumeNow cX5_volumeNow 4 (some .double) :: ([.fieldLink RX5 48 "StemShapesModel" "slices" "I", .methodLink RX5 117 yX5_area, .instanceMethod yX5_area, .selects RX5 yX5_area yX5_area, .initialized RX5, .code yX5_area cX5_area 4 (some .double), .fieldLink RX5 29 "StemShapesModel" "shapes" "[D", .constantDouble RX5 111 (4614254477589872640)] ++ wsX50)
def wsX5_taperNow : List Cond := .code yX5_taperNow cX5_taperNow 1 (some .double) :: ([.fieldLink RX5 48 "StemShapesModel" "slices" "I", .fieldLink RX5 29 "StemShapesModel" "shapes" "[D"] ++ wsX50)
def wsX5_off : List Cond := .code yX5_off cX5_off 7 (some .double) :: ([.fieldLink RX5 29 "StemShapesModel" "shapes" "[D", .fieldLink RX5 48 "StemShapesModel" "slices" "I"] ++ wsX50)
def wsX5_sweepNow : List Cond := .code yX5_sweepNow cX5_sweepNow 6 (some .double) :: ([.fieldLink RX5 48 "StemShapesModel" "slices" "I", .methodLink RX5 124 yX5_off, .instanceMethod yX5_off, .selects RX5 yX5_off yX5_off, .initialized RX5, .code yX5_off cX5_off 7 (some .double), .fieldLink RX5 29 "StemShapesModel" "shapes" "[D"] ++ wsX50)
def wsX5_volume : List Cond := .code yX5_volume cX5_volume 1 (some .double) :: ([.fieldLink RX5 55 "StemShapesModel" "thrown" "I", .methodLink RX5 113 yX5_hasShape, .instanceMethod yX5_hasShape, .selects RX5 yX5_hasShape yX5_hasShape, .initialized RX5, .code yX5_hasShape cX5_hasShape 1 (some .boolean), .fieldLink RX5 70 "StemShapesModel" "known" "Z", .fieldLink RX5 101 "StemShapesModel" "fits" "I", .methodLink RX5 128 yX5_volumeNow, .instanceMethod yX5_volumeNow, .selects RX5 yX5_volumeNow yX5_volumeNow, .code yX5_volumeNow cX5_volumeNow 4 (some .double), .fieldLink RX5 48 "StemShapesModel" "slices" "I", .methodLink RX5 117 yX5_area, .instanceMethod yX5_area, .selects RX5 yX5_area yX5_area, .code yX5_area cX5_area 4 (some .double), .fieldLink RX5 29 "StemShapesModel" "shapes" "[D", .constantDouble RX5 111 (4614254477589872640)] ++ wsX50)
def wsX5_taper : List Cond := .code yX5_taper cX5_taper 1 (some .double) :: ([.fieldLink RX5 55 "StemShapesModel" "thrown" "I", .methodLink RX5 113 yX5_hasShape, .instanceMethod yX5_hasShape, .selects RX5 yX5_hasShape yX5_hasShape, .initialized RX5, .code yX5_hasShape cX5_hasShape 1 (some .boolean), .fieldLink RX5 70 "StemShapesModel" "known" "Z", .fieldLink RX5 101 "StemShapesModel" "fits" "I", .methodLink RX5 132 yX5_taperNow, .instanceMethod yX5_taperNow, .selects RX5 yX5_taperNow yX5_taperNow, .code yX5_taperNow cX5_taperNow 1 (some .double), .fieldLink RX5 48 "StemShapesModel" "slices" "I", .fieldLink RX5 29 "StemShapesModel" "shapes" "[D"] ++ wsX50)
def wsX5_sweep : List Cond := .code yX5_sweep cX5_sweep 1 (some .double) :: ([.fieldLink RX5 55 "StemShapesModel" "thrown" "I", .methodLink RX5 113 yX5_hasShape, .instanceMethod yX5_hasShape, .selects RX5 yX5_hasShape yX5_hasShape, .initialized RX5, .code yX5_hasShape cX5_hasShape 1 (some .boolean), .fieldLink RX5 70 "StemShapesModel" "known" "Z", .fieldLink RX5 101 "StemShapesModel" "fits" "I", .methodLink RX5 135 yX5_sweepNow, .instanceMethod yX5_sweepNow, .selects RX5 yX5_sweepNow yX5_sweepNow, .code yX5_sweepNow cX5_sweepNow 6 (some .double), .fieldLink RX5 48 "StemShapesModel" "slices" "I", .methodLink RX5 124 yX5_off, .instanceMethod yX5_off, .selects RX5 yX5_off yX5_off, .code yX5_off cX5_off 7 (some .double), .fieldLink RX5 29 "StemShapesModel" "shapes" "[D"] ++ wsX50)
def wsX5_rule : List Cond := .code yX5_rule cX5_rule 5 (some .int) :: ([.fieldLink RX5 138 "StemShapesModel" "rules" "I", .fieldLink RX5 55 "StemShapesModel" "thrown" "I", .fieldLink RX5 32 "StemShapesModel" "kinds" "[I", .fieldLink RX5 36 "StemShapesModel" "limits" "[D", .fieldLink RX5 39 "StemShapesModel" "classes" "[I"] ++ wsX50)
def wsX5_holds_r1 : List Cond := [Cond.fieldLink RX5 32 "StemShapesModel" "kinds" "[I", Cond.fieldLink RX5 36 "StemShapesModel" "limits" "[D", Cond.fieldLink RX5 29 "StemShapesModel" "shapes" "[D", Cond.fieldLink RX5 48 "StemShapesModel" "slices" "I", Cond.fieldLink RX5 101 "StemShapesModel" "fits" "I", Cond.methodLink RX5 135 yX5_sweepNow, Cond.instanceMethod yX5_sweepNow, Cond.selects RX5 yX5_sweepNow yX5_sweepNow, Cond.initialized RX5, Cond.code yX5_sweepNow cX5_sweepNow 6 (some .double), Cond.methodLink RX5 124 yX5_off, Cond.instanceMethod yX5_off, Cond.selects RX5 yX5_off yX5_off, Cond.code yX5_off cX5_off 7 (some .double), Cond.methodLink RX5 132 yX5_taperNow, Cond.instanceMethod yX5_taperNow, Cond.selects RX5 yX5_taperNow yX5_taperNow, Cond.code yX5_taperNow cX5_taperNow 1 (some .double), Cond.methodLink RX5 128 yX5_volumeNow, Cond.instanceMethod yX5_volumeNow, Cond.selects RX5 yX5_volumeNow yX5_volumeNow, Cond.code yX5_volumeNow cX5_volumeNow 4 (some .double), Cond.methodLink RX5 117 yX5_area, Cond.instanceMethod yX5_area]
def wsX5_holds_r2 : List Cond := [Cond.selects RX5 yX5_area yX5_area, Cond.code yX5_area cX5_area 4 (some .double), Cond.constantDouble RX5 111 (4614254477589872640)]
def wsX5_holds : List Cond := .code yX5_holds cX5_holds 5 (some .boolean) :: ((wsX5_holds_r1 ++ wsX5_holds_r2) ++ wsX50)
def wsX5_cls_r1 : List Cond := [Cond.fieldLink RX5 55 "StemShapesModel" "thrown" "I", Cond.fieldLink RX5 138 "StemShapesModel" "rules" "I", Cond.fieldLink RX5 39 "StemShapesModel" "classes" "[I", Cond.methodLink RX5 113 yX5_hasShape, Cond.instanceMethod yX5_hasShape, Cond.selects RX5 yX5_hasShape yX5_hasShape, Cond.initialized RX5, Cond.code yX5_hasShape cX5_hasShape 1 (some .boolean), Cond.fieldLink RX5 70 "StemShapesModel" "known" "Z", Cond.fieldLink RX5 101 "StemShapesModel" "fits" "I", Cond.methodLink RX5 141 yX5_holds, Cond.instanceMethod yX5_holds, Cond.selects RX5 yX5_holds yX5_holds, Cond.code yX5_holds cX5_holds 5 (some .boolean), Cond.fieldLink RX5 32 "StemShapesModel" "kinds" "[I", Cond.fieldLink RX5 36 "StemShapesModel" "limits" "[D", Cond.fieldLink RX5 29 "StemShapesModel" "shapes" "[D", Cond.fieldLink RX5 48 "StemShapesModel" "slices" "I", Cond.methodLink RX5 135 yX5_sweepNow, Cond.instanceMethod yX5_sweepNow, Cond.selects RX5 yX5_sweepNow yX5_sweepNow, Cond.code yX5_sweepNow cX5_sweepNow 6 (some .double), Cond.methodLink RX5 124 yX5_off, Cond.instanceMethod yX5_off]
def wsX5_cls_r2 : List Cond := [Cond.selects RX5 yX5_off yX5_off, Cond.code yX5_off cX5_off 7 (some .double), Cond.methodLink RX5 132 yX5_taperNow, Cond.instanceMethod yX5_taperNow, Cond.selects RX5 yX5_taperNow yX5_taperNow, Cond.code yX5_taperNow cX5_taperNow 1 (some .double), Cond.methodLink RX5 128 yX5_volumeNow, Cond.instanceMethod yX5_volumeNow, Cond.selects RX5 yX5_volumeNow yX5_volumeNow, Cond.code yX5_volumeNow cX5_volumeNow 4 (some .double), Cond.methodLink RX5 117 yX5_area, Cond.instanceMethod yX5_area, Cond.selects RX5 yX5_area yX5_area, Cond.code yX5_area cX5_area 4 (some .double), Cond.constantDouble RX5 111 (4614254477589872640)]
def wsX5_cls : List Cond := .code yX5_cls cX5_cls 2 (some .int) :: ((wsX5_cls_r1 ++ wsX5_cls_r2) ++ wsX50)
def wsX5_keep : List Cond := .code yX5_keep cX5_keep 2 none :: ([.fieldLink RX5 55 "StemShapesModel" "thrown" "I", .fieldLink RX5 48 "StemShapesModel" "slices" "I", .fieldLink RX5 144 "StemShapesModel" "kept" "Z", .fieldLink RX5 42 "StemShapesModel" "keptX" "[D", .fieldLink RX5 29 "StemShapesModel" "shapes" "[D", .fieldLink RX5 45 "StemShapesModel" "keptY" "[D", .methodLink RX5 113 yX5_hasShape, .instanceMethod yX5_hasShape, .selects RX5 yX5_hasShape yX5_hasShape, .initialized RX5, .code yX5_hasShape cX5_hasShape 1 (some .boolean), .fieldLink RX5 70 "StemShapesModel" "known" "Z", .fieldLink RX5 101 "StemShapesModel" "fits" "I"] ++ wsX50)
def wsX5_apartBy : List Cond := .code yX5_apartBy cX5_apartBy 13 (some .double) :: ([.fieldLink RX5 48 "StemShapesModel" "slices" "I", .fieldLink RX5 42 "StemShapesModel" "keptX" "[D", .fieldLink RX5 45 "StemShapesModel" "keptY" "[D", .fieldLink RX5 29 "StemShapesModel" "shapes" "[D"] ++ wsX50)
def wsX5_apart : List Cond := .code yX5_apart cX5_apart 2 (some .double) :: ([.fieldLink RX5 144 "StemShapesModel" "kept" "Z", .fieldLink RX5 55 "StemShapesModel" "thrown" "I", .methodLink RX5 113 yX5_hasShape, .instanceMethod yX5_hasShape, .selects RX5 yX5_hasShape yX5_hasShape, .initialized RX5, .code yX5_hasShape cX5_hasShape 1 (some .boolean), .fieldLink RX5 70 "StemShapesModel" "known" "Z", .fieldLink RX5 101 "StemShapesModel" "fits" "I", .methodLink RX5 147 yX5_apartBy, .instanceMethod yX5_apartBy, .selects RX5 yX5_apartBy yX5_apartBy, .code yX5_apartBy cX5_apartBy 13 (some .double), .fieldLink RX5 48 "StemShapesModel" "slices" "I", .fieldLink RX5 42 "StemShapesModel" "keptX" "[D", .fieldLink RX5 45 "StemShapesModel" "keptY" "[D", .fieldLink RX5 29 "StemShapesModel" "shapes" "[D"] ++ wsX50)
def wsX5_match : List Cond := .code yX5_match cX5_match 3 (some .int) :: ([.fieldLink RX5 144 "StemShapesModel" "kept" "Z", .fieldLink RX5 55 "StemShapesModel" "thrown" "I", .methodLink RX5 113 yX5_hasShape, .instanceMethod yX5_hasShape, .selects RX5 yX5_hasShape yX5_hasShape, .initialized RX5, .code yX5_hasShape cX5_hasShape 1 (some .boolean), .fieldLink RX5 70 "StemShapesModel" "known" "Z", .fieldLink RX5 101 "StemShapesModel" "fits" "I", .methodLink RX5 147 yX5_apartBy, .instanceMethod yX5_apartBy, .selects RX5 yX5_apartBy yX5_apartBy, .code yX5_apartBy cX5_apartBy 13 (some .double), .fieldLink RX5 48 "StemShapesModel" "slices" "I", .fieldLink RX5 42 "StemShapesModel" "keptX" "[D", .fieldLink RX5 45 "StemShapesModel" "keptY" "[D", .fieldLink RX5 29 "StemShapesModel" "shapes" "[D"] ++ wsX50)
def wsX5_law : List Cond := .code yX5_law cX5_law 9 (some .long) :: ([.constantLong RX5 150 (1000000000), .constantLong RX5 152 (1000000), .fieldLink RX5 55 "StemShapesModel" "thrown" "I"] ++ wsX50)
def wsJx00060_init_a7421 : List Cond := .code yJx00060_init_a7421 cJx00060_init_a7421 2 none :: ([])
def wsJ9_max_7cf53 : List Cond := .code yJ9_max_7cf53 cJ9_max_7cf53 2 (some .int) :: ([])
def wsJ9_min_7cf53 : List Cond := .code yJ9_min_7cf53 cJ9_min_7cf53 2 (some .int) :: ([])
def wsL_cell : List Cond := .code yL_cell cL_cell 2 (some .int) :: ([])
def wsL_aim_r1 : List Cond := [Cond.classLink RL 13 "java/lang/ArrayIndexOutOfBoundsException", Cond.classLink RL 15 "java/lang/IllegalArgumentException", Cond.methodLink RL 7 yX4_aim, Cond.instanceMethod yX4_aim, Cond.selects RX4 yX4_aim yX4_aim, Cond.initialized RX4, Cond.code yX4_aim cX4_aim 6 none, Cond.classLink RX4 59 "java/lang/IllegalArgumentException", Cond.initialized "java/lang/IllegalArgumentException", Cond.fieldLink RX4 25 "StemShapes" "shadows" "LStemShapes$Shadows;", Cond.fieldLink RX4 72 "StemShapes" "shaped" "Z", Cond.methodLink RX4 52 yX4_needView, Cond.instanceMethod yX4_needView, Cond.selects RX4 yX4_needView yX4_needView, Cond.code yX4_needView cX4_needView 2 none, Cond.fieldLink RX4 17 "StemShapes" "views" "I", Cond.classLink RX4 105 RJx00060, Cond.instantiable RJx00060 6, Cond.initialized RJx00060, Cond.methodLink RX4 55 yX4_within, Cond.static yX4_within, Cond.code yX4_within cX4_within 3 (some .boolean), Cond.methodLink RX4 68 yX2_direct, Cond.instanceMethod yX2_direct]
def wsL_aim_r2 : List Cond := [Cond.selects RX2 yX2_direct yX2_direct, Cond.initialized RX2, Cond.code yX2_direct cX2_direct 6 none, Cond.fieldLink RX2 13 "StemShapes$Shadows" "p" "[D", Cond.fieldLink RX2 17 "StemShapes$Shadows" "q" "[D", Cond.fieldLink RX2 20 "StemShapes$Shadows" "length" "[D", Cond.static yX4_root, Cond.code yX4_root cX4_root 5 (some .double), Cond.constantDouble RX4 216 (4611686018427387904)]
def wsL_aim : List Cond := .codeWith yL_aim cL_aim 7 (some .int) [(0, 8, 11, 13), (0, 8, 15, 15)] :: ((wsL_aim_r1 ++ wsL_aim_r2) ++ wsX40 ++ wsJx000600 ++ wsX20 ++ (vx_atS RX4 63 "java/lang/IllegalArgumentException" ["java/lang/RuntimeException", "java/lang/Exception"]).filter goodWord)
def wsL_shadow_r1 : List Cond := [Cond.classLink RL 13 "java/lang/ArrayIndexOutOfBoundsException", Cond.classLink RL 15 "java/lang/IllegalArgumentException", Cond.methodLink RL 17 yX4_shadow, Cond.instanceMethod yX4_shadow, Cond.selects RX4 yX4_shadow yX4_shadow, Cond.initialized RX4, Cond.code yX4_shadow cX4_shadow 7 none, Cond.classLink RX4 59 "java/lang/IllegalArgumentException", Cond.initialized "java/lang/IllegalArgumentException", Cond.fieldLink RX4 25 "StemShapes" "shadows" "LStemShapes$Shadows;", Cond.fieldLink RX4 72 "StemShapes" "shaped" "Z", Cond.methodLink RX4 76 yX4_needSlice, Cond.instanceMethod yX4_needSlice, Cond.selects RX4 yX4_needSlice yX4_needSlice, Cond.code yX4_needSlice cX4_needSlice 2 none, Cond.fieldLink RX4 13 "StemShapes" "slices" "I", Cond.classLink RX4 105 RJx00060, Cond.instantiable RJx00060 6, Cond.initialized RJx00060, Cond.methodLink RX4 52 yX4_needView, Cond.instanceMethod yX4_needView, Cond.selects RX4 yX4_needView yX4_needView, Cond.code yX4_needView cX4_needView 2 none, Cond.fieldLink RX4 17 "StemShapes" "views" "I"]
def wsL_shadow_r2 : List Cond := [Cond.methodLink RX4 55 yX4_within, Cond.static yX4_within, Cond.code yX4_within cX4_within 3 (some .boolean), Cond.methodLink RX4 83 yX2_cast, Cond.instanceMethod yX2_cast, Cond.selects RX2 yX2_cast yX2_cast, Cond.initialized RX2, Cond.code yX2_cast cX2_cast 8 none, Cond.fieldLink RX2 23 "StemShapes$Shadows" "there" "[Z", Cond.fieldLink RX2 27 "StemShapes$Shadows" "middle" "[D", Cond.constantDouble RX2 43 (4611686018427387904), Cond.fieldLink RX2 30 "StemShapes$Shadows" "half" "[D", Cond.methodLink RX2 39 yX2_place, Cond.instanceMethod yX2_place, Cond.selects RX2 yX2_place yX2_place, Cond.code yX2_place cX2_place 3 (some .int), Cond.fieldLink RX2 7 "StemShapes$Shadows" "views" "I"]
def wsL_shadow : List Cond := .codeWith yL_shadow cL_shadow 8 (some .int) [(0, 9, 12, 13), (0, 9, 16, 15)] :: ((wsL_shadow_r1 ++ wsL_shadow_r2) ++ wsX40 ++ wsJx000600 ++ wsX20 ++ (vx_atS RX4 63 "java/lang/IllegalArgumentException" ["java/lang/RuntimeException", "java/lang/Exception"]).filter goodWord)
def wsL_lift_r1 : List Cond := [Cond.methodLink RL 21 yX4_lift, Cond.instanceMethod yX4_lift, Cond.selects RX4 yX4_lift yX4_lift, Cond.initialized RX4, Cond.code yX4_lift cX4_lift 4 (some .boolean), Cond.fieldLink RX4 25 "StemShapes" "shadows" "LStemShapes$Shadows;", Cond.fieldLink RX4 72 "StemShapes" "shaped" "Z", Cond.methodLink RX4 76 yX4_needSlice, Cond.instanceMethod yX4_needSlice, Cond.selects RX4 yX4_needSlice yX4_needSlice, Cond.code yX4_needSlice cX4_needSlice 2 none, Cond.fieldLink RX4 13 "StemShapes" "slices" "I", Cond.classLink RX4 105 RJx00060, Cond.instantiable RJx00060 6, Cond.initialized RJx00060, Cond.methodLink RX4 52 yX4_needView, Cond.instanceMethod yX4_needView, Cond.selects RX4 yX4_needView yX4_needView, Cond.code yX4_needView cX4_needView 2 none, Cond.fieldLink RX4 17 "StemShapes" "views" "I", Cond.methodLink RX4 87 yX2_takeAway, Cond.instanceMethod yX2_takeAway, Cond.selects RX2 yX2_takeAway yX2_takeAway, Cond.initialized RX2]
def wsL_lift_r2 : List Cond := [Cond.code yX2_takeAway cX2_takeAway 5 (some .boolean), Cond.fieldLink RX2 23 "StemShapes$Shadows" "there" "[Z", Cond.methodLink RX2 39 yX2_place, Cond.instanceMethod yX2_place, Cond.selects RX2 yX2_place yX2_place, Cond.code yX2_place cX2_place 3 (some .int), Cond.fieldLink RX2 7 "StemShapes$Shadows" "views" "I"]
def wsL_lift : List Cond := .codeWith yL_lift cL_lift 5 (some .int) [(0, 17, 20, 13)] :: ((wsL_lift_r1 ++ wsL_lift_r2) ++ wsX40 ++ wsJx000600 ++ wsX20)
def wsL_shape_r1 : List Cond := [Cond.classLink RL 13 "java/lang/ArrayIndexOutOfBoundsException", Cond.classLink RL 29 "java/lang/IllegalStateException", Cond.methodLink RL 25 yX4_shape, Cond.instanceMethod yX4_shape, Cond.selects RX4 yX4_shape yX4_shape, Cond.initialized RX4, Cond.code yX4_shape cX4_shape 3 (some .double), Cond.classLink RX4 105 RJx00060, Cond.instantiable RJx00060 6, Cond.initialized RJx00060, Cond.fieldLink RX4 34 "StemShapes" "stem" "LStemShapes$Stem;", Cond.methodLink RX4 76 yX4_needSlice, Cond.instanceMethod yX4_needSlice, Cond.selects RX4 yX4_needSlice yX4_needSlice, Cond.code yX4_needSlice cX4_needSlice 2 none, Cond.fieldLink RX4 13 "StemShapes" "slices" "I", Cond.methodLink RX4 110 yX4_needShape, Cond.instanceMethod yX4_needShape, Cond.selects RX4 yX4_needShape yX4_needShape, Cond.code yX4_needShape cX4_needShape 1 none, Cond.classLink RX4 158 "java/lang/IllegalStateException", Cond.initialized "java/lang/IllegalStateException", Cond.fieldLink RX4 72 "StemShapes" "shaped" "Z", Cond.methodLink RX4 126 yX3_areaOf]
def wsL_shape_r2 : List Cond := [Cond.instanceMethod yX3_areaOf, Cond.selects RX3 yX3_areaOf yX3_areaOf, Cond.initialized RX3, Cond.code yX3_areaOf cX3_areaOf 2 (some .double), Cond.constantDouble RX3 43 (4614254477589872640), Cond.fieldLink RX3 22 "StemShapes$Stem" "radius" "[D"]
def wsL_shape : List Cond := .codeWith yL_shape cL_shape 5 (some .int) [(0, 9, 12, 13), (0, 9, 16, 29)] :: ((wsL_shape_r1 ++ wsL_shape_r2) ++ wsJx000600 ++ wsX40 ++ wsX30 ++ (vx_atS RX4 162 "java/lang/IllegalStateException" ["java/lang/RuntimeException", "java/lang/Exception"]).filter goodWord)
def wsL_fitted : List Cond := .codeWith yL_fitted cL_fitted 4 (some .int) [(0, 16, 19, 13), (0, 16, 22, 29)] :: ([.classLink RL 13 "java/lang/ArrayIndexOutOfBoundsException", .classLink RL 29 "java/lang/IllegalStateException", .methodLink RL 31 yX4_fitted, .instanceMethod yX4_fitted, .selects RX4 yX4_fitted yX4_fitted, .initialized RX4, .code yX4_fitted cX4_fitted 2 (some .boolean), .fieldLink RX4 34 "StemShapes" "stem" "LStemShapes$Stem;", .methodLink RX4 76 yX4_needSlice, .instanceMethod yX4_needSlice, .selects RX4 yX4_needSlice yX4_needSlice, .code yX4_needSlice cX4_needSlice 2 none, .fieldLink RX4 13 "StemShapes" "slices" "I", .classLink RX4 105 RJx00060, .instantiable RJx00060 6, .initialized RJx00060, .methodLink RX4 110 yX4_needShape, .instanceMethod yX4_needShape, .selects RX4 yX4_needShape yX4_needShape, .code yX4_needShape cX4_needShape 1 none, .classLink RX4 158 "java/lang/IllegalStateException", .initialized "java/lang/IllegalStateException", .fieldLink RX4 72 "StemShapes" "shaped" "Z"] ++ wsX40 ++ wsX30 ++ wsJx000600 ++ (vx_atS RX4 162 "java/lang/IllegalStateException" ["java/lang/RuntimeException", "java/lang/Exception"]).filter goodWord)
def wsL_inside_r1 : List Cond := [Cond.classLink RL 13 "java/lang/ArrayIndexOutOfBoundsException", Cond.classLink RL 15 "java/lang/IllegalArgumentException", Cond.classLink RL 29 "java/lang/IllegalStateException", Cond.methodLink RL 35 yX4_inside, Cond.instanceMethod yX4_inside, Cond.selects RX4 yX4_inside yX4_inside, Cond.initialized RX4, Cond.code yX4_inside cX4_inside 6 (some .boolean), Cond.classLink RX4 59 "java/lang/IllegalArgumentException", Cond.initialized "java/lang/IllegalArgumentException", Cond.fieldLink RX4 34 "StemShapes" "stem" "LStemShapes$Stem;", Cond.methodLink RX4 76 yX4_needSlice, Cond.instanceMethod yX4_needSlice, Cond.selects RX4 yX4_needSlice yX4_needSlice, Cond.code yX4_needSlice cX4_needSlice 2 none, Cond.fieldLink RX4 13 "StemShapes" "slices" "I", Cond.classLink RX4 105 RJx00060, Cond.instantiable RJx00060 6, Cond.initialized RJx00060, Cond.methodLink RX4 55 yX4_within, Cond.static yX4_within, Cond.code yX4_within cX4_within 3 (some .boolean), Cond.methodLink RX4 110 yX4_needShape, Cond.instanceMethod yX4_needShape]
def wsL_inside_r2 : List Cond := [Cond.selects RX4 yX4_needShape yX4_needShape, Cond.code yX4_needShape cX4_needShape 1 none, Cond.classLink RX4 158 "java/lang/IllegalStateException", Cond.initialized "java/lang/IllegalStateException", Cond.fieldLink RX4 72 "StemShapes" "shaped" "Z", Cond.methodLink RX4 132 yX3_covers, Cond.instanceMethod yX3_covers, Cond.selects RX3 yX3_covers yX3_covers, Cond.initialized RX3, Cond.code yX3_covers cX3_covers 10 (some .boolean), Cond.fieldLink RX3 15 "StemShapes$Stem" "x" "[D", Cond.fieldLink RX3 19 "StemShapes$Stem" "y" "[D", Cond.fieldLink RX3 22 "StemShapes$Stem" "radius" "[D"]
def wsL_inside : List Cond := .codeWith yL_inside cL_inside 8 (some .int) [(0, 20, 23, 13), (0, 20, 27, 15), (0, 20, 31, 29)] :: ((wsL_inside_r1 ++ wsL_inside_r2) ++ wsX40 ++ wsJx000600 ++ wsX30 ++ (vx_atS RX4 63 "java/lang/IllegalArgumentException" ["java/lang/RuntimeException", "java/lang/Exception"]).filter goodWord ++ (vx_atS RX4 162 "java/lang/IllegalStateException" ["java/lang/RuntimeException", "java/lang/Exception"]).filter goodWord)
def wsL_wholes_r1 : List Cond := [Cond.classLink RL 13 "java/lang/ArrayIndexOutOfBoundsException", Cond.classLink RL 29 "java/lang/IllegalStateException", Cond.methodLink RL 39 yX4_wholes, Cond.instanceMethod yX4_wholes, Cond.selects RX4 yX4_wholes yX4_wholes, Cond.initialized RX4, Cond.code yX4_wholes cX4_wholes 2 (some .int), Cond.fieldLink RX4 34 "StemShapes" "stem" "LStemShapes$Stem;", Cond.methodLink RX4 76 yX4_needSlice, Cond.instanceMethod yX4_needSlice, Cond.selects RX4 yX4_needSlice yX4_needSlice, Cond.code yX4_needSlice cX4_needSlice 2 none, Cond.fieldLink RX4 13 "StemShapes" "slices" "I", Cond.classLink RX4 105 RJx00060, Cond.instantiable RJx00060 6, Cond.initialized RJx00060, Cond.methodLink RX4 110 yX4_needShape, Cond.instanceMethod yX4_needShape, Cond.selects RX4 yX4_needShape yX4_needShape, Cond.code yX4_needShape cX4_needShape 1 none, Cond.classLink RX4 158 "java/lang/IllegalStateException", Cond.initialized "java/lang/IllegalStateException", Cond.fieldLink RX4 72 "StemShapes" "shaped" "Z", Cond.methodLink RX4 136 yX3_cellsOf]
def wsL_wholes_r2 : List Cond := [Cond.instanceMethod yX3_cellsOf, Cond.selects RX3 yX3_cellsOf yX3_cellsOf, Cond.initialized RX3, Cond.code yX3_cellsOf cX3_cellsOf 5 (some .int), Cond.methodLink RX3 45 yX3_covers, Cond.instanceMethod yX3_covers, Cond.selects RX3 yX3_covers yX3_covers, Cond.code yX3_covers cX3_covers 10 (some .boolean), Cond.fieldLink RX3 15 "StemShapes$Stem" "x" "[D", Cond.fieldLink RX3 19 "StemShapes$Stem" "y" "[D", Cond.fieldLink RX3 22 "StemShapes$Stem" "radius" "[D"]
def wsL_wholes : List Cond := .codeWith yL_wholes cL_wholes 4 (some .int) [(0, 9, 12, 13), (0, 9, 15, 29)] :: ((wsL_wholes_r1 ++ wsL_wholes_r2) ++ wsX40 ++ wsJx000600 ++ wsX30 ++ (vx_atS RX4 162 "java/lang/IllegalStateException" ["java/lang/RuntimeException", "java/lang/Exception"]).filter goodWord)
def wsL_volume_r1 : List Cond := [Cond.classLink RL 29 "java/lang/IllegalStateException", Cond.methodLink RL 43 yX4_volume, Cond.instanceMethod yX4_volume, Cond.selects RX4 yX4_volume yX4_volume, Cond.initialized RX4, Cond.code yX4_volume cX4_volume 1 (some .double), Cond.fieldLink RX4 34 "StemShapes" "stem" "LStemShapes$Stem;", Cond.methodLink RX4 110 yX4_needShape, Cond.instanceMethod yX4_needShape, Cond.selects RX4 yX4_needShape yX4_needShape, Cond.code yX4_needShape cX4_needShape 1 none, Cond.classLink RX4 158 "java/lang/IllegalStateException", Cond.initialized "java/lang/IllegalStateException", Cond.fieldLink RX4 72 "StemShapes" "shaped" "Z", Cond.methodLink RX4 140 yX3_sumOfAreas, Cond.instanceMethod yX3_sumOfAreas, Cond.selects RX3 yX3_sumOfAreas yX3_sumOfAreas, Cond.initialized RX3, Cond.code yX3_sumOfAreas cX3_sumOfAreas 4 (some .double), Cond.fieldLink RX3 9 "StemShapes$Stem" "slices" "I", Cond.methodLink RX3 49 yX3_areaOf, Cond.instanceMethod yX3_areaOf, Cond.selects RX3 yX3_areaOf yX3_areaOf, Cond.code yX3_areaOf cX3_areaOf 2 (some .double)]
def wsL_volume_r2 : List Cond := [Cond.constantDouble RX3 43 (4614254477589872640), Cond.fieldLink RX3 22 "StemShapes$Stem" "radius" "[D"]
def wsL_volume : List Cond := .codeWith yL_volume cL_volume 3 (some .int) [(0, 7, 10, 29)] :: ((wsL_volume_r1 ++ wsL_volume_r2) ++ wsX40 ++ wsX30 ++ (vx_atS RX4 162 "java/lang/IllegalStateException" ["java/lang/RuntimeException", "java/lang/Exception"]).filter goodWord)
def wsL_taper : List Cond := .codeWith yL_taper cL_taper 3 (some .int) [(0, 7, 10, 29)] :: ([.classLink RL 29 "java/lang/IllegalStateException", .methodLink RL 47 yX4_taper, .instanceMethod yX4_taper, .selects RX4 yX4_taper yX4_taper, .initialized RX4, .code yX4_taper cX4_taper 1 (some .double), .fieldLink RX4 34 "StemShapes" "stem" "LStemShapes$Stem;", .methodLink RX4 110 yX4_needShape, .instanceMethod yX4_needShape, .selects RX4 yX4_needShape yX4_needShape, .code yX4_needShape cX4_needShape 1 none, .classLink RX4 158 "java/lang/IllegalStateException", .initialized "java/lang/IllegalStateException", .fieldLink RX4 72 "StemShapes" "shaped" "Z", .methodLink RX4 144 yX3_thinning, .instanceMethod yX3_thinning, .selects RX3 yX3_thinning yX3_thinning, .initialized RX3, .code yX3_thinning cX3_thinning 1 (some .double), .fieldLink RX3 9 "StemShapes$Stem" "slices" "I", .fieldLink RX3 22 "StemShapes$Stem" "radius" "[D"] ++ wsX40 ++ wsX30 ++ (vx_atS RX4 162 "java/lang/IllegalStateException" ["java/lang/RuntimeException", "java/lang/Exception"]).filter goodWord)
def wsL_sweep_r1 : List Cond := [Cond.classLink RL 29 "java/lang/IllegalStateException", Cond.methodLink RL 50 yX4_sweep, Cond.instanceMethod yX4_sweep, Cond.selects RX4 yX4_sweep yX4_sweep, Cond.initialized RX4, Cond.code yX4_sweep cX4_sweep 1 (some .double), Cond.fieldLink RX4 34 "StemShapes" "stem" "LStemShapes$Stem;", Cond.methodLink RX4 110 yX4_needShape, Cond.instanceMethod yX4_needShape, Cond.selects RX4 yX4_needShape yX4_needShape, Cond.code yX4_needShape cX4_needShape 1 none, Cond.classLink RX4 158 "java/lang/IllegalStateException", Cond.initialized "java/lang/IllegalStateException", Cond.fieldLink RX4 72 "StemShapes" "shaped" "Z", Cond.methodLink RX4 147 yX3_greatestBend, Cond.instanceMethod yX3_greatestBend, Cond.selects RX3 yX3_greatestBend yX3_greatestBend, Cond.initialized RX3, Cond.code yX3_greatestBend cX3_greatestBend 10 (some .double), Cond.fieldLink RX3 9 "StemShapes$Stem" "slices" "I", Cond.fieldLink RX3 15 "StemShapes$Stem" "x" "[D", Cond.fieldLink RX3 19 "StemShapes$Stem" "y" "[D", Cond.methodLink RX3 53 yX3_straight, Cond.instanceMethod yX3_straight]
def wsL_sweep_r2 : List Cond := [Cond.selects RX3 yX3_straight yX3_straight, Cond.code yX3_straight cX3_straight 3 (some .double)]
def wsL_sweep : List Cond := .codeWith yL_sweep cL_sweep 3 (some .int) [(0, 7, 10, 29)] :: ((wsL_sweep_r1 ++ wsL_sweep_r2) ++ wsX40 ++ wsX30 ++ (vx_atS RX4 162 "java/lang/IllegalStateException" ["java/lang/RuntimeException", "java/lang/Exception"]).filter goodWord)
def wsL_rule_r1 : List Cond := [Cond.classLink RL 15 "java/lang/IllegalArgumentException", Cond.classLink RL 29 "java/lang/IllegalStateException", Cond.methodLink RL 53 yX4_rule, Cond.instanceMethod yX4_rule, Cond.selects RX4 yX4_rule yX4_rule, Cond.initialized RX4, Cond.code yX4_rule cX4_rule 5 (some .int), Cond.classLink RX4 59 "java/lang/IllegalArgumentException", Cond.initialized "java/lang/IllegalArgumentException", Cond.classLink RX4 158 "java/lang/IllegalStateException", Cond.initialized "java/lang/IllegalStateException", Cond.fieldLink RX4 48 "StemShapes" "rules" "LStemShapes$RuleList;", Cond.methodLink RX4 154 yX1_isFull, Cond.instanceMethod yX1_isFull, Cond.selects RX1 yX1_isFull yX1_isFull, Cond.initialized RX1, Cond.code yX1_isFull cX1_isFull 1 (some .boolean), Cond.fieldLink RX1 22 "StemShapes$RuleList" "count" "I", Cond.methodLink RX4 163 yX1_addOne, Cond.instanceMethod yX1_addOne, Cond.selects RX1 yX1_addOne yX1_addOne, Cond.code yX1_addOne cX1_addOne 5 (some .int), Cond.fieldLink RX1 9 "StemShapes$RuleList" "kinds" "[I", Cond.fieldLink RX1 15 "StemShapes$RuleList" "limits" "[D"]
def wsL_rule_r2 : List Cond := [Cond.fieldLink RX1 19 "StemShapes$RuleList" "classes" "[I"]
def wsL_rule : List Cond := .codeWith yL_rule cL_rule 7 (some .int) [(0, 13, 16, 15), (0, 13, 20, 29)] :: ((wsL_rule_r1 ++ wsL_rule_r2) ++ wsX40 ++ wsX10 ++ (vx_atS RX4 63 "java/lang/IllegalArgumentException" ["java/lang/RuntimeException", "java/lang/Exception"]).filter goodWord ++ (vx_atS RX4 162 "java/lang/IllegalStateException" ["java/lang/RuntimeException", "java/lang/Exception"]).filter goodWord)
def wsL_cls_r1 : List Cond := [Cond.classLink RL 29 "java/lang/IllegalStateException", Cond.methodLink RL 57 yX4_cls, Cond.instanceMethod yX4_cls, Cond.selects RX4 yX4_cls yX4_cls, Cond.initialized RX4, Cond.code yX4_cls cX4_cls 1 (some .int), Cond.fieldLink RX4 48 "StemShapes" "rules" "LStemShapes$RuleList;", Cond.fieldLink RX4 34 "StemShapes" "stem" "LStemShapes$Stem;", Cond.methodLink RX4 110 yX4_needShape, Cond.instanceMethod yX4_needShape, Cond.selects RX4 yX4_needShape yX4_needShape, Cond.code yX4_needShape cX4_needShape 1 none, Cond.classLink RX4 158 "java/lang/IllegalStateException", Cond.initialized "java/lang/IllegalStateException", Cond.fieldLink RX4 72 "StemShapes" "shaped" "Z", Cond.methodLink RX4 167 yX1_classOf, Cond.instanceMethod yX1_classOf, Cond.selects RX1 yX1_classOf yX1_classOf, Cond.initialized RX1, Cond.code yX1_classOf cX1_classOf 3 (some .int), Cond.fieldLink RX1 22 "StemShapes$RuleList" "count" "I", Cond.fieldLink RX1 9 "StemShapes$RuleList" "kinds" "[I", Cond.fieldLink RX1 15 "StemShapes$RuleList" "limits" "[D", Cond.fieldLink RX1 19 "StemShapes$RuleList" "classes" "[I"]
def wsL_cls_r2 : List Cond := [Cond.methodLink RX1 26 yX1_holds, Cond.static yX1_holds, Cond.code yX1_holds cX1_holds 4 (some .boolean), Cond.methodLink RX1 30 yX3_greatestBend, Cond.instanceMethod yX3_greatestBend, Cond.selects RX3 yX3_greatestBend yX3_greatestBend, Cond.initialized RX3, Cond.code yX3_greatestBend cX3_greatestBend 10 (some .double), Cond.fieldLink RX3 9 "StemShapes$Stem" "slices" "I", Cond.fieldLink RX3 15 "StemShapes$Stem" "x" "[D", Cond.fieldLink RX3 19 "StemShapes$Stem" "y" "[D", Cond.methodLink RX3 53 yX3_straight, Cond.instanceMethod yX3_straight, Cond.selects RX3 yX3_straight yX3_straight, Cond.code yX3_straight cX3_straight 3 (some .double), Cond.methodLink RX1 36 yX3_thinning, Cond.instanceMethod yX3_thinning, Cond.selects RX3 yX3_thinning yX3_thinning, Cond.code yX3_thinning cX3_thinning 1 (some .double), Cond.fieldLink RX3 22 "StemShapes$Stem" "radius" "[D", Cond.methodLink RX1 39 yX3_lastRadius, Cond.instanceMethod yX3_lastRadius, Cond.selects RX3 yX3_lastRadius yX3_lastRadius, Cond.code yX3_lastRadius cX3_lastRadius 1 (some .double)]
def wsL_cls_r3 : List Cond := [Cond.methodLink RX1 42 yX3_sumOfAreas, Cond.instanceMethod yX3_sumOfAreas, Cond.selects RX3 yX3_sumOfAreas yX3_sumOfAreas, Cond.code yX3_sumOfAreas cX3_sumOfAreas 4 (some .double), Cond.methodLink RX3 49 yX3_areaOf, Cond.instanceMethod yX3_areaOf, Cond.selects RX3 yX3_areaOf yX3_areaOf, Cond.code yX3_areaOf cX3_areaOf 2 (some .double), Cond.constantDouble RX3 43 (4614254477589872640)]
def wsL_cls : List Cond := .codeWith yL_cls cL_cls 3 (some .int) [(0, 8, 11, 29)] :: ((wsL_cls_r1 ++ (wsL_cls_r2 ++ wsL_cls_r3)) ++ wsX40 ++ wsX10 ++ wsX30 ++ (vx_atS RX4 162 "java/lang/IllegalStateException" ["java/lang/RuntimeException", "java/lang/Exception"]).filter goodWord)
def wsL_keep : List Cond := .codeWith yL_keep cL_keep 2 (some .int) [(0, 4, 7, 29)] :: ([.classLink RL 29 "java/lang/IllegalStateException", .methodLink RL 61 yX4_keep, .instanceMethod yX4_keep, .selects RX4 yX4_keep yX4_keep, .initialized RX4, .code yX4_keep cX4_keep 1 none, .fieldLink RX4 41 "StemShapes" "kept" "LStemShapes$Kept;", .fieldLink RX4 34 "StemShapes" "stem" "LStemShapes$Stem;", .methodLink RX4 110 yX4_needShape, .instanceMethod yX4_needShape, .selects RX4 yX4_needShape yX4_needShape, .code yX4_needShape cX4_needShape 1 none, .classLink RX4 158 "java/lang/IllegalStateException", .initialized "java/lang/IllegalStateException", .fieldLink RX4 72 "StemShapes" "shaped" "Z", .methodLink RX4 171 yX0_take, .instanceMethod yX0_take, .selects RX0 yX0_take yX0_take, .initialized RX0, .code yX0_take cX0_take 3 none, .fieldLink RX0 9 "StemShapes$Kept" "x" "[D", .fieldLink RX0 15 "StemShapes$Kept" "y" "[D", .fieldLink RX0 22 "StemShapes$Kept" "isThere" "Z"] ++ wsX40 ++ wsX00 ++ wsX30 ++ (vx_atS RX4 162 "java/lang/IllegalStateException" ["java/lang/RuntimeException", "java/lang/Exception"]).filter goodWord)
def wsL_apart_r1 : List Cond := [Cond.classLink RL 15 "java/lang/IllegalArgumentException", Cond.classLink RL 29 "java/lang/IllegalStateException", Cond.methodLink RL 64 yX4_apart, Cond.instanceMethod yX4_apart, Cond.selects RX4 yX4_apart yX4_apart, Cond.initialized RX4, Cond.code yX4_apart cX4_apart 2 (some .double), Cond.classLink RX4 59 "java/lang/IllegalArgumentException", Cond.initialized "java/lang/IllegalArgumentException", Cond.fieldLink RX4 41 "StemShapes" "kept" "LStemShapes$Kept;", Cond.fieldLink RX4 34 "StemShapes" "stem" "LStemShapes$Stem;", Cond.methodLink RX4 110 yX4_needShape, Cond.instanceMethod yX4_needShape, Cond.selects RX4 yX4_needShape yX4_needShape, Cond.code yX4_needShape cX4_needShape 1 none, Cond.classLink RX4 158 "java/lang/IllegalStateException", Cond.initialized "java/lang/IllegalStateException", Cond.fieldLink RX4 72 "StemShapes" "shaped" "Z", Cond.methodLink RX4 177 yX4_needKept, Cond.instanceMethod yX4_needKept, Cond.selects RX4 yX4_needKept yX4_needKept, Cond.code yX4_needKept cX4_needKept 1 none, Cond.methodLink RX4 180 yX0_distance, Cond.instanceMethod yX0_distance]
def wsL_apart_r2 : List Cond := [Cond.selects RX0 yX0_distance yX0_distance, Cond.initialized RX0, Cond.code yX0_distance cX0_distance 10 (some .double), Cond.fieldLink RX0 9 "StemShapes$Kept" "x" "[D", Cond.methodLink RX0 26 yX0_turnedX, Cond.instanceMethod yX0_turnedX, Cond.selects RX0 yX0_turnedX yX0_turnedX, Cond.code yX0_turnedX cX0_turnedX 3 (some .double), Cond.fieldLink RX0 15 "StemShapes$Kept" "y" "[D", Cond.methodLink RX0 30 yX0_turnedY, Cond.instanceMethod yX0_turnedY, Cond.selects RX0 yX0_turnedY yX0_turnedY, Cond.code yX0_turnedY cX0_turnedY 3 (some .double)]
def wsL_apart : List Cond := .codeWith yL_apart cL_apart 4 (some .int) [(0, 8, 11, 15), (0, 8, 14, 29)] :: ((wsL_apart_r1 ++ wsL_apart_r2) ++ wsX40 ++ wsX00 ++ wsX30 ++ (vx_atS RX4 63 "java/lang/IllegalArgumentException" ["java/lang/RuntimeException", "java/lang/Exception"]).filter goodWord ++ (vx_atS RX4 162 "java/lang/IllegalStateException" ["java/lang/RuntimeException", "java/lang/Exception"]).filter goodWord)
def wsL_match_r1 : List Cond := [Cond.classLink RL 29 "java/lang/IllegalStateException", Cond.methodLink RL 68 yX4_match, Cond.instanceMethod yX4_match, Cond.selects RX4 yX4_match yX4_match, Cond.initialized RX4, Cond.code yX4_match cX4_match 1 (some .int), Cond.fieldLink RX4 41 "StemShapes" "kept" "LStemShapes$Kept;", Cond.fieldLink RX4 34 "StemShapes" "stem" "LStemShapes$Stem;", Cond.methodLink RX4 110 yX4_needShape, Cond.instanceMethod yX4_needShape, Cond.selects RX4 yX4_needShape yX4_needShape, Cond.code yX4_needShape cX4_needShape 1 none, Cond.classLink RX4 158 "java/lang/IllegalStateException", Cond.initialized "java/lang/IllegalStateException", Cond.fieldLink RX4 72 "StemShapes" "shaped" "Z", Cond.methodLink RX4 177 yX4_needKept, Cond.instanceMethod yX4_needKept, Cond.selects RX4 yX4_needKept yX4_needKept, Cond.code yX4_needKept cX4_needKept 1 none, Cond.methodLink RX4 184 yX0_nearestTurn, Cond.instanceMethod yX0_nearestTurn, Cond.selects RX0 yX0_nearestTurn yX0_nearestTurn, Cond.initialized RX0, Cond.code yX0_nearestTurn cX0_nearestTurn 8 (some .int)]
def wsL_match_r2 : List Cond := [Cond.methodLink RX0 33 yX0_distance, Cond.instanceMethod yX0_distance, Cond.selects RX0 yX0_distance yX0_distance, Cond.code yX0_distance cX0_distance 10 (some .double), Cond.fieldLink RX0 9 "StemShapes$Kept" "x" "[D", Cond.methodLink RX0 26 yX0_turnedX, Cond.instanceMethod yX0_turnedX, Cond.selects RX0 yX0_turnedX yX0_turnedX, Cond.code yX0_turnedX cX0_turnedX 3 (some .double), Cond.fieldLink RX0 15 "StemShapes$Kept" "y" "[D", Cond.methodLink RX0 30 yX0_turnedY, Cond.instanceMethod yX0_turnedY, Cond.selects RX0 yX0_turnedY yX0_turnedY, Cond.code yX0_turnedY cX0_turnedY 3 (some .double)]
def wsL_match : List Cond := .codeWith yL_match cL_match 3 (some .int) [(0, 8, 11, 29)] :: ((wsL_match_r1 ++ wsL_match_r2) ++ wsX40 ++ wsX00 ++ wsX30 ++ (vx_atS RX4 162 "java/lang/IllegalStateException" ["java/lang/RuntimeException", "java/lang/Exception"]).filter goodWord)
def wsL_law : List Cond := .codeWith yL_law cL_law 9 (some .int) [(0, 12, 15, 15)] :: ([.classLink RL 15 "java/lang/IllegalArgumentException", .methodLink RL 71 yX4_law, .instanceMethod yX4_law, .selects RX4 yX4_law yX4_law, .initialized RX4, .code yX4_law cX4_law 9 (some .long), .classLink RX4 59 "java/lang/IllegalArgumentException", .initialized "java/lang/IllegalArgumentException", .constantLong RX4 187 (1000000000), .constantLong RX4 191 (1000000)] ++ (vx_atS RX4 63 "java/lang/IllegalArgumentException" ["java/lang/RuntimeException", "java/lang/Exception"]).filter goodWord)
def wsL_law_0_r1 : List Cond := [Cond.classLink RL 8 RX4, Cond.instantiable RX4 7, Cond.initialized RX4, Cond.classLink RL 84 RX5, Cond.instantiable RX5 19, Cond.initialized RX5, Cond.arrayClass .long, Cond.arrayClass .double, Cond.constantDouble RL 87 (4593671619917905920), Cond.constantLong RL 152 (4294967295), Cond.methodLink RL 75 yL_cell, Cond.static yL_cell, Cond.initialized RL, Cond.code yL_cell cL_cell 2 (some .int), Cond.methodLink RL 81 yX4_init, Cond.instanceMethod yX4_init, Cond.code yX4_init cX4_init 3 none, Cond.methodLink RX4 1 objectInit, Cond.instanceMethod objectInit, Cond.code objectInit ⟨#[0xb1]⟩ 1 none, Cond.fieldLink RX4 13 "StemShapes" "slices" "I", Cond.fieldLink RX4 17 "StemShapes" "views" "I", Cond.classLink RX4 20 RX2, Cond.instantiable RX2 7]
def wsL_law_0_r2 : List Cond := [Cond.initialized RX2, Cond.fieldLink RX4 25 "StemShapes" "shadows" "LStemShapes$Shadows;", Cond.classLink RX4 29 RX3, Cond.instantiable RX3 7, Cond.initialized RX3, Cond.fieldLink RX4 34 "StemShapes" "stem" "LStemShapes$Stem;", Cond.classLink RX4 38 RX0, Cond.instantiable RX0 3, Cond.initialized RX0, Cond.fieldLink RX4 41 "StemShapes" "kept" "LStemShapes$Kept;", Cond.classLink RX4 45 RX1, Cond.instantiable RX1 4, Cond.initialized RX1, Cond.fieldLink RX4 48 "StemShapes" "rules" "LStemShapes$RuleList;", Cond.methodLink RX4 9 yX4_nearest, Cond.static yX4_nearest, Cond.code yX4_nearest cX4_nearest 2 (some .int), Cond.methodLink RX4 208 Lib.Math.min.name, Cond.static Lib.Math.min.name, Cond.initialized "java/lang/Math", Cond.code Lib.Math.min.name Lib.Math.min.code 2 (some .int), Cond.methodLink RX4 213 Lib.Math.max.name, Cond.static Lib.Math.max.name, Cond.code Lib.Math.max.name Lib.Math.max.code 2 (some .int)]
def wsL_law_0_r3 : List Cond := [Cond.methodLink RX4 22 yX2_init, Cond.instanceMethod yX2_init, Cond.code yX2_init cX2_init 4 none, Cond.methodLink RX2 1 objectInit, Cond.fieldLink RX2 7 "StemShapes$Shadows" "views" "I", Cond.fieldLink RX2 13 "StemShapes$Shadows" "p" "[D", Cond.fieldLink RX2 17 "StemShapes$Shadows" "q" "[D", Cond.fieldLink RX2 20 "StemShapes$Shadows" "length" "[D", Cond.arrayClass .boolean, Cond.fieldLink RX2 23 "StemShapes$Shadows" "there" "[Z", Cond.fieldLink RX2 27 "StemShapes$Shadows" "middle" "[D", Cond.fieldLink RX2 30 "StemShapes$Shadows" "half" "[D", Cond.static yX4_root, Cond.code yX4_root cX4_root 5 (some .double), Cond.constantDouble RX4 216 (4611686018427387904), Cond.methodLink RX4 31 yX3_init, Cond.instanceMethod yX3_init, Cond.code yX3_init cX3_init 2 none, Cond.methodLink RX3 3 objectInit, Cond.fieldLink RX3 9 "StemShapes$Stem" "slices" "I", Cond.fieldLink RX3 15 "StemShapes$Stem" "x" "[D", Cond.fieldLink RX3 19 "StemShapes$Stem" "y" "[D", Cond.fieldLink RX3 22 "StemShapes$Stem" "radius" "[D", Cond.fieldLink RX3 25 "StemShapes$Stem" "residual" "[D"]
def wsL_law_0_r4 : List Cond := [Cond.fieldLink RX3 28 "StemShapes$Stem" "isFitted" "[Z", Cond.methodLink RX4 40 yX0_init, Cond.instanceMethod yX0_init, Cond.code yX0_init cX0_init 2 none, Cond.methodLink RX0 3 objectInit, Cond.fieldLink RX0 9 "StemShapes$Kept" "x" "[D", Cond.fieldLink RX0 15 "StemShapes$Kept" "y" "[D", Cond.instanceMethod yX1_init, Cond.code yX1_init cX1_init 1 none, Cond.methodLink RX1 3 objectInit, Cond.arrayClass .int, Cond.fieldLink RX1 9 "StemShapes$RuleList" "kinds" "[I", Cond.fieldLink RX1 15 "StemShapes$RuleList" "limits" "[D", Cond.fieldLink RX1 19 "StemShapes$RuleList" "classes" "[I", Cond.methodLink RL 86 yX5_init, Cond.instanceMethod yX5_init, Cond.code yX5_init cX5_init 3 none, Cond.methodLink RX5 1 objectInit, Cond.fieldLink RX5 7 "StemShapesModel" "ps" "[D", Cond.fieldLink RX5 13 "StemShapesModel" "qs" "[D", Cond.fieldLink RX5 16 "StemShapesModel" "there" "[Z", Cond.fieldLink RX5 20 "StemShapesModel" "froms" "[D", Cond.fieldLink RX5 23 "StemShapesModel" "tos" "[D", Cond.fieldLink RX5 26 "StemShapesModel" "fitted" "[Z"]
def wsL_law_0_r5 : List Cond := [Cond.fieldLink RX5 29 "StemShapesModel" "shapes" "[D", Cond.fieldLink RX5 32 "StemShapesModel" "kinds" "[I", Cond.fieldLink RX5 36 "StemShapesModel" "limits" "[D", Cond.fieldLink RX5 39 "StemShapesModel" "classes" "[I", Cond.fieldLink RX5 42 "StemShapesModel" "keptX" "[D", Cond.fieldLink RX5 45 "StemShapesModel" "keptY" "[D", Cond.fieldLink RX5 48 "StemShapesModel" "slices" "I", Cond.fieldLink RX5 52 "StemShapesModel" "views" "I", Cond.methodLink RL 89 yL_aim, Cond.static yL_aim, Cond.codeWith yL_aim cL_aim 7 (some .int) [(0, 8, 11, 13), (0, 8, 15, 15)], Cond.classLink RL 13 "java/lang/ArrayIndexOutOfBoundsException", Cond.classLink RL 15 "java/lang/IllegalArgumentException", Cond.methodLink RL 7 yX4_aim, Cond.instanceMethod yX4_aim, Cond.selects RX4 yX4_aim yX4_aim, Cond.code yX4_aim cX4_aim 6 none, Cond.classLink RX4 59 "java/lang/IllegalArgumentException", Cond.initialized "java/lang/IllegalArgumentException", Cond.fieldLink RX4 72 "StemShapes" "shaped" "Z", Cond.methodLink RX4 52 yX4_needView, Cond.instanceMethod yX4_needView, Cond.selects RX4 yX4_needView yX4_needView, Cond.code yX4_needView cX4_needView 2 none]
def wsL_law_0_r6 : List Cond := [Cond.classLink RX4 105 RJx00060, Cond.instantiable RJx00060 6, Cond.initialized RJx00060, Cond.methodLink RX4 55 yX4_within, Cond.static yX4_within, Cond.code yX4_within cX4_within 3 (some .boolean), Cond.methodLink RX4 68 yX2_direct, Cond.instanceMethod yX2_direct, Cond.selects RX2 yX2_direct yX2_direct, Cond.code yX2_direct cX2_direct 6 none, Cond.methodLink RL 92 yX5_aim, Cond.instanceMethod yX5_aim, Cond.selects RX5 yX5_aim yX5_aim, Cond.code yX5_aim cX5_aim 6 none, Cond.constantDouble RX5 62 (13848568854164275200), Cond.constantDouble RX5 64 (4625196817309499392), Cond.fieldLink RX5 55 "StemShapesModel" "thrown" "I", Cond.fieldLink RX5 70 "StemShapesModel" "known" "Z", Cond.methodLink RX5 58 yX5_noView, Cond.instanceMethod yX5_noView, Cond.selects RX5 yX5_noView yX5_noView, Cond.code yX5_noView cX5_noView 2 (some .boolean), Cond.methodLink RX5 66 yX5_between, Cond.static yX5_between]
def wsL_law_0_r7 : List Cond := [Cond.code yX5_between cX5_between 6 (some .boolean), Cond.methodLink RL 93 yX5_thrown, Cond.instanceMethod yX5_thrown, Cond.selects RX5 yX5_thrown yX5_thrown, Cond.code yX5_thrown cX5_thrown 1 (some .int), Cond.methodLink RL 96 yL_shadow, Cond.static yL_shadow, Cond.codeWith yL_shadow cL_shadow 8 (some .int) [(0, 9, 12, 13), (0, 9, 16, 15)], Cond.methodLink RL 17 yX4_shadow, Cond.instanceMethod yX4_shadow, Cond.selects RX4 yX4_shadow yX4_shadow, Cond.code yX4_shadow cX4_shadow 7 none, Cond.methodLink RX4 76 yX4_needSlice, Cond.instanceMethod yX4_needSlice, Cond.selects RX4 yX4_needSlice yX4_needSlice, Cond.code yX4_needSlice cX4_needSlice 2 none, Cond.methodLink RX4 83 yX2_cast, Cond.instanceMethod yX2_cast, Cond.selects RX2 yX2_cast yX2_cast, Cond.code yX2_cast cX2_cast 8 none, Cond.constantDouble RX2 43 (4611686018427387904), Cond.methodLink RX2 39 yX2_place, Cond.instanceMethod yX2_place, Cond.selects RX2 yX2_place yX2_place]
def wsL_law_0_r8 : List Cond := [Cond.code yX2_place cX2_place 3 (some .int), Cond.methodLink RL 99 yX5_shadow, Cond.instanceMethod yX5_shadow, Cond.selects RX5 yX5_shadow yX5_shadow, Cond.code yX5_shadow cX5_shadow 7 none, Cond.constantDouble RX5 77 (13875379345695965184), Cond.constantDouble RX5 79 (4652007308841189376), Cond.methodLink RX5 74 yX5_noSlice, Cond.instanceMethod yX5_noSlice, Cond.selects RX5 yX5_noSlice yX5_noSlice, Cond.code yX5_noSlice cX5_noSlice 2 (some .boolean), Cond.methodLink RL 100 yL_lift, Cond.static yL_lift, Cond.codeWith yL_lift cL_lift 5 (some .int) [(0, 17, 20, 13)], Cond.methodLink RL 21 yX4_lift, Cond.instanceMethod yX4_lift, Cond.selects RX4 yX4_lift yX4_lift, Cond.code yX4_lift cX4_lift 4 (some .boolean), Cond.methodLink RX4 87 yX2_takeAway, Cond.instanceMethod yX2_takeAway, Cond.selects RX2 yX2_takeAway yX2_takeAway, Cond.code yX2_takeAway cX2_takeAway 5 (some .boolean), Cond.methodLink RL 103 yX5_lift, Cond.instanceMethod yX5_lift]
def wsL_law_0_r9 : List Cond := [Cond.selects RX5 yX5_lift yX5_lift, Cond.code yX5_lift cX5_lift 3 (some .boolean), Cond.methodLink RL 104 yX4_run, Cond.instanceMethod yX4_run, Cond.selects RX4 yX4_run yX4_run, Cond.code yX4_run cX4_run 3 (some .int), Cond.methodLink RX4 95 yX2_fitInto, Cond.instanceMethod yX2_fitInto, Cond.selects RX2 yX2_fitInto yX2_fitInto, Cond.code yX2_fitInto cX2_fitInto 4 (some .boolean), Cond.methodLink RX2 45 yX2_countOf, Cond.instanceMethod yX2_countOf, Cond.selects RX2 yX2_countOf yX2_countOf, Cond.code yX2_countOf cX2_countOf 4 (some .int), Cond.methodLink RX2 49 yX2_fitCentre, Cond.instanceMethod yX2_fitCentre, Cond.selects RX2 yX2_fitCentre yX2_fitCentre, Cond.code yX2_fitCentre cX2_fitCentre 17 (some .boolean), Cond.constantDouble RX2 75 (4517110426252607488), Cond.methodLink RX2 58 yX2_sumOfRadii, Cond.instanceMethod yX2_sumOfRadii, Cond.selects RX2 yX2_sumOfRadii yX2_sumOfRadii, Cond.code yX2_sumOfRadii cX2_sumOfRadii 6 (some .double), Cond.methodLink RX2 71 yX2_sumOfErrors]
def wsL_law_0_r10 : List Cond := [Cond.instanceMethod yX2_sumOfErrors, Cond.selects RX2 yX2_sumOfErrors yX2_sumOfErrors, Cond.code yX2_sumOfErrors cX2_sumOfErrors 12 (some .double), Cond.methodLink RX4 102 yX3_mendAll, Cond.instanceMethod yX3_mendAll, Cond.selects RX3 yX3_mendAll yX3_mendAll, Cond.code yX3_mendAll cX3_mendAll 2 none, Cond.methodLink RX3 32 yX3_fittedBefore, Cond.instanceMethod yX3_fittedBefore, Cond.selects RX3 yX3_fittedBefore yX3_fittedBefore, Cond.code yX3_fittedBefore cX3_fittedBefore 3 (some .int), Cond.methodLink RX3 36 yX3_fittedBehind, Cond.instanceMethod yX3_fittedBehind, Cond.selects RX3 yX3_fittedBehind yX3_fittedBehind, Cond.code yX3_fittedBehind cX3_fittedBehind 3 (some .int), Cond.methodLink RX3 39 yX3_mendOne, Cond.instanceMethod yX3_mendOne, Cond.selects RX3 yX3_mendOne yX3_mendOne, Cond.code yX3_mendOne cX3_mendOne 6 none, Cond.methodLink RX3 57 yX3_between, Cond.static yX3_between, Cond.code yX3_between cX3_between 4 (some .double), Cond.methodLink RL 107 yX5_run, Cond.instanceMethod yX5_run]
def wsL_law_0_r11 : List Cond := [Cond.selects RX5 yX5_run yX5_run, Cond.code yX5_run cX5_run 2 (some .int), Cond.fieldLink RX5 101 "StemShapesModel" "fits" "I", Cond.methodLink RX5 104 yX5_fit, Cond.instanceMethod yX5_fit, Cond.selects RX5 yX5_fit yX5_fit, Cond.code yX5_fit cX5_fit 27 (some .boolean), Cond.constantDouble RX5 81 (4611686018427387904), Cond.constantDouble RX5 91 (4517110426252607488), Cond.methodLink RX5 83 yX5_middle, Cond.instanceMethod yX5_middle, Cond.selects RX5 yX5_middle yX5_middle, Cond.code yX5_middle cX5_middle 2 (some .double), Cond.methodLink RX5 87 yX5_root, Cond.static yX5_root, Cond.code yX5_root cX5_root 5 (some .double), Cond.methodLink RX5 93 yX5_set, Cond.instanceMethod yX5_set, Cond.selects RX5 yX5_set yX5_set, Cond.code yX5_set cX5_set 10 none, Cond.methodLink RX5 107 yX5_mend, Cond.instanceMethod yX5_mend, Cond.selects RX5 yX5_mend yX5_mend, Cond.code yX5_mend cX5_mend 5 none]
def wsL_law_0_r12 : List Cond := [Cond.methodLink RX5 97 yX5_mixed, Cond.instanceMethod yX5_mixed, Cond.selects RX5 yX5_mixed yX5_mixed, Cond.code yX5_mixed cX5_mixed 7 (some .double), Cond.methodLink RL 108 yL_shape, Cond.static yL_shape, Cond.codeWith yL_shape cL_shape 5 (some .int) [(0, 9, 12, 13), (0, 9, 16, 29)], Cond.classLink RL 29 "java/lang/IllegalStateException", Cond.methodLink RL 25 yX4_shape, Cond.instanceMethod yX4_shape, Cond.selects RX4 yX4_shape yX4_shape, Cond.code yX4_shape cX4_shape 3 (some .double), Cond.methodLink RX4 110 yX4_needShape, Cond.instanceMethod yX4_needShape, Cond.selects RX4 yX4_needShape yX4_needShape, Cond.code yX4_needShape cX4_needShape 1 none, Cond.classLink RX4 158 "java/lang/IllegalStateException", Cond.initialized "java/lang/IllegalStateException", Cond.methodLink RX4 126 yX3_areaOf, Cond.instanceMethod yX3_areaOf, Cond.selects RX3 yX3_areaOf yX3_areaOf, Cond.code yX3_areaOf cX3_areaOf 2 (some .double), Cond.constantDouble RX3 43 (4614254477589872640), Cond.methodLink RL 111 yX5_shape]
def wsL_law_0_r13 : List Cond := [Cond.instanceMethod yX5_shape, Cond.selects RX5 yX5_shape yX5_shape, Cond.code yX5_shape cX5_shape 3 (some .double), Cond.methodLink RX5 113 yX5_hasShape, Cond.instanceMethod yX5_hasShape, Cond.selects RX5 yX5_hasShape yX5_hasShape, Cond.code yX5_hasShape cX5_hasShape 1 (some .boolean), Cond.methodLink RX5 117 yX5_area, Cond.instanceMethod yX5_area, Cond.selects RX5 yX5_area yX5_area, Cond.code yX5_area cX5_area 4 (some .double), Cond.constantDouble RX5 111 (4614254477589872640), Cond.methodLink RL 112 yL_fitted, Cond.static yL_fitted, Cond.codeWith yL_fitted cL_fitted 4 (some .int) [(0, 16, 19, 13), (0, 16, 22, 29)], Cond.methodLink RL 31 yX4_fitted, Cond.instanceMethod yX4_fitted, Cond.selects RX4 yX4_fitted yX4_fitted, Cond.code yX4_fitted cX4_fitted 2 (some .boolean), Cond.methodLink RL 115 yX5_fitted, Cond.instanceMethod yX5_fitted, Cond.selects RX5 yX5_fitted yX5_fitted, Cond.code yX5_fitted cX5_fitted 2 (some .boolean), Cond.methodLink RL 116 yL_inside]
def wsL_law_0_r14 : List Cond := [Cond.static yL_inside, Cond.codeWith yL_inside cL_inside 8 (some .int) [(0, 20, 23, 13), (0, 20, 27, 15), (0, 20, 31, 29)], Cond.methodLink RL 35 yX4_inside, Cond.instanceMethod yX4_inside, Cond.selects RX4 yX4_inside yX4_inside, Cond.code yX4_inside cX4_inside 6 (some .boolean), Cond.methodLink RX4 132 yX3_covers, Cond.instanceMethod yX3_covers, Cond.selects RX3 yX3_covers yX3_covers, Cond.code yX3_covers cX3_covers 10 (some .boolean), Cond.methodLink RL 119 yX5_inside, Cond.instanceMethod yX5_inside, Cond.selects RX5 yX5_inside yX5_inside, Cond.code yX5_inside cX5_inside 6 (some .boolean), Cond.methodLink RX5 120 yX5_isInside, Cond.instanceMethod yX5_isInside, Cond.selects RX5 yX5_isInside yX5_isInside, Cond.code yX5_isInside cX5_isInside 12 (some .boolean), Cond.methodLink RL 120 yL_wholes, Cond.static yL_wholes, Cond.codeWith yL_wholes cL_wholes 4 (some .int) [(0, 9, 12, 13), (0, 9, 15, 29)], Cond.methodLink RL 39 yX4_wholes, Cond.instanceMethod yX4_wholes, Cond.selects RX4 yX4_wholes yX4_wholes]
def wsL_law_0_r15 : List Cond := [Cond.code yX4_wholes cX4_wholes 2 (some .int), Cond.methodLink RX4 136 yX3_cellsOf, Cond.instanceMethod yX3_cellsOf, Cond.selects RX3 yX3_cellsOf yX3_cellsOf, Cond.code yX3_cellsOf cX3_cellsOf 5 (some .int), Cond.methodLink RX3 45 yX3_covers, Cond.methodLink RL 122 yX5_wholes, Cond.instanceMethod yX5_wholes, Cond.selects RX5 yX5_wholes yX5_wholes, Cond.code yX5_wholes cX5_wholes 5 (some .int), Cond.methodLink RL 123 yL_volume, Cond.static yL_volume, Cond.codeWith yL_volume cL_volume 3 (some .int) [(0, 7, 10, 29)], Cond.methodLink RL 43 yX4_volume, Cond.instanceMethod yX4_volume, Cond.selects RX4 yX4_volume yX4_volume, Cond.code yX4_volume cX4_volume 1 (some .double), Cond.methodLink RX4 140 yX3_sumOfAreas, Cond.instanceMethod yX3_sumOfAreas, Cond.selects RX3 yX3_sumOfAreas yX3_sumOfAreas, Cond.code yX3_sumOfAreas cX3_sumOfAreas 4 (some .double), Cond.methodLink RX3 49 yX3_areaOf, Cond.methodLink RL 126 yX5_volume, Cond.instanceMethod yX5_volume]
def wsL_law_0_r16 : List Cond := [Cond.selects RX5 yX5_volume yX5_volume, Cond.code yX5_volume cX5_volume 1 (some .double), Cond.methodLink RX5 128 yX5_volumeNow, Cond.instanceMethod yX5_volumeNow, Cond.selects RX5 yX5_volumeNow yX5_volumeNow, Cond.code yX5_volumeNow cX5_volumeNow 4 (some .double), Cond.methodLink RL 127 yL_taper, Cond.static yL_taper, Cond.codeWith yL_taper cL_taper 3 (some .int) [(0, 7, 10, 29)], Cond.methodLink RL 47 yX4_taper, Cond.instanceMethod yX4_taper, Cond.selects RX4 yX4_taper yX4_taper, Cond.code yX4_taper cX4_taper 1 (some .double), Cond.methodLink RX4 144 yX3_thinning, Cond.instanceMethod yX3_thinning, Cond.selects RX3 yX3_thinning yX3_thinning, Cond.code yX3_thinning cX3_thinning 1 (some .double), Cond.methodLink RL 129 yX5_taper, Cond.instanceMethod yX5_taper, Cond.selects RX5 yX5_taper yX5_taper, Cond.code yX5_taper cX5_taper 1 (some .double), Cond.methodLink RX5 132 yX5_taperNow, Cond.instanceMethod yX5_taperNow, Cond.selects RX5 yX5_taperNow yX5_taperNow]
def wsL_law_0_r17 : List Cond := [Cond.code yX5_taperNow cX5_taperNow 1 (some .double), Cond.methodLink RL 130 yL_sweep, Cond.static yL_sweep, Cond.codeWith yL_sweep cL_sweep 3 (some .int) [(0, 7, 10, 29)], Cond.methodLink RL 50 yX4_sweep, Cond.instanceMethod yX4_sweep, Cond.selects RX4 yX4_sweep yX4_sweep, Cond.code yX4_sweep cX4_sweep 1 (some .double), Cond.methodLink RX4 147 yX3_greatestBend, Cond.instanceMethod yX3_greatestBend, Cond.selects RX3 yX3_greatestBend yX3_greatestBend, Cond.code yX3_greatestBend cX3_greatestBend 10 (some .double), Cond.methodLink RX3 53 yX3_straight, Cond.instanceMethod yX3_straight, Cond.selects RX3 yX3_straight yX3_straight, Cond.code yX3_straight cX3_straight 3 (some .double), Cond.methodLink RL 132 yX5_sweep, Cond.instanceMethod yX5_sweep, Cond.selects RX5 yX5_sweep yX5_sweep, Cond.code yX5_sweep cX5_sweep 1 (some .double), Cond.methodLink RX5 135 yX5_sweepNow, Cond.instanceMethod yX5_sweepNow, Cond.selects RX5 yX5_sweepNow yX5_sweepNow, Cond.code yX5_sweepNow cX5_sweepNow 6 (some .double)]
def wsL_law_0_r18 : List Cond := [Cond.methodLink RX5 124 yX5_off, Cond.instanceMethod yX5_off, Cond.selects RX5 yX5_off yX5_off, Cond.code yX5_off cX5_off 7 (some .double), Cond.methodLink RL 133 yL_rule, Cond.static yL_rule, Cond.codeWith yL_rule cL_rule 7 (some .int) [(0, 13, 16, 15), (0, 13, 20, 29)], Cond.methodLink RL 53 yX4_rule, Cond.instanceMethod yX4_rule, Cond.selects RX4 yX4_rule yX4_rule, Cond.code yX4_rule cX4_rule 5 (some .int), Cond.methodLink RX4 154 yX1_isFull, Cond.instanceMethod yX1_isFull, Cond.selects RX1 yX1_isFull yX1_isFull, Cond.code yX1_isFull cX1_isFull 1 (some .boolean), Cond.fieldLink RX1 22 "StemShapes$RuleList" "count" "I", Cond.methodLink RX4 163 yX1_addOne, Cond.instanceMethod yX1_addOne, Cond.selects RX1 yX1_addOne yX1_addOne, Cond.code yX1_addOne cX1_addOne 5 (some .int), Cond.methodLink RL 136 yX5_rule, Cond.instanceMethod yX5_rule, Cond.selects RX5 yX5_rule yX5_rule, Cond.code yX5_rule cX5_rule 5 (some .int)]
def wsL_law_0_r19 : List Cond := [Cond.fieldLink RX5 138 "StemShapesModel" "rules" "I", Cond.methodLink RL 137 yL_cls, Cond.static yL_cls, Cond.codeWith yL_cls cL_cls 3 (some .int) [(0, 8, 11, 29)], Cond.methodLink RL 57 yX4_cls, Cond.instanceMethod yX4_cls, Cond.selects RX4 yX4_cls yX4_cls, Cond.code yX4_cls cX4_cls 1 (some .int), Cond.methodLink RX4 167 yX1_classOf, Cond.instanceMethod yX1_classOf, Cond.selects RX1 yX1_classOf yX1_classOf, Cond.code yX1_classOf cX1_classOf 3 (some .int), Cond.methodLink RX1 26 yX1_holds, Cond.static yX1_holds, Cond.code yX1_holds cX1_holds 4 (some .boolean), Cond.methodLink RX1 30 yX3_greatestBend, Cond.methodLink RX1 36 yX3_thinning, Cond.methodLink RX1 39 yX3_lastRadius, Cond.instanceMethod yX3_lastRadius, Cond.selects RX3 yX3_lastRadius yX3_lastRadius, Cond.code yX3_lastRadius cX3_lastRadius 1 (some .double), Cond.methodLink RX1 42 yX3_sumOfAreas, Cond.methodLink RL 140 yX5_cls, Cond.instanceMethod yX5_cls]
def wsL_law_0_r20 : List Cond := [Cond.selects RX5 yX5_cls yX5_cls, Cond.code yX5_cls cX5_cls 2 (some .int), Cond.methodLink RX5 141 yX5_holds, Cond.instanceMethod yX5_holds, Cond.selects RX5 yX5_holds yX5_holds, Cond.code yX5_holds cX5_holds 5 (some .boolean), Cond.methodLink RL 141 yL_keep, Cond.static yL_keep, Cond.codeWith yL_keep cL_keep 2 (some .int) [(0, 4, 7, 29)], Cond.methodLink RL 61 yX4_keep, Cond.instanceMethod yX4_keep, Cond.selects RX4 yX4_keep yX4_keep, Cond.code yX4_keep cX4_keep 1 none, Cond.methodLink RX4 171 yX0_take, Cond.instanceMethod yX0_take, Cond.selects RX0 yX0_take yX0_take, Cond.code yX0_take cX0_take 3 none, Cond.fieldLink RX0 22 "StemShapes$Kept" "isThere" "Z", Cond.methodLink RL 144 yX5_keep, Cond.instanceMethod yX5_keep, Cond.selects RX5 yX5_keep yX5_keep, Cond.code yX5_keep cX5_keep 2 none, Cond.fieldLink RX5 144 "StemShapesModel" "kept" "Z", Cond.methodLink RL 145 yL_apart]
def wsL_law_0_r21 : List Cond := [Cond.static yL_apart, Cond.codeWith yL_apart cL_apart 4 (some .int) [(0, 8, 11, 15), (0, 8, 14, 29)], Cond.methodLink RL 64 yX4_apart, Cond.instanceMethod yX4_apart, Cond.selects RX4 yX4_apart yX4_apart, Cond.code yX4_apart cX4_apart 2 (some .double), Cond.methodLink RX4 177 yX4_needKept, Cond.instanceMethod yX4_needKept, Cond.selects RX4 yX4_needKept yX4_needKept, Cond.code yX4_needKept cX4_needKept 1 none, Cond.methodLink RX4 180 yX0_distance, Cond.instanceMethod yX0_distance, Cond.selects RX0 yX0_distance yX0_distance, Cond.code yX0_distance cX0_distance 10 (some .double), Cond.methodLink RX0 26 yX0_turnedX, Cond.instanceMethod yX0_turnedX, Cond.selects RX0 yX0_turnedX yX0_turnedX, Cond.code yX0_turnedX cX0_turnedX 3 (some .double), Cond.methodLink RX0 30 yX0_turnedY, Cond.instanceMethod yX0_turnedY, Cond.selects RX0 yX0_turnedY yX0_turnedY, Cond.code yX0_turnedY cX0_turnedY 3 (some .double), Cond.methodLink RL 148 yX5_apart, Cond.instanceMethod yX5_apart]
def wsL_law_0_r22 : List Cond := [Cond.selects RX5 yX5_apart yX5_apart, Cond.code yX5_apart cX5_apart 2 (some .double), Cond.methodLink RX5 147 yX5_apartBy, Cond.instanceMethod yX5_apartBy, Cond.selects RX5 yX5_apartBy yX5_apartBy, Cond.code yX5_apartBy cX5_apartBy 13 (some .double), Cond.methodLink RL 149 yL_match, Cond.static yL_match, Cond.codeWith yL_match cL_match 3 (some .int) [(0, 8, 11, 29)], Cond.methodLink RL 68 yX4_match, Cond.instanceMethod yX4_match, Cond.selects RX4 yX4_match yX4_match, Cond.code yX4_match cX4_match 1 (some .int), Cond.methodLink RX4 184 yX0_nearestTurn, Cond.instanceMethod yX0_nearestTurn, Cond.selects RX0 yX0_nearestTurn yX0_nearestTurn, Cond.code yX0_nearestTurn cX0_nearestTurn 8 (some .int), Cond.methodLink RX0 33 yX0_distance, Cond.methodLink RL 151 yX5_match, Cond.instanceMethod yX5_match, Cond.selects RX5 yX5_match yX5_match, Cond.code yX5_match cX5_match 3 (some .int), Cond.methodLink RL 154 yL_law, Cond.static yL_law]
def wsL_law_0_r23 : List Cond := [Cond.codeWith yL_law cL_law 9 (some .int) [(0, 12, 15, 15)], Cond.methodLink RL 71 yX4_law, Cond.instanceMethod yX4_law, Cond.selects RX4 yX4_law yX4_law, Cond.code yX4_law cX4_law 9 (some .long), Cond.constantLong RX4 187 (1000000000), Cond.constantLong RX4 191 (1000000), Cond.methodLink RL 157 yX5_law, Cond.instanceMethod yX5_law, Cond.selects RX5 yX5_law yX5_law, Cond.code yX5_law cX5_law 9 (some .long), Cond.constantLong RX5 150 (1000000000), Cond.constantLong RX5 152 (1000000)]
def wsL_law_0 : List Cond := (wsL_law_0_r1 ++ (wsL_law_0_r2 ++ (wsL_law_0_r3 ++ (wsL_law_0_r4 ++ (wsL_law_0_r5 ++ (wsL_law_0_r6 ++ (wsL_law_0_r7 ++ (wsL_law_0_r8 ++ (wsL_law_0_r9 ++ (wsL_law_0_r10 ++ (wsL_law_0_r11 ++ (wsL_law_0_r12 ++ (wsL_law_0_r13 ++ (wsL_law_0_r14 ++ (wsL_law_0_r15 ++ (wsL_law_0_r16 ++ (wsL_law_0_r17 ++ (wsL_law_0_r18 ++ (wsL_law_0_r19 ++ (wsL_law_0_r20 ++ (wsL_law_0_r21 ++ (wsL_law_0_r22 ++ wsL_law_0_r23)))))))))))))))))))))) ++ wsX40 ++ wsX50 ++ wsX20 ++ wsX30 ++ wsX00 ++ wsX10 ++ wsJx000600 ++ ([] : List Cond)
def wsL_law_ : List Cond := wsL_law_0 ++ (vx_atS RX4 63 "java/lang/IllegalArgumentException" ["java/lang/RuntimeException", "java/lang/Exception"]).filter goodWord ++ (vx_atS RX4 162 "java/lang/IllegalStateException" ["java/lang/RuntimeException", "java/lang/Exception"]).filter goodWord
abbrev vwCl : List vw_C := [(RJx00060, TJx00060, 6), (RX0, TX0, 3), (RX1, TX1, 4), (RX2, TX2, 7), (RX3, TX3, 7), (RX4, TX4, 7), (RX5, TX5, 19)]
end
section
theorem dX0_init_0 : decode cX0_init 0 = .ok (.aload_n 0, 1) := by decide +kernel
theorem dX0_init_1 : decode cX0_init 1 = .ok (.invokespecial 3, 3) := by decide +kernel
theorem dX0_init_4 : decode cX0_init 4 = .ok (.aload_n 0, 1) := by decide +kernel
theorem dX0_init_5 : decode cX0_init 5 = .ok (.iload_n 1, 1) := by decide +kernel
theorem dX0_init_6 : decode cX0_init 6 = .ok (.newarray .double, 2) := by decide +kernel
theorem dX0_init_8 : decode cX0_init 8 = .ok (.putfield 9, 3) := by decide +kernel
theorem dX0_init_11 : decode cX0_init 11 = .ok (.aload_n 0, 1) := by decide +kernel
theorem dX0_init_12 : decode cX0_init 12 = .ok (.iload_n 1, 1) := by decide +kernel
theorem dX0_init_13 : decode cX0_init 13 = .ok (.newarray .double, 2) := by decide +kernel
theorem dX0_init_15 : decode cX0_init 15 = .ok (.putfield 15, 3) := by decide +kernel
theorem dX0_init_18 : decode cX0_init 18 = .ok (.return_, 1) := by decide +kernel
theorem dX0_take_0 : decode cX0_take 0 = .ok (.iconst 0, 1) := by decide +kernel
theorem dX0_take_1 : decode cX0_take 1 = .ok (.istore_n 2, 1) := by decide +kernel
theorem dX0_take_2 : decode cX0_take 2 = .ok (.iload_n 2, 1) := by decide +kernel
theorem dX0_take_3 : decode cX0_take 3 = .ok (.aload_n 0, 1) := by decide +kernel
theorem dX0_take_4 : decode cX0_take 4 = .ok (.getfield 9, 3) := by decide +kernel
theorem dX0_take_7 : decode cX0_take 7 = .ok (.arraylength, 1) := by decide +kernel
theorem dX0_take_8 : decode cX0_take 8 = .ok (.if_icmp .ge 33, 3) := by decide +kernel
theorem dX0_take_11 : decode cX0_take 11 = .ok (.aload_n 0, 1) := by decide +kernel
theorem dX0_take_12 : decode cX0_take 12 = .ok (.getfield 9, 3) := by decide +kernel
theorem dX0_take_15 : decode cX0_take 15 = .ok (.iload_n 2, 1) := by decide +kernel
theorem dX0_take_16 : decode cX0_take 16 = .ok (.aload_n 1, 1) := by decide +kernel
theorem dX0_take_17 : decode cX0_take 17 = .ok (.getfield 18, 3) := by decide +kernel
theorem dX0_take_20 : decode cX0_take 20 = .ok (.iload_n 2, 1) := by decide +kernel
theorem dX0_take_21 : decode cX0_take 21 = .ok (.daload, 1) := by decide +kernel
theorem dX0_take_22 : decode cX0_take 22 = .ok (.dastore, 1) := by decide +kernel
theorem dX0_take_23 : decode cX0_take 23 = .ok (.aload_n 0, 1) := by decide +kernel
theorem dX0_take_24 : decode cX0_take 24 = .ok (.getfield 15, 3) := by decide +kernel
theorem dX0_take_27 : decode cX0_take 27 = .ok (.iload_n 2, 1) := by decide +kernel
theorem dX0_take_28 : decode cX0_take 28 = .ok (.aload_n 1, 1) := by decide +kernel
theorem dX0_take_29 : decode cX0_take 29 = .ok (.getfield 21, 3) := by decide +kernel
theorem dX0_take_32 : decode cX0_take 32 = .ok (.iload_n 2, 1) := by decide +kernel
theorem dX0_take_33 : decode cX0_take 33 = .ok (.daload, 1) := by decide +kernel
theorem dX0_take_34 : decode cX0_take 34 = .ok (.dastore, 1) := by decide +kernel
theorem dX0_take_35 : decode cX0_take 35 = .ok (.iinc 2 1, 3) := by decide +kernel
theorem dX0_take_38 : decode cX0_take 38 = .ok (.goto (-36), 3) := by decide +kernel
theorem dX0_take_41 : decode cX0_take 41 = .ok (.aload_n 0, 1) := by decide +kernel
theorem dX0_take_42 : decode cX0_take 42 = .ok (.iconst 1, 1) := by decide +kernel
theorem dX0_take_43 : decode cX0_take 43 = .ok (.putfield 22, 3) := by decide +kernel
theorem dX0_take_46 : decode cX0_take 46 = .ok (.return_, 1) := by decide +kernel
set_option maxRecDepth 20000 in
theorem ggX0_distance_X0_turnedX : GoodIn wsX0_distance wsX0_turnedX := goodIn_r _ [6, 1, 7, 12, 13, 14] (by decide +kernel) (by decide +kernel)
set_option maxRecDepth 20000 in
theorem gX0_distance_X0_turnedX : GoodIn wsX0_distance (wsV RX0 26 RX0 yX0_turnedX wsX0_turnedX) := goodIn_app (goodIn_of _ (by decide +kernel)) ggX0_distance_X0_turnedX
set_option maxRecDepth 20000 in
theorem ggX0_distance_X0_turnedY : GoodIn wsX0_distance wsX0_turnedY := goodIn_r _ [11, 7, 1, 12, 13, 14] (by decide +kernel) (by decide +kernel)
set_option maxRecDepth 20000 in
theorem gX0_distance_X0_turnedY : GoodIn wsX0_distance (wsV RX0 30 RX0 yX0_turnedY wsX0_turnedY) := goodIn_app (goodIn_of _ (by decide +kernel)) ggX0_distance_X0_turnedY
theorem dX0_distance_0 : decode cX0_distance 0 = .ok (.dconst 0, 1) := by decide +kernel
theorem dX0_distance_1 : decode cX0_distance 1 = .ok (.dstore_n 3, 1) := by decide +kernel
theorem dX0_distance_2 : decode cX0_distance 2 = .ok (.iconst 0, 1) := by decide +kernel
theorem dX0_distance_3 : decode cX0_distance 3 = .ok (.istore 5, 2) := by decide +kernel
theorem dX0_distance_5 : decode cX0_distance 5 = .ok (.iload 5, 2) := by decide +kernel
theorem dX0_distance_7 : decode cX0_distance 7 = .ok (.aload_n 0, 1) := by decide +kernel
theorem dX0_distance_8 : decode cX0_distance 8 = .ok (.getfield 9, 3) := by decide +kernel
theorem dX0_distance_11 : decode cX0_distance 11 = .ok (.arraylength, 1) := by decide +kernel
theorem dX0_distance_12 : decode cX0_distance 12 = .ok (.if_icmp .ge 57, 3) := by decide +kernel
theorem dX0_distance_15 : decode cX0_distance 15 = .ok (.aload_n 1, 1) := by decide +kernel
theorem dX0_distance_16 : decode cX0_distance 16 = .ok (.getfield 18, 3) := by decide +kernel
theorem dX0_distance_19 : decode cX0_distance 19 = .ok (.iload 5, 2) := by decide +kernel
theorem dX0_distance_21 : decode cX0_distance 21 = .ok (.daload, 1) := by decide +kernel
theorem dX0_distance_22 : decode cX0_distance 22 = .ok (.aload_n 0, 1) := by decide +kernel
theorem dX0_distance_23 : decode cX0_distance 23 = .ok (.iload 5, 2) := by decide +kernel
theorem dX0_distance_25 : decode cX0_distance 25 = .ok (.iload_n 2, 1) := by decide +kernel
theorem dX0_distance_26 : decode cX0_distance 26 = .ok (.invokevirtual 26, 3) := by decide +kernel
theorem dX0_distance_29 : decode cX0_distance 29 = .ok (.dsub, 1) := by decide +kernel
theorem dX0_distance_30 : decode cX0_distance 30 = .ok (.dstore 6, 2) := by decide +kernel
theorem dX0_distance_32 : decode cX0_distance 32 = .ok (.aload_n 1, 1) := by decide +kernel
theorem dX0_distance_33 : decode cX0_distance 33 = .ok (.getfield 21, 3) := by decide +kernel
theorem dX0_distance_36 : decode cX0_distance 36 = .ok (.iload 5, 2) := by decide +kernel
theorem dX0_distance_38 : decode cX0_distance 38 = .ok (.daload, 1) := by decide +kernel
theorem dX0_distance_39 : decode cX0_distance 39 = .ok (.aload_n 0, 1) := by decide +kernel
theorem dX0_distance_40 : decode cX0_distance 40 = .ok (.iload 5, 2) := by decide +kernel
theorem dX0_distance_42 : decode cX0_distance 42 = .ok (.iload_n 2, 1) := by decide +kernel
theorem dX0_distance_43 : decode cX0_distance 43 = .ok (.invokevirtual 30, 3) := by decide +kernel
theorem dX0_distance_46 : decode cX0_distance 46 = .ok (.dsub, 1) := by decide +kernel
theorem dX0_distance_47 : decode cX0_distance 47 = .ok (.dstore 8, 2) := by decide +kernel
theorem dX0_distance_49 : decode cX0_distance 49 = .ok (.dload_n 3, 1) := by decide +kernel
theorem dX0_distance_50 : decode cX0_distance 50 = .ok (.dload 6, 2) := by decide +kernel
theorem dX0_distance_52 : decode cX0_distance 52 = .ok (.dload 6, 2) := by decide +kernel
theorem dX0_distance_54 : decode cX0_distance 54 = .ok (.dmul, 1) := by decide +kernel
theorem dX0_distance_55 : decode cX0_distance 55 = .ok (.dload 8, 2) := by decide +kernel
theorem dX0_distance_57 : decode cX0_distance 57 = .ok (.dload 8, 2) := by decide +kernel
theorem dX0_distance_59 : decode cX0_distance 59 = .ok (.dmul, 1) := by decide +kernel
theorem dX0_distance_60 : decode cX0_distance 60 = .ok (.dadd, 1) := by decide +kernel
theorem dX0_distance_61 : decode cX0_distance 61 = .ok (.dadd, 1) := by decide +kernel
theorem dX0_distance_62 : decode cX0_distance 62 = .ok (.dstore_n 3, 1) := by decide +kernel
theorem dX0_distance_63 : decode cX0_distance 63 = .ok (.iinc 5 1, 3) := by decide +kernel
theorem dX0_distance_66 : decode cX0_distance 66 = .ok (.goto (-61), 3) := by decide +kernel
theorem dX0_distance_69 : decode cX0_distance 69 = .ok (.dload_n 3, 1) := by decide +kernel
theorem dX0_distance_70 : decode cX0_distance 70 = .ok (.dreturn, 1) := by decide +kernel
set_option maxRecDepth 20000 in
theorem ggX0_nearestTurn_X0_distance : GoodIn wsX0_nearestTurn wsX0_distance := goodIn_r _ [5, 6, 7, 8, 9, 4, 10, 11, 12, 13, 14, 15, 16, 17, 18, 19, 20, 21, 22, 23, 24, 25] (by decide +kernel) (by decide +kernel)
set_option maxRecDepth 20000 in
theorem gX0_nearestTurn_X0_distance : GoodIn wsX0_nearestTurn (wsV RX0 33 RX0 yX0_distance wsX0_distance) := goodIn_app (goodIn_of _ (by decide +kernel)) ggX0_nearestTurn_X0_distance
theorem dX0_nearestTurn_0 : decode cX0_nearestTurn 0 = .ok (.iconst 0, 1) := by decide +kernel
theorem dX0_nearestTurn_1 : decode cX0_nearestTurn 1 = .ok (.istore_n 2, 1) := by decide +kernel
theorem dX0_nearestTurn_2 : decode cX0_nearestTurn 2 = .ok (.aload_n 0, 1) := by decide +kernel
theorem dX0_nearestTurn_3 : decode cX0_nearestTurn 3 = .ok (.aload_n 1, 1) := by decide +kernel
theorem dX0_nearestTurn_4 : decode cX0_nearestTurn 4 = .ok (.iconst 0, 1) := by decide +kernel
theorem dX0_nearestTurn_5 : decode cX0_nearestTurn 5 = .ok (.invokevirtual 33, 3) := by decide +kernel
theorem dX0_nearestTurn_8 : decode cX0_nearestTurn 8 = .ok (.dstore_n 3, 1) := by decide +kernel
theorem dX0_nearestTurn_9 : decode cX0_nearestTurn 9 = .ok (.iconst 1, 1) := by decide +kernel
theorem dX0_nearestTurn_10 : decode cX0_nearestTurn 10 = .ok (.istore 5, 2) := by decide +kernel
theorem dX0_nearestTurn_12 : decode cX0_nearestTurn 12 = .ok (.iload 5, 2) := by decide +kernel
theorem dX0_nearestTurn_14 : decode cX0_nearestTurn 14 = .ok (.iconst 4, 1) := by decide +kernel
theorem dX0_nearestTurn_15 : decode cX0_nearestTurn 15 = .ok (.if_icmp .ge 31, 3) := by decide +kernel
theorem dX0_nearestTurn_18 : decode cX0_nearestTurn 18 = .ok (.aload_n 0, 1) := by decide +kernel
theorem dX0_nearestTurn_19 : decode cX0_nearestTurn 19 = .ok (.aload_n 1, 1) := by decide +kernel
theorem dX0_nearestTurn_20 : decode cX0_nearestTurn 20 = .ok (.iload 5, 2) := by decide +kernel
theorem dX0_nearestTurn_22 : decode cX0_nearestTurn 22 = .ok (.invokevirtual 33, 3) := by decide +kernel
theorem dX0_nearestTurn_25 : decode cX0_nearestTurn 25 = .ok (.dstore 6, 2) := by decide +kernel
theorem dX0_nearestTurn_27 : decode cX0_nearestTurn 27 = .ok (.dload 6, 2) := by decide +kernel
theorem dX0_nearestTurn_29 : decode cX0_nearestTurn 29 = .ok (.dload_n 3, 1) := by decide +kernel
theorem dX0_nearestTurn_30 : decode cX0_nearestTurn 30 = .ok (.dcmp .g, 1) := by decide +kernel
theorem dX0_nearestTurn_31 : decode cX0_nearestTurn 31 = .ok (.ifCond .ge 9, 3) := by decide +kernel
theorem dX0_nearestTurn_34 : decode cX0_nearestTurn 34 = .ok (.dload 6, 2) := by decide +kernel
theorem dX0_nearestTurn_36 : decode cX0_nearestTurn 36 = .ok (.dstore_n 3, 1) := by decide +kernel
theorem dX0_nearestTurn_37 : decode cX0_nearestTurn 37 = .ok (.iload 5, 2) := by decide +kernel
theorem dX0_nearestTurn_39 : decode cX0_nearestTurn 39 = .ok (.istore_n 2, 1) := by decide +kernel
theorem dX0_nearestTurn_40 : decode cX0_nearestTurn 40 = .ok (.iinc 5 1, 3) := by decide +kernel
theorem dX0_nearestTurn_43 : decode cX0_nearestTurn 43 = .ok (.goto (-31), 3) := by decide +kernel
theorem dX0_nearestTurn_46 : decode cX0_nearestTurn 46 = .ok (.iload_n 2, 1) := by decide +kernel
theorem dX0_nearestTurn_47 : decode cX0_nearestTurn 47 = .ok (.ireturn, 1) := by decide +kernel
theorem dX0_turnedX_0 : decode cX0_turnedX 0 = .ok (.iload_n 2, 1) := by decide +kernel
theorem dX0_turnedX_1 : decode cX0_turnedX 1 = .ok (.tableswitch 50 0 2 #[27, 34, 42], 27) := by decide +kernel
theorem dX0_turnedX_28 : decode cX0_turnedX 28 = .ok (.aload_n 0, 1) := by decide +kernel
theorem dX0_turnedX_29 : decode cX0_turnedX 29 = .ok (.getfield 9, 3) := by decide +kernel
theorem dX0_turnedX_32 : decode cX0_turnedX 32 = .ok (.iload_n 1, 1) := by decide +kernel
theorem dX0_turnedX_33 : decode cX0_turnedX 33 = .ok (.daload, 1) := by decide +kernel
theorem dX0_turnedX_34 : decode cX0_turnedX 34 = .ok (.dreturn, 1) := by decide +kernel
theorem dX0_turnedX_35 : decode cX0_turnedX 35 = .ok (.aload_n 0, 1) := by decide +kernel
theorem dX0_turnedX_36 : decode cX0_turnedX 36 = .ok (.getfield 15, 3) := by decide +kernel
theorem dX0_turnedX_39 : decode cX0_turnedX 39 = .ok (.iload_n 1, 1) := by decide +kernel
theorem dX0_turnedX_40 : decode cX0_turnedX 40 = .ok (.daload, 1) := by decide +kernel
theorem dX0_turnedX_41 : decode cX0_turnedX 41 = .ok (.dneg, 1) := by decide +kernel
theorem dX0_turnedX_42 : decode cX0_turnedX 42 = .ok (.dreturn, 1) := by decide +kernel
theorem dX0_turnedX_43 : decode cX0_turnedX 43 = .ok (.aload_n 0, 1) := by decide +kernel
theorem dX0_turnedX_44 : decode cX0_turnedX 44 = .ok (.getfield 9, 3) := by decide +kernel
theorem dX0_turnedX_47 : decode cX0_turnedX 47 = .ok (.iload_n 1, 1) := by decide +kernel
theorem dX0_turnedX_48 : decode cX0_turnedX 48 = .ok (.daload, 1) := by decide +kernel
theorem dX0_turnedX_49 : decode cX0_turnedX 49 = .ok (.dneg, 1) := by decide +kernel
theorem dX0_turnedX_50 : decode cX0_turnedX 50 = .ok (.dreturn, 1) := by decide +kernel
theorem dX0_turnedX_51 : decode cX0_turnedX 51 = .ok (.aload_n 0, 1) := by decide +kernel
theorem dX0_turnedX_52 : decode cX0_turnedX 52 = .ok (.getfield 15, 3) := by decide +kernel
theorem dX0_turnedX_55 : decode cX0_turnedX 55 = .ok (.iload_n 1, 1) := by decide +kernel
theorem dX0_turnedX_56 : decode cX0_turnedX 56 = .ok (.daload, 1) := by decide +kernel
theorem dX0_turnedX_57 : decode cX0_turnedX 57 = .ok (.dreturn, 1) := by decide +kernel
theorem dX0_turnedY_0 : decode cX0_turnedY 0 = .ok (.iload_n 2, 1) := by decide +kernel
theorem dX0_turnedY_1 : decode cX0_turnedY 1 = .ok (.tableswitch 49 0 2 #[27, 34, 41], 27) := by decide +kernel
theorem dX0_turnedY_28 : decode cX0_turnedY 28 = .ok (.aload_n 0, 1) := by decide +kernel
theorem dX0_turnedY_29 : decode cX0_turnedY 29 = .ok (.getfield 15, 3) := by decide +kernel
theorem dX0_turnedY_32 : decode cX0_turnedY 32 = .ok (.iload_n 1, 1) := by decide +kernel
theorem dX0_turnedY_33 : decode cX0_turnedY 33 = .ok (.daload, 1) := by decide +kernel
theorem dX0_turnedY_34 : decode cX0_turnedY 34 = .ok (.dreturn, 1) := by decide +kernel
theorem dX0_turnedY_35 : decode cX0_turnedY 35 = .ok (.aload_n 0, 1) := by decide +kernel
theorem dX0_turnedY_36 : decode cX0_turnedY 36 = .ok (.getfield 9, 3) := by decide +kernel
theorem dX0_turnedY_39 : decode cX0_turnedY 39 = .ok (.iload_n 1, 1) := by decide +kernel
theorem dX0_turnedY_40 : decode cX0_turnedY 40 = .ok (.daload, 1) := by decide +kernel
theorem dX0_turnedY_41 : decode cX0_turnedY 41 = .ok (.dreturn, 1) := by decide +kernel
theorem dX0_turnedY_42 : decode cX0_turnedY 42 = .ok (.aload_n 0, 1) := by decide +kernel
theorem dX0_turnedY_43 : decode cX0_turnedY 43 = .ok (.getfield 15, 3) := by decide +kernel
theorem dX0_turnedY_46 : decode cX0_turnedY 46 = .ok (.iload_n 1, 1) := by decide +kernel
theorem dX0_turnedY_47 : decode cX0_turnedY 47 = .ok (.daload, 1) := by decide +kernel
theorem dX0_turnedY_48 : decode cX0_turnedY 48 = .ok (.dneg, 1) := by decide +kernel
theorem dX0_turnedY_49 : decode cX0_turnedY 49 = .ok (.dreturn, 1) := by decide +kernel
theorem dX0_turnedY_50 : decode cX0_turnedY 50 = .ok (.aload_n 0, 1) := by decide +kernel
theorem dX0_turnedY_51 : decode cX0_turnedY 51 = .ok (.getfield 9, 3) := by decide +kernel
theorem dX0_turnedY_54 : decode cX0_turnedY 54 = .ok (.iload_n 1, 1) := by decide +kernel
theorem dX0_turnedY_55 : decode cX0_turnedY 55 = .ok (.daload, 1) := by decide +kernel
theorem dX0_turnedY_56 : decode cX0_turnedY 56 = .ok (.dneg, 1) := by decide +kernel
theorem dX0_turnedY_57 : decode cX0_turnedY 57 = .ok (.dreturn, 1) := by decide +kernel
theorem dX1_init_0 : decode cX1_init 0 = .ok (.aload_n 0, 1) := by decide +kernel
theorem dX1_init_1 : decode cX1_init 1 = .ok (.invokespecial 3, 3) := by decide +kernel
theorem dX1_init_4 : decode cX1_init 4 = .ok (.aload_n 0, 1) := by decide +kernel
theorem dX1_init_5 : decode cX1_init 5 = .ok (.bipush 6, 2) := by decide +kernel
theorem dX1_init_7 : decode cX1_init 7 = .ok (.newarray .int, 2) := by decide +kernel
theorem dX1_init_9 : decode cX1_init 9 = .ok (.putfield 9, 3) := by decide +kernel
theorem dX1_init_12 : decode cX1_init 12 = .ok (.aload_n 0, 1) := by decide +kernel
theorem dX1_init_13 : decode cX1_init 13 = .ok (.bipush 6, 2) := by decide +kernel
theorem dX1_init_15 : decode cX1_init 15 = .ok (.newarray .double, 2) := by decide +kernel
theorem dX1_init_17 : decode cX1_init 17 = .ok (.putfield 15, 3) := by decide +kernel
theorem dX1_init_20 : decode cX1_init 20 = .ok (.aload_n 0, 1) := by decide +kernel
theorem dX1_init_21 : decode cX1_init 21 = .ok (.bipush 6, 2) := by decide +kernel
theorem dX1_init_23 : decode cX1_init 23 = .ok (.newarray .int, 2) := by decide +kernel
theorem dX1_init_25 : decode cX1_init 25 = .ok (.putfield 19, 3) := by decide +kernel
theorem dX1_init_28 : decode cX1_init 28 = .ok (.return_, 1) := by decide +kernel
theorem dX1_isFull_0 : decode cX1_isFull 0 = .ok (.aload_n 0, 1) := by decide +kernel
theorem dX1_isFull_1 : decode cX1_isFull 1 = .ok (.getfield 22, 3) := by decide +kernel
theorem dX1_isFull_4 : decode cX1_isFull 4 = .ok (.bipush 6, 2) := by decide +kernel
theorem dX1_isFull_6 : decode cX1_isFull 6 = .ok (.if_icmp .lt 7, 3) := by decide +kernel
theorem dX1_isFull_9 : decode cX1_isFull 9 = .ok (.iconst 1, 1) := by decide +kernel
theorem dX1_isFull_10 : decode cX1_isFull 10 = .ok (.goto 4, 3) := by decide +kernel
theorem dX1_isFull_13 : decode cX1_isFull 13 = .ok (.iconst 0, 1) := by decide +kernel
theorem dX1_isFull_14 : decode cX1_isFull 14 = .ok (.ireturn, 1) := by decide +kernel
theorem dX1_addOne_0 : decode cX1_addOne 0 = .ok (.aload_n 0, 1) := by decide +kernel
theorem dX1_addOne_1 : decode cX1_addOne 1 = .ok (.getfield 9, 3) := by decide +kernel
theorem dX1_addOne_4 : decode cX1_addOne 4 = .ok (.aload_n 0, 1) := by decide +kernel
theorem dX1_addOne_5 : decode cX1_addOne 5 = .ok (.getfield 22, 3) := by decide +kernel
theorem dX1_addOne_8 : decode cX1_addOne 8 = .ok (.iload_n 1, 1) := by decide +kernel
theorem dX1_addOne_9 : decode cX1_addOne 9 = .ok (.iastore, 1) := by decide +kernel
theorem dX1_addOne_10 : decode cX1_addOne 10 = .ok (.aload_n 0, 1) := by decide +kernel
theorem dX1_addOne_11 : decode cX1_addOne 11 = .ok (.getfield 15, 3) := by decide +kernel
theorem dX1_addOne_14 : decode cX1_addOne 14 = .ok (.aload_n 0, 1) := by decide +kernel
theorem dX1_addOne_15 : decode cX1_addOne 15 = .ok (.getfield 22, 3) := by decide +kernel
theorem dX1_addOne_18 : decode cX1_addOne 18 = .ok (.dload_n 2, 1) := by decide +kernel
theorem dX1_addOne_19 : decode cX1_addOne 19 = .ok (.dastore, 1) := by decide +kernel
theorem dX1_addOne_20 : decode cX1_addOne 20 = .ok (.aload_n 0, 1) := by decide +kernel
theorem dX1_addOne_21 : decode cX1_addOne 21 = .ok (.getfield 19, 3) := by decide +kernel
theorem dX1_addOne_24 : decode cX1_addOne 24 = .ok (.aload_n 0, 1) := by decide +kernel
theorem dX1_addOne_25 : decode cX1_addOne 25 = .ok (.getfield 22, 3) := by decide +kernel
theorem dX1_addOne_28 : decode cX1_addOne 28 = .ok (.iload 4, 2) := by decide +kernel
theorem dX1_addOne_30 : decode cX1_addOne 30 = .ok (.iastore, 1) := by decide +kernel
theorem dX1_addOne_31 : decode cX1_addOne 31 = .ok (.aload_n 0, 1) := by decide +kernel
theorem dX1_addOne_32 : decode cX1_addOne 32 = .ok (.dup, 1) := by decide +kernel
theorem dX1_addOne_33 : decode cX1_addOne 33 = .ok (.getfield 22, 3) := by decide +kernel
theorem dX1_addOne_36 : decode cX1_addOne 36 = .ok (.iconst 1, 1) := by decide +kernel
theorem dX1_addOne_37 : decode cX1_addOne 37 = .ok (.iadd, 1) := by decide +kernel
theorem dX1_addOne_38 : decode cX1_addOne 38 = .ok (.putfield 22, 3) := by decide +kernel
theorem dX1_addOne_41 : decode cX1_addOne 41 = .ok (.aload_n 0, 1) := by decide +kernel
theorem dX1_addOne_42 : decode cX1_addOne 42 = .ok (.getfield 22, 3) := by decide +kernel
theorem dX1_addOne_45 : decode cX1_addOne 45 = .ok (.ireturn, 1) := by decide +kernel
set_option maxRecDepth 20000 in
theorem ggX1_classOf_X1_holds : GoodIn wsX1_classOf wsX1_holds := goodIn_r _ [8, 9, 10, 11, 12, 13, 14, 15, 16, 17, 18, 19, 20, 21, 22, 23, 24, 25, 26, 27, 28, 29, 30, 31, 32, 33, 34, 35, 36, 37, 38, 43, 44, 45, 46, 47, 48, 49] (by decide +kernel) (by decide +kernel)
set_option maxRecDepth 20000 in
theorem gX1_classOf_X1_holds : GoodIn wsX1_classOf (va_wsS RX1 26 yX1_holds wsX1_holds) := goodIn_app (goodIn_of _ (by decide +kernel)) ggX1_classOf_X1_holds
theorem dX1_classOf_0 : decode cX1_classOf 0 = .ok (.iconst 0, 1) := by decide +kernel
theorem dX1_classOf_1 : decode cX1_classOf 1 = .ok (.istore_n 2, 1) := by decide +kernel
theorem dX1_classOf_2 : decode cX1_classOf 2 = .ok (.iload_n 2, 1) := by decide +kernel
theorem dX1_classOf_3 : decode cX1_classOf 3 = .ok (.aload_n 0, 1) := by decide +kernel
theorem dX1_classOf_4 : decode cX1_classOf 4 = .ok (.getfield 22, 3) := by decide +kernel
theorem dX1_classOf_7 : decode cX1_classOf 7 = .ok (.if_icmp .ge 35, 3) := by decide +kernel
theorem dX1_classOf_10 : decode cX1_classOf 10 = .ok (.aload_n 1, 1) := by decide +kernel
theorem dX1_classOf_11 : decode cX1_classOf 11 = .ok (.aload_n 0, 1) := by decide +kernel
theorem dX1_classOf_12 : decode cX1_classOf 12 = .ok (.getfield 9, 3) := by decide +kernel
theorem dX1_classOf_15 : decode cX1_classOf 15 = .ok (.iload_n 2, 1) := by decide +kernel
theorem dX1_classOf_16 : decode cX1_classOf 16 = .ok (.iaload, 1) := by decide +kernel
theorem dX1_classOf_17 : decode cX1_classOf 17 = .ok (.aload_n 0, 1) := by decide +kernel
theorem dX1_classOf_18 : decode cX1_classOf 18 = .ok (.getfield 15, 3) := by decide +kernel
theorem dX1_classOf_21 : decode cX1_classOf 21 = .ok (.iload_n 2, 1) := by decide +kernel
theorem dX1_classOf_22 : decode cX1_classOf 22 = .ok (.daload, 1) := by decide +kernel
theorem dX1_classOf_23 : decode cX1_classOf 23 = .ok (.invokestatic 26, 3) := by decide +kernel
theorem dX1_classOf_26 : decode cX1_classOf 26 = .ok (.ifCond .eq 10, 3) := by decide +kernel
theorem dX1_classOf_29 : decode cX1_classOf 29 = .ok (.aload_n 0, 1) := by decide +kernel
theorem dX1_classOf_30 : decode cX1_classOf 30 = .ok (.getfield 19, 3) := by decide +kernel
theorem dX1_classOf_33 : decode cX1_classOf 33 = .ok (.iload_n 2, 1) := by decide +kernel
theorem dX1_classOf_34 : decode cX1_classOf 34 = .ok (.iaload, 1) := by decide +kernel
theorem dX1_classOf_35 : decode cX1_classOf 35 = .ok (.ireturn, 1) := by decide +kernel
theorem dX1_classOf_36 : decode cX1_classOf 36 = .ok (.iinc 2 1, 3) := by decide +kernel
theorem dX1_classOf_39 : decode cX1_classOf 39 = .ok (.goto (-37), 3) := by decide +kernel
theorem dX1_classOf_42 : decode cX1_classOf 42 = .ok (.iconst (-1), 1) := by decide +kernel
theorem dX1_classOf_43 : decode cX1_classOf 43 = .ok (.ireturn, 1) := by decide +kernel
set_option maxRecDepth 20000 in
theorem ggX1_holds_X3_greatestBend : GoodIn wsX1_holds wsX3_greatestBend := goodIn_r _ [5, 6, 7, 8, 9, 10, 11, 4, 12, 31, 32, 33, 34, 35, 36, 37] (by decide +kernel) (by decide +kernel)
set_option maxRecDepth 20000 in
theorem gX1_holds_X3_greatestBend : GoodIn wsX1_holds (wsV RX1 30 RX3 yX3_greatestBend wsX3_greatestBend) := goodIn_app (goodIn_of _ (by decide +kernel)) ggX1_holds_X3_greatestBend
set_option maxRecDepth 20000 in
theorem ggX1_holds_X3_thinning : GoodIn wsX1_holds wsX3_thinning := goodIn_r _ [16, 6, 17, 31, 32, 33, 34, 35, 36, 37] (by decide +kernel) (by decide +kernel)
set_option maxRecDepth 20000 in
theorem gX1_holds_X3_thinning : GoodIn wsX1_holds (wsV RX1 36 RX3 yX3_thinning wsX3_thinning) := goodIn_app (goodIn_of _ (by decide +kernel)) ggX1_holds_X3_thinning
set_option maxRecDepth 20000 in
theorem ggX1_holds_X3_lastRadius : GoodIn wsX1_holds wsX3_lastRadius := goodIn_r _ [21, 17, 6, 31, 32, 33, 34, 35, 36, 37] (by decide +kernel) (by decide +kernel)
set_option maxRecDepth 20000 in
theorem gX1_holds_X3_lastRadius : GoodIn wsX1_holds (wsV RX1 39 RX3 yX3_lastRadius wsX3_lastRadius) := goodIn_app (goodIn_of _ (by decide +kernel)) ggX1_holds_X3_lastRadius
set_option maxRecDepth 20000 in
theorem ggX1_holds_X3_sumOfAreas : GoodIn wsX1_holds wsX3_sumOfAreas := goodIn_r _ [25, 6, 26, 27, 28, 4, 29, 30, 17, 31, 32, 33, 34, 35, 36, 37] (by decide +kernel) (by decide +kernel)
set_option maxRecDepth 20000 in
theorem gX1_holds_X3_sumOfAreas : GoodIn wsX1_holds (wsV RX1 42 RX3 yX3_sumOfAreas wsX3_sumOfAreas) := goodIn_app (goodIn_of _ (by decide +kernel)) ggX1_holds_X3_sumOfAreas
theorem dX1_holds_0 : decode cX1_holds 0 = .ok (.iload_n 1, 1) := by decide +kernel
theorem dX1_holds_1 : decode cX1_holds 1 = .ok (.tableswitch 91 0 3 #[31, 46, 61, 76], 31) := by decide +kernel
theorem dX1_holds_32 : decode cX1_holds 32 = .ok (.aload_n 0, 1) := by decide +kernel
theorem dX1_holds_33 : decode cX1_holds 33 = .ok (.invokevirtual 30, 3) := by decide +kernel
theorem dX1_holds_36 : decode cX1_holds 36 = .ok (.dload_n 2, 1) := by decide +kernel
theorem dX1_holds_37 : decode cX1_holds 37 = .ok (.dcmp .g, 1) := by decide +kernel
theorem dX1_holds_38 : decode cX1_holds 38 = .ok (.ifCond .gt 7, 3) := by decide +kernel
theorem dX1_holds_41 : decode cX1_holds 41 = .ok (.iconst 1, 1) := by decide +kernel
theorem dX1_holds_42 : decode cX1_holds 42 = .ok (.goto 4, 3) := by decide +kernel
theorem dX1_holds_45 : decode cX1_holds 45 = .ok (.iconst 0, 1) := by decide +kernel
theorem dX1_holds_46 : decode cX1_holds 46 = .ok (.ireturn, 1) := by decide +kernel
theorem dX1_holds_47 : decode cX1_holds 47 = .ok (.aload_n 0, 1) := by decide +kernel
theorem dX1_holds_48 : decode cX1_holds 48 = .ok (.invokevirtual 36, 3) := by decide +kernel
theorem dX1_holds_51 : decode cX1_holds 51 = .ok (.dload_n 2, 1) := by decide +kernel
theorem dX1_holds_52 : decode cX1_holds 52 = .ok (.dcmp .g, 1) := by decide +kernel
theorem dX1_holds_53 : decode cX1_holds 53 = .ok (.ifCond .gt 7, 3) := by decide +kernel
theorem dX1_holds_56 : decode cX1_holds 56 = .ok (.iconst 1, 1) := by decide +kernel
theorem dX1_holds_57 : decode cX1_holds 57 = .ok (.goto 4, 3) := by decide +kernel
theorem dX1_holds_60 : decode cX1_holds 60 = .ok (.iconst 0, 1) := by decide +kernel
theorem dX1_holds_61 : decode cX1_holds 61 = .ok (.ireturn, 1) := by decide +kernel
theorem dX1_holds_62 : decode cX1_holds 62 = .ok (.aload_n 0, 1) := by decide +kernel
theorem dX1_holds_63 : decode cX1_holds 63 = .ok (.invokevirtual 39, 3) := by decide +kernel
theorem dX1_holds_66 : decode cX1_holds 66 = .ok (.dload_n 2, 1) := by decide +kernel
theorem dX1_holds_67 : decode cX1_holds 67 = .ok (.dcmp .l, 1) := by decide +kernel
theorem dX1_holds_68 : decode cX1_holds 68 = .ok (.ifCond .lt 7, 3) := by decide +kernel
theorem dX1_holds_71 : decode cX1_holds 71 = .ok (.iconst 1, 1) := by decide +kernel
theorem dX1_holds_72 : decode cX1_holds 72 = .ok (.goto 4, 3) := by decide +kernel
theorem dX1_holds_75 : decode cX1_holds 75 = .ok (.iconst 0, 1) := by decide +kernel
theorem dX1_holds_76 : decode cX1_holds 76 = .ok (.ireturn, 1) := by decide +kernel
theorem dX1_holds_77 : decode cX1_holds 77 = .ok (.aload_n 0, 1) := by decide +kernel
theorem dX1_holds_78 : decode cX1_holds 78 = .ok (.invokevirtual 42, 3) := by decide +kernel
theorem dX1_holds_81 : decode cX1_holds 81 = .ok (.dload_n 2, 1) := by decide +kernel
theorem dX1_holds_82 : decode cX1_holds 82 = .ok (.dcmp .l, 1) := by decide +kernel
theorem dX1_holds_83 : decode cX1_holds 83 = .ok (.ifCond .lt 7, 3) := by decide +kernel
theorem dX1_holds_86 : decode cX1_holds 86 = .ok (.iconst 1, 1) := by decide +kernel
theorem dX1_holds_87 : decode cX1_holds 87 = .ok (.goto 4, 3) := by decide +kernel
theorem dX1_holds_90 : decode cX1_holds 90 = .ok (.iconst 0, 1) := by decide +kernel
theorem dX1_holds_91 : decode cX1_holds 91 = .ok (.ireturn, 1) := by decide +kernel
theorem dX1_holds_92 : decode cX1_holds 92 = .ok (.aload_n 0, 1) := by decide +kernel
theorem dX1_holds_93 : decode cX1_holds 93 = .ok (.getfield 45, 3) := by decide +kernel
theorem dX1_holds_96 : decode cX1_holds 96 = .ok (.i2d, 1) := by decide +kernel
theorem dX1_holds_97 : decode cX1_holds 97 = .ok (.dload_n 2, 1) := by decide +kernel
theorem dX1_holds_98 : decode cX1_holds 98 = .ok (.dcmp .g, 1) := by decide +kernel
theorem dX1_holds_99 : decode cX1_holds 99 = .ok (.ifCond .gt 7, 3) := by decide +kernel
theorem dX1_holds_102 : decode cX1_holds 102 = .ok (.iconst 1, 1) := by decide +kernel
theorem dX1_holds_103 : decode cX1_holds 103 = .ok (.goto 4, 3) := by decide +kernel
theorem dX1_holds_106 : decode cX1_holds 106 = .ok (.iconst 0, 1) := by decide +kernel
theorem dX1_holds_107 : decode cX1_holds 107 = .ok (.ireturn, 1) := by decide +kernel
set_option maxRecDepth 20000 in
theorem ggX2_init_X4_root : GoodIn wsX2_init wsX4_root := goodIn_r _ [15, 16] (by decide +kernel) (by decide +kernel)
set_option maxRecDepth 20000 in
theorem gX2_init_X4_root_n33 : GoodIn wsX2_init (wsX4_root) := ggX2_init_X4_root
theorem dX2_init_0 : decode cX2_init 0 = .ok (.aload_n 0, 1) := by decide +kernel
theorem dX2_init_1 : decode cX2_init 1 = .ok (.invokespecial 1, 3) := by decide +kernel
theorem dX2_init_4 : decode cX2_init 4 = .ok (.aload_n 0, 1) := by decide +kernel
theorem dX2_init_5 : decode cX2_init 5 = .ok (.iload_n 2, 1) := by decide +kernel
theorem dX2_init_6 : decode cX2_init 6 = .ok (.putfield 7, 3) := by decide +kernel
theorem dX2_init_9 : decode cX2_init 9 = .ok (.aload_n 0, 1) := by decide +kernel
theorem dX2_init_10 : decode cX2_init 10 = .ok (.iload_n 2, 1) := by decide +kernel
theorem dX2_init_11 : decode cX2_init 11 = .ok (.newarray .double, 2) := by decide +kernel
theorem dX2_init_13 : decode cX2_init 13 = .ok (.putfield 13, 3) := by decide +kernel
theorem dX2_init_16 : decode cX2_init 16 = .ok (.aload_n 0, 1) := by decide +kernel
theorem dX2_init_17 : decode cX2_init 17 = .ok (.iload_n 2, 1) := by decide +kernel
theorem dX2_init_18 : decode cX2_init 18 = .ok (.newarray .double, 2) := by decide +kernel
theorem dX2_init_20 : decode cX2_init 20 = .ok (.putfield 17, 3) := by decide +kernel
theorem dX2_init_23 : decode cX2_init 23 = .ok (.aload_n 0, 1) := by decide +kernel
theorem dX2_init_24 : decode cX2_init 24 = .ok (.iload_n 2, 1) := by decide +kernel
theorem dX2_init_25 : decode cX2_init 25 = .ok (.newarray .double, 2) := by decide +kernel
theorem dX2_init_27 : decode cX2_init 27 = .ok (.putfield 20, 3) := by decide +kernel
theorem dX2_init_30 : decode cX2_init 30 = .ok (.aload_n 0, 1) := by decide +kernel
theorem dX2_init_31 : decode cX2_init 31 = .ok (.iload_n 1, 1) := by decide +kernel
theorem dX2_init_32 : decode cX2_init 32 = .ok (.iload_n 2, 1) := by decide +kernel
theorem dX2_init_33 : decode cX2_init 33 = .ok (.imul, 1) := by decide +kernel
theorem dX2_init_34 : decode cX2_init 34 = .ok (.newarray .boolean, 2) := by decide +kernel
theorem dX2_init_36 : decode cX2_init 36 = .ok (.putfield 23, 3) := by decide +kernel
theorem dX2_init_39 : decode cX2_init 39 = .ok (.aload_n 0, 1) := by decide +kernel
theorem dX2_init_40 : decode cX2_init 40 = .ok (.iload_n 1, 1) := by decide +kernel
theorem dX2_init_41 : decode cX2_init 41 = .ok (.iload_n 2, 1) := by decide +kernel
theorem dX2_init_42 : decode cX2_init 42 = .ok (.imul, 1) := by decide +kernel
theorem dX2_init_43 : decode cX2_init 43 = .ok (.newarray .double, 2) := by decide +kernel
theorem dX2_init_45 : decode cX2_init 45 = .ok (.putfield 27, 3) := by decide +kernel
theorem dX2_init_48 : decode cX2_init 48 = .ok (.aload_n 0, 1) := by decide +kernel
theorem dX2_init_49 : decode cX2_init 49 = .ok (.iload_n 1, 1) := by decide +kernel
theorem dX2_init_50 : decode cX2_init 50 = .ok (.iload_n 2, 1) := by decide +kernel
theorem dX2_init_51 : decode cX2_init 51 = .ok (.imul, 1) := by decide +kernel
theorem dX2_init_52 : decode cX2_init 52 = .ok (.newarray .double, 2) := by decide +kernel
theorem dX2_init_54 : decode cX2_init 54 = .ok (.putfield 30, 3) := by decide +kernel
theorem dX2_init_57 : decode cX2_init 57 = .ok (.iconst 0, 1) := by decide +kernel
theorem dX2_init_58 : decode cX2_init 58 = .ok (.istore_n 3, 1) := by decide +kernel
theorem dX2_init_59 : decode cX2_init 59 = .ok (.iload_n 3, 1) := by decide +kernel
theorem dX2_init_60 : decode cX2_init 60 = .ok (.iload_n 2, 1) := by decide +kernel
theorem dX2_init_61 : decode cX2_init 61 = .ok (.if_icmp .ge 26, 3) := by decide +kernel
theorem dX2_init_64 : decode cX2_init 64 = .ok (.aload_n 0, 1) := by decide +kernel
theorem dX2_init_65 : decode cX2_init 65 = .ok (.getfield 13, 3) := by decide +kernel
theorem dX2_init_68 : decode cX2_init 68 = .ok (.iload_n 3, 1) := by decide +kernel
theorem dX2_init_69 : decode cX2_init 69 = .ok (.dconst 1, 1) := by decide +kernel
theorem dX2_init_70 : decode cX2_init 70 = .ok (.dastore, 1) := by decide +kernel
theorem dX2_init_71 : decode cX2_init 71 = .ok (.aload_n 0, 1) := by decide +kernel
theorem dX2_init_72 : decode cX2_init 72 = .ok (.getfield 20, 3) := by decide +kernel
theorem dX2_init_75 : decode cX2_init 75 = .ok (.iload_n 3, 1) := by decide +kernel
theorem dX2_init_76 : decode cX2_init 76 = .ok (.dconst 1, 1) := by decide +kernel
theorem dX2_init_77 : decode cX2_init 77 = .ok (.invokestatic 33, 3) := by decide +kernel
theorem dX2_init_80 : decode cX2_init 80 = .ok (.dastore, 1) := by decide +kernel
theorem dX2_init_81 : decode cX2_init 81 = .ok (.iinc 3 1, 3) := by decide +kernel
theorem dX2_init_84 : decode cX2_init 84 = .ok (.goto (-25), 3) := by decide +kernel
theorem dX2_init_87 : decode cX2_init 87 = .ok (.return_, 1) := by decide +kernel
set_option maxRecDepth 20000 in
theorem ggX2_direct_X4_root : GoodIn wsX2_direct wsX4_root := goodIn_r _ [6, 7] (by decide +kernel) (by decide +kernel)
set_option maxRecDepth 20000 in
theorem gX2_direct_X4_root_n33 : GoodIn wsX2_direct (wsX4_root) := ggX2_direct_X4_root
theorem dX2_direct_0 : decode cX2_direct 0 = .ok (.aload_n 0, 1) := by decide +kernel
theorem dX2_direct_1 : decode cX2_direct 1 = .ok (.getfield 13, 3) := by decide +kernel
theorem dX2_direct_4 : decode cX2_direct 4 = .ok (.iload_n 1, 1) := by decide +kernel
theorem dX2_direct_5 : decode cX2_direct 5 = .ok (.dload_n 2, 1) := by decide +kernel
theorem dX2_direct_6 : decode cX2_direct 6 = .ok (.dastore, 1) := by decide +kernel
theorem dX2_direct_7 : decode cX2_direct 7 = .ok (.aload_n 0, 1) := by decide +kernel
theorem dX2_direct_8 : decode cX2_direct 8 = .ok (.getfield 17, 3) := by decide +kernel
theorem dX2_direct_11 : decode cX2_direct 11 = .ok (.iload_n 1, 1) := by decide +kernel
theorem dX2_direct_12 : decode cX2_direct 12 = .ok (.dload 4, 2) := by decide +kernel
theorem dX2_direct_14 : decode cX2_direct 14 = .ok (.dastore, 1) := by decide +kernel
theorem dX2_direct_15 : decode cX2_direct 15 = .ok (.aload_n 0, 1) := by decide +kernel
theorem dX2_direct_16 : decode cX2_direct 16 = .ok (.getfield 20, 3) := by decide +kernel
theorem dX2_direct_19 : decode cX2_direct 19 = .ok (.iload_n 1, 1) := by decide +kernel
theorem dX2_direct_20 : decode cX2_direct 20 = .ok (.dload_n 2, 1) := by decide +kernel
theorem dX2_direct_21 : decode cX2_direct 21 = .ok (.dload_n 2, 1) := by decide +kernel
theorem dX2_direct_22 : decode cX2_direct 22 = .ok (.dmul, 1) := by decide +kernel
theorem dX2_direct_23 : decode cX2_direct 23 = .ok (.dload 4, 2) := by decide +kernel
theorem dX2_direct_25 : decode cX2_direct 25 = .ok (.dload 4, 2) := by decide +kernel
theorem dX2_direct_27 : decode cX2_direct 27 = .ok (.dmul, 1) := by decide +kernel
theorem dX2_direct_28 : decode cX2_direct 28 = .ok (.dadd, 1) := by decide +kernel
theorem dX2_direct_29 : decode cX2_direct 29 = .ok (.invokestatic 33, 3) := by decide +kernel
theorem dX2_direct_32 : decode cX2_direct 32 = .ok (.dastore, 1) := by decide +kernel
theorem dX2_direct_33 : decode cX2_direct 33 = .ok (.return_, 1) := by decide +kernel
set_option maxRecDepth 20000 in
theorem ggX2_cast_X2_place : GoodIn wsX2_cast wsX2_place := goodIn_r _ [9, 10, 11, 12, 13, 14, 15, 16, 17] (by decide +kernel) (by decide +kernel)
set_option maxRecDepth 20000 in
theorem gX2_cast_X2_place : GoodIn wsX2_cast (wsV RX2 39 RX2 yX2_place wsX2_place) := goodIn_app (goodIn_of _ (by decide +kernel)) ggX2_cast_X2_place
theorem dX2_cast_0 : decode cX2_cast 0 = .ok (.aload_n 0, 1) := by decide +kernel
theorem dX2_cast_1 : decode cX2_cast 1 = .ok (.iload_n 1, 1) := by decide +kernel
theorem dX2_cast_2 : decode cX2_cast 2 = .ok (.iload_n 2, 1) := by decide +kernel
theorem dX2_cast_3 : decode cX2_cast 3 = .ok (.invokevirtual 39, 3) := by decide +kernel
theorem dX2_cast_6 : decode cX2_cast 6 = .ok (.istore 7, 2) := by decide +kernel
theorem dX2_cast_8 : decode cX2_cast 8 = .ok (.aload_n 0, 1) := by decide +kernel
theorem dX2_cast_9 : decode cX2_cast 9 = .ok (.getfield 23, 3) := by decide +kernel
theorem dX2_cast_12 : decode cX2_cast 12 = .ok (.iload 7, 2) := by decide +kernel
theorem dX2_cast_14 : decode cX2_cast 14 = .ok (.iconst 1, 1) := by decide +kernel
theorem dX2_cast_15 : decode cX2_cast 15 = .ok (.bastore, 1) := by decide +kernel
theorem dX2_cast_16 : decode cX2_cast 16 = .ok (.aload_n 0, 1) := by decide +kernel
theorem dX2_cast_17 : decode cX2_cast 17 = .ok (.getfield 27, 3) := by decide +kernel
theorem dX2_cast_20 : decode cX2_cast 20 = .ok (.iload 7, 2) := by decide +kernel
theorem dX2_cast_22 : decode cX2_cast 22 = .ok (.dload_n 3, 1) := by decide +kernel
theorem dX2_cast_23 : decode cX2_cast 23 = .ok (.dload 5, 2) := by decide +kernel
theorem dX2_cast_25 : decode cX2_cast 25 = .ok (.dadd, 1) := by decide +kernel
theorem dX2_cast_26 : decode cX2_cast 26 = .ok (.ldc2_w 43, 3) := by decide +kernel
theorem dX2_cast_29 : decode cX2_cast 29 = .ok (.ddiv, 1) := by decide +kernel
theorem dX2_cast_30 : decode cX2_cast 30 = .ok (.dastore, 1) := by decide +kernel
theorem dX2_cast_31 : decode cX2_cast 31 = .ok (.aload_n 0, 1) := by decide +kernel
theorem dX2_cast_32 : decode cX2_cast 32 = .ok (.getfield 30, 3) := by decide +kernel
theorem dX2_cast_35 : decode cX2_cast 35 = .ok (.iload 7, 2) := by decide +kernel
theorem dX2_cast_37 : decode cX2_cast 37 = .ok (.dload 5, 2) := by decide +kernel
theorem dX2_cast_39 : decode cX2_cast 39 = .ok (.dload_n 3, 1) := by decide +kernel
theorem dX2_cast_40 : decode cX2_cast 40 = .ok (.dsub, 1) := by decide +kernel
theorem dX2_cast_41 : decode cX2_cast 41 = .ok (.ldc2_w 43, 3) := by decide +kernel
theorem dX2_cast_44 : decode cX2_cast 44 = .ok (.ddiv, 1) := by decide +kernel
theorem dX2_cast_45 : decode cX2_cast 45 = .ok (.dastore, 1) := by decide +kernel
theorem dX2_cast_46 : decode cX2_cast 46 = .ok (.return_, 1) := by decide +kernel
set_option maxRecDepth 20000 in
theorem ggX2_takeAway_X2_place : GoodIn wsX2_takeAway wsX2_place := goodIn_r _ [6, 7, 8, 9, 10, 11, 12, 13, 14] (by decide +kernel) (by decide +kernel)
set_option maxRecDepth 20000 in
theorem gX2_takeAway_X2_place : GoodIn wsX2_takeAway (wsV RX2 39 RX2 yX2_place wsX2_place) := goodIn_app (goodIn_of _ (by decide +kernel)) ggX2_takeAway_X2_place
theorem dX2_takeAway_0 : decode cX2_takeAway 0 = .ok (.aload_n 0, 1) := by decide +kernel
theorem dX2_takeAway_1 : decode cX2_takeAway 1 = .ok (.iload_n 1, 1) := by decide +kernel
theorem dX2_takeAway_2 : decode cX2_takeAway 2 = .ok (.iload_n 2, 1) := by decide +kernel
theorem dX2_takeAway_3 : decode cX2_takeAway 3 = .ok (.invokevirtual 39, 3) := by decide +kernel
theorem dX2_takeAway_6 : decode cX2_takeAway 6 = .ok (.istore_n 3, 1) := by decide +kernel
theorem dX2_takeAway_7 : decode cX2_takeAway 7 = .ok (.aload_n 0, 1) := by decide +kernel
theorem dX2_takeAway_8 : decode cX2_takeAway 8 = .ok (.getfield 23, 3) := by decide +kernel
theorem dX2_takeAway_11 : decode cX2_takeAway 11 = .ok (.iload_n 3, 1) := by decide +kernel
theorem dX2_takeAway_12 : decode cX2_takeAway 12 = .ok (.baload, 1) := by decide +kernel
theorem dX2_takeAway_13 : decode cX2_takeAway 13 = .ok (.istore 4, 2) := by decide +kernel
theorem dX2_takeAway_15 : decode cX2_takeAway 15 = .ok (.aload_n 0, 1) := by decide +kernel
theorem dX2_takeAway_16 : decode cX2_takeAway 16 = .ok (.getfield 23, 3) := by decide +kernel
theorem dX2_takeAway_19 : decode cX2_takeAway 19 = .ok (.iload_n 3, 1) := by decide +kernel
theorem dX2_takeAway_20 : decode cX2_takeAway 20 = .ok (.iconst 0, 1) := by decide +kernel
theorem dX2_takeAway_21 : decode cX2_takeAway 21 = .ok (.bastore, 1) := by decide +kernel
theorem dX2_takeAway_22 : decode cX2_takeAway 22 = .ok (.iload 4, 2) := by decide +kernel
theorem dX2_takeAway_24 : decode cX2_takeAway 24 = .ok (.ireturn, 1) := by decide +kernel
set_option maxRecDepth 20000 in
theorem ggX2_fitInto_X2_countOf : GoodIn wsX2_fitInto wsX2_countOf := goodIn_r _ [5, 6, 7, 8, 9, 10, 4, 11, 37, 38, 39, 40, 41, 42, 43] (by decide +kernel) (by decide +kernel)
set_option maxRecDepth 20000 in
theorem gX2_fitInto_X2_countOf : GoodIn wsX2_fitInto (wsV RX2 45 RX2 yX2_countOf wsX2_countOf) := goodIn_app (goodIn_of _ (by decide +kernel)) ggX2_fitInto_X2_countOf
set_option maxRecDepth 20000 in
theorem ggX2_fitInto_X2_fitCentre : GoodIn wsX2_fitInto wsX2_fitCentre := goodIn_r _ [15, 6, 7, 16, 17, 18, 19, 8, 9, 10, 4, 11, 37, 38, 39, 40, 41, 42, 43, 30, 31, 32, 33, 34, 35, 36] (by decide +kernel) (by decide +kernel)
set_option maxRecDepth 20000 in
theorem gX2_fitInto_X2_fitCentre : GoodIn wsX2_fitInto (wsV RX2 49 RX2 yX2_fitCentre wsX2_fitCentre) := goodIn_app (goodIn_of _ (by decide +kernel)) ggX2_fitInto_X2_fitCentre
set_option maxRecDepth 20000 in
theorem ggX2_fitInto_X2_sumOfRadii : GoodIn wsX2_fitInto wsX2_sumOfRadii := goodIn_r _ [23, 6, 7, 24, 25, 8, 9, 10, 4, 11, 37, 38, 39, 40, 41, 42, 43] (by decide +kernel) (by decide +kernel)
set_option maxRecDepth 20000 in
theorem gX2_fitInto_X2_sumOfRadii : GoodIn wsX2_fitInto (wsV RX2 58 RX2 yX2_sumOfRadii wsX2_sumOfRadii) := goodIn_app (goodIn_of _ (by decide +kernel)) ggX2_fitInto_X2_sumOfRadii
set_option maxRecDepth 20000 in
theorem ggX2_fitInto_X2_sumOfErrors : GoodIn wsX2_fitInto wsX2_sumOfErrors := goodIn_r _ [29, 6, 7, 18, 16, 17, 8, 9, 10, 4, 11, 37, 38, 39, 40, 41, 42, 43] (by decide +kernel) (by decide +kernel)
set_option maxRecDepth 20000 in
theorem gX2_fitInto_X2_sumOfErrors : GoodIn wsX2_fitInto (wsV RX2 71 RX2 yX2_sumOfErrors wsX2_sumOfErrors) := goodIn_app (goodIn_of _ (by decide +kernel)) ggX2_fitInto_X2_sumOfErrors
theorem dX2_fitInto_0 : decode cX2_fitInto 0 = .ok (.aload_n 0, 1) := by decide +kernel
theorem dX2_fitInto_1 : decode cX2_fitInto 1 = .ok (.iload_n 2, 1) := by decide +kernel
theorem dX2_fitInto_2 : decode cX2_fitInto 2 = .ok (.invokevirtual 45, 3) := by decide +kernel
theorem dX2_fitInto_5 : decode cX2_fitInto 5 = .ok (.istore_n 3, 1) := by decide +kernel
theorem dX2_fitInto_6 : decode cX2_fitInto 6 = .ok (.iload_n 3, 1) := by decide +kernel
theorem dX2_fitInto_7 : decode cX2_fitInto 7 = .ok (.iconst 2, 1) := by decide +kernel
theorem dX2_fitInto_8 : decode cX2_fitInto 8 = .ok (.if_icmp .lt 12, 3) := by decide +kernel
theorem dX2_fitInto_11 : decode cX2_fitInto 11 = .ok (.aload_n 0, 1) := by decide +kernel
theorem dX2_fitInto_12 : decode cX2_fitInto 12 = .ok (.aload_n 1, 1) := by decide +kernel
theorem dX2_fitInto_13 : decode cX2_fitInto 13 = .ok (.iload_n 2, 1) := by decide +kernel
theorem dX2_fitInto_14 : decode cX2_fitInto 14 = .ok (.invokevirtual 49, 3) := by decide +kernel
theorem dX2_fitInto_17 : decode cX2_fitInto 17 = .ok (.ifCond .ne 5, 3) := by decide +kernel
theorem dX2_fitInto_20 : decode cX2_fitInto 20 = .ok (.iconst 0, 1) := by decide +kernel
theorem dX2_fitInto_21 : decode cX2_fitInto 21 = .ok (.ireturn, 1) := by decide +kernel
theorem dX2_fitInto_22 : decode cX2_fitInto 22 = .ok (.aload_n 1, 1) := by decide +kernel
theorem dX2_fitInto_23 : decode cX2_fitInto 23 = .ok (.getfield 53, 3) := by decide +kernel
theorem dX2_fitInto_26 : decode cX2_fitInto 26 = .ok (.iload_n 2, 1) := by decide +kernel
theorem dX2_fitInto_27 : decode cX2_fitInto 27 = .ok (.aload_n 0, 1) := by decide +kernel
theorem dX2_fitInto_28 : decode cX2_fitInto 28 = .ok (.iload_n 2, 1) := by decide +kernel
theorem dX2_fitInto_29 : decode cX2_fitInto 29 = .ok (.invokevirtual 58, 3) := by decide +kernel
theorem dX2_fitInto_32 : decode cX2_fitInto 32 = .ok (.iload_n 3, 1) := by decide +kernel
theorem dX2_fitInto_33 : decode cX2_fitInto 33 = .ok (.i2d, 1) := by decide +kernel
theorem dX2_fitInto_34 : decode cX2_fitInto 34 = .ok (.ddiv, 1) := by decide +kernel
theorem dX2_fitInto_35 : decode cX2_fitInto 35 = .ok (.dastore, 1) := by decide +kernel
theorem dX2_fitInto_36 : decode cX2_fitInto 36 = .ok (.aload_n 1, 1) := by decide +kernel
theorem dX2_fitInto_37 : decode cX2_fitInto 37 = .ok (.getfield 62, 3) := by decide +kernel
theorem dX2_fitInto_40 : decode cX2_fitInto 40 = .ok (.iload_n 2, 1) := by decide +kernel
theorem dX2_fitInto_41 : decode cX2_fitInto 41 = .ok (.aload_n 0, 1) := by decide +kernel
theorem dX2_fitInto_42 : decode cX2_fitInto 42 = .ok (.iload_n 2, 1) := by decide +kernel
theorem dX2_fitInto_43 : decode cX2_fitInto 43 = .ok (.aload_n 1, 1) := by decide +kernel
theorem dX2_fitInto_44 : decode cX2_fitInto 44 = .ok (.getfield 65, 3) := by decide +kernel
theorem dX2_fitInto_47 : decode cX2_fitInto 47 = .ok (.iload_n 2, 1) := by decide +kernel
theorem dX2_fitInto_48 : decode cX2_fitInto 48 = .ok (.daload, 1) := by decide +kernel
theorem dX2_fitInto_49 : decode cX2_fitInto 49 = .ok (.aload_n 1, 1) := by decide +kernel
theorem dX2_fitInto_50 : decode cX2_fitInto 50 = .ok (.getfield 68, 3) := by decide +kernel
theorem dX2_fitInto_53 : decode cX2_fitInto 53 = .ok (.iload_n 2, 1) := by decide +kernel
theorem dX2_fitInto_54 : decode cX2_fitInto 54 = .ok (.daload, 1) := by decide +kernel
theorem dX2_fitInto_55 : decode cX2_fitInto 55 = .ok (.invokevirtual 71, 3) := by decide +kernel
theorem dX2_fitInto_58 : decode cX2_fitInto 58 = .ok (.dastore, 1) := by decide +kernel
theorem dX2_fitInto_59 : decode cX2_fitInto 59 = .ok (.iconst 1, 1) := by decide +kernel
theorem dX2_fitInto_60 : decode cX2_fitInto 60 = .ok (.ireturn, 1) := by decide +kernel
theorem dX2_place_0 : decode cX2_place 0 = .ok (.iload_n 1, 1) := by decide +kernel
theorem dX2_place_1 : decode cX2_place 1 = .ok (.aload_n 0, 1) := by decide +kernel
theorem dX2_place_2 : decode cX2_place 2 = .ok (.getfield 7, 3) := by decide +kernel
theorem dX2_place_5 : decode cX2_place 5 = .ok (.imul, 1) := by decide +kernel
theorem dX2_place_6 : decode cX2_place 6 = .ok (.iload_n 2, 1) := by decide +kernel
theorem dX2_place_7 : decode cX2_place 7 = .ok (.iadd, 1) := by decide +kernel
theorem dX2_place_8 : decode cX2_place 8 = .ok (.ireturn, 1) := by decide +kernel
set_option maxRecDepth 20000 in
theorem ggX2_countOf_X2_place : GoodIn wsX2_countOf wsX2_place := goodIn_r _ [7, 1, 8, 9, 10, 11, 12, 13, 14] (by decide +kernel) (by decide +kernel)
set_option maxRecDepth 20000 in
theorem gX2_countOf_X2_place : GoodIn wsX2_countOf (wsV RX2 39 RX2 yX2_place wsX2_place) := goodIn_app (goodIn_of _ (by decide +kernel)) ggX2_countOf_X2_place
theorem dX2_countOf_0 : decode cX2_countOf 0 = .ok (.iconst 0, 1) := by decide +kernel
theorem dX2_countOf_1 : decode cX2_countOf 1 = .ok (.istore_n 2, 1) := by decide +kernel
theorem dX2_countOf_2 : decode cX2_countOf 2 = .ok (.iconst 0, 1) := by decide +kernel
theorem dX2_countOf_3 : decode cX2_countOf 3 = .ok (.istore_n 3, 1) := by decide +kernel
theorem dX2_countOf_4 : decode cX2_countOf 4 = .ok (.iload_n 3, 1) := by decide +kernel
theorem dX2_countOf_5 : decode cX2_countOf 5 = .ok (.aload_n 0, 1) := by decide +kernel
theorem dX2_countOf_6 : decode cX2_countOf 6 = .ok (.getfield 7, 3) := by decide +kernel
theorem dX2_countOf_9 : decode cX2_countOf 9 = .ok (.if_icmp .ge 26, 3) := by decide +kernel
theorem dX2_countOf_12 : decode cX2_countOf 12 = .ok (.aload_n 0, 1) := by decide +kernel
theorem dX2_countOf_13 : decode cX2_countOf 13 = .ok (.getfield 23, 3) := by decide +kernel
theorem dX2_countOf_16 : decode cX2_countOf 16 = .ok (.aload_n 0, 1) := by decide +kernel
theorem dX2_countOf_17 : decode cX2_countOf 17 = .ok (.iload_n 1, 1) := by decide +kernel
theorem dX2_countOf_18 : decode cX2_countOf 18 = .ok (.iload_n 3, 1) := by decide +kernel
theorem dX2_countOf_19 : decode cX2_countOf 19 = .ok (.invokevirtual 39, 3) := by decide +kernel
theorem dX2_countOf_22 : decode cX2_countOf 22 = .ok (.baload, 1) := by decide +kernel
theorem dX2_countOf_23 : decode cX2_countOf 23 = .ok (.ifCond .eq 6, 3) := by decide +kernel
theorem dX2_countOf_26 : decode cX2_countOf 26 = .ok (.iinc 2 1, 3) := by decide +kernel
theorem dX2_countOf_29 : decode cX2_countOf 29 = .ok (.iinc 3 1, 3) := by decide +kernel
theorem dX2_countOf_32 : decode cX2_countOf 32 = .ok (.goto (-28), 3) := by decide +kernel
theorem dX2_countOf_35 : decode cX2_countOf 35 = .ok (.iload_n 2, 1) := by decide +kernel
theorem dX2_countOf_36 : decode cX2_countOf 36 = .ok (.ireturn, 1) := by decide +kernel
set_option maxRecDepth 20000 in
theorem ggX2_fitCentre_X2_place : GoodIn wsX2_fitCentre wsX2_place := goodIn_r _ [11, 1, 12, 13, 14, 15, 16, 17, 18] (by decide +kernel) (by decide +kernel)
set_option maxRecDepth 20000 in
theorem gX2_fitCentre_X2_place : GoodIn wsX2_fitCentre (wsV RX2 39 RX2 yX2_place wsX2_place) := goodIn_app (goodIn_of _ (by decide +kernel)) ggX2_fitCentre_X2_place
theorem dX2_fitCentre_0 : decode cX2_fitCentre 0 = .ok (.dconst 0, 1) := by decide +kernel
theorem dX2_fitCentre_1 : decode cX2_fitCentre 1 = .ok (.dstore_n 3, 1) := by decide +kernel
theorem dX2_fitCentre_2 : decode cX2_fitCentre 2 = .ok (.dconst 0, 1) := by decide +kernel
theorem dX2_fitCentre_3 : decode cX2_fitCentre 3 = .ok (.dstore 5, 2) := by decide +kernel
theorem dX2_fitCentre_5 : decode cX2_fitCentre 5 = .ok (.dconst 0, 1) := by decide +kernel
theorem dX2_fitCentre_6 : decode cX2_fitCentre 6 = .ok (.dstore 7, 2) := by decide +kernel
theorem dX2_fitCentre_8 : decode cX2_fitCentre 8 = .ok (.dconst 0, 1) := by decide +kernel
theorem dX2_fitCentre_9 : decode cX2_fitCentre 9 = .ok (.dstore 9, 2) := by decide +kernel
theorem dX2_fitCentre_11 : decode cX2_fitCentre 11 = .ok (.dconst 0, 1) := by decide +kernel
theorem dX2_fitCentre_12 : decode cX2_fitCentre 12 = .ok (.dstore 11, 2) := by decide +kernel
theorem dX2_fitCentre_14 : decode cX2_fitCentre 14 = .ok (.iconst 0, 1) := by decide +kernel
theorem dX2_fitCentre_15 : decode cX2_fitCentre 15 = .ok (.istore 13, 2) := by decide +kernel
theorem dX2_fitCentre_17 : decode cX2_fitCentre 17 = .ok (.iload 13, 2) := by decide +kernel
theorem dX2_fitCentre_19 : decode cX2_fitCentre 19 = .ok (.aload_n 0, 1) := by decide +kernel
theorem dX2_fitCentre_20 : decode cX2_fitCentre 20 = .ok (.getfield 7, 3) := by decide +kernel
theorem dX2_fitCentre_23 : decode cX2_fitCentre 23 = .ok (.if_icmp .ge 126, 3) := by decide +kernel
theorem dX2_fitCentre_26 : decode cX2_fitCentre 26 = .ok (.aload_n 0, 1) := by decide +kernel
theorem dX2_fitCentre_27 : decode cX2_fitCentre 27 = .ok (.iload_n 2, 1) := by decide +kernel
theorem dX2_fitCentre_28 : decode cX2_fitCentre 28 = .ok (.iload 13, 2) := by decide +kernel
theorem dX2_fitCentre_30 : decode cX2_fitCentre 30 = .ok (.invokevirtual 39, 3) := by decide +kernel
theorem dX2_fitCentre_33 : decode cX2_fitCentre 33 = .ok (.istore 14, 2) := by decide +kernel
theorem dX2_fitCentre_35 : decode cX2_fitCentre 35 = .ok (.aload_n 0, 1) := by decide +kernel
theorem dX2_fitCentre_36 : decode cX2_fitCentre 36 = .ok (.getfield 23, 3) := by decide +kernel
theorem dX2_fitCentre_39 : decode cX2_fitCentre 39 = .ok (.iload 14, 2) := by decide +kernel
theorem dX2_fitCentre_41 : decode cX2_fitCentre 41 = .ok (.baload, 1) := by decide +kernel
theorem dX2_fitCentre_42 : decode cX2_fitCentre 42 = .ok (.ifCond .eq 101, 3) := by decide +kernel
theorem dX2_fitCentre_45 : decode cX2_fitCentre 45 = .ok (.dload_n 3, 1) := by decide +kernel
theorem dX2_fitCentre_46 : decode cX2_fitCentre 46 = .ok (.aload_n 0, 1) := by decide +kernel
theorem dX2_fitCentre_47 : decode cX2_fitCentre 47 = .ok (.getfield 13, 3) := by decide +kernel
theorem dX2_fitCentre_50 : decode cX2_fitCentre 50 = .ok (.iload 13, 2) := by decide +kernel
theorem dX2_fitCentre_52 : decode cX2_fitCentre 52 = .ok (.daload, 1) := by decide +kernel
theorem dX2_fitCentre_53 : decode cX2_fitCentre 53 = .ok (.aload_n 0, 1) := by decide +kernel
theorem dX2_fitCentre_54 : decode cX2_fitCentre 54 = .ok (.getfield 13, 3) := by decide +kernel
theorem dX2_fitCentre_57 : decode cX2_fitCentre 57 = .ok (.iload 13, 2) := by decide +kernel
theorem dX2_fitCentre_59 : decode cX2_fitCentre 59 = .ok (.daload, 1) := by decide +kernel
theorem dX2_fitCentre_60 : decode cX2_fitCentre 60 = .ok (.dmul, 1) := by decide +kernel
theorem dX2_fitCentre_61 : decode cX2_fitCentre 61 = .ok (.dadd, 1) := by decide +kernel
theorem dX2_fitCentre_62 : decode cX2_fitCentre 62 = .ok (.dstore_n 3, 1) := by decide +kernel
theorem dX2_fitCentre_63 : decode cX2_fitCentre 63 = .ok (.dload 5, 2) := by decide +kernel
theorem dX2_fitCentre_65 : decode cX2_fitCentre 65 = .ok (.aload_n 0, 1) := by decide +kernel
theorem dX2_fitCentre_66 : decode cX2_fitCentre 66 = .ok (.getfield 13, 3) := by decide +kernel
theorem dX2_fitCentre_69 : decode cX2_fitCentre 69 = .ok (.iload 13, 2) := by decide +kernel
theorem dX2_fitCentre_71 : decode cX2_fitCentre 71 = .ok (.daload, 1) := by decide +kernel
theorem dX2_fitCentre_72 : decode cX2_fitCentre 72 = .ok (.aload_n 0, 1) := by decide +kernel
theorem dX2_fitCentre_73 : decode cX2_fitCentre 73 = .ok (.getfield 17, 3) := by decide +kernel
theorem dX2_fitCentre_76 : decode cX2_fitCentre 76 = .ok (.iload 13, 2) := by decide +kernel
theorem dX2_fitCentre_78 : decode cX2_fitCentre 78 = .ok (.daload, 1) := by decide +kernel
theorem dX2_fitCentre_79 : decode cX2_fitCentre 79 = .ok (.dmul, 1) := by decide +kernel
theorem dX2_fitCentre_80 : decode cX2_fitCentre 80 = .ok (.dadd, 1) := by decide +kernel
theorem dX2_fitCentre_81 : decode cX2_fitCentre 81 = .ok (.dstore 5, 2) := by decide +kernel
theorem dX2_fitCentre_83 : decode cX2_fitCentre 83 = .ok (.dload 7, 2) := by decide +kernel
theorem dX2_fitCentre_85 : decode cX2_fitCentre 85 = .ok (.aload_n 0, 1) := by decide +kernel
theorem dX2_fitCentre_86 : decode cX2_fitCentre 86 = .ok (.getfield 17, 3) := by decide +kernel
theorem dX2_fitCentre_89 : decode cX2_fitCentre 89 = .ok (.iload 13, 2) := by decide +kernel
theorem dX2_fitCentre_91 : decode cX2_fitCentre 91 = .ok (.daload, 1) := by decide +kernel
theorem dX2_fitCentre_92 : decode cX2_fitCentre 92 = .ok (.aload_n 0, 1) := by decide +kernel
theorem dX2_fitCentre_93 : decode cX2_fitCentre 93 = .ok (.getfield 17, 3) := by decide +kernel
theorem dX2_fitCentre_96 : decode cX2_fitCentre 96 = .ok (.iload 13, 2) := by decide +kernel
theorem dX2_fitCentre_98 : decode cX2_fitCentre 98 = .ok (.daload, 1) := by decide +kernel
theorem dX2_fitCentre_99 : decode cX2_fitCentre 99 = .ok (.dmul, 1) := by decide +kernel
theorem dX2_fitCentre_100 : decode cX2_fitCentre 100 = .ok (.dadd, 1) := by decide +kernel
theorem dX2_fitCentre_101 : decode cX2_fitCentre 101 = .ok (.dstore 7, 2) := by decide +kernel
theorem dX2_fitCentre_103 : decode cX2_fitCentre 103 = .ok (.dload 9, 2) := by decide +kernel
theorem dX2_fitCentre_105 : decode cX2_fitCentre 105 = .ok (.aload_n 0, 1) := by decide +kernel
theorem dX2_fitCentre_106 : decode cX2_fitCentre 106 = .ok (.getfield 13, 3) := by decide +kernel
theorem dX2_fitCentre_109 : decode cX2_fitCentre 109 = .ok (.iload 13, 2) := by decide +kernel
theorem dX2_fitCentre_111 : decode cX2_fitCentre 111 = .ok (.daload, 1) := by decide +kernel
theorem dX2_fitCentre_112 : decode cX2_fitCentre 112 = .ok (.aload_n 0, 1) := by decide +kernel
theorem dX2_fitCentre_113 : decode cX2_fitCentre 113 = .ok (.getfield 27, 3) := by decide +kernel
theorem dX2_fitCentre_116 : decode cX2_fitCentre 116 = .ok (.iload 14, 2) := by decide +kernel
theorem dX2_fitCentre_118 : decode cX2_fitCentre 118 = .ok (.daload, 1) := by decide +kernel
theorem dX2_fitCentre_119 : decode cX2_fitCentre 119 = .ok (.dmul, 1) := by decide +kernel
theorem dX2_fitCentre_120 : decode cX2_fitCentre 120 = .ok (.dadd, 1) := by decide +kernel
theorem dX2_fitCentre_121 : decode cX2_fitCentre 121 = .ok (.dstore 9, 2) := by decide +kernel
theorem dX2_fitCentre_123 : decode cX2_fitCentre 123 = .ok (.dload 11, 2) := by decide +kernel
theorem dX2_fitCentre_125 : decode cX2_fitCentre 125 = .ok (.aload_n 0, 1) := by decide +kernel
theorem dX2_fitCentre_126 : decode cX2_fitCentre 126 = .ok (.getfield 17, 3) := by decide +kernel
theorem dX2_fitCentre_129 : decode cX2_fitCentre 129 = .ok (.iload 13, 2) := by decide +kernel
theorem dX2_fitCentre_131 : decode cX2_fitCentre 131 = .ok (.daload, 1) := by decide +kernel
theorem dX2_fitCentre_132 : decode cX2_fitCentre 132 = .ok (.aload_n 0, 1) := by decide +kernel
theorem dX2_fitCentre_133 : decode cX2_fitCentre 133 = .ok (.getfield 27, 3) := by decide +kernel
theorem dX2_fitCentre_136 : decode cX2_fitCentre 136 = .ok (.iload 14, 2) := by decide +kernel
theorem dX2_fitCentre_138 : decode cX2_fitCentre 138 = .ok (.daload, 1) := by decide +kernel
theorem dX2_fitCentre_139 : decode cX2_fitCentre 139 = .ok (.dmul, 1) := by decide +kernel
theorem dX2_fitCentre_140 : decode cX2_fitCentre 140 = .ok (.dadd, 1) := by decide +kernel
theorem dX2_fitCentre_141 : decode cX2_fitCentre 141 = .ok (.dstore 11, 2) := by decide +kernel
theorem dX2_fitCentre_143 : decode cX2_fitCentre 143 = .ok (.iinc 13 1, 3) := by decide +kernel
theorem dX2_fitCentre_146 : decode cX2_fitCentre 146 = .ok (.goto (-129), 3) := by decide +kernel
theorem dX2_fitCentre_149 : decode cX2_fitCentre 149 = .ok (.dload_n 3, 1) := by decide +kernel
theorem dX2_fitCentre_150 : decode cX2_fitCentre 150 = .ok (.dload 7, 2) := by decide +kernel
theorem dX2_fitCentre_152 : decode cX2_fitCentre 152 = .ok (.dmul, 1) := by decide +kernel
theorem dX2_fitCentre_153 : decode cX2_fitCentre 153 = .ok (.dload 5, 2) := by decide +kernel
theorem dX2_fitCentre_155 : decode cX2_fitCentre 155 = .ok (.dload 5, 2) := by decide +kernel
theorem dX2_fitCentre_157 : decode cX2_fitCentre 157 = .ok (.dmul, 1) := by decide +kernel
theorem dX2_fitCentre_158 : decode cX2_fitCentre 158 = .ok (.dsub, 1) := by decide +kernel
theorem dX2_fitCentre_159 : decode cX2_fitCentre 159 = .ok (.dstore 13, 2) := by decide +kernel
theorem dX2_fitCentre_161 : decode cX2_fitCentre 161 = .ok (.dload 13, 2) := by decide +kernel
theorem dX2_fitCentre_163 : decode cX2_fitCentre 163 = .ok (.dconst 0, 1) := by decide +kernel
theorem dX2_fitCentre_164 : decode cX2_fitCentre 164 = .ok (.dcmp .g, 1) := by decide +kernel
theorem dX2_fitCentre_165 : decode cX2_fitCentre 165 = .ok (.ifCond .ge 9, 3) := by decide +kernel
theorem dX2_fitCentre_168 : decode cX2_fitCentre 168 = .ok (.dload 13, 2) := by decide +kernel
theorem dX2_fitCentre_170 : decode cX2_fitCentre 170 = .ok (.dneg, 1) := by decide +kernel
theorem dX2_fitCentre_171 : decode cX2_fitCentre 171 = .ok (.goto 5, 3) := by decide +kernel
theorem dX2_fitCentre_174 : decode cX2_fitCentre 174 = .ok (.dload 13, 2) := by decide +kernel
theorem dX2_fitCentre_176 : decode cX2_fitCentre 176 = .ok (.dstore 15, 2) := by decide +kernel
theorem dX2_fitCentre_178 : decode cX2_fitCentre 178 = .ok (.dload 15, 2) := by decide +kernel
theorem dX2_fitCentre_180 : decode cX2_fitCentre 180 = .ok (.ldc2_w 75, 3) := by decide +kernel
theorem dX2_fitCentre_183 : decode cX2_fitCentre 183 = .ok (.dcmp .g, 1) := by decide +kernel
theorem dX2_fitCentre_184 : decode cX2_fitCentre 184 = .ok (.ifCond .ge 5, 3) := by decide +kernel
theorem dX2_fitCentre_187 : decode cX2_fitCentre 187 = .ok (.iconst 0, 1) := by decide +kernel
theorem dX2_fitCentre_188 : decode cX2_fitCentre 188 = .ok (.ireturn, 1) := by decide +kernel
theorem dX2_fitCentre_189 : decode cX2_fitCentre 189 = .ok (.aload_n 1, 1) := by decide +kernel
theorem dX2_fitCentre_190 : decode cX2_fitCentre 190 = .ok (.getfield 65, 3) := by decide +kernel
theorem dX2_fitCentre_193 : decode cX2_fitCentre 193 = .ok (.iload_n 2, 1) := by decide +kernel
theorem dX2_fitCentre_194 : decode cX2_fitCentre 194 = .ok (.dload 9, 2) := by decide +kernel
theorem dX2_fitCentre_196 : decode cX2_fitCentre 196 = .ok (.dload 7, 2) := by decide +kernel
theorem dX2_fitCentre_198 : decode cX2_fitCentre 198 = .ok (.dmul, 1) := by decide +kernel
theorem dX2_fitCentre_199 : decode cX2_fitCentre 199 = .ok (.dload 11, 2) := by decide +kernel
theorem dX2_fitCentre_201 : decode cX2_fitCentre 201 = .ok (.dload 5, 2) := by decide +kernel
theorem dX2_fitCentre_203 : decode cX2_fitCentre 203 = .ok (.dmul, 1) := by decide +kernel
theorem dX2_fitCentre_204 : decode cX2_fitCentre 204 = .ok (.dsub, 1) := by decide +kernel
theorem dX2_fitCentre_205 : decode cX2_fitCentre 205 = .ok (.dload 13, 2) := by decide +kernel
theorem dX2_fitCentre_207 : decode cX2_fitCentre 207 = .ok (.ddiv, 1) := by decide +kernel
theorem dX2_fitCentre_208 : decode cX2_fitCentre 208 = .ok (.dastore, 1) := by decide +kernel
theorem dX2_fitCentre_209 : decode cX2_fitCentre 209 = .ok (.aload_n 1, 1) := by decide +kernel
theorem dX2_fitCentre_210 : decode cX2_fitCentre 210 = .ok (.getfield 68, 3) := by decide +kernel
theorem dX2_fitCentre_213 : decode cX2_fitCentre 213 = .ok (.iload_n 2, 1) := by decide +kernel
theorem dX2_fitCentre_214 : decode cX2_fitCentre 214 = .ok (.dload_n 3, 1) := by decide +kernel
theorem dX2_fitCentre_215 : decode cX2_fitCentre 215 = .ok (.dload 11, 2) := by decide +kernel
theorem dX2_fitCentre_217 : decode cX2_fitCentre 217 = .ok (.dmul, 1) := by decide +kernel
theorem dX2_fitCentre_218 : decode cX2_fitCentre 218 = .ok (.dload 5, 2) := by decide +kernel
theorem dX2_fitCentre_220 : decode cX2_fitCentre 220 = .ok (.dload 9, 2) := by decide +kernel
theorem dX2_fitCentre_222 : decode cX2_fitCentre 222 = .ok (.dmul, 1) := by decide +kernel
theorem dX2_fitCentre_223 : decode cX2_fitCentre 223 = .ok (.dsub, 1) := by decide +kernel
theorem dX2_fitCentre_224 : decode cX2_fitCentre 224 = .ok (.dload 13, 2) := by decide +kernel
theorem dX2_fitCentre_226 : decode cX2_fitCentre 226 = .ok (.ddiv, 1) := by decide +kernel
theorem dX2_fitCentre_227 : decode cX2_fitCentre 227 = .ok (.dastore, 1) := by decide +kernel
theorem dX2_fitCentre_228 : decode cX2_fitCentre 228 = .ok (.iconst 1, 1) := by decide +kernel
theorem dX2_fitCentre_229 : decode cX2_fitCentre 229 = .ok (.ireturn, 1) := by decide +kernel
set_option maxRecDepth 20000 in
theorem ggX2_sumOfRadii_X2_place : GoodIn wsX2_sumOfRadii wsX2_place := goodIn_r _ [9, 1, 10, 11, 12, 13, 14, 15, 16] (by decide +kernel) (by decide +kernel)
set_option maxRecDepth 20000 in
theorem gX2_sumOfRadii_X2_place : GoodIn wsX2_sumOfRadii (wsV RX2 39 RX2 yX2_place wsX2_place) := goodIn_app (goodIn_of _ (by decide +kernel)) ggX2_sumOfRadii_X2_place
theorem dX2_sumOfRadii_0 : decode cX2_sumOfRadii 0 = .ok (.dconst 0, 1) := by decide +kernel
theorem dX2_sumOfRadii_1 : decode cX2_sumOfRadii 1 = .ok (.dstore_n 2, 1) := by decide +kernel
theorem dX2_sumOfRadii_2 : decode cX2_sumOfRadii 2 = .ok (.iconst 0, 1) := by decide +kernel
theorem dX2_sumOfRadii_3 : decode cX2_sumOfRadii 3 = .ok (.istore 4, 2) := by decide +kernel
theorem dX2_sumOfRadii_5 : decode cX2_sumOfRadii 5 = .ok (.iload 4, 2) := by decide +kernel
theorem dX2_sumOfRadii_7 : decode cX2_sumOfRadii 7 = .ok (.aload_n 0, 1) := by decide +kernel
theorem dX2_sumOfRadii_8 : decode cX2_sumOfRadii 8 = .ok (.getfield 7, 3) := by decide +kernel
theorem dX2_sumOfRadii_11 : decode cX2_sumOfRadii 11 = .ok (.if_icmp .ge 46, 3) := by decide +kernel
theorem dX2_sumOfRadii_14 : decode cX2_sumOfRadii 14 = .ok (.aload_n 0, 1) := by decide +kernel
theorem dX2_sumOfRadii_15 : decode cX2_sumOfRadii 15 = .ok (.iload_n 1, 1) := by decide +kernel
theorem dX2_sumOfRadii_16 : decode cX2_sumOfRadii 16 = .ok (.iload 4, 2) := by decide +kernel
theorem dX2_sumOfRadii_18 : decode cX2_sumOfRadii 18 = .ok (.invokevirtual 39, 3) := by decide +kernel
theorem dX2_sumOfRadii_21 : decode cX2_sumOfRadii 21 = .ok (.istore 5, 2) := by decide +kernel
theorem dX2_sumOfRadii_23 : decode cX2_sumOfRadii 23 = .ok (.aload_n 0, 1) := by decide +kernel
theorem dX2_sumOfRadii_24 : decode cX2_sumOfRadii 24 = .ok (.getfield 23, 3) := by decide +kernel
theorem dX2_sumOfRadii_27 : decode cX2_sumOfRadii 27 = .ok (.iload 5, 2) := by decide +kernel
theorem dX2_sumOfRadii_29 : decode cX2_sumOfRadii 29 = .ok (.baload, 1) := by decide +kernel
theorem dX2_sumOfRadii_30 : decode cX2_sumOfRadii 30 = .ok (.ifCond .eq 21, 3) := by decide +kernel
theorem dX2_sumOfRadii_33 : decode cX2_sumOfRadii 33 = .ok (.dload_n 2, 1) := by decide +kernel
theorem dX2_sumOfRadii_34 : decode cX2_sumOfRadii 34 = .ok (.aload_n 0, 1) := by decide +kernel
theorem dX2_sumOfRadii_35 : decode cX2_sumOfRadii 35 = .ok (.getfield 30, 3) := by decide +kernel
theorem dX2_sumOfRadii_38 : decode cX2_sumOfRadii 38 = .ok (.iload 5, 2) := by decide +kernel
theorem dX2_sumOfRadii_40 : decode cX2_sumOfRadii 40 = .ok (.daload, 1) := by decide +kernel
theorem dX2_sumOfRadii_41 : decode cX2_sumOfRadii 41 = .ok (.aload_n 0, 1) := by decide +kernel
theorem dX2_sumOfRadii_42 : decode cX2_sumOfRadii 42 = .ok (.getfield 20, 3) := by decide +kernel
theorem dX2_sumOfRadii_45 : decode cX2_sumOfRadii 45 = .ok (.iload 4, 2) := by decide +kernel
theorem dX2_sumOfRadii_47 : decode cX2_sumOfRadii 47 = .ok (.daload, 1) := by decide +kernel
theorem dX2_sumOfRadii_48 : decode cX2_sumOfRadii 48 = .ok (.ddiv, 1) := by decide +kernel
theorem dX2_sumOfRadii_49 : decode cX2_sumOfRadii 49 = .ok (.dadd, 1) := by decide +kernel
theorem dX2_sumOfRadii_50 : decode cX2_sumOfRadii 50 = .ok (.dstore_n 2, 1) := by decide +kernel
theorem dX2_sumOfRadii_51 : decode cX2_sumOfRadii 51 = .ok (.iinc 4 1, 3) := by decide +kernel
theorem dX2_sumOfRadii_54 : decode cX2_sumOfRadii 54 = .ok (.goto (-49), 3) := by decide +kernel
theorem dX2_sumOfRadii_57 : decode cX2_sumOfRadii 57 = .ok (.dload_n 2, 1) := by decide +kernel
theorem dX2_sumOfRadii_58 : decode cX2_sumOfRadii 58 = .ok (.dreturn, 1) := by decide +kernel
set_option maxRecDepth 20000 in
theorem ggX2_sumOfErrors_X2_place : GoodIn wsX2_sumOfErrors wsX2_place := goodIn_r _ [10, 1, 11, 12, 13, 14, 15, 16, 17] (by decide +kernel) (by decide +kernel)
set_option maxRecDepth 20000 in
theorem gX2_sumOfErrors_X2_place : GoodIn wsX2_sumOfErrors (wsV RX2 39 RX2 yX2_place wsX2_place) := goodIn_app (goodIn_of _ (by decide +kernel)) ggX2_sumOfErrors_X2_place
theorem dX2_sumOfErrors_0 : decode cX2_sumOfErrors 0 = .ok (.dconst 0, 1) := by decide +kernel
theorem dX2_sumOfErrors_1 : decode cX2_sumOfErrors 1 = .ok (.dstore 6, 2) := by decide +kernel
theorem dX2_sumOfErrors_3 : decode cX2_sumOfErrors 3 = .ok (.iconst 0, 1) := by decide +kernel
theorem dX2_sumOfErrors_4 : decode cX2_sumOfErrors 4 = .ok (.istore 8, 2) := by decide +kernel
theorem dX2_sumOfErrors_6 : decode cX2_sumOfErrors 6 = .ok (.iload 8, 2) := by decide +kernel
theorem dX2_sumOfErrors_8 : decode cX2_sumOfErrors 8 = .ok (.aload_n 0, 1) := by decide +kernel
theorem dX2_sumOfErrors_9 : decode cX2_sumOfErrors 9 = .ok (.getfield 7, 3) := by decide +kernel
theorem dX2_sumOfErrors_12 : decode cX2_sumOfErrors 12 = .ok (.if_icmp .ge 68, 3) := by decide +kernel
theorem dX2_sumOfErrors_15 : decode cX2_sumOfErrors 15 = .ok (.aload_n 0, 1) := by decide +kernel
theorem dX2_sumOfErrors_16 : decode cX2_sumOfErrors 16 = .ok (.iload_n 1, 1) := by decide +kernel
theorem dX2_sumOfErrors_17 : decode cX2_sumOfErrors 17 = .ok (.iload 8, 2) := by decide +kernel
theorem dX2_sumOfErrors_19 : decode cX2_sumOfErrors 19 = .ok (.invokevirtual 39, 3) := by decide +kernel
theorem dX2_sumOfErrors_22 : decode cX2_sumOfErrors 22 = .ok (.istore 9, 2) := by decide +kernel
theorem dX2_sumOfErrors_24 : decode cX2_sumOfErrors 24 = .ok (.aload_n 0, 1) := by decide +kernel
theorem dX2_sumOfErrors_25 : decode cX2_sumOfErrors 25 = .ok (.getfield 23, 3) := by decide +kernel
theorem dX2_sumOfErrors_28 : decode cX2_sumOfErrors 28 = .ok (.iload 9, 2) := by decide +kernel
theorem dX2_sumOfErrors_30 : decode cX2_sumOfErrors 30 = .ok (.baload, 1) := by decide +kernel
theorem dX2_sumOfErrors_31 : decode cX2_sumOfErrors 31 = .ok (.ifCond .eq 43, 3) := by decide +kernel
theorem dX2_sumOfErrors_34 : decode cX2_sumOfErrors 34 = .ok (.aload_n 0, 1) := by decide +kernel
theorem dX2_sumOfErrors_35 : decode cX2_sumOfErrors 35 = .ok (.getfield 27, 3) := by decide +kernel
theorem dX2_sumOfErrors_38 : decode cX2_sumOfErrors 38 = .ok (.iload 9, 2) := by decide +kernel
theorem dX2_sumOfErrors_40 : decode cX2_sumOfErrors 40 = .ok (.daload, 1) := by decide +kernel
theorem dX2_sumOfErrors_41 : decode cX2_sumOfErrors 41 = .ok (.aload_n 0, 1) := by decide +kernel
theorem dX2_sumOfErrors_42 : decode cX2_sumOfErrors 42 = .ok (.getfield 13, 3) := by decide +kernel
theorem dX2_sumOfErrors_45 : decode cX2_sumOfErrors 45 = .ok (.iload 8, 2) := by decide +kernel
theorem dX2_sumOfErrors_47 : decode cX2_sumOfErrors 47 = .ok (.daload, 1) := by decide +kernel
theorem dX2_sumOfErrors_48 : decode cX2_sumOfErrors 48 = .ok (.dload_n 2, 1) := by decide +kernel
theorem dX2_sumOfErrors_49 : decode cX2_sumOfErrors 49 = .ok (.dmul, 1) := by decide +kernel
theorem dX2_sumOfErrors_50 : decode cX2_sumOfErrors 50 = .ok (.dsub, 1) := by decide +kernel
theorem dX2_sumOfErrors_51 : decode cX2_sumOfErrors 51 = .ok (.aload_n 0, 1) := by decide +kernel
theorem dX2_sumOfErrors_52 : decode cX2_sumOfErrors 52 = .ok (.getfield 17, 3) := by decide +kernel
theorem dX2_sumOfErrors_55 : decode cX2_sumOfErrors 55 = .ok (.iload 8, 2) := by decide +kernel
theorem dX2_sumOfErrors_57 : decode cX2_sumOfErrors 57 = .ok (.daload, 1) := by decide +kernel
theorem dX2_sumOfErrors_58 : decode cX2_sumOfErrors 58 = .ok (.dload 4, 2) := by decide +kernel
theorem dX2_sumOfErrors_60 : decode cX2_sumOfErrors 60 = .ok (.dmul, 1) := by decide +kernel
theorem dX2_sumOfErrors_61 : decode cX2_sumOfErrors 61 = .ok (.dsub, 1) := by decide +kernel
theorem dX2_sumOfErrors_62 : decode cX2_sumOfErrors 62 = .ok (.dstore 10, 2) := by decide +kernel
theorem dX2_sumOfErrors_64 : decode cX2_sumOfErrors 64 = .ok (.dload 6, 2) := by decide +kernel
theorem dX2_sumOfErrors_66 : decode cX2_sumOfErrors 66 = .ok (.dload 10, 2) := by decide +kernel
theorem dX2_sumOfErrors_68 : decode cX2_sumOfErrors 68 = .ok (.dload 10, 2) := by decide +kernel
theorem dX2_sumOfErrors_70 : decode cX2_sumOfErrors 70 = .ok (.dmul, 1) := by decide +kernel
theorem dX2_sumOfErrors_71 : decode cX2_sumOfErrors 71 = .ok (.dadd, 1) := by decide +kernel
theorem dX2_sumOfErrors_72 : decode cX2_sumOfErrors 72 = .ok (.dstore 6, 2) := by decide +kernel
theorem dX2_sumOfErrors_74 : decode cX2_sumOfErrors 74 = .ok (.iinc 8 1, 3) := by decide +kernel
theorem dX2_sumOfErrors_77 : decode cX2_sumOfErrors 77 = .ok (.goto (-71), 3) := by decide +kernel
theorem dX2_sumOfErrors_80 : decode cX2_sumOfErrors 80 = .ok (.dload 6, 2) := by decide +kernel
theorem dX2_sumOfErrors_82 : decode cX2_sumOfErrors 82 = .ok (.dreturn, 1) := by decide +kernel
theorem dX3_init_0 : decode cX3_init 0 = .ok (.aload_n 0, 1) := by decide +kernel
theorem dX3_init_1 : decode cX3_init 1 = .ok (.invokespecial 3, 3) := by decide +kernel
theorem dX3_init_4 : decode cX3_init 4 = .ok (.aload_n 0, 1) := by decide +kernel
theorem dX3_init_5 : decode cX3_init 5 = .ok (.iload_n 1, 1) := by decide +kernel
theorem dX3_init_6 : decode cX3_init 6 = .ok (.putfield 9, 3) := by decide +kernel
theorem dX3_init_9 : decode cX3_init 9 = .ok (.aload_n 0, 1) := by decide +kernel
theorem dX3_init_10 : decode cX3_init 10 = .ok (.iload_n 1, 1) := by decide +kernel
theorem dX3_init_11 : decode cX3_init 11 = .ok (.newarray .double, 2) := by decide +kernel
theorem dX3_init_13 : decode cX3_init 13 = .ok (.putfield 15, 3) := by decide +kernel
theorem dX3_init_16 : decode cX3_init 16 = .ok (.aload_n 0, 1) := by decide +kernel
theorem dX3_init_17 : decode cX3_init 17 = .ok (.iload_n 1, 1) := by decide +kernel
theorem dX3_init_18 : decode cX3_init 18 = .ok (.newarray .double, 2) := by decide +kernel
theorem dX3_init_20 : decode cX3_init 20 = .ok (.putfield 19, 3) := by decide +kernel
theorem dX3_init_23 : decode cX3_init 23 = .ok (.aload_n 0, 1) := by decide +kernel
theorem dX3_init_24 : decode cX3_init 24 = .ok (.iload_n 1, 1) := by decide +kernel
theorem dX3_init_25 : decode cX3_init 25 = .ok (.newarray .double, 2) := by decide +kernel
theorem dX3_init_27 : decode cX3_init 27 = .ok (.putfield 22, 3) := by decide +kernel
theorem dX3_init_30 : decode cX3_init 30 = .ok (.aload_n 0, 1) := by decide +kernel
theorem dX3_init_31 : decode cX3_init 31 = .ok (.iload_n 1, 1) := by decide +kernel
theorem dX3_init_32 : decode cX3_init 32 = .ok (.newarray .double, 2) := by decide +kernel
theorem dX3_init_34 : decode cX3_init 34 = .ok (.putfield 25, 3) := by decide +kernel
theorem dX3_init_37 : decode cX3_init 37 = .ok (.aload_n 0, 1) := by decide +kernel
theorem dX3_init_38 : decode cX3_init 38 = .ok (.iload_n 1, 1) := by decide +kernel
theorem dX3_init_39 : decode cX3_init 39 = .ok (.newarray .boolean, 2) := by decide +kernel
theorem dX3_init_41 : decode cX3_init 41 = .ok (.putfield 28, 3) := by decide +kernel
theorem dX3_init_44 : decode cX3_init 44 = .ok (.return_, 1) := by decide +kernel
set_option maxRecDepth 20000 in
theorem ggX3_mendAll_X3_fittedBefore : GoodIn wsX3_mendAll wsX3_fittedBefore := goodIn_r _ [7, 2, 23, 24, 25, 26, 27, 28, 29] (by decide +kernel) (by decide +kernel)
set_option maxRecDepth 20000 in
theorem gX3_mendAll_X3_fittedBefore : GoodIn wsX3_mendAll (wsV RX3 32 RX3 yX3_fittedBefore wsX3_fittedBefore) := goodIn_app (goodIn_of _ (by decide +kernel)) ggX3_mendAll_X3_fittedBefore
set_option maxRecDepth 20000 in
theorem ggX3_mendAll_X3_fittedBehind : GoodIn wsX3_mendAll wsX3_fittedBehind := goodIn_r _ [11, 1, 2, 23, 24, 25, 26, 27, 28, 29] (by decide +kernel) (by decide +kernel)
set_option maxRecDepth 20000 in
theorem gX3_mendAll_X3_fittedBehind : GoodIn wsX3_mendAll (wsV RX3 36 RX3 yX3_fittedBehind wsX3_fittedBehind) := goodIn_app (goodIn_of _ (by decide +kernel)) ggX3_mendAll_X3_fittedBehind
set_option maxRecDepth 20000 in
theorem ggX3_mendAll_X3_mendOne : GoodIn wsX3_mendAll wsX3_mendOne := goodIn_r _ [15, 16, 17, 18, 19, 20, 21, 6, 22, 23, 24, 25, 26, 27, 28, 29] (by decide +kernel) (by decide +kernel)
set_option maxRecDepth 20000 in
theorem gX3_mendAll_X3_mendOne : GoodIn wsX3_mendAll (wsV RX3 39 RX3 yX3_mendOne wsX3_mendOne) := goodIn_app (goodIn_of _ (by decide +kernel)) ggX3_mendAll_X3_mendOne
theorem dX3_mendAll_0 : decode cX3_mendAll 0 = .ok (.iconst 0, 1) := by decide +kernel
theorem dX3_mendAll_1 : decode cX3_mendAll 1 = .ok (.istore_n 1, 1) := by decide +kernel
theorem dX3_mendAll_2 : decode cX3_mendAll 2 = .ok (.iload_n 1, 1) := by decide +kernel
theorem dX3_mendAll_3 : decode cX3_mendAll 3 = .ok (.aload_n 0, 1) := by decide +kernel
theorem dX3_mendAll_4 : decode cX3_mendAll 4 = .ok (.getfield 9, 3) := by decide +kernel
theorem dX3_mendAll_7 : decode cX3_mendAll 7 = .ok (.if_icmp .ge 33, 3) := by decide +kernel
theorem dX3_mendAll_10 : decode cX3_mendAll 10 = .ok (.aload_n 0, 1) := by decide +kernel
theorem dX3_mendAll_11 : decode cX3_mendAll 11 = .ok (.getfield 28, 3) := by decide +kernel
theorem dX3_mendAll_14 : decode cX3_mendAll 14 = .ok (.iload_n 1, 1) := by decide +kernel
theorem dX3_mendAll_15 : decode cX3_mendAll 15 = .ok (.baload, 1) := by decide +kernel
theorem dX3_mendAll_16 : decode cX3_mendAll 16 = .ok (.ifCond .ne 18, 3) := by decide +kernel
theorem dX3_mendAll_19 : decode cX3_mendAll 19 = .ok (.aload_n 0, 1) := by decide +kernel
theorem dX3_mendAll_20 : decode cX3_mendAll 20 = .ok (.iload_n 1, 1) := by decide +kernel
theorem dX3_mendAll_21 : decode cX3_mendAll 21 = .ok (.aload_n 0, 1) := by decide +kernel
theorem dX3_mendAll_22 : decode cX3_mendAll 22 = .ok (.iload_n 1, 1) := by decide +kernel
theorem dX3_mendAll_23 : decode cX3_mendAll 23 = .ok (.invokevirtual 32, 3) := by decide +kernel
theorem dX3_mendAll_26 : decode cX3_mendAll 26 = .ok (.aload_n 0, 1) := by decide +kernel
theorem dX3_mendAll_27 : decode cX3_mendAll 27 = .ok (.iload_n 1, 1) := by decide +kernel
theorem dX3_mendAll_28 : decode cX3_mendAll 28 = .ok (.invokevirtual 36, 3) := by decide +kernel
theorem dX3_mendAll_31 : decode cX3_mendAll 31 = .ok (.invokevirtual 39, 3) := by decide +kernel
theorem dX3_mendAll_34 : decode cX3_mendAll 34 = .ok (.iinc 1 1, 3) := by decide +kernel
theorem dX3_mendAll_37 : decode cX3_mendAll 37 = .ok (.goto (-35), 3) := by decide +kernel
theorem dX3_mendAll_40 : decode cX3_mendAll 40 = .ok (.return_, 1) := by decide +kernel
theorem dX3_areaOf_0 : decode cX3_areaOf 0 = .ok (.ldc2_w 43, 3) := by decide +kernel
theorem dX3_areaOf_3 : decode cX3_areaOf 3 = .ok (.aload_n 0, 1) := by decide +kernel
theorem dX3_areaOf_4 : decode cX3_areaOf 4 = .ok (.getfield 22, 3) := by decide +kernel
theorem dX3_areaOf_7 : decode cX3_areaOf 7 = .ok (.iload_n 1, 1) := by decide +kernel
theorem dX3_areaOf_8 : decode cX3_areaOf 8 = .ok (.daload, 1) := by decide +kernel
theorem dX3_areaOf_9 : decode cX3_areaOf 9 = .ok (.dmul, 1) := by decide +kernel
theorem dX3_areaOf_10 : decode cX3_areaOf 10 = .ok (.aload_n 0, 1) := by decide +kernel
theorem dX3_areaOf_11 : decode cX3_areaOf 11 = .ok (.getfield 22, 3) := by decide +kernel
theorem dX3_areaOf_14 : decode cX3_areaOf 14 = .ok (.iload_n 1, 1) := by decide +kernel
theorem dX3_areaOf_15 : decode cX3_areaOf 15 = .ok (.daload, 1) := by decide +kernel
theorem dX3_areaOf_16 : decode cX3_areaOf 16 = .ok (.dmul, 1) := by decide +kernel
theorem dX3_areaOf_17 : decode cX3_areaOf 17 = .ok (.dreturn, 1) := by decide +kernel
theorem dX3_covers_0 : decode cX3_covers 0 = .ok (.dload_n 2, 1) := by decide +kernel
theorem dX3_covers_1 : decode cX3_covers 1 = .ok (.aload_n 0, 1) := by decide +kernel
theorem dX3_covers_2 : decode cX3_covers 2 = .ok (.getfield 15, 3) := by decide +kernel
theorem dX3_covers_5 : decode cX3_covers 5 = .ok (.iload_n 1, 1) := by decide +kernel
theorem dX3_covers_6 : decode cX3_covers 6 = .ok (.daload, 1) := by decide +kernel
theorem dX3_covers_7 : decode cX3_covers 7 = .ok (.dsub, 1) := by decide +kernel
theorem dX3_covers_8 : decode cX3_covers 8 = .ok (.dstore 6, 2) := by decide +kernel
theorem dX3_covers_10 : decode cX3_covers 10 = .ok (.dload 4, 2) := by decide +kernel
theorem dX3_covers_12 : decode cX3_covers 12 = .ok (.aload_n 0, 1) := by decide +kernel
theorem dX3_covers_13 : decode cX3_covers 13 = .ok (.getfield 19, 3) := by decide +kernel
theorem dX3_covers_16 : decode cX3_covers 16 = .ok (.iload_n 1, 1) := by decide +kernel
theorem dX3_covers_17 : decode cX3_covers 17 = .ok (.daload, 1) := by decide +kernel
theorem dX3_covers_18 : decode cX3_covers 18 = .ok (.dsub, 1) := by decide +kernel
theorem dX3_covers_19 : decode cX3_covers 19 = .ok (.dstore 8, 2) := by decide +kernel
theorem dX3_covers_21 : decode cX3_covers 21 = .ok (.dload 6, 2) := by decide +kernel
theorem dX3_covers_23 : decode cX3_covers 23 = .ok (.dload 6, 2) := by decide +kernel
theorem dX3_covers_25 : decode cX3_covers 25 = .ok (.dmul, 1) := by decide +kernel
theorem dX3_covers_26 : decode cX3_covers 26 = .ok (.dload 8, 2) := by decide +kernel
theorem dX3_covers_28 : decode cX3_covers 28 = .ok (.dload 8, 2) := by decide +kernel
theorem dX3_covers_30 : decode cX3_covers 30 = .ok (.dmul, 1) := by decide +kernel
theorem dX3_covers_31 : decode cX3_covers 31 = .ok (.dadd, 1) := by decide +kernel
theorem dX3_covers_32 : decode cX3_covers 32 = .ok (.aload_n 0, 1) := by decide +kernel
theorem dX3_covers_33 : decode cX3_covers 33 = .ok (.getfield 22, 3) := by decide +kernel
theorem dX3_covers_36 : decode cX3_covers 36 = .ok (.iload_n 1, 1) := by decide +kernel
theorem dX3_covers_37 : decode cX3_covers 37 = .ok (.daload, 1) := by decide +kernel
theorem dX3_covers_38 : decode cX3_covers 38 = .ok (.aload_n 0, 1) := by decide +kernel
theorem dX3_covers_39 : decode cX3_covers 39 = .ok (.getfield 22, 3) := by decide +kernel
theorem dX3_covers_42 : decode cX3_covers 42 = .ok (.iload_n 1, 1) := by decide +kernel
theorem dX3_covers_43 : decode cX3_covers 43 = .ok (.daload, 1) := by decide +kernel
theorem dX3_covers_44 : decode cX3_covers 44 = .ok (.dmul, 1) := by decide +kernel
theorem dX3_covers_45 : decode cX3_covers 45 = .ok (.dcmp .g, 1) := by decide +kernel
theorem dX3_covers_46 : decode cX3_covers 46 = .ok (.ifCond .gt 7, 3) := by decide +kernel
theorem dX3_covers_49 : decode cX3_covers 49 = .ok (.iconst 1, 1) := by decide +kernel
theorem dX3_covers_50 : decode cX3_covers 50 = .ok (.goto 4, 3) := by decide +kernel
theorem dX3_covers_53 : decode cX3_covers 53 = .ok (.iconst 0, 1) := by decide +kernel
theorem dX3_covers_54 : decode cX3_covers 54 = .ok (.ireturn, 1) := by decide +kernel
set_option maxRecDepth 20000 in
theorem ggX3_cellsOf_X3_covers : GoodIn wsX3_cellsOf wsX3_covers := goodIn_r _ [5, 6, 7, 8, 9, 10, 11, 12, 13, 14, 15] (by decide +kernel) (by decide +kernel)
set_option maxRecDepth 20000 in
theorem gX3_cellsOf_X3_covers : GoodIn wsX3_cellsOf (wsV RX3 45 RX3 yX3_covers wsX3_covers) := goodIn_app (goodIn_of _ (by decide +kernel)) ggX3_cellsOf_X3_covers
theorem dX3_cellsOf_0 : decode cX3_cellsOf 0 = .ok (.iconst 0, 1) := by decide +kernel
theorem dX3_cellsOf_1 : decode cX3_cellsOf 1 = .ok (.istore_n 2, 1) := by decide +kernel
theorem dX3_cellsOf_2 : decode cX3_cellsOf 2 = .ok (.bipush (-40), 2) := by decide +kernel
theorem dX3_cellsOf_4 : decode cX3_cellsOf 4 = .ok (.istore_n 3, 1) := by decide +kernel
theorem dX3_cellsOf_5 : decode cX3_cellsOf 5 = .ok (.iload_n 3, 1) := by decide +kernel
theorem dX3_cellsOf_6 : decode cX3_cellsOf 6 = .ok (.bipush 40, 2) := by decide +kernel
theorem dX3_cellsOf_8 : decode cX3_cellsOf 8 = .ok (.if_icmp .gt 42, 3) := by decide +kernel
theorem dX3_cellsOf_11 : decode cX3_cellsOf 11 = .ok (.bipush (-40), 2) := by decide +kernel
theorem dX3_cellsOf_13 : decode cX3_cellsOf 13 = .ok (.istore 4, 2) := by decide +kernel
theorem dX3_cellsOf_15 : decode cX3_cellsOf 15 = .ok (.iload 4, 2) := by decide +kernel
theorem dX3_cellsOf_17 : decode cX3_cellsOf 17 = .ok (.bipush 40, 2) := by decide +kernel
theorem dX3_cellsOf_19 : decode cX3_cellsOf 19 = .ok (.if_icmp .gt 25, 3) := by decide +kernel
theorem dX3_cellsOf_22 : decode cX3_cellsOf 22 = .ok (.aload_n 0, 1) := by decide +kernel
theorem dX3_cellsOf_23 : decode cX3_cellsOf 23 = .ok (.iload_n 1, 1) := by decide +kernel
theorem dX3_cellsOf_24 : decode cX3_cellsOf 24 = .ok (.iload_n 3, 1) := by decide +kernel
theorem dX3_cellsOf_25 : decode cX3_cellsOf 25 = .ok (.i2d, 1) := by decide +kernel
theorem dX3_cellsOf_26 : decode cX3_cellsOf 26 = .ok (.iload 4, 2) := by decide +kernel
theorem dX3_cellsOf_28 : decode cX3_cellsOf 28 = .ok (.i2d, 1) := by decide +kernel
theorem dX3_cellsOf_29 : decode cX3_cellsOf 29 = .ok (.invokevirtual 45, 3) := by decide +kernel
theorem dX3_cellsOf_32 : decode cX3_cellsOf 32 = .ok (.ifCond .eq 6, 3) := by decide +kernel
theorem dX3_cellsOf_35 : decode cX3_cellsOf 35 = .ok (.iinc 2 1, 3) := by decide +kernel
theorem dX3_cellsOf_38 : decode cX3_cellsOf 38 = .ok (.iinc 4 1, 3) := by decide +kernel
theorem dX3_cellsOf_41 : decode cX3_cellsOf 41 = .ok (.goto (-26), 3) := by decide +kernel
theorem dX3_cellsOf_44 : decode cX3_cellsOf 44 = .ok (.iinc 3 1, 3) := by decide +kernel
theorem dX3_cellsOf_47 : decode cX3_cellsOf 47 = .ok (.goto (-42), 3) := by decide +kernel
theorem dX3_cellsOf_50 : decode cX3_cellsOf 50 = .ok (.iload_n 2, 1) := by decide +kernel
theorem dX3_cellsOf_51 : decode cX3_cellsOf 51 = .ok (.ireturn, 1) := by decide +kernel
set_option maxRecDepth 20000 in
theorem ggX3_sumOfAreas_X3_areaOf : GoodIn wsX3_sumOfAreas wsX3_areaOf := goodIn_r _ [6, 7, 8, 9, 10, 11, 12, 13, 14, 15] (by decide +kernel) (by decide +kernel)
set_option maxRecDepth 20000 in
theorem gX3_sumOfAreas_X3_areaOf : GoodIn wsX3_sumOfAreas (wsV RX3 49 RX3 yX3_areaOf wsX3_areaOf) := goodIn_app (goodIn_of _ (by decide +kernel)) ggX3_sumOfAreas_X3_areaOf
theorem dX3_sumOfAreas_0 : decode cX3_sumOfAreas 0 = .ok (.dconst 0, 1) := by decide +kernel
theorem dX3_sumOfAreas_1 : decode cX3_sumOfAreas 1 = .ok (.dstore_n 1, 1) := by decide +kernel
theorem dX3_sumOfAreas_2 : decode cX3_sumOfAreas 2 = .ok (.iconst 0, 1) := by decide +kernel
theorem dX3_sumOfAreas_3 : decode cX3_sumOfAreas 3 = .ok (.istore_n 3, 1) := by decide +kernel
theorem dX3_sumOfAreas_4 : decode cX3_sumOfAreas 4 = .ok (.iload_n 3, 1) := by decide +kernel
theorem dX3_sumOfAreas_5 : decode cX3_sumOfAreas 5 = .ok (.aload_n 0, 1) := by decide +kernel
theorem dX3_sumOfAreas_6 : decode cX3_sumOfAreas 6 = .ok (.getfield 9, 3) := by decide +kernel
theorem dX3_sumOfAreas_9 : decode cX3_sumOfAreas 9 = .ok (.if_icmp .ge 17, 3) := by decide +kernel
theorem dX3_sumOfAreas_12 : decode cX3_sumOfAreas 12 = .ok (.dload_n 1, 1) := by decide +kernel
theorem dX3_sumOfAreas_13 : decode cX3_sumOfAreas 13 = .ok (.aload_n 0, 1) := by decide +kernel
theorem dX3_sumOfAreas_14 : decode cX3_sumOfAreas 14 = .ok (.iload_n 3, 1) := by decide +kernel
theorem dX3_sumOfAreas_15 : decode cX3_sumOfAreas 15 = .ok (.invokevirtual 49, 3) := by decide +kernel
theorem dX3_sumOfAreas_18 : decode cX3_sumOfAreas 18 = .ok (.dadd, 1) := by decide +kernel
theorem dX3_sumOfAreas_19 : decode cX3_sumOfAreas 19 = .ok (.dstore_n 1, 1) := by decide +kernel
theorem dX3_sumOfAreas_20 : decode cX3_sumOfAreas 20 = .ok (.iinc 3 1, 3) := by decide +kernel
theorem dX3_sumOfAreas_23 : decode cX3_sumOfAreas 23 = .ok (.goto (-19), 3) := by decide +kernel
theorem dX3_sumOfAreas_26 : decode cX3_sumOfAreas 26 = .ok (.dload_n 1, 1) := by decide +kernel
theorem dX3_sumOfAreas_27 : decode cX3_sumOfAreas 27 = .ok (.dreturn, 1) := by decide +kernel
theorem dX3_thinning_0 : decode cX3_thinning 0 = .ok (.aload_n 0, 1) := by decide +kernel
theorem dX3_thinning_1 : decode cX3_thinning 1 = .ok (.getfield 9, 3) := by decide +kernel
theorem dX3_thinning_4 : decode cX3_thinning 4 = .ok (.iconst 1, 1) := by decide +kernel
theorem dX3_thinning_5 : decode cX3_thinning 5 = .ok (.if_icmp .ne 5, 3) := by decide +kernel
theorem dX3_thinning_8 : decode cX3_thinning 8 = .ok (.dconst 0, 1) := by decide +kernel
theorem dX3_thinning_9 : decode cX3_thinning 9 = .ok (.dreturn, 1) := by decide +kernel
theorem dX3_thinning_10 : decode cX3_thinning 10 = .ok (.aload_n 0, 1) := by decide +kernel
theorem dX3_thinning_11 : decode cX3_thinning 11 = .ok (.getfield 22, 3) := by decide +kernel
theorem dX3_thinning_14 : decode cX3_thinning 14 = .ok (.iconst 0, 1) := by decide +kernel
theorem dX3_thinning_15 : decode cX3_thinning 15 = .ok (.daload, 1) := by decide +kernel
theorem dX3_thinning_16 : decode cX3_thinning 16 = .ok (.aload_n 0, 1) := by decide +kernel
theorem dX3_thinning_17 : decode cX3_thinning 17 = .ok (.getfield 22, 3) := by decide +kernel
theorem dX3_thinning_20 : decode cX3_thinning 20 = .ok (.aload_n 0, 1) := by decide +kernel
theorem dX3_thinning_21 : decode cX3_thinning 21 = .ok (.getfield 9, 3) := by decide +kernel
theorem dX3_thinning_24 : decode cX3_thinning 24 = .ok (.iconst 1, 1) := by decide +kernel
theorem dX3_thinning_25 : decode cX3_thinning 25 = .ok (.isub, 1) := by decide +kernel
theorem dX3_thinning_26 : decode cX3_thinning 26 = .ok (.daload, 1) := by decide +kernel
theorem dX3_thinning_27 : decode cX3_thinning 27 = .ok (.dsub, 1) := by decide +kernel
theorem dX3_thinning_28 : decode cX3_thinning 28 = .ok (.aload_n 0, 1) := by decide +kernel
theorem dX3_thinning_29 : decode cX3_thinning 29 = .ok (.getfield 9, 3) := by decide +kernel
theorem dX3_thinning_32 : decode cX3_thinning 32 = .ok (.iconst 1, 1) := by decide +kernel
theorem dX3_thinning_33 : decode cX3_thinning 33 = .ok (.isub, 1) := by decide +kernel
theorem dX3_thinning_34 : decode cX3_thinning 34 = .ok (.i2d, 1) := by decide +kernel
theorem dX3_thinning_35 : decode cX3_thinning 35 = .ok (.ddiv, 1) := by decide +kernel
theorem dX3_thinning_36 : decode cX3_thinning 36 = .ok (.dreturn, 1) := by decide +kernel
set_option maxRecDepth 20000 in
theorem ggX3_greatestBend_X3_straight : GoodIn wsX3_greatestBend wsX3_straight := goodIn_r _ [8, 1, 9, 10, 11, 12, 13, 14, 15] (by decide +kernel) (by decide +kernel)
set_option maxRecDepth 20000 in
theorem gX3_greatestBend_X3_straight : GoodIn wsX3_greatestBend (wsV RX3 53 RX3 yX3_straight wsX3_straight) := goodIn_app (goodIn_of _ (by decide +kernel)) ggX3_greatestBend_X3_straight
theorem dX3_greatestBend_0 : decode cX3_greatestBend 0 = .ok (.dconst 0, 1) := by decide +kernel
theorem dX3_greatestBend_1 : decode cX3_greatestBend 1 = .ok (.dstore_n 1, 1) := by decide +kernel
theorem dX3_greatestBend_2 : decode cX3_greatestBend 2 = .ok (.aload_n 0, 1) := by decide +kernel
theorem dX3_greatestBend_3 : decode cX3_greatestBend 3 = .ok (.getfield 9, 3) := by decide +kernel
theorem dX3_greatestBend_6 : decode cX3_greatestBend 6 = .ok (.iconst 1, 1) := by decide +kernel
theorem dX3_greatestBend_7 : decode cX3_greatestBend 7 = .ok (.if_icmp .ne 5, 3) := by decide +kernel
theorem dX3_greatestBend_10 : decode cX3_greatestBend 10 = .ok (.dload_n 1, 1) := by decide +kernel
theorem dX3_greatestBend_11 : decode cX3_greatestBend 11 = .ok (.dreturn, 1) := by decide +kernel
theorem dX3_greatestBend_12 : decode cX3_greatestBend 12 = .ok (.iconst 0, 1) := by decide +kernel
theorem dX3_greatestBend_13 : decode cX3_greatestBend 13 = .ok (.istore_n 3, 1) := by decide +kernel
theorem dX3_greatestBend_14 : decode cX3_greatestBend 14 = .ok (.iload_n 3, 1) := by decide +kernel
theorem dX3_greatestBend_15 : decode cX3_greatestBend 15 = .ok (.aload_n 0, 1) := by decide +kernel
theorem dX3_greatestBend_16 : decode cX3_greatestBend 16 = .ok (.getfield 9, 3) := by decide +kernel
theorem dX3_greatestBend_19 : decode cX3_greatestBend 19 = .ok (.if_icmp .ge 68, 3) := by decide +kernel
theorem dX3_greatestBend_22 : decode cX3_greatestBend 22 = .ok (.aload_n 0, 1) := by decide +kernel
theorem dX3_greatestBend_23 : decode cX3_greatestBend 23 = .ok (.getfield 15, 3) := by decide +kernel
theorem dX3_greatestBend_26 : decode cX3_greatestBend 26 = .ok (.iload_n 3, 1) := by decide +kernel
theorem dX3_greatestBend_27 : decode cX3_greatestBend 27 = .ok (.daload, 1) := by decide +kernel
theorem dX3_greatestBend_28 : decode cX3_greatestBend 28 = .ok (.aload_n 0, 1) := by decide +kernel
theorem dX3_greatestBend_29 : decode cX3_greatestBend 29 = .ok (.aload_n 0, 1) := by decide +kernel
theorem dX3_greatestBend_30 : decode cX3_greatestBend 30 = .ok (.getfield 15, 3) := by decide +kernel
theorem dX3_greatestBend_33 : decode cX3_greatestBend 33 = .ok (.iload_n 3, 1) := by decide +kernel
theorem dX3_greatestBend_34 : decode cX3_greatestBend 34 = .ok (.invokevirtual 53, 3) := by decide +kernel
theorem dX3_greatestBend_37 : decode cX3_greatestBend 37 = .ok (.dsub, 1) := by decide +kernel
theorem dX3_greatestBend_38 : decode cX3_greatestBend 38 = .ok (.dstore 4, 2) := by decide +kernel
theorem dX3_greatestBend_40 : decode cX3_greatestBend 40 = .ok (.aload_n 0, 1) := by decide +kernel
theorem dX3_greatestBend_41 : decode cX3_greatestBend 41 = .ok (.getfield 19, 3) := by decide +kernel
theorem dX3_greatestBend_44 : decode cX3_greatestBend 44 = .ok (.iload_n 3, 1) := by decide +kernel
theorem dX3_greatestBend_45 : decode cX3_greatestBend 45 = .ok (.daload, 1) := by decide +kernel
theorem dX3_greatestBend_46 : decode cX3_greatestBend 46 = .ok (.aload_n 0, 1) := by decide +kernel
theorem dX3_greatestBend_47 : decode cX3_greatestBend 47 = .ok (.aload_n 0, 1) := by decide +kernel
theorem dX3_greatestBend_48 : decode cX3_greatestBend 48 = .ok (.getfield 19, 3) := by decide +kernel
theorem dX3_greatestBend_51 : decode cX3_greatestBend 51 = .ok (.iload_n 3, 1) := by decide +kernel
theorem dX3_greatestBend_52 : decode cX3_greatestBend 52 = .ok (.invokevirtual 53, 3) := by decide +kernel
theorem dX3_greatestBend_55 : decode cX3_greatestBend 55 = .ok (.dsub, 1) := by decide +kernel
theorem dX3_greatestBend_56 : decode cX3_greatestBend 56 = .ok (.dstore 6, 2) := by decide +kernel
theorem dX3_greatestBend_58 : decode cX3_greatestBend 58 = .ok (.dload 4, 2) := by decide +kernel
theorem dX3_greatestBend_60 : decode cX3_greatestBend 60 = .ok (.dload 4, 2) := by decide +kernel
theorem dX3_greatestBend_62 : decode cX3_greatestBend 62 = .ok (.dmul, 1) := by decide +kernel
theorem dX3_greatestBend_63 : decode cX3_greatestBend 63 = .ok (.dload 6, 2) := by decide +kernel
theorem dX3_greatestBend_65 : decode cX3_greatestBend 65 = .ok (.dload 6, 2) := by decide +kernel
theorem dX3_greatestBend_67 : decode cX3_greatestBend 67 = .ok (.dmul, 1) := by decide +kernel
theorem dX3_greatestBend_68 : decode cX3_greatestBend 68 = .ok (.dadd, 1) := by decide +kernel
theorem dX3_greatestBend_69 : decode cX3_greatestBend 69 = .ok (.dstore 8, 2) := by decide +kernel
theorem dX3_greatestBend_71 : decode cX3_greatestBend 71 = .ok (.dload 8, 2) := by decide +kernel
theorem dX3_greatestBend_73 : decode cX3_greatestBend 73 = .ok (.dload_n 1, 1) := by decide +kernel
theorem dX3_greatestBend_74 : decode cX3_greatestBend 74 = .ok (.dcmp .l, 1) := by decide +kernel
theorem dX3_greatestBend_75 : decode cX3_greatestBend 75 = .ok (.ifCond .le 6, 3) := by decide +kernel
theorem dX3_greatestBend_78 : decode cX3_greatestBend 78 = .ok (.dload 8, 2) := by decide +kernel
theorem dX3_greatestBend_80 : decode cX3_greatestBend 80 = .ok (.dstore_n 1, 1) := by decide +kernel
theorem dX3_greatestBend_81 : decode cX3_greatestBend 81 = .ok (.iinc 3 1, 3) := by decide +kernel
theorem dX3_greatestBend_84 : decode cX3_greatestBend 84 = .ok (.goto (-70), 3) := by decide +kernel
theorem dX3_greatestBend_87 : decode cX3_greatestBend 87 = .ok (.dload_n 1, 1) := by decide +kernel
theorem dX3_greatestBend_88 : decode cX3_greatestBend 88 = .ok (.dreturn, 1) := by decide +kernel
theorem dX3_lastRadius_0 : decode cX3_lastRadius 0 = .ok (.aload_n 0, 1) := by decide +kernel
theorem dX3_lastRadius_1 : decode cX3_lastRadius 1 = .ok (.getfield 22, 3) := by decide +kernel
theorem dX3_lastRadius_4 : decode cX3_lastRadius 4 = .ok (.aload_n 0, 1) := by decide +kernel
theorem dX3_lastRadius_5 : decode cX3_lastRadius 5 = .ok (.getfield 9, 3) := by decide +kernel
theorem dX3_lastRadius_8 : decode cX3_lastRadius 8 = .ok (.iconst 1, 1) := by decide +kernel
theorem dX3_lastRadius_9 : decode cX3_lastRadius 9 = .ok (.isub, 1) := by decide +kernel
theorem dX3_lastRadius_10 : decode cX3_lastRadius 10 = .ok (.daload, 1) := by decide +kernel
theorem dX3_lastRadius_11 : decode cX3_lastRadius 11 = .ok (.dreturn, 1) := by decide +kernel
theorem dX3_straight_0 : decode cX3_straight 0 = .ok (.aload_n 1, 1) := by decide +kernel
theorem dX3_straight_1 : decode cX3_straight 1 = .ok (.iconst 0, 1) := by decide +kernel
theorem dX3_straight_2 : decode cX3_straight 2 = .ok (.daload, 1) := by decide +kernel
theorem dX3_straight_3 : decode cX3_straight 3 = .ok (.aload_n 1, 1) := by decide +kernel
theorem dX3_straight_4 : decode cX3_straight 4 = .ok (.aload_n 0, 1) := by decide +kernel
theorem dX3_straight_5 : decode cX3_straight 5 = .ok (.getfield 9, 3) := by decide +kernel
theorem dX3_straight_8 : decode cX3_straight 8 = .ok (.iconst 1, 1) := by decide +kernel
theorem dX3_straight_9 : decode cX3_straight 9 = .ok (.isub, 1) := by decide +kernel
theorem dX3_straight_10 : decode cX3_straight 10 = .ok (.daload, 1) := by decide +kernel
theorem dX3_straight_11 : decode cX3_straight 11 = .ok (.aload_n 1, 1) := by decide +kernel
theorem dX3_straight_12 : decode cX3_straight 12 = .ok (.iconst 0, 1) := by decide +kernel
theorem dX3_straight_13 : decode cX3_straight 13 = .ok (.daload, 1) := by decide +kernel
theorem dX3_straight_14 : decode cX3_straight 14 = .ok (.dsub, 1) := by decide +kernel
theorem dX3_straight_15 : decode cX3_straight 15 = .ok (.iload_n 2, 1) := by decide +kernel
theorem dX3_straight_16 : decode cX3_straight 16 = .ok (.i2d, 1) := by decide +kernel
theorem dX3_straight_17 : decode cX3_straight 17 = .ok (.dmul, 1) := by decide +kernel
theorem dX3_straight_18 : decode cX3_straight 18 = .ok (.aload_n 0, 1) := by decide +kernel
theorem dX3_straight_19 : decode cX3_straight 19 = .ok (.getfield 9, 3) := by decide +kernel
theorem dX3_straight_22 : decode cX3_straight 22 = .ok (.iconst 1, 1) := by decide +kernel
theorem dX3_straight_23 : decode cX3_straight 23 = .ok (.isub, 1) := by decide +kernel
theorem dX3_straight_24 : decode cX3_straight 24 = .ok (.i2d, 1) := by decide +kernel
theorem dX3_straight_25 : decode cX3_straight 25 = .ok (.ddiv, 1) := by decide +kernel
theorem dX3_straight_26 : decode cX3_straight 26 = .ok (.dadd, 1) := by decide +kernel
theorem dX3_straight_27 : decode cX3_straight 27 = .ok (.dreturn, 1) := by decide +kernel
theorem dX3_fittedBefore_0 : decode cX3_fittedBefore 0 = .ok (.iload_n 1, 1) := by decide +kernel
theorem dX3_fittedBefore_1 : decode cX3_fittedBefore 1 = .ok (.iconst 1, 1) := by decide +kernel
theorem dX3_fittedBefore_2 : decode cX3_fittedBefore 2 = .ok (.isub, 1) := by decide +kernel
theorem dX3_fittedBefore_3 : decode cX3_fittedBefore 3 = .ok (.istore_n 2, 1) := by decide +kernel
theorem dX3_fittedBefore_4 : decode cX3_fittedBefore 4 = .ok (.iload_n 2, 1) := by decide +kernel
theorem dX3_fittedBefore_5 : decode cX3_fittedBefore 5 = .ok (.ifCond .lt 20, 3) := by decide +kernel
theorem dX3_fittedBefore_8 : decode cX3_fittedBefore 8 = .ok (.aload_n 0, 1) := by decide +kernel
theorem dX3_fittedBefore_9 : decode cX3_fittedBefore 9 = .ok (.getfield 28, 3) := by decide +kernel
theorem dX3_fittedBefore_12 : decode cX3_fittedBefore 12 = .ok (.iload_n 2, 1) := by decide +kernel
theorem dX3_fittedBefore_13 : decode cX3_fittedBefore 13 = .ok (.baload, 1) := by decide +kernel
theorem dX3_fittedBefore_14 : decode cX3_fittedBefore 14 = .ok (.ifCond .eq 5, 3) := by decide +kernel
theorem dX3_fittedBefore_17 : decode cX3_fittedBefore 17 = .ok (.iload_n 2, 1) := by decide +kernel
theorem dX3_fittedBefore_18 : decode cX3_fittedBefore 18 = .ok (.ireturn, 1) := by decide +kernel
theorem dX3_fittedBefore_19 : decode cX3_fittedBefore 19 = .ok (.iinc 2 (-1), 3) := by decide +kernel
theorem dX3_fittedBefore_22 : decode cX3_fittedBefore 22 = .ok (.goto (-18), 3) := by decide +kernel
theorem dX3_fittedBefore_25 : decode cX3_fittedBefore 25 = .ok (.iconst (-1), 1) := by decide +kernel
theorem dX3_fittedBefore_26 : decode cX3_fittedBefore 26 = .ok (.ireturn, 1) := by decide +kernel
theorem dX3_fittedBehind_0 : decode cX3_fittedBehind 0 = .ok (.iload_n 1, 1) := by decide +kernel
theorem dX3_fittedBehind_1 : decode cX3_fittedBehind 1 = .ok (.iconst 1, 1) := by decide +kernel
theorem dX3_fittedBehind_2 : decode cX3_fittedBehind 2 = .ok (.iadd, 1) := by decide +kernel
theorem dX3_fittedBehind_3 : decode cX3_fittedBehind 3 = .ok (.istore_n 2, 1) := by decide +kernel
theorem dX3_fittedBehind_4 : decode cX3_fittedBehind 4 = .ok (.iload_n 2, 1) := by decide +kernel
theorem dX3_fittedBehind_5 : decode cX3_fittedBehind 5 = .ok (.aload_n 0, 1) := by decide +kernel
theorem dX3_fittedBehind_6 : decode cX3_fittedBehind 6 = .ok (.getfield 9, 3) := by decide +kernel
theorem dX3_fittedBehind_9 : decode cX3_fittedBehind 9 = .ok (.if_icmp .ge 20, 3) := by decide +kernel
theorem dX3_fittedBehind_12 : decode cX3_fittedBehind 12 = .ok (.aload_n 0, 1) := by decide +kernel
theorem dX3_fittedBehind_13 : decode cX3_fittedBehind 13 = .ok (.getfield 28, 3) := by decide +kernel
theorem dX3_fittedBehind_16 : decode cX3_fittedBehind 16 = .ok (.iload_n 2, 1) := by decide +kernel
theorem dX3_fittedBehind_17 : decode cX3_fittedBehind 17 = .ok (.baload, 1) := by decide +kernel
theorem dX3_fittedBehind_18 : decode cX3_fittedBehind 18 = .ok (.ifCond .eq 5, 3) := by decide +kernel
theorem dX3_fittedBehind_21 : decode cX3_fittedBehind 21 = .ok (.iload_n 2, 1) := by decide +kernel
theorem dX3_fittedBehind_22 : decode cX3_fittedBehind 22 = .ok (.ireturn, 1) := by decide +kernel
theorem dX3_fittedBehind_23 : decode cX3_fittedBehind 23 = .ok (.iinc 2 1, 3) := by decide +kernel
theorem dX3_fittedBehind_26 : decode cX3_fittedBehind 26 = .ok (.goto (-22), 3) := by decide +kernel
theorem dX3_fittedBehind_29 : decode cX3_fittedBehind 29 = .ok (.iconst (-1), 1) := by decide +kernel
theorem dX3_fittedBehind_30 : decode cX3_fittedBehind 30 = .ok (.ireturn, 1) := by decide +kernel
set_option maxRecDepth 20000 in
theorem ggX3_mendOne_X3_between : GoodIn wsX3_mendOne wsX3_between := goodIn_r _ [8] (by decide +kernel) (by decide +kernel)
set_option maxRecDepth 20000 in
theorem gX3_mendOne_X3_between : GoodIn wsX3_mendOne (va_wsS RX3 57 yX3_between wsX3_between) := goodIn_app (goodIn_of _ (by decide +kernel)) ggX3_mendOne_X3_between
theorem dX3_mendOne_0 : decode cX3_mendOne 0 = .ok (.iload_n 2, 1) := by decide +kernel
theorem dX3_mendOne_1 : decode cX3_mendOne 1 = .ok (.iconst (-1), 1) := by decide +kernel
theorem dX3_mendOne_2 : decode cX3_mendOne 2 = .ok (.if_icmp .ne 7, 3) := by decide +kernel
theorem dX3_mendOne_5 : decode cX3_mendOne 5 = .ok (.iload_n 3, 1) := by decide +kernel
theorem dX3_mendOne_6 : decode cX3_mendOne 6 = .ok (.goto 4, 3) := by decide +kernel
theorem dX3_mendOne_9 : decode cX3_mendOne 9 = .ok (.iload_n 2, 1) := by decide +kernel
theorem dX3_mendOne_10 : decode cX3_mendOne 10 = .ok (.istore 4, 2) := by decide +kernel
theorem dX3_mendOne_12 : decode cX3_mendOne 12 = .ok (.iload_n 3, 1) := by decide +kernel
theorem dX3_mendOne_13 : decode cX3_mendOne 13 = .ok (.iconst (-1), 1) := by decide +kernel
theorem dX3_mendOne_14 : decode cX3_mendOne 14 = .ok (.if_icmp .ne 7, 3) := by decide +kernel
theorem dX3_mendOne_17 : decode cX3_mendOne 17 = .ok (.iload_n 2, 1) := by decide +kernel
theorem dX3_mendOne_18 : decode cX3_mendOne 18 = .ok (.goto 4, 3) := by decide +kernel
theorem dX3_mendOne_21 : decode cX3_mendOne 21 = .ok (.iload_n 3, 1) := by decide +kernel
theorem dX3_mendOne_22 : decode cX3_mendOne 22 = .ok (.istore 5, 2) := by decide +kernel
theorem dX3_mendOne_24 : decode cX3_mendOne 24 = .ok (.iload 4, 2) := by decide +kernel
theorem dX3_mendOne_26 : decode cX3_mendOne 26 = .ok (.iconst (-1), 1) := by decide +kernel
theorem dX3_mendOne_27 : decode cX3_mendOne 27 = .ok (.if_icmp .eq 9, 3) := by decide +kernel
theorem dX3_mendOne_30 : decode cX3_mendOne 30 = .ok (.iload 5, 2) := by decide +kernel
theorem dX3_mendOne_32 : decode cX3_mendOne 32 = .ok (.iconst (-1), 1) := by decide +kernel
theorem dX3_mendOne_33 : decode cX3_mendOne 33 = .ok (.if_icmp .ne 4, 3) := by decide +kernel
theorem dX3_mendOne_36 : decode cX3_mendOne 36 = .ok (.return_, 1) := by decide +kernel
theorem dX3_mendOne_37 : decode cX3_mendOne 37 = .ok (.aload_n 0, 1) := by decide +kernel
theorem dX3_mendOne_38 : decode cX3_mendOne 38 = .ok (.getfield 15, 3) := by decide +kernel
theorem dX3_mendOne_41 : decode cX3_mendOne 41 = .ok (.iload_n 1, 1) := by decide +kernel
theorem dX3_mendOne_42 : decode cX3_mendOne 42 = .ok (.aload_n 0, 1) := by decide +kernel
theorem dX3_mendOne_43 : decode cX3_mendOne 43 = .ok (.getfield 15, 3) := by decide +kernel
theorem dX3_mendOne_46 : decode cX3_mendOne 46 = .ok (.iload_n 1, 1) := by decide +kernel
theorem dX3_mendOne_47 : decode cX3_mendOne 47 = .ok (.iload 4, 2) := by decide +kernel
theorem dX3_mendOne_49 : decode cX3_mendOne 49 = .ok (.iload 5, 2) := by decide +kernel
theorem dX3_mendOne_51 : decode cX3_mendOne 51 = .ok (.invokestatic 57, 3) := by decide +kernel
theorem dX3_mendOne_54 : decode cX3_mendOne 54 = .ok (.dastore, 1) := by decide +kernel
theorem dX3_mendOne_55 : decode cX3_mendOne 55 = .ok (.aload_n 0, 1) := by decide +kernel
theorem dX3_mendOne_56 : decode cX3_mendOne 56 = .ok (.getfield 19, 3) := by decide +kernel
theorem dX3_mendOne_59 : decode cX3_mendOne 59 = .ok (.iload_n 1, 1) := by decide +kernel
theorem dX3_mendOne_60 : decode cX3_mendOne 60 = .ok (.aload_n 0, 1) := by decide +kernel
theorem dX3_mendOne_61 : decode cX3_mendOne 61 = .ok (.getfield 19, 3) := by decide +kernel
theorem dX3_mendOne_64 : decode cX3_mendOne 64 = .ok (.iload_n 1, 1) := by decide +kernel
theorem dX3_mendOne_65 : decode cX3_mendOne 65 = .ok (.iload 4, 2) := by decide +kernel
theorem dX3_mendOne_67 : decode cX3_mendOne 67 = .ok (.iload 5, 2) := by decide +kernel
theorem dX3_mendOne_69 : decode cX3_mendOne 69 = .ok (.invokestatic 57, 3) := by decide +kernel
theorem dX3_mendOne_72 : decode cX3_mendOne 72 = .ok (.dastore, 1) := by decide +kernel
theorem dX3_mendOne_73 : decode cX3_mendOne 73 = .ok (.aload_n 0, 1) := by decide +kernel
theorem dX3_mendOne_74 : decode cX3_mendOne 74 = .ok (.getfield 22, 3) := by decide +kernel
theorem dX3_mendOne_77 : decode cX3_mendOne 77 = .ok (.iload_n 1, 1) := by decide +kernel
theorem dX3_mendOne_78 : decode cX3_mendOne 78 = .ok (.aload_n 0, 1) := by decide +kernel
theorem dX3_mendOne_79 : decode cX3_mendOne 79 = .ok (.getfield 22, 3) := by decide +kernel
theorem dX3_mendOne_82 : decode cX3_mendOne 82 = .ok (.iload_n 1, 1) := by decide +kernel
theorem dX3_mendOne_83 : decode cX3_mendOne 83 = .ok (.iload 4, 2) := by decide +kernel
theorem dX3_mendOne_85 : decode cX3_mendOne 85 = .ok (.iload 5, 2) := by decide +kernel
theorem dX3_mendOne_87 : decode cX3_mendOne 87 = .ok (.invokestatic 57, 3) := by decide +kernel
theorem dX3_mendOne_90 : decode cX3_mendOne 90 = .ok (.dastore, 1) := by decide +kernel
theorem dX3_mendOne_91 : decode cX3_mendOne 91 = .ok (.aload_n 0, 1) := by decide +kernel
theorem dX3_mendOne_92 : decode cX3_mendOne 92 = .ok (.getfield 25, 3) := by decide +kernel
theorem dX3_mendOne_95 : decode cX3_mendOne 95 = .ok (.iload_n 1, 1) := by decide +kernel
theorem dX3_mendOne_96 : decode cX3_mendOne 96 = .ok (.dconst 0, 1) := by decide +kernel
theorem dX3_mendOne_97 : decode cX3_mendOne 97 = .ok (.dastore, 1) := by decide +kernel
theorem dX3_mendOne_98 : decode cX3_mendOne 98 = .ok (.return_, 1) := by decide +kernel
theorem dX3_between_0 : decode cX3_between 0 = .ok (.iload_n 2, 1) := by decide +kernel
theorem dX3_between_1 : decode cX3_between 1 = .ok (.iload_n 3, 1) := by decide +kernel
theorem dX3_between_2 : decode cX3_between 2 = .ok (.if_icmp .ne 7, 3) := by decide +kernel
theorem dX3_between_5 : decode cX3_between 5 = .ok (.aload_n 0, 1) := by decide +kernel
theorem dX3_between_6 : decode cX3_between 6 = .ok (.iload_n 2, 1) := by decide +kernel
theorem dX3_between_7 : decode cX3_between 7 = .ok (.daload, 1) := by decide +kernel
theorem dX3_between_8 : decode cX3_between 8 = .ok (.dreturn, 1) := by decide +kernel
theorem dX3_between_9 : decode cX3_between 9 = .ok (.aload_n 0, 1) := by decide +kernel
theorem dX3_between_10 : decode cX3_between 10 = .ok (.iload_n 2, 1) := by decide +kernel
theorem dX3_between_11 : decode cX3_between 11 = .ok (.daload, 1) := by decide +kernel
theorem dX3_between_12 : decode cX3_between 12 = .ok (.aload_n 0, 1) := by decide +kernel
theorem dX3_between_13 : decode cX3_between 13 = .ok (.iload_n 3, 1) := by decide +kernel
theorem dX3_between_14 : decode cX3_between 14 = .ok (.daload, 1) := by decide +kernel
theorem dX3_between_15 : decode cX3_between 15 = .ok (.aload_n 0, 1) := by decide +kernel
theorem dX3_between_16 : decode cX3_between 16 = .ok (.iload_n 2, 1) := by decide +kernel
theorem dX3_between_17 : decode cX3_between 17 = .ok (.daload, 1) := by decide +kernel
theorem dX3_between_18 : decode cX3_between 18 = .ok (.dsub, 1) := by decide +kernel
theorem dX3_between_19 : decode cX3_between 19 = .ok (.iload_n 1, 1) := by decide +kernel
theorem dX3_between_20 : decode cX3_between 20 = .ok (.iload_n 2, 1) := by decide +kernel
theorem dX3_between_21 : decode cX3_between 21 = .ok (.isub, 1) := by decide +kernel
theorem dX3_between_22 : decode cX3_between 22 = .ok (.i2d, 1) := by decide +kernel
theorem dX3_between_23 : decode cX3_between 23 = .ok (.dmul, 1) := by decide +kernel
theorem dX3_between_24 : decode cX3_between 24 = .ok (.iload_n 3, 1) := by decide +kernel
theorem dX3_between_25 : decode cX3_between 25 = .ok (.iload_n 2, 1) := by decide +kernel
theorem dX3_between_26 : decode cX3_between 26 = .ok (.isub, 1) := by decide +kernel
theorem dX3_between_27 : decode cX3_between 27 = .ok (.i2d, 1) := by decide +kernel
theorem dX3_between_28 : decode cX3_between 28 = .ok (.ddiv, 1) := by decide +kernel
theorem dX3_between_29 : decode cX3_between 29 = .ok (.dadd, 1) := by decide +kernel
theorem dX3_between_30 : decode cX3_between 30 = .ok (.dreturn, 1) := by decide +kernel
set_option maxRecDepth 20000 in
theorem ggX4_init_X4_nearest : GoodIn wsX4_init wsX4_nearest := goodIn_r _ [25, 26, 27, 28, 29, 30, 31, 32] (by decide +kernel) (by decide +kernel)
set_option maxRecDepth 20000 in
theorem gX4_init_X4_nearest : GoodIn wsX4_init (va_wsS RX4 9 yX4_nearest wsX4_nearest) := goodIn_app (goodIn_of _ (by decide +kernel)) ggX4_init_X4_nearest
set_option maxRecDepth 20000 in
theorem ggX4_init_X2_init : GoodIn wsX4_init wsX2_init := goodIn_r _ [35, 36, 2, 3, 37, 38, 39, 40, 41, 42, 43, 44, 45, 46, 24, 47, 48, 79, 80, 81, 82, 83, 84, 85] (by decide +kernel) (by decide +kernel)
set_option maxRecDepth 20000 in
theorem gX4_init_X2_init : GoodIn wsX4_init (wsX2_init) := ggX4_init_X2_init
set_option maxRecDepth 20000 in
theorem ggX4_init_X3_init : GoodIn wsX4_init wsX3_init := goodIn_r _ [51, 52, 2, 3, 53, 38, 54, 55, 56, 57, 42, 58, 86, 87, 88, 89, 90, 91, 92] (by decide +kernel) (by decide +kernel)
set_option maxRecDepth 20000 in
theorem gX4_init_X3_init : GoodIn wsX4_init (wsX3_init) := ggX4_init_X3_init
set_option maxRecDepth 20000 in
theorem ggX4_init_X0_init : GoodIn wsX4_init wsX0_init := goodIn_r _ [61, 62, 2, 3, 38, 63, 64, 93, 94, 95] (by decide +kernel) (by decide +kernel)
set_option maxRecDepth 20000 in
theorem gX4_init_X0_init : GoodIn wsX4_init (wsX0_init) := ggX4_init_X0_init
set_option maxRecDepth 20000 in
theorem ggX4_init_X1_init : GoodIn wsX4_init wsX1_init := goodIn_r _ [66, 67, 2, 3, 68, 69, 38, 70, 71, 96, 97, 98, 99] (by decide +kernel) (by decide +kernel)
set_option maxRecDepth 20000 in
theorem gX4_init_X1_init_n47 : GoodIn wsX4_init (wsX1_init) := ggX4_init_X1_init
theorem dX4_init_0 : decode cX4_init 0 = .ok (.aload_n 0, 1) := by decide +kernel
theorem dX4_init_1 : decode cX4_init 1 = .ok (.invokespecial 1, 3) := by decide +kernel
theorem dX4_init_4 : decode cX4_init 4 = .ok (.aload_n 0, 1) := by decide +kernel
theorem dX4_init_5 : decode cX4_init 5 = .ok (.iload_n 1, 1) := by decide +kernel
theorem dX4_init_6 : decode cX4_init 6 = .ok (.bipush 16, 2) := by decide +kernel
theorem dX4_init_8 : decode cX4_init 8 = .ok (.invokestatic 9, 3) := by decide +kernel
theorem dX4_init_11 : decode cX4_init 11 = .ok (.putfield 13, 3) := by decide +kernel
theorem dX4_init_14 : decode cX4_init 14 = .ok (.aload_n 0, 1) := by decide +kernel
theorem dX4_init_15 : decode cX4_init 15 = .ok (.iload_n 2, 1) := by decide +kernel
theorem dX4_init_16 : decode cX4_init 16 = .ok (.bipush 8, 2) := by decide +kernel
theorem dX4_init_18 : decode cX4_init 18 = .ok (.invokestatic 9, 3) := by decide +kernel
theorem dX4_init_21 : decode cX4_init 21 = .ok (.putfield 17, 3) := by decide +kernel
theorem dX4_init_24 : decode cX4_init 24 = .ok (.aload_n 0, 1) := by decide +kernel
theorem dX4_init_25 : decode cX4_init 25 = .ok (.new 20, 3) := by decide +kernel
theorem dX4_init_28 : decode cX4_init 28 = .ok (.dup, 1) := by decide +kernel
theorem dX4_init_29 : decode cX4_init 29 = .ok (.aload_n 0, 1) := by decide +kernel
theorem dX4_init_30 : decode cX4_init 30 = .ok (.getfield 13, 3) := by decide +kernel
theorem dX4_init_33 : decode cX4_init 33 = .ok (.aload_n 0, 1) := by decide +kernel
theorem dX4_init_34 : decode cX4_init 34 = .ok (.getfield 17, 3) := by decide +kernel
theorem dX4_init_37 : decode cX4_init 37 = .ok (.invokespecial 22, 3) := by decide +kernel
theorem dX4_init_40 : decode cX4_init 40 = .ok (.putfield 25, 3) := by decide +kernel
theorem dX4_init_43 : decode cX4_init 43 = .ok (.aload_n 0, 1) := by decide +kernel
theorem dX4_init_44 : decode cX4_init 44 = .ok (.new 29, 3) := by decide +kernel
theorem dX4_init_47 : decode cX4_init 47 = .ok (.dup, 1) := by decide +kernel
theorem dX4_init_48 : decode cX4_init 48 = .ok (.aload_n 0, 1) := by decide +kernel
theorem dX4_init_49 : decode cX4_init 49 = .ok (.getfield 13, 3) := by decide +kernel
theorem dX4_init_52 : decode cX4_init 52 = .ok (.invokespecial 31, 3) := by decide +kernel
theorem dX4_init_55 : decode cX4_init 55 = .ok (.putfield 34, 3) := by decide +kernel
theorem dX4_init_58 : decode cX4_init 58 = .ok (.aload_n 0, 1) := by decide +kernel
theorem dX4_init_59 : decode cX4_init 59 = .ok (.new 38, 3) := by decide +kernel
theorem dX4_init_62 : decode cX4_init 62 = .ok (.dup, 1) := by decide +kernel
theorem dX4_init_63 : decode cX4_init 63 = .ok (.aload_n 0, 1) := by decide +kernel
theorem dX4_init_64 : decode cX4_init 64 = .ok (.getfield 13, 3) := by decide +kernel
theorem dX4_init_67 : decode cX4_init 67 = .ok (.invokespecial 40, 3) := by decide +kernel
theorem dX4_init_70 : decode cX4_init 70 = .ok (.putfield 41, 3) := by decide +kernel
theorem dX4_init_73 : decode cX4_init 73 = .ok (.aload_n 0, 1) := by decide +kernel
theorem dX4_init_74 : decode cX4_init 74 = .ok (.new 45, 3) := by decide +kernel
theorem dX4_init_77 : decode cX4_init 77 = .ok (.dup, 1) := by decide +kernel
theorem dX4_init_78 : decode cX4_init 78 = .ok (.invokespecial 47, 3) := by decide +kernel
theorem dX4_init_81 : decode cX4_init 81 = .ok (.putfield 48, 3) := by decide +kernel
theorem dX4_init_84 : decode cX4_init 84 = .ok (.return_, 1) := by decide +kernel
set_option maxRecDepth 20000 in
theorem ggX4_aim_X4_needView : GoodIn wsX4_aim wsX4_needView := goodIn_r _ [9, 10, 11, 12, 13, 28, 29, 30, 31, 32, 33, 34, 35, 36, 37, 38, 39, 40] (by decide +kernel) (by decide +kernel)
set_option maxRecDepth 20000 in
theorem gX4_aim_X4_needView : GoodIn wsX4_aim (wsV RX4 52 RX4 yX4_needView wsX4_needView) := goodIn_app (goodIn_of _ (by decide +kernel)) ggX4_aim_X4_needView
set_option maxRecDepth 20000 in
theorem ggX4_aim_X4_within : GoodIn wsX4_aim wsX4_within := goodIn_r _ [16] (by decide +kernel) (by decide +kernel)
set_option maxRecDepth 20000 in
theorem gX4_aim_X4_within : GoodIn wsX4_aim (va_wsS RX4 55 yX4_within wsX4_within) := goodIn_app (goodIn_of _ (by decide +kernel)) ggX4_aim_X4_within
set_option maxRecDepth 20000 in
theorem ggX4_aim_X2_direct : GoodIn wsX4_aim wsX2_direct := goodIn_r _ [21, 22, 23, 24, 25, 8, 26, 27, 41, 42, 43, 44, 45, 46, 47] (by decide +kernel) (by decide +kernel)
set_option maxRecDepth 20000 in
theorem gX4_aim_X2_direct : GoodIn wsX4_aim (wsV RX4 68 RX2 yX2_direct wsX2_direct) := goodIn_app (goodIn_of _ (by decide +kernel)) ggX4_aim_X2_direct
theorem dX4_aim_0 : decode cX4_aim 0 = .ok (.aload_n 0, 1) := by decide +kernel
theorem dX4_aim_1 : decode cX4_aim 1 = .ok (.iload_n 1, 1) := by decide +kernel
theorem dX4_aim_2 : decode cX4_aim 2 = .ok (.invokevirtual 52, 3) := by decide +kernel
theorem dX4_aim_5 : decode cX4_aim 5 = .ok (.dload_n 2, 1) := by decide +kernel
theorem dX4_aim_6 : decode cX4_aim 6 = .ok (.bipush 16, 2) := by decide +kernel
theorem dX4_aim_8 : decode cX4_aim 8 = .ok (.invokestatic 55, 3) := by decide +kernel
theorem dX4_aim_11 : decode cX4_aim 11 = .ok (.ifCond .eq 13, 3) := by decide +kernel
theorem dX4_aim_14 : decode cX4_aim 14 = .ok (.dload 4, 2) := by decide +kernel
theorem dX4_aim_16 : decode cX4_aim 16 = .ok (.bipush 16, 2) := by decide +kernel
theorem dX4_aim_18 : decode cX4_aim 18 = .ok (.invokestatic 55, 3) := by decide +kernel
theorem dX4_aim_21 : decode cX4_aim 21 = .ok (.ifCond .ne 13, 3) := by decide +kernel
theorem dX4_aim_24 : decode cX4_aim 24 = .ok (.new 59, 3) := by decide +kernel
theorem dX4_aim_27 : decode cX4_aim 27 = .ok (.dup, 1) := by decide +kernel
theorem dX4_aim_28 : decode cX4_aim 28 = .ok (.ldc 61, 2) := by decide +kernel
theorem dX4_aim_30 : decode cX4_aim 30 = .ok (.invokespecial 63, 3) := by decide +kernel
theorem dX4_aim_33 : decode cX4_aim 33 = .ok (.athrow, 1) := by decide +kernel
theorem dX4_aim_34 : decode cX4_aim 34 = .ok (.dload_n 2, 1) := by decide +kernel
theorem dX4_aim_35 : decode cX4_aim 35 = .ok (.dconst 0, 1) := by decide +kernel
theorem dX4_aim_36 : decode cX4_aim 36 = .ok (.dcmp .l, 1) := by decide +kernel
theorem dX4_aim_37 : decode cX4_aim 37 = .ok (.ifCond .ne 20, 3) := by decide +kernel
theorem dX4_aim_40 : decode cX4_aim 40 = .ok (.dload 4, 2) := by decide +kernel
theorem dX4_aim_42 : decode cX4_aim 42 = .ok (.dconst 0, 1) := by decide +kernel
theorem dX4_aim_43 : decode cX4_aim 43 = .ok (.dcmp .l, 1) := by decide +kernel
theorem dX4_aim_44 : decode cX4_aim 44 = .ok (.ifCond .ne 13, 3) := by decide +kernel
theorem dX4_aim_47 : decode cX4_aim 47 = .ok (.new 59, 3) := by decide +kernel
theorem dX4_aim_50 : decode cX4_aim 50 = .ok (.dup, 1) := by decide +kernel
theorem dX4_aim_51 : decode cX4_aim 51 = .ok (.ldc 66, 2) := by decide +kernel
theorem dX4_aim_53 : decode cX4_aim 53 = .ok (.invokespecial 63, 3) := by decide +kernel
theorem dX4_aim_56 : decode cX4_aim 56 = .ok (.athrow, 1) := by decide +kernel
theorem dX4_aim_57 : decode cX4_aim 57 = .ok (.aload_n 0, 1) := by decide +kernel
theorem dX4_aim_58 : decode cX4_aim 58 = .ok (.getfield 25, 3) := by decide +kernel
theorem dX4_aim_61 : decode cX4_aim 61 = .ok (.iload_n 1, 1) := by decide +kernel
theorem dX4_aim_62 : decode cX4_aim 62 = .ok (.dload_n 2, 1) := by decide +kernel
theorem dX4_aim_63 : decode cX4_aim 63 = .ok (.dload 4, 2) := by decide +kernel
theorem dX4_aim_65 : decode cX4_aim 65 = .ok (.invokevirtual 68, 3) := by decide +kernel
theorem dX4_aim_68 : decode cX4_aim 68 = .ok (.aload_n 0, 1) := by decide +kernel
theorem dX4_aim_69 : decode cX4_aim 69 = .ok (.iconst 0, 1) := by decide +kernel
theorem dX4_aim_70 : decode cX4_aim 70 = .ok (.putfield 72, 3) := by decide +kernel
theorem dX4_aim_73 : decode cX4_aim 73 = .ok (.return_, 1) := by decide +kernel
set_option maxRecDepth 20000 in
theorem ggX4_shadow_X4_needSlice : GoodIn wsX4_shadow wsX4_needSlice := goodIn_r _ [9, 10, 11, 12, 13, 36, 37, 38, 39, 40, 41, 42, 43, 44, 45, 46, 47, 48] (by decide +kernel) (by decide +kernel)
set_option maxRecDepth 20000 in
theorem gX4_shadow_X4_needSlice : GoodIn wsX4_shadow (wsV RX4 76 RX4 yX4_needSlice wsX4_needSlice) := goodIn_app (goodIn_of _ (by decide +kernel)) ggX4_shadow_X4_needSlice
set_option maxRecDepth 20000 in
theorem ggX4_shadow_X4_needView : GoodIn wsX4_shadow wsX4_needView := goodIn_r _ [17, 18, 11, 12, 13, 36, 37, 38, 39, 40, 41, 42, 43, 44, 45, 46, 47, 48] (by decide +kernel) (by decide +kernel)
set_option maxRecDepth 20000 in
theorem gX4_shadow_X4_needView : GoodIn wsX4_shadow (wsV RX4 52 RX4 yX4_needView wsX4_needView) := goodIn_app (goodIn_of _ (by decide +kernel)) ggX4_shadow_X4_needView
set_option maxRecDepth 20000 in
theorem ggX4_shadow_X4_within : GoodIn wsX4_shadow wsX4_within := goodIn_r _ [21] (by decide +kernel) (by decide +kernel)
set_option maxRecDepth 20000 in
theorem gX4_shadow_X4_within : GoodIn wsX4_shadow (va_wsS RX4 55 yX4_within wsX4_within) := goodIn_app (goodIn_of _ (by decide +kernel)) ggX4_shadow_X4_within
set_option maxRecDepth 20000 in
theorem ggX4_shadow_X2_cast : GoodIn wsX4_shadow wsX2_cast := goodIn_r _ [26, 27, 28, 29, 30, 31, 32, 33, 25, 34, 35, 49, 50, 51, 52, 53, 54, 55] (by decide +kernel) (by decide +kernel)
set_option maxRecDepth 20000 in
theorem gX4_shadow_X2_cast : GoodIn wsX4_shadow (wsV RX4 83 RX2 yX2_cast wsX2_cast) := goodIn_app (goodIn_of _ (by decide +kernel)) ggX4_shadow_X2_cast
theorem dX4_shadow_0 : decode cX4_shadow 0 = .ok (.aload_n 0, 1) := by decide +kernel
theorem dX4_shadow_1 : decode cX4_shadow 1 = .ok (.iload_n 1, 1) := by decide +kernel
theorem dX4_shadow_2 : decode cX4_shadow 2 = .ok (.invokevirtual 76, 3) := by decide +kernel
theorem dX4_shadow_5 : decode cX4_shadow 5 = .ok (.aload_n 0, 1) := by decide +kernel
theorem dX4_shadow_6 : decode cX4_shadow 6 = .ok (.iload_n 2, 1) := by decide +kernel
theorem dX4_shadow_7 : decode cX4_shadow 7 = .ok (.invokevirtual 52, 3) := by decide +kernel
theorem dX4_shadow_10 : decode cX4_shadow 10 = .ok (.dload_n 3, 1) := by decide +kernel
theorem dX4_shadow_11 : decode cX4_shadow 11 = .ok (.sipush 1000, 3) := by decide +kernel
theorem dX4_shadow_14 : decode cX4_shadow 14 = .ok (.invokestatic 55, 3) := by decide +kernel
theorem dX4_shadow_17 : decode cX4_shadow 17 = .ok (.ifCond .eq 14, 3) := by decide +kernel
theorem dX4_shadow_20 : decode cX4_shadow 20 = .ok (.dload 5, 2) := by decide +kernel
theorem dX4_shadow_22 : decode cX4_shadow 22 = .ok (.sipush 1000, 3) := by decide +kernel
theorem dX4_shadow_25 : decode cX4_shadow 25 = .ok (.invokestatic 55, 3) := by decide +kernel
theorem dX4_shadow_28 : decode cX4_shadow 28 = .ok (.ifCond .ne 13, 3) := by decide +kernel
theorem dX4_shadow_31 : decode cX4_shadow 31 = .ok (.new 59, 3) := by decide +kernel
theorem dX4_shadow_34 : decode cX4_shadow 34 = .ok (.dup, 1) := by decide +kernel
theorem dX4_shadow_35 : decode cX4_shadow 35 = .ok (.ldc 79, 2) := by decide +kernel
theorem dX4_shadow_37 : decode cX4_shadow 37 = .ok (.invokespecial 63, 3) := by decide +kernel
theorem dX4_shadow_40 : decode cX4_shadow 40 = .ok (.athrow, 1) := by decide +kernel
theorem dX4_shadow_41 : decode cX4_shadow 41 = .ok (.dload 5, 2) := by decide +kernel
theorem dX4_shadow_43 : decode cX4_shadow 43 = .ok (.dload_n 3, 1) := by decide +kernel
theorem dX4_shadow_44 : decode cX4_shadow 44 = .ok (.dcmp .g, 1) := by decide +kernel
theorem dX4_shadow_45 : decode cX4_shadow 45 = .ok (.ifCond .ge 13, 3) := by decide +kernel
theorem dX4_shadow_48 : decode cX4_shadow 48 = .ok (.new 59, 3) := by decide +kernel
theorem dX4_shadow_51 : decode cX4_shadow 51 = .ok (.dup, 1) := by decide +kernel
theorem dX4_shadow_52 : decode cX4_shadow 52 = .ok (.ldc 81, 2) := by decide +kernel
theorem dX4_shadow_54 : decode cX4_shadow 54 = .ok (.invokespecial 63, 3) := by decide +kernel
theorem dX4_shadow_57 : decode cX4_shadow 57 = .ok (.athrow, 1) := by decide +kernel
theorem dX4_shadow_58 : decode cX4_shadow 58 = .ok (.aload_n 0, 1) := by decide +kernel
theorem dX4_shadow_59 : decode cX4_shadow 59 = .ok (.getfield 25, 3) := by decide +kernel
theorem dX4_shadow_62 : decode cX4_shadow 62 = .ok (.iload_n 1, 1) := by decide +kernel
theorem dX4_shadow_63 : decode cX4_shadow 63 = .ok (.iload_n 2, 1) := by decide +kernel
theorem dX4_shadow_64 : decode cX4_shadow 64 = .ok (.dload_n 3, 1) := by decide +kernel
theorem dX4_shadow_65 : decode cX4_shadow 65 = .ok (.dload 5, 2) := by decide +kernel
theorem dX4_shadow_67 : decode cX4_shadow 67 = .ok (.invokevirtual 83, 3) := by decide +kernel
theorem dX4_shadow_70 : decode cX4_shadow 70 = .ok (.aload_n 0, 1) := by decide +kernel
theorem dX4_shadow_71 : decode cX4_shadow 71 = .ok (.iconst 0, 1) := by decide +kernel
theorem dX4_shadow_72 : decode cX4_shadow 72 = .ok (.putfield 72, 3) := by decide +kernel
theorem dX4_shadow_75 : decode cX4_shadow 75 = .ok (.return_, 1) := by decide +kernel
set_option maxRecDepth 20000 in
theorem ggX4_lift_X4_needSlice : GoodIn wsX4_lift wsX4_needSlice := goodIn_r _ [7, 8, 9, 10, 11, 28, 29, 30, 31, 32, 33, 34, 35, 36, 37, 38, 39, 40] (by decide +kernel) (by decide +kernel)
set_option maxRecDepth 20000 in
theorem gX4_lift_X4_needSlice : GoodIn wsX4_lift (wsV RX4 76 RX4 yX4_needSlice wsX4_needSlice) := goodIn_app (goodIn_of _ (by decide +kernel)) ggX4_lift_X4_needSlice
set_option maxRecDepth 20000 in
theorem ggX4_lift_X4_needView : GoodIn wsX4_lift wsX4_needView := goodIn_r _ [15, 16, 9, 10, 11, 28, 29, 30, 31, 32, 33, 34, 35, 36, 37, 38, 39, 40] (by decide +kernel) (by decide +kernel)
set_option maxRecDepth 20000 in
theorem gX4_lift_X4_needView : GoodIn wsX4_lift (wsV RX4 52 RX4 yX4_needView wsX4_needView) := goodIn_app (goodIn_of _ (by decide +kernel)) ggX4_lift_X4_needView
set_option maxRecDepth 20000 in
theorem ggX4_lift_X2_takeAway : GoodIn wsX4_lift wsX2_takeAway := goodIn_r _ [21, 22, 23, 24, 25, 20, 26, 27, 41, 42, 43, 44, 45, 46, 47] (by decide +kernel) (by decide +kernel)
set_option maxRecDepth 20000 in
theorem gX4_lift_X2_takeAway : GoodIn wsX4_lift (wsV RX4 87 RX2 yX2_takeAway wsX2_takeAway) := goodIn_app (goodIn_of _ (by decide +kernel)) ggX4_lift_X2_takeAway
theorem dX4_lift_0 : decode cX4_lift 0 = .ok (.aload_n 0, 1) := by decide +kernel
theorem dX4_lift_1 : decode cX4_lift 1 = .ok (.iload_n 1, 1) := by decide +kernel
theorem dX4_lift_2 : decode cX4_lift 2 = .ok (.invokevirtual 76, 3) := by decide +kernel
theorem dX4_lift_5 : decode cX4_lift 5 = .ok (.aload_n 0, 1) := by decide +kernel
theorem dX4_lift_6 : decode cX4_lift 6 = .ok (.iload_n 2, 1) := by decide +kernel
theorem dX4_lift_7 : decode cX4_lift 7 = .ok (.invokevirtual 52, 3) := by decide +kernel
theorem dX4_lift_10 : decode cX4_lift 10 = .ok (.aload_n 0, 1) := by decide +kernel
theorem dX4_lift_11 : decode cX4_lift 11 = .ok (.getfield 25, 3) := by decide +kernel
theorem dX4_lift_14 : decode cX4_lift 14 = .ok (.iload_n 1, 1) := by decide +kernel
theorem dX4_lift_15 : decode cX4_lift 15 = .ok (.iload_n 2, 1) := by decide +kernel
theorem dX4_lift_16 : decode cX4_lift 16 = .ok (.invokevirtual 87, 3) := by decide +kernel
theorem dX4_lift_19 : decode cX4_lift 19 = .ok (.istore_n 3, 1) := by decide +kernel
theorem dX4_lift_20 : decode cX4_lift 20 = .ok (.iload_n 3, 1) := by decide +kernel
theorem dX4_lift_21 : decode cX4_lift 21 = .ok (.ifCond .eq 8, 3) := by decide +kernel
theorem dX4_lift_24 : decode cX4_lift 24 = .ok (.aload_n 0, 1) := by decide +kernel
theorem dX4_lift_25 : decode cX4_lift 25 = .ok (.iconst 0, 1) := by decide +kernel
theorem dX4_lift_26 : decode cX4_lift 26 = .ok (.putfield 72, 3) := by decide +kernel
theorem dX4_lift_29 : decode cX4_lift 29 = .ok (.iload_n 3, 1) := by decide +kernel
theorem dX4_lift_30 : decode cX4_lift 30 = .ok (.ireturn, 1) := by decide +kernel
set_option maxRecDepth 20000 in
theorem ggX4_run_X2_fitInto : GoodIn wsX4_run wsX2_fitInto := goodIn_r _ [9, 10, 11, 12, 8, 13, 14, 15, 16, 17, 18, 19, 20, 21, 22, 23, 24, 25, 26, 27, 28, 29, 30, 31, 32, 33, 34, 35, 36, 37, 71, 72, 73, 74, 75, 76, 77, 78, 79, 80, 81, 82, 83, 84] (by decide +kernel) (by decide +kernel)
set_option maxRecDepth 20000 in
theorem gX4_run_X2_fitInto : GoodIn wsX4_run (wsV RX4 95 RX2 yX2_fitInto wsX2_fitInto) := goodIn_app (goodIn_of _ (by decide +kernel)) ggX4_run_X2_fitInto
set_option maxRecDepth 20000 in
theorem ggX4_run_X3_mendAll : GoodIn wsX4_run wsX3_mendAll := goodIn_r _ [42, 43, 44, 45, 46, 47, 41, 48, 49, 50, 51, 52, 53, 54, 55, 56, 57, 58, 59, 60, 61, 62, 63, 71, 72, 73, 74, 75, 76, 77] (by decide +kernel) (by decide +kernel)
set_option maxRecDepth 20000 in
theorem gX4_run_X3_mendAll : GoodIn wsX4_run (wsV RX4 102 RX3 yX3_mendAll wsX3_mendAll) := goodIn_app (goodIn_of _ (by decide +kernel)) ggX4_run_X3_mendAll
theorem dX4_run_0 : decode cX4_run 0 = .ok (.iconst 0, 1) := by decide +kernel
theorem dX4_run_1 : decode cX4_run 1 = .ok (.istore_n 1, 1) := by decide +kernel
theorem dX4_run_2 : decode cX4_run 2 = .ok (.iconst 0, 1) := by decide +kernel
theorem dX4_run_3 : decode cX4_run 3 = .ok (.istore_n 2, 1) := by decide +kernel
theorem dX4_run_4 : decode cX4_run 4 = .ok (.iload_n 2, 1) := by decide +kernel
theorem dX4_run_5 : decode cX4_run 5 = .ok (.aload_n 0, 1) := by decide +kernel
theorem dX4_run_6 : decode cX4_run 6 = .ok (.getfield 13, 3) := by decide +kernel
theorem dX4_run_9 : decode cX4_run 9 = .ok (.if_icmp .ge 45, 3) := by decide +kernel
theorem dX4_run_12 : decode cX4_run 12 = .ok (.aload_n 0, 1) := by decide +kernel
theorem dX4_run_13 : decode cX4_run 13 = .ok (.getfield 34, 3) := by decide +kernel
theorem dX4_run_16 : decode cX4_run 16 = .ok (.getfield 91, 3) := by decide +kernel
theorem dX4_run_19 : decode cX4_run 19 = .ok (.iload_n 2, 1) := by decide +kernel
theorem dX4_run_20 : decode cX4_run 20 = .ok (.aload_n 0, 1) := by decide +kernel
theorem dX4_run_21 : decode cX4_run 21 = .ok (.getfield 25, 3) := by decide +kernel
theorem dX4_run_24 : decode cX4_run 24 = .ok (.aload_n 0, 1) := by decide +kernel
theorem dX4_run_25 : decode cX4_run 25 = .ok (.getfield 34, 3) := by decide +kernel
theorem dX4_run_28 : decode cX4_run 28 = .ok (.iload_n 2, 1) := by decide +kernel
theorem dX4_run_29 : decode cX4_run 29 = .ok (.invokevirtual 95, 3) := by decide +kernel
theorem dX4_run_32 : decode cX4_run 32 = .ok (.bastore, 1) := by decide +kernel
theorem dX4_run_33 : decode cX4_run 33 = .ok (.aload_n 0, 1) := by decide +kernel
theorem dX4_run_34 : decode cX4_run 34 = .ok (.getfield 34, 3) := by decide +kernel
theorem dX4_run_37 : decode cX4_run 37 = .ok (.getfield 91, 3) := by decide +kernel
theorem dX4_run_40 : decode cX4_run 40 = .ok (.iload_n 2, 1) := by decide +kernel
theorem dX4_run_41 : decode cX4_run 41 = .ok (.baload, 1) := by decide +kernel
theorem dX4_run_42 : decode cX4_run 42 = .ok (.ifCond .eq 6, 3) := by decide +kernel
theorem dX4_run_45 : decode cX4_run 45 = .ok (.iinc 1 1, 3) := by decide +kernel
theorem dX4_run_48 : decode cX4_run 48 = .ok (.iinc 2 1, 3) := by decide +kernel
theorem dX4_run_51 : decode cX4_run 51 = .ok (.goto (-47), 3) := by decide +kernel
theorem dX4_run_54 : decode cX4_run 54 = .ok (.aload_n 0, 1) := by decide +kernel
theorem dX4_run_55 : decode cX4_run 55 = .ok (.getfield 34, 3) := by decide +kernel
theorem dX4_run_58 : decode cX4_run 58 = .ok (.aload_n 0, 1) := by decide +kernel
theorem dX4_run_59 : decode cX4_run 59 = .ok (.getfield 13, 3) := by decide +kernel
theorem dX4_run_62 : decode cX4_run 62 = .ok (.iload_n 1, 1) := by decide +kernel
theorem dX4_run_63 : decode cX4_run 63 = .ok (.isub, 1) := by decide +kernel
theorem dX4_run_64 : decode cX4_run 64 = .ok (.putfield 99, 3) := by decide +kernel
theorem dX4_run_67 : decode cX4_run 67 = .ok (.aload_n 0, 1) := by decide +kernel
theorem dX4_run_68 : decode cX4_run 68 = .ok (.iload_n 1, 1) := by decide +kernel
theorem dX4_run_69 : decode cX4_run 69 = .ok (.ifCond .le 7, 3) := by decide +kernel
theorem dX4_run_72 : decode cX4_run 72 = .ok (.iconst 1, 1) := by decide +kernel
theorem dX4_run_73 : decode cX4_run 73 = .ok (.goto 4, 3) := by decide +kernel
theorem dX4_run_76 : decode cX4_run 76 = .ok (.iconst 0, 1) := by decide +kernel
theorem dX4_run_77 : decode cX4_run 77 = .ok (.putfield 72, 3) := by decide +kernel
theorem dX4_run_80 : decode cX4_run 80 = .ok (.aload_n 0, 1) := by decide +kernel
theorem dX4_run_81 : decode cX4_run 81 = .ok (.getfield 72, 3) := by decide +kernel
theorem dX4_run_84 : decode cX4_run 84 = .ok (.ifCond .eq 10, 3) := by decide +kernel
theorem dX4_run_87 : decode cX4_run 87 = .ok (.aload_n 0, 1) := by decide +kernel
theorem dX4_run_88 : decode cX4_run 88 = .ok (.getfield 34, 3) := by decide +kernel
theorem dX4_run_91 : decode cX4_run 91 = .ok (.invokevirtual 102, 3) := by decide +kernel
theorem dX4_run_94 : decode cX4_run 94 = .ok (.iload_n 1, 1) := by decide +kernel
theorem dX4_run_95 : decode cX4_run 95 = .ok (.ireturn, 1) := by decide +kernel
set_option maxRecDepth 20000 in
theorem ggX4_shape_X4_needSlice : GoodIn wsX4_shape wsX4_needSlice := goodIn_r _ [9, 10, 1, 2, 3, 31, 32, 33, 34, 35, 36, 37, 25, 26, 27, 28, 29, 30] (by decide +kernel) (by decide +kernel)
set_option maxRecDepth 20000 in
theorem gX4_shape_X4_needSlice : GoodIn wsX4_shape (wsV RX4 76 RX4 yX4_needSlice wsX4_needSlice) := goodIn_app (goodIn_of _ (by decide +kernel)) ggX4_shape_X4_needSlice
set_option maxRecDepth 20000 in
theorem ggX4_shape_X4_needShape : GoodIn wsX4_shape wsX4_needShape := goodIn_ca (goodIn_r _ [14, 15, 16, 17, 31, 32, 33, 34, 35, 36, 37] (by decide +kernel) (by decide +kernel)) (goodIn_sub (fun _ h => List.mem_cons_of_mem _ (List.mem_append_right _ h)) (by decide +kernel))
set_option maxRecDepth 20000 in
theorem gX4_shape_X4_needShape : GoodIn wsX4_shape (wsV RX4 110 RX4 yX4_needShape wsX4_needShape) := goodIn_app (goodIn_of _ (by decide +kernel)) ggX4_shape_X4_needShape
set_option maxRecDepth 20000 in
theorem ggX4_shape_X3_areaOf : GoodIn wsX4_shape wsX3_areaOf := goodIn_r _ [22, 23, 24, 38, 39, 40, 41, 42, 43, 44] (by decide +kernel) (by decide +kernel)
set_option maxRecDepth 20000 in
theorem gX4_shape_X3_areaOf : GoodIn wsX4_shape (wsV RX4 126 RX3 yX3_areaOf wsX3_areaOf) := goodIn_app (goodIn_of _ (by decide +kernel)) ggX4_shape_X3_areaOf
theorem dX4_shape_0 : decode cX4_shape 0 = .ok (.aload_n 0, 1) := by decide +kernel
theorem dX4_shape_1 : decode cX4_shape 1 = .ok (.iload_n 1, 1) := by decide +kernel
theorem dX4_shape_2 : decode cX4_shape 2 = .ok (.invokevirtual 76, 3) := by decide +kernel
theorem dX4_shape_5 : decode cX4_shape 5 = .ok (.iload_n 2, 1) := by decide +kernel
theorem dX4_shape_6 : decode cX4_shape 6 = .ok (.ifCond .lt 8, 3) := by decide +kernel
theorem dX4_shape_9 : decode cX4_shape 9 = .ok (.iload_n 2, 1) := by decide +kernel
theorem dX4_shape_10 : decode cX4_shape 10 = .ok (.iconst 4, 1) := by decide +kernel
theorem dX4_shape_11 : decode cX4_shape 11 = .ok (.if_icmp .le 13, 3) := by decide +kernel
theorem dX4_shape_14 : decode cX4_shape 14 = .ok (.new 105, 3) := by decide +kernel
theorem dX4_shape_17 : decode cX4_shape 17 = .ok (.dup, 1) := by decide +kernel
theorem dX4_shape_18 : decode cX4_shape 18 = .ok (.ldc 107, 2) := by decide +kernel
theorem dX4_shape_20 : decode cX4_shape 20 = .ok (.invokespecial 109, 3) := by decide +kernel
theorem dX4_shape_23 : decode cX4_shape 23 = .ok (.athrow, 1) := by decide +kernel
theorem dX4_shape_24 : decode cX4_shape 24 = .ok (.aload_n 0, 1) := by decide +kernel
theorem dX4_shape_25 : decode cX4_shape 25 = .ok (.invokevirtual 110, 3) := by decide +kernel
theorem dX4_shape_28 : decode cX4_shape 28 = .ok (.iload_n 2, 1) := by decide +kernel
theorem dX4_shape_29 : decode cX4_shape 29 = .ok (.tableswitch 71 0 3 #[31, 41, 51, 61], 31) := by decide +kernel
theorem dX4_shape_60 : decode cX4_shape 60 = .ok (.aload_n 0, 1) := by decide +kernel
theorem dX4_shape_61 : decode cX4_shape 61 = .ok (.getfield 34, 3) := by decide +kernel
theorem dX4_shape_64 : decode cX4_shape 64 = .ok (.getfield 113, 3) := by decide +kernel
theorem dX4_shape_67 : decode cX4_shape 67 = .ok (.iload_n 1, 1) := by decide +kernel
theorem dX4_shape_68 : decode cX4_shape 68 = .ok (.daload, 1) := by decide +kernel
theorem dX4_shape_69 : decode cX4_shape 69 = .ok (.dreturn, 1) := by decide +kernel
theorem dX4_shape_70 : decode cX4_shape 70 = .ok (.aload_n 0, 1) := by decide +kernel
theorem dX4_shape_71 : decode cX4_shape 71 = .ok (.getfield 34, 3) := by decide +kernel
theorem dX4_shape_74 : decode cX4_shape 74 = .ok (.getfield 117, 3) := by decide +kernel
theorem dX4_shape_77 : decode cX4_shape 77 = .ok (.iload_n 1, 1) := by decide +kernel
theorem dX4_shape_78 : decode cX4_shape 78 = .ok (.daload, 1) := by decide +kernel
theorem dX4_shape_79 : decode cX4_shape 79 = .ok (.dreturn, 1) := by decide +kernel
theorem dX4_shape_80 : decode cX4_shape 80 = .ok (.aload_n 0, 1) := by decide +kernel
theorem dX4_shape_81 : decode cX4_shape 81 = .ok (.getfield 34, 3) := by decide +kernel
theorem dX4_shape_84 : decode cX4_shape 84 = .ok (.getfield 120, 3) := by decide +kernel
theorem dX4_shape_87 : decode cX4_shape 87 = .ok (.iload_n 1, 1) := by decide +kernel
theorem dX4_shape_88 : decode cX4_shape 88 = .ok (.daload, 1) := by decide +kernel
theorem dX4_shape_89 : decode cX4_shape 89 = .ok (.dreturn, 1) := by decide +kernel
theorem dX4_shape_90 : decode cX4_shape 90 = .ok (.aload_n 0, 1) := by decide +kernel
theorem dX4_shape_91 : decode cX4_shape 91 = .ok (.getfield 34, 3) := by decide +kernel
theorem dX4_shape_94 : decode cX4_shape 94 = .ok (.getfield 123, 3) := by decide +kernel
theorem dX4_shape_97 : decode cX4_shape 97 = .ok (.iload_n 1, 1) := by decide +kernel
theorem dX4_shape_98 : decode cX4_shape 98 = .ok (.daload, 1) := by decide +kernel
theorem dX4_shape_99 : decode cX4_shape 99 = .ok (.dreturn, 1) := by decide +kernel
theorem dX4_shape_100 : decode cX4_shape 100 = .ok (.aload_n 0, 1) := by decide +kernel
theorem dX4_shape_101 : decode cX4_shape 101 = .ok (.getfield 34, 3) := by decide +kernel
theorem dX4_shape_104 : decode cX4_shape 104 = .ok (.iload_n 1, 1) := by decide +kernel
theorem dX4_shape_105 : decode cX4_shape 105 = .ok (.invokevirtual 126, 3) := by decide +kernel
theorem dX4_shape_108 : decode cX4_shape 108 = .ok (.dreturn, 1) := by decide +kernel
set_option maxRecDepth 20000 in
theorem ggX4_fitted_X4_needSlice : GoodIn wsX4_fitted wsX4_needSlice := goodIn_r _ [6, 7, 8, 9, 10, 18, 19, 20, 21, 22, 23, 24, 32, 33, 34, 35, 36, 37] (by decide +kernel) (by decide +kernel)
set_option maxRecDepth 20000 in
theorem gX4_fitted_X4_needSlice : GoodIn wsX4_fitted (wsV RX4 76 RX4 yX4_needSlice wsX4_needSlice) := goodIn_app (goodIn_of _ (by decide +kernel)) ggX4_fitted_X4_needSlice
set_option maxRecDepth 20000 in
theorem ggX4_fitted_X4_needShape : GoodIn wsX4_fitted wsX4_needShape := goodIn_ca (goodIn_r _ [14, 15, 16, 17, 18, 19, 20, 21, 22, 23, 24] (by decide +kernel) (by decide +kernel)) (goodIn_sub (fun _ h => List.mem_cons_of_mem _ (List.mem_append_right _ h)) (by decide +kernel))
set_option maxRecDepth 20000 in
theorem gX4_fitted_X4_needShape : GoodIn wsX4_fitted (wsV RX4 110 RX4 yX4_needShape wsX4_needShape) := goodIn_app (goodIn_of _ (by decide +kernel)) ggX4_fitted_X4_needShape
theorem dX4_fitted_0 : decode cX4_fitted 0 = .ok (.aload_n 0, 1) := by decide +kernel
theorem dX4_fitted_1 : decode cX4_fitted 1 = .ok (.iload_n 1, 1) := by decide +kernel
theorem dX4_fitted_2 : decode cX4_fitted 2 = .ok (.invokevirtual 76, 3) := by decide +kernel
theorem dX4_fitted_5 : decode cX4_fitted 5 = .ok (.aload_n 0, 1) := by decide +kernel
theorem dX4_fitted_6 : decode cX4_fitted 6 = .ok (.invokevirtual 110, 3) := by decide +kernel
theorem dX4_fitted_9 : decode cX4_fitted 9 = .ok (.aload_n 0, 1) := by decide +kernel
theorem dX4_fitted_10 : decode cX4_fitted 10 = .ok (.getfield 34, 3) := by decide +kernel
theorem dX4_fitted_13 : decode cX4_fitted 13 = .ok (.getfield 91, 3) := by decide +kernel
theorem dX4_fitted_16 : decode cX4_fitted 16 = .ok (.iload_n 1, 1) := by decide +kernel
theorem dX4_fitted_17 : decode cX4_fitted 17 = .ok (.baload, 1) := by decide +kernel
theorem dX4_fitted_18 : decode cX4_fitted 18 = .ok (.ireturn, 1) := by decide +kernel
set_option maxRecDepth 20000 in
theorem ggX4_inside_X4_needSlice : GoodIn wsX4_inside wsX4_needSlice := goodIn_r _ [8, 9, 10, 11, 12, 31, 32, 33, 34, 35, 36, 37, 38, 39, 40, 41, 42, 43] (by decide +kernel) (by decide +kernel)
set_option maxRecDepth 20000 in
theorem gX4_inside_X4_needSlice : GoodIn wsX4_inside (wsV RX4 76 RX4 yX4_needSlice wsX4_needSlice) := goodIn_app (goodIn_of _ (by decide +kernel)) ggX4_inside_X4_needSlice
set_option maxRecDepth 20000 in
theorem ggX4_inside_X4_within : GoodIn wsX4_inside wsX4_within := goodIn_r _ [15] (by decide +kernel) (by decide +kernel)
set_option maxRecDepth 20000 in
theorem gX4_inside_X4_within : GoodIn wsX4_inside (va_wsS RX4 55 yX4_within wsX4_within) := goodIn_app (goodIn_of _ (by decide +kernel)) ggX4_inside_X4_within
set_option maxRecDepth 20000 in
theorem ggX4_inside_X4_needShape : GoodIn wsX4_inside wsX4_needShape := goodIn_ca (goodIn_r _ [19, 20, 21, 22, 31, 32, 33, 34, 35, 36, 37] (by decide +kernel) (by decide +kernel)) (goodIn_sub (fun _ h => List.mem_cons_of_mem _ (List.mem_append_right _ h)) (by decide +kernel))
set_option maxRecDepth 20000 in
theorem gX4_inside_X4_needShape : GoodIn wsX4_inside (wsV RX4 110 RX4 yX4_needShape wsX4_needShape) := goodIn_app (goodIn_of _ (by decide +kernel)) ggX4_inside_X4_needShape
set_option maxRecDepth 20000 in
theorem ggX4_inside_X3_covers : GoodIn wsX4_inside wsX3_covers := goodIn_r _ [27, 28, 29, 30, 44, 45, 46, 47, 48, 49, 50] (by decide +kernel) (by decide +kernel)
set_option maxRecDepth 20000 in
theorem gX4_inside_X3_covers : GoodIn wsX4_inside (wsV RX4 132 RX3 yX3_covers wsX3_covers) := goodIn_app (goodIn_of _ (by decide +kernel)) ggX4_inside_X3_covers
theorem dX4_inside_0 : decode cX4_inside 0 = .ok (.aload_n 0, 1) := by decide +kernel
theorem dX4_inside_1 : decode cX4_inside 1 = .ok (.iload_n 1, 1) := by decide +kernel
theorem dX4_inside_2 : decode cX4_inside 2 = .ok (.invokevirtual 76, 3) := by decide +kernel
theorem dX4_inside_5 : decode cX4_inside 5 = .ok (.dload_n 2, 1) := by decide +kernel
theorem dX4_inside_6 : decode cX4_inside 6 = .ok (.sipush 1000, 3) := by decide +kernel
theorem dX4_inside_9 : decode cX4_inside 9 = .ok (.invokestatic 55, 3) := by decide +kernel
theorem dX4_inside_12 : decode cX4_inside 12 = .ok (.ifCond .eq 14, 3) := by decide +kernel
theorem dX4_inside_15 : decode cX4_inside 15 = .ok (.dload 4, 2) := by decide +kernel
theorem dX4_inside_17 : decode cX4_inside 17 = .ok (.sipush 1000, 3) := by decide +kernel
theorem dX4_inside_20 : decode cX4_inside 20 = .ok (.invokestatic 55, 3) := by decide +kernel
theorem dX4_inside_23 : decode cX4_inside 23 = .ok (.ifCond .ne 13, 3) := by decide +kernel
theorem dX4_inside_26 : decode cX4_inside 26 = .ok (.new 59, 3) := by decide +kernel
theorem dX4_inside_29 : decode cX4_inside 29 = .ok (.dup, 1) := by decide +kernel
theorem dX4_inside_30 : decode cX4_inside 30 = .ok (.ldc 130, 2) := by decide +kernel
theorem dX4_inside_32 : decode cX4_inside 32 = .ok (.invokespecial 63, 3) := by decide +kernel
theorem dX4_inside_35 : decode cX4_inside 35 = .ok (.athrow, 1) := by decide +kernel
theorem dX4_inside_36 : decode cX4_inside 36 = .ok (.aload_n 0, 1) := by decide +kernel
theorem dX4_inside_37 : decode cX4_inside 37 = .ok (.invokevirtual 110, 3) := by decide +kernel
theorem dX4_inside_40 : decode cX4_inside 40 = .ok (.aload_n 0, 1) := by decide +kernel
theorem dX4_inside_41 : decode cX4_inside 41 = .ok (.getfield 34, 3) := by decide +kernel
theorem dX4_inside_44 : decode cX4_inside 44 = .ok (.iload_n 1, 1) := by decide +kernel
theorem dX4_inside_45 : decode cX4_inside 45 = .ok (.dload_n 2, 1) := by decide +kernel
theorem dX4_inside_46 : decode cX4_inside 46 = .ok (.dload 4, 2) := by decide +kernel
theorem dX4_inside_48 : decode cX4_inside 48 = .ok (.invokevirtual 132, 3) := by decide +kernel
theorem dX4_inside_51 : decode cX4_inside 51 = .ok (.ireturn, 1) := by decide +kernel
set_option maxRecDepth 20000 in
theorem ggX4_wholes_X4_needSlice : GoodIn wsX4_wholes wsX4_needSlice := goodIn_r _ [6, 7, 8, 9, 10, 30, 31, 32, 33, 34, 35, 36, 37, 38, 39, 40, 41, 42] (by decide +kernel) (by decide +kernel)
set_option maxRecDepth 20000 in
theorem gX4_wholes_X4_needSlice : GoodIn wsX4_wholes (wsV RX4 76 RX4 yX4_needSlice wsX4_needSlice) := goodIn_app (goodIn_of _ (by decide +kernel)) ggX4_wholes_X4_needSlice
set_option maxRecDepth 20000 in
theorem ggX4_wholes_X4_needShape : GoodIn wsX4_wholes wsX4_needShape := goodIn_ca (goodIn_r _ [14, 15, 16, 17, 30, 31, 32, 33, 34, 35, 36] (by decide +kernel) (by decide +kernel)) (goodIn_sub (fun _ h => List.mem_cons_of_mem _ (List.mem_append_right _ h)) (by decide +kernel))
set_option maxRecDepth 20000 in
theorem gX4_wholes_X4_needShape : GoodIn wsX4_wholes (wsV RX4 110 RX4 yX4_needShape wsX4_needShape) := goodIn_app (goodIn_of _ (by decide +kernel)) ggX4_wholes_X4_needShape
set_option maxRecDepth 20000 in
theorem ggX4_wholes_X3_cellsOf : GoodIn wsX4_wholes wsX3_cellsOf := goodIn_r _ [22, 23, 24, 25, 21, 26, 27, 28, 29, 43, 44, 45, 46, 47, 48, 49] (by decide +kernel) (by decide +kernel)
set_option maxRecDepth 20000 in
theorem gX4_wholes_X3_cellsOf : GoodIn wsX4_wholes (wsV RX4 136 RX3 yX3_cellsOf wsX3_cellsOf) := goodIn_app (goodIn_of _ (by decide +kernel)) ggX4_wholes_X3_cellsOf
theorem dX4_wholes_0 : decode cX4_wholes 0 = .ok (.aload_n 0, 1) := by decide +kernel
theorem dX4_wholes_1 : decode cX4_wholes 1 = .ok (.iload_n 1, 1) := by decide +kernel
theorem dX4_wholes_2 : decode cX4_wholes 2 = .ok (.invokevirtual 76, 3) := by decide +kernel
theorem dX4_wholes_5 : decode cX4_wholes 5 = .ok (.aload_n 0, 1) := by decide +kernel
theorem dX4_wholes_6 : decode cX4_wholes 6 = .ok (.invokevirtual 110, 3) := by decide +kernel
theorem dX4_wholes_9 : decode cX4_wholes 9 = .ok (.aload_n 0, 1) := by decide +kernel
theorem dX4_wholes_10 : decode cX4_wholes 10 = .ok (.getfield 34, 3) := by decide +kernel
theorem dX4_wholes_13 : decode cX4_wholes 13 = .ok (.iload_n 1, 1) := by decide +kernel
theorem dX4_wholes_14 : decode cX4_wholes 14 = .ok (.invokevirtual 136, 3) := by decide +kernel
theorem dX4_wholes_17 : decode cX4_wholes 17 = .ok (.ireturn, 1) := by decide +kernel
set_option maxRecDepth 20000 in
theorem ggX4_volume_X4_needShape : GoodIn wsX4_volume wsX4_needShape := goodIn_ca (goodIn_r _ [6, 7, 8, 9, 22, 23, 24, 25, 26, 27, 28] (by decide +kernel) (by decide +kernel)) (goodIn_sub (fun _ h => List.mem_cons_of_mem _ (List.mem_append_right _ h)) (by decide +kernel))
set_option maxRecDepth 20000 in
theorem gX4_volume_X4_needShape : GoodIn wsX4_volume (wsV RX4 110 RX4 yX4_needShape wsX4_needShape) := goodIn_app (goodIn_of _ (by decide +kernel)) ggX4_volume_X4_needShape
set_option maxRecDepth 20000 in
theorem ggX4_volume_X3_sumOfAreas : GoodIn wsX4_volume wsX3_sumOfAreas := goodIn_r _ [14, 15, 16, 17, 18, 13, 19, 20, 21, 29, 30, 31, 32, 33, 34, 35] (by decide +kernel) (by decide +kernel)
set_option maxRecDepth 20000 in
theorem gX4_volume_X3_sumOfAreas : GoodIn wsX4_volume (wsV RX4 140 RX3 yX3_sumOfAreas wsX3_sumOfAreas) := goodIn_app (goodIn_of _ (by decide +kernel)) ggX4_volume_X3_sumOfAreas
theorem dX4_volume_0 : decode cX4_volume 0 = .ok (.aload_n 0, 1) := by decide +kernel
theorem dX4_volume_1 : decode cX4_volume 1 = .ok (.invokevirtual 110, 3) := by decide +kernel
theorem dX4_volume_4 : decode cX4_volume 4 = .ok (.aload_n 0, 1) := by decide +kernel
theorem dX4_volume_5 : decode cX4_volume 5 = .ok (.getfield 34, 3) := by decide +kernel
theorem dX4_volume_8 : decode cX4_volume 8 = .ok (.invokevirtual 140, 3) := by decide +kernel
theorem dX4_volume_11 : decode cX4_volume 11 = .ok (.dreturn, 1) := by decide +kernel
set_option maxRecDepth 20000 in
theorem ggX4_taper_X4_needShape : GoodIn wsX4_taper wsX4_needShape := goodIn_ca (goodIn_r _ [6, 7, 8, 9, 17, 18, 19, 20, 21, 22, 23] (by decide +kernel) (by decide +kernel)) (goodIn_sub (fun _ h => List.mem_cons_of_mem _ (List.mem_append_right _ h)) (by decide +kernel))
set_option maxRecDepth 20000 in
theorem gX4_taper_X4_needShape : GoodIn wsX4_taper (wsV RX4 110 RX4 yX4_needShape wsX4_needShape) := goodIn_app (goodIn_of _ (by decide +kernel)) ggX4_taper_X4_needShape
set_option maxRecDepth 20000 in
theorem ggX4_taper_X3_thinning : GoodIn wsX4_taper wsX3_thinning := goodIn_r _ [14, 15, 16, 24, 25, 26, 27, 28, 29, 30] (by decide +kernel) (by decide +kernel)
set_option maxRecDepth 20000 in
theorem gX4_taper_X3_thinning : GoodIn wsX4_taper (wsV RX4 144 RX3 yX3_thinning wsX3_thinning) := goodIn_app (goodIn_of _ (by decide +kernel)) ggX4_taper_X3_thinning
theorem dX4_taper_0 : decode cX4_taper 0 = .ok (.aload_n 0, 1) := by decide +kernel
theorem dX4_taper_1 : decode cX4_taper 1 = .ok (.invokevirtual 110, 3) := by decide +kernel
theorem dX4_taper_4 : decode cX4_taper 4 = .ok (.aload_n 0, 1) := by decide +kernel
theorem dX4_taper_5 : decode cX4_taper 5 = .ok (.getfield 34, 3) := by decide +kernel
theorem dX4_taper_8 : decode cX4_taper 8 = .ok (.invokevirtual 144, 3) := by decide +kernel
theorem dX4_taper_11 : decode cX4_taper 11 = .ok (.dreturn, 1) := by decide +kernel
set_option maxRecDepth 20000 in
theorem ggX4_sweep_X4_needShape : GoodIn wsX4_sweep wsX4_needShape := goodIn_ca (goodIn_r _ [6, 7, 8, 9, 22, 23, 24, 25, 26, 27, 28] (by decide +kernel) (by decide +kernel)) (goodIn_sub (fun _ h => List.mem_cons_of_mem _ (List.mem_append_right _ h)) (by decide +kernel))
set_option maxRecDepth 20000 in
theorem gX4_sweep_X4_needShape : GoodIn wsX4_sweep (wsV RX4 110 RX4 yX4_needShape wsX4_needShape) := goodIn_app (goodIn_of _ (by decide +kernel)) ggX4_sweep_X4_needShape
set_option maxRecDepth 20000 in
theorem ggX4_sweep_X3_greatestBend : GoodIn wsX4_sweep wsX3_greatestBend := goodIn_r _ [14, 15, 16, 17, 18, 19, 20, 13, 21, 29, 30, 31, 32, 33, 34, 35] (by decide +kernel) (by decide +kernel)
set_option maxRecDepth 20000 in
theorem gX4_sweep_X3_greatestBend : GoodIn wsX4_sweep (wsV RX4 147 RX3 yX3_greatestBend wsX3_greatestBend) := goodIn_app (goodIn_of _ (by decide +kernel)) ggX4_sweep_X3_greatestBend
theorem dX4_sweep_0 : decode cX4_sweep 0 = .ok (.aload_n 0, 1) := by decide +kernel
theorem dX4_sweep_1 : decode cX4_sweep 1 = .ok (.invokevirtual 110, 3) := by decide +kernel
theorem dX4_sweep_4 : decode cX4_sweep 4 = .ok (.aload_n 0, 1) := by decide +kernel
theorem dX4_sweep_5 : decode cX4_sweep 5 = .ok (.getfield 34, 3) := by decide +kernel
theorem dX4_sweep_8 : decode cX4_sweep 8 = .ok (.invokevirtual 147, 3) := by decide +kernel
theorem dX4_sweep_11 : decode cX4_sweep 11 = .ok (.dreturn, 1) := by decide +kernel
set_option maxRecDepth 20000 in
theorem ggX4_rule_X1_isFull : GoodIn wsX4_rule wsX1_isFull := goodIn_r _ [10, 11, 26, 27, 28, 29] (by decide +kernel) (by decide +kernel)
set_option maxRecDepth 20000 in
theorem gX4_rule_X1_isFull : GoodIn wsX4_rule (wsV RX4 154 RX1 yX1_isFull wsX1_isFull) := goodIn_app (goodIn_of _ (by decide +kernel)) ggX4_rule_X1_isFull
set_option maxRecDepth 20000 in
theorem ggX4_rule_X1_addOne : GoodIn wsX4_rule wsX1_addOne := goodIn_r _ [15, 16, 11, 17, 18, 26, 27, 28, 29] (by decide +kernel) (by decide +kernel)
set_option maxRecDepth 20000 in
theorem gX4_rule_X1_addOne : GoodIn wsX4_rule (wsV RX4 163 RX1 yX1_addOne wsX1_addOne) := goodIn_app (goodIn_of _ (by decide +kernel)) ggX4_rule_X1_addOne
theorem dX4_rule_0 : decode cX4_rule 0 = .ok (.iload_n 1, 1) := by decide +kernel
theorem dX4_rule_1 : decode cX4_rule 1 = .ok (.ifCond .lt 8, 3) := by decide +kernel
theorem dX4_rule_4 : decode cX4_rule 4 = .ok (.iload_n 1, 1) := by decide +kernel
theorem dX4_rule_5 : decode cX4_rule 5 = .ok (.iconst 4, 1) := by decide +kernel
theorem dX4_rule_6 : decode cX4_rule 6 = .ok (.if_icmp .le 13, 3) := by decide +kernel
theorem dX4_rule_9 : decode cX4_rule 9 = .ok (.new 59, 3) := by decide +kernel
theorem dX4_rule_12 : decode cX4_rule 12 = .ok (.dup, 1) := by decide +kernel
theorem dX4_rule_13 : decode cX4_rule 13 = .ok (.ldc 150, 2) := by decide +kernel
theorem dX4_rule_15 : decode cX4_rule 15 = .ok (.invokespecial 63, 3) := by decide +kernel
theorem dX4_rule_18 : decode cX4_rule 18 = .ok (.athrow, 1) := by decide +kernel
theorem dX4_rule_19 : decode cX4_rule 19 = .ok (.iload 4, 2) := by decide +kernel
theorem dX4_rule_21 : decode cX4_rule 21 = .ok (.ifCond .lt 10, 3) := by decide +kernel
theorem dX4_rule_24 : decode cX4_rule 24 = .ok (.iload 4, 2) := by decide +kernel
theorem dX4_rule_26 : decode cX4_rule 26 = .ok (.bipush 100, 2) := by decide +kernel
theorem dX4_rule_28 : decode cX4_rule 28 = .ok (.if_icmp .le 13, 3) := by decide +kernel
theorem dX4_rule_31 : decode cX4_rule 31 = .ok (.new 59, 3) := by decide +kernel
theorem dX4_rule_34 : decode cX4_rule 34 = .ok (.dup, 1) := by decide +kernel
theorem dX4_rule_35 : decode cX4_rule 35 = .ok (.ldc 152, 2) := by decide +kernel
theorem dX4_rule_37 : decode cX4_rule 37 = .ok (.invokespecial 63, 3) := by decide +kernel
theorem dX4_rule_40 : decode cX4_rule 40 = .ok (.athrow, 1) := by decide +kernel
theorem dX4_rule_41 : decode cX4_rule 41 = .ok (.aload_n 0, 1) := by decide +kernel
theorem dX4_rule_42 : decode cX4_rule 42 = .ok (.getfield 48, 3) := by decide +kernel
theorem dX4_rule_45 : decode cX4_rule 45 = .ok (.invokevirtual 154, 3) := by decide +kernel
theorem dX4_rule_48 : decode cX4_rule 48 = .ok (.ifCond .eq 13, 3) := by decide +kernel
theorem dX4_rule_51 : decode cX4_rule 51 = .ok (.new 158, 3) := by decide +kernel
theorem dX4_rule_54 : decode cX4_rule 54 = .ok (.dup, 1) := by decide +kernel
theorem dX4_rule_55 : decode cX4_rule 55 = .ok (.ldc 160, 2) := by decide +kernel
theorem dX4_rule_57 : decode cX4_rule 57 = .ok (.invokespecial 162, 3) := by decide +kernel
theorem dX4_rule_60 : decode cX4_rule 60 = .ok (.athrow, 1) := by decide +kernel
theorem dX4_rule_61 : decode cX4_rule 61 = .ok (.aload_n 0, 1) := by decide +kernel
theorem dX4_rule_62 : decode cX4_rule 62 = .ok (.getfield 48, 3) := by decide +kernel
theorem dX4_rule_65 : decode cX4_rule 65 = .ok (.iload_n 1, 1) := by decide +kernel
theorem dX4_rule_66 : decode cX4_rule 66 = .ok (.dload_n 2, 1) := by decide +kernel
theorem dX4_rule_67 : decode cX4_rule 67 = .ok (.iload 4, 2) := by decide +kernel
theorem dX4_rule_69 : decode cX4_rule 69 = .ok (.invokevirtual 163, 3) := by decide +kernel
theorem dX4_rule_72 : decode cX4_rule 72 = .ok (.ireturn, 1) := by decide +kernel
set_option maxRecDepth 20000 in
theorem ggX4_cls_X4_needShape : GoodIn wsX4_cls wsX4_needShape := goodIn_ca (goodIn_r _ [7, 8, 9, 10, 53, 54, 55, 56, 57, 58, 59] (by decide +kernel) (by decide +kernel)) (goodIn_sub (fun _ h => List.mem_cons_of_mem _ (List.mem_append_right _ h)) (by decide +kernel))
set_option maxRecDepth 20000 in
theorem gX4_cls_X4_needShape : GoodIn wsX4_cls (wsV RX4 110 RX4 yX4_needShape wsX4_needShape) := goodIn_app (goodIn_of _ (by decide +kernel)) ggX4_cls_X4_needShape
set_option maxRecDepth 20000 in
theorem ggX4_cls_X1_classOf : GoodIn wsX4_cls wsX1_classOf := goodIn_r _ [15, 16, 17, 18, 19, 20, 21, 14, 22, 23, 24, 25, 26, 27, 28, 29, 30, 31, 32, 33, 34, 35, 36, 37, 38, 39, 40, 41, 42, 43, 44, 45, 46, 47, 48, 49, 50, 51, 52, 60, 61, 62, 63, 64, 65, 66, 67, 68, 69, 70] (by decide +kernel) (by decide +kernel)
set_option maxRecDepth 20000 in
theorem gX4_cls_X1_classOf : GoodIn wsX4_cls (wsV RX4 167 RX1 yX1_classOf wsX1_classOf) := goodIn_app (goodIn_of _ (by decide +kernel)) ggX4_cls_X1_classOf
theorem dX4_cls_0 : decode cX4_cls 0 = .ok (.aload_n 0, 1) := by decide +kernel
theorem dX4_cls_1 : decode cX4_cls 1 = .ok (.invokevirtual 110, 3) := by decide +kernel
theorem dX4_cls_4 : decode cX4_cls 4 = .ok (.aload_n 0, 1) := by decide +kernel
theorem dX4_cls_5 : decode cX4_cls 5 = .ok (.getfield 48, 3) := by decide +kernel
theorem dX4_cls_8 : decode cX4_cls 8 = .ok (.aload_n 0, 1) := by decide +kernel
theorem dX4_cls_9 : decode cX4_cls 9 = .ok (.getfield 34, 3) := by decide +kernel
theorem dX4_cls_12 : decode cX4_cls 12 = .ok (.invokevirtual 167, 3) := by decide +kernel
theorem dX4_cls_15 : decode cX4_cls 15 = .ok (.ireturn, 1) := by decide +kernel
set_option maxRecDepth 20000 in
theorem ggX4_keep_X4_needShape : GoodIn wsX4_keep wsX4_needShape := goodIn_ca (goodIn_r _ [7, 8, 9, 10, 19, 20, 21, 22, 23, 24, 25] (by decide +kernel) (by decide +kernel)) (goodIn_sub (fun _ h => List.mem_cons_of_mem _ (List.mem_append_right _ h)) (by decide +kernel))
set_option maxRecDepth 20000 in
theorem gX4_keep_X4_needShape : GoodIn wsX4_keep (wsV RX4 110 RX4 yX4_needShape wsX4_needShape) := goodIn_app (goodIn_of _ (by decide +kernel)) ggX4_keep_X4_needShape
set_option maxRecDepth 20000 in
theorem ggX4_keep_X0_take : GoodIn wsX4_keep wsX0_take := goodIn_r _ [15, 16, 17, 18, 26, 27, 28, 29, 30, 31, 32, 33, 34, 35] (by decide +kernel) (by decide +kernel)
set_option maxRecDepth 20000 in
theorem gX4_keep_X0_take : GoodIn wsX4_keep (wsV RX4 171 RX0 yX0_take wsX0_take) := goodIn_app (goodIn_of _ (by decide +kernel)) ggX4_keep_X0_take
theorem dX4_keep_0 : decode cX4_keep 0 = .ok (.aload_n 0, 1) := by decide +kernel
theorem dX4_keep_1 : decode cX4_keep 1 = .ok (.invokevirtual 110, 3) := by decide +kernel
theorem dX4_keep_4 : decode cX4_keep 4 = .ok (.aload_n 0, 1) := by decide +kernel
theorem dX4_keep_5 : decode cX4_keep 5 = .ok (.getfield 41, 3) := by decide +kernel
theorem dX4_keep_8 : decode cX4_keep 8 = .ok (.aload_n 0, 1) := by decide +kernel
theorem dX4_keep_9 : decode cX4_keep 9 = .ok (.getfield 34, 3) := by decide +kernel
theorem dX4_keep_12 : decode cX4_keep 12 = .ok (.invokevirtual 171, 3) := by decide +kernel
theorem dX4_keep_15 : decode cX4_keep 15 = .ok (.return_, 1) := by decide +kernel
set_option maxRecDepth 20000 in
theorem ggX4_apart_X4_needShape : GoodIn wsX4_apart wsX4_needShape := goodIn_ca (goodIn_r _ [9, 10, 11, 12, 32, 33, 34, 35, 36, 37, 38] (by decide +kernel) (by decide +kernel)) (goodIn_sub (fun _ h => List.mem_cons_of_mem _ (List.mem_append_right _ h)) (by decide +kernel))
set_option maxRecDepth 20000 in
theorem gX4_apart_X4_needShape : GoodIn wsX4_apart (wsV RX4 110 RX4 yX4_needShape wsX4_needShape) := goodIn_app (goodIn_of _ (by decide +kernel)) ggX4_apart_X4_needShape
set_option maxRecDepth 20000 in
theorem ggX4_apart_X4_needKept : GoodIn wsX4_apart wsX4_needKept := goodIn_ca (goodIn_r _ [16, 10, 11, 3, 32, 33, 34, 35, 36, 37, 38, 39, 40, 41] (by decide +kernel) (by decide +kernel)) (goodIn_sub (fun _ h => List.mem_cons_of_mem _ (List.mem_append_right _ h)) (by decide +kernel))
set_option maxRecDepth 20000 in
theorem gX4_apart_X4_needKept : GoodIn wsX4_apart (wsV RX4 177 RX4 yX4_needKept wsX4_needKept) := goodIn_app (goodIn_of _ (by decide +kernel)) ggX4_apart_X4_needKept
set_option maxRecDepth 20000 in
theorem ggX4_apart_X0_distance : GoodIn wsX4_apart wsX0_distance := goodIn_r _ [21, 22, 23, 24, 25, 20, 26, 27, 28, 29, 30, 31, 39, 40, 41, 42, 43, 44, 45, 46, 47, 48] (by decide +kernel) (by decide +kernel)
set_option maxRecDepth 20000 in
theorem gX4_apart_X0_distance : GoodIn wsX4_apart (wsV RX4 180 RX0 yX0_distance wsX0_distance) := goodIn_app (goodIn_of _ (by decide +kernel)) ggX4_apart_X0_distance
theorem dX4_apart_0 : decode cX4_apart 0 = .ok (.iload_n 1, 1) := by decide +kernel
theorem dX4_apart_1 : decode cX4_apart 1 = .ok (.ifCond .lt 8, 3) := by decide +kernel
theorem dX4_apart_4 : decode cX4_apart 4 = .ok (.iload_n 1, 1) := by decide +kernel
theorem dX4_apart_5 : decode cX4_apart 5 = .ok (.iconst 4, 1) := by decide +kernel
theorem dX4_apart_6 : decode cX4_apart 6 = .ok (.if_icmp .lt 13, 3) := by decide +kernel
theorem dX4_apart_9 : decode cX4_apart 9 = .ok (.new 59, 3) := by decide +kernel
theorem dX4_apart_12 : decode cX4_apart 12 = .ok (.dup, 1) := by decide +kernel
theorem dX4_apart_13 : decode cX4_apart 13 = .ok (.ldc 175, 2) := by decide +kernel
theorem dX4_apart_15 : decode cX4_apart 15 = .ok (.invokespecial 63, 3) := by decide +kernel
theorem dX4_apart_18 : decode cX4_apart 18 = .ok (.athrow, 1) := by decide +kernel
theorem dX4_apart_19 : decode cX4_apart 19 = .ok (.aload_n 0, 1) := by decide +kernel
theorem dX4_apart_20 : decode cX4_apart 20 = .ok (.invokevirtual 110, 3) := by decide +kernel
theorem dX4_apart_23 : decode cX4_apart 23 = .ok (.aload_n 0, 1) := by decide +kernel
theorem dX4_apart_24 : decode cX4_apart 24 = .ok (.invokevirtual 177, 3) := by decide +kernel
theorem dX4_apart_27 : decode cX4_apart 27 = .ok (.aload_n 0, 1) := by decide +kernel
theorem dX4_apart_28 : decode cX4_apart 28 = .ok (.getfield 41, 3) := by decide +kernel
theorem dX4_apart_31 : decode cX4_apart 31 = .ok (.aload_n 0, 1) := by decide +kernel
theorem dX4_apart_32 : decode cX4_apart 32 = .ok (.getfield 34, 3) := by decide +kernel
theorem dX4_apart_35 : decode cX4_apart 35 = .ok (.iload_n 1, 1) := by decide +kernel
theorem dX4_apart_36 : decode cX4_apart 36 = .ok (.invokevirtual 180, 3) := by decide +kernel
theorem dX4_apart_39 : decode cX4_apart 39 = .ok (.dreturn, 1) := by decide +kernel
set_option maxRecDepth 20000 in
theorem ggX4_match_X4_needShape : GoodIn wsX4_match wsX4_needShape := goodIn_ca (goodIn_r _ [7, 8, 9, 10, 34, 35, 36, 37, 38, 39, 40] (by decide +kernel) (by decide +kernel)) (goodIn_sub (fun _ h => List.mem_cons_of_mem _ (List.mem_append_right _ h)) (by decide +kernel))
set_option maxRecDepth 20000 in
theorem gX4_match_X4_needShape : GoodIn wsX4_match (wsV RX4 110 RX4 yX4_needShape wsX4_needShape) := goodIn_app (goodIn_of _ (by decide +kernel)) ggX4_match_X4_needShape
set_option maxRecDepth 20000 in
theorem ggX4_match_X4_needKept : GoodIn wsX4_match wsX4_needKept := goodIn_ca (goodIn_r _ [14, 8, 9, 1, 34, 35, 36, 37, 38, 39, 40, 41, 42, 43] (by decide +kernel) (by decide +kernel)) (goodIn_sub (fun _ h => List.mem_cons_of_mem _ (List.mem_append_right _ h)) (by decide +kernel))
set_option maxRecDepth 20000 in
theorem gX4_match_X4_needKept : GoodIn wsX4_match (wsV RX4 177 RX4 yX4_needKept wsX4_needKept) := goodIn_app (goodIn_of _ (by decide +kernel)) ggX4_match_X4_needKept
set_option maxRecDepth 20000 in
theorem ggX4_match_X0_nearestTurn : GoodIn wsX4_match wsX0_nearestTurn := goodIn_r _ [19, 20, 21, 22, 18, 23, 24, 25, 26, 27, 28, 29, 30, 31, 32, 33, 41, 42, 43, 44, 45, 46, 47, 48, 49, 50] (by decide +kernel) (by decide +kernel)
set_option maxRecDepth 20000 in
theorem gX4_match_X0_nearestTurn : GoodIn wsX4_match (wsV RX4 184 RX0 yX0_nearestTurn wsX0_nearestTurn) := goodIn_app (goodIn_of _ (by decide +kernel)) ggX4_match_X0_nearestTurn
theorem dX4_match_0 : decode cX4_match 0 = .ok (.aload_n 0, 1) := by decide +kernel
theorem dX4_match_1 : decode cX4_match 1 = .ok (.invokevirtual 110, 3) := by decide +kernel
theorem dX4_match_4 : decode cX4_match 4 = .ok (.aload_n 0, 1) := by decide +kernel
theorem dX4_match_5 : decode cX4_match 5 = .ok (.invokevirtual 177, 3) := by decide +kernel
theorem dX4_match_8 : decode cX4_match 8 = .ok (.aload_n 0, 1) := by decide +kernel
theorem dX4_match_9 : decode cX4_match 9 = .ok (.getfield 41, 3) := by decide +kernel
theorem dX4_match_12 : decode cX4_match 12 = .ok (.aload_n 0, 1) := by decide +kernel
theorem dX4_match_13 : decode cX4_match 13 = .ok (.getfield 34, 3) := by decide +kernel
theorem dX4_match_16 : decode cX4_match 16 = .ok (.invokevirtual 184, 3) := by decide +kernel
theorem dX4_match_19 : decode cX4_match 19 = .ok (.ireturn, 1) := by decide +kernel
theorem dX4_law_0 : decode cX4_law 0 = .ok (.lload_n 1, 1) := by decide +kernel
theorem dX4_law_1 : decode cX4_law 1 = .ok (.lconst 0, 1) := by decide +kernel
theorem dX4_law_2 : decode cX4_law 2 = .ok (.lcmp, 1) := by decide +kernel
theorem dX4_law_3 : decode cX4_law 3 = .ok (.ifCond .lt 11, 3) := by decide +kernel
theorem dX4_law_6 : decode cX4_law 6 = .ok (.lload_n 1, 1) := by decide +kernel
theorem dX4_law_7 : decode cX4_law 7 = .ok (.ldc2_w 187, 3) := by decide +kernel
theorem dX4_law_10 : decode cX4_law 10 = .ok (.lcmp, 1) := by decide +kernel
theorem dX4_law_11 : decode cX4_law 11 = .ok (.ifCond .le 13, 3) := by decide +kernel
theorem dX4_law_14 : decode cX4_law 14 = .ok (.new 59, 3) := by decide +kernel
theorem dX4_law_17 : decode cX4_law 17 = .ok (.dup, 1) := by decide +kernel
theorem dX4_law_18 : decode cX4_law 18 = .ok (.ldc 189, 2) := by decide +kernel
theorem dX4_law_20 : decode cX4_law 20 = .ok (.invokespecial 63, 3) := by decide +kernel
theorem dX4_law_23 : decode cX4_law 23 = .ok (.athrow, 1) := by decide +kernel
theorem dX4_law_24 : decode cX4_law 24 = .ok (.lload_n 3, 1) := by decide +kernel
theorem dX4_law_25 : decode cX4_law 25 = .ok (.lconst 1, 1) := by decide +kernel
theorem dX4_law_26 : decode cX4_law 26 = .ok (.lcmp, 1) := by decide +kernel
theorem dX4_law_27 : decode cX4_law 27 = .ok (.ifCond .lt 11, 3) := by decide +kernel
theorem dX4_law_30 : decode cX4_law 30 = .ok (.lload_n 3, 1) := by decide +kernel
theorem dX4_law_31 : decode cX4_law 31 = .ok (.ldc2_w 191, 3) := by decide +kernel
theorem dX4_law_34 : decode cX4_law 34 = .ok (.lcmp, 1) := by decide +kernel
theorem dX4_law_35 : decode cX4_law 35 = .ok (.ifCond .le 13, 3) := by decide +kernel
theorem dX4_law_38 : decode cX4_law 38 = .ok (.new 59, 3) := by decide +kernel
theorem dX4_law_41 : decode cX4_law 41 = .ok (.dup, 1) := by decide +kernel
theorem dX4_law_42 : decode cX4_law 42 = .ok (.ldc 193, 2) := by decide +kernel
theorem dX4_law_44 : decode cX4_law 44 = .ok (.invokespecial 63, 3) := by decide +kernel
theorem dX4_law_47 : decode cX4_law 47 = .ok (.athrow, 1) := by decide +kernel
theorem dX4_law_48 : decode cX4_law 48 = .ok (.lload 5, 2) := by decide +kernel
theorem dX4_law_50 : decode cX4_law 50 = .ok (.lconst 0, 1) := by decide +kernel
theorem dX4_law_51 : decode cX4_law 51 = .ok (.lcmp, 1) := by decide +kernel
theorem dX4_law_52 : decode cX4_law 52 = .ok (.ifCond .ge 13, 3) := by decide +kernel
theorem dX4_law_55 : decode cX4_law 55 = .ok (.new 59, 3) := by decide +kernel
theorem dX4_law_58 : decode cX4_law 58 = .ok (.dup, 1) := by decide +kernel
theorem dX4_law_59 : decode cX4_law 59 = .ok (.ldc 195, 2) := by decide +kernel
theorem dX4_law_61 : decode cX4_law 61 = .ok (.invokespecial 63, 3) := by decide +kernel
theorem dX4_law_64 : decode cX4_law 64 = .ok (.athrow, 1) := by decide +kernel
theorem dX4_law_65 : decode cX4_law 65 = .ok (.lload_n 1, 1) := by decide +kernel
theorem dX4_law_66 : decode cX4_law 66 = .ok (.lload_n 1, 1) := by decide +kernel
theorem dX4_law_67 : decode cX4_law 67 = .ok (.lload_n 3, 1) := by decide +kernel
theorem dX4_law_68 : decode cX4_law 68 = .ok (.lrem, 1) := by decide +kernel
theorem dX4_law_69 : decode cX4_law 69 = .ok (.lsub, 1) := by decide +kernel
theorem dX4_law_70 : decode cX4_law 70 = .ok (.lstore 7, 2) := by decide +kernel
theorem dX4_law_72 : decode cX4_law 72 = .ok (.lload 7, 2) := by decide +kernel
theorem dX4_law_74 : decode cX4_law 74 = .ok (.lload 5, 2) := by decide +kernel
theorem dX4_law_76 : decode cX4_law 76 = .ok (.lcmp, 1) := by decide +kernel
theorem dX4_law_77 : decode cX4_law 77 = .ok (.ifCond .ge 7, 3) := by decide +kernel
theorem dX4_law_80 : decode cX4_law 80 = .ok (.lconst 0, 1) := by decide +kernel
theorem dX4_law_81 : decode cX4_law 81 = .ok (.goto 5, 3) := by decide +kernel
theorem dX4_law_84 : decode cX4_law 84 = .ok (.lload 7, 2) := by decide +kernel
theorem dX4_law_86 : decode cX4_law 86 = .ok (.lreturn, 1) := by decide +kernel
theorem dX4_needSlice_0 : decode cX4_needSlice 0 = .ok (.iload_n 1, 1) := by decide +kernel
theorem dX4_needSlice_1 : decode cX4_needSlice 1 = .ok (.ifCond .lt 11, 3) := by decide +kernel
theorem dX4_needSlice_4 : decode cX4_needSlice 4 = .ok (.iload_n 1, 1) := by decide +kernel
theorem dX4_needSlice_5 : decode cX4_needSlice 5 = .ok (.aload_n 0, 1) := by decide +kernel
theorem dX4_needSlice_6 : decode cX4_needSlice 6 = .ok (.getfield 13, 3) := by decide +kernel
theorem dX4_needSlice_9 : decode cX4_needSlice 9 = .ok (.if_icmp .lt 13, 3) := by decide +kernel
theorem dX4_needSlice_12 : decode cX4_needSlice 12 = .ok (.new 105, 3) := by decide +kernel
theorem dX4_needSlice_15 : decode cX4_needSlice 15 = .ok (.dup, 1) := by decide +kernel
theorem dX4_needSlice_16 : decode cX4_needSlice 16 = .ok (.ldc 197, 2) := by decide +kernel
theorem dX4_needSlice_18 : decode cX4_needSlice 18 = .ok (.invokespecial 109, 3) := by decide +kernel
theorem dX4_needSlice_21 : decode cX4_needSlice 21 = .ok (.athrow, 1) := by decide +kernel
theorem dX4_needSlice_22 : decode cX4_needSlice 22 = .ok (.return_, 1) := by decide +kernel
theorem dX4_needView_0 : decode cX4_needView 0 = .ok (.iload_n 1, 1) := by decide +kernel
theorem dX4_needView_1 : decode cX4_needView 1 = .ok (.ifCond .lt 11, 3) := by decide +kernel
theorem dX4_needView_4 : decode cX4_needView 4 = .ok (.iload_n 1, 1) := by decide +kernel
theorem dX4_needView_5 : decode cX4_needView 5 = .ok (.aload_n 0, 1) := by decide +kernel
theorem dX4_needView_6 : decode cX4_needView 6 = .ok (.getfield 17, 3) := by decide +kernel
theorem dX4_needView_9 : decode cX4_needView 9 = .ok (.if_icmp .lt 13, 3) := by decide +kernel
theorem dX4_needView_12 : decode cX4_needView 12 = .ok (.new 105, 3) := by decide +kernel
theorem dX4_needView_15 : decode cX4_needView 15 = .ok (.dup, 1) := by decide +kernel
theorem dX4_needView_16 : decode cX4_needView 16 = .ok (.ldc 199, 2) := by decide +kernel
theorem dX4_needView_18 : decode cX4_needView 18 = .ok (.invokespecial 109, 3) := by decide +kernel
theorem dX4_needView_21 : decode cX4_needView 21 = .ok (.athrow, 1) := by decide +kernel
theorem dX4_needView_22 : decode cX4_needView 22 = .ok (.return_, 1) := by decide +kernel
theorem dX4_needShape_0 : decode cX4_needShape 0 = .ok (.aload_n 0, 1) := by decide +kernel
theorem dX4_needShape_1 : decode cX4_needShape 1 = .ok (.getfield 72, 3) := by decide +kernel
theorem dX4_needShape_4 : decode cX4_needShape 4 = .ok (.ifCond .ne 13, 3) := by decide +kernel
theorem dX4_needShape_7 : decode cX4_needShape 7 = .ok (.new 158, 3) := by decide +kernel
theorem dX4_needShape_10 : decode cX4_needShape 10 = .ok (.dup, 1) := by decide +kernel
theorem dX4_needShape_11 : decode cX4_needShape 11 = .ok (.ldc 201, 2) := by decide +kernel
theorem dX4_needShape_13 : decode cX4_needShape 13 = .ok (.invokespecial 162, 3) := by decide +kernel
theorem dX4_needShape_16 : decode cX4_needShape 16 = .ok (.athrow, 1) := by decide +kernel
theorem dX4_needShape_17 : decode cX4_needShape 17 = .ok (.return_, 1) := by decide +kernel
theorem dX4_needKept_0 : decode cX4_needKept 0 = .ok (.aload_n 0, 1) := by decide +kernel
theorem dX4_needKept_1 : decode cX4_needKept 1 = .ok (.getfield 41, 3) := by decide +kernel
theorem dX4_needKept_4 : decode cX4_needKept 4 = .ok (.getfield 203, 3) := by decide +kernel
theorem dX4_needKept_7 : decode cX4_needKept 7 = .ok (.ifCond .ne 13, 3) := by decide +kernel
theorem dX4_needKept_10 : decode cX4_needKept 10 = .ok (.new 158, 3) := by decide +kernel
theorem dX4_needKept_13 : decode cX4_needKept 13 = .ok (.dup, 1) := by decide +kernel
theorem dX4_needKept_14 : decode cX4_needKept 14 = .ok (.ldc 206, 2) := by decide +kernel
theorem dX4_needKept_16 : decode cX4_needKept 16 = .ok (.invokespecial 162, 3) := by decide +kernel
theorem dX4_needKept_19 : decode cX4_needKept 19 = .ok (.athrow, 1) := by decide +kernel
theorem dX4_needKept_20 : decode cX4_needKept 20 = .ok (.return_, 1) := by decide +kernel
theorem dX4_nearest_0 : decode cX4_nearest 0 = .ok (.iconst 1, 1) := by decide +kernel
theorem dX4_nearest_1 : decode cX4_nearest 1 = .ok (.iload_n 0, 1) := by decide +kernel
theorem dX4_nearest_2 : decode cX4_nearest 2 = .ok (.iload_n 1, 1) := by decide +kernel
theorem dX4_nearest_3 : decode cX4_nearest 3 = .ok (.invokestatic 208, 3) := by decide +kernel
theorem dX4_nearest_6 : decode cX4_nearest 6 = .ok (.invokestatic 213, 3) := by decide +kernel
theorem dX4_nearest_9 : decode cX4_nearest 9 = .ok (.ireturn, 1) := by decide +kernel
theorem dX4_within_0 : decode cX4_within 0 = .ok (.dload_n 0, 1) := by decide +kernel
theorem dX4_within_1 : decode cX4_within 1 = .ok (.iload_n 2, 1) := by decide +kernel
theorem dX4_within_2 : decode cX4_within 2 = .ok (.ineg, 1) := by decide +kernel
theorem dX4_within_3 : decode cX4_within 3 = .ok (.i2d, 1) := by decide +kernel
theorem dX4_within_4 : decode cX4_within 4 = .ok (.dcmp .l, 1) := by decide +kernel
theorem dX4_within_5 : decode cX4_within 5 = .ok (.ifCond .lt 14, 3) := by decide +kernel
theorem dX4_within_8 : decode cX4_within 8 = .ok (.dload_n 0, 1) := by decide +kernel
theorem dX4_within_9 : decode cX4_within 9 = .ok (.iload_n 2, 1) := by decide +kernel
theorem dX4_within_10 : decode cX4_within 10 = .ok (.i2d, 1) := by decide +kernel
theorem dX4_within_11 : decode cX4_within 11 = .ok (.dcmp .g, 1) := by decide +kernel
theorem dX4_within_12 : decode cX4_within 12 = .ok (.ifCond .gt 7, 3) := by decide +kernel
theorem dX4_within_15 : decode cX4_within 15 = .ok (.iconst 1, 1) := by decide +kernel
theorem dX4_within_16 : decode cX4_within 16 = .ok (.goto 4, 3) := by decide +kernel
theorem dX4_within_19 : decode cX4_within 19 = .ok (.iconst 0, 1) := by decide +kernel
theorem dX4_within_20 : decode cX4_within 20 = .ok (.ireturn, 1) := by decide +kernel
theorem dX4_root_0 : decode cX4_root 0 = .ok (.dload_n 0, 1) := by decide +kernel
theorem dX4_root_1 : decode cX4_root 1 = .ok (.dconst 1, 1) := by decide +kernel
theorem dX4_root_2 : decode cX4_root 2 = .ok (.dadd, 1) := by decide +kernel
theorem dX4_root_3 : decode cX4_root 3 = .ok (.ldc2_w 216, 3) := by decide +kernel
theorem dX4_root_6 : decode cX4_root 6 = .ok (.ddiv, 1) := by decide +kernel
theorem dX4_root_7 : decode cX4_root 7 = .ok (.dstore_n 2, 1) := by decide +kernel
theorem dX4_root_8 : decode cX4_root 8 = .ok (.iconst 0, 1) := by decide +kernel
theorem dX4_root_9 : decode cX4_root 9 = .ok (.istore 4, 2) := by decide +kernel
theorem dX4_root_11 : decode cX4_root 11 = .ok (.iload 4, 2) := by decide +kernel
theorem dX4_root_13 : decode cX4_root 13 = .ok (.bipush 60, 2) := by decide +kernel
theorem dX4_root_15 : decode cX4_root 15 = .ok (.if_icmp .ge 19, 3) := by decide +kernel
theorem dX4_root_18 : decode cX4_root 18 = .ok (.dload_n 2, 1) := by decide +kernel
theorem dX4_root_19 : decode cX4_root 19 = .ok (.dload_n 0, 1) := by decide +kernel
theorem dX4_root_20 : decode cX4_root 20 = .ok (.dload_n 2, 1) := by decide +kernel
theorem dX4_root_21 : decode cX4_root 21 = .ok (.ddiv, 1) := by decide +kernel
theorem dX4_root_22 : decode cX4_root 22 = .ok (.dadd, 1) := by decide +kernel
theorem dX4_root_23 : decode cX4_root 23 = .ok (.ldc2_w 216, 3) := by decide +kernel
theorem dX4_root_26 : decode cX4_root 26 = .ok (.ddiv, 1) := by decide +kernel
theorem dX4_root_27 : decode cX4_root 27 = .ok (.dstore_n 2, 1) := by decide +kernel
theorem dX4_root_28 : decode cX4_root 28 = .ok (.iinc 4 1, 3) := by decide +kernel
theorem dX4_root_31 : decode cX4_root 31 = .ok (.goto (-20), 3) := by decide +kernel
theorem dX4_root_34 : decode cX4_root 34 = .ok (.dload_n 2, 1) := by decide +kernel
theorem dX4_root_35 : decode cX4_root 35 = .ok (.dreturn, 1) := by decide +kernel
end
section
theorem dX5_init_0 : decode cX5_init 0 = .ok (.aload_n 0, 1) := by decide +kernel
theorem dX5_init_1 : decode cX5_init 1 = .ok (.invokespecial 1, 3) := by decide +kernel
theorem dX5_init_4 : decode cX5_init 4 = .ok (.aload_n 0, 1) := by decide +kernel
theorem dX5_init_5 : decode cX5_init 5 = .ok (.bipush 8, 2) := by decide +kernel
theorem dX5_init_7 : decode cX5_init 7 = .ok (.newarray .double, 2) := by decide +kernel
theorem dX5_init_9 : decode cX5_init 9 = .ok (.dup, 1) := by decide +kernel
theorem dX5_init_10 : decode cX5_init 10 = .ok (.iconst 0, 1) := by decide +kernel
theorem dX5_init_11 : decode cX5_init 11 = .ok (.dconst 1, 1) := by decide +kernel
theorem dX5_init_12 : decode cX5_init 12 = .ok (.dastore, 1) := by decide +kernel
theorem dX5_init_13 : decode cX5_init 13 = .ok (.dup, 1) := by decide +kernel
theorem dX5_init_14 : decode cX5_init 14 = .ok (.iconst 1, 1) := by decide +kernel
theorem dX5_init_15 : decode cX5_init 15 = .ok (.dconst 1, 1) := by decide +kernel
theorem dX5_init_16 : decode cX5_init 16 = .ok (.dastore, 1) := by decide +kernel
theorem dX5_init_17 : decode cX5_init 17 = .ok (.dup, 1) := by decide +kernel
theorem dX5_init_18 : decode cX5_init 18 = .ok (.iconst 2, 1) := by decide +kernel
theorem dX5_init_19 : decode cX5_init 19 = .ok (.dconst 1, 1) := by decide +kernel
theorem dX5_init_20 : decode cX5_init 20 = .ok (.dastore, 1) := by decide +kernel
theorem dX5_init_21 : decode cX5_init 21 = .ok (.dup, 1) := by decide +kernel
theorem dX5_init_22 : decode cX5_init 22 = .ok (.iconst 3, 1) := by decide +kernel
theorem dX5_init_23 : decode cX5_init 23 = .ok (.dconst 1, 1) := by decide +kernel
theorem dX5_init_24 : decode cX5_init 24 = .ok (.dastore, 1) := by decide +kernel
theorem dX5_init_25 : decode cX5_init 25 = .ok (.dup, 1) := by decide +kernel
theorem dX5_init_26 : decode cX5_init 26 = .ok (.iconst 4, 1) := by decide +kernel
theorem dX5_init_27 : decode cX5_init 27 = .ok (.dconst 1, 1) := by decide +kernel
theorem dX5_init_28 : decode cX5_init 28 = .ok (.dastore, 1) := by decide +kernel
theorem dX5_init_29 : decode cX5_init 29 = .ok (.dup, 1) := by decide +kernel
theorem dX5_init_30 : decode cX5_init 30 = .ok (.iconst 5, 1) := by decide +kernel
theorem dX5_init_31 : decode cX5_init 31 = .ok (.dconst 1, 1) := by decide +kernel
theorem dX5_init_32 : decode cX5_init 32 = .ok (.dastore, 1) := by decide +kernel
theorem dX5_init_33 : decode cX5_init 33 = .ok (.dup, 1) := by decide +kernel
theorem dX5_init_34 : decode cX5_init 34 = .ok (.bipush 6, 2) := by decide +kernel
theorem dX5_init_36 : decode cX5_init 36 = .ok (.dconst 1, 1) := by decide +kernel
theorem dX5_init_37 : decode cX5_init 37 = .ok (.dastore, 1) := by decide +kernel
theorem dX5_init_38 : decode cX5_init 38 = .ok (.dup, 1) := by decide +kernel
theorem dX5_init_39 : decode cX5_init 39 = .ok (.bipush 7, 2) := by decide +kernel
theorem dX5_init_41 : decode cX5_init 41 = .ok (.dconst 1, 1) := by decide +kernel
theorem dX5_init_42 : decode cX5_init 42 = .ok (.dastore, 1) := by decide +kernel
theorem dX5_init_43 : decode cX5_init 43 = .ok (.putfield 7, 3) := by decide +kernel
theorem dX5_init_46 : decode cX5_init 46 = .ok (.aload_n 0, 1) := by decide +kernel
theorem dX5_init_47 : decode cX5_init 47 = .ok (.bipush 8, 2) := by decide +kernel
theorem dX5_init_49 : decode cX5_init 49 = .ok (.newarray .double, 2) := by decide +kernel
theorem dX5_init_51 : decode cX5_init 51 = .ok (.putfield 13, 3) := by decide +kernel
theorem dX5_init_54 : decode cX5_init 54 = .ok (.aload_n 0, 1) := by decide +kernel
theorem dX5_init_55 : decode cX5_init 55 = .ok (.sipush 128, 3) := by decide +kernel
theorem dX5_init_58 : decode cX5_init 58 = .ok (.newarray .boolean, 2) := by decide +kernel
theorem dX5_init_60 : decode cX5_init 60 = .ok (.putfield 16, 3) := by decide +kernel
theorem dX5_init_63 : decode cX5_init 63 = .ok (.aload_n 0, 1) := by decide +kernel
theorem dX5_init_64 : decode cX5_init 64 = .ok (.sipush 128, 3) := by decide +kernel
theorem dX5_init_67 : decode cX5_init 67 = .ok (.newarray .double, 2) := by decide +kernel
theorem dX5_init_69 : decode cX5_init 69 = .ok (.putfield 20, 3) := by decide +kernel
theorem dX5_init_72 : decode cX5_init 72 = .ok (.aload_n 0, 1) := by decide +kernel
theorem dX5_init_73 : decode cX5_init 73 = .ok (.sipush 128, 3) := by decide +kernel
theorem dX5_init_76 : decode cX5_init 76 = .ok (.newarray .double, 2) := by decide +kernel
theorem dX5_init_78 : decode cX5_init 78 = .ok (.putfield 23, 3) := by decide +kernel
theorem dX5_init_81 : decode cX5_init 81 = .ok (.aload_n 0, 1) := by decide +kernel
theorem dX5_init_82 : decode cX5_init 82 = .ok (.bipush 16, 2) := by decide +kernel
theorem dX5_init_84 : decode cX5_init 84 = .ok (.newarray .boolean, 2) := by decide +kernel
theorem dX5_init_86 : decode cX5_init 86 = .ok (.putfield 26, 3) := by decide +kernel
theorem dX5_init_89 : decode cX5_init 89 = .ok (.aload_n 0, 1) := by decide +kernel
theorem dX5_init_90 : decode cX5_init 90 = .ok (.bipush 64, 2) := by decide +kernel
theorem dX5_init_92 : decode cX5_init 92 = .ok (.newarray .double, 2) := by decide +kernel
theorem dX5_init_94 : decode cX5_init 94 = .ok (.putfield 29, 3) := by decide +kernel
theorem dX5_init_97 : decode cX5_init 97 = .ok (.aload_n 0, 1) := by decide +kernel
theorem dX5_init_98 : decode cX5_init 98 = .ok (.bipush 6, 2) := by decide +kernel
theorem dX5_init_100 : decode cX5_init 100 = .ok (.newarray .int, 2) := by decide +kernel
theorem dX5_init_102 : decode cX5_init 102 = .ok (.putfield 32, 3) := by decide +kernel
theorem dX5_init_105 : decode cX5_init 105 = .ok (.aload_n 0, 1) := by decide +kernel
theorem dX5_init_106 : decode cX5_init 106 = .ok (.bipush 6, 2) := by decide +kernel
theorem dX5_init_108 : decode cX5_init 108 = .ok (.newarray .double, 2) := by decide +kernel
theorem dX5_init_110 : decode cX5_init 110 = .ok (.putfield 36, 3) := by decide +kernel
theorem dX5_init_113 : decode cX5_init 113 = .ok (.aload_n 0, 1) := by decide +kernel
theorem dX5_init_114 : decode cX5_init 114 = .ok (.bipush 6, 2) := by decide +kernel
theorem dX5_init_116 : decode cX5_init 116 = .ok (.newarray .int, 2) := by decide +kernel
theorem dX5_init_118 : decode cX5_init 118 = .ok (.putfield 39, 3) := by decide +kernel
theorem dX5_init_121 : decode cX5_init 121 = .ok (.aload_n 0, 1) := by decide +kernel
theorem dX5_init_122 : decode cX5_init 122 = .ok (.bipush 16, 2) := by decide +kernel
theorem dX5_init_124 : decode cX5_init 124 = .ok (.newarray .double, 2) := by decide +kernel
theorem dX5_init_126 : decode cX5_init 126 = .ok (.putfield 42, 3) := by decide +kernel
theorem dX5_init_129 : decode cX5_init 129 = .ok (.aload_n 0, 1) := by decide +kernel
theorem dX5_init_130 : decode cX5_init 130 = .ok (.bipush 16, 2) := by decide +kernel
theorem dX5_init_132 : decode cX5_init 132 = .ok (.newarray .double, 2) := by decide +kernel
theorem dX5_init_134 : decode cX5_init 134 = .ok (.putfield 45, 3) := by decide +kernel
theorem dX5_init_137 : decode cX5_init 137 = .ok (.aload_n 0, 1) := by decide +kernel
theorem dX5_init_138 : decode cX5_init 138 = .ok (.iload_n 1, 1) := by decide +kernel
theorem dX5_init_139 : decode cX5_init 139 = .ok (.iconst 1, 1) := by decide +kernel
theorem dX5_init_140 : decode cX5_init 140 = .ok (.if_icmp .ge 7, 3) := by decide +kernel
theorem dX5_init_143 : decode cX5_init 143 = .ok (.iconst 1, 1) := by decide +kernel
theorem dX5_init_144 : decode cX5_init 144 = .ok (.goto 15, 3) := by decide +kernel
theorem dX5_init_147 : decode cX5_init 147 = .ok (.iload_n 1, 1) := by decide +kernel
theorem dX5_init_148 : decode cX5_init 148 = .ok (.bipush 16, 2) := by decide +kernel
theorem dX5_init_150 : decode cX5_init 150 = .ok (.if_icmp .le 8, 3) := by decide +kernel
theorem dX5_init_153 : decode cX5_init 153 = .ok (.bipush 16, 2) := by decide +kernel
theorem dX5_init_155 : decode cX5_init 155 = .ok (.goto 4, 3) := by decide +kernel
theorem dX5_init_158 : decode cX5_init 158 = .ok (.iload_n 1, 1) := by decide +kernel
theorem dX5_init_159 : decode cX5_init 159 = .ok (.putfield 48, 3) := by decide +kernel
theorem dX5_init_162 : decode cX5_init 162 = .ok (.aload_n 0, 1) := by decide +kernel
theorem dX5_init_163 : decode cX5_init 163 = .ok (.iload_n 2, 1) := by decide +kernel
theorem dX5_init_164 : decode cX5_init 164 = .ok (.iconst 1, 1) := by decide +kernel
theorem dX5_init_165 : decode cX5_init 165 = .ok (.if_icmp .ge 7, 3) := by decide +kernel
theorem dX5_init_168 : decode cX5_init 168 = .ok (.iconst 1, 1) := by decide +kernel
theorem dX5_init_169 : decode cX5_init 169 = .ok (.goto 15, 3) := by decide +kernel
theorem dX5_init_172 : decode cX5_init 172 = .ok (.iload_n 2, 1) := by decide +kernel
theorem dX5_init_173 : decode cX5_init 173 = .ok (.bipush 8, 2) := by decide +kernel
theorem dX5_init_175 : decode cX5_init 175 = .ok (.if_icmp .le 8, 3) := by decide +kernel
theorem dX5_init_178 : decode cX5_init 178 = .ok (.bipush 8, 2) := by decide +kernel
theorem dX5_init_180 : decode cX5_init 180 = .ok (.goto 4, 3) := by decide +kernel
theorem dX5_init_183 : decode cX5_init 183 = .ok (.iload_n 2, 1) := by decide +kernel
theorem dX5_init_184 : decode cX5_init 184 = .ok (.putfield 52, 3) := by decide +kernel
theorem dX5_init_187 : decode cX5_init 187 = .ok (.return_, 1) := by decide +kernel
theorem dX5_thrown_0 : decode cX5_thrown 0 = .ok (.aload_n 0, 1) := by decide +kernel
theorem dX5_thrown_1 : decode cX5_thrown 1 = .ok (.getfield 55, 3) := by decide +kernel
theorem dX5_thrown_4 : decode cX5_thrown 4 = .ok (.ireturn, 1) := by decide +kernel
theorem dX5_between_0 : decode cX5_between 0 = .ok (.dload_n 0, 1) := by decide +kernel
theorem dX5_between_1 : decode cX5_between 1 = .ok (.dload_n 2, 1) := by decide +kernel
theorem dX5_between_2 : decode cX5_between 2 = .ok (.dcmp .l, 1) := by decide +kernel
theorem dX5_between_3 : decode cX5_between 3 = .ok (.ifCond .lt 14, 3) := by decide +kernel
theorem dX5_between_6 : decode cX5_between 6 = .ok (.dload_n 0, 1) := by decide +kernel
theorem dX5_between_7 : decode cX5_between 7 = .ok (.dload 4, 2) := by decide +kernel
theorem dX5_between_9 : decode cX5_between 9 = .ok (.dcmp .g, 1) := by decide +kernel
theorem dX5_between_10 : decode cX5_between 10 = .ok (.ifCond .gt 7, 3) := by decide +kernel
theorem dX5_between_13 : decode cX5_between 13 = .ok (.iconst 1, 1) := by decide +kernel
theorem dX5_between_14 : decode cX5_between 14 = .ok (.goto 4, 3) := by decide +kernel
theorem dX5_between_17 : decode cX5_between 17 = .ok (.iconst 0, 1) := by decide +kernel
theorem dX5_between_18 : decode cX5_between 18 = .ok (.ireturn, 1) := by decide +kernel
theorem dX5_noSlice_0 : decode cX5_noSlice 0 = .ok (.iload_n 1, 1) := by decide +kernel
theorem dX5_noSlice_1 : decode cX5_noSlice 1 = .ok (.ifCond .lt 11, 3) := by decide +kernel
theorem dX5_noSlice_4 : decode cX5_noSlice 4 = .ok (.iload_n 1, 1) := by decide +kernel
theorem dX5_noSlice_5 : decode cX5_noSlice 5 = .ok (.aload_n 0, 1) := by decide +kernel
theorem dX5_noSlice_6 : decode cX5_noSlice 6 = .ok (.getfield 48, 3) := by decide +kernel
theorem dX5_noSlice_9 : decode cX5_noSlice 9 = .ok (.if_icmp .lt 7, 3) := by decide +kernel
theorem dX5_noSlice_12 : decode cX5_noSlice 12 = .ok (.iconst 1, 1) := by decide +kernel
theorem dX5_noSlice_13 : decode cX5_noSlice 13 = .ok (.goto 4, 3) := by decide +kernel
theorem dX5_noSlice_16 : decode cX5_noSlice 16 = .ok (.iconst 0, 1) := by decide +kernel
theorem dX5_noSlice_17 : decode cX5_noSlice 17 = .ok (.ireturn, 1) := by decide +kernel
theorem dX5_noView_0 : decode cX5_noView 0 = .ok (.iload_n 1, 1) := by decide +kernel
theorem dX5_noView_1 : decode cX5_noView 1 = .ok (.ifCond .lt 11, 3) := by decide +kernel
theorem dX5_noView_4 : decode cX5_noView 4 = .ok (.iload_n 1, 1) := by decide +kernel
theorem dX5_noView_5 : decode cX5_noView 5 = .ok (.aload_n 0, 1) := by decide +kernel
theorem dX5_noView_6 : decode cX5_noView 6 = .ok (.getfield 52, 3) := by decide +kernel
theorem dX5_noView_9 : decode cX5_noView 9 = .ok (.if_icmp .lt 7, 3) := by decide +kernel
theorem dX5_noView_12 : decode cX5_noView 12 = .ok (.iconst 1, 1) := by decide +kernel
theorem dX5_noView_13 : decode cX5_noView 13 = .ok (.goto 4, 3) := by decide +kernel
theorem dX5_noView_16 : decode cX5_noView 16 = .ok (.iconst 0, 1) := by decide +kernel
theorem dX5_noView_17 : decode cX5_noView 17 = .ok (.ireturn, 1) := by decide +kernel
set_option maxRecDepth 20000 in
theorem ggX5_aim_X5_noView : GoodIn wsX5_aim wsX5_noView := goodIn_r _ [11, 12, 16, 17, 18, 19, 20, 21, 22, 23, 24, 25, 26, 27, 28, 29, 30, 31, 32, 33, 34] (by decide +kernel) (by decide +kernel)
set_option maxRecDepth 20000 in
theorem gX5_aim_X5_noView : GoodIn wsX5_aim (wsV RX5 58 RX5 yX5_noView wsX5_noView) := goodIn_app (goodIn_of _ (by decide +kernel)) ggX5_aim_X5_noView
set_option maxRecDepth 20000 in
theorem ggX5_aim_X5_between : GoodIn wsX5_aim wsX5_between := goodIn_r _ [15] (by decide +kernel) (by decide +kernel)
set_option maxRecDepth 20000 in
theorem gX5_aim_X5_between : GoodIn wsX5_aim (va_wsS RX5 66 yX5_between wsX5_between) := goodIn_app (goodIn_of _ (by decide +kernel)) ggX5_aim_X5_between
theorem dX5_aim_0 : decode cX5_aim 0 = .ok (.aload_n 0, 1) := by decide +kernel
theorem dX5_aim_1 : decode cX5_aim 1 = .ok (.aload_n 0, 1) := by decide +kernel
theorem dX5_aim_2 : decode cX5_aim 2 = .ok (.iload_n 1, 1) := by decide +kernel
theorem dX5_aim_3 : decode cX5_aim 3 = .ok (.invokevirtual 58, 3) := by decide +kernel
theorem dX5_aim_6 : decode cX5_aim 6 = .ok (.ifCond .eq 7, 3) := by decide +kernel
theorem dX5_aim_9 : decode cX5_aim 9 = .ok (.iconst 1, 1) := by decide +kernel
theorem dX5_aim_10 : decode cX5_aim 10 = .ok (.goto 48, 3) := by decide +kernel
theorem dX5_aim_13 : decode cX5_aim 13 = .ok (.dload_n 2, 1) := by decide +kernel
theorem dX5_aim_14 : decode cX5_aim 14 = .ok (.ldc2_w 62, 3) := by decide +kernel
theorem dX5_aim_17 : decode cX5_aim 17 = .ok (.ldc2_w 64, 3) := by decide +kernel
theorem dX5_aim_20 : decode cX5_aim 20 = .ok (.invokestatic 66, 3) := by decide +kernel
theorem dX5_aim_23 : decode cX5_aim 23 = .ok (.ifCond .eq 30, 3) := by decide +kernel
theorem dX5_aim_26 : decode cX5_aim 26 = .ok (.dload 4, 2) := by decide +kernel
theorem dX5_aim_28 : decode cX5_aim 28 = .ok (.ldc2_w 62, 3) := by decide +kernel
theorem dX5_aim_31 : decode cX5_aim 31 = .ok (.ldc2_w 64, 3) := by decide +kernel
theorem dX5_aim_34 : decode cX5_aim 34 = .ok (.invokestatic 66, 3) := by decide +kernel
theorem dX5_aim_37 : decode cX5_aim 37 = .ok (.ifCond .eq 16, 3) := by decide +kernel
theorem dX5_aim_40 : decode cX5_aim 40 = .ok (.dload_n 2, 1) := by decide +kernel
theorem dX5_aim_41 : decode cX5_aim 41 = .ok (.dconst 0, 1) := by decide +kernel
theorem dX5_aim_42 : decode cX5_aim 42 = .ok (.dcmp .l, 1) := by decide +kernel
theorem dX5_aim_43 : decode cX5_aim 43 = .ok (.ifCond .ne 14, 3) := by decide +kernel
theorem dX5_aim_46 : decode cX5_aim 46 = .ok (.dload 4, 2) := by decide +kernel
theorem dX5_aim_48 : decode cX5_aim 48 = .ok (.dconst 0, 1) := by decide +kernel
theorem dX5_aim_49 : decode cX5_aim 49 = .ok (.dcmp .l, 1) := by decide +kernel
theorem dX5_aim_50 : decode cX5_aim 50 = .ok (.ifCond .ne 7, 3) := by decide +kernel
theorem dX5_aim_53 : decode cX5_aim 53 = .ok (.iconst 2, 1) := by decide +kernel
theorem dX5_aim_54 : decode cX5_aim 54 = .ok (.goto 4, 3) := by decide +kernel
theorem dX5_aim_57 : decode cX5_aim 57 = .ok (.iconst 0, 1) := by decide +kernel
theorem dX5_aim_58 : decode cX5_aim 58 = .ok (.putfield 55, 3) := by decide +kernel
theorem dX5_aim_61 : decode cX5_aim 61 = .ok (.aload_n 0, 1) := by decide +kernel
theorem dX5_aim_62 : decode cX5_aim 62 = .ok (.getfield 55, 3) := by decide +kernel
theorem dX5_aim_65 : decode cX5_aim 65 = .ok (.ifCond .ne 23, 3) := by decide +kernel
theorem dX5_aim_68 : decode cX5_aim 68 = .ok (.aload_n 0, 1) := by decide +kernel
theorem dX5_aim_69 : decode cX5_aim 69 = .ok (.getfield 7, 3) := by decide +kernel
theorem dX5_aim_72 : decode cX5_aim 72 = .ok (.iload_n 1, 1) := by decide +kernel
theorem dX5_aim_73 : decode cX5_aim 73 = .ok (.dload_n 2, 1) := by decide +kernel
theorem dX5_aim_74 : decode cX5_aim 74 = .ok (.dastore, 1) := by decide +kernel
theorem dX5_aim_75 : decode cX5_aim 75 = .ok (.aload_n 0, 1) := by decide +kernel
theorem dX5_aim_76 : decode cX5_aim 76 = .ok (.getfield 13, 3) := by decide +kernel
theorem dX5_aim_79 : decode cX5_aim 79 = .ok (.iload_n 1, 1) := by decide +kernel
theorem dX5_aim_80 : decode cX5_aim 80 = .ok (.dload 4, 2) := by decide +kernel
theorem dX5_aim_82 : decode cX5_aim 82 = .ok (.dastore, 1) := by decide +kernel
theorem dX5_aim_83 : decode cX5_aim 83 = .ok (.aload_n 0, 1) := by decide +kernel
theorem dX5_aim_84 : decode cX5_aim 84 = .ok (.iconst 0, 1) := by decide +kernel
theorem dX5_aim_85 : decode cX5_aim 85 = .ok (.putfield 70, 3) := by decide +kernel
theorem dX5_aim_88 : decode cX5_aim 88 = .ok (.return_, 1) := by decide +kernel
set_option maxRecDepth 20000 in
theorem ggX5_shadow_X5_noSlice : GoodIn wsX5_shadow wsX5_noSlice := goodIn_r _ [12, 13, 22, 23, 24, 25, 26, 27, 28, 29, 30, 31, 32, 33, 34, 35, 36, 37, 38, 39, 40] (by decide +kernel) (by decide +kernel)
set_option maxRecDepth 20000 in
theorem gX5_shadow_X5_noSlice : GoodIn wsX5_shadow (wsV RX5 74 RX5 yX5_noSlice wsX5_noSlice) := goodIn_app (goodIn_of _ (by decide +kernel)) ggX5_shadow_X5_noSlice
set_option maxRecDepth 20000 in
theorem ggX5_shadow_X5_noView : GoodIn wsX5_shadow wsX5_noView := goodIn_r _ [17, 18, 22, 23, 24, 25, 26, 27, 28, 29, 30, 31, 32, 33, 34, 35, 36, 37, 38, 39, 40] (by decide +kernel) (by decide +kernel)
set_option maxRecDepth 20000 in
theorem gX5_shadow_X5_noView : GoodIn wsX5_shadow (wsV RX5 58 RX5 yX5_noView wsX5_noView) := goodIn_app (goodIn_of _ (by decide +kernel)) ggX5_shadow_X5_noView
set_option maxRecDepth 20000 in
theorem ggX5_shadow_X5_between : GoodIn wsX5_shadow wsX5_between := goodIn_r _ [21] (by decide +kernel) (by decide +kernel)
set_option maxRecDepth 20000 in
theorem gX5_shadow_X5_between : GoodIn wsX5_shadow (va_wsS RX5 66 yX5_between wsX5_between) := goodIn_app (goodIn_of _ (by decide +kernel)) ggX5_shadow_X5_between
theorem dX5_shadow_0 : decode cX5_shadow 0 = .ok (.aload_n 0, 1) := by decide +kernel
theorem dX5_shadow_1 : decode cX5_shadow 1 = .ok (.aload_n 0, 1) := by decide +kernel
theorem dX5_shadow_2 : decode cX5_shadow 2 = .ok (.iload_n 1, 1) := by decide +kernel
theorem dX5_shadow_3 : decode cX5_shadow 3 = .ok (.invokevirtual 74, 3) := by decide +kernel
theorem dX5_shadow_6 : decode cX5_shadow 6 = .ok (.ifCond .ne 11, 3) := by decide +kernel
theorem dX5_shadow_9 : decode cX5_shadow 9 = .ok (.aload_n 0, 1) := by decide +kernel
theorem dX5_shadow_10 : decode cX5_shadow 10 = .ok (.iload_n 2, 1) := by decide +kernel
theorem dX5_shadow_11 : decode cX5_shadow 11 = .ok (.invokevirtual 58, 3) := by decide +kernel
theorem dX5_shadow_14 : decode cX5_shadow 14 = .ok (.ifCond .eq 7, 3) := by decide +kernel
theorem dX5_shadow_17 : decode cX5_shadow 17 = .ok (.iconst 1, 1) := by decide +kernel
theorem dX5_shadow_18 : decode cX5_shadow 18 = .ok (.goto 42, 3) := by decide +kernel
theorem dX5_shadow_21 : decode cX5_shadow 21 = .ok (.dload_n 3, 1) := by decide +kernel
theorem dX5_shadow_22 : decode cX5_shadow 22 = .ok (.ldc2_w 77, 3) := by decide +kernel
theorem dX5_shadow_25 : decode cX5_shadow 25 = .ok (.ldc2_w 79, 3) := by decide +kernel
theorem dX5_shadow_28 : decode cX5_shadow 28 = .ok (.invokestatic 66, 3) := by decide +kernel
theorem dX5_shadow_31 : decode cX5_shadow 31 = .ok (.ifCond .eq 24, 3) := by decide +kernel
theorem dX5_shadow_34 : decode cX5_shadow 34 = .ok (.dload 5, 2) := by decide +kernel
theorem dX5_shadow_36 : decode cX5_shadow 36 = .ok (.ldc2_w 77, 3) := by decide +kernel
theorem dX5_shadow_39 : decode cX5_shadow 39 = .ok (.ldc2_w 79, 3) := by decide +kernel
theorem dX5_shadow_42 : decode cX5_shadow 42 = .ok (.invokestatic 66, 3) := by decide +kernel
theorem dX5_shadow_45 : decode cX5_shadow 45 = .ok (.ifCond .eq 10, 3) := by decide +kernel
theorem dX5_shadow_48 : decode cX5_shadow 48 = .ok (.dload 5, 2) := by decide +kernel
theorem dX5_shadow_50 : decode cX5_shadow 50 = .ok (.dload_n 3, 1) := by decide +kernel
theorem dX5_shadow_51 : decode cX5_shadow 51 = .ok (.dcmp .g, 1) := by decide +kernel
theorem dX5_shadow_52 : decode cX5_shadow 52 = .ok (.ifCond .ge 7, 3) := by decide +kernel
theorem dX5_shadow_55 : decode cX5_shadow 55 = .ok (.iconst 2, 1) := by decide +kernel
theorem dX5_shadow_56 : decode cX5_shadow 56 = .ok (.goto 4, 3) := by decide +kernel
theorem dX5_shadow_59 : decode cX5_shadow 59 = .ok (.iconst 0, 1) := by decide +kernel
theorem dX5_shadow_60 : decode cX5_shadow 60 = .ok (.putfield 55, 3) := by decide +kernel
theorem dX5_shadow_63 : decode cX5_shadow 63 = .ok (.aload_n 0, 1) := by decide +kernel
theorem dX5_shadow_64 : decode cX5_shadow 64 = .ok (.getfield 55, 3) := by decide +kernel
theorem dX5_shadow_67 : decode cX5_shadow 67 = .ok (.ifCond .ne 45, 3) := by decide +kernel
theorem dX5_shadow_70 : decode cX5_shadow 70 = .ok (.aload_n 0, 1) := by decide +kernel
theorem dX5_shadow_71 : decode cX5_shadow 71 = .ok (.getfield 16, 3) := by decide +kernel
theorem dX5_shadow_74 : decode cX5_shadow 74 = .ok (.bipush 8, 2) := by decide +kernel
theorem dX5_shadow_76 : decode cX5_shadow 76 = .ok (.iload_n 1, 1) := by decide +kernel
theorem dX5_shadow_77 : decode cX5_shadow 77 = .ok (.imul, 1) := by decide +kernel
theorem dX5_shadow_78 : decode cX5_shadow 78 = .ok (.iload_n 2, 1) := by decide +kernel
theorem dX5_shadow_79 : decode cX5_shadow 79 = .ok (.iadd, 1) := by decide +kernel
theorem dX5_shadow_80 : decode cX5_shadow 80 = .ok (.iconst 1, 1) := by decide +kernel
theorem dX5_shadow_81 : decode cX5_shadow 81 = .ok (.bastore, 1) := by decide +kernel
theorem dX5_shadow_82 : decode cX5_shadow 82 = .ok (.aload_n 0, 1) := by decide +kernel
theorem dX5_shadow_83 : decode cX5_shadow 83 = .ok (.getfield 20, 3) := by decide +kernel
theorem dX5_shadow_86 : decode cX5_shadow 86 = .ok (.bipush 8, 2) := by decide +kernel
theorem dX5_shadow_88 : decode cX5_shadow 88 = .ok (.iload_n 1, 1) := by decide +kernel
theorem dX5_shadow_89 : decode cX5_shadow 89 = .ok (.imul, 1) := by decide +kernel
theorem dX5_shadow_90 : decode cX5_shadow 90 = .ok (.iload_n 2, 1) := by decide +kernel
theorem dX5_shadow_91 : decode cX5_shadow 91 = .ok (.iadd, 1) := by decide +kernel
theorem dX5_shadow_92 : decode cX5_shadow 92 = .ok (.dload_n 3, 1) := by decide +kernel
theorem dX5_shadow_93 : decode cX5_shadow 93 = .ok (.dastore, 1) := by decide +kernel
theorem dX5_shadow_94 : decode cX5_shadow 94 = .ok (.aload_n 0, 1) := by decide +kernel
theorem dX5_shadow_95 : decode cX5_shadow 95 = .ok (.getfield 23, 3) := by decide +kernel
theorem dX5_shadow_98 : decode cX5_shadow 98 = .ok (.bipush 8, 2) := by decide +kernel
theorem dX5_shadow_100 : decode cX5_shadow 100 = .ok (.iload_n 1, 1) := by decide +kernel
theorem dX5_shadow_101 : decode cX5_shadow 101 = .ok (.imul, 1) := by decide +kernel
theorem dX5_shadow_102 : decode cX5_shadow 102 = .ok (.iload_n 2, 1) := by decide +kernel
theorem dX5_shadow_103 : decode cX5_shadow 103 = .ok (.iadd, 1) := by decide +kernel
theorem dX5_shadow_104 : decode cX5_shadow 104 = .ok (.dload 5, 2) := by decide +kernel
theorem dX5_shadow_106 : decode cX5_shadow 106 = .ok (.dastore, 1) := by decide +kernel
theorem dX5_shadow_107 : decode cX5_shadow 107 = .ok (.aload_n 0, 1) := by decide +kernel
theorem dX5_shadow_108 : decode cX5_shadow 108 = .ok (.iconst 0, 1) := by decide +kernel
theorem dX5_shadow_109 : decode cX5_shadow 109 = .ok (.putfield 70, 3) := by decide +kernel
theorem dX5_shadow_112 : decode cX5_shadow 112 = .ok (.return_, 1) := by decide +kernel
set_option maxRecDepth 20000 in
theorem ggX5_lift_X5_noSlice : GoodIn wsX5_lift wsX5_noSlice := goodIn_r _ [8, 9, 15, 16, 17, 18, 19, 20, 21, 22, 23, 24, 25, 26, 27, 28, 29, 30, 31, 32, 33] (by decide +kernel) (by decide +kernel)
set_option maxRecDepth 20000 in
theorem gX5_lift_X5_noSlice : GoodIn wsX5_lift (wsV RX5 74 RX5 yX5_noSlice wsX5_noSlice) := goodIn_app (goodIn_of _ (by decide +kernel)) ggX5_lift_X5_noSlice
set_option maxRecDepth 20000 in
theorem ggX5_lift_X5_noView : GoodIn wsX5_lift wsX5_noView := goodIn_r _ [13, 14, 15, 16, 17, 18, 19, 20, 21, 22, 23, 24, 25, 26, 27, 28, 29, 30, 31, 32, 33] (by decide +kernel) (by decide +kernel)
set_option maxRecDepth 20000 in
theorem gX5_lift_X5_noView : GoodIn wsX5_lift (wsV RX5 58 RX5 yX5_noView wsX5_noView) := goodIn_app (goodIn_of _ (by decide +kernel)) ggX5_lift_X5_noView
theorem dX5_lift_0 : decode cX5_lift 0 = .ok (.aload_n 0, 1) := by decide +kernel
theorem dX5_lift_1 : decode cX5_lift 1 = .ok (.aload_n 0, 1) := by decide +kernel
theorem dX5_lift_2 : decode cX5_lift 2 = .ok (.iload_n 1, 1) := by decide +kernel
theorem dX5_lift_3 : decode cX5_lift 3 = .ok (.invokevirtual 74, 3) := by decide +kernel
theorem dX5_lift_6 : decode cX5_lift 6 = .ok (.ifCond .ne 11, 3) := by decide +kernel
theorem dX5_lift_9 : decode cX5_lift 9 = .ok (.aload_n 0, 1) := by decide +kernel
theorem dX5_lift_10 : decode cX5_lift 10 = .ok (.iload_n 2, 1) := by decide +kernel
theorem dX5_lift_11 : decode cX5_lift 11 = .ok (.invokevirtual 58, 3) := by decide +kernel
theorem dX5_lift_14 : decode cX5_lift 14 = .ok (.ifCond .eq 7, 3) := by decide +kernel
theorem dX5_lift_17 : decode cX5_lift 17 = .ok (.iconst 1, 1) := by decide +kernel
theorem dX5_lift_18 : decode cX5_lift 18 = .ok (.goto 4, 3) := by decide +kernel
theorem dX5_lift_21 : decode cX5_lift 21 = .ok (.iconst 0, 1) := by decide +kernel
theorem dX5_lift_22 : decode cX5_lift 22 = .ok (.putfield 55, 3) := by decide +kernel
theorem dX5_lift_25 : decode cX5_lift 25 = .ok (.aload_n 0, 1) := by decide +kernel
theorem dX5_lift_26 : decode cX5_lift 26 = .ok (.getfield 55, 3) := by decide +kernel
theorem dX5_lift_29 : decode cX5_lift 29 = .ok (.ifCond .gt 17, 3) := by decide +kernel
theorem dX5_lift_32 : decode cX5_lift 32 = .ok (.aload_n 0, 1) := by decide +kernel
theorem dX5_lift_33 : decode cX5_lift 33 = .ok (.getfield 16, 3) := by decide +kernel
theorem dX5_lift_36 : decode cX5_lift 36 = .ok (.bipush 8, 2) := by decide +kernel
theorem dX5_lift_38 : decode cX5_lift 38 = .ok (.iload_n 1, 1) := by decide +kernel
theorem dX5_lift_39 : decode cX5_lift 39 = .ok (.imul, 1) := by decide +kernel
theorem dX5_lift_40 : decode cX5_lift 40 = .ok (.iload_n 2, 1) := by decide +kernel
theorem dX5_lift_41 : decode cX5_lift 41 = .ok (.iadd, 1) := by decide +kernel
theorem dX5_lift_42 : decode cX5_lift 42 = .ok (.baload, 1) := by decide +kernel
theorem dX5_lift_43 : decode cX5_lift 43 = .ok (.ifCond .ne 5, 3) := by decide +kernel
theorem dX5_lift_46 : decode cX5_lift 46 = .ok (.iconst 0, 1) := by decide +kernel
theorem dX5_lift_47 : decode cX5_lift 47 = .ok (.ireturn, 1) := by decide +kernel
theorem dX5_lift_48 : decode cX5_lift 48 = .ok (.aload_n 0, 1) := by decide +kernel
theorem dX5_lift_49 : decode cX5_lift 49 = .ok (.getfield 16, 3) := by decide +kernel
theorem dX5_lift_52 : decode cX5_lift 52 = .ok (.bipush 8, 2) := by decide +kernel
theorem dX5_lift_54 : decode cX5_lift 54 = .ok (.iload_n 1, 1) := by decide +kernel
theorem dX5_lift_55 : decode cX5_lift 55 = .ok (.imul, 1) := by decide +kernel
theorem dX5_lift_56 : decode cX5_lift 56 = .ok (.iload_n 2, 1) := by decide +kernel
theorem dX5_lift_57 : decode cX5_lift 57 = .ok (.iadd, 1) := by decide +kernel
theorem dX5_lift_58 : decode cX5_lift 58 = .ok (.iconst 0, 1) := by decide +kernel
theorem dX5_lift_59 : decode cX5_lift 59 = .ok (.bastore, 1) := by decide +kernel
theorem dX5_lift_60 : decode cX5_lift 60 = .ok (.aload_n 0, 1) := by decide +kernel
theorem dX5_lift_61 : decode cX5_lift 61 = .ok (.iconst 0, 1) := by decide +kernel
theorem dX5_lift_62 : decode cX5_lift 62 = .ok (.putfield 70, 3) := by decide +kernel
theorem dX5_lift_65 : decode cX5_lift 65 = .ok (.iconst 1, 1) := by decide +kernel
theorem dX5_lift_66 : decode cX5_lift 66 = .ok (.ireturn, 1) := by decide +kernel
theorem dX5_root_0 : decode cX5_root 0 = .ok (.dload_n 0, 1) := by decide +kernel
theorem dX5_root_1 : decode cX5_root 1 = .ok (.dconst 1, 1) := by decide +kernel
theorem dX5_root_2 : decode cX5_root 2 = .ok (.dadd, 1) := by decide +kernel
theorem dX5_root_3 : decode cX5_root 3 = .ok (.ldc2_w 81, 3) := by decide +kernel
theorem dX5_root_6 : decode cX5_root 6 = .ok (.ddiv, 1) := by decide +kernel
theorem dX5_root_7 : decode cX5_root 7 = .ok (.dstore_n 2, 1) := by decide +kernel
theorem dX5_root_8 : decode cX5_root 8 = .ok (.iconst 0, 1) := by decide +kernel
theorem dX5_root_9 : decode cX5_root 9 = .ok (.istore 4, 2) := by decide +kernel
theorem dX5_root_11 : decode cX5_root 11 = .ok (.iload 4, 2) := by decide +kernel
theorem dX5_root_13 : decode cX5_root 13 = .ok (.bipush 60, 2) := by decide +kernel
theorem dX5_root_15 : decode cX5_root 15 = .ok (.if_icmp .ge 19, 3) := by decide +kernel
theorem dX5_root_18 : decode cX5_root 18 = .ok (.dload_n 2, 1) := by decide +kernel
theorem dX5_root_19 : decode cX5_root 19 = .ok (.dload_n 0, 1) := by decide +kernel
theorem dX5_root_20 : decode cX5_root 20 = .ok (.dload_n 2, 1) := by decide +kernel
theorem dX5_root_21 : decode cX5_root 21 = .ok (.ddiv, 1) := by decide +kernel
theorem dX5_root_22 : decode cX5_root 22 = .ok (.dadd, 1) := by decide +kernel
theorem dX5_root_23 : decode cX5_root 23 = .ok (.ldc2_w 81, 3) := by decide +kernel
theorem dX5_root_26 : decode cX5_root 26 = .ok (.ddiv, 1) := by decide +kernel
theorem dX5_root_27 : decode cX5_root 27 = .ok (.dstore_n 2, 1) := by decide +kernel
theorem dX5_root_28 : decode cX5_root 28 = .ok (.iinc 4 1, 3) := by decide +kernel
theorem dX5_root_31 : decode cX5_root 31 = .ok (.goto (-20), 3) := by decide +kernel
theorem dX5_root_34 : decode cX5_root 34 = .ok (.dload_n 2, 1) := by decide +kernel
theorem dX5_root_35 : decode cX5_root 35 = .ok (.dreturn, 1) := by decide +kernel
theorem dX5_middle_0 : decode cX5_middle 0 = .ok (.aload_n 0, 1) := by decide +kernel
theorem dX5_middle_1 : decode cX5_middle 1 = .ok (.getfield 20, 3) := by decide +kernel
theorem dX5_middle_4 : decode cX5_middle 4 = .ok (.iload_n 1, 1) := by decide +kernel
theorem dX5_middle_5 : decode cX5_middle 5 = .ok (.daload, 1) := by decide +kernel
theorem dX5_middle_6 : decode cX5_middle 6 = .ok (.aload_n 0, 1) := by decide +kernel
theorem dX5_middle_7 : decode cX5_middle 7 = .ok (.getfield 23, 3) := by decide +kernel
theorem dX5_middle_10 : decode cX5_middle 10 = .ok (.iload_n 1, 1) := by decide +kernel
theorem dX5_middle_11 : decode cX5_middle 11 = .ok (.daload, 1) := by decide +kernel
theorem dX5_middle_12 : decode cX5_middle 12 = .ok (.dadd, 1) := by decide +kernel
theorem dX5_middle_13 : decode cX5_middle 13 = .ok (.ldc2_w 81, 3) := by decide +kernel
theorem dX5_middle_16 : decode cX5_middle 16 = .ok (.ddiv, 1) := by decide +kernel
theorem dX5_middle_17 : decode cX5_middle 17 = .ok (.dreturn, 1) := by decide +kernel
set_option maxRecDepth 20000 in
theorem ggX5_fit_X5_middle : GoodIn wsX5_fit wsX5_middle := goodIn_r _ [13, 6, 5, 7, 22, 23, 24, 25, 26, 27, 28, 29, 30, 31, 32, 33, 34, 35, 36, 37, 38, 39, 40] (by decide +kernel) (by decide +kernel)
set_option maxRecDepth 20000 in
theorem gX5_fit_X5_middle : GoodIn wsX5_fit (wsV RX5 83 RX5 yX5_middle wsX5_middle) := goodIn_app (goodIn_of _ (by decide +kernel)) ggX5_fit_X5_middle
set_option maxRecDepth 20000 in
theorem ggX5_fit_X5_root : GoodIn wsX5_fit wsX5_root := goodIn_r _ [16, 7] (by decide +kernel) (by decide +kernel)
set_option maxRecDepth 20000 in
theorem gX5_fit_X5_root : GoodIn wsX5_fit (va_wsS RX5 87 yX5_root wsX5_root) := goodIn_app (goodIn_of _ (by decide +kernel)) ggX5_fit_X5_root
set_option maxRecDepth 20000 in
theorem ggX5_fit_X5_set : GoodIn wsX5_fit wsX5_set := goodIn_r _ [20, 21, 22, 23, 24, 25, 26, 27, 28, 29, 30, 31, 32, 33, 34, 35, 36, 37, 38, 39, 40] (by decide +kernel) (by decide +kernel)
set_option maxRecDepth 20000 in
theorem gX5_fit_X5_set : GoodIn wsX5_fit (wsV RX5 93 RX5 yX5_set wsX5_set) := goodIn_app (goodIn_of _ (by decide +kernel)) ggX5_fit_X5_set
theorem dX5_fit_0 : decode cX5_fit 0 = .ok (.dconst 0, 1) := by decide +kernel
theorem dX5_fit_1 : decode cX5_fit 1 = .ok (.dstore_n 2, 1) := by decide +kernel
theorem dX5_fit_2 : decode cX5_fit 2 = .ok (.dconst 0, 1) := by decide +kernel
theorem dX5_fit_3 : decode cX5_fit 3 = .ok (.dstore 4, 2) := by decide +kernel
theorem dX5_fit_5 : decode cX5_fit 5 = .ok (.dconst 0, 1) := by decide +kernel
theorem dX5_fit_6 : decode cX5_fit 6 = .ok (.dstore 6, 2) := by decide +kernel
theorem dX5_fit_8 : decode cX5_fit 8 = .ok (.dconst 0, 1) := by decide +kernel
theorem dX5_fit_9 : decode cX5_fit 9 = .ok (.dstore 8, 2) := by decide +kernel
theorem dX5_fit_11 : decode cX5_fit 11 = .ok (.dconst 0, 1) := by decide +kernel
theorem dX5_fit_12 : decode cX5_fit 12 = .ok (.dstore 10, 2) := by decide +kernel
theorem dX5_fit_14 : decode cX5_fit 14 = .ok (.dconst 0, 1) := by decide +kernel
theorem dX5_fit_15 : decode cX5_fit 15 = .ok (.dstore 12, 2) := by decide +kernel
theorem dX5_fit_17 : decode cX5_fit 17 = .ok (.iconst 0, 1) := by decide +kernel
theorem dX5_fit_18 : decode cX5_fit 18 = .ok (.istore 14, 2) := by decide +kernel
theorem dX5_fit_20 : decode cX5_fit 20 = .ok (.iconst 0, 1) := by decide +kernel
theorem dX5_fit_21 : decode cX5_fit 21 = .ok (.istore 15, 2) := by decide +kernel
theorem dX5_fit_23 : decode cX5_fit 23 = .ok (.iload 15, 2) := by decide +kernel
theorem dX5_fit_25 : decode cX5_fit 25 = .ok (.aload_n 0, 1) := by decide +kernel
theorem dX5_fit_26 : decode cX5_fit 26 = .ok (.getfield 52, 3) := by decide +kernel
theorem dX5_fit_29 : decode cX5_fit 29 = .ok (.if_icmp .ge 186, 3) := by decide +kernel
theorem dX5_fit_32 : decode cX5_fit 32 = .ok (.bipush 8, 2) := by decide +kernel
theorem dX5_fit_34 : decode cX5_fit 34 = .ok (.iload_n 1, 1) := by decide +kernel
theorem dX5_fit_35 : decode cX5_fit 35 = .ok (.imul, 1) := by decide +kernel
theorem dX5_fit_36 : decode cX5_fit 36 = .ok (.iload 15, 2) := by decide +kernel
theorem dX5_fit_38 : decode cX5_fit 38 = .ok (.iadd, 1) := by decide +kernel
theorem dX5_fit_39 : decode cX5_fit 39 = .ok (.istore 16, 2) := by decide +kernel
theorem dX5_fit_41 : decode cX5_fit 41 = .ok (.aload_n 0, 1) := by decide +kernel
theorem dX5_fit_42 : decode cX5_fit 42 = .ok (.getfield 16, 3) := by decide +kernel
theorem dX5_fit_45 : decode cX5_fit 45 = .ok (.iload 16, 2) := by decide +kernel
theorem dX5_fit_47 : decode cX5_fit 47 = .ok (.baload, 1) := by decide +kernel
theorem dX5_fit_48 : decode cX5_fit 48 = .ok (.ifCond .eq 161, 3) := by decide +kernel
theorem dX5_fit_51 : decode cX5_fit 51 = .ok (.dload_n 2, 1) := by decide +kernel
theorem dX5_fit_52 : decode cX5_fit 52 = .ok (.aload_n 0, 1) := by decide +kernel
theorem dX5_fit_53 : decode cX5_fit 53 = .ok (.getfield 7, 3) := by decide +kernel
theorem dX5_fit_56 : decode cX5_fit 56 = .ok (.iload 15, 2) := by decide +kernel
theorem dX5_fit_58 : decode cX5_fit 58 = .ok (.daload, 1) := by decide +kernel
theorem dX5_fit_59 : decode cX5_fit 59 = .ok (.aload_n 0, 1) := by decide +kernel
theorem dX5_fit_60 : decode cX5_fit 60 = .ok (.getfield 7, 3) := by decide +kernel
theorem dX5_fit_63 : decode cX5_fit 63 = .ok (.iload 15, 2) := by decide +kernel
theorem dX5_fit_65 : decode cX5_fit 65 = .ok (.daload, 1) := by decide +kernel
theorem dX5_fit_66 : decode cX5_fit 66 = .ok (.dmul, 1) := by decide +kernel
theorem dX5_fit_67 : decode cX5_fit 67 = .ok (.dadd, 1) := by decide +kernel
theorem dX5_fit_68 : decode cX5_fit 68 = .ok (.dstore_n 2, 1) := by decide +kernel
theorem dX5_fit_69 : decode cX5_fit 69 = .ok (.dload 4, 2) := by decide +kernel
theorem dX5_fit_71 : decode cX5_fit 71 = .ok (.aload_n 0, 1) := by decide +kernel
theorem dX5_fit_72 : decode cX5_fit 72 = .ok (.getfield 7, 3) := by decide +kernel
theorem dX5_fit_75 : decode cX5_fit 75 = .ok (.iload 15, 2) := by decide +kernel
theorem dX5_fit_77 : decode cX5_fit 77 = .ok (.daload, 1) := by decide +kernel
theorem dX5_fit_78 : decode cX5_fit 78 = .ok (.aload_n 0, 1) := by decide +kernel
theorem dX5_fit_79 : decode cX5_fit 79 = .ok (.getfield 13, 3) := by decide +kernel
theorem dX5_fit_82 : decode cX5_fit 82 = .ok (.iload 15, 2) := by decide +kernel
theorem dX5_fit_84 : decode cX5_fit 84 = .ok (.daload, 1) := by decide +kernel
theorem dX5_fit_85 : decode cX5_fit 85 = .ok (.dmul, 1) := by decide +kernel
theorem dX5_fit_86 : decode cX5_fit 86 = .ok (.dadd, 1) := by decide +kernel
theorem dX5_fit_87 : decode cX5_fit 87 = .ok (.dstore 4, 2) := by decide +kernel
theorem dX5_fit_89 : decode cX5_fit 89 = .ok (.dload 6, 2) := by decide +kernel
theorem dX5_fit_91 : decode cX5_fit 91 = .ok (.aload_n 0, 1) := by decide +kernel
theorem dX5_fit_92 : decode cX5_fit 92 = .ok (.getfield 13, 3) := by decide +kernel
theorem dX5_fit_95 : decode cX5_fit 95 = .ok (.iload 15, 2) := by decide +kernel
theorem dX5_fit_97 : decode cX5_fit 97 = .ok (.daload, 1) := by decide +kernel
theorem dX5_fit_98 : decode cX5_fit 98 = .ok (.aload_n 0, 1) := by decide +kernel
theorem dX5_fit_99 : decode cX5_fit 99 = .ok (.getfield 13, 3) := by decide +kernel
theorem dX5_fit_102 : decode cX5_fit 102 = .ok (.iload 15, 2) := by decide +kernel
theorem dX5_fit_104 : decode cX5_fit 104 = .ok (.daload, 1) := by decide +kernel
theorem dX5_fit_105 : decode cX5_fit 105 = .ok (.dmul, 1) := by decide +kernel
theorem dX5_fit_106 : decode cX5_fit 106 = .ok (.dadd, 1) := by decide +kernel
theorem dX5_fit_107 : decode cX5_fit 107 = .ok (.dstore 6, 2) := by decide +kernel
theorem dX5_fit_109 : decode cX5_fit 109 = .ok (.dload 8, 2) := by decide +kernel
theorem dX5_fit_111 : decode cX5_fit 111 = .ok (.aload_n 0, 1) := by decide +kernel
theorem dX5_fit_112 : decode cX5_fit 112 = .ok (.getfield 7, 3) := by decide +kernel
theorem dX5_fit_115 : decode cX5_fit 115 = .ok (.iload 15, 2) := by decide +kernel
theorem dX5_fit_117 : decode cX5_fit 117 = .ok (.daload, 1) := by decide +kernel
theorem dX5_fit_118 : decode cX5_fit 118 = .ok (.aload_n 0, 1) := by decide +kernel
theorem dX5_fit_119 : decode cX5_fit 119 = .ok (.iload 16, 2) := by decide +kernel
theorem dX5_fit_121 : decode cX5_fit 121 = .ok (.invokevirtual 83, 3) := by decide +kernel
theorem dX5_fit_124 : decode cX5_fit 124 = .ok (.dmul, 1) := by decide +kernel
theorem dX5_fit_125 : decode cX5_fit 125 = .ok (.dadd, 1) := by decide +kernel
theorem dX5_fit_126 : decode cX5_fit 126 = .ok (.dstore 8, 2) := by decide +kernel
theorem dX5_fit_128 : decode cX5_fit 128 = .ok (.dload 10, 2) := by decide +kernel
theorem dX5_fit_130 : decode cX5_fit 130 = .ok (.aload_n 0, 1) := by decide +kernel
theorem dX5_fit_131 : decode cX5_fit 131 = .ok (.getfield 13, 3) := by decide +kernel
theorem dX5_fit_134 : decode cX5_fit 134 = .ok (.iload 15, 2) := by decide +kernel
theorem dX5_fit_136 : decode cX5_fit 136 = .ok (.daload, 1) := by decide +kernel
theorem dX5_fit_137 : decode cX5_fit 137 = .ok (.aload_n 0, 1) := by decide +kernel
theorem dX5_fit_138 : decode cX5_fit 138 = .ok (.iload 16, 2) := by decide +kernel
theorem dX5_fit_140 : decode cX5_fit 140 = .ok (.invokevirtual 83, 3) := by decide +kernel
theorem dX5_fit_143 : decode cX5_fit 143 = .ok (.dmul, 1) := by decide +kernel
theorem dX5_fit_144 : decode cX5_fit 144 = .ok (.dadd, 1) := by decide +kernel
theorem dX5_fit_145 : decode cX5_fit 145 = .ok (.dstore 10, 2) := by decide +kernel
theorem dX5_fit_147 : decode cX5_fit 147 = .ok (.dload 12, 2) := by decide +kernel
theorem dX5_fit_149 : decode cX5_fit 149 = .ok (.aload_n 0, 1) := by decide +kernel
theorem dX5_fit_150 : decode cX5_fit 150 = .ok (.getfield 23, 3) := by decide +kernel
theorem dX5_fit_153 : decode cX5_fit 153 = .ok (.iload 16, 2) := by decide +kernel
theorem dX5_fit_155 : decode cX5_fit 155 = .ok (.daload, 1) := by decide +kernel
theorem dX5_fit_156 : decode cX5_fit 156 = .ok (.aload_n 0, 1) := by decide +kernel
theorem dX5_fit_157 : decode cX5_fit 157 = .ok (.getfield 20, 3) := by decide +kernel
theorem dX5_fit_160 : decode cX5_fit 160 = .ok (.iload 16, 2) := by decide +kernel
theorem dX5_fit_162 : decode cX5_fit 162 = .ok (.daload, 1) := by decide +kernel
theorem dX5_fit_163 : decode cX5_fit 163 = .ok (.dsub, 1) := by decide +kernel
theorem dX5_fit_164 : decode cX5_fit 164 = .ok (.ldc2_w 81, 3) := by decide +kernel
theorem dX5_fit_167 : decode cX5_fit 167 = .ok (.ddiv, 1) := by decide +kernel
theorem dX5_fit_168 : decode cX5_fit 168 = .ok (.aload_n 0, 1) := by decide +kernel
theorem dX5_fit_169 : decode cX5_fit 169 = .ok (.getfield 7, 3) := by decide +kernel
theorem dX5_fit_172 : decode cX5_fit 172 = .ok (.iload 15, 2) := by decide +kernel
theorem dX5_fit_174 : decode cX5_fit 174 = .ok (.daload, 1) := by decide +kernel
theorem dX5_fit_175 : decode cX5_fit 175 = .ok (.aload_n 0, 1) := by decide +kernel
theorem dX5_fit_176 : decode cX5_fit 176 = .ok (.getfield 7, 3) := by decide +kernel
theorem dX5_fit_179 : decode cX5_fit 179 = .ok (.iload 15, 2) := by decide +kernel
theorem dX5_fit_181 : decode cX5_fit 181 = .ok (.daload, 1) := by decide +kernel
theorem dX5_fit_182 : decode cX5_fit 182 = .ok (.dmul, 1) := by decide +kernel
theorem dX5_fit_183 : decode cX5_fit 183 = .ok (.aload_n 0, 1) := by decide +kernel
theorem dX5_fit_184 : decode cX5_fit 184 = .ok (.getfield 13, 3) := by decide +kernel
theorem dX5_fit_187 : decode cX5_fit 187 = .ok (.iload 15, 2) := by decide +kernel
theorem dX5_fit_189 : decode cX5_fit 189 = .ok (.daload, 1) := by decide +kernel
theorem dX5_fit_190 : decode cX5_fit 190 = .ok (.aload_n 0, 1) := by decide +kernel
theorem dX5_fit_191 : decode cX5_fit 191 = .ok (.getfield 13, 3) := by decide +kernel
theorem dX5_fit_194 : decode cX5_fit 194 = .ok (.iload 15, 2) := by decide +kernel
theorem dX5_fit_196 : decode cX5_fit 196 = .ok (.daload, 1) := by decide +kernel
theorem dX5_fit_197 : decode cX5_fit 197 = .ok (.dmul, 1) := by decide +kernel
theorem dX5_fit_198 : decode cX5_fit 198 = .ok (.dadd, 1) := by decide +kernel
theorem dX5_fit_199 : decode cX5_fit 199 = .ok (.invokestatic 87, 3) := by decide +kernel
theorem dX5_fit_202 : decode cX5_fit 202 = .ok (.ddiv, 1) := by decide +kernel
theorem dX5_fit_203 : decode cX5_fit 203 = .ok (.dadd, 1) := by decide +kernel
theorem dX5_fit_204 : decode cX5_fit 204 = .ok (.dstore 12, 2) := by decide +kernel
theorem dX5_fit_206 : decode cX5_fit 206 = .ok (.iinc 14 1, 3) := by decide +kernel
theorem dX5_fit_209 : decode cX5_fit 209 = .ok (.iinc 15 1, 3) := by decide +kernel
theorem dX5_fit_212 : decode cX5_fit 212 = .ok (.goto (-189), 3) := by decide +kernel
theorem dX5_fit_215 : decode cX5_fit 215 = .ok (.dload_n 2, 1) := by decide +kernel
theorem dX5_fit_216 : decode cX5_fit 216 = .ok (.dload 6, 2) := by decide +kernel
theorem dX5_fit_218 : decode cX5_fit 218 = .ok (.dmul, 1) := by decide +kernel
theorem dX5_fit_219 : decode cX5_fit 219 = .ok (.dload 4, 2) := by decide +kernel
theorem dX5_fit_221 : decode cX5_fit 221 = .ok (.dload 4, 2) := by decide +kernel
theorem dX5_fit_223 : decode cX5_fit 223 = .ok (.dmul, 1) := by decide +kernel
theorem dX5_fit_224 : decode cX5_fit 224 = .ok (.dsub, 1) := by decide +kernel
theorem dX5_fit_225 : decode cX5_fit 225 = .ok (.dstore 15, 2) := by decide +kernel
theorem dX5_fit_227 : decode cX5_fit 227 = .ok (.iload 14, 2) := by decide +kernel
theorem dX5_fit_229 : decode cX5_fit 229 = .ok (.iconst 2, 1) := by decide +kernel
theorem dX5_fit_230 : decode cX5_fit 230 = .ok (.if_icmp .lt 25, 3) := by decide +kernel
theorem dX5_fit_233 : decode cX5_fit 233 = .ok (.dload 15, 2) := by decide +kernel
theorem dX5_fit_235 : decode cX5_fit 235 = .ok (.dconst 0, 1) := by decide +kernel
theorem dX5_fit_236 : decode cX5_fit 236 = .ok (.dcmp .g, 1) := by decide +kernel
theorem dX5_fit_237 : decode cX5_fit 237 = .ok (.ifCond .ge 9, 3) := by decide +kernel
theorem dX5_fit_240 : decode cX5_fit 240 = .ok (.dload 15, 2) := by decide +kernel
theorem dX5_fit_242 : decode cX5_fit 242 = .ok (.dneg, 1) := by decide +kernel
theorem dX5_fit_243 : decode cX5_fit 243 = .ok (.goto 5, 3) := by decide +kernel
theorem dX5_fit_246 : decode cX5_fit 246 = .ok (.dload 15, 2) := by decide +kernel
theorem dX5_fit_248 : decode cX5_fit 248 = .ok (.ldc2_w 91, 3) := by decide +kernel
theorem dX5_fit_251 : decode cX5_fit 251 = .ok (.dcmp .g, 1) := by decide +kernel
theorem dX5_fit_252 : decode cX5_fit 252 = .ok (.ifCond .ge 5, 3) := by decide +kernel
theorem dX5_fit_255 : decode cX5_fit 255 = .ok (.iconst 0, 1) := by decide +kernel
theorem dX5_fit_256 : decode cX5_fit 256 = .ok (.ireturn, 1) := by decide +kernel
theorem dX5_fit_257 : decode cX5_fit 257 = .ok (.dload 8, 2) := by decide +kernel
theorem dX5_fit_259 : decode cX5_fit 259 = .ok (.dload 6, 2) := by decide +kernel
theorem dX5_fit_261 : decode cX5_fit 261 = .ok (.dmul, 1) := by decide +kernel
theorem dX5_fit_262 : decode cX5_fit 262 = .ok (.dload 10, 2) := by decide +kernel
theorem dX5_fit_264 : decode cX5_fit 264 = .ok (.dload 4, 2) := by decide +kernel
theorem dX5_fit_266 : decode cX5_fit 266 = .ok (.dmul, 1) := by decide +kernel
theorem dX5_fit_267 : decode cX5_fit 267 = .ok (.dsub, 1) := by decide +kernel
theorem dX5_fit_268 : decode cX5_fit 268 = .ok (.dload 15, 2) := by decide +kernel
theorem dX5_fit_270 : decode cX5_fit 270 = .ok (.ddiv, 1) := by decide +kernel
theorem dX5_fit_271 : decode cX5_fit 271 = .ok (.dstore 17, 2) := by decide +kernel
theorem dX5_fit_273 : decode cX5_fit 273 = .ok (.dload_n 2, 1) := by decide +kernel
theorem dX5_fit_274 : decode cX5_fit 274 = .ok (.dload 10, 2) := by decide +kernel
theorem dX5_fit_276 : decode cX5_fit 276 = .ok (.dmul, 1) := by decide +kernel
theorem dX5_fit_277 : decode cX5_fit 277 = .ok (.dload 4, 2) := by decide +kernel
theorem dX5_fit_279 : decode cX5_fit 279 = .ok (.dload 8, 2) := by decide +kernel
theorem dX5_fit_281 : decode cX5_fit 281 = .ok (.dmul, 1) := by decide +kernel
theorem dX5_fit_282 : decode cX5_fit 282 = .ok (.dsub, 1) := by decide +kernel
theorem dX5_fit_283 : decode cX5_fit 283 = .ok (.dload 15, 2) := by decide +kernel
theorem dX5_fit_285 : decode cX5_fit 285 = .ok (.ddiv, 1) := by decide +kernel
theorem dX5_fit_286 : decode cX5_fit 286 = .ok (.dstore 19, 2) := by decide +kernel
theorem dX5_fit_288 : decode cX5_fit 288 = .ok (.dconst 0, 1) := by decide +kernel
theorem dX5_fit_289 : decode cX5_fit 289 = .ok (.dstore 21, 2) := by decide +kernel
theorem dX5_fit_291 : decode cX5_fit 291 = .ok (.iconst 0, 1) := by decide +kernel
theorem dX5_fit_292 : decode cX5_fit 292 = .ok (.istore 23, 2) := by decide +kernel
theorem dX5_fit_294 : decode cX5_fit 294 = .ok (.iload 23, 2) := by decide +kernel
theorem dX5_fit_296 : decode cX5_fit 296 = .ok (.aload_n 0, 1) := by decide +kernel
theorem dX5_fit_297 : decode cX5_fit 297 = .ok (.getfield 52, 3) := by decide +kernel
theorem dX5_fit_300 : decode cX5_fit 300 = .ok (.if_icmp .ge 68, 3) := by decide +kernel
theorem dX5_fit_303 : decode cX5_fit 303 = .ok (.bipush 8, 2) := by decide +kernel
theorem dX5_fit_305 : decode cX5_fit 305 = .ok (.iload_n 1, 1) := by decide +kernel
theorem dX5_fit_306 : decode cX5_fit 306 = .ok (.imul, 1) := by decide +kernel
theorem dX5_fit_307 : decode cX5_fit 307 = .ok (.iload 23, 2) := by decide +kernel
theorem dX5_fit_309 : decode cX5_fit 309 = .ok (.iadd, 1) := by decide +kernel
theorem dX5_fit_310 : decode cX5_fit 310 = .ok (.istore 24, 2) := by decide +kernel
theorem dX5_fit_312 : decode cX5_fit 312 = .ok (.aload_n 0, 1) := by decide +kernel
theorem dX5_fit_313 : decode cX5_fit 313 = .ok (.getfield 16, 3) := by decide +kernel
theorem dX5_fit_316 : decode cX5_fit 316 = .ok (.iload 24, 2) := by decide +kernel
theorem dX5_fit_318 : decode cX5_fit 318 = .ok (.baload, 1) := by decide +kernel
theorem dX5_fit_319 : decode cX5_fit 319 = .ok (.ifCond .eq 43, 3) := by decide +kernel
theorem dX5_fit_322 : decode cX5_fit 322 = .ok (.aload_n 0, 1) := by decide +kernel
theorem dX5_fit_323 : decode cX5_fit 323 = .ok (.iload 24, 2) := by decide +kernel
theorem dX5_fit_325 : decode cX5_fit 325 = .ok (.invokevirtual 83, 3) := by decide +kernel
theorem dX5_fit_328 : decode cX5_fit 328 = .ok (.aload_n 0, 1) := by decide +kernel
theorem dX5_fit_329 : decode cX5_fit 329 = .ok (.getfield 7, 3) := by decide +kernel
theorem dX5_fit_332 : decode cX5_fit 332 = .ok (.iload 23, 2) := by decide +kernel
theorem dX5_fit_334 : decode cX5_fit 334 = .ok (.daload, 1) := by decide +kernel
theorem dX5_fit_335 : decode cX5_fit 335 = .ok (.dload 17, 2) := by decide +kernel
theorem dX5_fit_337 : decode cX5_fit 337 = .ok (.dmul, 1) := by decide +kernel
theorem dX5_fit_338 : decode cX5_fit 338 = .ok (.dsub, 1) := by decide +kernel
theorem dX5_fit_339 : decode cX5_fit 339 = .ok (.aload_n 0, 1) := by decide +kernel
theorem dX5_fit_340 : decode cX5_fit 340 = .ok (.getfield 13, 3) := by decide +kernel
theorem dX5_fit_343 : decode cX5_fit 343 = .ok (.iload 23, 2) := by decide +kernel
theorem dX5_fit_345 : decode cX5_fit 345 = .ok (.daload, 1) := by decide +kernel
theorem dX5_fit_346 : decode cX5_fit 346 = .ok (.dload 19, 2) := by decide +kernel
theorem dX5_fit_348 : decode cX5_fit 348 = .ok (.dmul, 1) := by decide +kernel
theorem dX5_fit_349 : decode cX5_fit 349 = .ok (.dsub, 1) := by decide +kernel
theorem dX5_fit_350 : decode cX5_fit 350 = .ok (.dstore 25, 2) := by decide +kernel
theorem dX5_fit_352 : decode cX5_fit 352 = .ok (.dload 21, 2) := by decide +kernel
theorem dX5_fit_354 : decode cX5_fit 354 = .ok (.dload 25, 2) := by decide +kernel
theorem dX5_fit_356 : decode cX5_fit 356 = .ok (.dload 25, 2) := by decide +kernel
theorem dX5_fit_358 : decode cX5_fit 358 = .ok (.dmul, 1) := by decide +kernel
theorem dX5_fit_359 : decode cX5_fit 359 = .ok (.dadd, 1) := by decide +kernel
theorem dX5_fit_360 : decode cX5_fit 360 = .ok (.dstore 21, 2) := by decide +kernel
theorem dX5_fit_362 : decode cX5_fit 362 = .ok (.iinc 23 1, 3) := by decide +kernel
theorem dX5_fit_365 : decode cX5_fit 365 = .ok (.goto (-71), 3) := by decide +kernel
theorem dX5_fit_368 : decode cX5_fit 368 = .ok (.aload_n 0, 1) := by decide +kernel
theorem dX5_fit_369 : decode cX5_fit 369 = .ok (.iload_n 1, 1) := by decide +kernel
theorem dX5_fit_370 : decode cX5_fit 370 = .ok (.dload 17, 2) := by decide +kernel
theorem dX5_fit_372 : decode cX5_fit 372 = .ok (.dload 19, 2) := by decide +kernel
theorem dX5_fit_374 : decode cX5_fit 374 = .ok (.dload 12, 2) := by decide +kernel
theorem dX5_fit_376 : decode cX5_fit 376 = .ok (.iload 14, 2) := by decide +kernel
theorem dX5_fit_378 : decode cX5_fit 378 = .ok (.i2d, 1) := by decide +kernel
theorem dX5_fit_379 : decode cX5_fit 379 = .ok (.ddiv, 1) := by decide +kernel
theorem dX5_fit_380 : decode cX5_fit 380 = .ok (.dload 21, 2) := by decide +kernel
theorem dX5_fit_382 : decode cX5_fit 382 = .ok (.invokevirtual 93, 3) := by decide +kernel
theorem dX5_fit_385 : decode cX5_fit 385 = .ok (.iconst 1, 1) := by decide +kernel
theorem dX5_fit_386 : decode cX5_fit 386 = .ok (.ireturn, 1) := by decide +kernel
theorem dX5_set_0 : decode cX5_set 0 = .ok (.aload_n 0, 1) := by decide +kernel
theorem dX5_set_1 : decode cX5_set 1 = .ok (.getfield 29, 3) := by decide +kernel
theorem dX5_set_4 : decode cX5_set 4 = .ok (.iconst 4, 1) := by decide +kernel
theorem dX5_set_5 : decode cX5_set 5 = .ok (.iload_n 1, 1) := by decide +kernel
theorem dX5_set_6 : decode cX5_set 6 = .ok (.imul, 1) := by decide +kernel
theorem dX5_set_7 : decode cX5_set 7 = .ok (.dload_n 2, 1) := by decide +kernel
theorem dX5_set_8 : decode cX5_set 8 = .ok (.dastore, 1) := by decide +kernel
theorem dX5_set_9 : decode cX5_set 9 = .ok (.aload_n 0, 1) := by decide +kernel
theorem dX5_set_10 : decode cX5_set 10 = .ok (.getfield 29, 3) := by decide +kernel
theorem dX5_set_13 : decode cX5_set 13 = .ok (.iconst 4, 1) := by decide +kernel
theorem dX5_set_14 : decode cX5_set 14 = .ok (.iload_n 1, 1) := by decide +kernel
theorem dX5_set_15 : decode cX5_set 15 = .ok (.imul, 1) := by decide +kernel
theorem dX5_set_16 : decode cX5_set 16 = .ok (.iconst 1, 1) := by decide +kernel
theorem dX5_set_17 : decode cX5_set 17 = .ok (.iadd, 1) := by decide +kernel
theorem dX5_set_18 : decode cX5_set 18 = .ok (.dload 4, 2) := by decide +kernel
theorem dX5_set_20 : decode cX5_set 20 = .ok (.dastore, 1) := by decide +kernel
theorem dX5_set_21 : decode cX5_set 21 = .ok (.aload_n 0, 1) := by decide +kernel
theorem dX5_set_22 : decode cX5_set 22 = .ok (.getfield 29, 3) := by decide +kernel
theorem dX5_set_25 : decode cX5_set 25 = .ok (.iconst 4, 1) := by decide +kernel
theorem dX5_set_26 : decode cX5_set 26 = .ok (.iload_n 1, 1) := by decide +kernel
theorem dX5_set_27 : decode cX5_set 27 = .ok (.imul, 1) := by decide +kernel
theorem dX5_set_28 : decode cX5_set 28 = .ok (.iconst 2, 1) := by decide +kernel
theorem dX5_set_29 : decode cX5_set 29 = .ok (.iadd, 1) := by decide +kernel
theorem dX5_set_30 : decode cX5_set 30 = .ok (.dload 6, 2) := by decide +kernel
theorem dX5_set_32 : decode cX5_set 32 = .ok (.dastore, 1) := by decide +kernel
theorem dX5_set_33 : decode cX5_set 33 = .ok (.aload_n 0, 1) := by decide +kernel
theorem dX5_set_34 : decode cX5_set 34 = .ok (.getfield 29, 3) := by decide +kernel
theorem dX5_set_37 : decode cX5_set 37 = .ok (.iconst 4, 1) := by decide +kernel
theorem dX5_set_38 : decode cX5_set 38 = .ok (.iload_n 1, 1) := by decide +kernel
theorem dX5_set_39 : decode cX5_set 39 = .ok (.imul, 1) := by decide +kernel
theorem dX5_set_40 : decode cX5_set 40 = .ok (.iconst 3, 1) := by decide +kernel
theorem dX5_set_41 : decode cX5_set 41 = .ok (.iadd, 1) := by decide +kernel
theorem dX5_set_42 : decode cX5_set 42 = .ok (.dload 8, 2) := by decide +kernel
theorem dX5_set_44 : decode cX5_set 44 = .ok (.dastore, 1) := by decide +kernel
theorem dX5_set_45 : decode cX5_set 45 = .ok (.return_, 1) := by decide +kernel
theorem dX5_mixed_0 : decode cX5_mixed 0 = .ok (.aload_n 0, 1) := by decide +kernel
theorem dX5_mixed_1 : decode cX5_mixed 1 = .ok (.getfield 29, 3) := by decide +kernel
theorem dX5_mixed_4 : decode cX5_mixed 4 = .ok (.iconst 4, 1) := by decide +kernel
theorem dX5_mixed_5 : decode cX5_mixed 5 = .ok (.iload_n 1, 1) := by decide +kernel
theorem dX5_mixed_6 : decode cX5_mixed 6 = .ok (.imul, 1) := by decide +kernel
theorem dX5_mixed_7 : decode cX5_mixed 7 = .ok (.iload 4, 2) := by decide +kernel
theorem dX5_mixed_9 : decode cX5_mixed 9 = .ok (.iadd, 1) := by decide +kernel
theorem dX5_mixed_10 : decode cX5_mixed 10 = .ok (.daload, 1) := by decide +kernel
theorem dX5_mixed_11 : decode cX5_mixed 11 = .ok (.dstore 5, 2) := by decide +kernel
theorem dX5_mixed_13 : decode cX5_mixed 13 = .ok (.dload 5, 2) := by decide +kernel
theorem dX5_mixed_15 : decode cX5_mixed 15 = .ok (.aload_n 0, 1) := by decide +kernel
theorem dX5_mixed_16 : decode cX5_mixed 16 = .ok (.getfield 29, 3) := by decide +kernel
theorem dX5_mixed_19 : decode cX5_mixed 19 = .ok (.iconst 4, 1) := by decide +kernel
theorem dX5_mixed_20 : decode cX5_mixed 20 = .ok (.iload_n 2, 1) := by decide +kernel
theorem dX5_mixed_21 : decode cX5_mixed 21 = .ok (.imul, 1) := by decide +kernel
theorem dX5_mixed_22 : decode cX5_mixed 22 = .ok (.iload 4, 2) := by decide +kernel
theorem dX5_mixed_24 : decode cX5_mixed 24 = .ok (.iadd, 1) := by decide +kernel
theorem dX5_mixed_25 : decode cX5_mixed 25 = .ok (.daload, 1) := by decide +kernel
theorem dX5_mixed_26 : decode cX5_mixed 26 = .ok (.dload 5, 2) := by decide +kernel
theorem dX5_mixed_28 : decode cX5_mixed 28 = .ok (.dsub, 1) := by decide +kernel
theorem dX5_mixed_29 : decode cX5_mixed 29 = .ok (.iload_n 3, 1) := by decide +kernel
theorem dX5_mixed_30 : decode cX5_mixed 30 = .ok (.iload_n 1, 1) := by decide +kernel
theorem dX5_mixed_31 : decode cX5_mixed 31 = .ok (.isub, 1) := by decide +kernel
theorem dX5_mixed_32 : decode cX5_mixed 32 = .ok (.i2d, 1) := by decide +kernel
theorem dX5_mixed_33 : decode cX5_mixed 33 = .ok (.dmul, 1) := by decide +kernel
theorem dX5_mixed_34 : decode cX5_mixed 34 = .ok (.iload_n 2, 1) := by decide +kernel
theorem dX5_mixed_35 : decode cX5_mixed 35 = .ok (.iload_n 1, 1) := by decide +kernel
theorem dX5_mixed_36 : decode cX5_mixed 36 = .ok (.isub, 1) := by decide +kernel
theorem dX5_mixed_37 : decode cX5_mixed 37 = .ok (.i2d, 1) := by decide +kernel
theorem dX5_mixed_38 : decode cX5_mixed 38 = .ok (.ddiv, 1) := by decide +kernel
theorem dX5_mixed_39 : decode cX5_mixed 39 = .ok (.dadd, 1) := by decide +kernel
theorem dX5_mixed_40 : decode cX5_mixed 40 = .ok (.dreturn, 1) := by decide +kernel
set_option maxRecDepth 20000 in
theorem ggX5_mend_X5_mixed : GoodIn wsX5_mend wsX5_mixed := goodIn_r _ [8, 3, 13, 14, 15, 16, 17, 18, 19, 20, 21, 22, 23, 24, 25, 26, 27, 28, 29, 30, 31] (by decide +kernel) (by decide +kernel)
set_option maxRecDepth 20000 in
theorem gX5_mend_X5_mixed : GoodIn wsX5_mend (wsV RX5 97 RX5 yX5_mixed wsX5_mixed) := goodIn_app (goodIn_of _ (by decide +kernel)) ggX5_mend_X5_mixed
set_option maxRecDepth 20000 in
theorem ggX5_mend_X5_set : GoodIn wsX5_mend wsX5_set := goodIn_r _ [12, 3, 13, 14, 15, 16, 17, 18, 19, 20, 21, 22, 23, 24, 25, 26, 27, 28, 29, 30, 31] (by decide +kernel) (by decide +kernel)
set_option maxRecDepth 20000 in
theorem gX5_mend_X5_set : GoodIn wsX5_mend (wsV RX5 93 RX5 yX5_set wsX5_set) := goodIn_app (goodIn_of _ (by decide +kernel)) ggX5_mend_X5_set
theorem dX5_mend_0 : decode cX5_mend 0 = .ok (.iload_n 1, 1) := by decide +kernel
theorem dX5_mend_1 : decode cX5_mend 1 = .ok (.istore_n 2, 1) := by decide +kernel
theorem dX5_mend_2 : decode cX5_mend 2 = .ok (.iload_n 2, 1) := by decide +kernel
theorem dX5_mend_3 : decode cX5_mend 3 = .ok (.ifCond .lt 18, 3) := by decide +kernel
theorem dX5_mend_6 : decode cX5_mend 6 = .ok (.aload_n 0, 1) := by decide +kernel
theorem dX5_mend_7 : decode cX5_mend 7 = .ok (.getfield 26, 3) := by decide +kernel
theorem dX5_mend_10 : decode cX5_mend 10 = .ok (.iload_n 2, 1) := by decide +kernel
theorem dX5_mend_11 : decode cX5_mend 11 = .ok (.baload, 1) := by decide +kernel
theorem dX5_mend_12 : decode cX5_mend 12 = .ok (.ifCond .ne 9, 3) := by decide +kernel
theorem dX5_mend_15 : decode cX5_mend 15 = .ok (.iinc 2 (-1), 3) := by decide +kernel
theorem dX5_mend_18 : decode cX5_mend 18 = .ok (.goto (-16), 3) := by decide +kernel
theorem dX5_mend_21 : decode cX5_mend 21 = .ok (.iload_n 1, 1) := by decide +kernel
theorem dX5_mend_22 : decode cX5_mend 22 = .ok (.istore_n 3, 1) := by decide +kernel
theorem dX5_mend_23 : decode cX5_mend 23 = .ok (.iload_n 3, 1) := by decide +kernel
theorem dX5_mend_24 : decode cX5_mend 24 = .ok (.aload_n 0, 1) := by decide +kernel
theorem dX5_mend_25 : decode cX5_mend 25 = .ok (.getfield 48, 3) := by decide +kernel
theorem dX5_mend_28 : decode cX5_mend 28 = .ok (.if_icmp .ge 18, 3) := by decide +kernel
theorem dX5_mend_31 : decode cX5_mend 31 = .ok (.aload_n 0, 1) := by decide +kernel
theorem dX5_mend_32 : decode cX5_mend 32 = .ok (.getfield 26, 3) := by decide +kernel
theorem dX5_mend_35 : decode cX5_mend 35 = .ok (.iload_n 3, 1) := by decide +kernel
theorem dX5_mend_36 : decode cX5_mend 36 = .ok (.baload, 1) := by decide +kernel
theorem dX5_mend_37 : decode cX5_mend 37 = .ok (.ifCond .ne 9, 3) := by decide +kernel
theorem dX5_mend_40 : decode cX5_mend 40 = .ok (.iinc 3 1, 3) := by decide +kernel
theorem dX5_mend_43 : decode cX5_mend 43 = .ok (.goto (-20), 3) := by decide +kernel
theorem dX5_mend_46 : decode cX5_mend 46 = .ok (.iload_n 2, 1) := by decide +kernel
theorem dX5_mend_47 : decode cX5_mend 47 = .ok (.ifCond .lt 44, 3) := by decide +kernel
theorem dX5_mend_50 : decode cX5_mend 50 = .ok (.iload_n 3, 1) := by decide +kernel
theorem dX5_mend_51 : decode cX5_mend 51 = .ok (.aload_n 0, 1) := by decide +kernel
theorem dX5_mend_52 : decode cX5_mend 52 = .ok (.getfield 48, 3) := by decide +kernel
theorem dX5_mend_55 : decode cX5_mend 55 = .ok (.if_icmp .ge 36, 3) := by decide +kernel
theorem dX5_mend_58 : decode cX5_mend 58 = .ok (.aload_n 0, 1) := by decide +kernel
theorem dX5_mend_59 : decode cX5_mend 59 = .ok (.iload_n 1, 1) := by decide +kernel
theorem dX5_mend_60 : decode cX5_mend 60 = .ok (.aload_n 0, 1) := by decide +kernel
theorem dX5_mend_61 : decode cX5_mend 61 = .ok (.iload_n 2, 1) := by decide +kernel
theorem dX5_mend_62 : decode cX5_mend 62 = .ok (.iload_n 3, 1) := by decide +kernel
theorem dX5_mend_63 : decode cX5_mend 63 = .ok (.iload_n 1, 1) := by decide +kernel
theorem dX5_mend_64 : decode cX5_mend 64 = .ok (.iconst 0, 1) := by decide +kernel
theorem dX5_mend_65 : decode cX5_mend 65 = .ok (.invokevirtual 97, 3) := by decide +kernel
theorem dX5_mend_68 : decode cX5_mend 68 = .ok (.aload_n 0, 1) := by decide +kernel
theorem dX5_mend_69 : decode cX5_mend 69 = .ok (.iload_n 2, 1) := by decide +kernel
theorem dX5_mend_70 : decode cX5_mend 70 = .ok (.iload_n 3, 1) := by decide +kernel
theorem dX5_mend_71 : decode cX5_mend 71 = .ok (.iload_n 1, 1) := by decide +kernel
theorem dX5_mend_72 : decode cX5_mend 72 = .ok (.iconst 1, 1) := by decide +kernel
theorem dX5_mend_73 : decode cX5_mend 73 = .ok (.invokevirtual 97, 3) := by decide +kernel
theorem dX5_mend_76 : decode cX5_mend 76 = .ok (.aload_n 0, 1) := by decide +kernel
theorem dX5_mend_77 : decode cX5_mend 77 = .ok (.iload_n 2, 1) := by decide +kernel
theorem dX5_mend_78 : decode cX5_mend 78 = .ok (.iload_n 3, 1) := by decide +kernel
theorem dX5_mend_79 : decode cX5_mend 79 = .ok (.iload_n 1, 1) := by decide +kernel
theorem dX5_mend_80 : decode cX5_mend 80 = .ok (.iconst 2, 1) := by decide +kernel
theorem dX5_mend_81 : decode cX5_mend 81 = .ok (.invokevirtual 97, 3) := by decide +kernel
theorem dX5_mend_84 : decode cX5_mend 84 = .ok (.dconst 0, 1) := by decide +kernel
theorem dX5_mend_85 : decode cX5_mend 85 = .ok (.invokevirtual 93, 3) := by decide +kernel
theorem dX5_mend_88 : decode cX5_mend 88 = .ok (.goto 51, 3) := by decide +kernel
theorem dX5_mend_91 : decode cX5_mend 91 = .ok (.iload_n 2, 1) := by decide +kernel
theorem dX5_mend_92 : decode cX5_mend 92 = .ok (.ifCond .lt 7, 3) := by decide +kernel
theorem dX5_mend_95 : decode cX5_mend 95 = .ok (.iload_n 2, 1) := by decide +kernel
theorem dX5_mend_96 : decode cX5_mend 96 = .ok (.goto 4, 3) := by decide +kernel
theorem dX5_mend_99 : decode cX5_mend 99 = .ok (.iload_n 3, 1) := by decide +kernel
theorem dX5_mend_100 : decode cX5_mend 100 = .ok (.istore 4, 2) := by decide +kernel
theorem dX5_mend_102 : decode cX5_mend 102 = .ok (.aload_n 0, 1) := by decide +kernel
theorem dX5_mend_103 : decode cX5_mend 103 = .ok (.iload_n 1, 1) := by decide +kernel
theorem dX5_mend_104 : decode cX5_mend 104 = .ok (.aload_n 0, 1) := by decide +kernel
theorem dX5_mend_105 : decode cX5_mend 105 = .ok (.getfield 29, 3) := by decide +kernel
theorem dX5_mend_108 : decode cX5_mend 108 = .ok (.iconst 4, 1) := by decide +kernel
theorem dX5_mend_109 : decode cX5_mend 109 = .ok (.iload 4, 2) := by decide +kernel
theorem dX5_mend_111 : decode cX5_mend 111 = .ok (.imul, 1) := by decide +kernel
theorem dX5_mend_112 : decode cX5_mend 112 = .ok (.daload, 1) := by decide +kernel
theorem dX5_mend_113 : decode cX5_mend 113 = .ok (.aload_n 0, 1) := by decide +kernel
theorem dX5_mend_114 : decode cX5_mend 114 = .ok (.getfield 29, 3) := by decide +kernel
theorem dX5_mend_117 : decode cX5_mend 117 = .ok (.iconst 4, 1) := by decide +kernel
theorem dX5_mend_118 : decode cX5_mend 118 = .ok (.iload 4, 2) := by decide +kernel
theorem dX5_mend_120 : decode cX5_mend 120 = .ok (.imul, 1) := by decide +kernel
theorem dX5_mend_121 : decode cX5_mend 121 = .ok (.iconst 1, 1) := by decide +kernel
theorem dX5_mend_122 : decode cX5_mend 122 = .ok (.iadd, 1) := by decide +kernel
theorem dX5_mend_123 : decode cX5_mend 123 = .ok (.daload, 1) := by decide +kernel
theorem dX5_mend_124 : decode cX5_mend 124 = .ok (.aload_n 0, 1) := by decide +kernel
theorem dX5_mend_125 : decode cX5_mend 125 = .ok (.getfield 29, 3) := by decide +kernel
theorem dX5_mend_128 : decode cX5_mend 128 = .ok (.iconst 4, 1) := by decide +kernel
theorem dX5_mend_129 : decode cX5_mend 129 = .ok (.iload 4, 2) := by decide +kernel
theorem dX5_mend_131 : decode cX5_mend 131 = .ok (.imul, 1) := by decide +kernel
theorem dX5_mend_132 : decode cX5_mend 132 = .ok (.iconst 2, 1) := by decide +kernel
theorem dX5_mend_133 : decode cX5_mend 133 = .ok (.iadd, 1) := by decide +kernel
theorem dX5_mend_134 : decode cX5_mend 134 = .ok (.daload, 1) := by decide +kernel
theorem dX5_mend_135 : decode cX5_mend 135 = .ok (.dconst 0, 1) := by decide +kernel
theorem dX5_mend_136 : decode cX5_mend 136 = .ok (.invokevirtual 93, 3) := by decide +kernel
theorem dX5_mend_139 : decode cX5_mend 139 = .ok (.return_, 1) := by decide +kernel
set_option maxRecDepth 20000 in
theorem ggX5_run_X5_fit : GoodIn wsX5_run wsX5_fit := goodIn_r _ [10, 11, 12, 13, 14, 15, 16, 17, 18, 19, 20, 21, 9, 22, 23, 24, 25, 26, 27, 28, 29, 30, 39, 40, 41, 42, 43, 44, 45, 46, 47, 48, 49, 50, 51, 52, 53, 54, 55, 56, 57] (by decide +kernel) (by decide +kernel)
set_option maxRecDepth 20000 in
theorem gX5_run_X5_fit : GoodIn wsX5_run (wsV RX5 104 RX5 yX5_fit wsX5_fit) := goodIn_app (goodIn_of _ (by decide +kernel)) ggX5_run_X5_fit
set_option maxRecDepth 20000 in
theorem ggX5_run_X5_mend : GoodIn wsX5_run wsX5_mend := goodIn_r _ [34, 5, 4, 30, 35, 36, 37, 9, 38, 26, 27, 28, 29, 39, 40, 41, 42, 43, 44, 45, 46, 47, 48, 49, 50, 51, 52, 53, 54, 55, 56, 57] (by decide +kernel) (by decide +kernel)
set_option maxRecDepth 20000 in
theorem gX5_run_X5_mend : GoodIn wsX5_run (wsV RX5 107 RX5 yX5_mend wsX5_mend) := goodIn_app (goodIn_of _ (by decide +kernel)) ggX5_run_X5_mend
theorem dX5_run_0 : decode cX5_run 0 = .ok (.aload_n 0, 1) := by decide +kernel
theorem dX5_run_1 : decode cX5_run 1 = .ok (.iconst 0, 1) := by decide +kernel
theorem dX5_run_2 : decode cX5_run 2 = .ok (.putfield 55, 3) := by decide +kernel
theorem dX5_run_5 : decode cX5_run 5 = .ok (.aload_n 0, 1) := by decide +kernel
theorem dX5_run_6 : decode cX5_run 6 = .ok (.iconst 1, 1) := by decide +kernel
theorem dX5_run_7 : decode cX5_run 7 = .ok (.putfield 70, 3) := by decide +kernel
theorem dX5_run_10 : decode cX5_run 10 = .ok (.aload_n 0, 1) := by decide +kernel
theorem dX5_run_11 : decode cX5_run 11 = .ok (.iconst 0, 1) := by decide +kernel
theorem dX5_run_12 : decode cX5_run 12 = .ok (.putfield 101, 3) := by decide +kernel
theorem dX5_run_15 : decode cX5_run 15 = .ok (.iconst 0, 1) := by decide +kernel
theorem dX5_run_16 : decode cX5_run 16 = .ok (.istore_n 1, 1) := by decide +kernel
theorem dX5_run_17 : decode cX5_run 17 = .ok (.iload_n 1, 1) := by decide +kernel
theorem dX5_run_18 : decode cX5_run 18 = .ok (.aload_n 0, 1) := by decide +kernel
theorem dX5_run_19 : decode cX5_run 19 = .ok (.getfield 48, 3) := by decide +kernel
theorem dX5_run_22 : decode cX5_run 22 = .ok (.if_icmp .ge 46, 3) := by decide +kernel
theorem dX5_run_25 : decode cX5_run 25 = .ok (.aload_n 0, 1) := by decide +kernel
theorem dX5_run_26 : decode cX5_run 26 = .ok (.getfield 26, 3) := by decide +kernel
theorem dX5_run_29 : decode cX5_run 29 = .ok (.iload_n 1, 1) := by decide +kernel
theorem dX5_run_30 : decode cX5_run 30 = .ok (.aload_n 0, 1) := by decide +kernel
theorem dX5_run_31 : decode cX5_run 31 = .ok (.iload_n 1, 1) := by decide +kernel
theorem dX5_run_32 : decode cX5_run 32 = .ok (.invokevirtual 104, 3) := by decide +kernel
theorem dX5_run_35 : decode cX5_run 35 = .ok (.bastore, 1) := by decide +kernel
theorem dX5_run_36 : decode cX5_run 36 = .ok (.aload_n 0, 1) := by decide +kernel
theorem dX5_run_37 : decode cX5_run 37 = .ok (.aload_n 0, 1) := by decide +kernel
theorem dX5_run_38 : decode cX5_run 38 = .ok (.getfield 26, 3) := by decide +kernel
theorem dX5_run_41 : decode cX5_run 41 = .ok (.iload_n 1, 1) := by decide +kernel
theorem dX5_run_42 : decode cX5_run 42 = .ok (.baload, 1) := by decide +kernel
theorem dX5_run_43 : decode cX5_run 43 = .ok (.ifCond .eq 12, 3) := by decide +kernel
theorem dX5_run_46 : decode cX5_run 46 = .ok (.aload_n 0, 1) := by decide +kernel
theorem dX5_run_47 : decode cX5_run 47 = .ok (.getfield 101, 3) := by decide +kernel
theorem dX5_run_50 : decode cX5_run 50 = .ok (.iconst 1, 1) := by decide +kernel
theorem dX5_run_51 : decode cX5_run 51 = .ok (.iadd, 1) := by decide +kernel
theorem dX5_run_52 : decode cX5_run 52 = .ok (.goto 7, 3) := by decide +kernel
theorem dX5_run_55 : decode cX5_run 55 = .ok (.aload_n 0, 1) := by decide +kernel
theorem dX5_run_56 : decode cX5_run 56 = .ok (.getfield 101, 3) := by decide +kernel
theorem dX5_run_59 : decode cX5_run 59 = .ok (.putfield 101, 3) := by decide +kernel
theorem dX5_run_62 : decode cX5_run 62 = .ok (.iinc 1 1, 3) := by decide +kernel
theorem dX5_run_65 : decode cX5_run 65 = .ok (.goto (-48), 3) := by decide +kernel
theorem dX5_run_68 : decode cX5_run 68 = .ok (.iconst 0, 1) := by decide +kernel
theorem dX5_run_69 : decode cX5_run 69 = .ok (.istore_n 1, 1) := by decide +kernel
theorem dX5_run_70 : decode cX5_run 70 = .ok (.iload_n 1, 1) := by decide +kernel
theorem dX5_run_71 : decode cX5_run 71 = .ok (.aload_n 0, 1) := by decide +kernel
theorem dX5_run_72 : decode cX5_run 72 = .ok (.getfield 48, 3) := by decide +kernel
theorem dX5_run_75 : decode cX5_run 75 = .ok (.if_icmp .ge 30, 3) := by decide +kernel
theorem dX5_run_78 : decode cX5_run 78 = .ok (.aload_n 0, 1) := by decide +kernel
theorem dX5_run_79 : decode cX5_run 79 = .ok (.getfield 101, 3) := by decide +kernel
theorem dX5_run_82 : decode cX5_run 82 = .ok (.ifCond .le 23, 3) := by decide +kernel
theorem dX5_run_85 : decode cX5_run 85 = .ok (.aload_n 0, 1) := by decide +kernel
theorem dX5_run_86 : decode cX5_run 86 = .ok (.getfield 26, 3) := by decide +kernel
theorem dX5_run_89 : decode cX5_run 89 = .ok (.iload_n 1, 1) := by decide +kernel
theorem dX5_run_90 : decode cX5_run 90 = .ok (.baload, 1) := by decide +kernel
theorem dX5_run_91 : decode cX5_run 91 = .ok (.ifCond .ne 8, 3) := by decide +kernel
theorem dX5_run_94 : decode cX5_run 94 = .ok (.aload_n 0, 1) := by decide +kernel
theorem dX5_run_95 : decode cX5_run 95 = .ok (.iload_n 1, 1) := by decide +kernel
theorem dX5_run_96 : decode cX5_run 96 = .ok (.invokevirtual 107, 3) := by decide +kernel
theorem dX5_run_99 : decode cX5_run 99 = .ok (.iinc 1 1, 3) := by decide +kernel
theorem dX5_run_102 : decode cX5_run 102 = .ok (.goto (-32), 3) := by decide +kernel
theorem dX5_run_105 : decode cX5_run 105 = .ok (.aload_n 0, 1) := by decide +kernel
theorem dX5_run_106 : decode cX5_run 106 = .ok (.getfield 101, 3) := by decide +kernel
theorem dX5_run_109 : decode cX5_run 109 = .ok (.ireturn, 1) := by decide +kernel
theorem dX5_hasShape_0 : decode cX5_hasShape 0 = .ok (.aload_n 0, 1) := by decide +kernel
theorem dX5_hasShape_1 : decode cX5_hasShape 1 = .ok (.getfield 70, 3) := by decide +kernel
theorem dX5_hasShape_4 : decode cX5_hasShape 4 = .ok (.ifCond .eq 14, 3) := by decide +kernel
theorem dX5_hasShape_7 : decode cX5_hasShape 7 = .ok (.aload_n 0, 1) := by decide +kernel
theorem dX5_hasShape_8 : decode cX5_hasShape 8 = .ok (.getfield 101, 3) := by decide +kernel
theorem dX5_hasShape_11 : decode cX5_hasShape 11 = .ok (.ifCond .le 7, 3) := by decide +kernel
theorem dX5_hasShape_14 : decode cX5_hasShape 14 = .ok (.iconst 1, 1) := by decide +kernel
theorem dX5_hasShape_15 : decode cX5_hasShape 15 = .ok (.goto 4, 3) := by decide +kernel
theorem dX5_hasShape_18 : decode cX5_hasShape 18 = .ok (.iconst 0, 1) := by decide +kernel
theorem dX5_hasShape_19 : decode cX5_hasShape 19 = .ok (.ireturn, 1) := by decide +kernel
theorem dX5_area_0 : decode cX5_area 0 = .ok (.aload_n 0, 1) := by decide +kernel
theorem dX5_area_1 : decode cX5_area 1 = .ok (.getfield 29, 3) := by decide +kernel
theorem dX5_area_4 : decode cX5_area 4 = .ok (.iconst 4, 1) := by decide +kernel
theorem dX5_area_5 : decode cX5_area 5 = .ok (.iload_n 1, 1) := by decide +kernel
theorem dX5_area_6 : decode cX5_area 6 = .ok (.imul, 1) := by decide +kernel
theorem dX5_area_7 : decode cX5_area 7 = .ok (.iconst 2, 1) := by decide +kernel
theorem dX5_area_8 : decode cX5_area 8 = .ok (.iadd, 1) := by decide +kernel
theorem dX5_area_9 : decode cX5_area 9 = .ok (.daload, 1) := by decide +kernel
theorem dX5_area_10 : decode cX5_area 10 = .ok (.dstore_n 2, 1) := by decide +kernel
theorem dX5_area_11 : decode cX5_area 11 = .ok (.ldc2_w 111, 3) := by decide +kernel
theorem dX5_area_14 : decode cX5_area 14 = .ok (.dload_n 2, 1) := by decide +kernel
theorem dX5_area_15 : decode cX5_area 15 = .ok (.dmul, 1) := by decide +kernel
theorem dX5_area_16 : decode cX5_area 16 = .ok (.dload_n 2, 1) := by decide +kernel
theorem dX5_area_17 : decode cX5_area 17 = .ok (.dmul, 1) := by decide +kernel
theorem dX5_area_18 : decode cX5_area 18 = .ok (.dreturn, 1) := by decide +kernel
set_option maxRecDepth 20000 in
theorem ggX5_shape_X5_noSlice : GoodIn wsX5_shape wsX5_noSlice := goodIn_r _ [7, 8, 20, 21, 22, 23, 24, 25, 26, 27, 28, 29, 30, 31, 32, 33, 34, 35, 36, 37, 38] (by decide +kernel) (by decide +kernel)
set_option maxRecDepth 20000 in
theorem gX5_shape_X5_noSlice : GoodIn wsX5_shape (wsV RX5 74 RX5 yX5_noSlice wsX5_noSlice) := goodIn_app (goodIn_of _ (by decide +kernel)) ggX5_shape_X5_noSlice
set_option maxRecDepth 20000 in
theorem ggX5_shape_X5_hasShape : GoodIn wsX5_shape wsX5_hasShape := goodIn_r _ [12, 13, 14, 20, 21, 22, 23, 24, 25, 26, 27, 28, 29, 30, 31, 32, 33, 34, 35, 36, 37, 38] (by decide +kernel) (by decide +kernel)
set_option maxRecDepth 20000 in
theorem gX5_shape_X5_hasShape : GoodIn wsX5_shape (wsV RX5 113 RX5 yX5_hasShape wsX5_hasShape) := goodIn_app (goodIn_of _ (by decide +kernel)) ggX5_shape_X5_hasShape
set_option maxRecDepth 20000 in
theorem ggX5_shape_X5_area : GoodIn wsX5_shape wsX5_area := goodIn_r _ [18, 2, 19, 20, 21, 22, 23, 24, 25, 26, 27, 28, 29, 30, 31, 32, 33, 34, 35, 36, 37, 38] (by decide +kernel) (by decide +kernel)
set_option maxRecDepth 20000 in
theorem gX5_shape_X5_area : GoodIn wsX5_shape (wsV RX5 117 RX5 yX5_area wsX5_area) := goodIn_app (goodIn_of _ (by decide +kernel)) ggX5_shape_X5_area
theorem dX5_shape_0 : decode cX5_shape 0 = .ok (.aload_n 0, 1) := by decide +kernel
theorem dX5_shape_1 : decode cX5_shape 1 = .ok (.aload_n 0, 1) := by decide +kernel
theorem dX5_shape_2 : decode cX5_shape 2 = .ok (.iload_n 1, 1) := by decide +kernel
theorem dX5_shape_3 : decode cX5_shape 3 = .ok (.invokevirtual 74, 3) := by decide +kernel
theorem dX5_shape_6 : decode cX5_shape 6 = .ok (.ifCond .ne 12, 3) := by decide +kernel
theorem dX5_shape_9 : decode cX5_shape 9 = .ok (.iload_n 2, 1) := by decide +kernel
theorem dX5_shape_10 : decode cX5_shape 10 = .ok (.ifCond .lt 8, 3) := by decide +kernel
theorem dX5_shape_13 : decode cX5_shape 13 = .ok (.iload_n 2, 1) := by decide +kernel
theorem dX5_shape_14 : decode cX5_shape 14 = .ok (.iconst 4, 1) := by decide +kernel
theorem dX5_shape_15 : decode cX5_shape 15 = .ok (.if_icmp .le 7, 3) := by decide +kernel
theorem dX5_shape_18 : decode cX5_shape 18 = .ok (.iconst 1, 1) := by decide +kernel
theorem dX5_shape_19 : decode cX5_shape 19 = .ok (.goto 15, 3) := by decide +kernel
theorem dX5_shape_22 : decode cX5_shape 22 = .ok (.aload_n 0, 1) := by decide +kernel
theorem dX5_shape_23 : decode cX5_shape 23 = .ok (.invokevirtual 113, 3) := by decide +kernel
theorem dX5_shape_26 : decode cX5_shape 26 = .ok (.ifCond .eq 7, 3) := by decide +kernel
theorem dX5_shape_29 : decode cX5_shape 29 = .ok (.iconst 0, 1) := by decide +kernel
theorem dX5_shape_30 : decode cX5_shape 30 = .ok (.goto 4, 3) := by decide +kernel
theorem dX5_shape_33 : decode cX5_shape 33 = .ok (.iconst 2, 1) := by decide +kernel
theorem dX5_shape_34 : decode cX5_shape 34 = .ok (.putfield 55, 3) := by decide +kernel
theorem dX5_shape_37 : decode cX5_shape 37 = .ok (.aload_n 0, 1) := by decide +kernel
theorem dX5_shape_38 : decode cX5_shape 38 = .ok (.getfield 55, 3) := by decide +kernel
theorem dX5_shape_41 : decode cX5_shape 41 = .ok (.ifCond .le 7, 3) := by decide +kernel
theorem dX5_shape_44 : decode cX5_shape 44 = .ok (.dconst 0, 1) := by decide +kernel
theorem dX5_shape_45 : decode cX5_shape 45 = .ok (.goto 26, 3) := by decide +kernel
theorem dX5_shape_48 : decode cX5_shape 48 = .ok (.iload_n 2, 1) := by decide +kernel
theorem dX5_shape_49 : decode cX5_shape 49 = .ok (.iconst 4, 1) := by decide +kernel
theorem dX5_shape_50 : decode cX5_shape 50 = .ok (.if_icmp .ne 11, 3) := by decide +kernel
theorem dX5_shape_53 : decode cX5_shape 53 = .ok (.aload_n 0, 1) := by decide +kernel
theorem dX5_shape_54 : decode cX5_shape 54 = .ok (.iload_n 1, 1) := by decide +kernel
theorem dX5_shape_55 : decode cX5_shape 55 = .ok (.invokevirtual 117, 3) := by decide +kernel
theorem dX5_shape_58 : decode cX5_shape 58 = .ok (.goto 13, 3) := by decide +kernel
theorem dX5_shape_61 : decode cX5_shape 61 = .ok (.aload_n 0, 1) := by decide +kernel
theorem dX5_shape_62 : decode cX5_shape 62 = .ok (.getfield 29, 3) := by decide +kernel
theorem dX5_shape_65 : decode cX5_shape 65 = .ok (.iconst 4, 1) := by decide +kernel
theorem dX5_shape_66 : decode cX5_shape 66 = .ok (.iload_n 1, 1) := by decide +kernel
theorem dX5_shape_67 : decode cX5_shape 67 = .ok (.imul, 1) := by decide +kernel
theorem dX5_shape_68 : decode cX5_shape 68 = .ok (.iload_n 2, 1) := by decide +kernel
theorem dX5_shape_69 : decode cX5_shape 69 = .ok (.iadd, 1) := by decide +kernel
theorem dX5_shape_70 : decode cX5_shape 70 = .ok (.daload, 1) := by decide +kernel
theorem dX5_shape_71 : decode cX5_shape 71 = .ok (.dreturn, 1) := by decide +kernel
set_option maxRecDepth 20000 in
theorem ggX5_fitted_X5_noSlice : GoodIn wsX5_fitted wsX5_noSlice := goodIn_r _ [7, 8, 15, 16, 17, 18, 19, 20, 21, 22, 23, 24, 25, 26, 27, 28, 29, 30, 31, 32, 33] (by decide +kernel) (by decide +kernel)
set_option maxRecDepth 20000 in
theorem gX5_fitted_X5_noSlice : GoodIn wsX5_fitted (wsV RX5 74 RX5 yX5_noSlice wsX5_noSlice) := goodIn_app (goodIn_of _ (by decide +kernel)) ggX5_fitted_X5_noSlice
set_option maxRecDepth 20000 in
theorem ggX5_fitted_X5_hasShape : GoodIn wsX5_fitted wsX5_hasShape := goodIn_r _ [12, 13, 14, 15, 16, 17, 18, 19, 20, 21, 22, 23, 24, 25, 26, 27, 28, 29, 30, 31, 32, 33] (by decide +kernel) (by decide +kernel)
set_option maxRecDepth 20000 in
theorem gX5_fitted_X5_hasShape : GoodIn wsX5_fitted (wsV RX5 113 RX5 yX5_hasShape wsX5_hasShape) := goodIn_app (goodIn_of _ (by decide +kernel)) ggX5_fitted_X5_hasShape
theorem dX5_fitted_0 : decode cX5_fitted 0 = .ok (.aload_n 0, 1) := by decide +kernel
theorem dX5_fitted_1 : decode cX5_fitted 1 = .ok (.aload_n 0, 1) := by decide +kernel
theorem dX5_fitted_2 : decode cX5_fitted 2 = .ok (.iload_n 1, 1) := by decide +kernel
theorem dX5_fitted_3 : decode cX5_fitted 3 = .ok (.invokevirtual 74, 3) := by decide +kernel
theorem dX5_fitted_6 : decode cX5_fitted 6 = .ok (.ifCond .eq 7, 3) := by decide +kernel
theorem dX5_fitted_9 : decode cX5_fitted 9 = .ok (.iconst 1, 1) := by decide +kernel
theorem dX5_fitted_10 : decode cX5_fitted 10 = .ok (.goto 15, 3) := by decide +kernel
theorem dX5_fitted_13 : decode cX5_fitted 13 = .ok (.aload_n 0, 1) := by decide +kernel
theorem dX5_fitted_14 : decode cX5_fitted 14 = .ok (.invokevirtual 113, 3) := by decide +kernel
theorem dX5_fitted_17 : decode cX5_fitted 17 = .ok (.ifCond .eq 7, 3) := by decide +kernel
theorem dX5_fitted_20 : decode cX5_fitted 20 = .ok (.iconst 0, 1) := by decide +kernel
theorem dX5_fitted_21 : decode cX5_fitted 21 = .ok (.goto 4, 3) := by decide +kernel
theorem dX5_fitted_24 : decode cX5_fitted 24 = .ok (.iconst 2, 1) := by decide +kernel
theorem dX5_fitted_25 : decode cX5_fitted 25 = .ok (.putfield 55, 3) := by decide +kernel
theorem dX5_fitted_28 : decode cX5_fitted 28 = .ok (.aload_n 0, 1) := by decide +kernel
theorem dX5_fitted_29 : decode cX5_fitted 29 = .ok (.getfield 55, 3) := by decide +kernel
theorem dX5_fitted_32 : decode cX5_fitted 32 = .ok (.ifCond .ne 16, 3) := by decide +kernel
theorem dX5_fitted_35 : decode cX5_fitted 35 = .ok (.aload_n 0, 1) := by decide +kernel
theorem dX5_fitted_36 : decode cX5_fitted 36 = .ok (.getfield 26, 3) := by decide +kernel
theorem dX5_fitted_39 : decode cX5_fitted 39 = .ok (.iload_n 1, 1) := by decide +kernel
theorem dX5_fitted_40 : decode cX5_fitted 40 = .ok (.baload, 1) := by decide +kernel
theorem dX5_fitted_41 : decode cX5_fitted 41 = .ok (.ifCond .eq 7, 3) := by decide +kernel
theorem dX5_fitted_44 : decode cX5_fitted 44 = .ok (.iconst 1, 1) := by decide +kernel
theorem dX5_fitted_45 : decode cX5_fitted 45 = .ok (.goto 4, 3) := by decide +kernel
theorem dX5_fitted_48 : decode cX5_fitted 48 = .ok (.iconst 0, 1) := by decide +kernel
theorem dX5_fitted_49 : decode cX5_fitted 49 = .ok (.ireturn, 1) := by decide +kernel
theorem dX5_isInside_0 : decode cX5_isInside 0 = .ok (.dload_n 2, 1) := by decide +kernel
theorem dX5_isInside_1 : decode cX5_isInside 1 = .ok (.aload_n 0, 1) := by decide +kernel
theorem dX5_isInside_2 : decode cX5_isInside 2 = .ok (.getfield 29, 3) := by decide +kernel
theorem dX5_isInside_5 : decode cX5_isInside 5 = .ok (.iconst 4, 1) := by decide +kernel
theorem dX5_isInside_6 : decode cX5_isInside 6 = .ok (.iload_n 1, 1) := by decide +kernel
theorem dX5_isInside_7 : decode cX5_isInside 7 = .ok (.imul, 1) := by decide +kernel
theorem dX5_isInside_8 : decode cX5_isInside 8 = .ok (.daload, 1) := by decide +kernel
theorem dX5_isInside_9 : decode cX5_isInside 9 = .ok (.dsub, 1) := by decide +kernel
theorem dX5_isInside_10 : decode cX5_isInside 10 = .ok (.dstore 6, 2) := by decide +kernel
theorem dX5_isInside_12 : decode cX5_isInside 12 = .ok (.dload 4, 2) := by decide +kernel
theorem dX5_isInside_14 : decode cX5_isInside 14 = .ok (.aload_n 0, 1) := by decide +kernel
theorem dX5_isInside_15 : decode cX5_isInside 15 = .ok (.getfield 29, 3) := by decide +kernel
theorem dX5_isInside_18 : decode cX5_isInside 18 = .ok (.iconst 4, 1) := by decide +kernel
theorem dX5_isInside_19 : decode cX5_isInside 19 = .ok (.iload_n 1, 1) := by decide +kernel
theorem dX5_isInside_20 : decode cX5_isInside 20 = .ok (.imul, 1) := by decide +kernel
theorem dX5_isInside_21 : decode cX5_isInside 21 = .ok (.iconst 1, 1) := by decide +kernel
theorem dX5_isInside_22 : decode cX5_isInside 22 = .ok (.iadd, 1) := by decide +kernel
theorem dX5_isInside_23 : decode cX5_isInside 23 = .ok (.daload, 1) := by decide +kernel
theorem dX5_isInside_24 : decode cX5_isInside 24 = .ok (.dsub, 1) := by decide +kernel
theorem dX5_isInside_25 : decode cX5_isInside 25 = .ok (.dstore 8, 2) := by decide +kernel
theorem dX5_isInside_27 : decode cX5_isInside 27 = .ok (.aload_n 0, 1) := by decide +kernel
theorem dX5_isInside_28 : decode cX5_isInside 28 = .ok (.getfield 29, 3) := by decide +kernel
theorem dX5_isInside_31 : decode cX5_isInside 31 = .ok (.iconst 4, 1) := by decide +kernel
theorem dX5_isInside_32 : decode cX5_isInside 32 = .ok (.iload_n 1, 1) := by decide +kernel
theorem dX5_isInside_33 : decode cX5_isInside 33 = .ok (.imul, 1) := by decide +kernel
theorem dX5_isInside_34 : decode cX5_isInside 34 = .ok (.iconst 2, 1) := by decide +kernel
theorem dX5_isInside_35 : decode cX5_isInside 35 = .ok (.iadd, 1) := by decide +kernel
theorem dX5_isInside_36 : decode cX5_isInside 36 = .ok (.daload, 1) := by decide +kernel
theorem dX5_isInside_37 : decode cX5_isInside 37 = .ok (.dstore 10, 2) := by decide +kernel
theorem dX5_isInside_39 : decode cX5_isInside 39 = .ok (.dload 6, 2) := by decide +kernel
theorem dX5_isInside_41 : decode cX5_isInside 41 = .ok (.dload 6, 2) := by decide +kernel
theorem dX5_isInside_43 : decode cX5_isInside 43 = .ok (.dmul, 1) := by decide +kernel
theorem dX5_isInside_44 : decode cX5_isInside 44 = .ok (.dload 8, 2) := by decide +kernel
theorem dX5_isInside_46 : decode cX5_isInside 46 = .ok (.dload 8, 2) := by decide +kernel
theorem dX5_isInside_48 : decode cX5_isInside 48 = .ok (.dmul, 1) := by decide +kernel
theorem dX5_isInside_49 : decode cX5_isInside 49 = .ok (.dadd, 1) := by decide +kernel
theorem dX5_isInside_50 : decode cX5_isInside 50 = .ok (.dload 10, 2) := by decide +kernel
theorem dX5_isInside_52 : decode cX5_isInside 52 = .ok (.dload 10, 2) := by decide +kernel
theorem dX5_isInside_54 : decode cX5_isInside 54 = .ok (.dmul, 1) := by decide +kernel
theorem dX5_isInside_55 : decode cX5_isInside 55 = .ok (.dcmp .g, 1) := by decide +kernel
theorem dX5_isInside_56 : decode cX5_isInside 56 = .ok (.ifCond .gt 7, 3) := by decide +kernel
theorem dX5_isInside_59 : decode cX5_isInside 59 = .ok (.iconst 1, 1) := by decide +kernel
theorem dX5_isInside_60 : decode cX5_isInside 60 = .ok (.goto 4, 3) := by decide +kernel
theorem dX5_isInside_63 : decode cX5_isInside 63 = .ok (.iconst 0, 1) := by decide +kernel
theorem dX5_isInside_64 : decode cX5_isInside 64 = .ok (.ireturn, 1) := by decide +kernel
set_option maxRecDepth 20000 in
theorem ggX5_inside_X5_noSlice : GoodIn wsX5_inside wsX5_noSlice := goodIn_r _ [8, 9, 24, 25, 26, 27, 28, 29, 30, 31, 32, 33, 34, 35, 36, 37, 38, 39, 40, 41, 42] (by decide +kernel) (by decide +kernel)
set_option maxRecDepth 20000 in
theorem gX5_inside_X5_noSlice : GoodIn wsX5_inside (wsV RX5 74 RX5 yX5_noSlice wsX5_noSlice) := goodIn_app (goodIn_of _ (by decide +kernel)) ggX5_inside_X5_noSlice
set_option maxRecDepth 20000 in
theorem ggX5_inside_X5_between : GoodIn wsX5_inside wsX5_between := goodIn_r _ [12] (by decide +kernel) (by decide +kernel)
set_option maxRecDepth 20000 in
theorem gX5_inside_X5_between : GoodIn wsX5_inside (va_wsS RX5 66 yX5_between wsX5_between) := goodIn_app (goodIn_of _ (by decide +kernel)) ggX5_inside_X5_between
set_option maxRecDepth 20000 in
theorem ggX5_inside_X5_hasShape : GoodIn wsX5_inside wsX5_hasShape := goodIn_r _ [16, 17, 18, 24, 25, 26, 27, 28, 29, 30, 31, 32, 33, 34, 35, 36, 37, 38, 39, 40, 41, 42] (by decide +kernel) (by decide +kernel)
set_option maxRecDepth 20000 in
theorem gX5_inside_X5_hasShape : GoodIn wsX5_inside (wsV RX5 113 RX5 yX5_hasShape wsX5_hasShape) := goodIn_app (goodIn_of _ (by decide +kernel)) ggX5_inside_X5_hasShape
set_option maxRecDepth 20000 in
theorem ggX5_inside_X5_isInside : GoodIn wsX5_inside wsX5_isInside := goodIn_r _ [22, 23, 24, 25, 26, 27, 28, 29, 30, 31, 32, 33, 34, 35, 36, 37, 38, 39, 40, 41, 42] (by decide +kernel) (by decide +kernel)
set_option maxRecDepth 20000 in
theorem gX5_inside_X5_isInside : GoodIn wsX5_inside (wsV RX5 120 RX5 yX5_isInside wsX5_isInside) := goodIn_app (goodIn_of _ (by decide +kernel)) ggX5_inside_X5_isInside
theorem dX5_inside_0 : decode cX5_inside 0 = .ok (.aload_n 0, 1) := by decide +kernel
theorem dX5_inside_1 : decode cX5_inside 1 = .ok (.aload_n 0, 1) := by decide +kernel
theorem dX5_inside_2 : decode cX5_inside 2 = .ok (.iload_n 1, 1) := by decide +kernel
theorem dX5_inside_3 : decode cX5_inside 3 = .ok (.invokevirtual 74, 3) := by decide +kernel
theorem dX5_inside_6 : decode cX5_inside 6 = .ok (.ifCond .eq 7, 3) := by decide +kernel
theorem dX5_inside_9 : decode cX5_inside 9 = .ok (.iconst 1, 1) := by decide +kernel
theorem dX5_inside_10 : decode cX5_inside 10 = .ok (.goto 46, 3) := by decide +kernel
theorem dX5_inside_13 : decode cX5_inside 13 = .ok (.dload_n 2, 1) := by decide +kernel
theorem dX5_inside_14 : decode cX5_inside 14 = .ok (.ldc2_w 77, 3) := by decide +kernel
theorem dX5_inside_17 : decode cX5_inside 17 = .ok (.ldc2_w 79, 3) := by decide +kernel
theorem dX5_inside_20 : decode cX5_inside 20 = .ok (.invokestatic 66, 3) := by decide +kernel
theorem dX5_inside_23 : decode cX5_inside 23 = .ok (.ifCond .eq 17, 3) := by decide +kernel
theorem dX5_inside_26 : decode cX5_inside 26 = .ok (.dload 4, 2) := by decide +kernel
theorem dX5_inside_28 : decode cX5_inside 28 = .ok (.ldc2_w 77, 3) := by decide +kernel
theorem dX5_inside_31 : decode cX5_inside 31 = .ok (.ldc2_w 79, 3) := by decide +kernel
theorem dX5_inside_34 : decode cX5_inside 34 = .ok (.invokestatic 66, 3) := by decide +kernel
theorem dX5_inside_37 : decode cX5_inside 37 = .ok (.ifCond .ne 7, 3) := by decide +kernel
theorem dX5_inside_40 : decode cX5_inside 40 = .ok (.iconst 2, 1) := by decide +kernel
theorem dX5_inside_41 : decode cX5_inside 41 = .ok (.goto 15, 3) := by decide +kernel
theorem dX5_inside_44 : decode cX5_inside 44 = .ok (.aload_n 0, 1) := by decide +kernel
theorem dX5_inside_45 : decode cX5_inside 45 = .ok (.invokevirtual 113, 3) := by decide +kernel
theorem dX5_inside_48 : decode cX5_inside 48 = .ok (.ifCond .eq 7, 3) := by decide +kernel
theorem dX5_inside_51 : decode cX5_inside 51 = .ok (.iconst 0, 1) := by decide +kernel
theorem dX5_inside_52 : decode cX5_inside 52 = .ok (.goto 4, 3) := by decide +kernel
theorem dX5_inside_55 : decode cX5_inside 55 = .ok (.iconst 3, 1) := by decide +kernel
theorem dX5_inside_56 : decode cX5_inside 56 = .ok (.putfield 55, 3) := by decide +kernel
theorem dX5_inside_59 : decode cX5_inside 59 = .ok (.aload_n 0, 1) := by decide +kernel
theorem dX5_inside_60 : decode cX5_inside 60 = .ok (.getfield 55, 3) := by decide +kernel
theorem dX5_inside_63 : decode cX5_inside 63 = .ok (.ifCond .ne 18, 3) := by decide +kernel
theorem dX5_inside_66 : decode cX5_inside 66 = .ok (.aload_n 0, 1) := by decide +kernel
theorem dX5_inside_67 : decode cX5_inside 67 = .ok (.iload_n 1, 1) := by decide +kernel
theorem dX5_inside_68 : decode cX5_inside 68 = .ok (.dload_n 2, 1) := by decide +kernel
theorem dX5_inside_69 : decode cX5_inside 69 = .ok (.dload 4, 2) := by decide +kernel
theorem dX5_inside_71 : decode cX5_inside 71 = .ok (.invokevirtual 120, 3) := by decide +kernel
theorem dX5_inside_74 : decode cX5_inside 74 = .ok (.ifCond .eq 7, 3) := by decide +kernel
theorem dX5_inside_77 : decode cX5_inside 77 = .ok (.iconst 1, 1) := by decide +kernel
theorem dX5_inside_78 : decode cX5_inside 78 = .ok (.goto 4, 3) := by decide +kernel
theorem dX5_inside_81 : decode cX5_inside 81 = .ok (.iconst 0, 1) := by decide +kernel
theorem dX5_inside_82 : decode cX5_inside 82 = .ok (.ireturn, 1) := by decide +kernel
set_option maxRecDepth 20000 in
theorem ggX5_wholes_X5_noSlice : GoodIn wsX5_wholes wsX5_noSlice := goodIn_r _ [6, 7, 19, 20, 21, 22, 23, 24, 25, 26, 27, 28, 29, 30, 31, 32, 33, 34, 35, 36, 37] (by decide +kernel) (by decide +kernel)
set_option maxRecDepth 20000 in
theorem gX5_wholes_X5_noSlice : GoodIn wsX5_wholes (wsV RX5 74 RX5 yX5_noSlice wsX5_noSlice) := goodIn_app (goodIn_of _ (by decide +kernel)) ggX5_wholes_X5_noSlice
set_option maxRecDepth 20000 in
theorem ggX5_wholes_X5_hasShape : GoodIn wsX5_wholes wsX5_hasShape := goodIn_r _ [11, 12, 13, 19, 20, 21, 22, 23, 24, 25, 26, 27, 28, 29, 30, 31, 32, 33, 34, 35, 36, 37] (by decide +kernel) (by decide +kernel)
set_option maxRecDepth 20000 in
theorem gX5_wholes_X5_hasShape : GoodIn wsX5_wholes (wsV RX5 113 RX5 yX5_hasShape wsX5_hasShape) := goodIn_app (goodIn_of _ (by decide +kernel)) ggX5_wholes_X5_hasShape
set_option maxRecDepth 20000 in
theorem ggX5_wholes_X5_isInside : GoodIn wsX5_wholes wsX5_isInside := goodIn_r _ [17, 18, 19, 20, 21, 22, 23, 24, 25, 26, 27, 28, 29, 30, 31, 32, 33, 34, 35, 36, 37] (by decide +kernel) (by decide +kernel)
set_option maxRecDepth 20000 in
theorem gX5_wholes_X5_isInside : GoodIn wsX5_wholes (wsV RX5 120 RX5 yX5_isInside wsX5_isInside) := goodIn_app (goodIn_of _ (by decide +kernel)) ggX5_wholes_X5_isInside
theorem dX5_wholes_0 : decode cX5_wholes 0 = .ok (.aload_n 0, 1) := by decide +kernel
theorem dX5_wholes_1 : decode cX5_wholes 1 = .ok (.aload_n 0, 1) := by decide +kernel
theorem dX5_wholes_2 : decode cX5_wholes 2 = .ok (.iload_n 1, 1) := by decide +kernel
theorem dX5_wholes_3 : decode cX5_wholes 3 = .ok (.invokevirtual 74, 3) := by decide +kernel
theorem dX5_wholes_6 : decode cX5_wholes 6 = .ok (.ifCond .eq 7, 3) := by decide +kernel
theorem dX5_wholes_9 : decode cX5_wholes 9 = .ok (.iconst 1, 1) := by decide +kernel
theorem dX5_wholes_10 : decode cX5_wholes 10 = .ok (.goto 15, 3) := by decide +kernel
theorem dX5_wholes_13 : decode cX5_wholes 13 = .ok (.aload_n 0, 1) := by decide +kernel
theorem dX5_wholes_14 : decode cX5_wholes 14 = .ok (.invokevirtual 113, 3) := by decide +kernel
theorem dX5_wholes_17 : decode cX5_wholes 17 = .ok (.ifCond .eq 7, 3) := by decide +kernel
theorem dX5_wholes_20 : decode cX5_wholes 20 = .ok (.iconst 0, 1) := by decide +kernel
theorem dX5_wholes_21 : decode cX5_wholes 21 = .ok (.goto 4, 3) := by decide +kernel
theorem dX5_wholes_24 : decode cX5_wholes 24 = .ok (.iconst 2, 1) := by decide +kernel
theorem dX5_wholes_25 : decode cX5_wholes 25 = .ok (.putfield 55, 3) := by decide +kernel
theorem dX5_wholes_28 : decode cX5_wholes 28 = .ok (.iconst 0, 1) := by decide +kernel
theorem dX5_wholes_29 : decode cX5_wholes 29 = .ok (.istore_n 2, 1) := by decide +kernel
theorem dX5_wholes_30 : decode cX5_wholes 30 = .ok (.bipush (-40), 2) := by decide +kernel
theorem dX5_wholes_32 : decode cX5_wholes 32 = .ok (.istore_n 3, 1) := by decide +kernel
theorem dX5_wholes_33 : decode cX5_wholes 33 = .ok (.iload_n 3, 1) := by decide +kernel
theorem dX5_wholes_34 : decode cX5_wholes 34 = .ok (.bipush 40, 2) := by decide +kernel
theorem dX5_wholes_36 : decode cX5_wholes 36 = .ok (.if_icmp .gt 54, 3) := by decide +kernel
theorem dX5_wholes_39 : decode cX5_wholes 39 = .ok (.aload_n 0, 1) := by decide +kernel
theorem dX5_wholes_40 : decode cX5_wholes 40 = .ok (.getfield 55, 3) := by decide +kernel
theorem dX5_wholes_43 : decode cX5_wholes 43 = .ok (.ifCond .ne 47, 3) := by decide +kernel
theorem dX5_wholes_46 : decode cX5_wholes 46 = .ok (.bipush (-40), 2) := by decide +kernel
theorem dX5_wholes_48 : decode cX5_wholes 48 = .ok (.istore 4, 2) := by decide +kernel
theorem dX5_wholes_50 : decode cX5_wholes 50 = .ok (.iload 4, 2) := by decide +kernel
theorem dX5_wholes_52 : decode cX5_wholes 52 = .ok (.bipush 40, 2) := by decide +kernel
theorem dX5_wholes_54 : decode cX5_wholes 54 = .ok (.if_icmp .gt 30, 3) := by decide +kernel
theorem dX5_wholes_57 : decode cX5_wholes 57 = .ok (.aload_n 0, 1) := by decide +kernel
theorem dX5_wholes_58 : decode cX5_wholes 58 = .ok (.iload_n 1, 1) := by decide +kernel
theorem dX5_wholes_59 : decode cX5_wholes 59 = .ok (.iload_n 3, 1) := by decide +kernel
theorem dX5_wholes_60 : decode cX5_wholes 60 = .ok (.i2d, 1) := by decide +kernel
theorem dX5_wholes_61 : decode cX5_wholes 61 = .ok (.iload 4, 2) := by decide +kernel
theorem dX5_wholes_63 : decode cX5_wholes 63 = .ok (.i2d, 1) := by decide +kernel
theorem dX5_wholes_64 : decode cX5_wholes 64 = .ok (.invokevirtual 120, 3) := by decide +kernel
theorem dX5_wholes_67 : decode cX5_wholes 67 = .ok (.ifCond .eq 9, 3) := by decide +kernel
theorem dX5_wholes_70 : decode cX5_wholes 70 = .ok (.iload_n 2, 1) := by decide +kernel
theorem dX5_wholes_71 : decode cX5_wholes 71 = .ok (.iconst 1, 1) := by decide +kernel
theorem dX5_wholes_72 : decode cX5_wholes 72 = .ok (.iadd, 1) := by decide +kernel
theorem dX5_wholes_73 : decode cX5_wholes 73 = .ok (.goto 4, 3) := by decide +kernel
theorem dX5_wholes_76 : decode cX5_wholes 76 = .ok (.iload_n 2, 1) := by decide +kernel
theorem dX5_wholes_77 : decode cX5_wholes 77 = .ok (.istore_n 2, 1) := by decide +kernel
theorem dX5_wholes_78 : decode cX5_wholes 78 = .ok (.iinc 4 1, 3) := by decide +kernel
theorem dX5_wholes_81 : decode cX5_wholes 81 = .ok (.goto (-31), 3) := by decide +kernel
theorem dX5_wholes_84 : decode cX5_wholes 84 = .ok (.iinc 3 1, 3) := by decide +kernel
theorem dX5_wholes_87 : decode cX5_wholes 87 = .ok (.goto (-54), 3) := by decide +kernel
theorem dX5_wholes_90 : decode cX5_wholes 90 = .ok (.iload_n 2, 1) := by decide +kernel
theorem dX5_wholes_91 : decode cX5_wholes 91 = .ok (.ireturn, 1) := by decide +kernel
set_option maxRecDepth 20000 in
theorem ggX5_volumeNow_X5_area : GoodIn wsX5_volumeNow wsX5_area := goodIn_r _ [6, 7, 8, 9, 10, 11, 12, 13, 14, 15, 16, 17, 18, 19, 20, 21, 22, 23, 24, 25, 26, 27] (by decide +kernel) (by decide +kernel)
set_option maxRecDepth 20000 in
theorem gX5_volumeNow_X5_area : GoodIn wsX5_volumeNow (wsV RX5 117 RX5 yX5_area wsX5_area) := goodIn_app (goodIn_of _ (by decide +kernel)) ggX5_volumeNow_X5_area
theorem dX5_volumeNow_0 : decode cX5_volumeNow 0 = .ok (.dconst 0, 1) := by decide +kernel
theorem dX5_volumeNow_1 : decode cX5_volumeNow 1 = .ok (.dstore_n 1, 1) := by decide +kernel
theorem dX5_volumeNow_2 : decode cX5_volumeNow 2 = .ok (.iconst 0, 1) := by decide +kernel
theorem dX5_volumeNow_3 : decode cX5_volumeNow 3 = .ok (.istore_n 3, 1) := by decide +kernel
theorem dX5_volumeNow_4 : decode cX5_volumeNow 4 = .ok (.iload_n 3, 1) := by decide +kernel
theorem dX5_volumeNow_5 : decode cX5_volumeNow 5 = .ok (.aload_n 0, 1) := by decide +kernel
theorem dX5_volumeNow_6 : decode cX5_volumeNow 6 = .ok (.getfield 48, 3) := by decide +kernel
theorem dX5_volumeNow_9 : decode cX5_volumeNow 9 = .ok (.if_icmp .ge 17, 3) := by decide +kernel
theorem dX5_volumeNow_12 : decode cX5_volumeNow 12 = .ok (.dload_n 1, 1) := by decide +kernel
theorem dX5_volumeNow_13 : decode cX5_volumeNow 13 = .ok (.aload_n 0, 1) := by decide +kernel
theorem dX5_volumeNow_14 : decode cX5_volumeNow 14 = .ok (.iload_n 3, 1) := by decide +kernel
theorem dX5_volumeNow_15 : decode cX5_volumeNow 15 = .ok (.invokevirtual 117, 3) := by decide +kernel
theorem dX5_volumeNow_18 : decode cX5_volumeNow 18 = .ok (.dadd, 1) := by decide +kernel
theorem dX5_volumeNow_19 : decode cX5_volumeNow 19 = .ok (.dstore_n 1, 1) := by decide +kernel
theorem dX5_volumeNow_20 : decode cX5_volumeNow 20 = .ok (.iinc 3 1, 3) := by decide +kernel
theorem dX5_volumeNow_23 : decode cX5_volumeNow 23 = .ok (.goto (-19), 3) := by decide +kernel
theorem dX5_volumeNow_26 : decode cX5_volumeNow 26 = .ok (.dload_n 1, 1) := by decide +kernel
theorem dX5_volumeNow_27 : decode cX5_volumeNow 27 = .ok (.dreturn, 1) := by decide +kernel
theorem dX5_taperNow_0 : decode cX5_taperNow 0 = .ok (.aload_n 0, 1) := by decide +kernel
theorem dX5_taperNow_1 : decode cX5_taperNow 1 = .ok (.getfield 48, 3) := by decide +kernel
theorem dX5_taperNow_4 : decode cX5_taperNow 4 = .ok (.iconst 1, 1) := by decide +kernel
theorem dX5_taperNow_5 : decode cX5_taperNow 5 = .ok (.if_icmp .ne 7, 3) := by decide +kernel
theorem dX5_taperNow_8 : decode cX5_taperNow 8 = .ok (.dconst 0, 1) := by decide +kernel
theorem dX5_taperNow_9 : decode cX5_taperNow 9 = .ok (.goto 31, 3) := by decide +kernel
theorem dX5_taperNow_12 : decode cX5_taperNow 12 = .ok (.aload_n 0, 1) := by decide +kernel
theorem dX5_taperNow_13 : decode cX5_taperNow 13 = .ok (.getfield 29, 3) := by decide +kernel
theorem dX5_taperNow_16 : decode cX5_taperNow 16 = .ok (.iconst 2, 1) := by decide +kernel
theorem dX5_taperNow_17 : decode cX5_taperNow 17 = .ok (.daload, 1) := by decide +kernel
theorem dX5_taperNow_18 : decode cX5_taperNow 18 = .ok (.aload_n 0, 1) := by decide +kernel
theorem dX5_taperNow_19 : decode cX5_taperNow 19 = .ok (.getfield 29, 3) := by decide +kernel
theorem dX5_taperNow_22 : decode cX5_taperNow 22 = .ok (.iconst 4, 1) := by decide +kernel
theorem dX5_taperNow_23 : decode cX5_taperNow 23 = .ok (.aload_n 0, 1) := by decide +kernel
theorem dX5_taperNow_24 : decode cX5_taperNow 24 = .ok (.getfield 48, 3) := by decide +kernel
theorem dX5_taperNow_27 : decode cX5_taperNow 27 = .ok (.imul, 1) := by decide +kernel
theorem dX5_taperNow_28 : decode cX5_taperNow 28 = .ok (.iconst 2, 1) := by decide +kernel
theorem dX5_taperNow_29 : decode cX5_taperNow 29 = .ok (.isub, 1) := by decide +kernel
theorem dX5_taperNow_30 : decode cX5_taperNow 30 = .ok (.daload, 1) := by decide +kernel
theorem dX5_taperNow_31 : decode cX5_taperNow 31 = .ok (.dsub, 1) := by decide +kernel
theorem dX5_taperNow_32 : decode cX5_taperNow 32 = .ok (.aload_n 0, 1) := by decide +kernel
theorem dX5_taperNow_33 : decode cX5_taperNow 33 = .ok (.getfield 48, 3) := by decide +kernel
theorem dX5_taperNow_36 : decode cX5_taperNow 36 = .ok (.iconst 1, 1) := by decide +kernel
theorem dX5_taperNow_37 : decode cX5_taperNow 37 = .ok (.isub, 1) := by decide +kernel
theorem dX5_taperNow_38 : decode cX5_taperNow 38 = .ok (.i2d, 1) := by decide +kernel
theorem dX5_taperNow_39 : decode cX5_taperNow 39 = .ok (.ddiv, 1) := by decide +kernel
theorem dX5_taperNow_40 : decode cX5_taperNow 40 = .ok (.dreturn, 1) := by decide +kernel
theorem dX5_off_0 : decode cX5_off 0 = .ok (.aload_n 0, 1) := by decide +kernel
theorem dX5_off_1 : decode cX5_off 1 = .ok (.getfield 29, 3) := by decide +kernel
theorem dX5_off_4 : decode cX5_off 4 = .ok (.iload_n 2, 1) := by decide +kernel
theorem dX5_off_5 : decode cX5_off 5 = .ok (.daload, 1) := by decide +kernel
theorem dX5_off_6 : decode cX5_off 6 = .ok (.dstore_n 3, 1) := by decide +kernel
theorem dX5_off_7 : decode cX5_off 7 = .ok (.dload_n 3, 1) := by decide +kernel
theorem dX5_off_8 : decode cX5_off 8 = .ok (.aload_n 0, 1) := by decide +kernel
theorem dX5_off_9 : decode cX5_off 9 = .ok (.getfield 29, 3) := by decide +kernel
theorem dX5_off_12 : decode cX5_off 12 = .ok (.iconst 4, 1) := by decide +kernel
theorem dX5_off_13 : decode cX5_off 13 = .ok (.aload_n 0, 1) := by decide +kernel
theorem dX5_off_14 : decode cX5_off 14 = .ok (.getfield 48, 3) := by decide +kernel
theorem dX5_off_17 : decode cX5_off 17 = .ok (.imul, 1) := by decide +kernel
theorem dX5_off_18 : decode cX5_off 18 = .ok (.iconst 4, 1) := by decide +kernel
theorem dX5_off_19 : decode cX5_off 19 = .ok (.isub, 1) := by decide +kernel
theorem dX5_off_20 : decode cX5_off 20 = .ok (.iload_n 2, 1) := by decide +kernel
theorem dX5_off_21 : decode cX5_off 21 = .ok (.iadd, 1) := by decide +kernel
theorem dX5_off_22 : decode cX5_off 22 = .ok (.daload, 1) := by decide +kernel
theorem dX5_off_23 : decode cX5_off 23 = .ok (.dload_n 3, 1) := by decide +kernel
theorem dX5_off_24 : decode cX5_off 24 = .ok (.dsub, 1) := by decide +kernel
theorem dX5_off_25 : decode cX5_off 25 = .ok (.iload_n 1, 1) := by decide +kernel
theorem dX5_off_26 : decode cX5_off 26 = .ok (.i2d, 1) := by decide +kernel
theorem dX5_off_27 : decode cX5_off 27 = .ok (.dmul, 1) := by decide +kernel
theorem dX5_off_28 : decode cX5_off 28 = .ok (.aload_n 0, 1) := by decide +kernel
theorem dX5_off_29 : decode cX5_off 29 = .ok (.getfield 48, 3) := by decide +kernel
theorem dX5_off_32 : decode cX5_off 32 = .ok (.iconst 1, 1) := by decide +kernel
theorem dX5_off_33 : decode cX5_off 33 = .ok (.isub, 1) := by decide +kernel
theorem dX5_off_34 : decode cX5_off 34 = .ok (.i2d, 1) := by decide +kernel
theorem dX5_off_35 : decode cX5_off 35 = .ok (.ddiv, 1) := by decide +kernel
theorem dX5_off_36 : decode cX5_off 36 = .ok (.dadd, 1) := by decide +kernel
theorem dX5_off_37 : decode cX5_off 37 = .ok (.dstore 5, 2) := by decide +kernel
theorem dX5_off_39 : decode cX5_off 39 = .ok (.aload_n 0, 1) := by decide +kernel
theorem dX5_off_40 : decode cX5_off 40 = .ok (.getfield 29, 3) := by decide +kernel
theorem dX5_off_43 : decode cX5_off 43 = .ok (.iconst 4, 1) := by decide +kernel
theorem dX5_off_44 : decode cX5_off 44 = .ok (.iload_n 1, 1) := by decide +kernel
theorem dX5_off_45 : decode cX5_off 45 = .ok (.imul, 1) := by decide +kernel
theorem dX5_off_46 : decode cX5_off 46 = .ok (.iload_n 2, 1) := by decide +kernel
theorem dX5_off_47 : decode cX5_off 47 = .ok (.iadd, 1) := by decide +kernel
theorem dX5_off_48 : decode cX5_off 48 = .ok (.daload, 1) := by decide +kernel
theorem dX5_off_49 : decode cX5_off 49 = .ok (.dload 5, 2) := by decide +kernel
theorem dX5_off_51 : decode cX5_off 51 = .ok (.dsub, 1) := by decide +kernel
theorem dX5_off_52 : decode cX5_off 52 = .ok (.dreturn, 1) := by decide +kernel
set_option maxRecDepth 20000 in
theorem ggX5_sweepNow_X5_off : GoodIn wsX5_sweepNow wsX5_off := goodIn_r _ [6, 7, 1, 8, 9, 10, 11, 12, 13, 14, 15, 16, 17, 18, 19, 20, 21, 22, 23, 24, 25, 26] (by decide +kernel) (by decide +kernel)
set_option maxRecDepth 20000 in
theorem gX5_sweepNow_X5_off : GoodIn wsX5_sweepNow (wsV RX5 124 RX5 yX5_off wsX5_off) := goodIn_app (goodIn_of _ (by decide +kernel)) ggX5_sweepNow_X5_off
theorem dX5_sweepNow_0 : decode cX5_sweepNow 0 = .ok (.dconst 0, 1) := by decide +kernel
theorem dX5_sweepNow_1 : decode cX5_sweepNow 1 = .ok (.dstore_n 1, 1) := by decide +kernel
theorem dX5_sweepNow_2 : decode cX5_sweepNow 2 = .ok (.iconst 0, 1) := by decide +kernel
theorem dX5_sweepNow_3 : decode cX5_sweepNow 3 = .ok (.istore_n 3, 1) := by decide +kernel
theorem dX5_sweepNow_4 : decode cX5_sweepNow 4 = .ok (.iload_n 3, 1) := by decide +kernel
theorem dX5_sweepNow_5 : decode cX5_sweepNow 5 = .ok (.aload_n 0, 1) := by decide +kernel
theorem dX5_sweepNow_6 : decode cX5_sweepNow 6 = .ok (.getfield 48, 3) := by decide +kernel
theorem dX5_sweepNow_9 : decode cX5_sweepNow 9 = .ok (.if_icmp .ge 60, 3) := by decide +kernel
theorem dX5_sweepNow_12 : decode cX5_sweepNow 12 = .ok (.aload_n 0, 1) := by decide +kernel
theorem dX5_sweepNow_13 : decode cX5_sweepNow 13 = .ok (.getfield 48, 3) := by decide +kernel
theorem dX5_sweepNow_16 : decode cX5_sweepNow 16 = .ok (.iconst 1, 1) := by decide +kernel
theorem dX5_sweepNow_17 : decode cX5_sweepNow 17 = .ok (.if_icmp .le 52, 3) := by decide +kernel
theorem dX5_sweepNow_20 : decode cX5_sweepNow 20 = .ok (.aload_n 0, 1) := by decide +kernel
theorem dX5_sweepNow_21 : decode cX5_sweepNow 21 = .ok (.iload_n 3, 1) := by decide +kernel
theorem dX5_sweepNow_22 : decode cX5_sweepNow 22 = .ok (.iconst 0, 1) := by decide +kernel
theorem dX5_sweepNow_23 : decode cX5_sweepNow 23 = .ok (.invokevirtual 124, 3) := by decide +kernel
theorem dX5_sweepNow_26 : decode cX5_sweepNow 26 = .ok (.aload_n 0, 1) := by decide +kernel
theorem dX5_sweepNow_27 : decode cX5_sweepNow 27 = .ok (.iload_n 3, 1) := by decide +kernel
theorem dX5_sweepNow_28 : decode cX5_sweepNow 28 = .ok (.iconst 0, 1) := by decide +kernel
theorem dX5_sweepNow_29 : decode cX5_sweepNow 29 = .ok (.invokevirtual 124, 3) := by decide +kernel
theorem dX5_sweepNow_32 : decode cX5_sweepNow 32 = .ok (.dmul, 1) := by decide +kernel
theorem dX5_sweepNow_33 : decode cX5_sweepNow 33 = .ok (.aload_n 0, 1) := by decide +kernel
theorem dX5_sweepNow_34 : decode cX5_sweepNow 34 = .ok (.iload_n 3, 1) := by decide +kernel
theorem dX5_sweepNow_35 : decode cX5_sweepNow 35 = .ok (.iconst 1, 1) := by decide +kernel
theorem dX5_sweepNow_36 : decode cX5_sweepNow 36 = .ok (.invokevirtual 124, 3) := by decide +kernel
theorem dX5_sweepNow_39 : decode cX5_sweepNow 39 = .ok (.aload_n 0, 1) := by decide +kernel
theorem dX5_sweepNow_40 : decode cX5_sweepNow 40 = .ok (.iload_n 3, 1) := by decide +kernel
theorem dX5_sweepNow_41 : decode cX5_sweepNow 41 = .ok (.iconst 1, 1) := by decide +kernel
theorem dX5_sweepNow_42 : decode cX5_sweepNow 42 = .ok (.invokevirtual 124, 3) := by decide +kernel
theorem dX5_sweepNow_45 : decode cX5_sweepNow 45 = .ok (.dmul, 1) := by decide +kernel
theorem dX5_sweepNow_46 : decode cX5_sweepNow 46 = .ok (.dadd, 1) := by decide +kernel
theorem dX5_sweepNow_47 : decode cX5_sweepNow 47 = .ok (.dstore 4, 2) := by decide +kernel
theorem dX5_sweepNow_49 : decode cX5_sweepNow 49 = .ok (.dload 4, 2) := by decide +kernel
theorem dX5_sweepNow_51 : decode cX5_sweepNow 51 = .ok (.dload_n 1, 1) := by decide +kernel
theorem dX5_sweepNow_52 : decode cX5_sweepNow 52 = .ok (.dcmp .l, 1) := by decide +kernel
theorem dX5_sweepNow_53 : decode cX5_sweepNow 53 = .ok (.ifCond .le 8, 3) := by decide +kernel
theorem dX5_sweepNow_56 : decode cX5_sweepNow 56 = .ok (.dload 4, 2) := by decide +kernel
theorem dX5_sweepNow_58 : decode cX5_sweepNow 58 = .ok (.goto 4, 3) := by decide +kernel
theorem dX5_sweepNow_61 : decode cX5_sweepNow 61 = .ok (.dload_n 1, 1) := by decide +kernel
theorem dX5_sweepNow_62 : decode cX5_sweepNow 62 = .ok (.dstore_n 1, 1) := by decide +kernel
theorem dX5_sweepNow_63 : decode cX5_sweepNow 63 = .ok (.iinc 3 1, 3) := by decide +kernel
theorem dX5_sweepNow_66 : decode cX5_sweepNow 66 = .ok (.goto (-62), 3) := by decide +kernel
theorem dX5_sweepNow_69 : decode cX5_sweepNow 69 = .ok (.dload_n 1, 1) := by decide +kernel
theorem dX5_sweepNow_70 : decode cX5_sweepNow 70 = .ok (.dreturn, 1) := by decide +kernel
set_option maxRecDepth 20000 in
theorem ggX5_volume_X5_hasShape : GoodIn wsX5_volume wsX5_hasShape := goodIn_r _ [6, 7, 8, 20, 21, 22, 23, 24, 25, 26, 27, 28, 29, 30, 31, 32, 33, 34, 35, 36, 37, 38] (by decide +kernel) (by decide +kernel)
set_option maxRecDepth 20000 in
theorem gX5_volume_X5_hasShape : GoodIn wsX5_volume (wsV RX5 113 RX5 yX5_hasShape wsX5_hasShape) := goodIn_app (goodIn_of _ (by decide +kernel)) ggX5_volume_X5_hasShape
set_option maxRecDepth 20000 in
theorem ggX5_volume_X5_volumeNow : GoodIn wsX5_volume wsX5_volumeNow := goodIn_r _ [12, 13, 14, 15, 16, 5, 17, 18, 19, 20, 21, 22, 23, 24, 25, 26, 27, 28, 29, 30, 31, 32, 33, 34, 35, 36, 37, 38] (by decide +kernel) (by decide +kernel)
set_option maxRecDepth 20000 in
theorem gX5_volume_X5_volumeNow : GoodIn wsX5_volume (wsV RX5 128 RX5 yX5_volumeNow wsX5_volumeNow) := goodIn_app (goodIn_of _ (by decide +kernel)) ggX5_volume_X5_volumeNow
theorem dX5_volume_0 : decode cX5_volume 0 = .ok (.aload_n 0, 1) := by decide +kernel
theorem dX5_volume_1 : decode cX5_volume 1 = .ok (.aload_n 0, 1) := by decide +kernel
theorem dX5_volume_2 : decode cX5_volume 2 = .ok (.invokevirtual 113, 3) := by decide +kernel
theorem dX5_volume_5 : decode cX5_volume 5 = .ok (.ifCond .eq 7, 3) := by decide +kernel
theorem dX5_volume_8 : decode cX5_volume 8 = .ok (.iconst 0, 1) := by decide +kernel
theorem dX5_volume_9 : decode cX5_volume 9 = .ok (.goto 4, 3) := by decide +kernel
theorem dX5_volume_12 : decode cX5_volume 12 = .ok (.iconst 1, 1) := by decide +kernel
theorem dX5_volume_13 : decode cX5_volume 13 = .ok (.putfield 55, 3) := by decide +kernel
theorem dX5_volume_16 : decode cX5_volume 16 = .ok (.aload_n 0, 1) := by decide +kernel
theorem dX5_volume_17 : decode cX5_volume 17 = .ok (.getfield 55, 3) := by decide +kernel
theorem dX5_volume_20 : decode cX5_volume 20 = .ok (.ifCond .le 7, 3) := by decide +kernel
theorem dX5_volume_23 : decode cX5_volume 23 = .ok (.dconst 0, 1) := by decide +kernel
theorem dX5_volume_24 : decode cX5_volume 24 = .ok (.goto 7, 3) := by decide +kernel
theorem dX5_volume_27 : decode cX5_volume 27 = .ok (.aload_n 0, 1) := by decide +kernel
theorem dX5_volume_28 : decode cX5_volume 28 = .ok (.invokevirtual 128, 3) := by decide +kernel
theorem dX5_volume_31 : decode cX5_volume 31 = .ok (.dreturn, 1) := by decide +kernel
set_option maxRecDepth 20000 in
theorem ggX5_taper_X5_hasShape : GoodIn wsX5_taper wsX5_hasShape := goodIn_r _ [6, 7, 8, 15, 16, 17, 18, 19, 20, 21, 22, 23, 24, 25, 26, 27, 28, 29, 30, 31, 32, 33] (by decide +kernel) (by decide +kernel)
set_option maxRecDepth 20000 in
theorem gX5_taper_X5_hasShape : GoodIn wsX5_taper (wsV RX5 113 RX5 yX5_hasShape wsX5_hasShape) := goodIn_app (goodIn_of _ (by decide +kernel)) ggX5_taper_X5_hasShape
set_option maxRecDepth 20000 in
theorem ggX5_taper_X5_taperNow : GoodIn wsX5_taper wsX5_taperNow := goodIn_r _ [12, 13, 14, 15, 16, 17, 18, 19, 20, 21, 22, 23, 24, 25, 26, 27, 28, 29, 30, 31, 32, 33] (by decide +kernel) (by decide +kernel)
set_option maxRecDepth 20000 in
theorem gX5_taper_X5_taperNow : GoodIn wsX5_taper (wsV RX5 132 RX5 yX5_taperNow wsX5_taperNow) := goodIn_app (goodIn_of _ (by decide +kernel)) ggX5_taper_X5_taperNow
theorem dX5_taper_0 : decode cX5_taper 0 = .ok (.aload_n 0, 1) := by decide +kernel
theorem dX5_taper_1 : decode cX5_taper 1 = .ok (.aload_n 0, 1) := by decide +kernel
theorem dX5_taper_2 : decode cX5_taper 2 = .ok (.invokevirtual 113, 3) := by decide +kernel
theorem dX5_taper_5 : decode cX5_taper 5 = .ok (.ifCond .eq 7, 3) := by decide +kernel
theorem dX5_taper_8 : decode cX5_taper 8 = .ok (.iconst 0, 1) := by decide +kernel
theorem dX5_taper_9 : decode cX5_taper 9 = .ok (.goto 4, 3) := by decide +kernel
theorem dX5_taper_12 : decode cX5_taper 12 = .ok (.iconst 1, 1) := by decide +kernel
theorem dX5_taper_13 : decode cX5_taper 13 = .ok (.putfield 55, 3) := by decide +kernel
theorem dX5_taper_16 : decode cX5_taper 16 = .ok (.aload_n 0, 1) := by decide +kernel
theorem dX5_taper_17 : decode cX5_taper 17 = .ok (.getfield 55, 3) := by decide +kernel
theorem dX5_taper_20 : decode cX5_taper 20 = .ok (.ifCond .le 7, 3) := by decide +kernel
theorem dX5_taper_23 : decode cX5_taper 23 = .ok (.dconst 0, 1) := by decide +kernel
theorem dX5_taper_24 : decode cX5_taper 24 = .ok (.goto 7, 3) := by decide +kernel
theorem dX5_taper_27 : decode cX5_taper 27 = .ok (.aload_n 0, 1) := by decide +kernel
theorem dX5_taper_28 : decode cX5_taper 28 = .ok (.invokevirtual 132, 3) := by decide +kernel
theorem dX5_taper_31 : decode cX5_taper 31 = .ok (.dreturn, 1) := by decide +kernel
set_option maxRecDepth 20000 in
theorem ggX5_sweep_X5_hasShape : GoodIn wsX5_sweep wsX5_hasShape := goodIn_r _ [6, 7, 8, 19, 20, 21, 22, 23, 24, 25, 26, 27, 28, 29, 30, 31, 32, 33, 34, 35, 36, 37] (by decide +kernel) (by decide +kernel)
set_option maxRecDepth 20000 in
theorem gX5_sweep_X5_hasShape : GoodIn wsX5_sweep (wsV RX5 113 RX5 yX5_hasShape wsX5_hasShape) := goodIn_app (goodIn_of _ (by decide +kernel)) ggX5_sweep_X5_hasShape
set_option maxRecDepth 20000 in
theorem ggX5_sweep_X5_sweepNow : GoodIn wsX5_sweep wsX5_sweepNow := goodIn_r _ [12, 13, 14, 15, 16, 5, 17, 18, 19, 20, 21, 22, 23, 24, 25, 26, 27, 28, 29, 30, 31, 32, 33, 34, 35, 36, 37] (by decide +kernel) (by decide +kernel)
set_option maxRecDepth 20000 in
theorem gX5_sweep_X5_sweepNow : GoodIn wsX5_sweep (wsV RX5 135 RX5 yX5_sweepNow wsX5_sweepNow) := goodIn_app (goodIn_of _ (by decide +kernel)) ggX5_sweep_X5_sweepNow
theorem dX5_sweep_0 : decode cX5_sweep 0 = .ok (.aload_n 0, 1) := by decide +kernel
theorem dX5_sweep_1 : decode cX5_sweep 1 = .ok (.aload_n 0, 1) := by decide +kernel
theorem dX5_sweep_2 : decode cX5_sweep 2 = .ok (.invokevirtual 113, 3) := by decide +kernel
theorem dX5_sweep_5 : decode cX5_sweep 5 = .ok (.ifCond .eq 7, 3) := by decide +kernel
theorem dX5_sweep_8 : decode cX5_sweep 8 = .ok (.iconst 0, 1) := by decide +kernel
theorem dX5_sweep_9 : decode cX5_sweep 9 = .ok (.goto 4, 3) := by decide +kernel
theorem dX5_sweep_12 : decode cX5_sweep 12 = .ok (.iconst 1, 1) := by decide +kernel
theorem dX5_sweep_13 : decode cX5_sweep 13 = .ok (.putfield 55, 3) := by decide +kernel
theorem dX5_sweep_16 : decode cX5_sweep 16 = .ok (.aload_n 0, 1) := by decide +kernel
theorem dX5_sweep_17 : decode cX5_sweep 17 = .ok (.getfield 55, 3) := by decide +kernel
theorem dX5_sweep_20 : decode cX5_sweep 20 = .ok (.ifCond .le 7, 3) := by decide +kernel
theorem dX5_sweep_23 : decode cX5_sweep 23 = .ok (.dconst 0, 1) := by decide +kernel
theorem dX5_sweep_24 : decode cX5_sweep 24 = .ok (.goto 7, 3) := by decide +kernel
theorem dX5_sweep_27 : decode cX5_sweep 27 = .ok (.aload_n 0, 1) := by decide +kernel
theorem dX5_sweep_28 : decode cX5_sweep 28 = .ok (.invokevirtual 135, 3) := by decide +kernel
theorem dX5_sweep_31 : decode cX5_sweep 31 = .ok (.dreturn, 1) := by decide +kernel
theorem dX5_rule_0 : decode cX5_rule 0 = .ok (.aload_n 0, 1) := by decide +kernel
theorem dX5_rule_1 : decode cX5_rule 1 = .ok (.iload_n 1, 1) := by decide +kernel
theorem dX5_rule_2 : decode cX5_rule 2 = .ok (.ifCond .lt 20, 3) := by decide +kernel
theorem dX5_rule_5 : decode cX5_rule 5 = .ok (.iload_n 1, 1) := by decide +kernel
theorem dX5_rule_6 : decode cX5_rule 6 = .ok (.iconst 4, 1) := by decide +kernel
theorem dX5_rule_7 : decode cX5_rule 7 = .ok (.if_icmp .gt 15, 3) := by decide +kernel
theorem dX5_rule_10 : decode cX5_rule 10 = .ok (.iload 4, 2) := by decide +kernel
theorem dX5_rule_12 : decode cX5_rule 12 = .ok (.ifCond .lt 10, 3) := by decide +kernel
theorem dX5_rule_15 : decode cX5_rule 15 = .ok (.iload 4, 2) := by decide +kernel
theorem dX5_rule_17 : decode cX5_rule 17 = .ok (.bipush 100, 2) := by decide +kernel
theorem dX5_rule_19 : decode cX5_rule 19 = .ok (.if_icmp .le 7, 3) := by decide +kernel
theorem dX5_rule_22 : decode cX5_rule 22 = .ok (.iconst 1, 1) := by decide +kernel
theorem dX5_rule_23 : decode cX5_rule 23 = .ok (.goto 17, 3) := by decide +kernel
theorem dX5_rule_26 : decode cX5_rule 26 = .ok (.aload_n 0, 1) := by decide +kernel
theorem dX5_rule_27 : decode cX5_rule 27 = .ok (.getfield 138, 3) := by decide +kernel
theorem dX5_rule_30 : decode cX5_rule 30 = .ok (.bipush 6, 2) := by decide +kernel
theorem dX5_rule_32 : decode cX5_rule 32 = .ok (.if_icmp .ne 7, 3) := by decide +kernel
theorem dX5_rule_35 : decode cX5_rule 35 = .ok (.iconst 2, 1) := by decide +kernel
theorem dX5_rule_36 : decode cX5_rule 36 = .ok (.goto 4, 3) := by decide +kernel
theorem dX5_rule_39 : decode cX5_rule 39 = .ok (.iconst 0, 1) := by decide +kernel
theorem dX5_rule_40 : decode cX5_rule 40 = .ok (.putfield 55, 3) := by decide +kernel
theorem dX5_rule_43 : decode cX5_rule 43 = .ok (.aload_n 0, 1) := by decide +kernel
theorem dX5_rule_44 : decode cX5_rule 44 = .ok (.getfield 55, 3) := by decide +kernel
theorem dX5_rule_47 : decode cX5_rule 47 = .ok (.ifCond .le 5, 3) := by decide +kernel
theorem dX5_rule_50 : decode cX5_rule 50 = .ok (.iconst 0, 1) := by decide +kernel
theorem dX5_rule_51 : decode cX5_rule 51 = .ok (.ireturn, 1) := by decide +kernel
theorem dX5_rule_52 : decode cX5_rule 52 = .ok (.aload_n 0, 1) := by decide +kernel
theorem dX5_rule_53 : decode cX5_rule 53 = .ok (.getfield 32, 3) := by decide +kernel
theorem dX5_rule_56 : decode cX5_rule 56 = .ok (.aload_n 0, 1) := by decide +kernel
theorem dX5_rule_57 : decode cX5_rule 57 = .ok (.getfield 138, 3) := by decide +kernel
theorem dX5_rule_60 : decode cX5_rule 60 = .ok (.iload_n 1, 1) := by decide +kernel
theorem dX5_rule_61 : decode cX5_rule 61 = .ok (.iastore, 1) := by decide +kernel
theorem dX5_rule_62 : decode cX5_rule 62 = .ok (.aload_n 0, 1) := by decide +kernel
theorem dX5_rule_63 : decode cX5_rule 63 = .ok (.getfield 36, 3) := by decide +kernel
theorem dX5_rule_66 : decode cX5_rule 66 = .ok (.aload_n 0, 1) := by decide +kernel
theorem dX5_rule_67 : decode cX5_rule 67 = .ok (.getfield 138, 3) := by decide +kernel
theorem dX5_rule_70 : decode cX5_rule 70 = .ok (.dload_n 2, 1) := by decide +kernel
theorem dX5_rule_71 : decode cX5_rule 71 = .ok (.dastore, 1) := by decide +kernel
theorem dX5_rule_72 : decode cX5_rule 72 = .ok (.aload_n 0, 1) := by decide +kernel
theorem dX5_rule_73 : decode cX5_rule 73 = .ok (.getfield 39, 3) := by decide +kernel
theorem dX5_rule_76 : decode cX5_rule 76 = .ok (.aload_n 0, 1) := by decide +kernel
theorem dX5_rule_77 : decode cX5_rule 77 = .ok (.getfield 138, 3) := by decide +kernel
theorem dX5_rule_80 : decode cX5_rule 80 = .ok (.iload 4, 2) := by decide +kernel
theorem dX5_rule_82 : decode cX5_rule 82 = .ok (.iastore, 1) := by decide +kernel
theorem dX5_rule_83 : decode cX5_rule 83 = .ok (.aload_n 0, 1) := by decide +kernel
theorem dX5_rule_84 : decode cX5_rule 84 = .ok (.dup, 1) := by decide +kernel
theorem dX5_rule_85 : decode cX5_rule 85 = .ok (.getfield 138, 3) := by decide +kernel
theorem dX5_rule_88 : decode cX5_rule 88 = .ok (.iconst 1, 1) := by decide +kernel
theorem dX5_rule_89 : decode cX5_rule 89 = .ok (.iadd, 1) := by decide +kernel
theorem dX5_rule_90 : decode cX5_rule 90 = .ok (.putfield 138, 3) := by decide +kernel
theorem dX5_rule_93 : decode cX5_rule 93 = .ok (.aload_n 0, 1) := by decide +kernel
theorem dX5_rule_94 : decode cX5_rule 94 = .ok (.getfield 138, 3) := by decide +kernel
theorem dX5_rule_97 : decode cX5_rule 97 = .ok (.ireturn, 1) := by decide +kernel
set_option maxRecDepth 20000 in
theorem ggX5_holds_X5_sweepNow : GoodIn wsX5_holds wsX5_sweepNow := goodIn_r _ [10, 4, 11, 12, 13, 9, 14, 3, 28, 29, 30, 31, 32, 33, 34, 35, 36, 37, 38, 39, 40, 41, 42, 43, 44, 45, 46] (by decide +kernel) (by decide +kernel)
set_option maxRecDepth 20000 in
theorem gX5_holds_X5_sweepNow : GoodIn wsX5_holds (wsV RX5 135 RX5 yX5_sweepNow wsX5_sweepNow) := goodIn_app (goodIn_of _ (by decide +kernel)) ggX5_holds_X5_sweepNow
set_option maxRecDepth 20000 in
theorem ggX5_holds_X5_taperNow : GoodIn wsX5_holds wsX5_taperNow := goodIn_r _ [18, 4, 3, 28, 29, 30, 31, 32, 33, 34, 35, 36, 37, 38, 39, 40, 41, 42, 43, 44, 45, 46] (by decide +kernel) (by decide +kernel)
set_option maxRecDepth 20000 in
theorem gX5_holds_X5_taperNow : GoodIn wsX5_holds (wsV RX5 132 RX5 yX5_taperNow wsX5_taperNow) := goodIn_app (goodIn_of _ (by decide +kernel)) ggX5_holds_X5_taperNow
set_option maxRecDepth 20000 in
theorem ggX5_holds_X5_volumeNow : GoodIn wsX5_holds wsX5_volumeNow := goodIn_r _ [22, 4, 23, 24, 25, 9, 26, 3, 27, 28, 29, 30, 31, 32, 33, 34, 35, 36, 37, 38, 39, 40, 41, 42, 43, 44, 45, 46] (by decide +kernel) (by decide +kernel)
set_option maxRecDepth 20000 in
theorem gX5_holds_X5_volumeNow : GoodIn wsX5_holds (wsV RX5 128 RX5 yX5_volumeNow wsX5_volumeNow) := goodIn_app (goodIn_of _ (by decide +kernel)) ggX5_holds_X5_volumeNow
theorem dX5_holds_0 : decode cX5_holds 0 = .ok (.aload_n 0, 1) := by decide +kernel
theorem dX5_holds_1 : decode cX5_holds 1 = .ok (.getfield 32, 3) := by decide +kernel
theorem dX5_holds_4 : decode cX5_holds 4 = .ok (.iload_n 1, 1) := by decide +kernel
theorem dX5_holds_5 : decode cX5_holds 5 = .ok (.iaload, 1) := by decide +kernel
theorem dX5_holds_6 : decode cX5_holds 6 = .ok (.istore_n 2, 1) := by decide +kernel
theorem dX5_holds_7 : decode cX5_holds 7 = .ok (.aload_n 0, 1) := by decide +kernel
theorem dX5_holds_8 : decode cX5_holds 8 = .ok (.getfield 36, 3) := by decide +kernel
theorem dX5_holds_11 : decode cX5_holds 11 = .ok (.iload_n 1, 1) := by decide +kernel
theorem dX5_holds_12 : decode cX5_holds 12 = .ok (.daload, 1) := by decide +kernel
theorem dX5_holds_13 : decode cX5_holds 13 = .ok (.dstore_n 3, 1) := by decide +kernel
theorem dX5_holds_14 : decode cX5_holds 14 = .ok (.iload_n 2, 1) := by decide +kernel
theorem dX5_holds_15 : decode cX5_holds 15 = .ok (.ifCond .ne 20, 3) := by decide +kernel
theorem dX5_holds_18 : decode cX5_holds 18 = .ok (.aload_n 0, 1) := by decide +kernel
theorem dX5_holds_19 : decode cX5_holds 19 = .ok (.invokevirtual 135, 3) := by decide +kernel
theorem dX5_holds_22 : decode cX5_holds 22 = .ok (.dload_n 3, 1) := by decide +kernel
theorem dX5_holds_23 : decode cX5_holds 23 = .ok (.dcmp .g, 1) := by decide +kernel
theorem dX5_holds_24 : decode cX5_holds 24 = .ok (.ifCond .gt 7, 3) := by decide +kernel
theorem dX5_holds_27 : decode cX5_holds 27 = .ok (.iconst 1, 1) := by decide +kernel
theorem dX5_holds_28 : decode cX5_holds 28 = .ok (.goto 102, 3) := by decide +kernel
theorem dX5_holds_31 : decode cX5_holds 31 = .ok (.iconst 0, 1) := by decide +kernel
theorem dX5_holds_32 : decode cX5_holds 32 = .ok (.goto 98, 3) := by decide +kernel
theorem dX5_holds_35 : decode cX5_holds 35 = .ok (.iload_n 2, 1) := by decide +kernel
theorem dX5_holds_36 : decode cX5_holds 36 = .ok (.iconst 1, 1) := by decide +kernel
theorem dX5_holds_37 : decode cX5_holds 37 = .ok (.if_icmp .ne 20, 3) := by decide +kernel
theorem dX5_holds_40 : decode cX5_holds 40 = .ok (.aload_n 0, 1) := by decide +kernel
theorem dX5_holds_41 : decode cX5_holds 41 = .ok (.invokevirtual 132, 3) := by decide +kernel
theorem dX5_holds_44 : decode cX5_holds 44 = .ok (.dload_n 3, 1) := by decide +kernel
theorem dX5_holds_45 : decode cX5_holds 45 = .ok (.dcmp .g, 1) := by decide +kernel
theorem dX5_holds_46 : decode cX5_holds 46 = .ok (.ifCond .gt 7, 3) := by decide +kernel
theorem dX5_holds_49 : decode cX5_holds 49 = .ok (.iconst 1, 1) := by decide +kernel
theorem dX5_holds_50 : decode cX5_holds 50 = .ok (.goto 80, 3) := by decide +kernel
theorem dX5_holds_53 : decode cX5_holds 53 = .ok (.iconst 0, 1) := by decide +kernel
theorem dX5_holds_54 : decode cX5_holds 54 = .ok (.goto 76, 3) := by decide +kernel
theorem dX5_holds_57 : decode cX5_holds 57 = .ok (.iload_n 2, 1) := by decide +kernel
theorem dX5_holds_58 : decode cX5_holds 58 = .ok (.iconst 2, 1) := by decide +kernel
theorem dX5_holds_59 : decode cX5_holds 59 = .ok (.if_icmp .ne 29, 3) := by decide +kernel
theorem dX5_holds_62 : decode cX5_holds 62 = .ok (.aload_n 0, 1) := by decide +kernel
theorem dX5_holds_63 : decode cX5_holds 63 = .ok (.getfield 29, 3) := by decide +kernel
theorem dX5_holds_66 : decode cX5_holds 66 = .ok (.iconst 4, 1) := by decide +kernel
theorem dX5_holds_67 : decode cX5_holds 67 = .ok (.aload_n 0, 1) := by decide +kernel
theorem dX5_holds_68 : decode cX5_holds 68 = .ok (.getfield 48, 3) := by decide +kernel
theorem dX5_holds_71 : decode cX5_holds 71 = .ok (.imul, 1) := by decide +kernel
theorem dX5_holds_72 : decode cX5_holds 72 = .ok (.iconst 2, 1) := by decide +kernel
theorem dX5_holds_73 : decode cX5_holds 73 = .ok (.isub, 1) := by decide +kernel
theorem dX5_holds_74 : decode cX5_holds 74 = .ok (.daload, 1) := by decide +kernel
theorem dX5_holds_75 : decode cX5_holds 75 = .ok (.dload_n 3, 1) := by decide +kernel
theorem dX5_holds_76 : decode cX5_holds 76 = .ok (.dcmp .l, 1) := by decide +kernel
theorem dX5_holds_77 : decode cX5_holds 77 = .ok (.ifCond .lt 7, 3) := by decide +kernel
theorem dX5_holds_80 : decode cX5_holds 80 = .ok (.iconst 1, 1) := by decide +kernel
theorem dX5_holds_81 : decode cX5_holds 81 = .ok (.goto 49, 3) := by decide +kernel
theorem dX5_holds_84 : decode cX5_holds 84 = .ok (.iconst 0, 1) := by decide +kernel
theorem dX5_holds_85 : decode cX5_holds 85 = .ok (.goto 45, 3) := by decide +kernel
theorem dX5_holds_88 : decode cX5_holds 88 = .ok (.iload_n 2, 1) := by decide +kernel
theorem dX5_holds_89 : decode cX5_holds 89 = .ok (.iconst 3, 1) := by decide +kernel
theorem dX5_holds_90 : decode cX5_holds 90 = .ok (.if_icmp .ne 20, 3) := by decide +kernel
theorem dX5_holds_93 : decode cX5_holds 93 = .ok (.aload_n 0, 1) := by decide +kernel
theorem dX5_holds_94 : decode cX5_holds 94 = .ok (.invokevirtual 128, 3) := by decide +kernel
theorem dX5_holds_97 : decode cX5_holds 97 = .ok (.dload_n 3, 1) := by decide +kernel
theorem dX5_holds_98 : decode cX5_holds 98 = .ok (.dcmp .l, 1) := by decide +kernel
theorem dX5_holds_99 : decode cX5_holds 99 = .ok (.ifCond .lt 7, 3) := by decide +kernel
theorem dX5_holds_102 : decode cX5_holds 102 = .ok (.iconst 1, 1) := by decide +kernel
theorem dX5_holds_103 : decode cX5_holds 103 = .ok (.goto 27, 3) := by decide +kernel
theorem dX5_holds_106 : decode cX5_holds 106 = .ok (.iconst 0, 1) := by decide +kernel
theorem dX5_holds_107 : decode cX5_holds 107 = .ok (.goto 23, 3) := by decide +kernel
theorem dX5_holds_110 : decode cX5_holds 110 = .ok (.aload_n 0, 1) := by decide +kernel
theorem dX5_holds_111 : decode cX5_holds 111 = .ok (.getfield 48, 3) := by decide +kernel
theorem dX5_holds_114 : decode cX5_holds 114 = .ok (.aload_n 0, 1) := by decide +kernel
theorem dX5_holds_115 : decode cX5_holds 115 = .ok (.getfield 101, 3) := by decide +kernel
theorem dX5_holds_118 : decode cX5_holds 118 = .ok (.isub, 1) := by decide +kernel
theorem dX5_holds_119 : decode cX5_holds 119 = .ok (.i2d, 1) := by decide +kernel
theorem dX5_holds_120 : decode cX5_holds 120 = .ok (.dload_n 3, 1) := by decide +kernel
theorem dX5_holds_121 : decode cX5_holds 121 = .ok (.dcmp .g, 1) := by decide +kernel
theorem dX5_holds_122 : decode cX5_holds 122 = .ok (.ifCond .gt 7, 3) := by decide +kernel
theorem dX5_holds_125 : decode cX5_holds 125 = .ok (.iconst 1, 1) := by decide +kernel
theorem dX5_holds_126 : decode cX5_holds 126 = .ok (.goto 4, 3) := by decide +kernel
theorem dX5_holds_129 : decode cX5_holds 129 = .ok (.iconst 0, 1) := by decide +kernel
theorem dX5_holds_130 : decode cX5_holds 130 = .ok (.ireturn, 1) := by decide +kernel
set_option maxRecDepth 20000 in
theorem ggX5_cls_X5_hasShape : GoodIn wsX5_cls wsX5_hasShape := goodIn_r _ [8, 9, 10, 40, 41, 42, 43, 44, 45, 46, 47, 48, 49, 50, 51, 52, 53, 54, 55, 56, 57, 58] (by decide +kernel) (by decide +kernel)
set_option maxRecDepth 20000 in
theorem gX5_cls_X5_hasShape : GoodIn wsX5_cls (wsV RX5 113 RX5 yX5_hasShape wsX5_hasShape) := goodIn_app (goodIn_of _ (by decide +kernel)) ggX5_cls_X5_hasShape
set_option maxRecDepth 20000 in
theorem ggX5_cls_X5_holds : GoodIn wsX5_cls wsX5_holds := goodIn_r _ [14, 15, 16, 17, 18, 10, 19, 20, 21, 7, 22, 23, 24, 25, 26, 27, 28, 29, 30, 31, 32, 33, 34, 35, 36, 37, 38, 39, 40, 41, 42, 43, 44, 45, 46, 47, 48, 49, 50, 51, 52, 53, 54, 55, 56, 57, 58] (by decide +kernel) (by decide +kernel)
set_option maxRecDepth 20000 in
theorem gX5_cls_X5_holds : GoodIn wsX5_cls (wsV RX5 141 RX5 yX5_holds wsX5_holds) := goodIn_app (goodIn_of _ (by decide +kernel)) ggX5_cls_X5_holds
theorem dX5_cls_0 : decode cX5_cls 0 = .ok (.aload_n 0, 1) := by decide +kernel
theorem dX5_cls_1 : decode cX5_cls 1 = .ok (.aload_n 0, 1) := by decide +kernel
theorem dX5_cls_2 : decode cX5_cls 2 = .ok (.invokevirtual 113, 3) := by decide +kernel
theorem dX5_cls_5 : decode cX5_cls 5 = .ok (.ifCond .eq 7, 3) := by decide +kernel
theorem dX5_cls_8 : decode cX5_cls 8 = .ok (.iconst 0, 1) := by decide +kernel
theorem dX5_cls_9 : decode cX5_cls 9 = .ok (.goto 4, 3) := by decide +kernel
theorem dX5_cls_12 : decode cX5_cls 12 = .ok (.iconst 1, 1) := by decide +kernel
theorem dX5_cls_13 : decode cX5_cls 13 = .ok (.putfield 55, 3) := by decide +kernel
theorem dX5_cls_16 : decode cX5_cls 16 = .ok (.iconst 0, 1) := by decide +kernel
theorem dX5_cls_17 : decode cX5_cls 17 = .ok (.istore_n 1, 1) := by decide +kernel
theorem dX5_cls_18 : decode cX5_cls 18 = .ok (.iload_n 1, 1) := by decide +kernel
theorem dX5_cls_19 : decode cX5_cls 19 = .ok (.aload_n 0, 1) := by decide +kernel
theorem dX5_cls_20 : decode cX5_cls 20 = .ok (.getfield 138, 3) := by decide +kernel
theorem dX5_cls_23 : decode cX5_cls 23 = .ok (.if_icmp .ge 31, 3) := by decide +kernel
theorem dX5_cls_26 : decode cX5_cls 26 = .ok (.aload_n 0, 1) := by decide +kernel
theorem dX5_cls_27 : decode cX5_cls 27 = .ok (.getfield 55, 3) := by decide +kernel
theorem dX5_cls_30 : decode cX5_cls 30 = .ok (.ifCond .ne 24, 3) := by decide +kernel
theorem dX5_cls_33 : decode cX5_cls 33 = .ok (.aload_n 0, 1) := by decide +kernel
theorem dX5_cls_34 : decode cX5_cls 34 = .ok (.iload_n 1, 1) := by decide +kernel
theorem dX5_cls_35 : decode cX5_cls 35 = .ok (.invokevirtual 141, 3) := by decide +kernel
theorem dX5_cls_38 : decode cX5_cls 38 = .ok (.ifCond .eq 10, 3) := by decide +kernel
theorem dX5_cls_41 : decode cX5_cls 41 = .ok (.aload_n 0, 1) := by decide +kernel
theorem dX5_cls_42 : decode cX5_cls 42 = .ok (.getfield 39, 3) := by decide +kernel
theorem dX5_cls_45 : decode cX5_cls 45 = .ok (.iload_n 1, 1) := by decide +kernel
theorem dX5_cls_46 : decode cX5_cls 46 = .ok (.iaload, 1) := by decide +kernel
theorem dX5_cls_47 : decode cX5_cls 47 = .ok (.ireturn, 1) := by decide +kernel
theorem dX5_cls_48 : decode cX5_cls 48 = .ok (.iinc 1 1, 3) := by decide +kernel
theorem dX5_cls_51 : decode cX5_cls 51 = .ok (.goto (-33), 3) := by decide +kernel
theorem dX5_cls_54 : decode cX5_cls 54 = .ok (.aload_n 0, 1) := by decide +kernel
theorem dX5_cls_55 : decode cX5_cls 55 = .ok (.getfield 55, 3) := by decide +kernel
theorem dX5_cls_58 : decode cX5_cls 58 = .ok (.ifCond .le 7, 3) := by decide +kernel
theorem dX5_cls_61 : decode cX5_cls 61 = .ok (.iconst 0, 1) := by decide +kernel
theorem dX5_cls_62 : decode cX5_cls 62 = .ok (.goto 4, 3) := by decide +kernel
theorem dX5_cls_65 : decode cX5_cls 65 = .ok (.iconst (-1), 1) := by decide +kernel
theorem dX5_cls_66 : decode cX5_cls 66 = .ok (.ireturn, 1) := by decide +kernel
set_option maxRecDepth 20000 in
theorem ggX5_keep_X5_hasShape : GoodIn wsX5_keep wsX5_hasShape := goodIn_r _ [11, 12, 13, 14, 15, 16, 17, 18, 19, 20, 21, 22, 23, 24, 25, 26, 27, 28, 29, 30, 31, 32] (by decide +kernel) (by decide +kernel)
set_option maxRecDepth 20000 in
theorem gX5_keep_X5_hasShape : GoodIn wsX5_keep (wsV RX5 113 RX5 yX5_hasShape wsX5_hasShape) := goodIn_app (goodIn_of _ (by decide +kernel)) ggX5_keep_X5_hasShape
theorem dX5_keep_0 : decode cX5_keep 0 = .ok (.aload_n 0, 1) := by decide +kernel
theorem dX5_keep_1 : decode cX5_keep 1 = .ok (.aload_n 0, 1) := by decide +kernel
theorem dX5_keep_2 : decode cX5_keep 2 = .ok (.invokevirtual 113, 3) := by decide +kernel
theorem dX5_keep_5 : decode cX5_keep 5 = .ok (.ifCond .eq 7, 3) := by decide +kernel
theorem dX5_keep_8 : decode cX5_keep 8 = .ok (.iconst 0, 1) := by decide +kernel
theorem dX5_keep_9 : decode cX5_keep 9 = .ok (.goto 4, 3) := by decide +kernel
theorem dX5_keep_12 : decode cX5_keep 12 = .ok (.iconst 1, 1) := by decide +kernel
theorem dX5_keep_13 : decode cX5_keep 13 = .ok (.putfield 55, 3) := by decide +kernel
theorem dX5_keep_16 : decode cX5_keep 16 = .ok (.iconst 0, 1) := by decide +kernel
theorem dX5_keep_17 : decode cX5_keep 17 = .ok (.istore_n 1, 1) := by decide +kernel
theorem dX5_keep_18 : decode cX5_keep 18 = .ok (.iload_n 1, 1) := by decide +kernel
theorem dX5_keep_19 : decode cX5_keep 19 = .ok (.aload_n 0, 1) := by decide +kernel
theorem dX5_keep_20 : decode cX5_keep 20 = .ok (.getfield 48, 3) := by decide +kernel
theorem dX5_keep_23 : decode cX5_keep 23 = .ok (.if_icmp .ge 51, 3) := by decide +kernel
theorem dX5_keep_26 : decode cX5_keep 26 = .ok (.aload_n 0, 1) := by decide +kernel
theorem dX5_keep_27 : decode cX5_keep 27 = .ok (.getfield 55, 3) := by decide +kernel
theorem dX5_keep_30 : decode cX5_keep 30 = .ok (.ifCond .ne 44, 3) := by decide +kernel
theorem dX5_keep_33 : decode cX5_keep 33 = .ok (.aload_n 0, 1) := by decide +kernel
theorem dX5_keep_34 : decode cX5_keep 34 = .ok (.iconst 1, 1) := by decide +kernel
theorem dX5_keep_35 : decode cX5_keep 35 = .ok (.putfield 144, 3) := by decide +kernel
theorem dX5_keep_38 : decode cX5_keep 38 = .ok (.aload_n 0, 1) := by decide +kernel
theorem dX5_keep_39 : decode cX5_keep 39 = .ok (.getfield 42, 3) := by decide +kernel
theorem dX5_keep_42 : decode cX5_keep 42 = .ok (.iload_n 1, 1) := by decide +kernel
theorem dX5_keep_43 : decode cX5_keep 43 = .ok (.aload_n 0, 1) := by decide +kernel
theorem dX5_keep_44 : decode cX5_keep 44 = .ok (.getfield 29, 3) := by decide +kernel
theorem dX5_keep_47 : decode cX5_keep 47 = .ok (.iconst 4, 1) := by decide +kernel
theorem dX5_keep_48 : decode cX5_keep 48 = .ok (.iload_n 1, 1) := by decide +kernel
theorem dX5_keep_49 : decode cX5_keep 49 = .ok (.imul, 1) := by decide +kernel
theorem dX5_keep_50 : decode cX5_keep 50 = .ok (.daload, 1) := by decide +kernel
theorem dX5_keep_51 : decode cX5_keep 51 = .ok (.dastore, 1) := by decide +kernel
theorem dX5_keep_52 : decode cX5_keep 52 = .ok (.aload_n 0, 1) := by decide +kernel
theorem dX5_keep_53 : decode cX5_keep 53 = .ok (.getfield 45, 3) := by decide +kernel
theorem dX5_keep_56 : decode cX5_keep 56 = .ok (.iload_n 1, 1) := by decide +kernel
theorem dX5_keep_57 : decode cX5_keep 57 = .ok (.aload_n 0, 1) := by decide +kernel
theorem dX5_keep_58 : decode cX5_keep 58 = .ok (.getfield 29, 3) := by decide +kernel
theorem dX5_keep_61 : decode cX5_keep 61 = .ok (.iconst 4, 1) := by decide +kernel
theorem dX5_keep_62 : decode cX5_keep 62 = .ok (.iload_n 1, 1) := by decide +kernel
theorem dX5_keep_63 : decode cX5_keep 63 = .ok (.imul, 1) := by decide +kernel
theorem dX5_keep_64 : decode cX5_keep 64 = .ok (.iconst 1, 1) := by decide +kernel
theorem dX5_keep_65 : decode cX5_keep 65 = .ok (.iadd, 1) := by decide +kernel
theorem dX5_keep_66 : decode cX5_keep 66 = .ok (.daload, 1) := by decide +kernel
theorem dX5_keep_67 : decode cX5_keep 67 = .ok (.dastore, 1) := by decide +kernel
theorem dX5_keep_68 : decode cX5_keep 68 = .ok (.iinc 1 1, 3) := by decide +kernel
theorem dX5_keep_71 : decode cX5_keep 71 = .ok (.goto (-53), 3) := by decide +kernel
theorem dX5_keep_74 : decode cX5_keep 74 = .ok (.return_, 1) := by decide +kernel
theorem dX5_apartBy_0 : decode cX5_apartBy 0 = .ok (.dconst 0, 1) := by decide +kernel
theorem dX5_apartBy_1 : decode cX5_apartBy 1 = .ok (.dstore_n 2, 1) := by decide +kernel
theorem dX5_apartBy_2 : decode cX5_apartBy 2 = .ok (.iconst 0, 1) := by decide +kernel
theorem dX5_apartBy_3 : decode cX5_apartBy 3 = .ok (.istore 4, 2) := by decide +kernel
theorem dX5_apartBy_5 : decode cX5_apartBy 5 = .ok (.iload 4, 2) := by decide +kernel
theorem dX5_apartBy_7 : decode cX5_apartBy 7 = .ok (.aload_n 0, 1) := by decide +kernel
theorem dX5_apartBy_8 : decode cX5_apartBy 8 = .ok (.getfield 48, 3) := by decide +kernel
theorem dX5_apartBy_11 : decode cX5_apartBy 11 = .ok (.if_icmp .ge 163, 3) := by decide +kernel
theorem dX5_apartBy_14 : decode cX5_apartBy 14 = .ok (.iload_n 1, 1) := by decide +kernel
theorem dX5_apartBy_15 : decode cX5_apartBy 15 = .ok (.ifCond .ne 13, 3) := by decide +kernel
theorem dX5_apartBy_18 : decode cX5_apartBy 18 = .ok (.aload_n 0, 1) := by decide +kernel
theorem dX5_apartBy_19 : decode cX5_apartBy 19 = .ok (.getfield 42, 3) := by decide +kernel
theorem dX5_apartBy_22 : decode cX5_apartBy 22 = .ok (.iload 4, 2) := by decide +kernel
theorem dX5_apartBy_24 : decode cX5_apartBy 24 = .ok (.daload, 1) := by decide +kernel
theorem dX5_apartBy_25 : decode cX5_apartBy 25 = .ok (.goto 42, 3) := by decide +kernel
theorem dX5_apartBy_28 : decode cX5_apartBy 28 = .ok (.iload_n 1, 1) := by decide +kernel
theorem dX5_apartBy_29 : decode cX5_apartBy 29 = .ok (.iconst 1, 1) := by decide +kernel
theorem dX5_apartBy_30 : decode cX5_apartBy 30 = .ok (.if_icmp .ne 14, 3) := by decide +kernel
theorem dX5_apartBy_33 : decode cX5_apartBy 33 = .ok (.aload_n 0, 1) := by decide +kernel
theorem dX5_apartBy_34 : decode cX5_apartBy 34 = .ok (.getfield 45, 3) := by decide +kernel
theorem dX5_apartBy_37 : decode cX5_apartBy 37 = .ok (.iload 4, 2) := by decide +kernel
theorem dX5_apartBy_39 : decode cX5_apartBy 39 = .ok (.daload, 1) := by decide +kernel
theorem dX5_apartBy_40 : decode cX5_apartBy 40 = .ok (.dneg, 1) := by decide +kernel
theorem dX5_apartBy_41 : decode cX5_apartBy 41 = .ok (.goto 26, 3) := by decide +kernel
theorem dX5_apartBy_44 : decode cX5_apartBy 44 = .ok (.iload_n 1, 1) := by decide +kernel
theorem dX5_apartBy_45 : decode cX5_apartBy 45 = .ok (.iconst 2, 1) := by decide +kernel
theorem dX5_apartBy_46 : decode cX5_apartBy 46 = .ok (.if_icmp .ne 14, 3) := by decide +kernel
theorem dX5_apartBy_49 : decode cX5_apartBy 49 = .ok (.aload_n 0, 1) := by decide +kernel
theorem dX5_apartBy_50 : decode cX5_apartBy 50 = .ok (.getfield 42, 3) := by decide +kernel
theorem dX5_apartBy_53 : decode cX5_apartBy 53 = .ok (.iload 4, 2) := by decide +kernel
theorem dX5_apartBy_55 : decode cX5_apartBy 55 = .ok (.daload, 1) := by decide +kernel
theorem dX5_apartBy_56 : decode cX5_apartBy 56 = .ok (.dneg, 1) := by decide +kernel
theorem dX5_apartBy_57 : decode cX5_apartBy 57 = .ok (.goto 10, 3) := by decide +kernel
theorem dX5_apartBy_60 : decode cX5_apartBy 60 = .ok (.aload_n 0, 1) := by decide +kernel
theorem dX5_apartBy_61 : decode cX5_apartBy 61 = .ok (.getfield 45, 3) := by decide +kernel
theorem dX5_apartBy_64 : decode cX5_apartBy 64 = .ok (.iload 4, 2) := by decide +kernel
theorem dX5_apartBy_66 : decode cX5_apartBy 66 = .ok (.daload, 1) := by decide +kernel
theorem dX5_apartBy_67 : decode cX5_apartBy 67 = .ok (.dstore 5, 2) := by decide +kernel
theorem dX5_apartBy_69 : decode cX5_apartBy 69 = .ok (.iload_n 1, 1) := by decide +kernel
theorem dX5_apartBy_70 : decode cX5_apartBy 70 = .ok (.ifCond .ne 13, 3) := by decide +kernel
theorem dX5_apartBy_73 : decode cX5_apartBy 73 = .ok (.aload_n 0, 1) := by decide +kernel
theorem dX5_apartBy_74 : decode cX5_apartBy 74 = .ok (.getfield 45, 3) := by decide +kernel
theorem dX5_apartBy_77 : decode cX5_apartBy 77 = .ok (.iload 4, 2) := by decide +kernel
theorem dX5_apartBy_79 : decode cX5_apartBy 79 = .ok (.daload, 1) := by decide +kernel
theorem dX5_apartBy_80 : decode cX5_apartBy 80 = .ok (.goto 42, 3) := by decide +kernel
theorem dX5_apartBy_83 : decode cX5_apartBy 83 = .ok (.iload_n 1, 1) := by decide +kernel
theorem dX5_apartBy_84 : decode cX5_apartBy 84 = .ok (.iconst 1, 1) := by decide +kernel
theorem dX5_apartBy_85 : decode cX5_apartBy 85 = .ok (.if_icmp .ne 13, 3) := by decide +kernel
theorem dX5_apartBy_88 : decode cX5_apartBy 88 = .ok (.aload_n 0, 1) := by decide +kernel
theorem dX5_apartBy_89 : decode cX5_apartBy 89 = .ok (.getfield 42, 3) := by decide +kernel
theorem dX5_apartBy_92 : decode cX5_apartBy 92 = .ok (.iload 4, 2) := by decide +kernel
theorem dX5_apartBy_94 : decode cX5_apartBy 94 = .ok (.daload, 1) := by decide +kernel
theorem dX5_apartBy_95 : decode cX5_apartBy 95 = .ok (.goto 27, 3) := by decide +kernel
theorem dX5_apartBy_98 : decode cX5_apartBy 98 = .ok (.iload_n 1, 1) := by decide +kernel
theorem dX5_apartBy_99 : decode cX5_apartBy 99 = .ok (.iconst 2, 1) := by decide +kernel
theorem dX5_apartBy_100 : decode cX5_apartBy 100 = .ok (.if_icmp .ne 14, 3) := by decide +kernel
theorem dX5_apartBy_103 : decode cX5_apartBy 103 = .ok (.aload_n 0, 1) := by decide +kernel
theorem dX5_apartBy_104 : decode cX5_apartBy 104 = .ok (.getfield 45, 3) := by decide +kernel
theorem dX5_apartBy_107 : decode cX5_apartBy 107 = .ok (.iload 4, 2) := by decide +kernel
theorem dX5_apartBy_109 : decode cX5_apartBy 109 = .ok (.daload, 1) := by decide +kernel
theorem dX5_apartBy_110 : decode cX5_apartBy 110 = .ok (.dneg, 1) := by decide +kernel
theorem dX5_apartBy_111 : decode cX5_apartBy 111 = .ok (.goto 11, 3) := by decide +kernel
theorem dX5_apartBy_114 : decode cX5_apartBy 114 = .ok (.aload_n 0, 1) := by decide +kernel
theorem dX5_apartBy_115 : decode cX5_apartBy 115 = .ok (.getfield 42, 3) := by decide +kernel
theorem dX5_apartBy_118 : decode cX5_apartBy 118 = .ok (.iload 4, 2) := by decide +kernel
theorem dX5_apartBy_120 : decode cX5_apartBy 120 = .ok (.daload, 1) := by decide +kernel
theorem dX5_apartBy_121 : decode cX5_apartBy 121 = .ok (.dneg, 1) := by decide +kernel
theorem dX5_apartBy_122 : decode cX5_apartBy 122 = .ok (.dstore 7, 2) := by decide +kernel
theorem dX5_apartBy_124 : decode cX5_apartBy 124 = .ok (.aload_n 0, 1) := by decide +kernel
theorem dX5_apartBy_125 : decode cX5_apartBy 125 = .ok (.getfield 29, 3) := by decide +kernel
theorem dX5_apartBy_128 : decode cX5_apartBy 128 = .ok (.iconst 4, 1) := by decide +kernel
theorem dX5_apartBy_129 : decode cX5_apartBy 129 = .ok (.iload 4, 2) := by decide +kernel
theorem dX5_apartBy_131 : decode cX5_apartBy 131 = .ok (.imul, 1) := by decide +kernel
theorem dX5_apartBy_132 : decode cX5_apartBy 132 = .ok (.daload, 1) := by decide +kernel
theorem dX5_apartBy_133 : decode cX5_apartBy 133 = .ok (.dload 5, 2) := by decide +kernel
theorem dX5_apartBy_135 : decode cX5_apartBy 135 = .ok (.dsub, 1) := by decide +kernel
theorem dX5_apartBy_136 : decode cX5_apartBy 136 = .ok (.dstore 9, 2) := by decide +kernel
theorem dX5_apartBy_138 : decode cX5_apartBy 138 = .ok (.aload_n 0, 1) := by decide +kernel
theorem dX5_apartBy_139 : decode cX5_apartBy 139 = .ok (.getfield 29, 3) := by decide +kernel
theorem dX5_apartBy_142 : decode cX5_apartBy 142 = .ok (.iconst 4, 1) := by decide +kernel
theorem dX5_apartBy_143 : decode cX5_apartBy 143 = .ok (.iload 4, 2) := by decide +kernel
theorem dX5_apartBy_145 : decode cX5_apartBy 145 = .ok (.imul, 1) := by decide +kernel
theorem dX5_apartBy_146 : decode cX5_apartBy 146 = .ok (.iconst 1, 1) := by decide +kernel
theorem dX5_apartBy_147 : decode cX5_apartBy 147 = .ok (.iadd, 1) := by decide +kernel
theorem dX5_apartBy_148 : decode cX5_apartBy 148 = .ok (.daload, 1) := by decide +kernel
theorem dX5_apartBy_149 : decode cX5_apartBy 149 = .ok (.dload 7, 2) := by decide +kernel
theorem dX5_apartBy_151 : decode cX5_apartBy 151 = .ok (.dsub, 1) := by decide +kernel
theorem dX5_apartBy_152 : decode cX5_apartBy 152 = .ok (.dstore 11, 2) := by decide +kernel
theorem dX5_apartBy_154 : decode cX5_apartBy 154 = .ok (.dload_n 2, 1) := by decide +kernel
theorem dX5_apartBy_155 : decode cX5_apartBy 155 = .ok (.dload 9, 2) := by decide +kernel
theorem dX5_apartBy_157 : decode cX5_apartBy 157 = .ok (.dload 9, 2) := by decide +kernel
theorem dX5_apartBy_159 : decode cX5_apartBy 159 = .ok (.dmul, 1) := by decide +kernel
theorem dX5_apartBy_160 : decode cX5_apartBy 160 = .ok (.dload 11, 2) := by decide +kernel
theorem dX5_apartBy_162 : decode cX5_apartBy 162 = .ok (.dload 11, 2) := by decide +kernel
theorem dX5_apartBy_164 : decode cX5_apartBy 164 = .ok (.dmul, 1) := by decide +kernel
theorem dX5_apartBy_165 : decode cX5_apartBy 165 = .ok (.dadd, 1) := by decide +kernel
theorem dX5_apartBy_166 : decode cX5_apartBy 166 = .ok (.dadd, 1) := by decide +kernel
theorem dX5_apartBy_167 : decode cX5_apartBy 167 = .ok (.dstore_n 2, 1) := by decide +kernel
theorem dX5_apartBy_168 : decode cX5_apartBy 168 = .ok (.iinc 4 1, 3) := by decide +kernel
theorem dX5_apartBy_171 : decode cX5_apartBy 171 = .ok (.goto (-166), 3) := by decide +kernel
theorem dX5_apartBy_174 : decode cX5_apartBy 174 = .ok (.dload_n 2, 1) := by decide +kernel
theorem dX5_apartBy_175 : decode cX5_apartBy 175 = .ok (.dreturn, 1) := by decide +kernel
set_option maxRecDepth 20000 in
theorem ggX5_apart_X5_hasShape : GoodIn wsX5_apart wsX5_hasShape := goodIn_r _ [7, 8, 9, 18, 19, 20, 21, 22, 23, 24, 25, 26, 27, 28, 29, 30, 31, 32, 33, 34, 35, 36] (by decide +kernel) (by decide +kernel)
set_option maxRecDepth 20000 in
theorem gX5_apart_X5_hasShape : GoodIn wsX5_apart (wsV RX5 113 RX5 yX5_hasShape wsX5_hasShape) := goodIn_app (goodIn_of _ (by decide +kernel)) ggX5_apart_X5_hasShape
set_option maxRecDepth 20000 in
theorem ggX5_apart_X5_apartBy : GoodIn wsX5_apart wsX5_apartBy := goodIn_r _ [13, 14, 15, 16, 17, 18, 19, 20, 21, 22, 23, 24, 25, 26, 27, 28, 29, 30, 31, 32, 33, 34, 35, 36] (by decide +kernel) (by decide +kernel)
set_option maxRecDepth 20000 in
theorem gX5_apart_X5_apartBy : GoodIn wsX5_apart (wsV RX5 147 RX5 yX5_apartBy wsX5_apartBy) := goodIn_app (goodIn_of _ (by decide +kernel)) ggX5_apart_X5_apartBy
theorem dX5_apart_0 : decode cX5_apart 0 = .ok (.aload_n 0, 1) := by decide +kernel
theorem dX5_apart_1 : decode cX5_apart 1 = .ok (.iload_n 1, 1) := by decide +kernel
theorem dX5_apart_2 : decode cX5_apart 2 = .ok (.ifCond .lt 8, 3) := by decide +kernel
theorem dX5_apart_5 : decode cX5_apart 5 = .ok (.iload_n 1, 1) := by decide +kernel
theorem dX5_apart_6 : decode cX5_apart 6 = .ok (.iconst 3, 1) := by decide +kernel
theorem dX5_apart_7 : decode cX5_apart 7 = .ok (.if_icmp .le 7, 3) := by decide +kernel
theorem dX5_apart_10 : decode cX5_apart 10 = .ok (.iconst 1, 1) := by decide +kernel
theorem dX5_apart_11 : decode cX5_apart 11 = .ok (.goto 22, 3) := by decide +kernel
theorem dX5_apart_14 : decode cX5_apart 14 = .ok (.aload_n 0, 1) := by decide +kernel
theorem dX5_apart_15 : decode cX5_apart 15 = .ok (.invokevirtual 113, 3) := by decide +kernel
theorem dX5_apart_18 : decode cX5_apart 18 = .ok (.ifCond .eq 14, 3) := by decide +kernel
theorem dX5_apart_21 : decode cX5_apart 21 = .ok (.aload_n 0, 1) := by decide +kernel
theorem dX5_apart_22 : decode cX5_apart 22 = .ok (.getfield 144, 3) := by decide +kernel
theorem dX5_apart_25 : decode cX5_apart 25 = .ok (.ifCond .eq 7, 3) := by decide +kernel
theorem dX5_apart_28 : decode cX5_apart 28 = .ok (.iconst 0, 1) := by decide +kernel
theorem dX5_apart_29 : decode cX5_apart 29 = .ok (.goto 4, 3) := by decide +kernel
theorem dX5_apart_32 : decode cX5_apart 32 = .ok (.iconst 2, 1) := by decide +kernel
theorem dX5_apart_33 : decode cX5_apart 33 = .ok (.putfield 55, 3) := by decide +kernel
theorem dX5_apart_36 : decode cX5_apart 36 = .ok (.aload_n 0, 1) := by decide +kernel
theorem dX5_apart_37 : decode cX5_apart 37 = .ok (.getfield 55, 3) := by decide +kernel
theorem dX5_apart_40 : decode cX5_apart 40 = .ok (.ifCond .le 7, 3) := by decide +kernel
theorem dX5_apart_43 : decode cX5_apart 43 = .ok (.dconst 0, 1) := by decide +kernel
theorem dX5_apart_44 : decode cX5_apart 44 = .ok (.goto 8, 3) := by decide +kernel
theorem dX5_apart_47 : decode cX5_apart 47 = .ok (.aload_n 0, 1) := by decide +kernel
theorem dX5_apart_48 : decode cX5_apart 48 = .ok (.iload_n 1, 1) := by decide +kernel
theorem dX5_apart_49 : decode cX5_apart 49 = .ok (.invokevirtual 147, 3) := by decide +kernel
theorem dX5_apart_52 : decode cX5_apart 52 = .ok (.dreturn, 1) := by decide +kernel
set_option maxRecDepth 20000 in
theorem ggX5_match_X5_hasShape : GoodIn wsX5_match wsX5_hasShape := goodIn_r _ [7, 8, 9, 18, 19, 20, 21, 22, 23, 24, 25, 26, 27, 28, 29, 30, 31, 32, 33, 34, 35, 36] (by decide +kernel) (by decide +kernel)
set_option maxRecDepth 20000 in
theorem gX5_match_X5_hasShape : GoodIn wsX5_match (wsV RX5 113 RX5 yX5_hasShape wsX5_hasShape) := goodIn_app (goodIn_of _ (by decide +kernel)) ggX5_match_X5_hasShape
set_option maxRecDepth 20000 in
theorem ggX5_match_X5_apartBy : GoodIn wsX5_match wsX5_apartBy := goodIn_r _ [13, 14, 15, 16, 17, 18, 19, 20, 21, 22, 23, 24, 25, 26, 27, 28, 29, 30, 31, 32, 33, 34, 35, 36] (by decide +kernel) (by decide +kernel)
set_option maxRecDepth 20000 in
theorem gX5_match_X5_apartBy : GoodIn wsX5_match (wsV RX5 147 RX5 yX5_apartBy wsX5_apartBy) := goodIn_app (goodIn_of _ (by decide +kernel)) ggX5_match_X5_apartBy
theorem dX5_match_0 : decode cX5_match 0 = .ok (.aload_n 0, 1) := by decide +kernel
theorem dX5_match_1 : decode cX5_match 1 = .ok (.aload_n 0, 1) := by decide +kernel
theorem dX5_match_2 : decode cX5_match 2 = .ok (.invokevirtual 113, 3) := by decide +kernel
theorem dX5_match_5 : decode cX5_match 5 = .ok (.ifCond .eq 14, 3) := by decide +kernel
theorem dX5_match_8 : decode cX5_match 8 = .ok (.aload_n 0, 1) := by decide +kernel
theorem dX5_match_9 : decode cX5_match 9 = .ok (.getfield 144, 3) := by decide +kernel
theorem dX5_match_12 : decode cX5_match 12 = .ok (.ifCond .eq 7, 3) := by decide +kernel
theorem dX5_match_15 : decode cX5_match 15 = .ok (.iconst 0, 1) := by decide +kernel
theorem dX5_match_16 : decode cX5_match 16 = .ok (.goto 4, 3) := by decide +kernel
theorem dX5_match_19 : decode cX5_match 19 = .ok (.iconst 1, 1) := by decide +kernel
theorem dX5_match_20 : decode cX5_match 20 = .ok (.putfield 55, 3) := by decide +kernel
theorem dX5_match_23 : decode cX5_match 23 = .ok (.iconst 0, 1) := by decide +kernel
theorem dX5_match_24 : decode cX5_match 24 = .ok (.istore_n 1, 1) := by decide +kernel
theorem dX5_match_25 : decode cX5_match 25 = .ok (.iconst 1, 1) := by decide +kernel
theorem dX5_match_26 : decode cX5_match 26 = .ok (.istore_n 2, 1) := by decide +kernel
theorem dX5_match_27 : decode cX5_match 27 = .ok (.iload_n 2, 1) := by decide +kernel
theorem dX5_match_28 : decode cX5_match 28 = .ok (.iconst 4, 1) := by decide +kernel
theorem dX5_match_29 : decode cX5_match 29 = .ok (.if_icmp .ge 36, 3) := by decide +kernel
theorem dX5_match_32 : decode cX5_match 32 = .ok (.aload_n 0, 1) := by decide +kernel
theorem dX5_match_33 : decode cX5_match 33 = .ok (.getfield 55, 3) := by decide +kernel
theorem dX5_match_36 : decode cX5_match 36 = .ok (.ifCond .ne 29, 3) := by decide +kernel
theorem dX5_match_39 : decode cX5_match 39 = .ok (.aload_n 0, 1) := by decide +kernel
theorem dX5_match_40 : decode cX5_match 40 = .ok (.iload_n 2, 1) := by decide +kernel
theorem dX5_match_41 : decode cX5_match 41 = .ok (.invokevirtual 147, 3) := by decide +kernel
theorem dX5_match_44 : decode cX5_match 44 = .ok (.aload_n 0, 1) := by decide +kernel
theorem dX5_match_45 : decode cX5_match 45 = .ok (.iload_n 1, 1) := by decide +kernel
theorem dX5_match_46 : decode cX5_match 46 = .ok (.invokevirtual 147, 3) := by decide +kernel
theorem dX5_match_49 : decode cX5_match 49 = .ok (.dcmp .g, 1) := by decide +kernel
theorem dX5_match_50 : decode cX5_match 50 = .ok (.ifCond .ge 7, 3) := by decide +kernel
theorem dX5_match_53 : decode cX5_match 53 = .ok (.iload_n 2, 1) := by decide +kernel
theorem dX5_match_54 : decode cX5_match 54 = .ok (.goto 4, 3) := by decide +kernel
theorem dX5_match_57 : decode cX5_match 57 = .ok (.iload_n 1, 1) := by decide +kernel
theorem dX5_match_58 : decode cX5_match 58 = .ok (.istore_n 1, 1) := by decide +kernel
theorem dX5_match_59 : decode cX5_match 59 = .ok (.iinc 2 1, 3) := by decide +kernel
theorem dX5_match_62 : decode cX5_match 62 = .ok (.goto (-35), 3) := by decide +kernel
theorem dX5_match_65 : decode cX5_match 65 = .ok (.iload_n 1, 1) := by decide +kernel
theorem dX5_match_66 : decode cX5_match 66 = .ok (.ireturn, 1) := by decide +kernel
theorem dX5_law_0 : decode cX5_law 0 = .ok (.aload_n 0, 1) := by decide +kernel
theorem dX5_law_1 : decode cX5_law 1 = .ok (.lload_n 1, 1) := by decide +kernel
theorem dX5_law_2 : decode cX5_law 2 = .ok (.lconst 0, 1) := by decide +kernel
theorem dX5_law_3 : decode cX5_law 3 = .ok (.lcmp, 1) := by decide +kernel
theorem dX5_law_4 : decode cX5_law 4 = .ok (.ifCond .lt 32, 3) := by decide +kernel
theorem dX5_law_7 : decode cX5_law 7 = .ok (.lload_n 1, 1) := by decide +kernel
theorem dX5_law_8 : decode cX5_law 8 = .ok (.ldc2_w 150, 3) := by decide +kernel
theorem dX5_law_11 : decode cX5_law 11 = .ok (.lcmp, 1) := by decide +kernel
theorem dX5_law_12 : decode cX5_law 12 = .ok (.ifCond .gt 24, 3) := by decide +kernel
theorem dX5_law_15 : decode cX5_law 15 = .ok (.lload_n 3, 1) := by decide +kernel
theorem dX5_law_16 : decode cX5_law 16 = .ok (.lconst 1, 1) := by decide +kernel
theorem dX5_law_17 : decode cX5_law 17 = .ok (.lcmp, 1) := by decide +kernel
theorem dX5_law_18 : decode cX5_law 18 = .ok (.ifCond .lt 18, 3) := by decide +kernel
theorem dX5_law_21 : decode cX5_law 21 = .ok (.lload_n 3, 1) := by decide +kernel
theorem dX5_law_22 : decode cX5_law 22 = .ok (.ldc2_w 152, 3) := by decide +kernel
theorem dX5_law_25 : decode cX5_law 25 = .ok (.lcmp, 1) := by decide +kernel
theorem dX5_law_26 : decode cX5_law 26 = .ok (.ifCond .gt 10, 3) := by decide +kernel
theorem dX5_law_29 : decode cX5_law 29 = .ok (.lload 5, 2) := by decide +kernel
theorem dX5_law_31 : decode cX5_law 31 = .ok (.lconst 0, 1) := by decide +kernel
theorem dX5_law_32 : decode cX5_law 32 = .ok (.lcmp, 1) := by decide +kernel
theorem dX5_law_33 : decode cX5_law 33 = .ok (.ifCond .ge 7, 3) := by decide +kernel
theorem dX5_law_36 : decode cX5_law 36 = .ok (.iconst 1, 1) := by decide +kernel
theorem dX5_law_37 : decode cX5_law 37 = .ok (.goto 4, 3) := by decide +kernel
theorem dX5_law_40 : decode cX5_law 40 = .ok (.iconst 0, 1) := by decide +kernel
theorem dX5_law_41 : decode cX5_law 41 = .ok (.putfield 55, 3) := by decide +kernel
theorem dX5_law_44 : decode cX5_law 44 = .ok (.aload_n 0, 1) := by decide +kernel
theorem dX5_law_45 : decode cX5_law 45 = .ok (.getfield 55, 3) := by decide +kernel
theorem dX5_law_48 : decode cX5_law 48 = .ok (.ifCond .le 5, 3) := by decide +kernel
theorem dX5_law_51 : decode cX5_law 51 = .ok (.lconst 0, 1) := by decide +kernel
theorem dX5_law_52 : decode cX5_law 52 = .ok (.lreturn, 1) := by decide +kernel
theorem dX5_law_53 : decode cX5_law 53 = .ok (.lload_n 1, 1) := by decide +kernel
theorem dX5_law_54 : decode cX5_law 54 = .ok (.lload_n 3, 1) := by decide +kernel
theorem dX5_law_55 : decode cX5_law 55 = .ok (.ldiv, 1) := by decide +kernel
theorem dX5_law_56 : decode cX5_law 56 = .ok (.lload_n 3, 1) := by decide +kernel
theorem dX5_law_57 : decode cX5_law 57 = .ok (.lmul, 1) := by decide +kernel
theorem dX5_law_58 : decode cX5_law 58 = .ok (.lstore 7, 2) := by decide +kernel
theorem dX5_law_60 : decode cX5_law 60 = .ok (.lload 7, 2) := by decide +kernel
theorem dX5_law_62 : decode cX5_law 62 = .ok (.lload 5, 2) := by decide +kernel
theorem dX5_law_64 : decode cX5_law 64 = .ok (.lcmp, 1) := by decide +kernel
theorem dX5_law_65 : decode cX5_law 65 = .ok (.ifCond .ge 7, 3) := by decide +kernel
theorem dX5_law_68 : decode cX5_law 68 = .ok (.lconst 0, 1) := by decide +kernel
theorem dX5_law_69 : decode cX5_law 69 = .ok (.goto 5, 3) := by decide +kernel
theorem dX5_law_72 : decode cX5_law 72 = .ok (.lload 7, 2) := by decide +kernel
theorem dX5_law_74 : decode cX5_law 74 = .ok (.lreturn, 1) := by decide +kernel
end
section
theorem dJx00060_init_a7421_0 : decode cJx00060_init_a7421 0 = .ok (.aload_n 0, 1) := by decide +kernel
theorem dJx00060_init_a7421_1 : decode cJx00060_init_a7421 1 = .ok (.aload_n 1, 1) := by decide +kernel
theorem dJx00060_init_a7421_2 : decode cJx00060_init_a7421 2 = .ok (.invokespecial 7, 3) := by decide +kernel
theorem dJx00060_init_a7421_5 : decode cJx00060_init_a7421 5 = .ok (.return_, 1) := by decide +kernel
theorem dJ9_max_7cf53_0 : decode cJ9_max_7cf53 0 = .ok (.iload_n 0, 1) := by decide +kernel
theorem dJ9_max_7cf53_1 : decode cJ9_max_7cf53 1 = .ok (.iload_n 1, 1) := by decide +kernel
theorem dJ9_max_7cf53_2 : decode cJ9_max_7cf53 2 = .ok (.if_icmp .lt 7, 3) := by decide +kernel
theorem dJ9_max_7cf53_5 : decode cJ9_max_7cf53 5 = .ok (.iload_n 0, 1) := by decide +kernel
theorem dJ9_max_7cf53_6 : decode cJ9_max_7cf53 6 = .ok (.goto 4, 3) := by decide +kernel
theorem dJ9_max_7cf53_9 : decode cJ9_max_7cf53 9 = .ok (.iload_n 1, 1) := by decide +kernel
theorem dJ9_max_7cf53_10 : decode cJ9_max_7cf53 10 = .ok (.ireturn, 1) := by decide +kernel
theorem dJ9_min_7cf53_0 : decode cJ9_min_7cf53 0 = .ok (.iload_n 0, 1) := by decide +kernel
theorem dJ9_min_7cf53_1 : decode cJ9_min_7cf53 1 = .ok (.iload_n 1, 1) := by decide +kernel
theorem dJ9_min_7cf53_2 : decode cJ9_min_7cf53 2 = .ok (.if_icmp .gt 7, 3) := by decide +kernel
theorem dJ9_min_7cf53_5 : decode cJ9_min_7cf53 5 = .ok (.iload_n 0, 1) := by decide +kernel
theorem dJ9_min_7cf53_6 : decode cJ9_min_7cf53 6 = .ok (.goto 4, 3) := by decide +kernel
theorem dJ9_min_7cf53_9 : decode cJ9_min_7cf53 9 = .ok (.iload_n 1, 1) := by decide +kernel
theorem dJ9_min_7cf53_10 : decode cJ9_min_7cf53 10 = .ok (.ireturn, 1) := by decide +kernel
theorem dL_cell_0 : decode cL_cell 0 = .ok (.iload_n 1, 1) := by decide +kernel
theorem dL_cell_1 : decode cL_cell 1 = .ok (.aload_n 0, 1) := by decide +kernel
theorem dL_cell_2 : decode cL_cell 2 = .ok (.arraylength, 1) := by decide +kernel
theorem dL_cell_3 : decode cL_cell 3 = .ok (.if_icmp .ge 9, 3) := by decide +kernel
theorem dL_cell_6 : decode cL_cell 6 = .ok (.aload_n 0, 1) := by decide +kernel
theorem dL_cell_7 : decode cL_cell 7 = .ok (.iload_n 1, 1) := by decide +kernel
theorem dL_cell_8 : decode cL_cell 8 = .ok (.iaload, 1) := by decide +kernel
theorem dL_cell_9 : decode cL_cell 9 = .ok (.goto 4, 3) := by decide +kernel
theorem dL_cell_12 : decode cL_cell 12 = .ok (.iconst 0, 1) := by decide +kernel
theorem dL_cell_13 : decode cL_cell 13 = .ok (.ireturn, 1) := by decide +kernel
set_option maxRecDepth 20000 in
theorem ggL_aim_X4_aim : GoodIn wsL_aim wsX4_aim := goodIn_ca (goodIn_r _ [7, 8, 9, 10, 11, 12, 13, 14, 6, 15, 16, 17, 18, 19, 20, 21, 22, 23, 24, 25, 26, 27, 28, 29, 30, 31, 32, 33, 34, 35, 36, 37, 38, 39, 40, 41, 42, 43, 44, 45, 46, 47, 48, 49, 50, 51, 52, 53] (by decide +kernel) (by decide +kernel)) (goodIn_sub (fun _ h => List.mem_cons_of_mem _ (List.mem_append_right _ h)) (by decide +kernel))
set_option maxRecDepth 20000 in
theorem gL_aim_X4_aim : GoodIn wsL_aim (wsV RL 7 RX4 yX4_aim wsX4_aim) := goodIn_app (goodIn_of _ (by decide +kernel)) ggL_aim_X4_aim
theorem dL_aim_0 : decode cL_aim 0 = .ok (.aload_n 0, 1) := by decide +kernel
theorem dL_aim_1 : decode cL_aim 1 = .ok (.iload_n 1, 1) := by decide +kernel
theorem dL_aim_2 : decode cL_aim 2 = .ok (.dload_n 2, 1) := by decide +kernel
theorem dL_aim_3 : decode cL_aim 3 = .ok (.dload 4, 2) := by decide +kernel
theorem dL_aim_5 : decode cL_aim 5 = .ok (.invokevirtual 7, 3) := by decide +kernel
theorem dL_aim_8 : decode cL_aim 8 = .ok (.goto 11, 3) := by decide +kernel
theorem dL_aim_11 : decode cL_aim 11 = .ok (.astore 6, 2) := by decide +kernel
theorem dL_aim_13 : decode cL_aim 13 = .ok (.iconst 1, 1) := by decide +kernel
theorem dL_aim_14 : decode cL_aim 14 = .ok (.ireturn, 1) := by decide +kernel
theorem dL_aim_15 : decode cL_aim 15 = .ok (.astore 6, 2) := by decide +kernel
theorem dL_aim_17 : decode cL_aim 17 = .ok (.iconst 2, 1) := by decide +kernel
theorem dL_aim_18 : decode cL_aim 18 = .ok (.ireturn, 1) := by decide +kernel
theorem dL_aim_19 : decode cL_aim 19 = .ok (.iconst 0, 1) := by decide +kernel
theorem dL_aim_20 : decode cL_aim 20 = .ok (.ireturn, 1) := by decide +kernel
set_option maxRecDepth 20000 in
theorem ggL_shadow_X4_shadow : GoodIn wsL_shadow wsX4_shadow := goodIn_ca (goodIn_r _ [7, 8, 9, 10, 11, 12, 13, 14, 6, 15, 16, 17, 18, 19, 20, 21, 22, 23, 24, 25, 26, 27, 28, 29, 30, 31, 32, 33, 34, 35, 36, 37, 38, 39, 40, 41, 42, 43, 44, 45, 46, 47, 48, 49, 50, 51, 52, 53, 54, 55, 56, 57, 58, 59, 60, 61] (by decide +kernel) (by decide +kernel)) (goodIn_sub (fun _ h => List.mem_cons_of_mem _ (List.mem_append_right _ h)) (by decide +kernel))
set_option maxRecDepth 20000 in
theorem gL_shadow_X4_shadow : GoodIn wsL_shadow (wsV RL 17 RX4 yX4_shadow wsX4_shadow) := goodIn_app (goodIn_of _ (by decide +kernel)) ggL_shadow_X4_shadow
theorem dL_shadow_0 : decode cL_shadow 0 = .ok (.aload_n 0, 1) := by decide +kernel
theorem dL_shadow_1 : decode cL_shadow 1 = .ok (.iload_n 1, 1) := by decide +kernel
theorem dL_shadow_2 : decode cL_shadow 2 = .ok (.iload_n 2, 1) := by decide +kernel
theorem dL_shadow_3 : decode cL_shadow 3 = .ok (.dload_n 3, 1) := by decide +kernel
theorem dL_shadow_4 : decode cL_shadow 4 = .ok (.dload 5, 2) := by decide +kernel
theorem dL_shadow_6 : decode cL_shadow 6 = .ok (.invokevirtual 17, 3) := by decide +kernel
theorem dL_shadow_9 : decode cL_shadow 9 = .ok (.goto 11, 3) := by decide +kernel
theorem dL_shadow_12 : decode cL_shadow 12 = .ok (.astore 7, 2) := by decide +kernel
theorem dL_shadow_14 : decode cL_shadow 14 = .ok (.iconst 1, 1) := by decide +kernel
theorem dL_shadow_15 : decode cL_shadow 15 = .ok (.ireturn, 1) := by decide +kernel
theorem dL_shadow_16 : decode cL_shadow 16 = .ok (.astore 7, 2) := by decide +kernel
theorem dL_shadow_18 : decode cL_shadow 18 = .ok (.iconst 2, 1) := by decide +kernel
theorem dL_shadow_19 : decode cL_shadow 19 = .ok (.ireturn, 1) := by decide +kernel
theorem dL_shadow_20 : decode cL_shadow 20 = .ok (.iconst 0, 1) := by decide +kernel
theorem dL_shadow_21 : decode cL_shadow 21 = .ok (.ireturn, 1) := by decide +kernel
set_option maxRecDepth 20000 in
theorem ggL_lift_X4_lift : GoodIn wsL_lift wsX4_lift := goodIn_r _ [5, 6, 7, 8, 9, 10, 4, 11, 12, 13, 14, 15, 16, 17, 18, 19, 20, 21, 22, 23, 24, 25, 26, 27, 28, 29, 30, 31, 32, 33, 34, 35, 36, 37, 38, 39, 40, 41, 42, 43, 44, 45, 46, 47, 48, 49, 50, 51] (by decide +kernel) (by decide +kernel)
set_option maxRecDepth 20000 in
theorem gL_lift_X4_lift : GoodIn wsL_lift (wsV RL 21 RX4 yX4_lift wsX4_lift) := goodIn_app (goodIn_of _ (by decide +kernel)) ggL_lift_X4_lift
theorem dL_lift_0 : decode cL_lift 0 = .ok (.aload_n 3, 1) := by decide +kernel
theorem dL_lift_1 : decode cL_lift 1 = .ok (.iconst 0, 1) := by decide +kernel
theorem dL_lift_2 : decode cL_lift 2 = .ok (.aload_n 0, 1) := by decide +kernel
theorem dL_lift_3 : decode cL_lift 3 = .ok (.iload_n 1, 1) := by decide +kernel
theorem dL_lift_4 : decode cL_lift 4 = .ok (.iload_n 2, 1) := by decide +kernel
theorem dL_lift_5 : decode cL_lift 5 = .ok (.invokevirtual 21, 3) := by decide +kernel
theorem dL_lift_8 : decode cL_lift 8 = .ok (.ifCond .eq 7, 3) := by decide +kernel
theorem dL_lift_11 : decode cL_lift 11 = .ok (.lconst 1, 1) := by decide +kernel
theorem dL_lift_12 : decode cL_lift 12 = .ok (.goto 4, 3) := by decide +kernel
theorem dL_lift_15 : decode cL_lift 15 = .ok (.lconst 0, 1) := by decide +kernel
theorem dL_lift_16 : decode cL_lift 16 = .ok (.lastore, 1) := by decide +kernel
theorem dL_lift_17 : decode cL_lift 17 = .ok (.goto 7, 3) := by decide +kernel
theorem dL_lift_20 : decode cL_lift 20 = .ok (.astore 4, 2) := by decide +kernel
theorem dL_lift_22 : decode cL_lift 22 = .ok (.iconst 1, 1) := by decide +kernel
theorem dL_lift_23 : decode cL_lift 23 = .ok (.ireturn, 1) := by decide +kernel
theorem dL_lift_24 : decode cL_lift 24 = .ok (.iconst 0, 1) := by decide +kernel
theorem dL_lift_25 : decode cL_lift 25 = .ok (.ireturn, 1) := by decide +kernel
set_option maxRecDepth 20000 in
theorem ggL_shape_X4_shape : GoodIn wsL_shape wsX4_shape := goodIn_ca (goodIn_r _ [7, 8, 9, 10, 11, 12, 13, 14, 6, 15, 16, 17, 18, 19, 20, 21, 22, 23, 24, 25, 26, 27, 28, 29, 30, 31, 32, 33, 34, 35, 36, 37, 38, 39, 40, 41, 42, 43, 44, 45, 46, 47, 48, 49, 50] (by decide +kernel) (by decide +kernel)) (goodIn_sub (fun _ h => List.mem_cons_of_mem _ (List.mem_append_right _ h)) (by decide +kernel))
set_option maxRecDepth 20000 in
theorem gL_shape_X4_shape : GoodIn wsL_shape (wsV RL 25 RX4 yX4_shape wsX4_shape) := goodIn_app (goodIn_of _ (by decide +kernel)) ggL_shape_X4_shape
theorem dL_shape_0 : decode cL_shape 0 = .ok (.aload_n 3, 1) := by decide +kernel
theorem dL_shape_1 : decode cL_shape 1 = .ok (.iconst 0, 1) := by decide +kernel
theorem dL_shape_2 : decode cL_shape 2 = .ok (.aload_n 0, 1) := by decide +kernel
theorem dL_shape_3 : decode cL_shape 3 = .ok (.iload_n 1, 1) := by decide +kernel
theorem dL_shape_4 : decode cL_shape 4 = .ok (.iload_n 2, 1) := by decide +kernel
theorem dL_shape_5 : decode cL_shape 5 = .ok (.invokevirtual 25, 3) := by decide +kernel
theorem dL_shape_8 : decode cL_shape 8 = .ok (.dastore, 1) := by decide +kernel
theorem dL_shape_9 : decode cL_shape 9 = .ok (.goto 11, 3) := by decide +kernel
theorem dL_shape_12 : decode cL_shape 12 = .ok (.astore 4, 2) := by decide +kernel
theorem dL_shape_14 : decode cL_shape 14 = .ok (.iconst 1, 1) := by decide +kernel
theorem dL_shape_15 : decode cL_shape 15 = .ok (.ireturn, 1) := by decide +kernel
theorem dL_shape_16 : decode cL_shape 16 = .ok (.astore 4, 2) := by decide +kernel
theorem dL_shape_18 : decode cL_shape 18 = .ok (.iconst 2, 1) := by decide +kernel
theorem dL_shape_19 : decode cL_shape 19 = .ok (.ireturn, 1) := by decide +kernel
theorem dL_shape_20 : decode cL_shape 20 = .ok (.iconst 0, 1) := by decide +kernel
theorem dL_shape_21 : decode cL_shape 21 = .ok (.ireturn, 1) := by decide +kernel
set_option maxRecDepth 20000 in
theorem ggL_fitted_X4_fitted : GoodIn wsL_fitted wsX4_fitted := goodIn_ca (goodIn_r _ [7, 8, 9, 10, 11, 6, 12, 13, 14, 15, 16, 17, 18, 19, 20, 21, 22, 23, 24, 25, 26, 27, 28, 29, 30, 31, 32, 33, 34, 35, 36, 37, 38, 39, 40, 41, 42, 43] (by decide +kernel) (by decide +kernel)) (goodIn_sub (fun _ h => List.mem_cons_of_mem _ (List.mem_append_right _ h)) (by decide +kernel))
set_option maxRecDepth 20000 in
theorem gL_fitted_X4_fitted : GoodIn wsL_fitted (wsV RL 31 RX4 yX4_fitted wsX4_fitted) := goodIn_app (goodIn_of _ (by decide +kernel)) ggL_fitted_X4_fitted
theorem dL_fitted_0 : decode cL_fitted 0 = .ok (.aload_n 2, 1) := by decide +kernel
theorem dL_fitted_1 : decode cL_fitted 1 = .ok (.iconst 0, 1) := by decide +kernel
theorem dL_fitted_2 : decode cL_fitted 2 = .ok (.aload_n 0, 1) := by decide +kernel
theorem dL_fitted_3 : decode cL_fitted 3 = .ok (.iload_n 1, 1) := by decide +kernel
theorem dL_fitted_4 : decode cL_fitted 4 = .ok (.invokevirtual 31, 3) := by decide +kernel
theorem dL_fitted_7 : decode cL_fitted 7 = .ok (.ifCond .eq 7, 3) := by decide +kernel
theorem dL_fitted_10 : decode cL_fitted 10 = .ok (.lconst 1, 1) := by decide +kernel
theorem dL_fitted_11 : decode cL_fitted 11 = .ok (.goto 4, 3) := by decide +kernel
theorem dL_fitted_14 : decode cL_fitted 14 = .ok (.lconst 0, 1) := by decide +kernel
theorem dL_fitted_15 : decode cL_fitted 15 = .ok (.lastore, 1) := by decide +kernel
theorem dL_fitted_16 : decode cL_fitted 16 = .ok (.goto 9, 3) := by decide +kernel
theorem dL_fitted_19 : decode cL_fitted 19 = .ok (.astore_n 3, 1) := by decide +kernel
theorem dL_fitted_20 : decode cL_fitted 20 = .ok (.iconst 1, 1) := by decide +kernel
theorem dL_fitted_21 : decode cL_fitted 21 = .ok (.ireturn, 1) := by decide +kernel
theorem dL_fitted_22 : decode cL_fitted 22 = .ok (.astore_n 3, 1) := by decide +kernel
theorem dL_fitted_23 : decode cL_fitted 23 = .ok (.iconst 2, 1) := by decide +kernel
theorem dL_fitted_24 : decode cL_fitted 24 = .ok (.ireturn, 1) := by decide +kernel
theorem dL_fitted_25 : decode cL_fitted 25 = .ok (.iconst 0, 1) := by decide +kernel
theorem dL_fitted_26 : decode cL_fitted 26 = .ok (.ireturn, 1) := by decide +kernel
set_option maxRecDepth 20000 in
theorem ggL_inside_X4_inside : GoodIn wsL_inside wsX4_inside := goodIn_ca (goodIn_ca (goodIn_r _ [8, 9, 10, 11, 12, 13, 14, 7, 15, 16, 17, 18, 19, 20, 21, 22, 23, 24, 25, 26, 27, 28, 29, 30, 31, 32, 33, 34, 35, 36, 37, 38, 39, 40, 41, 42, 43, 44, 45, 46, 47, 48, 49, 50, 51, 52, 53, 54, 55, 56, 57] (by decide +kernel) (by decide +kernel)) (goodIn_sub (fun _ h => List.mem_cons_of_mem _ (List.mem_append_left _ (List.mem_append_right _ h))) (by decide +kernel))) (goodIn_sub (fun _ h => List.mem_cons_of_mem _ (List.mem_append_right _ h)) (by decide +kernel))
set_option maxRecDepth 20000 in
theorem gL_inside_X4_inside : GoodIn wsL_inside (wsV RL 35 RX4 yX4_inside wsX4_inside) := goodIn_app (goodIn_of _ (by decide +kernel)) ggL_inside_X4_inside
theorem dL_inside_0 : decode cL_inside 0 = .ok (.aload 6, 2) := by decide +kernel
theorem dL_inside_2 : decode cL_inside 2 = .ok (.iconst 0, 1) := by decide +kernel
theorem dL_inside_3 : decode cL_inside 3 = .ok (.aload_n 0, 1) := by decide +kernel
theorem dL_inside_4 : decode cL_inside 4 = .ok (.iload_n 1, 1) := by decide +kernel
theorem dL_inside_5 : decode cL_inside 5 = .ok (.dload_n 2, 1) := by decide +kernel
theorem dL_inside_6 : decode cL_inside 6 = .ok (.dload 4, 2) := by decide +kernel
theorem dL_inside_8 : decode cL_inside 8 = .ok (.invokevirtual 35, 3) := by decide +kernel
theorem dL_inside_11 : decode cL_inside 11 = .ok (.ifCond .eq 7, 3) := by decide +kernel
theorem dL_inside_14 : decode cL_inside 14 = .ok (.lconst 1, 1) := by decide +kernel
theorem dL_inside_15 : decode cL_inside 15 = .ok (.goto 4, 3) := by decide +kernel
theorem dL_inside_18 : decode cL_inside 18 = .ok (.lconst 0, 1) := by decide +kernel
theorem dL_inside_19 : decode cL_inside 19 = .ok (.lastore, 1) := by decide +kernel
theorem dL_inside_20 : decode cL_inside 20 = .ok (.goto 15, 3) := by decide +kernel
theorem dL_inside_23 : decode cL_inside 23 = .ok (.astore 7, 2) := by decide +kernel
theorem dL_inside_25 : decode cL_inside 25 = .ok (.iconst 1, 1) := by decide +kernel
theorem dL_inside_26 : decode cL_inside 26 = .ok (.ireturn, 1) := by decide +kernel
theorem dL_inside_27 : decode cL_inside 27 = .ok (.astore 7, 2) := by decide +kernel
theorem dL_inside_29 : decode cL_inside 29 = .ok (.iconst 2, 1) := by decide +kernel
theorem dL_inside_30 : decode cL_inside 30 = .ok (.ireturn, 1) := by decide +kernel
theorem dL_inside_31 : decode cL_inside 31 = .ok (.astore 7, 2) := by decide +kernel
theorem dL_inside_33 : decode cL_inside 33 = .ok (.iconst 3, 1) := by decide +kernel
theorem dL_inside_34 : decode cL_inside 34 = .ok (.ireturn, 1) := by decide +kernel
theorem dL_inside_35 : decode cL_inside 35 = .ok (.iconst 0, 1) := by decide +kernel
theorem dL_inside_36 : decode cL_inside 36 = .ok (.ireturn, 1) := by decide +kernel
set_option maxRecDepth 20000 in
theorem ggL_wholes_X4_wholes : GoodIn wsL_wholes wsX4_wholes := goodIn_ca (goodIn_r _ [7, 8, 9, 10, 11, 6, 12, 13, 14, 15, 16, 17, 18, 19, 20, 21, 22, 23, 24, 25, 26, 27, 28, 29, 30, 31, 32, 33, 34, 35, 36, 37, 38, 39, 40, 41, 42, 43, 44, 45, 46, 47, 48, 49, 50, 51, 52, 53, 54, 55] (by decide +kernel) (by decide +kernel)) (goodIn_sub (fun _ h => List.mem_cons_of_mem _ (List.mem_append_right _ h)) (by decide +kernel))
set_option maxRecDepth 20000 in
theorem gL_wholes_X4_wholes : GoodIn wsL_wholes (wsV RL 39 RX4 yX4_wholes wsX4_wholes) := goodIn_app (goodIn_of _ (by decide +kernel)) ggL_wholes_X4_wholes
theorem dL_wholes_0 : decode cL_wholes 0 = .ok (.aload_n 2, 1) := by decide +kernel
theorem dL_wholes_1 : decode cL_wholes 1 = .ok (.iconst 0, 1) := by decide +kernel
theorem dL_wholes_2 : decode cL_wholes 2 = .ok (.aload_n 0, 1) := by decide +kernel
theorem dL_wholes_3 : decode cL_wholes 3 = .ok (.iload_n 1, 1) := by decide +kernel
theorem dL_wholes_4 : decode cL_wholes 4 = .ok (.invokevirtual 39, 3) := by decide +kernel
theorem dL_wholes_7 : decode cL_wholes 7 = .ok (.i2l, 1) := by decide +kernel
theorem dL_wholes_8 : decode cL_wholes 8 = .ok (.lastore, 1) := by decide +kernel
theorem dL_wholes_9 : decode cL_wholes 9 = .ok (.goto 9, 3) := by decide +kernel
theorem dL_wholes_12 : decode cL_wholes 12 = .ok (.astore_n 3, 1) := by decide +kernel
theorem dL_wholes_13 : decode cL_wholes 13 = .ok (.iconst 1, 1) := by decide +kernel
theorem dL_wholes_14 : decode cL_wholes 14 = .ok (.ireturn, 1) := by decide +kernel
theorem dL_wholes_15 : decode cL_wholes 15 = .ok (.astore_n 3, 1) := by decide +kernel
theorem dL_wholes_16 : decode cL_wholes 16 = .ok (.iconst 2, 1) := by decide +kernel
theorem dL_wholes_17 : decode cL_wholes 17 = .ok (.ireturn, 1) := by decide +kernel
theorem dL_wholes_18 : decode cL_wholes 18 = .ok (.iconst 0, 1) := by decide +kernel
theorem dL_wholes_19 : decode cL_wholes 19 = .ok (.ireturn, 1) := by decide +kernel
set_option maxRecDepth 20000 in
theorem ggL_volume_X4_volume : GoodIn wsL_volume wsX4_volume := goodIn_ca (goodIn_r _ [6, 7, 8, 9, 10, 5, 11, 12, 13, 14, 15, 16, 17, 18, 19, 20, 21, 22, 23, 24, 25, 26, 27, 28, 29, 30, 31, 32, 33, 34, 35, 36, 37, 38, 39, 40] (by decide +kernel) (by decide +kernel)) (goodIn_sub (fun _ h => List.mem_cons_of_mem _ (List.mem_append_right _ h)) (by decide +kernel))
set_option maxRecDepth 20000 in
theorem gL_volume_X4_volume : GoodIn wsL_volume (wsV RL 43 RX4 yX4_volume wsX4_volume) := goodIn_app (goodIn_of _ (by decide +kernel)) ggL_volume_X4_volume
theorem dL_volume_0 : decode cL_volume 0 = .ok (.aload_n 1, 1) := by decide +kernel
theorem dL_volume_1 : decode cL_volume 1 = .ok (.iconst 0, 1) := by decide +kernel
theorem dL_volume_2 : decode cL_volume 2 = .ok (.aload_n 0, 1) := by decide +kernel
theorem dL_volume_3 : decode cL_volume 3 = .ok (.invokevirtual 43, 3) := by decide +kernel
theorem dL_volume_6 : decode cL_volume 6 = .ok (.dastore, 1) := by decide +kernel
theorem dL_volume_7 : decode cL_volume 7 = .ok (.goto 6, 3) := by decide +kernel
theorem dL_volume_10 : decode cL_volume 10 = .ok (.astore_n 2, 1) := by decide +kernel
theorem dL_volume_11 : decode cL_volume 11 = .ok (.iconst 1, 1) := by decide +kernel
theorem dL_volume_12 : decode cL_volume 12 = .ok (.ireturn, 1) := by decide +kernel
theorem dL_volume_13 : decode cL_volume 13 = .ok (.iconst 0, 1) := by decide +kernel
theorem dL_volume_14 : decode cL_volume 14 = .ok (.ireturn, 1) := by decide +kernel
set_option maxRecDepth 20000 in
theorem ggL_taper_X4_taper : GoodIn wsL_taper wsX4_taper := goodIn_ca (goodIn_r _ [6, 7, 8, 9, 10, 5, 11, 12, 13, 14, 15, 16, 17, 18, 19, 20, 21, 22, 23, 24, 25, 26, 27, 28, 29, 30, 31, 32, 33, 34, 35] (by decide +kernel) (by decide +kernel)) (goodIn_sub (fun _ h => List.mem_cons_of_mem _ (List.mem_append_right _ h)) (by decide +kernel))
set_option maxRecDepth 20000 in
theorem gL_taper_X4_taper : GoodIn wsL_taper (wsV RL 47 RX4 yX4_taper wsX4_taper) := goodIn_app (goodIn_of _ (by decide +kernel)) ggL_taper_X4_taper
theorem dL_taper_0 : decode cL_taper 0 = .ok (.aload_n 1, 1) := by decide +kernel
theorem dL_taper_1 : decode cL_taper 1 = .ok (.iconst 0, 1) := by decide +kernel
theorem dL_taper_2 : decode cL_taper 2 = .ok (.aload_n 0, 1) := by decide +kernel
theorem dL_taper_3 : decode cL_taper 3 = .ok (.invokevirtual 47, 3) := by decide +kernel
theorem dL_taper_6 : decode cL_taper 6 = .ok (.dastore, 1) := by decide +kernel
theorem dL_taper_7 : decode cL_taper 7 = .ok (.goto 6, 3) := by decide +kernel
theorem dL_taper_10 : decode cL_taper 10 = .ok (.astore_n 2, 1) := by decide +kernel
theorem dL_taper_11 : decode cL_taper 11 = .ok (.iconst 1, 1) := by decide +kernel
theorem dL_taper_12 : decode cL_taper 12 = .ok (.ireturn, 1) := by decide +kernel
theorem dL_taper_13 : decode cL_taper 13 = .ok (.iconst 0, 1) := by decide +kernel
theorem dL_taper_14 : decode cL_taper 14 = .ok (.ireturn, 1) := by decide +kernel
set_option maxRecDepth 20000 in
theorem ggL_sweep_X4_sweep : GoodIn wsL_sweep wsX4_sweep := goodIn_ca (goodIn_r _ [6, 7, 8, 9, 10, 5, 11, 12, 13, 14, 15, 16, 17, 18, 19, 20, 21, 22, 23, 24, 25, 26, 27, 28, 29, 30, 31, 32, 33, 34, 35, 36, 37, 38, 39, 40] (by decide +kernel) (by decide +kernel)) (goodIn_sub (fun _ h => List.mem_cons_of_mem _ (List.mem_append_right _ h)) (by decide +kernel))
set_option maxRecDepth 20000 in
theorem gL_sweep_X4_sweep : GoodIn wsL_sweep (wsV RL 50 RX4 yX4_sweep wsX4_sweep) := goodIn_app (goodIn_of _ (by decide +kernel)) ggL_sweep_X4_sweep
theorem dL_sweep_0 : decode cL_sweep 0 = .ok (.aload_n 1, 1) := by decide +kernel
theorem dL_sweep_1 : decode cL_sweep 1 = .ok (.iconst 0, 1) := by decide +kernel
theorem dL_sweep_2 : decode cL_sweep 2 = .ok (.aload_n 0, 1) := by decide +kernel
theorem dL_sweep_3 : decode cL_sweep 3 = .ok (.invokevirtual 50, 3) := by decide +kernel
theorem dL_sweep_6 : decode cL_sweep 6 = .ok (.dastore, 1) := by decide +kernel
theorem dL_sweep_7 : decode cL_sweep 7 = .ok (.goto 6, 3) := by decide +kernel
theorem dL_sweep_10 : decode cL_sweep 10 = .ok (.astore_n 2, 1) := by decide +kernel
theorem dL_sweep_11 : decode cL_sweep 11 = .ok (.iconst 1, 1) := by decide +kernel
theorem dL_sweep_12 : decode cL_sweep 12 = .ok (.ireturn, 1) := by decide +kernel
theorem dL_sweep_13 : decode cL_sweep 13 = .ok (.iconst 0, 1) := by decide +kernel
theorem dL_sweep_14 : decode cL_sweep 14 = .ok (.ireturn, 1) := by decide +kernel
set_option maxRecDepth 20000 in
theorem ggL_rule_X4_rule : GoodIn wsL_rule wsX4_rule := goodIn_ca (goodIn_ca (goodIn_r _ [7, 8, 9, 10, 11, 12, 13, 14, 15, 16, 17, 18, 19, 20, 21, 22, 23, 24, 25, 26, 27, 28, 29, 30, 31, 32, 33, 34, 35, 36] (by decide +kernel) (by decide +kernel)) (goodIn_sub (fun _ h => List.mem_cons_of_mem _ (List.mem_append_left _ (List.mem_append_right _ h))) (by decide +kernel))) (goodIn_sub (fun _ h => List.mem_cons_of_mem _ (List.mem_append_right _ h)) (by decide +kernel))
set_option maxRecDepth 20000 in
theorem gL_rule_X4_rule : GoodIn wsL_rule (wsV RL 53 RX4 yX4_rule wsX4_rule) := goodIn_app (goodIn_of _ (by decide +kernel)) ggL_rule_X4_rule
theorem dL_rule_0 : decode cL_rule 0 = .ok (.aload 5, 2) := by decide +kernel
theorem dL_rule_2 : decode cL_rule 2 = .ok (.iconst 0, 1) := by decide +kernel
theorem dL_rule_3 : decode cL_rule 3 = .ok (.aload_n 0, 1) := by decide +kernel
theorem dL_rule_4 : decode cL_rule 4 = .ok (.iload_n 1, 1) := by decide +kernel
theorem dL_rule_5 : decode cL_rule 5 = .ok (.dload_n 2, 1) := by decide +kernel
theorem dL_rule_6 : decode cL_rule 6 = .ok (.iload 4, 2) := by decide +kernel
theorem dL_rule_8 : decode cL_rule 8 = .ok (.invokevirtual 53, 3) := by decide +kernel
theorem dL_rule_11 : decode cL_rule 11 = .ok (.i2l, 1) := by decide +kernel
theorem dL_rule_12 : decode cL_rule 12 = .ok (.lastore, 1) := by decide +kernel
theorem dL_rule_13 : decode cL_rule 13 = .ok (.goto 11, 3) := by decide +kernel
theorem dL_rule_16 : decode cL_rule 16 = .ok (.astore 6, 2) := by decide +kernel
theorem dL_rule_18 : decode cL_rule 18 = .ok (.iconst 1, 1) := by decide +kernel
theorem dL_rule_19 : decode cL_rule 19 = .ok (.ireturn, 1) := by decide +kernel
theorem dL_rule_20 : decode cL_rule 20 = .ok (.astore 6, 2) := by decide +kernel
theorem dL_rule_22 : decode cL_rule 22 = .ok (.iconst 2, 1) := by decide +kernel
theorem dL_rule_23 : decode cL_rule 23 = .ok (.ireturn, 1) := by decide +kernel
theorem dL_rule_24 : decode cL_rule 24 = .ok (.iconst 0, 1) := by decide +kernel
theorem dL_rule_25 : decode cL_rule 25 = .ok (.ireturn, 1) := by decide +kernel
set_option maxRecDepth 20000 in
theorem ggL_cls_X4_cls : GoodIn wsL_cls wsX4_cls := goodIn_ca (goodIn_r _ [6, 7, 8, 9, 10, 11, 5, 12, 13, 14, 15, 16, 17, 18, 19, 20, 21, 22, 23, 24, 25, 26, 27, 28, 29, 30, 31, 32, 33, 34, 35, 36, 37, 38, 39, 40, 41, 42, 43, 44, 45, 46, 47, 48, 49, 50, 51, 52, 53, 54, 55, 56, 57, 58, 59, 60, 61, 62, 63, 64, 65, 66, 67, 68, 69, 70, 71, 72, 73, 74, 75] (by decide +kernel) (by decide +kernel)) (goodIn_sub (fun _ h => List.mem_cons_of_mem _ (List.mem_append_right _ h)) (by decide +kernel))
set_option maxRecDepth 20000 in
theorem gL_cls_X4_cls : GoodIn wsL_cls (wsV RL 57 RX4 yX4_cls wsX4_cls) := goodIn_app (goodIn_of _ (by decide +kernel)) ggL_cls_X4_cls
theorem dL_cls_0 : decode cL_cls 0 = .ok (.aload_n 1, 1) := by decide +kernel
theorem dL_cls_1 : decode cL_cls 1 = .ok (.iconst 0, 1) := by decide +kernel
theorem dL_cls_2 : decode cL_cls 2 = .ok (.aload_n 0, 1) := by decide +kernel
theorem dL_cls_3 : decode cL_cls 3 = .ok (.invokevirtual 57, 3) := by decide +kernel
theorem dL_cls_6 : decode cL_cls 6 = .ok (.i2l, 1) := by decide +kernel
theorem dL_cls_7 : decode cL_cls 7 = .ok (.lastore, 1) := by decide +kernel
theorem dL_cls_8 : decode cL_cls 8 = .ok (.goto 6, 3) := by decide +kernel
theorem dL_cls_11 : decode cL_cls 11 = .ok (.astore_n 2, 1) := by decide +kernel
theorem dL_cls_12 : decode cL_cls 12 = .ok (.iconst 1, 1) := by decide +kernel
theorem dL_cls_13 : decode cL_cls 13 = .ok (.ireturn, 1) := by decide +kernel
theorem dL_cls_14 : decode cL_cls 14 = .ok (.iconst 0, 1) := by decide +kernel
theorem dL_cls_15 : decode cL_cls 15 = .ok (.ireturn, 1) := by decide +kernel
set_option maxRecDepth 20000 in
theorem ggL_keep_X4_keep : GoodIn wsL_keep wsX4_keep := goodIn_ca (goodIn_r _ [6, 7, 8, 9, 10, 11, 5, 12, 13, 14, 15, 16, 17, 18, 19, 20, 21, 22, 23, 24, 25, 26, 27, 28, 29, 30, 31, 32, 33, 34, 35, 36, 37, 38, 39, 40] (by decide +kernel) (by decide +kernel)) (goodIn_sub (fun _ h => List.mem_cons_of_mem _ (List.mem_append_right _ h)) (by decide +kernel))
set_option maxRecDepth 20000 in
theorem gL_keep_X4_keep : GoodIn wsL_keep (wsV RL 61 RX4 yX4_keep wsX4_keep) := goodIn_app (goodIn_of _ (by decide +kernel)) ggL_keep_X4_keep
theorem dL_keep_0 : decode cL_keep 0 = .ok (.aload_n 0, 1) := by decide +kernel
theorem dL_keep_1 : decode cL_keep 1 = .ok (.invokevirtual 61, 3) := by decide +kernel
theorem dL_keep_4 : decode cL_keep 4 = .ok (.goto 6, 3) := by decide +kernel
theorem dL_keep_7 : decode cL_keep 7 = .ok (.astore_n 1, 1) := by decide +kernel
theorem dL_keep_8 : decode cL_keep 8 = .ok (.iconst 1, 1) := by decide +kernel
theorem dL_keep_9 : decode cL_keep 9 = .ok (.ireturn, 1) := by decide +kernel
theorem dL_keep_10 : decode cL_keep 10 = .ok (.iconst 0, 1) := by decide +kernel
theorem dL_keep_11 : decode cL_keep 11 = .ok (.ireturn, 1) := by decide +kernel
set_option maxRecDepth 20000 in
theorem ggL_apart_X4_apart : GoodIn wsL_apart wsX4_apart := goodIn_ca (goodIn_ca (goodIn_r _ [7, 8, 9, 10, 11, 12, 13, 14, 6, 15, 16, 17, 18, 19, 20, 21, 22, 23, 24, 25, 26, 27, 28, 29, 30, 31, 32, 33, 34, 35, 36, 37, 38, 39, 40, 41, 42, 43, 44, 45, 46, 47, 48, 49, 50, 51, 52, 53, 54] (by decide +kernel) (by decide +kernel)) (goodIn_sub (fun _ h => List.mem_cons_of_mem _ (List.mem_append_left _ (List.mem_append_right _ h))) (by decide +kernel))) (goodIn_sub (fun _ h => List.mem_cons_of_mem _ (List.mem_append_right _ h)) (by decide +kernel))
set_option maxRecDepth 20000 in
theorem gL_apart_X4_apart : GoodIn wsL_apart (wsV RL 64 RX4 yX4_apart wsX4_apart) := goodIn_app (goodIn_of _ (by decide +kernel)) ggL_apart_X4_apart
theorem dL_apart_0 : decode cL_apart 0 = .ok (.aload_n 2, 1) := by decide +kernel
theorem dL_apart_1 : decode cL_apart 1 = .ok (.iconst 0, 1) := by decide +kernel
theorem dL_apart_2 : decode cL_apart 2 = .ok (.aload_n 0, 1) := by decide +kernel
theorem dL_apart_3 : decode cL_apart 3 = .ok (.iload_n 1, 1) := by decide +kernel
theorem dL_apart_4 : decode cL_apart 4 = .ok (.invokevirtual 64, 3) := by decide +kernel
theorem dL_apart_7 : decode cL_apart 7 = .ok (.dastore, 1) := by decide +kernel
theorem dL_apart_8 : decode cL_apart 8 = .ok (.goto 9, 3) := by decide +kernel
theorem dL_apart_11 : decode cL_apart 11 = .ok (.astore_n 3, 1) := by decide +kernel
theorem dL_apart_12 : decode cL_apart 12 = .ok (.iconst 1, 1) := by decide +kernel
theorem dL_apart_13 : decode cL_apart 13 = .ok (.ireturn, 1) := by decide +kernel
theorem dL_apart_14 : decode cL_apart 14 = .ok (.astore_n 3, 1) := by decide +kernel
theorem dL_apart_15 : decode cL_apart 15 = .ok (.iconst 2, 1) := by decide +kernel
theorem dL_apart_16 : decode cL_apart 16 = .ok (.ireturn, 1) := by decide +kernel
theorem dL_apart_17 : decode cL_apart 17 = .ok (.iconst 0, 1) := by decide +kernel
theorem dL_apart_18 : decode cL_apart 18 = .ok (.ireturn, 1) := by decide +kernel
set_option maxRecDepth 20000 in
theorem ggL_match_X4_match : GoodIn wsL_match wsX4_match := goodIn_ca (goodIn_r _ [6, 7, 8, 9, 10, 11, 5, 12, 13, 14, 15, 16, 17, 18, 19, 20, 21, 22, 23, 24, 25, 26, 27, 28, 29, 30, 31, 32, 33, 34, 35, 36, 37, 38, 39, 40, 41, 42, 43, 44, 45, 46, 47, 48, 49, 50, 51, 52, 53, 54, 55] (by decide +kernel) (by decide +kernel)) (goodIn_sub (fun _ h => List.mem_cons_of_mem _ (List.mem_append_right _ h)) (by decide +kernel))
set_option maxRecDepth 20000 in
theorem gL_match_X4_match : GoodIn wsL_match (wsV RL 68 RX4 yX4_match wsX4_match) := goodIn_app (goodIn_of _ (by decide +kernel)) ggL_match_X4_match
theorem dL_match_0 : decode cL_match 0 = .ok (.aload_n 1, 1) := by decide +kernel
theorem dL_match_1 : decode cL_match 1 = .ok (.iconst 0, 1) := by decide +kernel
theorem dL_match_2 : decode cL_match 2 = .ok (.aload_n 0, 1) := by decide +kernel
theorem dL_match_3 : decode cL_match 3 = .ok (.invokevirtual 68, 3) := by decide +kernel
theorem dL_match_6 : decode cL_match 6 = .ok (.i2l, 1) := by decide +kernel
theorem dL_match_7 : decode cL_match 7 = .ok (.lastore, 1) := by decide +kernel
theorem dL_match_8 : decode cL_match 8 = .ok (.goto 6, 3) := by decide +kernel
theorem dL_match_11 : decode cL_match 11 = .ok (.astore_n 2, 1) := by decide +kernel
theorem dL_match_12 : decode cL_match 12 = .ok (.iconst 1, 1) := by decide +kernel
theorem dL_match_13 : decode cL_match 13 = .ok (.ireturn, 1) := by decide +kernel
theorem dL_match_14 : decode cL_match 14 = .ok (.iconst 0, 1) := by decide +kernel
theorem dL_match_15 : decode cL_match 15 = .ok (.ireturn, 1) := by decide +kernel
set_option maxRecDepth 20000 in
theorem ggL_law_X4_law : GoodIn wsL_law wsX4_law := goodIn_ca (goodIn_r _ [6, 7, 8, 9, 10] (by decide +kernel) (by decide +kernel)) (goodIn_sub (fun _ h => List.mem_cons_of_mem _ (List.mem_append_right _ h)) (by decide +kernel))
set_option maxRecDepth 20000 in
theorem gL_law_X4_law : GoodIn wsL_law (wsV RL 71 RX4 yX4_law wsX4_law) := goodIn_app (goodIn_of _ (by decide +kernel)) ggL_law_X4_law
theorem dL_law_0 : decode cL_law 0 = .ok (.aload 7, 2) := by decide +kernel
theorem dL_law_2 : decode cL_law 2 = .ok (.iconst 0, 1) := by decide +kernel
theorem dL_law_3 : decode cL_law 3 = .ok (.aload_n 0, 1) := by decide +kernel
theorem dL_law_4 : decode cL_law 4 = .ok (.lload_n 1, 1) := by decide +kernel
theorem dL_law_5 : decode cL_law 5 = .ok (.lload_n 3, 1) := by decide +kernel
theorem dL_law_6 : decode cL_law 6 = .ok (.lload 5, 2) := by decide +kernel
theorem dL_law_8 : decode cL_law 8 = .ok (.invokevirtual 71, 3) := by decide +kernel
theorem dL_law_11 : decode cL_law 11 = .ok (.lastore, 1) := by decide +kernel
theorem dL_law_12 : decode cL_law 12 = .ok (.goto 7, 3) := by decide +kernel
theorem dL_law_15 : decode cL_law 15 = .ok (.astore 8, 2) := by decide +kernel
theorem dL_law_17 : decode cL_law 17 = .ok (.iconst 1, 1) := by decide +kernel
theorem dL_law_18 : decode cL_law 18 = .ok (.ireturn, 1) := by decide +kernel
theorem dL_law_19 : decode cL_law 19 = .ok (.iconst 0, 1) := by decide +kernel
theorem dL_law_20 : decode cL_law 20 = .ok (.ireturn, 1) := by decide +kernel
set_option maxRecDepth 20000 in
theorem ggL_law__L_cell : GoodIn wsL_law_ wsL_cell := goodIn_r _ [13] (by decide +kernel) (by decide +kernel)
set_option maxRecDepth 20000 in
theorem gL_law__L_cell : GoodIn wsL_law_ (va_wsS RL 75 yL_cell wsL_cell) := goodIn_app (goodIn_of _ (by decide +kernel)) ggL_law__L_cell
set_option maxRecDepth 20000 in
theorem ggL_law__X4_init : GoodIn wsL_law_ wsX4_init := goodIn_r _ [16, 17, 18, 19, 20, 21, 22, 23, 24, 25, 26, 27, 28, 29, 30, 31, 32, 33, 34, 35, 36, 37, 38, 39, 2, 40, 41, 42, 43, 44, 45, 46, 47, 48, 49, 50, 51, 52, 7, 53, 54, 55, 56, 57, 58, 59, 60, 61, 62, 63, 64, 65, 66, 67, 68, 69, 70, 71, 72, 73, 74, 75, 76, 77, 78, 79, 80, 81, 82, 83, 84, 85, 541, 542, 543, 544, 545, 546, 547, 567, 568, 569, 570, 571, 572, 573, 574, 575, 576, 577, 578, 579, 580, 581, 582, 583, 584, 585, 586, 587] (by decide +kernel) (by decide +kernel)
set_option maxRecDepth 20000 in
theorem gL_law__X4_init : GoodIn wsL_law_ (wsX4_init) := ggL_law__X4_init
set_option maxRecDepth 20000 in
theorem ggL_law__X5_init : GoodIn wsL_law_ wsX5_init := goodIn_r _ [88, 89, 18, 19, 7, 90, 91, 56, 92, 93, 94, 95, 96, 82, 97, 98, 99, 100, 101, 102, 103, 548, 549, 550, 551, 552, 553, 554, 555, 556, 557, 558, 559, 560, 561, 562, 563, 564, 565, 566] (by decide +kernel) (by decide +kernel)
set_option maxRecDepth 20000 in
theorem gL_law__X5_init : GoodIn wsL_law_ (wsX5_init) := ggL_law__X5_init
set_option maxRecDepth 20000 in
theorem ggL_law__L_aim : GoodIn wsL_law_ wsL_aim := goodIn_ca (goodIn_r _ [106, 107, 108, 109, 110, 111, 2, 112, 113, 114, 25, 115, 116, 117, 118, 119, 21, 120, 121, 122, 123, 124, 125, 126, 127, 128, 24, 129, 53, 54, 55, 60, 61, 62, 541, 542, 543, 544, 545, 546, 547, 588, 589, 590, 591, 592, 593, 567, 568, 569, 570, 571, 572, 573] (by decide +kernel) (by decide +kernel)) (goodIn_sub (fun _ h => List.mem_append_left _ (List.mem_append_right _ h)) (by decide +kernel))
set_option maxRecDepth 20000 in
theorem gL_law__L_aim : GoodIn wsL_law_ (va_wsS RL 89 yL_aim wsL_aim) := goodIn_app (goodIn_of _ (by decide +kernel)) ggL_law__L_aim
set_option maxRecDepth 20000 in
theorem ggL_law__X5_aim : GoodIn wsL_law_ wsX5_aim := goodIn_r _ [133, 134, 135, 136, 90, 91, 137, 138, 139, 140, 5, 141, 103, 142, 143, 144, 548, 549, 550, 551, 552, 553, 554, 555, 556, 557, 558, 559, 560, 561, 562, 563, 564, 565, 566] (by decide +kernel) (by decide +kernel)
set_option maxRecDepth 20000 in
theorem gL_law__X5_aim : GoodIn wsL_law_ (wsV RL 92 RX5 yX5_aim wsX5_aim) := goodIn_app (goodIn_of _ (by decide +kernel)) ggL_law__X5_aim
set_option maxRecDepth 20000 in
theorem ggL_law__X5_thrown : GoodIn wsL_law_ wsX5_thrown := goodIn_r _ [148, 136, 548, 549, 550, 551, 552, 553, 554, 555, 556, 557, 558, 559, 560, 561, 562, 563, 564, 565, 566] (by decide +kernel) (by decide +kernel)
set_option maxRecDepth 20000 in
theorem gL_law__X5_thrown : GoodIn wsL_law_ (wsV RL 93 RX5 yX5_thrown wsX5_thrown) := goodIn_app (goodIn_of _ (by decide +kernel)) ggL_law__X5_thrown
set_option maxRecDepth 20000 in
theorem ggL_law__L_shadow : GoodIn wsL_law_ wsL_shadow := goodIn_ca (goodIn_r _ [151, 107, 108, 152, 153, 154, 2, 155, 113, 114, 25, 115, 156, 157, 158, 159, 20, 120, 121, 122, 116, 117, 118, 119, 21, 123, 124, 125, 160, 161, 162, 24, 163, 57, 58, 164, 59, 165, 166, 167, 168, 52, 541, 542, 543, 544, 545, 546, 547, 588, 589, 590, 591, 592, 593, 567, 568, 569, 570, 571, 572, 573] (by decide +kernel) (by decide +kernel)) (goodIn_sub (fun _ h => List.mem_append_left _ (List.mem_append_right _ h)) (by decide +kernel))
set_option maxRecDepth 20000 in
theorem gL_law__L_shadow : GoodIn wsL_law_ (va_wsS RL 96 yL_shadow wsL_shadow) := goodIn_app (goodIn_of _ (by decide +kernel)) ggL_law__L_shadow
set_option maxRecDepth 20000 in
theorem ggL_law__X5_shadow : GoodIn wsL_law_ wsX5_shadow := goodIn_r _ [172, 173, 174, 136, 92, 93, 94, 137, 175, 176, 177, 5, 178, 102, 138, 139, 140, 141, 103, 142, 143, 144, 548, 549, 550, 551, 552, 553, 554, 555, 556, 557, 558, 559, 560, 561, 562, 563, 564, 565, 566] (by decide +kernel) (by decide +kernel)
set_option maxRecDepth 20000 in
theorem gL_law__X5_shadow : GoodIn wsL_law_ (wsV RL 99 RX5 yX5_shadow wsX5_shadow) := goodIn_app (goodIn_of _ (by decide +kernel)) ggL_law__X5_shadow
set_option maxRecDepth 20000 in
theorem ggL_law__L_lift : GoodIn wsL_law_ wsL_lift := goodIn_r _ [181, 182, 183, 184, 2, 185, 25, 115, 156, 157, 158, 159, 20, 120, 121, 122, 116, 117, 118, 119, 21, 186, 187, 188, 24, 189, 57, 165, 166, 167, 168, 52, 541, 542, 543, 544, 545, 546, 547, 588, 589, 590, 591, 592, 593, 567, 568, 569, 570, 571, 572, 573] (by decide +kernel) (by decide +kernel)
set_option maxRecDepth 20000 in
theorem gL_law__L_lift : GoodIn wsL_law_ (va_wsS RL 100 yL_lift wsL_lift) := goodIn_app (goodIn_of _ (by decide +kernel)) ggL_law__L_lift
set_option maxRecDepth 20000 in
theorem ggL_law__X5_lift : GoodIn wsL_law_ wsX5_lift := goodIn_r _ [193, 136, 92, 137, 175, 176, 177, 5, 178, 102, 138, 139, 140, 141, 103, 548, 549, 550, 551, 552, 553, 554, 555, 556, 557, 558, 559, 560, 561, 562, 563, 564, 565, 566] (by decide +kernel) (by decide +kernel)
set_option maxRecDepth 20000 in
theorem gL_law__X5_lift : GoodIn wsL_law_ (wsV RL 103 RX5 yX5_lift wsX5_lift) := goodIn_app (goodIn_of _ (by decide +kernel)) ggL_law__X5_lift
set_option maxRecDepth 20000 in
theorem ggL_law__X4_run : GoodIn wsL_law_ wsX4_run := goodIn_r _ [197, 20, 29, 25, 115, 198, 199, 200, 24, 201, 202, 203, 204, 205, 52, 57, 165, 166, 167, 168, 206, 207, 208, 209, 53, 54, 58, 210, 211, 212, 213, 214, 59, 55, 215, 216, 217, 218, 219, 220, 221, 28, 222, 67, 72, 223, 224, 225, 226, 227, 228, 229, 230, 231, 232, 233, 234, 68, 69, 70, 71, 235, 236, 237, 541, 542, 543, 544, 545, 546, 547, 574, 575, 576, 577, 578, 579, 580, 567, 568, 569, 570, 571, 572, 573] (by decide +kernel) (by decide +kernel)
set_option maxRecDepth 20000 in
theorem gL_law__X4_run : GoodIn wsL_law_ (wsV RL 104 RX4 yX4_run wsX4_run) := goodIn_app (goodIn_of _ (by decide +kernel)) ggL_law__X4_run
set_option maxRecDepth 20000 in
theorem ggL_law__X5_run : GoodIn wsL_law_ wsX5_run := goodIn_r _ [241, 136, 137, 242, 102, 95, 243, 244, 245, 5, 246, 103, 92, 90, 91, 94, 93, 247, 248, 249, 250, 251, 252, 253, 254, 255, 256, 257, 258, 259, 96, 260, 261, 262, 263, 264, 265, 266, 267, 548, 549, 550, 551, 552, 553, 554, 555, 556, 557, 558, 559, 560, 561, 562, 563, 564, 565, 566] (by decide +kernel) (by decide +kernel)
set_option maxRecDepth 20000 in
theorem gL_law__X5_run : GoodIn wsL_law_ (wsV RL 107 RX5 yX5_run wsX5_run) := goodIn_app (goodIn_of _ (by decide +kernel)) ggL_law__X5_run
set_option maxRecDepth 20000 in
theorem ggL_law__L_shape : GoodIn wsL_law_ wsL_shape := goodIn_ca (goodIn_r _ [270, 107, 271, 272, 273, 274, 2, 275, 120, 121, 122, 29, 156, 157, 158, 159, 20, 276, 277, 278, 279, 280, 281, 115, 282, 283, 284, 28, 285, 286, 70, 588, 589, 590, 591, 592, 593, 541, 542, 543, 544, 545, 546, 547, 574, 575, 576, 577, 578, 579, 580] (by decide +kernel) (by decide +kernel)) (goodIn_sub (fun _ h => List.mem_append_right _ h) (by decide +kernel))
set_option maxRecDepth 20000 in
theorem gL_law__L_shape : GoodIn wsL_law_ (va_wsS RL 108 yL_shape wsL_shape) := goodIn_app (goodIn_of _ (by decide +kernel)) ggL_law__L_shape
set_option maxRecDepth 20000 in
theorem ggL_law__X5_shape : GoodIn wsL_law_ wsX5_shape := goodIn_r _ [290, 136, 96, 175, 176, 177, 5, 178, 102, 291, 292, 293, 294, 137, 242, 295, 296, 297, 298, 299, 548, 549, 550, 551, 552, 553, 554, 555, 556, 557, 558, 559, 560, 561, 562, 563, 564, 565, 566] (by decide +kernel) (by decide +kernel)
set_option maxRecDepth 20000 in
theorem gL_law__X5_shape : GoodIn wsL_law_ (wsV RL 111 RX5 yX5_shape wsX5_shape) := goodIn_app (goodIn_of _ (by decide +kernel)) ggL_law__X5_shape
set_option maxRecDepth 20000 in
theorem ggL_law__L_fitted : GoodIn wsL_law_ wsL_fitted := goodIn_ca (goodIn_r _ [302, 107, 271, 303, 304, 305, 2, 306, 29, 156, 157, 158, 159, 20, 120, 121, 122, 276, 277, 278, 279, 280, 281, 115, 541, 542, 543, 544, 545, 546, 547, 574, 575, 576, 577, 578, 579, 580, 588, 589, 590, 591, 592, 593] (by decide +kernel) (by decide +kernel)) (goodIn_sub (fun _ h => List.mem_append_right _ h) (by decide +kernel))
set_option maxRecDepth 20000 in
theorem gL_law__L_fitted : GoodIn wsL_law_ (va_wsS RL 112 yL_fitted wsL_fitted) := goodIn_app (goodIn_of _ (by decide +kernel)) ggL_law__L_fitted
set_option maxRecDepth 20000 in
theorem ggL_law__X5_fitted : GoodIn wsL_law_ wsX5_fitted := goodIn_r _ [310, 136, 95, 175, 176, 177, 5, 178, 102, 291, 292, 293, 294, 137, 242, 548, 549, 550, 551, 552, 553, 554, 555, 556, 557, 558, 559, 560, 561, 562, 563, 564, 565, 566] (by decide +kernel) (by decide +kernel)
set_option maxRecDepth 20000 in
theorem gL_law__X5_fitted : GoodIn wsL_law_ (wsV RL 115 RX5 yX5_fitted wsX5_fitted) := goodIn_app (goodIn_of _ (by decide +kernel)) ggL_law__X5_fitted
set_option maxRecDepth 20000 in
theorem ggL_law__L_inside : GoodIn wsL_law_ wsL_inside := goodIn_ca (goodIn_ca (goodIn_r _ [313, 107, 108, 271, 314, 315, 316, 2, 317, 113, 114, 29, 156, 157, 158, 159, 20, 120, 121, 122, 123, 124, 125, 276, 277, 278, 279, 280, 281, 115, 318, 319, 320, 28, 321, 68, 69, 70, 541, 542, 543, 544, 545, 546, 547, 588, 589, 590, 591, 592, 593, 574, 575, 576, 577, 578, 579, 580] (by decide +kernel) (by decide +kernel)) (goodIn_sub (fun _ h => List.mem_append_left _ (List.mem_append_right _ h)) (by decide +kernel))) (goodIn_sub (fun _ h => List.mem_append_right _ h) (by decide +kernel))
set_option maxRecDepth 20000 in
theorem gL_law__L_inside : GoodIn wsL_law_ (va_wsS RL 116 yL_inside wsL_inside) := goodIn_app (goodIn_of _ (by decide +kernel)) ggL_law__L_inside
set_option maxRecDepth 20000 in
theorem ggL_law__X5_inside : GoodIn wsL_law_ wsX5_inside := goodIn_r _ [325, 173, 174, 136, 175, 176, 177, 5, 178, 102, 142, 143, 144, 291, 292, 293, 294, 137, 242, 326, 327, 328, 329, 96, 548, 549, 550, 551, 552, 553, 554, 555, 556, 557, 558, 559, 560, 561, 562, 563, 564, 565, 566] (by decide +kernel) (by decide +kernel)
set_option maxRecDepth 20000 in
theorem gL_law__X5_inside : GoodIn wsL_law_ (wsV RL 119 RX5 yX5_inside wsX5_inside) := goodIn_app (goodIn_of _ (by decide +kernel)) ggL_law__X5_inside
set_option maxRecDepth 20000 in
theorem ggL_law__L_wholes : GoodIn wsL_law_ wsL_wholes := goodIn_ca (goodIn_r _ [332, 107, 271, 333, 334, 335, 2, 336, 29, 156, 157, 158, 159, 20, 120, 121, 122, 276, 277, 278, 279, 280, 281, 115, 337, 338, 339, 28, 340, 341, 319, 320, 321, 68, 69, 70, 541, 542, 543, 544, 545, 546, 547, 588, 589, 590, 591, 592, 593, 574, 575, 576, 577, 578, 579, 580] (by decide +kernel) (by decide +kernel)) (goodIn_sub (fun _ h => List.mem_append_right _ h) (by decide +kernel))
set_option maxRecDepth 20000 in
theorem gL_law__L_wholes : GoodIn wsL_law_ (va_wsS RL 120 yL_wholes wsL_wholes) := goodIn_app (goodIn_of _ (by decide +kernel)) ggL_law__L_wholes
set_option maxRecDepth 20000 in
theorem ggL_law__X5_wholes : GoodIn wsL_law_ wsX5_wholes := goodIn_r _ [345, 136, 175, 176, 177, 5, 178, 102, 291, 292, 293, 294, 137, 242, 326, 327, 328, 329, 96, 548, 549, 550, 551, 552, 553, 554, 555, 556, 557, 558, 559, 560, 561, 562, 563, 564, 565, 566] (by decide +kernel) (by decide +kernel)
set_option maxRecDepth 20000 in
theorem gL_law__X5_wholes : GoodIn wsL_law_ (wsV RL 122 RX5 yX5_wholes wsX5_wholes) := goodIn_app (goodIn_of _ (by decide +kernel)) ggL_law__X5_wholes
set_option maxRecDepth 20000 in
theorem ggL_law__L_volume : GoodIn wsL_law_ wsL_volume := goodIn_ca (goodIn_r _ [348, 271, 349, 350, 351, 2, 352, 29, 276, 277, 278, 279, 280, 281, 115, 353, 354, 355, 28, 356, 67, 357, 283, 284, 285, 286, 70, 541, 542, 543, 544, 545, 546, 547, 574, 575, 576, 577, 578, 579, 580] (by decide +kernel) (by decide +kernel)) (goodIn_sub (fun _ h => List.mem_append_right _ h) (by decide +kernel))
set_option maxRecDepth 20000 in
theorem gL_law__L_volume : GoodIn wsL_law_ (va_wsS RL 123 yL_volume wsL_volume) := goodIn_app (goodIn_of _ (by decide +kernel)) ggL_law__L_volume
set_option maxRecDepth 20000 in
theorem ggL_law__X5_volume : GoodIn wsL_law_ wsX5_volume := goodIn_r _ [361, 136, 291, 292, 293, 5, 294, 137, 242, 362, 363, 364, 365, 102, 295, 296, 297, 298, 96, 299, 548, 549, 550, 551, 552, 553, 554, 555, 556, 557, 558, 559, 560, 561, 562, 563, 564, 565, 566] (by decide +kernel) (by decide +kernel)
set_option maxRecDepth 20000 in
theorem gL_law__X5_volume : GoodIn wsL_law_ (wsV RL 126 RX5 yX5_volume wsX5_volume) := goodIn_app (goodIn_of _ (by decide +kernel)) ggL_law__X5_volume
set_option maxRecDepth 20000 in
theorem ggL_law__L_taper : GoodIn wsL_law_ wsL_taper := goodIn_ca (goodIn_r _ [368, 271, 369, 370, 371, 2, 372, 29, 276, 277, 278, 279, 280, 281, 115, 373, 374, 375, 28, 376, 67, 70, 541, 542, 543, 544, 545, 546, 547, 574, 575, 576, 577, 578, 579, 580] (by decide +kernel) (by decide +kernel)) (goodIn_sub (fun _ h => List.mem_append_right _ h) (by decide +kernel))
set_option maxRecDepth 20000 in
theorem gL_law__L_taper : GoodIn wsL_law_ (va_wsS RL 127 yL_taper wsL_taper) := goodIn_app (goodIn_of _ (by decide +kernel)) ggL_law__L_taper
set_option maxRecDepth 20000 in
theorem ggL_law__X5_taper : GoodIn wsL_law_ wsX5_taper := goodIn_r _ [380, 136, 291, 292, 293, 5, 294, 137, 242, 381, 382, 383, 384, 102, 96, 548, 549, 550, 551, 552, 553, 554, 555, 556, 557, 558, 559, 560, 561, 562, 563, 564, 565, 566] (by decide +kernel) (by decide +kernel)
set_option maxRecDepth 20000 in
theorem gL_law__X5_taper : GoodIn wsL_law_ (wsV RL 129 RX5 yX5_taper wsX5_taper) := goodIn_app (goodIn_of _ (by decide +kernel)) ggL_law__X5_taper
set_option maxRecDepth 20000 in
theorem ggL_law__L_sweep : GoodIn wsL_law_ wsL_sweep := goodIn_ca (goodIn_r _ [387, 271, 388, 389, 390, 2, 391, 29, 276, 277, 278, 279, 280, 281, 115, 392, 393, 394, 28, 395, 67, 68, 69, 396, 397, 398, 399, 541, 542, 543, 544, 545, 546, 547, 574, 575, 576, 577, 578, 579, 580] (by decide +kernel) (by decide +kernel)) (goodIn_sub (fun _ h => List.mem_append_right _ h) (by decide +kernel))
set_option maxRecDepth 20000 in
theorem gL_law__L_sweep : GoodIn wsL_law_ (va_wsS RL 130 yL_sweep wsL_sweep) := goodIn_app (goodIn_of _ (by decide +kernel)) ggL_law__L_sweep
set_option maxRecDepth 20000 in
theorem ggL_law__X5_sweep : GoodIn wsL_law_ wsX5_sweep := goodIn_r _ [403, 136, 291, 292, 293, 5, 294, 137, 242, 404, 405, 406, 407, 102, 408, 409, 410, 411, 96, 548, 549, 550, 551, 552, 553, 554, 555, 556, 557, 558, 559, 560, 561, 562, 563, 564, 565, 566] (by decide +kernel) (by decide +kernel)
set_option maxRecDepth 20000 in
theorem gL_law__X5_sweep : GoodIn wsL_law_ (wsV RL 132 RX5 yX5_sweep wsX5_sweep) := goodIn_app (goodIn_of _ (by decide +kernel)) ggL_law__X5_sweep
set_option maxRecDepth 20000 in
theorem ggL_law__L_rule : GoodIn wsL_law_ wsL_rule := goodIn_ca (goodIn_ca (goodIn_r _ [414, 108, 271, 415, 416, 417, 2, 418, 113, 114, 280, 281, 37, 419, 420, 421, 36, 422, 423, 424, 425, 426, 427, 83, 84, 85, 541, 542, 543, 544, 545, 546, 547, 584, 585, 586, 587] (by decide +kernel) (by decide +kernel)) (goodIn_sub (fun _ h => List.mem_append_left _ (List.mem_append_right _ h)) (by decide +kernel))) (goodIn_sub (fun _ h => List.mem_append_right _ h) (by decide +kernel))
set_option maxRecDepth 20000 in
theorem gL_law__L_rule : GoodIn wsL_law_ (va_wsS RL 133 yL_rule wsL_rule) := goodIn_app (goodIn_of _ (by decide +kernel)) ggL_law__L_rule
set_option maxRecDepth 20000 in
theorem ggL_law__X5_rule : GoodIn wsL_law_ wsX5_rule := goodIn_r _ [431, 432, 136, 97, 98, 99, 548, 549, 550, 551, 552, 553, 554, 555, 556, 557, 558, 559, 560, 561, 562, 563, 564, 565, 566] (by decide +kernel) (by decide +kernel)
set_option maxRecDepth 20000 in
theorem gL_law__X5_rule : GoodIn wsL_law_ (wsV RL 136 RX5 yX5_rule wsX5_rule) := goodIn_app (goodIn_of _ (by decide +kernel)) ggL_law__X5_rule
set_option maxRecDepth 20000 in
theorem ggL_law__L_cls : GoodIn wsL_law_ wsL_cls := goodIn_ca (goodIn_r _ [435, 271, 436, 437, 438, 2, 439, 37, 29, 276, 277, 278, 279, 280, 281, 115, 440, 441, 442, 36, 443, 423, 83, 84, 85, 444, 445, 446, 447, 393, 394, 28, 395, 67, 68, 69, 396, 397, 398, 399, 448, 374, 375, 376, 70, 449, 450, 451, 452, 453, 354, 355, 356, 357, 283, 284, 285, 286, 541, 542, 543, 544, 545, 546, 547, 584, 585, 586, 587, 574, 575, 576, 577, 578, 579, 580] (by decide +kernel) (by decide +kernel)) (goodIn_sub (fun _ h => List.mem_append_right _ h) (by decide +kernel))
set_option maxRecDepth 20000 in
theorem gL_law__L_cls : GoodIn wsL_law_ (va_wsS RL 137 yL_cls wsL_cls) := goodIn_app (goodIn_of _ (by decide +kernel)) ggL_law__L_cls
set_option maxRecDepth 20000 in
theorem ggL_law__X5_cls : GoodIn wsL_law_ wsX5_cls := goodIn_r _ [457, 136, 432, 99, 291, 292, 293, 5, 294, 137, 242, 458, 459, 460, 461, 97, 98, 96, 102, 404, 405, 406, 407, 408, 409, 410, 411, 381, 382, 383, 384, 362, 363, 364, 365, 295, 296, 297, 298, 299, 548, 549, 550, 551, 552, 553, 554, 555, 556, 557, 558, 559, 560, 561, 562, 563, 564, 565, 566] (by decide +kernel) (by decide +kernel)
set_option maxRecDepth 20000 in
theorem gL_law__X5_cls : GoodIn wsL_law_ (wsV RL 140 RX5 yX5_cls wsX5_cls) := goodIn_app (goodIn_of _ (by decide +kernel)) ggL_law__X5_cls
set_option maxRecDepth 20000 in
theorem ggL_law__L_keep : GoodIn wsL_law_ wsL_keep := goodIn_ca (goodIn_r _ [464, 271, 465, 466, 467, 2, 468, 33, 29, 276, 277, 278, 279, 280, 281, 115, 469, 470, 471, 32, 472, 77, 78, 473, 541, 542, 543, 544, 545, 546, 547, 581, 582, 583, 574, 575, 576, 577, 578, 579, 580] (by decide +kernel) (by decide +kernel)) (goodIn_sub (fun _ h => List.mem_append_right _ h) (by decide +kernel))
set_option maxRecDepth 20000 in
theorem gL_law__L_keep : GoodIn wsL_law_ (va_wsS RL 141 yL_keep wsL_keep) := goodIn_app (goodIn_of _ (by decide +kernel)) ggL_law__L_keep
set_option maxRecDepth 20000 in
theorem ggL_law__X5_keep : GoodIn wsL_law_ wsX5_keep := goodIn_r _ [477, 136, 102, 478, 100, 96, 101, 291, 292, 293, 5, 294, 137, 242, 548, 549, 550, 551, 552, 553, 554, 555, 556, 557, 558, 559, 560, 561, 562, 563, 564, 565, 566] (by decide +kernel) (by decide +kernel)
set_option maxRecDepth 20000 in
theorem gL_law__X5_keep : GoodIn wsL_law_ (wsV RL 144 RX5 yX5_keep wsX5_keep) := goodIn_app (goodIn_of _ (by decide +kernel)) ggL_law__X5_keep
set_option maxRecDepth 20000 in
theorem ggL_law__L_apart : GoodIn wsL_law_ wsL_apart := goodIn_ca (goodIn_ca (goodIn_r _ [481, 108, 271, 482, 483, 484, 2, 485, 113, 114, 33, 29, 276, 277, 278, 279, 280, 281, 115, 486, 487, 488, 489, 490, 491, 492, 32, 493, 77, 494, 495, 496, 497, 78, 498, 499, 500, 501, 541, 542, 543, 544, 545, 546, 547, 581, 582, 583, 574, 575, 576, 577, 578, 579, 580] (by decide +kernel) (by decide +kernel)) (goodIn_sub (fun _ h => List.mem_append_left _ (List.mem_append_right _ h)) (by decide +kernel))) (goodIn_sub (fun _ h => List.mem_append_right _ h) (by decide +kernel))
set_option maxRecDepth 20000 in
theorem gL_law__L_apart : GoodIn wsL_law_ (va_wsS RL 145 yL_apart wsL_apart) := goodIn_app (goodIn_of _ (by decide +kernel)) ggL_law__L_apart
set_option maxRecDepth 20000 in
theorem ggL_law__X5_apart : GoodIn wsL_law_ wsX5_apart := goodIn_r _ [505, 478, 136, 291, 292, 293, 5, 294, 137, 242, 506, 507, 508, 509, 102, 100, 101, 96, 548, 549, 550, 551, 552, 553, 554, 555, 556, 557, 558, 559, 560, 561, 562, 563, 564, 565, 566] (by decide +kernel) (by decide +kernel)
set_option maxRecDepth 20000 in
theorem gL_law__X5_apart : GoodIn wsL_law_ (wsV RL 148 RX5 yX5_apart wsX5_apart) := goodIn_app (goodIn_of _ (by decide +kernel)) ggL_law__X5_apart
set_option maxRecDepth 20000 in
theorem ggL_law__L_match : GoodIn wsL_law_ wsL_match := goodIn_ca (goodIn_r _ [512, 271, 513, 514, 515, 2, 516, 33, 29, 276, 277, 278, 279, 280, 281, 115, 486, 487, 488, 489, 517, 518, 519, 32, 520, 521, 491, 492, 493, 77, 494, 495, 496, 497, 78, 498, 499, 500, 501, 541, 542, 543, 544, 545, 546, 547, 581, 582, 583, 574, 575, 576, 577, 578, 579, 580] (by decide +kernel) (by decide +kernel)) (goodIn_sub (fun _ h => List.mem_append_right _ h) (by decide +kernel))
set_option maxRecDepth 20000 in
theorem gL_law__L_match : GoodIn wsL_law_ (va_wsS RL 149 yL_match wsL_match) := goodIn_app (goodIn_of _ (by decide +kernel)) ggL_law__L_match
set_option maxRecDepth 20000 in
theorem ggL_law__X5_match : GoodIn wsL_law_ wsX5_match := goodIn_r _ [525, 478, 136, 291, 292, 293, 5, 294, 137, 242, 506, 507, 508, 509, 102, 100, 101, 96, 548, 549, 550, 551, 552, 553, 554, 555, 556, 557, 558, 559, 560, 561, 562, 563, 564, 565, 566] (by decide +kernel) (by decide +kernel)
set_option maxRecDepth 20000 in
theorem gL_law__X5_match : GoodIn wsL_law_ (wsV RL 151 RX5 yX5_match wsX5_match) := goodIn_app (goodIn_of _ (by decide +kernel)) ggL_law__X5_match
set_option maxRecDepth 20000 in
theorem ggL_law__L_law : GoodIn wsL_law_ wsL_law := goodIn_ca (goodIn_r _ [528, 108, 529, 530, 531, 2, 532, 113, 114, 533, 534] (by decide +kernel) (by decide +kernel)) (goodIn_sub (fun _ h => List.mem_append_left _ (List.mem_append_right _ h)) (by decide +kernel))
set_option maxRecDepth 20000 in
theorem gL_law__L_law : GoodIn wsL_law_ (va_wsS RL 154 yL_law wsL_law) := goodIn_app (goodIn_of _ (by decide +kernel)) ggL_law__L_law
set_option maxRecDepth 20000 in
theorem ggL_law__X5_law : GoodIn wsL_law_ wsX5_law := goodIn_r _ [538, 539, 540, 136, 548, 549, 550, 551, 552, 553, 554, 555, 556, 557, 558, 559, 560, 561, 562, 563, 564, 565, 566] (by decide +kernel) (by decide +kernel)
set_option maxRecDepth 20000 in
theorem gL_law__X5_law : GoodIn wsL_law_ (wsV RL 157 RX5 yX5_law wsX5_law) := goodIn_app (goodIn_of _ (by decide +kernel)) ggL_law__X5_law
theorem dL_law__0 : decode cL_law_ 0 = .ok (.new 8, 3) := by decide +kernel
theorem dL_law__3 : decode cL_law_ 3 = .ok (.dup, 1) := by decide +kernel
theorem dL_law__4 : decode cL_law_ 4 = .ok (.aload_n 0, 1) := by decide +kernel
theorem dL_law__5 : decode cL_law_ 5 = .ok (.iconst 0, 1) := by decide +kernel
theorem dL_law__6 : decode cL_law_ 6 = .ok (.invokestatic 75, 3) := by decide +kernel
theorem dL_law__9 : decode cL_law_ 9 = .ok (.aload_n 0, 1) := by decide +kernel
theorem dL_law__10 : decode cL_law_ 10 = .ok (.iconst 1, 1) := by decide +kernel
theorem dL_law__11 : decode cL_law_ 11 = .ok (.invokestatic 75, 3) := by decide +kernel
theorem dL_law__14 : decode cL_law_ 14 = .ok (.invokespecial 81, 3) := by decide +kernel
theorem dL_law__17 : decode cL_law_ 17 = .ok (.astore_n 1, 1) := by decide +kernel
theorem dL_law__18 : decode cL_law_ 18 = .ok (.new 84, 3) := by decide +kernel
theorem dL_law__21 : decode cL_law_ 21 = .ok (.dup, 1) := by decide +kernel
theorem dL_law__22 : decode cL_law_ 22 = .ok (.aload_n 0, 1) := by decide +kernel
theorem dL_law__23 : decode cL_law_ 23 = .ok (.iconst 0, 1) := by decide +kernel
theorem dL_law__24 : decode cL_law_ 24 = .ok (.invokestatic 75, 3) := by decide +kernel
theorem dL_law__27 : decode cL_law_ 27 = .ok (.aload_n 0, 1) := by decide +kernel
theorem dL_law__28 : decode cL_law_ 28 = .ok (.iconst 1, 1) := by decide +kernel
theorem dL_law__29 : decode cL_law_ 29 = .ok (.invokestatic 75, 3) := by decide +kernel
theorem dL_law__32 : decode cL_law_ 32 = .ok (.invokespecial 86, 3) := by decide +kernel
theorem dL_law__35 : decode cL_law_ 35 = .ok (.astore_n 2, 1) := by decide +kernel
theorem dL_law__36 : decode cL_law_ 36 = .ok (.iconst 1, 1) := by decide +kernel
theorem dL_law__37 : decode cL_law_ 37 = .ok (.newarray .long, 2) := by decide +kernel
theorem dL_law__39 : decode cL_law_ 39 = .ok (.astore_n 3, 1) := by decide +kernel
theorem dL_law__40 : decode cL_law_ 40 = .ok (.iconst 1, 1) := by decide +kernel
theorem dL_law__41 : decode cL_law_ 41 = .ok (.newarray .double, 2) := by decide +kernel
theorem dL_law__43 : decode cL_law_ 43 = .ok (.astore 4, 2) := by decide +kernel
theorem dL_law__45 : decode cL_law_ 45 = .ok (.iconst 2, 1) := by decide +kernel
theorem dL_law__46 : decode cL_law_ 46 = .ok (.istore 5, 2) := by decide +kernel
theorem dL_law__48 : decode cL_law_ 48 = .ok (.iload 5, 2) := by decide +kernel
theorem dL_law__50 : decode cL_law_ 50 = .ok (.aload_n 0, 1) := by decide +kernel
theorem dL_law__51 : decode cL_law_ 51 = .ok (.arraylength, 1) := by decide +kernel
theorem dL_law__52 : decode cL_law_ 52 = .ok (.bipush 7, 2) := by decide +kernel
theorem dL_law__54 : decode cL_law_ 54 = .ok (.isub, 1) := by decide +kernel
theorem dL_law__55 : decode cL_law_ 55 = .ok (.if_icmp .gt 1325, 3) := by decide +kernel
theorem dL_law__58 : decode cL_law_ 58 = .ok (.aload_n 0, 1) := by decide +kernel
theorem dL_law__59 : decode cL_law_ 59 = .ok (.iload 5, 2) := by decide +kernel
theorem dL_law__61 : decode cL_law_ 61 = .ok (.iaload, 1) := by decide +kernel
theorem dL_law__62 : decode cL_law_ 62 = .ok (.bipush 31, 2) := by decide +kernel
theorem dL_law__64 : decode cL_law_ 64 = .ok (.iand, 1) := by decide +kernel
theorem dL_law__65 : decode cL_law_ 65 = .ok (.tableswitch 1309 0 16 #[83, 163, 255, 330, 343, 432, 495, 602, 658, 723, 788, 853, 943, 987, 1011, 1088, 1132], 83) := by decide +kernel
theorem dL_law__148 : decode cL_law_ 148 = .ok (.aload_n 1, 1) := by decide +kernel
theorem dL_law__149 : decode cL_law_ 149 = .ok (.aload_n 0, 1) := by decide +kernel
theorem dL_law__150 : decode cL_law_ 150 = .ok (.iload 5, 2) := by decide +kernel
theorem dL_law__152 : decode cL_law_ 152 = .ok (.iconst 1, 1) := by decide +kernel
theorem dL_law__153 : decode cL_law_ 153 = .ok (.iadd, 1) := by decide +kernel
theorem dL_law__154 : decode cL_law_ 154 = .ok (.iaload, 1) := by decide +kernel
theorem dL_law__155 : decode cL_law_ 155 = .ok (.aload_n 0, 1) := by decide +kernel
theorem dL_law__156 : decode cL_law_ 156 = .ok (.iload 5, 2) := by decide +kernel
theorem dL_law__158 : decode cL_law_ 158 = .ok (.iconst 2, 1) := by decide +kernel
theorem dL_law__159 : decode cL_law_ 159 = .ok (.iadd, 1) := by decide +kernel
theorem dL_law__160 : decode cL_law_ 160 = .ok (.iaload, 1) := by decide +kernel
theorem dL_law__161 : decode cL_law_ 161 = .ok (.i2d, 1) := by decide +kernel
theorem dL_law__162 : decode cL_law_ 162 = .ok (.ldc2_w 87, 3) := by decide +kernel
theorem dL_law__165 : decode cL_law_ 165 = .ok (.dmul, 1) := by decide +kernel
theorem dL_law__166 : decode cL_law_ 166 = .ok (.aload_n 0, 1) := by decide +kernel
theorem dL_law__167 : decode cL_law_ 167 = .ok (.iload 5, 2) := by decide +kernel
theorem dL_law__169 : decode cL_law_ 169 = .ok (.iconst 3, 1) := by decide +kernel
theorem dL_law__170 : decode cL_law_ 170 = .ok (.iadd, 1) := by decide +kernel
theorem dL_law__171 : decode cL_law_ 171 = .ok (.iaload, 1) := by decide +kernel
theorem dL_law__172 : decode cL_law_ 172 = .ok (.i2d, 1) := by decide +kernel
theorem dL_law__173 : decode cL_law_ 173 = .ok (.ldc2_w 87, 3) := by decide +kernel
theorem dL_law__176 : decode cL_law_ 176 = .ok (.dmul, 1) := by decide +kernel
theorem dL_law__177 : decode cL_law_ 177 = .ok (.invokestatic 89, 3) := by decide +kernel
theorem dL_law__180 : decode cL_law_ 180 = .ok (.istore 6, 2) := by decide +kernel
theorem dL_law__182 : decode cL_law_ 182 = .ok (.aload_n 2, 1) := by decide +kernel
theorem dL_law__183 : decode cL_law_ 183 = .ok (.aload_n 0, 1) := by decide +kernel
theorem dL_law__184 : decode cL_law_ 184 = .ok (.iload 5, 2) := by decide +kernel
theorem dL_law__186 : decode cL_law_ 186 = .ok (.iconst 1, 1) := by decide +kernel
theorem dL_law__187 : decode cL_law_ 187 = .ok (.iadd, 1) := by decide +kernel
theorem dL_law__188 : decode cL_law_ 188 = .ok (.iaload, 1) := by decide +kernel
theorem dL_law__189 : decode cL_law_ 189 = .ok (.aload_n 0, 1) := by decide +kernel
theorem dL_law__190 : decode cL_law_ 190 = .ok (.iload 5, 2) := by decide +kernel
theorem dL_law__192 : decode cL_law_ 192 = .ok (.iconst 2, 1) := by decide +kernel
theorem dL_law__193 : decode cL_law_ 193 = .ok (.iadd, 1) := by decide +kernel
theorem dL_law__194 : decode cL_law_ 194 = .ok (.iaload, 1) := by decide +kernel
theorem dL_law__195 : decode cL_law_ 195 = .ok (.i2d, 1) := by decide +kernel
theorem dL_law__196 : decode cL_law_ 196 = .ok (.ldc2_w 87, 3) := by decide +kernel
theorem dL_law__199 : decode cL_law_ 199 = .ok (.dmul, 1) := by decide +kernel
theorem dL_law__200 : decode cL_law_ 200 = .ok (.aload_n 0, 1) := by decide +kernel
theorem dL_law__201 : decode cL_law_ 201 = .ok (.iload 5, 2) := by decide +kernel
theorem dL_law__203 : decode cL_law_ 203 = .ok (.iconst 3, 1) := by decide +kernel
theorem dL_law__204 : decode cL_law_ 204 = .ok (.iadd, 1) := by decide +kernel
theorem dL_law__205 : decode cL_law_ 205 = .ok (.iaload, 1) := by decide +kernel
theorem dL_law__206 : decode cL_law_ 206 = .ok (.i2d, 1) := by decide +kernel
theorem dL_law__207 : decode cL_law_ 207 = .ok (.ldc2_w 87, 3) := by decide +kernel
theorem dL_law__210 : decode cL_law_ 210 = .ok (.dmul, 1) := by decide +kernel
theorem dL_law__211 : decode cL_law_ 211 = .ok (.invokevirtual 92, 3) := by decide +kernel
theorem dL_law__214 : decode cL_law_ 214 = .ok (.aload_n 2, 1) := by decide +kernel
theorem dL_law__215 : decode cL_law_ 215 = .ok (.invokevirtual 93, 3) := by decide +kernel
theorem dL_law__218 : decode cL_law_ 218 = .ok (.iload 6, 2) := by decide +kernel
theorem dL_law__220 : decode cL_law_ 220 = .ok (.if_icmp .eq 5, 3) := by decide +kernel
theorem dL_law__223 : decode cL_law_ 223 = .ok (.iconst 0, 1) := by decide +kernel
theorem dL_law__224 : decode cL_law_ 224 = .ok (.ireturn, 1) := by decide +kernel
theorem dL_law__225 : decode cL_law_ 225 = .ok (.goto 1149, 3) := by decide +kernel
theorem dL_law__228 : decode cL_law_ 228 = .ok (.aload_n 1, 1) := by decide +kernel
theorem dL_law__229 : decode cL_law_ 229 = .ok (.aload_n 0, 1) := by decide +kernel
theorem dL_law__230 : decode cL_law_ 230 = .ok (.iload 5, 2) := by decide +kernel
theorem dL_law__232 : decode cL_law_ 232 = .ok (.iconst 1, 1) := by decide +kernel
theorem dL_law__233 : decode cL_law_ 233 = .ok (.iadd, 1) := by decide +kernel
theorem dL_law__234 : decode cL_law_ 234 = .ok (.iaload, 1) := by decide +kernel
theorem dL_law__235 : decode cL_law_ 235 = .ok (.aload_n 0, 1) := by decide +kernel
theorem dL_law__236 : decode cL_law_ 236 = .ok (.iload 5, 2) := by decide +kernel
theorem dL_law__238 : decode cL_law_ 238 = .ok (.iconst 2, 1) := by decide +kernel
theorem dL_law__239 : decode cL_law_ 239 = .ok (.iadd, 1) := by decide +kernel
theorem dL_law__240 : decode cL_law_ 240 = .ok (.iaload, 1) := by decide +kernel
theorem dL_law__241 : decode cL_law_ 241 = .ok (.aload_n 0, 1) := by decide +kernel
theorem dL_law__242 : decode cL_law_ 242 = .ok (.iload 5, 2) := by decide +kernel
theorem dL_law__244 : decode cL_law_ 244 = .ok (.iconst 3, 1) := by decide +kernel
theorem dL_law__245 : decode cL_law_ 245 = .ok (.iadd, 1) := by decide +kernel
theorem dL_law__246 : decode cL_law_ 246 = .ok (.iaload, 1) := by decide +kernel
theorem dL_law__247 : decode cL_law_ 247 = .ok (.i2d, 1) := by decide +kernel
theorem dL_law__248 : decode cL_law_ 248 = .ok (.ldc2_w 87, 3) := by decide +kernel
theorem dL_law__251 : decode cL_law_ 251 = .ok (.dmul, 1) := by decide +kernel
theorem dL_law__252 : decode cL_law_ 252 = .ok (.aload_n 0, 1) := by decide +kernel
theorem dL_law__253 : decode cL_law_ 253 = .ok (.iload 5, 2) := by decide +kernel
theorem dL_law__255 : decode cL_law_ 255 = .ok (.iconst 4, 1) := by decide +kernel
theorem dL_law__256 : decode cL_law_ 256 = .ok (.iadd, 1) := by decide +kernel
theorem dL_law__257 : decode cL_law_ 257 = .ok (.iaload, 1) := by decide +kernel
theorem dL_law__258 : decode cL_law_ 258 = .ok (.i2d, 1) := by decide +kernel
theorem dL_law__259 : decode cL_law_ 259 = .ok (.ldc2_w 87, 3) := by decide +kernel
theorem dL_law__262 : decode cL_law_ 262 = .ok (.dmul, 1) := by decide +kernel
theorem dL_law__263 : decode cL_law_ 263 = .ok (.invokestatic 96, 3) := by decide +kernel
theorem dL_law__266 : decode cL_law_ 266 = .ok (.istore 6, 2) := by decide +kernel
theorem dL_law__268 : decode cL_law_ 268 = .ok (.aload_n 2, 1) := by decide +kernel
theorem dL_law__269 : decode cL_law_ 269 = .ok (.aload_n 0, 1) := by decide +kernel
theorem dL_law__270 : decode cL_law_ 270 = .ok (.iload 5, 2) := by decide +kernel
theorem dL_law__272 : decode cL_law_ 272 = .ok (.iconst 1, 1) := by decide +kernel
theorem dL_law__273 : decode cL_law_ 273 = .ok (.iadd, 1) := by decide +kernel
theorem dL_law__274 : decode cL_law_ 274 = .ok (.iaload, 1) := by decide +kernel
theorem dL_law__275 : decode cL_law_ 275 = .ok (.aload_n 0, 1) := by decide +kernel
theorem dL_law__276 : decode cL_law_ 276 = .ok (.iload 5, 2) := by decide +kernel
theorem dL_law__278 : decode cL_law_ 278 = .ok (.iconst 2, 1) := by decide +kernel
theorem dL_law__279 : decode cL_law_ 279 = .ok (.iadd, 1) := by decide +kernel
theorem dL_law__280 : decode cL_law_ 280 = .ok (.iaload, 1) := by decide +kernel
theorem dL_law__281 : decode cL_law_ 281 = .ok (.aload_n 0, 1) := by decide +kernel
theorem dL_law__282 : decode cL_law_ 282 = .ok (.iload 5, 2) := by decide +kernel
theorem dL_law__284 : decode cL_law_ 284 = .ok (.iconst 3, 1) := by decide +kernel
theorem dL_law__285 : decode cL_law_ 285 = .ok (.iadd, 1) := by decide +kernel
theorem dL_law__286 : decode cL_law_ 286 = .ok (.iaload, 1) := by decide +kernel
theorem dL_law__287 : decode cL_law_ 287 = .ok (.i2d, 1) := by decide +kernel
theorem dL_law__288 : decode cL_law_ 288 = .ok (.ldc2_w 87, 3) := by decide +kernel
theorem dL_law__291 : decode cL_law_ 291 = .ok (.dmul, 1) := by decide +kernel
theorem dL_law__292 : decode cL_law_ 292 = .ok (.aload_n 0, 1) := by decide +kernel
theorem dL_law__293 : decode cL_law_ 293 = .ok (.iload 5, 2) := by decide +kernel
theorem dL_law__295 : decode cL_law_ 295 = .ok (.iconst 4, 1) := by decide +kernel
theorem dL_law__296 : decode cL_law_ 296 = .ok (.iadd, 1) := by decide +kernel
theorem dL_law__297 : decode cL_law_ 297 = .ok (.iaload, 1) := by decide +kernel
theorem dL_law__298 : decode cL_law_ 298 = .ok (.i2d, 1) := by decide +kernel
theorem dL_law__299 : decode cL_law_ 299 = .ok (.ldc2_w 87, 3) := by decide +kernel
theorem dL_law__302 : decode cL_law_ 302 = .ok (.dmul, 1) := by decide +kernel
theorem dL_law__303 : decode cL_law_ 303 = .ok (.invokevirtual 99, 3) := by decide +kernel
theorem dL_law__306 : decode cL_law_ 306 = .ok (.aload_n 2, 1) := by decide +kernel
theorem dL_law__307 : decode cL_law_ 307 = .ok (.invokevirtual 93, 3) := by decide +kernel
theorem dL_law__310 : decode cL_law_ 310 = .ok (.iload 6, 2) := by decide +kernel
theorem dL_law__312 : decode cL_law_ 312 = .ok (.if_icmp .eq 5, 3) := by decide +kernel
theorem dL_law__315 : decode cL_law_ 315 = .ok (.iconst 0, 1) := by decide +kernel
theorem dL_law__316 : decode cL_law_ 316 = .ok (.ireturn, 1) := by decide +kernel
theorem dL_law__317 : decode cL_law_ 317 = .ok (.goto 1057, 3) := by decide +kernel
theorem dL_law__320 : decode cL_law_ 320 = .ok (.aload_n 1, 1) := by decide +kernel
theorem dL_law__321 : decode cL_law_ 321 = .ok (.aload_n 0, 1) := by decide +kernel
theorem dL_law__322 : decode cL_law_ 322 = .ok (.iload 5, 2) := by decide +kernel
theorem dL_law__324 : decode cL_law_ 324 = .ok (.iconst 1, 1) := by decide +kernel
theorem dL_law__325 : decode cL_law_ 325 = .ok (.iadd, 1) := by decide +kernel
theorem dL_law__326 : decode cL_law_ 326 = .ok (.iaload, 1) := by decide +kernel
theorem dL_law__327 : decode cL_law_ 327 = .ok (.aload_n 0, 1) := by decide +kernel
theorem dL_law__328 : decode cL_law_ 328 = .ok (.iload 5, 2) := by decide +kernel
theorem dL_law__330 : decode cL_law_ 330 = .ok (.iconst 2, 1) := by decide +kernel
theorem dL_law__331 : decode cL_law_ 331 = .ok (.iadd, 1) := by decide +kernel
theorem dL_law__332 : decode cL_law_ 332 = .ok (.iaload, 1) := by decide +kernel
theorem dL_law__333 : decode cL_law_ 333 = .ok (.aload_n 3, 1) := by decide +kernel
theorem dL_law__334 : decode cL_law_ 334 = .ok (.invokestatic 100, 3) := by decide +kernel
theorem dL_law__337 : decode cL_law_ 337 = .ok (.istore 6, 2) := by decide +kernel
theorem dL_law__339 : decode cL_law_ 339 = .ok (.aload_n 2, 1) := by decide +kernel
theorem dL_law__340 : decode cL_law_ 340 = .ok (.aload_n 0, 1) := by decide +kernel
theorem dL_law__341 : decode cL_law_ 341 = .ok (.iload 5, 2) := by decide +kernel
theorem dL_law__343 : decode cL_law_ 343 = .ok (.iconst 1, 1) := by decide +kernel
theorem dL_law__344 : decode cL_law_ 344 = .ok (.iadd, 1) := by decide +kernel
theorem dL_law__345 : decode cL_law_ 345 = .ok (.iaload, 1) := by decide +kernel
theorem dL_law__346 : decode cL_law_ 346 = .ok (.aload_n 0, 1) := by decide +kernel
theorem dL_law__347 : decode cL_law_ 347 = .ok (.iload 5, 2) := by decide +kernel
theorem dL_law__349 : decode cL_law_ 349 = .ok (.iconst 2, 1) := by decide +kernel
theorem dL_law__350 : decode cL_law_ 350 = .ok (.iadd, 1) := by decide +kernel
theorem dL_law__351 : decode cL_law_ 351 = .ok (.iaload, 1) := by decide +kernel
theorem dL_law__352 : decode cL_law_ 352 = .ok (.invokevirtual 103, 3) := by decide +kernel
theorem dL_law__355 : decode cL_law_ 355 = .ok (.istore 7, 2) := by decide +kernel
theorem dL_law__357 : decode cL_law_ 357 = .ok (.aload_n 2, 1) := by decide +kernel
theorem dL_law__358 : decode cL_law_ 358 = .ok (.invokevirtual 93, 3) := by decide +kernel
theorem dL_law__361 : decode cL_law_ 361 = .ok (.iload 6, 2) := by decide +kernel
theorem dL_law__363 : decode cL_law_ 363 = .ok (.if_icmp .eq 5, 3) := by decide +kernel
theorem dL_law__366 : decode cL_law_ 366 = .ok (.iconst 0, 1) := by decide +kernel
theorem dL_law__367 : decode cL_law_ 367 = .ok (.ireturn, 1) := by decide +kernel
theorem dL_law__368 : decode cL_law_ 368 = .ok (.iload 6, 2) := by decide +kernel
theorem dL_law__370 : decode cL_law_ 370 = .ok (.ifCond .ne 22, 3) := by decide +kernel
theorem dL_law__373 : decode cL_law_ 373 = .ok (.aload_n 3, 1) := by decide +kernel
theorem dL_law__374 : decode cL_law_ 374 = .ok (.iconst 0, 1) := by decide +kernel
theorem dL_law__375 : decode cL_law_ 375 = .ok (.laload, 1) := by decide +kernel
theorem dL_law__376 : decode cL_law_ 376 = .ok (.iload 7, 2) := by decide +kernel
theorem dL_law__378 : decode cL_law_ 378 = .ok (.ifCond .eq 7, 3) := by decide +kernel
theorem dL_law__381 : decode cL_law_ 381 = .ok (.lconst 1, 1) := by decide +kernel
theorem dL_law__382 : decode cL_law_ 382 = .ok (.goto 4, 3) := by decide +kernel
theorem dL_law__385 : decode cL_law_ 385 = .ok (.lconst 0, 1) := by decide +kernel
theorem dL_law__386 : decode cL_law_ 386 = .ok (.lcmp, 1) := by decide +kernel
theorem dL_law__387 : decode cL_law_ 387 = .ok (.ifCond .eq 5, 3) := by decide +kernel
theorem dL_law__390 : decode cL_law_ 390 = .ok (.iconst 0, 1) := by decide +kernel
theorem dL_law__391 : decode cL_law_ 391 = .ok (.ireturn, 1) := by decide +kernel
theorem dL_law__392 : decode cL_law_ 392 = .ok (.goto 982, 3) := by decide +kernel
theorem dL_law__395 : decode cL_law_ 395 = .ok (.aload_n 1, 1) := by decide +kernel
theorem dL_law__396 : decode cL_law_ 396 = .ok (.invokevirtual 104, 3) := by decide +kernel
theorem dL_law__399 : decode cL_law_ 399 = .ok (.aload_n 2, 1) := by decide +kernel
theorem dL_law__400 : decode cL_law_ 400 = .ok (.invokevirtual 107, 3) := by decide +kernel
theorem dL_law__403 : decode cL_law_ 403 = .ok (.if_icmp .eq 971, 3) := by decide +kernel
theorem dL_law__406 : decode cL_law_ 406 = .ok (.iconst 0, 1) := by decide +kernel
theorem dL_law__407 : decode cL_law_ 407 = .ok (.ireturn, 1) := by decide +kernel
theorem dL_law__408 : decode cL_law_ 408 = .ok (.aload_n 1, 1) := by decide +kernel
theorem dL_law__409 : decode cL_law_ 409 = .ok (.aload_n 0, 1) := by decide +kernel
theorem dL_law__410 : decode cL_law_ 410 = .ok (.iload 5, 2) := by decide +kernel
theorem dL_law__412 : decode cL_law_ 412 = .ok (.iconst 1, 1) := by decide +kernel
theorem dL_law__413 : decode cL_law_ 413 = .ok (.iadd, 1) := by decide +kernel
theorem dL_law__414 : decode cL_law_ 414 = .ok (.iaload, 1) := by decide +kernel
theorem dL_law__415 : decode cL_law_ 415 = .ok (.aload_n 0, 1) := by decide +kernel
theorem dL_law__416 : decode cL_law_ 416 = .ok (.iload 5, 2) := by decide +kernel
theorem dL_law__418 : decode cL_law_ 418 = .ok (.iconst 2, 1) := by decide +kernel
theorem dL_law__419 : decode cL_law_ 419 = .ok (.iadd, 1) := by decide +kernel
theorem dL_law__420 : decode cL_law_ 420 = .ok (.iaload, 1) := by decide +kernel
theorem dL_law__421 : decode cL_law_ 421 = .ok (.aload 4, 2) := by decide +kernel
theorem dL_law__423 : decode cL_law_ 423 = .ok (.invokestatic 108, 3) := by decide +kernel
theorem dL_law__426 : decode cL_law_ 426 = .ok (.istore 6, 2) := by decide +kernel
theorem dL_law__428 : decode cL_law_ 428 = .ok (.aload_n 2, 1) := by decide +kernel
theorem dL_law__429 : decode cL_law_ 429 = .ok (.aload_n 0, 1) := by decide +kernel
theorem dL_law__430 : decode cL_law_ 430 = .ok (.iload 5, 2) := by decide +kernel
theorem dL_law__432 : decode cL_law_ 432 = .ok (.iconst 1, 1) := by decide +kernel
theorem dL_law__433 : decode cL_law_ 433 = .ok (.iadd, 1) := by decide +kernel
theorem dL_law__434 : decode cL_law_ 434 = .ok (.iaload, 1) := by decide +kernel
theorem dL_law__435 : decode cL_law_ 435 = .ok (.aload_n 0, 1) := by decide +kernel
theorem dL_law__436 : decode cL_law_ 436 = .ok (.iload 5, 2) := by decide +kernel
theorem dL_law__438 : decode cL_law_ 438 = .ok (.iconst 2, 1) := by decide +kernel
theorem dL_law__439 : decode cL_law_ 439 = .ok (.iadd, 1) := by decide +kernel
theorem dL_law__440 : decode cL_law_ 440 = .ok (.iaload, 1) := by decide +kernel
theorem dL_law__441 : decode cL_law_ 441 = .ok (.invokevirtual 111, 3) := by decide +kernel
theorem dL_law__444 : decode cL_law_ 444 = .ok (.dstore 7, 2) := by decide +kernel
theorem dL_law__446 : decode cL_law_ 446 = .ok (.aload_n 2, 1) := by decide +kernel
theorem dL_law__447 : decode cL_law_ 447 = .ok (.invokevirtual 93, 3) := by decide +kernel
theorem dL_law__450 : decode cL_law_ 450 = .ok (.iload 6, 2) := by decide +kernel
theorem dL_law__452 : decode cL_law_ 452 = .ok (.if_icmp .eq 5, 3) := by decide +kernel
theorem dL_law__455 : decode cL_law_ 455 = .ok (.iconst 0, 1) := by decide +kernel
theorem dL_law__456 : decode cL_law_ 456 = .ok (.ireturn, 1) := by decide +kernel
theorem dL_law__457 : decode cL_law_ 457 = .ok (.iload 6, 2) := by decide +kernel
theorem dL_law__459 : decode cL_law_ 459 = .ok (.ifCond .ne 35, 3) := by decide +kernel
theorem dL_law__462 : decode cL_law_ 462 = .ok (.aload 4, 2) := by decide +kernel
theorem dL_law__464 : decode cL_law_ 464 = .ok (.iconst 0, 1) := by decide +kernel
theorem dL_law__465 : decode cL_law_ 465 = .ok (.daload, 1) := by decide +kernel
theorem dL_law__466 : decode cL_law_ 466 = .ok (.dload 7, 2) := by decide +kernel
theorem dL_law__468 : decode cL_law_ 468 = .ok (.dcmp .l, 1) := by decide +kernel
theorem dL_law__469 : decode cL_law_ 469 = .ok (.ifCond .eq 25, 3) := by decide +kernel
theorem dL_law__472 : decode cL_law_ 472 = .ok (.aload 4, 2) := by decide +kernel
theorem dL_law__474 : decode cL_law_ 474 = .ok (.iconst 0, 1) := by decide +kernel
theorem dL_law__475 : decode cL_law_ 475 = .ok (.daload, 1) := by decide +kernel
theorem dL_law__476 : decode cL_law_ 476 = .ok (.aload 4, 2) := by decide +kernel
theorem dL_law__478 : decode cL_law_ 478 = .ok (.iconst 0, 1) := by decide +kernel
theorem dL_law__479 : decode cL_law_ 479 = .ok (.daload, 1) := by decide +kernel
theorem dL_law__480 : decode cL_law_ 480 = .ok (.dcmp .l, 1) := by decide +kernel
theorem dL_law__481 : decode cL_law_ 481 = .ok (.ifCond .eq 11, 3) := by decide +kernel
theorem dL_law__484 : decode cL_law_ 484 = .ok (.dload 7, 2) := by decide +kernel
theorem dL_law__486 : decode cL_law_ 486 = .ok (.dload 7, 2) := by decide +kernel
theorem dL_law__488 : decode cL_law_ 488 = .ok (.dcmp .l, 1) := by decide +kernel
theorem dL_law__489 : decode cL_law_ 489 = .ok (.ifCond .ne 5, 3) := by decide +kernel
theorem dL_law__492 : decode cL_law_ 492 = .ok (.iconst 0, 1) := by decide +kernel
theorem dL_law__493 : decode cL_law_ 493 = .ok (.ireturn, 1) := by decide +kernel
theorem dL_law__494 : decode cL_law_ 494 = .ok (.goto 880, 3) := by decide +kernel
theorem dL_law__497 : decode cL_law_ 497 = .ok (.aload_n 1, 1) := by decide +kernel
theorem dL_law__498 : decode cL_law_ 498 = .ok (.aload_n 0, 1) := by decide +kernel
theorem dL_law__499 : decode cL_law_ 499 = .ok (.iload 5, 2) := by decide +kernel
theorem dL_law__501 : decode cL_law_ 501 = .ok (.iconst 1, 1) := by decide +kernel
theorem dL_law__502 : decode cL_law_ 502 = .ok (.iadd, 1) := by decide +kernel
theorem dL_law__503 : decode cL_law_ 503 = .ok (.iaload, 1) := by decide +kernel
theorem dL_law__504 : decode cL_law_ 504 = .ok (.aload_n 3, 1) := by decide +kernel
theorem dL_law__505 : decode cL_law_ 505 = .ok (.invokestatic 112, 3) := by decide +kernel
theorem dL_law__508 : decode cL_law_ 508 = .ok (.istore 6, 2) := by decide +kernel
theorem dL_law__510 : decode cL_law_ 510 = .ok (.aload_n 2, 1) := by decide +kernel
theorem dL_law__511 : decode cL_law_ 511 = .ok (.aload_n 0, 1) := by decide +kernel
theorem dL_law__512 : decode cL_law_ 512 = .ok (.iload 5, 2) := by decide +kernel
theorem dL_law__514 : decode cL_law_ 514 = .ok (.iconst 1, 1) := by decide +kernel
theorem dL_law__515 : decode cL_law_ 515 = .ok (.iadd, 1) := by decide +kernel
theorem dL_law__516 : decode cL_law_ 516 = .ok (.iaload, 1) := by decide +kernel
theorem dL_law__517 : decode cL_law_ 517 = .ok (.invokevirtual 115, 3) := by decide +kernel
theorem dL_law__520 : decode cL_law_ 520 = .ok (.istore 7, 2) := by decide +kernel
theorem dL_law__522 : decode cL_law_ 522 = .ok (.aload_n 2, 1) := by decide +kernel
theorem dL_law__523 : decode cL_law_ 523 = .ok (.invokevirtual 93, 3) := by decide +kernel
theorem dL_law__526 : decode cL_law_ 526 = .ok (.iload 6, 2) := by decide +kernel
theorem dL_law__528 : decode cL_law_ 528 = .ok (.if_icmp .eq 5, 3) := by decide +kernel
theorem dL_law__531 : decode cL_law_ 531 = .ok (.iconst 0, 1) := by decide +kernel
theorem dL_law__532 : decode cL_law_ 532 = .ok (.ireturn, 1) := by decide +kernel
theorem dL_law__533 : decode cL_law_ 533 = .ok (.iload 6, 2) := by decide +kernel
theorem dL_law__535 : decode cL_law_ 535 = .ok (.ifCond .ne 22, 3) := by decide +kernel
theorem dL_law__538 : decode cL_law_ 538 = .ok (.aload_n 3, 1) := by decide +kernel
theorem dL_law__539 : decode cL_law_ 539 = .ok (.iconst 0, 1) := by decide +kernel
theorem dL_law__540 : decode cL_law_ 540 = .ok (.laload, 1) := by decide +kernel
theorem dL_law__541 : decode cL_law_ 541 = .ok (.iload 7, 2) := by decide +kernel
theorem dL_law__543 : decode cL_law_ 543 = .ok (.ifCond .eq 7, 3) := by decide +kernel
theorem dL_law__546 : decode cL_law_ 546 = .ok (.lconst 1, 1) := by decide +kernel
theorem dL_law__547 : decode cL_law_ 547 = .ok (.goto 4, 3) := by decide +kernel
theorem dL_law__550 : decode cL_law_ 550 = .ok (.lconst 0, 1) := by decide +kernel
theorem dL_law__551 : decode cL_law_ 551 = .ok (.lcmp, 1) := by decide +kernel
theorem dL_law__552 : decode cL_law_ 552 = .ok (.ifCond .eq 5, 3) := by decide +kernel
theorem dL_law__555 : decode cL_law_ 555 = .ok (.iconst 0, 1) := by decide +kernel
theorem dL_law__556 : decode cL_law_ 556 = .ok (.ireturn, 1) := by decide +kernel
theorem dL_law__557 : decode cL_law_ 557 = .ok (.goto 817, 3) := by decide +kernel
theorem dL_law__560 : decode cL_law_ 560 = .ok (.aload_n 1, 1) := by decide +kernel
theorem dL_law__561 : decode cL_law_ 561 = .ok (.aload_n 0, 1) := by decide +kernel
theorem dL_law__562 : decode cL_law_ 562 = .ok (.iload 5, 2) := by decide +kernel
theorem dL_law__564 : decode cL_law_ 564 = .ok (.iconst 1, 1) := by decide +kernel
theorem dL_law__565 : decode cL_law_ 565 = .ok (.iadd, 1) := by decide +kernel
theorem dL_law__566 : decode cL_law_ 566 = .ok (.iaload, 1) := by decide +kernel
theorem dL_law__567 : decode cL_law_ 567 = .ok (.aload_n 0, 1) := by decide +kernel
theorem dL_law__568 : decode cL_law_ 568 = .ok (.iload 5, 2) := by decide +kernel
theorem dL_law__570 : decode cL_law_ 570 = .ok (.iconst 2, 1) := by decide +kernel
theorem dL_law__571 : decode cL_law_ 571 = .ok (.iadd, 1) := by decide +kernel
theorem dL_law__572 : decode cL_law_ 572 = .ok (.iaload, 1) := by decide +kernel
theorem dL_law__573 : decode cL_law_ 573 = .ok (.i2d, 1) := by decide +kernel
theorem dL_law__574 : decode cL_law_ 574 = .ok (.ldc2_w 87, 3) := by decide +kernel
theorem dL_law__577 : decode cL_law_ 577 = .ok (.dmul, 1) := by decide +kernel
theorem dL_law__578 : decode cL_law_ 578 = .ok (.aload_n 0, 1) := by decide +kernel
theorem dL_law__579 : decode cL_law_ 579 = .ok (.iload 5, 2) := by decide +kernel
theorem dL_law__581 : decode cL_law_ 581 = .ok (.iconst 3, 1) := by decide +kernel
theorem dL_law__582 : decode cL_law_ 582 = .ok (.iadd, 1) := by decide +kernel
theorem dL_law__583 : decode cL_law_ 583 = .ok (.iaload, 1) := by decide +kernel
theorem dL_law__584 : decode cL_law_ 584 = .ok (.i2d, 1) := by decide +kernel
theorem dL_law__585 : decode cL_law_ 585 = .ok (.ldc2_w 87, 3) := by decide +kernel
theorem dL_law__588 : decode cL_law_ 588 = .ok (.dmul, 1) := by decide +kernel
theorem dL_law__589 : decode cL_law_ 589 = .ok (.aload_n 3, 1) := by decide +kernel
theorem dL_law__590 : decode cL_law_ 590 = .ok (.invokestatic 116, 3) := by decide +kernel
theorem dL_law__593 : decode cL_law_ 593 = .ok (.istore 6, 2) := by decide +kernel
theorem dL_law__595 : decode cL_law_ 595 = .ok (.aload_n 2, 1) := by decide +kernel
theorem dL_law__596 : decode cL_law_ 596 = .ok (.aload_n 0, 1) := by decide +kernel
theorem dL_law__597 : decode cL_law_ 597 = .ok (.iload 5, 2) := by decide +kernel
theorem dL_law__599 : decode cL_law_ 599 = .ok (.iconst 1, 1) := by decide +kernel
theorem dL_law__600 : decode cL_law_ 600 = .ok (.iadd, 1) := by decide +kernel
theorem dL_law__601 : decode cL_law_ 601 = .ok (.iaload, 1) := by decide +kernel
theorem dL_law__602 : decode cL_law_ 602 = .ok (.aload_n 0, 1) := by decide +kernel
theorem dL_law__603 : decode cL_law_ 603 = .ok (.iload 5, 2) := by decide +kernel
theorem dL_law__605 : decode cL_law_ 605 = .ok (.iconst 2, 1) := by decide +kernel
theorem dL_law__606 : decode cL_law_ 606 = .ok (.iadd, 1) := by decide +kernel
theorem dL_law__607 : decode cL_law_ 607 = .ok (.iaload, 1) := by decide +kernel
theorem dL_law__608 : decode cL_law_ 608 = .ok (.i2d, 1) := by decide +kernel
theorem dL_law__609 : decode cL_law_ 609 = .ok (.ldc2_w 87, 3) := by decide +kernel
theorem dL_law__612 : decode cL_law_ 612 = .ok (.dmul, 1) := by decide +kernel
theorem dL_law__613 : decode cL_law_ 613 = .ok (.aload_n 0, 1) := by decide +kernel
theorem dL_law__614 : decode cL_law_ 614 = .ok (.iload 5, 2) := by decide +kernel
theorem dL_law__616 : decode cL_law_ 616 = .ok (.iconst 3, 1) := by decide +kernel
theorem dL_law__617 : decode cL_law_ 617 = .ok (.iadd, 1) := by decide +kernel
theorem dL_law__618 : decode cL_law_ 618 = .ok (.iaload, 1) := by decide +kernel
theorem dL_law__619 : decode cL_law_ 619 = .ok (.i2d, 1) := by decide +kernel
theorem dL_law__620 : decode cL_law_ 620 = .ok (.ldc2_w 87, 3) := by decide +kernel
theorem dL_law__623 : decode cL_law_ 623 = .ok (.dmul, 1) := by decide +kernel
theorem dL_law__624 : decode cL_law_ 624 = .ok (.invokevirtual 119, 3) := by decide +kernel
theorem dL_law__627 : decode cL_law_ 627 = .ok (.istore 7, 2) := by decide +kernel
theorem dL_law__629 : decode cL_law_ 629 = .ok (.aload_n 2, 1) := by decide +kernel
theorem dL_law__630 : decode cL_law_ 630 = .ok (.invokevirtual 93, 3) := by decide +kernel
theorem dL_law__633 : decode cL_law_ 633 = .ok (.iload 6, 2) := by decide +kernel
theorem dL_law__635 : decode cL_law_ 635 = .ok (.if_icmp .eq 5, 3) := by decide +kernel
theorem dL_law__638 : decode cL_law_ 638 = .ok (.iconst 0, 1) := by decide +kernel
theorem dL_law__639 : decode cL_law_ 639 = .ok (.ireturn, 1) := by decide +kernel
theorem dL_law__640 : decode cL_law_ 640 = .ok (.iload 6, 2) := by decide +kernel
theorem dL_law__642 : decode cL_law_ 642 = .ok (.ifCond .ne 22, 3) := by decide +kernel
theorem dL_law__645 : decode cL_law_ 645 = .ok (.aload_n 3, 1) := by decide +kernel
theorem dL_law__646 : decode cL_law_ 646 = .ok (.iconst 0, 1) := by decide +kernel
theorem dL_law__647 : decode cL_law_ 647 = .ok (.laload, 1) := by decide +kernel
theorem dL_law__648 : decode cL_law_ 648 = .ok (.iload 7, 2) := by decide +kernel
theorem dL_law__650 : decode cL_law_ 650 = .ok (.ifCond .eq 7, 3) := by decide +kernel
theorem dL_law__653 : decode cL_law_ 653 = .ok (.lconst 1, 1) := by decide +kernel
theorem dL_law__654 : decode cL_law_ 654 = .ok (.goto 4, 3) := by decide +kernel
theorem dL_law__657 : decode cL_law_ 657 = .ok (.lconst 0, 1) := by decide +kernel
theorem dL_law__658 : decode cL_law_ 658 = .ok (.lcmp, 1) := by decide +kernel
theorem dL_law__659 : decode cL_law_ 659 = .ok (.ifCond .eq 5, 3) := by decide +kernel
theorem dL_law__662 : decode cL_law_ 662 = .ok (.iconst 0, 1) := by decide +kernel
theorem dL_law__663 : decode cL_law_ 663 = .ok (.ireturn, 1) := by decide +kernel
theorem dL_law__664 : decode cL_law_ 664 = .ok (.goto 710, 3) := by decide +kernel
theorem dL_law__667 : decode cL_law_ 667 = .ok (.aload_n 1, 1) := by decide +kernel
theorem dL_law__668 : decode cL_law_ 668 = .ok (.aload_n 0, 1) := by decide +kernel
theorem dL_law__669 : decode cL_law_ 669 = .ok (.iload 5, 2) := by decide +kernel
theorem dL_law__671 : decode cL_law_ 671 = .ok (.iconst 1, 1) := by decide +kernel
theorem dL_law__672 : decode cL_law_ 672 = .ok (.iadd, 1) := by decide +kernel
theorem dL_law__673 : decode cL_law_ 673 = .ok (.iaload, 1) := by decide +kernel
theorem dL_law__674 : decode cL_law_ 674 = .ok (.aload_n 3, 1) := by decide +kernel
theorem dL_law__675 : decode cL_law_ 675 = .ok (.invokestatic 120, 3) := by decide +kernel
theorem dL_law__678 : decode cL_law_ 678 = .ok (.istore 6, 2) := by decide +kernel
theorem dL_law__680 : decode cL_law_ 680 = .ok (.aload_n 2, 1) := by decide +kernel
theorem dL_law__681 : decode cL_law_ 681 = .ok (.aload_n 0, 1) := by decide +kernel
theorem dL_law__682 : decode cL_law_ 682 = .ok (.iload 5, 2) := by decide +kernel
theorem dL_law__684 : decode cL_law_ 684 = .ok (.iconst 1, 1) := by decide +kernel
theorem dL_law__685 : decode cL_law_ 685 = .ok (.iadd, 1) := by decide +kernel
theorem dL_law__686 : decode cL_law_ 686 = .ok (.iaload, 1) := by decide +kernel
theorem dL_law__687 : decode cL_law_ 687 = .ok (.invokevirtual 122, 3) := by decide +kernel
theorem dL_law__690 : decode cL_law_ 690 = .ok (.istore 7, 2) := by decide +kernel
theorem dL_law__692 : decode cL_law_ 692 = .ok (.aload_n 2, 1) := by decide +kernel
theorem dL_law__693 : decode cL_law_ 693 = .ok (.invokevirtual 93, 3) := by decide +kernel
theorem dL_law__696 : decode cL_law_ 696 = .ok (.iload 6, 2) := by decide +kernel
theorem dL_law__698 : decode cL_law_ 698 = .ok (.if_icmp .eq 5, 3) := by decide +kernel
theorem dL_law__701 : decode cL_law_ 701 = .ok (.iconst 0, 1) := by decide +kernel
theorem dL_law__702 : decode cL_law_ 702 = .ok (.ireturn, 1) := by decide +kernel
theorem dL_law__703 : decode cL_law_ 703 = .ok (.iload 6, 2) := by decide +kernel
theorem dL_law__705 : decode cL_law_ 705 = .ok (.ifCond .ne 15, 3) := by decide +kernel
theorem dL_law__708 : decode cL_law_ 708 = .ok (.aload_n 3, 1) := by decide +kernel
theorem dL_law__709 : decode cL_law_ 709 = .ok (.iconst 0, 1) := by decide +kernel
theorem dL_law__710 : decode cL_law_ 710 = .ok (.laload, 1) := by decide +kernel
theorem dL_law__711 : decode cL_law_ 711 = .ok (.iload 7, 2) := by decide +kernel
theorem dL_law__713 : decode cL_law_ 713 = .ok (.i2l, 1) := by decide +kernel
theorem dL_law__714 : decode cL_law_ 714 = .ok (.lcmp, 1) := by decide +kernel
theorem dL_law__715 : decode cL_law_ 715 = .ok (.ifCond .eq 5, 3) := by decide +kernel
theorem dL_law__718 : decode cL_law_ 718 = .ok (.iconst 0, 1) := by decide +kernel
theorem dL_law__719 : decode cL_law_ 719 = .ok (.ireturn, 1) := by decide +kernel
theorem dL_law__720 : decode cL_law_ 720 = .ok (.goto 654, 3) := by decide +kernel
theorem dL_law__723 : decode cL_law_ 723 = .ok (.aload_n 1, 1) := by decide +kernel
theorem dL_law__724 : decode cL_law_ 724 = .ok (.aload 4, 2) := by decide +kernel
theorem dL_law__726 : decode cL_law_ 726 = .ok (.invokestatic 123, 3) := by decide +kernel
theorem dL_law__729 : decode cL_law_ 729 = .ok (.istore 6, 2) := by decide +kernel
theorem dL_law__731 : decode cL_law_ 731 = .ok (.aload_n 2, 1) := by decide +kernel
theorem dL_law__732 : decode cL_law_ 732 = .ok (.invokevirtual 126, 3) := by decide +kernel
theorem dL_law__735 : decode cL_law_ 735 = .ok (.dstore 7, 2) := by decide +kernel
theorem dL_law__737 : decode cL_law_ 737 = .ok (.aload_n 2, 1) := by decide +kernel
theorem dL_law__738 : decode cL_law_ 738 = .ok (.invokevirtual 93, 3) := by decide +kernel
theorem dL_law__741 : decode cL_law_ 741 = .ok (.iload 6, 2) := by decide +kernel
theorem dL_law__743 : decode cL_law_ 743 = .ok (.if_icmp .eq 5, 3) := by decide +kernel
theorem dL_law__746 : decode cL_law_ 746 = .ok (.iconst 0, 1) := by decide +kernel
theorem dL_law__747 : decode cL_law_ 747 = .ok (.ireturn, 1) := by decide +kernel
theorem dL_law__748 : decode cL_law_ 748 = .ok (.iload 6, 2) := by decide +kernel
theorem dL_law__750 : decode cL_law_ 750 = .ok (.ifCond .ne 35, 3) := by decide +kernel
theorem dL_law__753 : decode cL_law_ 753 = .ok (.aload 4, 2) := by decide +kernel
theorem dL_law__755 : decode cL_law_ 755 = .ok (.iconst 0, 1) := by decide +kernel
theorem dL_law__756 : decode cL_law_ 756 = .ok (.daload, 1) := by decide +kernel
theorem dL_law__757 : decode cL_law_ 757 = .ok (.dload 7, 2) := by decide +kernel
theorem dL_law__759 : decode cL_law_ 759 = .ok (.dcmp .l, 1) := by decide +kernel
theorem dL_law__760 : decode cL_law_ 760 = .ok (.ifCond .eq 25, 3) := by decide +kernel
theorem dL_law__763 : decode cL_law_ 763 = .ok (.aload 4, 2) := by decide +kernel
theorem dL_law__765 : decode cL_law_ 765 = .ok (.iconst 0, 1) := by decide +kernel
theorem dL_law__766 : decode cL_law_ 766 = .ok (.daload, 1) := by decide +kernel
theorem dL_law__767 : decode cL_law_ 767 = .ok (.aload 4, 2) := by decide +kernel
theorem dL_law__769 : decode cL_law_ 769 = .ok (.iconst 0, 1) := by decide +kernel
theorem dL_law__770 : decode cL_law_ 770 = .ok (.daload, 1) := by decide +kernel
theorem dL_law__771 : decode cL_law_ 771 = .ok (.dcmp .l, 1) := by decide +kernel
theorem dL_law__772 : decode cL_law_ 772 = .ok (.ifCond .eq 11, 3) := by decide +kernel
theorem dL_law__775 : decode cL_law_ 775 = .ok (.dload 7, 2) := by decide +kernel
theorem dL_law__777 : decode cL_law_ 777 = .ok (.dload 7, 2) := by decide +kernel
theorem dL_law__779 : decode cL_law_ 779 = .ok (.dcmp .l, 1) := by decide +kernel
theorem dL_law__780 : decode cL_law_ 780 = .ok (.ifCond .ne 5, 3) := by decide +kernel
theorem dL_law__783 : decode cL_law_ 783 = .ok (.iconst 0, 1) := by decide +kernel
theorem dL_law__784 : decode cL_law_ 784 = .ok (.ireturn, 1) := by decide +kernel
theorem dL_law__785 : decode cL_law_ 785 = .ok (.goto 589, 3) := by decide +kernel
theorem dL_law__788 : decode cL_law_ 788 = .ok (.aload_n 1, 1) := by decide +kernel
theorem dL_law__789 : decode cL_law_ 789 = .ok (.aload 4, 2) := by decide +kernel
theorem dL_law__791 : decode cL_law_ 791 = .ok (.invokestatic 127, 3) := by decide +kernel
theorem dL_law__794 : decode cL_law_ 794 = .ok (.istore 6, 2) := by decide +kernel
theorem dL_law__796 : decode cL_law_ 796 = .ok (.aload_n 2, 1) := by decide +kernel
theorem dL_law__797 : decode cL_law_ 797 = .ok (.invokevirtual 129, 3) := by decide +kernel
theorem dL_law__800 : decode cL_law_ 800 = .ok (.dstore 7, 2) := by decide +kernel
theorem dL_law__802 : decode cL_law_ 802 = .ok (.aload_n 2, 1) := by decide +kernel
theorem dL_law__803 : decode cL_law_ 803 = .ok (.invokevirtual 93, 3) := by decide +kernel
theorem dL_law__806 : decode cL_law_ 806 = .ok (.iload 6, 2) := by decide +kernel
theorem dL_law__808 : decode cL_law_ 808 = .ok (.if_icmp .eq 5, 3) := by decide +kernel
theorem dL_law__811 : decode cL_law_ 811 = .ok (.iconst 0, 1) := by decide +kernel
theorem dL_law__812 : decode cL_law_ 812 = .ok (.ireturn, 1) := by decide +kernel
theorem dL_law__813 : decode cL_law_ 813 = .ok (.iload 6, 2) := by decide +kernel
theorem dL_law__815 : decode cL_law_ 815 = .ok (.ifCond .ne 35, 3) := by decide +kernel
theorem dL_law__818 : decode cL_law_ 818 = .ok (.aload 4, 2) := by decide +kernel
theorem dL_law__820 : decode cL_law_ 820 = .ok (.iconst 0, 1) := by decide +kernel
theorem dL_law__821 : decode cL_law_ 821 = .ok (.daload, 1) := by decide +kernel
theorem dL_law__822 : decode cL_law_ 822 = .ok (.dload 7, 2) := by decide +kernel
theorem dL_law__824 : decode cL_law_ 824 = .ok (.dcmp .l, 1) := by decide +kernel
theorem dL_law__825 : decode cL_law_ 825 = .ok (.ifCond .eq 25, 3) := by decide +kernel
theorem dL_law__828 : decode cL_law_ 828 = .ok (.aload 4, 2) := by decide +kernel
theorem dL_law__830 : decode cL_law_ 830 = .ok (.iconst 0, 1) := by decide +kernel
theorem dL_law__831 : decode cL_law_ 831 = .ok (.daload, 1) := by decide +kernel
theorem dL_law__832 : decode cL_law_ 832 = .ok (.aload 4, 2) := by decide +kernel
theorem dL_law__834 : decode cL_law_ 834 = .ok (.iconst 0, 1) := by decide +kernel
theorem dL_law__835 : decode cL_law_ 835 = .ok (.daload, 1) := by decide +kernel
theorem dL_law__836 : decode cL_law_ 836 = .ok (.dcmp .l, 1) := by decide +kernel
theorem dL_law__837 : decode cL_law_ 837 = .ok (.ifCond .eq 11, 3) := by decide +kernel
theorem dL_law__840 : decode cL_law_ 840 = .ok (.dload 7, 2) := by decide +kernel
theorem dL_law__842 : decode cL_law_ 842 = .ok (.dload 7, 2) := by decide +kernel
theorem dL_law__844 : decode cL_law_ 844 = .ok (.dcmp .l, 1) := by decide +kernel
theorem dL_law__845 : decode cL_law_ 845 = .ok (.ifCond .ne 5, 3) := by decide +kernel
theorem dL_law__848 : decode cL_law_ 848 = .ok (.iconst 0, 1) := by decide +kernel
theorem dL_law__849 : decode cL_law_ 849 = .ok (.ireturn, 1) := by decide +kernel
theorem dL_law__850 : decode cL_law_ 850 = .ok (.goto 524, 3) := by decide +kernel
theorem dL_law__853 : decode cL_law_ 853 = .ok (.aload_n 1, 1) := by decide +kernel
theorem dL_law__854 : decode cL_law_ 854 = .ok (.aload 4, 2) := by decide +kernel
theorem dL_law__856 : decode cL_law_ 856 = .ok (.invokestatic 130, 3) := by decide +kernel
theorem dL_law__859 : decode cL_law_ 859 = .ok (.istore 6, 2) := by decide +kernel
theorem dL_law__861 : decode cL_law_ 861 = .ok (.aload_n 2, 1) := by decide +kernel
theorem dL_law__862 : decode cL_law_ 862 = .ok (.invokevirtual 132, 3) := by decide +kernel
theorem dL_law__865 : decode cL_law_ 865 = .ok (.dstore 7, 2) := by decide +kernel
theorem dL_law__867 : decode cL_law_ 867 = .ok (.aload_n 2, 1) := by decide +kernel
theorem dL_law__868 : decode cL_law_ 868 = .ok (.invokevirtual 93, 3) := by decide +kernel
theorem dL_law__871 : decode cL_law_ 871 = .ok (.iload 6, 2) := by decide +kernel
theorem dL_law__873 : decode cL_law_ 873 = .ok (.if_icmp .eq 5, 3) := by decide +kernel
theorem dL_law__876 : decode cL_law_ 876 = .ok (.iconst 0, 1) := by decide +kernel
theorem dL_law__877 : decode cL_law_ 877 = .ok (.ireturn, 1) := by decide +kernel
theorem dL_law__878 : decode cL_law_ 878 = .ok (.iload 6, 2) := by decide +kernel
theorem dL_law__880 : decode cL_law_ 880 = .ok (.ifCond .ne 35, 3) := by decide +kernel
theorem dL_law__883 : decode cL_law_ 883 = .ok (.aload 4, 2) := by decide +kernel
theorem dL_law__885 : decode cL_law_ 885 = .ok (.iconst 0, 1) := by decide +kernel
theorem dL_law__886 : decode cL_law_ 886 = .ok (.daload, 1) := by decide +kernel
theorem dL_law__887 : decode cL_law_ 887 = .ok (.dload 7, 2) := by decide +kernel
theorem dL_law__889 : decode cL_law_ 889 = .ok (.dcmp .l, 1) := by decide +kernel
theorem dL_law__890 : decode cL_law_ 890 = .ok (.ifCond .eq 25, 3) := by decide +kernel
theorem dL_law__893 : decode cL_law_ 893 = .ok (.aload 4, 2) := by decide +kernel
theorem dL_law__895 : decode cL_law_ 895 = .ok (.iconst 0, 1) := by decide +kernel
theorem dL_law__896 : decode cL_law_ 896 = .ok (.daload, 1) := by decide +kernel
theorem dL_law__897 : decode cL_law_ 897 = .ok (.aload 4, 2) := by decide +kernel
theorem dL_law__899 : decode cL_law_ 899 = .ok (.iconst 0, 1) := by decide +kernel
theorem dL_law__900 : decode cL_law_ 900 = .ok (.daload, 1) := by decide +kernel
theorem dL_law__901 : decode cL_law_ 901 = .ok (.dcmp .l, 1) := by decide +kernel
theorem dL_law__902 : decode cL_law_ 902 = .ok (.ifCond .eq 11, 3) := by decide +kernel
theorem dL_law__905 : decode cL_law_ 905 = .ok (.dload 7, 2) := by decide +kernel
theorem dL_law__907 : decode cL_law_ 907 = .ok (.dload 7, 2) := by decide +kernel
theorem dL_law__909 : decode cL_law_ 909 = .ok (.dcmp .l, 1) := by decide +kernel
theorem dL_law__910 : decode cL_law_ 910 = .ok (.ifCond .ne 5, 3) := by decide +kernel
theorem dL_law__913 : decode cL_law_ 913 = .ok (.iconst 0, 1) := by decide +kernel
theorem dL_law__914 : decode cL_law_ 914 = .ok (.ireturn, 1) := by decide +kernel
theorem dL_law__915 : decode cL_law_ 915 = .ok (.goto 459, 3) := by decide +kernel
theorem dL_law__918 : decode cL_law_ 918 = .ok (.aload_n 1, 1) := by decide +kernel
theorem dL_law__919 : decode cL_law_ 919 = .ok (.aload_n 0, 1) := by decide +kernel
theorem dL_law__920 : decode cL_law_ 920 = .ok (.iload 5, 2) := by decide +kernel
theorem dL_law__922 : decode cL_law_ 922 = .ok (.iconst 1, 1) := by decide +kernel
theorem dL_law__923 : decode cL_law_ 923 = .ok (.iadd, 1) := by decide +kernel
theorem dL_law__924 : decode cL_law_ 924 = .ok (.iaload, 1) := by decide +kernel
theorem dL_law__925 : decode cL_law_ 925 = .ok (.aload_n 0, 1) := by decide +kernel
theorem dL_law__926 : decode cL_law_ 926 = .ok (.iload 5, 2) := by decide +kernel
theorem dL_law__928 : decode cL_law_ 928 = .ok (.iconst 2, 1) := by decide +kernel
theorem dL_law__929 : decode cL_law_ 929 = .ok (.iadd, 1) := by decide +kernel
theorem dL_law__930 : decode cL_law_ 930 = .ok (.iaload, 1) := by decide +kernel
theorem dL_law__931 : decode cL_law_ 931 = .ok (.i2d, 1) := by decide +kernel
theorem dL_law__932 : decode cL_law_ 932 = .ok (.ldc2_w 87, 3) := by decide +kernel
theorem dL_law__935 : decode cL_law_ 935 = .ok (.dmul, 1) := by decide +kernel
theorem dL_law__936 : decode cL_law_ 936 = .ok (.aload_n 0, 1) := by decide +kernel
theorem dL_law__937 : decode cL_law_ 937 = .ok (.iload 5, 2) := by decide +kernel
theorem dL_law__939 : decode cL_law_ 939 = .ok (.iconst 3, 1) := by decide +kernel
theorem dL_law__940 : decode cL_law_ 940 = .ok (.iadd, 1) := by decide +kernel
theorem dL_law__941 : decode cL_law_ 941 = .ok (.iaload, 1) := by decide +kernel
theorem dL_law__942 : decode cL_law_ 942 = .ok (.aload_n 3, 1) := by decide +kernel
theorem dL_law__943 : decode cL_law_ 943 = .ok (.invokestatic 133, 3) := by decide +kernel
theorem dL_law__946 : decode cL_law_ 946 = .ok (.istore 6, 2) := by decide +kernel
theorem dL_law__948 : decode cL_law_ 948 = .ok (.aload_n 2, 1) := by decide +kernel
theorem dL_law__949 : decode cL_law_ 949 = .ok (.aload_n 0, 1) := by decide +kernel
theorem dL_law__950 : decode cL_law_ 950 = .ok (.iload 5, 2) := by decide +kernel
theorem dL_law__952 : decode cL_law_ 952 = .ok (.iconst 1, 1) := by decide +kernel
theorem dL_law__953 : decode cL_law_ 953 = .ok (.iadd, 1) := by decide +kernel
theorem dL_law__954 : decode cL_law_ 954 = .ok (.iaload, 1) := by decide +kernel
theorem dL_law__955 : decode cL_law_ 955 = .ok (.aload_n 0, 1) := by decide +kernel
theorem dL_law__956 : decode cL_law_ 956 = .ok (.iload 5, 2) := by decide +kernel
theorem dL_law__958 : decode cL_law_ 958 = .ok (.iconst 2, 1) := by decide +kernel
theorem dL_law__959 : decode cL_law_ 959 = .ok (.iadd, 1) := by decide +kernel
theorem dL_law__960 : decode cL_law_ 960 = .ok (.iaload, 1) := by decide +kernel
theorem dL_law__961 : decode cL_law_ 961 = .ok (.i2d, 1) := by decide +kernel
theorem dL_law__962 : decode cL_law_ 962 = .ok (.ldc2_w 87, 3) := by decide +kernel
theorem dL_law__965 : decode cL_law_ 965 = .ok (.dmul, 1) := by decide +kernel
theorem dL_law__966 : decode cL_law_ 966 = .ok (.aload_n 0, 1) := by decide +kernel
theorem dL_law__967 : decode cL_law_ 967 = .ok (.iload 5, 2) := by decide +kernel
theorem dL_law__969 : decode cL_law_ 969 = .ok (.iconst 3, 1) := by decide +kernel
theorem dL_law__970 : decode cL_law_ 970 = .ok (.iadd, 1) := by decide +kernel
theorem dL_law__971 : decode cL_law_ 971 = .ok (.iaload, 1) := by decide +kernel
theorem dL_law__972 : decode cL_law_ 972 = .ok (.invokevirtual 136, 3) := by decide +kernel
theorem dL_law__975 : decode cL_law_ 975 = .ok (.istore 7, 2) := by decide +kernel
theorem dL_law__977 : decode cL_law_ 977 = .ok (.aload_n 2, 1) := by decide +kernel
theorem dL_law__978 : decode cL_law_ 978 = .ok (.invokevirtual 93, 3) := by decide +kernel
theorem dL_law__981 : decode cL_law_ 981 = .ok (.iload 6, 2) := by decide +kernel
theorem dL_law__983 : decode cL_law_ 983 = .ok (.if_icmp .eq 5, 3) := by decide +kernel
theorem dL_law__986 : decode cL_law_ 986 = .ok (.iconst 0, 1) := by decide +kernel
theorem dL_law__987 : decode cL_law_ 987 = .ok (.ireturn, 1) := by decide +kernel
theorem dL_law__988 : decode cL_law_ 988 = .ok (.iload 6, 2) := by decide +kernel
theorem dL_law__990 : decode cL_law_ 990 = .ok (.ifCond .ne 15, 3) := by decide +kernel
theorem dL_law__993 : decode cL_law_ 993 = .ok (.aload_n 3, 1) := by decide +kernel
theorem dL_law__994 : decode cL_law_ 994 = .ok (.iconst 0, 1) := by decide +kernel
theorem dL_law__995 : decode cL_law_ 995 = .ok (.laload, 1) := by decide +kernel
theorem dL_law__996 : decode cL_law_ 996 = .ok (.iload 7, 2) := by decide +kernel
theorem dL_law__998 : decode cL_law_ 998 = .ok (.i2l, 1) := by decide +kernel
theorem dL_law__999 : decode cL_law_ 999 = .ok (.lcmp, 1) := by decide +kernel
theorem dL_law__1000 : decode cL_law_ 1000 = .ok (.ifCond .eq 5, 3) := by decide +kernel
theorem dL_law__1003 : decode cL_law_ 1003 = .ok (.iconst 0, 1) := by decide +kernel
theorem dL_law__1004 : decode cL_law_ 1004 = .ok (.ireturn, 1) := by decide +kernel
theorem dL_law__1005 : decode cL_law_ 1005 = .ok (.goto 369, 3) := by decide +kernel
theorem dL_law__1008 : decode cL_law_ 1008 = .ok (.aload_n 1, 1) := by decide +kernel
theorem dL_law__1009 : decode cL_law_ 1009 = .ok (.aload_n 3, 1) := by decide +kernel
theorem dL_law__1010 : decode cL_law_ 1010 = .ok (.invokestatic 137, 3) := by decide +kernel
theorem dL_law__1013 : decode cL_law_ 1013 = .ok (.istore 6, 2) := by decide +kernel
theorem dL_law__1015 : decode cL_law_ 1015 = .ok (.aload_n 2, 1) := by decide +kernel
theorem dL_law__1016 : decode cL_law_ 1016 = .ok (.invokevirtual 140, 3) := by decide +kernel
theorem dL_law__1019 : decode cL_law_ 1019 = .ok (.istore 7, 2) := by decide +kernel
theorem dL_law__1021 : decode cL_law_ 1021 = .ok (.aload_n 2, 1) := by decide +kernel
theorem dL_law__1022 : decode cL_law_ 1022 = .ok (.invokevirtual 93, 3) := by decide +kernel
theorem dL_law__1025 : decode cL_law_ 1025 = .ok (.iload 6, 2) := by decide +kernel
theorem dL_law__1027 : decode cL_law_ 1027 = .ok (.if_icmp .eq 5, 3) := by decide +kernel
theorem dL_law__1030 : decode cL_law_ 1030 = .ok (.iconst 0, 1) := by decide +kernel
theorem dL_law__1031 : decode cL_law_ 1031 = .ok (.ireturn, 1) := by decide +kernel
theorem dL_law__1032 : decode cL_law_ 1032 = .ok (.iload 6, 2) := by decide +kernel
theorem dL_law__1034 : decode cL_law_ 1034 = .ok (.ifCond .ne 15, 3) := by decide +kernel
theorem dL_law__1037 : decode cL_law_ 1037 = .ok (.aload_n 3, 1) := by decide +kernel
theorem dL_law__1038 : decode cL_law_ 1038 = .ok (.iconst 0, 1) := by decide +kernel
theorem dL_law__1039 : decode cL_law_ 1039 = .ok (.laload, 1) := by decide +kernel
theorem dL_law__1040 : decode cL_law_ 1040 = .ok (.iload 7, 2) := by decide +kernel
theorem dL_law__1042 : decode cL_law_ 1042 = .ok (.i2l, 1) := by decide +kernel
theorem dL_law__1043 : decode cL_law_ 1043 = .ok (.lcmp, 1) := by decide +kernel
theorem dL_law__1044 : decode cL_law_ 1044 = .ok (.ifCond .eq 5, 3) := by decide +kernel
theorem dL_law__1047 : decode cL_law_ 1047 = .ok (.iconst 0, 1) := by decide +kernel
theorem dL_law__1048 : decode cL_law_ 1048 = .ok (.ireturn, 1) := by decide +kernel
theorem dL_law__1049 : decode cL_law_ 1049 = .ok (.goto 325, 3) := by decide +kernel
theorem dL_law__1052 : decode cL_law_ 1052 = .ok (.aload_n 1, 1) := by decide +kernel
theorem dL_law__1053 : decode cL_law_ 1053 = .ok (.invokestatic 141, 3) := by decide +kernel
theorem dL_law__1056 : decode cL_law_ 1056 = .ok (.istore 6, 2) := by decide +kernel
theorem dL_law__1058 : decode cL_law_ 1058 = .ok (.aload_n 2, 1) := by decide +kernel
theorem dL_law__1059 : decode cL_law_ 1059 = .ok (.invokevirtual 144, 3) := by decide +kernel
theorem dL_law__1062 : decode cL_law_ 1062 = .ok (.aload_n 2, 1) := by decide +kernel
theorem dL_law__1063 : decode cL_law_ 1063 = .ok (.invokevirtual 93, 3) := by decide +kernel
theorem dL_law__1066 : decode cL_law_ 1066 = .ok (.iload 6, 2) := by decide +kernel
theorem dL_law__1068 : decode cL_law_ 1068 = .ok (.if_icmp .eq 5, 3) := by decide +kernel
theorem dL_law__1071 : decode cL_law_ 1071 = .ok (.iconst 0, 1) := by decide +kernel
theorem dL_law__1072 : decode cL_law_ 1072 = .ok (.ireturn, 1) := by decide +kernel
theorem dL_law__1073 : decode cL_law_ 1073 = .ok (.goto 301, 3) := by decide +kernel
theorem dL_law__1076 : decode cL_law_ 1076 = .ok (.aload_n 1, 1) := by decide +kernel
theorem dL_law__1077 : decode cL_law_ 1077 = .ok (.aload_n 0, 1) := by decide +kernel
theorem dL_law__1078 : decode cL_law_ 1078 = .ok (.iload 5, 2) := by decide +kernel
theorem dL_law__1080 : decode cL_law_ 1080 = .ok (.iconst 1, 1) := by decide +kernel
theorem dL_law__1081 : decode cL_law_ 1081 = .ok (.iadd, 1) := by decide +kernel
theorem dL_law__1082 : decode cL_law_ 1082 = .ok (.iaload, 1) := by decide +kernel
theorem dL_law__1083 : decode cL_law_ 1083 = .ok (.aload 4, 2) := by decide +kernel
theorem dL_law__1085 : decode cL_law_ 1085 = .ok (.invokestatic 145, 3) := by decide +kernel
theorem dL_law__1088 : decode cL_law_ 1088 = .ok (.istore 6, 2) := by decide +kernel
theorem dL_law__1090 : decode cL_law_ 1090 = .ok (.aload_n 2, 1) := by decide +kernel
theorem dL_law__1091 : decode cL_law_ 1091 = .ok (.aload_n 0, 1) := by decide +kernel
theorem dL_law__1092 : decode cL_law_ 1092 = .ok (.iload 5, 2) := by decide +kernel
theorem dL_law__1094 : decode cL_law_ 1094 = .ok (.iconst 1, 1) := by decide +kernel
theorem dL_law__1095 : decode cL_law_ 1095 = .ok (.iadd, 1) := by decide +kernel
theorem dL_law__1096 : decode cL_law_ 1096 = .ok (.iaload, 1) := by decide +kernel
theorem dL_law__1097 : decode cL_law_ 1097 = .ok (.invokevirtual 148, 3) := by decide +kernel
theorem dL_law__1100 : decode cL_law_ 1100 = .ok (.dstore 7, 2) := by decide +kernel
theorem dL_law__1102 : decode cL_law_ 1102 = .ok (.aload_n 2, 1) := by decide +kernel
theorem dL_law__1103 : decode cL_law_ 1103 = .ok (.invokevirtual 93, 3) := by decide +kernel
theorem dL_law__1106 : decode cL_law_ 1106 = .ok (.iload 6, 2) := by decide +kernel
theorem dL_law__1108 : decode cL_law_ 1108 = .ok (.if_icmp .eq 5, 3) := by decide +kernel
theorem dL_law__1111 : decode cL_law_ 1111 = .ok (.iconst 0, 1) := by decide +kernel
theorem dL_law__1112 : decode cL_law_ 1112 = .ok (.ireturn, 1) := by decide +kernel
theorem dL_law__1113 : decode cL_law_ 1113 = .ok (.iload 6, 2) := by decide +kernel
theorem dL_law__1115 : decode cL_law_ 1115 = .ok (.ifCond .ne 35, 3) := by decide +kernel
theorem dL_law__1118 : decode cL_law_ 1118 = .ok (.aload 4, 2) := by decide +kernel
theorem dL_law__1120 : decode cL_law_ 1120 = .ok (.iconst 0, 1) := by decide +kernel
theorem dL_law__1121 : decode cL_law_ 1121 = .ok (.daload, 1) := by decide +kernel
theorem dL_law__1122 : decode cL_law_ 1122 = .ok (.dload 7, 2) := by decide +kernel
theorem dL_law__1124 : decode cL_law_ 1124 = .ok (.dcmp .l, 1) := by decide +kernel
theorem dL_law__1125 : decode cL_law_ 1125 = .ok (.ifCond .eq 25, 3) := by decide +kernel
theorem dL_law__1128 : decode cL_law_ 1128 = .ok (.aload 4, 2) := by decide +kernel
theorem dL_law__1130 : decode cL_law_ 1130 = .ok (.iconst 0, 1) := by decide +kernel
theorem dL_law__1131 : decode cL_law_ 1131 = .ok (.daload, 1) := by decide +kernel
theorem dL_law__1132 : decode cL_law_ 1132 = .ok (.aload 4, 2) := by decide +kernel
theorem dL_law__1134 : decode cL_law_ 1134 = .ok (.iconst 0, 1) := by decide +kernel
theorem dL_law__1135 : decode cL_law_ 1135 = .ok (.daload, 1) := by decide +kernel
theorem dL_law__1136 : decode cL_law_ 1136 = .ok (.dcmp .l, 1) := by decide +kernel
theorem dL_law__1137 : decode cL_law_ 1137 = .ok (.ifCond .eq 11, 3) := by decide +kernel
theorem dL_law__1140 : decode cL_law_ 1140 = .ok (.dload 7, 2) := by decide +kernel
theorem dL_law__1142 : decode cL_law_ 1142 = .ok (.dload 7, 2) := by decide +kernel
theorem dL_law__1144 : decode cL_law_ 1144 = .ok (.dcmp .l, 1) := by decide +kernel
theorem dL_law__1145 : decode cL_law_ 1145 = .ok (.ifCond .ne 5, 3) := by decide +kernel
theorem dL_law__1148 : decode cL_law_ 1148 = .ok (.iconst 0, 1) := by decide +kernel
theorem dL_law__1149 : decode cL_law_ 1149 = .ok (.ireturn, 1) := by decide +kernel
theorem dL_law__1150 : decode cL_law_ 1150 = .ok (.goto 224, 3) := by decide +kernel
theorem dL_law__1153 : decode cL_law_ 1153 = .ok (.aload_n 1, 1) := by decide +kernel
theorem dL_law__1154 : decode cL_law_ 1154 = .ok (.aload_n 3, 1) := by decide +kernel
theorem dL_law__1155 : decode cL_law_ 1155 = .ok (.invokestatic 149, 3) := by decide +kernel
theorem dL_law__1158 : decode cL_law_ 1158 = .ok (.istore 6, 2) := by decide +kernel
theorem dL_law__1160 : decode cL_law_ 1160 = .ok (.aload_n 2, 1) := by decide +kernel
theorem dL_law__1161 : decode cL_law_ 1161 = .ok (.invokevirtual 151, 3) := by decide +kernel
theorem dL_law__1164 : decode cL_law_ 1164 = .ok (.istore 7, 2) := by decide +kernel
theorem dL_law__1166 : decode cL_law_ 1166 = .ok (.aload_n 2, 1) := by decide +kernel
theorem dL_law__1167 : decode cL_law_ 1167 = .ok (.invokevirtual 93, 3) := by decide +kernel
theorem dL_law__1170 : decode cL_law_ 1170 = .ok (.iload 6, 2) := by decide +kernel
theorem dL_law__1172 : decode cL_law_ 1172 = .ok (.if_icmp .eq 5, 3) := by decide +kernel
theorem dL_law__1175 : decode cL_law_ 1175 = .ok (.iconst 0, 1) := by decide +kernel
theorem dL_law__1176 : decode cL_law_ 1176 = .ok (.ireturn, 1) := by decide +kernel
theorem dL_law__1177 : decode cL_law_ 1177 = .ok (.iload 6, 2) := by decide +kernel
theorem dL_law__1179 : decode cL_law_ 1179 = .ok (.ifCond .ne 15, 3) := by decide +kernel
theorem dL_law__1182 : decode cL_law_ 1182 = .ok (.aload_n 3, 1) := by decide +kernel
theorem dL_law__1183 : decode cL_law_ 1183 = .ok (.iconst 0, 1) := by decide +kernel
theorem dL_law__1184 : decode cL_law_ 1184 = .ok (.laload, 1) := by decide +kernel
theorem dL_law__1185 : decode cL_law_ 1185 = .ok (.iload 7, 2) := by decide +kernel
theorem dL_law__1187 : decode cL_law_ 1187 = .ok (.i2l, 1) := by decide +kernel
theorem dL_law__1188 : decode cL_law_ 1188 = .ok (.lcmp, 1) := by decide +kernel
theorem dL_law__1189 : decode cL_law_ 1189 = .ok (.ifCond .eq 5, 3) := by decide +kernel
theorem dL_law__1192 : decode cL_law_ 1192 = .ok (.iconst 0, 1) := by decide +kernel
theorem dL_law__1193 : decode cL_law_ 1193 = .ok (.ireturn, 1) := by decide +kernel
theorem dL_law__1194 : decode cL_law_ 1194 = .ok (.goto 180, 3) := by decide +kernel
theorem dL_law__1197 : decode cL_law_ 1197 = .ok (.aload_n 1, 1) := by decide +kernel
theorem dL_law__1198 : decode cL_law_ 1198 = .ok (.aload_n 0, 1) := by decide +kernel
theorem dL_law__1199 : decode cL_law_ 1199 = .ok (.iload 5, 2) := by decide +kernel
theorem dL_law__1201 : decode cL_law_ 1201 = .ok (.iconst 1, 1) := by decide +kernel
theorem dL_law__1202 : decode cL_law_ 1202 = .ok (.iadd, 1) := by decide +kernel
theorem dL_law__1203 : decode cL_law_ 1203 = .ok (.iaload, 1) := by decide +kernel
theorem dL_law__1204 : decode cL_law_ 1204 = .ok (.i2l, 1) := by decide +kernel
theorem dL_law__1205 : decode cL_law_ 1205 = .ok (.bipush 32, 2) := by decide +kernel
theorem dL_law__1207 : decode cL_law_ 1207 = .ok (.lshl, 1) := by decide +kernel
theorem dL_law__1208 : decode cL_law_ 1208 = .ok (.aload_n 0, 1) := by decide +kernel
theorem dL_law__1209 : decode cL_law_ 1209 = .ok (.iload 5, 2) := by decide +kernel
theorem dL_law__1211 : decode cL_law_ 1211 = .ok (.iconst 2, 1) := by decide +kernel
theorem dL_law__1212 : decode cL_law_ 1212 = .ok (.iadd, 1) := by decide +kernel
theorem dL_law__1213 : decode cL_law_ 1213 = .ok (.iaload, 1) := by decide +kernel
theorem dL_law__1214 : decode cL_law_ 1214 = .ok (.i2l, 1) := by decide +kernel
theorem dL_law__1215 : decode cL_law_ 1215 = .ok (.ldc2_w 152, 3) := by decide +kernel
theorem dL_law__1218 : decode cL_law_ 1218 = .ok (.land, 1) := by decide +kernel
theorem dL_law__1219 : decode cL_law_ 1219 = .ok (.lor, 1) := by decide +kernel
theorem dL_law__1220 : decode cL_law_ 1220 = .ok (.aload_n 0, 1) := by decide +kernel
theorem dL_law__1221 : decode cL_law_ 1221 = .ok (.iload 5, 2) := by decide +kernel
theorem dL_law__1223 : decode cL_law_ 1223 = .ok (.iconst 3, 1) := by decide +kernel
theorem dL_law__1224 : decode cL_law_ 1224 = .ok (.iadd, 1) := by decide +kernel
theorem dL_law__1225 : decode cL_law_ 1225 = .ok (.iaload, 1) := by decide +kernel
theorem dL_law__1226 : decode cL_law_ 1226 = .ok (.i2l, 1) := by decide +kernel
theorem dL_law__1227 : decode cL_law_ 1227 = .ok (.bipush 32, 2) := by decide +kernel
theorem dL_law__1229 : decode cL_law_ 1229 = .ok (.lshl, 1) := by decide +kernel
theorem dL_law__1230 : decode cL_law_ 1230 = .ok (.aload_n 0, 1) := by decide +kernel
theorem dL_law__1231 : decode cL_law_ 1231 = .ok (.iload 5, 2) := by decide +kernel
theorem dL_law__1233 : decode cL_law_ 1233 = .ok (.iconst 4, 1) := by decide +kernel
theorem dL_law__1234 : decode cL_law_ 1234 = .ok (.iadd, 1) := by decide +kernel
theorem dL_law__1235 : decode cL_law_ 1235 = .ok (.iaload, 1) := by decide +kernel
theorem dL_law__1236 : decode cL_law_ 1236 = .ok (.i2l, 1) := by decide +kernel
theorem dL_law__1237 : decode cL_law_ 1237 = .ok (.ldc2_w 152, 3) := by decide +kernel
theorem dL_law__1240 : decode cL_law_ 1240 = .ok (.land, 1) := by decide +kernel
theorem dL_law__1241 : decode cL_law_ 1241 = .ok (.lor, 1) := by decide +kernel
theorem dL_law__1242 : decode cL_law_ 1242 = .ok (.aload_n 0, 1) := by decide +kernel
theorem dL_law__1243 : decode cL_law_ 1243 = .ok (.iload 5, 2) := by decide +kernel
theorem dL_law__1245 : decode cL_law_ 1245 = .ok (.iconst 5, 1) := by decide +kernel
theorem dL_law__1246 : decode cL_law_ 1246 = .ok (.iadd, 1) := by decide +kernel
theorem dL_law__1247 : decode cL_law_ 1247 = .ok (.iaload, 1) := by decide +kernel
theorem dL_law__1248 : decode cL_law_ 1248 = .ok (.i2l, 1) := by decide +kernel
theorem dL_law__1249 : decode cL_law_ 1249 = .ok (.bipush 32, 2) := by decide +kernel
theorem dL_law__1251 : decode cL_law_ 1251 = .ok (.lshl, 1) := by decide +kernel
theorem dL_law__1252 : decode cL_law_ 1252 = .ok (.aload_n 0, 1) := by decide +kernel
theorem dL_law__1253 : decode cL_law_ 1253 = .ok (.iload 5, 2) := by decide +kernel
theorem dL_law__1255 : decode cL_law_ 1255 = .ok (.bipush 6, 2) := by decide +kernel
theorem dL_law__1257 : decode cL_law_ 1257 = .ok (.iadd, 1) := by decide +kernel
theorem dL_law__1258 : decode cL_law_ 1258 = .ok (.iaload, 1) := by decide +kernel
theorem dL_law__1259 : decode cL_law_ 1259 = .ok (.i2l, 1) := by decide +kernel
theorem dL_law__1260 : decode cL_law_ 1260 = .ok (.ldc2_w 152, 3) := by decide +kernel
theorem dL_law__1263 : decode cL_law_ 1263 = .ok (.land, 1) := by decide +kernel
theorem dL_law__1264 : decode cL_law_ 1264 = .ok (.lor, 1) := by decide +kernel
theorem dL_law__1265 : decode cL_law_ 1265 = .ok (.aload_n 3, 1) := by decide +kernel
theorem dL_law__1266 : decode cL_law_ 1266 = .ok (.invokestatic 154, 3) := by decide +kernel
theorem dL_law__1269 : decode cL_law_ 1269 = .ok (.istore 6, 2) := by decide +kernel
theorem dL_law__1271 : decode cL_law_ 1271 = .ok (.aload_n 2, 1) := by decide +kernel
theorem dL_law__1272 : decode cL_law_ 1272 = .ok (.aload_n 0, 1) := by decide +kernel
theorem dL_law__1273 : decode cL_law_ 1273 = .ok (.iload 5, 2) := by decide +kernel
theorem dL_law__1275 : decode cL_law_ 1275 = .ok (.iconst 1, 1) := by decide +kernel
theorem dL_law__1276 : decode cL_law_ 1276 = .ok (.iadd, 1) := by decide +kernel
theorem dL_law__1277 : decode cL_law_ 1277 = .ok (.iaload, 1) := by decide +kernel
theorem dL_law__1278 : decode cL_law_ 1278 = .ok (.i2l, 1) := by decide +kernel
theorem dL_law__1279 : decode cL_law_ 1279 = .ok (.bipush 32, 2) := by decide +kernel
theorem dL_law__1281 : decode cL_law_ 1281 = .ok (.lshl, 1) := by decide +kernel
theorem dL_law__1282 : decode cL_law_ 1282 = .ok (.aload_n 0, 1) := by decide +kernel
theorem dL_law__1283 : decode cL_law_ 1283 = .ok (.iload 5, 2) := by decide +kernel
theorem dL_law__1285 : decode cL_law_ 1285 = .ok (.iconst 2, 1) := by decide +kernel
theorem dL_law__1286 : decode cL_law_ 1286 = .ok (.iadd, 1) := by decide +kernel
theorem dL_law__1287 : decode cL_law_ 1287 = .ok (.iaload, 1) := by decide +kernel
theorem dL_law__1288 : decode cL_law_ 1288 = .ok (.i2l, 1) := by decide +kernel
theorem dL_law__1289 : decode cL_law_ 1289 = .ok (.ldc2_w 152, 3) := by decide +kernel
theorem dL_law__1292 : decode cL_law_ 1292 = .ok (.land, 1) := by decide +kernel
theorem dL_law__1293 : decode cL_law_ 1293 = .ok (.lor, 1) := by decide +kernel
theorem dL_law__1294 : decode cL_law_ 1294 = .ok (.aload_n 0, 1) := by decide +kernel
theorem dL_law__1295 : decode cL_law_ 1295 = .ok (.iload 5, 2) := by decide +kernel
theorem dL_law__1297 : decode cL_law_ 1297 = .ok (.iconst 3, 1) := by decide +kernel
theorem dL_law__1298 : decode cL_law_ 1298 = .ok (.iadd, 1) := by decide +kernel
theorem dL_law__1299 : decode cL_law_ 1299 = .ok (.iaload, 1) := by decide +kernel
theorem dL_law__1300 : decode cL_law_ 1300 = .ok (.i2l, 1) := by decide +kernel
theorem dL_law__1301 : decode cL_law_ 1301 = .ok (.bipush 32, 2) := by decide +kernel
theorem dL_law__1303 : decode cL_law_ 1303 = .ok (.lshl, 1) := by decide +kernel
theorem dL_law__1304 : decode cL_law_ 1304 = .ok (.aload_n 0, 1) := by decide +kernel
theorem dL_law__1305 : decode cL_law_ 1305 = .ok (.iload 5, 2) := by decide +kernel
theorem dL_law__1307 : decode cL_law_ 1307 = .ok (.iconst 4, 1) := by decide +kernel
theorem dL_law__1308 : decode cL_law_ 1308 = .ok (.iadd, 1) := by decide +kernel
theorem dL_law__1309 : decode cL_law_ 1309 = .ok (.iaload, 1) := by decide +kernel
theorem dL_law__1310 : decode cL_law_ 1310 = .ok (.i2l, 1) := by decide +kernel
theorem dL_law__1311 : decode cL_law_ 1311 = .ok (.ldc2_w 152, 3) := by decide +kernel
theorem dL_law__1314 : decode cL_law_ 1314 = .ok (.land, 1) := by decide +kernel
theorem dL_law__1315 : decode cL_law_ 1315 = .ok (.lor, 1) := by decide +kernel
theorem dL_law__1316 : decode cL_law_ 1316 = .ok (.aload_n 0, 1) := by decide +kernel
theorem dL_law__1317 : decode cL_law_ 1317 = .ok (.iload 5, 2) := by decide +kernel
theorem dL_law__1319 : decode cL_law_ 1319 = .ok (.iconst 5, 1) := by decide +kernel
theorem dL_law__1320 : decode cL_law_ 1320 = .ok (.iadd, 1) := by decide +kernel
theorem dL_law__1321 : decode cL_law_ 1321 = .ok (.iaload, 1) := by decide +kernel
theorem dL_law__1322 : decode cL_law_ 1322 = .ok (.i2l, 1) := by decide +kernel
theorem dL_law__1323 : decode cL_law_ 1323 = .ok (.bipush 32, 2) := by decide +kernel
theorem dL_law__1325 : decode cL_law_ 1325 = .ok (.lshl, 1) := by decide +kernel
theorem dL_law__1326 : decode cL_law_ 1326 = .ok (.aload_n 0, 1) := by decide +kernel
theorem dL_law__1327 : decode cL_law_ 1327 = .ok (.iload 5, 2) := by decide +kernel
theorem dL_law__1329 : decode cL_law_ 1329 = .ok (.bipush 6, 2) := by decide +kernel
theorem dL_law__1331 : decode cL_law_ 1331 = .ok (.iadd, 1) := by decide +kernel
theorem dL_law__1332 : decode cL_law_ 1332 = .ok (.iaload, 1) := by decide +kernel
theorem dL_law__1333 : decode cL_law_ 1333 = .ok (.i2l, 1) := by decide +kernel
theorem dL_law__1334 : decode cL_law_ 1334 = .ok (.ldc2_w 152, 3) := by decide +kernel
theorem dL_law__1337 : decode cL_law_ 1337 = .ok (.land, 1) := by decide +kernel
theorem dL_law__1338 : decode cL_law_ 1338 = .ok (.lor, 1) := by decide +kernel
theorem dL_law__1339 : decode cL_law_ 1339 = .ok (.invokevirtual 157, 3) := by decide +kernel
theorem dL_law__1342 : decode cL_law_ 1342 = .ok (.lstore 7, 2) := by decide +kernel
theorem dL_law__1344 : decode cL_law_ 1344 = .ok (.aload_n 2, 1) := by decide +kernel
theorem dL_law__1345 : decode cL_law_ 1345 = .ok (.invokevirtual 93, 3) := by decide +kernel
theorem dL_law__1348 : decode cL_law_ 1348 = .ok (.iload 6, 2) := by decide +kernel
theorem dL_law__1350 : decode cL_law_ 1350 = .ok (.if_icmp .eq 5, 3) := by decide +kernel
theorem dL_law__1353 : decode cL_law_ 1353 = .ok (.iconst 0, 1) := by decide +kernel
theorem dL_law__1354 : decode cL_law_ 1354 = .ok (.ireturn, 1) := by decide +kernel
theorem dL_law__1355 : decode cL_law_ 1355 = .ok (.iload 6, 2) := by decide +kernel
theorem dL_law__1357 : decode cL_law_ 1357 = .ok (.ifCond .ne 14, 3) := by decide +kernel
theorem dL_law__1360 : decode cL_law_ 1360 = .ok (.aload_n 3, 1) := by decide +kernel
theorem dL_law__1361 : decode cL_law_ 1361 = .ok (.iconst 0, 1) := by decide +kernel
theorem dL_law__1362 : decode cL_law_ 1362 = .ok (.laload, 1) := by decide +kernel
theorem dL_law__1363 : decode cL_law_ 1363 = .ok (.lload 7, 2) := by decide +kernel
theorem dL_law__1365 : decode cL_law_ 1365 = .ok (.lcmp, 1) := by decide +kernel
theorem dL_law__1366 : decode cL_law_ 1366 = .ok (.ifCond .eq 5, 3) := by decide +kernel
theorem dL_law__1369 : decode cL_law_ 1369 = .ok (.iconst 0, 1) := by decide +kernel
theorem dL_law__1370 : decode cL_law_ 1370 = .ok (.ireturn, 1) := by decide +kernel
theorem dL_law__1371 : decode cL_law_ 1371 = .ok (.goto 3, 3) := by decide +kernel
theorem dL_law__1374 : decode cL_law_ 1374 = .ok (.iinc 5 7, 3) := by decide +kernel
theorem dL_law__1377 : decode cL_law_ 1377 = .ok (.goto (-1329), 3) := by decide +kernel
theorem dL_law__1380 : decode cL_law_ 1380 = .ok (.iconst 1, 1) := by decide +kernel
theorem dL_law__1381 : decode cL_law_ 1381 = .ok (.ireturn, 1) := by decide +kernel
end
section
/-! doubles: bounds that keep NaN out -/
/-- a finite double below 2^k in size -/
def fx_bd (k : Nat) (x : UInt64) : Prop := ∃ (s : Bool) (c : Nat) (q : Int), FP.Core.val64 x = .fin s c q ∧ q + 53 ≤ (k : Int)
/-- a finite double of at least 2^(-j) in size -/
def fx_lb (j : Nat) (x : UInt64) : Prop := ∃ (s : Bool) (c : Nat) (q : Int), FP.Core.val64 x = .fin s c q ∧ 2 ^ 52 ≤ c ∧ -(j : Int) ≤ q + 52
/-- .. and positive -/
def fx_pl (j : Nat) (x : UInt64) : Prop := ∃ (c : Nat) (q : Int), FP.Core.val64 x = .fin false c q ∧ 2 ^ 52 ≤ c ∧ -(j : Int) ≤ q + 52
/-- not below 0 -/
def fx_nn (x : UInt64) : Prop := ∃ (c : Nat) (q : Int), FP.Core.val64 x = .fin false c q
theorem fx_pl.lb {j : Nat} {x : UInt64} (h : fx_pl j x) : fx_lb j x := by
  obtain ⟨c, q, h⟩ := h
  exact ⟨false, c, q, h⟩
theorem fx_pl.nn {j : Nat} {x : UInt64} (h : fx_pl j x) : fx_nn x := by
  obtain ⟨c, q, h, -⟩ := h
  exact ⟨c, q, h⟩
theorem fx_bd.mono {a b : Nat} {x : UInt64} (h : fx_bd a x) (hab : a ≤ b) : fx_bd b x := by
  obtain ⟨s, c, q, h, h2⟩ := h
  exact ⟨s, c, q, h, by omega⟩
theorem fx_lb.mono {a b : Nat} {x : UInt64} (h : fx_lb a x) (hab : a ≤ b) : fx_lb b x := by
  obtain ⟨s, c, q, h, h2, h3⟩ := h
  exact ⟨s, c, q, h, h2, by omega⟩
theorem fx_pl.mono {a b : Nat} {x : UInt64} (h : fx_pl a x) (hab : a ≤ b) : fx_pl b x := by
  obtain ⟨c, q, h, h2, h3⟩ := h
  exact ⟨c, q, h, h2, by omega⟩
theorem fx_bd.n {k : Nat} {x : UInt64} (h : fx_bd k x) : vf_n64 x := by
  obtain ⟨s, c, q, h, -⟩ := h
  have hE : x.toNat / 4503599627370496 % 2048 ≠ 2047 := by
    intro he
    unfold FP.Core.val64 FP.Core.decode at h
    have h1 : FP.Core.fieldE FP.Core.b64 x.toNat = FP.Core.b64.exps - 1 := he
    rw [if_pos h1] at h
    split at h <;> cases h
  unfold vf_n64
  rw [UInt64.le_iff_toNat_le, UInt64.toNat_and]
  have e1 : (0x7fffffffffffffff : UInt64).toNat = 2 ^ 63 - 1 := by decide
  have e2 : (0x7ff0000000000000 : UInt64).toNat = 0x7ff0000000000000 := by decide
  rw [e1, e2, Nat.and_two_pow_sub_one_eq_mod]
  omega
theorem fx_bd.ne {k : Nat} {x : UInt64} (h : fx_bd k x) : FP.Core.val64 x ≠ .nan := by
  obtain ⟨s, c, q, h, -⟩ := h
  rw [h]
  intro q
  cases q
theorem fx_q0 : FP.Core.b64.qmin = -1074 := by decide
theorem fx_q1 : FP.Core.b64.qmax = 971 := by decide
theorem fx_p : FP.Core.b64.p = 53 := rfl
theorem fx_t : FP.Core.b64.tails = 2 ^ 52 := by decide
theorem fx_rr {s : Bool} {A B : Nat} {e : Int} {m : Nat} (hB : 0 < B) (h : FP.Core.Below A B ((m : Int) - e)) (hm : m + 1 ≤ 1024) {x : UInt64} (hx : FP.Core.val64 x = FP.Core.roundRatio FP.Core.b64 s A B e) : fx_bd (m + 1) x := by
  have hf := fx_q0
  have hq := fx_q1
  unfold FP.Core.roundRatio at hx
  split at hx
  · exact ⟨_, _, _, hx, by rw [hf]; omega⟩
  · rename_i hA0
    have hA : 0 < A := by omega
    have l1 := FP.Core.lt_of_below (FP.Core.leading_spec hA hB).1 h
    have hQ : FP.Core.quantum FP.Core.b64 A B e ≤ (m : Int) - 53 := by
      unfold FP.Core.quantum
      rw [hf, fx_p]
      omega
    unfold FP.Core.roundAt FP.Core.settle FP.Core.bound at hx
    rw [hq] at hx
    split at hx
    · rw [if_pos (by omega)] at hx
      exact ⟨_, _, _, hx, by omega⟩
    · rw [if_pos (by omega)] at hx
      exact ⟨_, _, _, hx, by omega⟩
/-- a finite rounding keeps its sign; one of at least 2^(-j) stays so -/
theorem fx_rs {s : Bool} {A B : Nat} {e : Int} {k : Nat} {x : UInt64} (hx : FP.Core.val64 x = FP.Core.roundRatio FP.Core.b64 s A B e) (hb : fx_bd k x) : ∃ (c : Nat) (q : Int), FP.Core.val64 x = .fin s c q := by
  obtain ⟨s', c', q', h', -⟩ := hb
  unfold FP.Core.roundRatio at hx
  split at hx
  · exact ⟨_, _, hx⟩
  · unfold FP.Core.roundAt FP.Core.settle FP.Core.bound at hx
    split at hx
    · split at hx
      · exact ⟨_, _, hx⟩
      · rw [h'] at hx; cases hx
    · split at hx
      · exact ⟨_, _, hx⟩
      · rw [h'] at hx; cases hx
theorem fx_rl {s : Bool} {A B : Nat} {e : Int} {k j : Nat} {x : UInt64} (hA : 0 < A) (hB : 0 < B) (h : ¬ FP.Core.Below A B (-(j : Int) - e)) (hj : j ≤ 1022) (hx : FP.Core.val64 x = FP.Core.roundRatio FP.Core.b64 s A B e) (hb : fx_bd k x) : ∃ (c : Nat) (q : Int), FP.Core.val64 x = .fin s c q ∧ 2 ^ 52 ≤ c ∧ -(j : Int) ≤ q + 52 := by
  obtain ⟨s', c', q', h', -⟩ := hb
  have hf := fx_q0
  have hq := fx_q1
  have ht := fx_t
  have l1 := FP.Core.lt_of_below h (FP.Core.leading_spec hA hB).2
  have hQ : FP.Core.quantum FP.Core.b64 A B e = FP.Core.leading A B + e - 52 := by
    unfold FP.Core.quantum
    rw [hf, fx_p]
    omega
  have hc : 2 ^ 52 ≤ FP.Core.nearest (FP.Core.unitsNum A e (FP.Core.quantum FP.Core.b64 A B e)) (FP.Core.unitsDen B e (FP.Core.quantum FP.Core.b64 A B e)) := by
    refine FP.Core.nearest_ge (FP.Core.unitsDen_pos hB ..) ?_
    refine Nat.le_of_not_lt fun hl => ?_
    rw [FP.Core.units_below] at hl
    refine (FP.Core.leading_spec hA hB).1 ?_
    rw [hQ] at hl
    have e9 : FP.Core.leading A B + e - 52 - e + ((52 : Nat) : Int) = FP.Core.leading A B := by omega
    rw [e9] at hl
    exact hl
  unfold FP.Core.roundRatio at hx
  rw [if_neg (by omega)] at hx
  unfold FP.Core.roundAt FP.Core.settle FP.Core.bound at hx
  split at hx
  · split at hx
    · exact ⟨_, _, hx, hc, by omega⟩
    · rw [h'] at hx; cases hx
  · split at hx
    · exact ⟨_, _, hx, Nat.le_of_eq ht.symm, by omega⟩
    · rw [h'] at hx; cases hx
theorem fx_pw {c u w : Nat} (h : c < 2 ^ 53) (hw : 53 + u ≤ w) : c * 2 ^ u < 2 ^ w := by
  calc c * 2 ^ u < 2 ^ 53 * 2 ^ u := Nat.mul_lt_mul_of_pos_right h (Nat.two_pow_pos u)
    _ = 2 ^ (53 + u) := (Nat.pow_add 2 53 u).symm
    _ ≤ 2 ^ w := Nat.pow_le_pow_right (by decide) hw
theorem fx_c {x : UInt64} {s : Bool} {c : Nat} {q : Int} (h : FP.Core.val64 x = .fin s c q) : c < 2 ^ 53 ∧ -1074 ≤ q ∧ q ≤ 971 ∧ (q = -1074 ∨ 2 ^ 52 ≤ c) := by
  have hf := FP.Core.val64_fits x
  rw [h] at hf
  obtain ⟨h1, h2, h3, h4⟩ := hf
  rw [fx_q0] at h2 h4
  rw [fx_q1] at h3
  rw [fx_t] at h4
  exact ⟨h1, h2, h3, h4⟩
theorem fx_b1 {A : Nat} {a : Int} {w : Nat} (hw : a = (w : Int)) (h : A < 2 ^ w) : FP.Core.Below A 1 a := by
  unfold FP.Core.Below
  have e1 : (-a).toNat = 0 := by omega
  have e2 : a.toNat = w := by omega
  rw [e1, e2, Nat.pow_zero, Nat.mul_one, Nat.one_mul]
  exact h
theorem fx_nb1 {A : Nat} {a : Int} {w : Nat} (hw : a ≤ (w : Int)) (h : 2 ^ w ≤ A) : ¬ FP.Core.Below A 1 a := by
  intro hb
  have hb2 := FP.Core.below_mono hw hb
  unfold FP.Core.Below at hb2
  have e1 : (-(w : Int)).toNat = 0 := by omega
  have e2 : ((w : Int)).toNat = w := by omega
  rw [e1, e2, Nat.pow_zero, Nat.mul_one, Nat.one_mul] at hb2
  omega
theorem fx_sum {s t : Bool} {c d : Nat} {q r : Int} {k : Nat} (hc : c < 2 ^ 53) (hd : d < 2 ^ 53) (hq : q + 53 ≤ (k : Int)) (hr : r + 53 ≤ (k : Int)) : FP.Core.Below (FP.Core.sumUnits s c q t d r (min q r)).natAbs 1 (((k + 1 : Nat) : Int) - min q r) := by
  have hw : ((k + 1 : Nat) : Int) - min q r = (((k : Int) - min q r).toNat + 1 : Nat) := by omega
  refine fx_b1 hw ?_
  unfold FP.Core.sumUnits
  have h1 := Int.natAbs_add_le (FP.Core.signed s (FP.Core.inUnits c q (min q r))) (FP.Core.signed t (FP.Core.inUnits d r (min q r)))
  rw [FP.Core.natAbs_signed, FP.Core.natAbs_signed] at h1
  have h2 : FP.Core.inUnits c q (min q r) < 2 ^ ((k : Int) - min q r).toNat := fx_pw hc (by omega)
  have h3 : FP.Core.inUnits d r (min q r) < 2 ^ ((k : Int) - min q r).toNat := fx_pw hd (by omega)
  rw [Nat.pow_succ]
  omega
theorem fx_vadd {x y : UInt64} {s t : Bool} {c d : Nat} {q r : Int} (h : FP.Core.val64 x = .fin s c q) (g : FP.Core.val64 y = .fin t d r) : FP.Core.val64 (FP.dadd x y) = FP.Core.roundRatio FP.Core.b64 (FP.Core.sumSign s t (FP.Core.sumUnits s c q t d r (min q r))) (FP.Core.sumUnits s c q t d r (min q r)).natAbs 1 (min q r) := by
  have e := FP.Core.val64_dadd x y
  rw [h, g] at e
  exact e
theorem fx_bd.add {a b : Nat} {x y : UInt64} (hx : fx_bd a x) (hy : fx_bd b y) (hk : max a b + 2 ≤ 1024) : fx_bd (max a b + 2) (FP.dadd x y) := by
  obtain ⟨s, c, q, h1, h2⟩ := hx
  obtain ⟨t, d, r, g1, g2⟩ := hy
  have f1 := fx_c h1
  have f2 := fx_c g1
  exact fx_rr (by decide) (fx_sum (k := max a b) f1.1 f2.1 (by omega) (by omega)) (by omega) (fx_vadd h1 g1)
theorem fx_negb (x : UInt64) : (FP.dneg x).toNat % 9223372036854775808 = x.toNat % 9223372036854775808 ∧ (FP.dneg x).toNat / 9223372036854775808 + x.toNat / 9223372036854775808 = 1 := by
  have h : (FP.dneg x).toNat = x.toNat ^^^ 2 ^ 63 := by
    unfold FP.dneg
    rw [UInt64.toNat_xor]
    rfl
  have hx : x.toNat < 18446744073709551616 := x.toNat_lt
  rw [h]
  constructor
  · show (x.toNat ^^^ 2 ^ 63) % 2 ^ 63 = x.toNat % 2 ^ 63
    rw [Nat.xor_mod_two_pow, Nat.mod_self, Nat.xor_zero]
  · have e : (x.toNat ^^^ 2 ^ 63) / 2 ^ 63 = (x.toNat / 2 ^ 63) ^^^ 1 := by
      rw [← Nat.shiftRight_eq_div_pow, Nat.shiftRight_xor_distrib, Nat.shiftRight_eq_div_pow, Nat.shiftRight_eq_div_pow]
    have e1 : (x.toNat ^^^ 2 ^ 63) / 9223372036854775808 = (x.toNat / 9223372036854775808) ^^^ 1 := e
    rw [e1]
    rcases (show x.toNat / 9223372036854775808 = 0 ∨ x.toNat / 9223372036854775808 = 1 by omega) with h1 | h1 <;> rw [h1] <;> rfl
theorem fx_vneg (x : UInt64) : FP.Core.val64 (FP.dneg x) = FP.Core.negate (FP.Core.val64 x) := by
  obtain ⟨h1, h2⟩ := fx_negb x
  have hT : FP.Core.fieldT FP.Core.b64 (FP.dneg x).toNat = FP.Core.fieldT FP.Core.b64 x.toNat := by
    show (FP.dneg x).toNat % 4503599627370496 = x.toNat % 4503599627370496
    omega
  have hE : FP.Core.fieldE FP.Core.b64 (FP.dneg x).toNat = FP.Core.fieldE FP.Core.b64 x.toNat := by
    show (FP.dneg x).toNat / 4503599627370496 % 2048 = x.toNat / 4503599627370496 % 2048
    omega
  have hS : FP.Core.fieldS FP.Core.b64 (FP.dneg x).toNat = !FP.Core.fieldS FP.Core.b64 x.toNat := by
    show ((FP.dneg x).toNat / 4503599627370496 / 2048 % 2 == 1) = !(x.toNat / 4503599627370496 / 2048 % 2 == 1)
    rcases (show x.toNat / 4503599627370496 / 2048 % 2 = 0 ∧ (FP.dneg x).toNat / 4503599627370496 / 2048 % 2 = 1 ∨ x.toNat / 4503599627370496 / 2048 % 2 = 1 ∧ (FP.dneg x).toNat / 4503599627370496 / 2048 % 2 = 0 by omega) with ⟨g1, g2⟩ | ⟨g1, g2⟩ <;> rw [g1, g2] <;> rfl
  unfold FP.Core.val64 FP.Core.decode
  rw [hT, hE, hS]
  by_cases c1 : FP.Core.fieldE FP.Core.b64 x.toNat = FP.Core.b64.exps - 1
  · rw [if_pos c1, if_pos c1]
    by_cases c2 : FP.Core.fieldT FP.Core.b64 x.toNat = 0
    · rw [if_pos c2, if_pos c2]; rfl
    · rw [if_neg c2, if_neg c2]; rfl
  · rw [if_neg c1, if_neg c1]
    by_cases c2 : FP.Core.fieldE FP.Core.b64 x.toNat = 0
    · rw [if_pos c2, if_pos c2]; rfl
    · rw [if_neg c2, if_neg c2]; rfl
theorem fx_bd.neg {a : Nat} {x : UInt64} (hx : fx_bd a x) : fx_bd a (FP.dneg x) := by
  obtain ⟨s, c, q, h1, h2⟩ := hx
  have e := fx_vneg x
  rw [h1] at e
  exact ⟨!s, c, q, e, h2⟩
theorem fx_vsub {x y : UInt64} {s t : Bool} {c d : Nat} {q r : Int} (h : FP.Core.val64 x = .fin s c q) (g : FP.Core.val64 y = .fin t d r) : FP.Core.val64 (FP.dsub x y) = FP.Core.roundRatio FP.Core.b64 (FP.Core.sumSign s (!t) (FP.Core.sumUnits s c q (!t) d r (min q r))) (FP.Core.sumUnits s c q (!t) d r (min q r)).natAbs 1 (min q r) := by
  have e := FP.Core.val64_dsub x y
  rw [h, g] at e
  exact e
theorem fx_bd.sub {a b : Nat} {x y : UInt64} (hx : fx_bd a x) (hy : fx_bd b y) (hk : max a b + 2 ≤ 1024) : fx_bd (max a b + 2) (FP.dsub x y) := by
  obtain ⟨s, c, q, h1, h2⟩ := hx
  obtain ⟨t, d, r, g1, g2⟩ := hy
  have f1 := fx_c h1
  have f2 := fx_c g1
  exact fx_rr (by decide) (fx_sum (k := max a b) f1.1 f2.1 (by omega) (by omega)) (by omega) (fx_vsub h1 g1)
theorem fx_vmul {x y : UInt64} {s t : Bool} {c d : Nat} {q r : Int} (h : FP.Core.val64 x = .fin s c q) (g : FP.Core.val64 y = .fin t d r) : FP.Core.val64 (FP.dmul x y) = FP.Core.roundRatio FP.Core.b64 (s != t) (c * d) 1 (q + r) := by
  have e := FP.Core.val64_dmul x y
  rw [h, g] at e
  exact e
theorem fx_bd.mul {a b : Nat} {x y : UInt64} (hx : fx_bd a x) (hy : fx_bd b y) (hk : a + b + 1 ≤ 1024) : fx_bd (a + b + 1) (FP.dmul x y) := by
  obtain ⟨s, c, q, h1, h2⟩ := hx
  obtain ⟨t, d, r, g1, g2⟩ := hy
  have f1 := fx_c h1
  have f2 := fx_c g1
  refine fx_rr (m := a + b) (by decide) ?_ hk (fx_vmul h1 g1)
  refine FP.Core.below_mono (a := ((106 : Nat) : Int)) (by omega) (fx_b1 rfl ?_)
  calc c * d < 2 ^ 53 * 2 ^ 53 := Nat.mul_lt_mul'' f1.1 f2.1
    _ = 2 ^ 106 := by decide
theorem fx_vdiv {x y : UInt64} {s t : Bool} {c d : Nat} {q r : Int} (h : FP.Core.val64 x = .fin s c q) (g : FP.Core.val64 y = .fin t d r) (hd : d ≠ 0) : FP.Core.val64 (FP.ddiv x y) = FP.Core.roundRatio FP.Core.b64 (s != t) c d (q - r) := by
  have e := FP.Core.val64_ddiv x y
  rw [h, g] at e
  have e2 : FP.Core.quotient FP.Core.b64 (.fin s c q) (.fin t d r) = if d = 0 then (if c = 0 then .nan else .inf (s != t)) else FP.Core.roundRatio FP.Core.b64 (s != t) c d (q - r) := rfl
  rw [e2, if_neg hd] at e
  exact e
theorem fx_bd.div {a j : Nat} {x y : UInt64} (hx : fx_bd a x) (hy : fx_lb j y) (hk : a + j + 1 ≤ 1024) : fx_bd (a + j + 1) (FP.ddiv x y) := by
  obtain ⟨s, c, q, h1, h2⟩ := hx
  obtain ⟨t, d, r, g1, g2, g3⟩ := hy
  have f1 := fx_c h1
  have hd : 0 < d := Nat.lt_of_lt_of_le (by decide) g2
  refine fx_rr (m := a + j) hd ?_ hk (fx_vdiv h1 g1 (by omega))
  refine FP.Core.below_mono (a := 1) (by omega) ?_
  unfold FP.Core.Below
  show c * 2 ^ 0 < d * 2 ^ 1
  omega
theorem fx_nn.mul {x : UInt64} {a : Nat} (hx : fx_bd a x) (hk : a + a + 1 ≤ 1024) : fx_nn (FP.dmul x x) := by
  have hb := hx.mul hx hk
  obtain ⟨s, c, q, h1, h2⟩ := hx
  have e := fx_vmul h1 h1
  have e2 : (s != s) = false := by cases s <;> rfl
  rw [e2] at e
  exact fx_rs e hb
theorem fx_sgn {c d : Nat} {q r : Int} : FP.Core.sumSign false false (FP.Core.sumUnits false c q false d r (min q r)) = false := by
  have h : ¬ FP.Core.sumUnits false c q false d r (min q r) < 0 := by
    show ¬ ((FP.Core.inUnits c q (min q r) : Int) + (FP.Core.inUnits d r (min q r) : Int) < 0)
    omega
  unfold FP.Core.sumSign
  split
  · rfl
  · exact decide_eq_false h
theorem fx_nn.add {x y : UInt64} {a b : Nat} (hx : fx_nn x) (hy : fx_nn y) (bx : fx_bd a x) (bY : fx_bd b y) (hk : max a b + 2 ≤ 1024) : fx_nn (FP.dadd x y) := by
  have hb := bx.add bY hk
  obtain ⟨c, q, h1⟩ := hx
  obtain ⟨d, r, g1⟩ := hy
  have e := fx_vadd h1 g1
  rw [fx_sgn] at e
  exact fx_rs e hb
theorem fx_pl.add {x y : UInt64} {a b j : Nat} (hx : fx_pl j x) (hy : fx_nn y) (bx : fx_bd a x) (bY : fx_bd b y) (hk : max a b + 2 ≤ 1024) (hj : j ≤ 1022) : fx_pl j (FP.dadd x y) := by
  have hb := bx.add bY hk
  obtain ⟨c, q, h1, h2, h3⟩ := hx
  obtain ⟨d, r, g1⟩ := hy
  have e := fx_vadd h1 g1
  rw [fx_sgn] at e
  have hA : 2 ^ (52 + (q - min q r).toNat) ≤ (FP.Core.sumUnits false c q false d r (min q r)).natAbs := by
    have e1 : (FP.Core.sumUnits false c q false d r (min q r)).natAbs = FP.Core.inUnits c q (min q r) + FP.Core.inUnits d r (min q r) := by
      show ((FP.Core.inUnits c q (min q r) : Int) + (FP.Core.inUnits d r (min q r) : Int)).natAbs = _
      omega
    rw [e1, Nat.pow_add]
    have h9 : 2 ^ 52 * 2 ^ (q - min q r).toNat ≤ FP.Core.inUnits c q (min q r) := Nat.mul_le_mul_right _ h2
    omega
  refine fx_rl (Nat.lt_of_lt_of_le (Nat.two_pow_pos _) hA) (by decide) (fx_nb1 ?_ hA) hj e hb
  omega
theorem fx_nn.div {x y : UInt64} {a j : Nat} (hx : fx_nn x) (hy : fx_pl j y) (bx : fx_bd a x) (hk : a + j + 1 ≤ 1024) : fx_nn (FP.ddiv x y) := by
  have hb := bx.div hy.lb hk
  obtain ⟨c, q, h1⟩ := hx
  obtain ⟨d, r, g1, g2, g3⟩ := hy
  have e := fx_vdiv h1 g1 (by omega)
  exact fx_rs e hb
/-- the double 2 -/
abbrev fx_2 : UInt64 := 4611686018427387904
theorem fx_2v : FP.Core.val64 fx_2 = .fin false (2 ^ 52) (-51) := by decide +kernel
theorem fx_2l : fx_pl 0 fx_2 := ⟨_, _, fx_2v, by decide, by decide⟩
theorem fx_pl.half {x : UInt64} {a j : Nat} (hx : fx_pl j x) (bx : fx_bd a x) (hk : a + 1 ≤ 1024) (hj : j + 1 ≤ 1022) : fx_pl (j + 1) (FP.ddiv x fx_2) := by
  have hb := bx.div fx_2l.lb hk
  obtain ⟨c, q, h1, h2, h3⟩ := hx
  have e := fx_vdiv h1 fx_2v (by decide)
  refine fx_rl (j := j + 1) (by omega) (by decide) ?_ hj e hb
  intro hb2
  have hb3 := FP.Core.below_mono (b := 0) (by omega) hb2
  unfold FP.Core.Below at hb3
  have hb4 : c * 2 ^ 0 < 2 ^ 52 * 2 ^ 0 := hb3
  omega
theorem fx_0b : fx_bd 0 FP.dconst0 := ⟨_, _, _, FP.Core.val64_dconst0, by decide⟩
theorem fx_0n : fx_nn FP.dconst0 := ⟨_, _, FP.Core.val64_dconst0⟩
theorem fx_1b : fx_bd 1 FP.dconst1 := ⟨_, _, _, FP.Core.val64_dconst1, by decide⟩
theorem fx_1l : fx_pl 0 FP.dconst1 := ⟨_, _, FP.Core.val64_dconst1, by decide, by decide⟩
theorem fx_i {x : Int32} : fx_bd 33 (FP.i2d x) := by
  have e := FP.Core.val64_i2d x
  refine fx_rr (m := 32) (by decide) ?_ (by decide) e
  refine fx_b1 (w := 32) rfl ?_
  have h1 := x.toInt_lt
  have h2 := x.le_toInt
  omega
theorem fx_il {x : Int32} (h : x ≠ 0) : fx_lb 0 (FP.i2d x) := by
  have e := FP.Core.val64_i2d x
  have hb : fx_bd 33 (FP.i2d x) := fx_i
  have h0 : x.toInt ≠ 0 := fun q => h (Int32.toInt_inj.mp (by rw [q]; rfl))
  obtain ⟨c, q, h1, h2, h3⟩ := fx_rl (j := 0) (by omega) (by decide) (fx_nb1 (w := 0) (by omega) (by omega)) (by omega) e hb
  exact ⟨_, c, q, h1, h2, h3⟩
end
section
/-! what every contract of this claim speaks of: the tables' facts, worlds, calls -/
abbrev kx_G : Type := va_G × ClassId × ClassId × ClassId × ClassId
abbrev kx_ty (G : kx_G) : List (ClassId × FieldType) := [(G.2.1, .int), (G.2.2.1, .double), (G.2.2.2.1, .boolean), (G.2.2.2.2, .long)]
abbrev kx_aI (G : kx_G) (n : Nat) (f : Nat → Int32) : va_E := .inl (G.2.1, n, .inl f)
abbrev kx_aD (G : kx_G) (n : Nat) (f : Nat → UInt64) : va_E := .inl (G.2.2.1, n, .inr (.inr (.inr (.inl f))))
abbrev kx_aZ (G : kx_G) (n : Nat) (f : Nat → Int32) : va_E := .inl (G.2.2.2.1, n, .inl f)
abbrev kx_aJ (G : kx_G) (n : Nat) (f : Nat → Int64) : va_E := .inl (G.2.2.2.2, n, .inr (.inl f))
/-- the words of nest mates -/
def kx_nw : List Cond := [.fieldLinkNest RX4 113 "StemShapes$Stem" "x" "[D" "StemShapes", .fieldLinkNest RX4 117 "StemShapes$Stem" "y" "[D" "StemShapes", .fieldLinkNest RX4 120 "StemShapes$Stem" "radius" "[D" "StemShapes", .fieldLinkNest RX4 123 "StemShapes$Stem" "residual" "[D" "StemShapes", .fieldLinkNest RX4 203 "StemShapes$Kept" "isThere" "Z" "StemShapes", .fieldLinkNest RX4 91 "StemShapes$Stem" "isFitted" "[Z" "StemShapes", .fieldLinkNest RX4 99 "StemShapes$Stem" "mended" "I" "StemShapes", .fieldLinkNest RX0 18 "StemShapes$Stem" "x" "[D" "StemShapes", .fieldLinkNest RX0 21 "StemShapes$Stem" "y" "[D" "StemShapes", .fieldLinkNest RX1 45 "StemShapes$Stem" "mended" "I" "StemShapes", .fieldLinkNest RX2 53 "StemShapes$Stem" "radius" "[D" "StemShapes", .fieldLinkNest RX2 62 "StemShapes$Stem" "residual" "[D" "StemShapes", .fieldLinkNest RX2 65 "StemShapes$Stem" "x" "[D" "StemShapes", .fieldLinkNest RX2 68 "StemShapes$Stem" "y" "[D" "StemShapes", .methodLinkNest RX4 47 yX1_init "StemShapes", .methodLinkNest RX2 33 yX4_root "StemShapes"]
def kx_isN : Cond → Bool
  | .fieldLinkNest .. => true
  | .methodLinkNest .. => true
  | _ => false
theorem kx_nw_ok : kx_nw.all kx_isN = true := by decide
def kx_T (G : kx_G) (U : State) : Prop := va_K G.1 vwCl (kx_ty G) U ∧ ∀ w ∈ kx_nw, va_Nw w U
theorem kx_T.warm {G : kx_G} {s U : State} (hW : s.WarmedH U.vm) (h : kx_T G s) : kx_T G U := by
  refine ⟨va_K.moved hW.alike h.1, fun w hw => ?_⟩
  have h1 := List.all_eq_true.mp kx_nw_ok w hw
  have h2 := h.2 w hw
  clear hw
  cases w <;> first | exact va_Nw.warmF hW h2 | exact va_Nw.warmM hW h2 | cases h1
theorem kx_T.same {G : kx_G} {u U : State} (hv : u.vm = U.vm) (h : kx_T G u) : kx_T G U := by
  refine ⟨va_K.moved (by rw [hv]; exact Vm.Alike.refl _) h.1, fun w hw => ?_⟩
  have h1 := List.all_eq_true.mp kx_nw_ok w hw
  have h2 := h.2 w hw
  clear hw
  cases w <;> first | exact va_Nw.same rfl hv h2 | cases h1
theorem kx_T.nest {G : kx_G} {s : State} {args : Array Value} (h : kx_T G s) (w : Cond) (hw : w ∈ kx_nw) : w.before args s = true := by
  have h1 := List.all_eq_true.mp kx_nw_ok w hw
  have h2 := h.2 w hw
  clear hw
  cases w <;> first | exact va_Nw.use rfl h2 | cases h1
/-- a start of a method that only reads -/
def kx_PR (G : kx_G) (av : List Value) (ws : va_W) : Array Value → State → Prop := va_Pc av (fun U => va_P G.1 vwCl ws U.heap ∧ kx_T G U)
theorem kx_PRb {G : kx_G} {av : List Value} {ws : va_W} : FrameBlind (kx_PR G av ws) := fun a U g mk q => ⟨q.1, q.2.1, kx_T.same (u := U) (U := U.calling g mk a) rfl q.2.2⟩
/-- a start of a method that writes -/
def kx_PM (G : kx_G) (av : List Value) (sz : Nat) (ws : va_W) : Array Value → State → Prop := va_Pc av (fun U => U.heap.size = sz ∧ va_P G.1 vwCl ws U.heap ∧ kx_T G U ∧ va_D (fun _ => True) ws)
theorem kx_PMb {G : kx_G} {av : List Value} {sz : Nat} {ws : va_W} : FrameBlind (kx_PM G av sz ws) := fun a U g mk q => ⟨q.1, q.2.1, q.2.2.1, kx_T.same (u := U) (U := U.calling g mk a) rfl q.2.2.2.1, q.2.2.2.2⟩
def kx_B (G : kx_G) (A : Nat → Prop) {S : Type} (w : S → va_W) : S → State → Prop := fun u t => va_P G.1 vwCl (w u) t.heap ∧ va_D A (w u)
theorem kx_pr {G : kx_G} {s : State} {H : Heap} {ws wc : va_W} {av : List Value} (hT : kx_T G s) (hP : va_P G.1 vwCl ws H) (is : List Nat) (h : is.filterMap (fun i => ws[i]?) = wc) : ∀ U : State, U.heap = H → s.WarmedH U.vm → kx_PR G av wc av.toArray U := fun U hU hW => ⟨rfl, by rw [hU]; exact hP.sub is h, hT.warm hW⟩
theorem kx_pm {G : kx_G} {s : State} {H : Heap} {ws wc : va_W} {av : List Value} {A : Nat → Prop} (hT : kx_T G s) (hP : va_P G.1 vwCl ws H) (hD : va_D A ws) (is : List Nat) (h : is.filterMap (fun i => ws[i]?) = wc) (hn : va_nd is = true) (h2 : is.map (fun i => ws[i]?) = wc.map some) : ∀ U : State, U.heap = H → s.WarmedH U.vm → kx_PM G av H.size wc av.toArray U := fun U hU hW => ⟨rfl, by rw [hU], by rw [hU]; exact hP.sub is h, hT.warm hW, (hD.sub is hn h2).weaken (fun _ _ _ _ => trivial)⟩
/-- some cells of a world put anew -/
def kx_rp : List Nat → va_W → va_W → va_W
  | [], _, ws => ws
  | i :: is, w1, ws => match w1 with
    | [] => ws
    | w :: w1 => kx_rp is w1 (ws.set i w)
abbrev kx_rep (ws : va_W) (is : List Nat) (w1 : va_W) : va_W := kx_rp is w1 ws
theorem kx_rep_get : ∀ (is : List Nat) (w1 ws : va_W), is.length = w1.length → va_nd is = true → ∀ (k : Nat) (q : Nat × va_E), (kx_rep ws is w1)[k]? = some q → (∃ j : Nat, is[j]? = some k ∧ w1[j]? = some q) ∨ (k ∉ is ∧ ws[k]? = some q)
  | [], _, _, _, _, _, _, h => Or.inr ⟨List.not_mem_nil, h⟩
  | _ :: _, [], _, hl, _, _, _, _ => by cases hl
  | i :: is, w :: w1, ws, hl, hn, k, q, h => by
    simp only [va_nd, Bool.and_eq_true, decide_eq_true_eq] at hn
    rcases kx_rep_get is w1 (ws.set i w) (Nat.succ.inj hl) hn.2 k q h with ⟨j, h1, h2⟩ | ⟨h1, h2⟩
    · exact Or.inl ⟨j + 1, h1, h2⟩
    · by_cases hk : k = i
      · subst hk
        refine Or.inl ⟨0, rfl, ?_⟩
        rw [List.getElem?_set] at h2
        split at h2
        · split at h2
          · exact h2
          · cases h2
        · rename_i hne; exact absurd rfl hne
      · refine Or.inr ⟨fun hm => (List.mem_cons.mp hm).elim hk h1, ?_⟩
        rw [List.getElem?_set_ne (fun e => hk e.symm)] at h2
        exact h2
theorem kx_back {D : va_G} {cl : List vw_C} {A0 : Nat → Prop} {ws wc w1 : va_W} {H H1 : Heap} (hP : va_P D cl ws H) (hD : va_D A0 ws) (isC : List Nat) (hC : isC.map (fun i => ws[i]?) = wc.map some) (hn : va_nd isC = true) (hl : isC.length = w1.length)
    (hk : ∀ q : Nat, q < H.size → ¬ va_A wc H.size q → H1[q]? = H[q]?) (hF : ∀ q, va_A wc H.size q → A0 q) (hP1 : va_P D cl w1 H1) (hD1 : va_D (va_A wc H.size) w1) : va_P D cl (kx_rep ws isC w1) H1 ∧ va_D A0 (kx_rep ws isC w1) := by
  have at' : ∀ (k : Nat) (q : Nat × va_E), wc[k]? = some q → ∃ i, isC[k]? = some i ∧ ws[i]? = some q := by
    intro k q hq
    have h1 : (isC.map (fun i => ws[i]?))[k]? = some (some q) := by rw [hC, List.getElem?_map, hq]; rfl
    rw [List.getElem?_map] at h1
    cases hi : isC[k]? with
    | none => rw [hi] at h1; cases h1
    | some i => rw [hi] at h1; exact ⟨i, rfl, Option.some.inj h1⟩
  have apart : ∀ (k : Nat) (q : Nat × va_E), k ∉ isC → ws[k]? = some q → q.1 < H.size ∧ ¬ va_A wc H.size q.1 := by
    intro k q hk h2
    have hlt := (hP k q h2).lt
    refine ⟨hlt, fun h => ?_⟩
    rcases h with ⟨k2, e, h⟩ | h
    · obtain ⟨j, h3, h4⟩ := at' k2 (q.1, e) h
      have hij := hD.1 k j q (q.1, e) h2 h4 rfl
      subst hij
      exact hk (List.mem_of_getElem? h3)
    · omega
  have get := kx_rep_get isC w1 ws hl hn
  refine ⟨fun k q hq => ?_, fun i j x y hx hy hxy => ?_, fun k q hq => ?_⟩
  · rcases get k q hq with ⟨j, -, h2⟩ | ⟨h1, h2⟩
    · exact hP1 j q h2
    · obtain ⟨g1, g2⟩ := apart k q h1 h2
      exact (hP k q h2).kept (hk q.1 g1 g2)
  · rcases get i x hx with ⟨a, a1, a2⟩ | ⟨a1, a2⟩ <;> rcases get j y hy with ⟨b, b1, b2⟩ | ⟨b1, b2⟩
    · have hab := hD1.1 a b x y a2 b2 hxy
      subst hab
      exact Option.some.inj (a1.symm.trans b1)
    · exact absurd (hD1.2 a x a2) (by rw [hxy]; exact (apart j y b1 b2).2)
    · exact absurd (hD1.2 b y b2) (by rw [← hxy]; exact (apart i x a1 a2).2)
    · exact hD.1 i j x y a2 b2 hxy
  · rcases get k q hq with ⟨j, -, h2⟩ | ⟨-, h2⟩
    · exact hF q.1 (hD1.2 j q h2)
    · exact hD.2 k q h2
section KX
variable {p : Program} {l : Launch} {e : Env} {R : Room} {s : State} {m : MethodId} {args : Array Value} {below : List Frame} {meth : Method} {c : Code} {H : Heap} {locs : List Loc} {cells slots : Nat} {Q : State → Prop}
variable {cc : ByteArray} {pc : Nat} {ls : Array Slot} {rest st0 : List Value} {G : kx_G} {ws wc : va_W} {A0 : Nat → Prop} {H0 : Heap} {a : Array Value} {mc ms : Nat}
theorem kx_ei {x y : Int32} (h : x = y) (k : W p l e R s m args below meth c H locs cells slots Q (F0 m pc ls (.int y :: rest))) : W p l e R s m args below meth c H locs cells slots Q (F0 m pc ls (.int x :: rest)) := by
  rw [h]
  exact k
theorem kx_ed {x y : UInt64} (h : x = y) (k : W p l e R s m args below meth c H locs cells slots Q (F0 m pc ls (.double y :: rest))) : W p l e R s m args below meth c H locs cells slots Q (F0 m pc ls (.double x :: rest)) := by
  rw [h]
  exact k
theorem kx_el {x y : Int64} (h : x = y) (k : W p l e R s m args below meth c H locs cells slots Q (F0 m pc ls (.long y :: rest))) : W p l e R s m args below meth c H locs cells slots Q (F0 m pc ls (.long x :: rest)) := by
  rw [h]
  exact k
theorem kx_dald (hx : p.tables.exec = Jvm.exec) (hb : c.code = cc) (hT : kx_T G s) (hP : va_P G.1 vwCl ws H) (q0 : Nat) {b n : Nat} {f : Nat → UInt64} (ha : ws[q0]? = some (b, kx_aD G n f)) (j : Nat) (hj : j < n) (hn : n < 2 ^ 31) (hdg : decode cc pc = .ok (.daload, 1))
    (kk : W p l e R s m args below meth c H locs cells slots Q (F0 m (pc + 1) ls (.double (f j) :: rest))) : W p l e R s m args below meth c H locs cells slots Q (F0 m pc ls (.int (nI j) :: .ref b :: rest)) :=
  va_dald hx hb hT.1 hP q0 1 ha rfl (vp_in_nI hj hn) hdg (by rw [nI_clamp (Nat.lt_trans hj hn)]; exact kk)
theorem kx_iald (hx : p.tables.exec = Jvm.exec) (hb : c.code = cc) (hT : kx_T G s) (hP : va_P G.1 vwCl ws H) (q0 : Nat) {b n : Nat} {f : Nat → Int32} (ha : ws[q0]? = some (b, kx_aI G n f)) (j : Nat) (hj : j < n) (hn : n < 2 ^ 31) (hdg : decode cc pc = .ok (.iaload, 1))
    (kk : W p l e R s m args below meth c H locs cells slots Q (F0 m (pc + 1) ls (.int (f j) :: rest))) : W p l e R s m args below meth c H locs cells slots Q (F0 m pc ls (.int (nI j) :: .ref b :: rest)) :=
  va_iald hx hb hT.1 hP q0 0 ha rfl (vp_in_nI hj hn) hdg (by rw [nI_clamp (Nat.lt_trans hj hn)]; exact kk)
theorem kx_zald (hx : p.tables.exec = Jvm.exec) (hb : c.code = cc) (hT : kx_T G s) (hP : va_P G.1 vwCl ws H) (q0 : Nat) {b n : Nat} {f : Nat → Int32} (ha : ws[q0]? = some (b, kx_aZ G n f)) (j : Nat) (hj : j < n) (hn : n < 2 ^ 31) (hdg : decode cc pc = .ok (.baload, 1))
    (kk : W p l e R s m args below meth c H locs cells slots Q (F0 m (pc + 1) ls (.int (f j) :: rest))) : W p l e R s m args below meth c H locs cells slots Q (F0 m pc ls (.int (nI j) :: .ref b :: rest)) :=
  va_zald hx hb hT.1 hP q0 2 ha rfl (vp_in_nI hj hn) hdg (by rw [nI_clamp (Nat.lt_trans hj hn)]; exact kk)
theorem kx_dast (hx : p.tables.exec = Jvm.exec) (hb : c.code = cc) (hT : kx_T G s) (hP : va_P G.1 vwCl ws H) (hD : va_D A0 ws) (hS : va_S A0 H0 H locs) (q0 : Nat) {b n : Nat} {f : Nat → UInt64} (ha : ws[q0]? = some (b, kx_aD G n f)) (j : Nat) {x : UInt64} (hj : j < n) (hn : n < 2 ^ 31) (hdg : decode cc pc = .ok (.dastore, 1))
    (kk : ∀ (H1 : Heap) (locs1 : List Loc), va_P G.1 vwCl (ws.set q0 (b, kx_aD G n (vf_upd f j x))) H1 → va_D A0 (ws.set q0 (b, kx_aD G n (vf_upd f j x))) → va_S A0 H0 H1 locs1 → W p l e R s m args below meth c H1 locs1 cells slots Q (F0 m (pc + 1) ls rest)) : W p l e R s m args below meth c H locs cells slots Q (F0 m pc ls (.double x :: .int (nI j) :: .ref b :: rest)) :=
  va_dast hx hb hT.1 hP hD hS q0 1 ha rfl (vp_in_nI hj hn) hdg (by rw [nI_clamp (Nat.lt_trans hj hn)]; exact kk)
theorem kx_iast (hx : p.tables.exec = Jvm.exec) (hb : c.code = cc) (hT : kx_T G s) (hP : va_P G.1 vwCl ws H) (hD : va_D A0 ws) (hS : va_S A0 H0 H locs) (q0 : Nat) {b n : Nat} {f : Nat → Int32} (ha : ws[q0]? = some (b, kx_aI G n f)) (j : Nat) {x : Int32} (hj : j < n) (hn : n < 2 ^ 31) (hdg : decode cc pc = .ok (.iastore, 1))
    (kk : ∀ (H1 : Heap) (locs1 : List Loc), va_P G.1 vwCl (ws.set q0 (b, kx_aI G n (upd f j x))) H1 → va_D A0 (ws.set q0 (b, kx_aI G n (upd f j x))) → va_S A0 H0 H1 locs1 → W p l e R s m args below meth c H1 locs1 cells slots Q (F0 m (pc + 1) ls rest)) : W p l e R s m args below meth c H locs cells slots Q (F0 m pc ls (.int x :: .int (nI j) :: .ref b :: rest)) :=
  va_iast hx hb hT.1 hP hD hS q0 0 ha rfl (vp_in_nI hj hn) hdg (by rw [nI_clamp (Nat.lt_trans hj hn)]; exact kk)
theorem kx_zast (hx : p.tables.exec = Jvm.exec) (hb : c.code = cc) (hT : kx_T G s) (hP : va_P G.1 vwCl ws H) (hD : va_D A0 ws) (hS : va_S A0 H0 H locs) (q0 : Nat) {b n : Nat} {f : Nat → Int32} (ha : ws[q0]? = some (b, kx_aZ G n f)) (j : Nat) {x : Int32} (hz : vp_nar .boolean x = x) (hj : j < n) (hn : n < 2 ^ 31) (hdg : decode cc pc = .ok (.bastore, 1))
    (kk : ∀ (H1 : Heap) (locs1 : List Loc), va_P G.1 vwCl (ws.set q0 (b, kx_aZ G n (upd f j x))) H1 → va_D A0 (ws.set q0 (b, kx_aZ G n (upd f j x))) → va_S A0 H0 H1 locs1 → W p l e R s m args below meth c H1 locs1 cells slots Q (F0 m (pc + 1) ls rest)) : W p l e R s m args below meth c H locs cells slots Q (F0 m pc ls (.int x :: .int (nI j) :: .ref b :: rest)) :=
  va_zast hx hb hT.1 hP hD hS q0 2 ha rfl (vp_in_nI hj hn) hdg (by rw [nI_clamp (Nat.lt_trans hj hn), hz]; exact kk)
theorem kx_newD (hx : p.tables.exec = Jvm.exec) (hb : c.code = cc) (harr : (Cond.arrayClass .double).before args s = true) (hT : kx_T G s) (hP : va_P G.1 vwCl ws H) (hD : va_D A0 ws) (hS : va_S A0 H0 H locs) (hA : ∀ q, H0.size ≤ q → A0 q) (N : Nat) (hN : N < 65536) (hcells : cells + 1 ≤ R.cells) (hslots : slots + N ≤ R.slots) (hdg : decode cc pc = .ok (.newarray .double, 2))
    (kk : ∀ (q : Nat) (H1 : Heap), va_P G.1 vwCl (ws ++ [(q, kx_aD G N (fun _ => 0))]) H1 → va_D A0 (ws ++ [(q, kx_aD G N (fun _ => 0))]) → va_S A0 H0 H1 locs → W p l e R s m args below meth c H1 locs (cells + 1) (slots + N) Q (F0 m (pc + 2) ls (.ref q :: rest))) : W p l e R s m args below meth c H locs cells slots Q (F0 m pc ls (.int (nI N) :: rest)) := by
  refine va_newa (atype := .double) (ty := .double) (a0 := (N, .inr (.inr (.inr (.inl (fun _ => 0)))))) hx hb harr rfl hT.1 hP hD hS hA (fun _ => rfl) (nI_pos (by omega)) (nI_clamp (by omega)) (by show N * 8 ≤ _; omega) hcells hslots hdg (fun q cA H1 hK1 hP1 hD1 hS1 => ?_)
  have e1 := (hK1.2 4 _ rfl).2
  have e2 := (hT.1.2 1 _ rfl).2
  have e3 : cA = G.2.2.1 := Option.some.inj (e1.symm.trans e2)
  subst e3
  exact kk q H1 hP1 hD1 hS1
theorem kx_newI (hx : p.tables.exec = Jvm.exec) (hb : c.code = cc) (harr : (Cond.arrayClass .int).before args s = true) (hT : kx_T G s) (hP : va_P G.1 vwCl ws H) (hD : va_D A0 ws) (hS : va_S A0 H0 H locs) (hA : ∀ q, H0.size ≤ q → A0 q) (N : Nat) (hN : N < 65536) (hcells : cells + 1 ≤ R.cells) (hslots : slots + N ≤ R.slots) (hdg : decode cc pc = .ok (.newarray .int, 2))
    (kk : ∀ (q : Nat) (H1 : Heap), va_P G.1 vwCl (ws ++ [(q, kx_aI G N (fun _ => 0))]) H1 → va_D A0 (ws ++ [(q, kx_aI G N (fun _ => 0))]) → va_S A0 H0 H1 locs → W p l e R s m args below meth c H1 locs (cells + 1) (slots + N) Q (F0 m (pc + 2) ls (.ref q :: rest))) : W p l e R s m args below meth c H locs cells slots Q (F0 m pc ls (.int (nI N) :: rest)) := by
  refine va_newa (atype := .int) (ty := .int) (a0 := (N, .inl (fun _ => 0))) hx hb harr rfl hT.1 hP hD hS hA (fun _ => rfl) (nI_pos (by omega)) (nI_clamp (by omega)) (by show N * 4 ≤ _; omega) hcells hslots hdg (fun q cA H1 hK1 hP1 hD1 hS1 => ?_)
  have e1 := (hK1.2 4 _ rfl).2
  have e2 := (hT.1.2 0 _ rfl).2
  have e3 : cA = G.2.1 := Option.some.inj (e1.symm.trans e2)
  subst e3
  exact kk q H1 hP1 hD1 hS1
theorem kx_newZ (hx : p.tables.exec = Jvm.exec) (hb : c.code = cc) (harr : (Cond.arrayClass .boolean).before args s = true) (hT : kx_T G s) (hP : va_P G.1 vwCl ws H) (hD : va_D A0 ws) (hS : va_S A0 H0 H locs) (hA : ∀ q, H0.size ≤ q → A0 q) (N : Nat) (hN : N < 65536) (hcells : cells + 1 ≤ R.cells) (hslots : slots + N ≤ R.slots) (hdg : decode cc pc = .ok (.newarray .boolean, 2))
    (kk : ∀ (q : Nat) (H1 : Heap), va_P G.1 vwCl (ws ++ [(q, kx_aZ G N (fun _ => 0))]) H1 → va_D A0 (ws ++ [(q, kx_aZ G N (fun _ => 0))]) → va_S A0 H0 H1 locs → W p l e R s m args below meth c H1 locs (cells + 1) (slots + N) Q (F0 m (pc + 2) ls (.ref q :: rest))) : W p l e R s m args below meth c H locs cells slots Q (F0 m pc ls (.int (nI N) :: rest)) := by
  refine va_newa (atype := .boolean) (ty := .boolean) (a0 := (N, .inl (fun _ => 0))) hx hb harr rfl hT.1 hP hD hS hA (fun _ => rfl) (nI_pos (by omega)) (nI_clamp (by omega)) (by show N * 1 ≤ _; omega) hcells hslots hdg (fun q cA H1 hK1 hP1 hD1 hS1 => ?_)
  have e1 := (hK1.2 4 _ rfl).2
  have e2 := (hT.1.2 2 _ rfl).2
  have e3 : cA = G.2.2.2.1 := Option.some.inj (e1.symm.trans e2)
  subst e3
  exact kk q H1 hP1 hD1 hS1
theorem kx_newJ (hx : p.tables.exec = Jvm.exec) (hb : c.code = cc) (harr : (Cond.arrayClass .long).before args s = true) (hT : kx_T G s) (hP : va_P G.1 vwCl ws H) (hD : va_D A0 ws) (hS : va_S A0 H0 H locs) (hA : ∀ q, H0.size ≤ q → A0 q) (N : Nat) (hN : N < 65536) (hcells : cells + 1 ≤ R.cells) (hslots : slots + N ≤ R.slots) (hdg : decode cc pc = .ok (.newarray .long, 2))
    (kk : ∀ (q : Nat) (H1 : Heap), va_P G.1 vwCl (ws ++ [(q, kx_aJ G N (fun _ => 0))]) H1 → va_D A0 (ws ++ [(q, kx_aJ G N (fun _ => 0))]) → va_S A0 H0 H1 locs → W p l e R s m args below meth c H1 locs (cells + 1) (slots + N) Q (F0 m (pc + 2) ls (.ref q :: rest))) : W p l e R s m args below meth c H locs cells slots Q (F0 m pc ls (.int (nI N) :: rest)) := by
  refine va_newa (atype := .long) (ty := .long) (a0 := (N, .inr (.inl (fun _ => 0)))) hx hb harr rfl hT.1 hP hD hS hA (fun _ => rfl) (nI_pos (by omega)) (nI_clamp (by omega)) (by show N * 8 ≤ _; omega) hcells hslots hdg (fun q cA H1 hK1 hP1 hD1 hS1 => ?_)
  have e1 := (hK1.2 4 _ rfl).2
  have e2 := (hT.1.2 3 _ rfl).2
  have e3 : cA = G.2.2.2.2 := Option.some.inj (e1.symm.trans e2)
  subst e3
  exact kk q H1 hP1 hD1 hS1
theorem kx_mi {S : Type} {post : Int32 → S → Prop} {w1 : S → va_W} (hr : va_Run p l e R s m args below meth c H locs cells slots mc ms (F0 m pc ls st0) rest (va_Qi post (kx_B G (va_A wc H.size) w1) (va_A wc H.size) a) (va_A wc H.size)) (hP : va_P G.1 vwCl ws H) (hD : va_D A0 ws) (hS : va_S A0 H0 H locs) (hA : ∀ q, H0.size ≤ q → A0 q) (isC : List Nat) (hC : isC.map (fun i => ws[i]?) = wc.map some) (hn : va_nd isC = true) (hl : ∀ u, isC.length = (w1 u).length)
    (kk : ∀ (r : Int32) (u : S) (H1 : Heap) (locs1 : List Loc), post r u → va_P G.1 vwCl (kx_rep ws isC (w1 u)) H1 → va_D A0 (kx_rep ws isC (w1 u)) → va_S A0 H0 H1 locs1 → W p l e R s m args below meth c H1 locs1 (cells + mc) (slots + ms) Q (F0 m (pc + 3) ls (.int r :: rest))) : W p l e R s m args below meth c H locs cells slots Q (F0 m pc ls st0) := by
  have hF := va_free hD hS hA isC hC
  refine va_calli hr hS (fun q _ h => hF q h) hF (fun r u t H1 locs1 ht hvm hw hB hz hk hS1 => ?_)
  obtain ⟨g1, g2⟩ := hB
  rw [ht] at g1
  obtain ⟨b1, b2⟩ := kx_back hP hD isC hC hn (hl u) hk hF g1 g2
  exact kk r u H1 locs1 hw b1 b2 hS1
theorem kx_ml {S : Type} {post : Int64 → S → Prop} {w1 : S → va_W} (hr : va_Run p l e R s m args below meth c H locs cells slots mc ms (F0 m pc ls st0) rest (va_Ql post (kx_B G (va_A wc H.size) w1) (va_A wc H.size) a) (va_A wc H.size)) (hP : va_P G.1 vwCl ws H) (hD : va_D A0 ws) (hS : va_S A0 H0 H locs) (hA : ∀ q, H0.size ≤ q → A0 q) (isC : List Nat) (hC : isC.map (fun i => ws[i]?) = wc.map some) (hn : va_nd isC = true) (hl : ∀ u, isC.length = (w1 u).length)
    (kk : ∀ (r : Int64) (u : S) (H1 : Heap) (locs1 : List Loc), post r u → va_P G.1 vwCl (kx_rep ws isC (w1 u)) H1 → va_D A0 (kx_rep ws isC (w1 u)) → va_S A0 H0 H1 locs1 → W p l e R s m args below meth c H1 locs1 (cells + mc) (slots + ms) Q (F0 m (pc + 3) ls (.long r :: rest))) : W p l e R s m args below meth c H locs cells slots Q (F0 m pc ls st0) := by
  have hF := va_free hD hS hA isC hC
  refine va_calll hr hS (fun q _ h => hF q h) hF (fun r u t H1 locs1 ht hvm hw hB hz hk hS1 => ?_)
  obtain ⟨g1, g2⟩ := hB
  rw [ht] at g1
  obtain ⟨b1, b2⟩ := kx_back hP hD isC hC hn (hl u) hk hF g1 g2
  exact kk r u H1 locs1 hw b1 b2 hS1
theorem kx_md {S : Type} {post : UInt64 → S → Prop} {w1 : S → va_W} (hr : va_Run p l e R s m args below meth c H locs cells slots mc ms (F0 m pc ls st0) rest (va_Qd post (kx_B G (va_A wc H.size) w1) (va_A wc H.size) a) (va_A wc H.size)) (hP : va_P G.1 vwCl ws H) (hD : va_D A0 ws) (hS : va_S A0 H0 H locs) (hA : ∀ q, H0.size ≤ q → A0 q) (isC : List Nat) (hC : isC.map (fun i => ws[i]?) = wc.map some) (hn : va_nd isC = true) (hl : ∀ u, isC.length = (w1 u).length)
    (kk : ∀ (r : UInt64) (u : S) (H1 : Heap) (locs1 : List Loc), post r u → va_P G.1 vwCl (kx_rep ws isC (w1 u)) H1 → va_D A0 (kx_rep ws isC (w1 u)) → va_S A0 H0 H1 locs1 → W p l e R s m args below meth c H1 locs1 (cells + mc) (slots + ms) Q (F0 m (pc + 3) ls (.double r :: rest))) : W p l e R s m args below meth c H locs cells slots Q (F0 m pc ls st0) := by
  have hF := va_free hD hS hA isC hC
  refine va_calld hr hS (fun q _ h => hF q h) hF (fun r u t H1 locs1 ht hvm hw hB hz hk hS1 => ?_)
  obtain ⟨g1, g2⟩ := hB
  rw [ht] at g1
  obtain ⟨b1, b2⟩ := kx_back hP hD isC hC hn (hl u) hk hF g1 g2
  exact kk r u H1 locs1 hw b1 b2 hS1
theorem kx_mv {S : Type} {post : S → Prop} {w1 : S → va_W} (hr : va_Run p l e R s m args below meth c H locs cells slots mc ms (F0 m pc ls st0) rest (va_Qv post (kx_B G (va_A wc H.size) w1) (va_A wc H.size) a) (va_A wc H.size)) (hP : va_P G.1 vwCl ws H) (hD : va_D A0 ws) (hS : va_S A0 H0 H locs) (hA : ∀ q, H0.size ≤ q → A0 q) (isC : List Nat) (hC : isC.map (fun i => ws[i]?) = wc.map some) (hn : va_nd isC = true) (hl : ∀ u, isC.length = (w1 u).length)
    (kk : ∀ (u : S) (H1 : Heap) (locs1 : List Loc), post u → va_P G.1 vwCl (kx_rep ws isC (w1 u)) H1 → va_D A0 (kx_rep ws isC (w1 u)) → va_S A0 H0 H1 locs1 → W p l e R s m args below meth c H1 locs1 (cells + mc) (slots + ms) Q (F0 m (pc + 3) ls rest)) : W p l e R s m args below meth c H locs cells slots Q (F0 m pc ls st0) := by
  have hF := va_free hD hS hA isC hC
  refine va_callv hr hS (fun q _ h => hF q h) hF (fun u t H1 locs1 ht hvm hw hB hz hk hS1 => ?_)
  obtain ⟨g1, g2⟩ := hB
  rw [ht] at g1
  obtain ⟨b1, b2⟩ := kx_back hP hD isC hC hn (hl u) hk hF g1 g2
  exact kk u H1 locs1 hw b1 b2 hS1
end KX
end
section
/-! comparing doubles and branching -/
section KC
variable {p : Program} {l : Launch} {e : Env} {R : Room} {s : State} {m : MethodId} {args : Array Value} {below : List Frame} {meth : Method} {c : Code} {H : Heap} {locs : List Loc} {cells slots : Nat} {Q : State → Prop}
variable {cc : ByteArray} {pc : Nat} {ls : Array Slot} {rest : List Value}
theorem kx_v0 {o : Option Ordering} : (0 ≤ Op.cmpValue o .g ↔ o ≠ some .lt) ∧ (0 < Op.cmpValue o .g ↔ ¬ (o = some .lt ∨ o = some .eq)) ∧ (Op.cmpValue o .l ≤ 0 ↔ o ≠ some .gt) ∧ (Op.cmpValue o .l < 0 ↔ ¬ (o = some .gt ∨ o = some .eq)) ∧ (Op.cmpValue o .l = 0 ↔ o = some .eq) := by
  rcases o with _ | o
  · decide
  · cases o <;> decide
/-- x < y: dcmpg, ifge -/
theorem kx_dlt (hx : p.tables.exec = Jvm.exec) (hb : c.code = cc) {x y : UInt64} {off : Int} {tgt : Nat} (hd1 : decode cc pc = .ok (.dcmp .g, 1)) (hd2 : decode cc (pc + 1) = .ok (.ifCond .ge off, 3)) (ht : ((pc + 1 : Nat) : Int) + off = (tgt : Int))
    (kt : FP.dcmp x y ≠ some .lt → W p l e R s m args below meth c H locs cells slots Q (F0 m tgt ls rest)) (kf : FP.dcmp x y = some .lt → W p l e R s m args below meth c H locs cells slots Q (F0 m (pc + 1 + 3) ls rest)) : W p l e R s m args below meth c H locs cells slots Q (F0 m pc ls (.double y :: .double x :: rest)) :=
  lv_dcmp hx hb hd1 (lv_if_ge hx hb hd2 ht (fun h => kt (kx_v0.1.mp h)) (fun h => kf (Classical.not_not.mp (fun q => h (kx_v0.1.mpr q)))))
/-- x ≤ y: dcmpg, ifgt -/
theorem kx_dle (hx : p.tables.exec = Jvm.exec) (hb : c.code = cc) {x y : UInt64} {off : Int} {tgt : Nat} (hd1 : decode cc pc = .ok (.dcmp .g, 1)) (hd2 : decode cc (pc + 1) = .ok (.ifCond .gt off, 3)) (ht : ((pc + 1 : Nat) : Int) + off = (tgt : Int))
    (kt : ¬ (FP.dcmp x y = some .lt ∨ FP.dcmp x y = some .eq) → W p l e R s m args below meth c H locs cells slots Q (F0 m tgt ls rest)) (kf : (FP.dcmp x y = some .lt ∨ FP.dcmp x y = some .eq) → W p l e R s m args below meth c H locs cells slots Q (F0 m (pc + 1 + 3) ls rest)) : W p l e R s m args below meth c H locs cells slots Q (F0 m pc ls (.double y :: .double x :: rest)) :=
  lv_dcmp hx hb hd1 (lv_if_gt hx hb hd2 ht (fun h => kt (kx_v0.2.1.mp h)) (fun h => kf (Classical.not_not.mp (fun q => h (kx_v0.2.1.mpr q)))))
/-- x > y: dcmpl, ifle -/
theorem kx_dgt (hx : p.tables.exec = Jvm.exec) (hb : c.code = cc) {x y : UInt64} {off : Int} {tgt : Nat} (hd1 : decode cc pc = .ok (.dcmp .l, 1)) (hd2 : decode cc (pc + 1) = .ok (.ifCond .le off, 3)) (ht : ((pc + 1 : Nat) : Int) + off = (tgt : Int))
    (kt : FP.dcmp x y ≠ some .gt → W p l e R s m args below meth c H locs cells slots Q (F0 m tgt ls rest)) (kf : FP.dcmp x y = some .gt → W p l e R s m args below meth c H locs cells slots Q (F0 m (pc + 1 + 3) ls rest)) : W p l e R s m args below meth c H locs cells slots Q (F0 m pc ls (.double y :: .double x :: rest)) :=
  lv_dcmp hx hb hd1 (lv_if_le hx hb hd2 ht (fun h => kt (kx_v0.2.2.1.mp h)) (fun h => kf (Classical.not_not.mp (fun q => h (kx_v0.2.2.1.mpr q)))))
/-- x ≥ y: dcmpl, iflt -/
theorem kx_dge (hx : p.tables.exec = Jvm.exec) (hb : c.code = cc) {x y : UInt64} {off : Int} {tgt : Nat} (hd1 : decode cc pc = .ok (.dcmp .l, 1)) (hd2 : decode cc (pc + 1) = .ok (.ifCond .lt off, 3)) (ht : ((pc + 1 : Nat) : Int) + off = (tgt : Int))
    (kt : ¬ (FP.dcmp x y = some .gt ∨ FP.dcmp x y = some .eq) → W p l e R s m args below meth c H locs cells slots Q (F0 m tgt ls rest)) (kf : (FP.dcmp x y = some .gt ∨ FP.dcmp x y = some .eq) → W p l e R s m args below meth c H locs cells slots Q (F0 m (pc + 1 + 3) ls rest)) : W p l e R s m args below meth c H locs cells slots Q (F0 m pc ls (.double y :: .double x :: rest)) :=
  lv_dcmp hx hb hd1 (lv_if_lt hx hb hd2 ht (fun h => kt (kx_v0.2.2.2.1.mp h)) (fun h => kf (Classical.not_not.mp (fun q => h (kx_v0.2.2.2.1.mpr q)))))
/-- x == y: dcmpl, ifne -/
theorem kx_deq (hx : p.tables.exec = Jvm.exec) (hb : c.code = cc) {x y : UInt64} {off : Int} {tgt : Nat} (hd1 : decode cc pc = .ok (.dcmp .l, 1)) (hd2 : decode cc (pc + 1) = .ok (.ifCond .ne off, 3)) (ht : ((pc + 1 : Nat) : Int) + off = (tgt : Int))
    (kt : FP.dcmp x y ≠ some .eq → W p l e R s m args below meth c H locs cells slots Q (F0 m tgt ls rest)) (kf : FP.dcmp x y = some .eq → W p l e R s m args below meth c H locs cells slots Q (F0 m (pc + 1 + 3) ls rest)) : W p l e R s m args below meth c H locs cells slots Q (F0 m pc ls (.double y :: .double x :: rest)) :=
  lv_dcmp hx hb hd1 (lv_if_ne hx hb hd2 ht (fun h => kt (fun q => h (kx_v0.2.2.2.2.mpr q))) (fun h => kf (kx_v0.2.2.2.2.mp h)))
/-- x != y: dcmpl, ifeq -/
theorem kx_dne (hx : p.tables.exec = Jvm.exec) (hb : c.code = cc) {x y : UInt64} {off : Int} {tgt : Nat} (hd1 : decode cc pc = .ok (.dcmp .l, 1)) (hd2 : decode cc (pc + 1) = .ok (.ifCond .eq off, 3)) (ht : ((pc + 1 : Nat) : Int) + off = (tgt : Int))
    (kt : FP.dcmp x y = some .eq → W p l e R s m args below meth c H locs cells slots Q (F0 m tgt ls rest)) (kf : FP.dcmp x y ≠ some .eq → W p l e R s m args below meth c H locs cells slots Q (F0 m (pc + 1 + 3) ls rest)) : W p l e R s m args below meth c H locs cells slots Q (F0 m pc ls (.double y :: .double x :: rest)) :=
  lv_dcmp hx hb hd1 (lv_if_eq hx hb hd2 ht (fun h => kt (kx_v0.2.2.2.2.mp h)) (fun h => kf (fun q => h (kx_v0.2.2.2.2.mpr q))))
end KC
end
section
/-! the numbers that both sides reckon -/
theorem fx_2b : fx_bd 2 fx_2 := ⟨_, _, _, fx_2v, by decide⟩
theorem fx_k4614254477589872640 : fx_bd 2 4614254477589872640 := ⟨false, 7072058789855232, -51, by decide +kernel, by decide⟩
theorem fx_bd.upd {K : Nat} {f : Nat → UInt64} {j : Nat} {x : UInt64} (h : ∀ i, fx_bd K (f i)) (hx : fx_bd K x) : ∀ i, fx_bd K (vf_upd f j x i) := by
  intro i
  unfold vf_upd
  split
  · exact hx
  · exact h i
theorem kx_ix {i j n v : Nat} (hi : i < n) (hj : j < v) : i * v + j < n * v := by
  calc i * v + j < i * v + v := Nat.add_lt_add_left hj _
    _ = (i + 1) * v := (Nat.succ_mul i v).symm
    _ ≤ n * v := Nat.mul_le_mul_right v hi
theorem kx_nv {n v : Nat} (hn : n ≤ 16) (hv : v ≤ 8) : n * v < 2 ^ 31 := Nat.lt_of_le_of_lt (Nat.mul_le_mul hn hv) (by decide)
/-- ROOT -/
def kx_rs (w : UInt64) : Nat → UInt64
  | 0 => FP.ddiv (FP.dadd w FP.dconst1) fx_2
  | i + 1 => FP.ddiv (FP.dadd (kx_rs w i) (FP.ddiv w (kx_rs w i))) fx_2
def kx_root (w : UInt64) : UInt64 := kx_rs w 60
theorem kx_rs_ok {w : UInt64} (hn : fx_nn w) (hb : fx_bd 14 w) : ∀ i, i ≤ 60 → fx_bd (17 + 3 * i) (kx_rs w i) ∧ fx_pl (1 + i) (kx_rs w i)
  | 0, _ => by
    have h1 := (hb.add fx_1b (by omega))
    have h2 : fx_pl 0 (FP.dadd w FP.dconst1) := by
      have e : FP.dadd w FP.dconst1 = FP.dadd FP.dconst1 w := FP.Core.dadd_comm _ _
      rw [e]
      exact fx_1l.add hn fx_1b hb (by omega) (by omega)
    exact ⟨h1.div fx_2l.lb (by omega), h2.half h1 (by omega) (by omega)⟩
  | i + 1, hi => by
    obtain ⟨h1, h2⟩ := kx_rs_ok hn hb i (by omega)
    have h3 := hb.div h2.lb (by omega)
    have h4 := h1.add h3 (by omega)
    have h5 := hn.div h2 hb (by omega)
    have h6 := h2.add h5 h1 h3 (by omega) (by omega)
    have h7 := h6.half h4 (by omega) (by omega)
    refine ⟨(h4.div fx_2l.lb (by omega)).mono (by omega), h7.mono (by omega)⟩
theorem kx_root_bd {w : UInt64} (hn : fx_nn w) (hb : fx_bd 14 w) : fx_bd 200 (kx_root w) := ((kx_rs_ok hn hb 60 (by omega)).1).mono (by omega)
theorem kx_root_pl {w : UInt64} (hn : fx_nn w) (hb : fx_bd 14 w) : fx_pl 61 (kx_root w) := (kx_rs_ok hn hb 60 (by omega)).2
/-- a direction's square -/
def kx_sq (p q : UInt64) : UInt64 := FP.dadd (FP.dmul p p) (FP.dmul q q)
theorem kx_sq_bd {p q : UInt64} (hp : fx_bd 5 p) (hq : fx_bd 5 q) : fx_bd 14 (kx_sq p q) := ((hp.mul hp (by omega)).add (hq.mul hq (by omega)) (by omega)).mono (by omega)
theorem kx_sq_nn {p q : UInt64} (hp : fx_bd 5 p) (hq : fx_bd 5 q) : fx_nn (kx_sq p q) := (fx_nn.mul hp (by omega)).add (fx_nn.mul hq (by omega)) (hp.mul hp (by omega)) (hq.mul hq (by omega)) (by omega)
/-- sums -/
def kx_sum (g : Nat → UInt64) : Nat → UInt64
  | 0 => FP.dconst0
  | i + 1 => FP.dadd (kx_sum g i) (g i)
theorem kx_sum_bd {g : Nat → UInt64} {K : Nat} (h : ∀ j, fx_bd K (g j)) : ∀ i, K + 2 * i ≤ 1024 → fx_bd (K + 2 * i) (kx_sum g i)
  | 0, _ => fx_0b.mono (by omega)
  | i + 1, hi => ((kx_sum_bd h i (by omega)).add (h i) (by omega)).mono (by omega)
theorem kx_sum_c {f g : Nat → UInt64} : ∀ n, (∀ j, j < n → f j = g j) → kx_sum f n = kx_sum g n
  | 0, _ => rfl
  | n + 1, h => by
    show FP.dadd (kx_sum f n) (f n) = FP.dadd (kx_sum g n) (g n)
    rw [kx_sum_c n (fun j hj => h j (by omega)), h n (by omega)]
def kx_si (th : Nat → Int32) (g : Nat → UInt64) : Nat → UInt64
  | 0 => FP.dconst0
  | i + 1 => if th i = 0 then kx_si th g i else FP.dadd (kx_si th g i) (g i)
theorem kx_si_t {th : Nat → Int32} {g : Nat → UInt64} {i : Nat} (h : ¬ th i = 0) : kx_si th g (i + 1) = FP.dadd (kx_si th g i) (g i) := if_neg h
theorem kx_si_f {th : Nat → Int32} {g : Nat → UInt64} {i : Nat} (h : th i = 0) : kx_si th g (i + 1) = kx_si th g i := if_pos h
theorem kx_si_bd {th : Nat → Int32} {g : Nat → UInt64} {K : Nat} (h : ∀ j, fx_bd K (g j)) : ∀ i, K + 2 * i ≤ 1024 → fx_bd (K + 2 * i) (kx_si th g i)
  | 0, _ => fx_0b.mono (by omega)
  | i + 1, hi => by
    by_cases c : th i = 0
    · rw [kx_si_f c]
      exact (kx_si_bd h i (by omega)).mono (by omega)
    · rw [kx_si_t c]
      exact ((kx_si_bd h i (by omega)).add (h i) (by omega)).mono (by omega)
theorem kx_si_c {th ti : Nat → Int32} {f g : Nat → UInt64} : ∀ n, (∀ j, j < n → th j = ti j) → (∀ j, j < n → th j ≠ 0 → f j = g j) → kx_si th f n = kx_si ti g n
  | 0, _, _ => rfl
  | n + 1, ht, h => by
    have e := kx_si_c n (fun j hj => ht j (by omega)) (fun j hj => h j (by omega))
    by_cases c : th n = 0
    · rw [kx_si_f c, kx_si_f (by rw [← ht n (by omega)]; exact c), e]
    · rw [kx_si_t c, kx_si_t (by rw [← ht n (by omega)]; exact c), e, h n (by omega) c]
def kx_cn (th : Nat → Int32) : Nat → Nat
  | 0 => 0
  | i + 1 => if th i = 0 then kx_cn th i else kx_cn th i + 1
theorem kx_cn_t {th : Nat → Int32} {i : Nat} (h : ¬ th i = 0) : kx_cn th (i + 1) = kx_cn th i + 1 := if_neg h
theorem kx_cn_f {th : Nat → Int32} {i : Nat} (h : th i = 0) : kx_cn th (i + 1) = kx_cn th i := if_pos h
theorem kx_cn_le {th : Nat → Int32} : ∀ i, kx_cn th i ≤ i
  | 0 => Nat.le_refl 0
  | i + 1 => by
    have h := kx_cn_le (th := th) i
    by_cases c : th i = 0
    · rw [kx_cn_f c]; omega
    · rw [kx_cn_t c]; omega
theorem kx_cn_c {th ti : Nat → Int32} : ∀ n, (∀ j, j < n → th j = ti j) → kx_cn th n = kx_cn ti n
  | 0, _ => rfl
  | n + 1, ht => by
    have e := kx_cn_c n (fun j hj => ht j (by omega))
    by_cases c : th n = 0
    · rw [kx_cn_f c, kx_cn_f (by rw [← ht n (by omega)]; exact c), e]
    · rw [kx_cn_t c, kx_cn_t (by rw [← ht n (by omega)]; exact c), e]
/-- AREA, INSIDE -/
def kx_area (r : UInt64) : UInt64 := FP.dmul (FP.dmul 4614254477589872640 r) r
theorem kx_area_bd {r : UInt64} (h : fx_bd 140 r) : fx_bd 290 (kx_area r) := ((fx_k4614254477589872640.mul h (by omega)).mul h (by omega)).mono (by omega)
def kx_d2 (x y u w : UInt64) : UInt64 := FP.dadd (FP.dmul (FP.dsub x u) (FP.dsub x u)) (FP.dmul (FP.dsub y w) (FP.dsub y w))
def kx_cov (cx cy r x y : UInt64) : Int32 := if (FP.dcmp (kx_d2 x y cx cy) (FP.dmul r r) = some .lt ∨ FP.dcmp (kx_d2 x y cx cy) (FP.dmul r r) = some .eq) then 1 else 0
theorem kx_cov_01 {cx cy r x y : UInt64} : kx_cov cx cy r x y = 0 ∨ kx_cov cx cy r x y = 1 := by
  unfold kx_cov
  split
  · exact Or.inr rfl
  · exact Or.inl rfl
/-- a place on the line from a to b -/
def kx_ln (fa fb : UInt64) (x y : Int32) : UInt64 := FP.dadd fa (FP.ddiv (FP.dmul (FP.dsub fb fa) (FP.i2d x)) (FP.i2d y))
theorem kx_ln_bd {fa fb : UInt64} {x y : Int32} {K : Nat} (ha : fx_bd K fa) (hb : fx_bd K fb) (hy : y ≠ 0) (hK : K + 100 ≤ 1024) : fx_bd (K + 39) (kx_ln fa fb x y) := (ha.add ((((hb.sub ha (by omega)).mul (fx_i (x := x)) (by omega)).div (fx_il hy) (by omega))) (by omega)).mono (by omega)
/-- TAPER, SWEEP -/
def kx_tap (R : Nat → UInt64) (n : Nat) : UInt64 := if n = 1 then FP.dconst0 else FP.ddiv (FP.dsub (R 0) (R (n - 1))) (FP.i2d (nI (n - 1)))
def kx_str (f : Nat → UInt64) (n i : Nat) : UInt64 := kx_ln (f 0) (f (n - 1)) (nI i) (nI (n - 1))
def kx_bend (X Y : Nat → UInt64) (n i : Nat) : UInt64 := kx_d2 (X i) (Y i) (kx_str X n i) (kx_str Y n i)
def kx_max (g : Nat → UInt64) : Nat → UInt64
  | 0 => FP.dconst0
  | i + 1 => if FP.dcmp (g i) (kx_max g i) = some .gt then g i else kx_max g i
theorem kx_max_t {g : Nat → UInt64} {i : Nat} (h : FP.dcmp (g i) (kx_max g i) = some .gt) : kx_max g (i + 1) = g i := if_pos h
theorem kx_max_f {g : Nat → UInt64} {i : Nat} (h : ¬ FP.dcmp (g i) (kx_max g i) = some .gt) : kx_max g (i + 1) = kx_max g i := if_neg h
def kx_swp (X Y : Nat → UInt64) (n : Nat) : UInt64 := if n = 1 then FP.dconst0 else kx_max (kx_bend X Y n) n
/-- the nearest fitted ones -/
def kx_bef (F : Nat → Int32) : Nat → Int32
  | 0 => -1
  | t + 1 => if F t = 0 then kx_bef F t else nI t
def kx_beh (F : Nat → Int32) (n : Nat) : Nat → Int32
  | 0 => -1
  | k + 1 => if F (n - (k + 1)) = 0 then kx_beh F n k else nI (n - (k + 1))
end
section
theorem kx_dec (x : Int32) : x + Int32.ofInt (-1) = x - 1 := by
  rw [Int32.sub_eq_add_neg]
  rfl
theorem kx_tap_bd {R : Nat → UInt64} {n : Nat} (h : ∀ j, fx_bd 140 (R j)) (hn1 : 1 ≤ n) (hn : n < 2 ^ 31) : fx_bd 150 (kx_tap R n) := by
  unfold kx_tap
  split
  · exact fx_0b.mono (by omega)
  · exact (((h 0).sub (h (n - 1)) (by omega)).div (fx_il (nI_ne0 (by omega) (by omega))) (by omega)).mono (by omega)
theorem kx_str_bd {f : Nat → UInt64} {n i : Nat} (h : ∀ j, fx_bd 130 (f j)) (hn : 2 ≤ n) (hn2 : n < 2 ^ 31) : fx_bd 169 (kx_str f n i) := kx_ln_bd (h 0) (h (n - 1)) (nI_ne0 (by omega) (by omega)) (by omega)
theorem kx_beh_t {F : Nat → Int32} {n k i : Nat} (h : n - (k + 1) = i) (c : ¬ F i = 0) : kx_beh F n (k + 1) = nI i := by
  subst h
  exact if_neg c
theorem kx_beh_f {F : Nat → Int32} {n k i : Nat} (h : n - (k + 1) = i) (c : F i = 0) : kx_beh F n (k + 1) = kx_beh F n k := by
  subst h
  exact if_pos c
theorem kx_si_bn {th : Nat → Int32} {g : Nat → UInt64} {K n : Nat} (h : ∀ j, j < n → fx_bd K (g j)) : ∀ i, i ≤ n → K + 2 * i ≤ 1024 → fx_bd (K + 2 * i) (kx_si th g i)
  | 0, _, _ => fx_0b.mono (by omega)
  | i + 1, hn, hi => by
    by_cases c : th i = 0
    · rw [kx_si_f c]
      exact (kx_si_bn h i (by omega) (by omega)).mono (by omega)
    · rw [kx_si_t c]
      exact ((kx_si_bn h i (by omega) (by omega)).add (h i (by omega)) (by omega)).mono (by omega)
/-- what a shadow's middle is off -/
def kx_err (m p q x y : UInt64) : UInt64 := FP.dsub (FP.dsub m (FP.dmul p x)) (FP.dmul q y)
def kx_sqe (m p q x y : UInt64) : UInt64 := FP.dmul (kx_err m p q x y) (kx_err m p q x y)
theorem kx_sqe_bd {m p q x y : UInt64} (hm : fx_bd 14 m) (hp : fx_bd 5 p) (hq : fx_bd 5 q) (hx : fx_bd 90 x) (hy : fx_bd 90 y) : fx_bd 201 (kx_sqe m p q x y) := by
  have h1 := (hm.sub (hp.mul hx (by omega)) (by omega)).sub (hq.mul hy (by omega)) (by omega)
  exact (h1.mul h1 (by omega)).mono (by omega)
/-- mended numbers -/
def kx_btw (f : Nat → UInt64) (i a b : Nat) : UInt64 := if a = b then f a else kx_ln (f a) (f b) (nI (i - a)) (nI (b - a))
theorem kx_btw_bd {f : Nat → UInt64} {i a b K : Nat} (ha : fx_bd K (f a)) (hb : fx_bd K (f b)) (hab : a = b ∨ (a < i ∧ i < b)) (h : b < 2 ^ 31) (hK : K + 100 ≤ 1024) : fx_bd (K + 39) (kx_btw f i a b) := by
  unfold kx_btw
  split
  · exact ha.mono (by omega)
  · exact kx_ln_bd ha hb (nI_ne0 (by omega) (by omega)) hK
/-- the whole numbers from -40 on -/
def kx_z (k : Nat) : Int32 := nI k - 40
theorem kx_z_1 (k : Nat) : kx_z k + 1 = kx_z (k + 1) := by
  unfold kx_z
  rw [nI_succ, Int32.sub_eq_add_neg, Int32.sub_eq_add_neg, Int32.add_assoc, Int32.add_assoc, Int32.add_comm 1]
theorem kx_z_gt {k : Nat} (h : k ≤ 81) : 40 < kx_z k ↔ 81 ≤ k := by
  have e : (kx_z k).toInt = (k : Int) - 40 := pk_sub_toInt (a := k) (b := 40) (by omega) (by omega)
  rw [Int32.lt_iff_toInt_lt, e]
  have e2 : (40 : Int32).toInt = 40 := by decide
  rw [e2]
  omega
def kx_c2 (g : Nat → Nat → Int32) : Nat → Nat
  | 0 => 0
  | i + 1 => kx_c2 g i + kx_cn (g i) 81
theorem kx_c2_c {f g : Nat → Nat → Int32} (h : ∀ a b, f a b = g a b) (n : Nat) : kx_c2 f n = kx_c2 g n := by
  have e : f = g := funext fun a => funext fun b => h a b
  rw [e]
/-- TURNED -/
def kx_qx (KX KY : Nat → UInt64) (t : Int32) (i : Nat) : UInt64 := if t = 0 then KX i else if t = 1 then FP.dneg (KY i) else if t = 2 then FP.dneg (KX i) else KY i
def kx_qy (KX KY : Nat → UInt64) (t : Int32) (i : Nat) : UInt64 := if t = 0 then KY i else if t = 1 then KX i else if t = 2 then FP.dneg (KY i) else FP.dneg (KX i)
theorem kx_qx_bd {KX KY : Nat → UInt64} {t : Int32} {i : Nat} (hx : ∀ j, fx_bd 130 (KX j)) (hy : ∀ j, fx_bd 130 (KY j)) : fx_bd 130 (kx_qx KX KY t i) := by
  unfold kx_qx
  split
  · exact hx i
  · split
    · exact (hy i).neg
    · split
      · exact (hx i).neg
      · exact hy i
theorem kx_qy_bd {KX KY : Nat → UInt64} {t : Int32} {i : Nat} (hx : ∀ j, fx_bd 130 (KX j)) (hy : ∀ j, fx_bd 130 (KY j)) : fx_bd 130 (kx_qy KX KY t i) := by
  unfold kx_qy
  split
  · exact hy i
  · split
    · exact hx i
    · split
      · exact (hy i).neg
      · exact (hx i).neg
theorem kx_d2_bd {x y u w : UInt64} {a b : Nat} (hx : fx_bd a x) (hy : fx_bd a y) (hu : fx_bd b u) (hw : fx_bd b w) (h : 2 * max a b + 10 ≤ 1024 := by omega) : fx_bd (2 * max a b + 7) (kx_d2 x y u w) := by
  have h1 := hx.sub hu (by omega)
  have h2 := hy.sub hw (by omega)
  exact ((h1.mul h1 (by omega)).add (h2.mul h2 (by omega)) (by omega)).mono (by omega)
def kx_dst (X Y KX KY : Nat → UInt64) (n : Nat) (t : Int32) : UInt64 := kx_sum (fun i => kx_d2 (X i) (Y i) (kx_qx KX KY t i) (kx_qy KX KY t i)) n
/-- MATCH -/
def kx_nr (f : Int32 → UInt64) : Nat → Int32
  | 0 => 0
  | k + 1 => if FP.dcmp (f (nI (k + 1))) (f (kx_nr f k)) = some .lt then nI (k + 1) else kx_nr f k
theorem kx_nr_t {f : Int32 → UInt64} {k : Nat} (h : FP.dcmp (f (nI (k + 1))) (f (kx_nr f k)) = some .lt) : kx_nr f (k + 1) = nI (k + 1) := if_pos h
theorem kx_nr_f {f : Int32 → UInt64} {k : Nat} (h : ¬ FP.dcmp (f (nI (k + 1))) (f (kx_nr f k)) = some .lt) : kx_nr f (k + 1) = kx_nr f k := if_neg h
/-- a number of -m .. m; the nearest of 1 .. m -/
def kx_wi (x : UInt64) (m : Int32) : Int32 := if (FP.dcmp x (FP.i2d (-m)) = some .gt ∨ FP.dcmp x (FP.i2d (-m)) = some .eq) ∧ (FP.dcmp x (FP.i2d m) = some .lt ∨ FP.dcmp x (FP.i2d m) = some .eq) then 1 else 0
def kx_ne (x m : Int32) : Int32 := if 1 < (if m < x then m else x) then (if m < x then m else x) else 1
/-- rules -/
def kx_hd (X Y R : Nat → UInt64) (n : Nat) (md kd : Int32) (lm : UInt64) : Int32 :=
  if kd = 0 then (if FP.dcmp (kx_swp X Y n) lm = some .lt ∨ FP.dcmp (kx_swp X Y n) lm = some .eq then 1 else 0)
  else if kd = 1 then (if FP.dcmp (kx_tap R n) lm = some .lt ∨ FP.dcmp (kx_tap R n) lm = some .eq then 1 else 0)
  else if kd = 2 then (if FP.dcmp (R (n - 1)) lm = some .gt ∨ FP.dcmp (R (n - 1)) lm = some .eq then 1 else 0)
  else if kd = 3 then (if FP.dcmp (kx_sum (fun j => kx_area (R j)) n) lm = some .gt ∨ FP.dcmp (kx_sum (fun j => kx_area (R j)) n) lm = some .eq then 1 else 0)
  else (if FP.dcmp (FP.i2d md) lm = some .lt ∨ FP.dcmp (FP.i2d md) lm = some .eq then 1 else 0)
def kx_cl (g : Nat → Int32) (C : Nat → Int32) (n : Nat) : Nat → Int32
  | 0 => -1
  | k + 1 => if g (n - (k + 1)) = 0 then kx_cl g C n k else C (n - (k + 1))
theorem kx_cl_t {g C : Nat → Int32} {n k i : Nat} (h : n - (k + 1) = i) (c : ¬ g i = 0) : kx_cl g C n (k + 1) = C i := by
  subst h
  exact if_neg c
theorem kx_cl_f {g C : Nat → Int32} {n k i : Nat} (h : n - (k + 1) = i) (c : g i = 0) : kx_cl g C n (k + 1) = kx_cl g C n k := by
  subst h
  exact if_pos c
end
section
theorem kx_clt {x y : Int} : compare x y = .lt ↔ x < y := by
  show compareOfLessAndEq x y = .lt ↔ _
  unfold compareOfLessAndEq
  split
  · rename_i h; exact ⟨fun _ => h, fun _ => rfl⟩
  · rename_i h
    split
    · exact ⟨fun q => by (cases q), fun q => absurd q h⟩
    · exact ⟨fun q => by (cases q), fun q => absurd q h⟩
theorem kx_cgt {x y : Int} : compare x y = .gt ↔ y < x := by
  show compareOfLessAndEq x y = .gt ↔ _
  unfold compareOfLessAndEq
  split
  · rename_i h; exact ⟨fun q => by (cases q), fun q => by omega⟩
  · rename_i h
    split
    · rename_i h2; exact ⟨fun q => by (cases q), fun q => by omega⟩
    · rename_i h2; exact ⟨fun _ => by omega, fun _ => rfl⟩
theorem fx_kv : FP.Core.val64 4517110426252607488 = .fin false (2 ^ 52) (-72) := by decide +kernel
/-- a double not below 2^-20 -/
theorem fx_lb1 {d : UInt64} {k : Nat} (hb : fx_bd k d) (h : FP.dcmp d 4517110426252607488 ≠ some .lt) : fx_lb 20 d := by
  obtain ⟨s, c, q, h1, -⟩ := hb
  obtain ⟨f1, f2, f3, f4⟩ := fx_c h1
  have h2 : FP.Core.order (FP.Core.val64 d) (FP.Core.val64 4517110426252607488) ≠ some .lt := h
  rw [h1, fx_kv] at h2
  have h3 : ¬ (FP.Core.signed s (FP.Core.inUnits c q (min q (-72))) < FP.Core.signed false (FP.Core.inUnits (2 ^ 52) (-72) (min q (-72)))) := fun g => h2 (congrArg some (kx_clt.mpr g))
  have h4 : ((2 ^ 52 * 2 ^ (-72 - min q (-72)).toNat : Nat) : Int) ≤ FP.Core.signed s (FP.Core.inUnits c q (min q (-72))) := Int.not_lt.mp h3
  have h5 : 2 ^ 52 * 2 ^ (-72 - min q (-72)).toNat ≤ FP.Core.inUnits c q (min q (-72)) := by
    cases s with
    | false =>
      have h6 : FP.Core.signed false (FP.Core.inUnits c q (min q (-72))) = (FP.Core.inUnits c q (min q (-72)) : Int) := rfl
      rw [h6] at h4
      exact Int.ofNat_le.mp h4
    | true =>
      have h6 : FP.Core.signed true (FP.Core.inUnits c q (min q (-72))) = -(FP.Core.inUnits c q (min q (-72)) : Int) := rfl
      rw [h6] at h4
      have h7 : 0 < 2 ^ 52 * 2 ^ (-72 - min q (-72)).toNat := Nat.mul_pos (by decide) (Nat.two_pow_pos _)
      omega
  have hq : -72 ≤ q := by
    refine Int.not_lt.mp fun hlt => ?_
    have e1 : min q (-72) = q := by omega
    rw [e1] at h5
    have e2 : FP.Core.inUnits c q q = c := by
      show c * 2 ^ (q - q).toNat = c
      rw [Int.sub_self]
      exact Nat.mul_one c
    rw [e2] at h5
    have h8 : 2 ^ 1 ≤ 2 ^ (-72 - q).toNat := Nat.pow_le_pow_right (by decide) (by omega)
    have h9 : 2 ^ 52 * 2 ^ 1 ≤ 2 ^ 52 * 2 ^ (-72 - q).toNat := Nat.mul_le_mul_left _ h8
    omega
  exact ⟨s, c, q, h1, by omega, by omega⟩
theorem fx_lb.ofneg {d : UInt64} {j : Nat} (h : fx_lb j (FP.dneg d)) {k : Nat} (hb : fx_bd k d) : fx_lb j d := by
  obtain ⟨s, c, q, h1, h2, h3⟩ := h
  obtain ⟨t, b, r, g1, -⟩ := hb
  have e := fx_vneg d
  rw [h1, g1] at e
  injection e with e1 e2 e3
  exact ⟨t, b, r, g1, by omega, by omega⟩
/-- a number between two bounds -/
theorem fx_abs {x hi lo : UInt64} {d : Nat} {r : Int} {m w : Nat} (hhi : FP.Core.val64 hi = .fin false d r) (hlo : FP.Core.val64 lo = .fin true d r) (hw : (w : Int) = (m : Int) - r) (hd : d ≤ 2 ^ w) (c1 : FP.dcmp x lo = some .gt ∨ FP.dcmp x lo = some .eq) (c2 : FP.dcmp x hi = some .lt ∨ FP.dcmp x hi = some .eq) : fx_bd (m + 1) x := by
  have c1 : FP.Core.order (FP.Core.val64 x) (FP.Core.val64 lo) = some .gt ∨ FP.Core.order (FP.Core.val64 x) (FP.Core.val64 lo) = some .eq := c1
  have c2 : FP.Core.order (FP.Core.val64 x) (FP.Core.val64 hi) = some .lt ∨ FP.Core.order (FP.Core.val64 x) (FP.Core.val64 hi) = some .eq := c2
  rw [hlo] at c1
  rw [hhi] at c2
  cases hx : FP.Core.val64 x with
  | nan =>
    rw [hx] at c1
    rcases c1 with c | c <;> cases c
  | inf s =>
    rw [hx] at c1 c2
    cases s with
    | false =>
      have e : FP.Core.order (.inf false) (.fin false d r) = some .gt := rfl
      rw [e] at c2
      rcases c2 with c | c <;> cases c
    | true =>
      have e : FP.Core.order (.inf true) (.fin true d r) = some .lt := rfl
      rw [e] at c1
      rcases c1 with c | c <;> cases c
  | fin s c q =>
    rw [hx] at c1 c2
    obtain ⟨f1, f2, f3, f4⟩ := fx_c hx
    refine ⟨s, c, q, hx, ?_⟩
    have a1 : ¬ (FP.Core.signed s (FP.Core.inUnits c q (min q r)) < FP.Core.signed true (FP.Core.inUnits d r (min q r))) := by
      intro g
      have g2 : FP.Core.order (.fin s c q) (.fin true d r) = some .lt := congrArg some (kx_clt.mpr g)
      rw [g2] at c1
      rcases c1 with c | c <;> cases c
    have a2 : ¬ (FP.Core.signed false (FP.Core.inUnits d r (min q r)) < FP.Core.signed s (FP.Core.inUnits c q (min q r))) := by
      intro g
      have g2 : FP.Core.order (.fin s c q) (.fin false d r) = some .gt := congrArg some (kx_cgt.mpr g)
      rw [g2] at c2
      rcases c2 with c | c <;> cases c
    have a3 : FP.Core.signed true (FP.Core.inUnits d r (min q r)) = -(FP.Core.inUnits d r (min q r) : Int) := rfl
    have a4 : FP.Core.signed false (FP.Core.inUnits d r (min q r)) = (FP.Core.inUnits d r (min q r) : Int) := rfl
    rw [a3] at a1
    rw [a4] at a2
    have a5 : FP.Core.inUnits c q (min q r) ≤ FP.Core.inUnits d r (min q r) := by
      have a6 := FP.Core.natAbs_signed s (FP.Core.inUnits c q (min q r))
      omega
    rcases f4 with f4 | f4
    · omega
    · have b1 : 2 ^ 52 * 2 ^ (q - min q r).toNat ≤ FP.Core.inUnits c q (min q r) := Nat.mul_le_mul_right _ f4
      have b2 : FP.Core.inUnits d r (min q r) ≤ 2 ^ w * 2 ^ (r - min q r).toNat := Nat.mul_le_mul_right _ hd
      rw [← Nat.pow_add] at b1 b2
      have b3 := Nat.le_trans b1 (Nat.le_trans a5 b2)
      have b4 := (Nat.pow_le_pow_iff_right (by decide : 1 < 2)).mp b3
      omega
theorem fx_w16 {x : UInt64} (h : kx_wi x 16 ≠ 0) : fx_bd 5 x := by
  unfold kx_wi at h
  split at h
  · rename_i c
    exact fx_abs (d := 2 ^ 52) (r := -48) (m := 4) (w := 52) (by decide +kernel) (by decide +kernel) (by decide) (by decide) c.1 c.2
  · exact absurd rfl h
theorem fx_w1000 {x : UInt64} (h : kx_wi x 1000 ≠ 0) : fx_bd 11 x := by
  unfold kx_wi at h
  split at h
  · rename_i c
    exact fx_abs (d := 1000 * 2 ^ 43) (r := -43) (m := 10) (w := 53) (by decide +kernel) (by decide +kernel) (by decide) (by decide) c.1 c.2
  · exact absurd rfl h
theorem kx_nb {x : Int32} (h : x = 0 ∨ x = 1) : narrow .boolean (.int x) = .int x := by
  rcases h with h | h <;> subst h <;> rfl
theorem kx_nz {x : Int32} (h : x = 0 ∨ x = 1) : vp_nar .boolean x = x := by
  rcases h with h | h <;> subst h <;> rfl
theorem kx_us {f : Nat → UInt64} {k : Nat} {x : UInt64} : vf_upd f k x k = x := if_pos rfl
theorem kx_un {f : Nat → UInt64} {j k : Nat} {x : UInt64} (h : j ≠ k) : vf_upd f k x j = f j := if_neg h
/-- FITTED -/
def kx_S2 (th : Nat → Int32) (f g : Nat → UInt64) (n : Nat) : UInt64 := kx_si th (fun j => FP.dmul (f j) (g j)) n
theorem kx_S2_t {th : Nat → Int32} {f g : Nat → UInt64} {i : Nat} (h : ¬ th i = 0) : kx_S2 th f g (i + 1) = FP.dadd (kx_S2 th f g i) (FP.dmul (f i) (g i)) := if_neg h
theorem kx_S2_f {th : Nat → Int32} {f g : Nat → UInt64} {i : Nat} (h : th i = 0) : kx_S2 th f g (i + 1) = kx_S2 th f g i := if_pos h
theorem kx_S2_bd {th : Nat → Int32} {f g : Nat → UInt64} {a b : Nat} (hf : ∀ j, fx_bd a (f j)) (hg : ∀ j, fx_bd b (g j)) (i : Nat) (h : a + b + 1 + 2 * i ≤ 1024) : fx_bd (a + b + 1 + 2 * i) (kx_S2 th f g i) := kx_si_bd (fun j => (hf j).mul (hg j) (by omega)) i h
theorem kx_S2_c {th ti : Nat → Int32} {f g f' g' : Nat → UInt64} {n : Nat} (ht : ∀ j, j < n → th j = ti j) (hf : ∀ j, j < n → th j ≠ 0 → f j = f' j) (hg : ∀ j, j < n → th j ≠ 0 → g j = g' j) : kx_S2 th f g n = kx_S2 ti f' g' n := kx_si_c n ht (fun j hj h0 => by rw [hf j hj h0, hg j hj h0])
def kx_det (th : Nat → Int32) (P Q : Nat → UInt64) (v : Nat) : UInt64 := FP.dsub (FP.dmul (kx_S2 th P P v) (kx_S2 th Q Q v)) (FP.dmul (kx_S2 th P Q v) (kx_S2 th P Q v))
def kx_sz (d : UInt64) : UInt64 := if FP.dcmp d FP.dconst0 = some .lt then FP.dneg d else d
def kx_ok (d : UInt64) : Prop := FP.dcmp (kx_sz d) 4517110426252607488 ≠ some .lt
theorem kx_ok_1 {d : UInt64} (h : FP.dcmp d FP.dconst0 = some .lt) : kx_ok d ↔ FP.dcmp (FP.dneg d) 4517110426252607488 ≠ some .lt := by
  unfold kx_ok kx_sz
  rw [if_pos h]
theorem kx_ok_2 {d : UInt64} (h : FP.dcmp d FP.dconst0 ≠ some .lt) : kx_ok d ↔ FP.dcmp d 4517110426252607488 ≠ some .lt := by
  unfold kx_ok kx_sz
  rw [if_neg h]
theorem kx_ok_lb {d : UInt64} {k : Nat} (hb : fx_bd k d) (h : kx_ok d) : fx_lb 20 d := by
  by_cases c : FP.dcmp d FP.dconst0 = some .lt
  · exact (fx_lb1 hb.neg ((kx_ok_1 c).mp h)).ofneg hb
  · exact fx_lb1 hb ((kx_ok_2 c).mp h)
def kx_cx (th : Nat → Int32) (P Q M : Nat → UInt64) (v : Nat) : UInt64 := FP.ddiv (FP.dsub (FP.dmul (kx_S2 th P M v) (kx_S2 th Q Q v)) (FP.dmul (kx_S2 th Q M v) (kx_S2 th P Q v))) (kx_det th P Q v)
def kx_cy (th : Nat → Int32) (P Q M : Nat → UInt64) (v : Nat) : UInt64 := FP.ddiv (FP.dsub (FP.dmul (kx_S2 th P P v) (kx_S2 th Q M v)) (FP.dmul (kx_S2 th P Q v) (kx_S2 th P M v))) (kx_det th P Q v)
theorem kx_det_bd {th : Nat → Int32} {P Q : Nat → UInt64} {v : Nat} (hP : ∀ j, fx_bd 5 (P j)) (hQ : ∀ j, fx_bd 5 (Q j)) (hv : v ≤ 8) : fx_bd 60 (kx_det th P Q v) := by
  have h1 := (kx_S2_bd (th := th) hP hP v (by omega)).mono (b := 27) (by omega)
  have h2 := (kx_S2_bd (th := th) hQ hQ v (by omega)).mono (b := 27) (by omega)
  have h3 := (kx_S2_bd (th := th) hP hQ v (by omega)).mono (b := 27) (by omega)
  exact ((h1.mul h2 (by omega)).sub (h3.mul h3 (by omega)) (by omega)).mono (by omega)
theorem kx_cx_bd {th : Nat → Int32} {P Q M : Nat → UInt64} {v : Nat} (hP : ∀ j, fx_bd 5 (P j)) (hQ : ∀ j, fx_bd 5 (Q j)) (hM : ∀ j, fx_bd 14 (M j)) (hv : v ≤ 8) (hk : kx_ok (kx_det th P Q v)) : fx_bd 90 (kx_cx th P Q M v) := by
  have h2 := (kx_S2_bd (th := th) hQ hQ v (by omega)).mono (b := 27) (by omega)
  have h3 := (kx_S2_bd (th := th) hP hQ v (by omega)).mono (b := 27) (by omega)
  have h4 := (kx_S2_bd (th := th) hP hM v (by omega)).mono (b := 36) (by omega)
  have h5 := (kx_S2_bd (th := th) hQ hM v (by omega)).mono (b := 36) (by omega)
  exact (((h4.mul h2 (by omega)).sub (h5.mul h3 (by omega)) (by omega)).div (kx_ok_lb (kx_det_bd hP hQ hv) hk) (by omega)).mono (by omega)
theorem kx_cy_bd {th : Nat → Int32} {P Q M : Nat → UInt64} {v : Nat} (hP : ∀ j, fx_bd 5 (P j)) (hQ : ∀ j, fx_bd 5 (Q j)) (hM : ∀ j, fx_bd 14 (M j)) (hv : v ≤ 8) (hk : kx_ok (kx_det th P Q v)) : fx_bd 90 (kx_cy th P Q M v) := by
  have h1 := (kx_S2_bd (th := th) hP hP v (by omega)).mono (b := 27) (by omega)
  have h3 := (kx_S2_bd (th := th) hP hQ v (by omega)).mono (b := 27) (by omega)
  have h4 := (kx_S2_bd (th := th) hP hM v (by omega)).mono (b := 36) (by omega)
  have h5 := (kx_S2_bd (th := th) hQ hM v (by omega)).mono (b := 36) (by omega)
  exact (((h1.mul h5 (by omega)).sub (h3.mul h4 (by omega)) (by omega)).div (kx_ok_lb (kx_det_bd hP hQ hv) hk) (by omega)).mono (by omega)
def kx_fit (th : Nat → Int32) (P Q : Nat → UInt64) (v : Nat) : Prop := 2 ≤ kx_cn th v ∧ kx_ok (kx_det th P Q v)
def kx_rad (th : Nat → Int32) (H N : Nat → UInt64) (v : Nat) : UInt64 := FP.ddiv (kx_si th (fun j => FP.ddiv (H j) (N j)) v) (FP.i2d (nI (kx_cn th v)))
theorem kx_rad_bd {th : Nat → Int32} {H N : Nat → UInt64} {v : Nat} (hH : ∀ j, fx_bd 14 (H j)) (hN : ∀ j, j < v → fx_pl 61 (N j)) (hv : v ≤ 8) (hc : 2 ≤ kx_cn th v) : fx_bd 95 (kx_rad th H N v) := by
  have hle := kx_cn_le (th := th) v
  exact ((kx_si_bn (K := 76) (n := v) (fun j hj => (hH j).div (hN j hj).lb (by omega)) v (by omega) (by omega)).div (fx_il (nI_ne0 (by omega) (by omega))) (by omega)).mono (by omega)
def kx_res (th : Nat → Int32) (P Q M : Nat → UInt64) (x y : UInt64) (v : Nat) : UInt64 := kx_si th (fun j => kx_sqe (M j) (P j) (Q j) x y) v
theorem kx_res_bd {th : Nat → Int32} {P Q M : Nat → UInt64} {x y : UInt64} {v : Nat} (hP : ∀ j, fx_bd 5 (P j)) (hQ : ∀ j, fx_bd 5 (Q j)) (hM : ∀ j, fx_bd 14 (M j)) (hx : fx_bd 90 x) (hy : fx_bd 90 y) (hv : v ≤ 8) : fx_bd 220 (kx_res th P Q M x y v) := (kx_si_bd (K := 201) (fun j => kx_sqe_bd (hM j) (hP j) (hQ j) hx hy) v (by omega)).mono (by omega)
/-- the nearest fitted ones, as places -/
theorem kx_bef_s (F : Nat → Int32) : ∀ t, (kx_bef F t = -1 ∧ ∀ j, j < t → F j = 0) ∨ ∃ a, a < t ∧ kx_bef F t = nI a ∧ F a ≠ 0
  | 0 => Or.inl ⟨rfl, fun j h => absurd h (Nat.not_lt_zero j)⟩
  | t + 1 => by
    by_cases c : F t = 0
    · have e : kx_bef F (t + 1) = kx_bef F t := if_pos c
      rcases kx_bef_s F t with ⟨h1, h2⟩ | ⟨a, h1, h2, h3⟩
      · refine Or.inl ⟨e.trans h1, fun j hj => ?_⟩
        rcases Nat.lt_succ_iff_lt_or_eq.mp hj with h | h
        · exact h2 j h
        · rw [h]; exact c
      · exact Or.inr ⟨a, by omega, e.trans h2, h3⟩
    · exact Or.inr ⟨t, by omega, if_neg c, c⟩
theorem kx_beh_s (F : Nat → Int32) (n : Nat) : ∀ k, k ≤ n → (kx_beh F n k = -1 ∧ ∀ j, n - k ≤ j → j < n → F j = 0) ∨ ∃ b, n - k ≤ b ∧ b < n ∧ kx_beh F n k = nI b ∧ F b ≠ 0
  | 0, _ => Or.inl ⟨rfl, fun j h h2 => absurd h2 (by omega)⟩
  | k + 1, hk => by
    by_cases c : F (n - (k + 1)) = 0
    · have e : kx_beh F n (k + 1) = kx_beh F n k := if_pos c
      rcases kx_beh_s F n k (by omega) with ⟨h1, h2⟩ | ⟨b, h0, h1, h2, h3⟩
      · refine Or.inl ⟨e.trans h1, fun j hj hn => ?_⟩
        by_cases g : j = n - (k + 1)
        · rw [g]; exact c
        · exact h2 j (by omega) hn
      · exact Or.inr ⟨b, by omega, h1, e.trans h2, h3⟩
    · exact Or.inr ⟨n - (k + 1), by omega, by omega, if_neg c, c⟩
def kx_sa (F : Nat → Int32) (n i : Nat) : Nat := (if kx_bef F i = -1 then kx_beh F n (n - (i + 1)) else kx_bef F i).toNatClampNeg
def kx_sb (F : Nat → Int32) (n i : Nat) : Nat := (if kx_beh F n (n - (i + 1)) = -1 then kx_bef F i else kx_beh F n (n - (i + 1))).toNatClampNeg
theorem kx_nm1 {a : Nat} (h : a < 2 ^ 31) : nI a ≠ -1 := by
  intro q
  have h1 := nI_toInt h
  rw [q] at h1
  have h2 : (-1 : Int32).toInt = -1 := by decide
  rw [h2] at h1
  omega
/-- which two places a slice is mended by -/
def kx_sel (bf bh : Int32) (i a b n : Nat) : Prop := (bf = nI a ∧ bh = nI b ∧ a < i ∧ i < b ∧ b < n) ∨ (bf = -1 ∧ bh = nI b ∧ a = b ∧ i < b ∧ b < n) ∨ (bf = nI a ∧ bh = -1 ∧ a = b ∧ a < i ∧ i < n)
theorem kx_sel_of {F : Nat → Int32} {n i : Nat} (hn : n ≤ 16) (hi : i < n) (h0 : F i = 0) (he : ∃ j, j < n ∧ F j ≠ 0) : kx_sel (kx_bef F i) (kx_beh F n (n - (i + 1))) i (kx_sa F n i) (kx_sb F n i) n ∧ F (kx_sa F n i) ≠ 0 ∧ F (kx_sb F n i) ≠ 0 := by
  unfold kx_sel kx_sa kx_sb
  rcases kx_bef_s F i with ⟨h1, h2⟩ | ⟨a, h1, h2, h3⟩
  · rcases kx_beh_s F n (n - (i + 1)) (by omega) with ⟨g1, g2⟩ | ⟨b, g0, g1, g2, g3⟩
    · obtain ⟨j, hj, hF⟩ := he
      exfalso
      rcases Nat.lt_trichotomy j i with q | q | q
      · exact hF (h2 j q)
      · rw [q] at hF; exact hF h0
      · exact hF (g2 j (by omega) hj)
    · rw [if_pos h1, g2, if_neg (kx_nm1 (by omega)), nI_clamp (by omega)]
      exact ⟨Or.inr (Or.inl ⟨h1, rfl, rfl, by omega, g1⟩), g3, g3⟩
  · rcases kx_beh_s F n (n - (i + 1)) (by omega) with ⟨g1, g2⟩ | ⟨b, g0, g1, g2, g3⟩
    · rw [if_pos g1, h2, if_neg (kx_nm1 (by omega)), nI_clamp (by omega)]
      exact ⟨Or.inr (Or.inr ⟨rfl, g1, rfl, h1, hi⟩), h3, h3⟩
    · rw [g2, h2, if_neg (kx_nm1 (by omega)), if_neg (kx_nm1 (by omega)), nI_clamp (by omega), nI_clamp (by omega)]
      exact ⟨Or.inl ⟨rfl, rfl, h1, by omega, g1⟩, h3, g3⟩
theorem kx_sel_ab {bf bh : Int32} {i a b n : Nat} (h : kx_sel bf bh i a b n) : (a = b ∨ (a < i ∧ i < b)) ∧ a < n ∧ b < n := by
  rcases h with h | h | h <;> omega
/-- the arrays when the first i slices are mended -/
def kx_mp (F : Nat → Int32) (f : Nat → UInt64) (n i : Nat) : Nat → UInt64 := fun j => if j < i ∧ F j = 0 then kx_btw f j (kx_sa F n j) (kx_sb F n j) else f j
def kx_ep (F : Nat → Int32) (f : Nat → UInt64) (i : Nat) : Nat → UInt64 := fun j => if j < i ∧ F j = 0 then FP.dconst0 else f j
theorem kx_mp_0 {F : Nat → Int32} {f : Nat → UInt64} {n : Nat} : kx_mp F f n 0 = f := funext fun j => if_neg (by omega)
theorem kx_ep_0 {F : Nat → Int32} {f : Nat → UInt64} : kx_ep F f 0 = f := funext fun j => if_neg (by omega)
theorem kx_mp_F {F : Nat → Int32} {f : Nat → UInt64} {n i j : Nat} (h : F j ≠ 0) : kx_mp F f n i j = f j := if_neg (fun q => h q.2)
theorem kx_mp_f {F : Nat → Int32} {f : Nat → UInt64} {n i : Nat} (h : F i ≠ 0) : kx_mp F f n i = kx_mp F f n (i + 1) := by
  funext j
  unfold kx_mp
  by_cases c : j < i ∧ F j = 0
  · rw [if_pos c, if_pos ⟨by omega, c.2⟩]
  · rw [if_neg c, if_neg (fun q => c ⟨by
      have h2 := q.1
      rcases Nat.lt_succ_iff_lt_or_eq.mp h2 with g | g
      · exact g
      · rw [g] at q; exact absurd q.2 h, q.2⟩)]
theorem kx_ep_f {F : Nat → Int32} {f : Nat → UInt64} {i : Nat} (h : F i ≠ 0) : kx_ep F f i = kx_ep F f (i + 1) := by
  funext j
  unfold kx_ep
  by_cases c : j < i ∧ F j = 0
  · rw [if_pos c, if_pos ⟨by omega, c.2⟩]
  · rw [if_neg c, if_neg (fun q => c ⟨by
      have h2 := q.1
      rcases Nat.lt_succ_iff_lt_or_eq.mp h2 with g | g
      · exact g
      · rw [g] at q; exact absurd q.2 h, q.2⟩)]
theorem kx_mp_t {F : Nat → Int32} {f : Nat → UInt64} {n i : Nat} (h : F i = 0) (ha : F (kx_sa F n i) ≠ 0) (hb : F (kx_sb F n i) ≠ 0) : vf_upd (kx_mp F f n i) i (kx_btw (kx_mp F f n i) i (kx_sa F n i) (kx_sb F n i)) = kx_mp F f n (i + 1) := by
  have e : kx_btw (kx_mp F f n i) i (kx_sa F n i) (kx_sb F n i) = kx_btw f i (kx_sa F n i) (kx_sb F n i) := by
    unfold kx_btw
    rw [kx_mp_F ha, kx_mp_F hb]
  rw [e]
  funext j
  by_cases c : j = i
  · rw [c, kx_us]
    exact (if_pos ⟨by omega, h⟩).symm
  · rw [kx_un c]
    unfold kx_mp
    by_cases c2 : j < i ∧ F j = 0
    · rw [if_pos c2, if_pos ⟨by omega, c2.2⟩]
    · rw [if_neg c2, if_neg (fun q => c2 ⟨by omega, q.2⟩)]
theorem kx_ep_t {F : Nat → Int32} {f : Nat → UInt64} {i : Nat} (h : F i = 0) : vf_upd (kx_ep F f i) i FP.dconst0 = kx_ep F f (i + 1) := by
  funext j
  by_cases c : j = i
  · rw [c, kx_us]
    exact (if_pos ⟨by omega, h⟩).symm
  · rw [kx_un c]
    unfold kx_ep
    by_cases c2 : j < i ∧ F j = 0
    · rw [if_pos c2, if_pos ⟨by omega, c2.2⟩]
    · rw [if_neg c2, if_neg (fun q => c2 ⟨by omega, q.2⟩)]
theorem kx_mp_bd {F : Nat → Int32} {f : Nat → UInt64} {n i K L : Nat} (h : ∀ j, fx_bd K (f j)) (hF : ∀ j, j < n → F j ≠ 0 → fx_bd L (f j)) (hn : n ≤ 16) (he : ∃ j, j < n ∧ F j ≠ 0) (hL : L + 39 ≤ K) (hL2 : L ≤ 900) (hi : i ≤ n) : ∀ j, fx_bd K (kx_mp F f n i j) := by
  intro j
  unfold kx_mp
  split
  · rename_i c
    obtain ⟨h1, h2, h3⟩ := kx_sel_of hn (by omega) c.2 he
    obtain ⟨g1, g2, g3⟩ := kx_sel_ab h1
    exact (kx_btw_bd (hF _ g2 h2) (hF _ g3 h3) g1 (by omega) (by omega)).mono hL
  · exact h j
theorem kx_ep_bd {F : Nat → Int32} {f : Nat → UInt64} {i K : Nat} (h : ∀ j, fx_bd K (f j)) : ∀ j, fx_bd K (kx_ep F f i j) := by
  intro j
  unfold kx_ep
  split
  · exact fx_0b.mono (by omega)
  · exact h j
end
section
theorem kx_mid_bd {a b : UInt64} (ha : fx_bd 11 a) (hb : fx_bd 11 b) : fx_bd 14 (FP.ddiv (FP.dadd a b) fx_2) := ((ha.add hb (by omega)).div fx_2l.lb (by omega)).mono (by omega)
theorem kx_hlf_bd {a b : UInt64} (ha : fx_bd 11 a) (hb : fx_bd 11 b) : fx_bd 14 (FP.ddiv (FP.dsub b a) fx_2) := ((hb.sub ha (by omega)).div fx_2l.lb (by omega)).mono (by omega)
/-- the first i numbers of a row copied -/
def kx_cp (K X : Nat → UInt64) (i : Nat) : Nat → UInt64 := fun j => if j < i then X j else K j
theorem kx_cp_0 {K X : Nat → UInt64} : kx_cp K X 0 = K := funext fun j => if_neg (by omega)
theorem kx_cp_s {K X : Nat → UInt64} {i : Nat} : vf_upd (kx_cp K X i) i (X i) = kx_cp K X (i + 1) := by
  funext j
  by_cases c : j = i
  · rw [c, kx_us]
    exact (if_pos (by omega)).symm
  · rw [kx_un c]
    unfold kx_cp
    by_cases c2 : j < i
    · rw [if_pos c2, if_pos (by omega)]
    · rw [if_neg c2, if_neg (by omega)]
theorem kx_cp_bd {K X : Nat → UInt64} {i a : Nat} (hK : ∀ j, fx_bd a (K j)) (hX : ∀ j, fx_bd a (X j)) : ∀ j, fx_bd a (kx_cp K X i j) := by
  intro j
  unfold kx_cp
  split
  · exact hX j
  · exact hK j
end
section
/-! the reference's own words -/
def kx_bt (x lo hi : UInt64) : Int32 := if (FP.dcmp x lo = some .gt ∨ FP.dcmp x lo = some .eq) ∧ (FP.dcmp x hi = some .lt ∨ FP.dcmp x hi = some .eq) then 1 else 0
theorem kx_bt_16 (x : UInt64) : kx_bt x 13848568854164275200 4625196817309499392 = kx_wi x 16 := by
  unfold kx_bt kx_wi
  rw [show FP.i2d (-16) = 13848568854164275200 from by decide +kernel, show FP.i2d 16 = 4625196817309499392 from by decide +kernel]
theorem kx_bt_1000 (x : UInt64) : kx_bt x 13875379345695965184 4652007308841189376 = kx_wi x 1000 := by
  unfold kx_bt kx_wi
  rw [show FP.i2d (-1000) = 13875379345695965184 from by decide +kernel, show FP.i2d 1000 = 4652007308841189376 from by decide +kernel]
def kx_no (n : Nat) (a : Int32) : Int32 := if a < 0 then 1 else if a < nI n then 0 else 1
theorem kx_no_0 {n : Nat} {a : Int32} (hn : n < 2 ^ 31) (h : kx_no n a = 0) : ∃ i, i < n ∧ a = nI i := by
  unfold kx_no at h
  split at h
  · cases h
  · rename_i c
    split at h
    · rename_i c2
      obtain ⟨j, h1, h2⟩ := nI_of c
      subst h2
      exact ⟨j, (nI_ltI h1 hn).mp c2, rfl⟩
    · cases h
def kx_hs (kn : Int32) (ft : Nat) : Int32 := if kn = 0 then 0 else if ft ≤ 0 then 0 else 1
def kx_mm (fr to : Nat → UInt64) (k : Nat) : UInt64 := FP.ddiv (FP.dadd (fr k) (to k)) fx_2
def kx_hh (fr to : Nat → UInt64) (k : Nat) : UInt64 := FP.ddiv (FP.dsub (to k) (fr k)) fx_2
def kx_st (sh : Nat → UInt64) (i : Nat) (x y r e : UInt64) : Nat → UInt64 := vf_upd (vf_upd (vf_upd (vf_upd sh (4 * i) x) (4 * i + 1) y) (4 * i + 2) r) (4 * i + 3) e
theorem kx_st_bd {sh : Nat → UInt64} {i K : Nat} {x y r e : UInt64} (h : ∀ j, fx_bd K (sh j)) (hx : fx_bd K x) (hy : fx_bd K y) (hr : fx_bd K r) (he : fx_bd K e) : ∀ j, fx_bd K (kx_st sh i x y r e j) := fx_bd.upd (fx_bd.upd (fx_bd.upd (fx_bd.upd h hx) hy) hr) he
theorem kx_st_o {sh : Nat → UInt64} {i k : Nat} {x y r e : UInt64} (h : k < 4 * i ∨ 4 * i + 3 < k) : kx_st sh i x y r e k = sh k := by
  unfold kx_st
  rw [kx_un (by omega), kx_un (by omega), kx_un (by omega), kx_un (by omega)]
theorem kx_st_0 {sh : Nat → UInt64} {i : Nat} {x y r e : UInt64} : kx_st sh i x y r e (4 * i) = x := by
  unfold kx_st
  rw [kx_un (by omega), kx_un (by omega), kx_un (by omega), kx_us]
theorem kx_st_1 {sh : Nat → UInt64} {i : Nat} {x y r e : UInt64} : kx_st sh i x y r e (4 * i + 1) = y := by
  unfold kx_st
  rw [kx_un (by omega), kx_un (by omega), kx_us]
theorem kx_st_2 {sh : Nat → UInt64} {i : Nat} {x y r e : UInt64} : kx_st sh i x y r e (4 * i + 2) = r := by
  unfold kx_st
  rw [kx_un (by omega), kx_us]
theorem kx_st_3 {sh : Nat → UInt64} {i : Nat} {x y r e : UInt64} : kx_st sh i x y r e (4 * i + 3) = e := by
  unfold kx_st
  rw [kx_us]
theorem kx_area_bd2 {r : UInt64} (h : fx_bd 220 r) : fx_bd 450 (kx_area r) := ((fx_k4614254477589872640.mul h (by omega)).mul h (by omega)).mono (by omega)
theorem kx_off_bd {sh : Nat → UInt64} {n i w k : Nat} (h : ∀ j, fx_bd 220 (sh j)) (hn : 2 ≤ n) (hn2 : n < 2 ^ 31) : fx_bd 261 (FP.dsub (sh k) (kx_str (fun j => sh (4 * j + w)) n i)) := by
  have h1 : fx_bd 259 (kx_str (fun j => sh (4 * j + w)) n i) := kx_ln_bd (h _) (h _) (nI_ne0 (by omega) (by omega)) (by omega)
  exact ((h k).sub h1 (by omega)).mono (by omega)
theorem kx_swp_n {X Y : Nat → UInt64} {n : Nat} (h : 1 ≤ n) (h1 : n ≠ 1 := by omega) : kx_swp X Y n = kx_max (kx_bend X Y n) n := if_neg h1
theorem kx_swp_1 {X Y : Nat → UInt64} {n : Nat} (h : n = 1) : kx_swp X Y n = FP.dconst0 := if_pos h
end
section
theorem kx_bef_0 {F : Nat → Int32} {i : Nat} (h : F i = 0) : kx_bef F (i + 1) = kx_bef F i := if_pos h
theorem kx_nIi {a b : Nat} (ha : a < 2 ^ 31) (hb : b < 2 ^ 31) (h : nI a = nI b) : a = b := (nI_eq ha hb).mp h
theorem kx_sel_ab2 {a b i A B n : Nat} (h : kx_sel (nI a) (nI b) i A B n) (ha : a < 2 ^ 31) (hb : b < 2 ^ 31) (hn : n < 2 ^ 31) : A = a ∧ B = b ∧ a < i ∧ i < b := by
  rcases h with ⟨h1, h2, h3, h4, h5⟩ | ⟨h1, _⟩ | ⟨_, h2, _⟩
  · have e1 := kx_nIi ha (by omega) h1
    have e2 := kx_nIi hb (by omega) h2
    omega
  · exact absurd h1 (kx_nm1 ha)
  · exact absurd h2 (kx_nm1 hb)
theorem kx_sel_a2 {a i A B n : Nat} (h : kx_sel (nI a) (-1) i A B n) (ha : a < 2 ^ 31) (hn : n < 2 ^ 31) : A = a ∧ B = a ∧ a < i := by
  rcases h with ⟨h1, h2, h3, h4, h5⟩ | ⟨h1, _⟩ | ⟨h1, h2, h3, h4, h5⟩
  · exact absurd h2.symm (kx_nm1 (by omega))
  · exact absurd h1 (kx_nm1 ha)
  · have e1 := kx_nIi ha (by omega) h1
    omega
theorem kx_sel_b2 {b i A B n : Nat} (h : kx_sel (-1) (nI b) i A B n) (hb : b < 2 ^ 31) (hn : n < 2 ^ 31) : A = b ∧ B = b ∧ i < b := by
  rcases h with ⟨h1, h2, h3, h4, h5⟩ | ⟨h1, h2, h3, h4, h5⟩ | ⟨h1, h2, h3⟩
  · exact absurd h1.symm (kx_nm1 (by omega))
  · have e1 := kx_nIi hb (by omega) h2
    omega
  · exact absurd h2 (kx_nm1 hb)
theorem kx_sel_n {i A B n : Nat} : ¬ kx_sel (-1) (-1) i A B n ∨ 2 ^ 31 ≤ n := by
  by_cases hn : n < 2 ^ 31
  · left
    intro h
    rcases h with ⟨h1, h2, h3, h4, h5⟩ | ⟨h1, h2, h3, h4, h5⟩ | ⟨h1, h2, h3, h4, h5⟩
    · exact absurd h1.symm (kx_nm1 (by omega))
    · exact absurd h2.symm (kx_nm1 (by omega))
    · exact absurd h1.symm (kx_nm1 (by omega))
  · right
    omega
end
section
/-! what a run leaves -/
def kx_inv (i : Nat) (fit : Nat → Prop) (cx cy cr ce : Nat → UInt64) (F : Nat → Int32) (X Y R E : Nat → UInt64) : Prop := ∀ j, j < i → (fit j → F j = 1 ∧ X j = cx j ∧ Y j = cy j ∧ R j = cr j ∧ E j = ce j) ∧ (¬ fit j → F j = 0)
def kx_minv (i n : Nat) (F : Nat → Int32) (X Y R E X2 Y2 R2 E2 : Nat → UInt64) : Prop := ∀ j, j < n → (F j ≠ 0 → X2 j = X j ∧ Y2 j = Y j ∧ R2 j = R j ∧ E2 j = E j) ∧ (j < i → F j = 0 → X2 j = kx_btw X j (kx_sa F n j) (kx_sb F n j) ∧ Y2 j = kx_btw Y j (kx_sa F n j) (kx_sb F n j) ∧ R2 j = kx_btw R j (kx_sa F n j) (kx_sb F n j) ∧ E2 j = FP.dconst0)
def kx_fin (n : Nat) (fit : Nat → Prop) (cx cy cr ce : Nat → UInt64) (F : Nat → Int32) (X Y R E : Nat → UInt64) (cnt : Nat) : Prop := cnt = kx_cn F n ∧ ∀ i, i < n → (fit i → F i = 1 ∧ X i = cx i ∧ Y i = cy i ∧ R i = cr i ∧ E i = ce i) ∧ (¬ fit i → F i = 0 ∧ (0 < cnt → X i = kx_btw cx i (kx_sa F n i) (kx_sb F n i) ∧ Y i = kx_btw cy i (kx_sa F n i) (kx_sb F n i) ∧ R i = kx_btw cr i (kx_sa F n i) (kx_sb F n i) ∧ E i = FP.dconst0))
theorem kx_btw_c {f h : Nat → UInt64} {i a b : Nat} (ha : f a = h a) (hb : f b = h b) : kx_btw f i a b = kx_btw h i a b := by
  unfold kx_btw
  rw [ha, hb]
theorem kx_cn_p {F : Nat → Int32} : ∀ {n : Nat}, 0 < kx_cn F n → ∃ j, j < n ∧ F j ≠ 0
  | 0, h => absurd h (Nat.lt_irrefl 0)
  | n + 1, h => by
    by_cases c : F n = 0
    · rw [kx_cn_f c] at h
      obtain ⟨j, h1, h2⟩ := kx_cn_p h
      exact ⟨j, by omega, h2⟩
    · exact ⟨n, by omega, c⟩
theorem kx_cn_q {F : Nat → Int32} : ∀ {n j : Nat}, j < n → F j ≠ 0 → 0 < kx_cn F n
  | 0, j, h, _ => absurd h (Nat.not_lt_zero j)
  | n + 1, j, h, hF => by
    by_cases c : F n = 0
    · rw [kx_cn_f c]
      refine kx_cn_q (j := j) ?_ hF
      rcases Nat.lt_succ_iff_lt_or_eq.mp h with g | g
      · exact g
      · rw [g] at hF; exact absurd c hF
    · rw [kx_cn_t c]
      omega
theorem kx_uI {F : Nat → Int32} {k : Nat} {x : Int32} : upd F k x k = x := pk_us
theorem kx_cn_u {F : Nat → Int32} {i : Nat} {x : Int32} : kx_cn (upd F i x) i = kx_cn F i := kx_cn_c i (fun j hj => pk_un (by omega))
theorem kx_cn_u1 {F : Nat → Int32} {i : Nat} : kx_cn F i + 1 = kx_cn (upd F i 1) (i + 1) := by
  rw [kx_cn_t (th := upd F i 1) (by rw [kx_uI]; decide), kx_cn_u]
theorem kx_cn_u0 {F : Nat → Int32} {i : Nat} : kx_cn F i = kx_cn (upd F i 0) (i + 1) := by
  rw [kx_cn_f (th := upd F i 0) kx_uI, kx_cn_u]
section
variable {i n : Nat} {fit : Nat → Prop} {cx cy cr ce : Nat → UInt64} {F : Nat → Int32} {X Y R E : Nat → UInt64}
theorem kx_inv_0 : kx_inv 0 fit cx cy cr ce F X Y R E := fun j h => absurd h (Nat.not_lt_zero j)
theorem kx_inv_s {F' : Nat → Int32} {X' Y' R' E' : Nat → UInt64} (h : kx_inv i fit cx cy cr ce F X Y R E) (ho : ∀ j, j < i → F' j = F j ∧ X' j = X j ∧ Y' j = Y j ∧ R' j = R j ∧ E' j = E j) (ht : fit i → F' i = 1 ∧ X' i = cx i ∧ Y' i = cy i ∧ R' i = cr i ∧ E' i = ce i) (hf : ¬ fit i → F' i = 0) : kx_inv (i + 1) fit cx cy cr ce F' X' Y' R' E' := by
  intro j hj
  rcases Nat.lt_succ_iff_lt_or_eq.mp hj with g | g
  · obtain ⟨o1, o2, o3, o4, o5⟩ := ho j g
    rw [o1, o2, o3, o4, o5]
    exact h j g
  · subst g
    exact ⟨ht, hf⟩
theorem kx_inv_ct (h : kx_inv i fit cx cy cr ce F X Y R E) (hi : fit i) : kx_inv (i + 1) fit cx cy cr ce (upd F i 1) (vf_upd X i (cx i)) (vf_upd Y i (cy i)) (vf_upd R i (cr i)) (vf_upd E i (ce i)) :=
  kx_inv_s h (fun j hj => ⟨pk_un (by omega), kx_un (by omega), kx_un (by omega), kx_un (by omega), kx_un (by omega)⟩) (fun _ => ⟨kx_uI, kx_us, kx_us, kx_us, kx_us⟩) (fun q => absurd hi q)
theorem kx_inv_cf (h : kx_inv i fit cx cy cr ce F X Y R E) (hi : ¬ fit i) : kx_inv (i + 1) fit cx cy cr ce (upd F i 0) X Y R E :=
  kx_inv_s h (fun j hj => ⟨pk_un (by omega), rfl, rfl, rfl, rfl⟩) (fun q => absurd q hi) (fun _ => kx_uI)
theorem kx_inv_mt {sh : Nat → UInt64} (h : kx_inv i fit cx cy cr ce F (fun j => sh (4 * j)) (fun j => sh (4 * j + 1)) (fun j => sh (4 * j + 2)) (fun j => sh (4 * j + 3))) (hi : fit i) : kx_inv (i + 1) fit cx cy cr ce (upd F i 1) (fun j => kx_st sh i (cx i) (cy i) (cr i) (ce i) (4 * j)) (fun j => kx_st sh i (cx i) (cy i) (cr i) (ce i) (4 * j + 1)) (fun j => kx_st sh i (cx i) (cy i) (cr i) (ce i) (4 * j + 2)) (fun j => kx_st sh i (cx i) (cy i) (cr i) (ce i) (4 * j + 3)) :=
  kx_inv_s h (fun j hj => ⟨pk_un (by omega), kx_st_o (by omega), kx_st_o (by omega), kx_st_o (by omega), kx_st_o (by omega)⟩) (fun _ => ⟨kx_uI, kx_st_0, kx_st_1, kx_st_2, kx_st_3⟩) (fun q => absurd hi q)
theorem kx_minv_0 : kx_minv 0 n F X Y R E X Y R E := fun j _ => ⟨fun _ => ⟨rfl, rfl, rfl, rfl⟩, fun h => absurd h (Nat.not_lt_zero j)⟩
theorem kx_minv_f {X2 Y2 R2 E2 : Nat → UInt64} (h : kx_minv i n F X Y R E X2 Y2 R2 E2) (hi : F i ≠ 0) : kx_minv (i + 1) n F X Y R E X2 Y2 R2 E2 := by
  intro j hj
  refine ⟨(h j hj).1, fun h1 h0 => ?_⟩
  rcases Nat.lt_succ_iff_lt_or_eq.mp h1 with g | g
  · exact (h j hj).2 g h0
  · subst g
    exact absurd h0 hi
theorem kx_minv_m {sh s2 : Nat → UInt64} (h : kx_minv i n F (fun j => sh (4 * j)) (fun j => sh (4 * j + 1)) (fun j => sh (4 * j + 2)) (fun j => sh (4 * j + 3)) (fun j => s2 (4 * j)) (fun j => s2 (4 * j + 1)) (fun j => s2 (4 * j + 2)) (fun j => s2 (4 * j + 3))) (hn : n ≤ 16) (hi : i < n) (h0 : F i = 0) (he : ∃ j, j < n ∧ F j ≠ 0)
    {x y r : UInt64} (ex : x = kx_btw (fun j => s2 (4 * j)) i (kx_sa F n i) (kx_sb F n i)) (ey : y = kx_btw (fun j => s2 (4 * j + 1)) i (kx_sa F n i) (kx_sb F n i)) (er : r = kx_btw (fun j => s2 (4 * j + 2)) i (kx_sa F n i) (kx_sb F n i)) :
    kx_minv (i + 1) n F (fun j => sh (4 * j)) (fun j => sh (4 * j + 1)) (fun j => sh (4 * j + 2)) (fun j => sh (4 * j + 3)) (fun j => kx_st s2 i x y r FP.dconst0 (4 * j)) (fun j => kx_st s2 i x y r FP.dconst0 (4 * j + 1)) (fun j => kx_st s2 i x y r FP.dconst0 (4 * j + 2)) (fun j => kx_st s2 i x y r FP.dconst0 (4 * j + 3)) := by
  obtain ⟨hs, ha, hb⟩ := kx_sel_of hn hi h0 he
  obtain ⟨hab, la, lb⟩ := kx_sel_ab hs
  have fa := (h _ la).1 ha
  have fb := (h _ lb).1 hb
  intro j hj
  by_cases c : j = i
  · subst c
    refine ⟨fun q => absurd h0 q, fun _ _ => ⟨?_, ?_, ?_, kx_st_3⟩⟩
    · show kx_st s2 j x y r FP.dconst0 (4 * j) = _
      rw [kx_st_0, ex]
      exact kx_btw_c fa.1 fb.1
    · show kx_st s2 j x y r FP.dconst0 (4 * j + 1) = _
      rw [kx_st_1, ey]
      exact kx_btw_c fa.2.1 fb.2.1
    · show kx_st s2 j x y r FP.dconst0 (4 * j + 2) = _
      rw [kx_st_2, er]
      exact kx_btw_c fa.2.2.1 fb.2.2.1
  · dsimp only
    rw [kx_st_o (by omega), kx_st_o (by omega), kx_st_o (by omega), kx_st_o (by omega)]
    exact ⟨(h j hj).1, fun h1 h2 => (h j hj).2 (by omega) h2⟩
theorem kx_minv_c (hn : n ≤ 16) : kx_minv n n F X Y R E (kx_mp F X n n) (kx_mp F Y n n) (kx_mp F R n n) (kx_ep F E n) := by
  intro j hj
  refine ⟨fun h => ⟨kx_mp_F h, kx_mp_F h, kx_mp_F h, if_neg (fun q => h q.2)⟩, fun h1 h0 => ⟨if_pos ⟨h1, h0⟩, if_pos ⟨h1, h0⟩, if_pos ⟨h1, h0⟩, if_pos ⟨h1, h0⟩⟩⟩
theorem kx_fin_of {X2 Y2 R2 E2 : Nat → UInt64} {cnt : Nat} (hn : n ≤ 16) (hi : kx_inv n fit cx cy cr ce F X Y R E) (hc : cnt = kx_cn F n) (hm : 0 < cnt → kx_minv n n F X Y R E X2 Y2 R2 E2) : kx_fin n fit cx cy cr ce F X2 Y2 R2 E2 cnt := by
  refine ⟨hc, fun i hi2 => ⟨fun hf => ?_, fun hf => ?_⟩⟩
  · obtain ⟨h1, h2, h3, h4, h5⟩ := (hi i hi2).1 hf
    have hne : F i ≠ 0 := by rw [h1]; decide
    have hp : 0 < cnt := by rw [hc]; exact kx_cn_q hi2 hne
    obtain ⟨g1, g2, g3, g4⟩ := (hm hp i hi2).1 hne
    exact ⟨h1, g1.trans h2, g2.trans h3, g3.trans h4, g4.trans h5⟩
  · have h0 := (hi i hi2).2 hf
    refine ⟨h0, fun hp => ?_⟩
    have he : ∃ j, j < n ∧ F j ≠ 0 := kx_cn_p (by rw [← hc]; exact hp)
    obtain ⟨hs, ha, hb⟩ := kx_sel_of hn hi2 h0 he
    obtain ⟨hab, la, lb⟩ := kx_sel_ab hs
    obtain ⟨g1, g2, g3, g4⟩ := (hm hp i hi2).2 hi2 h0
    have fa : fit (kx_sa F n i) := Classical.byContradiction (fun q => ha ((hi _ la).2 q))
    have fb : fit (kx_sb F n i) := Classical.byContradiction (fun q => hb ((hi _ lb).2 q))
    obtain ⟨-, a2, a3, a4, -⟩ := (hi _ la).1 fa
    obtain ⟨-, b2, b3, b4, -⟩ := (hi _ lb).1 fb
    exact ⟨g1.trans (kx_btw_c a2 b2), g2.trans (kx_btw_c a3 b3), g3.trans (kx_btw_c a4 b4), g4⟩
end
theorem kx_bef_c {F F' : Nat → Int32} : ∀ t, (∀ j, j < t → F j = F' j) → kx_bef F t = kx_bef F' t
  | 0, _ => rfl
  | t + 1, h => by
    unfold kx_bef
    rw [h t (by omega), kx_bef_c t (fun j hj => h j (by omega))]
theorem kx_beh_c {F F' : Nat → Int32} {n : Nat} (h : ∀ j, j < n → F j = F' j) : ∀ k, k ≤ n → kx_beh F n k = kx_beh F' n k
  | 0, _ => rfl
  | k + 1, hk => by
    unfold kx_beh
    rw [h (n - (k + 1)) (by omega), kx_beh_c h k (by omega)]
theorem kx_sa_c {F F' : Nat → Int32} {n i : Nat} (h : ∀ j, j < n → F j = F' j) (hi : i < n) : kx_sa F n i = kx_sa F' n i := by
  unfold kx_sa
  rw [kx_bef_c i (fun j hj => h j (by omega)), kx_beh_c h _ (by omega)]
theorem kx_sb_c {F F' : Nat → Int32} {n i : Nat} (h : ∀ j, j < n → F j = F' j) (hi : i < n) : kx_sb F n i = kx_sb F' n i := by
  unfold kx_sb
  rw [kx_bef_c i (fun j hj => h j (by omega)), kx_beh_c h _ (by omega)]
/-- two runs of one kind leave the same -/
theorem kx_fin_u {n : Nat} {fit fit' : Nat → Prop} {cx cy cr ce cx' cy' cr' ce' : Nat → UInt64} {F F' : Nat → Int32} {X Y R E X' Y' R' E' : Nat → UInt64} {cnt cnt' : Nat} (hn : n ≤ 16) (h : kx_fin n fit cx cy cr ce F X Y R E cnt) (h' : kx_fin n fit' cx' cy' cr' ce' F' X' Y' R' E' cnt') (hf : ∀ i, i < n → (fit i ↔ fit' i)) (hc : ∀ i, i < n → fit i → cx i = cx' i ∧ cy i = cy' i ∧ cr i = cr' i ∧ ce i = ce' i) : cnt = cnt' ∧ (∀ i, i < n → F i = F' i) ∧ (0 < cnt → ∀ i, i < n → X i = X' i ∧ Y i = Y' i ∧ R i = R' i ∧ E i = E' i) := by
  have hF : ∀ i, i < n → F i = F' i := by
    intro i hi
    by_cases c : fit i
    · rw [((h.2 i hi).1 c).1, ((h'.2 i hi).1 ((hf i hi).mp c)).1]
    · rw [((h.2 i hi).2 c).1, ((h'.2 i hi).2 (fun q => c ((hf i hi).mpr q))).1]
  have hcn : cnt = cnt' := by rw [h.1, h'.1, kx_cn_c n hF]
  refine ⟨hcn, hF, fun hp i hi => ?_⟩
  by_cases c : fit i
  · obtain ⟨-, a1, a2, a3, a4⟩ := (h.2 i hi).1 c
    obtain ⟨-, b1, b2, b3, b4⟩ := (h'.2 i hi).1 ((hf i hi).mp c)
    obtain ⟨c1, c2, c3, c4⟩ := hc i hi c
    exact ⟨by rw [a1, b1, c1], by rw [a2, b2, c2], by rw [a3, b3, c3], by rw [a4, b4, c4]⟩
  · obtain ⟨f0, a⟩ := (h.2 i hi).2 c
    obtain ⟨f0', b⟩ := (h'.2 i hi).2 (fun q => c ((hf i hi).mpr q))
    obtain ⟨a1, a2, a3, a4⟩ := a hp
    obtain ⟨b1, b2, b3, b4⟩ := b (by rw [← hcn]; exact hp)
    have he : ∃ j, j < n ∧ F j ≠ 0 := kx_cn_p (by rw [← h.1]; exact hp)
    obtain ⟨hs, ha, hb⟩ := kx_sel_of hn hi f0 he
    obtain ⟨hab, la, lb⟩ := kx_sel_ab hs
    have fa : fit (kx_sa F n i) := Classical.byContradiction (fun q => ha ((h.2 _ la).2 q).1)
    have fb : fit (kx_sb F n i) := Classical.byContradiction (fun q => hb ((h.2 _ lb).2 q).1)
    have ca := hc _ la fa
    have cb := hc _ lb fb
    rw [a1, a2, a3, a4, b1, b2, b3, b4, ← kx_sa_c hF hi, ← kx_sb_c hF hi]
    exact ⟨kx_btw_c ca.1 cb.1, kx_btw_c ca.2.1 cb.2.1, kx_btw_c ca.2.2.1 cb.2.2.1, rfl⟩
end
section
theorem kx_backN {D : va_G} {cl : List vw_C} {A0 : Nat → Prop} {ws wc wa wb : va_W} {H H1 : Heap} (hP : va_P D cl ws H) (hD : va_D A0 ws) (isC : List Nat) (hC : isC.map (fun i => ws[i]?) = wc.map some) (hn : va_nd isC = true) (hl : isC.length = wa.length)
    (hk : ∀ q : Nat, q < H.size → ¬ va_A wc H.size q → H1[q]? = H[q]?) (hF : ∀ q, va_A wc H.size q → A0 q) (hP1 : va_P D cl (wa ++ wb) H1) (hD1 : va_D (va_A wc H.size) (wa ++ wb)) : va_P D cl (kx_rep ws isC wa ++ wb) H1 ∧ va_D A0 (kx_rep ws isC wa ++ wb) := by
  have ga : ∀ (k : Nat) (q : Nat × va_E), wa[k]? = some q → (wa ++ wb)[k]? = some q := fun k q h => by
    rw [List.getElem?_append_left (List.getElem?_eq_some_iff.mp h).1]
    exact h
  have gb : ∀ (k : Nat) (q : Nat × va_E), wb[k]? = some q → (wa ++ wb)[wa.length + k]? = some q := fun k q h => by
    rw [List.getElem?_append_right (by omega), show wa.length + k - wa.length = k from by omega]
    exact h
  have hPa : va_P D cl wa H1 := fun k q h => hP1 k q (ga k q h)
  have hDa : va_D (va_A wc H.size) wa := ⟨fun i j x y hx hy e => hD1.1 i j x y (ga i x hx) (ga j y hy) e, fun k q h => hD1.2 k q (ga k q h)⟩
  have hDb : va_D A0 wb := ⟨fun i j x y hx hy e => by
    have := hD1.1 _ _ x y (gb i x hx) (gb j y hy) e
    omega, fun k q h => hF q.1 (hD1.2 _ q (gb k q h))⟩
  obtain ⟨b1, b2⟩ := kx_back hP hD isC hC hn hl hk hF hPa hDa
  refine ⟨va_P.app b1 (fun k q h => hP1 _ q (gb k q h)), va_D.app b2 hDb (fun i j x y hx hy e => ?_)⟩
  have at' : ∀ (k : Nat) (q : Nat × va_E), wc[k]? = some q → ∃ i, isC[k]? = some i ∧ ws[i]? = some q := by
    intro k q hq
    have h1 : (isC.map (fun i => ws[i]?))[k]? = some (some q) := by rw [hC, List.getElem?_map, hq]; rfl
    rw [List.getElem?_map] at h1
    cases hi : isC[k]? with
    | none => rw [hi] at h1; cases h1
    | some i => rw [hi] at h1; exact ⟨i, rfl, Option.some.inj h1⟩
  rcases kx_rep_get isC wa ws hl hn i x hx with ⟨a, a1, a2⟩ | ⟨a1, a2⟩
  · have hlt := (List.getElem?_eq_some_iff.mp a2).1
    have := hD1.1 _ _ x y (ga a x a2) (gb j y hy) e
    omega
  · have hm := hD1.2 _ y (gb j y hy)
    rw [← e] at hm
    have hlt := (hP i x a2).lt
    rcases hm with ⟨k2, e2, h2⟩ | h2
    · obtain ⟨j2, h3, h4⟩ := at' k2 (x.1, e2) h2
      have hij := hD.1 i j2 x (x.1, e2) a2 h4 rfl
      subst hij
      exact a1 (List.mem_of_getElem? h3)
    · omega
section
variable {p : Program} {l : Launch} {e : Env} {R : Room} {s : State} {m : MethodId} {args : Array Value} {below : List Frame} {meth : Method} {c : Code} {H : Heap} {locs : List Loc} {cells slots : Nat} {Q : State → Prop}
variable {cc : ByteArray} {pc : Nat} {ls : Array Slot} {rest st0 : List Value} {G : kx_G} {ws wc : va_W} {A0 : Nat → Prop} {H0 : Heap} {a : Array Value} {mc ms : Nat}
/-- a constructor: the object's cell anew, and the cells that it made -/
theorem kx_mvN {S : Type} {post : S → Prop} {w1 wa wb : S → va_W} (hr : va_Run p l e R s m args below meth c H locs cells slots mc ms (F0 m pc ls st0) rest (va_Qv post (kx_B G (va_A wc H.size) w1) (va_A wc H.size) a) (va_A wc H.size)) (hP : va_P G.1 vwCl ws H) (hD : va_D A0 ws) (hS : va_S A0 H0 H locs) (hA : ∀ q, H0.size ≤ q → A0 q) (isC : List Nat) (hC : isC.map (fun i => ws[i]?) = wc.map some) (hn : va_nd isC = true) (hw : ∀ u, w1 u = wa u ++ wb u) (hl : ∀ u, isC.length = (wa u).length)
    (kk : ∀ (u : S) (H1 : Heap) (locs1 : List Loc), post u → va_P G.1 vwCl (kx_rep ws isC (wa u) ++ wb u) H1 → va_D A0 (kx_rep ws isC (wa u) ++ wb u) → va_S A0 H0 H1 locs1 → W p l e R s m args below meth c H1 locs1 (cells + mc) (slots + ms) Q (F0 m (pc + 3) ls rest)) : W p l e R s m args below meth c H locs cells slots Q (F0 m pc ls st0) := by
  have hF := va_free hD hS hA isC hC
  refine va_callv hr hS (fun q _ h => hF q h) hF (fun u t H1 locs1 ht hvm hw2 hB hz hk hS1 => ?_)
  obtain ⟨g1, g2⟩ := hB
  rw [ht, hw u] at g1
  rw [hw u] at g2
  obtain ⟨b1, b2⟩ := kx_backN hP hD isC hC hn (hl u) hk hF g1 g2
  exact kk u H1 locs1 hw2 b1 b2 hS1
end
theorem kx_ne_a {x m : Int32} (h : ¬ 1 ≤ x) (hm : 1 < m) : kx_ne x m = 1 := by
  unfold kx_ne
  have h1 : ¬ 1 < (if m < x then m else x) := by
    rw [if_neg (by
      rw [Int32.lt_iff_toInt_lt] at *
      rw [Int32.le_iff_toInt_le] at h
      omega)]
    rw [Int32.lt_iff_toInt_lt]
    rw [Int32.le_iff_toInt_le] at h
    omega
  rw [if_neg h1]
theorem kx_ne_b {x m : Int32} (h : 1 ≤ x) (h2 : ¬ x ≤ m) (hm : 1 < m) : kx_ne x m = m := by
  unfold kx_ne
  have h1 : m < x := by
    rw [Int32.lt_iff_toInt_lt]
    rw [Int32.le_iff_toInt_le] at h2
    omega
  rw [if_pos h1, if_pos hm]
theorem kx_ne_c {x m : Int32} (h : 1 ≤ x) (h2 : x ≤ m) : kx_ne x m = x := by
  unfold kx_ne
  have h1 : ¬ m < x := by
    rw [Int32.lt_iff_toInt_lt]
    rw [Int32.le_iff_toInt_le] at h2
    omega
  rw [if_neg h1]
  by_cases c : 1 < x
  · rw [if_pos c]
  · rw [if_neg c]
    rw [Int32.lt_iff_toInt_lt] at c
    rw [Int32.le_iff_toInt_le] at h
    exact Int32.toInt_inj.mp (by omega)
theorem kx_ne_n {x m : Int32} {k : Nat} (hm : 1 < m) (hk : m = nI k) (hk2 : k < 2 ^ 31) : ∃ n, 1 ≤ n ∧ n ≤ k ∧ kx_ne x m = nI n := by
  have e1 : (1 : Int32).toInt = 1 := by decide
  have e2 : m.toInt = k := by rw [hk]; exact nI_toInt hk2
  rw [Int32.lt_iff_toInt_lt] at hm
  by_cases c1 : 1 ≤ x
  · by_cases c2 : x ≤ m
    · rw [kx_ne_c c1 c2]
      obtain ⟨j, h1, h2⟩ := nI_of (x := x) (by
        intro q
        rw [Int32.lt_iff_toInt_lt] at q
        rw [Int32.le_iff_toInt_le] at c1
        have e0 : (0 : Int32).toInt = 0 := by decide
        omega)
      refine ⟨j, ?_, ?_, h2⟩
      · rw [Int32.le_iff_toInt_le, h2, nI_toInt h1] at c1
        omega
      · rw [Int32.le_iff_toInt_le, h2, nI_toInt h1] at c2
        omega
    · rw [kx_ne_b c1 c2 (Int32.lt_iff_toInt_lt.mpr hm)]
      exact ⟨k, by omega, Nat.le_refl k, hk⟩
  · rw [kx_ne_a c1 (Int32.lt_iff_toInt_lt.mpr hm)]
    exact ⟨1, Nat.le_refl 1, by omega, rfl⟩
end
section
/-- the reference's first directions -/
def kx_p8 : Nat → UInt64 := vf_upd (vf_upd (vf_upd (vf_upd (vf_upd (vf_upd (vf_upd (vf_upd (fun _ => 0) 0 FP.dconst1) 1 FP.dconst1) 2 FP.dconst1) 3 FP.dconst1) 4 FP.dconst1) 5 FP.dconst1) 6 FP.dconst1) 7 FP.dconst1
theorem kx_p8_bd : ∀ j, fx_bd 5 (kx_p8 j) := by
  have h1 : fx_bd 5 FP.dconst1 := fx_1b.mono (by omega)
  exact fx_bd.upd (fx_bd.upd (fx_bd.upd (fx_bd.upd (fx_bd.upd (fx_bd.upd (fx_bd.upd (fx_bd.upd (fun _ => fx_0b.mono (by omega)) h1) h1) h1) h1) h1) h1) h1) h1
theorem kx_p8_1 {j : Nat} (h : j < 8) : kx_p8 j = FP.dconst1 := by
  rcases (show j = 0 ∨ j = 1 ∨ j = 2 ∨ j = 3 ∨ j = 4 ∨ j = 5 ∨ j = 6 ∨ j = 7 by omega) with rfl | rfl | rfl | rfl | rfl | rfl | rfl | rfl <;> rfl
end
section
/-! throwing -/
def kx_A2 : String := "java/lang/IllegalArgumentException"
def kx_A3 : String := "java/lang/IllegalStateException"
def kx_n1 : List String := ["java/lang/IndexOutOfBoundsException", "java/lang/RuntimeException", "java/lang/Exception"]
def kx_n2 : List String := ["java/lang/RuntimeException", "java/lang/Exception"]
def kx_x1 : List Cond := .classLink RX4 105 RJx00060 :: .initialized RJx00060 :: vx_atS RX4 109 RJx00060 kx_n1
def kx_x2 : List Cond := .classLink RX4 59 kx_A2 :: .initialized kx_A2 :: vx_atS RX4 63 kx_A2 kx_n2
def kx_x3 : List Cond := .classLink RX4 158 kx_A3 :: .initialized kx_A3 :: vx_atS RX4 162 kx_A3 kx_n2
def kx_xw : List Cond := kx_x1 ++ (kx_x2 ++ kx_x3)
def kx_okx : Cond → Bool
  | .declares _ => true
  | .castable _ _ => true
  | w => goodWord w
theorem kx_xw_1 : kx_x1.all (fun w => kx_okx w && w.onTables) = true := by decide +kernel
theorem kx_xw_2 : kx_x2.all (fun w => kx_okx w && w.onTables) = true := by decide +kernel
theorem kx_xw_3 : kx_x3.all (fun w => kx_okx w && w.onTables) = true := by decide +kernel
theorem kx_xw_ok {w : Cond} (h : w ∈ kx_xw) : kx_okx w = true ∧ w.onTables = true := by
  have key : ∀ {l : List Cond}, l.all (fun w => kx_okx w && w.onTables) = true → w ∈ l → kx_okx w = true ∧ w.onTables = true := fun h1 h2 => by
    have h3 := List.all_eq_true.mp h1 w h2
    simp only [Bool.and_eq_true] at h3
    exact h3
  rcases List.mem_append.mp h with h | h
  · exact key kx_xw_1 h
  · rcases List.mem_append.mp h with h | h
    · exact key kx_xw_2 h
    · exact key kx_xw_3 h
theorem kx_in1 : ∀ w ∈ kx_x1, w ∈ kx_xw := fun _ h => List.mem_append_left _ h
theorem kx_in2 : ∀ w ∈ kx_x2, w ∈ kx_xw := fun _ h => List.mem_append_right _ (List.mem_append_left _ h)
theorem kx_in3 : ∀ w ∈ kx_x3, w ∈ kx_xw := fun _ h => List.mem_append_right _ (List.mem_append_right _ h)
def kx_sL : List (Nat × String) := [(61, "a direction is of -16 .. 16"), (66, "a direction is not 0, 0"), (79, "a shadow is of -1000 .. 1000"), (81, "a shadow ends before it begins"), (107, "there is no such part of a shape"), (130, "a place is of -1000 .. 1000"), (150, "there is no such kind of rule"), (152, "a class is of 0 .. 100"), (160, "there is no room for a rule"), (175, "a turn is of 0 .. 3"), (189, "a length is of 0 .. 1000000000"), (193, "a unit is of 1 .. 1000000"), (195, "the least length is not below 0"), (197, "there is no such slice"), (199, "there is no such view"), (201, "there is no shape of what was told"), (206, "no stem is kept")]
def kx_TX (G : kx_G) (U : State) : Prop := kx_T G U ∧ (∀ w ∈ kx_xw, va_Nw w U) ∧ ∀ q ∈ kx_sL, ∃ sa, vk_R RX4 q.1 q.2 sa U
theorem kx_TX.warm {G : kx_G} {s U : State} (hW : s.WarmedH U.vm) (h : kx_TX G s) : kx_TX G U := by
  refine ⟨h.1.warm hW, fun w hw => ?_, fun q hq => ?_⟩
  · have h1 := (kx_xw_ok hw).1
    have h2 := h.2.1 w hw
    clear hw
    cases w <;> first | exact va_Nw.warmD hW h2 | exact va_Nw.warmC hW h2 | exact word_at hW (good_of_word h1) h2
  · obtain ⟨sa, h1⟩ := h.2.2 q hq
    exact ⟨sa, h1.warm hW⟩
theorem kx_TX.same {G : kx_G} {u U : State} (hv : u.vm = U.vm) (h : kx_TX G u) : kx_TX G U := by
  refine ⟨h.1.same hv, fun w hw => va_Nw.same (kx_xw_ok hw).2 hv (h.2.1 w hw), fun q hq => ?_⟩
  obtain ⟨sa, h1⟩ := h.2.2 q hq
  exact ⟨sa, h1.same hv.symm⟩
theorem kx_TX.use {G : kx_G} {s : State} {args : Array Value} (h : kx_TX G s) {w : Cond} (hw : w ∈ kx_xw) : w.before args s = true := va_Nw.use (kx_xw_ok hw).2 (h.2.1 w hw)
def kx_ZZ (A : Nat → Prop) (U : State) (H : Heap) : Prop := vx_Zq Bundle.tN "UNASSIGNED_STACK" Bundle.steD A U H ∧ vx_Zq Bundle.tN "SUPPRESSED_SENTINEL" Bundle.listD A U H
theorem kx_ZZ.moved {A : Nat → Prop} {u U : State} {H : Heap} (hvm : u.vm.Alike U.vm) (h : kx_ZZ A u H) : kx_ZZ A U H := ⟨h.1.moved hvm, h.2.moved hvm⟩
theorem kx_ZZ.kept {A : Nat → Prop} {U : State} {H H1 : Heap} (h : kx_ZZ A U H) (hq : ∀ a : Nat, a < H.size → ¬ A a → H1[a]? = H[a]?) : kx_ZZ A U H1 := ⟨h.1.kept hq, h.2.kept hq⟩
theorem kx_ZZ.narrow {A B : Nat → Prop} {U : State} {H : Heap} (h : kx_ZZ A U H) (hAB : ∀ q, B q → A q) : kx_ZZ B U H := ⟨h.1.narrow hAB, h.2.narrow hAB⟩
abbrev kx_F : Nat → Prop := fun _ => False
/-- a start of a method that throws or reads -/
def kx_PXR (G : kx_G) (av : List Value) (ws : va_W) : Array Value → State → Prop := va_Pc av (fun U => va_P G.1 vwCl ws U.heap ∧ kx_TX G U ∧ kx_ZZ kx_F U U.heap)
theorem kx_PXRb {G : kx_G} {av : List Value} {ws : va_W} : FrameBlind (kx_PXR G av ws) := fun a U g mk q => ⟨q.1, q.2.1, kx_TX.same (u := U) (U := U.calling g mk a) rfl q.2.2.1, kx_ZZ.moved (u := U) (U := U.calling g mk a) (Vm.Alike.refl U.vm) q.2.2.2⟩
theorem kx_pxr {G : kx_G} {s : State} {H : Heap} {locs : List Loc} {ws wc : va_W} {av : List Value} {A : Nat → Prop} (hT : kx_TX G s) (hZ : kx_ZZ A s s.heap) (hS : va_S A s.heap H locs) (hP : va_P G.1 vwCl ws H) (is : List Nat) (h : is.filterMap (fun i => ws[i]?) = wc) : ∀ U : State, U.heap = H → s.WarmedH U.vm → kx_PXR G av wc av.toArray U := fun U hU hW => ⟨rfl, by rw [hU]; exact hP.sub is h, hT.warm hW, by rw [hU]; exact ((hZ.kept hS.2.1).narrow (fun _ q => q.elim)).moved hW.alike⟩
/-- a start of a method that throws or writes -/
def kx_PXM (G : kx_G) (av : List Value) (sz : Nat) (ws : va_W) : Array Value → State → Prop := va_Pc av (fun U => U.heap.size = sz ∧ va_P G.1 vwCl ws U.heap ∧ kx_TX G U ∧ va_D (fun _ => True) ws ∧ kx_ZZ (va_A ws sz) U U.heap)
theorem kx_PXMb {G : kx_G} {av : List Value} {sz : Nat} {ws : va_W} : FrameBlind (kx_PXM G av sz ws) := fun a U g mk q => ⟨q.1, q.2.1, q.2.2.1, kx_TX.same (u := U) (U := U.calling g mk a) rfl q.2.2.2.1, q.2.2.2.2.1, kx_ZZ.moved (u := U) (U := U.calling g mk a) (Vm.Alike.refl U.vm) q.2.2.2.2.2⟩
theorem kx_pxm {G : kx_G} {s : State} {H : Heap} {locs : List Loc} {ws wc : va_W} {av : List Value} {A : Nat → Prop} (hT : kx_TX G s) (hZ : kx_ZZ A s s.heap) (hS : va_S A s.heap H locs) (hA : ∀ q, s.heap.size ≤ q → A q) (hP : va_P G.1 vwCl ws H) (hD : va_D A ws) (is : List Nat) (h : is.filterMap (fun i => ws[i]?) = wc) (hn : va_nd is = true) (h2 : is.map (fun i => ws[i]?) = wc.map some) : ∀ U : State, U.heap = H → s.WarmedH U.vm → kx_PXM G av H.size wc av.toArray U := fun U hU hW => ⟨rfl, by rw [hU], by rw [hU]; exact hP.sub is h, hT.warm hW, (hD.sub is hn h2).weaken (fun _ _ _ _ => trivial), by rw [hU]; exact ((hZ.kept hS.2.1).narrow (va_free hD hS hA is h2)).moved hW.alike⟩
theorem kx_Sw {A : Nat → Prop} {H0 H : Heap} {locs : List Loc} (h : va_S kx_F H0 H locs) : va_S A H0 H locs := ⟨h.1, fun q h1 _ => h.2.1 q h1 (fun z => z), fun q hq => (h.2.2 q hq).elim⟩
section
variable {p : Program} {l : Launch} {e : Env} {R : Room} {s : State} {m : MethodId} {args : Array Value} {below : List Frame} {meth : Method} {c : Code} {H : Heap} {locs : List Loc} {cells slots : Nat} {Q : State → Prop}
variable {cc : ByteArray} {pc : Nat} {ls : Array Slot} {rest st0 : List Value} {G : kx_G} {ws wc : va_W} {A0 : Nat → Prop} {H0 : Heap} {a : Array Value} {mc ms : Nat} {free : Addr → Prop} {Qc : Array Value → State → Outcome → State → Prop} {PX : String → Prop}
theorem kx_keep {H1 : Heap} (hP : va_P G.1 vwCl ws H) (h : ∀ q : Nat, q < H.size → ¬ kx_F q → H1[q]? = H[q]?) : va_P G.1 vwCl ws H1 := fun k q hq => (hP k q hq).kept (h q.1 (hP k q hq).lt (fun z => z))
theorem kx_thr {cls text : String} {names : List String} {ik is ic sa : Nat} (hx : p.tables.exec = Jvm.exec) (hb : c.code = cc) (hst : l.stackTraces = false) (hown : s.vm.findClass RX4 = some m.cls) (hcls : Bundle.fit cls = true) (hnames : ∀ n ∈ names, Bundle.fit n = true) (hTX : kx_TX G s)
    (hin : ∀ w ∈ Cond.classLink RX4 ik cls :: Cond.initialized cls :: vx_atS RX4 ic cls names, w ∈ kx_xw) (hstr : vk_R RX4 is text sa s) (hZ : kx_ZZ kx_F s s.heap) (hS : va_S kx_F s.heap H locs) (hsize : ls.size = c.maxLocals)
    (d0 : decode cc pc = .ok (.new ik, 3)) (d3 : decode cc (pc + 3) = .ok (.dup, 1)) (d4 : decode cc (pc + 4) = .ok (.ldc is, 2)) (d6 : decode cc (pc + 6) = .ok (.invokespecial ic, 3)) (d9 : decode cc (pc + 9) = .ok (.athrow, 1))
    (htab : ∀ x ∈ c.exceptionTable.toList, False) (hRf : names.length + 3 < R.frames) (hRl : (rest.map fun v => v.category).sum + (13 * (names.length + 1) + 43) ≤ R.locals) (hRc : cells + 1 ≤ R.cells) (hRs : slots + 6 ≤ R.slots) (hlocks : meth.locks = false) (hpx : PX cls) (hc : cells + 1 ≤ mc) (hs : slots + 6 ≤ ms) :
    W p l e R s m args below meth c H locs cells slots (vx_MQ below Qc (vx_X (fun _ : Unit => True) (fun E _ _ => PX E) kx_F) args s mc ms free) (F0 m pc ls rest) :=
  vx_throwS (A := kx_F) hx hb hst hown hcls hnames (hTX.use (hin _ List.mem_cons_self)) (hTX.use (hin _ (List.mem_cons_of_mem _ List.mem_cons_self))) hstr (fun w h => hTX.use (hin w (List.mem_cons_of_mem _ (List.mem_cons_of_mem _ h)))) (fun w h => by
    show (w.onTables || goodWord w) = true
    rw [(kx_xw_ok (hin w h)).2]; rfl) hZ.1 hZ.2 hS hsize d0 d3 d4 d6 d9 (fun x h => (htab x h).elim) hRf hRl hRc hRs hlocks
    (fun t _ h1 h2 => ⟨(), trivial, hpx, Nat.le_trans hS.1 h1, fun q h3 h4 => by rw [h2 q (Nat.lt_of_lt_of_le h3 hS.1)]; exact hS.2.1 q h3 h4⟩) (fun z h => (hS.2.2 z h).elim) hc hs
theorem kx_po {E : String} {ce : Cell} {q : Addr} (htab : ∀ x ∈ c.exceptionTable.toList, False) (hlocks : meth.locks = false) (hS : va_S kx_F s.heap H locs) (hcell : H[q]? = some ce) (hv : ce.vm = .none) (hcl : s.vm.findClass E = some ce.cls) (hpx : PX E) (hc : cells ≤ mc) (hs : slots ≤ ms) :
    vx_W p l e R s m args below meth c H locs cells slots (vx_MQ below Qc (vx_X (fun _ : Unit => True) (fun E _ _ => PX E) kx_F) args s mc ms free) (F0 m pc ls rest) q :=
  vx_out (fun x h => (htab x h).elim) hlocks hcell hv hcl (fun t ht _ => ⟨(), trivial, hpx, hS.F ht⟩) (fun z h => (hS.2.2 z h).elim) hc hs
/-- a call of a method that only tests and throws -/
theorem kx_nd {post : Prop} (hr : vx_Run p l e R s m args below meth c H locs cells slots mc ms (F0 m pc ls st0) rest (va_Qv (fun _ : Unit => post) (fun _ _ => True) kx_F a) (vx_X (fun _ : Unit => True) (fun E _ _ => PX E) kx_F) kx_F) (hP : va_P G.1 vwCl ws H) (hS : va_S kx_F H0 H locs)
    (kx : ∀ (E : String) (ce : Cell) (q9 : Addr) (H1 : Heap) (locs1 : List Loc), PX E → va_S kx_F H0 H1 locs1 → H1[q9]? = some ce → ce.vm = .none → s.vm.findClass E = some ce.cls → vx_W p l e R s m args below meth c H1 locs1 (cells + mc) (slots + ms) Q (F0 m pc ls rest) q9)
    (kk : ∀ (H1 : Heap) (locs1 : List Loc), post → va_P G.1 vwCl ws H1 → va_S kx_F H0 H1 locs1 → W p l e R s m args below meth c H1 locs1 (cells + mc) (slots + ms) Q (F0 m (pc + 3) ls rest)) : W p l e R s m args below meth c H locs cells slots Q (F0 m pc ls st0) :=
  vx_callv hr hS (fun _ _ h => h) (fun _ h => h) (fun _ _ h => h) (fun E ce q9 u t H1 locs1 _ _ _ hb _ _ hS1 h1 h2 h3 => kx E ce q9 H1 locs1 hb hS1 h1 h2 h3) (fun u t H1 locs1 _ _ hp _ _ hk hS1 => kk H1 locs1 hp (kx_keep hP hk) hS1)
end
def ke_2 (a b : String) (c : Int32) : String := if c = 1 then a else b
def ke_3 (a b d : String) (c : Int32) : String := if c = 1 then a else if c = 2 then b else d
end
