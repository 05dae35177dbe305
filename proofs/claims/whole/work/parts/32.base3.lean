/-! throwing -/
def kx_A2 : String := "java/lang/IllegalArgumentException"
def kx_A3 : String := "java/lang/IllegalStateException"
def kx_n1 : List String := ["java/lang/IndexOutOfBoundsException", "java/lang/RuntimeException", "java/lang/Exception"]
def kx_n2 : List String := ["java/lang/RuntimeException", "java/lang/Exception"]
def kx_x1 : List Cond := .classLink RX4 105 RJx00060 :: .initialized RJx00060 :: vx_atS RX4 109 RJx00060 kx_n1
def kx_x2 : List Cond := .classLink RX4 59 kx_A2 :: .initialized kx_A2 :: vx_atS RX4 63 kx_A2 kx_n2
def kx_x3 : List Cond := .classLink RX4 158 kx_A3 :: .initialized kx_A3 :: vx_atS RX4 162 kx_A3 kx_n2
def kx_xw : List Cond := kx_x1 ++ (kx_x2 ++ kx_x3)
def kx_okx : Cond → Bool
  | .declares _ => true
  | .castable _ _ => true
  | w => goodWord w
theorem kx_xw_1 : kx_x1.all (fun w => kx_okx w && w.onTables) = true := by decide +kernel
theorem kx_xw_2 : kx_x2.all (fun w => kx_okx w && w.onTables) = true := by decide +kernel
theorem kx_xw_3 : kx_x3.all (fun w => kx_okx w && w.onTables) = true := by decide +kernel
theorem kx_xw_ok {w : Cond} (h : w ∈ kx_xw) : kx_okx w = true ∧ w.onTables = true := by
  have key : ∀ {l : List Cond}, l.all (fun w => kx_okx w && w.onTables) = true → w ∈ l → kx_okx w = true ∧ w.onTables = true := fun h1 h2 => by
    have h3 := List.all_eq_true.mp h1 w h2
    simp only [Bool.and_eq_true] at h3
    exact h3
  rcases List.mem_append.mp h with h | h
  · exact key kx_xw_1 h
  · rcases List.mem_append.mp h with h | h
    · exact key kx_xw_2 h
    · exact key kx_xw_3 h
theorem kx_in1 : ∀ w ∈ kx_x1, w ∈ kx_xw := fun _ h => List.mem_append_left _ h
theorem kx_in2 : ∀ w ∈ kx_x2, w ∈ kx_xw := fun _ h => List.mem_append_right _ (List.mem_append_left _ h)
theorem kx_in3 : ∀ w ∈ kx_x3, w ∈ kx_xw := fun _ h => List.mem_append_right _ (List.mem_append_right _ h)
def kx_sL : List (Nat × String) := [(61, "a direction is of -16 .. 16"), (66, "a direction is not 0, 0"), (79, "a shadow is of -1000 .. 1000"), (81, "a shadow ends before it begins"), (107, "there is no such part of a shape"), (130, "a place is of -1000 .. 1000"), (150, "there is no such kind of rule"), (152, "a class is of 0 .. 100"), (160, "there is no room for a rule"), (175, "a turn is of 0 .. 3"), (189, "a length is of 0 .. 1000000000"), (193, "a unit is of 1 .. 1000000"), (195, "the least length is not below 0"), (197, "there is no such slice"), (199, "there is no such view"), (201, "there is no shape of what was told"), (206, "no stem is kept")]
def kx_TX (G : kx_G) (U : State) : Prop := kx_T G U ∧ (∀ w ∈ kx_xw, va_Nw w U) ∧ ∀ q ∈ kx_sL, ∃ sa, vk_R RX4 q.1 q.2 sa U
theorem kx_TX.warm {G : kx_G} {s U : State} (hW : s.WarmedH U.vm) (h : kx_TX G s) : kx_TX G U := by
  refine ⟨h.1.warm hW, fun w hw => ?_, fun q hq => ?_⟩
  · have h1 := (kx_xw_ok hw).1
    have h2 := h.2.1 w hw
    clear hw
    cases w <;> first | exact va_Nw.warmD hW h2 | exact va_Nw.warmC hW h2 | exact word_at hW (good_of_word h1) h2
  · obtain ⟨sa, h1⟩ := h.2.2 q hq
    exact ⟨sa, h1.warm hW⟩
theorem kx_TX.same {G : kx_G} {u U : State} (hv : u.vm = U.vm) (h : kx_TX G u) : kx_TX G U := by
  refine ⟨h.1.same hv, fun w hw => va_Nw.same (kx_xw_ok hw).2 hv (h.2.1 w hw), fun q hq => ?_⟩
  obtain ⟨sa, h1⟩ := h.2.2 q hq
  exact ⟨sa, h1.same hv.symm⟩
theorem kx_TX.use {G : kx_G} {s : State} {args : Array Value} (h : kx_TX G s) {w : Cond} (hw : w ∈ kx_xw) : w.before args s = true := va_Nw.use (kx_xw_ok hw).2 (h.2.1 w hw)
def kx_ZZ (A : Nat → Prop) (U : State) (H : Heap) : Prop := vx_Zq Bundle.tN "UNASSIGNED_STACK" Bundle.steD A U H ∧ vx_Zq Bundle.tN "SUPPRESSED_SENTINEL" Bundle.listD A U H
theorem kx_ZZ.moved {A : Nat → Prop} {u U : State} {H : Heap} (hvm : u.vm.Alike U.vm) (h : kx_ZZ A u H) : kx_ZZ A U H := ⟨h.1.moved hvm, h.2.moved hvm⟩
theorem kx_ZZ.kept {A : Nat → Prop} {U : State} {H H1 : Heap} (h : kx_ZZ A U H) (hq : ∀ a : Nat, a < H.size → ¬ A a → H1[a]? = H[a]?) : kx_ZZ A U H1 := ⟨h.1.kept hq, h.2.kept hq⟩
theorem kx_ZZ.narrow {A B : Nat → Prop} {U : State} {H : Heap} (h : kx_ZZ A U H) (hAB : ∀ q, B q → A q) : kx_ZZ B U H := ⟨h.1.narrow hAB, h.2.narrow hAB⟩
abbrev kx_F : Nat → Prop := fun _ => False
/-- a start of a method that throws or reads -/
def kx_PXR (G : kx_G) (av : List Value) (ws : va_W) : Array Value → State → Prop := va_Pc av (fun U => va_P G.1 vwCl ws U.heap ∧ kx_TX G U ∧ kx_ZZ kx_F U U.heap)
theorem kx_PXRb {G : kx_G} {av : List Value} {ws : va_W} : FrameBlind (kx_PXR G av ws) := fun a U g mk q => ⟨q.1, q.2.1, kx_TX.same (u := U) (U := U.calling g mk a) rfl q.2.2.1, kx_ZZ.moved (u := U) (U := U.calling g mk a) (Vm.Alike.refl U.vm) q.2.2.2⟩
theorem kx_pxr {G : kx_G} {s : State} {H : Heap} {locs : List Loc} {ws wc : va_W} {av : List Value} {A : Nat → Prop} (hT : kx_TX G s) (hZ : kx_ZZ A s s.heap) (hS : va_S A s.heap H locs) (hP : va_P G.1 vwCl ws H) (is : List Nat) (h : is.filterMap (fun i => ws[i]?) = wc) : ∀ U : State, U.heap = H → s.WarmedH U.vm → kx_PXR G av wc av.toArray U := fun U hU hW => ⟨rfl, by rw [hU]; exact hP.sub is h, hT.warm hW, by rw [hU]; exact ((hZ.kept hS.2.1).narrow (fun _ q => q.elim)).moved hW.alike⟩
/-- a start of a method that throws or writes -/
def kx_PXM (G : kx_G) (av : List Value) (sz : Nat) (ws : va_W) : Array Value → State → Prop := va_Pc av (fun U => U.heap.size = sz ∧ va_P G.1 vwCl ws U.heap ∧ kx_TX G U ∧ va_D (fun _ => True) ws ∧ kx_ZZ (va_A ws sz) U U.heap)
theorem kx_PXMb {G : kx_G} {av : List Value} {sz : Nat} {ws : va_W} : FrameBlind (kx_PXM G av sz ws) := fun a U g mk q => ⟨q.1, q.2.1, q.2.2.1, kx_TX.same (u := U) (U := U.calling g mk a) rfl q.2.2.2.1, q.2.2.2.2.1, kx_ZZ.moved (u := U) (U := U.calling g mk a) (Vm.Alike.refl U.vm) q.2.2.2.2.2⟩
theorem kx_pxm {G : kx_G} {s : State} {H : Heap} {locs : List Loc} {ws wc : va_W} {av : List Value} {A : Nat → Prop} (hT : kx_TX G s) (hZ : kx_ZZ A s s.heap) (hS : va_S A s.heap H locs) (hA : ∀ q, s.heap.size ≤ q → A q) (hP : va_P G.1 vwCl ws H) (hD : va_D A ws) (is : List Nat) (h : is.filterMap (fun i => ws[i]?) = wc) (hn : va_nd is = true) (h2 : is.map (fun i => ws[i]?) = wc.map some) : ∀ U : State, U.heap = H → s.WarmedH U.vm → kx_PXM G av H.size wc av.toArray U := fun U hU hW => ⟨rfl, by rw [hU], by rw [hU]; exact hP.sub is h, hT.warm hW, (hD.sub is hn h2).weaken (fun _ _ _ _ => trivial), by rw [hU]; exact ((hZ.kept hS.2.1).narrow (va_free hD hS hA is h2)).moved hW.alike⟩
theorem kx_Sw {A : Nat → Prop} {H0 H : Heap} {locs : List Loc} (h : va_S kx_F H0 H locs) : va_S A H0 H locs := ⟨h.1, fun q h1 _ => h.2.1 q h1 (fun z => z), fun q hq => (h.2.2 q hq).elim⟩
section
variable {p : Program} {l : Launch} {e : Env} {R : Room} {s : State} {m : MethodId} {args : Array Value} {below : List Frame} {meth : Method} {c : Code} {H : Heap} {locs : List Loc} {cells slots : Nat} {Q : State → Prop}
variable {cc : ByteArray} {pc : Nat} {ls : Array Slot} {rest st0 : List Value} {G : kx_G} {ws wc : va_W} {A0 : Nat → Prop} {H0 : Heap} {a : Array Value} {mc ms : Nat} {free : Addr → Prop} {Qc : Array Value → State → Outcome → State → Prop} {PX : String → Prop}
theorem kx_keep {H1 : Heap} (hP : va_P G.1 vwCl ws H) (h : ∀ q : Nat, q < H.size → ¬ kx_F q → H1[q]? = H[q]?) : va_P G.1 vwCl ws H1 := fun k q hq => (hP k q hq).kept (h q.1 (hP k q hq).lt (fun z => z))
theorem kx_thr {cls text : String} {names : List String} {ik is ic sa : Nat} (hx : p.tables.exec = Jvm.exec) (hb : c.code = cc) (hst : l.stackTraces = false) (hown : s.vm.findClass RX4 = some m.cls) (hcls : Bundle.fit cls = true) (hnames : ∀ n ∈ names, Bundle.fit n = true) (hTX : kx_TX G s)
    (hin : ∀ w ∈ Cond.classLink RX4 ik cls :: Cond.initialized cls :: vx_atS RX4 ic cls names, w ∈ kx_xw) (hstr : vk_R RX4 is text sa s) (hZ : kx_ZZ kx_F s s.heap) (hS : va_S kx_F s.heap H locs) (hsize : ls.size = c.maxLocals)
    (d0 : decode cc pc = .ok (.new ik, 3)) (d3 : decode cc (pc + 3) = .ok (.dup, 1)) (d4 : decode cc (pc + 4) = .ok (.ldc is, 2)) (d6 : decode cc (pc + 6) = .ok (.invokespecial ic, 3)) (d9 : decode cc (pc + 9) = .ok (.athrow, 1))
    (htab : ∀ x ∈ c.exceptionTable.toList, False) (hRf : names.length + 3 < R.frames) (hRl : (rest.map fun v => v.category).sum + (13 * (names.length + 1) + 43) ≤ R.locals) (hRc : cells + 1 ≤ R.cells) (hRs : slots + 6 ≤ R.slots) (hlocks : meth.locks = false) (hpx : PX cls) (hc : cells + 1 ≤ mc) (hs : slots + 6 ≤ ms) :
    W p l e R s m args below meth c H locs cells slots (vx_MQ below Qc (vx_X (fun _ : Unit => True) (fun E _ _ => PX E) kx_F) args s mc ms free) (F0 m pc ls rest) :=
  vx_throwS (A := kx_F) hx hb hst hown hcls hnames (hTX.use (hin _ List.mem_cons_self)) (hTX.use (hin _ (List.mem_cons_of_mem _ List.mem_cons_self))) hstr (fun w h => hTX.use (hin w (List.mem_cons_of_mem _ (List.mem_cons_of_mem _ h)))) (fun w h => by
    show (w.onTables || goodWord w) = true
    rw [(kx_xw_ok (hin w h)).2]; rfl) hZ.1 hZ.2 hS hsize d0 d3 d4 d6 d9 (fun x h => (htab x h).elim) hRf hRl hRc hRs hlocks
    (fun t _ h1 h2 => ⟨(), trivial, hpx, Nat.le_trans hS.1 h1, fun q h3 h4 => by rw [h2 q (Nat.lt_of_lt_of_le h3 hS.1)]; exact hS.2.1 q h3 h4⟩) (fun z h => (hS.2.2 z h).elim) hc hs
theorem kx_po {E : String} {ce : Cell} {q : Addr} (htab : ∀ x ∈ c.exceptionTable.toList, False) (hlocks : meth.locks = false) (hS : va_S kx_F s.heap H locs) (hcell : H[q]? = some ce) (hv : ce.vm = .none) (hcl : s.vm.findClass E = some ce.cls) (hpx : PX E) (hc : cells ≤ mc) (hs : slots ≤ ms) :
    vx_W p l e R s m args below meth c H locs cells slots (vx_MQ below Qc (vx_X (fun _ : Unit => True) (fun E _ _ => PX E) kx_F) args s mc ms free) (F0 m pc ls rest) q :=
  vx_out (fun x h => (htab x h).elim) hlocks hcell hv hcl (fun t ht _ => ⟨(), trivial, hpx, hS.F ht⟩) (fun z h => (hS.2.2 z h).elim) hc hs
/-- a call of a method that only tests and throws -/
theorem kx_nd {post : Prop} (hr : vx_Run p l e R s m args below meth c H locs cells slots mc ms (F0 m pc ls st0) rest (va_Qv (fun _ : Unit => post) (fun _ _ => True) kx_F a) (vx_X (fun _ : Unit => True) (fun E _ _ => PX E) kx_F) kx_F) (hP : va_P G.1 vwCl ws H) (hS : va_S kx_F H0 H locs)
    (kx : ∀ (E : String) (ce : Cell) (q9 : Addr) (H1 : Heap) (locs1 : List Loc), PX E → va_S kx_F H0 H1 locs1 → H1[q9]? = some ce → ce.vm = .none → s.vm.findClass E = some ce.cls → vx_W p l e R s m args below meth c H1 locs1 (cells + mc) (slots + ms) Q (F0 m pc ls rest) q9)
    (kk : ∀ (H1 : Heap) (locs1 : List Loc), post → va_P G.1 vwCl ws H1 → va_S kx_F H0 H1 locs1 → W p l e R s m args below meth c H1 locs1 (cells + mc) (slots + ms) Q (F0 m (pc + 3) ls rest)) : W p l e R s m args below meth c H locs cells slots Q (F0 m pc ls st0) :=
  vx_callv hr hS (fun _ _ h => h) (fun _ h => h) (fun _ _ h => h) (fun E ce q9 u t H1 locs1 _ _ _ hb _ _ hS1 h1 h2 h3 => kx E ce q9 H1 locs1 hb hS1 h1 h2 h3) (fun u t H1 locs1 _ _ hp _ _ hk hS1 => kk H1 locs1 hp (kx_keep hP hk) hS1)
end
def ke_2 (a b : String) (c : Int32) : String := if c = 1 then a else b
def ke_3 (a b d : String) (c : Int32) : String := if c = 1 then a else if c = 2 then b else d
