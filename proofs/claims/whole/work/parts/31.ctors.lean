set_option maxHeartbeats 4000000 in
set_option maxRecDepth 100000 in
/-- a new Kept -/
theorem c_X0_init (l : Launch) (G : kx_G) (sz : Nat) (h0 : Nat) (n : Nat)  (hn1 : 1 ≤ n) (hn : n ≤ 16) : Met l yX0_init wsX0_init ({ frames := 1, cells := 2, slots := 32, locals := 12 } : Room) (kx_PM G [.ref h0, .int (nI n)] sz [(h0, .inr (1, [.null, .null, .int 0]))]) (va_Qv (fun (_ : Nat × Nat) => True) (kx_B G (va_A [(h0, .inr (1, [.null, .null, .int 0]))] sz) (fun u : Nat × Nat => [(h0, .inr (1, [.ref u.1, .ref u.2, .int 0])), (u.1, kx_aD G n (fun _ => 0)), (u.2, kx_aD G n (fun _ => 0))])) (va_A [(h0, .inr (1, [.null, .null, .int 0]))] sz)) 2 32 (va_A [(h0, .inr (1, [.null, .null, .int 0]))] sz) := by
  refine Met.ofW (cc := cX0_init) (maxL := 2) (ret := none) (by decide) rfl ?_
  intro p e s m args below meth c s₁ B hml hv
  obtain ⟨rfl, hsz, hP, hT, hD0⟩ := hv
  have hx := B.exec
  have hb := B.bytes
  have hr := B.returns
  have hts := atoms_spec (ws := wsX0_init) B.pre
  have hown : s.vm.findClass RX0 = some m.cls := findClass_of_methodNamed B.named
  have hlocks := B.notSynchronized
  have hin : meth.name = "<init>" := (name_of_methodNamed B.named B.method).1
  have ho_l := hts (.methodLink RX0 3 objectInit) (by decide +kernel)
  have ho_i := hts (.instanceMethod objectInit) (by decide +kernel)
  have ho_c := hts (.code objectInit ⟨#[0xb1]⟩ 1 none) (by decide +kernel)
  have ha_D := hts (.arrayClass .double) (by decide +kernel)
  have hf_9 := hts (.fieldLink RX0 9 "StemShapes$Kept" "x" "[D") (by decide +kernel)
  have hin_X0 : ∀ w ∈ wsX00, w ∈ wsX0_init := by decide +kernel
  have hf_15 := hts (.fieldLink RX0 15 "StemShapes$Kept" "y" "[D") (by decide +kernel)
  subst hsz
  have hD := hD0.self (sz := s.heap.size)
  generalize hAe : va_A [(h0, .inr (1, [.null, .null, .int 0]))] s.heap.size = A at hD ⊢
  have hA : ∀ q : Nat, s.heap.size ≤ q → A q := fun q h => by rw [← hAe]; exact Or.inr h
  have hS : va_S A s.heap s.heap [] := va_S.rf
  have hl := lv_entry ([.ref h0, .int (nI n)]) (n := 2) (Nat.le_of_ble_eq_true rfl)
  rw [lg_entry_eq]
  generalize (lg_sl ([.ref h0, .int (nI n)]) ++ List.replicate (2 - (lg_sl ([.ref h0, .int (nI n)])).length) Slot.unset).toArray = ls at hl ⊢
  have hl : lv_has ls 2 [(0, .ref h0), (1, .int (nI n))] := hl
  refine lv_aload_n hx hb dX0_init_0 rfl (lv_at hl 0 rfl) ?_
  refine W.objInit hx hb hown ho_l ho_i ho_c rfl (by rw [hml]; exact hl.1) rfl dX0_init_1 (Nat.le_of_ble_eq_true rfl) (Nat.le_of_ble_eq_true rfl) ?_
  refine W.eq (g2 := F0 m 4 ls []) rfl ?_
  refine lv_aload_n hx hb dX0_init_4 rfl (lv_at hl 0 rfl) ?_
  refine lv_iload_n hx hb dX0_init_5 rfl (lv_at hl 1 rfl) ?_
  refine kx_newD hx hb ha_D hT hP hD hS hA n (by omega) (show 0 + 1 ≤ 2 from by omega) (show 0 + n ≤ 32 from by omega) dX0_init_6 (fun q_1 H hP hD hS => ?_)
  have hP : va_P G.1 vwCl [(h0, .inr (1, [.null, .null, .int 0])), (q_1, kx_aD G n (fun _ => 0))] H := hP
  have hD : va_D A [(h0, .inr (1, [.null, .null, .int 0])), (q_1, kx_aD G n (fun _ => 0))] := hD
  refine va_putF (D := G.1) (ci := 1) (v := .ref q_1) (ty := .array .double) (C := RX0) (T := TX0) (N := 3) hx hb hts hin_X0 tyX0 tyX0_ok nmX0 hown hT.1 hP hD hS 0 rfl rfl 0 (by decide) hf_9 (fun _ h9 => h9) rfl hin rfl (by decide +kernel) rfl rfl (Nat.le_of_ble_eq_true rfl) dX0_init_8 (fun H locs hP hD hS => ?_)
  have hP : va_P G.1 vwCl [(h0, .inr (1, [.ref q_1, .null, .int 0])), (q_1, kx_aD G n (fun _ => 0))] H := hP
  have hD : va_D A [(h0, .inr (1, [.ref q_1, .null, .int 0])), (q_1, kx_aD G n (fun _ => 0))] := hD
  refine lv_aload_n hx hb dX0_init_11 rfl (lv_at hl 0 rfl) ?_
  refine lv_iload_n hx hb dX0_init_12 rfl (lv_at hl 1 rfl) ?_
  refine kx_newD hx hb ha_D hT hP hD hS hA n (by omega) (show 1 + 1 ≤ 2 from by omega) (show (0 + n) + n ≤ 32 from by omega) dX0_init_13 (fun q_2 H hP hD hS => ?_)
  have hP : va_P G.1 vwCl [(h0, .inr (1, [.ref q_1, .null, .int 0])), (q_1, kx_aD G n (fun _ => 0)), (q_2, kx_aD G n (fun _ => 0))] H := hP
  have hD : va_D A [(h0, .inr (1, [.ref q_1, .null, .int 0])), (q_1, kx_aD G n (fun _ => 0)), (q_2, kx_aD G n (fun _ => 0))] := hD
  refine va_putF (D := G.1) (ci := 1) (v := .ref q_2) (ty := .array .double) (C := RX0) (T := TX0) (N := 3) hx hb hts hin_X0 tyX0 tyX0_ok nmX0 hown hT.1 hP hD hS 0 rfl rfl 1 (by decide) hf_15 (fun _ h9 => h9) rfl hin rfl (by decide +kernel) rfl rfl (Nat.le_of_ble_eq_true rfl) dX0_init_15 (fun H locs hP hD hS => ?_)
  have hP : va_P G.1 vwCl [(h0, .inr (1, [.ref q_1, .ref q_2, .int 0])), (q_1, kx_aD G n (fun _ => 0)), (q_2, kx_aD G n (fun _ => 0))] H := hP
  have hD : va_D A [(h0, .inr (1, [.ref q_1, .ref q_2, .int 0])), (q_1, kx_aD G n (fun _ => 0)), (q_2, kx_aD G n (fun _ => 0))] := hD
  refine W.widen (k := 2) (n := 32) (by omega) (by omega) ?_
  exact W.vret hx hb hr (fun t ht hW => ⟨⟨(q_1, q_2), rfl, trivial, And.intro (by rw [ht]; exact hP) hD⟩, hS.F ht⟩) hS.2.2 dX0_init_18
set_option maxHeartbeats 4000000 in
set_option maxRecDepth 100000 in
/-- a new RuleList -/
theorem c_X1_init (l : Launch) (G : kx_G) (sz : Nat) (h0 : Nat)   : Met l yX1_init wsX1_init ({ frames := 1, cells := 3, slots := 18, locals := 12 } : Room) (kx_PM G [.ref h0] sz [(h0, .inr (2, [.null, .null, .null, .int 0]))]) (va_Qv (fun (_ : Nat × Nat × Nat) => True) (kx_B G (va_A [(h0, .inr (2, [.null, .null, .null, .int 0]))] sz) (fun u : Nat × Nat × Nat => [(h0, .inr (2, [.ref u.1, .ref u.2.1, .ref u.2.2, .int 0])), (u.1, kx_aI G 6 (fun _ => 0)), (u.2.1, kx_aD G 6 (fun _ => 0)), (u.2.2, kx_aI G 6 (fun _ => 0))])) (va_A [(h0, .inr (2, [.null, .null, .null, .int 0]))] sz)) 3 18 (va_A [(h0, .inr (2, [.null, .null, .null, .int 0]))] sz) := by
  refine Met.ofW (cc := cX1_init) (maxL := 1) (ret := none) (by decide) rfl ?_
  intro p e s m args below meth c s₁ B hml hv
  obtain ⟨rfl, hsz, hP, hT, hD0⟩ := hv
  have hx := B.exec
  have hb := B.bytes
  have hr := B.returns
  have hts := atoms_spec (ws := wsX1_init) B.pre
  have hown : s.vm.findClass RX1 = some m.cls := findClass_of_methodNamed B.named
  have hlocks := B.notSynchronized
  have hin : meth.name = "<init>" := (name_of_methodNamed B.named B.method).1
  have ho_l := hts (.methodLink RX1 3 objectInit) (by decide +kernel)
  have ho_i := hts (.instanceMethod objectInit) (by decide +kernel)
  have ho_c := hts (.code objectInit ⟨#[0xb1]⟩ 1 none) (by decide +kernel)
  have ha_I := hts (.arrayClass .int) (by decide +kernel)
  have hf_9 := hts (.fieldLink RX1 9 "StemShapes$RuleList" "kinds" "[I") (by decide +kernel)
  have hin_X1 : ∀ w ∈ wsX10, w ∈ wsX1_init := by decide +kernel
  have ha_D := hts (.arrayClass .double) (by decide +kernel)
  have hf_15 := hts (.fieldLink RX1 15 "StemShapes$RuleList" "limits" "[D") (by decide +kernel)
  have hf_19 := hts (.fieldLink RX1 19 "StemShapes$RuleList" "classes" "[I") (by decide +kernel)
  subst hsz
  have hD := hD0.self (sz := s.heap.size)
  generalize hAe : va_A [(h0, .inr (2, [.null, .null, .null, .int 0]))] s.heap.size = A at hD ⊢
  have hA : ∀ q : Nat, s.heap.size ≤ q → A q := fun q h => by rw [← hAe]; exact Or.inr h
  have hS : va_S A s.heap s.heap [] := va_S.rf
  have hl := lv_entry ([.ref h0]) (n := 1) (Nat.le_of_ble_eq_true rfl)
  rw [lg_entry_eq]
  generalize (lg_sl ([.ref h0]) ++ List.replicate (1 - (lg_sl ([.ref h0])).length) Slot.unset).toArray = ls at hl ⊢
  have hl : lv_has ls 1 [(0, .ref h0)] := hl
  refine lv_aload_n hx hb dX1_init_0 rfl (lv_at hl 0 rfl) ?_
  refine W.objInit hx hb hown ho_l ho_i ho_c rfl (by rw [hml]; exact hl.1) rfl dX1_init_1 (Nat.le_of_ble_eq_true rfl) (Nat.le_of_ble_eq_true rfl) ?_
  refine W.eq (g2 := F0 m 4 ls []) rfl ?_
  refine lv_aload_n hx hb dX1_init_4 rfl (lv_at hl 0 rfl) ?_
  refine lv_bipush (v := 6) hx hb dX1_init_5 (by decide) ?_
  refine kx_newI hx hb ha_I hT hP hD hS hA 6 (by omega) (show 0 + 1 ≤ 3 from by omega) (show 0 + 6 ≤ 18 from by omega) dX1_init_7 (fun q_1 H hP hD hS => ?_)
  have hP : va_P G.1 vwCl [(h0, .inr (2, [.null, .null, .null, .int 0])), (q_1, kx_aI G 6 (fun _ => 0))] H := hP
  have hD : va_D A [(h0, .inr (2, [.null, .null, .null, .int 0])), (q_1, kx_aI G 6 (fun _ => 0))] := hD
  refine va_putF (D := G.1) (ci := 2) (v := .ref q_1) (ty := .array .int) (C := RX1) (T := TX1) (N := 4) hx hb hts hin_X1 tyX1 tyX1_ok nmX1 hown hT.1 hP hD hS 0 rfl rfl 0 (by decide) hf_9 (fun _ h9 => h9) rfl hin rfl (by decide +kernel) rfl rfl (Nat.le_of_ble_eq_true rfl) dX1_init_9 (fun H locs hP hD hS => ?_)
  have hP : va_P G.1 vwCl [(h0, .inr (2, [.ref q_1, .null, .null, .int 0])), (q_1, kx_aI G 6 (fun _ => 0))] H := hP
  have hD : va_D A [(h0, .inr (2, [.ref q_1, .null, .null, .int 0])), (q_1, kx_aI G 6 (fun _ => 0))] := hD
  refine lv_aload_n hx hb dX1_init_12 rfl (lv_at hl 0 rfl) ?_
  refine lv_bipush (v := 6) hx hb dX1_init_13 (by decide) ?_
  refine kx_newD hx hb ha_D hT hP hD hS hA 6 (by omega) (show 1 + 1 ≤ 3 from by omega) (show (0 + 6) + 6 ≤ 18 from by omega) dX1_init_15 (fun q_2 H hP hD hS => ?_)
  have hP : va_P G.1 vwCl [(h0, .inr (2, [.ref q_1, .null, .null, .int 0])), (q_1, kx_aI G 6 (fun _ => 0)), (q_2, kx_aD G 6 (fun _ => 0))] H := hP
  have hD : va_D A [(h0, .inr (2, [.ref q_1, .null, .null, .int 0])), (q_1, kx_aI G 6 (fun _ => 0)), (q_2, kx_aD G 6 (fun _ => 0))] := hD
  refine va_putF (D := G.1) (ci := 2) (v := .ref q_2) (ty := .array .double) (C := RX1) (T := TX1) (N := 4) hx hb hts hin_X1 tyX1 tyX1_ok nmX1 hown hT.1 hP hD hS 0 rfl rfl 1 (by decide) hf_15 (fun _ h9 => h9) rfl hin rfl (by decide +kernel) rfl rfl (Nat.le_of_ble_eq_true rfl) dX1_init_17 (fun H locs hP hD hS => ?_)
  have hP : va_P G.1 vwCl [(h0, .inr (2, [.ref q_1, .ref q_2, .null, .int 0])), (q_1, kx_aI G 6 (fun _ => 0)), (q_2, kx_aD G 6 (fun _ => 0))] H := hP
  have hD : va_D A [(h0, .inr (2, [.ref q_1, .ref q_2, .null, .int 0])), (q_1, kx_aI G 6 (fun _ => 0)), (q_2, kx_aD G 6 (fun _ => 0))] := hD
  refine lv_aload_n hx hb dX1_init_20 rfl (lv_at hl 0 rfl) ?_
  refine lv_bipush (v := 6) hx hb dX1_init_21 (by decide) ?_
  refine kx_newI hx hb ha_I hT hP hD hS hA 6 (by omega) (show 2 + 1 ≤ 3 from by omega) (show ((0 + 6) + 6) + 6 ≤ 18 from by omega) dX1_init_23 (fun q_3 H hP hD hS => ?_)
  have hP : va_P G.1 vwCl [(h0, .inr (2, [.ref q_1, .ref q_2, .null, .int 0])), (q_1, kx_aI G 6 (fun _ => 0)), (q_2, kx_aD G 6 (fun _ => 0)), (q_3, kx_aI G 6 (fun _ => 0))] H := hP
  have hD : va_D A [(h0, .inr (2, [.ref q_1, .ref q_2, .null, .int 0])), (q_1, kx_aI G 6 (fun _ => 0)), (q_2, kx_aD G 6 (fun _ => 0)), (q_3, kx_aI G 6 (fun _ => 0))] := hD
  refine va_putF (D := G.1) (ci := 2) (v := .ref q_3) (ty := .array .int) (C := RX1) (T := TX1) (N := 4) hx hb hts hin_X1 tyX1 tyX1_ok nmX1 hown hT.1 hP hD hS 0 rfl rfl 2 (by decide) hf_19 (fun _ h9 => h9) rfl hin rfl (by decide +kernel) rfl rfl (Nat.le_of_ble_eq_true rfl) dX1_init_25 (fun H locs hP hD hS => ?_)
  have hP : va_P G.1 vwCl [(h0, .inr (2, [.ref q_1, .ref q_2, .ref q_3, .int 0])), (q_1, kx_aI G 6 (fun _ => 0)), (q_2, kx_aD G 6 (fun _ => 0)), (q_3, kx_aI G 6 (fun _ => 0))] H := hP
  have hD : va_D A [(h0, .inr (2, [.ref q_1, .ref q_2, .ref q_3, .int 0])), (q_1, kx_aI G 6 (fun _ => 0)), (q_2, kx_aD G 6 (fun _ => 0)), (q_3, kx_aI G 6 (fun _ => 0))] := hD
  refine W.widen (k := 3) (n := 18) (by omega) (by omega) ?_
  exact W.vret hx hb hr (fun t ht hW => ⟨⟨(q_1, q_2, q_3), rfl, trivial, And.intro (by rw [ht]; exact hP) hD⟩, hS.F ht⟩) hS.2.2 dX1_init_28
set_option maxHeartbeats 4000000 in
set_option maxRecDepth 100000 in
/-- a new Stem -/
theorem c_X3_init (l : Launch) (G : kx_G) (sz : Nat) (h0 : Nat) (n : Nat)  (hn1 : 1 ≤ n) (hn : n ≤ 16) : Met l yX3_init wsX3_init ({ frames := 1, cells := 5, slots := 80, locals := 12 } : Room) (kx_PM G [.ref h0, .int (nI n)] sz [(h0, .inr (4, [.int 0, .null, .null, .null, .null, .null, .int 0]))]) (va_Qv (fun (_ : Nat × Nat × Nat × Nat × Nat) => True) (kx_B G (va_A [(h0, .inr (4, [.int 0, .null, .null, .null, .null, .null, .int 0]))] sz) (fun u : Nat × Nat × Nat × Nat × Nat => [(h0, .inr (4, [.int (nI n), .ref u.1, .ref u.2.1, .ref u.2.2.1, .ref u.2.2.2.1, .ref u.2.2.2.2, .int 0])), (u.1, kx_aD G n (fun _ => 0)), (u.2.1, kx_aD G n (fun _ => 0)), (u.2.2.1, kx_aD G n (fun _ => 0)), (u.2.2.2.1, kx_aD G n (fun _ => 0)), (u.2.2.2.2, kx_aZ G n (fun _ => 0))])) (va_A [(h0, .inr (4, [.int 0, .null, .null, .null, .null, .null, .int 0]))] sz)) 5 80 (va_A [(h0, .inr (4, [.int 0, .null, .null, .null, .null, .null, .int 0]))] sz) := by
  refine Met.ofW (cc := cX3_init) (maxL := 2) (ret := none) (by decide) rfl ?_
  intro p e s m args below meth c s₁ B hml hv
  obtain ⟨rfl, hsz, hP, hT, hD0⟩ := hv
  have hx := B.exec
  have hb := B.bytes
  have hr := B.returns
  have hts := atoms_spec (ws := wsX3_init) B.pre
  have hown : s.vm.findClass RX3 = some m.cls := findClass_of_methodNamed B.named
  have hlocks := B.notSynchronized
  have hin : meth.name = "<init>" := (name_of_methodNamed B.named B.method).1
  have ho_l := hts (.methodLink RX3 3 objectInit) (by decide +kernel)
  have ho_i := hts (.instanceMethod objectInit) (by decide +kernel)
  have ho_c := hts (.code objectInit ⟨#[0xb1]⟩ 1 none) (by decide +kernel)
  have hf_9 := hts (.fieldLink RX3 9 "StemShapes$Stem" "slices" "I") (by decide +kernel)
  have hin_X3 : ∀ w ∈ wsX30, w ∈ wsX3_init := by decide +kernel
  have ha_D := hts (.arrayClass .double) (by decide +kernel)
  have hf_15 := hts (.fieldLink RX3 15 "StemShapes$Stem" "x" "[D") (by decide +kernel)
  have hf_19 := hts (.fieldLink RX3 19 "StemShapes$Stem" "y" "[D") (by decide +kernel)
  have hf_22 := hts (.fieldLink RX3 22 "StemShapes$Stem" "radius" "[D") (by decide +kernel)
  have hf_25 := hts (.fieldLink RX3 25 "StemShapes$Stem" "residual" "[D") (by decide +kernel)
  have ha_Z := hts (.arrayClass .boolean) (by decide +kernel)
  have hf_28 := hts (.fieldLink RX3 28 "StemShapes$Stem" "isFitted" "[Z") (by decide +kernel)
  subst hsz
  have hD := hD0.self (sz := s.heap.size)
  generalize hAe : va_A [(h0, .inr (4, [.int 0, .null, .null, .null, .null, .null, .int 0]))] s.heap.size = A at hD ⊢
  have hA : ∀ q : Nat, s.heap.size ≤ q → A q := fun q h => by rw [← hAe]; exact Or.inr h
  have hS : va_S A s.heap s.heap [] := va_S.rf
  have hl := lv_entry ([.ref h0, .int (nI n)]) (n := 2) (Nat.le_of_ble_eq_true rfl)
  rw [lg_entry_eq]
  generalize (lg_sl ([.ref h0, .int (nI n)]) ++ List.replicate (2 - (lg_sl ([.ref h0, .int (nI n)])).length) Slot.unset).toArray = ls at hl ⊢
  have hl : lv_has ls 2 [(0, .ref h0), (1, .int (nI n))] := hl
  refine lv_aload_n hx hb dX3_init_0 rfl (lv_at hl 0 rfl) ?_
  refine W.objInit hx hb hown ho_l ho_i ho_c rfl (by rw [hml]; exact hl.1) rfl dX3_init_1 (Nat.le_of_ble_eq_true rfl) (Nat.le_of_ble_eq_true rfl) ?_
  refine W.eq (g2 := F0 m 4 ls []) rfl ?_
  refine lv_aload_n hx hb dX3_init_4 rfl (lv_at hl 0 rfl) ?_
  refine lv_iload_n hx hb dX3_init_5 rfl (lv_at hl 1 rfl) ?_
  refine va_putF (D := G.1) (ci := 4) (v := .int (nI n)) (ty := .int) (C := RX3) (T := TX3) (N := 7) hx hb hts hin_X3 tyX3 tyX3_ok nmX3 hown hT.1 hP hD hS 0 rfl rfl 0 (by decide) hf_9 (fun _ h9 => h9) rfl hin rfl (by decide +kernel) rfl rfl (Nat.le_of_ble_eq_true rfl) dX3_init_6 (fun H locs hP hD hS => ?_)
  have hP : va_P G.1 vwCl [(h0, .inr (4, [.int (nI n), .null, .null, .null, .null, .null, .int 0]))] H := hP
  have hD : va_D A [(h0, .inr (4, [.int (nI n), .null, .null, .null, .null, .null, .int 0]))] := hD
  refine lv_aload_n hx hb dX3_init_9 rfl (lv_at hl 0 rfl) ?_
  refine lv_iload_n hx hb dX3_init_10 rfl (lv_at hl 1 rfl) ?_
  refine kx_newD hx hb ha_D hT hP hD hS hA n (by omega) (show 0 + 1 ≤ 5 from by omega) (show 0 + n ≤ 80 from by omega) dX3_init_11 (fun q_1 H hP hD hS => ?_)
  have hP : va_P G.1 vwCl [(h0, .inr (4, [.int (nI n), .null, .null, .null, .null, .null, .int 0])), (q_1, kx_aD G n (fun _ => 0))] H := hP
  have hD : va_D A [(h0, .inr (4, [.int (nI n), .null, .null, .null, .null, .null, .int 0])), (q_1, kx_aD G n (fun _ => 0))] := hD
  refine va_putF (D := G.1) (ci := 4) (v := .ref q_1) (ty := .array .double) (C := RX3) (T := TX3) (N := 7) hx hb hts hin_X3 tyX3 tyX3_ok nmX3 hown hT.1 hP hD hS 0 rfl rfl 1 (by decide) hf_15 (fun _ h9 => h9) rfl hin rfl (by decide +kernel) rfl rfl (Nat.le_of_ble_eq_true rfl) dX3_init_13 (fun H locs hP hD hS => ?_)
  have hP : va_P G.1 vwCl [(h0, .inr (4, [.int (nI n), .ref q_1, .null, .null, .null, .null, .int 0])), (q_1, kx_aD G n (fun _ => 0))] H := hP
  have hD : va_D A [(h0, .inr (4, [.int (nI n), .ref q_1, .null, .null, .null, .null, .int 0])), (q_1, kx_aD G n (fun _ => 0))] := hD
  refine lv_aload_n hx hb dX3_init_16 rfl (lv_at hl 0 rfl) ?_
  refine lv_iload_n hx hb dX3_init_17 rfl (lv_at hl 1 rfl) ?_
  refine kx_newD hx hb ha_D hT hP hD hS hA n (by omega) (show 1 + 1 ≤ 5 from by omega) (show (0 + n) + n ≤ 80 from by omega) dX3_init_18 (fun q_2 H hP hD hS => ?_)
  have hP : va_P G.1 vwCl [(h0, .inr (4, [.int (nI n), .ref q_1, .null, .null, .null, .null, .int 0])), (q_1, kx_aD G n (fun _ => 0)), (q_2, kx_aD G n (fun _ => 0))] H := hP
  have hD : va_D A [(h0, .inr (4, [.int (nI n), .ref q_1, .null, .null, .null, .null, .int 0])), (q_1, kx_aD G n (fun _ => 0)), (q_2, kx_aD G n (fun _ => 0))] := hD
  refine va_putF (D := G.1) (ci := 4) (v := .ref q_2) (ty := .array .double) (C := RX3) (T := TX3) (N := 7) hx hb hts hin_X3 tyX3 tyX3_ok nmX3 hown hT.1 hP hD hS 0 rfl rfl 2 (by decide) hf_19 (fun _ h9 => h9) rfl hin rfl (by decide +kernel) rfl rfl (Nat.le_of_ble_eq_true rfl) dX3_init_20 (fun H locs hP hD hS => ?_)
  have hP : va_P G.1 vwCl [(h0, .inr (4, [.int (nI n), .ref q_1, .ref q_2, .null, .null, .null, .int 0])), (q_1, kx_aD G n (fun _ => 0)), (q_2, kx_aD G n (fun _ => 0))] H := hP
  have hD : va_D A [(h0, .inr (4, [.int (nI n), .ref q_1, .ref q_2, .null, .null, .null, .int 0])), (q_1, kx_aD G n (fun _ => 0)), (q_2, kx_aD G n (fun _ => 0))] := hD
  refine lv_aload_n hx hb dX3_init_23 rfl (lv_at hl 0 rfl) ?_
  refine lv_iload_n hx hb dX3_init_24 rfl (lv_at hl 1 rfl) ?_
  refine kx_newD hx hb ha_D hT hP hD hS hA n (by omega) (show 2 + 1 ≤ 5 from by omega) (show ((0 + n) + n) + n ≤ 80 from by omega) dX3_init_25 (fun q_3 H hP hD hS => ?_)
  have hP : va_P G.1 vwCl [(h0, .inr (4, [.int (nI n), .ref q_1, .ref q_2, .null, .null, .null, .int 0])), (q_1, kx_aD G n (fun _ => 0)), (q_2, kx_aD G n (fun _ => 0)), (q_3, kx_aD G n (fun _ => 0))] H := hP
  have hD : va_D A [(h0, .inr (4, [.int (nI n), .ref q_1, .ref q_2, .null, .null, .null, .int 0])), (q_1, kx_aD G n (fun _ => 0)), (q_2, kx_aD G n (fun _ => 0)), (q_3, kx_aD G n (fun _ => 0))] := hD
  refine va_putF (D := G.1) (ci := 4) (v := .ref q_3) (ty := .array .double) (C := RX3) (T := TX3) (N := 7) hx hb hts hin_X3 tyX3 tyX3_ok nmX3 hown hT.1 hP hD hS 0 rfl rfl 3 (by decide) hf_22 (fun _ h9 => h9) rfl hin rfl (by decide +kernel) rfl rfl (Nat.le_of_ble_eq_true rfl) dX3_init_27 (fun H locs hP hD hS => ?_)
  have hP : va_P G.1 vwCl [(h0, .inr (4, [.int (nI n), .ref q_1, .ref q_2, .ref q_3, .null, .null, .int 0])), (q_1, kx_aD G n (fun _ => 0)), (q_2, kx_aD G n (fun _ => 0)), (q_3, kx_aD G n (fun _ => 0))] H := hP
  have hD : va_D A [(h0, .inr (4, [.int (nI n), .ref q_1, .ref q_2, .ref q_3, .null, .null, .int 0])), (q_1, kx_aD G n (fun _ => 0)), (q_2, kx_aD G n (fun _ => 0)), (q_3, kx_aD G n (fun _ => 0))] := hD
  refine lv_aload_n hx hb dX3_init_30 rfl (lv_at hl 0 rfl) ?_
  refine lv_iload_n hx hb dX3_init_31 rfl (lv_at hl 1 rfl) ?_
  refine kx_newD hx hb ha_D hT hP hD hS hA n (by omega) (show 3 + 1 ≤ 5 from by omega) (show (((0 + n) + n) + n) + n ≤ 80 from by omega) dX3_init_32 (fun q_4 H hP hD hS => ?_)
  have hP : va_P G.1 vwCl [(h0, .inr (4, [.int (nI n), .ref q_1, .ref q_2, .ref q_3, .null, .null, .int 0])), (q_1, kx_aD G n (fun _ => 0)), (q_2, kx_aD G n (fun _ => 0)), (q_3, kx_aD G n (fun _ => 0)), (q_4, kx_aD G n (fun _ => 0))] H := hP
  have hD : va_D A [(h0, .inr (4, [.int (nI n), .ref q_1, .ref q_2, .ref q_3, .null, .null, .int 0])), (q_1, kx_aD G n (fun _ => 0)), (q_2, kx_aD G n (fun _ => 0)), (q_3, kx_aD G n (fun _ => 0)), (q_4, kx_aD G n (fun _ => 0))] := hD
  refine va_putF (D := G.1) (ci := 4) (v := .ref q_4) (ty := .array .double) (C := RX3) (T := TX3) (N := 7) hx hb hts hin_X3 tyX3 tyX3_ok nmX3 hown hT.1 hP hD hS 0 rfl rfl 4 (by decide) hf_25 (fun _ h9 => h9) rfl hin rfl (by decide +kernel) rfl rfl (Nat.le_of_ble_eq_true rfl) dX3_init_34 (fun H locs hP hD hS => ?_)
  have hP : va_P G.1 vwCl [(h0, .inr (4, [.int (nI n), .ref q_1, .ref q_2, .ref q_3, .ref q_4, .null, .int 0])), (q_1, kx_aD G n (fun _ => 0)), (q_2, kx_aD G n (fun _ => 0)), (q_3, kx_aD G n (fun _ => 0)), (q_4, kx_aD G n (fun _ => 0))] H := hP
  have hD : va_D A [(h0, .inr (4, [.int (nI n), .ref q_1, .ref q_2, .ref q_3, .ref q_4, .null, .int 0])), (q_1, kx_aD G n (fun _ => 0)), (q_2, kx_aD G n (fun _ => 0)), (q_3, kx_aD G n (fun _ => 0)), (q_4, kx_aD G n (fun _ => 0))] := hD
  refine lv_aload_n hx hb dX3_init_37 rfl (lv_at hl 0 rfl) ?_
  refine lv_iload_n hx hb dX3_init_38 rfl (lv_at hl 1 rfl) ?_
  refine kx_newZ hx hb ha_Z hT hP hD hS hA n (by omega) (show 4 + 1 ≤ 5 from by omega) (show ((((0 + n) + n) + n) + n) + n ≤ 80 from by omega) dX3_init_39 (fun q_5 H hP hD hS => ?_)
  have hP : va_P G.1 vwCl [(h0, .inr (4, [.int (nI n), .ref q_1, .ref q_2, .ref q_3, .ref q_4, .null, .int 0])), (q_1, kx_aD G n (fun _ => 0)), (q_2, kx_aD G n (fun _ => 0)), (q_3, kx_aD G n (fun _ => 0)), (q_4, kx_aD G n (fun _ => 0)), (q_5, kx_aZ G n (fun _ => 0))] H := hP
  have hD : va_D A [(h0, .inr (4, [.int (nI n), .ref q_1, .ref q_2, .ref q_3, .ref q_4, .null, .int 0])), (q_1, kx_aD G n (fun _ => 0)), (q_2, kx_aD G n (fun _ => 0)), (q_3, kx_aD G n (fun _ => 0)), (q_4, kx_aD G n (fun _ => 0)), (q_5, kx_aZ G n (fun _ => 0))] := hD
  refine va_putF (D := G.1) (ci := 4) (v := .ref q_5) (ty := .array .boolean) (C := RX3) (T := TX3) (N := 7) hx hb hts hin_X3 tyX3 tyX3_ok nmX3 hown hT.1 hP hD hS 0 rfl rfl 5 (by decide) hf_28 (fun _ h9 => h9) rfl hin rfl (by decide +kernel) rfl rfl (Nat.le_of_ble_eq_true rfl) dX3_init_41 (fun H locs hP hD hS => ?_)
  have hP : va_P G.1 vwCl [(h0, .inr (4, [.int (nI n), .ref q_1, .ref q_2, .ref q_3, .ref q_4, .ref q_5, .int 0])), (q_1, kx_aD G n (fun _ => 0)), (q_2, kx_aD G n (fun _ => 0)), (q_3, kx_aD G n (fun _ => 0)), (q_4, kx_aD G n (fun _ => 0)), (q_5, kx_aZ G n (fun _ => 0))] H := hP
  have hD : va_D A [(h0, .inr (4, [.int (nI n), .ref q_1, .ref q_2, .ref q_3, .ref q_4, .ref q_5, .int 0])), (q_1, kx_aD G n (fun _ => 0)), (q_2, kx_aD G n (fun _ => 0)), (q_3, kx_aD G n (fun _ => 0)), (q_4, kx_aD G n (fun _ => 0)), (q_5, kx_aZ G n (fun _ => 0))] := hD
  refine W.widen (k := 5) (n := 80) (by omega) (by omega) ?_
  exact W.vret hx hb hr (fun t ht hW => ⟨⟨(q_1, q_2, q_3, q_4, q_5), rfl, trivial, And.intro (by rw [ht]; exact hP) hD⟩, hS.F ht⟩) hS.2.2 dX3_init_44
set_option maxHeartbeats 4000000 in
set_option maxRecDepth 100000 in
/-- a new Shadows -/
theorem c_X2_init (l : Launch) (G : kx_G) (sz : Nat) (h0 : Nat) (n : Nat) (v : Nat)  (hn1 : 1 ≤ n) (hn : n ≤ 16) (hv1 : 1 ≤ v) (hv : v ≤ 8) : Met l yX2_init wsX2_init ({ frames := 1, cells := 6, slots := 408, locals := 24 } : Room) (kx_PM G [.ref h0, .int (nI n), .int (nI v)] sz [(h0, .inr (3, [.int 0, .null, .null, .null, .null, .null, .null]))]) (va_Qv (fun (_ : Nat × Nat × Nat × Nat × Nat × Nat) => True) (kx_B G (va_A [(h0, .inr (3, [.int 0, .null, .null, .null, .null, .null, .null]))] sz) (fun u : Nat × Nat × Nat × Nat × Nat × Nat => [(h0, .inr (3, [.int (nI v), .ref u.1, .ref u.2.1, .ref u.2.2.1, .ref u.2.2.2.1, .ref u.2.2.2.2.1, .ref u.2.2.2.2.2])), (u.1, kx_aD G v (kx_cp (fun _ => 0) (fun _ => FP.dconst1) v)), (u.2.1, kx_aD G v (fun _ => 0)), (u.2.2.1, kx_aD G v (kx_cp (fun _ => 0) (fun _ => kx_root FP.dconst1) v)), (u.2.2.2.1, kx_aZ G (n * v) (fun _ => 0)), (u.2.2.2.2.1, kx_aD G (n * v) (fun _ => 0)), (u.2.2.2.2.2, kx_aD G (n * v) (fun _ => 0))])) (va_A [(h0, .inr (3, [.int 0, .null, .null, .null, .null, .null, .null]))] sz)) 6 408 (va_A [(h0, .inr (3, [.int 0, .null, .null, .null, .null, .null, .null]))] sz) := by
  refine Met.ofW (cc := cX2_init) (maxL := 4) (ret := none) (by decide) rfl ?_
  intro p e s m args below meth c s₁ B hml hv
  obtain ⟨rfl, hsz, hP, hT, hD0⟩ := hv
  have hx := B.exec
  have hb := B.bytes
  have hr := B.returns
  have hts := atoms_spec (ws := wsX2_init) B.pre
  have hown : s.vm.findClass RX2 = some m.cls := findClass_of_methodNamed B.named
  have hlocks := B.notSynchronized
  have hin : meth.name = "<init>" := (name_of_methodNamed B.named B.method).1
  have ho_l := hts (.methodLink RX2 1 objectInit) (by decide +kernel)
  have ho_i := hts (.instanceMethod objectInit) (by decide +kernel)
  have ho_c := hts (.code objectInit ⟨#[0xb1]⟩ 1 none) (by decide +kernel)
  have hf_7 := hts (.fieldLink RX2 7 "StemShapes$Shadows" "views" "I") (by decide +kernel)
  have hin_X2 : ∀ w ∈ wsX20, w ∈ wsX2_init := by decide +kernel
  have ha_D := hts (.arrayClass .double) (by decide +kernel)
  have hf_13 := hts (.fieldLink RX2 13 "StemShapes$Shadows" "p" "[D") (by decide +kernel)
  have hf_17 := hts (.fieldLink RX2 17 "StemShapes$Shadows" "q" "[D") (by decide +kernel)
  have hf_20 := hts (.fieldLink RX2 20 "StemShapes$Shadows" "length" "[D") (by decide +kernel)
  have ha_Z := hts (.arrayClass .boolean) (by decide +kernel)
  have hf_23 := hts (.fieldLink RX2 23 "StemShapes$Shadows" "there" "[Z") (by decide +kernel)
  have hf_27 := hts (.fieldLink RX2 27 "StemShapes$Shadows" "middle" "[D") (by decide +kernel)
  have hf_30 := hts (.fieldLink RX2 30 "StemShapes$Shadows" "half" "[D") (by decide +kernel)
  have hm_33 : va_Nw (.methodLinkNest RX2 33 yX4_root "StemShapes") s := hT.2 _ (by decide +kernel)
  have hini_RX4 := hts (.initialized RX4) (by decide +kernel)
  have hst_X4_root := hts (.static yX4_root) (by decide +kernel)
  subst hsz
  have hD := hD0.self (sz := s.heap.size)
  generalize hAe : va_A [(h0, .inr (3, [.int 0, .null, .null, .null, .null, .null, .null]))] s.heap.size = A at hD ⊢
  have hA : ∀ q : Nat, s.heap.size ≤ q → A q := fun q h => by rw [← hAe]; exact Or.inr h
  have hS : va_S A s.heap s.heap [] := va_S.rf
  have hl := lv_entry ([.ref h0, .int (nI n), .int (nI v)]) (n := 4) (Nat.le_of_ble_eq_true rfl)
  rw [lg_entry_eq]
  generalize (lg_sl ([.ref h0, .int (nI n), .int (nI v)]) ++ List.replicate (4 - (lg_sl ([.ref h0, .int (nI n), .int (nI v)])).length) Slot.unset).toArray = ls at hl ⊢
  have hl : lv_has ls 4 [(0, .ref h0), (1, .int (nI n)), (2, .int (nI v))] := hl
  have hnv : n * v ≤ 128 := Nat.mul_le_mul hn hv
  refine lv_aload_n hx hb dX2_init_0 rfl (lv_at hl 0 rfl) ?_
  refine W.objInit hx hb hown ho_l ho_i ho_c rfl (by rw [hml]; exact hl.1) rfl dX2_init_1 (Nat.le_of_ble_eq_true rfl) (Nat.le_of_ble_eq_true rfl) ?_
  refine W.eq (g2 := F0 m 4 ls []) rfl ?_
  refine lv_aload_n hx hb dX2_init_4 rfl (lv_at hl 0 rfl) ?_
  refine lv_iload_n hx hb dX2_init_5 rfl (lv_at hl 2 rfl) ?_
  refine va_putF (D := G.1) (ci := 3) (v := .int (nI v)) (ty := .int) (C := RX2) (T := TX2) (N := 7) hx hb hts hin_X2 tyX2 tyX2_ok nmX2 hown hT.1 hP hD hS 0 rfl rfl 0 (by decide) hf_7 (fun _ h9 => h9) rfl hin rfl (by decide +kernel) rfl rfl (Nat.le_of_ble_eq_true rfl) dX2_init_6 (fun H locs hP hD hS => ?_)
  have hP : va_P G.1 vwCl [(h0, .inr (3, [.int (nI v), .null, .null, .null, .null, .null, .null]))] H := hP
  have hD : va_D A [(h0, .inr (3, [.int (nI v), .null, .null, .null, .null, .null, .null]))] := hD
  refine lv_aload_n hx hb dX2_init_9 rfl (lv_at hl 0 rfl) ?_
  refine lv_iload_n hx hb dX2_init_10 rfl (lv_at hl 2 rfl) ?_
  refine kx_newD hx hb ha_D hT hP hD hS hA v (by omega) (show 0 + 1 ≤ 6 from by omega) (show 0 + v ≤ 408 from by omega) dX2_init_11 (fun q_1 H hP hD hS => ?_)
  have hP : va_P G.1 vwCl [(h0, .inr (3, [.int (nI v), .null, .null, .null, .null, .null, .null])), (q_1, kx_aD G v (fun _ => 0))] H := hP
  have hD : va_D A [(h0, .inr (3, [.int (nI v), .null, .null, .null, .null, .null, .null])), (q_1, kx_aD G v (fun _ => 0))] := hD
  refine va_putF (D := G.1) (ci := 3) (v := .ref q_1) (ty := .array .double) (C := RX2) (T := TX2) (N := 7) hx hb hts hin_X2 tyX2 tyX2_ok nmX2 hown hT.1 hP hD hS 0 rfl rfl 1 (by decide) hf_13 (fun _ h9 => h9) rfl hin rfl (by decide +kernel) rfl rfl (Nat.le_of_ble_eq_true rfl) dX2_init_13 (fun H locs hP hD hS => ?_)
  have hP : va_P G.1 vwCl [(h0, .inr (3, [.int (nI v), .ref q_1, .null, .null, .null, .null, .null])), (q_1, kx_aD G v (fun _ => 0))] H := hP
  have hD : va_D A [(h0, .inr (3, [.int (nI v), .ref q_1, .null, .null, .null, .null, .null])), (q_1, kx_aD G v (fun _ => 0))] := hD
  refine lv_aload_n hx hb dX2_init_16 rfl (lv_at hl 0 rfl) ?_
  refine lv_iload_n hx hb dX2_init_17 rfl (lv_at hl 2 rfl) ?_
  refine kx_newD hx hb ha_D hT hP hD hS hA v (by omega) (show 1 + 1 ≤ 6 from by omega) (show (0 + v) + v ≤ 408 from by omega) dX2_init_18 (fun q_2 H hP hD hS => ?_)
  have hP : va_P G.1 vwCl [(h0, .inr (3, [.int (nI v), .ref q_1, .null, .null, .null, .null, .null])), (q_1, kx_aD G v (fun _ => 0)), (q_2, kx_aD G v (fun _ => 0))] H := hP
  have hD : va_D A [(h0, .inr (3, [.int (nI v), .ref q_1, .null, .null, .null, .null, .null])), (q_1, kx_aD G v (fun _ => 0)), (q_2, kx_aD G v (fun _ => 0))] := hD
  refine va_putF (D := G.1) (ci := 3) (v := .ref q_2) (ty := .array .double) (C := RX2) (T := TX2) (N := 7) hx hb hts hin_X2 tyX2 tyX2_ok nmX2 hown hT.1 hP hD hS 0 rfl rfl 2 (by decide) hf_17 (fun _ h9 => h9) rfl hin rfl (by decide +kernel) rfl rfl (Nat.le_of_ble_eq_true rfl) dX2_init_20 (fun H locs hP hD hS => ?_)
  have hP : va_P G.1 vwCl [(h0, .inr (3, [.int (nI v), .ref q_1, .ref q_2, .null, .null, .null, .null])), (q_1, kx_aD G v (fun _ => 0)), (q_2, kx_aD G v (fun _ => 0))] H := hP
  have hD : va_D A [(h0, .inr (3, [.int (nI v), .ref q_1, .ref q_2, .null, .null, .null, .null])), (q_1, kx_aD G v (fun _ => 0)), (q_2, kx_aD G v (fun _ => 0))] := hD
  refine lv_aload_n hx hb dX2_init_23 rfl (lv_at hl 0 rfl) ?_
  refine lv_iload_n hx hb dX2_init_24 rfl (lv_at hl 2 rfl) ?_
  refine kx_newD hx hb ha_D hT hP hD hS hA v (by omega) (show 2 + 1 ≤ 6 from by omega) (show ((0 + v) + v) + v ≤ 408 from by omega) dX2_init_25 (fun q_3 H hP hD hS => ?_)
  have hP : va_P G.1 vwCl [(h0, .inr (3, [.int (nI v), .ref q_1, .ref q_2, .null, .null, .null, .null])), (q_1, kx_aD G v (fun _ => 0)), (q_2, kx_aD G v (fun _ => 0)), (q_3, kx_aD G v (fun _ => 0))] H := hP
  have hD : va_D A [(h0, .inr (3, [.int (nI v), .ref q_1, .ref q_2, .null, .null, .null, .null])), (q_1, kx_aD G v (fun _ => 0)), (q_2, kx_aD G v (fun _ => 0)), (q_3, kx_aD G v (fun _ => 0))] := hD
  refine va_putF (D := G.1) (ci := 3) (v := .ref q_3) (ty := .array .double) (C := RX2) (T := TX2) (N := 7) hx hb hts hin_X2 tyX2 tyX2_ok nmX2 hown hT.1 hP hD hS 0 rfl rfl 3 (by decide) hf_20 (fun _ h9 => h9) rfl hin rfl (by decide +kernel) rfl rfl (Nat.le_of_ble_eq_true rfl) dX2_init_27 (fun H locs hP hD hS => ?_)
  have hP : va_P G.1 vwCl [(h0, .inr (3, [.int (nI v), .ref q_1, .ref q_2, .ref q_3, .null, .null, .null])), (q_1, kx_aD G v (fun _ => 0)), (q_2, kx_aD G v (fun _ => 0)), (q_3, kx_aD G v (fun _ => 0))] H := hP
  have hD : va_D A [(h0, .inr (3, [.int (nI v), .ref q_1, .ref q_2, .ref q_3, .null, .null, .null])), (q_1, kx_aD G v (fun _ => 0)), (q_2, kx_aD G v (fun _ => 0)), (q_3, kx_aD G v (fun _ => 0))] := hD
  refine lv_aload_n hx hb dX2_init_30 rfl (lv_at hl 0 rfl) ?_
  refine lv_iload_n hx hb dX2_init_31 rfl (lv_at hl 1 rfl) ?_
  refine lv_iload_n hx hb dX2_init_32 rfl (lv_at hl 2 rfl) ?_
  refine lv_imul hx hb dX2_init_33 ?_
  refine kx_ei (y := nI (n * v)) (pk_mul n v) ?_
  refine kx_newZ hx hb ha_Z hT hP hD hS hA (n * v) (by omega) (show 3 + 1 ≤ 6 from by omega) (show (((0 + v) + v) + v) + (n * v) ≤ 408 from by omega) dX2_init_34 (fun q_4 H hP hD hS => ?_)
  have hP : va_P G.1 vwCl [(h0, .inr (3, [.int (nI v), .ref q_1, .ref q_2, .ref q_3, .null, .null, .null])), (q_1, kx_aD G v (fun _ => 0)), (q_2, kx_aD G v (fun _ => 0)), (q_3, kx_aD G v (fun _ => 0)), (q_4, kx_aZ G (n * v) (fun _ => 0))] H := hP
  have hD : va_D A [(h0, .inr (3, [.int (nI v), .ref q_1, .ref q_2, .ref q_3, .null, .null, .null])), (q_1, kx_aD G v (fun _ => 0)), (q_2, kx_aD G v (fun _ => 0)), (q_3, kx_aD G v (fun _ => 0)), (q_4, kx_aZ G (n * v) (fun _ => 0))] := hD
  refine va_putF (D := G.1) (ci := 3) (v := .ref q_4) (ty := .array .boolean) (C := RX2) (T := TX2) (N := 7) hx hb hts hin_X2 tyX2 tyX2_ok nmX2 hown hT.1 hP hD hS 0 rfl rfl 4 (by decide) hf_23 (fun _ h9 => h9) rfl hin rfl (by decide +kernel) rfl rfl (Nat.le_of_ble_eq_true rfl) dX2_init_36 (fun H locs hP hD hS => ?_)
  have hP : va_P G.1 vwCl [(h0, .inr (3, [.int (nI v), .ref q_1, .ref q_2, .ref q_3, .ref q_4, .null, .null])), (q_1, kx_aD G v (fun _ => 0)), (q_2, kx_aD G v (fun _ => 0)), (q_3, kx_aD G v (fun _ => 0)), (q_4, kx_aZ G (n * v) (fun _ => 0))] H := hP
  have hD : va_D A [(h0, .inr (3, [.int (nI v), .ref q_1, .ref q_2, .ref q_3, .ref q_4, .null, .null])), (q_1, kx_aD G v (fun _ => 0)), (q_2, kx_aD G v (fun _ => 0)), (q_3, kx_aD G v (fun _ => 0)), (q_4, kx_aZ G (n * v) (fun _ => 0))] := hD
  refine lv_aload_n hx hb dX2_init_39 rfl (lv_at hl 0 rfl) ?_
  refine lv_iload_n hx hb dX2_init_40 rfl (lv_at hl 1 rfl) ?_
  refine lv_iload_n hx hb dX2_init_41 rfl (lv_at hl 2 rfl) ?_
  refine lv_imul hx hb dX2_init_42 ?_
  refine kx_ei (y := nI (n * v)) (pk_mul n v) ?_
  refine kx_newD hx hb ha_D hT hP hD hS hA (n * v) (by omega) (show 4 + 1 ≤ 6 from by omega) (show ((((0 + v) + v) + v) + (n * v)) + (n * v) ≤ 408 from by omega) dX2_init_43 (fun q_5 H hP hD hS => ?_)
  have hP : va_P G.1 vwCl [(h0, .inr (3, [.int (nI v), .ref q_1, .ref q_2, .ref q_3, .ref q_4, .null, .null])), (q_1, kx_aD G v (fun _ => 0)), (q_2, kx_aD G v (fun _ => 0)), (q_3, kx_aD G v (fun _ => 0)), (q_4, kx_aZ G (n * v) (fun _ => 0)), (q_5, kx_aD G (n * v) (fun _ => 0))] H := hP
  have hD : va_D A [(h0, .inr (3, [.int (nI v), .ref q_1, .ref q_2, .ref q_3, .ref q_4, .null, .null])), (q_1, kx_aD G v (fun _ => 0)), (q_2, kx_aD G v (fun _ => 0)), (q_3, kx_aD G v (fun _ => 0)), (q_4, kx_aZ G (n * v) (fun _ => 0)), (q_5, kx_aD G (n * v) (fun _ => 0))] := hD
  refine va_putF (D := G.1) (ci := 3) (v := .ref q_5) (ty := .array .double) (C := RX2) (T := TX2) (N := 7) hx hb hts hin_X2 tyX2 tyX2_ok nmX2 hown hT.1 hP hD hS 0 rfl rfl 5 (by decide) hf_27 (fun _ h9 => h9) rfl hin rfl (by decide +kernel) rfl rfl (Nat.le_of_ble_eq_true rfl) dX2_init_45 (fun H locs hP hD hS => ?_)
  have hP : va_P G.1 vwCl [(h0, .inr (3, [.int (nI v), .ref q_1, .ref q_2, .ref q_3, .ref q_4, .ref q_5, .null])), (q_1, kx_aD G v (fun _ => 0)), (q_2, kx_aD G v (fun _ => 0)), (q_3, kx_aD G v (fun _ => 0)), (q_4, kx_aZ G (n * v) (fun _ => 0)), (q_5, kx_aD G (n * v) (fun _ => 0))] H := hP
  have hD : va_D A [(h0, .inr (3, [.int (nI v), .ref q_1, .ref q_2, .ref q_3, .ref q_4, .ref q_5, .null])), (q_1, kx_aD G v (fun _ => 0)), (q_2, kx_aD G v (fun _ => 0)), (q_3, kx_aD G v (fun _ => 0)), (q_4, kx_aZ G (n * v) (fun _ => 0)), (q_5, kx_aD G (n * v) (fun _ => 0))] := hD
  refine lv_aload_n hx hb dX2_init_48 rfl (lv_at hl 0 rfl) ?_
  refine lv_iload_n hx hb dX2_init_49 rfl (lv_at hl 1 rfl) ?_
  refine lv_iload_n hx hb dX2_init_50 rfl (lv_at hl 2 rfl) ?_
  refine lv_imul hx hb dX2_init_51 ?_
  refine kx_ei (y := nI (n * v)) (pk_mul n v) ?_
  refine kx_newD hx hb ha_D hT hP hD hS hA (n * v) (by omega) (show 5 + 1 ≤ 6 from by omega) (show (((((0 + v) + v) + v) + (n * v)) + (n * v)) + (n * v) ≤ 408 from by omega) dX2_init_52 (fun q_6 H hP hD hS => ?_)
  have hP : va_P G.1 vwCl [(h0, .inr (3, [.int (nI v), .ref q_1, .ref q_2, .ref q_3, .ref q_4, .ref q_5, .null])), (q_1, kx_aD G v (fun _ => 0)), (q_2, kx_aD G v (fun _ => 0)), (q_3, kx_aD G v (fun _ => 0)), (q_4, kx_aZ G (n * v) (fun _ => 0)), (q_5, kx_aD G (n * v) (fun _ => 0)), (q_6, kx_aD G (n * v) (fun _ => 0))] H := hP
  have hD : va_D A [(h0, .inr (3, [.int (nI v), .ref q_1, .ref q_2, .ref q_3, .ref q_4, .ref q_5, .null])), (q_1, kx_aD G v (fun _ => 0)), (q_2, kx_aD G v (fun _ => 0)), (q_3, kx_aD G v (fun _ => 0)), (q_4, kx_aZ G (n * v) (fun _ => 0)), (q_5, kx_aD G (n * v) (fun _ => 0)), (q_6, kx_aD G (n * v) (fun _ => 0))] := hD
  refine va_putF (D := G.1) (ci := 3) (v := .ref q_6) (ty := .array .double) (C := RX2) (T := TX2) (N := 7) hx hb hts hin_X2 tyX2 tyX2_ok nmX2 hown hT.1 hP hD hS 0 rfl rfl 6 (by decide) hf_30 (fun _ h9 => h9) rfl hin rfl (by decide +kernel) rfl rfl (Nat.le_of_ble_eq_true rfl) dX2_init_54 (fun H locs hP hD hS => ?_)
  have hP : va_P G.1 vwCl [(h0, .inr (3, [.int (nI v), .ref q_1, .ref q_2, .ref q_3, .ref q_4, .ref q_5, .ref q_6])), (q_1, kx_aD G v (fun _ => 0)), (q_2, kx_aD G v (fun _ => 0)), (q_3, kx_aD G v (fun _ => 0)), (q_4, kx_aZ G (n * v) (fun _ => 0)), (q_5, kx_aD G (n * v) (fun _ => 0)), (q_6, kx_aD G (n * v) (fun _ => 0))] H := hP
  have hD : va_D A [(h0, .inr (3, [.int (nI v), .ref q_1, .ref q_2, .ref q_3, .ref q_4, .ref q_5, .ref q_6])), (q_1, kx_aD G v (fun _ => 0)), (q_2, kx_aD G v (fun _ => 0)), (q_3, kx_aD G v (fun _ => 0)), (q_4, kx_aZ G (n * v) (fun _ => 0)), (q_5, kx_aD G (n * v) (fun _ => 0)), (q_6, kx_aD G (n * v) (fun _ => 0))] := hD
  refine lv_iconst (v := 0) hx hb dX2_init_57 (by decide) ?_
  refine lv_istore_n (lv' := [(3, .int 0), (0, .ref h0), (1, .int (nI n)), (2, .int (nI v))]) hx hb dX2_init_58 rfl hl (by decide) rfl (fun ls hl => ?_)
  have loop_59 : ∀ (k i : Nat) (U1 : Nat → UInt64) (V1 : Nat → UInt64), i + k = v → U1 = kx_cp (fun _ => 0) (fun _ => FP.dconst1) i → V1 = kx_cp (fun _ => 0) (fun _ => kx_root FP.dconst1) i → ∀ (H : Heap) (locs : List Loc), va_P G.1 vwCl [(h0, .inr (3, [.int (nI v), .ref q_1, .ref q_2, .ref q_3, .ref q_4, .ref q_5, .ref q_6])), (q_1, kx_aD G v U1), (q_2, kx_aD G v (fun _ => 0)), (q_3, kx_aD G v V1), (q_4, kx_aZ G (n * v) (fun _ => 0)), (q_5, kx_aD G (n * v) (fun _ => 0)), (q_6, kx_aD G (n * v) (fun _ => 0))] H → va_D A [(h0, .inr (3, [.int (nI v), .ref q_1, .ref q_2, .ref q_3, .ref q_4, .ref q_5, .ref q_6])), (q_1, kx_aD G v U1), (q_2, kx_aD G v (fun _ => 0)), (q_3, kx_aD G v V1), (q_4, kx_aZ G (n * v) (fun _ => 0)), (q_5, kx_aD G (n * v) (fun _ => 0)), (q_6, kx_aD G (n * v) (fun _ => 0))] → va_S A s.heap H locs → ∀ ls : Array Slot, lv_has ls 4 [(3, .int (nI i)), (2, .int (nI v)), (1, .int (nI n)), (0, .ref h0)] → W p l e (headSpec wsX2_init ({ frames := 1, cells := 6, slots := 408, locals := 24 } : Room)).room s m [.ref h0, .int (nI n), .int (nI v)].toArray below meth c H locs 6 ((((((0 + v) + v) + v) + (n * v)) + (n * v)) + (n * v)) (MQ below (va_Qv (fun (_ : Nat × Nat × Nat × Nat × Nat × Nat) => True) (kx_B G A (fun u : Nat × Nat × Nat × Nat × Nat × Nat => [(h0, .inr (3, [.int (nI v), .ref u.1, .ref u.2.1, .ref u.2.2.1, .ref u.2.2.2.1, .ref u.2.2.2.2.1, .ref u.2.2.2.2.2])), (u.1, kx_aD G v (kx_cp (fun _ => 0) (fun _ => FP.dconst1) v)), (u.2.1, kx_aD G v (fun _ => 0)), (u.2.2.1, kx_aD G v (kx_cp (fun _ => 0) (fun _ => kx_root FP.dconst1) v)), (u.2.2.2.1, kx_aZ G (n * v) (fun _ => 0)), (u.2.2.2.2.1, kx_aD G (n * v) (fun _ => 0)), (u.2.2.2.2.2, kx_aD G (n * v) (fun _ => 0))])) A) [.ref h0, .int (nI n), .int (nI v)].toArray s 6 408 A) (F0 m 59 ls []) := by
    intro k
    induction k with
    | zero =>
      intro i U1 V1 htot e_U1 e_V1 H locs hP hD hS ls hl
      subst e_U1
      subst e_V1
      refine lv_iload_n hx hb dX2_init_59 rfl (lv_at hl 0 rfl) ?_
      refine lv_iload_n hx hb dX2_init_60 rfl (lv_at hl 1 rfl) ?_
      refine lv_icmp_ge (x := nI i) (y := nI v) (tgt := 87) hx hb dX2_init_61 (by decide) (fun c_7 => ?_) (fun c_7 => ?_)
      · have c_7 : v ≤ i := (nI_leI (a := v) (b := i) (by omega) (by omega)).mp c_7
        have hiv : i = v := by omega
        rw [hiv] at hP hD
        refine W.widen (k := 6) (n := 408) (by omega) (by omega) ?_
        exact W.vret hx hb hr (fun t ht hW => ⟨⟨(q_1, q_2, q_3, q_4, q_5, q_6), rfl, trivial, And.intro (by rw [ht]; exact hP) hD⟩, hS.F ht⟩) hS.2.2 dX2_init_87
      · have c_7 : ¬ v ≤ i := fun q => c_7 ((nI_leI (a := v) (b := i) (by omega) (by omega)).mpr q)
        exfalso; omega
    | succ k ih =>
      intro i U1 V1 htot e_U1 e_V1 H locs hP hD hS ls hl
      subst e_U1
      subst e_V1
      refine lv_iload_n hx hb dX2_init_59 rfl (lv_at hl 0 rfl) ?_
      refine lv_iload_n hx hb dX2_init_60 rfl (lv_at hl 1 rfl) ?_
      refine lv_icmp_ge (x := nI i) (y := nI v) (tgt := 87) hx hb dX2_init_61 (by decide) (fun c_8 => ?_) (fun c_8 => ?_)
      · have c_8 : v ≤ i := (nI_leI (a := v) (b := i) (by omega) (by omega)).mp c_8
        exfalso; omega
      · have c_8 : ¬ v ≤ i := fun q => c_8 ((nI_leI (a := v) (b := i) (by omega) (by omega)).mpr q)
        refine lv_aload_n hx hb dX2_init_64 rfl (lv_at hl 3 rfl) ?_
        refine va_get (D := G.1) (ci := 3) (v := .ref q_1) (C := RX2) (T := TX2) (N := 7) hx hb hts hin_X2 hown hT.1 hP 0 rfl rfl 1 (by decide) hf_13 (fun _ h9 => h9) rfl dX2_init_65 ?_
        refine lv_iload_n hx hb dX2_init_68 rfl (lv_at hl 0 rfl) ?_
        refine lv_dconst1 hx hb dX2_init_69 ?_
        refine kx_dast hx hb hT hP hD hS 1 rfl i (by omega) (by omega) dX2_init_70 (fun H locs hP hD hS => ?_)
        have hP : va_P G.1 vwCl [(h0, .inr (3, [.int (nI v), .ref q_1, .ref q_2, .ref q_3, .ref q_4, .ref q_5, .ref q_6])), (q_1, kx_aD G v (vf_upd (kx_cp (fun _ => 0) (fun _ => FP.dconst1) i) i FP.dconst1)), (q_2, kx_aD G v (fun _ => 0)), (q_3, kx_aD G v (kx_cp (fun _ => 0) (fun _ => kx_root FP.dconst1) i)), (q_4, kx_aZ G (n * v) (fun _ => 0)), (q_5, kx_aD G (n * v) (fun _ => 0)), (q_6, kx_aD G (n * v) (fun _ => 0))] H := hP
        have hD : va_D A [(h0, .inr (3, [.int (nI v), .ref q_1, .ref q_2, .ref q_3, .ref q_4, .ref q_5, .ref q_6])), (q_1, kx_aD G v (vf_upd (kx_cp (fun _ => 0) (fun _ => FP.dconst1) i) i FP.dconst1)), (q_2, kx_aD G v (fun _ => 0)), (q_3, kx_aD G v (kx_cp (fun _ => 0) (fun _ => kx_root FP.dconst1) i)), (q_4, kx_aZ G (n * v) (fun _ => 0)), (q_5, kx_aD G (n * v) (fun _ => 0)), (q_6, kx_aD G (n * v) (fun _ => 0))] := hD
        refine lv_aload_n hx hb dX2_init_71 rfl (lv_at hl 3 rfl) ?_
        refine va_get (D := G.1) (ci := 3) (v := .ref q_3) (C := RX2) (T := TX2) (N := 7) hx hb hts hin_X2 hown hT.1 hP 0 rfl rfl 3 (by decide) hf_20 (fun _ h9 => h9) rfl dX2_init_72 ?_
        refine lv_iload_n hx hb dX2_init_75 rfl (lv_at hl 0 rfl) ?_
        refine lv_dconst1 hx hb dX2_init_76 ?_
        refine vp_callSd (va_Run.run (va_runSN (As := [.double FP.dconst1]) (rest := [.int (nI i), .ref q_3]) ⟨hx, hb, hml, hown, hts⟩ (c_X4_root l G (w := FP.dconst1) (hw_b := (fx_1b.mono (by omega))) (hw_n := fx_1l.nn)) ⟨(va_cnB 1 hts gX2_init_X4_root_n33 rfl rfl rfl hm_33 hini_RX4 (by decide +kernel) ⟨Nat.le_of_ble_eq_true rfl, Nat.le_of_ble_eq_true rfl⟩), hst_X4_root, trivial⟩ ⟨kx_PRb, kx_pr hT hP [] rfl⟩ rfl rfl hl.1 rfl (lv_room (Nat.le_of_ble_eq_true rfl)) dX2_init_77 ⟨show 6 + 0 ≤ 6 from by omega, show ((((((0 + v) + v) + v) + (n * v)) + (n * v)) + (n * v)) + 0 ≤ 408 from by omega⟩)) (fun r_9 hw_10 => ?_)
        subst hw_10
        refine kx_dast hx hb hT hP hD hS 3 rfl i (by omega) (by omega) dX2_init_80 (fun H locs hP hD hS => ?_)
        have hP : va_P G.1 vwCl [(h0, .inr (3, [.int (nI v), .ref q_1, .ref q_2, .ref q_3, .ref q_4, .ref q_5, .ref q_6])), (q_1, kx_aD G v (vf_upd (kx_cp (fun _ => 0) (fun _ => FP.dconst1) i) i FP.dconst1)), (q_2, kx_aD G v (fun _ => 0)), (q_3, kx_aD G v (vf_upd (kx_cp (fun _ => 0) (fun _ => kx_root FP.dconst1) i) i (kx_root FP.dconst1))), (q_4, kx_aZ G (n * v) (fun _ => 0)), (q_5, kx_aD G (n * v) (fun _ => 0)), (q_6, kx_aD G (n * v) (fun _ => 0))] H := hP
        have hD : va_D A [(h0, .inr (3, [.int (nI v), .ref q_1, .ref q_2, .ref q_3, .ref q_4, .ref q_5, .ref q_6])), (q_1, kx_aD G v (vf_upd (kx_cp (fun _ => 0) (fun _ => FP.dconst1) i) i FP.dconst1)), (q_2, kx_aD G v (fun _ => 0)), (q_3, kx_aD G v (vf_upd (kx_cp (fun _ => 0) (fun _ => kx_root FP.dconst1) i) i (kx_root FP.dconst1))), (q_4, kx_aZ G (n * v) (fun _ => 0)), (q_5, kx_aD G (n * v) (fun _ => 0)), (q_6, kx_aD G (n * v) (fun _ => 0))] := hD
        refine lv_iinc (v := nI (i + 1)) (lv' := [(3, .int (nI (i + 1))), (2, .int (nI v)), (1, .int (nI n)), (0, .ref h0)]) hx hb dX2_init_81 hl (k := 0) rfl (by show _ + 1 = _; exact nI_1 _) (by decide) rfl (fun ls hl => ?_)
        refine lv_goto (tgt := 59) hx hb dX2_init_84 (by decide) ?_
        exact ih (i + 1) _ _ (by omega) kx_cp_s kx_cp_s _ _ hP hD hS _ (lv_sub hl [0, 1, 2, 3] rfl)
  exact loop_59 v 0 _ _ (by omega) kx_cp_0.symm kx_cp_0.symm _ _ hP hD hS _ (lv_sub hl [0, 3, 2, 1] rfl)
set_option maxHeartbeats 4000000 in
set_option maxRecDepth 100000 in
/-- a new StemShapes -/
theorem c_X4_init (l : Launch) (G : kx_G) (sz : Nat) (h0 : Nat) (n : Nat) (v : Nat) (a9 : Int32) (b9 : Int32)  (hn1 : 1 ≤ n) (hn : n ≤ 16) (hv1 : 1 ≤ v) (hv : v ≤ 8) (hna : kx_ne a9 16 = nI n) (hvb : kx_ne b9 8 = nI v) : Met l yX4_init wsX4_init ({ frames := 2, cells := 20, slots := 559, locals := 47 } : Room) (kx_PM G [.ref h0, .int a9, .int b9] sz [(h0, .inr (5, [.int 0, .int 0, .null, .null, .null, .null, .int 0]))]) (va_Qv (fun (_ : Nat × Nat × Nat × Nat × Nat × Nat × Nat × Nat × Nat × Nat × Nat × Nat × Nat × Nat × Nat × Nat × Nat × Nat × Nat × Nat) => True) (kx_B G (va_A [(h0, .inr (5, [.int 0, .int 0, .null, .null, .null, .null, .int 0]))] sz) (fun u : Nat × Nat × Nat × Nat × Nat × Nat × Nat × Nat × Nat × Nat × Nat × Nat × Nat × Nat × Nat × Nat × Nat × Nat × Nat × Nat => [(h0, .inr (5, [.int (nI n), .int (nI v), .ref u.1, .ref u.2.2.2.2.2.2.2.1, .ref u.2.2.2.2.2.2.2.2.2.2.2.2.2.1, .ref u.2.2.2.2.2.2.2.2.2.2.2.2.2.2.2.2.1, .int 0])), (u.1, .inr (3, [.int (nI v), .ref u.2.1, .ref u.2.2.1, .ref u.2.2.2.1, .ref u.2.2.2.2.1, .ref u.2.2.2.2.2.1, .ref u.2.2.2.2.2.2.1])), (u.2.1, kx_aD G v (kx_cp (fun _ => 0) (fun _ => FP.dconst1) v)), (u.2.2.1, kx_aD G v (fun _ => 0)), (u.2.2.2.1, kx_aD G v (kx_cp (fun _ => 0) (fun _ => kx_root FP.dconst1) v)), (u.2.2.2.2.1, kx_aZ G (n * v) (fun _ => 0)), (u.2.2.2.2.2.1, kx_aD G (n * v) (fun _ => 0)), (u.2.2.2.2.2.2.1, kx_aD G (n * v) (fun _ => 0)), (u.2.2.2.2.2.2.2.1, .inr (4, [.int (nI n), .ref u.2.2.2.2.2.2.2.2.1, .ref u.2.2.2.2.2.2.2.2.2.1, .ref u.2.2.2.2.2.2.2.2.2.2.1, .ref u.2.2.2.2.2.2.2.2.2.2.2.1, .ref u.2.2.2.2.2.2.2.2.2.2.2.2.1, .int 0])), (u.2.2.2.2.2.2.2.2.1, kx_aD G n (fun _ => 0)), (u.2.2.2.2.2.2.2.2.2.1, kx_aD G n (fun _ => 0)), (u.2.2.2.2.2.2.2.2.2.2.1, kx_aD G n (fun _ => 0)), (u.2.2.2.2.2.2.2.2.2.2.2.1, kx_aD G n (fun _ => 0)), (u.2.2.2.2.2.2.2.2.2.2.2.2.1, kx_aZ G n (fun _ => 0)), (u.2.2.2.2.2.2.2.2.2.2.2.2.2.1, .inr (1, [.ref u.2.2.2.2.2.2.2.2.2.2.2.2.2.2.1, .ref u.2.2.2.2.2.2.2.2.2.2.2.2.2.2.2.1, .int 0])), (u.2.2.2.2.2.2.2.2.2.2.2.2.2.2.1, kx_aD G n (fun _ => 0)), (u.2.2.2.2.2.2.2.2.2.2.2.2.2.2.2.1, kx_aD G n (fun _ => 0)), (u.2.2.2.2.2.2.2.2.2.2.2.2.2.2.2.2.1, .inr (2, [.ref u.2.2.2.2.2.2.2.2.2.2.2.2.2.2.2.2.2.1, .ref u.2.2.2.2.2.2.2.2.2.2.2.2.2.2.2.2.2.2.1, .ref u.2.2.2.2.2.2.2.2.2.2.2.2.2.2.2.2.2.2.2, .int 0])), (u.2.2.2.2.2.2.2.2.2.2.2.2.2.2.2.2.2.1, kx_aI G 6 (fun _ => 0)), (u.2.2.2.2.2.2.2.2.2.2.2.2.2.2.2.2.2.2.1, kx_aD G 6 (fun _ => 0)), (u.2.2.2.2.2.2.2.2.2.2.2.2.2.2.2.2.2.2.2, kx_aI G 6 (fun _ => 0))])) (va_A [(h0, .inr (5, [.int 0, .int 0, .null, .null, .null, .null, .int 0]))] sz)) 20 559 (va_A [(h0, .inr (5, [.int 0, .int 0, .null, .null, .null, .null, .int 0]))] sz) := by
  refine Met.ofW (cc := cX4_init) (maxL := 3) (ret := none) (by decide) rfl ?_
  intro p e s m args below meth c s₁ B hml hv
  obtain ⟨rfl, hsz, hP, hT, hD0⟩ := hv
  have hx := B.exec
  have hb := B.bytes
  have hr := B.returns
  have hts := atoms_spec (ws := wsX4_init) B.pre
  have hown : s.vm.findClass RX4 = some m.cls := findClass_of_methodNamed B.named
  have hlocks := B.notSynchronized
  have hin : meth.name = "<init>" := (name_of_methodNamed B.named B.method).1
  have ho_l := hts (.methodLink RX4 1 objectInit) (by decide +kernel)
  have ho_i := hts (.instanceMethod objectInit) (by decide +kernel)
  have ho_c := hts (.code objectInit ⟨#[0xb1]⟩ 1 none) (by decide +kernel)
  have hf_13 := hts (.fieldLink RX4 13 "StemShapes" "slices" "I") (by decide +kernel)
  have hin_X4 : ∀ w ∈ wsX40, w ∈ wsX4_init := by decide +kernel
  have hf_17 := hts (.fieldLink RX4 17 "StemShapes" "views" "I") (by decide +kernel)
  have hcl_20 := hts (.classLink RX4 20 RX2) (by decide +kernel)
  have hia_RX2 := hts (.instantiable RX2 7) (by decide +kernel)
  have hini_RX2 := hts (.initialized RX2) (by decide +kernel)
  have hin_X2 : ∀ w ∈ wsX20, w ∈ wsX4_init := by decide +kernel
  have hins_X2_init := hts (.instanceMethod yX2_init) (by decide +kernel)
  have hm_22 := hts (.methodLink RX4 22 yX2_init) (by decide +kernel)
  have hf_25 := hts (.fieldLink RX4 25 "StemShapes" "shadows" "LStemShapes$Shadows;") (by decide +kernel)
  have hcl_29 := hts (.classLink RX4 29 RX3) (by decide +kernel)
  have hia_RX3 := hts (.instantiable RX3 7) (by decide +kernel)
  have hini_RX3 := hts (.initialized RX3) (by decide +kernel)
  have hin_X3 : ∀ w ∈ wsX30, w ∈ wsX4_init := by decide +kernel
  have hins_X3_init := hts (.instanceMethod yX3_init) (by decide +kernel)
  have hm_31 := hts (.methodLink RX4 31 yX3_init) (by decide +kernel)
  have hf_34 := hts (.fieldLink RX4 34 "StemShapes" "stem" "LStemShapes$Stem;") (by decide +kernel)
  have hcl_38 := hts (.classLink RX4 38 RX0) (by decide +kernel)
  have hia_RX0 := hts (.instantiable RX0 3) (by decide +kernel)
  have hini_RX0 := hts (.initialized RX0) (by decide +kernel)
  have hin_X0 : ∀ w ∈ wsX00, w ∈ wsX4_init := by decide +kernel
  have hins_X0_init := hts (.instanceMethod yX0_init) (by decide +kernel)
  have hm_40 := hts (.methodLink RX4 40 yX0_init) (by decide +kernel)
  have hf_41 := hts (.fieldLink RX4 41 "StemShapes" "kept" "LStemShapes$Kept;") (by decide +kernel)
  have hcl_45 := hts (.classLink RX4 45 RX1) (by decide +kernel)
  have hia_RX1 := hts (.instantiable RX1 4) (by decide +kernel)
  have hini_RX1 := hts (.initialized RX1) (by decide +kernel)
  have hin_X1 : ∀ w ∈ wsX10, w ∈ wsX4_init := by decide +kernel
  have hins_X1_init := hts (.instanceMethod yX1_init) (by decide +kernel)
  have hm_47 : va_Nw (.methodLinkNest RX4 47 yX1_init "StemShapes") s := hT.2 _ (by decide +kernel)
  have hf_48 := hts (.fieldLink RX4 48 "StemShapes" "rules" "LStemShapes$RuleList;") (by decide +kernel)
  subst hsz
  have hD := hD0.self (sz := s.heap.size)
  generalize hAe : va_A [(h0, .inr (5, [.int 0, .int 0, .null, .null, .null, .null, .int 0]))] s.heap.size = A at hD ⊢
  have hA : ∀ q : Nat, s.heap.size ≤ q → A q := fun q h => by rw [← hAe]; exact Or.inr h
  have hS : va_S A s.heap s.heap [] := va_S.rf
  have hl := lv_entry ([.ref h0, .int a9, .int b9]) (n := 3) (Nat.le_of_ble_eq_true rfl)
  rw [lg_entry_eq]
  generalize (lg_sl ([.ref h0, .int a9, .int b9]) ++ List.replicate (3 - (lg_sl ([.ref h0, .int a9, .int b9])).length) Slot.unset).toArray = ls at hl ⊢
  have hl : lv_has ls 3 [(0, .ref h0), (1, .int a9), (2, .int b9)] := hl
  refine lv_aload_n hx hb dX4_init_0 rfl (lv_at hl 0 rfl) ?_
  refine W.objInit hx hb hown ho_l ho_i ho_c rfl (by rw [hml]; exact hl.1) rfl dX4_init_1 (Nat.le_of_ble_eq_true rfl) (Nat.le_of_ble_eq_true rfl) ?_
  refine W.eq (g2 := F0 m 4 ls []) rfl ?_
  refine lv_aload_n hx hb dX4_init_4 rfl (lv_at hl 0 rfl) ?_
  refine lv_iload_n hx hb dX4_init_5 rfl (lv_at hl 1 rfl) ?_
  refine lv_bipush (v := 16) hx hb dX4_init_6 (by decide) ?_
  refine vp_callSi (W.runS (As := [.int a9, .int 16]) (rest := [.ref h0]) ⟨hx, hb, hml, hown, hts⟩ (c_X4_nearest l G (x := a9) (mo := 16)) (va_cwS 2 hts gX4_init_X4_nearest rfl rfl rfl (by decide +kernel) ⟨Nat.le_of_ble_eq_true rfl, Nat.le_of_ble_eq_true rfl⟩) ⟨kx_PRb, kx_pr hT hP [] rfl⟩ rfl rfl hl.1 rfl (lv_room (Nat.le_of_ble_eq_true rfl)) dX4_init_8 ⟨show 0 + 0 ≤ 20 from by omega, show 0 + 0 ≤ 559 from by omega⟩) (fun r_1 hw_2 => ?_)
  subst hw_2
  refine kx_ei (y := nI n) hna ?_
  refine va_putF (D := G.1) (ci := 5) (v := .int (nI n)) (ty := .int) (C := RX4) (T := TX4) (N := 7) hx hb hts hin_X4 tyX4 tyX4_ok nmX4 hown hT.1 hP hD hS 0 rfl rfl 0 (by decide) hf_13 (fun _ h9 => h9) rfl hin rfl (by decide +kernel) rfl rfl (Nat.le_of_ble_eq_true rfl) dX4_init_11 (fun H locs hP hD hS => ?_)
  have hP : va_P G.1 vwCl [(h0, .inr (5, [.int (nI n), .int 0, .null, .null, .null, .null, .int 0]))] H := hP
  have hD : va_D A [(h0, .inr (5, [.int (nI n), .int 0, .null, .null, .null, .null, .int 0]))] := hD
  refine lv_aload_n hx hb dX4_init_14 rfl (lv_at hl 0 rfl) ?_
  refine lv_iload_n hx hb dX4_init_15 rfl (lv_at hl 2 rfl) ?_
  refine lv_bipush (v := 8) hx hb dX4_init_16 (by decide) ?_
  refine vp_callSi (W.runS (As := [.int b9, .int 8]) (rest := [.ref h0]) ⟨hx, hb, hml, hown, hts⟩ (c_X4_nearest l G (x := b9) (mo := 8)) (va_cwS 2 hts gX4_init_X4_nearest rfl rfl rfl (by decide +kernel) ⟨Nat.le_of_ble_eq_true rfl, Nat.le_of_ble_eq_true rfl⟩) ⟨kx_PRb, kx_pr hT hP [] rfl⟩ rfl rfl hl.1 rfl (lv_room (Nat.le_of_ble_eq_true rfl)) dX4_init_18 ⟨show 0 + 0 ≤ 20 from by omega, show 0 + 0 ≤ 559 from by omega⟩) (fun r_3 hw_4 => ?_)
  subst hw_4
  refine kx_ei (y := nI v) hvb ?_
  refine va_putF (D := G.1) (ci := 5) (v := .int (nI v)) (ty := .int) (C := RX4) (T := TX4) (N := 7) hx hb hts hin_X4 tyX4 tyX4_ok nmX4 hown hT.1 hP hD hS 0 rfl rfl 1 (by decide) hf_17 (fun _ h9 => h9) rfl hin rfl (by decide +kernel) rfl rfl (Nat.le_of_ble_eq_true rfl) dX4_init_21 (fun H locs hP hD hS => ?_)
  have hP : va_P G.1 vwCl [(h0, .inr (5, [.int (nI n), .int (nI v), .null, .null, .null, .null, .int 0]))] H := hP
  have hD : va_D A [(h0, .inr (5, [.int (nI n), .int (nI v), .null, .null, .null, .null, .int 0]))] := hD
  refine lv_aload_n hx hb dX4_init_24 rfl (lv_at hl 0 rfl) ?_
  refine va_new (ci := 3) (fs := [.int 0, .null, .null, .null, .null, .null, .null]) (C := RX2) (T := TX2) (N := 7) hx hb hts hin_X2 tyX2 tyX2_ok hown hcl_20 hia_RX2 hini_RX2 hT.1 hP hD hS hA rfl (fun j hj => by rcases (show j = 0 ∨ j = 1 ∨ j = 2 ∨ j = 3 ∨ j = 4 ∨ j = 5 ∨ j = 6 by omega) with rfl | rfl | rfl | rfl | rfl | rfl | rfl <;> rfl) (show 0 + 1 ≤ 20 from by omega) (show 0 + 7 ≤ 559 from by omega) dX4_init_25 (fun q_5 H hP hD hS => ?_)
  have hP : va_P G.1 vwCl [(h0, .inr (5, [.int (nI n), .int (nI v), .null, .null, .null, .null, .int 0])), (q_5, .inr (3, [.int 0, .null, .null, .null, .null, .null, .null]))] H := hP
  have hD : va_D A [(h0, .inr (5, [.int (nI n), .int (nI v), .null, .null, .null, .null, .int 0])), (q_5, .inr (3, [.int 0, .null, .null, .null, .null, .null, .null]))] := hD
  refine lv_dup hx hb dX4_init_28 rfl ?_
  refine lv_aload_n hx hb dX4_init_29 rfl (lv_at hl 0 rfl) ?_
  refine va_get (D := G.1) (ci := 5) (v := .int (nI n)) (C := RX4) (T := TX4) (N := 7) hx hb hts hin_X4 hown hT.1 hP 0 rfl rfl 0 (by decide) hf_13 (fun _ h9 => h9) rfl dX4_init_30 ?_
  refine lv_aload_n hx hb dX4_init_33 rfl (lv_at hl 0 rfl) ?_
  refine va_get (D := G.1) (ci := 5) (v := .int (nI v)) (C := RX4) (T := TX4) (N := 7) hx hb hts hin_X4 hown hT.1 hP 0 rfl rfl 1 (by decide) hf_17 (fun _ h9 => h9) rfl dX4_init_34 ?_
  refine kx_mvN (wa := fun u : Nat × Nat × Nat × Nat × Nat × Nat => [(q_5, .inr (3, [.int (nI v), .ref u.1, .ref u.2.1, .ref u.2.2.1, .ref u.2.2.2.1, .ref u.2.2.2.2.1, .ref u.2.2.2.2.2]))]) (wb := fun u : Nat × Nat × Nat × Nat × Nat × Nat => [(u.1, kx_aD G v (kx_cp (fun _ => 0) (fun _ => FP.dconst1) v)), (u.2.1, kx_aD G v (fun _ => 0)), (u.2.2.1, kx_aD G v (kx_cp (fun _ => 0) (fun _ => kx_root FP.dconst1) v)), (u.2.2.2.1, kx_aZ G (n * v) (fun _ => 0)), (u.2.2.2.2.1, kx_aD G (n * v) (fun _ => 0)), (u.2.2.2.2.2, kx_aD G (n * v) (fun _ => 0))]) (va_runI (As := [.int (nI n), .int (nI v)]) (rest := [.ref q_5, .ref h0]) ⟨hx, hb, hml, hown, hts⟩ (c_X2_init l G _ (h0 := q_5) (n := n) (v := v) (hn1 := (by omega)) (hn := (by omega)) (hv1 := (by omega)) (hv := (by omega))) (cwI 2 hts gX4_init_X2_init rfl rfl rfl hini_RX2 hm_22 hins_X2_init rfl (by decide +kernel) ⟨Nat.le_of_ble_eq_true rfl, Nat.le_of_ble_eq_true rfl⟩) ⟨kx_PMb, kx_pm hT hP hD [1] rfl rfl rfl⟩ rfl rfl hl.1 rfl (lv_room (Nat.le_of_ble_eq_true rfl)) dX4_init_37 ⟨show 1 + 6 ≤ 20 from by omega, show (0 + 7) + 408 ≤ 559 from by omega⟩) hP hD hS hA [1] rfl rfl (fun _ => rfl) (fun _ => rfl) (fun u_8 H locs hw_7 hP hD hS => ?_)
  obtain ⟨q_9, q_10, q_11, q_12, q_13, q_14⟩ := u_8
  have hP : va_P G.1 vwCl [(h0, .inr (5, [.int (nI n), .int (nI v), .null, .null, .null, .null, .int 0])), (q_5, .inr (3, [.int (nI v), .ref q_9, .ref q_10, .ref q_11, .ref q_12, .ref q_13, .ref q_14])), (q_9, kx_aD G v (kx_cp (fun _ => 0) (fun _ => FP.dconst1) v)), (q_10, kx_aD G v (fun _ => 0)), (q_11, kx_aD G v (kx_cp (fun _ => 0) (fun _ => kx_root FP.dconst1) v)), (q_12, kx_aZ G (n * v) (fun _ => 0)), (q_13, kx_aD G (n * v) (fun _ => 0)), (q_14, kx_aD G (n * v) (fun _ => 0))] H := hP
  have hD : va_D A [(h0, .inr (5, [.int (nI n), .int (nI v), .null, .null, .null, .null, .int 0])), (q_5, .inr (3, [.int (nI v), .ref q_9, .ref q_10, .ref q_11, .ref q_12, .ref q_13, .ref q_14])), (q_9, kx_aD G v (kx_cp (fun _ => 0) (fun _ => FP.dconst1) v)), (q_10, kx_aD G v (fun _ => 0)), (q_11, kx_aD G v (kx_cp (fun _ => 0) (fun _ => kx_root FP.dconst1) v)), (q_12, kx_aZ G (n * v) (fun _ => 0)), (q_13, kx_aD G (n * v) (fun _ => 0)), (q_14, kx_aD G (n * v) (fun _ => 0))] := hD
  refine va_putF (D := G.1) (ci := 5) (v := .ref q_5) (ty := .object "StemShapes$Shadows") (C := RX4) (T := TX4) (N := 7) hx hb hts hin_X4 tyX4 tyX4_ok nmX4 hown hT.1 hP hD hS 0 rfl rfl 2 (by decide) hf_25 (fun _ h9 => h9) rfl hin rfl (by decide +kernel) rfl rfl (Nat.le_of_ble_eq_true rfl) dX4_init_40 (fun H locs hP hD hS => ?_)
  have hP : va_P G.1 vwCl [(h0, .inr (5, [.int (nI n), .int (nI v), .ref q_5, .null, .null, .null, .int 0])), (q_5, .inr (3, [.int (nI v), .ref q_9, .ref q_10, .ref q_11, .ref q_12, .ref q_13, .ref q_14])), (q_9, kx_aD G v (kx_cp (fun _ => 0) (fun _ => FP.dconst1) v)), (q_10, kx_aD G v (fun _ => 0)), (q_11, kx_aD G v (kx_cp (fun _ => 0) (fun _ => kx_root FP.dconst1) v)), (q_12, kx_aZ G (n * v) (fun _ => 0)), (q_13, kx_aD G (n * v) (fun _ => 0)), (q_14, kx_aD G (n * v) (fun _ => 0))] H := hP
  have hD : va_D A [(h0, .inr (5, [.int (nI n), .int (nI v), .ref q_5, .null, .null, .null, .int 0])), (q_5, .inr (3, [.int (nI v), .ref q_9, .ref q_10, .ref q_11, .ref q_12, .ref q_13, .ref q_14])), (q_9, kx_aD G v (kx_cp (fun _ => 0) (fun _ => FP.dconst1) v)), (q_10, kx_aD G v (fun _ => 0)), (q_11, kx_aD G v (kx_cp (fun _ => 0) (fun _ => kx_root FP.dconst1) v)), (q_12, kx_aZ G (n * v) (fun _ => 0)), (q_13, kx_aD G (n * v) (fun _ => 0)), (q_14, kx_aD G (n * v) (fun _ => 0))] := hD
  refine lv_aload_n hx hb dX4_init_43 rfl (lv_at hl 0 rfl) ?_
  refine va_new (ci := 4) (fs := [.int 0, .null, .null, .null, .null, .null, .int 0]) (C := RX3) (T := TX3) (N := 7) hx hb hts hin_X3 tyX3 tyX3_ok hown hcl_29 hia_RX3 hini_RX3 hT.1 hP hD hS hA rfl (fun j hj => by rcases (show j = 0 ∨ j = 1 ∨ j = 2 ∨ j = 3 ∨ j = 4 ∨ j = 5 ∨ j = 6 by omega) with rfl | rfl | rfl | rfl | rfl | rfl | rfl <;> rfl) (show 7 + 1 ≤ 20 from by omega) (show ((0 + 7) + 408) + 7 ≤ 559 from by omega) dX4_init_44 (fun q_15 H hP hD hS => ?_)
  have hP : va_P G.1 vwCl [(h0, .inr (5, [.int (nI n), .int (nI v), .ref q_5, .null, .null, .null, .int 0])), (q_5, .inr (3, [.int (nI v), .ref q_9, .ref q_10, .ref q_11, .ref q_12, .ref q_13, .ref q_14])), (q_9, kx_aD G v (kx_cp (fun _ => 0) (fun _ => FP.dconst1) v)), (q_10, kx_aD G v (fun _ => 0)), (q_11, kx_aD G v (kx_cp (fun _ => 0) (fun _ => kx_root FP.dconst1) v)), (q_12, kx_aZ G (n * v) (fun _ => 0)), (q_13, kx_aD G (n * v) (fun _ => 0)), (q_14, kx_aD G (n * v) (fun _ => 0)), (q_15, .inr (4, [.int 0, .null, .null, .null, .null, .null, .int 0]))] H := hP
  have hD : va_D A [(h0, .inr (5, [.int (nI n), .int (nI v), .ref q_5, .null, .null, .null, .int 0])), (q_5, .inr (3, [.int (nI v), .ref q_9, .ref q_10, .ref q_11, .ref q_12, .ref q_13, .ref q_14])), (q_9, kx_aD G v (kx_cp (fun _ => 0) (fun _ => FP.dconst1) v)), (q_10, kx_aD G v (fun _ => 0)), (q_11, kx_aD G v (kx_cp (fun _ => 0) (fun _ => kx_root FP.dconst1) v)), (q_12, kx_aZ G (n * v) (fun _ => 0)), (q_13, kx_aD G (n * v) (fun _ => 0)), (q_14, kx_aD G (n * v) (fun _ => 0)), (q_15, .inr (4, [.int 0, .null, .null, .null, .null, .null, .int 0]))] := hD
  refine lv_dup hx hb dX4_init_47 rfl ?_
  refine lv_aload_n hx hb dX4_init_48 rfl (lv_at hl 0 rfl) ?_
  refine va_get (D := G.1) (ci := 5) (v := .int (nI n)) (C := RX4) (T := TX4) (N := 7) hx hb hts hin_X4 hown hT.1 hP 0 rfl rfl 0 (by decide) hf_13 (fun _ h9 => h9) rfl dX4_init_49 ?_
  refine kx_mvN (wa := fun u : Nat × Nat × Nat × Nat × Nat => [(q_15, .inr (4, [.int (nI n), .ref u.1, .ref u.2.1, .ref u.2.2.1, .ref u.2.2.2.1, .ref u.2.2.2.2, .int 0]))]) (wb := fun u : Nat × Nat × Nat × Nat × Nat => [(u.1, kx_aD G n (fun _ => 0)), (u.2.1, kx_aD G n (fun _ => 0)), (u.2.2.1, kx_aD G n (fun _ => 0)), (u.2.2.2.1, kx_aD G n (fun _ => 0)), (u.2.2.2.2, kx_aZ G n (fun _ => 0))]) (va_runI (As := [.int (nI n)]) (rest := [.ref q_15, .ref h0]) ⟨hx, hb, hml, hown, hts⟩ (c_X3_init l G _ (h0 := q_15) (n := n) (hn1 := (by omega)) (hn := (by omega))) (cwI 1 hts gX4_init_X3_init rfl rfl rfl hini_RX3 hm_31 hins_X3_init rfl (by decide +kernel) ⟨Nat.le_of_ble_eq_true rfl, Nat.le_of_ble_eq_true rfl⟩) ⟨kx_PMb, kx_pm hT hP hD [8] rfl rfl rfl⟩ rfl rfl hl.1 rfl (lv_room (Nat.le_of_ble_eq_true rfl)) dX4_init_52 ⟨show 8 + 5 ≤ 20 from by omega, show (((0 + 7) + 408) + 7) + 80 ≤ 559 from by omega⟩) hP hD hS hA [8] rfl rfl (fun _ => rfl) (fun _ => rfl) (fun u_18 H locs hw_17 hP hD hS => ?_)
  obtain ⟨q_19, q_20, q_21, q_22, q_23⟩ := u_18
  have hP : va_P G.1 vwCl [(h0, .inr (5, [.int (nI n), .int (nI v), .ref q_5, .null, .null, .null, .int 0])), (q_5, .inr (3, [.int (nI v), .ref q_9, .ref q_10, .ref q_11, .ref q_12, .ref q_13, .ref q_14])), (q_9, kx_aD G v (kx_cp (fun _ => 0) (fun _ => FP.dconst1) v)), (q_10, kx_aD G v (fun _ => 0)), (q_11, kx_aD G v (kx_cp (fun _ => 0) (fun _ => kx_root FP.dconst1) v)), (q_12, kx_aZ G (n * v) (fun _ => 0)), (q_13, kx_aD G (n * v) (fun _ => 0)), (q_14, kx_aD G (n * v) (fun _ => 0)), (q_15, .inr (4, [.int (nI n), .ref q_19, .ref q_20, .ref q_21, .ref q_22, .ref q_23, .int 0])), (q_19, kx_aD G n (fun _ => 0)), (q_20, kx_aD G n (fun _ => 0)), (q_21, kx_aD G n (fun _ => 0)), (q_22, kx_aD G n (fun _ => 0)), (q_23, kx_aZ G n (fun _ => 0))] H := hP
  have hD : va_D A [(h0, .inr (5, [.int (nI n), .int (nI v), .ref q_5, .null, .null, .null, .int 0])), (q_5, .inr (3, [.int (nI v), .ref q_9, .ref q_10, .ref q_11, .ref q_12, .ref q_13, .ref q_14])), (q_9, kx_aD G v (kx_cp (fun _ => 0) (fun _ => FP.dconst1) v)), (q_10, kx_aD G v (fun _ => 0)), (q_11, kx_aD G v (kx_cp (fun _ => 0) (fun _ => kx_root FP.dconst1) v)), (q_12, kx_aZ G (n * v) (fun _ => 0)), (q_13, kx_aD G (n * v) (fun _ => 0)), (q_14, kx_aD G (n * v) (fun _ => 0)), (q_15, .inr (4, [.int (nI n), .ref q_19, .ref q_20, .ref q_21, .ref q_22, .ref q_23, .int 0])), (q_19, kx_aD G n (fun _ => 0)), (q_20, kx_aD G n (fun _ => 0)), (q_21, kx_aD G n (fun _ => 0)), (q_22, kx_aD G n (fun _ => 0)), (q_23, kx_aZ G n (fun _ => 0))] := hD
  refine va_putF (D := G.1) (ci := 5) (v := .ref q_15) (ty := .object "StemShapes$Stem") (C := RX4) (T := TX4) (N := 7) hx hb hts hin_X4 tyX4 tyX4_ok nmX4 hown hT.1 hP hD hS 0 rfl rfl 3 (by decide) hf_34 (fun _ h9 => h9) rfl hin rfl (by decide +kernel) rfl rfl (Nat.le_of_ble_eq_true rfl) dX4_init_55 (fun H locs hP hD hS => ?_)
  have hP : va_P G.1 vwCl [(h0, .inr (5, [.int (nI n), .int (nI v), .ref q_5, .ref q_15, .null, .null, .int 0])), (q_5, .inr (3, [.int (nI v), .ref q_9, .ref q_10, .ref q_11, .ref q_12, .ref q_13, .ref q_14])), (q_9, kx_aD G v (kx_cp (fun _ => 0) (fun _ => FP.dconst1) v)), (q_10, kx_aD G v (fun _ => 0)), (q_11, kx_aD G v (kx_cp (fun _ => 0) (fun _ => kx_root FP.dconst1) v)), (q_12, kx_aZ G (n * v) (fun _ => 0)), (q_13, kx_aD G (n * v) (fun _ => 0)), (q_14, kx_aD G (n * v) (fun _ => 0)), (q_15, .inr (4, [.int (nI n), .ref q_19, .ref q_20, .ref q_21, .ref q_22, .ref q_23, .int 0])), (q_19, kx_aD G n (fun _ => 0)), (q_20, kx_aD G n (fun _ => 0)), (q_21, kx_aD G n (fun _ => 0)), (q_22, kx_aD G n (fun _ => 0)), (q_23, kx_aZ G n (fun _ => 0))] H := hP
  have hD : va_D A [(h0, .inr (5, [.int (nI n), .int (nI v), .ref q_5, .ref q_15, .null, .null, .int 0])), (q_5, .inr (3, [.int (nI v), .ref q_9, .ref q_10, .ref q_11, .ref q_12, .ref q_13, .ref q_14])), (q_9, kx_aD G v (kx_cp (fun _ => 0) (fun _ => FP.dconst1) v)), (q_10, kx_aD G v (fun _ => 0)), (q_11, kx_aD G v (kx_cp (fun _ => 0) (fun _ => kx_root FP.dconst1) v)), (q_12, kx_aZ G (n * v) (fun _ => 0)), (q_13, kx_aD G (n * v) (fun _ => 0)), (q_14, kx_aD G (n * v) (fun _ => 0)), (q_15, .inr (4, [.int (nI n), .ref q_19, .ref q_20, .ref q_21, .ref q_22, .ref q_23, .int 0])), (q_19, kx_aD G n (fun _ => 0)), (q_20, kx_aD G n (fun _ => 0)), (q_21, kx_aD G n (fun _ => 0)), (q_22, kx_aD G n (fun _ => 0)), (q_23, kx_aZ G n (fun _ => 0))] := hD
  refine lv_aload_n hx hb dX4_init_58 rfl (lv_at hl 0 rfl) ?_
  refine va_new (ci := 1) (fs := [.null, .null, .int 0]) (C := RX0) (T := TX0) (N := 3) hx hb hts hin_X0 tyX0 tyX0_ok hown hcl_38 hia_RX0 hini_RX0 hT.1 hP hD hS hA rfl (fun j hj => by rcases (show j = 0 ∨ j = 1 ∨ j = 2 by omega) with rfl | rfl | rfl <;> rfl) (show 13 + 1 ≤ 20 from by omega) (show ((((0 + 7) + 408) + 7) + 80) + 3 ≤ 559 from by omega) dX4_init_59 (fun q_24 H hP hD hS => ?_)
  have hP : va_P G.1 vwCl [(h0, .inr (5, [.int (nI n), .int (nI v), .ref q_5, .ref q_15, .null, .null, .int 0])), (q_5, .inr (3, [.int (nI v), .ref q_9, .ref q_10, .ref q_11, .ref q_12, .ref q_13, .ref q_14])), (q_9, kx_aD G v (kx_cp (fun _ => 0) (fun _ => FP.dconst1) v)), (q_10, kx_aD G v (fun _ => 0)), (q_11, kx_aD G v (kx_cp (fun _ => 0) (fun _ => kx_root FP.dconst1) v)), (q_12, kx_aZ G (n * v) (fun _ => 0)), (q_13, kx_aD G (n * v) (fun _ => 0)), (q_14, kx_aD G (n * v) (fun _ => 0)), (q_15, .inr (4, [.int (nI n), .ref q_19, .ref q_20, .ref q_21, .ref q_22, .ref q_23, .int 0])), (q_19, kx_aD G n (fun _ => 0)), (q_20, kx_aD G n (fun _ => 0)), (q_21, kx_aD G n (fun _ => 0)), (q_22, kx_aD G n (fun _ => 0)), (q_23, kx_aZ G n (fun _ => 0)), (q_24, .inr (1, [.null, .null, .int 0]))] H := hP
  have hD : va_D A [(h0, .inr (5, [.int (nI n), .int (nI v), .ref q_5, .ref q_15, .null, .null, .int 0])), (q_5, .inr (3, [.int (nI v), .ref q_9, .ref q_10, .ref q_11, .ref q_12, .ref q_13, .ref q_14])), (q_9, kx_aD G v (kx_cp (fun _ => 0) (fun _ => FP.dconst1) v)), (q_10, kx_aD G v (fun _ => 0)), (q_11, kx_aD G v (kx_cp (fun _ => 0) (fun _ => kx_root FP.dconst1) v)), (q_12, kx_aZ G (n * v) (fun _ => 0)), (q_13, kx_aD G (n * v) (fun _ => 0)), (q_14, kx_aD G (n * v) (fun _ => 0)), (q_15, .inr (4, [.int (nI n), .ref q_19, .ref q_20, .ref q_21, .ref q_22, .ref q_23, .int 0])), (q_19, kx_aD G n (fun _ => 0)), (q_20, kx_aD G n (fun _ => 0)), (q_21, kx_aD G n (fun _ => 0)), (q_22, kx_aD G n (fun _ => 0)), (q_23, kx_aZ G n (fun _ => 0)), (q_24, .inr (1, [.null, .null, .int 0]))] := hD
  refine lv_dup hx hb dX4_init_62 rfl ?_
  refine lv_aload_n hx hb dX4_init_63 rfl (lv_at hl 0 rfl) ?_
  refine va_get (D := G.1) (ci := 5) (v := .int (nI n)) (C := RX4) (T := TX4) (N := 7) hx hb hts hin_X4 hown hT.1 hP 0 rfl rfl 0 (by decide) hf_13 (fun _ h9 => h9) rfl dX4_init_64 ?_
  refine kx_mvN (wa := fun u : Nat × Nat => [(q_24, .inr (1, [.ref u.1, .ref u.2, .int 0]))]) (wb := fun u : Nat × Nat => [(u.1, kx_aD G n (fun _ => 0)), (u.2, kx_aD G n (fun _ => 0))]) (va_runI (As := [.int (nI n)]) (rest := [.ref q_24, .ref h0]) ⟨hx, hb, hml, hown, hts⟩ (c_X0_init l G _ (h0 := q_24) (n := n) (hn1 := (by omega)) (hn := (by omega))) (cwI 1 hts gX4_init_X0_init rfl rfl rfl hini_RX0 hm_40 hins_X0_init rfl (by decide +kernel) ⟨Nat.le_of_ble_eq_true rfl, Nat.le_of_ble_eq_true rfl⟩) ⟨kx_PMb, kx_pm hT hP hD [14] rfl rfl rfl⟩ rfl rfl hl.1 rfl (lv_room (Nat.le_of_ble_eq_true rfl)) dX4_init_67 ⟨show 14 + 2 ≤ 20 from by omega, show (((((0 + 7) + 408) + 7) + 80) + 3) + 32 ≤ 559 from by omega⟩) hP hD hS hA [14] rfl rfl (fun _ => rfl) (fun _ => rfl) (fun u_27 H locs hw_26 hP hD hS => ?_)
  obtain ⟨q_28, q_29⟩ := u_27
  have hP : va_P G.1 vwCl [(h0, .inr (5, [.int (nI n), .int (nI v), .ref q_5, .ref q_15, .null, .null, .int 0])), (q_5, .inr (3, [.int (nI v), .ref q_9, .ref q_10, .ref q_11, .ref q_12, .ref q_13, .ref q_14])), (q_9, kx_aD G v (kx_cp (fun _ => 0) (fun _ => FP.dconst1) v)), (q_10, kx_aD G v (fun _ => 0)), (q_11, kx_aD G v (kx_cp (fun _ => 0) (fun _ => kx_root FP.dconst1) v)), (q_12, kx_aZ G (n * v) (fun _ => 0)), (q_13, kx_aD G (n * v) (fun _ => 0)), (q_14, kx_aD G (n * v) (fun _ => 0)), (q_15, .inr (4, [.int (nI n), .ref q_19, .ref q_20, .ref q_21, .ref q_22, .ref q_23, .int 0])), (q_19, kx_aD G n (fun _ => 0)), (q_20, kx_aD G n (fun _ => 0)), (q_21, kx_aD G n (fun _ => 0)), (q_22, kx_aD G n (fun _ => 0)), (q_23, kx_aZ G n (fun _ => 0)), (q_24, .inr (1, [.ref q_28, .ref q_29, .int 0])), (q_28, kx_aD G n (fun _ => 0)), (q_29, kx_aD G n (fun _ => 0))] H := hP
  have hD : va_D A [(h0, .inr (5, [.int (nI n), .int (nI v), .ref q_5, .ref q_15, .null, .null, .int 0])), (q_5, .inr (3, [.int (nI v), .ref q_9, .ref q_10, .ref q_11, .ref q_12, .ref q_13, .ref q_14])), (q_9, kx_aD G v (kx_cp (fun _ => 0) (fun _ => FP.dconst1) v)), (q_10, kx_aD G v (fun _ => 0)), (q_11, kx_aD G v (kx_cp (fun _ => 0) (fun _ => kx_root FP.dconst1) v)), (q_12, kx_aZ G (n * v) (fun _ => 0)), (q_13, kx_aD G (n * v) (fun _ => 0)), (q_14, kx_aD G (n * v) (fun _ => 0)), (q_15, .inr (4, [.int (nI n), .ref q_19, .ref q_20, .ref q_21, .ref q_22, .ref q_23, .int 0])), (q_19, kx_aD G n (fun _ => 0)), (q_20, kx_aD G n (fun _ => 0)), (q_21, kx_aD G n (fun _ => 0)), (q_22, kx_aD G n (fun _ => 0)), (q_23, kx_aZ G n (fun _ => 0)), (q_24, .inr (1, [.ref q_28, .ref q_29, .int 0])), (q_28, kx_aD G n (fun _ => 0)), (q_29, kx_aD G n (fun _ => 0))] := hD
  refine va_putF (D := G.1) (ci := 5) (v := .ref q_24) (ty := .object "StemShapes$Kept") (C := RX4) (T := TX4) (N := 7) hx hb hts hin_X4 tyX4 tyX4_ok nmX4 hown hT.1 hP hD hS 0 rfl rfl 4 (by decide) hf_41 (fun _ h9 => h9) rfl hin rfl (by decide +kernel) rfl rfl (Nat.le_of_ble_eq_true rfl) dX4_init_70 (fun H locs hP hD hS => ?_)
  have hP : va_P G.1 vwCl [(h0, .inr (5, [.int (nI n), .int (nI v), .ref q_5, .ref q_15, .ref q_24, .null, .int 0])), (q_5, .inr (3, [.int (nI v), .ref q_9, .ref q_10, .ref q_11, .ref q_12, .ref q_13, .ref q_14])), (q_9, kx_aD G v (kx_cp (fun _ => 0) (fun _ => FP.dconst1) v)), (q_10, kx_aD G v (fun _ => 0)), (q_11, kx_aD G v (kx_cp (fun _ => 0) (fun _ => kx_root FP.dconst1) v)), (q_12, kx_aZ G (n * v) (fun _ => 0)), (q_13, kx_aD G (n * v) (fun _ => 0)), (q_14, kx_aD G (n * v) (fun _ => 0)), (q_15, .inr (4, [.int (nI n), .ref q_19, .ref q_20, .ref q_21, .ref q_22, .ref q_23, .int 0])), (q_19, kx_aD G n (fun _ => 0)), (q_20, kx_aD G n (fun _ => 0)), (q_21, kx_aD G n (fun _ => 0)), (q_22, kx_aD G n (fun _ => 0)), (q_23, kx_aZ G n (fun _ => 0)), (q_24, .inr (1, [.ref q_28, .ref q_29, .int 0])), (q_28, kx_aD G n (fun _ => 0)), (q_29, kx_aD G n (fun _ => 0))] H := hP
  have hD : va_D A [(h0, .inr (5, [.int (nI n), .int (nI v), .ref q_5, .ref q_15, .ref q_24, .null, .int 0])), (q_5, .inr (3, [.int (nI v), .ref q_9, .ref q_10, .ref q_11, .ref q_12, .ref q_13, .ref q_14])), (q_9, kx_aD G v (kx_cp (fun _ => 0) (fun _ => FP.dconst1) v)), (q_10, kx_aD G v (fun _ => 0)), (q_11, kx_aD G v (kx_cp (fun _ => 0) (fun _ => kx_root FP.dconst1) v)), (q_12, kx_aZ G (n * v) (fun _ => 0)), (q_13, kx_aD G (n * v) (fun _ => 0)), (q_14, kx_aD G (n * v) (fun _ => 0)), (q_15, .inr (4, [.int (nI n), .ref q_19, .ref q_20, .ref q_21, .ref q_22, .ref q_23, .int 0])), (q_19, kx_aD G n (fun _ => 0)), (q_20, kx_aD G n (fun _ => 0)), (q_21, kx_aD G n (fun _ => 0)), (q_22, kx_aD G n (fun _ => 0)), (q_23, kx_aZ G n (fun _ => 0)), (q_24, .inr (1, [.ref q_28, .ref q_29, .int 0])), (q_28, kx_aD G n (fun _ => 0)), (q_29, kx_aD G n (fun _ => 0))] := hD
  refine lv_aload_n hx hb dX4_init_73 rfl (lv_at hl 0 rfl) ?_
  refine va_new (ci := 2) (fs := [.null, .null, .null, .int 0]) (C := RX1) (T := TX1) (N := 4) hx hb hts hin_X1 tyX1 tyX1_ok hown hcl_45 hia_RX1 hini_RX1 hT.1 hP hD hS hA rfl (fun j hj => by rcases (show j = 0 ∨ j = 1 ∨ j = 2 ∨ j = 3 by omega) with rfl | rfl | rfl | rfl <;> rfl) (show 16 + 1 ≤ 20 from by omega) (show ((((((0 + 7) + 408) + 7) + 80) + 3) + 32) + 4 ≤ 559 from by omega) dX4_init_74 (fun q_30 H hP hD hS => ?_)
  have hP : va_P G.1 vwCl [(h0, .inr (5, [.int (nI n), .int (nI v), .ref q_5, .ref q_15, .ref q_24, .null, .int 0])), (q_5, .inr (3, [.int (nI v), .ref q_9, .ref q_10, .ref q_11, .ref q_12, .ref q_13, .ref q_14])), (q_9, kx_aD G v (kx_cp (fun _ => 0) (fun _ => FP.dconst1) v)), (q_10, kx_aD G v (fun _ => 0)), (q_11, kx_aD G v (kx_cp (fun _ => 0) (fun _ => kx_root FP.dconst1) v)), (q_12, kx_aZ G (n * v) (fun _ => 0)), (q_13, kx_aD G (n * v) (fun _ => 0)), (q_14, kx_aD G (n * v) (fun _ => 0)), (q_15, .inr (4, [.int (nI n), .ref q_19, .ref q_20, .ref q_21, .ref q_22, .ref q_23, .int 0])), (q_19, kx_aD G n (fun _ => 0)), (q_20, kx_aD G n (fun _ => 0)), (q_21, kx_aD G n (fun _ => 0)), (q_22, kx_aD G n (fun _ => 0)), (q_23, kx_aZ G n (fun _ => 0)), (q_24, .inr (1, [.ref q_28, .ref q_29, .int 0])), (q_28, kx_aD G n (fun _ => 0)), (q_29, kx_aD G n (fun _ => 0)), (q_30, .inr (2, [.null, .null, .null, .int 0]))] H := hP
  have hD : va_D A [(h0, .inr (5, [.int (nI n), .int (nI v), .ref q_5, .ref q_15, .ref q_24, .null, .int 0])), (q_5, .inr (3, [.int (nI v), .ref q_9, .ref q_10, .ref q_11, .ref q_12, .ref q_13, .ref q_14])), (q_9, kx_aD G v (kx_cp (fun _ => 0) (fun _ => FP.dconst1) v)), (q_10, kx_aD G v (fun _ => 0)), (q_11, kx_aD G v (kx_cp (fun _ => 0) (fun _ => kx_root FP.dconst1) v)), (q_12, kx_aZ G (n * v) (fun _ => 0)), (q_13, kx_aD G (n * v) (fun _ => 0)), (q_14, kx_aD G (n * v) (fun _ => 0)), (q_15, .inr (4, [.int (nI n), .ref q_19, .ref q_20, .ref q_21, .ref q_22, .ref q_23, .int 0])), (q_19, kx_aD G n (fun _ => 0)), (q_20, kx_aD G n (fun _ => 0)), (q_21, kx_aD G n (fun _ => 0)), (q_22, kx_aD G n (fun _ => 0)), (q_23, kx_aZ G n (fun _ => 0)), (q_24, .inr (1, [.ref q_28, .ref q_29, .int 0])), (q_28, kx_aD G n (fun _ => 0)), (q_29, kx_aD G n (fun _ => 0)), (q_30, .inr (2, [.null, .null, .null, .int 0]))] := hD
  refine lv_dup hx hb dX4_init_77 rfl ?_
  refine kx_mvN (wa := fun u : Nat × Nat × Nat => [(q_30, .inr (2, [.ref u.1, .ref u.2.1, .ref u.2.2, .int 0]))]) (wb := fun u : Nat × Nat × Nat => [(u.1, kx_aI G 6 (fun _ => 0)), (u.2.1, kx_aD G 6 (fun _ => 0)), (u.2.2, kx_aI G 6 (fun _ => 0))]) (va_runIN (As := []) (rest := [.ref q_30, .ref h0]) ⟨hx, hb, hml, hown, hts⟩ (c_X1_init l G _ (h0 := q_30)) ⟨va_cnB 0 hts gX4_init_X1_init_n47 rfl rfl rfl hm_47 hini_RX1 (by decide +kernel) ⟨Nat.le_of_ble_eq_true rfl, Nat.le_of_ble_eq_true rfl⟩, rfl, hins_X1_init⟩ ⟨kx_PMb, kx_pm hT hP hD [17] rfl rfl rfl⟩ rfl rfl hl.1 rfl (lv_room (Nat.le_of_ble_eq_true rfl)) dX4_init_78 ⟨show 17 + 3 ≤ 20 from by omega, show (((((((0 + 7) + 408) + 7) + 80) + 3) + 32) + 4) + 18 ≤ 559 from by omega⟩) hP hD hS hA [17] rfl rfl (fun _ => rfl) (fun _ => rfl) (fun u_33 H locs hw_32 hP hD hS => ?_)
  obtain ⟨q_34, q_35, q_36⟩ := u_33
  have hP : va_P G.1 vwCl [(h0, .inr (5, [.int (nI n), .int (nI v), .ref q_5, .ref q_15, .ref q_24, .null, .int 0])), (q_5, .inr (3, [.int (nI v), .ref q_9, .ref q_10, .ref q_11, .ref q_12, .ref q_13, .ref q_14])), (q_9, kx_aD G v (kx_cp (fun _ => 0) (fun _ => FP.dconst1) v)), (q_10, kx_aD G v (fun _ => 0)), (q_11, kx_aD G v (kx_cp (fun _ => 0) (fun _ => kx_root FP.dconst1) v)), (q_12, kx_aZ G (n * v) (fun _ => 0)), (q_13, kx_aD G (n * v) (fun _ => 0)), (q_14, kx_aD G (n * v) (fun _ => 0)), (q_15, .inr (4, [.int (nI n), .ref q_19, .ref q_20, .ref q_21, .ref q_22, .ref q_23, .int 0])), (q_19, kx_aD G n (fun _ => 0)), (q_20, kx_aD G n (fun _ => 0)), (q_21, kx_aD G n (fun _ => 0)), (q_22, kx_aD G n (fun _ => 0)), (q_23, kx_aZ G n (fun _ => 0)), (q_24, .inr (1, [.ref q_28, .ref q_29, .int 0])), (q_28, kx_aD G n (fun _ => 0)), (q_29, kx_aD G n (fun _ => 0)), (q_30, .inr (2, [.ref q_34, .ref q_35, .ref q_36, .int 0])), (q_34, kx_aI G 6 (fun _ => 0)), (q_35, kx_aD G 6 (fun _ => 0)), (q_36, kx_aI G 6 (fun _ => 0))] H := hP
  have hD : va_D A [(h0, .inr (5, [.int (nI n), .int (nI v), .ref q_5, .ref q_15, .ref q_24, .null, .int 0])), (q_5, .inr (3, [.int (nI v), .ref q_9, .ref q_10, .ref q_11, .ref q_12, .ref q_13, .ref q_14])), (q_9, kx_aD G v (kx_cp (fun _ => 0) (fun _ => FP.dconst1) v)), (q_10, kx_aD G v (fun _ => 0)), (q_11, kx_aD G v (kx_cp (fun _ => 0) (fun _ => kx_root FP.dconst1) v)), (q_12, kx_aZ G (n * v) (fun _ => 0)), (q_13, kx_aD G (n * v) (fun _ => 0)), (q_14, kx_aD G (n * v) (fun _ => 0)), (q_15, .inr (4, [.int (nI n), .ref q_19, .ref q_20, .ref q_21, .ref q_22, .ref q_23, .int 0])), (q_19, kx_aD G n (fun _ => 0)), (q_20, kx_aD G n (fun _ => 0)), (q_21, kx_aD G n (fun _ => 0)), (q_22, kx_aD G n (fun _ => 0)), (q_23, kx_aZ G n (fun _ => 0)), (q_24, .inr (1, [.ref q_28, .ref q_29, .int 0])), (q_28, kx_aD G n (fun _ => 0)), (q_29, kx_aD G n (fun _ => 0)), (q_30, .inr (2, [.ref q_34, .ref q_35, .ref q_36, .int 0])), (q_34, kx_aI G 6 (fun _ => 0)), (q_35, kx_aD G 6 (fun _ => 0)), (q_36, kx_aI G 6 (fun _ => 0))] := hD
  refine va_putF (D := G.1) (ci := 5) (v := .ref q_30) (ty := .object "StemShapes$RuleList") (C := RX4) (T := TX4) (N := 7) hx hb hts hin_X4 tyX4 tyX4_ok nmX4 hown hT.1 hP hD hS 0 rfl rfl 5 (by decide) hf_48 (fun _ h9 => h9) rfl hin rfl (by decide +kernel) rfl rfl (Nat.le_of_ble_eq_true rfl) dX4_init_81 (fun H locs hP hD hS => ?_)
  have hP : va_P G.1 vwCl [(h0, .inr (5, [.int (nI n), .int (nI v), .ref q_5, .ref q_15, .ref q_24, .ref q_30, .int 0])), (q_5, .inr (3, [.int (nI v), .ref q_9, .ref q_10, .ref q_11, .ref q_12, .ref q_13, .ref q_14])), (q_9, kx_aD G v (kx_cp (fun _ => 0) (fun _ => FP.dconst1) v)), (q_10, kx_aD G v (fun _ => 0)), (q_11, kx_aD G v (kx_cp (fun _ => 0) (fun _ => kx_root FP.dconst1) v)), (q_12, kx_aZ G (n * v) (fun _ => 0)), (q_13, kx_aD G (n * v) (fun _ => 0)), (q_14, kx_aD G (n * v) (fun _ => 0)), (q_15, .inr (4, [.int (nI n), .ref q_19, .ref q_20, .ref q_21, .ref q_22, .ref q_23, .int 0])), (q_19, kx_aD G n (fun _ => 0)), (q_20, kx_aD G n (fun _ => 0)), (q_21, kx_aD G n (fun _ => 0)), (q_22, kx_aD G n (fun _ => 0)), (q_23, kx_aZ G n (fun _ => 0)), (q_24, .inr (1, [.ref q_28, .ref q_29, .int 0])), (q_28, kx_aD G n (fun _ => 0)), (q_29, kx_aD G n (fun _ => 0)), (q_30, .inr (2, [.ref q_34, .ref q_35, .ref q_36, .int 0])), (q_34, kx_aI G 6 (fun _ => 0)), (q_35, kx_aD G 6 (fun _ => 0)), (q_36, kx_aI G 6 (fun _ => 0))] H := hP
  have hD : va_D A [(h0, .inr (5, [.int (nI n), .int (nI v), .ref q_5, .ref q_15, .ref q_24, .ref q_30, .int 0])), (q_5, .inr (3, [.int (nI v), .ref q_9, .ref q_10, .ref q_11, .ref q_12, .ref q_13, .ref q_14])), (q_9, kx_aD G v (kx_cp (fun _ => 0) (fun _ => FP.dconst1) v)), (q_10, kx_aD G v (fun _ => 0)), (q_11, kx_aD G v (kx_cp (fun _ => 0) (fun _ => kx_root FP.dconst1) v)), (q_12, kx_aZ G (n * v) (fun _ => 0)), (q_13, kx_aD G (n * v) (fun _ => 0)), (q_14, kx_aD G (n * v) (fun _ => 0)), (q_15, .inr (4, [.int (nI n), .ref q_19, .ref q_20, .ref q_21, .ref q_22, .ref q_23, .int 0])), (q_19, kx_aD G n (fun _ => 0)), (q_20, kx_aD G n (fun _ => 0)), (q_21, kx_aD G n (fun _ => 0)), (q_22, kx_aD G n (fun _ => 0)), (q_23, kx_aZ G n (fun _ => 0)), (q_24, .inr (1, [.ref q_28, .ref q_29, .int 0])), (q_28, kx_aD G n (fun _ => 0)), (q_29, kx_aD G n (fun _ => 0)), (q_30, .inr (2, [.ref q_34, .ref q_35, .ref q_36, .int 0])), (q_34, kx_aI G 6 (fun _ => 0)), (q_35, kx_aD G 6 (fun _ => 0)), (q_36, kx_aI G 6 (fun _ => 0))] := hD
  refine W.widen (k := 20) (n := 559) (by omega) (by omega) ?_
  exact W.vret hx hb hr (fun t ht hW => ⟨⟨(q_5, q_9, q_10, q_11, q_12, q_13, q_14, q_15, q_19, q_20, q_21, q_22, q_23, q_24, q_28, q_29, q_30, q_34, q_35, q_36), rfl, trivial, And.intro (by rw [ht]; exact hP) hD⟩, hS.F ht⟩) hS.2.2 dX4_init_84
set_option maxHeartbeats 4000000 in
set_option maxRecDepth 100000 in
/-- a new reference -/
theorem c_X5_init (l : Launch) (G : kx_G) (sz : Nat) (h0 : Nat) (n : Nat) (v : Nat) (a9 : Int32) (b9 : Int32)  (hn1 : 1 ≤ n) (hn : n ≤ 16) (hv1 : 1 ≤ v) (hv : v ≤ 8) (hna : kx_ne a9 16 = nI n) (hvb : kx_ne b9 8 = nI v) : Met l yX5_init wsX5_init ({ frames := 1, cells := 12, slots := 530, locals := 12 } : Room) (kx_PM G [.ref h0, .int a9, .int b9] sz [(h0, .inr (6, [.int 0, .int 0, .int 0, .null, .null, .null, .null, .null, .int 0, .int 0, .null, .null, .int 0, .null, .null, .null, .int 0, .null, .null]))]) (va_Qv (fun (_ : Nat × Nat × Nat × Nat × Nat × Nat × Nat × Nat × Nat × Nat × Nat × Nat) => True) (kx_B G (va_A [(h0, .inr (6, [.int 0, .int 0, .int 0, .null, .null, .null, .null, .null, .int 0, .int 0, .null, .null, .int 0, .null, .null, .null, .int 0, .null, .null]))] sz) (fun u : Nat × Nat × Nat × Nat × Nat × Nat × Nat × Nat × Nat × Nat × Nat × Nat => [(h0, .inr (6, [.int 0, .int (nI n), .int (nI v), .ref u.1, .ref u.2.1, .ref u.2.2.1, .ref u.2.2.2.1, .ref u.2.2.2.2.1, .int 0, .int 0, .ref u.2.2.2.2.2.1, .ref u.2.2.2.2.2.2.1, .int 0, .ref u.2.2.2.2.2.2.2.1, .ref u.2.2.2.2.2.2.2.2.1, .ref u.2.2.2.2.2.2.2.2.2.1, .int 0, .ref u.2.2.2.2.2.2.2.2.2.2.1, .ref u.2.2.2.2.2.2.2.2.2.2.2])), (u.1, kx_aD G 8 kx_p8), (u.2.1, kx_aD G 8 (fun _ => 0)), (u.2.2.1, kx_aZ G 128 (fun _ => 0)), (u.2.2.2.1, kx_aD G 128 (fun _ => 0)), (u.2.2.2.2.1, kx_aD G 128 (fun _ => 0)), (u.2.2.2.2.2.1, kx_aZ G 16 (fun _ => 0)), (u.2.2.2.2.2.2.1, kx_aD G 64 (fun _ => 0)), (u.2.2.2.2.2.2.2.1, kx_aI G 6 (fun _ => 0)), (u.2.2.2.2.2.2.2.2.1, kx_aD G 6 (fun _ => 0)), (u.2.2.2.2.2.2.2.2.2.1, kx_aI G 6 (fun _ => 0)), (u.2.2.2.2.2.2.2.2.2.2.1, kx_aD G 16 (fun _ => 0)), (u.2.2.2.2.2.2.2.2.2.2.2, kx_aD G 16 (fun _ => 0))])) (va_A [(h0, .inr (6, [.int 0, .int 0, .int 0, .null, .null, .null, .null, .null, .int 0, .int 0, .null, .null, .int 0, .null, .null, .null, .int 0, .null, .null]))] sz)) 12 530 (va_A [(h0, .inr (6, [.int 0, .int 0, .int 0, .null, .null, .null, .null, .null, .int 0, .int 0, .null, .null, .int 0, .null, .null, .null, .int 0, .null, .null]))] sz) := by
  refine Met.ofW (cc := cX5_init) (maxL := 3) (ret := none) (by decide) rfl ?_
  intro p e s m args below meth c s₁ B hml hv
  obtain ⟨rfl, hsz, hP, hT, hD0⟩ := hv
  have hx := B.exec
  have hb := B.bytes
  have hr := B.returns
  have hts := atoms_spec (ws := wsX5_init) B.pre
  have hown : s.vm.findClass RX5 = some m.cls := findClass_of_methodNamed B.named
  have hlocks := B.notSynchronized
  have hin : meth.name = "<init>" := (name_of_methodNamed B.named B.method).1
  have ho_l := hts (.methodLink RX5 1 objectInit) (by decide +kernel)
  have ho_i := hts (.instanceMethod objectInit) (by decide +kernel)
  have ho_c := hts (.code objectInit ⟨#[0xb1]⟩ 1 none) (by decide +kernel)
  have ha_D := hts (.arrayClass .double) (by decide +kernel)
  have hf_7 := hts (.fieldLink RX5 7 "StemShapesModel" "ps" "[D") (by decide +kernel)
  have hin_X5 : ∀ w ∈ wsX50, w ∈ wsX5_init := by decide +kernel
  have hf_13 := hts (.fieldLink RX5 13 "StemShapesModel" "qs" "[D") (by decide +kernel)
  have ha_Z := hts (.arrayClass .boolean) (by decide +kernel)
  have hf_16 := hts (.fieldLink RX5 16 "StemShapesModel" "there" "[Z") (by decide +kernel)
  have hf_20 := hts (.fieldLink RX5 20 "StemShapesModel" "froms" "[D") (by decide +kernel)
  have hf_23 := hts (.fieldLink RX5 23 "StemShapesModel" "tos" "[D") (by decide +kernel)
  have hf_26 := hts (.fieldLink RX5 26 "StemShapesModel" "fitted" "[Z") (by decide +kernel)
  have hf_29 := hts (.fieldLink RX5 29 "StemShapesModel" "shapes" "[D") (by decide +kernel)
  have ha_I := hts (.arrayClass .int) (by decide +kernel)
  have hf_32 := hts (.fieldLink RX5 32 "StemShapesModel" "kinds" "[I") (by decide +kernel)
  have hf_36 := hts (.fieldLink RX5 36 "StemShapesModel" "limits" "[D") (by decide +kernel)
  have hf_39 := hts (.fieldLink RX5 39 "StemShapesModel" "classes" "[I") (by decide +kernel)
  have hf_42 := hts (.fieldLink RX5 42 "StemShapesModel" "keptX" "[D") (by decide +kernel)
  have hf_45 := hts (.fieldLink RX5 45 "StemShapesModel" "keptY" "[D") (by decide +kernel)
  have hf_48 := hts (.fieldLink RX5 48 "StemShapesModel" "slices" "I") (by decide +kernel)
  have hf_52 := hts (.fieldLink RX5 52 "StemShapesModel" "views" "I") (by decide +kernel)
  subst hsz
  have hD := hD0.self (sz := s.heap.size)
  generalize hAe : va_A [(h0, .inr (6, [.int 0, .int 0, .int 0, .null, .null, .null, .null, .null, .int 0, .int 0, .null, .null, .int 0, .null, .null, .null, .int 0, .null, .null]))] s.heap.size = A at hD ⊢
  have hA : ∀ q : Nat, s.heap.size ≤ q → A q := fun q h => by rw [← hAe]; exact Or.inr h
  have hS : va_S A s.heap s.heap [] := va_S.rf
  have hl := lv_entry ([.ref h0, .int a9, .int b9]) (n := 3) (Nat.le_of_ble_eq_true rfl)
  rw [lg_entry_eq]
  generalize (lg_sl ([.ref h0, .int a9, .int b9]) ++ List.replicate (3 - (lg_sl ([.ref h0, .int a9, .int b9])).length) Slot.unset).toArray = ls at hl ⊢
  have hl : lv_has ls 3 [(0, .ref h0), (1, .int a9), (2, .int b9)] := hl
  refine lv_aload_n hx hb dX5_init_0 rfl (lv_at hl 0 rfl) ?_
  refine W.objInit hx hb hown ho_l ho_i ho_c rfl (by rw [hml]; exact hl.1) rfl dX5_init_1 (Nat.le_of_ble_eq_true rfl) (Nat.le_of_ble_eq_true rfl) ?_
  refine W.eq (g2 := F0 m 4 ls []) rfl ?_
  refine lv_aload_n hx hb dX5_init_4 rfl (lv_at hl 0 rfl) ?_
  refine lv_bipush (v := 8) hx hb dX5_init_5 (by decide) ?_
  refine kx_newD hx hb ha_D hT hP hD hS hA 8 (by omega) (show 0 + 1 ≤ 12 from by omega) (show 0 + 8 ≤ 530 from by omega) dX5_init_7 (fun q_1 H hP hD hS => ?_)
  have hP : va_P G.1 vwCl [(h0, .inr (6, [.int 0, .int 0, .int 0, .null, .null, .null, .null, .null, .int 0, .int 0, .null, .null, .int 0, .null, .null, .null, .int 0, .null, .null])), (q_1, kx_aD G 8 (fun _ => 0))] H := hP
  have hD : va_D A [(h0, .inr (6, [.int 0, .int 0, .int 0, .null, .null, .null, .null, .null, .int 0, .int 0, .null, .null, .int 0, .null, .null, .null, .int 0, .null, .null])), (q_1, kx_aD G 8 (fun _ => 0))] := hD
  refine lv_dup hx hb dX5_init_9 rfl ?_
  refine lv_iconst (v := 0) hx hb dX5_init_10 (by decide) ?_
  refine lv_dconst1 hx hb dX5_init_11 ?_
  refine kx_dast hx hb hT hP hD hS 1 rfl 0 (by omega) (by omega) dX5_init_12 (fun H locs hP hD hS => ?_)
  have hP : va_P G.1 vwCl [(h0, .inr (6, [.int 0, .int 0, .int 0, .null, .null, .null, .null, .null, .int 0, .int 0, .null, .null, .int 0, .null, .null, .null, .int 0, .null, .null])), (q_1, kx_aD G 8 (vf_upd (fun _ => 0) 0 FP.dconst1))] H := hP
  have hD : va_D A [(h0, .inr (6, [.int 0, .int 0, .int 0, .null, .null, .null, .null, .null, .int 0, .int 0, .null, .null, .int 0, .null, .null, .null, .int 0, .null, .null])), (q_1, kx_aD G 8 (vf_upd (fun _ => 0) 0 FP.dconst1))] := hD
  refine lv_dup hx hb dX5_init_13 rfl ?_
  refine lv_iconst (v := 1) hx hb dX5_init_14 (by decide) ?_
  refine lv_dconst1 hx hb dX5_init_15 ?_
  refine kx_dast hx hb hT hP hD hS 1 rfl 1 (by omega) (by omega) dX5_init_16 (fun H locs hP hD hS => ?_)
  have hP : va_P G.1 vwCl [(h0, .inr (6, [.int 0, .int 0, .int 0, .null, .null, .null, .null, .null, .int 0, .int 0, .null, .null, .int 0, .null, .null, .null, .int 0, .null, .null])), (q_1, kx_aD G 8 (vf_upd (vf_upd (fun _ => 0) 0 FP.dconst1) 1 FP.dconst1))] H := hP
  have hD : va_D A [(h0, .inr (6, [.int 0, .int 0, .int 0, .null, .null, .null, .null, .null, .int 0, .int 0, .null, .null, .int 0, .null, .null, .null, .int 0, .null, .null])), (q_1, kx_aD G 8 (vf_upd (vf_upd (fun _ => 0) 0 FP.dconst1) 1 FP.dconst1))] := hD
  refine lv_dup hx hb dX5_init_17 rfl ?_
  refine lv_iconst (v := 2) hx hb dX5_init_18 (by decide) ?_
  refine lv_dconst1 hx hb dX5_init_19 ?_
  refine kx_dast hx hb hT hP hD hS 1 rfl 2 (by omega) (by omega) dX5_init_20 (fun H locs hP hD hS => ?_)
  have hP : va_P G.1 vwCl [(h0, .inr (6, [.int 0, .int 0, .int 0, .null, .null, .null, .null, .null, .int 0, .int 0, .null, .null, .int 0, .null, .null, .null, .int 0, .null, .null])), (q_1, kx_aD G 8 (vf_upd (vf_upd (vf_upd (fun _ => 0) 0 FP.dconst1) 1 FP.dconst1) 2 FP.dconst1))] H := hP
  have hD : va_D A [(h0, .inr (6, [.int 0, .int 0, .int 0, .null, .null, .null, .null, .null, .int 0, .int 0, .null, .null, .int 0, .null, .null, .null, .int 0, .null, .null])), (q_1, kx_aD G 8 (vf_upd (vf_upd (vf_upd (fun _ => 0) 0 FP.dconst1) 1 FP.dconst1) 2 FP.dconst1))] := hD
  refine lv_dup hx hb dX5_init_21 rfl ?_
  refine lv_iconst (v := 3) hx hb dX5_init_22 (by decide) ?_
  refine lv_dconst1 hx hb dX5_init_23 ?_
  refine kx_dast hx hb hT hP hD hS 1 rfl 3 (by omega) (by omega) dX5_init_24 (fun H locs hP hD hS => ?_)
  have hP : va_P G.1 vwCl [(h0, .inr (6, [.int 0, .int 0, .int 0, .null, .null, .null, .null, .null, .int 0, .int 0, .null, .null, .int 0, .null, .null, .null, .int 0, .null, .null])), (q_1, kx_aD G 8 (vf_upd (vf_upd (vf_upd (vf_upd (fun _ => 0) 0 FP.dconst1) 1 FP.dconst1) 2 FP.dconst1) 3 FP.dconst1))] H := hP
  have hD : va_D A [(h0, .inr (6, [.int 0, .int 0, .int 0, .null, .null, .null, .null, .null, .int 0, .int 0, .null, .null, .int 0, .null, .null, .null, .int 0, .null, .null])), (q_1, kx_aD G 8 (vf_upd (vf_upd (vf_upd (vf_upd (fun _ => 0) 0 FP.dconst1) 1 FP.dconst1) 2 FP.dconst1) 3 FP.dconst1))] := hD
  refine lv_dup hx hb dX5_init_25 rfl ?_
  refine lv_iconst (v := 4) hx hb dX5_init_26 (by decide) ?_
  refine lv_dconst1 hx hb dX5_init_27 ?_
  refine kx_dast hx hb hT hP hD hS 1 rfl 4 (by omega) (by omega) dX5_init_28 (fun H locs hP hD hS => ?_)
  have hP : va_P G.1 vwCl [(h0, .inr (6, [.int 0, .int 0, .int 0, .null, .null, .null, .null, .null, .int 0, .int 0, .null, .null, .int 0, .null, .null, .null, .int 0, .null, .null])), (q_1, kx_aD G 8 (vf_upd (vf_upd (vf_upd (vf_upd (vf_upd (fun _ => 0) 0 FP.dconst1) 1 FP.dconst1) 2 FP.dconst1) 3 FP.dconst1) 4 FP.dconst1))] H := hP
  have hD : va_D A [(h0, .inr (6, [.int 0, .int 0, .int 0, .null, .null, .null, .null, .null, .int 0, .int 0, .null, .null, .int 0, .null, .null, .null, .int 0, .null, .null])), (q_1, kx_aD G 8 (vf_upd (vf_upd (vf_upd (vf_upd (vf_upd (fun _ => 0) 0 FP.dconst1) 1 FP.dconst1) 2 FP.dconst1) 3 FP.dconst1) 4 FP.dconst1))] := hD
  refine lv_dup hx hb dX5_init_29 rfl ?_
  refine lv_iconst (v := 5) hx hb dX5_init_30 (by decide) ?_
  refine lv_dconst1 hx hb dX5_init_31 ?_
  refine kx_dast hx hb hT hP hD hS 1 rfl 5 (by omega) (by omega) dX5_init_32 (fun H locs hP hD hS => ?_)
  have hP : va_P G.1 vwCl [(h0, .inr (6, [.int 0, .int 0, .int 0, .null, .null, .null, .null, .null, .int 0, .int 0, .null, .null, .int 0, .null, .null, .null, .int 0, .null, .null])), (q_1, kx_aD G 8 (vf_upd (vf_upd (vf_upd (vf_upd (vf_upd (vf_upd (fun _ => 0) 0 FP.dconst1) 1 FP.dconst1) 2 FP.dconst1) 3 FP.dconst1) 4 FP.dconst1) 5 FP.dconst1))] H := hP
  have hD : va_D A [(h0, .inr (6, [.int 0, .int 0, .int 0, .null, .null, .null, .null, .null, .int 0, .int 0, .null, .null, .int 0, .null, .null, .null, .int 0, .null, .null])), (q_1, kx_aD G 8 (vf_upd (vf_upd (vf_upd (vf_upd (vf_upd (vf_upd (fun _ => 0) 0 FP.dconst1) 1 FP.dconst1) 2 FP.dconst1) 3 FP.dconst1) 4 FP.dconst1) 5 FP.dconst1))] := hD
  refine lv_dup hx hb dX5_init_33 rfl ?_
  refine lv_bipush (v := 6) hx hb dX5_init_34 (by decide) ?_
  refine lv_dconst1 hx hb dX5_init_36 ?_
  refine kx_dast hx hb hT hP hD hS 1 rfl 6 (by omega) (by omega) dX5_init_37 (fun H locs hP hD hS => ?_)
  have hP : va_P G.1 vwCl [(h0, .inr (6, [.int 0, .int 0, .int 0, .null, .null, .null, .null, .null, .int 0, .int 0, .null, .null, .int 0, .null, .null, .null, .int 0, .null, .null])), (q_1, kx_aD G 8 (vf_upd (vf_upd (vf_upd (vf_upd (vf_upd (vf_upd (vf_upd (fun _ => 0) 0 FP.dconst1) 1 FP.dconst1) 2 FP.dconst1) 3 FP.dconst1) 4 FP.dconst1) 5 FP.dconst1) 6 FP.dconst1))] H := hP
  have hD : va_D A [(h0, .inr (6, [.int 0, .int 0, .int 0, .null, .null, .null, .null, .null, .int 0, .int 0, .null, .null, .int 0, .null, .null, .null, .int 0, .null, .null])), (q_1, kx_aD G 8 (vf_upd (vf_upd (vf_upd (vf_upd (vf_upd (vf_upd (vf_upd (fun _ => 0) 0 FP.dconst1) 1 FP.dconst1) 2 FP.dconst1) 3 FP.dconst1) 4 FP.dconst1) 5 FP.dconst1) 6 FP.dconst1))] := hD
  refine lv_dup hx hb dX5_init_38 rfl ?_
  refine lv_bipush (v := 7) hx hb dX5_init_39 (by decide) ?_
  refine lv_dconst1 hx hb dX5_init_41 ?_
  refine kx_dast hx hb hT hP hD hS 1 rfl 7 (by omega) (by omega) dX5_init_42 (fun H locs hP hD hS => ?_)
  have hP : va_P G.1 vwCl [(h0, .inr (6, [.int 0, .int 0, .int 0, .null, .null, .null, .null, .null, .int 0, .int 0, .null, .null, .int 0, .null, .null, .null, .int 0, .null, .null])), (q_1, kx_aD G 8 (vf_upd (vf_upd (vf_upd (vf_upd (vf_upd (vf_upd (vf_upd (vf_upd (fun _ => 0) 0 FP.dconst1) 1 FP.dconst1) 2 FP.dconst1) 3 FP.dconst1) 4 FP.dconst1) 5 FP.dconst1) 6 FP.dconst1) 7 FP.dconst1))] H := hP
  have hD : va_D A [(h0, .inr (6, [.int 0, .int 0, .int 0, .null, .null, .null, .null, .null, .int 0, .int 0, .null, .null, .int 0, .null, .null, .null, .int 0, .null, .null])), (q_1, kx_aD G 8 (vf_upd (vf_upd (vf_upd (vf_upd (vf_upd (vf_upd (vf_upd (vf_upd (fun _ => 0) 0 FP.dconst1) 1 FP.dconst1) 2 FP.dconst1) 3 FP.dconst1) 4 FP.dconst1) 5 FP.dconst1) 6 FP.dconst1) 7 FP.dconst1))] := hD
  refine va_putF (D := G.1) (ci := 6) (v := .ref q_1) (ty := .array .double) (C := RX5) (T := TX5) (N := 19) hx hb hts hin_X5 tyX5 tyX5_ok nmX5 hown hT.1 hP hD hS 0 rfl rfl 3 (by decide) hf_7 (fun _ h9 => h9) rfl hin rfl (by decide +kernel) rfl rfl (Nat.le_of_ble_eq_true rfl) dX5_init_43 (fun H locs hP hD hS => ?_)
  have hP : va_P G.1 vwCl [(h0, .inr (6, [.int 0, .int 0, .int 0, .ref q_1, .null, .null, .null, .null, .int 0, .int 0, .null, .null, .int 0, .null, .null, .null, .int 0, .null, .null])), (q_1, kx_aD G 8 (vf_upd (vf_upd (vf_upd (vf_upd (vf_upd (vf_upd (vf_upd (vf_upd (fun _ => 0) 0 FP.dconst1) 1 FP.dconst1) 2 FP.dconst1) 3 FP.dconst1) 4 FP.dconst1) 5 FP.dconst1) 6 FP.dconst1) 7 FP.dconst1))] H := hP
  have hD : va_D A [(h0, .inr (6, [.int 0, .int 0, .int 0, .ref q_1, .null, .null, .null, .null, .int 0, .int 0, .null, .null, .int 0, .null, .null, .null, .int 0, .null, .null])), (q_1, kx_aD G 8 (vf_upd (vf_upd (vf_upd (vf_upd (vf_upd (vf_upd (vf_upd (vf_upd (fun _ => 0) 0 FP.dconst1) 1 FP.dconst1) 2 FP.dconst1) 3 FP.dconst1) 4 FP.dconst1) 5 FP.dconst1) 6 FP.dconst1) 7 FP.dconst1))] := hD
  refine lv_aload_n hx hb dX5_init_46 rfl (lv_at hl 0 rfl) ?_
  refine lv_bipush (v := 8) hx hb dX5_init_47 (by decide) ?_
  refine kx_newD hx hb ha_D hT hP hD hS hA 8 (by omega) (show 1 + 1 ≤ 12 from by omega) (show (0 + 8) + 8 ≤ 530 from by omega) dX5_init_49 (fun q_2 H hP hD hS => ?_)
  have hP : va_P G.1 vwCl [(h0, .inr (6, [.int 0, .int 0, .int 0, .ref q_1, .null, .null, .null, .null, .int 0, .int 0, .null, .null, .int 0, .null, .null, .null, .int 0, .null, .null])), (q_1, kx_aD G 8 (vf_upd (vf_upd (vf_upd (vf_upd (vf_upd (vf_upd (vf_upd (vf_upd (fun _ => 0) 0 FP.dconst1) 1 FP.dconst1) 2 FP.dconst1) 3 FP.dconst1) 4 FP.dconst1) 5 FP.dconst1) 6 FP.dconst1) 7 FP.dconst1)), (q_2, kx_aD G 8 (fun _ => 0))] H := hP
  have hD : va_D A [(h0, .inr (6, [.int 0, .int 0, .int 0, .ref q_1, .null, .null, .null, .null, .int 0, .int 0, .null, .null, .int 0, .null, .null, .null, .int 0, .null, .null])), (q_1, kx_aD G 8 (vf_upd (vf_upd (vf_upd (vf_upd (vf_upd (vf_upd (vf_upd (vf_upd (fun _ => 0) 0 FP.dconst1) 1 FP.dconst1) 2 FP.dconst1) 3 FP.dconst1) 4 FP.dconst1) 5 FP.dconst1) 6 FP.dconst1) 7 FP.dconst1)), (q_2, kx_aD G 8 (fun _ => 0))] := hD
  refine va_putF (D := G.1) (ci := 6) (v := .ref q_2) (ty := .array .double) (C := RX5) (T := TX5) (N := 19) hx hb hts hin_X5 tyX5 tyX5_ok nmX5 hown hT.1 hP hD hS 0 rfl rfl 4 (by decide) hf_13 (fun _ h9 => h9) rfl hin rfl (by decide +kernel) rfl rfl (Nat.le_of_ble_eq_true rfl) dX5_init_51 (fun H locs hP hD hS => ?_)
  have hP : va_P G.1 vwCl [(h0, .inr (6, [.int 0, .int 0, .int 0, .ref q_1, .ref q_2, .null, .null, .null, .int 0, .int 0, .null, .null, .int 0, .null, .null, .null, .int 0, .null, .null])), (q_1, kx_aD G 8 (vf_upd (vf_upd (vf_upd (vf_upd (vf_upd (vf_upd (vf_upd (vf_upd (fun _ => 0) 0 FP.dconst1) 1 FP.dconst1) 2 FP.dconst1) 3 FP.dconst1) 4 FP.dconst1) 5 FP.dconst1) 6 FP.dconst1) 7 FP.dconst1)), (q_2, kx_aD G 8 (fun _ => 0))] H := hP
  have hD : va_D A [(h0, .inr (6, [.int 0, .int 0, .int 0, .ref q_1, .ref q_2, .null, .null, .null, .int 0, .int 0, .null, .null, .int 0, .null, .null, .null, .int 0, .null, .null])), (q_1, kx_aD G 8 (vf_upd (vf_upd (vf_upd (vf_upd (vf_upd (vf_upd (vf_upd (vf_upd (fun _ => 0) 0 FP.dconst1) 1 FP.dconst1) 2 FP.dconst1) 3 FP.dconst1) 4 FP.dconst1) 5 FP.dconst1) 6 FP.dconst1) 7 FP.dconst1)), (q_2, kx_aD G 8 (fun _ => 0))] := hD
  refine lv_aload_n hx hb dX5_init_54 rfl (lv_at hl 0 rfl) ?_
  refine lv_sipush (v := 128) hx hb dX5_init_55 (by decide) ?_
  refine kx_newZ hx hb ha_Z hT hP hD hS hA 128 (by omega) (show 2 + 1 ≤ 12 from by omega) (show ((0 + 8) + 8) + 128 ≤ 530 from by omega) dX5_init_58 (fun q_3 H hP hD hS => ?_)
  have hP : va_P G.1 vwCl [(h0, .inr (6, [.int 0, .int 0, .int 0, .ref q_1, .ref q_2, .null, .null, .null, .int 0, .int 0, .null, .null, .int 0, .null, .null, .null, .int 0, .null, .null])), (q_1, kx_aD G 8 (vf_upd (vf_upd (vf_upd (vf_upd (vf_upd (vf_upd (vf_upd (vf_upd (fun _ => 0) 0 FP.dconst1) 1 FP.dconst1) 2 FP.dconst1) 3 FP.dconst1) 4 FP.dconst1) 5 FP.dconst1) 6 FP.dconst1) 7 FP.dconst1)), (q_2, kx_aD G 8 (fun _ => 0)), (q_3, kx_aZ G 128 (fun _ => 0))] H := hP
  have hD : va_D A [(h0, .inr (6, [.int 0, .int 0, .int 0, .ref q_1, .ref q_2, .null, .null, .null, .int 0, .int 0, .null, .null, .int 0, .null, .null, .null, .int 0, .null, .null])), (q_1, kx_aD G 8 (vf_upd (vf_upd (vf_upd (vf_upd (vf_upd (vf_upd (vf_upd (vf_upd (fun _ => 0) 0 FP.dconst1) 1 FP.dconst1) 2 FP.dconst1) 3 FP.dconst1) 4 FP.dconst1) 5 FP.dconst1) 6 FP.dconst1) 7 FP.dconst1)), (q_2, kx_aD G 8 (fun _ => 0)), (q_3, kx_aZ G 128 (fun _ => 0))] := hD
  refine va_putF (D := G.1) (ci := 6) (v := .ref q_3) (ty := .array .boolean) (C := RX5) (T := TX5) (N := 19) hx hb hts hin_X5 tyX5 tyX5_ok nmX5 hown hT.1 hP hD hS 0 rfl rfl 5 (by decide) hf_16 (fun _ h9 => h9) rfl hin rfl (by decide +kernel) rfl rfl (Nat.le_of_ble_eq_true rfl) dX5_init_60 (fun H locs hP hD hS => ?_)
  have hP : va_P G.1 vwCl [(h0, .inr (6, [.int 0, .int 0, .int 0, .ref q_1, .ref q_2, .ref q_3, .null, .null, .int 0, .int 0, .null, .null, .int 0, .null, .null, .null, .int 0, .null, .null])), (q_1, kx_aD G 8 (vf_upd (vf_upd (vf_upd (vf_upd (vf_upd (vf_upd (vf_upd (vf_upd (fun _ => 0) 0 FP.dconst1) 1 FP.dconst1) 2 FP.dconst1) 3 FP.dconst1) 4 FP.dconst1) 5 FP.dconst1) 6 FP.dconst1) 7 FP.dconst1)), (q_2, kx_aD G 8 (fun _ => 0)), (q_3, kx_aZ G 128 (fun _ => 0))] H := hP
  have hD : va_D A [(h0, .inr (6, [.int 0, .int 0, .int 0, .ref q_1, .ref q_2, .ref q_3, .null, .null, .int 0, .int 0, .null, .null, .int 0, .null, .null, .null, .int 0, .null, .null])), (q_1, kx_aD G 8 (vf_upd (vf_upd (vf_upd (vf_upd (vf_upd (vf_upd (vf_upd (vf_upd (fun _ => 0) 0 FP.dconst1) 1 FP.dconst1) 2 FP.dconst1) 3 FP.dconst1) 4 FP.dconst1) 5 FP.dconst1) 6 FP.dconst1) 7 FP.dconst1)), (q_2, kx_aD G 8 (fun _ => 0)), (q_3, kx_aZ G 128 (fun _ => 0))] := hD
  refine lv_aload_n hx hb dX5_init_63 rfl (lv_at hl 0 rfl) ?_
  refine lv_sipush (v := 128) hx hb dX5_init_64 (by decide) ?_
  refine kx_newD hx hb ha_D hT hP hD hS hA 128 (by omega) (show 3 + 1 ≤ 12 from by omega) (show (((0 + 8) + 8) + 128) + 128 ≤ 530 from by omega) dX5_init_67 (fun q_4 H hP hD hS => ?_)
  have hP : va_P G.1 vwCl [(h0, .inr (6, [.int 0, .int 0, .int 0, .ref q_1, .ref q_2, .ref q_3, .null, .null, .int 0, .int 0, .null, .null, .int 0, .null, .null, .null, .int 0, .null, .null])), (q_1, kx_aD G 8 (vf_upd (vf_upd (vf_upd (vf_upd (vf_upd (vf_upd (vf_upd (vf_upd (fun _ => 0) 0 FP.dconst1) 1 FP.dconst1) 2 FP.dconst1) 3 FP.dconst1) 4 FP.dconst1) 5 FP.dconst1) 6 FP.dconst1) 7 FP.dconst1)), (q_2, kx_aD G 8 (fun _ => 0)), (q_3, kx_aZ G 128 (fun _ => 0)), (q_4, kx_aD G 128 (fun _ => 0))] H := hP
  have hD : va_D A [(h0, .inr (6, [.int 0, .int 0, .int 0, .ref q_1, .ref q_2, .ref q_3, .null, .null, .int 0, .int 0, .null, .null, .int 0, .null, .null, .null, .int 0, .null, .null])), (q_1, kx_aD G 8 (vf_upd (vf_upd (vf_upd (vf_upd (vf_upd (vf_upd (vf_upd (vf_upd (fun _ => 0) 0 FP.dconst1) 1 FP.dconst1) 2 FP.dconst1) 3 FP.dconst1) 4 FP.dconst1) 5 FP.dconst1) 6 FP.dconst1) 7 FP.dconst1)), (q_2, kx_aD G 8 (fun _ => 0)), (q_3, kx_aZ G 128 (fun _ => 0)), (q_4, kx_aD G 128 (fun _ => 0))] := hD
  refine va_putF (D := G.1) (ci := 6) (v := .ref q_4) (ty := .array .double) (C := RX5) (T := TX5) (N := 19) hx hb hts hin_X5 tyX5 tyX5_ok nmX5 hown hT.1 hP hD hS 0 rfl rfl 6 (by decide) hf_20 (fun _ h9 => h9) rfl hin rfl (by decide +kernel) rfl rfl (Nat.le_of_ble_eq_true rfl) dX5_init_69 (fun H locs hP hD hS => ?_)
  have hP : va_P G.1 vwCl [(h0, .inr (6, [.int 0, .int 0, .int 0, .ref q_1, .ref q_2, .ref q_3, .ref q_4, .null, .int 0, .int 0, .null, .null, .int 0, .null, .null, .null, .int 0, .null, .null])), (q_1, kx_aD G 8 (vf_upd (vf_upd (vf_upd (vf_upd (vf_upd (vf_upd (vf_upd (vf_upd (fun _ => 0) 0 FP.dconst1) 1 FP.dconst1) 2 FP.dconst1) 3 FP.dconst1) 4 FP.dconst1) 5 FP.dconst1) 6 FP.dconst1) 7 FP.dconst1)), (q_2, kx_aD G 8 (fun _ => 0)), (q_3, kx_aZ G 128 (fun _ => 0)), (q_4, kx_aD G 128 (fun _ => 0))] H := hP
  have hD : va_D A [(h0, .inr (6, [.int 0, .int 0, .int 0, .ref q_1, .ref q_2, .ref q_3, .ref q_4, .null, .int 0, .int 0, .null, .null, .int 0, .null, .null, .null, .int 0, .null, .null])), (q_1, kx_aD G 8 (vf_upd (vf_upd (vf_upd (vf_upd (vf_upd (vf_upd (vf_upd (vf_upd (fun _ => 0) 0 FP.dconst1) 1 FP.dconst1) 2 FP.dconst1) 3 FP.dconst1) 4 FP.dconst1) 5 FP.dconst1) 6 FP.dconst1) 7 FP.dconst1)), (q_2, kx_aD G 8 (fun _ => 0)), (q_3, kx_aZ G 128 (fun _ => 0)), (q_4, kx_aD G 128 (fun _ => 0))] := hD
  refine lv_aload_n hx hb dX5_init_72 rfl (lv_at hl 0 rfl) ?_
  refine lv_sipush (v := 128) hx hb dX5_init_73 (by decide) ?_
  refine kx_newD hx hb ha_D hT hP hD hS hA 128 (by omega) (show 4 + 1 ≤ 12 from by omega) (show ((((0 + 8) + 8) + 128) + 128) + 128 ≤ 530 from by omega) dX5_init_76 (fun q_5 H hP hD hS => ?_)
  have hP : va_P G.1 vwCl [(h0, .inr (6, [.int 0, .int 0, .int 0, .ref q_1, .ref q_2, .ref q_3, .ref q_4, .null, .int 0, .int 0, .null, .null, .int 0, .null, .null, .null, .int 0, .null, .null])), (q_1, kx_aD G 8 (vf_upd (vf_upd (vf_upd (vf_upd (vf_upd (vf_upd (vf_upd (vf_upd (fun _ => 0) 0 FP.dconst1) 1 FP.dconst1) 2 FP.dconst1) 3 FP.dconst1) 4 FP.dconst1) 5 FP.dconst1) 6 FP.dconst1) 7 FP.dconst1)), (q_2, kx_aD G 8 (fun _ => 0)), (q_3, kx_aZ G 128 (fun _ => 0)), (q_4, kx_aD G 128 (fun _ => 0)), (q_5, kx_aD G 128 (fun _ => 0))] H := hP
  have hD : va_D A [(h0, .inr (6, [.int 0, .int 0, .int 0, .ref q_1, .ref q_2, .ref q_3, .ref q_4, .null, .int 0, .int 0, .null, .null, .int 0, .null, .null, .null, .int 0, .null, .null])), (q_1, kx_aD G 8 (vf_upd (vf_upd (vf_upd (vf_upd (vf_upd (vf_upd (vf_upd (vf_upd (fun _ => 0) 0 FP.dconst1) 1 FP.dconst1) 2 FP.dconst1) 3 FP.dconst1) 4 FP.dconst1) 5 FP.dconst1) 6 FP.dconst1) 7 FP.dconst1)), (q_2, kx_aD G 8 (fun _ => 0)), (q_3, kx_aZ G 128 (fun _ => 0)), (q_4, kx_aD G 128 (fun _ => 0)), (q_5, kx_aD G 128 (fun _ => 0))] := hD
  refine va_putF (D := G.1) (ci := 6) (v := .ref q_5) (ty := .array .double) (C := RX5) (T := TX5) (N := 19) hx hb hts hin_X5 tyX5 tyX5_ok nmX5 hown hT.1 hP hD hS 0 rfl rfl 7 (by decide) hf_23 (fun _ h9 => h9) rfl hin rfl (by decide +kernel) rfl rfl (Nat.le_of_ble_eq_true rfl) dX5_init_78 (fun H locs hP hD hS => ?_)
  have hP : va_P G.1 vwCl [(h0, .inr (6, [.int 0, .int 0, .int 0, .ref q_1, .ref q_2, .ref q_3, .ref q_4, .ref q_5, .int 0, .int 0, .null, .null, .int 0, .null, .null, .null, .int 0, .null, .null])), (q_1, kx_aD G 8 (vf_upd (vf_upd (vf_upd (vf_upd (vf_upd (vf_upd (vf_upd (vf_upd (fun _ => 0) 0 FP.dconst1) 1 FP.dconst1) 2 FP.dconst1) 3 FP.dconst1) 4 FP.dconst1) 5 FP.dconst1) 6 FP.dconst1) 7 FP.dconst1)), (q_2, kx_aD G 8 (fun _ => 0)), (q_3, kx_aZ G 128 (fun _ => 0)), (q_4, kx_aD G 128 (fun _ => 0)), (q_5, kx_aD G 128 (fun _ => 0))] H := hP
  have hD : va_D A [(h0, .inr (6, [.int 0, .int 0, .int 0, .ref q_1, .ref q_2, .ref q_3, .ref q_4, .ref q_5, .int 0, .int 0, .null, .null, .int 0, .null, .null, .null, .int 0, .null, .null])), (q_1, kx_aD G 8 (vf_upd (vf_upd (vf_upd (vf_upd (vf_upd (vf_upd (vf_upd (vf_upd (fun _ => 0) 0 FP.dconst1) 1 FP.dconst1) 2 FP.dconst1) 3 FP.dconst1) 4 FP.dconst1) 5 FP.dconst1) 6 FP.dconst1) 7 FP.dconst1)), (q_2, kx_aD G 8 (fun _ => 0)), (q_3, kx_aZ G 128 (fun _ => 0)), (q_4, kx_aD G 128 (fun _ => 0)), (q_5, kx_aD G 128 (fun _ => 0))] := hD
  refine lv_aload_n hx hb dX5_init_81 rfl (lv_at hl 0 rfl) ?_
  refine lv_bipush (v := 16) hx hb dX5_init_82 (by decide) ?_
  refine kx_newZ hx hb ha_Z hT hP hD hS hA 16 (by omega) (show 5 + 1 ≤ 12 from by omega) (show (((((0 + 8) + 8) + 128) + 128) + 128) + 16 ≤ 530 from by omega) dX5_init_84 (fun q_6 H hP hD hS => ?_)
  have hP : va_P G.1 vwCl [(h0, .inr (6, [.int 0, .int 0, .int 0, .ref q_1, .ref q_2, .ref q_3, .ref q_4, .ref q_5, .int 0, .int 0, .null, .null, .int 0, .null, .null, .null, .int 0, .null, .null])), (q_1, kx_aD G 8 (vf_upd (vf_upd (vf_upd (vf_upd (vf_upd (vf_upd (vf_upd (vf_upd (fun _ => 0) 0 FP.dconst1) 1 FP.dconst1) 2 FP.dconst1) 3 FP.dconst1) 4 FP.dconst1) 5 FP.dconst1) 6 FP.dconst1) 7 FP.dconst1)), (q_2, kx_aD G 8 (fun _ => 0)), (q_3, kx_aZ G 128 (fun _ => 0)), (q_4, kx_aD G 128 (fun _ => 0)), (q_5, kx_aD G 128 (fun _ => 0)), (q_6, kx_aZ G 16 (fun _ => 0))] H := hP
  have hD : va_D A [(h0, .inr (6, [.int 0, .int 0, .int 0, .ref q_1, .ref q_2, .ref q_3, .ref q_4, .ref q_5, .int 0, .int 0, .null, .null, .int 0, .null, .null, .null, .int 0, .null, .null])), (q_1, kx_aD G 8 (vf_upd (vf_upd (vf_upd (vf_upd (vf_upd (vf_upd (vf_upd (vf_upd (fun _ => 0) 0 FP.dconst1) 1 FP.dconst1) 2 FP.dconst1) 3 FP.dconst1) 4 FP.dconst1) 5 FP.dconst1) 6 FP.dconst1) 7 FP.dconst1)), (q_2, kx_aD G 8 (fun _ => 0)), (q_3, kx_aZ G 128 (fun _ => 0)), (q_4, kx_aD G 128 (fun _ => 0)), (q_5, kx_aD G 128 (fun _ => 0)), (q_6, kx_aZ G 16 (fun _ => 0))] := hD
  refine va_putF (D := G.1) (ci := 6) (v := .ref q_6) (ty := .array .boolean) (C := RX5) (T := TX5) (N := 19) hx hb hts hin_X5 tyX5 tyX5_ok nmX5 hown hT.1 hP hD hS 0 rfl rfl 10 (by decide) hf_26 (fun _ h9 => h9) rfl hin rfl (by decide +kernel) rfl rfl (Nat.le_of_ble_eq_true rfl) dX5_init_86 (fun H locs hP hD hS => ?_)
  have hP : va_P G.1 vwCl [(h0, .inr (6, [.int 0, .int 0, .int 0, .ref q_1, .ref q_2, .ref q_3, .ref q_4, .ref q_5, .int 0, .int 0, .ref q_6, .null, .int 0, .null, .null, .null, .int 0, .null, .null])), (q_1, kx_aD G 8 (vf_upd (vf_upd (vf_upd (vf_upd (vf_upd (vf_upd (vf_upd (vf_upd (fun _ => 0) 0 FP.dconst1) 1 FP.dconst1) 2 FP.dconst1) 3 FP.dconst1) 4 FP.dconst1) 5 FP.dconst1) 6 FP.dconst1) 7 FP.dconst1)), (q_2, kx_aD G 8 (fun _ => 0)), (q_3, kx_aZ G 128 (fun _ => 0)), (q_4, kx_aD G 128 (fun _ => 0)), (q_5, kx_aD G 128 (fun _ => 0)), (q_6, kx_aZ G 16 (fun _ => 0))] H := hP
  have hD : va_D A [(h0, .inr (6, [.int 0, .int 0, .int 0, .ref q_1, .ref q_2, .ref q_3, .ref q_4, .ref q_5, .int 0, .int 0, .ref q_6, .null, .int 0, .null, .null, .null, .int 0, .null, .null])), (q_1, kx_aD G 8 (vf_upd (vf_upd (vf_upd (vf_upd (vf_upd (vf_upd (vf_upd (vf_upd (fun _ => 0) 0 FP.dconst1) 1 FP.dconst1) 2 FP.dconst1) 3 FP.dconst1) 4 FP.dconst1) 5 FP.dconst1) 6 FP.dconst1) 7 FP.dconst1)), (q_2, kx_aD G 8 (fun _ => 0)), (q_3, kx_aZ G 128 (fun _ => 0)), (q_4, kx_aD G 128 (fun _ => 0)), (q_5, kx_aD G 128 (fun _ => 0)), (q_6, kx_aZ G 16 (fun _ => 0))] := hD
  refine lv_aload_n hx hb dX5_init_89 rfl (lv_at hl 0 rfl) ?_
  refine lv_bipush (v := 64) hx hb dX5_init_90 (by decide) ?_
  refine kx_newD hx hb ha_D hT hP hD hS hA 64 (by omega) (show 6 + 1 ≤ 12 from by omega) (show ((((((0 + 8) + 8) + 128) + 128) + 128) + 16) + 64 ≤ 530 from by omega) dX5_init_92 (fun q_7 H hP hD hS => ?_)
  have hP : va_P G.1 vwCl [(h0, .inr (6, [.int 0, .int 0, .int 0, .ref q_1, .ref q_2, .ref q_3, .ref q_4, .ref q_5, .int 0, .int 0, .ref q_6, .null, .int 0, .null, .null, .null, .int 0, .null, .null])), (q_1, kx_aD G 8 (vf_upd (vf_upd (vf_upd (vf_upd (vf_upd (vf_upd (vf_upd (vf_upd (fun _ => 0) 0 FP.dconst1) 1 FP.dconst1) 2 FP.dconst1) 3 FP.dconst1) 4 FP.dconst1) 5 FP.dconst1) 6 FP.dconst1) 7 FP.dconst1)), (q_2, kx_aD G 8 (fun _ => 0)), (q_3, kx_aZ G 128 (fun _ => 0)), (q_4, kx_aD G 128 (fun _ => 0)), (q_5, kx_aD G 128 (fun _ => 0)), (q_6, kx_aZ G 16 (fun _ => 0)), (q_7, kx_aD G 64 (fun _ => 0))] H := hP
  have hD : va_D A [(h0, .inr (6, [.int 0, .int 0, .int 0, .ref q_1, .ref q_2, .ref q_3, .ref q_4, .ref q_5, .int 0, .int 0, .ref q_6, .null, .int 0, .null, .null, .null, .int 0, .null, .null])), (q_1, kx_aD G 8 (vf_upd (vf_upd (vf_upd (vf_upd (vf_upd (vf_upd (vf_upd (vf_upd (fun _ => 0) 0 FP.dconst1) 1 FP.dconst1) 2 FP.dconst1) 3 FP.dconst1) 4 FP.dconst1) 5 FP.dconst1) 6 FP.dconst1) 7 FP.dconst1)), (q_2, kx_aD G 8 (fun _ => 0)), (q_3, kx_aZ G 128 (fun _ => 0)), (q_4, kx_aD G 128 (fun _ => 0)), (q_5, kx_aD G 128 (fun _ => 0)), (q_6, kx_aZ G 16 (fun _ => 0)), (q_7, kx_aD G 64 (fun _ => 0))] := hD
  refine va_putF (D := G.1) (ci := 6) (v := .ref q_7) (ty := .array .double) (C := RX5) (T := TX5) (N := 19) hx hb hts hin_X5 tyX5 tyX5_ok nmX5 hown hT.1 hP hD hS 0 rfl rfl 11 (by decide) hf_29 (fun _ h9 => h9) rfl hin rfl (by decide +kernel) rfl rfl (Nat.le_of_ble_eq_true rfl) dX5_init_94 (fun H locs hP hD hS => ?_)
  have hP : va_P G.1 vwCl [(h0, .inr (6, [.int 0, .int 0, .int 0, .ref q_1, .ref q_2, .ref q_3, .ref q_4, .ref q_5, .int 0, .int 0, .ref q_6, .ref q_7, .int 0, .null, .null, .null, .int 0, .null, .null])), (q_1, kx_aD G 8 (vf_upd (vf_upd (vf_upd (vf_upd (vf_upd (vf_upd (vf_upd (vf_upd (fun _ => 0) 0 FP.dconst1) 1 FP.dconst1) 2 FP.dconst1) 3 FP.dconst1) 4 FP.dconst1) 5 FP.dconst1) 6 FP.dconst1) 7 FP.dconst1)), (q_2, kx_aD G 8 (fun _ => 0)), (q_3, kx_aZ G 128 (fun _ => 0)), (q_4, kx_aD G 128 (fun _ => 0)), (q_5, kx_aD G 128 (fun _ => 0)), (q_6, kx_aZ G 16 (fun _ => 0)), (q_7, kx_aD G 64 (fun _ => 0))] H := hP
  have hD : va_D A [(h0, .inr (6, [.int 0, .int 0, .int 0, .ref q_1, .ref q_2, .ref q_3, .ref q_4, .ref q_5, .int 0, .int 0, .ref q_6, .ref q_7, .int 0, .null, .null, .null, .int 0, .null, .null])), (q_1, kx_aD G 8 (vf_upd (vf_upd (vf_upd (vf_upd (vf_upd (vf_upd (vf_upd (vf_upd (fun _ => 0) 0 FP.dconst1) 1 FP.dconst1) 2 FP.dconst1) 3 FP.dconst1) 4 FP.dconst1) 5 FP.dconst1) 6 FP.dconst1) 7 FP.dconst1)), (q_2, kx_aD G 8 (fun _ => 0)), (q_3, kx_aZ G 128 (fun _ => 0)), (q_4, kx_aD G 128 (fun _ => 0)), (q_5, kx_aD G 128 (fun _ => 0)), (q_6, kx_aZ G 16 (fun _ => 0)), (q_7, kx_aD G 64 (fun _ => 0))] := hD
  refine lv_aload_n hx hb dX5_init_97 rfl (lv_at hl 0 rfl) ?_
  refine lv_bipush (v := 6) hx hb dX5_init_98 (by decide) ?_
  refine kx_newI hx hb ha_I hT hP hD hS hA 6 (by omega) (show 7 + 1 ≤ 12 from by omega) (show (((((((0 + 8) + 8) + 128) + 128) + 128) + 16) + 64) + 6 ≤ 530 from by omega) dX5_init_100 (fun q_8 H hP hD hS => ?_)
  have hP : va_P G.1 vwCl [(h0, .inr (6, [.int 0, .int 0, .int 0, .ref q_1, .ref q_2, .ref q_3, .ref q_4, .ref q_5, .int 0, .int 0, .ref q_6, .ref q_7, .int 0, .null, .null, .null, .int 0, .null, .null])), (q_1, kx_aD G 8 (vf_upd (vf_upd (vf_upd (vf_upd (vf_upd (vf_upd (vf_upd (vf_upd (fun _ => 0) 0 FP.dconst1) 1 FP.dconst1) 2 FP.dconst1) 3 FP.dconst1) 4 FP.dconst1) 5 FP.dconst1) 6 FP.dconst1) 7 FP.dconst1)), (q_2, kx_aD G 8 (fun _ => 0)), (q_3, kx_aZ G 128 (fun _ => 0)), (q_4, kx_aD G 128 (fun _ => 0)), (q_5, kx_aD G 128 (fun _ => 0)), (q_6, kx_aZ G 16 (fun _ => 0)), (q_7, kx_aD G 64 (fun _ => 0)), (q_8, kx_aI G 6 (fun _ => 0))] H := hP
  have hD : va_D A [(h0, .inr (6, [.int 0, .int 0, .int 0, .ref q_1, .ref q_2, .ref q_3, .ref q_4, .ref q_5, .int 0, .int 0, .ref q_6, .ref q_7, .int 0, .null, .null, .null, .int 0, .null, .null])), (q_1, kx_aD G 8 (vf_upd (vf_upd (vf_upd (vf_upd (vf_upd (vf_upd (vf_upd (vf_upd (fun _ => 0) 0 FP.dconst1) 1 FP.dconst1) 2 FP.dconst1) 3 FP.dconst1) 4 FP.dconst1) 5 FP.dconst1) 6 FP.dconst1) 7 FP.dconst1)), (q_2, kx_aD G 8 (fun _ => 0)), (q_3, kx_aZ G 128 (fun _ => 0)), (q_4, kx_aD G 128 (fun _ => 0)), (q_5, kx_aD G 128 (fun _ => 0)), (q_6, kx_aZ G 16 (fun _ => 0)), (q_7, kx_aD G 64 (fun _ => 0)), (q_8, kx_aI G 6 (fun _ => 0))] := hD
  refine va_putF (D := G.1) (ci := 6) (v := .ref q_8) (ty := .array .int) (C := RX5) (T := TX5) (N := 19) hx hb hts hin_X5 tyX5 tyX5_ok nmX5 hown hT.1 hP hD hS 0 rfl rfl 13 (by decide) hf_32 (fun _ h9 => h9) rfl hin rfl (by decide +kernel) rfl rfl (Nat.le_of_ble_eq_true rfl) dX5_init_102 (fun H locs hP hD hS => ?_)
  have hP : va_P G.1 vwCl [(h0, .inr (6, [.int 0, .int 0, .int 0, .ref q_1, .ref q_2, .ref q_3, .ref q_4, .ref q_5, .int 0, .int 0, .ref q_6, .ref q_7, .int 0, .ref q_8, .null, .null, .int 0, .null, .null])), (q_1, kx_aD G 8 (vf_upd (vf_upd (vf_upd (vf_upd (vf_upd (vf_upd (vf_upd (vf_upd (fun _ => 0) 0 FP.dconst1) 1 FP.dconst1) 2 FP.dconst1) 3 FP.dconst1) 4 FP.dconst1) 5 FP.dconst1) 6 FP.dconst1) 7 FP.dconst1)), (q_2, kx_aD G 8 (fun _ => 0)), (q_3, kx_aZ G 128 (fun _ => 0)), (q_4, kx_aD G 128 (fun _ => 0)), (q_5, kx_aD G 128 (fun _ => 0)), (q_6, kx_aZ G 16 (fun _ => 0)), (q_7, kx_aD G 64 (fun _ => 0)), (q_8, kx_aI G 6 (fun _ => 0))] H := hP
  have hD : va_D A [(h0, .inr (6, [.int 0, .int 0, .int 0, .ref q_1, .ref q_2, .ref q_3, .ref q_4, .ref q_5, .int 0, .int 0, .ref q_6, .ref q_7, .int 0, .ref q_8, .null, .null, .int 0, .null, .null])), (q_1, kx_aD G 8 (vf_upd (vf_upd (vf_upd (vf_upd (vf_upd (vf_upd (vf_upd (vf_upd (fun _ => 0) 0 FP.dconst1) 1 FP.dconst1) 2 FP.dconst1) 3 FP.dconst1) 4 FP.dconst1) 5 FP.dconst1) 6 FP.dconst1) 7 FP.dconst1)), (q_2, kx_aD G 8 (fun _ => 0)), (q_3, kx_aZ G 128 (fun _ => 0)), (q_4, kx_aD G 128 (fun _ => 0)), (q_5, kx_aD G 128 (fun _ => 0)), (q_6, kx_aZ G 16 (fun _ => 0)), (q_7, kx_aD G 64 (fun _ => 0)), (q_8, kx_aI G 6 (fun _ => 0))] := hD
  refine lv_aload_n hx hb dX5_init_105 rfl (lv_at hl 0 rfl) ?_
  refine lv_bipush (v := 6) hx hb dX5_init_106 (by decide) ?_
  refine kx_newD hx hb ha_D hT hP hD hS hA 6 (by omega) (show 8 + 1 ≤ 12 from by omega) (show ((((((((0 + 8) + 8) + 128) + 128) + 128) + 16) + 64) + 6) + 6 ≤ 530 from by omega) dX5_init_108 (fun q_9 H hP hD hS => ?_)
  have hP : va_P G.1 vwCl [(h0, .inr (6, [.int 0, .int 0, .int 0, .ref q_1, .ref q_2, .ref q_3, .ref q_4, .ref q_5, .int 0, .int 0, .ref q_6, .ref q_7, .int 0, .ref q_8, .null, .null, .int 0, .null, .null])), (q_1, kx_aD G 8 (vf_upd (vf_upd (vf_upd (vf_upd (vf_upd (vf_upd (vf_upd (vf_upd (fun _ => 0) 0 FP.dconst1) 1 FP.dconst1) 2 FP.dconst1) 3 FP.dconst1) 4 FP.dconst1) 5 FP.dconst1) 6 FP.dconst1) 7 FP.dconst1)), (q_2, kx_aD G 8 (fun _ => 0)), (q_3, kx_aZ G 128 (fun _ => 0)), (q_4, kx_aD G 128 (fun _ => 0)), (q_5, kx_aD G 128 (fun _ => 0)), (q_6, kx_aZ G 16 (fun _ => 0)), (q_7, kx_aD G 64 (fun _ => 0)), (q_8, kx_aI G 6 (fun _ => 0)), (q_9, kx_aD G 6 (fun _ => 0))] H := hP
  have hD : va_D A [(h0, .inr (6, [.int 0, .int 0, .int 0, .ref q_1, .ref q_2, .ref q_3, .ref q_4, .ref q_5, .int 0, .int 0, .ref q_6, .ref q_7, .int 0, .ref q_8, .null, .null, .int 0, .null, .null])), (q_1, kx_aD G 8 (vf_upd (vf_upd (vf_upd (vf_upd (vf_upd (vf_upd (vf_upd (vf_upd (fun _ => 0) 0 FP.dconst1) 1 FP.dconst1) 2 FP.dconst1) 3 FP.dconst1) 4 FP.dconst1) 5 FP.dconst1) 6 FP.dconst1) 7 FP.dconst1)), (q_2, kx_aD G 8 (fun _ => 0)), (q_3, kx_aZ G 128 (fun _ => 0)), (q_4, kx_aD G 128 (fun _ => 0)), (q_5, kx_aD G 128 (fun _ => 0)), (q_6, kx_aZ G 16 (fun _ => 0)), (q_7, kx_aD G 64 (fun _ => 0)), (q_8, kx_aI G 6 (fun _ => 0)), (q_9, kx_aD G 6 (fun _ => 0))] := hD
  refine va_putF (D := G.1) (ci := 6) (v := .ref q_9) (ty := .array .double) (C := RX5) (T := TX5) (N := 19) hx hb hts hin_X5 tyX5 tyX5_ok nmX5 hown hT.1 hP hD hS 0 rfl rfl 14 (by decide) hf_36 (fun _ h9 => h9) rfl hin rfl (by decide +kernel) rfl rfl (Nat.le_of_ble_eq_true rfl) dX5_init_110 (fun H locs hP hD hS => ?_)
  have hP : va_P G.1 vwCl [(h0, .inr (6, [.int 0, .int 0, .int 0, .ref q_1, .ref q_2, .ref q_3, .ref q_4, .ref q_5, .int 0, .int 0, .ref q_6, .ref q_7, .int 0, .ref q_8, .ref q_9, .null, .int 0, .null, .null])), (q_1, kx_aD G 8 (vf_upd (vf_upd (vf_upd (vf_upd (vf_upd (vf_upd (vf_upd (vf_upd (fun _ => 0) 0 FP.dconst1) 1 FP.dconst1) 2 FP.dconst1) 3 FP.dconst1) 4 FP.dconst1) 5 FP.dconst1) 6 FP.dconst1) 7 FP.dconst1)), (q_2, kx_aD G 8 (fun _ => 0)), (q_3, kx_aZ G 128 (fun _ => 0)), (q_4, kx_aD G 128 (fun _ => 0)), (q_5, kx_aD G 128 (fun _ => 0)), (q_6, kx_aZ G 16 (fun _ => 0)), (q_7, kx_aD G 64 (fun _ => 0)), (q_8, kx_aI G 6 (fun _ => 0)), (q_9, kx_aD G 6 (fun _ => 0))] H := hP
  have hD : va_D A [(h0, .inr (6, [.int 0, .int 0, .int 0, .ref q_1, .ref q_2, .ref q_3, .ref q_4, .ref q_5, .int 0, .int 0, .ref q_6, .ref q_7, .int 0, .ref q_8, .ref q_9, .null, .int 0, .null, .null])), (q_1, kx_aD G 8 (vf_upd (vf_upd (vf_upd (vf_upd (vf_upd (vf_upd (vf_upd (vf_upd (fun _ => 0) 0 FP.dconst1) 1 FP.dconst1) 2 FP.dconst1) 3 FP.dconst1) 4 FP.dconst1) 5 FP.dconst1) 6 FP.dconst1) 7 FP.dconst1)), (q_2, kx_aD G 8 (fun _ => 0)), (q_3, kx_aZ G 128 (fun _ => 0)), (q_4, kx_aD G 128 (fun _ => 0)), (q_5, kx_aD G 128 (fun _ => 0)), (q_6, kx_aZ G 16 (fun _ => 0)), (q_7, kx_aD G 64 (fun _ => 0)), (q_8, kx_aI G 6 (fun _ => 0)), (q_9, kx_aD G 6 (fun _ => 0))] := hD
  refine lv_aload_n hx hb dX5_init_113 rfl (lv_at hl 0 rfl) ?_
  refine lv_bipush (v := 6) hx hb dX5_init_114 (by decide) ?_
  refine kx_newI hx hb ha_I hT hP hD hS hA 6 (by omega) (show 9 + 1 ≤ 12 from by omega) (show (((((((((0 + 8) + 8) + 128) + 128) + 128) + 16) + 64) + 6) + 6) + 6 ≤ 530 from by omega) dX5_init_116 (fun q_10 H hP hD hS => ?_)
  have hP : va_P G.1 vwCl [(h0, .inr (6, [.int 0, .int 0, .int 0, .ref q_1, .ref q_2, .ref q_3, .ref q_4, .ref q_5, .int 0, .int 0, .ref q_6, .ref q_7, .int 0, .ref q_8, .ref q_9, .null, .int 0, .null, .null])), (q_1, kx_aD G 8 (vf_upd (vf_upd (vf_upd (vf_upd (vf_upd (vf_upd (vf_upd (vf_upd (fun _ => 0) 0 FP.dconst1) 1 FP.dconst1) 2 FP.dconst1) 3 FP.dconst1) 4 FP.dconst1) 5 FP.dconst1) 6 FP.dconst1) 7 FP.dconst1)), (q_2, kx_aD G 8 (fun _ => 0)), (q_3, kx_aZ G 128 (fun _ => 0)), (q_4, kx_aD G 128 (fun _ => 0)), (q_5, kx_aD G 128 (fun _ => 0)), (q_6, kx_aZ G 16 (fun _ => 0)), (q_7, kx_aD G 64 (fun _ => 0)), (q_8, kx_aI G 6 (fun _ => 0)), (q_9, kx_aD G 6 (fun _ => 0)), (q_10, kx_aI G 6 (fun _ => 0))] H := hP
  have hD : va_D A [(h0, .inr (6, [.int 0, .int 0, .int 0, .ref q_1, .ref q_2, .ref q_3, .ref q_4, .ref q_5, .int 0, .int 0, .ref q_6, .ref q_7, .int 0, .ref q_8, .ref q_9, .null, .int 0, .null, .null])), (q_1, kx_aD G 8 (vf_upd (vf_upd (vf_upd (vf_upd (vf_upd (vf_upd (vf_upd (vf_upd (fun _ => 0) 0 FP.dconst1) 1 FP.dconst1) 2 FP.dconst1) 3 FP.dconst1) 4 FP.dconst1) 5 FP.dconst1) 6 FP.dconst1) 7 FP.dconst1)), (q_2, kx_aD G 8 (fun _ => 0)), (q_3, kx_aZ G 128 (fun _ => 0)), (q_4, kx_aD G 128 (fun _ => 0)), (q_5, kx_aD G 128 (fun _ => 0)), (q_6, kx_aZ G 16 (fun _ => 0)), (q_7, kx_aD G 64 (fun _ => 0)), (q_8, kx_aI G 6 (fun _ => 0)), (q_9, kx_aD G 6 (fun _ => 0)), (q_10, kx_aI G 6 (fun _ => 0))] := hD
  refine va_putF (D := G.1) (ci := 6) (v := .ref q_10) (ty := .array .int) (C := RX5) (T := TX5) (N := 19) hx hb hts hin_X5 tyX5 tyX5_ok nmX5 hown hT.1 hP hD hS 0 rfl rfl 15 (by decide) hf_39 (fun _ h9 => h9) rfl hin rfl (by decide +kernel) rfl rfl (Nat.le_of_ble_eq_true rfl) dX5_init_118 (fun H locs hP hD hS => ?_)
  have hP : va_P G.1 vwCl [(h0, .inr (6, [.int 0, .int 0, .int 0, .ref q_1, .ref q_2, .ref q_3, .ref q_4, .ref q_5, .int 0, .int 0, .ref q_6, .ref q_7, .int 0, .ref q_8, .ref q_9, .ref q_10, .int 0, .null, .null])), (q_1, kx_aD G 8 (vf_upd (vf_upd (vf_upd (vf_upd (vf_upd (vf_upd (vf_upd (vf_upd (fun _ => 0) 0 FP.dconst1) 1 FP.dconst1) 2 FP.dconst1) 3 FP.dconst1) 4 FP.dconst1) 5 FP.dconst1) 6 FP.dconst1) 7 FP.dconst1)), (q_2, kx_aD G 8 (fun _ => 0)), (q_3, kx_aZ G 128 (fun _ => 0)), (q_4, kx_aD G 128 (fun _ => 0)), (q_5, kx_aD G 128 (fun _ => 0)), (q_6, kx_aZ G 16 (fun _ => 0)), (q_7, kx_aD G 64 (fun _ => 0)), (q_8, kx_aI G 6 (fun _ => 0)), (q_9, kx_aD G 6 (fun _ => 0)), (q_10, kx_aI G 6 (fun _ => 0))] H := hP
  have hD : va_D A [(h0, .inr (6, [.int 0, .int 0, .int 0, .ref q_1, .ref q_2, .ref q_3, .ref q_4, .ref q_5, .int 0, .int 0, .ref q_6, .ref q_7, .int 0, .ref q_8, .ref q_9, .ref q_10, .int 0, .null, .null])), (q_1, kx_aD G 8 (vf_upd (vf_upd (vf_upd (vf_upd (vf_upd (vf_upd (vf_upd (vf_upd (fun _ => 0) 0 FP.dconst1) 1 FP.dconst1) 2 FP.dconst1) 3 FP.dconst1) 4 FP.dconst1) 5 FP.dconst1) 6 FP.dconst1) 7 FP.dconst1)), (q_2, kx_aD G 8 (fun _ => 0)), (q_3, kx_aZ G 128 (fun _ => 0)), (q_4, kx_aD G 128 (fun _ => 0)), (q_5, kx_aD G 128 (fun _ => 0)), (q_6, kx_aZ G 16 (fun _ => 0)), (q_7, kx_aD G 64 (fun _ => 0)), (q_8, kx_aI G 6 (fun _ => 0)), (q_9, kx_aD G 6 (fun _ => 0)), (q_10, kx_aI G 6 (fun _ => 0))] := hD
  refine lv_aload_n hx hb dX5_init_121 rfl (lv_at hl 0 rfl) ?_
  refine lv_bipush (v := 16) hx hb dX5_init_122 (by decide) ?_
  refine kx_newD hx hb ha_D hT hP hD hS hA 16 (by omega) (show 10 + 1 ≤ 12 from by omega) (show ((((((((((0 + 8) + 8) + 128) + 128) + 128) + 16) + 64) + 6) + 6) + 6) + 16 ≤ 530 from by omega) dX5_init_124 (fun q_11 H hP hD hS => ?_)
  have hP : va_P G.1 vwCl [(h0, .inr (6, [.int 0, .int 0, .int 0, .ref q_1, .ref q_2, .ref q_3, .ref q_4, .ref q_5, .int 0, .int 0, .ref q_6, .ref q_7, .int 0, .ref q_8, .ref q_9, .ref q_10, .int 0, .null, .null])), (q_1, kx_aD G 8 (vf_upd (vf_upd (vf_upd (vf_upd (vf_upd (vf_upd (vf_upd (vf_upd (fun _ => 0) 0 FP.dconst1) 1 FP.dconst1) 2 FP.dconst1) 3 FP.dconst1) 4 FP.dconst1) 5 FP.dconst1) 6 FP.dconst1) 7 FP.dconst1)), (q_2, kx_aD G 8 (fun _ => 0)), (q_3, kx_aZ G 128 (fun _ => 0)), (q_4, kx_aD G 128 (fun _ => 0)), (q_5, kx_aD G 128 (fun _ => 0)), (q_6, kx_aZ G 16 (fun _ => 0)), (q_7, kx_aD G 64 (fun _ => 0)), (q_8, kx_aI G 6 (fun _ => 0)), (q_9, kx_aD G 6 (fun _ => 0)), (q_10, kx_aI G 6 (fun _ => 0)), (q_11, kx_aD G 16 (fun _ => 0))] H := hP
  have hD : va_D A [(h0, .inr (6, [.int 0, .int 0, .int 0, .ref q_1, .ref q_2, .ref q_3, .ref q_4, .ref q_5, .int 0, .int 0, .ref q_6, .ref q_7, .int 0, .ref q_8, .ref q_9, .ref q_10, .int 0, .null, .null])), (q_1, kx_aD G 8 (vf_upd (vf_upd (vf_upd (vf_upd (vf_upd (vf_upd (vf_upd (vf_upd (fun _ => 0) 0 FP.dconst1) 1 FP.dconst1) 2 FP.dconst1) 3 FP.dconst1) 4 FP.dconst1) 5 FP.dconst1) 6 FP.dconst1) 7 FP.dconst1)), (q_2, kx_aD G 8 (fun _ => 0)), (q_3, kx_aZ G 128 (fun _ => 0)), (q_4, kx_aD G 128 (fun _ => 0)), (q_5, kx_aD G 128 (fun _ => 0)), (q_6, kx_aZ G 16 (fun _ => 0)), (q_7, kx_aD G 64 (fun _ => 0)), (q_8, kx_aI G 6 (fun _ => 0)), (q_9, kx_aD G 6 (fun _ => 0)), (q_10, kx_aI G 6 (fun _ => 0)), (q_11, kx_aD G 16 (fun _ => 0))] := hD
  refine va_putF (D := G.1) (ci := 6) (v := .ref q_11) (ty := .array .double) (C := RX5) (T := TX5) (N := 19) hx hb hts hin_X5 tyX5 tyX5_ok nmX5 hown hT.1 hP hD hS 0 rfl rfl 17 (by decide) hf_42 (fun _ h9 => h9) rfl hin rfl (by decide +kernel) rfl rfl (Nat.le_of_ble_eq_true rfl) dX5_init_126 (fun H locs hP hD hS => ?_)
  have hP : va_P G.1 vwCl [(h0, .inr (6, [.int 0, .int 0, .int 0, .ref q_1, .ref q_2, .ref q_3, .ref q_4, .ref q_5, .int 0, .int 0, .ref q_6, .ref q_7, .int 0, .ref q_8, .ref q_9, .ref q_10, .int 0, .ref q_11, .null])), (q_1, kx_aD G 8 (vf_upd (vf_upd (vf_upd (vf_upd (vf_upd (vf_upd (vf_upd (vf_upd (fun _ => 0) 0 FP.dconst1) 1 FP.dconst1) 2 FP.dconst1) 3 FP.dconst1) 4 FP.dconst1) 5 FP.dconst1) 6 FP.dconst1) 7 FP.dconst1)), (q_2, kx_aD G 8 (fun _ => 0)), (q_3, kx_aZ G 128 (fun _ => 0)), (q_4, kx_aD G 128 (fun _ => 0)), (q_5, kx_aD G 128 (fun _ => 0)), (q_6, kx_aZ G 16 (fun _ => 0)), (q_7, kx_aD G 64 (fun _ => 0)), (q_8, kx_aI G 6 (fun _ => 0)), (q_9, kx_aD G 6 (fun _ => 0)), (q_10, kx_aI G 6 (fun _ => 0)), (q_11, kx_aD G 16 (fun _ => 0))] H := hP
  have hD : va_D A [(h0, .inr (6, [.int 0, .int 0, .int 0, .ref q_1, .ref q_2, .ref q_3, .ref q_4, .ref q_5, .int 0, .int 0, .ref q_6, .ref q_7, .int 0, .ref q_8, .ref q_9, .ref q_10, .int 0, .ref q_11, .null])), (q_1, kx_aD G 8 (vf_upd (vf_upd (vf_upd (vf_upd (vf_upd (vf_upd (vf_upd (vf_upd (fun _ => 0) 0 FP.dconst1) 1 FP.dconst1) 2 FP.dconst1) 3 FP.dconst1) 4 FP.dconst1) 5 FP.dconst1) 6 FP.dconst1) 7 FP.dconst1)), (q_2, kx_aD G 8 (fun _ => 0)), (q_3, kx_aZ G 128 (fun _ => 0)), (q_4, kx_aD G 128 (fun _ => 0)), (q_5, kx_aD G 128 (fun _ => 0)), (q_6, kx_aZ G 16 (fun _ => 0)), (q_7, kx_aD G 64 (fun _ => 0)), (q_8, kx_aI G 6 (fun _ => 0)), (q_9, kx_aD G 6 (fun _ => 0)), (q_10, kx_aI G 6 (fun _ => 0)), (q_11, kx_aD G 16 (fun _ => 0))] := hD
  refine lv_aload_n hx hb dX5_init_129 rfl (lv_at hl 0 rfl) ?_
  refine lv_bipush (v := 16) hx hb dX5_init_130 (by decide) ?_
  refine kx_newD hx hb ha_D hT hP hD hS hA 16 (by omega) (show 11 + 1 ≤ 12 from by omega) (show (((((((((((0 + 8) + 8) + 128) + 128) + 128) + 16) + 64) + 6) + 6) + 6) + 16) + 16 ≤ 530 from by omega) dX5_init_132 (fun q_12 H hP hD hS => ?_)
  have hP : va_P G.1 vwCl [(h0, .inr (6, [.int 0, .int 0, .int 0, .ref q_1, .ref q_2, .ref q_3, .ref q_4, .ref q_5, .int 0, .int 0, .ref q_6, .ref q_7, .int 0, .ref q_8, .ref q_9, .ref q_10, .int 0, .ref q_11, .null])), (q_1, kx_aD G 8 (vf_upd (vf_upd (vf_upd (vf_upd (vf_upd (vf_upd (vf_upd (vf_upd (fun _ => 0) 0 FP.dconst1) 1 FP.dconst1) 2 FP.dconst1) 3 FP.dconst1) 4 FP.dconst1) 5 FP.dconst1) 6 FP.dconst1) 7 FP.dconst1)), (q_2, kx_aD G 8 (fun _ => 0)), (q_3, kx_aZ G 128 (fun _ => 0)), (q_4, kx_aD G 128 (fun _ => 0)), (q_5, kx_aD G 128 (fun _ => 0)), (q_6, kx_aZ G 16 (fun _ => 0)), (q_7, kx_aD G 64 (fun _ => 0)), (q_8, kx_aI G 6 (fun _ => 0)), (q_9, kx_aD G 6 (fun _ => 0)), (q_10, kx_aI G 6 (fun _ => 0)), (q_11, kx_aD G 16 (fun _ => 0)), (q_12, kx_aD G 16 (fun _ => 0))] H := hP
  have hD : va_D A [(h0, .inr (6, [.int 0, .int 0, .int 0, .ref q_1, .ref q_2, .ref q_3, .ref q_4, .ref q_5, .int 0, .int 0, .ref q_6, .ref q_7, .int 0, .ref q_8, .ref q_9, .ref q_10, .int 0, .ref q_11, .null])), (q_1, kx_aD G 8 (vf_upd (vf_upd (vf_upd (vf_upd (vf_upd (vf_upd (vf_upd (vf_upd (fun _ => 0) 0 FP.dconst1) 1 FP.dconst1) 2 FP.dconst1) 3 FP.dconst1) 4 FP.dconst1) 5 FP.dconst1) 6 FP.dconst1) 7 FP.dconst1)), (q_2, kx_aD G 8 (fun _ => 0)), (q_3, kx_aZ G 128 (fun _ => 0)), (q_4, kx_aD G 128 (fun _ => 0)), (q_5, kx_aD G 128 (fun _ => 0)), (q_6, kx_aZ G 16 (fun _ => 0)), (q_7, kx_aD G 64 (fun _ => 0)), (q_8, kx_aI G 6 (fun _ => 0)), (q_9, kx_aD G 6 (fun _ => 0)), (q_10, kx_aI G 6 (fun _ => 0)), (q_11, kx_aD G 16 (fun _ => 0)), (q_12, kx_aD G 16 (fun _ => 0))] := hD
  refine va_putF (D := G.1) (ci := 6) (v := .ref q_12) (ty := .array .double) (C := RX5) (T := TX5) (N := 19) hx hb hts hin_X5 tyX5 tyX5_ok nmX5 hown hT.1 hP hD hS 0 rfl rfl 18 (by decide) hf_45 (fun _ h9 => h9) rfl hin rfl (by decide +kernel) rfl rfl (Nat.le_of_ble_eq_true rfl) dX5_init_134 (fun H locs hP hD hS => ?_)
  have hP : va_P G.1 vwCl [(h0, .inr (6, [.int 0, .int 0, .int 0, .ref q_1, .ref q_2, .ref q_3, .ref q_4, .ref q_5, .int 0, .int 0, .ref q_6, .ref q_7, .int 0, .ref q_8, .ref q_9, .ref q_10, .int 0, .ref q_11, .ref q_12])), (q_1, kx_aD G 8 (vf_upd (vf_upd (vf_upd (vf_upd (vf_upd (vf_upd (vf_upd (vf_upd (fun _ => 0) 0 FP.dconst1) 1 FP.dconst1) 2 FP.dconst1) 3 FP.dconst1) 4 FP.dconst1) 5 FP.dconst1) 6 FP.dconst1) 7 FP.dconst1)), (q_2, kx_aD G 8 (fun _ => 0)), (q_3, kx_aZ G 128 (fun _ => 0)), (q_4, kx_aD G 128 (fun _ => 0)), (q_5, kx_aD G 128 (fun _ => 0)), (q_6, kx_aZ G 16 (fun _ => 0)), (q_7, kx_aD G 64 (fun _ => 0)), (q_8, kx_aI G 6 (fun _ => 0)), (q_9, kx_aD G 6 (fun _ => 0)), (q_10, kx_aI G 6 (fun _ => 0)), (q_11, kx_aD G 16 (fun _ => 0)), (q_12, kx_aD G 16 (fun _ => 0))] H := hP
  have hD : va_D A [(h0, .inr (6, [.int 0, .int 0, .int 0, .ref q_1, .ref q_2, .ref q_3, .ref q_4, .ref q_5, .int 0, .int 0, .ref q_6, .ref q_7, .int 0, .ref q_8, .ref q_9, .ref q_10, .int 0, .ref q_11, .ref q_12])), (q_1, kx_aD G 8 (vf_upd (vf_upd (vf_upd (vf_upd (vf_upd (vf_upd (vf_upd (vf_upd (fun _ => 0) 0 FP.dconst1) 1 FP.dconst1) 2 FP.dconst1) 3 FP.dconst1) 4 FP.dconst1) 5 FP.dconst1) 6 FP.dconst1) 7 FP.dconst1)), (q_2, kx_aD G 8 (fun _ => 0)), (q_3, kx_aZ G 128 (fun _ => 0)), (q_4, kx_aD G 128 (fun _ => 0)), (q_5, kx_aD G 128 (fun _ => 0)), (q_6, kx_aZ G 16 (fun _ => 0)), (q_7, kx_aD G 64 (fun _ => 0)), (q_8, kx_aI G 6 (fun _ => 0)), (q_9, kx_aD G 6 (fun _ => 0)), (q_10, kx_aI G 6 (fun _ => 0)), (q_11, kx_aD G 16 (fun _ => 0)), (q_12, kx_aD G 16 (fun _ => 0))] := hD
  refine lv_aload_n hx hb dX5_init_137 rfl (lv_at hl 0 rfl) ?_
  refine lv_iload_n hx hb dX5_init_138 rfl (lv_at hl 1 rfl) ?_
  refine lv_iconst (v := 1) hx hb dX5_init_139 (by decide) ?_
  refine lv_icmp_ge (x := a9) (y := 1) (tgt := 147) hx hb dX5_init_140 (by decide) (fun c_13 => ?_) (fun c_13 => ?_)
  · refine lv_iload_n hx hb dX5_init_147 rfl (lv_at hl 1 rfl) ?_
    refine lv_bipush (v := 16) hx hb dX5_init_148 (by decide) ?_
    refine lv_icmp_le (x := a9) (y := 16) (tgt := 158) hx hb dX5_init_150 (by decide) (fun c_14 => ?_) (fun c_14 => ?_)
    · refine lv_iload_n hx hb dX5_init_158 rfl (lv_at hl 1 rfl) ?_
      refine kx_ei (y := nI n) ((kx_ne_c c_13 c_14).symm.trans hna) ?_
      refine va_put (D := G.1) (ci := 6) (v := .int (nI n)) (ty := .int) (C := RX5) (T := TX5) (N := 19) hx hb hts hin_X5 tyX5 tyX5_ok nmX5 hown hT.1 hP hD hS 0 rfl rfl 1 (by decide) hf_48 (fun _ h9 => h9) rfl (by decide +kernel) rfl rfl (Nat.le_of_ble_eq_true rfl) dX5_init_159 (fun H locs hP hD hS => ?_)
      have hP : va_P G.1 vwCl [(h0, .inr (6, [.int 0, .int (nI n), .int 0, .ref q_1, .ref q_2, .ref q_3, .ref q_4, .ref q_5, .int 0, .int 0, .ref q_6, .ref q_7, .int 0, .ref q_8, .ref q_9, .ref q_10, .int 0, .ref q_11, .ref q_12])), (q_1, kx_aD G 8 (vf_upd (vf_upd (vf_upd (vf_upd (vf_upd (vf_upd (vf_upd (vf_upd (fun _ => 0) 0 FP.dconst1) 1 FP.dconst1) 2 FP.dconst1) 3 FP.dconst1) 4 FP.dconst1) 5 FP.dconst1) 6 FP.dconst1) 7 FP.dconst1)), (q_2, kx_aD G 8 (fun _ => 0)), (q_3, kx_aZ G 128 (fun _ => 0)), (q_4, kx_aD G 128 (fun _ => 0)), (q_5, kx_aD G 128 (fun _ => 0)), (q_6, kx_aZ G 16 (fun _ => 0)), (q_7, kx_aD G 64 (fun _ => 0)), (q_8, kx_aI G 6 (fun _ => 0)), (q_9, kx_aD G 6 (fun _ => 0)), (q_10, kx_aI G 6 (fun _ => 0)), (q_11, kx_aD G 16 (fun _ => 0)), (q_12, kx_aD G 16 (fun _ => 0))] H := hP
      have hD : va_D A [(h0, .inr (6, [.int 0, .int (nI n), .int 0, .ref q_1, .ref q_2, .ref q_3, .ref q_4, .ref q_5, .int 0, .int 0, .ref q_6, .ref q_7, .int 0, .ref q_8, .ref q_9, .ref q_10, .int 0, .ref q_11, .ref q_12])), (q_1, kx_aD G 8 (vf_upd (vf_upd (vf_upd (vf_upd (vf_upd (vf_upd (vf_upd (vf_upd (fun _ => 0) 0 FP.dconst1) 1 FP.dconst1) 2 FP.dconst1) 3 FP.dconst1) 4 FP.dconst1) 5 FP.dconst1) 6 FP.dconst1) 7 FP.dconst1)), (q_2, kx_aD G 8 (fun _ => 0)), (q_3, kx_aZ G 128 (fun _ => 0)), (q_4, kx_aD G 128 (fun _ => 0)), (q_5, kx_aD G 128 (fun _ => 0)), (q_6, kx_aZ G 16 (fun _ => 0)), (q_7, kx_aD G 64 (fun _ => 0)), (q_8, kx_aI G 6 (fun _ => 0)), (q_9, kx_aD G 6 (fun _ => 0)), (q_10, kx_aI G 6 (fun _ => 0)), (q_11, kx_aD G 16 (fun _ => 0)), (q_12, kx_aD G 16 (fun _ => 0))] := hD
      refine lv_aload_n hx hb dX5_init_162 rfl (lv_at hl 0 rfl) ?_
      refine lv_iload_n hx hb dX5_init_163 rfl (lv_at hl 2 rfl) ?_
      refine lv_iconst (v := 1) hx hb dX5_init_164 (by decide) ?_
      refine lv_icmp_ge (x := b9) (y := 1) (tgt := 172) hx hb dX5_init_165 (by decide) (fun c_15 => ?_) (fun c_15 => ?_)
      · refine lv_iload_n hx hb dX5_init_172 rfl (lv_at hl 2 rfl) ?_
        refine lv_bipush (v := 8) hx hb dX5_init_173 (by decide) ?_
        refine lv_icmp_le (x := b9) (y := 8) (tgt := 183) hx hb dX5_init_175 (by decide) (fun c_16 => ?_) (fun c_16 => ?_)
        · refine lv_iload_n hx hb dX5_init_183 rfl (lv_at hl 2 rfl) ?_
          refine kx_ei (y := nI v) ((kx_ne_c c_15 c_16).symm.trans hvb) ?_
          refine va_put (D := G.1) (ci := 6) (v := .int (nI v)) (ty := .int) (C := RX5) (T := TX5) (N := 19) hx hb hts hin_X5 tyX5 tyX5_ok nmX5 hown hT.1 hP hD hS 0 rfl rfl 2 (by decide) hf_52 (fun _ h9 => h9) rfl (by decide +kernel) rfl rfl (Nat.le_of_ble_eq_true rfl) dX5_init_184 (fun H locs hP hD hS => ?_)
          have hP : va_P G.1 vwCl [(h0, .inr (6, [.int 0, .int (nI n), .int (nI v), .ref q_1, .ref q_2, .ref q_3, .ref q_4, .ref q_5, .int 0, .int 0, .ref q_6, .ref q_7, .int 0, .ref q_8, .ref q_9, .ref q_10, .int 0, .ref q_11, .ref q_12])), (q_1, kx_aD G 8 (vf_upd (vf_upd (vf_upd (vf_upd (vf_upd (vf_upd (vf_upd (vf_upd (fun _ => 0) 0 FP.dconst1) 1 FP.dconst1) 2 FP.dconst1) 3 FP.dconst1) 4 FP.dconst1) 5 FP.dconst1) 6 FP.dconst1) 7 FP.dconst1)), (q_2, kx_aD G 8 (fun _ => 0)), (q_3, kx_aZ G 128 (fun _ => 0)), (q_4, kx_aD G 128 (fun _ => 0)), (q_5, kx_aD G 128 (fun _ => 0)), (q_6, kx_aZ G 16 (fun _ => 0)), (q_7, kx_aD G 64 (fun _ => 0)), (q_8, kx_aI G 6 (fun _ => 0)), (q_9, kx_aD G 6 (fun _ => 0)), (q_10, kx_aI G 6 (fun _ => 0)), (q_11, kx_aD G 16 (fun _ => 0)), (q_12, kx_aD G 16 (fun _ => 0))] H := hP
          have hD : va_D A [(h0, .inr (6, [.int 0, .int (nI n), .int (nI v), .ref q_1, .ref q_2, .ref q_3, .ref q_4, .ref q_5, .int 0, .int 0, .ref q_6, .ref q_7, .int 0, .ref q_8, .ref q_9, .ref q_10, .int 0, .ref q_11, .ref q_12])), (q_1, kx_aD G 8 (vf_upd (vf_upd (vf_upd (vf_upd (vf_upd (vf_upd (vf_upd (vf_upd (fun _ => 0) 0 FP.dconst1) 1 FP.dconst1) 2 FP.dconst1) 3 FP.dconst1) 4 FP.dconst1) 5 FP.dconst1) 6 FP.dconst1) 7 FP.dconst1)), (q_2, kx_aD G 8 (fun _ => 0)), (q_3, kx_aZ G 128 (fun _ => 0)), (q_4, kx_aD G 128 (fun _ => 0)), (q_5, kx_aD G 128 (fun _ => 0)), (q_6, kx_aZ G 16 (fun _ => 0)), (q_7, kx_aD G 64 (fun _ => 0)), (q_8, kx_aI G 6 (fun _ => 0)), (q_9, kx_aD G 6 (fun _ => 0)), (q_10, kx_aI G 6 (fun _ => 0)), (q_11, kx_aD G 16 (fun _ => 0)), (q_12, kx_aD G 16 (fun _ => 0))] := hD
          refine W.widen (k := 12) (n := 530) (by omega) (by omega) ?_
          exact W.vret hx hb hr (fun t ht hW => ⟨⟨(q_1, q_2, q_3, q_4, q_5, q_6, q_7, q_8, q_9, q_10, q_11, q_12), rfl, trivial, And.intro (by rw [ht]; exact hP) hD⟩, hS.F ht⟩) hS.2.2 dX5_init_187
        · refine lv_bipush (v := 8) hx hb dX5_init_178 (by decide) ?_
          refine lv_goto (tgt := 184) hx hb dX5_init_180 (by decide) ?_
          refine kx_ei (y := nI v) ((kx_ne_b c_15 c_16 (by decide)).symm.trans hvb) ?_
          refine va_put (D := G.1) (ci := 6) (v := .int (nI v)) (ty := .int) (C := RX5) (T := TX5) (N := 19) hx hb hts hin_X5 tyX5 tyX5_ok nmX5 hown hT.1 hP hD hS 0 rfl rfl 2 (by decide) hf_52 (fun _ h9 => h9) rfl (by decide +kernel) rfl rfl (Nat.le_of_ble_eq_true rfl) dX5_init_184 (fun H locs hP hD hS => ?_)
          have hP : va_P G.1 vwCl [(h0, .inr (6, [.int 0, .int (nI n), .int (nI v), .ref q_1, .ref q_2, .ref q_3, .ref q_4, .ref q_5, .int 0, .int 0, .ref q_6, .ref q_7, .int 0, .ref q_8, .ref q_9, .ref q_10, .int 0, .ref q_11, .ref q_12])), (q_1, kx_aD G 8 (vf_upd (vf_upd (vf_upd (vf_upd (vf_upd (vf_upd (vf_upd (vf_upd (fun _ => 0) 0 FP.dconst1) 1 FP.dconst1) 2 FP.dconst1) 3 FP.dconst1) 4 FP.dconst1) 5 FP.dconst1) 6 FP.dconst1) 7 FP.dconst1)), (q_2, kx_aD G 8 (fun _ => 0)), (q_3, kx_aZ G 128 (fun _ => 0)), (q_4, kx_aD G 128 (fun _ => 0)), (q_5, kx_aD G 128 (fun _ => 0)), (q_6, kx_aZ G 16 (fun _ => 0)), (q_7, kx_aD G 64 (fun _ => 0)), (q_8, kx_aI G 6 (fun _ => 0)), (q_9, kx_aD G 6 (fun _ => 0)), (q_10, kx_aI G 6 (fun _ => 0)), (q_11, kx_aD G 16 (fun _ => 0)), (q_12, kx_aD G 16 (fun _ => 0))] H := hP
          have hD : va_D A [(h0, .inr (6, [.int 0, .int (nI n), .int (nI v), .ref q_1, .ref q_2, .ref q_3, .ref q_4, .ref q_5, .int 0, .int 0, .ref q_6, .ref q_7, .int 0, .ref q_8, .ref q_9, .ref q_10, .int 0, .ref q_11, .ref q_12])), (q_1, kx_aD G 8 (vf_upd (vf_upd (vf_upd (vf_upd (vf_upd (vf_upd (vf_upd (vf_upd (fun _ => 0) 0 FP.dconst1) 1 FP.dconst1) 2 FP.dconst1) 3 FP.dconst1) 4 FP.dconst1) 5 FP.dconst1) 6 FP.dconst1) 7 FP.dconst1)), (q_2, kx_aD G 8 (fun _ => 0)), (q_3, kx_aZ G 128 (fun _ => 0)), (q_4, kx_aD G 128 (fun _ => 0)), (q_5, kx_aD G 128 (fun _ => 0)), (q_6, kx_aZ G 16 (fun _ => 0)), (q_7, kx_aD G 64 (fun _ => 0)), (q_8, kx_aI G 6 (fun _ => 0)), (q_9, kx_aD G 6 (fun _ => 0)), (q_10, kx_aI G 6 (fun _ => 0)), (q_11, kx_aD G 16 (fun _ => 0)), (q_12, kx_aD G 16 (fun _ => 0))] := hD
          refine W.widen (k := 12) (n := 530) (by omega) (by omega) ?_
          exact W.vret hx hb hr (fun t ht hW => ⟨⟨(q_1, q_2, q_3, q_4, q_5, q_6, q_7, q_8, q_9, q_10, q_11, q_12), rfl, trivial, And.intro (by rw [ht]; exact hP) hD⟩, hS.F ht⟩) hS.2.2 dX5_init_187
      · refine lv_iconst (v := 1) hx hb dX5_init_168 (by decide) ?_
        refine lv_goto (tgt := 184) hx hb dX5_init_169 (by decide) ?_
        refine kx_ei (y := nI v) ((kx_ne_a c_15 (by decide)).symm.trans hvb) ?_
        refine va_put (D := G.1) (ci := 6) (v := .int (nI v)) (ty := .int) (C := RX5) (T := TX5) (N := 19) hx hb hts hin_X5 tyX5 tyX5_ok nmX5 hown hT.1 hP hD hS 0 rfl rfl 2 (by decide) hf_52 (fun _ h9 => h9) rfl (by decide +kernel) rfl rfl (Nat.le_of_ble_eq_true rfl) dX5_init_184 (fun H locs hP hD hS => ?_)
        have hP : va_P G.1 vwCl [(h0, .inr (6, [.int 0, .int (nI n), .int (nI v), .ref q_1, .ref q_2, .ref q_3, .ref q_4, .ref q_5, .int 0, .int 0, .ref q_6, .ref q_7, .int 0, .ref q_8, .ref q_9, .ref q_10, .int 0, .ref q_11, .ref q_12])), (q_1, kx_aD G 8 (vf_upd (vf_upd (vf_upd (vf_upd (vf_upd (vf_upd (vf_upd (vf_upd (fun _ => 0) 0 FP.dconst1) 1 FP.dconst1) 2 FP.dconst1) 3 FP.dconst1) 4 FP.dconst1) 5 FP.dconst1) 6 FP.dconst1) 7 FP.dconst1)), (q_2, kx_aD G 8 (fun _ => 0)), (q_3, kx_aZ G 128 (fun _ => 0)), (q_4, kx_aD G 128 (fun _ => 0)), (q_5, kx_aD G 128 (fun _ => 0)), (q_6, kx_aZ G 16 (fun _ => 0)), (q_7, kx_aD G 64 (fun _ => 0)), (q_8, kx_aI G 6 (fun _ => 0)), (q_9, kx_aD G 6 (fun _ => 0)), (q_10, kx_aI G 6 (fun _ => 0)), (q_11, kx_aD G 16 (fun _ => 0)), (q_12, kx_aD G 16 (fun _ => 0))] H := hP
        have hD : va_D A [(h0, .inr (6, [.int 0, .int (nI n), .int (nI v), .ref q_1, .ref q_2, .ref q_3, .ref q_4, .ref q_5, .int 0, .int 0, .ref q_6, .ref q_7, .int 0, .ref q_8, .ref q_9, .ref q_10, .int 0, .ref q_11, .ref q_12])), (q_1, kx_aD G 8 (vf_upd (vf_upd (vf_upd (vf_upd (vf_upd (vf_upd (vf_upd (vf_upd (fun _ => 0) 0 FP.dconst1) 1 FP.dconst1) 2 FP.dconst1) 3 FP.dconst1) 4 FP.dconst1) 5 FP.dconst1) 6 FP.dconst1) 7 FP.dconst1)), (q_2, kx_aD G 8 (fun _ => 0)), (q_3, kx_aZ G 128 (fun _ => 0)), (q_4, kx_aD G 128 (fun _ => 0)), (q_5, kx_aD G 128 (fun _ => 0)), (q_6, kx_aZ G 16 (fun _ => 0)), (q_7, kx_aD G 64 (fun _ => 0)), (q_8, kx_aI G 6 (fun _ => 0)), (q_9, kx_aD G 6 (fun _ => 0)), (q_10, kx_aI G 6 (fun _ => 0)), (q_11, kx_aD G 16 (fun _ => 0)), (q_12, kx_aD G 16 (fun _ => 0))] := hD
        refine W.widen (k := 12) (n := 530) (by omega) (by omega) ?_
        exact W.vret hx hb hr (fun t ht hW => ⟨⟨(q_1, q_2, q_3, q_4, q_5, q_6, q_7, q_8, q_9, q_10, q_11, q_12), rfl, trivial, And.intro (by rw [ht]; exact hP) hD⟩, hS.F ht⟩) hS.2.2 dX5_init_187
    · refine lv_bipush (v := 16) hx hb dX5_init_153 (by decide) ?_
      refine lv_goto (tgt := 159) hx hb dX5_init_155 (by decide) ?_
      refine kx_ei (y := nI n) ((kx_ne_b c_13 c_14 (by decide)).symm.trans hna) ?_
      refine va_put (D := G.1) (ci := 6) (v := .int (nI n)) (ty := .int) (C := RX5) (T := TX5) (N := 19) hx hb hts hin_X5 tyX5 tyX5_ok nmX5 hown hT.1 hP hD hS 0 rfl rfl 1 (by decide) hf_48 (fun _ h9 => h9) rfl (by decide +kernel) rfl rfl (Nat.le_of_ble_eq_true rfl) dX5_init_159 (fun H locs hP hD hS => ?_)
      have hP : va_P G.1 vwCl [(h0, .inr (6, [.int 0, .int (nI n), .int 0, .ref q_1, .ref q_2, .ref q_3, .ref q_4, .ref q_5, .int 0, .int 0, .ref q_6, .ref q_7, .int 0, .ref q_8, .ref q_9, .ref q_10, .int 0, .ref q_11, .ref q_12])), (q_1, kx_aD G 8 (vf_upd (vf_upd (vf_upd (vf_upd (vf_upd (vf_upd (vf_upd (vf_upd (fun _ => 0) 0 FP.dconst1) 1 FP.dconst1) 2 FP.dconst1) 3 FP.dconst1) 4 FP.dconst1) 5 FP.dconst1) 6 FP.dconst1) 7 FP.dconst1)), (q_2, kx_aD G 8 (fun _ => 0)), (q_3, kx_aZ G 128 (fun _ => 0)), (q_4, kx_aD G 128 (fun _ => 0)), (q_5, kx_aD G 128 (fun _ => 0)), (q_6, kx_aZ G 16 (fun _ => 0)), (q_7, kx_aD G 64 (fun _ => 0)), (q_8, kx_aI G 6 (fun _ => 0)), (q_9, kx_aD G 6 (fun _ => 0)), (q_10, kx_aI G 6 (fun _ => 0)), (q_11, kx_aD G 16 (fun _ => 0)), (q_12, kx_aD G 16 (fun _ => 0))] H := hP
      have hD : va_D A [(h0, .inr (6, [.int 0, .int (nI n), .int 0, .ref q_1, .ref q_2, .ref q_3, .ref q_4, .ref q_5, .int 0, .int 0, .ref q_6, .ref q_7, .int 0, .ref q_8, .ref q_9, .ref q_10, .int 0, .ref q_11, .ref q_12])), (q_1, kx_aD G 8 (vf_upd (vf_upd (vf_upd (vf_upd (vf_upd (vf_upd (vf_upd (vf_upd (fun _ => 0) 0 FP.dconst1) 1 FP.dconst1) 2 FP.dconst1) 3 FP.dconst1) 4 FP.dconst1) 5 FP.dconst1) 6 FP.dconst1) 7 FP.dconst1)), (q_2, kx_aD G 8 (fun _ => 0)), (q_3, kx_aZ G 128 (fun _ => 0)), (q_4, kx_aD G 128 (fun _ => 0)), (q_5, kx_aD G 128 (fun _ => 0)), (q_6, kx_aZ G 16 (fun _ => 0)), (q_7, kx_aD G 64 (fun _ => 0)), (q_8, kx_aI G 6 (fun _ => 0)), (q_9, kx_aD G 6 (fun _ => 0)), (q_10, kx_aI G 6 (fun _ => 0)), (q_11, kx_aD G 16 (fun _ => 0)), (q_12, kx_aD G 16 (fun _ => 0))] := hD
      refine lv_aload_n hx hb dX5_init_162 rfl (lv_at hl 0 rfl) ?_
      refine lv_iload_n hx hb dX5_init_163 rfl (lv_at hl 2 rfl) ?_
      refine lv_iconst (v := 1) hx hb dX5_init_164 (by decide) ?_
      refine lv_icmp_ge (x := b9) (y := 1) (tgt := 172) hx hb dX5_init_165 (by decide) (fun c_17 => ?_) (fun c_17 => ?_)
      · refine lv_iload_n hx hb dX5_init_172 rfl (lv_at hl 2 rfl) ?_
        refine lv_bipush (v := 8) hx hb dX5_init_173 (by decide) ?_
        refine lv_icmp_le (x := b9) (y := 8) (tgt := 183) hx hb dX5_init_175 (by decide) (fun c_18 => ?_) (fun c_18 => ?_)
        · refine lv_iload_n hx hb dX5_init_183 rfl (lv_at hl 2 rfl) ?_
          refine kx_ei (y := nI v) ((kx_ne_c c_17 c_18).symm.trans hvb) ?_
          refine va_put (D := G.1) (ci := 6) (v := .int (nI v)) (ty := .int) (C := RX5) (T := TX5) (N := 19) hx hb hts hin_X5 tyX5 tyX5_ok nmX5 hown hT.1 hP hD hS 0 rfl rfl 2 (by decide) hf_52 (fun _ h9 => h9) rfl (by decide +kernel) rfl rfl (Nat.le_of_ble_eq_true rfl) dX5_init_184 (fun H locs hP hD hS => ?_)
          have hP : va_P G.1 vwCl [(h0, .inr (6, [.int 0, .int (nI n), .int (nI v), .ref q_1, .ref q_2, .ref q_3, .ref q_4, .ref q_5, .int 0, .int 0, .ref q_6, .ref q_7, .int 0, .ref q_8, .ref q_9, .ref q_10, .int 0, .ref q_11, .ref q_12])), (q_1, kx_aD G 8 (vf_upd (vf_upd (vf_upd (vf_upd (vf_upd (vf_upd (vf_upd (vf_upd (fun _ => 0) 0 FP.dconst1) 1 FP.dconst1) 2 FP.dconst1) 3 FP.dconst1) 4 FP.dconst1) 5 FP.dconst1) 6 FP.dconst1) 7 FP.dconst1)), (q_2, kx_aD G 8 (fun _ => 0)), (q_3, kx_aZ G 128 (fun _ => 0)), (q_4, kx_aD G 128 (fun _ => 0)), (q_5, kx_aD G 128 (fun _ => 0)), (q_6, kx_aZ G 16 (fun _ => 0)), (q_7, kx_aD G 64 (fun _ => 0)), (q_8, kx_aI G 6 (fun _ => 0)), (q_9, kx_aD G 6 (fun _ => 0)), (q_10, kx_aI G 6 (fun _ => 0)), (q_11, kx_aD G 16 (fun _ => 0)), (q_12, kx_aD G 16 (fun _ => 0))] H := hP
          have hD : va_D A [(h0, .inr (6, [.int 0, .int (nI n), .int (nI v), .ref q_1, .ref q_2, .ref q_3, .ref q_4, .ref q_5, .int 0, .int 0, .ref q_6, .ref q_7, .int 0, .ref q_8, .ref q_9, .ref q_10, .int 0, .ref q_11, .ref q_12])), (q_1, kx_aD G 8 (vf_upd (vf_upd (vf_upd (vf_upd (vf_upd (vf_upd (vf_upd (vf_upd (fun _ => 0) 0 FP.dconst1) 1 FP.dconst1) 2 FP.dconst1) 3 FP.dconst1) 4 FP.dconst1) 5 FP.dconst1) 6 FP.dconst1) 7 FP.dconst1)), (q_2, kx_aD G 8 (fun _ => 0)), (q_3, kx_aZ G 128 (fun _ => 0)), (q_4, kx_aD G 128 (fun _ => 0)), (q_5, kx_aD G 128 (fun _ => 0)), (q_6, kx_aZ G 16 (fun _ => 0)), (q_7, kx_aD G 64 (fun _ => 0)), (q_8, kx_aI G 6 (fun _ => 0)), (q_9, kx_aD G 6 (fun _ => 0)), (q_10, kx_aI G 6 (fun _ => 0)), (q_11, kx_aD G 16 (fun _ => 0)), (q_12, kx_aD G 16 (fun _ => 0))] := hD
          refine W.widen (k := 12) (n := 530) (by omega) (by omega) ?_
          exact W.vret hx hb hr (fun t ht hW => ⟨⟨(q_1, q_2, q_3, q_4, q_5, q_6, q_7, q_8, q_9, q_10, q_11, q_12), rfl, trivial, And.intro (by rw [ht]; exact hP) hD⟩, hS.F ht⟩) hS.2.2 dX5_init_187
        · refine lv_bipush (v := 8) hx hb dX5_init_178 (by decide) ?_
          refine lv_goto (tgt := 184) hx hb dX5_init_180 (by decide) ?_
          refine kx_ei (y := nI v) ((kx_ne_b c_17 c_18 (by decide)).symm.trans hvb) ?_
          refine va_put (D := G.1) (ci := 6) (v := .int (nI v)) (ty := .int) (C := RX5) (T := TX5) (N := 19) hx hb hts hin_X5 tyX5 tyX5_ok nmX5 hown hT.1 hP hD hS 0 rfl rfl 2 (by decide) hf_52 (fun _ h9 => h9) rfl (by decide +kernel) rfl rfl (Nat.le_of_ble_eq_true rfl) dX5_init_184 (fun H locs hP hD hS => ?_)
          have hP : va_P G.1 vwCl [(h0, .inr (6, [.int 0, .int (nI n), .int (nI v), .ref q_1, .ref q_2, .ref q_3, .ref q_4, .ref q_5, .int 0, .int 0, .ref q_6, .ref q_7, .int 0, .ref q_8, .ref q_9, .ref q_10, .int 0, .ref q_11, .ref q_12])), (q_1, kx_aD G 8 (vf_upd (vf_upd (vf_upd (vf_upd (vf_upd (vf_upd (vf_upd (vf_upd (fun _ => 0) 0 FP.dconst1) 1 FP.dconst1) 2 FP.dconst1) 3 FP.dconst1) 4 FP.dconst1) 5 FP.dconst1) 6 FP.dconst1) 7 FP.dconst1)), (q_2, kx_aD G 8 (fun _ => 0)), (q_3, kx_aZ G 128 (fun _ => 0)), (q_4, kx_aD G 128 (fun _ => 0)), (q_5, kx_aD G 128 (fun _ => 0)), (q_6, kx_aZ G 16 (fun _ => 0)), (q_7, kx_aD G 64 (fun _ => 0)), (q_8, kx_aI G 6 (fun _ => 0)), (q_9, kx_aD G 6 (fun _ => 0)), (q_10, kx_aI G 6 (fun _ => 0)), (q_11, kx_aD G 16 (fun _ => 0)), (q_12, kx_aD G 16 (fun _ => 0))] H := hP
          have hD : va_D A [(h0, .inr (6, [.int 0, .int (nI n), .int (nI v), .ref q_1, .ref q_2, .ref q_3, .ref q_4, .ref q_5, .int 0, .int 0, .ref q_6, .ref q_7, .int 0, .ref q_8, .ref q_9, .ref q_10, .int 0, .ref q_11, .ref q_12])), (q_1, kx_aD G 8 (vf_upd (vf_upd (vf_upd (vf_upd (vf_upd (vf_upd (vf_upd (vf_upd (fun _ => 0) 0 FP.dconst1) 1 FP.dconst1) 2 FP.dconst1) 3 FP.dconst1) 4 FP.dconst1) 5 FP.dconst1) 6 FP.dconst1) 7 FP.dconst1)), (q_2, kx_aD G 8 (fun _ => 0)), (q_3, kx_aZ G 128 (fun _ => 0)), (q_4, kx_aD G 128 (fun _ => 0)), (q_5, kx_aD G 128 (fun _ => 0)), (q_6, kx_aZ G 16 (fun _ => 0)), (q_7, kx_aD G 64 (fun _ => 0)), (q_8, kx_aI G 6 (fun _ => 0)), (q_9, kx_aD G 6 (fun _ => 0)), (q_10, kx_aI G 6 (fun _ => 0)), (q_11, kx_aD G 16 (fun _ => 0)), (q_12, kx_aD G 16 (fun _ => 0))] := hD
          refine W.widen (k := 12) (n := 530) (by omega) (by omega) ?_
          exact W.vret hx hb hr (fun t ht hW => ⟨⟨(q_1, q_2, q_3, q_4, q_5, q_6, q_7, q_8, q_9, q_10, q_11, q_12), rfl, trivial, And.intro (by rw [ht]; exact hP) hD⟩, hS.F ht⟩) hS.2.2 dX5_init_187
      · refine lv_iconst (v := 1) hx hb dX5_init_168 (by decide) ?_
        refine lv_goto (tgt := 184) hx hb dX5_init_169 (by decide) ?_
        refine kx_ei (y := nI v) ((kx_ne_a c_17 (by decide)).symm.trans hvb) ?_
        refine va_put (D := G.1) (ci := 6) (v := .int (nI v)) (ty := .int) (C := RX5) (T := TX5) (N := 19) hx hb hts hin_X5 tyX5 tyX5_ok nmX5 hown hT.1 hP hD hS 0 rfl rfl 2 (by decide) hf_52 (fun _ h9 => h9) rfl (by decide +kernel) rfl rfl (Nat.le_of_ble_eq_true rfl) dX5_init_184 (fun H locs hP hD hS => ?_)
        have hP : va_P G.1 vwCl [(h0, .inr (6, [.int 0, .int (nI n), .int (nI v), .ref q_1, .ref q_2, .ref q_3, .ref q_4, .ref q_5, .int 0, .int 0, .ref q_6, .ref q_7, .int 0, .ref q_8, .ref q_9, .ref q_10, .int 0, .ref q_11, .ref q_12])), (q_1, kx_aD G 8 (vf_upd (vf_upd (vf_upd (vf_upd (vf_upd (vf_upd (vf_upd (vf_upd (fun _ => 0) 0 FP.dconst1) 1 FP.dconst1) 2 FP.dconst1) 3 FP.dconst1) 4 FP.dconst1) 5 FP.dconst1) 6 FP.dconst1) 7 FP.dconst1)), (q_2, kx_aD G 8 (fun _ => 0)), (q_3, kx_aZ G 128 (fun _ => 0)), (q_4, kx_aD G 128 (fun _ => 0)), (q_5, kx_aD G 128 (fun _ => 0)), (q_6, kx_aZ G 16 (fun _ => 0)), (q_7, kx_aD G 64 (fun _ => 0)), (q_8, kx_aI G 6 (fun _ => 0)), (q_9, kx_aD G 6 (fun _ => 0)), (q_10, kx_aI G 6 (fun _ => 0)), (q_11, kx_aD G 16 (fun _ => 0)), (q_12, kx_aD G 16 (fun _ => 0))] H := hP
        have hD : va_D A [(h0, .inr (6, [.int 0, .int (nI n), .int (nI v), .ref q_1, .ref q_2, .ref q_3, .ref q_4, .ref q_5, .int 0, .int 0, .ref q_6, .ref q_7, .int 0, .ref q_8, .ref q_9, .ref q_10, .int 0, .ref q_11, .ref q_12])), (q_1, kx_aD G 8 (vf_upd (vf_upd (vf_upd (vf_upd (vf_upd (vf_upd (vf_upd (vf_upd (fun _ => 0) 0 FP.dconst1) 1 FP.dconst1) 2 FP.dconst1) 3 FP.dconst1) 4 FP.dconst1) 5 FP.dconst1) 6 FP.dconst1) 7 FP.dconst1)), (q_2, kx_aD G 8 (fun _ => 0)), (q_3, kx_aZ G 128 (fun _ => 0)), (q_4, kx_aD G 128 (fun _ => 0)), (q_5, kx_aD G 128 (fun _ => 0)), (q_6, kx_aZ G 16 (fun _ => 0)), (q_7, kx_aD G 64 (fun _ => 0)), (q_8, kx_aI G 6 (fun _ => 0)), (q_9, kx_aD G 6 (fun _ => 0)), (q_10, kx_aI G 6 (fun _ => 0)), (q_11, kx_aD G 16 (fun _ => 0)), (q_12, kx_aD G 16 (fun _ => 0))] := hD
        refine W.widen (k := 12) (n := 530) (by omega) (by omega) ?_
        exact W.vret hx hb hr (fun t ht hW => ⟨⟨(q_1, q_2, q_3, q_4, q_5, q_6, q_7, q_8, q_9, q_10, q_11, q_12), rfl, trivial, And.intro (by rw [ht]; exact hP) hD⟩, hS.F ht⟩) hS.2.2 dX5_init_187
  · refine lv_iconst (v := 1) hx hb dX5_init_143 (by decide) ?_
    refine lv_goto (tgt := 159) hx hb dX5_init_144 (by decide) ?_
    refine kx_ei (y := nI n) ((kx_ne_a c_13 (by decide)).symm.trans hna) ?_
    refine va_put (D := G.1) (ci := 6) (v := .int (nI n)) (ty := .int) (C := RX5) (T := TX5) (N := 19) hx hb hts hin_X5 tyX5 tyX5_ok nmX5 hown hT.1 hP hD hS 0 rfl rfl 1 (by decide) hf_48 (fun _ h9 => h9) rfl (by decide +kernel) rfl rfl (Nat.le_of_ble_eq_true rfl) dX5_init_159 (fun H locs hP hD hS => ?_)
    have hP : va_P G.1 vwCl [(h0, .inr (6, [.int 0, .int (nI n), .int 0, .ref q_1, .ref q_2, .ref q_3, .ref q_4, .ref q_5, .int 0, .int 0, .ref q_6, .ref q_7, .int 0, .ref q_8, .ref q_9, .ref q_10, .int 0, .ref q_11, .ref q_12])), (q_1, kx_aD G 8 (vf_upd (vf_upd (vf_upd (vf_upd (vf_upd (vf_upd (vf_upd (vf_upd (fun _ => 0) 0 FP.dconst1) 1 FP.dconst1) 2 FP.dconst1) 3 FP.dconst1) 4 FP.dconst1) 5 FP.dconst1) 6 FP.dconst1) 7 FP.dconst1)), (q_2, kx_aD G 8 (fun _ => 0)), (q_3, kx_aZ G 128 (fun _ => 0)), (q_4, kx_aD G 128 (fun _ => 0)), (q_5, kx_aD G 128 (fun _ => 0)), (q_6, kx_aZ G 16 (fun _ => 0)), (q_7, kx_aD G 64 (fun _ => 0)), (q_8, kx_aI G 6 (fun _ => 0)), (q_9, kx_aD G 6 (fun _ => 0)), (q_10, kx_aI G 6 (fun _ => 0)), (q_11, kx_aD G 16 (fun _ => 0)), (q_12, kx_aD G 16 (fun _ => 0))] H := hP
    have hD : va_D A [(h0, .inr (6, [.int 0, .int (nI n), .int 0, .ref q_1, .ref q_2, .ref q_3, .ref q_4, .ref q_5, .int 0, .int 0, .ref q_6, .ref q_7, .int 0, .ref q_8, .ref q_9, .ref q_10, .int 0, .ref q_11, .ref q_12])), (q_1, kx_aD G 8 (vf_upd (vf_upd (vf_upd (vf_upd (vf_upd (vf_upd (vf_upd (vf_upd (fun _ => 0) 0 FP.dconst1) 1 FP.dconst1) 2 FP.dconst1) 3 FP.dconst1) 4 FP.dconst1) 5 FP.dconst1) 6 FP.dconst1) 7 FP.dconst1)), (q_2, kx_aD G 8 (fun _ => 0)), (q_3, kx_aZ G 128 (fun _ => 0)), (q_4, kx_aD G 128 (fun _ => 0)), (q_5, kx_aD G 128 (fun _ => 0)), (q_6, kx_aZ G 16 (fun _ => 0)), (q_7, kx_aD G 64 (fun _ => 0)), (q_8, kx_aI G 6 (fun _ => 0)), (q_9, kx_aD G 6 (fun _ => 0)), (q_10, kx_aI G 6 (fun _ => 0)), (q_11, kx_aD G 16 (fun _ => 0)), (q_12, kx_aD G 16 (fun _ => 0))] := hD
    refine lv_aload_n hx hb dX5_init_162 rfl (lv_at hl 0 rfl) ?_
    refine lv_iload_n hx hb dX5_init_163 rfl (lv_at hl 2 rfl) ?_
    refine lv_iconst (v := 1) hx hb dX5_init_164 (by decide) ?_
    refine lv_icmp_ge (x := b9) (y := 1) (tgt := 172) hx hb dX5_init_165 (by decide) (fun c_19 => ?_) (fun c_19 => ?_)
    · refine lv_iload_n hx hb dX5_init_172 rfl (lv_at hl 2 rfl) ?_
      refine lv_bipush (v := 8) hx hb dX5_init_173 (by decide) ?_
      refine lv_icmp_le (x := b9) (y := 8) (tgt := 183) hx hb dX5_init_175 (by decide) (fun c_20 => ?_) (fun c_20 => ?_)
      · refine lv_iload_n hx hb dX5_init_183 rfl (lv_at hl 2 rfl) ?_
        refine kx_ei (y := nI v) ((kx_ne_c c_19 c_20).symm.trans hvb) ?_
        refine va_put (D := G.1) (ci := 6) (v := .int (nI v)) (ty := .int) (C := RX5) (T := TX5) (N := 19) hx hb hts hin_X5 tyX5 tyX5_ok nmX5 hown hT.1 hP hD hS 0 rfl rfl 2 (by decide) hf_52 (fun _ h9 => h9) rfl (by decide +kernel) rfl rfl (Nat.le_of_ble_eq_true rfl) dX5_init_184 (fun H locs hP hD hS => ?_)
        have hP : va_P G.1 vwCl [(h0, .inr (6, [.int 0, .int (nI n), .int (nI v), .ref q_1, .ref q_2, .ref q_3, .ref q_4, .ref q_5, .int 0, .int 0, .ref q_6, .ref q_7, .int 0, .ref q_8, .ref q_9, .ref q_10, .int 0, .ref q_11, .ref q_12])), (q_1, kx_aD G 8 (vf_upd (vf_upd (vf_upd (vf_upd (vf_upd (vf_upd (vf_upd (vf_upd (fun _ => 0) 0 FP.dconst1) 1 FP.dconst1) 2 FP.dconst1) 3 FP.dconst1) 4 FP.dconst1) 5 FP.dconst1) 6 FP.dconst1) 7 FP.dconst1)), (q_2, kx_aD G 8 (fun _ => 0)), (q_3, kx_aZ G 128 (fun _ => 0)), (q_4, kx_aD G 128 (fun _ => 0)), (q_5, kx_aD G 128 (fun _ => 0)), (q_6, kx_aZ G 16 (fun _ => 0)), (q_7, kx_aD G 64 (fun _ => 0)), (q_8, kx_aI G 6 (fun _ => 0)), (q_9, kx_aD G 6 (fun _ => 0)), (q_10, kx_aI G 6 (fun _ => 0)), (q_11, kx_aD G 16 (fun _ => 0)), (q_12, kx_aD G 16 (fun _ => 0))] H := hP
        have hD : va_D A [(h0, .inr (6, [.int 0, .int (nI n), .int (nI v), .ref q_1, .ref q_2, .ref q_3, .ref q_4, .ref q_5, .int 0, .int 0, .ref q_6, .ref q_7, .int 0, .ref q_8, .ref q_9, .ref q_10, .int 0, .ref q_11, .ref q_12])), (q_1, kx_aD G 8 (vf_upd (vf_upd (vf_upd (vf_upd (vf_upd (vf_upd (vf_upd (vf_upd (fun _ => 0) 0 FP.dconst1) 1 FP.dconst1) 2 FP.dconst1) 3 FP.dconst1) 4 FP.dconst1) 5 FP.dconst1) 6 FP.dconst1) 7 FP.dconst1)), (q_2, kx_aD G 8 (fun _ => 0)), (q_3, kx_aZ G 128 (fun _ => 0)), (q_4, kx_aD G 128 (fun _ => 0)), (q_5, kx_aD G 128 (fun _ => 0)), (q_6, kx_aZ G 16 (fun _ => 0)), (q_7, kx_aD G 64 (fun _ => 0)), (q_8, kx_aI G 6 (fun _ => 0)), (q_9, kx_aD G 6 (fun _ => 0)), (q_10, kx_aI G 6 (fun _ => 0)), (q_11, kx_aD G 16 (fun _ => 0)), (q_12, kx_aD G 16 (fun _ => 0))] := hD
        refine W.widen (k := 12) (n := 530) (by omega) (by omega) ?_
        exact W.vret hx hb hr (fun t ht hW => ⟨⟨(q_1, q_2, q_3, q_4, q_5, q_6, q_7, q_8, q_9, q_10, q_11, q_12), rfl, trivial, And.intro (by rw [ht]; exact hP) hD⟩, hS.F ht⟩) hS.2.2 dX5_init_187
      · refine lv_bipush (v := 8) hx hb dX5_init_178 (by decide) ?_
        refine lv_goto (tgt := 184) hx hb dX5_init_180 (by decide) ?_
        refine kx_ei (y := nI v) ((kx_ne_b c_19 c_20 (by decide)).symm.trans hvb) ?_
        refine va_put (D := G.1) (ci := 6) (v := .int (nI v)) (ty := .int) (C := RX5) (T := TX5) (N := 19) hx hb hts hin_X5 tyX5 tyX5_ok nmX5 hown hT.1 hP hD hS 0 rfl rfl 2 (by decide) hf_52 (fun _ h9 => h9) rfl (by decide +kernel) rfl rfl (Nat.le_of_ble_eq_true rfl) dX5_init_184 (fun H locs hP hD hS => ?_)
        have hP : va_P G.1 vwCl [(h0, .inr (6, [.int 0, .int (nI n), .int (nI v), .ref q_1, .ref q_2, .ref q_3, .ref q_4, .ref q_5, .int 0, .int 0, .ref q_6, .ref q_7, .int 0, .ref q_8, .ref q_9, .ref q_10, .int 0, .ref q_11, .ref q_12])), (q_1, kx_aD G 8 (vf_upd (vf_upd (vf_upd (vf_upd (vf_upd (vf_upd (vf_upd (vf_upd (fun _ => 0) 0 FP.dconst1) 1 FP.dconst1) 2 FP.dconst1) 3 FP.dconst1) 4 FP.dconst1) 5 FP.dconst1) 6 FP.dconst1) 7 FP.dconst1)), (q_2, kx_aD G 8 (fun _ => 0)), (q_3, kx_aZ G 128 (fun _ => 0)), (q_4, kx_aD G 128 (fun _ => 0)), (q_5, kx_aD G 128 (fun _ => 0)), (q_6, kx_aZ G 16 (fun _ => 0)), (q_7, kx_aD G 64 (fun _ => 0)), (q_8, kx_aI G 6 (fun _ => 0)), (q_9, kx_aD G 6 (fun _ => 0)), (q_10, kx_aI G 6 (fun _ => 0)), (q_11, kx_aD G 16 (fun _ => 0)), (q_12, kx_aD G 16 (fun _ => 0))] H := hP
        have hD : va_D A [(h0, .inr (6, [.int 0, .int (nI n), .int (nI v), .ref q_1, .ref q_2, .ref q_3, .ref q_4, .ref q_5, .int 0, .int 0, .ref q_6, .ref q_7, .int 0, .ref q_8, .ref q_9, .ref q_10, .int 0, .ref q_11, .ref q_12])), (q_1, kx_aD G 8 (vf_upd (vf_upd (vf_upd (vf_upd (vf_upd (vf_upd (vf_upd (vf_upd (fun _ => 0) 0 FP.dconst1) 1 FP.dconst1) 2 FP.dconst1) 3 FP.dconst1) 4 FP.dconst1) 5 FP.dconst1) 6 FP.dconst1) 7 FP.dconst1)), (q_2, kx_aD G 8 (fun _ => 0)), (q_3, kx_aZ G 128 (fun _ => 0)), (q_4, kx_aD G 128 (fun _ => 0)), (q_5, kx_aD G 128 (fun _ => 0)), (q_6, kx_aZ G 16 (fun _ => 0)), (q_7, kx_aD G 64 (fun _ => 0)), (q_8, kx_aI G 6 (fun _ => 0)), (q_9, kx_aD G 6 (fun _ => 0)), (q_10, kx_aI G 6 (fun _ => 0)), (q_11, kx_aD G 16 (fun _ => 0)), (q_12, kx_aD G 16 (fun _ => 0))] := hD
        refine W.widen (k := 12) (n := 530) (by omega) (by omega) ?_
        exact W.vret hx hb hr (fun t ht hW => ⟨⟨(q_1, q_2, q_3, q_4, q_5, q_6, q_7, q_8, q_9, q_10, q_11, q_12), rfl, trivial, And.intro (by rw [ht]; exact hP) hD⟩, hS.F ht⟩) hS.2.2 dX5_init_187
    · refine lv_iconst (v := 1) hx hb dX5_init_168 (by decide) ?_
      refine lv_goto (tgt := 184) hx hb dX5_init_169 (by decide) ?_
      refine kx_ei (y := nI v) ((kx_ne_a c_19 (by decide)).symm.trans hvb) ?_
      refine va_put (D := G.1) (ci := 6) (v := .int (nI v)) (ty := .int) (C := RX5) (T := TX5) (N := 19) hx hb hts hin_X5 tyX5 tyX5_ok nmX5 hown hT.1 hP hD hS 0 rfl rfl 2 (by decide) hf_52 (fun _ h9 => h9) rfl (by decide +kernel) rfl rfl (Nat.le_of_ble_eq_true rfl) dX5_init_184 (fun H locs hP hD hS => ?_)
      have hP : va_P G.1 vwCl [(h0, .inr (6, [.int 0, .int (nI n), .int (nI v), .ref q_1, .ref q_2, .ref q_3, .ref q_4, .ref q_5, .int 0, .int 0, .ref q_6, .ref q_7, .int 0, .ref q_8, .ref q_9, .ref q_10, .int 0, .ref q_11, .ref q_12])), (q_1, kx_aD G 8 (vf_upd (vf_upd (vf_upd (vf_upd (vf_upd (vf_upd (vf_upd (vf_upd (fun _ => 0) 0 FP.dconst1) 1 FP.dconst1) 2 FP.dconst1) 3 FP.dconst1) 4 FP.dconst1) 5 FP.dconst1) 6 FP.dconst1) 7 FP.dconst1)), (q_2, kx_aD G 8 (fun _ => 0)), (q_3, kx_aZ G 128 (fun _ => 0)), (q_4, kx_aD G 128 (fun _ => 0)), (q_5, kx_aD G 128 (fun _ => 0)), (q_6, kx_aZ G 16 (fun _ => 0)), (q_7, kx_aD G 64 (fun _ => 0)), (q_8, kx_aI G 6 (fun _ => 0)), (q_9, kx_aD G 6 (fun _ => 0)), (q_10, kx_aI G 6 (fun _ => 0)), (q_11, kx_aD G 16 (fun _ => 0)), (q_12, kx_aD G 16 (fun _ => 0))] H := hP
      have hD : va_D A [(h0, .inr (6, [.int 0, .int (nI n), .int (nI v), .ref q_1, .ref q_2, .ref q_3, .ref q_4, .ref q_5, .int 0, .int 0, .ref q_6, .ref q_7, .int 0, .ref q_8, .ref q_9, .ref q_10, .int 0, .ref q_11, .ref q_12])), (q_1, kx_aD G 8 (vf_upd (vf_upd (vf_upd (vf_upd (vf_upd (vf_upd (vf_upd (vf_upd (fun _ => 0) 0 FP.dconst1) 1 FP.dconst1) 2 FP.dconst1) 3 FP.dconst1) 4 FP.dconst1) 5 FP.dconst1) 6 FP.dconst1) 7 FP.dconst1)), (q_2, kx_aD G 8 (fun _ => 0)), (q_3, kx_aZ G 128 (fun _ => 0)), (q_4, kx_aD G 128 (fun _ => 0)), (q_5, kx_aD G 128 (fun _ => 0)), (q_6, kx_aZ G 16 (fun _ => 0)), (q_7, kx_aD G 64 (fun _ => 0)), (q_8, kx_aI G 6 (fun _ => 0)), (q_9, kx_aD G 6 (fun _ => 0)), (q_10, kx_aI G 6 (fun _ => 0)), (q_11, kx_aD G 16 (fun _ => 0)), (q_12, kx_aD G 16 (fun _ => 0))] := hD
      refine W.widen (k := 12) (n := 530) (by omega) (by omega) ?_
      exact W.vret hx hb hr (fun t ht hW => ⟨⟨(q_1, q_2, q_3, q_4, q_5, q_6, q_7, q_8, q_9, q_10, q_11, q_12), rfl, trivial, And.intro (by rw [ht]; exact hP) hD⟩, hS.F ht⟩) hS.2.2 dX5_init_187
