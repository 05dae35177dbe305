set_option maxHeartbeats 4000000 in
set_option maxRecDepth 100000 in
/-- what was thrown -/
theorem c_X5_thrown (l : Launch) (G : kx_G) (m0 : Nat) (m1 : Nat) (m2 : Nat) (m3 : Nat) (m4 : Nat) (m5 : Nat) (m6 : Nat) (m7 : Nat) (m8 : Nat) (m9 : Nat) (m10 : Nat) (m11 : Nat) (m12 : Nat) (n : Nat) (v : Nat) (tw : Int32) (ps : Nat → UInt64) (qs : Nat → UInt64) (th : Nat → Int32) (fr : Nat → UInt64) (to : Nat → UInt64) (kn : Int32) (ft : Nat) (fd : Nat → Int32) (sh : Nat → UInt64) (ru : Nat) (ki : Nat → Int32) (li : Nat → UInt64) (cl : Nat → Int32) (kp : Int32) (kx : Nat → UInt64) (ky : Nat → UInt64) (hb_ps : ∀ j, fx_bd 5 (ps j)) (hb_qs : ∀ j, fx_bd 5 (qs j)) (hb_fr : ∀ j, fx_bd 11 (fr j)) (hb_to : ∀ j, fx_bd 11 (to j)) (hb_sh : ∀ j, fx_bd 220 (sh j)) (hb_kx : ∀ j, fx_bd 130 (kx j)) (hb_ky : ∀ j, fx_bd 130 (ky j))  : Met l yX5_thrown wsX5_thrown ({ frames := 0, cells := 0, slots := 0, locals := 0 } : Room) (kx_PR G [.ref m0] [(m0, .inr (6, [.int tw, .int (nI n), .int (nI v), .ref m1, .ref m2, .ref m3, .ref m4, .ref m5, .int kn, .int (nI ft), .ref m6, .ref m7, .int (nI ru), .ref m8, .ref m9, .ref m10, .int kp, .ref m11, .ref m12])), (m1, kx_aD G 8 ps), (m2, kx_aD G 8 qs), (m3, kx_aZ G 128 th), (m4, kx_aD G 128 fr), (m5, kx_aD G 128 to), (m6, kx_aZ G 16 fd), (m7, kx_aD G 64 sh), (m8, kx_aI G 6 ki), (m9, kx_aD G 6 li), (m10, kx_aI G 6 cl), (m11, kx_aD G 16 kx), (m12, kx_aD G 16 ky)]) (vp_Si (fun r => r = tw)) 0 0 (fun _ => False) := by
  refine Met.ofW (cc := cX5_thrown) (maxL := 1) (ret := (some .int)) (by decide) rfl ?_
  intro p e s m args below meth c s₁ B hml hv
  obtain ⟨rfl, hP, hT⟩ := hv
  have hx := B.exec
  have hb := B.bytes
  have hr := B.returns
  have hts := atoms_spec (ws := wsX5_thrown) B.pre
  have hown : s.vm.findClass RX5 = some m.cls := findClass_of_methodNamed B.named
  have hlocks := B.notSynchronized
  have hf_55 := hts (.fieldLink RX5 55 "StemShapesModel" "thrown" "I") (by decide +kernel)
  have hin_X5 : ∀ w ∈ wsX50, w ∈ wsX5_thrown := by decide +kernel
  have hl := lv_entry ([.ref m0]) (n := 1) (Nat.le_of_ble_eq_true rfl)
  rw [lg_entry_eq]
  generalize (lg_sl ([.ref m0]) ++ List.replicate (1 - (lg_sl ([.ref m0])).length) Slot.unset).toArray = ls at hl ⊢
  have hl : lv_has ls 1 [(0, .ref m0)] := hl
  refine lv_aload_n hx hb dX5_thrown_0 rfl (lv_at hl 0 rfl) ?_
  refine va_get (D := G.1) (ci := 6) (v := .int tw) (C := RX5) (T := TX5) (N := 19) hx hb hts hin_X5 hown hT.1 hP 0 rfl rfl 0 (by decide) hf_55 (fun _ h9 => h9) rfl dX5_thrown_1 ?_
  exact W.iret (v := tw) hx hb hr (fun t ht hW => ⟨tw, rfl, rfl, ht⟩) (fun _ h => nomatch h) dX5_thrown_4
set_option maxHeartbeats 4000000 in
set_option maxRecDepth 100000 in
/-- a number between two -/
theorem c_X5_between (l : Launch) (G : kx_G) (x : UInt64) (lo : UInt64) (hi : UInt64)   : Met l yX5_between wsX5_between ({ frames := 0, cells := 0, slots := 0, locals := 0 } : Room) (kx_PR G [.double x, .double lo, .double hi] []) (vp_Si (fun r => r = kx_bt x lo hi)) 0 0 (fun _ => False) := by
  refine Met.ofW (cc := cX5_between) (maxL := 6) (ret := (some .boolean)) (by decide) rfl ?_
  intro p e s m args below meth c s₁ B hml hv
  obtain ⟨rfl, hP, hT⟩ := hv
  have hx := B.exec
  have hb := B.bytes
  have hr := B.returns
  have hts := atoms_spec (ws := wsX5_between) B.pre
  have hown : s.vm.findClass RX5 = some m.cls := findClass_of_methodNamed B.named
  have hlocks := B.notSynchronized
  have hl := lv_entry ([.double x, .double lo, .double hi]) (n := 6) (Nat.le_of_ble_eq_true rfl)
  rw [lg_entry_eq]
  generalize (lg_sl ([.double x, .double lo, .double hi]) ++ List.replicate (6 - (lg_sl ([.double x, .double lo, .double hi])).length) Slot.unset).toArray = ls at hl ⊢
  have hl : lv_has ls 6 [(0, .double x), (2, .double lo), (4, .double hi)] := hl
  refine lv_dload_n hx hb dX5_between_0 rfl (lv_at hl 0 rfl) ?_
  refine lv_dload_n hx hb dX5_between_1 rfl (lv_at hl 1 rfl) ?_
  refine kx_dge (tgt := 17) hx hb dX5_between_2 dX5_between_3 (by decide) (fun c_1 => ?_) (fun c_1 => ?_)
  · refine lv_iconst (v := 0) hx hb dX5_between_17 (by decide) ?_
    exact W.zret (v := 0) hx hb hr rfl (fun t ht hW => ⟨0, rfl, (if_neg (fun q => c_1 q.1)).symm, ht⟩) (fun _ h => nomatch h) dX5_between_18
  · refine lv_dload_n hx hb dX5_between_6 rfl (lv_at hl 0 rfl) ?_
    refine lv_dload hx hb dX5_between_7 (lv_at hl 2 rfl) ?_
    refine kx_dle (tgt := 17) hx hb dX5_between_9 dX5_between_10 (by decide) (fun c_2 => ?_) (fun c_2 => ?_)
    · refine lv_iconst (v := 0) hx hb dX5_between_17 (by decide) ?_
      exact W.zret (v := 0) hx hb hr rfl (fun t ht hW => ⟨0, rfl, (if_neg (fun q => c_2 q.2)).symm, ht⟩) (fun _ h => nomatch h) dX5_between_18
    · refine lv_iconst (v := 1) hx hb dX5_between_13 (by decide) ?_
      refine lv_goto (tgt := 18) hx hb dX5_between_14 (by decide) ?_
      exact W.zret (v := 1) hx hb hr rfl (fun t ht hW => ⟨1, rfl, (if_pos ⟨c_1, c_2⟩).symm, ht⟩) (fun _ h => nomatch h) dX5_between_18
set_option maxHeartbeats 4000000 in
set_option maxRecDepth 100000 in
/-- out of range -/
theorem c_X5_noSlice (l : Launch) (G : kx_G) (m0 : Nat) (m1 : Nat) (m2 : Nat) (m3 : Nat) (m4 : Nat) (m5 : Nat) (m6 : Nat) (m7 : Nat) (m8 : Nat) (m9 : Nat) (m10 : Nat) (m11 : Nat) (m12 : Nat) (n : Nat) (v : Nat) (tw : Int32) (ps : Nat → UInt64) (qs : Nat → UInt64) (th : Nat → Int32) (fr : Nat → UInt64) (to : Nat → UInt64) (kn : Int32) (ft : Nat) (fd : Nat → Int32) (sh : Nat → UInt64) (ru : Nat) (ki : Nat → Int32) (li : Nat → UInt64) (cl : Nat → Int32) (kp : Int32) (kx : Nat → UInt64) (ky : Nat → UInt64) (a9 : Int32) (hb_ps : ∀ j, fx_bd 5 (ps j)) (hb_qs : ∀ j, fx_bd 5 (qs j)) (hb_fr : ∀ j, fx_bd 11 (fr j)) (hb_to : ∀ j, fx_bd 11 (to j)) (hb_sh : ∀ j, fx_bd 220 (sh j)) (hb_kx : ∀ j, fx_bd 130 (kx j)) (hb_ky : ∀ j, fx_bd 130 (ky j))  : Met l yX5_noSlice wsX5_noSlice ({ frames := 0, cells := 0, slots := 0, locals := 0 } : Room) (kx_PR G [.ref m0, .int a9] [(m0, .inr (6, [.int tw, .int (nI n), .int (nI v), .ref m1, .ref m2, .ref m3, .ref m4, .ref m5, .int kn, .int (nI ft), .ref m6, .ref m7, .int (nI ru), .ref m8, .ref m9, .ref m10, .int kp, .ref m11, .ref m12])), (m1, kx_aD G 8 ps), (m2, kx_aD G 8 qs), (m3, kx_aZ G 128 th), (m4, kx_aD G 128 fr), (m5, kx_aD G 128 to), (m6, kx_aZ G 16 fd), (m7, kx_aD G 64 sh), (m8, kx_aI G 6 ki), (m9, kx_aD G 6 li), (m10, kx_aI G 6 cl), (m11, kx_aD G 16 kx), (m12, kx_aD G 16 ky)]) (vp_Si (fun r => r = kx_no n a9)) 0 0 (fun _ => False) := by
  refine Met.ofW (cc := cX5_noSlice) (maxL := 2) (ret := (some .boolean)) (by decide) rfl ?_
  intro p e s m args below meth c s₁ B hml hv
  obtain ⟨rfl, hP, hT⟩ := hv
  have hx := B.exec
  have hb := B.bytes
  have hr := B.returns
  have hts := atoms_spec (ws := wsX5_noSlice) B.pre
  have hown : s.vm.findClass RX5 = some m.cls := findClass_of_methodNamed B.named
  have hlocks := B.notSynchronized
  have hf_48 := hts (.fieldLink RX5 48 "StemShapesModel" "slices" "I") (by decide +kernel)
  have hin_X5 : ∀ w ∈ wsX50, w ∈ wsX5_noSlice := by decide +kernel
  have hl := lv_entry ([.ref m0, .int a9]) (n := 2) (Nat.le_of_ble_eq_true rfl)
  rw [lg_entry_eq]
  generalize (lg_sl ([.ref m0, .int a9]) ++ List.replicate (2 - (lg_sl ([.ref m0, .int a9])).length) Slot.unset).toArray = ls at hl ⊢
  have hl : lv_has ls 2 [(0, .ref m0), (1, .int a9)] := hl
  refine lv_iload_n hx hb dX5_noSlice_0 rfl (lv_at hl 1 rfl) ?_
  refine lv_if_lt (x := a9) (tgt := 12) hx hb dX5_noSlice_1 (by decide) (fun c_1 => ?_) (fun c_1 => ?_)
  · refine lv_iconst (v := 1) hx hb dX5_noSlice_12 (by decide) ?_
    refine lv_goto (tgt := 17) hx hb dX5_noSlice_13 (by decide) ?_
    exact W.zret (v := 1) hx hb hr rfl (fun t ht hW => ⟨1, rfl, (if_pos c_1).symm, ht⟩) (fun _ h => nomatch h) dX5_noSlice_17
  · refine lv_iload_n hx hb dX5_noSlice_4 rfl (lv_at hl 1 rfl) ?_
    refine lv_aload_n hx hb dX5_noSlice_5 rfl (lv_at hl 0 rfl) ?_
    refine va_get (D := G.1) (ci := 6) (v := .int (nI n)) (C := RX5) (T := TX5) (N := 19) hx hb hts hin_X5 hown hT.1 hP 0 rfl rfl 1 (by decide) hf_48 (fun _ h9 => h9) rfl dX5_noSlice_6 ?_
    refine lv_icmp_lt (x := a9) (y := nI n) (tgt := 16) hx hb dX5_noSlice_9 (by decide) (fun c_2 => ?_) (fun c_2 => ?_)
    · refine lv_iconst (v := 0) hx hb dX5_noSlice_16 (by decide) ?_
      exact W.zret (v := 0) hx hb hr rfl (fun t ht hW => ⟨0, rfl, (by unfold kx_no; rw [if_neg c_1, if_pos c_2]), ht⟩) (fun _ h => nomatch h) dX5_noSlice_17
    · refine lv_iconst (v := 1) hx hb dX5_noSlice_12 (by decide) ?_
      refine lv_goto (tgt := 17) hx hb dX5_noSlice_13 (by decide) ?_
      exact W.zret (v := 1) hx hb hr rfl (fun t ht hW => ⟨1, rfl, (by unfold kx_no; rw [if_neg c_1, if_neg c_2]), ht⟩) (fun _ h => nomatch h) dX5_noSlice_17
set_option maxHeartbeats 4000000 in
set_option maxRecDepth 100000 in
/-- out of range -/
theorem c_X5_noView (l : Launch) (G : kx_G) (m0 : Nat) (m1 : Nat) (m2 : Nat) (m3 : Nat) (m4 : Nat) (m5 : Nat) (m6 : Nat) (m7 : Nat) (m8 : Nat) (m9 : Nat) (m10 : Nat) (m11 : Nat) (m12 : Nat) (n : Nat) (v : Nat) (tw : Int32) (ps : Nat → UInt64) (qs : Nat → UInt64) (th : Nat → Int32) (fr : Nat → UInt64) (to : Nat → UInt64) (kn : Int32) (ft : Nat) (fd : Nat → Int32) (sh : Nat → UInt64) (ru : Nat) (ki : Nat → Int32) (li : Nat → UInt64) (cl : Nat → Int32) (kp : Int32) (kx : Nat → UInt64) (ky : Nat → UInt64) (a9 : Int32) (hb_ps : ∀ j, fx_bd 5 (ps j)) (hb_qs : ∀ j, fx_bd 5 (qs j)) (hb_fr : ∀ j, fx_bd 11 (fr j)) (hb_to : ∀ j, fx_bd 11 (to j)) (hb_sh : ∀ j, fx_bd 220 (sh j)) (hb_kx : ∀ j, fx_bd 130 (kx j)) (hb_ky : ∀ j, fx_bd 130 (ky j))  : Met l yX5_noView wsX5_noView ({ frames := 0, cells := 0, slots := 0, locals := 0 } : Room) (kx_PR G [.ref m0, .int a9] [(m0, .inr (6, [.int tw, .int (nI n), .int (nI v), .ref m1, .ref m2, .ref m3, .ref m4, .ref m5, .int kn, .int (nI ft), .ref m6, .ref m7, .int (nI ru), .ref m8, .ref m9, .ref m10, .int kp, .ref m11, .ref m12])), (m1, kx_aD G 8 ps), (m2, kx_aD G 8 qs), (m3, kx_aZ G 128 th), (m4, kx_aD G 128 fr), (m5, kx_aD G 128 to), (m6, kx_aZ G 16 fd), (m7, kx_aD G 64 sh), (m8, kx_aI G 6 ki), (m9, kx_aD G 6 li), (m10, kx_aI G 6 cl), (m11, kx_aD G 16 kx), (m12, kx_aD G 16 ky)]) (vp_Si (fun r => r = kx_no v a9)) 0 0 (fun _ => False) := by
  refine Met.ofW (cc := cX5_noView) (maxL := 2) (ret := (some .boolean)) (by decide) rfl ?_
  intro p e s m args below meth c s₁ B hml hv
  obtain ⟨rfl, hP, hT⟩ := hv
  have hx := B.exec
  have hb := B.bytes
  have hr := B.returns
  have hts := atoms_spec (ws := wsX5_noView) B.pre
  have hown : s.vm.findClass RX5 = some m.cls := findClass_of_methodNamed B.named
  have hlocks := B.notSynchronized
  have hf_52 := hts (.fieldLink RX5 52 "StemShapesModel" "views" "I") (by decide +kernel)
  have hin_X5 : ∀ w ∈ wsX50, w ∈ wsX5_noView := by decide +kernel
  have hl := lv_entry ([.ref m0, .int a9]) (n := 2) (Nat.le_of_ble_eq_true rfl)
  rw [lg_entry_eq]
  generalize (lg_sl ([.ref m0, .int a9]) ++ List.replicate (2 - (lg_sl ([.ref m0, .int a9])).length) Slot.unset).toArray = ls at hl ⊢
  have hl : lv_has ls 2 [(0, .ref m0), (1, .int a9)] := hl
  refine lv_iload_n hx hb dX5_noView_0 rfl (lv_at hl 1 rfl) ?_
  refine lv_if_lt (x := a9) (tgt := 12) hx hb dX5_noView_1 (by decide) (fun c_1 => ?_) (fun c_1 => ?_)
  · refine lv_iconst (v := 1) hx hb dX5_noView_12 (by decide) ?_
    refine lv_goto (tgt := 17) hx hb dX5_noView_13 (by decide) ?_
    exact W.zret (v := 1) hx hb hr rfl (fun t ht hW => ⟨1, rfl, (if_pos c_1).symm, ht⟩) (fun _ h => nomatch h) dX5_noView_17
  · refine lv_iload_n hx hb dX5_noView_4 rfl (lv_at hl 1 rfl) ?_
    refine lv_aload_n hx hb dX5_noView_5 rfl (lv_at hl 0 rfl) ?_
    refine va_get (D := G.1) (ci := 6) (v := .int (nI v)) (C := RX5) (T := TX5) (N := 19) hx hb hts hin_X5 hown hT.1 hP 0 rfl rfl 2 (by decide) hf_52 (fun _ h9 => h9) rfl dX5_noView_6 ?_
    refine lv_icmp_lt (x := a9) (y := nI v) (tgt := 16) hx hb dX5_noView_9 (by decide) (fun c_2 => ?_) (fun c_2 => ?_)
    · refine lv_iconst (v := 0) hx hb dX5_noView_16 (by decide) ?_
      exact W.zret (v := 0) hx hb hr rfl (fun t ht hW => ⟨0, rfl, (by unfold kx_no; rw [if_neg c_1, if_pos c_2]), ht⟩) (fun _ h => nomatch h) dX5_noView_17
    · refine lv_iconst (v := 1) hx hb dX5_noView_12 (by decide) ?_
      refine lv_goto (tgt := 17) hx hb dX5_noView_13 (by decide) ?_
      exact W.zret (v := 1) hx hb hr rfl (fun t ht hW => ⟨1, rfl, (by unfold kx_no; rw [if_neg c_1, if_neg c_2]), ht⟩) (fun _ h => nomatch h) dX5_noView_17
set_option maxHeartbeats 4000000 in
set_option maxRecDepth 100000 in
/-- ROOT -/
theorem c_X5_root (l : Launch) (G : kx_G) (w : UInt64)  (hw_b : fx_bd 14 w) (hw_n : fx_nn w) : Met l yX5_root wsX5_root ({ frames := 0, cells := 0, slots := 0, locals := 0 } : Room) (kx_PR G [.double w] []) (vp_Sd (fun r => r = kx_root w)) 0 0 (fun _ => False) := by
  refine Met.ofW (cc := cX5_root) (maxL := 5) (ret := (some .double)) (by decide) rfl ?_
  intro p e s m args below meth c s₁ B hml hv
  obtain ⟨rfl, hP, hT⟩ := hv
  have hx := B.exec
  have hb := B.bytes
  have hr := B.returns
  have hts := atoms_spec (ws := wsX5_root) B.pre
  have hown : s.vm.findClass RX5 = some m.cls := findClass_of_methodNamed B.named
  have hlocks := B.notSynchronized
  have hc_81 := hts (.constantDouble RX5 81 (4611686018427387904)) (by decide +kernel)
  have hl := lv_entry ([.double w]) (n := 5) (Nat.le_of_ble_eq_true rfl)
  rw [lg_entry_eq]
  generalize (lg_sl ([.double w]) ++ List.replicate (5 - (lg_sl ([.double w])).length) Slot.unset).toArray = ls at hl ⊢
  have hl : lv_has ls 5 [(0, .double w)] := hl
  refine lv_dload_n hx hb dX5_root_0 rfl (lv_at hl 0 rfl) ?_
  refine lv_dconst1 hx hb dX5_root_1 ?_
  refine lv_dadd hx hb dX5_root_2 (fx_bd.add hw_b fx_1b (by omega)).n ?_
  refine lv_ldc2d (v := 4611686018427387904) hx hb hown hc_81 dX5_root_3 ?_
  refine lv_ddiv hx hb dX5_root_6 (fx_bd.div (fx_bd.add hw_b fx_1b (by omega)) fx_2l.lb (by omega)).n ?_
  refine lv_dstore_n (lv' := [(2, .double (FP.ddiv (FP.dadd w FP.dconst1) fx_2)), (0, .double w)]) hx hb dX5_root_7 rfl hl (by decide) rfl (fun ls hl => ?_)
  refine lv_iconst (v := 0) hx hb dX5_root_8 (by decide) ?_
  refine lv_istore (lv' := [(4, .int 0), (2, .double (FP.ddiv (FP.dadd w FP.dconst1) fx_2)), (0, .double w)]) hx hb dX5_root_9 hl (by decide) rfl (fun ls hl => ?_)
  have loop_11 : ∀ (k i : Nat) (a : UInt64), i + k = 60 → a = kx_rs w i → ∀ ls : Array Slot, lv_has ls 5 [(4, .int (nI i)), (2, .double a), (0, .double w)] → W p l e (headSpec wsX5_root ({ frames := 0, cells := 0, slots := 0, locals := 0 } : Room)).room s m [.double w].toArray below meth c s.heap [] 0 0 (MQ below (vp_Sd (fun r => r = kx_root w)) [.double w].toArray s 0 0 (fun _ => False)) (F0 m 11 ls []) := by
    intro k
    induction k with
    | zero =>
      intro i a htot e_a ls hl
      subst e_a
      refine lv_iload hx hb dX5_root_11 (lv_at hl 0 rfl) ?_
      refine lv_bipush (v := 60) hx hb dX5_root_13 (by decide) ?_
      refine lv_icmp_ge (x := nI i) (y := 60) (tgt := 34) hx hb dX5_root_15 (by decide) (fun c_1 => ?_) (fun c_1 => ?_)
      · have c_1 : 60 ≤ i := (nI_leI (a := 60) (b := i) (by omega) (by omega)).mp c_1
        refine lv_dload_n hx hb dX5_root_34 rfl (lv_at hl 1 rfl) ?_
        exact W.dret (v := kx_rs w i) hx hb hr (fun t ht hW => ⟨kx_rs w i, rfl, (by rw [show i = 60 from by omega]; rfl), ht⟩) (fun _ h => nomatch h) dX5_root_35
      · have c_1 : ¬ 60 ≤ i := fun q => c_1 ((nI_leI (a := 60) (b := i) (by omega) (by omega)).mpr q)
        exfalso; omega
    | succ k ih =>
      intro i a htot e_a ls hl
      subst e_a
      refine lv_iload hx hb dX5_root_11 (lv_at hl 0 rfl) ?_
      refine lv_bipush (v := 60) hx hb dX5_root_13 (by decide) ?_
      refine lv_icmp_ge (x := nI i) (y := 60) (tgt := 34) hx hb dX5_root_15 (by decide) (fun c_2 => ?_) (fun c_2 => ?_)
      · have c_2 : 60 ≤ i := (nI_leI (a := 60) (b := i) (by omega) (by omega)).mp c_2
        exfalso; omega
      · have c_2 : ¬ 60 ≤ i := fun q => c_2 ((nI_leI (a := 60) (b := i) (by omega) (by omega)).mpr q)
        refine lv_dload_n hx hb dX5_root_18 rfl (lv_at hl 1 rfl) ?_
        refine lv_dload_n hx hb dX5_root_19 rfl (lv_at hl 2 rfl) ?_
        refine lv_dload_n hx hb dX5_root_20 rfl (lv_at hl 1 rfl) ?_
        refine lv_ddiv hx hb dX5_root_21 (fx_bd.div hw_b (kx_rs_ok hw_n hw_b i (by omega)).2.lb (by omega)).n ?_
        refine lv_dadd hx hb dX5_root_22 (fx_bd.add (kx_rs_ok hw_n hw_b i (by omega)).1 (fx_bd.div hw_b (kx_rs_ok hw_n hw_b i (by omega)).2.lb (by omega)) (by omega)).n ?_
        refine lv_ldc2d (v := 4611686018427387904) hx hb hown hc_81 dX5_root_23 ?_
        refine lv_ddiv hx hb dX5_root_26 (fx_bd.div (fx_bd.add (kx_rs_ok hw_n hw_b i (by omega)).1 (fx_bd.div hw_b (kx_rs_ok hw_n hw_b i (by omega)).2.lb (by omega)) (by omega)) fx_2l.lb (by omega)).n ?_
        refine lv_dstore_n (lv' := [(2, .double (FP.ddiv (FP.dadd (kx_rs w i) (FP.ddiv w (kx_rs w i))) fx_2)), (4, .int (nI i)), (0, .double w)]) hx hb dX5_root_27 rfl hl (by decide) rfl (fun ls hl => ?_)
        refine lv_iinc (v := nI (i + 1)) (lv' := [(4, .int (nI (i + 1))), (2, .double (FP.ddiv (FP.dadd (kx_rs w i) (FP.ddiv w (kx_rs w i))) fx_2)), (0, .double w)]) hx hb dX5_root_28 hl (k := 1) rfl (by show _ + 1 = _; exact nI_1 _) (by decide) rfl (fun ls hl => ?_)
        refine lv_goto (tgt := 11) hx hb dX5_root_31 (by decide) ?_
        exact ih (i + 1) _ (by omega) rfl _ (lv_sub hl [0, 1, 2] rfl)
  exact loop_11 60 0 _ (by omega) rfl _ (lv_sub hl [0, 1, 2] rfl)
set_option maxHeartbeats 4000000 in
set_option maxRecDepth 100000 in
/-- MIDDLE -/
theorem c_X5_middle (l : Launch) (G : kx_G) (m0 : Nat) (m1 : Nat) (m2 : Nat) (m3 : Nat) (m4 : Nat) (m5 : Nat) (m6 : Nat) (m7 : Nat) (m8 : Nat) (m9 : Nat) (m10 : Nat) (m11 : Nat) (m12 : Nat) (n : Nat) (v : Nat) (tw : Int32) (ps : Nat → UInt64) (qs : Nat → UInt64) (th : Nat → Int32) (fr : Nat → UInt64) (to : Nat → UInt64) (kn : Int32) (ft : Nat) (fd : Nat → Int32) (sh : Nat → UInt64) (ru : Nat) (ki : Nat → Int32) (li : Nat → UInt64) (cl : Nat → Int32) (kp : Int32) (kx : Nat → UInt64) (ky : Nat → UInt64) (k9 : Nat) (hb_ps : ∀ j, fx_bd 5 (ps j)) (hb_qs : ∀ j, fx_bd 5 (qs j)) (hb_fr : ∀ j, fx_bd 11 (fr j)) (hb_to : ∀ j, fx_bd 11 (to j)) (hb_sh : ∀ j, fx_bd 220 (sh j)) (hb_kx : ∀ j, fx_bd 130 (kx j)) (hb_ky : ∀ j, fx_bd 130 (ky j)) (hk : k9 < 128) : Met l yX5_middle wsX5_middle ({ frames := 0, cells := 0, slots := 0, locals := 0 } : Room) (kx_PR G [.ref m0, .int (nI k9)] [(m0, .inr (6, [.int tw, .int (nI n), .int (nI v), .ref m1, .ref m2, .ref m3, .ref m4, .ref m5, .int kn, .int (nI ft), .ref m6, .ref m7, .int (nI ru), .ref m8, .ref m9, .ref m10, .int kp, .ref m11, .ref m12])), (m1, kx_aD G 8 ps), (m2, kx_aD G 8 qs), (m3, kx_aZ G 128 th), (m4, kx_aD G 128 fr), (m5, kx_aD G 128 to), (m6, kx_aZ G 16 fd), (m7, kx_aD G 64 sh), (m8, kx_aI G 6 ki), (m9, kx_aD G 6 li), (m10, kx_aI G 6 cl), (m11, kx_aD G 16 kx), (m12, kx_aD G 16 ky)]) (vp_Sd (fun r => r = kx_mm fr to k9)) 0 0 (fun _ => False) := by
  refine Met.ofW (cc := cX5_middle) (maxL := 2) (ret := (some .double)) (by decide) rfl ?_
  intro p e s m args below meth c s₁ B hml hv
  obtain ⟨rfl, hP, hT⟩ := hv
  have hx := B.exec
  have hb := B.bytes
  have hr := B.returns
  have hts := atoms_spec (ws := wsX5_middle) B.pre
  have hown : s.vm.findClass RX5 = some m.cls := findClass_of_methodNamed B.named
  have hlocks := B.notSynchronized
  have hf_20 := hts (.fieldLink RX5 20 "StemShapesModel" "froms" "[D") (by decide +kernel)
  have hin_X5 : ∀ w ∈ wsX50, w ∈ wsX5_middle := by decide +kernel
  have hf_23 := hts (.fieldLink RX5 23 "StemShapesModel" "tos" "[D") (by decide +kernel)
  have hc_81 := hts (.constantDouble RX5 81 (4611686018427387904)) (by decide +kernel)
  have hl := lv_entry ([.ref m0, .int (nI k9)]) (n := 2) (Nat.le_of_ble_eq_true rfl)
  rw [lg_entry_eq]
  generalize (lg_sl ([.ref m0, .int (nI k9)]) ++ List.replicate (2 - (lg_sl ([.ref m0, .int (nI k9)])).length) Slot.unset).toArray = ls at hl ⊢
  have hl : lv_has ls 2 [(0, .ref m0), (1, .int (nI k9))] := hl
  refine lv_aload_n hx hb dX5_middle_0 rfl (lv_at hl 0 rfl) ?_
  refine va_get (D := G.1) (ci := 6) (v := .ref m4) (C := RX5) (T := TX5) (N := 19) hx hb hts hin_X5 hown hT.1 hP 0 rfl rfl 6 (by decide) hf_20 (fun _ h9 => h9) rfl dX5_middle_1 ?_
  refine lv_iload_n hx hb dX5_middle_4 rfl (lv_at hl 1 rfl) ?_
  refine kx_dald hx hb hT hP 4 rfl k9 (by omega) (by omega) dX5_middle_5 ?_
  refine lv_aload_n hx hb dX5_middle_6 rfl (lv_at hl 0 rfl) ?_
  refine va_get (D := G.1) (ci := 6) (v := .ref m5) (C := RX5) (T := TX5) (N := 19) hx hb hts hin_X5 hown hT.1 hP 0 rfl rfl 7 (by decide) hf_23 (fun _ h9 => h9) rfl dX5_middle_7 ?_
  refine lv_iload_n hx hb dX5_middle_10 rfl (lv_at hl 1 rfl) ?_
  refine kx_dald hx hb hT hP 5 rfl k9 (by omega) (by omega) dX5_middle_11 ?_
  refine lv_dadd hx hb dX5_middle_12 (fx_bd.add (hb_fr k9) (hb_to k9) (by omega)).n ?_
  refine lv_ldc2d (v := 4611686018427387904) hx hb hown hc_81 dX5_middle_13 ?_
  refine lv_ddiv hx hb dX5_middle_16 (fx_bd.div (fx_bd.add (hb_fr k9) (hb_to k9) (by omega)) fx_2l.lb (by omega)).n ?_
  exact W.dret (v := FP.ddiv (FP.dadd (fr k9) (to k9)) fx_2) hx hb hr (fun t ht hW => ⟨FP.ddiv (FP.dadd (fr k9) (to k9)) fx_2, rfl, rfl, ht⟩) (fun _ h => nomatch h) dX5_middle_17
set_option maxHeartbeats 4000000 in
set_option maxRecDepth 100000 in
/-- a shape is set -/
theorem c_X5_set (l : Launch) (G : kx_G) (sz : Nat) (m0 : Nat) (m1 : Nat) (m2 : Nat) (m3 : Nat) (m4 : Nat) (m5 : Nat) (m6 : Nat) (m7 : Nat) (m8 : Nat) (m9 : Nat) (m10 : Nat) (m11 : Nat) (m12 : Nat) (n : Nat) (v : Nat) (tw : Int32) (ps : Nat → UInt64) (qs : Nat → UInt64) (th : Nat → Int32) (fr : Nat → UInt64) (to : Nat → UInt64) (kn : Int32) (ft : Nat) (fd : Nat → Int32) (sh : Nat → UInt64) (ru : Nat) (ki : Nat → Int32) (li : Nat → UInt64) (cl : Nat → Int32) (kp : Int32) (kx : Nat → UInt64) (ky : Nat → UInt64) (i : Nat) (x : UInt64) (y : UInt64) (r9 : UInt64) (e9 : UInt64) (hb_ps : ∀ j, fx_bd 5 (ps j)) (hb_qs : ∀ j, fx_bd 5 (qs j)) (hb_fr : ∀ j, fx_bd 11 (fr j)) (hb_to : ∀ j, fx_bd 11 (to j)) (hb_sh : ∀ j, fx_bd 220 (sh j)) (hb_kx : ∀ j, fx_bd 130 (kx j)) (hb_ky : ∀ j, fx_bd 130 (ky j)) (hi : i < 16) (hx_b : fx_bd 220 x) (hy_b : fx_bd 220 y) (hr_b : fx_bd 220 r9) (he_b : fx_bd 220 e9) : Met l yX5_set wsX5_set ({ frames := 0, cells := 0, slots := 0, locals := 0 } : Room) (kx_PM G [.ref m0, .int (nI i), .double x, .double y, .double r9, .double e9] sz [(m0, .inr (6, [.int tw, .int (nI n), .int (nI v), .ref m1, .ref m2, .ref m3, .ref m4, .ref m5, .int kn, .int (nI ft), .ref m6, .ref m7, .int (nI ru), .ref m8, .ref m9, .ref m10, .int kp, .ref m11, .ref m12])), (m1, kx_aD G 8 ps), (m2, kx_aD G 8 qs), (m3, kx_aZ G 128 th), (m4, kx_aD G 128 fr), (m5, kx_aD G 128 to), (m6, kx_aZ G 16 fd), (m7, kx_aD G 64 sh), (m8, kx_aI G 6 ki), (m9, kx_aD G 6 li), (m10, kx_aI G 6 cl), (m11, kx_aD G 16 kx), (m12, kx_aD G 16 ky)]) (va_Qv (fun (_ : Unit) => True) (kx_B G (va_A [(m0, .inr (6, [.int tw, .int (nI n), .int (nI v), .ref m1, .ref m2, .ref m3, .ref m4, .ref m5, .int kn, .int (nI ft), .ref m6, .ref m7, .int (nI ru), .ref m8, .ref m9, .ref m10, .int kp, .ref m11, .ref m12])), (m1, kx_aD G 8 ps), (m2, kx_aD G 8 qs), (m3, kx_aZ G 128 th), (m4, kx_aD G 128 fr), (m5, kx_aD G 128 to), (m6, kx_aZ G 16 fd), (m7, kx_aD G 64 sh), (m8, kx_aI G 6 ki), (m9, kx_aD G 6 li), (m10, kx_aI G 6 cl), (m11, kx_aD G 16 kx), (m12, kx_aD G 16 ky)] sz) (fun u : Unit => [(m0, .inr (6, [.int tw, .int (nI n), .int (nI v), .ref m1, .ref m2, .ref m3, .ref m4, .ref m5, .int kn, .int (nI ft), .ref m6, .ref m7, .int (nI ru), .ref m8, .ref m9, .ref m10, .int kp, .ref m11, .ref m12])), (m1, kx_aD G 8 ps), (m2, kx_aD G 8 qs), (m3, kx_aZ G 128 th), (m4, kx_aD G 128 fr), (m5, kx_aD G 128 to), (m6, kx_aZ G 16 fd), (m7, kx_aD G 64 (kx_st sh i x y r9 e9)), (m8, kx_aI G 6 ki), (m9, kx_aD G 6 li), (m10, kx_aI G 6 cl), (m11, kx_aD G 16 kx), (m12, kx_aD G 16 ky)])) (va_A [(m0, .inr (6, [.int tw, .int (nI n), .int (nI v), .ref m1, .ref m2, .ref m3, .ref m4, .ref m5, .int kn, .int (nI ft), .ref m6, .ref m7, .int (nI ru), .ref m8, .ref m9, .ref m10, .int kp, .ref m11, .ref m12])), (m1, kx_aD G 8 ps), (m2, kx_aD G 8 qs), (m3, kx_aZ G 128 th), (m4, kx_aD G 128 fr), (m5, kx_aD G 128 to), (m6, kx_aZ G 16 fd), (m7, kx_aD G 64 sh), (m8, kx_aI G 6 ki), (m9, kx_aD G 6 li), (m10, kx_aI G 6 cl), (m11, kx_aD G 16 kx), (m12, kx_aD G 16 ky)] sz)) 0 0 (va_A [(m0, .inr (6, [.int tw, .int (nI n), .int (nI v), .ref m1, .ref m2, .ref m3, .ref m4, .ref m5, .int kn, .int (nI ft), .ref m6, .ref m7, .int (nI ru), .ref m8, .ref m9, .ref m10, .int kp, .ref m11, .ref m12])), (m1, kx_aD G 8 ps), (m2, kx_aD G 8 qs), (m3, kx_aZ G 128 th), (m4, kx_aD G 128 fr), (m5, kx_aD G 128 to), (m6, kx_aZ G 16 fd), (m7, kx_aD G 64 sh), (m8, kx_aI G 6 ki), (m9, kx_aD G 6 li), (m10, kx_aI G 6 cl), (m11, kx_aD G 16 kx), (m12, kx_aD G 16 ky)] sz) := by
  refine Met.ofW (cc := cX5_set) (maxL := 10) (ret := none) (by decide) rfl ?_
  intro p e s m args below meth c s₁ B hml hv
  obtain ⟨rfl, hsz, hP, hT, hD0⟩ := hv
  have hx := B.exec
  have hb := B.bytes
  have hr := B.returns
  have hts := atoms_spec (ws := wsX5_set) B.pre
  have hown : s.vm.findClass RX5 = some m.cls := findClass_of_methodNamed B.named
  have hlocks := B.notSynchronized
  have hf_29 := hts (.fieldLink RX5 29 "StemShapesModel" "shapes" "[D") (by decide +kernel)
  have hin_X5 : ∀ w ∈ wsX50, w ∈ wsX5_set := by decide +kernel
  subst hsz
  have hD := hD0.self (sz := s.heap.size)
  generalize hAe : va_A [(m0, .inr (6, [.int tw, .int (nI n), .int (nI v), .ref m1, .ref m2, .ref m3, .ref m4, .ref m5, .int kn, .int (nI ft), .ref m6, .ref m7, .int (nI ru), .ref m8, .ref m9, .ref m10, .int kp, .ref m11, .ref m12])), (m1, kx_aD G 8 ps), (m2, kx_aD G 8 qs), (m3, kx_aZ G 128 th), (m4, kx_aD G 128 fr), (m5, kx_aD G 128 to), (m6, kx_aZ G 16 fd), (m7, kx_aD G 64 sh), (m8, kx_aI G 6 ki), (m9, kx_aD G 6 li), (m10, kx_aI G 6 cl), (m11, kx_aD G 16 kx), (m12, kx_aD G 16 ky)] s.heap.size = A at hD ⊢
  have hA : ∀ q : Nat, s.heap.size ≤ q → A q := fun q h => by rw [← hAe]; exact Or.inr h
  have hS : va_S A s.heap s.heap [] := va_S.rf
  have hl := lv_entry ([.ref m0, .int (nI i), .double x, .double y, .double r9, .double e9]) (n := 10) (Nat.le_of_ble_eq_true rfl)
  rw [lg_entry_eq]
  generalize (lg_sl ([.ref m0, .int (nI i), .double x, .double y, .double r9, .double e9]) ++ List.replicate (10 - (lg_sl ([.ref m0, .int (nI i), .double x, .double y, .double r9, .double e9])).length) Slot.unset).toArray = ls at hl ⊢
  have hl : lv_has ls 10 [(0, .ref m0), (1, .int (nI i)), (2, .double x), (4, .double y), (6, .double r9), (8, .double e9)] := hl
  refine lv_aload_n hx hb dX5_set_0 rfl (lv_at hl 0 rfl) ?_
  refine va_get (D := G.1) (ci := 6) (v := .ref m7) (C := RX5) (T := TX5) (N := 19) hx hb hts hin_X5 hown hT.1 hP 0 rfl rfl 11 (by decide) hf_29 (fun _ h9 => h9) rfl dX5_set_1 ?_
  refine lv_iconst (v := 4) hx hb dX5_set_4 (by decide) ?_
  refine lv_iload_n hx hb dX5_set_5 rfl (lv_at hl 1 rfl) ?_
  refine lv_imul hx hb dX5_set_6 ?_
  refine kx_ei (y := nI (4 * i)) (pk_mul 4 i) ?_
  refine lv_dload_n hx hb dX5_set_7 rfl (lv_at hl 2 rfl) ?_
  refine kx_dast hx hb hT hP hD hS 7 rfl (4 * i) (by omega) (by omega) dX5_set_8 (fun H locs hP hD hS => ?_)
  have hP : va_P G.1 vwCl [(m0, .inr (6, [.int tw, .int (nI n), .int (nI v), .ref m1, .ref m2, .ref m3, .ref m4, .ref m5, .int kn, .int (nI ft), .ref m6, .ref m7, .int (nI ru), .ref m8, .ref m9, .ref m10, .int kp, .ref m11, .ref m12])), (m1, kx_aD G 8 ps), (m2, kx_aD G 8 qs), (m3, kx_aZ G 128 th), (m4, kx_aD G 128 fr), (m5, kx_aD G 128 to), (m6, kx_aZ G 16 fd), (m7, kx_aD G 64 (vf_upd sh (4 * i) x)), (m8, kx_aI G 6 ki), (m9, kx_aD G 6 li), (m10, kx_aI G 6 cl), (m11, kx_aD G 16 kx), (m12, kx_aD G 16 ky)] H := hP
  have hD : va_D A [(m0, .inr (6, [.int tw, .int (nI n), .int (nI v), .ref m1, .ref m2, .ref m3, .ref m4, .ref m5, .int kn, .int (nI ft), .ref m6, .ref m7, .int (nI ru), .ref m8, .ref m9, .ref m10, .int kp, .ref m11, .ref m12])), (m1, kx_aD G 8 ps), (m2, kx_aD G 8 qs), (m3, kx_aZ G 128 th), (m4, kx_aD G 128 fr), (m5, kx_aD G 128 to), (m6, kx_aZ G 16 fd), (m7, kx_aD G 64 (vf_upd sh (4 * i) x)), (m8, kx_aI G 6 ki), (m9, kx_aD G 6 li), (m10, kx_aI G 6 cl), (m11, kx_aD G 16 kx), (m12, kx_aD G 16 ky)] := hD
  refine lv_aload_n hx hb dX5_set_9 rfl (lv_at hl 0 rfl) ?_
  refine va_get (D := G.1) (ci := 6) (v := .ref m7) (C := RX5) (T := TX5) (N := 19) hx hb hts hin_X5 hown hT.1 hP 0 rfl rfl 11 (by decide) hf_29 (fun _ h9 => h9) rfl dX5_set_10 ?_
  refine lv_iconst (v := 4) hx hb dX5_set_13 (by decide) ?_
  refine lv_iload_n hx hb dX5_set_14 rfl (lv_at hl 1 rfl) ?_
  refine lv_imul hx hb dX5_set_15 ?_
  refine kx_ei (y := nI (4 * i)) (pk_mul 4 i) ?_
  refine lv_iconst (v := 1) hx hb dX5_set_16 (by decide) ?_
  refine lv_iadd hx hb dX5_set_17 ?_
  refine kx_ei (y := nI ((4 * i) + 1)) (nI_add (4 * i) 1) ?_
  refine lv_dload hx hb dX5_set_18 (lv_at hl 3 rfl) ?_
  refine kx_dast hx hb hT hP hD hS 7 rfl ((4 * i) + 1) (by omega) (by omega) dX5_set_20 (fun H locs hP hD hS => ?_)
  have hP : va_P G.1 vwCl [(m0, .inr (6, [.int tw, .int (nI n), .int (nI v), .ref m1, .ref m2, .ref m3, .ref m4, .ref m5, .int kn, .int (nI ft), .ref m6, .ref m7, .int (nI ru), .ref m8, .ref m9, .ref m10, .int kp, .ref m11, .ref m12])), (m1, kx_aD G 8 ps), (m2, kx_aD G 8 qs), (m3, kx_aZ G 128 th), (m4, kx_aD G 128 fr), (m5, kx_aD G 128 to), (m6, kx_aZ G 16 fd), (m7, kx_aD G 64 (vf_upd (vf_upd sh (4 * i) x) ((4 * i) + 1) y)), (m8, kx_aI G 6 ki), (m9, kx_aD G 6 li), (m10, kx_aI G 6 cl), (m11, kx_aD G 16 kx), (m12, kx_aD G 16 ky)] H := hP
  have hD : va_D A [(m0, .inr (6, [.int tw, .int (nI n), .int (nI v), .ref m1, .ref m2, .ref m3, .ref m4, .ref m5, .int kn, .int (nI ft), .ref m6, .ref m7, .int (nI ru), .ref m8, .ref m9, .ref m10, .int kp, .ref m11, .ref m12])), (m1, kx_aD G 8 ps), (m2, kx_aD G 8 qs), (m3, kx_aZ G 128 th), (m4, kx_aD G 128 fr), (m5, kx_aD G 128 to), (m6, kx_aZ G 16 fd), (m7, kx_aD G 64 (vf_upd (vf_upd sh (4 * i) x) ((4 * i) + 1) y)), (m8, kx_aI G 6 ki), (m9, kx_aD G 6 li), (m10, kx_aI G 6 cl), (m11, kx_aD G 16 kx), (m12, kx_aD G 16 ky)] := hD
  refine lv_aload_n hx hb dX5_set_21 rfl (lv_at hl 0 rfl) ?_
  refine va_get (D := G.1) (ci := 6) (v := .ref m7) (C := RX5) (T := TX5) (N := 19) hx hb hts hin_X5 hown hT.1 hP 0 rfl rfl 11 (by decide) hf_29 (fun _ h9 => h9) rfl dX5_set_22 ?_
  refine lv_iconst (v := 4) hx hb dX5_set_25 (by decide) ?_
  refine lv_iload_n hx hb dX5_set_26 rfl (lv_at hl 1 rfl) ?_
  refine lv_imul hx hb dX5_set_27 ?_
  refine kx_ei (y := nI (4 * i)) (pk_mul 4 i) ?_
  refine lv_iconst (v := 2) hx hb dX5_set_28 (by decide) ?_
  refine lv_iadd hx hb dX5_set_29 ?_
  refine kx_ei (y := nI ((4 * i) + 2)) (nI_add (4 * i) 2) ?_
  refine lv_dload hx hb dX5_set_30 (lv_at hl 4 rfl) ?_
  refine kx_dast hx hb hT hP hD hS 7 rfl ((4 * i) + 2) (by omega) (by omega) dX5_set_32 (fun H locs hP hD hS => ?_)
  have hP : va_P G.1 vwCl [(m0, .inr (6, [.int tw, .int (nI n), .int (nI v), .ref m1, .ref m2, .ref m3, .ref m4, .ref m5, .int kn, .int (nI ft), .ref m6, .ref m7, .int (nI ru), .ref m8, .ref m9, .ref m10, .int kp, .ref m11, .ref m12])), (m1, kx_aD G 8 ps), (m2, kx_aD G 8 qs), (m3, kx_aZ G 128 th), (m4, kx_aD G 128 fr), (m5, kx_aD G 128 to), (m6, kx_aZ G 16 fd), (m7, kx_aD G 64 (vf_upd (vf_upd (vf_upd sh (4 * i) x) ((4 * i) + 1) y) ((4 * i) + 2) r9)), (m8, kx_aI G 6 ki), (m9, kx_aD G 6 li), (m10, kx_aI G 6 cl), (m11, kx_aD G 16 kx), (m12, kx_aD G 16 ky)] H := hP
  have hD : va_D A [(m0, .inr (6, [.int tw, .int (nI n), .int (nI v), .ref m1, .ref m2, .ref m3, .ref m4, .ref m5, .int kn, .int (nI ft), .ref m6, .ref m7, .int (nI ru), .ref m8, .ref m9, .ref m10, .int kp, .ref m11, .ref m12])), (m1, kx_aD G 8 ps), (m2, kx_aD G 8 qs), (m3, kx_aZ G 128 th), (m4, kx_aD G 128 fr), (m5, kx_aD G 128 to), (m6, kx_aZ G 16 fd), (m7, kx_aD G 64 (vf_upd (vf_upd (vf_upd sh (4 * i) x) ((4 * i) + 1) y) ((4 * i) + 2) r9)), (m8, kx_aI G 6 ki), (m9, kx_aD G 6 li), (m10, kx_aI G 6 cl), (m11, kx_aD G 16 kx), (m12, kx_aD G 16 ky)] := hD
  refine lv_aload_n hx hb dX5_set_33 rfl (lv_at hl 0 rfl) ?_
  refine va_get (D := G.1) (ci := 6) (v := .ref m7) (C := RX5) (T := TX5) (N := 19) hx hb hts hin_X5 hown hT.1 hP 0 rfl rfl 11 (by decide) hf_29 (fun _ h9 => h9) rfl dX5_set_34 ?_
  refine lv_iconst (v := 4) hx hb dX5_set_37 (by decide) ?_
  refine lv_iload_n hx hb dX5_set_38 rfl (lv_at hl 1 rfl) ?_
  refine lv_imul hx hb dX5_set_39 ?_
  refine kx_ei (y := nI (4 * i)) (pk_mul 4 i) ?_
  refine lv_iconst (v := 3) hx hb dX5_set_40 (by decide) ?_
  refine lv_iadd hx hb dX5_set_41 ?_
  refine kx_ei (y := nI ((4 * i) + 3)) (nI_add (4 * i) 3) ?_
  refine lv_dload hx hb dX5_set_42 (lv_at hl 5 rfl) ?_
  refine kx_dast hx hb hT hP hD hS 7 rfl ((4 * i) + 3) (by omega) (by omega) dX5_set_44 (fun H locs hP hD hS => ?_)
  have hP : va_P G.1 vwCl [(m0, .inr (6, [.int tw, .int (nI n), .int (nI v), .ref m1, .ref m2, .ref m3, .ref m4, .ref m5, .int kn, .int (nI ft), .ref m6, .ref m7, .int (nI ru), .ref m8, .ref m9, .ref m10, .int kp, .ref m11, .ref m12])), (m1, kx_aD G 8 ps), (m2, kx_aD G 8 qs), (m3, kx_aZ G 128 th), (m4, kx_aD G 128 fr), (m5, kx_aD G 128 to), (m6, kx_aZ G 16 fd), (m7, kx_aD G 64 (vf_upd (vf_upd (vf_upd (vf_upd sh (4 * i) x) ((4 * i) + 1) y) ((4 * i) + 2) r9) ((4 * i) + 3) e9)), (m8, kx_aI G 6 ki), (m9, kx_aD G 6 li), (m10, kx_aI G 6 cl), (m11, kx_aD G 16 kx), (m12, kx_aD G 16 ky)] H := hP
  have hD : va_D A [(m0, .inr (6, [.int tw, .int (nI n), .int (nI v), .ref m1, .ref m2, .ref m3, .ref m4, .ref m5, .int kn, .int (nI ft), .ref m6, .ref m7, .int (nI ru), .ref m8, .ref m9, .ref m10, .int kp, .ref m11, .ref m12])), (m1, kx_aD G 8 ps), (m2, kx_aD G 8 qs), (m3, kx_aZ G 128 th), (m4, kx_aD G 128 fr), (m5, kx_aD G 128 to), (m6, kx_aZ G 16 fd), (m7, kx_aD G 64 (vf_upd (vf_upd (vf_upd (vf_upd sh (4 * i) x) ((4 * i) + 1) y) ((4 * i) + 2) r9) ((4 * i) + 3) e9)), (m8, kx_aI G 6 ki), (m9, kx_aD G 6 li), (m10, kx_aI G 6 cl), (m11, kx_aD G 16 kx), (m12, kx_aD G 16 ky)] := hD
  exact W.vret hx hb hr (fun t ht hW => ⟨⟨(), rfl, trivial, And.intro (by rw [ht]; exact hP) hD⟩, hS.F ht⟩) hS.2.2 dX5_set_45
set_option maxHeartbeats 4000000 in
set_option maxRecDepth 100000 in
/-- a mended number -/
theorem c_X5_mixed (l : Launch) (G : kx_G) (m0 : Nat) (m1 : Nat) (m2 : Nat) (m3 : Nat) (m4 : Nat) (m5 : Nat) (m6 : Nat) (m7 : Nat) (m8 : Nat) (m9 : Nat) (m10 : Nat) (m11 : Nat) (m12 : Nat) (n : Nat) (v : Nat) (tw : Int32) (ps : Nat → UInt64) (qs : Nat → UInt64) (th : Nat → Int32) (fr : Nat → UInt64) (to : Nat → UInt64) (kn : Int32) (ft : Nat) (fd : Nat → Int32) (sh : Nat → UInt64) (ru : Nat) (ki : Nat → Int32) (li : Nat → UInt64) (cl : Nat → Int32) (kp : Int32) (kx : Nat → UInt64) (ky : Nat → UInt64) (a : Nat) (b : Nat) (i : Nat) (w : Nat) (hb_ps : ∀ j, fx_bd 5 (ps j)) (hb_qs : ∀ j, fx_bd 5 (qs j)) (hb_fr : ∀ j, fx_bd 11 (fr j)) (hb_to : ∀ j, fx_bd 11 (to j)) (hb_sh : ∀ j, fx_bd 220 (sh j)) (hb_kx : ∀ j, fx_bd 130 (kx j)) (hb_ky : ∀ j, fx_bd 130 (ky j)) (hb9 : b < 16) (hai : a < i) (hib : i < b) (hw : w < 3) : Met l yX5_mixed wsX5_mixed ({ frames := 0, cells := 0, slots := 0, locals := 0 } : Room) (kx_PR G [.ref m0, .int (nI a), .int (nI b), .int (nI i), .int (nI w)] [(m0, .inr (6, [.int tw, .int (nI n), .int (nI v), .ref m1, .ref m2, .ref m3, .ref m4, .ref m5, .int kn, .int (nI ft), .ref m6, .ref m7, .int (nI ru), .ref m8, .ref m9, .ref m10, .int kp, .ref m11, .ref m12])), (m1, kx_aD G 8 ps), (m2, kx_aD G 8 qs), (m3, kx_aZ G 128 th), (m4, kx_aD G 128 fr), (m5, kx_aD G 128 to), (m6, kx_aZ G 16 fd), (m7, kx_aD G 64 sh), (m8, kx_aI G 6 ki), (m9, kx_aD G 6 li), (m10, kx_aI G 6 cl), (m11, kx_aD G 16 kx), (m12, kx_aD G 16 ky)]) (vp_Sd (fun r => r = kx_ln (sh (4 * a + w)) (sh (4 * b + w)) (nI (i - a)) (nI (b - a)))) 0 0 (fun _ => False) := by
  refine Met.ofW (cc := cX5_mixed) (maxL := 7) (ret := (some .double)) (by decide) rfl ?_
  intro p e s m args below meth c s₁ B hml hv
  obtain ⟨rfl, hP, hT⟩ := hv
  have hx := B.exec
  have hb := B.bytes
  have hr := B.returns
  have hts := atoms_spec (ws := wsX5_mixed) B.pre
  have hown : s.vm.findClass RX5 = some m.cls := findClass_of_methodNamed B.named
  have hlocks := B.notSynchronized
  have hf_29 := hts (.fieldLink RX5 29 "StemShapesModel" "shapes" "[D") (by decide +kernel)
  have hin_X5 : ∀ w ∈ wsX50, w ∈ wsX5_mixed := by decide +kernel
  have hl := lv_entry ([.ref m0, .int (nI a), .int (nI b), .int (nI i), .int (nI w)]) (n := 7) (Nat.le_of_ble_eq_true rfl)
  rw [lg_entry_eq]
  generalize (lg_sl ([.ref m0, .int (nI a), .int (nI b), .int (nI i), .int (nI w)]) ++ List.replicate (7 - (lg_sl ([.ref m0, .int (nI a), .int (nI b), .int (nI i), .int (nI w)])).length) Slot.unset).toArray = ls at hl ⊢
  have hl : lv_has ls 7 [(0, .ref m0), (1, .int (nI a)), (2, .int (nI b)), (3, .int (nI i)), (4, .int (nI w))] := hl
  refine lv_aload_n hx hb dX5_mixed_0 rfl (lv_at hl 0 rfl) ?_
  refine va_get (D := G.1) (ci := 6) (v := .ref m7) (C := RX5) (T := TX5) (N := 19) hx hb hts hin_X5 hown hT.1 hP 0 rfl rfl 11 (by decide) hf_29 (fun _ h9 => h9) rfl dX5_mixed_1 ?_
  refine lv_iconst (v := 4) hx hb dX5_mixed_4 (by decide) ?_
  refine lv_iload_n hx hb dX5_mixed_5 rfl (lv_at hl 1 rfl) ?_
  refine lv_imul hx hb dX5_mixed_6 ?_
  refine kx_ei (y := nI (4 * a)) (pk_mul 4 a) ?_
  refine lv_iload hx hb dX5_mixed_7 (lv_at hl 4 rfl) ?_
  refine lv_iadd hx hb dX5_mixed_9 ?_
  refine kx_ei (y := nI ((4 * a) + w)) (nI_add (4 * a) w) ?_
  refine kx_dald hx hb hT hP 7 rfl ((4 * a) + w) (by omega) (by omega) dX5_mixed_10 ?_
  refine lv_dstore (lv' := [(5, .double (sh ((4 * a) + w))), (0, .ref m0), (1, .int (nI a)), (2, .int (nI b)), (3, .int (nI i)), (4, .int (nI w))]) hx hb dX5_mixed_11 hl (by decide) rfl (fun ls hl => ?_)
  refine lv_dload hx hb dX5_mixed_13 (lv_at hl 0 rfl) ?_
  refine lv_aload_n hx hb dX5_mixed_15 rfl (lv_at hl 1 rfl) ?_
  refine va_get (D := G.1) (ci := 6) (v := .ref m7) (C := RX5) (T := TX5) (N := 19) hx hb hts hin_X5 hown hT.1 hP 0 rfl rfl 11 (by decide) hf_29 (fun _ h9 => h9) rfl dX5_mixed_16 ?_
  refine lv_iconst (v := 4) hx hb dX5_mixed_19 (by decide) ?_
  refine lv_iload_n hx hb dX5_mixed_20 rfl (lv_at hl 3 rfl) ?_
  refine lv_imul hx hb dX5_mixed_21 ?_
  refine kx_ei (y := nI (4 * b)) (pk_mul 4 b) ?_
  refine lv_iload hx hb dX5_mixed_22 (lv_at hl 5 rfl) ?_
  refine lv_iadd hx hb dX5_mixed_24 ?_
  refine kx_ei (y := nI ((4 * b) + w)) (nI_add (4 * b) w) ?_
  refine kx_dald hx hb hT hP 7 rfl ((4 * b) + w) (by omega) (by omega) dX5_mixed_25 ?_
  refine lv_dload hx hb dX5_mixed_26 (lv_at hl 0 rfl) ?_
  refine lv_dsub hx hb dX5_mixed_28 (fx_bd.sub (hb_sh ((4 * b) + w)) (hb_sh ((4 * a) + w)) (by omega)).n ?_
  refine lv_iload_n hx hb dX5_mixed_29 rfl (lv_at hl 4 rfl) ?_
  refine lv_iload_n hx hb dX5_mixed_30 rfl (lv_at hl 2 rfl) ?_
  refine lv_isub hx hb dX5_mixed_31 ?_
  refine kx_ei (y := nI (i - a)) (pk_sub (a := i) (b := a) (by omega)) ?_
  refine lv_i2d hx hb dX5_mixed_32 ?_
  refine lv_dmul hx hb dX5_mixed_33 (fx_bd.mul (fx_bd.sub (hb_sh ((4 * b) + w)) (hb_sh ((4 * a) + w)) (by omega)) fx_i (by omega)).n ?_
  refine lv_iload_n hx hb dX5_mixed_34 rfl (lv_at hl 3 rfl) ?_
  refine lv_iload_n hx hb dX5_mixed_35 rfl (lv_at hl 2 rfl) ?_
  refine lv_isub hx hb dX5_mixed_36 ?_
  refine kx_ei (y := nI (b - a)) (pk_sub (a := b) (b := a) (by omega)) ?_
  refine lv_i2d hx hb dX5_mixed_37 ?_
  refine lv_ddiv hx hb dX5_mixed_38 (fx_bd.div (fx_bd.mul (fx_bd.sub (hb_sh ((4 * b) + w)) (hb_sh ((4 * a) + w)) (by omega)) fx_i (by omega)) (fx_il (nI_ne0 (by omega) (by omega))) (by omega)).n ?_
  refine lv_dadd hx hb dX5_mixed_39 (fx_bd.add (hb_sh ((4 * a) + w)) (fx_bd.div (fx_bd.mul (fx_bd.sub (hb_sh ((4 * b) + w)) (hb_sh ((4 * a) + w)) (by omega)) fx_i (by omega)) (fx_il (nI_ne0 (by omega) (by omega))) (by omega)) (by omega)).n ?_
  exact W.dret (v := FP.dadd (sh ((4 * a) + w)) (FP.ddiv (FP.dmul (FP.dsub (sh ((4 * b) + w)) (sh ((4 * a) + w))) (FP.i2d (nI (i - a)))) (FP.i2d (nI (b - a))))) hx hb hr (fun t ht hW => ⟨FP.dadd (sh ((4 * a) + w)) (FP.ddiv (FP.dmul (FP.dsub (sh ((4 * b) + w)) (sh ((4 * a) + w))) (FP.i2d (nI (i - a)))) (FP.i2d (nI (b - a)))), rfl, rfl, ht⟩) (fun _ h => nomatch h) dX5_mixed_40
set_option maxHeartbeats 4000000 in
set_option maxRecDepth 100000 in
/-- whether there is a shape -/
theorem c_X5_hasShape (l : Launch) (G : kx_G) (m0 : Nat) (m1 : Nat) (m2 : Nat) (m3 : Nat) (m4 : Nat) (m5 : Nat) (m6 : Nat) (m7 : Nat) (m8 : Nat) (m9 : Nat) (m10 : Nat) (m11 : Nat) (m12 : Nat) (n : Nat) (v : Nat) (tw : Int32) (ps : Nat → UInt64) (qs : Nat → UInt64) (th : Nat → Int32) (fr : Nat → UInt64) (to : Nat → UInt64) (kn : Int32) (ft : Nat) (fd : Nat → Int32) (sh : Nat → UInt64) (ru : Nat) (ki : Nat → Int32) (li : Nat → UInt64) (cl : Nat → Int32) (kp : Int32) (kx : Nat → UInt64) (ky : Nat → UInt64) (hb_ps : ∀ j, fx_bd 5 (ps j)) (hb_qs : ∀ j, fx_bd 5 (qs j)) (hb_fr : ∀ j, fx_bd 11 (fr j)) (hb_to : ∀ j, fx_bd 11 (to j)) (hb_sh : ∀ j, fx_bd 220 (sh j)) (hb_kx : ∀ j, fx_bd 130 (kx j)) (hb_ky : ∀ j, fx_bd 130 (ky j)) (hft : ft ≤ 16) : Met l yX5_hasShape wsX5_hasShape ({ frames := 0, cells := 0, slots := 0, locals := 0 } : Room) (kx_PR G [.ref m0] [(m0, .inr (6, [.int tw, .int (nI n), .int (nI v), .ref m1, .ref m2, .ref m3, .ref m4, .ref m5, .int kn, .int (nI ft), .ref m6, .ref m7, .int (nI ru), .ref m8, .ref m9, .ref m10, .int kp, .ref m11, .ref m12])), (m1, kx_aD G 8 ps), (m2, kx_aD G 8 qs), (m3, kx_aZ G 128 th), (m4, kx_aD G 128 fr), (m5, kx_aD G 128 to), (m6, kx_aZ G 16 fd), (m7, kx_aD G 64 sh), (m8, kx_aI G 6 ki), (m9, kx_aD G 6 li), (m10, kx_aI G 6 cl), (m11, kx_aD G 16 kx), (m12, kx_aD G 16 ky)]) (vp_Si (fun r => r = kx_hs kn ft)) 0 0 (fun _ => False) := by
  refine Met.ofW (cc := cX5_hasShape) (maxL := 1) (ret := (some .boolean)) (by decide) rfl ?_
  intro p e s m args below meth c s₁ B hml hv
  obtain ⟨rfl, hP, hT⟩ := hv
  have hx := B.exec
  have hb := B.bytes
  have hr := B.returns
  have hts := atoms_spec (ws := wsX5_hasShape) B.pre
  have hown : s.vm.findClass RX5 = some m.cls := findClass_of_methodNamed B.named
  have hlocks := B.notSynchronized
  have hf_70 := hts (.fieldLink RX5 70 "StemShapesModel" "known" "Z") (by decide +kernel)
  have hin_X5 : ∀ w ∈ wsX50, w ∈ wsX5_hasShape := by decide +kernel
  have hf_101 := hts (.fieldLink RX5 101 "StemShapesModel" "fits" "I") (by decide +kernel)
  have hl := lv_entry ([.ref m0]) (n := 1) (Nat.le_of_ble_eq_true rfl)
  rw [lg_entry_eq]
  generalize (lg_sl ([.ref m0]) ++ List.replicate (1 - (lg_sl ([.ref m0])).length) Slot.unset).toArray = ls at hl ⊢
  have hl : lv_has ls 1 [(0, .ref m0)] := hl
  refine lv_aload_n hx hb dX5_hasShape_0 rfl (lv_at hl 0 rfl) ?_
  refine va_get (D := G.1) (ci := 6) (v := .int kn) (C := RX5) (T := TX5) (N := 19) hx hb hts hin_X5 hown hT.1 hP 0 rfl rfl 8 (by decide) hf_70 (fun _ h9 => h9) rfl dX5_hasShape_1 ?_
  refine lv_if_eq (x := kn) (tgt := 18) hx hb dX5_hasShape_4 (by decide) (fun c_1 => ?_) (fun c_1 => ?_)
  · refine lv_iconst (v := 0) hx hb dX5_hasShape_18 (by decide) ?_
    exact W.zret (v := 0) hx hb hr rfl (fun t ht hW => ⟨0, rfl, (if_pos c_1).symm, ht⟩) (fun _ h => nomatch h) dX5_hasShape_19
  · refine lv_aload_n hx hb dX5_hasShape_7 rfl (lv_at hl 0 rfl) ?_
    refine va_get (D := G.1) (ci := 6) (v := .int (nI ft)) (C := RX5) (T := TX5) (N := 19) hx hb hts hin_X5 hown hT.1 hP 0 rfl rfl 9 (by decide) hf_101 (fun _ h9 => h9) rfl dX5_hasShape_8 ?_
    refine lv_if_le (x := nI ft) (tgt := 18) hx hb dX5_hasShape_11 (by decide) (fun c_2 => ?_) (fun c_2 => ?_)
    · have c_2 : ft ≤ 0 := (nI_leI (a := ft) (b := 0) (by omega) (by omega)).mp c_2
      refine lv_iconst (v := 0) hx hb dX5_hasShape_18 (by decide) ?_
      exact W.zret (v := 0) hx hb hr rfl (fun t ht hW => ⟨0, rfl, (by unfold kx_hs; rw [if_neg c_1, if_pos (by omega)]), ht⟩) (fun _ h => nomatch h) dX5_hasShape_19
    · have c_2 : ¬ ft ≤ 0 := fun q => c_2 ((nI_leI (a := ft) (b := 0) (by omega) (by omega)).mpr q)
      refine lv_iconst (v := 1) hx hb dX5_hasShape_14 (by decide) ?_
      refine lv_goto (tgt := 19) hx hb dX5_hasShape_15 (by decide) ?_
      exact W.zret (v := 1) hx hb hr rfl (fun t ht hW => ⟨1, rfl, (by unfold kx_hs; rw [if_neg c_1, if_neg (by omega)]), ht⟩) (fun _ h => nomatch h) dX5_hasShape_19
set_option maxHeartbeats 4000000 in
set_option maxRecDepth 100000 in
/-- AREA -/
theorem c_X5_area (l : Launch) (G : kx_G) (m0 : Nat) (m1 : Nat) (m2 : Nat) (m3 : Nat) (m4 : Nat) (m5 : Nat) (m6 : Nat) (m7 : Nat) (m8 : Nat) (m9 : Nat) (m10 : Nat) (m11 : Nat) (m12 : Nat) (n : Nat) (v : Nat) (tw : Int32) (ps : Nat → UInt64) (qs : Nat → UInt64) (th : Nat → Int32) (fr : Nat → UInt64) (to : Nat → UInt64) (kn : Int32) (ft : Nat) (fd : Nat → Int32) (sh : Nat → UInt64) (ru : Nat) (ki : Nat → Int32) (li : Nat → UInt64) (cl : Nat → Int32) (kp : Int32) (kx : Nat → UInt64) (ky : Nat → UInt64) (i : Nat) (hb_ps : ∀ j, fx_bd 5 (ps j)) (hb_qs : ∀ j, fx_bd 5 (qs j)) (hb_fr : ∀ j, fx_bd 11 (fr j)) (hb_to : ∀ j, fx_bd 11 (to j)) (hb_sh : ∀ j, fx_bd 220 (sh j)) (hb_kx : ∀ j, fx_bd 130 (kx j)) (hb_ky : ∀ j, fx_bd 130 (ky j)) (hi : i < 16) : Met l yX5_area wsX5_area ({ frames := 0, cells := 0, slots := 0, locals := 0 } : Room) (kx_PR G [.ref m0, .int (nI i)] [(m0, .inr (6, [.int tw, .int (nI n), .int (nI v), .ref m1, .ref m2, .ref m3, .ref m4, .ref m5, .int kn, .int (nI ft), .ref m6, .ref m7, .int (nI ru), .ref m8, .ref m9, .ref m10, .int kp, .ref m11, .ref m12])), (m1, kx_aD G 8 ps), (m2, kx_aD G 8 qs), (m3, kx_aZ G 128 th), (m4, kx_aD G 128 fr), (m5, kx_aD G 128 to), (m6, kx_aZ G 16 fd), (m7, kx_aD G 64 sh), (m8, kx_aI G 6 ki), (m9, kx_aD G 6 li), (m10, kx_aI G 6 cl), (m11, kx_aD G 16 kx), (m12, kx_aD G 16 ky)]) (vp_Sd (fun r => r = kx_area (sh (4 * i + 2)))) 0 0 (fun _ => False) := by
  refine Met.ofW (cc := cX5_area) (maxL := 4) (ret := (some .double)) (by decide) rfl ?_
  intro p e s m args below meth c s₁ B hml hv
  obtain ⟨rfl, hP, hT⟩ := hv
  have hx := B.exec
  have hb := B.bytes
  have hr := B.returns
  have hts := atoms_spec (ws := wsX5_area) B.pre
  have hown : s.vm.findClass RX5 = some m.cls := findClass_of_methodNamed B.named
  have hlocks := B.notSynchronized
  have hf_29 := hts (.fieldLink RX5 29 "StemShapesModel" "shapes" "[D") (by decide +kernel)
  have hin_X5 : ∀ w ∈ wsX50, w ∈ wsX5_area := by decide +kernel
  have hc_111 := hts (.constantDouble RX5 111 (4614254477589872640)) (by decide +kernel)
  have hl := lv_entry ([.ref m0, .int (nI i)]) (n := 4) (Nat.le_of_ble_eq_true rfl)
  rw [lg_entry_eq]
  generalize (lg_sl ([.ref m0, .int (nI i)]) ++ List.replicate (4 - (lg_sl ([.ref m0, .int (nI i)])).length) Slot.unset).toArray = ls at hl ⊢
  have hl : lv_has ls 4 [(0, .ref m0), (1, .int (nI i))] := hl
  refine lv_aload_n hx hb dX5_area_0 rfl (lv_at hl 0 rfl) ?_
  refine va_get (D := G.1) (ci := 6) (v := .ref m7) (C := RX5) (T := TX5) (N := 19) hx hb hts hin_X5 hown hT.1 hP 0 rfl rfl 11 (by decide) hf_29 (fun _ h9 => h9) rfl dX5_area_1 ?_
  refine lv_iconst (v := 4) hx hb dX5_area_4 (by decide) ?_
  refine lv_iload_n hx hb dX5_area_5 rfl (lv_at hl 1 rfl) ?_
  refine lv_imul hx hb dX5_area_6 ?_
  refine kx_ei (y := nI (4 * i)) (pk_mul 4 i) ?_
  refine lv_iconst (v := 2) hx hb dX5_area_7 (by decide) ?_
  refine lv_iadd hx hb dX5_area_8 ?_
  refine kx_ei (y := nI ((4 * i) + 2)) (nI_add (4 * i) 2) ?_
  refine kx_dald hx hb hT hP 7 rfl ((4 * i) + 2) (by omega) (by omega) dX5_area_9 ?_
  refine lv_dstore_n (lv' := [(2, .double (sh ((4 * i) + 2))), (0, .ref m0), (1, .int (nI i))]) hx hb dX5_area_10 rfl hl (by decide) rfl (fun ls hl => ?_)
  refine lv_ldc2d (v := 4614254477589872640) hx hb hown hc_111 dX5_area_11 ?_
  refine lv_dload_n hx hb dX5_area_14 rfl (lv_at hl 0 rfl) ?_
  refine lv_dmul hx hb dX5_area_15 (fx_bd.mul fx_k4614254477589872640 (hb_sh ((4 * i) + 2)) (by omega)).n ?_
  refine lv_dload_n hx hb dX5_area_16 rfl (lv_at hl 0 rfl) ?_
  refine lv_dmul hx hb dX5_area_17 (fx_bd.mul (fx_bd.mul fx_k4614254477589872640 (hb_sh ((4 * i) + 2)) (by omega)) (hb_sh ((4 * i) + 2)) (by omega)).n ?_
  exact W.dret (v := FP.dmul (FP.dmul 4614254477589872640 (sh ((4 * i) + 2))) (sh ((4 * i) + 2))) hx hb hr (fun t ht hW => ⟨FP.dmul (FP.dmul 4614254477589872640 (sh ((4 * i) + 2))) (sh ((4 * i) + 2)), rfl, rfl, ht⟩) (fun _ h => nomatch h) dX5_area_18
set_option maxHeartbeats 4000000 in
set_option maxRecDepth 100000 in
/-- INSIDE -/
theorem c_X5_isInside (l : Launch) (G : kx_G) (m0 : Nat) (m1 : Nat) (m2 : Nat) (m3 : Nat) (m4 : Nat) (m5 : Nat) (m6 : Nat) (m7 : Nat) (m8 : Nat) (m9 : Nat) (m10 : Nat) (m11 : Nat) (m12 : Nat) (n : Nat) (v : Nat) (tw : Int32) (ps : Nat → UInt64) (qs : Nat → UInt64) (th : Nat → Int32) (fr : Nat → UInt64) (to : Nat → UInt64) (kn : Int32) (ft : Nat) (fd : Nat → Int32) (sh : Nat → UInt64) (ru : Nat) (ki : Nat → Int32) (li : Nat → UInt64) (cl : Nat → Int32) (kp : Int32) (kx : Nat → UInt64) (ky : Nat → UInt64) (i : Nat) (x : UInt64) (y : UInt64) (hb_ps : ∀ j, fx_bd 5 (ps j)) (hb_qs : ∀ j, fx_bd 5 (qs j)) (hb_fr : ∀ j, fx_bd 11 (fr j)) (hb_to : ∀ j, fx_bd 11 (to j)) (hb_sh : ∀ j, fx_bd 220 (sh j)) (hb_kx : ∀ j, fx_bd 130 (kx j)) (hb_ky : ∀ j, fx_bd 130 (ky j)) (hi : i < 16) (hx_b : fx_bd 40 x) (hy_b : fx_bd 40 y) : Met l yX5_isInside wsX5_isInside ({ frames := 0, cells := 0, slots := 0, locals := 0 } : Room) (kx_PR G [.ref m0, .int (nI i), .double x, .double y] [(m0, .inr (6, [.int tw, .int (nI n), .int (nI v), .ref m1, .ref m2, .ref m3, .ref m4, .ref m5, .int kn, .int (nI ft), .ref m6, .ref m7, .int (nI ru), .ref m8, .ref m9, .ref m10, .int kp, .ref m11, .ref m12])), (m1, kx_aD G 8 ps), (m2, kx_aD G 8 qs), (m3, kx_aZ G 128 th), (m4, kx_aD G 128 fr), (m5, kx_aD G 128 to), (m6, kx_aZ G 16 fd), (m7, kx_aD G 64 sh), (m8, kx_aI G 6 ki), (m9, kx_aD G 6 li), (m10, kx_aI G 6 cl), (m11, kx_aD G 16 kx), (m12, kx_aD G 16 ky)]) (vp_Si (fun r => r = kx_cov (sh (4 * i)) (sh (4 * i + 1)) (sh (4 * i + 2)) x y)) 0 0 (fun _ => False) := by
  refine Met.ofW (cc := cX5_isInside) (maxL := 12) (ret := (some .boolean)) (by decide) rfl ?_
  intro p e s m args below meth c s₁ B hml hv
  obtain ⟨rfl, hP, hT⟩ := hv
  have hx := B.exec
  have hb := B.bytes
  have hr := B.returns
  have hts := atoms_spec (ws := wsX5_isInside) B.pre
  have hown : s.vm.findClass RX5 = some m.cls := findClass_of_methodNamed B.named
  have hlocks := B.notSynchronized
  have hf_29 := hts (.fieldLink RX5 29 "StemShapesModel" "shapes" "[D") (by decide +kernel)
  have hin_X5 : ∀ w ∈ wsX50, w ∈ wsX5_isInside := by decide +kernel
  have hl := lv_entry ([.ref m0, .int (nI i), .double x, .double y]) (n := 12) (Nat.le_of_ble_eq_true rfl)
  rw [lg_entry_eq]
  generalize (lg_sl ([.ref m0, .int (nI i), .double x, .double y]) ++ List.replicate (12 - (lg_sl ([.ref m0, .int (nI i), .double x, .double y])).length) Slot.unset).toArray = ls at hl ⊢
  have hl : lv_has ls 12 [(0, .ref m0), (1, .int (nI i)), (2, .double x), (4, .double y)] := hl
  refine lv_dload_n hx hb dX5_isInside_0 rfl (lv_at hl 2 rfl) ?_
  refine lv_aload_n hx hb dX5_isInside_1 rfl (lv_at hl 0 rfl) ?_
  refine va_get (D := G.1) (ci := 6) (v := .ref m7) (C := RX5) (T := TX5) (N := 19) hx hb hts hin_X5 hown hT.1 hP 0 rfl rfl 11 (by decide) hf_29 (fun _ h9 => h9) rfl dX5_isInside_2 ?_
  refine lv_iconst (v := 4) hx hb dX5_isInside_5 (by decide) ?_
  refine lv_iload_n hx hb dX5_isInside_6 rfl (lv_at hl 1 rfl) ?_
  refine lv_imul hx hb dX5_isInside_7 ?_
  refine kx_ei (y := nI (4 * i)) (pk_mul 4 i) ?_
  refine kx_dald hx hb hT hP 7 rfl (4 * i) (by omega) (by omega) dX5_isInside_8 ?_
  refine lv_dsub hx hb dX5_isInside_9 (fx_bd.sub hx_b (hb_sh (4 * i)) (by omega)).n ?_
  refine lv_dstore (lv' := [(6, .double (FP.dsub x (sh (4 * i)))), (0, .ref m0), (1, .int (nI i)), (2, .double x), (4, .double y)]) hx hb dX5_isInside_10 hl (by decide) rfl (fun ls hl => ?_)
  refine lv_dload hx hb dX5_isInside_12 (lv_at hl 4 rfl) ?_
  refine lv_aload_n hx hb dX5_isInside_14 rfl (lv_at hl 1 rfl) ?_
  refine va_get (D := G.1) (ci := 6) (v := .ref m7) (C := RX5) (T := TX5) (N := 19) hx hb hts hin_X5 hown hT.1 hP 0 rfl rfl 11 (by decide) hf_29 (fun _ h9 => h9) rfl dX5_isInside_15 ?_
  refine lv_iconst (v := 4) hx hb dX5_isInside_18 (by decide) ?_
  refine lv_iload_n hx hb dX5_isInside_19 rfl (lv_at hl 2 rfl) ?_
  refine lv_imul hx hb dX5_isInside_20 ?_
  refine kx_ei (y := nI (4 * i)) (pk_mul 4 i) ?_
  refine lv_iconst (v := 1) hx hb dX5_isInside_21 (by decide) ?_
  refine lv_iadd hx hb dX5_isInside_22 ?_
  refine kx_ei (y := nI ((4 * i) + 1)) (nI_add (4 * i) 1) ?_
  refine kx_dald hx hb hT hP 7 rfl ((4 * i) + 1) (by omega) (by omega) dX5_isInside_23 ?_
  refine lv_dsub hx hb dX5_isInside_24 (fx_bd.sub hy_b (hb_sh ((4 * i) + 1)) (by omega)).n ?_
  refine lv_dstore (lv' := [(8, .double (FP.dsub y (sh ((4 * i) + 1)))), (6, .double (FP.dsub x (sh (4 * i)))), (0, .ref m0), (1, .int (nI i)), (2, .double x), (4, .double y)]) hx hb dX5_isInside_25 hl (by decide) rfl (fun ls hl => ?_)
  refine lv_aload_n hx hb dX5_isInside_27 rfl (lv_at hl 2 rfl) ?_
  refine va_get (D := G.1) (ci := 6) (v := .ref m7) (C := RX5) (T := TX5) (N := 19) hx hb hts hin_X5 hown hT.1 hP 0 rfl rfl 11 (by decide) hf_29 (fun _ h9 => h9) rfl dX5_isInside_28 ?_
  refine lv_iconst (v := 4) hx hb dX5_isInside_31 (by decide) ?_
  refine lv_iload_n hx hb dX5_isInside_32 rfl (lv_at hl 3 rfl) ?_
  refine lv_imul hx hb dX5_isInside_33 ?_
  refine kx_ei (y := nI (4 * i)) (pk_mul 4 i) ?_
  refine lv_iconst (v := 2) hx hb dX5_isInside_34 (by decide) ?_
  refine lv_iadd hx hb dX5_isInside_35 ?_
  refine kx_ei (y := nI ((4 * i) + 2)) (nI_add (4 * i) 2) ?_
  refine kx_dald hx hb hT hP 7 rfl ((4 * i) + 2) (by omega) (by omega) dX5_isInside_36 ?_
  refine lv_dstore (lv' := [(10, .double (sh ((4 * i) + 2))), (8, .double (FP.dsub y (sh ((4 * i) + 1)))), (6, .double (FP.dsub x (sh (4 * i)))), (0, .ref m0), (1, .int (nI i)), (2, .double x), (4, .double y)]) hx hb dX5_isInside_37 hl (by decide) rfl (fun ls hl => ?_)
  refine lv_dload hx hb dX5_isInside_39 (lv_at hl 2 rfl) ?_
  refine lv_dload hx hb dX5_isInside_41 (lv_at hl 2 rfl) ?_
  refine lv_dmul hx hb dX5_isInside_43 (fx_bd.mul (fx_bd.sub hx_b (hb_sh (4 * i)) (by omega)) (fx_bd.sub hx_b (hb_sh (4 * i)) (by omega)) (by omega)).n ?_
  refine lv_dload hx hb dX5_isInside_44 (lv_at hl 1 rfl) ?_
  refine lv_dload hx hb dX5_isInside_46 (lv_at hl 1 rfl) ?_
  refine lv_dmul hx hb dX5_isInside_48 (fx_bd.mul (fx_bd.sub hy_b (hb_sh ((4 * i) + 1)) (by omega)) (fx_bd.sub hy_b (hb_sh ((4 * i) + 1)) (by omega)) (by omega)).n ?_
  refine lv_dadd hx hb dX5_isInside_49 (fx_bd.add (fx_bd.mul (fx_bd.sub hx_b (hb_sh (4 * i)) (by omega)) (fx_bd.sub hx_b (hb_sh (4 * i)) (by omega)) (by omega)) (fx_bd.mul (fx_bd.sub hy_b (hb_sh ((4 * i) + 1)) (by omega)) (fx_bd.sub hy_b (hb_sh ((4 * i) + 1)) (by omega)) (by omega)) (by omega)).n ?_
  refine lv_dload hx hb dX5_isInside_50 (lv_at hl 0 rfl) ?_
  refine lv_dload hx hb dX5_isInside_52 (lv_at hl 0 rfl) ?_
  refine lv_dmul hx hb dX5_isInside_54 (fx_bd.mul (hb_sh ((4 * i) + 2)) (hb_sh ((4 * i) + 2)) (by omega)).n ?_
  refine kx_dle (tgt := 63) hx hb dX5_isInside_55 dX5_isInside_56 (by decide) (fun c_1 => ?_) (fun c_1 => ?_)
  · refine lv_iconst (v := 0) hx hb dX5_isInside_63 (by decide) ?_
    exact W.zret (v := 0) hx hb hr rfl (fun t ht hW => ⟨0, rfl, (if_neg c_1).symm, ht⟩) (fun _ h => nomatch h) dX5_isInside_64
  · refine lv_iconst (v := 1) hx hb dX5_isInside_59 (by decide) ?_
    refine lv_goto (tgt := 64) hx hb dX5_isInside_60 (by decide) ?_
    exact W.zret (v := 1) hx hb hr rfl (fun t ht hW => ⟨1, rfl, (if_pos c_1).symm, ht⟩) (fun _ h => nomatch h) dX5_isInside_64
set_option maxHeartbeats 4000000 in
set_option maxRecDepth 100000 in
/-- VOLUME -/
theorem c_X5_volumeNow (l : Launch) (G : kx_G) (m0 : Nat) (m1 : Nat) (m2 : Nat) (m3 : Nat) (m4 : Nat) (m5 : Nat) (m6 : Nat) (m7 : Nat) (m8 : Nat) (m9 : Nat) (m10 : Nat) (m11 : Nat) (m12 : Nat) (n : Nat) (v : Nat) (tw : Int32) (ps : Nat → UInt64) (qs : Nat → UInt64) (th : Nat → Int32) (fr : Nat → UInt64) (to : Nat → UInt64) (kn : Int32) (ft : Nat) (fd : Nat → Int32) (sh : Nat → UInt64) (ru : Nat) (ki : Nat → Int32) (li : Nat → UInt64) (cl : Nat → Int32) (kp : Int32) (kx : Nat → UInt64) (ky : Nat → UInt64) (hb_ps : ∀ j, fx_bd 5 (ps j)) (hb_qs : ∀ j, fx_bd 5 (qs j)) (hb_fr : ∀ j, fx_bd 11 (fr j)) (hb_to : ∀ j, fx_bd 11 (to j)) (hb_sh : ∀ j, fx_bd 220 (sh j)) (hb_kx : ∀ j, fx_bd 130 (kx j)) (hb_ky : ∀ j, fx_bd 130 (ky j)) (hn1 : 1 ≤ n) (hn : n ≤ 16) : Met l yX5_volumeNow wsX5_volumeNow ({ frames := 1, cells := 0, slots := 0, locals := 23 } : Room) (kx_PR G [.ref m0] [(m0, .inr (6, [.int tw, .int (nI n), .int (nI v), .ref m1, .ref m2, .ref m3, .ref m4, .ref m5, .int kn, .int (nI ft), .ref m6, .ref m7, .int (nI ru), .ref m8, .ref m9, .ref m10, .int kp, .ref m11, .ref m12])), (m1, kx_aD G 8 ps), (m2, kx_aD G 8 qs), (m3, kx_aZ G 128 th), (m4, kx_aD G 128 fr), (m5, kx_aD G 128 to), (m6, kx_aZ G 16 fd), (m7, kx_aD G 64 sh), (m8, kx_aI G 6 ki), (m9, kx_aD G 6 li), (m10, kx_aI G 6 cl), (m11, kx_aD G 16 kx), (m12, kx_aD G 16 ky)]) (vp_Sd (fun r => r = kx_sum (fun j => kx_area (sh (4 * j + 2))) n)) 0 0 (fun _ => False) := by
  refine Met.ofW (cc := cX5_volumeNow) (maxL := 4) (ret := (some .double)) (by decide) rfl ?_
  intro p e s m args below meth c s₁ B hml hv
  obtain ⟨rfl, hP, hT⟩ := hv
  have hx := B.exec
  have hb := B.bytes
  have hr := B.returns
  have hts := atoms_spec (ws := wsX5_volumeNow) B.pre
  have hown : s.vm.findClass RX5 = some m.cls := findClass_of_methodNamed B.named
  have hlocks := B.notSynchronized
  have hf_48 := hts (.fieldLink RX5 48 "StemShapesModel" "slices" "I") (by decide +kernel)
  have hin_X5 : ∀ w ∈ wsX50, w ∈ wsX5_volumeNow := by decide +kernel
  have hl := lv_entry ([.ref m0]) (n := 4) (Nat.le_of_ble_eq_true rfl)
  rw [lg_entry_eq]
  generalize (lg_sl ([.ref m0]) ++ List.replicate (4 - (lg_sl ([.ref m0])).length) Slot.unset).toArray = ls at hl ⊢
  have hl : lv_has ls 4 [(0, .ref m0)] := hl
  refine lv_dconst0 hx hb dX5_volumeNow_0 ?_
  refine lv_dstore_n (lv' := [(1, .double FP.dconst0), (0, .ref m0)]) hx hb dX5_volumeNow_1 rfl hl (by decide) rfl (fun ls hl => ?_)
  refine lv_iconst (v := 0) hx hb dX5_volumeNow_2 (by decide) ?_
  refine lv_istore_n (lv' := [(3, .int 0), (1, .double FP.dconst0), (0, .ref m0)]) hx hb dX5_volumeNow_3 rfl hl (by decide) rfl (fun ls hl => ?_)
  have loop_4 : ∀ (k i : Nat) (a : UInt64), i + k = n → a = kx_sum (fun j => kx_area (sh (4 * j + 2))) i → ∀ ls : Array Slot, lv_has ls 4 [(3, .int (nI i)), (1, .double a), (0, .ref m0)] → W p l e (headSpec wsX5_volumeNow ({ frames := 1, cells := 0, slots := 0, locals := 23 } : Room)).room s m [.ref m0].toArray below meth c s.heap [] 0 0 (MQ below (vp_Sd (fun r => r = kx_sum (fun j => kx_area (sh (4 * j + 2))) n)) [.ref m0].toArray s 0 0 (fun _ => False)) (F0 m 4 ls []) := by
    intro k
    induction k with
    | zero =>
      intro i a htot e_a ls hl
      subst e_a
      refine lv_iload_n hx hb dX5_volumeNow_4 rfl (lv_at hl 0 rfl) ?_
      refine lv_aload_n hx hb dX5_volumeNow_5 rfl (lv_at hl 2 rfl) ?_
      refine va_get (D := G.1) (ci := 6) (v := .int (nI n)) (C := RX5) (T := TX5) (N := 19) hx hb hts hin_X5 hown hT.1 hP 0 rfl rfl 1 (by decide) hf_48 (fun _ h9 => h9) rfl dX5_volumeNow_6 ?_
      refine lv_icmp_ge (x := nI i) (y := nI n) (tgt := 26) hx hb dX5_volumeNow_9 (by decide) (fun c_1 => ?_) (fun c_1 => ?_)
      · have c_1 : n ≤ i := (nI_leI (a := n) (b := i) (by omega) (by omega)).mp c_1
        refine lv_dload_n hx hb dX5_volumeNow_26 rfl (lv_at hl 1 rfl) ?_
        exact W.dret (v := kx_sum (fun j => kx_area (sh (4 * j + 2))) i) hx hb hr (fun t ht hW => ⟨kx_sum (fun j => kx_area (sh (4 * j + 2))) i, rfl, (by rw [show i = n from by omega]), ht⟩) (fun _ h => nomatch h) dX5_volumeNow_27
      · have c_1 : ¬ n ≤ i := fun q => c_1 ((nI_leI (a := n) (b := i) (by omega) (by omega)).mpr q)
        exfalso; omega
    | succ k ih =>
      intro i a htot e_a ls hl
      subst e_a
      refine lv_iload_n hx hb dX5_volumeNow_4 rfl (lv_at hl 0 rfl) ?_
      refine lv_aload_n hx hb dX5_volumeNow_5 rfl (lv_at hl 2 rfl) ?_
      refine va_get (D := G.1) (ci := 6) (v := .int (nI n)) (C := RX5) (T := TX5) (N := 19) hx hb hts hin_X5 hown hT.1 hP 0 rfl rfl 1 (by decide) hf_48 (fun _ h9 => h9) rfl dX5_volumeNow_6 ?_
      refine lv_icmp_ge (x := nI i) (y := nI n) (tgt := 26) hx hb dX5_volumeNow_9 (by decide) (fun c_2 => ?_) (fun c_2 => ?_)
      · have c_2 : n ≤ i := (nI_leI (a := n) (b := i) (by omega) (by omega)).mp c_2
        exfalso; omega
      · have c_2 : ¬ n ≤ i := fun q => c_2 ((nI_leI (a := n) (b := i) (by omega) (by omega)).mpr q)
        refine lv_dload_n hx hb dX5_volumeNow_12 rfl (lv_at hl 1 rfl) ?_
        refine lv_aload_n hx hb dX5_volumeNow_13 rfl (lv_at hl 2 rfl) ?_
        refine lv_iload_n hx hb dX5_volumeNow_14 rfl (lv_at hl 0 rfl) ?_
        refine vp_callSd (W.runV (As := [.int (nI i)]) (rest := [.double (kx_sum (fun j => kx_area (sh (4 * j + 2))) i)]) ⟨hx, hb, hml, hown, hts⟩ (c_X5_area l G (m0 := m0) (m1 := m1) (m2 := m2) (m3 := m3) (m4 := m4) (m5 := m5) (m6 := m6) (m7 := m7) (m8 := m8) (m9 := m9) (m10 := m10) (m11 := m11) (m12 := m12) (n := n) (v := v) (tw := tw) (ps := ps) (qs := qs) (th := th) (fr := fr) (to := to) (kn := kn) (ft := ft) (fd := fd) (sh := sh) (ru := ru) (ki := ki) (li := li) (cl := cl) (kp := kp) (kx := kx) (ky := ky) (i := i) (hb_ps := hb_ps) (hb_qs := hb_qs) (hb_fr := hb_fr) (hb_to := hb_to) (hb_sh := hb_sh) (hb_kx := hb_kx) (hb_ky := hb_ky) (hi := (by omega))) (cwV 1 hts gX5_volumeNow_X5_area rfl rfl rfl (by decide +kernel) ⟨Nat.le_of_ble_eq_true rfl, Nat.le_of_ble_eq_true rfl⟩) ⟨kx_PRb, va_recv hT.1 hP (ci := 6) (q0 := 0) rfl rfl, kx_pr hT hP [0, 1, 2, 3, 4, 5, 6, 7, 8, 9, 10, 11, 12] rfl⟩ rfl rfl hl.1 rfl (lv_room (Nat.le_of_ble_eq_true rfl)) dX5_volumeNow_15 ⟨Nat.zero_le _, Nat.zero_le _⟩) (fun r_3 hw_4 => ?_)
        subst hw_4
        refine lv_dadd hx hb dX5_volumeNow_18 (fx_bd.add (kx_sum_bd (fun j => kx_area_bd2 (hb_sh (4 * j + 2))) i (by omega)) (kx_area_bd2 (hb_sh (4 * i + 2))) (by omega)).n ?_
        refine lv_dstore_n (lv' := [(1, .double (FP.dadd (kx_sum (fun j => kx_area (sh (4 * j + 2))) i) (kx_area (sh (4 * i + 2))))), (3, .int (nI i)), (0, .ref m0)]) hx hb dX5_volumeNow_19 rfl hl (by decide) rfl (fun ls hl => ?_)
        refine lv_iinc (v := nI (i + 1)) (lv' := [(3, .int (nI (i + 1))), (1, .double (FP.dadd (kx_sum (fun j => kx_area (sh (4 * j + 2))) i) (kx_area (sh (4 * i + 2))))), (0, .ref m0)]) hx hb dX5_volumeNow_20 hl (k := 1) rfl (by show _ + 1 = _; exact nI_1 _) (by decide) rfl (fun ls hl => ?_)
        refine lv_goto (tgt := 4) hx hb dX5_volumeNow_23 (by decide) ?_
        exact ih (i + 1) _ (by omega) rfl _ (lv_sub hl [0, 1, 2] rfl)
  exact loop_4 n 0 _ (by omega) rfl _ (lv_sub hl [0, 1, 2] rfl)
set_option maxHeartbeats 4000000 in
set_option maxRecDepth 100000 in
/-- TAPER -/
theorem c_X5_taperNow (l : Launch) (G : kx_G) (m0 : Nat) (m1 : Nat) (m2 : Nat) (m3 : Nat) (m4 : Nat) (m5 : Nat) (m6 : Nat) (m7 : Nat) (m8 : Nat) (m9 : Nat) (m10 : Nat) (m11 : Nat) (m12 : Nat) (n : Nat) (v : Nat) (tw : Int32) (ps : Nat → UInt64) (qs : Nat → UInt64) (th : Nat → Int32) (fr : Nat → UInt64) (to : Nat → UInt64) (kn : Int32) (ft : Nat) (fd : Nat → Int32) (sh : Nat → UInt64) (ru : Nat) (ki : Nat → Int32) (li : Nat → UInt64) (cl : Nat → Int32) (kp : Int32) (kx : Nat → UInt64) (ky : Nat → UInt64) (hb_ps : ∀ j, fx_bd 5 (ps j)) (hb_qs : ∀ j, fx_bd 5 (qs j)) (hb_fr : ∀ j, fx_bd 11 (fr j)) (hb_to : ∀ j, fx_bd 11 (to j)) (hb_sh : ∀ j, fx_bd 220 (sh j)) (hb_kx : ∀ j, fx_bd 130 (kx j)) (hb_ky : ∀ j, fx_bd 130 (ky j)) (hn1 : 1 ≤ n) (hn : n ≤ 16) : Met l yX5_taperNow wsX5_taperNow ({ frames := 0, cells := 0, slots := 0, locals := 0 } : Room) (kx_PR G [.ref m0] [(m0, .inr (6, [.int tw, .int (nI n), .int (nI v), .ref m1, .ref m2, .ref m3, .ref m4, .ref m5, .int kn, .int (nI ft), .ref m6, .ref m7, .int (nI ru), .ref m8, .ref m9, .ref m10, .int kp, .ref m11, .ref m12])), (m1, kx_aD G 8 ps), (m2, kx_aD G 8 qs), (m3, kx_aZ G 128 th), (m4, kx_aD G 128 fr), (m5, kx_aD G 128 to), (m6, kx_aZ G 16 fd), (m7, kx_aD G 64 sh), (m8, kx_aI G 6 ki), (m9, kx_aD G 6 li), (m10, kx_aI G 6 cl), (m11, kx_aD G 16 kx), (m12, kx_aD G 16 ky)]) (vp_Sd (fun r => r = kx_tap (fun j => sh (4 * j + 2)) n)) 0 0 (fun _ => False) := by
  refine Met.ofW (cc := cX5_taperNow) (maxL := 1) (ret := (some .double)) (by decide) rfl ?_
  intro p e s m args below meth c s₁ B hml hv
  obtain ⟨rfl, hP, hT⟩ := hv
  have hx := B.exec
  have hb := B.bytes
  have hr := B.returns
  have hts := atoms_spec (ws := wsX5_taperNow) B.pre
  have hown : s.vm.findClass RX5 = some m.cls := findClass_of_methodNamed B.named
  have hlocks := B.notSynchronized
  have hf_48 := hts (.fieldLink RX5 48 "StemShapesModel" "slices" "I") (by decide +kernel)
  have hin_X5 : ∀ w ∈ wsX50, w ∈ wsX5_taperNow := by decide +kernel
  have hf_29 := hts (.fieldLink RX5 29 "StemShapesModel" "shapes" "[D") (by decide +kernel)
  have hl := lv_entry ([.ref m0]) (n := 1) (Nat.le_of_ble_eq_true rfl)
  rw [lg_entry_eq]
  generalize (lg_sl ([.ref m0]) ++ List.replicate (1 - (lg_sl ([.ref m0])).length) Slot.unset).toArray = ls at hl ⊢
  have hl : lv_has ls 1 [(0, .ref m0)] := hl
  refine lv_aload_n hx hb dX5_taperNow_0 rfl (lv_at hl 0 rfl) ?_
  refine va_get (D := G.1) (ci := 6) (v := .int (nI n)) (C := RX5) (T := TX5) (N := 19) hx hb hts hin_X5 hown hT.1 hP 0 rfl rfl 1 (by decide) hf_48 (fun _ h9 => h9) rfl dX5_taperNow_1 ?_
  refine lv_iconst (v := 1) hx hb dX5_taperNow_4 (by decide) ?_
  refine lv_icmp_ne (x := nI n) (y := 1) (tgt := 12) hx hb dX5_taperNow_5 (by decide) (fun c_1 => ?_) (fun c_1 => ?_)
  · have c_1 : ¬ n = 1 := fun q => c_1 ((nI_eq (a := n) (b := 1) (by omega) (by omega)).mpr q)
    refine lv_aload_n hx hb dX5_taperNow_12 rfl (lv_at hl 0 rfl) ?_
    refine va_get (D := G.1) (ci := 6) (v := .ref m7) (C := RX5) (T := TX5) (N := 19) hx hb hts hin_X5 hown hT.1 hP 0 rfl rfl 11 (by decide) hf_29 (fun _ h9 => h9) rfl dX5_taperNow_13 ?_
    refine lv_iconst (v := 2) hx hb dX5_taperNow_16 (by decide) ?_
    refine kx_dald hx hb hT hP 7 rfl 2 (by omega) (by omega) dX5_taperNow_17 ?_
    refine lv_aload_n hx hb dX5_taperNow_18 rfl (lv_at hl 0 rfl) ?_
    refine va_get (D := G.1) (ci := 6) (v := .ref m7) (C := RX5) (T := TX5) (N := 19) hx hb hts hin_X5 hown hT.1 hP 0 rfl rfl 11 (by decide) hf_29 (fun _ h9 => h9) rfl dX5_taperNow_19 ?_
    refine lv_iconst (v := 4) hx hb dX5_taperNow_22 (by decide) ?_
    refine lv_aload_n hx hb dX5_taperNow_23 rfl (lv_at hl 0 rfl) ?_
    refine va_get (D := G.1) (ci := 6) (v := .int (nI n)) (C := RX5) (T := TX5) (N := 19) hx hb hts hin_X5 hown hT.1 hP 0 rfl rfl 1 (by decide) hf_48 (fun _ h9 => h9) rfl dX5_taperNow_24 ?_
    refine lv_imul hx hb dX5_taperNow_27 ?_
    refine kx_ei (y := nI (4 * n)) (pk_mul 4 n) ?_
    refine lv_iconst (v := 2) hx hb dX5_taperNow_28 (by decide) ?_
    refine lv_isub hx hb dX5_taperNow_29 ?_
    refine kx_ei (y := nI ((4 * n) - 2)) (pk_sub (a := 4 * n) (b := 2) (by omega)) ?_
    refine kx_dald hx hb hT hP 7 rfl ((4 * n) - 2) (by omega) (by omega) dX5_taperNow_30 ?_
    refine lv_dsub hx hb dX5_taperNow_31 (fx_bd.sub (hb_sh 2) (hb_sh ((4 * n) - 2)) (by omega)).n ?_
    refine lv_aload_n hx hb dX5_taperNow_32 rfl (lv_at hl 0 rfl) ?_
    refine va_get (D := G.1) (ci := 6) (v := .int (nI n)) (C := RX5) (T := TX5) (N := 19) hx hb hts hin_X5 hown hT.1 hP 0 rfl rfl 1 (by decide) hf_48 (fun _ h9 => h9) rfl dX5_taperNow_33 ?_
    refine lv_iconst (v := 1) hx hb dX5_taperNow_36 (by decide) ?_
    refine lv_isub hx hb dX5_taperNow_37 ?_
    refine kx_ei (y := nI (n - 1)) (pk_sub (a := n) (b := 1) (by omega)) ?_
    refine lv_i2d hx hb dX5_taperNow_38 ?_
    refine lv_ddiv hx hb dX5_taperNow_39 (fx_bd.div (fx_bd.sub (hb_sh 2) (hb_sh ((4 * n) - 2)) (by omega)) (fx_il (nI_ne0 (by omega) (by omega))) (by omega)).n ?_
    exact W.dret (v := FP.ddiv (FP.dsub (sh 2) (sh ((4 * n) - 2))) (FP.i2d (nI (n - 1)))) hx hb hr (fun t ht hW => ⟨FP.ddiv (FP.dsub (sh 2) (sh ((4 * n) - 2))) (FP.i2d (nI (n - 1))), rfl, (by unfold kx_tap; rw [if_neg c_1]; dsimp only; rw [show 4 * (n - 1) + 2 = 4 * n - 2 from by omega] <;> rfl), ht⟩) (fun _ h => nomatch h) dX5_taperNow_40
  · have c_1 : n = 1 := (nI_eq (a := n) (b := 1) (by omega) (by omega)).mp c_1
    refine lv_dconst0 hx hb dX5_taperNow_8 ?_
    refine lv_goto (tgt := 40) hx hb dX5_taperNow_9 (by decide) ?_
    exact W.dret (v := FP.dconst0) hx hb hr (fun t ht hW => ⟨FP.dconst0, rfl, (if_pos c_1).symm, ht⟩) (fun _ h => nomatch h) dX5_taperNow_40
set_option maxHeartbeats 4000000 in
set_option maxRecDepth 100000 in
/-- how far a slice is off -/
theorem c_X5_off (l : Launch) (G : kx_G) (m0 : Nat) (m1 : Nat) (m2 : Nat) (m3 : Nat) (m4 : Nat) (m5 : Nat) (m6 : Nat) (m7 : Nat) (m8 : Nat) (m9 : Nat) (m10 : Nat) (m11 : Nat) (m12 : Nat) (n : Nat) (v : Nat) (tw : Int32) (ps : Nat → UInt64) (qs : Nat → UInt64) (th : Nat → Int32) (fr : Nat → UInt64) (to : Nat → UInt64) (kn : Int32) (ft : Nat) (fd : Nat → Int32) (sh : Nat → UInt64) (ru : Nat) (ki : Nat → Int32) (li : Nat → UInt64) (cl : Nat → Int32) (kp : Int32) (kx : Nat → UInt64) (ky : Nat → UInt64) (i : Nat) (w : Nat) (hb_ps : ∀ j, fx_bd 5 (ps j)) (hb_qs : ∀ j, fx_bd 5 (qs j)) (hb_fr : ∀ j, fx_bd 11 (fr j)) (hb_to : ∀ j, fx_bd 11 (to j)) (hb_sh : ∀ j, fx_bd 220 (sh j)) (hb_kx : ∀ j, fx_bd 130 (kx j)) (hb_ky : ∀ j, fx_bd 130 (ky j)) (hn2 : 2 ≤ n) (hn : n ≤ 16) (hi : i < n) (hw : w < 2) : Met l yX5_off wsX5_off ({ frames := 0, cells := 0, slots := 0, locals := 0 } : Room) (kx_PR G [.ref m0, .int (nI i), .int (nI w)] [(m0, .inr (6, [.int tw, .int (nI n), .int (nI v), .ref m1, .ref m2, .ref m3, .ref m4, .ref m5, .int kn, .int (nI ft), .ref m6, .ref m7, .int (nI ru), .ref m8, .ref m9, .ref m10, .int kp, .ref m11, .ref m12])), (m1, kx_aD G 8 ps), (m2, kx_aD G 8 qs), (m3, kx_aZ G 128 th), (m4, kx_aD G 128 fr), (m5, kx_aD G 128 to), (m6, kx_aZ G 16 fd), (m7, kx_aD G 64 sh), (m8, kx_aI G 6 ki), (m9, kx_aD G 6 li), (m10, kx_aI G 6 cl), (m11, kx_aD G 16 kx), (m12, kx_aD G 16 ky)]) (vp_Sd (fun r => r = FP.dsub (sh (4 * i + w)) (kx_str (fun j => sh (4 * j + w)) n i))) 0 0 (fun _ => False) := by
  refine Met.ofW (cc := cX5_off) (maxL := 7) (ret := (some .double)) (by decide) rfl ?_
  intro p e s m args below meth c s₁ B hml hv
  obtain ⟨rfl, hP, hT⟩ := hv
  have hx := B.exec
  have hb := B.bytes
  have hr := B.returns
  have hts := atoms_spec (ws := wsX5_off) B.pre
  have hown : s.vm.findClass RX5 = some m.cls := findClass_of_methodNamed B.named
  have hlocks := B.notSynchronized
  have hf_29 := hts (.fieldLink RX5 29 "StemShapesModel" "shapes" "[D") (by decide +kernel)
  have hin_X5 : ∀ w ∈ wsX50, w ∈ wsX5_off := by decide +kernel
  have hf_48 := hts (.fieldLink RX5 48 "StemShapesModel" "slices" "I") (by decide +kernel)
  have hl := lv_entry ([.ref m0, .int (nI i), .int (nI w)]) (n := 7) (Nat.le_of_ble_eq_true rfl)
  rw [lg_entry_eq]
  generalize (lg_sl ([.ref m0, .int (nI i), .int (nI w)]) ++ List.replicate (7 - (lg_sl ([.ref m0, .int (nI i), .int (nI w)])).length) Slot.unset).toArray = ls at hl ⊢
  have hl : lv_has ls 7 [(0, .ref m0), (1, .int (nI i)), (2, .int (nI w))] := hl
  refine lv_aload_n hx hb dX5_off_0 rfl (lv_at hl 0 rfl) ?_
  refine va_get (D := G.1) (ci := 6) (v := .ref m7) (C := RX5) (T := TX5) (N := 19) hx hb hts hin_X5 hown hT.1 hP 0 rfl rfl 11 (by decide) hf_29 (fun _ h9 => h9) rfl dX5_off_1 ?_
  refine lv_iload_n hx hb dX5_off_4 rfl (lv_at hl 2 rfl) ?_
  refine kx_dald hx hb hT hP 7 rfl w (by omega) (by omega) dX5_off_5 ?_
  refine lv_dstore_n (lv' := [(3, .double (sh w)), (0, .ref m0), (1, .int (nI i)), (2, .int (nI w))]) hx hb dX5_off_6 rfl hl (by decide) rfl (fun ls hl => ?_)
  refine lv_dload_n hx hb dX5_off_7 rfl (lv_at hl 0 rfl) ?_
  refine lv_aload_n hx hb dX5_off_8 rfl (lv_at hl 1 rfl) ?_
  refine va_get (D := G.1) (ci := 6) (v := .ref m7) (C := RX5) (T := TX5) (N := 19) hx hb hts hin_X5 hown hT.1 hP 0 rfl rfl 11 (by decide) hf_29 (fun _ h9 => h9) rfl dX5_off_9 ?_
  refine lv_iconst (v := 4) hx hb dX5_off_12 (by decide) ?_
  refine lv_aload_n hx hb dX5_off_13 rfl (lv_at hl 1 rfl) ?_
  refine va_get (D := G.1) (ci := 6) (v := .int (nI n)) (C := RX5) (T := TX5) (N := 19) hx hb hts hin_X5 hown hT.1 hP 0 rfl rfl 1 (by decide) hf_48 (fun _ h9 => h9) rfl dX5_off_14 ?_
  refine lv_imul hx hb dX5_off_17 ?_
  refine kx_ei (y := nI (4 * n)) (pk_mul 4 n) ?_
  refine lv_iconst (v := 4) hx hb dX5_off_18 (by decide) ?_
  refine lv_isub hx hb dX5_off_19 ?_
  refine kx_ei (y := nI ((4 * n) - 4)) (pk_sub (a := 4 * n) (b := 4) (by omega)) ?_
  refine lv_iload_n hx hb dX5_off_20 rfl (lv_at hl 3 rfl) ?_
  refine lv_iadd hx hb dX5_off_21 ?_
  refine kx_ei (y := nI (((4 * n) - 4) + w)) (nI_add ((4 * n) - 4) w) ?_
  refine kx_dald hx hb hT hP 7 rfl (((4 * n) - 4) + w) (by omega) (by omega) dX5_off_22 ?_
  refine lv_dload_n hx hb dX5_off_23 rfl (lv_at hl 0 rfl) ?_
  refine lv_dsub hx hb dX5_off_24 (fx_bd.sub (hb_sh (((4 * n) - 4) + w)) (hb_sh w) (by omega)).n ?_
  refine lv_iload_n hx hb dX5_off_25 rfl (lv_at hl 2 rfl) ?_
  refine lv_i2d hx hb dX5_off_26 ?_
  refine lv_dmul hx hb dX5_off_27 (fx_bd.mul (fx_bd.sub (hb_sh (((4 * n) - 4) + w)) (hb_sh w) (by omega)) fx_i (by omega)).n ?_
  refine lv_aload_n hx hb dX5_off_28 rfl (lv_at hl 1 rfl) ?_
  refine va_get (D := G.1) (ci := 6) (v := .int (nI n)) (C := RX5) (T := TX5) (N := 19) hx hb hts hin_X5 hown hT.1 hP 0 rfl rfl 1 (by decide) hf_48 (fun _ h9 => h9) rfl dX5_off_29 ?_
  refine lv_iconst (v := 1) hx hb dX5_off_32 (by decide) ?_
  refine lv_isub hx hb dX5_off_33 ?_
  refine kx_ei (y := nI (n - 1)) (pk_sub (a := n) (b := 1) (by omega)) ?_
  refine lv_i2d hx hb dX5_off_34 ?_
  refine lv_ddiv hx hb dX5_off_35 (fx_bd.div (fx_bd.mul (fx_bd.sub (hb_sh (((4 * n) - 4) + w)) (hb_sh w) (by omega)) fx_i (by omega)) (fx_il (nI_ne0 (by omega) (by omega))) (by omega)).n ?_
  refine lv_dadd hx hb dX5_off_36 (fx_bd.add (hb_sh w) (fx_bd.div (fx_bd.mul (fx_bd.sub (hb_sh (((4 * n) - 4) + w)) (hb_sh w) (by omega)) fx_i (by omega)) (fx_il (nI_ne0 (by omega) (by omega))) (by omega)) (by omega)).n ?_
  refine lv_dstore (lv' := [(5, .double (FP.dadd (sh w) (FP.ddiv (FP.dmul (FP.dsub (sh (((4 * n) - 4) + w)) (sh w)) (FP.i2d (nI i))) (FP.i2d (nI (n - 1)))))), (3, .double (sh w)), (0, .ref m0), (1, .int (nI i)), (2, .int (nI w))]) hx hb dX5_off_37 hl (by decide) rfl (fun ls hl => ?_)
  refine lv_aload_n hx hb dX5_off_39 rfl (lv_at hl 2 rfl) ?_
  refine va_get (D := G.1) (ci := 6) (v := .ref m7) (C := RX5) (T := TX5) (N := 19) hx hb hts hin_X5 hown hT.1 hP 0 rfl rfl 11 (by decide) hf_29 (fun _ h9 => h9) rfl dX5_off_40 ?_
  refine lv_iconst (v := 4) hx hb dX5_off_43 (by decide) ?_
  refine lv_iload_n hx hb dX5_off_44 rfl (lv_at hl 3 rfl) ?_
  refine lv_imul hx hb dX5_off_45 ?_
  refine kx_ei (y := nI (4 * i)) (pk_mul 4 i) ?_
  refine lv_iload_n hx hb dX5_off_46 rfl (lv_at hl 4 rfl) ?_
  refine lv_iadd hx hb dX5_off_47 ?_
  refine kx_ei (y := nI ((4 * i) + w)) (nI_add (4 * i) w) ?_
  refine kx_dald hx hb hT hP 7 rfl ((4 * i) + w) (by omega) (by omega) dX5_off_48 ?_
  refine lv_dload hx hb dX5_off_49 (lv_at hl 0 rfl) ?_
  refine lv_dsub hx hb dX5_off_51 (fx_bd.sub (hb_sh ((4 * i) + w)) (fx_bd.add (hb_sh w) (fx_bd.div (fx_bd.mul (fx_bd.sub (hb_sh (((4 * n) - 4) + w)) (hb_sh w) (by omega)) fx_i (by omega)) (fx_il (nI_ne0 (by omega) (by omega))) (by omega)) (by omega)) (by omega)).n ?_
  exact W.dret (v := FP.dsub (sh ((4 * i) + w)) (FP.dadd (sh w) (FP.ddiv (FP.dmul (FP.dsub (sh (((4 * n) - 4) + w)) (sh w)) (FP.i2d (nI i))) (FP.i2d (nI (n - 1)))))) hx hb hr (fun t ht hW => ⟨FP.dsub (sh ((4 * i) + w)) (FP.dadd (sh w) (FP.ddiv (FP.dmul (FP.dsub (sh (((4 * n) - 4) + w)) (sh w)) (FP.i2d (nI i))) (FP.i2d (nI (n - 1))))), rfl, (by unfold kx_str kx_ln; dsimp only; rw [show 4 * (n - 1) + w = 4 * n - 4 + w from by omega, show 4 * 0 + w = w from by omega]), ht⟩) (fun _ h => nomatch h) dX5_off_52
set_option maxHeartbeats 4000000 in
set_option maxRecDepth 100000 in
/-- SWEEP -/
theorem c_X5_sweepNow (l : Launch) (G : kx_G) (m0 : Nat) (m1 : Nat) (m2 : Nat) (m3 : Nat) (m4 : Nat) (m5 : Nat) (m6 : Nat) (m7 : Nat) (m8 : Nat) (m9 : Nat) (m10 : Nat) (m11 : Nat) (m12 : Nat) (n : Nat) (v : Nat) (tw : Int32) (ps : Nat → UInt64) (qs : Nat → UInt64) (th : Nat → Int32) (fr : Nat → UInt64) (to : Nat → UInt64) (kn : Int32) (ft : Nat) (fd : Nat → Int32) (sh : Nat → UInt64) (ru : Nat) (ki : Nat → Int32) (li : Nat → UInt64) (cl : Nat → Int32) (kp : Int32) (kx : Nat → UInt64) (ky : Nat → UInt64) (hb_ps : ∀ j, fx_bd 5 (ps j)) (hb_qs : ∀ j, fx_bd 5 (qs j)) (hb_fr : ∀ j, fx_bd 11 (fr j)) (hb_to : ∀ j, fx_bd 11 (to j)) (hb_sh : ∀ j, fx_bd 220 (sh j)) (hb_kx : ∀ j, fx_bd 130 (kx j)) (hb_ky : ∀ j, fx_bd 130 (ky j)) (hn1 : 1 ≤ n) (hn : n ≤ 16) : Met l yX5_sweepNow wsX5_sweepNow ({ frames := 1, cells := 0, slots := 0, locals := 26 } : Room) (kx_PR G [.ref m0] [(m0, .inr (6, [.int tw, .int (nI n), .int (nI v), .ref m1, .ref m2, .ref m3, .ref m4, .ref m5, .int kn, .int (nI ft), .ref m6, .ref m7, .int (nI ru), .ref m8, .ref m9, .ref m10, .int kp, .ref m11, .ref m12])), (m1, kx_aD G 8 ps), (m2, kx_aD G 8 qs), (m3, kx_aZ G 128 th), (m4, kx_aD G 128 fr), (m5, kx_aD G 128 to), (m6, kx_aZ G 16 fd), (m7, kx_aD G 64 sh), (m8, kx_aI G 6 ki), (m9, kx_aD G 6 li), (m10, kx_aI G 6 cl), (m11, kx_aD G 16 kx), (m12, kx_aD G 16 ky)]) (vp_Sd (fun r => r = kx_swp (fun j => sh (4 * j)) (fun j => sh (4 * j + 1)) n)) 0 0 (fun _ => False) := by
  refine Met.ofW (cc := cX5_sweepNow) (maxL := 6) (ret := (some .double)) (by decide) rfl ?_
  intro p e s m args below meth c s₁ B hml hv
  obtain ⟨rfl, hP, hT⟩ := hv
  have hx := B.exec
  have hb := B.bytes
  have hr := B.returns
  have hts := atoms_spec (ws := wsX5_sweepNow) B.pre
  have hown : s.vm.findClass RX5 = some m.cls := findClass_of_methodNamed B.named
  have hlocks := B.notSynchronized
  have hf_48 := hts (.fieldLink RX5 48 "StemShapesModel" "slices" "I") (by decide +kernel)
  have hin_X5 : ∀ w ∈ wsX50, w ∈ wsX5_sweepNow := by decide +kernel
  have hl := lv_entry ([.ref m0]) (n := 6) (Nat.le_of_ble_eq_true rfl)
  rw [lg_entry_eq]
  generalize (lg_sl ([.ref m0]) ++ List.replicate (6 - (lg_sl ([.ref m0])).length) Slot.unset).toArray = ls at hl ⊢
  have hl : lv_has ls 6 [(0, .ref m0)] := hl
  refine lv_dconst0 hx hb dX5_sweepNow_0 ?_
  refine lv_dstore_n (lv' := [(1, .double FP.dconst0), (0, .ref m0)]) hx hb dX5_sweepNow_1 rfl hl (by decide) rfl (fun ls hl => ?_)
  refine lv_iconst (v := 0) hx hb dX5_sweepNow_2 (by decide) ?_
  refine lv_istore_n (lv' := [(3, .int 0), (1, .double FP.dconst0), (0, .ref m0)]) hx hb dX5_sweepNow_3 rfl hl (by decide) rfl (fun ls hl => ?_)
  have loop_4 : ∀ (k i : Nat) (a : UInt64), i + k = n → a = kx_max (kx_bend (fun j => sh (4 * j)) (fun j => sh (4 * j + 1)) n) i → (n = 1 → i = 0) → ∀ ls : Array Slot, lv_has ls 6 [(3, .int (nI i)), (1, .double a), (0, .ref m0)] → W p l e (headSpec wsX5_sweepNow ({ frames := 1, cells := 0, slots := 0, locals := 26 } : Room)).room s m [.ref m0].toArray below meth c s.heap [] 0 0 (MQ below (vp_Sd (fun r => r = kx_swp (fun j => sh (4 * j)) (fun j => sh (4 * j + 1)) n)) [.ref m0].toArray s 0 0 (fun _ => False)) (F0 m 4 ls []) := by
    intro k
    induction k with
    | zero =>
      intro i a htot e_a hi1 ls hl
      subst e_a
      refine lv_iload_n hx hb dX5_sweepNow_4 rfl (lv_at hl 0 rfl) ?_
      refine lv_aload_n hx hb dX5_sweepNow_5 rfl (lv_at hl 2 rfl) ?_
      refine va_get (D := G.1) (ci := 6) (v := .int (nI n)) (C := RX5) (T := TX5) (N := 19) hx hb hts hin_X5 hown hT.1 hP 0 rfl rfl 1 (by decide) hf_48 (fun _ h9 => h9) rfl dX5_sweepNow_6 ?_
      refine lv_icmp_ge (x := nI i) (y := nI n) (tgt := 69) hx hb dX5_sweepNow_9 (by decide) (fun c_1 => ?_) (fun c_1 => ?_)
      · have c_1 : n ≤ i := (nI_leI (a := n) (b := i) (by omega) (by omega)).mp c_1
        refine lv_dload_n hx hb dX5_sweepNow_69 rfl (lv_at hl 1 rfl) ?_
        exact W.dret (v := kx_max (kx_bend (fun j => sh (4 * j)) (fun j => sh (4 * j + 1)) n) i) hx hb hr (fun t ht hW => ⟨kx_max (kx_bend (fun j => sh (4 * j)) (fun j => sh (4 * j + 1)) n) i, rfl, (by rw [show i = n from by omega]; exact (kx_swp_n hn1).symm), ht⟩) (fun _ h => nomatch h) dX5_sweepNow_70
      · have c_1 : ¬ n ≤ i := fun q => c_1 ((nI_leI (a := n) (b := i) (by omega) (by omega)).mpr q)
        exfalso; omega
    | succ k ih =>
      intro i a htot e_a hi1 ls hl
      subst e_a
      refine lv_iload_n hx hb dX5_sweepNow_4 rfl (lv_at hl 0 rfl) ?_
      refine lv_aload_n hx hb dX5_sweepNow_5 rfl (lv_at hl 2 rfl) ?_
      refine va_get (D := G.1) (ci := 6) (v := .int (nI n)) (C := RX5) (T := TX5) (N := 19) hx hb hts hin_X5 hown hT.1 hP 0 rfl rfl 1 (by decide) hf_48 (fun _ h9 => h9) rfl dX5_sweepNow_6 ?_
      refine lv_icmp_ge (x := nI i) (y := nI n) (tgt := 69) hx hb dX5_sweepNow_9 (by decide) (fun c_2 => ?_) (fun c_2 => ?_)
      · have c_2 : n ≤ i := (nI_leI (a := n) (b := i) (by omega) (by omega)).mp c_2
        exfalso; omega
      · have c_2 : ¬ n ≤ i := fun q => c_2 ((nI_leI (a := n) (b := i) (by omega) (by omega)).mpr q)
        refine lv_aload_n hx hb dX5_sweepNow_12 rfl (lv_at hl 2 rfl) ?_
        refine va_get (D := G.1) (ci := 6) (v := .int (nI n)) (C := RX5) (T := TX5) (N := 19) hx hb hts hin_X5 hown hT.1 hP 0 rfl rfl 1 (by decide) hf_48 (fun _ h9 => h9) rfl dX5_sweepNow_13 ?_
        refine lv_iconst (v := 1) hx hb dX5_sweepNow_16 (by decide) ?_
        refine lv_icmp_le (x := nI n) (y := 1) (tgt := 69) hx hb dX5_sweepNow_17 (by decide) (fun c_3 => ?_) (fun c_3 => ?_)
        · have c_3 : n ≤ 1 := (nI_leI (a := n) (b := 1) (by omega) (by omega)).mp c_3
          refine lv_dload_n hx hb dX5_sweepNow_69 rfl (lv_at hl 1 rfl) ?_
          exact W.dret (v := kx_max (kx_bend (fun j => sh (4 * j)) (fun j => sh (4 * j + 1)) n) i) hx hb hr (fun t ht hW => ⟨kx_max (kx_bend (fun j => sh (4 * j)) (fun j => sh (4 * j + 1)) n) i, rfl, (by rw [kx_swp_1 (by omega), show i = 0 from by omega]; rfl), ht⟩) (fun _ h => nomatch h) dX5_sweepNow_70
        · have c_3 : ¬ n ≤ 1 := fun q => c_3 ((nI_leI (a := n) (b := 1) (by omega) (by omega)).mpr q)
          refine lv_aload_n hx hb dX5_sweepNow_20 rfl (lv_at hl 2 rfl) ?_
          refine lv_iload_n hx hb dX5_sweepNow_21 rfl (lv_at hl 0 rfl) ?_
          refine lv_iconst (v := 0) hx hb dX5_sweepNow_22 (by decide) ?_
          refine vp_callSd (W.runV (As := [.int (nI i), .int 0]) (rest := []) ⟨hx, hb, hml, hown, hts⟩ (c_X5_off l G (m0 := m0) (m1 := m1) (m2 := m2) (m3 := m3) (m4 := m4) (m5 := m5) (m6 := m6) (m7 := m7) (m8 := m8) (m9 := m9) (m10 := m10) (m11 := m11) (m12 := m12) (n := n) (v := v) (tw := tw) (ps := ps) (qs := qs) (th := th) (fr := fr) (to := to) (kn := kn) (ft := ft) (fd := fd) (sh := sh) (ru := ru) (ki := ki) (li := li) (cl := cl) (kp := kp) (kx := kx) (ky := ky) (i := i) (w := 0) (hb_ps := hb_ps) (hb_qs := hb_qs) (hb_fr := hb_fr) (hb_to := hb_to) (hb_sh := hb_sh) (hb_kx := hb_kx) (hb_ky := hb_ky) (hn2 := (by omega)) (hn := (by omega)) (hi := (by omega)) (hw := (by omega))) (cwV 2 hts gX5_sweepNow_X5_off rfl rfl rfl (by decide +kernel) ⟨Nat.le_of_ble_eq_true rfl, Nat.le_of_ble_eq_true rfl⟩) ⟨kx_PRb, va_recv hT.1 hP (ci := 6) (q0 := 0) rfl rfl, kx_pr hT hP [0, 1, 2, 3, 4, 5, 6, 7, 8, 9, 10, 11, 12] rfl⟩ rfl rfl hl.1 rfl (lv_room (Nat.le_of_ble_eq_true rfl)) dX5_sweepNow_23 ⟨Nat.zero_le _, Nat.zero_le _⟩) (fun r_4 hw_5 => ?_)
          subst hw_5
          refine lv_aload_n hx hb dX5_sweepNow_26 rfl (lv_at hl 2 rfl) ?_
          refine lv_iload_n hx hb dX5_sweepNow_27 rfl (lv_at hl 0 rfl) ?_
          refine lv_iconst (v := 0) hx hb dX5_sweepNow_28 (by decide) ?_
          refine vp_callSd (W.runV (As := [.int (nI i), .int 0]) (rest := [.double (FP.dsub (sh (4 * i + 0)) (kx_str (fun j => sh (4 * j + 0)) n i))]) ⟨hx, hb, hml, hown, hts⟩ (c_X5_off l G (m0 := m0) (m1 := m1) (m2 := m2) (m3 := m3) (m4 := m4) (m5 := m5) (m6 := m6) (m7 := m7) (m8 := m8) (m9 := m9) (m10 := m10) (m11 := m11) (m12 := m12) (n := n) (v := v) (tw := tw) (ps := ps) (qs := qs) (th := th) (fr := fr) (to := to) (kn := kn) (ft := ft) (fd := fd) (sh := sh) (ru := ru) (ki := ki) (li := li) (cl := cl) (kp := kp) (kx := kx) (ky := ky) (i := i) (w := 0) (hb_ps := hb_ps) (hb_qs := hb_qs) (hb_fr := hb_fr) (hb_to := hb_to) (hb_sh := hb_sh) (hb_kx := hb_kx) (hb_ky := hb_ky) (hn2 := (by omega)) (hn := (by omega)) (hi := (by omega)) (hw := (by omega))) (cwV 2 hts gX5_sweepNow_X5_off rfl rfl rfl (by decide +kernel) ⟨Nat.le_of_ble_eq_true rfl, Nat.le_of_ble_eq_true rfl⟩) ⟨kx_PRb, va_recv hT.1 hP (ci := 6) (q0 := 0) rfl rfl, kx_pr hT hP [0, 1, 2, 3, 4, 5, 6, 7, 8, 9, 10, 11, 12] rfl⟩ rfl rfl hl.1 rfl (lv_room (Nat.le_of_ble_eq_true rfl)) dX5_sweepNow_29 ⟨Nat.zero_le _, Nat.zero_le _⟩) (fun r_6 hw_7 => ?_)
          subst hw_7
          refine lv_dmul hx hb dX5_sweepNow_32 (fx_bd.mul (kx_off_bd hb_sh (by omega) (by omega)) (kx_off_bd hb_sh (by omega) (by omega)) (by omega)).n ?_
          refine lv_aload_n hx hb dX5_sweepNow_33 rfl (lv_at hl 2 rfl) ?_
          refine lv_iload_n hx hb dX5_sweepNow_34 rfl (lv_at hl 0 rfl) ?_
          refine lv_iconst (v := 1) hx hb dX5_sweepNow_35 (by decide) ?_
          refine vp_callSd (W.runV (As := [.int (nI i), .int 1]) (rest := [.double (FP.dmul (FP.dsub (sh (4 * i + 0)) (kx_str (fun j => sh (4 * j + 0)) n i)) (FP.dsub (sh (4 * i + 0)) (kx_str (fun j => sh (4 * j + 0)) n i)))]) ⟨hx, hb, hml, hown, hts⟩ (c_X5_off l G (m0 := m0) (m1 := m1) (m2 := m2) (m3 := m3) (m4 := m4) (m5 := m5) (m6 := m6) (m7 := m7) (m8 := m8) (m9 := m9) (m10 := m10) (m11 := m11) (m12 := m12) (n := n) (v := v) (tw := tw) (ps := ps) (qs := qs) (th := th) (fr := fr) (to := to) (kn := kn) (ft := ft) (fd := fd) (sh := sh) (ru := ru) (ki := ki) (li := li) (cl := cl) (kp := kp) (kx := kx) (ky := ky) (i := i) (w := 1) (hb_ps := hb_ps) (hb_qs := hb_qs) (hb_fr := hb_fr) (hb_to := hb_to) (hb_sh := hb_sh) (hb_kx := hb_kx) (hb_ky := hb_ky) (hn2 := (by omega)) (hn := (by omega)) (hi := (by omega)) (hw := (by omega))) (cwV 2 hts gX5_sweepNow_X5_off rfl rfl rfl (by decide +kernel) ⟨Nat.le_of_ble_eq_true rfl, Nat.le_of_ble_eq_true rfl⟩) ⟨kx_PRb, va_recv hT.1 hP (ci := 6) (q0 := 0) rfl rfl, kx_pr hT hP [0, 1, 2, 3, 4, 5, 6, 7, 8, 9, 10, 11, 12] rfl⟩ rfl rfl hl.1 rfl (lv_room (Nat.le_of_ble_eq_true rfl)) dX5_sweepNow_36 ⟨Nat.zero_le _, Nat.zero_le _⟩) (fun r_8 hw_9 => ?_)
          subst hw_9
          refine lv_aload_n hx hb dX5_sweepNow_39 rfl (lv_at hl 2 rfl) ?_
          refine lv_iload_n hx hb dX5_sweepNow_40 rfl (lv_at hl 0 rfl) ?_
          refine lv_iconst (v := 1) hx hb dX5_sweepNow_41 (by decide) ?_
          refine vp_callSd (W.runV (As := [.int (nI i), .int 1]) (rest := [.double (FP.dsub (sh (4 * i + 1)) (kx_str (fun j => sh (4 * j + 1)) n i)), .double (FP.dmul (FP.dsub (sh (4 * i + 0)) (kx_str (fun j => sh (4 * j + 0)) n i)) (FP.dsub (sh (4 * i + 0)) (kx_str (fun j => sh (4 * j + 0)) n i)))]) ⟨hx, hb, hml, hown, hts⟩ (c_X5_off l G (m0 := m0) (m1 := m1) (m2 := m2) (m3 := m3) (m4 := m4) (m5 := m5) (m6 := m6) (m7 := m7) (m8 := m8) (m9 := m9) (m10 := m10) (m11 := m11) (m12 := m12) (n := n) (v := v) (tw := tw) (ps := ps) (qs := qs) (th := th) (fr := fr) (to := to) (kn := kn) (ft := ft) (fd := fd) (sh := sh) (ru := ru) (ki := ki) (li := li) (cl := cl) (kp := kp) (kx := kx) (ky := ky) (i := i) (w := 1) (hb_ps := hb_ps) (hb_qs := hb_qs) (hb_fr := hb_fr) (hb_to := hb_to) (hb_sh := hb_sh) (hb_kx := hb_kx) (hb_ky := hb_ky) (hn2 := (by omega)) (hn := (by omega)) (hi := (by omega)) (hw := (by omega))) (cwV 2 hts gX5_sweepNow_X5_off rfl rfl rfl (by decide +kernel) ⟨Nat.le_of_ble_eq_true rfl, Nat.le_of_ble_eq_true rfl⟩) ⟨kx_PRb, va_recv hT.1 hP (ci := 6) (q0 := 0) rfl rfl, kx_pr hT hP [0, 1, 2, 3, 4, 5, 6, 7, 8, 9, 10, 11, 12] rfl⟩ rfl rfl hl.1 rfl (lv_room (Nat.le_of_ble_eq_true rfl)) dX5_sweepNow_42 ⟨Nat.zero_le _, Nat.zero_le _⟩) (fun r_10 hw_11 => ?_)
          subst hw_11
          refine lv_dmul hx hb dX5_sweepNow_45 (fx_bd.mul (kx_off_bd hb_sh (by omega) (by omega)) (kx_off_bd hb_sh (by omega) (by omega)) (by omega)).n ?_
          refine lv_dadd hx hb dX5_sweepNow_46 (fx_bd.add (fx_bd.mul (kx_off_bd hb_sh (by omega) (by omega)) (kx_off_bd hb_sh (by omega) (by omega)) (by omega)) (fx_bd.mul (kx_off_bd hb_sh (by omega) (by omega)) (kx_off_bd hb_sh (by omega) (by omega)) (by omega)) (by omega)).n ?_
          refine lv_dstore (lv' := [(4, .double (FP.dadd (FP.dmul (FP.dsub (sh (4 * i + 0)) (kx_str (fun j => sh (4 * j + 0)) n i)) (FP.dsub (sh (4 * i + 0)) (kx_str (fun j => sh (4 * j + 0)) n i))) (FP.dmul (FP.dsub (sh (4 * i + 1)) (kx_str (fun j => sh (4 * j + 1)) n i)) (FP.dsub (sh (4 * i + 1)) (kx_str (fun j => sh (4 * j + 1)) n i))))), (3, .int (nI i)), (1, .double (kx_max (kx_bend (fun j => sh (4 * j)) (fun j => sh (4 * j + 1)) n) i)), (0, .ref m0)]) hx hb dX5_sweepNow_47 hl (by decide) rfl (fun ls hl => ?_)
          refine lv_dload hx hb dX5_sweepNow_49 (lv_at hl 0 rfl) ?_
          refine lv_dload_n hx hb dX5_sweepNow_51 rfl (lv_at hl 2 rfl) ?_
          refine kx_dgt (tgt := 61) hx hb dX5_sweepNow_52 dX5_sweepNow_53 (by decide) (fun c_12 => ?_) (fun c_12 => ?_)
          · refine lv_dload_n hx hb dX5_sweepNow_61 rfl (lv_at hl 2 rfl) ?_
            refine lv_dstore_n (lv' := [(1, .double (kx_max (kx_bend (fun j => sh (4 * j)) (fun j => sh (4 * j + 1)) n) i)), (4, .double (FP.dadd (FP.dmul (FP.dsub (sh (4 * i + 0)) (kx_str (fun j => sh (4 * j + 0)) n i)) (FP.dsub (sh (4 * i + 0)) (kx_str (fun j => sh (4 * j + 0)) n i))) (FP.dmul (FP.dsub (sh (4 * i + 1)) (kx_str (fun j => sh (4 * j + 1)) n i)) (FP.dsub (sh (4 * i + 1)) (kx_str (fun j => sh (4 * j + 1)) n i))))), (3, .int (nI i)), (0, .ref m0)]) hx hb dX5_sweepNow_62 rfl hl (by decide) rfl (fun ls hl => ?_)
            refine lv_iinc (v := nI (i + 1)) (lv' := [(3, .int (nI (i + 1))), (1, .double (kx_max (kx_bend (fun j => sh (4 * j)) (fun j => sh (4 * j + 1)) n) i)), (4, .double (FP.dadd (FP.dmul (FP.dsub (sh (4 * i + 0)) (kx_str (fun j => sh (4 * j + 0)) n i)) (FP.dsub (sh (4 * i + 0)) (kx_str (fun j => sh (4 * j + 0)) n i))) (FP.dmul (FP.dsub (sh (4 * i + 1)) (kx_str (fun j => sh (4 * j + 1)) n i)) (FP.dsub (sh (4 * i + 1)) (kx_str (fun j => sh (4 * j + 1)) n i))))), (0, .ref m0)]) hx hb dX5_sweepNow_63 hl (k := 2) rfl (by show _ + 1 = _; exact nI_1 _) (by decide) rfl (fun ls hl => ?_)
            refine lv_goto (tgt := 4) hx hb dX5_sweepNow_66 (by decide) ?_
            exact ih (i + 1) _ (by omega) ((kx_max_f (g := kx_bend (fun j => sh (4 * j)) (fun j => sh (4 * j + 1)) n) c_12).symm) (by omega) _ (lv_sub hl [0, 1, 3] rfl)
          · refine lv_dload hx hb dX5_sweepNow_56 (lv_at hl 0 rfl) ?_
            refine lv_goto (tgt := 62) hx hb dX5_sweepNow_58 (by decide) ?_
            refine lv_dstore_n (lv' := [(1, .double (FP.dadd (FP.dmul (FP.dsub (sh (4 * i + 0)) (kx_str (fun j => sh (4 * j + 0)) n i)) (FP.dsub (sh (4 * i + 0)) (kx_str (fun j => sh (4 * j + 0)) n i))) (FP.dmul (FP.dsub (sh (4 * i + 1)) (kx_str (fun j => sh (4 * j + 1)) n i)) (FP.dsub (sh (4 * i + 1)) (kx_str (fun j => sh (4 * j + 1)) n i))))), (4, .double (FP.dadd (FP.dmul (FP.dsub (sh (4 * i + 0)) (kx_str (fun j => sh (4 * j + 0)) n i)) (FP.dsub (sh (4 * i + 0)) (kx_str (fun j => sh (4 * j + 0)) n i))) (FP.dmul (FP.dsub (sh (4 * i + 1)) (kx_str (fun j => sh (4 * j + 1)) n i)) (FP.dsub (sh (4 * i + 1)) (kx_str (fun j => sh (4 * j + 1)) n i))))), (3, .int (nI i)), (0, .ref m0)]) hx hb dX5_sweepNow_62 rfl hl (by decide) rfl (fun ls hl => ?_)
            refine lv_iinc (v := nI (i + 1)) (lv' := [(3, .int (nI (i + 1))), (1, .double (FP.dadd (FP.dmul (FP.dsub (sh (4 * i + 0)) (kx_str (fun j => sh (4 * j + 0)) n i)) (FP.dsub (sh (4 * i + 0)) (kx_str (fun j => sh (4 * j + 0)) n i))) (FP.dmul (FP.dsub (sh (4 * i + 1)) (kx_str (fun j => sh (4 * j + 1)) n i)) (FP.dsub (sh (4 * i + 1)) (kx_str (fun j => sh (4 * j + 1)) n i))))), (4, .double (FP.dadd (FP.dmul (FP.dsub (sh (4 * i + 0)) (kx_str (fun j => sh (4 * j + 0)) n i)) (FP.dsub (sh (4 * i + 0)) (kx_str (fun j => sh (4 * j + 0)) n i))) (FP.dmul (FP.dsub (sh (4 * i + 1)) (kx_str (fun j => sh (4 * j + 1)) n i)) (FP.dsub (sh (4 * i + 1)) (kx_str (fun j => sh (4 * j + 1)) n i))))), (0, .ref m0)]) hx hb dX5_sweepNow_63 hl (k := 2) rfl (by show _ + 1 = _; exact nI_1 _) (by decide) rfl (fun ls hl => ?_)
            refine lv_goto (tgt := 4) hx hb dX5_sweepNow_66 (by decide) ?_
            exact ih (i + 1) _ (by omega) ((kx_max_t (g := kx_bend (fun j => sh (4 * j)) (fun j => sh (4 * j + 1)) n) c_12).symm) (by omega) _ (lv_sub hl [0, 1, 3] rfl)
  exact loop_4 n 0 _ (by omega) rfl (fun _ => rfl) _ (lv_sub hl [0, 1, 2] rfl)
set_option maxHeartbeats 4000000 in
set_option maxRecDepth 100000 in
/-- whether a rule holds -/
theorem c_X5_holds (l : Launch) (G : kx_G) (m0 : Nat) (m1 : Nat) (m2 : Nat) (m3 : Nat) (m4 : Nat) (m5 : Nat) (m6 : Nat) (m7 : Nat) (m8 : Nat) (m9 : Nat) (m10 : Nat) (m11 : Nat) (m12 : Nat) (n : Nat) (v : Nat) (tw : Int32) (ps : Nat → UInt64) (qs : Nat → UInt64) (th : Nat → Int32) (fr : Nat → UInt64) (to : Nat → UInt64) (kn : Int32) (ft : Nat) (fd : Nat → Int32) (sh : Nat → UInt64) (ru : Nat) (ki : Nat → Int32) (li : Nat → UInt64) (cl : Nat → Int32) (kp : Int32) (kx : Nat → UInt64) (ky : Nat → UInt64) (k9 : Nat) (hb_ps : ∀ j, fx_bd 5 (ps j)) (hb_qs : ∀ j, fx_bd 5 (qs j)) (hb_fr : ∀ j, fx_bd 11 (fr j)) (hb_to : ∀ j, fx_bd 11 (to j)) (hb_sh : ∀ j, fx_bd 220 (sh j)) (hb_kx : ∀ j, fx_bd 130 (kx j)) (hb_ky : ∀ j, fx_bd 130 (ky j)) (hn1 : 1 ≤ n) (hn : n ≤ 16) (hv1 : 1 ≤ v) (hv : v ≤ 8) (hft : ft ≤ 16) (hru : ru ≤ 6) (hk : k9 < 6) (hfn : ft ≤ n) : Met l yX5_holds wsX5_holds ({ frames := 2, cells := 0, slots := 0, locals := 51 } : Room) (kx_PR G [.ref m0, .int (nI k9)] [(m0, .inr (6, [.int tw, .int (nI n), .int (nI v), .ref m1, .ref m2, .ref m3, .ref m4, .ref m5, .int kn, .int (nI ft), .ref m6, .ref m7, .int (nI ru), .ref m8, .ref m9, .ref m10, .int kp, .ref m11, .ref m12])), (m1, kx_aD G 8 ps), (m2, kx_aD G 8 qs), (m3, kx_aZ G 128 th), (m4, kx_aD G 128 fr), (m5, kx_aD G 128 to), (m6, kx_aZ G 16 fd), (m7, kx_aD G 64 sh), (m8, kx_aI G 6 ki), (m9, kx_aD G 6 li), (m10, kx_aI G 6 cl), (m11, kx_aD G 16 kx), (m12, kx_aD G 16 ky)]) (vp_Si (fun r => r = kx_hd (fun j => sh (4 * j)) (fun j => sh (4 * j + 1)) (fun j => sh (4 * j + 2)) n (nI (n - ft)) (ki k9) (li k9))) 0 0 (fun _ => False) := by
  refine Met.ofW (cc := cX5_holds) (maxL := 5) (ret := (some .boolean)) (by decide) rfl ?_
  intro p e s m args below meth c s₁ B hml hv
  obtain ⟨rfl, hP, hT⟩ := hv
  have hx := B.exec
  have hb := B.bytes
  have hr := B.returns
  have hts := atoms_spec (ws := wsX5_holds) B.pre
  have hown : s.vm.findClass RX5 = some m.cls := findClass_of_methodNamed B.named
  have hlocks := B.notSynchronized
  have hf_32 := hts (.fieldLink RX5 32 "StemShapesModel" "kinds" "[I") (by decide +kernel)
  have hin_X5 : ∀ w ∈ wsX50, w ∈ wsX5_holds := by decide +kernel
  have hf_36 := hts (.fieldLink RX5 36 "StemShapesModel" "limits" "[D") (by decide +kernel)
  have hf_48 := hts (.fieldLink RX5 48 "StemShapesModel" "slices" "I") (by decide +kernel)
  have hf_101 := hts (.fieldLink RX5 101 "StemShapesModel" "fits" "I") (by decide +kernel)
  have hf_29 := hts (.fieldLink RX5 29 "StemShapesModel" "shapes" "[D") (by decide +kernel)
  have hl := lv_entry ([.ref m0, .int (nI k9)]) (n := 5) (Nat.le_of_ble_eq_true rfl)
  rw [lg_entry_eq]
  generalize (lg_sl ([.ref m0, .int (nI k9)]) ++ List.replicate (5 - (lg_sl ([.ref m0, .int (nI k9)])).length) Slot.unset).toArray = ls at hl ⊢
  have hl : lv_has ls 5 [(0, .ref m0), (1, .int (nI k9))] := hl
  refine lv_aload_n hx hb dX5_holds_0 rfl (lv_at hl 0 rfl) ?_
  refine va_get (D := G.1) (ci := 6) (v := .ref m8) (C := RX5) (T := TX5) (N := 19) hx hb hts hin_X5 hown hT.1 hP 0 rfl rfl 13 (by decide) hf_32 (fun _ h9 => h9) rfl dX5_holds_1 ?_
  refine lv_iload_n hx hb dX5_holds_4 rfl (lv_at hl 1 rfl) ?_
  refine kx_iald hx hb hT hP 8 rfl k9 (by omega) (by omega) dX5_holds_5 ?_
  refine lv_istore_n (lv' := [(2, .int (ki k9)), (0, .ref m0), (1, .int (nI k9))]) hx hb dX5_holds_6 rfl hl (by decide) rfl (fun ls hl => ?_)
  refine lv_aload_n hx hb dX5_holds_7 rfl (lv_at hl 1 rfl) ?_
  refine va_get (D := G.1) (ci := 6) (v := .ref m9) (C := RX5) (T := TX5) (N := 19) hx hb hts hin_X5 hown hT.1 hP 0 rfl rfl 14 (by decide) hf_36 (fun _ h9 => h9) rfl dX5_holds_8 ?_
  refine lv_iload_n hx hb dX5_holds_11 rfl (lv_at hl 2 rfl) ?_
  refine kx_dald hx hb hT hP 9 rfl k9 (by omega) (by omega) dX5_holds_12 ?_
  refine lv_dstore_n (lv' := [(3, .double (li k9)), (2, .int (ki k9)), (0, .ref m0), (1, .int (nI k9))]) hx hb dX5_holds_13 rfl hl (by decide) rfl (fun ls hl => ?_)
  refine lv_iload_n hx hb dX5_holds_14 rfl (lv_at hl 1 rfl) ?_
  refine lv_if_ne (x := ki k9) (tgt := 35) hx hb dX5_holds_15 (by decide) (fun c_1 => ?_) (fun c_1 => ?_)
  · refine lv_iload_n hx hb dX5_holds_35 rfl (lv_at hl 1 rfl) ?_
    refine lv_iconst (v := 1) hx hb dX5_holds_36 (by decide) ?_
    refine lv_icmp_ne (x := ki k9) (y := 1) (tgt := 57) hx hb dX5_holds_37 (by decide) (fun c_2 => ?_) (fun c_2 => ?_)
    · refine lv_iload_n hx hb dX5_holds_57 rfl (lv_at hl 1 rfl) ?_
      refine lv_iconst (v := 2) hx hb dX5_holds_58 (by decide) ?_
      refine lv_icmp_ne (x := ki k9) (y := 2) (tgt := 88) hx hb dX5_holds_59 (by decide) (fun c_3 => ?_) (fun c_3 => ?_)
      · refine lv_iload_n hx hb dX5_holds_88 rfl (lv_at hl 1 rfl) ?_
        refine lv_iconst (v := 3) hx hb dX5_holds_89 (by decide) ?_
        refine lv_icmp_ne (x := ki k9) (y := 3) (tgt := 110) hx hb dX5_holds_90 (by decide) (fun c_4 => ?_) (fun c_4 => ?_)
        · refine lv_aload_n hx hb dX5_holds_110 rfl (lv_at hl 2 rfl) ?_
          refine va_get (D := G.1) (ci := 6) (v := .int (nI n)) (C := RX5) (T := TX5) (N := 19) hx hb hts hin_X5 hown hT.1 hP 0 rfl rfl 1 (by decide) hf_48 (fun _ h9 => h9) rfl dX5_holds_111 ?_
          refine lv_aload_n hx hb dX5_holds_114 rfl (lv_at hl 2 rfl) ?_
          refine va_get (D := G.1) (ci := 6) (v := .int (nI ft)) (C := RX5) (T := TX5) (N := 19) hx hb hts hin_X5 hown hT.1 hP 0 rfl rfl 9 (by decide) hf_101 (fun _ h9 => h9) rfl dX5_holds_115 ?_
          refine lv_isub hx hb dX5_holds_118 ?_
          refine kx_ei (y := nI (n - ft)) (pk_sub (a := n) (b := ft) (by omega)) ?_
          refine lv_i2d hx hb dX5_holds_119 ?_
          refine lv_dload_n hx hb dX5_holds_120 rfl (lv_at hl 0 rfl) ?_
          refine kx_dle (tgt := 129) hx hb dX5_holds_121 dX5_holds_122 (by decide) (fun c_5 => ?_) (fun c_5 => ?_)
          · refine lv_iconst (v := 0) hx hb dX5_holds_129 (by decide) ?_
            exact W.zret (v := 0) hx hb hr rfl (fun t ht hW => ⟨0, rfl, (by unfold kx_hd; rw [if_neg c_1, if_neg c_2, if_neg c_3, if_neg c_4]; exact (if_neg c_5).symm), ht⟩) (fun _ h => nomatch h) dX5_holds_130
          · refine lv_iconst (v := 1) hx hb dX5_holds_125 (by decide) ?_
            refine lv_goto (tgt := 130) hx hb dX5_holds_126 (by decide) ?_
            exact W.zret (v := 1) hx hb hr rfl (fun t ht hW => ⟨1, rfl, (by unfold kx_hd; rw [if_neg c_1, if_neg c_2, if_neg c_3, if_neg c_4]; exact (if_pos c_5).symm), ht⟩) (fun _ h => nomatch h) dX5_holds_130
        · refine lv_aload_n hx hb dX5_holds_93 rfl (lv_at hl 2 rfl) ?_
          refine vp_callSd (W.runV (As := []) (rest := []) ⟨hx, hb, hml, hown, hts⟩ (c_X5_volumeNow l G (m0 := m0) (m1 := m1) (m2 := m2) (m3 := m3) (m4 := m4) (m5 := m5) (m6 := m6) (m7 := m7) (m8 := m8) (m9 := m9) (m10 := m10) (m11 := m11) (m12 := m12) (n := n) (v := v) (tw := tw) (ps := ps) (qs := qs) (th := th) (fr := fr) (to := to) (kn := kn) (ft := ft) (fd := fd) (sh := sh) (ru := ru) (ki := ki) (li := li) (cl := cl) (kp := kp) (kx := kx) (ky := ky) (hb_ps := hb_ps) (hb_qs := hb_qs) (hb_fr := hb_fr) (hb_to := hb_to) (hb_sh := hb_sh) (hb_kx := hb_kx) (hb_ky := hb_ky) (hn1 := (by omega)) (hn := (by omega))) (cwV 0 hts gX5_holds_X5_volumeNow rfl rfl rfl (by decide +kernel) ⟨Nat.le_of_ble_eq_true rfl, Nat.le_of_ble_eq_true rfl⟩) ⟨kx_PRb, va_recv hT.1 hP (ci := 6) (q0 := 0) rfl rfl, kx_pr hT hP [0, 1, 2, 3, 4, 5, 6, 7, 8, 9, 10, 11, 12] rfl⟩ rfl rfl hl.1 rfl (lv_room (Nat.le_of_ble_eq_true rfl)) dX5_holds_94 ⟨Nat.zero_le _, Nat.zero_le _⟩) (fun r_6 hw_7 => ?_)
          subst hw_7
          refine lv_dload_n hx hb dX5_holds_97 rfl (lv_at hl 0 rfl) ?_
          refine kx_dge (tgt := 106) hx hb dX5_holds_98 dX5_holds_99 (by decide) (fun c_8 => ?_) (fun c_8 => ?_)
          · refine lv_iconst (v := 0) hx hb dX5_holds_106 (by decide) ?_
            refine lv_goto (tgt := 130) hx hb dX5_holds_107 (by decide) ?_
            exact W.zret (v := 0) hx hb hr rfl (fun t ht hW => ⟨0, rfl, (by unfold kx_hd; rw [if_neg c_1, if_neg c_2, if_neg c_3, if_pos c_4]; exact (if_neg c_8).symm), ht⟩) (fun _ h => nomatch h) dX5_holds_130
          · refine lv_iconst (v := 1) hx hb dX5_holds_102 (by decide) ?_
            refine lv_goto (tgt := 130) hx hb dX5_holds_103 (by decide) ?_
            exact W.zret (v := 1) hx hb hr rfl (fun t ht hW => ⟨1, rfl, (by unfold kx_hd; rw [if_neg c_1, if_neg c_2, if_neg c_3, if_pos c_4]; exact (if_pos c_8).symm), ht⟩) (fun _ h => nomatch h) dX5_holds_130
      · refine lv_aload_n hx hb dX5_holds_62 rfl (lv_at hl 2 rfl) ?_
        refine va_get (D := G.1) (ci := 6) (v := .ref m7) (C := RX5) (T := TX5) (N := 19) hx hb hts hin_X5 hown hT.1 hP 0 rfl rfl 11 (by decide) hf_29 (fun _ h9 => h9) rfl dX5_holds_63 ?_
        refine lv_iconst (v := 4) hx hb dX5_holds_66 (by decide) ?_
        refine lv_aload_n hx hb dX5_holds_67 rfl (lv_at hl 2 rfl) ?_
        refine va_get (D := G.1) (ci := 6) (v := .int (nI n)) (C := RX5) (T := TX5) (N := 19) hx hb hts hin_X5 hown hT.1 hP 0 rfl rfl 1 (by decide) hf_48 (fun _ h9 => h9) rfl dX5_holds_68 ?_
        refine lv_imul hx hb dX5_holds_71 ?_
        refine kx_ei (y := nI (4 * n)) (pk_mul 4 n) ?_
        refine lv_iconst (v := 2) hx hb dX5_holds_72 (by decide) ?_
        refine lv_isub hx hb dX5_holds_73 ?_
        refine kx_ei (y := nI ((4 * n) - 2)) (pk_sub (a := 4 * n) (b := 2) (by omega)) ?_
        refine kx_dald hx hb hT hP 7 rfl ((4 * n) - 2) (by omega) (by omega) dX5_holds_74 ?_
        refine lv_dload_n hx hb dX5_holds_75 rfl (lv_at hl 0 rfl) ?_
        refine kx_dge (tgt := 84) hx hb dX5_holds_76 dX5_holds_77 (by decide) (fun c_9 => ?_) (fun c_9 => ?_)
        · refine lv_iconst (v := 0) hx hb dX5_holds_84 (by decide) ?_
          refine lv_goto (tgt := 130) hx hb dX5_holds_85 (by decide) ?_
          exact W.zret (v := 0) hx hb hr rfl (fun t ht hW => ⟨0, rfl, (by unfold kx_hd; rw [if_neg c_1, if_neg c_2, if_pos c_3]; have c9_ := c_9; rw [show 4 * n - 2 = 4 * (n - 1) + 2 from by omega] at c9_; exact (if_neg c9_).symm), ht⟩) (fun _ h => nomatch h) dX5_holds_130
        · refine lv_iconst (v := 1) hx hb dX5_holds_80 (by decide) ?_
          refine lv_goto (tgt := 130) hx hb dX5_holds_81 (by decide) ?_
          exact W.zret (v := 1) hx hb hr rfl (fun t ht hW => ⟨1, rfl, (by unfold kx_hd; rw [if_neg c_1, if_neg c_2, if_pos c_3]; have c9_ := c_9; rw [show 4 * n - 2 = 4 * (n - 1) + 2 from by omega] at c9_; exact (if_pos c9_).symm), ht⟩) (fun _ h => nomatch h) dX5_holds_130
    · refine lv_aload_n hx hb dX5_holds_40 rfl (lv_at hl 2 rfl) ?_
      refine vp_callSd (W.runV (As := []) (rest := []) ⟨hx, hb, hml, hown, hts⟩ (c_X5_taperNow l G (m0 := m0) (m1 := m1) (m2 := m2) (m3 := m3) (m4 := m4) (m5 := m5) (m6 := m6) (m7 := m7) (m8 := m8) (m9 := m9) (m10 := m10) (m11 := m11) (m12 := m12) (n := n) (v := v) (tw := tw) (ps := ps) (qs := qs) (th := th) (fr := fr) (to := to) (kn := kn) (ft := ft) (fd := fd) (sh := sh) (ru := ru) (ki := ki) (li := li) (cl := cl) (kp := kp) (kx := kx) (ky := ky) (hb_ps := hb_ps) (hb_qs := hb_qs) (hb_fr := hb_fr) (hb_to := hb_to) (hb_sh := hb_sh) (hb_kx := hb_kx) (hb_ky := hb_ky) (hn1 := (by omega)) (hn := (by omega))) (cwV 0 hts gX5_holds_X5_taperNow rfl rfl rfl (by decide +kernel) ⟨Nat.le_of_ble_eq_true rfl, Nat.le_of_ble_eq_true rfl⟩) ⟨kx_PRb, va_recv hT.1 hP (ci := 6) (q0 := 0) rfl rfl, kx_pr hT hP [0, 1, 2, 3, 4, 5, 6, 7, 8, 9, 10, 11, 12] rfl⟩ rfl rfl hl.1 rfl (lv_room (Nat.le_of_ble_eq_true rfl)) dX5_holds_41 ⟨Nat.zero_le _, Nat.zero_le _⟩) (fun r_10 hw_11 => ?_)
      subst hw_11
      refine lv_dload_n hx hb dX5_holds_44 rfl (lv_at hl 0 rfl) ?_
      refine kx_dle (tgt := 53) hx hb dX5_holds_45 dX5_holds_46 (by decide) (fun c_12 => ?_) (fun c_12 => ?_)
      · refine lv_iconst (v := 0) hx hb dX5_holds_53 (by decide) ?_
        refine lv_goto (tgt := 130) hx hb dX5_holds_54 (by decide) ?_
        exact W.zret (v := 0) hx hb hr rfl (fun t ht hW => ⟨0, rfl, (by unfold kx_hd; rw [if_neg c_1, if_pos c_2]; exact (if_neg c_12).symm), ht⟩) (fun _ h => nomatch h) dX5_holds_130
      · refine lv_iconst (v := 1) hx hb dX5_holds_49 (by decide) ?_
        refine lv_goto (tgt := 130) hx hb dX5_holds_50 (by decide) ?_
        exact W.zret (v := 1) hx hb hr rfl (fun t ht hW => ⟨1, rfl, (by unfold kx_hd; rw [if_neg c_1, if_pos c_2]; exact (if_pos c_12).symm), ht⟩) (fun _ h => nomatch h) dX5_holds_130
  · refine lv_aload_n hx hb dX5_holds_18 rfl (lv_at hl 2 rfl) ?_
    refine vp_callSd (W.runV (As := []) (rest := []) ⟨hx, hb, hml, hown, hts⟩ (c_X5_sweepNow l G (m0 := m0) (m1 := m1) (m2 := m2) (m3 := m3) (m4 := m4) (m5 := m5) (m6 := m6) (m7 := m7) (m8 := m8) (m9 := m9) (m10 := m10) (m11 := m11) (m12 := m12) (n := n) (v := v) (tw := tw) (ps := ps) (qs := qs) (th := th) (fr := fr) (to := to) (kn := kn) (ft := ft) (fd := fd) (sh := sh) (ru := ru) (ki := ki) (li := li) (cl := cl) (kp := kp) (kx := kx) (ky := ky) (hb_ps := hb_ps) (hb_qs := hb_qs) (hb_fr := hb_fr) (hb_to := hb_to) (hb_sh := hb_sh) (hb_kx := hb_kx) (hb_ky := hb_ky) (hn1 := (by omega)) (hn := (by omega))) (cwV 0 hts gX5_holds_X5_sweepNow rfl rfl rfl (by decide +kernel) ⟨Nat.le_of_ble_eq_true rfl, Nat.le_of_ble_eq_true rfl⟩) ⟨kx_PRb, va_recv hT.1 hP (ci := 6) (q0 := 0) rfl rfl, kx_pr hT hP [0, 1, 2, 3, 4, 5, 6, 7, 8, 9, 10, 11, 12] rfl⟩ rfl rfl hl.1 rfl (lv_room (Nat.le_of_ble_eq_true rfl)) dX5_holds_19 ⟨Nat.zero_le _, Nat.zero_le _⟩) (fun r_13 hw_14 => ?_)
    subst hw_14
    refine lv_dload_n hx hb dX5_holds_22 rfl (lv_at hl 0 rfl) ?_
    refine kx_dle (tgt := 31) hx hb dX5_holds_23 dX5_holds_24 (by decide) (fun c_15 => ?_) (fun c_15 => ?_)
    · refine lv_iconst (v := 0) hx hb dX5_holds_31 (by decide) ?_
      refine lv_goto (tgt := 130) hx hb dX5_holds_32 (by decide) ?_
      exact W.zret (v := 0) hx hb hr rfl (fun t ht hW => ⟨0, rfl, (by unfold kx_hd; rw [if_pos c_1]; exact (if_neg c_15).symm), ht⟩) (fun _ h => nomatch h) dX5_holds_130
    · refine lv_iconst (v := 1) hx hb dX5_holds_27 (by decide) ?_
      refine lv_goto (tgt := 130) hx hb dX5_holds_28 (by decide) ?_
      exact W.zret (v := 1) hx hb hr rfl (fun t ht hW => ⟨1, rfl, (by unfold kx_hd; rw [if_pos c_1]; exact (if_pos c_15).symm), ht⟩) (fun _ h => nomatch h) dX5_holds_130
set_option maxHeartbeats 4000000 in
set_option maxRecDepth 100000 in
/-- APART -/
theorem c_X5_apartBy (l : Launch) (G : kx_G) (m0 : Nat) (m1 : Nat) (m2 : Nat) (m3 : Nat) (m4 : Nat) (m5 : Nat) (m6 : Nat) (m7 : Nat) (m8 : Nat) (m9 : Nat) (m10 : Nat) (m11 : Nat) (m12 : Nat) (n : Nat) (v : Nat) (tw : Int32) (ps : Nat → UInt64) (qs : Nat → UInt64) (th : Nat → Int32) (fr : Nat → UInt64) (to : Nat → UInt64) (kn : Int32) (ft : Nat) (fd : Nat → Int32) (sh : Nat → UInt64) (ru : Nat) (ki : Nat → Int32) (li : Nat → UInt64) (cl : Nat → Int32) (kp : Int32) (kx : Nat → UInt64) (ky : Nat → UInt64) (tn : Int32) (hb_ps : ∀ j, fx_bd 5 (ps j)) (hb_qs : ∀ j, fx_bd 5 (qs j)) (hb_fr : ∀ j, fx_bd 11 (fr j)) (hb_to : ∀ j, fx_bd 11 (to j)) (hb_sh : ∀ j, fx_bd 220 (sh j)) (hb_kx : ∀ j, fx_bd 130 (kx j)) (hb_ky : ∀ j, fx_bd 130 (ky j)) (hn1 : 1 ≤ n) (hn : n ≤ 16) : Met l yX5_apartBy wsX5_apartBy ({ frames := 0, cells := 0, slots := 0, locals := 0 } : Room) (kx_PR G [.ref m0, .int tn] [(m0, .inr (6, [.int tw, .int (nI n), .int (nI v), .ref m1, .ref m2, .ref m3, .ref m4, .ref m5, .int kn, .int (nI ft), .ref m6, .ref m7, .int (nI ru), .ref m8, .ref m9, .ref m10, .int kp, .ref m11, .ref m12])), (m1, kx_aD G 8 ps), (m2, kx_aD G 8 qs), (m3, kx_aZ G 128 th), (m4, kx_aD G 128 fr), (m5, kx_aD G 128 to), (m6, kx_aZ G 16 fd), (m7, kx_aD G 64 sh), (m8, kx_aI G 6 ki), (m9, kx_aD G 6 li), (m10, kx_aI G 6 cl), (m11, kx_aD G 16 kx), (m12, kx_aD G 16 ky)]) (vp_Sd (fun r => r = kx_dst (fun j => sh (4 * j)) (fun j => sh (4 * j + 1)) kx ky n tn)) 0 0 (fun _ => False) := by
  refine Met.ofW (cc := cX5_apartBy) (maxL := 13) (ret := (some .double)) (by decide) rfl ?_
  intro p e s m args below meth c s₁ B hml hv
  obtain ⟨rfl, hP, hT⟩ := hv
  have hx := B.exec
  have hb := B.bytes
  have hr := B.returns
  have hts := atoms_spec (ws := wsX5_apartBy) B.pre
  have hown : s.vm.findClass RX5 = some m.cls := findClass_of_methodNamed B.named
  have hlocks := B.notSynchronized
  have hf_48 := hts (.fieldLink RX5 48 "StemShapesModel" "slices" "I") (by decide +kernel)
  have hin_X5 : ∀ w ∈ wsX50, w ∈ wsX5_apartBy := by decide +kernel
  have hf_45 := hts (.fieldLink RX5 45 "StemShapesModel" "keptY" "[D") (by decide +kernel)
  have hf_42 := hts (.fieldLink RX5 42 "StemShapesModel" "keptX" "[D") (by decide +kernel)
  have hf_29 := hts (.fieldLink RX5 29 "StemShapesModel" "shapes" "[D") (by decide +kernel)
  have hl := lv_entry ([.ref m0, .int tn]) (n := 13) (Nat.le_of_ble_eq_true rfl)
  rw [lg_entry_eq]
  generalize (lg_sl ([.ref m0, .int tn]) ++ List.replicate (13 - (lg_sl ([.ref m0, .int tn])).length) Slot.unset).toArray = ls at hl ⊢
  have hl : lv_has ls 13 [(0, .ref m0), (1, .int tn)] := hl
  refine lv_dconst0 hx hb dX5_apartBy_0 ?_
  refine lv_dstore_n (lv' := [(2, .double FP.dconst0), (0, .ref m0), (1, .int tn)]) hx hb dX5_apartBy_1 rfl hl (by decide) rfl (fun ls hl => ?_)
  refine lv_iconst (v := 0) hx hb dX5_apartBy_2 (by decide) ?_
  refine lv_istore (lv' := [(4, .int 0), (2, .double FP.dconst0), (0, .ref m0), (1, .int tn)]) hx hb dX5_apartBy_3 hl (by decide) rfl (fun ls hl => ?_)
  have loop_5 : ∀ (k i : Nat) (a : UInt64), i + k = n → a = kx_sum (fun i => kx_d2 (sh (4 * i)) (sh (4 * i + 1)) (kx_qx kx ky tn i) (kx_qy kx ky tn i)) i → ∀ ls : Array Slot, lv_has ls 13 [(4, .int (nI i)), (2, .double a), (1, .int tn), (0, .ref m0)] → W p l e (headSpec wsX5_apartBy ({ frames := 0, cells := 0, slots := 0, locals := 0 } : Room)).room s m [.ref m0, .int tn].toArray below meth c s.heap [] 0 0 (MQ below (vp_Sd (fun r => r = kx_dst (fun j => sh (4 * j)) (fun j => sh (4 * j + 1)) kx ky n tn)) [.ref m0, .int tn].toArray s 0 0 (fun _ => False)) (F0 m 5 ls []) := by
    intro k
    induction k with
    | zero =>
      intro i a htot e_a ls hl
      subst e_a
      refine lv_iload hx hb dX5_apartBy_5 (lv_at hl 0 rfl) ?_
      refine lv_aload_n hx hb dX5_apartBy_7 rfl (lv_at hl 3 rfl) ?_
      refine va_get (D := G.1) (ci := 6) (v := .int (nI n)) (C := RX5) (T := TX5) (N := 19) hx hb hts hin_X5 hown hT.1 hP 0 rfl rfl 1 (by decide) hf_48 (fun _ h9 => h9) rfl dX5_apartBy_8 ?_
      refine lv_icmp_ge (x := nI i) (y := nI n) (tgt := 174) hx hb dX5_apartBy_11 (by decide) (fun c_1 => ?_) (fun c_1 => ?_)
      · have c_1 : n ≤ i := (nI_leI (a := n) (b := i) (by omega) (by omega)).mp c_1
        refine lv_dload_n hx hb dX5_apartBy_174 rfl (lv_at hl 1 rfl) ?_
        exact W.dret (v := kx_sum (fun i => kx_d2 (sh (4 * i)) (sh (4 * i + 1)) (kx_qx kx ky tn i) (kx_qy kx ky tn i)) i) hx hb hr (fun t ht hW => ⟨kx_sum (fun i => kx_d2 (sh (4 * i)) (sh (4 * i + 1)) (kx_qx kx ky tn i) (kx_qy kx ky tn i)) i, rfl, (by rw [show i = n from by omega]; rfl), ht⟩) (fun _ h => nomatch h) dX5_apartBy_175
      · have c_1 : ¬ n ≤ i := fun q => c_1 ((nI_leI (a := n) (b := i) (by omega) (by omega)).mpr q)
        exfalso; omega
    | succ k ih =>
      intro i a htot e_a ls hl
      subst e_a
      refine lv_iload hx hb dX5_apartBy_5 (lv_at hl 0 rfl) ?_
      refine lv_aload_n hx hb dX5_apartBy_7 rfl (lv_at hl 3 rfl) ?_
      refine va_get (D := G.1) (ci := 6) (v := .int (nI n)) (C := RX5) (T := TX5) (N := 19) hx hb hts hin_X5 hown hT.1 hP 0 rfl rfl 1 (by decide) hf_48 (fun _ h9 => h9) rfl dX5_apartBy_8 ?_
      refine lv_icmp_ge (x := nI i) (y := nI n) (tgt := 174) hx hb dX5_apartBy_11 (by decide) (fun c_2 => ?_) (fun c_2 => ?_)
      · have c_2 : n ≤ i := (nI_leI (a := n) (b := i) (by omega) (by omega)).mp c_2
        exfalso; omega
      · have c_2 : ¬ n ≤ i := fun q => c_2 ((nI_leI (a := n) (b := i) (by omega) (by omega)).mpr q)
        refine lv_iload_n hx hb dX5_apartBy_14 rfl (lv_at hl 2 rfl) ?_
        refine lv_if_ne (x := tn) (tgt := 28) hx hb dX5_apartBy_15 (by decide) (fun c_3 => ?_) (fun c_3 => ?_)
        · refine lv_iload_n hx hb dX5_apartBy_28 rfl (lv_at hl 2 rfl) ?_
          refine lv_iconst (v := 1) hx hb dX5_apartBy_29 (by decide) ?_
          refine lv_icmp_ne (x := tn) (y := 1) (tgt := 44) hx hb dX5_apartBy_30 (by decide) (fun c_4 => ?_) (fun c_4 => ?_)
          · refine lv_iload_n hx hb dX5_apartBy_44 rfl (lv_at hl 2 rfl) ?_
            refine lv_iconst (v := 2) hx hb dX5_apartBy_45 (by decide) ?_
            refine lv_icmp_ne (x := tn) (y := 2) (tgt := 60) hx hb dX5_apartBy_46 (by decide) (fun c_5 => ?_) (fun c_5 => ?_)
            · refine lv_aload_n hx hb dX5_apartBy_60 rfl (lv_at hl 3 rfl) ?_
              refine va_get (D := G.1) (ci := 6) (v := .ref m12) (C := RX5) (T := TX5) (N := 19) hx hb hts hin_X5 hown hT.1 hP 0 rfl rfl 18 (by decide) hf_45 (fun _ h9 => h9) rfl dX5_apartBy_61 ?_
              refine lv_iload hx hb dX5_apartBy_64 (lv_at hl 0 rfl) ?_
              refine kx_dald hx hb hT hP 12 rfl i (by omega) (by omega) dX5_apartBy_66 ?_
              refine kx_ed (y := kx_qx kx ky tn i) (by unfold kx_qx; rw [if_neg c_3, if_neg c_4, if_neg c_5]) ?_
              refine lv_dstore (lv' := [(5, .double (kx_qx kx ky tn i)), (4, .int (nI i)), (2, .double (kx_sum (fun i => kx_d2 (sh (4 * i)) (sh (4 * i + 1)) (kx_qx kx ky tn i) (kx_qy kx ky tn i)) i)), (1, .int tn), (0, .ref m0)]) hx hb dX5_apartBy_67 hl (by decide) rfl (fun ls hl => ?_)
              refine lv_iload_n hx hb dX5_apartBy_69 rfl (lv_at hl 3 rfl) ?_
              refine lv_if_ne (x := tn) (tgt := 83) hx hb dX5_apartBy_70 (by decide) (fun c_6 => ?_) (fun c_6 => ?_)
              · refine lv_iload_n hx hb dX5_apartBy_83 rfl (lv_at hl 3 rfl) ?_
                refine lv_iconst (v := 1) hx hb dX5_apartBy_84 (by decide) ?_
                refine lv_icmp_ne (x := tn) (y := 1) (tgt := 98) hx hb dX5_apartBy_85 (by decide) (fun c_7 => ?_) (fun c_7 => ?_)
                · refine lv_iload_n hx hb dX5_apartBy_98 rfl (lv_at hl 3 rfl) ?_
                  refine lv_iconst (v := 2) hx hb dX5_apartBy_99 (by decide) ?_
                  refine lv_icmp_ne (x := tn) (y := 2) (tgt := 114) hx hb dX5_apartBy_100 (by decide) (fun c_8 => ?_) (fun c_8 => ?_)
                  · refine lv_aload_n hx hb dX5_apartBy_114 rfl (lv_at hl 4 rfl) ?_
                    refine va_get (D := G.1) (ci := 6) (v := .ref m11) (C := RX5) (T := TX5) (N := 19) hx hb hts hin_X5 hown hT.1 hP 0 rfl rfl 17 (by decide) hf_42 (fun _ h9 => h9) rfl dX5_apartBy_115 ?_
                    refine lv_iload hx hb dX5_apartBy_118 (lv_at hl 1 rfl) ?_
                    refine kx_dald hx hb hT hP 11 rfl i (by omega) (by omega) dX5_apartBy_120 ?_
                    refine lv_dneg hx hb dX5_apartBy_121 ?_
                    refine kx_ed (y := kx_qy kx ky tn i) (by unfold kx_qy; rw [if_neg c_6, if_neg c_7, if_neg c_8]) ?_
                    refine lv_dstore (lv' := [(7, .double (kx_qy kx ky tn i)), (5, .double (kx_qx kx ky tn i)), (4, .int (nI i)), (2, .double (kx_sum (fun i => kx_d2 (sh (4 * i)) (sh (4 * i + 1)) (kx_qx kx ky tn i) (kx_qy kx ky tn i)) i)), (1, .int tn), (0, .ref m0)]) hx hb dX5_apartBy_122 hl (by decide) rfl (fun ls hl => ?_)
                    refine lv_aload_n hx hb dX5_apartBy_124 rfl (lv_at hl 5 rfl) ?_
                    refine va_get (D := G.1) (ci := 6) (v := .ref m7) (C := RX5) (T := TX5) (N := 19) hx hb hts hin_X5 hown hT.1 hP 0 rfl rfl 11 (by decide) hf_29 (fun _ h9 => h9) rfl dX5_apartBy_125 ?_
                    refine lv_iconst (v := 4) hx hb dX5_apartBy_128 (by decide) ?_
                    refine lv_iload hx hb dX5_apartBy_129 (lv_at hl 2 rfl) ?_
                    refine lv_imul hx hb dX5_apartBy_131 ?_
                    refine kx_ei (y := nI (4 * i)) (pk_mul 4 i) ?_
                    refine kx_dald hx hb hT hP 7 rfl (4 * i) (by omega) (by omega) dX5_apartBy_132 ?_
                    refine lv_dload hx hb dX5_apartBy_133 (lv_at hl 1 rfl) ?_
                    refine lv_dsub hx hb dX5_apartBy_135 (fx_bd.sub (hb_sh (4 * i)) (kx_qx_bd hb_kx hb_ky) (by omega)).n ?_
                    refine lv_dstore (lv' := [(9, .double (FP.dsub (sh (4 * i)) (kx_qx kx ky tn i))), (7, .double (kx_qy kx ky tn i)), (5, .double (kx_qx kx ky tn i)), (4, .int (nI i)), (2, .double (kx_sum (fun i => kx_d2 (sh (4 * i)) (sh (4 * i + 1)) (kx_qx kx ky tn i) (kx_qy kx ky tn i)) i)), (1, .int tn), (0, .ref m0)]) hx hb dX5_apartBy_136 hl (by decide) rfl (fun ls hl => ?_)
                    refine lv_aload_n hx hb dX5_apartBy_138 rfl (lv_at hl 6 rfl) ?_
                    refine va_get (D := G.1) (ci := 6) (v := .ref m7) (C := RX5) (T := TX5) (N := 19) hx hb hts hin_X5 hown hT.1 hP 0 rfl rfl 11 (by decide) hf_29 (fun _ h9 => h9) rfl dX5_apartBy_139 ?_
                    refine lv_iconst (v := 4) hx hb dX5_apartBy_142 (by decide) ?_
                    refine lv_iload hx hb dX5_apartBy_143 (lv_at hl 3 rfl) ?_
                    refine lv_imul hx hb dX5_apartBy_145 ?_
                    refine kx_ei (y := nI (4 * i)) (pk_mul 4 i) ?_
                    refine lv_iconst (v := 1) hx hb dX5_apartBy_146 (by decide) ?_
                    refine lv_iadd hx hb dX5_apartBy_147 ?_
                    refine kx_ei (y := nI ((4 * i) + 1)) (nI_add (4 * i) 1) ?_
                    refine kx_dald hx hb hT hP 7 rfl ((4 * i) + 1) (by omega) (by omega) dX5_apartBy_148 ?_
                    refine lv_dload hx hb dX5_apartBy_149 (lv_at hl 1 rfl) ?_
                    refine lv_dsub hx hb dX5_apartBy_151 (fx_bd.sub (hb_sh ((4 * i) + 1)) (kx_qy_bd hb_kx hb_ky) (by omega)).n ?_
                    refine lv_dstore (lv' := [(11, .double (FP.dsub (sh ((4 * i) + 1)) (kx_qy kx ky tn i))), (9, .double (FP.dsub (sh (4 * i)) (kx_qx kx ky tn i))), (7, .double (kx_qy kx ky tn i)), (5, .double (kx_qx kx ky tn i)), (4, .int (nI i)), (2, .double (kx_sum (fun i => kx_d2 (sh (4 * i)) (sh (4 * i + 1)) (kx_qx kx ky tn i) (kx_qy kx ky tn i)) i)), (1, .int tn), (0, .ref m0)]) hx hb dX5_apartBy_152 hl (by decide) rfl (fun ls hl => ?_)
                    refine lv_dload_n hx hb dX5_apartBy_154 rfl (lv_at hl 5 rfl) ?_
                    refine lv_dload hx hb dX5_apartBy_155 (lv_at hl 1 rfl) ?_
                    refine lv_dload hx hb dX5_apartBy_157 (lv_at hl 1 rfl) ?_
                    refine lv_dmul hx hb dX5_apartBy_159 (fx_bd.mul (fx_bd.sub (hb_sh (4 * i)) (kx_qx_bd hb_kx hb_ky) (by omega)) (fx_bd.sub (hb_sh (4 * i)) (kx_qx_bd hb_kx hb_ky) (by omega)) (by omega)).n ?_
                    refine lv_dload hx hb dX5_apartBy_160 (lv_at hl 0 rfl) ?_
                    refine lv_dload hx hb dX5_apartBy_162 (lv_at hl 0 rfl) ?_
                    refine lv_dmul hx hb dX5_apartBy_164 (fx_bd.mul (fx_bd.sub (hb_sh ((4 * i) + 1)) (kx_qy_bd hb_kx hb_ky) (by omega)) (fx_bd.sub (hb_sh ((4 * i) + 1)) (kx_qy_bd hb_kx hb_ky) (by omega)) (by omega)).n ?_
                    refine lv_dadd hx hb dX5_apartBy_165 (fx_bd.add (fx_bd.mul (fx_bd.sub (hb_sh (4 * i)) (kx_qx_bd hb_kx hb_ky) (by omega)) (fx_bd.sub (hb_sh (4 * i)) (kx_qx_bd hb_kx hb_ky) (by omega)) (by omega)) (fx_bd.mul (fx_bd.sub (hb_sh ((4 * i) + 1)) (kx_qy_bd hb_kx hb_ky) (by omega)) (fx_bd.sub (hb_sh ((4 * i) + 1)) (kx_qy_bd hb_kx hb_ky) (by omega)) (by omega)) (by omega)).n ?_
                    refine lv_dadd hx hb dX5_apartBy_166 (fx_bd.add (kx_sum_bd (K := 447) (fun j => kx_d2_bd (hb_sh (4 * j)) (hb_sh (4 * j + 1)) (kx_qx_bd hb_kx hb_ky) (kx_qy_bd hb_kx hb_ky)) i (by omega)) (fx_bd.add (fx_bd.mul (fx_bd.sub (hb_sh (4 * i)) (kx_qx_bd hb_kx hb_ky) (by omega)) (fx_bd.sub (hb_sh (4 * i)) (kx_qx_bd hb_kx hb_ky) (by omega)) (by omega)) (fx_bd.mul (fx_bd.sub (hb_sh ((4 * i) + 1)) (kx_qy_bd hb_kx hb_ky) (by omega)) (fx_bd.sub (hb_sh ((4 * i) + 1)) (kx_qy_bd hb_kx hb_ky) (by omega)) (by omega)) (by omega)) (by omega)).n ?_
                    refine lv_dstore_n (lv' := [(2, .double (FP.dadd (kx_sum (fun i => kx_d2 (sh (4 * i)) (sh (4 * i + 1)) (kx_qx kx ky tn i) (kx_qy kx ky tn i)) i) (FP.dadd (FP.dmul (FP.dsub (sh (4 * i)) (kx_qx kx ky tn i)) (FP.dsub (sh (4 * i)) (kx_qx kx ky tn i))) (FP.dmul (FP.dsub (sh ((4 * i) + 1)) (kx_qy kx ky tn i)) (FP.dsub (sh ((4 * i) + 1)) (kx_qy kx ky tn i)))))), (11, .double (FP.dsub (sh ((4 * i) + 1)) (kx_qy kx ky tn i))), (9, .double (FP.dsub (sh (4 * i)) (kx_qx kx ky tn i))), (7, .double (kx_qy kx ky tn i)), (5, .double (kx_qx kx ky tn i)), (4, .int (nI i)), (1, .int tn), (0, .ref m0)]) hx hb dX5_apartBy_167 rfl hl (by decide) rfl (fun ls hl => ?_)
                    refine lv_iinc (v := nI (i + 1)) (lv' := [(4, .int (nI (i + 1))), (2, .double (FP.dadd (kx_sum (fun i => kx_d2 (sh (4 * i)) (sh (4 * i + 1)) (kx_qx kx ky tn i) (kx_qy kx ky tn i)) i) (FP.dadd (FP.dmul (FP.dsub (sh (4 * i)) (kx_qx kx ky tn i)) (FP.dsub (sh (4 * i)) (kx_qx kx ky tn i))) (FP.dmul (FP.dsub (sh ((4 * i) + 1)) (kx_qy kx ky tn i)) (FP.dsub (sh ((4 * i) + 1)) (kx_qy kx ky tn i)))))), (11, .double (FP.dsub (sh ((4 * i) + 1)) (kx_qy kx ky tn i))), (9, .double (FP.dsub (sh (4 * i)) (kx_qx kx ky tn i))), (7, .double (kx_qy kx ky tn i)), (5, .double (kx_qx kx ky tn i)), (1, .int tn), (0, .ref m0)]) hx hb dX5_apartBy_168 hl (k := 5) rfl (by show _ + 1 = _; exact nI_1 _) (by decide) rfl (fun ls hl => ?_)
                    refine lv_goto (tgt := 5) hx hb dX5_apartBy_171 (by decide) ?_
                    exact ih (i + 1) _ (by omega) rfl _ (lv_sub hl [0, 1, 6, 7] rfl)
                  · refine lv_aload_n hx hb dX5_apartBy_103 rfl (lv_at hl 4 rfl) ?_
                    refine va_get (D := G.1) (ci := 6) (v := .ref m12) (C := RX5) (T := TX5) (N := 19) hx hb hts hin_X5 hown hT.1 hP 0 rfl rfl 18 (by decide) hf_45 (fun _ h9 => h9) rfl dX5_apartBy_104 ?_
                    refine lv_iload hx hb dX5_apartBy_107 (lv_at hl 1 rfl) ?_
                    refine kx_dald hx hb hT hP 12 rfl i (by omega) (by omega) dX5_apartBy_109 ?_
                    refine lv_dneg hx hb dX5_apartBy_110 ?_
                    refine lv_goto (tgt := 122) hx hb dX5_apartBy_111 (by decide) ?_
                    refine kx_ed (y := kx_qy kx ky tn i) (by unfold kx_qy; rw [if_neg c_6, if_neg c_7, if_pos c_8]) ?_
                    refine lv_dstore (lv' := [(7, .double (kx_qy kx ky tn i)), (5, .double (kx_qx kx ky tn i)), (4, .int (nI i)), (2, .double (kx_sum (fun i => kx_d2 (sh (4 * i)) (sh (4 * i + 1)) (kx_qx kx ky tn i) (kx_qy kx ky tn i)) i)), (1, .int tn), (0, .ref m0)]) hx hb dX5_apartBy_122 hl (by decide) rfl (fun ls hl => ?_)
                    refine lv_aload_n hx hb dX5_apartBy_124 rfl (lv_at hl 5 rfl) ?_
                    refine va_get (D := G.1) (ci := 6) (v := .ref m7) (C := RX5) (T := TX5) (N := 19) hx hb hts hin_X5 hown hT.1 hP 0 rfl rfl 11 (by decide) hf_29 (fun _ h9 => h9) rfl dX5_apartBy_125 ?_
                    refine lv_iconst (v := 4) hx hb dX5_apartBy_128 (by decide) ?_
                    refine lv_iload hx hb dX5_apartBy_129 (lv_at hl 2 rfl) ?_
                    refine lv_imul hx hb dX5_apartBy_131 ?_
                    refine kx_ei (y := nI (4 * i)) (pk_mul 4 i) ?_
                    refine kx_dald hx hb hT hP 7 rfl (4 * i) (by omega) (by omega) dX5_apartBy_132 ?_
                    refine lv_dload hx hb dX5_apartBy_133 (lv_at hl 1 rfl) ?_
                    refine lv_dsub hx hb dX5_apartBy_135 (fx_bd.sub (hb_sh (4 * i)) (kx_qx_bd hb_kx hb_ky) (by omega)).n ?_
                    refine lv_dstore (lv' := [(9, .double (FP.dsub (sh (4 * i)) (kx_qx kx ky tn i))), (7, .double (kx_qy kx ky tn i)), (5, .double (kx_qx kx ky tn i)), (4, .int (nI i)), (2, .double (kx_sum (fun i => kx_d2 (sh (4 * i)) (sh (4 * i + 1)) (kx_qx kx ky tn i) (kx_qy kx ky tn i)) i)), (1, .int tn), (0, .ref m0)]) hx hb dX5_apartBy_136 hl (by decide) rfl (fun ls hl => ?_)
                    refine lv_aload_n hx hb dX5_apartBy_138 rfl (lv_at hl 6 rfl) ?_
                    refine va_get (D := G.1) (ci := 6) (v := .ref m7) (C := RX5) (T := TX5) (N := 19) hx hb hts hin_X5 hown hT.1 hP 0 rfl rfl 11 (by decide) hf_29 (fun _ h9 => h9) rfl dX5_apartBy_139 ?_
                    refine lv_iconst (v := 4) hx hb dX5_apartBy_142 (by decide) ?_
                    refine lv_iload hx hb dX5_apartBy_143 (lv_at hl 3 rfl) ?_
                    refine lv_imul hx hb dX5_apartBy_145 ?_
                    refine kx_ei (y := nI (4 * i)) (pk_mul 4 i) ?_
                    refine lv_iconst (v := 1) hx hb dX5_apartBy_146 (by decide) ?_
                    refine lv_iadd hx hb dX5_apartBy_147 ?_
                    refine kx_ei (y := nI ((4 * i) + 1)) (nI_add (4 * i) 1) ?_
                    refine kx_dald hx hb hT hP 7 rfl ((4 * i) + 1) (by omega) (by omega) dX5_apartBy_148 ?_
                    refine lv_dload hx hb dX5_apartBy_149 (lv_at hl 1 rfl) ?_
                    refine lv_dsub hx hb dX5_apartBy_151 (fx_bd.sub (hb_sh ((4 * i) + 1)) (kx_qy_bd hb_kx hb_ky) (by omega)).n ?_
                    refine lv_dstore (lv' := [(11, .double (FP.dsub (sh ((4 * i) + 1)) (kx_qy kx ky tn i))), (9, .double (FP.dsub (sh (4 * i)) (kx_qx kx ky tn i))), (7, .double (kx_qy kx ky tn i)), (5, .double (kx_qx kx ky tn i)), (4, .int (nI i)), (2, .double (kx_sum (fun i => kx_d2 (sh (4 * i)) (sh (4 * i + 1)) (kx_qx kx ky tn i) (kx_qy kx ky tn i)) i)), (1, .int tn), (0, .ref m0)]) hx hb dX5_apartBy_152 hl (by decide) rfl (fun ls hl => ?_)
                    refine lv_dload_n hx hb dX5_apartBy_154 rfl (lv_at hl 5 rfl) ?_
                    refine lv_dload hx hb dX5_apartBy_155 (lv_at hl 1 rfl) ?_
                    refine lv_dload hx hb dX5_apartBy_157 (lv_at hl 1 rfl) ?_
                    refine lv_dmul hx hb dX5_apartBy_159 (fx_bd.mul (fx_bd.sub (hb_sh (4 * i)) (kx_qx_bd hb_kx hb_ky) (by omega)) (fx_bd.sub (hb_sh (4 * i)) (kx_qx_bd hb_kx hb_ky) (by omega)) (by omega)).n ?_
                    refine lv_dload hx hb dX5_apartBy_160 (lv_at hl 0 rfl) ?_
                    refine lv_dload hx hb dX5_apartBy_162 (lv_at hl 0 rfl) ?_
                    refine lv_dmul hx hb dX5_apartBy_164 (fx_bd.mul (fx_bd.sub (hb_sh ((4 * i) + 1)) (kx_qy_bd hb_kx hb_ky) (by omega)) (fx_bd.sub (hb_sh ((4 * i) + 1)) (kx_qy_bd hb_kx hb_ky) (by omega)) (by omega)).n ?_
                    refine lv_dadd hx hb dX5_apartBy_165 (fx_bd.add (fx_bd.mul (fx_bd.sub (hb_sh (4 * i)) (kx_qx_bd hb_kx hb_ky) (by omega)) (fx_bd.sub (hb_sh (4 * i)) (kx_qx_bd hb_kx hb_ky) (by omega)) (by omega)) (fx_bd.mul (fx_bd.sub (hb_sh ((4 * i) + 1)) (kx_qy_bd hb_kx hb_ky) (by omega)) (fx_bd.sub (hb_sh ((4 * i) + 1)) (kx_qy_bd hb_kx hb_ky) (by omega)) (by omega)) (by omega)).n ?_
                    refine lv_dadd hx hb dX5_apartBy_166 (fx_bd.add (kx_sum_bd (K := 447) (fun j => kx_d2_bd (hb_sh (4 * j)) (hb_sh (4 * j + 1)) (kx_qx_bd hb_kx hb_ky) (kx_qy_bd hb_kx hb_ky)) i (by omega)) (fx_bd.add (fx_bd.mul (fx_bd.sub (hb_sh (4 * i)) (kx_qx_bd hb_kx hb_ky) (by omega)) (fx_bd.sub (hb_sh (4 * i)) (kx_qx_bd hb_kx hb_ky) (by omega)) (by omega)) (fx_bd.mul (fx_bd.sub (hb_sh ((4 * i) + 1)) (kx_qy_bd hb_kx hb_ky) (by omega)) (fx_bd.sub (hb_sh ((4 * i) + 1)) (kx_qy_bd hb_kx hb_ky) (by omega)) (by omega)) (by omega)) (by omega)).n ?_
                    refine lv_dstore_n (lv' := [(2, .double (FP.dadd (kx_sum (fun i => kx_d2 (sh (4 * i)) (sh (4 * i + 1)) (kx_qx kx ky tn i) (kx_qy kx ky tn i)) i) (FP.dadd (FP.dmul (FP.dsub (sh (4 * i)) (kx_qx kx ky tn i)) (FP.dsub (sh (4 * i)) (kx_qx kx ky tn i))) (FP.dmul (FP.dsub (sh ((4 * i) + 1)) (kx_qy kx ky tn i)) (FP.dsub (sh ((4 * i) + 1)) (kx_qy kx ky tn i)))))), (11, .double (FP.dsub (sh ((4 * i) + 1)) (kx_qy kx ky tn i))), (9, .double (FP.dsub (sh (4 * i)) (kx_qx kx ky tn i))), (7, .double (kx_qy kx ky tn i)), (5, .double (kx_qx kx ky tn i)), (4, .int (nI i)), (1, .int tn), (0, .ref m0)]) hx hb dX5_apartBy_167 rfl hl (by decide) rfl (fun ls hl => ?_)
                    refine lv_iinc (v := nI (i + 1)) (lv' := [(4, .int (nI (i + 1))), (2, .double (FP.dadd (kx_sum (fun i => kx_d2 (sh (4 * i)) (sh (4 * i + 1)) (kx_qx kx ky tn i) (kx_qy kx ky tn i)) i) (FP.dadd (FP.dmul (FP.dsub (sh (4 * i)) (kx_qx kx ky tn i)) (FP.dsub (sh (4 * i)) (kx_qx kx ky tn i))) (FP.dmul (FP.dsub (sh ((4 * i) + 1)) (kx_qy kx ky tn i)) (FP.dsub (sh ((4 * i) + 1)) (kx_qy kx ky tn i)))))), (11, .double (FP.dsub (sh ((4 * i) + 1)) (kx_qy kx ky tn i))), (9, .double (FP.dsub (sh (4 * i)) (kx_qx kx ky tn i))), (7, .double (kx_qy kx ky tn i)), (5, .double (kx_qx kx ky tn i)), (1, .int tn), (0, .ref m0)]) hx hb dX5_apartBy_168 hl (k := 5) rfl (by show _ + 1 = _; exact nI_1 _) (by decide) rfl (fun ls hl => ?_)
                    refine lv_goto (tgt := 5) hx hb dX5_apartBy_171 (by decide) ?_
                    exact ih (i + 1) _ (by omega) rfl _ (lv_sub hl [0, 1, 6, 7] rfl)
                · refine lv_aload_n hx hb dX5_apartBy_88 rfl (lv_at hl 4 rfl) ?_
                  refine va_get (D := G.1) (ci := 6) (v := .ref m11) (C := RX5) (T := TX5) (N := 19) hx hb hts hin_X5 hown hT.1 hP 0 rfl rfl 17 (by decide) hf_42 (fun _ h9 => h9) rfl dX5_apartBy_89 ?_
                  refine lv_iload hx hb dX5_apartBy_92 (lv_at hl 1 rfl) ?_
                  refine kx_dald hx hb hT hP 11 rfl i (by omega) (by omega) dX5_apartBy_94 ?_
                  refine lv_goto (tgt := 122) hx hb dX5_apartBy_95 (by decide) ?_
                  refine kx_ed (y := kx_qy kx ky tn i) (by unfold kx_qy; rw [if_neg c_6, if_pos c_7]) ?_
                  refine lv_dstore (lv' := [(7, .double (kx_qy kx ky tn i)), (5, .double (kx_qx kx ky tn i)), (4, .int (nI i)), (2, .double (kx_sum (fun i => kx_d2 (sh (4 * i)) (sh (4 * i + 1)) (kx_qx kx ky tn i) (kx_qy kx ky tn i)) i)), (1, .int tn), (0, .ref m0)]) hx hb dX5_apartBy_122 hl (by decide) rfl (fun ls hl => ?_)
                  refine lv_aload_n hx hb dX5_apartBy_124 rfl (lv_at hl 5 rfl) ?_
                  refine va_get (D := G.1) (ci := 6) (v := .ref m7) (C := RX5) (T := TX5) (N := 19) hx hb hts hin_X5 hown hT.1 hP 0 rfl rfl 11 (by decide) hf_29 (fun _ h9 => h9) rfl dX5_apartBy_125 ?_
                  refine lv_iconst (v := 4) hx hb dX5_apartBy_128 (by decide) ?_
                  refine lv_iload hx hb dX5_apartBy_129 (lv_at hl 2 rfl) ?_
                  refine lv_imul hx hb dX5_apartBy_131 ?_
                  refine kx_ei (y := nI (4 * i)) (pk_mul 4 i) ?_
                  refine kx_dald hx hb hT hP 7 rfl (4 * i) (by omega) (by omega) dX5_apartBy_132 ?_
                  refine lv_dload hx hb dX5_apartBy_133 (lv_at hl 1 rfl) ?_
                  refine lv_dsub hx hb dX5_apartBy_135 (fx_bd.sub (hb_sh (4 * i)) (kx_qx_bd hb_kx hb_ky) (by omega)).n ?_
                  refine lv_dstore (lv' := [(9, .double (FP.dsub (sh (4 * i)) (kx_qx kx ky tn i))), (7, .double (kx_qy kx ky tn i)), (5, .double (kx_qx kx ky tn i)), (4, .int (nI i)), (2, .double (kx_sum (fun i => kx_d2 (sh (4 * i)) (sh (4 * i + 1)) (kx_qx kx ky tn i) (kx_qy kx ky tn i)) i)), (1, .int tn), (0, .ref m0)]) hx hb dX5_apartBy_136 hl (by decide) rfl (fun ls hl => ?_)
                  refine lv_aload_n hx hb dX5_apartBy_138 rfl (lv_at hl 6 rfl) ?_
                  refine va_get (D := G.1) (ci := 6) (v := .ref m7) (C := RX5) (T := TX5) (N := 19) hx hb hts hin_X5 hown hT.1 hP 0 rfl rfl 11 (by decide) hf_29 (fun _ h9 => h9) rfl dX5_apartBy_139 ?_
                  refine lv_iconst (v := 4) hx hb dX5_apartBy_142 (by decide) ?_
                  refine lv_iload hx hb dX5_apartBy_143 (lv_at hl 3 rfl) ?_
                  refine lv_imul hx hb dX5_apartBy_145 ?_
                  refine kx_ei (y := nI (4 * i)) (pk_mul 4 i) ?_
                  refine lv_iconst (v := 1) hx hb dX5_apartBy_146 (by decide) ?_
                  refine lv_iadd hx hb dX5_apartBy_147 ?_
                  refine kx_ei (y := nI ((4 * i) + 1)) (nI_add (4 * i) 1) ?_
                  refine kx_dald hx hb hT hP 7 rfl ((4 * i) + 1) (by omega) (by omega) dX5_apartBy_148 ?_
                  refine lv_dload hx hb dX5_apartBy_149 (lv_at hl 1 rfl) ?_
                  refine lv_dsub hx hb dX5_apartBy_151 (fx_bd.sub (hb_sh ((4 * i) + 1)) (kx_qy_bd hb_kx hb_ky) (by omega)).n ?_
                  refine lv_dstore (lv' := [(11, .double (FP.dsub (sh ((4 * i) + 1)) (kx_qy kx ky tn i))), (9, .double (FP.dsub (sh (4 * i)) (kx_qx kx ky tn i))), (7, .double (kx_qy kx ky tn i)), (5, .double (kx_qx kx ky tn i)), (4, .int (nI i)), (2, .double (kx_sum (fun i => kx_d2 (sh (4 * i)) (sh (4 * i + 1)) (kx_qx kx ky tn i) (kx_qy kx ky tn i)) i)), (1, .int tn), (0, .ref m0)]) hx hb dX5_apartBy_152 hl (by decide) rfl (fun ls hl => ?_)
                  refine lv_dload_n hx hb dX5_apartBy_154 rfl (lv_at hl 5 rfl) ?_
                  refine lv_dload hx hb dX5_apartBy_155 (lv_at hl 1 rfl) ?_
                  refine lv_dload hx hb dX5_apartBy_157 (lv_at hl 1 rfl) ?_
                  refine lv_dmul hx hb dX5_apartBy_159 (fx_bd.mul (fx_bd.sub (hb_sh (4 * i)) (kx_qx_bd hb_kx hb_ky) (by omega)) (fx_bd.sub (hb_sh (4 * i)) (kx_qx_bd hb_kx hb_ky) (by omega)) (by omega)).n ?_
                  refine lv_dload hx hb dX5_apartBy_160 (lv_at hl 0 rfl) ?_
                  refine lv_dload hx hb dX5_apartBy_162 (lv_at hl 0 rfl) ?_
                  refine lv_dmul hx hb dX5_apartBy_164 (fx_bd.mul (fx_bd.sub (hb_sh ((4 * i) + 1)) (kx_qy_bd hb_kx hb_ky) (by omega)) (fx_bd.sub (hb_sh ((4 * i) + 1)) (kx_qy_bd hb_kx hb_ky) (by omega)) (by omega)).n ?_
                  refine lv_dadd hx hb dX5_apartBy_165 (fx_bd.add (fx_bd.mul (fx_bd.sub (hb_sh (4 * i)) (kx_qx_bd hb_kx hb_ky) (by omega)) (fx_bd.sub (hb_sh (4 * i)) (kx_qx_bd hb_kx hb_ky) (by omega)) (by omega)) (fx_bd.mul (fx_bd.sub (hb_sh ((4 * i) + 1)) (kx_qy_bd hb_kx hb_ky) (by omega)) (fx_bd.sub (hb_sh ((4 * i) + 1)) (kx_qy_bd hb_kx hb_ky) (by omega)) (by omega)) (by omega)).n ?_
                  refine lv_dadd hx hb dX5_apartBy_166 (fx_bd.add (kx_sum_bd (K := 447) (fun j => kx_d2_bd (hb_sh (4 * j)) (hb_sh (4 * j + 1)) (kx_qx_bd hb_kx hb_ky) (kx_qy_bd hb_kx hb_ky)) i (by omega)) (fx_bd.add (fx_bd.mul (fx_bd.sub (hb_sh (4 * i)) (kx_qx_bd hb_kx hb_ky) (by omega)) (fx_bd.sub (hb_sh (4 * i)) (kx_qx_bd hb_kx hb_ky) (by omega)) (by omega)) (fx_bd.mul (fx_bd.sub (hb_sh ((4 * i) + 1)) (kx_qy_bd hb_kx hb_ky) (by omega)) (fx_bd.sub (hb_sh ((4 * i) + 1)) (kx_qy_bd hb_kx hb_ky) (by omega)) (by omega)) (by omega)) (by omega)).n ?_
                  refine lv_dstore_n (lv' := [(2, .double (FP.dadd (kx_sum (fun i => kx_d2 (sh (4 * i)) (sh (4 * i + 1)) (kx_qx kx ky tn i) (kx_qy kx ky tn i)) i) (FP.dadd (FP.dmul (FP.dsub (sh (4 * i)) (kx_qx kx ky tn i)) (FP.dsub (sh (4 * i)) (kx_qx kx ky tn i))) (FP.dmul (FP.dsub (sh ((4 * i) + 1)) (kx_qy kx ky tn i)) (FP.dsub (sh ((4 * i) + 1)) (kx_qy kx ky tn i)))))), (11, .double (FP.dsub (sh ((4 * i) + 1)) (kx_qy kx ky tn i))), (9, .double (FP.dsub (sh (4 * i)) (kx_qx kx ky tn i))), (7, .double (kx_qy kx ky tn i)), (5, .double (kx_qx kx ky tn i)), (4, .int (nI i)), (1, .int tn), (0, .ref m0)]) hx hb dX5_apartBy_167 rfl hl (by decide) rfl (fun ls hl => ?_)
                  refine lv_iinc (v := nI (i + 1)) (lv' := [(4, .int (nI (i + 1))), (2, .double (FP.dadd (kx_sum (fun i => kx_d2 (sh (4 * i)) (sh (4 * i + 1)) (kx_qx kx ky tn i) (kx_qy kx ky tn i)) i) (FP.dadd (FP.dmul (FP.dsub (sh (4 * i)) (kx_qx kx ky tn i)) (FP.dsub (sh (4 * i)) (kx_qx kx ky tn i))) (FP.dmul (FP.dsub (sh ((4 * i) + 1)) (kx_qy kx ky tn i)) (FP.dsub (sh ((4 * i) + 1)) (kx_qy kx ky tn i)))))), (11, .double (FP.dsub (sh ((4 * i) + 1)) (kx_qy kx ky tn i))), (9, .double (FP.dsub (sh (4 * i)) (kx_qx kx ky tn i))), (7, .double (kx_qy kx ky tn i)), (5, .double (kx_qx kx ky tn i)), (1, .int tn), (0, .ref m0)]) hx hb dX5_apartBy_168 hl (k := 5) rfl (by show _ + 1 = _; exact nI_1 _) (by decide) rfl (fun ls hl => ?_)
                  refine lv_goto (tgt := 5) hx hb dX5_apartBy_171 (by decide) ?_
                  exact ih (i + 1) _ (by omega) rfl _ (lv_sub hl [0, 1, 6, 7] rfl)
              · refine lv_aload_n hx hb dX5_apartBy_73 rfl (lv_at hl 4 rfl) ?_
                refine va_get (D := G.1) (ci := 6) (v := .ref m12) (C := RX5) (T := TX5) (N := 19) hx hb hts hin_X5 hown hT.1 hP 0 rfl rfl 18 (by decide) hf_45 (fun _ h9 => h9) rfl dX5_apartBy_74 ?_
                refine lv_iload hx hb dX5_apartBy_77 (lv_at hl 1 rfl) ?_
                refine kx_dald hx hb hT hP 12 rfl i (by omega) (by omega) dX5_apartBy_79 ?_
                refine lv_goto (tgt := 122) hx hb dX5_apartBy_80 (by decide) ?_
                refine kx_ed (y := kx_qy kx ky tn i) (by unfold kx_qy; rw [if_pos c_6]) ?_
                refine lv_dstore (lv' := [(7, .double (kx_qy kx ky tn i)), (5, .double (kx_qx kx ky tn i)), (4, .int (nI i)), (2, .double (kx_sum (fun i => kx_d2 (sh (4 * i)) (sh (4 * i + 1)) (kx_qx kx ky tn i) (kx_qy kx ky tn i)) i)), (1, .int tn), (0, .ref m0)]) hx hb dX5_apartBy_122 hl (by decide) rfl (fun ls hl => ?_)
                refine lv_aload_n hx hb dX5_apartBy_124 rfl (lv_at hl 5 rfl) ?_
                refine va_get (D := G.1) (ci := 6) (v := .ref m7) (C := RX5) (T := TX5) (N := 19) hx hb hts hin_X5 hown hT.1 hP 0 rfl rfl 11 (by decide) hf_29 (fun _ h9 => h9) rfl dX5_apartBy_125 ?_
                refine lv_iconst (v := 4) hx hb dX5_apartBy_128 (by decide) ?_
                refine lv_iload hx hb dX5_apartBy_129 (lv_at hl 2 rfl) ?_
                refine lv_imul hx hb dX5_apartBy_131 ?_
                refine kx_ei (y := nI (4 * i)) (pk_mul 4 i) ?_
                refine kx_dald hx hb hT hP 7 rfl (4 * i) (by omega) (by omega) dX5_apartBy_132 ?_
                refine lv_dload hx hb dX5_apartBy_133 (lv_at hl 1 rfl) ?_
                refine lv_dsub hx hb dX5_apartBy_135 (fx_bd.sub (hb_sh (4 * i)) (kx_qx_bd hb_kx hb_ky) (by omega)).n ?_
                refine lv_dstore (lv' := [(9, .double (FP.dsub (sh (4 * i)) (kx_qx kx ky tn i))), (7, .double (kx_qy kx ky tn i)), (5, .double (kx_qx kx ky tn i)), (4, .int (nI i)), (2, .double (kx_sum (fun i => kx_d2 (sh (4 * i)) (sh (4 * i + 1)) (kx_qx kx ky tn i) (kx_qy kx ky tn i)) i)), (1, .int tn), (0, .ref m0)]) hx hb dX5_apartBy_136 hl (by decide) rfl (fun ls hl => ?_)
                refine lv_aload_n hx hb dX5_apartBy_138 rfl (lv_at hl 6 rfl) ?_
                refine va_get (D := G.1) (ci := 6) (v := .ref m7) (C := RX5) (T := TX5) (N := 19) hx hb hts hin_X5 hown hT.1 hP 0 rfl rfl 11 (by decide) hf_29 (fun _ h9 => h9) rfl dX5_apartBy_139 ?_
                refine lv_iconst (v := 4) hx hb dX5_apartBy_142 (by decide) ?_
                refine lv_iload hx hb dX5_apartBy_143 (lv_at hl 3 rfl) ?_
                refine lv_imul hx hb dX5_apartBy_145 ?_
                refine kx_ei (y := nI (4 * i)) (pk_mul 4 i) ?_
                refine lv_iconst (v := 1) hx hb dX5_apartBy_146 (by decide) ?_
                refine lv_iadd hx hb dX5_apartBy_147 ?_
                refine kx_ei (y := nI ((4 * i) + 1)) (nI_add (4 * i) 1) ?_
                refine kx_dald hx hb hT hP 7 rfl ((4 * i) + 1) (by omega) (by omega) dX5_apartBy_148 ?_
                refine lv_dload hx hb dX5_apartBy_149 (lv_at hl 1 rfl) ?_
                refine lv_dsub hx hb dX5_apartBy_151 (fx_bd.sub (hb_sh ((4 * i) + 1)) (kx_qy_bd hb_kx hb_ky) (by omega)).n ?_
                refine lv_dstore (lv' := [(11, .double (FP.dsub (sh ((4 * i) + 1)) (kx_qy kx ky tn i))), (9, .double (FP.dsub (sh (4 * i)) (kx_qx kx ky tn i))), (7, .double (kx_qy kx ky tn i)), (5, .double (kx_qx kx ky tn i)), (4, .int (nI i)), (2, .double (kx_sum (fun i => kx_d2 (sh (4 * i)) (sh (4 * i + 1)) (kx_qx kx ky tn i) (kx_qy kx ky tn i)) i)), (1, .int tn), (0, .ref m0)]) hx hb dX5_apartBy_152 hl (by decide) rfl (fun ls hl => ?_)
                refine lv_dload_n hx hb dX5_apartBy_154 rfl (lv_at hl 5 rfl) ?_
                refine lv_dload hx hb dX5_apartBy_155 (lv_at hl 1 rfl) ?_
                refine lv_dload hx hb dX5_apartBy_157 (lv_at hl 1 rfl) ?_
                refine lv_dmul hx hb dX5_apartBy_159 (fx_bd.mul (fx_bd.sub (hb_sh (4 * i)) (kx_qx_bd hb_kx hb_ky) (by omega)) (fx_bd.sub (hb_sh (4 * i)) (kx_qx_bd hb_kx hb_ky) (by omega)) (by omega)).n ?_
                refine lv_dload hx hb dX5_apartBy_160 (lv_at hl 0 rfl) ?_
                refine lv_dload hx hb dX5_apartBy_162 (lv_at hl 0 rfl) ?_
                refine lv_dmul hx hb dX5_apartBy_164 (fx_bd.mul (fx_bd.sub (hb_sh ((4 * i) + 1)) (kx_qy_bd hb_kx hb_ky) (by omega)) (fx_bd.sub (hb_sh ((4 * i) + 1)) (kx_qy_bd hb_kx hb_ky) (by omega)) (by omega)).n ?_
                refine lv_dadd hx hb dX5_apartBy_165 (fx_bd.add (fx_bd.mul (fx_bd.sub (hb_sh (4 * i)) (kx_qx_bd hb_kx hb_ky) (by omega)) (fx_bd.sub (hb_sh (4 * i)) (kx_qx_bd hb_kx hb_ky) (by omega)) (by omega)) (fx_bd.mul (fx_bd.sub (hb_sh ((4 * i) + 1)) (kx_qy_bd hb_kx hb_ky) (by omega)) (fx_bd.sub (hb_sh ((4 * i) + 1)) (kx_qy_bd hb_kx hb_ky) (by omega)) (by omega)) (by omega)).n ?_
                refine lv_dadd hx hb dX5_apartBy_166 (fx_bd.add (kx_sum_bd (K := 447) (fun j => kx_d2_bd (hb_sh (4 * j)) (hb_sh (4 * j + 1)) (kx_qx_bd hb_kx hb_ky) (kx_qy_bd hb_kx hb_ky)) i (by omega)) (fx_bd.add (fx_bd.mul (fx_bd.sub (hb_sh (4 * i)) (kx_qx_bd hb_kx hb_ky) (by omega)) (fx_bd.sub (hb_sh (4 * i)) (kx_qx_bd hb_kx hb_ky) (by omega)) (by omega)) (fx_bd.mul (fx_bd.sub (hb_sh ((4 * i) + 1)) (kx_qy_bd hb_kx hb_ky) (by omega)) (fx_bd.sub (hb_sh ((4 * i) + 1)) (kx_qy_bd hb_kx hb_ky) (by omega)) (by omega)) (by omega)) (by omega)).n ?_
                refine lv_dstore_n (lv' := [(2, .double (FP.dadd (kx_sum (fun i => kx_d2 (sh (4 * i)) (sh (4 * i + 1)) (kx_qx kx ky tn i) (kx_qy kx ky tn i)) i) (FP.dadd (FP.dmul (FP.dsub (sh (4 * i)) (kx_qx kx ky tn i)) (FP.dsub (sh (4 * i)) (kx_qx kx ky tn i))) (FP.dmul (FP.dsub (sh ((4 * i) + 1)) (kx_qy kx ky tn i)) (FP.dsub (sh ((4 * i) + 1)) (kx_qy kx ky tn i)))))), (11, .double (FP.dsub (sh ((4 * i) + 1)) (kx_qy kx ky tn i))), (9, .double (FP.dsub (sh (4 * i)) (kx_qx kx ky tn i))), (7, .double (kx_qy kx ky tn i)), (5, .double (kx_qx kx ky tn i)), (4, .int (nI i)), (1, .int tn), (0, .ref m0)]) hx hb dX5_apartBy_167 rfl hl (by decide) rfl (fun ls hl => ?_)
                refine lv_iinc (v := nI (i + 1)) (lv' := [(4, .int (nI (i + 1))), (2, .double (FP.dadd (kx_sum (fun i => kx_d2 (sh (4 * i)) (sh (4 * i + 1)) (kx_qx kx ky tn i) (kx_qy kx ky tn i)) i) (FP.dadd (FP.dmul (FP.dsub (sh (4 * i)) (kx_qx kx ky tn i)) (FP.dsub (sh (4 * i)) (kx_qx kx ky tn i))) (FP.dmul (FP.dsub (sh ((4 * i) + 1)) (kx_qy kx ky tn i)) (FP.dsub (sh ((4 * i) + 1)) (kx_qy kx ky tn i)))))), (11, .double (FP.dsub (sh ((4 * i) + 1)) (kx_qy kx ky tn i))), (9, .double (FP.dsub (sh (4 * i)) (kx_qx kx ky tn i))), (7, .double (kx_qy kx ky tn i)), (5, .double (kx_qx kx ky tn i)), (1, .int tn), (0, .ref m0)]) hx hb dX5_apartBy_168 hl (k := 5) rfl (by show _ + 1 = _; exact nI_1 _) (by decide) rfl (fun ls hl => ?_)
                refine lv_goto (tgt := 5) hx hb dX5_apartBy_171 (by decide) ?_
                exact ih (i + 1) _ (by omega) rfl _ (lv_sub hl [0, 1, 6, 7] rfl)
            · refine lv_aload_n hx hb dX5_apartBy_49 rfl (lv_at hl 3 rfl) ?_
              refine va_get (D := G.1) (ci := 6) (v := .ref m11) (C := RX5) (T := TX5) (N := 19) hx hb hts hin_X5 hown hT.1 hP 0 rfl rfl 17 (by decide) hf_42 (fun _ h9 => h9) rfl dX5_apartBy_50 ?_
              refine lv_iload hx hb dX5_apartBy_53 (lv_at hl 0 rfl) ?_
              refine kx_dald hx hb hT hP 11 rfl i (by omega) (by omega) dX5_apartBy_55 ?_
              refine lv_dneg hx hb dX5_apartBy_56 ?_
              refine lv_goto (tgt := 67) hx hb dX5_apartBy_57 (by decide) ?_
              refine kx_ed (y := kx_qx kx ky tn i) (by unfold kx_qx; rw [if_neg c_3, if_neg c_4, if_pos c_5]) ?_
              refine lv_dstore (lv' := [(5, .double (kx_qx kx ky tn i)), (4, .int (nI i)), (2, .double (kx_sum (fun i => kx_d2 (sh (4 * i)) (sh (4 * i + 1)) (kx_qx kx ky tn i) (kx_qy kx ky tn i)) i)), (1, .int tn), (0, .ref m0)]) hx hb dX5_apartBy_67 hl (by decide) rfl (fun ls hl => ?_)
              refine lv_iload_n hx hb dX5_apartBy_69 rfl (lv_at hl 3 rfl) ?_
              refine lv_if_ne (x := tn) (tgt := 83) hx hb dX5_apartBy_70 (by decide) (fun c_9 => ?_) (fun c_9 => ?_)
              · refine lv_iload_n hx hb dX5_apartBy_83 rfl (lv_at hl 3 rfl) ?_
                refine lv_iconst (v := 1) hx hb dX5_apartBy_84 (by decide) ?_
                refine lv_icmp_ne (x := tn) (y := 1) (tgt := 98) hx hb dX5_apartBy_85 (by decide) (fun c_10 => ?_) (fun c_10 => ?_)
                · refine lv_iload_n hx hb dX5_apartBy_98 rfl (lv_at hl 3 rfl) ?_
                  refine lv_iconst (v := 2) hx hb dX5_apartBy_99 (by decide) ?_
                  refine lv_icmp_ne (x := tn) (y := 2) (tgt := 114) hx hb dX5_apartBy_100 (by decide) (fun c_11 => ?_) (fun c_11 => ?_)
                  · refine lv_aload_n hx hb dX5_apartBy_114 rfl (lv_at hl 4 rfl) ?_
                    refine va_get (D := G.1) (ci := 6) (v := .ref m11) (C := RX5) (T := TX5) (N := 19) hx hb hts hin_X5 hown hT.1 hP 0 rfl rfl 17 (by decide) hf_42 (fun _ h9 => h9) rfl dX5_apartBy_115 ?_
                    refine lv_iload hx hb dX5_apartBy_118 (lv_at hl 1 rfl) ?_
                    refine kx_dald hx hb hT hP 11 rfl i (by omega) (by omega) dX5_apartBy_120 ?_
                    refine lv_dneg hx hb dX5_apartBy_121 ?_
                    refine kx_ed (y := kx_qy kx ky tn i) (by unfold kx_qy; rw [if_neg c_9, if_neg c_10, if_neg c_11]) ?_
                    refine lv_dstore (lv' := [(7, .double (kx_qy kx ky tn i)), (5, .double (kx_qx kx ky tn i)), (4, .int (nI i)), (2, .double (kx_sum (fun i => kx_d2 (sh (4 * i)) (sh (4 * i + 1)) (kx_qx kx ky tn i) (kx_qy kx ky tn i)) i)), (1, .int tn), (0, .ref m0)]) hx hb dX5_apartBy_122 hl (by decide) rfl (fun ls hl => ?_)
                    refine lv_aload_n hx hb dX5_apartBy_124 rfl (lv_at hl 5 rfl) ?_
                    refine va_get (D := G.1) (ci := 6) (v := .ref m7) (C := RX5) (T := TX5) (N := 19) hx hb hts hin_X5 hown hT.1 hP 0 rfl rfl 11 (by decide) hf_29 (fun _ h9 => h9) rfl dX5_apartBy_125 ?_
                    refine lv_iconst (v := 4) hx hb dX5_apartBy_128 (by decide) ?_
                    refine lv_iload hx hb dX5_apartBy_129 (lv_at hl 2 rfl) ?_
                    refine lv_imul hx hb dX5_apartBy_131 ?_
                    refine kx_ei (y := nI (4 * i)) (pk_mul 4 i) ?_
                    refine kx_dald hx hb hT hP 7 rfl (4 * i) (by omega) (by omega) dX5_apartBy_132 ?_
                    refine lv_dload hx hb dX5_apartBy_133 (lv_at hl 1 rfl) ?_
                    refine lv_dsub hx hb dX5_apartBy_135 (fx_bd.sub (hb_sh (4 * i)) (kx_qx_bd hb_kx hb_ky) (by omega)).n ?_
                    refine lv_dstore (lv' := [(9, .double (FP.dsub (sh (4 * i)) (kx_qx kx ky tn i))), (7, .double (kx_qy kx ky tn i)), (5, .double (kx_qx kx ky tn i)), (4, .int (nI i)), (2, .double (kx_sum (fun i => kx_d2 (sh (4 * i)) (sh (4 * i + 1)) (kx_qx kx ky tn i) (kx_qy kx ky tn i)) i)), (1, .int tn), (0, .ref m0)]) hx hb dX5_apartBy_136 hl (by decide) rfl (fun ls hl => ?_)
                    refine lv_aload_n hx hb dX5_apartBy_138 rfl (lv_at hl 6 rfl) ?_
                    refine va_get (D := G.1) (ci := 6) (v := .ref m7) (C := RX5) (T := TX5) (N := 19) hx hb hts hin_X5 hown hT.1 hP 0 rfl rfl 11 (by decide) hf_29 (fun _ h9 => h9) rfl dX5_apartBy_139 ?_
                    refine lv_iconst (v := 4) hx hb dX5_apartBy_142 (by decide) ?_
                    refine lv_iload hx hb dX5_apartBy_143 (lv_at hl 3 rfl) ?_
                    refine lv_imul hx hb dX5_apartBy_145 ?_
                    refine kx_ei (y := nI (4 * i)) (pk_mul 4 i) ?_
                    refine lv_iconst (v := 1) hx hb dX5_apartBy_146 (by decide) ?_
                    refine lv_iadd hx hb dX5_apartBy_147 ?_
                    refine kx_ei (y := nI ((4 * i) + 1)) (nI_add (4 * i) 1) ?_
                    refine kx_dald hx hb hT hP 7 rfl ((4 * i) + 1) (by omega) (by omega) dX5_apartBy_148 ?_
                    refine lv_dload hx hb dX5_apartBy_149 (lv_at hl 1 rfl) ?_
                    refine lv_dsub hx hb dX5_apartBy_151 (fx_bd.sub (hb_sh ((4 * i) + 1)) (kx_qy_bd hb_kx hb_ky) (by omega)).n ?_
                    refine lv_dstore (lv' := [(11, .double (FP.dsub (sh ((4 * i) + 1)) (kx_qy kx ky tn i))), (9, .double (FP.dsub (sh (4 * i)) (kx_qx kx ky tn i))), (7, .double (kx_qy kx ky tn i)), (5, .double (kx_qx kx ky tn i)), (4, .int (nI i)), (2, .double (kx_sum (fun i => kx_d2 (sh (4 * i)) (sh (4 * i + 1)) (kx_qx kx ky tn i) (kx_qy kx ky tn i)) i)), (1, .int tn), (0, .ref m0)]) hx hb dX5_apartBy_152 hl (by decide) rfl (fun ls hl => ?_)
                    refine lv_dload_n hx hb dX5_apartBy_154 rfl (lv_at hl 5 rfl) ?_
                    refine lv_dload hx hb dX5_apartBy_155 (lv_at hl 1 rfl) ?_
                    refine lv_dload hx hb dX5_apartBy_157 (lv_at hl 1 rfl) ?_
                    refine lv_dmul hx hb dX5_apartBy_159 (fx_bd.mul (fx_bd.sub (hb_sh (4 * i)) (kx_qx_bd hb_kx hb_ky) (by omega)) (fx_bd.sub (hb_sh (4 * i)) (kx_qx_bd hb_kx hb_ky) (by omega)) (by omega)).n ?_
                    refine lv_dload hx hb dX5_apartBy_160 (lv_at hl 0 rfl) ?_
                    refine lv_dload hx hb dX5_apartBy_162 (lv_at hl 0 rfl) ?_
                    refine lv_dmul hx hb dX5_apartBy_164 (fx_bd.mul (fx_bd.sub (hb_sh ((4 * i) + 1)) (kx_qy_bd hb_kx hb_ky) (by omega)) (fx_bd.sub (hb_sh ((4 * i) + 1)) (kx_qy_bd hb_kx hb_ky) (by omega)) (by omega)).n ?_
                    refine lv_dadd hx hb dX5_apartBy_165 (fx_bd.add (fx_bd.mul (fx_bd.sub (hb_sh (4 * i)) (kx_qx_bd hb_kx hb_ky) (by omega)) (fx_bd.sub (hb_sh (4 * i)) (kx_qx_bd hb_kx hb_ky) (by omega)) (by omega)) (fx_bd.mul (fx_bd.sub (hb_sh ((4 * i) + 1)) (kx_qy_bd hb_kx hb_ky) (by omega)) (fx_bd.sub (hb_sh ((4 * i) + 1)) (kx_qy_bd hb_kx hb_ky) (by omega)) (by omega)) (by omega)).n ?_
                    refine lv_dadd hx hb dX5_apartBy_166 (fx_bd.add (kx_sum_bd (K := 447) (fun j => kx_d2_bd (hb_sh (4 * j)) (hb_sh (4 * j + 1)) (kx_qx_bd hb_kx hb_ky) (kx_qy_bd hb_kx hb_ky)) i (by omega)) (fx_bd.add (fx_bd.mul (fx_bd.sub (hb_sh (4 * i)) (kx_qx_bd hb_kx hb_ky) (by omega)) (fx_bd.sub (hb_sh (4 * i)) (kx_qx_bd hb_kx hb_ky) (by omega)) (by omega)) (fx_bd.mul (fx_bd.sub (hb_sh ((4 * i) + 1)) (kx_qy_bd hb_kx hb_ky) (by omega)) (fx_bd.sub (hb_sh ((4 * i) + 1)) (kx_qy_bd hb_kx hb_ky) (by omega)) (by omega)) (by omega)) (by omega)).n ?_
                    refine lv_dstore_n (lv' := [(2, .double (FP.dadd (kx_sum (fun i => kx_d2 (sh (4 * i)) (sh (4 * i + 1)) (kx_qx kx ky tn i) (kx_qy kx ky tn i)) i) (FP.dadd (FP.dmul (FP.dsub (sh (4 * i)) (kx_qx kx ky tn i)) (FP.dsub (sh (4 * i)) (kx_qx kx ky tn i))) (FP.dmul (FP.dsub (sh ((4 * i) + 1)) (kx_qy kx ky tn i)) (FP.dsub (sh ((4 * i) + 1)) (kx_qy kx ky tn i)))))), (11, .double (FP.dsub (sh ((4 * i) + 1)) (kx_qy kx ky tn i))), (9, .double (FP.dsub (sh (4 * i)) (kx_qx kx ky tn i))), (7, .double (kx_qy kx ky tn i)), (5, .double (kx_qx kx ky tn i)), (4, .int (nI i)), (1, .int tn), (0, .ref m0)]) hx hb dX5_apartBy_167 rfl hl (by decide) rfl (fun ls hl => ?_)
                    refine lv_iinc (v := nI (i + 1)) (lv' := [(4, .int (nI (i + 1))), (2, .double (FP.dadd (kx_sum (fun i => kx_d2 (sh (4 * i)) (sh (4 * i + 1)) (kx_qx kx ky tn i) (kx_qy kx ky tn i)) i) (FP.dadd (FP.dmul (FP.dsub (sh (4 * i)) (kx_qx kx ky tn i)) (FP.dsub (sh (4 * i)) (kx_qx kx ky tn i))) (FP.dmul (FP.dsub (sh ((4 * i) + 1)) (kx_qy kx ky tn i)) (FP.dsub (sh ((4 * i) + 1)) (kx_qy kx ky tn i)))))), (11, .double (FP.dsub (sh ((4 * i) + 1)) (kx_qy kx ky tn i))), (9, .double (FP.dsub (sh (4 * i)) (kx_qx kx ky tn i))), (7, .double (kx_qy kx ky tn i)), (5, .double (kx_qx kx ky tn i)), (1, .int tn), (0, .ref m0)]) hx hb dX5_apartBy_168 hl (k := 5) rfl (by show _ + 1 = _; exact nI_1 _) (by decide) rfl (fun ls hl => ?_)
                    refine lv_goto (tgt := 5) hx hb dX5_apartBy_171 (by decide) ?_
                    exact ih (i + 1) _ (by omega) rfl _ (lv_sub hl [0, 1, 6, 7] rfl)
                  · refine lv_aload_n hx hb dX5_apartBy_103 rfl (lv_at hl 4 rfl) ?_
                    refine va_get (D := G.1) (ci := 6) (v := .ref m12) (C := RX5) (T := TX5) (N := 19) hx hb hts hin_X5 hown hT.1 hP 0 rfl rfl 18 (by decide) hf_45 (fun _ h9 => h9) rfl dX5_apartBy_104 ?_
                    refine lv_iload hx hb dX5_apartBy_107 (lv_at hl 1 rfl) ?_
                    refine kx_dald hx hb hT hP 12 rfl i (by omega) (by omega) dX5_apartBy_109 ?_
                    refine lv_dneg hx hb dX5_apartBy_110 ?_
                    refine lv_goto (tgt := 122) hx hb dX5_apartBy_111 (by decide) ?_
                    refine kx_ed (y := kx_qy kx ky tn i) (by unfold kx_qy; rw [if_neg c_9, if_neg c_10, if_pos c_11]) ?_
                    refine lv_dstore (lv' := [(7, .double (kx_qy kx ky tn i)), (5, .double (kx_qx kx ky tn i)), (4, .int (nI i)), (2, .double (kx_sum (fun i => kx_d2 (sh (4 * i)) (sh (4 * i + 1)) (kx_qx kx ky tn i) (kx_qy kx ky tn i)) i)), (1, .int tn), (0, .ref m0)]) hx hb dX5_apartBy_122 hl (by decide) rfl (fun ls hl => ?_)
                    refine lv_aload_n hx hb dX5_apartBy_124 rfl (lv_at hl 5 rfl) ?_
                    refine va_get (D := G.1) (ci := 6) (v := .ref m7) (C := RX5) (T := TX5) (N := 19) hx hb hts hin_X5 hown hT.1 hP 0 rfl rfl 11 (by decide) hf_29 (fun _ h9 => h9) rfl dX5_apartBy_125 ?_
                    refine lv_iconst (v := 4) hx hb dX5_apartBy_128 (by decide) ?_
                    refine lv_iload hx hb dX5_apartBy_129 (lv_at hl 2 rfl) ?_
                    refine lv_imul hx hb dX5_apartBy_131 ?_
                    refine kx_ei (y := nI (4 * i)) (pk_mul 4 i) ?_
                    refine kx_dald hx hb hT hP 7 rfl (4 * i) (by omega) (by omega) dX5_apartBy_132 ?_
                    refine lv_dload hx hb dX5_apartBy_133 (lv_at hl 1 rfl) ?_
                    refine lv_dsub hx hb dX5_apartBy_135 (fx_bd.sub (hb_sh (4 * i)) (kx_qx_bd hb_kx hb_ky) (by omega)).n ?_
                    refine lv_dstore (lv' := [(9, .double (FP.dsub (sh (4 * i)) (kx_qx kx ky tn i))), (7, .double (kx_qy kx ky tn i)), (5, .double (kx_qx kx ky tn i)), (4, .int (nI i)), (2, .double (kx_sum (fun i => kx_d2 (sh (4 * i)) (sh (4 * i + 1)) (kx_qx kx ky tn i) (kx_qy kx ky tn i)) i)), (1, .int tn), (0, .ref m0)]) hx hb dX5_apartBy_136 hl (by decide) rfl (fun ls hl => ?_)
                    refine lv_aload_n hx hb dX5_apartBy_138 rfl (lv_at hl 6 rfl) ?_
                    refine va_get (D := G.1) (ci := 6) (v := .ref m7) (C := RX5) (T := TX5) (N := 19) hx hb hts hin_X5 hown hT.1 hP 0 rfl rfl 11 (by decide) hf_29 (fun _ h9 => h9) rfl dX5_apartBy_139 ?_
                    refine lv_iconst (v := 4) hx hb dX5_apartBy_142 (by decide) ?_
                    refine lv_iload hx hb dX5_apartBy_143 (lv_at hl 3 rfl) ?_
                    refine lv_imul hx hb dX5_apartBy_145 ?_
                    refine kx_ei (y := nI (4 * i)) (pk_mul 4 i) ?_
                    refine lv_iconst (v := 1) hx hb dX5_apartBy_146 (by decide) ?_
                    refine lv_iadd hx hb dX5_apartBy_147 ?_
                    refine kx_ei (y := nI ((4 * i) + 1)) (nI_add (4 * i) 1) ?_
                    refine kx_dald hx hb hT hP 7 rfl ((4 * i) + 1) (by omega) (by omega) dX5_apartBy_148 ?_
                    refine lv_dload hx hb dX5_apartBy_149 (lv_at hl 1 rfl) ?_
                    refine lv_dsub hx hb dX5_apartBy_151 (fx_bd.sub (hb_sh ((4 * i) + 1)) (kx_qy_bd hb_kx hb_ky) (by omega)).n ?_
                    refine lv_dstore (lv' := [(11, .double (FP.dsub (sh ((4 * i) + 1)) (kx_qy kx ky tn i))), (9, .double (FP.dsub (sh (4 * i)) (kx_qx kx ky tn i))), (7, .double (kx_qy kx ky tn i)), (5, .double (kx_qx kx ky tn i)), (4, .int (nI i)), (2, .double (kx_sum (fun i => kx_d2 (sh (4 * i)) (sh (4 * i + 1)) (kx_qx kx ky tn i) (kx_qy kx ky tn i)) i)), (1, .int tn), (0, .ref m0)]) hx hb dX5_apartBy_152 hl (by decide) rfl (fun ls hl => ?_)
                    refine lv_dload_n hx hb dX5_apartBy_154 rfl (lv_at hl 5 rfl) ?_
                    refine lv_dload hx hb dX5_apartBy_155 (lv_at hl 1 rfl) ?_
                    refine lv_dload hx hb dX5_apartBy_157 (lv_at hl 1 rfl) ?_
                    refine lv_dmul hx hb dX5_apartBy_159 (fx_bd.mul (fx_bd.sub (hb_sh (4 * i)) (kx_qx_bd hb_kx hb_ky) (by omega)) (fx_bd.sub (hb_sh (4 * i)) (kx_qx_bd hb_kx hb_ky) (by omega)) (by omega)).n ?_
                    refine lv_dload hx hb dX5_apartBy_160 (lv_at hl 0 rfl) ?_
                    refine lv_dload hx hb dX5_apartBy_162 (lv_at hl 0 rfl) ?_
                    refine lv_dmul hx hb dX5_apartBy_164 (fx_bd.mul (fx_bd.sub (hb_sh ((4 * i) + 1)) (kx_qy_bd hb_kx hb_ky) (by omega)) (fx_bd.sub (hb_sh ((4 * i) + 1)) (kx_qy_bd hb_kx hb_ky) (by omega)) (by omega)).n ?_
                    refine lv_dadd hx hb dX5_apartBy_165 (fx_bd.add (fx_bd.mul (fx_bd.sub (hb_sh (4 * i)) (kx_qx_bd hb_kx hb_ky) (by omega)) (fx_bd.sub (hb_sh (4 * i)) (kx_qx_bd hb_kx hb_ky) (by omega)) (by omega)) (fx_bd.mul (fx_bd.sub (hb_sh ((4 * i) + 1)) (kx_qy_bd hb_kx hb_ky) (by omega)) (fx_bd.sub (hb_sh ((4 * i) + 1)) (kx_qy_bd hb_kx hb_ky) (by omega)) (by omega)) (by omega)).n ?_
                    refine lv_dadd hx hb dX5_apartBy_166 (fx_bd.add (kx_sum_bd (K := 447) (fun j => kx_d2_bd (hb_sh (4 * j)) (hb_sh (4 * j + 1)) (kx_qx_bd hb_kx hb_ky) (kx_qy_bd hb_kx hb_ky)) i (by omega)) (fx_bd.add (fx_bd.mul (fx_bd.sub (hb_sh (4 * i)) (kx_qx_bd hb_kx hb_ky) (by omega)) (fx_bd.sub (hb_sh (4 * i)) (kx_qx_bd hb_kx hb_ky) (by omega)) (by omega)) (fx_bd.mul (fx_bd.sub (hb_sh ((4 * i) + 1)) (kx_qy_bd hb_kx hb_ky) (by omega)) (fx_bd.sub (hb_sh ((4 * i) + 1)) (kx_qy_bd hb_kx hb_ky) (by omega)) (by omega)) (by omega)) (by omega)).n ?_
                    refine lv_dstore_n (lv' := [(2, .double (FP.dadd (kx_sum (fun i => kx_d2 (sh (4 * i)) (sh (4 * i + 1)) (kx_qx kx ky tn i) (kx_qy kx ky tn i)) i) (FP.dadd (FP.dmul (FP.dsub (sh (4 * i)) (kx_qx kx ky tn i)) (FP.dsub (sh (4 * i)) (kx_qx kx ky tn i))) (FP.dmul (FP.dsub (sh ((4 * i) + 1)) (kx_qy kx ky tn i)) (FP.dsub (sh ((4 * i) + 1)) (kx_qy kx ky tn i)))))), (11, .double (FP.dsub (sh ((4 * i) + 1)) (kx_qy kx ky tn i))), (9, .double (FP.dsub (sh (4 * i)) (kx_qx kx ky tn i))), (7, .double (kx_qy kx ky tn i)), (5, .double (kx_qx kx ky tn i)), (4, .int (nI i)), (1, .int tn), (0, .ref m0)]) hx hb dX5_apartBy_167 rfl hl (by decide) rfl (fun ls hl => ?_)
                    refine lv_iinc (v := nI (i + 1)) (lv' := [(4, .int (nI (i + 1))), (2, .double (FP.dadd (kx_sum (fun i => kx_d2 (sh (4 * i)) (sh (4 * i + 1)) (kx_qx kx ky tn i) (kx_qy kx ky tn i)) i) (FP.dadd (FP.dmul (FP.dsub (sh (4 * i)) (kx_qx kx ky tn i)) (FP.dsub (sh (4 * i)) (kx_qx kx ky tn i))) (FP.dmul (FP.dsub (sh ((4 * i) + 1)) (kx_qy kx ky tn i)) (FP.dsub (sh ((4 * i) + 1)) (kx_qy kx ky tn i)))))), (11, .double (FP.dsub (sh ((4 * i) + 1)) (kx_qy kx ky tn i))), (9, .double (FP.dsub (sh (4 * i)) (kx_qx kx ky tn i))), (7, .double (kx_qy kx ky tn i)), (5, .double (kx_qx kx ky tn i)), (1, .int tn), (0, .ref m0)]) hx hb dX5_apartBy_168 hl (k := 5) rfl (by show _ + 1 = _; exact nI_1 _) (by decide) rfl (fun ls hl => ?_)
                    refine lv_goto (tgt := 5) hx hb dX5_apartBy_171 (by decide) ?_
                    exact ih (i + 1) _ (by omega) rfl _ (lv_sub hl [0, 1, 6, 7] rfl)
                · refine lv_aload_n hx hb dX5_apartBy_88 rfl (lv_at hl 4 rfl) ?_
                  refine va_get (D := G.1) (ci := 6) (v := .ref m11) (C := RX5) (T := TX5) (N := 19) hx hb hts hin_X5 hown hT.1 hP 0 rfl rfl 17 (by decide) hf_42 (fun _ h9 => h9) rfl dX5_apartBy_89 ?_
                  refine lv_iload hx hb dX5_apartBy_92 (lv_at hl 1 rfl) ?_
                  refine kx_dald hx hb hT hP 11 rfl i (by omega) (by omega) dX5_apartBy_94 ?_
                  refine lv_goto (tgt := 122) hx hb dX5_apartBy_95 (by decide) ?_
                  refine kx_ed (y := kx_qy kx ky tn i) (by unfold kx_qy; rw [if_neg c_9, if_pos c_10]) ?_
                  refine lv_dstore (lv' := [(7, .double (kx_qy kx ky tn i)), (5, .double (kx_qx kx ky tn i)), (4, .int (nI i)), (2, .double (kx_sum (fun i => kx_d2 (sh (4 * i)) (sh (4 * i + 1)) (kx_qx kx ky tn i) (kx_qy kx ky tn i)) i)), (1, .int tn), (0, .ref m0)]) hx hb dX5_apartBy_122 hl (by decide) rfl (fun ls hl => ?_)
                  refine lv_aload_n hx hb dX5_apartBy_124 rfl (lv_at hl 5 rfl) ?_
                  refine va_get (D := G.1) (ci := 6) (v := .ref m7) (C := RX5) (T := TX5) (N := 19) hx hb hts hin_X5 hown hT.1 hP 0 rfl rfl 11 (by decide) hf_29 (fun _ h9 => h9) rfl dX5_apartBy_125 ?_
                  refine lv_iconst (v := 4) hx hb dX5_apartBy_128 (by decide) ?_
                  refine lv_iload hx hb dX5_apartBy_129 (lv_at hl 2 rfl) ?_
                  refine lv_imul hx hb dX5_apartBy_131 ?_
                  refine kx_ei (y := nI (4 * i)) (pk_mul 4 i) ?_
                  refine kx_dald hx hb hT hP 7 rfl (4 * i) (by omega) (by omega) dX5_apartBy_132 ?_
                  refine lv_dload hx hb dX5_apartBy_133 (lv_at hl 1 rfl) ?_
                  refine lv_dsub hx hb dX5_apartBy_135 (fx_bd.sub (hb_sh (4 * i)) (kx_qx_bd hb_kx hb_ky) (by omega)).n ?_
                  refine lv_dstore (lv' := [(9, .double (FP.dsub (sh (4 * i)) (kx_qx kx ky tn i))), (7, .double (kx_qy kx ky tn i)), (5, .double (kx_qx kx ky tn i)), (4, .int (nI i)), (2, .double (kx_sum (fun i => kx_d2 (sh (4 * i)) (sh (4 * i + 1)) (kx_qx kx ky tn i) (kx_qy kx ky tn i)) i)), (1, .int tn), (0, .ref m0)]) hx hb dX5_apartBy_136 hl (by decide) rfl (fun ls hl => ?_)
                  refine lv_aload_n hx hb dX5_apartBy_138 rfl (lv_at hl 6 rfl) ?_
                  refine va_get (D := G.1) (ci := 6) (v := .ref m7) (C := RX5) (T := TX5) (N := 19) hx hb hts hin_X5 hown hT.1 hP 0 rfl rfl 11 (by decide) hf_29 (fun _ h9 => h9) rfl dX5_apartBy_139 ?_
                  refine lv_iconst (v := 4) hx hb dX5_apartBy_142 (by decide) ?_
                  refine lv_iload hx hb dX5_apartBy_143 (lv_at hl 3 rfl) ?_
                  refine lv_imul hx hb dX5_apartBy_145 ?_
                  refine kx_ei (y := nI (4 * i)) (pk_mul 4 i) ?_
                  refine lv_iconst (v := 1) hx hb dX5_apartBy_146 (by decide) ?_
                  refine lv_iadd hx hb dX5_apartBy_147 ?_
                  refine kx_ei (y := nI ((4 * i) + 1)) (nI_add (4 * i) 1) ?_
                  refine kx_dald hx hb hT hP 7 rfl ((4 * i) + 1) (by omega) (by omega) dX5_apartBy_148 ?_
                  refine lv_dload hx hb dX5_apartBy_149 (lv_at hl 1 rfl) ?_
                  refine lv_dsub hx hb dX5_apartBy_151 (fx_bd.sub (hb_sh ((4 * i) + 1)) (kx_qy_bd hb_kx hb_ky) (by omega)).n ?_
                  refine lv_dstore (lv' := [(11, .double (FP.dsub (sh ((4 * i) + 1)) (kx_qy kx ky tn i))), (9, .double (FP.dsub (sh (4 * i)) (kx_qx kx ky tn i))), (7, .double (kx_qy kx ky tn i)), (5, .double (kx_qx kx ky tn i)), (4, .int (nI i)), (2, .double (kx_sum (fun i => kx_d2 (sh (4 * i)) (sh (4 * i + 1)) (kx_qx kx ky tn i) (kx_qy kx ky tn i)) i)), (1, .int tn), (0, .ref m0)]) hx hb dX5_apartBy_152 hl (by decide) rfl (fun ls hl => ?_)
                  refine lv_dload_n hx hb dX5_apartBy_154 rfl (lv_at hl 5 rfl) ?_
                  refine lv_dload hx hb dX5_apartBy_155 (lv_at hl 1 rfl) ?_
                  refine lv_dload hx hb dX5_apartBy_157 (lv_at hl 1 rfl) ?_
                  refine lv_dmul hx hb dX5_apartBy_159 (fx_bd.mul (fx_bd.sub (hb_sh (4 * i)) (kx_qx_bd hb_kx hb_ky) (by omega)) (fx_bd.sub (hb_sh (4 * i)) (kx_qx_bd hb_kx hb_ky) (by omega)) (by omega)).n ?_
                  refine lv_dload hx hb dX5_apartBy_160 (lv_at hl 0 rfl) ?_
                  refine lv_dload hx hb dX5_apartBy_162 (lv_at hl 0 rfl) ?_
                  refine lv_dmul hx hb dX5_apartBy_164 (fx_bd.mul (fx_bd.sub (hb_sh ((4 * i) + 1)) (kx_qy_bd hb_kx hb_ky) (by omega)) (fx_bd.sub (hb_sh ((4 * i) + 1)) (kx_qy_bd hb_kx hb_ky) (by omega)) (by omega)).n ?_
                  refine lv_dadd hx hb dX5_apartBy_165 (fx_bd.add (fx_bd.mul (fx_bd.sub (hb_sh (4 * i)) (kx_qx_bd hb_kx hb_ky) (by omega)) (fx_bd.sub (hb_sh (4 * i)) (kx_qx_bd hb_kx hb_ky) (by omega)) (by omega)) (fx_bd.mul (fx_bd.sub (hb_sh ((4 * i) + 1)) (kx_qy_bd hb_kx hb_ky) (by omega)) (fx_bd.sub (hb_sh ((4 * i) + 1)) (kx_qy_bd hb_kx hb_ky) (by omega)) (by omega)) (by omega)).n ?_
                  refine lv_dadd hx hb dX5_apartBy_166 (fx_bd.add (kx_sum_bd (K := 447) (fun j => kx_d2_bd (hb_sh (4 * j)) (hb_sh (4 * j + 1)) (kx_qx_bd hb_kx hb_ky) (kx_qy_bd hb_kx hb_ky)) i (by omega)) (fx_bd.add (fx_bd.mul (fx_bd.sub (hb_sh (4 * i)) (kx_qx_bd hb_kx hb_ky) (by omega)) (fx_bd.sub (hb_sh (4 * i)) (kx_qx_bd hb_kx hb_ky) (by omega)) (by omega)) (fx_bd.mul (fx_bd.sub (hb_sh ((4 * i) + 1)) (kx_qy_bd hb_kx hb_ky) (by omega)) (fx_bd.sub (hb_sh ((4 * i) + 1)) (kx_qy_bd hb_kx hb_ky) (by omega)) (by omega)) (by omega)) (by omega)).n ?_
                  refine lv_dstore_n (lv' := [(2, .double (FP.dadd (kx_sum (fun i => kx_d2 (sh (4 * i)) (sh (4 * i + 1)) (kx_qx kx ky tn i) (kx_qy kx ky tn i)) i) (FP.dadd (FP.dmul (FP.dsub (sh (4 * i)) (kx_qx kx ky tn i)) (FP.dsub (sh (4 * i)) (kx_qx kx ky tn i))) (FP.dmul (FP.dsub (sh ((4 * i) + 1)) (kx_qy kx ky tn i)) (FP.dsub (sh ((4 * i) + 1)) (kx_qy kx ky tn i)))))), (11, .double (FP.dsub (sh ((4 * i) + 1)) (kx_qy kx ky tn i))), (9, .double (FP.dsub (sh (4 * i)) (kx_qx kx ky tn i))), (7, .double (kx_qy kx ky tn i)), (5, .double (kx_qx kx ky tn i)), (4, .int (nI i)), (1, .int tn), (0, .ref m0)]) hx hb dX5_apartBy_167 rfl hl (by decide) rfl (fun ls hl => ?_)
                  refine lv_iinc (v := nI (i + 1)) (lv' := [(4, .int (nI (i + 1))), (2, .double (FP.dadd (kx_sum (fun i => kx_d2 (sh (4 * i)) (sh (4 * i + 1)) (kx_qx kx ky tn i) (kx_qy kx ky tn i)) i) (FP.dadd (FP.dmul (FP.dsub (sh (4 * i)) (kx_qx kx ky tn i)) (FP.dsub (sh (4 * i)) (kx_qx kx ky tn i))) (FP.dmul (FP.dsub (sh ((4 * i) + 1)) (kx_qy kx ky tn i)) (FP.dsub (sh ((4 * i) + 1)) (kx_qy kx ky tn i)))))), (11, .double (FP.dsub (sh ((4 * i) + 1)) (kx_qy kx ky tn i))), (9, .double (FP.dsub (sh (4 * i)) (kx_qx kx ky tn i))), (7, .double (kx_qy kx ky tn i)), (5, .double (kx_qx kx ky tn i)), (1, .int tn), (0, .ref m0)]) hx hb dX5_apartBy_168 hl (k := 5) rfl (by show _ + 1 = _; exact nI_1 _) (by decide) rfl (fun ls hl => ?_)
                  refine lv_goto (tgt := 5) hx hb dX5_apartBy_171 (by decide) ?_
                  exact ih (i + 1) _ (by omega) rfl _ (lv_sub hl [0, 1, 6, 7] rfl)
              · refine lv_aload_n hx hb dX5_apartBy_73 rfl (lv_at hl 4 rfl) ?_
                refine va_get (D := G.1) (ci := 6) (v := .ref m12) (C := RX5) (T := TX5) (N := 19) hx hb hts hin_X5 hown hT.1 hP 0 rfl rfl 18 (by decide) hf_45 (fun _ h9 => h9) rfl dX5_apartBy_74 ?_
                refine lv_iload hx hb dX5_apartBy_77 (lv_at hl 1 rfl) ?_
                refine kx_dald hx hb hT hP 12 rfl i (by omega) (by omega) dX5_apartBy_79 ?_
                refine lv_goto (tgt := 122) hx hb dX5_apartBy_80 (by decide) ?_
                refine kx_ed (y := kx_qy kx ky tn i) (by unfold kx_qy; rw [if_pos c_9]) ?_
                refine lv_dstore (lv' := [(7, .double (kx_qy kx ky tn i)), (5, .double (kx_qx kx ky tn i)), (4, .int (nI i)), (2, .double (kx_sum (fun i => kx_d2 (sh (4 * i)) (sh (4 * i + 1)) (kx_qx kx ky tn i) (kx_qy kx ky tn i)) i)), (1, .int tn), (0, .ref m0)]) hx hb dX5_apartBy_122 hl (by decide) rfl (fun ls hl => ?_)
                refine lv_aload_n hx hb dX5_apartBy_124 rfl (lv_at hl 5 rfl) ?_
                refine va_get (D := G.1) (ci := 6) (v := .ref m7) (C := RX5) (T := TX5) (N := 19) hx hb hts hin_X5 hown hT.1 hP 0 rfl rfl 11 (by decide) hf_29 (fun _ h9 => h9) rfl dX5_apartBy_125 ?_
                refine lv_iconst (v := 4) hx hb dX5_apartBy_128 (by decide) ?_
                refine lv_iload hx hb dX5_apartBy_129 (lv_at hl 2 rfl) ?_
                refine lv_imul hx hb dX5_apartBy_131 ?_
                refine kx_ei (y := nI (4 * i)) (pk_mul 4 i) ?_
                refine kx_dald hx hb hT hP 7 rfl (4 * i) (by omega) (by omega) dX5_apartBy_132 ?_
                refine lv_dload hx hb dX5_apartBy_133 (lv_at hl 1 rfl) ?_
                refine lv_dsub hx hb dX5_apartBy_135 (fx_bd.sub (hb_sh (4 * i)) (kx_qx_bd hb_kx hb_ky) (by omega)).n ?_
                refine lv_dstore (lv' := [(9, .double (FP.dsub (sh (4 * i)) (kx_qx kx ky tn i))), (7, .double (kx_qy kx ky tn i)), (5, .double (kx_qx kx ky tn i)), (4, .int (nI i)), (2, .double (kx_sum (fun i => kx_d2 (sh (4 * i)) (sh (4 * i + 1)) (kx_qx kx ky tn i) (kx_qy kx ky tn i)) i)), (1, .int tn), (0, .ref m0)]) hx hb dX5_apartBy_136 hl (by decide) rfl (fun ls hl => ?_)
                refine lv_aload_n hx hb dX5_apartBy_138 rfl (lv_at hl 6 rfl) ?_
                refine va_get (D := G.1) (ci := 6) (v := .ref m7) (C := RX5) (T := TX5) (N := 19) hx hb hts hin_X5 hown hT.1 hP 0 rfl rfl 11 (by decide) hf_29 (fun _ h9 => h9) rfl dX5_apartBy_139 ?_
                refine lv_iconst (v := 4) hx hb dX5_apartBy_142 (by decide) ?_
                refine lv_iload hx hb dX5_apartBy_143 (lv_at hl 3 rfl) ?_
                refine lv_imul hx hb dX5_apartBy_145 ?_
                refine kx_ei (y := nI (4 * i)) (pk_mul 4 i) ?_
                refine lv_iconst (v := 1) hx hb dX5_apartBy_146 (by decide) ?_
                refine lv_iadd hx hb dX5_apartBy_147 ?_
                refine kx_ei (y := nI ((4 * i) + 1)) (nI_add (4 * i) 1) ?_
                refine kx_dald hx hb hT hP 7 rfl ((4 * i) + 1) (by omega) (by omega) dX5_apartBy_148 ?_
                refine lv_dload hx hb dX5_apartBy_149 (lv_at hl 1 rfl) ?_
                refine lv_dsub hx hb dX5_apartBy_151 (fx_bd.sub (hb_sh ((4 * i) + 1)) (kx_qy_bd hb_kx hb_ky) (by omega)).n ?_
                refine lv_dstore (lv' := [(11, .double (FP.dsub (sh ((4 * i) + 1)) (kx_qy kx ky tn i))), (9, .double (FP.dsub (sh (4 * i)) (kx_qx kx ky tn i))), (7, .double (kx_qy kx ky tn i)), (5, .double (kx_qx kx ky tn i)), (4, .int (nI i)), (2, .double (kx_sum (fun i => kx_d2 (sh (4 * i)) (sh (4 * i + 1)) (kx_qx kx ky tn i) (kx_qy kx ky tn i)) i)), (1, .int tn), (0, .ref m0)]) hx hb dX5_apartBy_152 hl (by decide) rfl (fun ls hl => ?_)
                refine lv_dload_n hx hb dX5_apartBy_154 rfl (lv_at hl 5 rfl) ?_
                refine lv_dload hx hb dX5_apartBy_155 (lv_at hl 1 rfl) ?_
                refine lv_dload hx hb dX5_apartBy_157 (lv_at hl 1 rfl) ?_
                refine lv_dmul hx hb dX5_apartBy_159 (fx_bd.mul (fx_bd.sub (hb_sh (4 * i)) (kx_qx_bd hb_kx hb_ky) (by omega)) (fx_bd.sub (hb_sh (4 * i)) (kx_qx_bd hb_kx hb_ky) (by omega)) (by omega)).n ?_
                refine lv_dload hx hb dX5_apartBy_160 (lv_at hl 0 rfl) ?_
                refine lv_dload hx hb dX5_apartBy_162 (lv_at hl 0 rfl) ?_
                refine lv_dmul hx hb dX5_apartBy_164 (fx_bd.mul (fx_bd.sub (hb_sh ((4 * i) + 1)) (kx_qy_bd hb_kx hb_ky) (by omega)) (fx_bd.sub (hb_sh ((4 * i) + 1)) (kx_qy_bd hb_kx hb_ky) (by omega)) (by omega)).n ?_
                refine lv_dadd hx hb dX5_apartBy_165 (fx_bd.add (fx_bd.mul (fx_bd.sub (hb_sh (4 * i)) (kx_qx_bd hb_kx hb_ky) (by omega)) (fx_bd.sub (hb_sh (4 * i)) (kx_qx_bd hb_kx hb_ky) (by omega)) (by omega)) (fx_bd.mul (fx_bd.sub (hb_sh ((4 * i) + 1)) (kx_qy_bd hb_kx hb_ky) (by omega)) (fx_bd.sub (hb_sh ((4 * i) + 1)) (kx_qy_bd hb_kx hb_ky) (by omega)) (by omega)) (by omega)).n ?_
                refine lv_dadd hx hb dX5_apartBy_166 (fx_bd.add (kx_sum_bd (K := 447) (fun j => kx_d2_bd (hb_sh (4 * j)) (hb_sh (4 * j + 1)) (kx_qx_bd hb_kx hb_ky) (kx_qy_bd hb_kx hb_ky)) i (by omega)) (fx_bd.add (fx_bd.mul (fx_bd.sub (hb_sh (4 * i)) (kx_qx_bd hb_kx hb_ky) (by omega)) (fx_bd.sub (hb_sh (4 * i)) (kx_qx_bd hb_kx hb_ky) (by omega)) (by omega)) (fx_bd.mul (fx_bd.sub (hb_sh ((4 * i) + 1)) (kx_qy_bd hb_kx hb_ky) (by omega)) (fx_bd.sub (hb_sh ((4 * i) + 1)) (kx_qy_bd hb_kx hb_ky) (by omega)) (by omega)) (by omega)) (by omega)).n ?_
                refine lv_dstore_n (lv' := [(2, .double (FP.dadd (kx_sum (fun i => kx_d2 (sh (4 * i)) (sh (4 * i + 1)) (kx_qx kx ky tn i) (kx_qy kx ky tn i)) i) (FP.dadd (FP.dmul (FP.dsub (sh (4 * i)) (kx_qx kx ky tn i)) (FP.dsub (sh (4 * i)) (kx_qx kx ky tn i))) (FP.dmul (FP.dsub (sh ((4 * i) + 1)) (kx_qy kx ky tn i)) (FP.dsub (sh ((4 * i) + 1)) (kx_qy kx ky tn i)))))), (11, .double (FP.dsub (sh ((4 * i) + 1)) (kx_qy kx ky tn i))), (9, .double (FP.dsub (sh (4 * i)) (kx_qx kx ky tn i))), (7, .double (kx_qy kx ky tn i)), (5, .double (kx_qx kx ky tn i)), (4, .int (nI i)), (1, .int tn), (0, .ref m0)]) hx hb dX5_apartBy_167 rfl hl (by decide) rfl (fun ls hl => ?_)
                refine lv_iinc (v := nI (i + 1)) (lv' := [(4, .int (nI (i + 1))), (2, .double (FP.dadd (kx_sum (fun i => kx_d2 (sh (4 * i)) (sh (4 * i + 1)) (kx_qx kx ky tn i) (kx_qy kx ky tn i)) i) (FP.dadd (FP.dmul (FP.dsub (sh (4 * i)) (kx_qx kx ky tn i)) (FP.dsub (sh (4 * i)) (kx_qx kx ky tn i))) (FP.dmul (FP.dsub (sh ((4 * i) + 1)) (kx_qy kx ky tn i)) (FP.dsub (sh ((4 * i) + 1)) (kx_qy kx ky tn i)))))), (11, .double (FP.dsub (sh ((4 * i) + 1)) (kx_qy kx ky tn i))), (9, .double (FP.dsub (sh (4 * i)) (kx_qx kx ky tn i))), (7, .double (kx_qy kx ky tn i)), (5, .double (kx_qx kx ky tn i)), (1, .int tn), (0, .ref m0)]) hx hb dX5_apartBy_168 hl (k := 5) rfl (by show _ + 1 = _; exact nI_1 _) (by decide) rfl (fun ls hl => ?_)
                refine lv_goto (tgt := 5) hx hb dX5_apartBy_171 (by decide) ?_
                exact ih (i + 1) _ (by omega) rfl _ (lv_sub hl [0, 1, 6, 7] rfl)
          · refine lv_aload_n hx hb dX5_apartBy_33 rfl (lv_at hl 3 rfl) ?_
            refine va_get (D := G.1) (ci := 6) (v := .ref m12) (C := RX5) (T := TX5) (N := 19) hx hb hts hin_X5 hown hT.1 hP 0 rfl rfl 18 (by decide) hf_45 (fun _ h9 => h9) rfl dX5_apartBy_34 ?_
            refine lv_iload hx hb dX5_apartBy_37 (lv_at hl 0 rfl) ?_
            refine kx_dald hx hb hT hP 12 rfl i (by omega) (by omega) dX5_apartBy_39 ?_
            refine lv_dneg hx hb dX5_apartBy_40 ?_
            refine lv_goto (tgt := 67) hx hb dX5_apartBy_41 (by decide) ?_
            refine kx_ed (y := kx_qx kx ky tn i) (by unfold kx_qx; rw [if_neg c_3, if_pos c_4]) ?_
            refine lv_dstore (lv' := [(5, .double (kx_qx kx ky tn i)), (4, .int (nI i)), (2, .double (kx_sum (fun i => kx_d2 (sh (4 * i)) (sh (4 * i + 1)) (kx_qx kx ky tn i) (kx_qy kx ky tn i)) i)), (1, .int tn), (0, .ref m0)]) hx hb dX5_apartBy_67 hl (by decide) rfl (fun ls hl => ?_)
            refine lv_iload_n hx hb dX5_apartBy_69 rfl (lv_at hl 3 rfl) ?_
            refine lv_if_ne (x := tn) (tgt := 83) hx hb dX5_apartBy_70 (by decide) (fun c_12 => ?_) (fun c_12 => ?_)
            · refine lv_iload_n hx hb dX5_apartBy_83 rfl (lv_at hl 3 rfl) ?_
              refine lv_iconst (v := 1) hx hb dX5_apartBy_84 (by decide) ?_
              refine lv_icmp_ne (x := tn) (y := 1) (tgt := 98) hx hb dX5_apartBy_85 (by decide) (fun c_13 => ?_) (fun c_13 => ?_)
              · refine lv_iload_n hx hb dX5_apartBy_98 rfl (lv_at hl 3 rfl) ?_
                refine lv_iconst (v := 2) hx hb dX5_apartBy_99 (by decide) ?_
                refine lv_icmp_ne (x := tn) (y := 2) (tgt := 114) hx hb dX5_apartBy_100 (by decide) (fun c_14 => ?_) (fun c_14 => ?_)
                · refine lv_aload_n hx hb dX5_apartBy_114 rfl (lv_at hl 4 rfl) ?_
                  refine va_get (D := G.1) (ci := 6) (v := .ref m11) (C := RX5) (T := TX5) (N := 19) hx hb hts hin_X5 hown hT.1 hP 0 rfl rfl 17 (by decide) hf_42 (fun _ h9 => h9) rfl dX5_apartBy_115 ?_
                  refine lv_iload hx hb dX5_apartBy_118 (lv_at hl 1 rfl) ?_
                  refine kx_dald hx hb hT hP 11 rfl i (by omega) (by omega) dX5_apartBy_120 ?_
                  refine lv_dneg hx hb dX5_apartBy_121 ?_
                  refine kx_ed (y := kx_qy kx ky tn i) (by unfold kx_qy; rw [if_neg c_12, if_neg c_13, if_neg c_14]) ?_
                  refine lv_dstore (lv' := [(7, .double (kx_qy kx ky tn i)), (5, .double (kx_qx kx ky tn i)), (4, .int (nI i)), (2, .double (kx_sum (fun i => kx_d2 (sh (4 * i)) (sh (4 * i + 1)) (kx_qx kx ky tn i) (kx_qy kx ky tn i)) i)), (1, .int tn), (0, .ref m0)]) hx hb dX5_apartBy_122 hl (by decide) rfl (fun ls hl => ?_)
                  refine lv_aload_n hx hb dX5_apartBy_124 rfl (lv_at hl 5 rfl) ?_
                  refine va_get (D := G.1) (ci := 6) (v := .ref m7) (C := RX5) (T := TX5) (N := 19) hx hb hts hin_X5 hown hT.1 hP 0 rfl rfl 11 (by decide) hf_29 (fun _ h9 => h9) rfl dX5_apartBy_125 ?_
                  refine lv_iconst (v := 4) hx hb dX5_apartBy_128 (by decide) ?_
                  refine lv_iload hx hb dX5_apartBy_129 (lv_at hl 2 rfl) ?_
                  refine lv_imul hx hb dX5_apartBy_131 ?_
                  refine kx_ei (y := nI (4 * i)) (pk_mul 4 i) ?_
                  refine kx_dald hx hb hT hP 7 rfl (4 * i) (by omega) (by omega) dX5_apartBy_132 ?_
                  refine lv_dload hx hb dX5_apartBy_133 (lv_at hl 1 rfl) ?_
                  refine lv_dsub hx hb dX5_apartBy_135 (fx_bd.sub (hb_sh (4 * i)) (kx_qx_bd hb_kx hb_ky) (by omega)).n ?_
                  refine lv_dstore (lv' := [(9, .double (FP.dsub (sh (4 * i)) (kx_qx kx ky tn i))), (7, .double (kx_qy kx ky tn i)), (5, .double (kx_qx kx ky tn i)), (4, .int (nI i)), (2, .double (kx_sum (fun i => kx_d2 (sh (4 * i)) (sh (4 * i + 1)) (kx_qx kx ky tn i) (kx_qy kx ky tn i)) i)), (1, .int tn), (0, .ref m0)]) hx hb dX5_apartBy_136 hl (by decide) rfl (fun ls hl => ?_)
                  refine lv_aload_n hx hb dX5_apartBy_138 rfl (lv_at hl 6 rfl) ?_
                  refine va_get (D := G.1) (ci := 6) (v := .ref m7) (C := RX5) (T := TX5) (N := 19) hx hb hts hin_X5 hown hT.1 hP 0 rfl rfl 11 (by decide) hf_29 (fun _ h9 => h9) rfl dX5_apartBy_139 ?_
                  refine lv_iconst (v := 4) hx hb dX5_apartBy_142 (by decide) ?_
                  refine lv_iload hx hb dX5_apartBy_143 (lv_at hl 3 rfl) ?_
                  refine lv_imul hx hb dX5_apartBy_145 ?_
                  refine kx_ei (y := nI (4 * i)) (pk_mul 4 i) ?_
                  refine lv_iconst (v := 1) hx hb dX5_apartBy_146 (by decide) ?_
                  refine lv_iadd hx hb dX5_apartBy_147 ?_
                  refine kx_ei (y := nI ((4 * i) + 1)) (nI_add (4 * i) 1) ?_
                  refine kx_dald hx hb hT hP 7 rfl ((4 * i) + 1) (by omega) (by omega) dX5_apartBy_148 ?_
                  refine lv_dload hx hb dX5_apartBy_149 (lv_at hl 1 rfl) ?_
                  refine lv_dsub hx hb dX5_apartBy_151 (fx_bd.sub (hb_sh ((4 * i) + 1)) (kx_qy_bd hb_kx hb_ky) (by omega)).n ?_
                  refine lv_dstore (lv' := [(11, .double (FP.dsub (sh ((4 * i) + 1)) (kx_qy kx ky tn i))), (9, .double (FP.dsub (sh (4 * i)) (kx_qx kx ky tn i))), (7, .double (kx_qy kx ky tn i)), (5, .double (kx_qx kx ky tn i)), (4, .int (nI i)), (2, .double (kx_sum (fun i => kx_d2 (sh (4 * i)) (sh (4 * i + 1)) (kx_qx kx ky tn i) (kx_qy kx ky tn i)) i)), (1, .int tn), (0, .ref m0)]) hx hb dX5_apartBy_152 hl (by decide) rfl (fun ls hl => ?_)
                  refine lv_dload_n hx hb dX5_apartBy_154 rfl (lv_at hl 5 rfl) ?_
                  refine lv_dload hx hb dX5_apartBy_155 (lv_at hl 1 rfl) ?_
                  refine lv_dload hx hb dX5_apartBy_157 (lv_at hl 1 rfl) ?_
                  refine lv_dmul hx hb dX5_apartBy_159 (fx_bd.mul (fx_bd.sub (hb_sh (4 * i)) (kx_qx_bd hb_kx hb_ky) (by omega)) (fx_bd.sub (hb_sh (4 * i)) (kx_qx_bd hb_kx hb_ky) (by omega)) (by omega)).n ?_
                  refine lv_dload hx hb dX5_apartBy_160 (lv_at hl 0 rfl) ?_
                  refine lv_dload hx hb dX5_apartBy_162 (lv_at hl 0 rfl) ?_
                  refine lv_dmul hx hb dX5_apartBy_164 (fx_bd.mul (fx_bd.sub (hb_sh ((4 * i) + 1)) (kx_qy_bd hb_kx hb_ky) (by omega)) (fx_bd.sub (hb_sh ((4 * i) + 1)) (kx_qy_bd hb_kx hb_ky) (by omega)) (by omega)).n ?_
                  refine lv_dadd hx hb dX5_apartBy_165 (fx_bd.add (fx_bd.mul (fx_bd.sub (hb_sh (4 * i)) (kx_qx_bd hb_kx hb_ky) (by omega)) (fx_bd.sub (hb_sh (4 * i)) (kx_qx_bd hb_kx hb_ky) (by omega)) (by omega)) (fx_bd.mul (fx_bd.sub (hb_sh ((4 * i) + 1)) (kx_qy_bd hb_kx hb_ky) (by omega)) (fx_bd.sub (hb_sh ((4 * i) + 1)) (kx_qy_bd hb_kx hb_ky) (by omega)) (by omega)) (by omega)).n ?_
                  refine lv_dadd hx hb dX5_apartBy_166 (fx_bd.add (kx_sum_bd (K := 447) (fun j => kx_d2_bd (hb_sh (4 * j)) (hb_sh (4 * j + 1)) (kx_qx_bd hb_kx hb_ky) (kx_qy_bd hb_kx hb_ky)) i (by omega)) (fx_bd.add (fx_bd.mul (fx_bd.sub (hb_sh (4 * i)) (kx_qx_bd hb_kx hb_ky) (by omega)) (fx_bd.sub (hb_sh (4 * i)) (kx_qx_bd hb_kx hb_ky) (by omega)) (by omega)) (fx_bd.mul (fx_bd.sub (hb_sh ((4 * i) + 1)) (kx_qy_bd hb_kx hb_ky) (by omega)) (fx_bd.sub (hb_sh ((4 * i) + 1)) (kx_qy_bd hb_kx hb_ky) (by omega)) (by omega)) (by omega)) (by omega)).n ?_
                  refine lv_dstore_n (lv' := [(2, .double (FP.dadd (kx_sum (fun i => kx_d2 (sh (4 * i)) (sh (4 * i + 1)) (kx_qx kx ky tn i) (kx_qy kx ky tn i)) i) (FP.dadd (FP.dmul (FP.dsub (sh (4 * i)) (kx_qx kx ky tn i)) (FP.dsub (sh (4 * i)) (kx_qx kx ky tn i))) (FP.dmul (FP.dsub (sh ((4 * i) + 1)) (kx_qy kx ky tn i)) (FP.dsub (sh ((4 * i) + 1)) (kx_qy kx ky tn i)))))), (11, .double (FP.dsub (sh ((4 * i) + 1)) (kx_qy kx ky tn i))), (9, .double (FP.dsub (sh (4 * i)) (kx_qx kx ky tn i))), (7, .double (kx_qy kx ky tn i)), (5, .double (kx_qx kx ky tn i)), (4, .int (nI i)), (1, .int tn), (0, .ref m0)]) hx hb dX5_apartBy_167 rfl hl (by decide) rfl (fun ls hl => ?_)
                  refine lv_iinc (v := nI (i + 1)) (lv' := [(4, .int (nI (i + 1))), (2, .double (FP.dadd (kx_sum (fun i => kx_d2 (sh (4 * i)) (sh (4 * i + 1)) (kx_qx kx ky tn i) (kx_qy kx ky tn i)) i) (FP.dadd (FP.dmul (FP.dsub (sh (4 * i)) (kx_qx kx ky tn i)) (FP.dsub (sh (4 * i)) (kx_qx kx ky tn i))) (FP.dmul (FP.dsub (sh ((4 * i) + 1)) (kx_qy kx ky tn i)) (FP.dsub (sh ((4 * i) + 1)) (kx_qy kx ky tn i)))))), (11, .double (FP.dsub (sh ((4 * i) + 1)) (kx_qy kx ky tn i))), (9, .double (FP.dsub (sh (4 * i)) (kx_qx kx ky tn i))), (7, .double (kx_qy kx ky tn i)), (5, .double (kx_qx kx ky tn i)), (1, .int tn), (0, .ref m0)]) hx hb dX5_apartBy_168 hl (k := 5) rfl (by show _ + 1 = _; exact nI_1 _) (by decide) rfl (fun ls hl => ?_)
                  refine lv_goto (tgt := 5) hx hb dX5_apartBy_171 (by decide) ?_
                  exact ih (i + 1) _ (by omega) rfl _ (lv_sub hl [0, 1, 6, 7] rfl)
                · refine lv_aload_n hx hb dX5_apartBy_103 rfl (lv_at hl 4 rfl) ?_
                  refine va_get (D := G.1) (ci := 6) (v := .ref m12) (C := RX5) (T := TX5) (N := 19) hx hb hts hin_X5 hown hT.1 hP 0 rfl rfl 18 (by decide) hf_45 (fun _ h9 => h9) rfl dX5_apartBy_104 ?_
                  refine lv_iload hx hb dX5_apartBy_107 (lv_at hl 1 rfl) ?_
                  refine kx_dald hx hb hT hP 12 rfl i (by omega) (by omega) dX5_apartBy_109 ?_
                  refine lv_dneg hx hb dX5_apartBy_110 ?_
                  refine lv_goto (tgt := 122) hx hb dX5_apartBy_111 (by decide) ?_
                  refine kx_ed (y := kx_qy kx ky tn i) (by unfold kx_qy; rw [if_neg c_12, if_neg c_13, if_pos c_14]) ?_
                  refine lv_dstore (lv' := [(7, .double (kx_qy kx ky tn i)), (5, .double (kx_qx kx ky tn i)), (4, .int (nI i)), (2, .double (kx_sum (fun i => kx_d2 (sh (4 * i)) (sh (4 * i + 1)) (kx_qx kx ky tn i) (kx_qy kx ky tn i)) i)), (1, .int tn), (0, .ref m0)]) hx hb dX5_apartBy_122 hl (by decide) rfl (fun ls hl => ?_)
                  refine lv_aload_n hx hb dX5_apartBy_124 rfl (lv_at hl 5 rfl) ?_
                  refine va_get (D := G.1) (ci := 6) (v := .ref m7) (C := RX5) (T := TX5) (N := 19) hx hb hts hin_X5 hown hT.1 hP 0 rfl rfl 11 (by decide) hf_29 (fun _ h9 => h9) rfl dX5_apartBy_125 ?_
                  refine lv_iconst (v := 4) hx hb dX5_apartBy_128 (by decide) ?_
                  refine lv_iload hx hb dX5_apartBy_129 (lv_at hl 2 rfl) ?_
                  refine lv_imul hx hb dX5_apartBy_131 ?_
                  refine kx_ei (y := nI (4 * i)) (pk_mul 4 i) ?_
                  refine kx_dald hx hb hT hP 7 rfl (4 * i) (by omega) (by omega) dX5_apartBy_132 ?_
                  refine lv_dload hx hb dX5_apartBy_133 (lv_at hl 1 rfl) ?_
                  refine lv_dsub hx hb dX5_apartBy_135 (fx_bd.sub (hb_sh (4 * i)) (kx_qx_bd hb_kx hb_ky) (by omega)).n ?_
                  refine lv_dstore (lv' := [(9, .double (FP.dsub (sh (4 * i)) (kx_qx kx ky tn i))), (7, .double (kx_qy kx ky tn i)), (5, .double (kx_qx kx ky tn i)), (4, .int (nI i)), (2, .double (kx_sum (fun i => kx_d2 (sh (4 * i)) (sh (4 * i + 1)) (kx_qx kx ky tn i) (kx_qy kx ky tn i)) i)), (1, .int tn), (0, .ref m0)]) hx hb dX5_apartBy_136 hl (by decide) rfl (fun ls hl => ?_)
                  refine lv_aload_n hx hb dX5_apartBy_138 rfl (lv_at hl 6 rfl) ?_
                  refine va_get (D := G.1) (ci := 6) (v := .ref m7) (C := RX5) (T := TX5) (N := 19) hx hb hts hin_X5 hown hT.1 hP 0 rfl rfl 11 (by decide) hf_29 (fun _ h9 => h9) rfl dX5_apartBy_139 ?_
                  refine lv_iconst (v := 4) hx hb dX5_apartBy_142 (by decide) ?_
                  refine lv_iload hx hb dX5_apartBy_143 (lv_at hl 3 rfl) ?_
                  refine lv_imul hx hb dX5_apartBy_145 ?_
                  refine kx_ei (y := nI (4 * i)) (pk_mul 4 i) ?_
                  refine lv_iconst (v := 1) hx hb dX5_apartBy_146 (by decide) ?_
                  refine lv_iadd hx hb dX5_apartBy_147 ?_
                  refine kx_ei (y := nI ((4 * i) + 1)) (nI_add (4 * i) 1) ?_
                  refine kx_dald hx hb hT hP 7 rfl ((4 * i) + 1) (by omega) (by omega) dX5_apartBy_148 ?_
                  refine lv_dload hx hb dX5_apartBy_149 (lv_at hl 1 rfl) ?_
                  refine lv_dsub hx hb dX5_apartBy_151 (fx_bd.sub (hb_sh ((4 * i) + 1)) (kx_qy_bd hb_kx hb_ky) (by omega)).n ?_
                  refine lv_dstore (lv' := [(11, .double (FP.dsub (sh ((4 * i) + 1)) (kx_qy kx ky tn i))), (9, .double (FP.dsub (sh (4 * i)) (kx_qx kx ky tn i))), (7, .double (kx_qy kx ky tn i)), (5, .double (kx_qx kx ky tn i)), (4, .int (nI i)), (2, .double (kx_sum (fun i => kx_d2 (sh (4 * i)) (sh (4 * i + 1)) (kx_qx kx ky tn i) (kx_qy kx ky tn i)) i)), (1, .int tn), (0, .ref m0)]) hx hb dX5_apartBy_152 hl (by decide) rfl (fun ls hl => ?_)
                  refine lv_dload_n hx hb dX5_apartBy_154 rfl (lv_at hl 5 rfl) ?_
                  refine lv_dload hx hb dX5_apartBy_155 (lv_at hl 1 rfl) ?_
                  refine lv_dload hx hb dX5_apartBy_157 (lv_at hl 1 rfl) ?_
                  refine lv_dmul hx hb dX5_apartBy_159 (fx_bd.mul (fx_bd.sub (hb_sh (4 * i)) (kx_qx_bd hb_kx hb_ky) (by omega)) (fx_bd.sub (hb_sh (4 * i)) (kx_qx_bd hb_kx hb_ky) (by omega)) (by omega)).n ?_
                  refine lv_dload hx hb dX5_apartBy_160 (lv_at hl 0 rfl) ?_
                  refine lv_dload hx hb dX5_apartBy_162 (lv_at hl 0 rfl) ?_
                  refine lv_dmul hx hb dX5_apartBy_164 (fx_bd.mul (fx_bd.sub (hb_sh ((4 * i) + 1)) (kx_qy_bd hb_kx hb_ky) (by omega)) (fx_bd.sub (hb_sh ((4 * i) + 1)) (kx_qy_bd hb_kx hb_ky) (by omega)) (by omega)).n ?_
                  refine lv_dadd hx hb dX5_apartBy_165 (fx_bd.add (fx_bd.mul (fx_bd.sub (hb_sh (4 * i)) (kx_qx_bd hb_kx hb_ky) (by omega)) (fx_bd.sub (hb_sh (4 * i)) (kx_qx_bd hb_kx hb_ky) (by omega)) (by omega)) (fx_bd.mul (fx_bd.sub (hb_sh ((4 * i) + 1)) (kx_qy_bd hb_kx hb_ky) (by omega)) (fx_bd.sub (hb_sh ((4 * i) + 1)) (kx_qy_bd hb_kx hb_ky) (by omega)) (by omega)) (by omega)).n ?_
                  refine lv_dadd hx hb dX5_apartBy_166 (fx_bd.add (kx_sum_bd (K := 447) (fun j => kx_d2_bd (hb_sh (4 * j)) (hb_sh (4 * j + 1)) (kx_qx_bd hb_kx hb_ky) (kx_qy_bd hb_kx hb_ky)) i (by omega)) (fx_bd.add (fx_bd.mul (fx_bd.sub (hb_sh (4 * i)) (kx_qx_bd hb_kx hb_ky) (by omega)) (fx_bd.sub (hb_sh (4 * i)) (kx_qx_bd hb_kx hb_ky) (by omega)) (by omega)) (fx_bd.mul (fx_bd.sub (hb_sh ((4 * i) + 1)) (kx_qy_bd hb_kx hb_ky) (by omega)) (fx_bd.sub (hb_sh ((4 * i) + 1)) (kx_qy_bd hb_kx hb_ky) (by omega)) (by omega)) (by omega)) (by omega)).n ?_
                  refine lv_dstore_n (lv' := [(2, .double (FP.dadd (kx_sum (fun i => kx_d2 (sh (4 * i)) (sh (4 * i + 1)) (kx_qx kx ky tn i) (kx_qy kx ky tn i)) i) (FP.dadd (FP.dmul (FP.dsub (sh (4 * i)) (kx_qx kx ky tn i)) (FP.dsub (sh (4 * i)) (kx_qx kx ky tn i))) (FP.dmul (FP.dsub (sh ((4 * i) + 1)) (kx_qy kx ky tn i)) (FP.dsub (sh ((4 * i) + 1)) (kx_qy kx ky tn i)))))), (11, .double (FP.dsub (sh ((4 * i) + 1)) (kx_qy kx ky tn i))), (9, .double (FP.dsub (sh (4 * i)) (kx_qx kx ky tn i))), (7, .double (kx_qy kx ky tn i)), (5, .double (kx_qx kx ky tn i)), (4, .int (nI i)), (1, .int tn), (0, .ref m0)]) hx hb dX5_apartBy_167 rfl hl (by decide) rfl (fun ls hl => ?_)
                  refine lv_iinc (v := nI (i + 1)) (lv' := [(4, .int (nI (i + 1))), (2, .double (FP.dadd (kx_sum (fun i => kx_d2 (sh (4 * i)) (sh (4 * i + 1)) (kx_qx kx ky tn i) (kx_qy kx ky tn i)) i) (FP.dadd (FP.dmul (FP.dsub (sh (4 * i)) (kx_qx kx ky tn i)) (FP.dsub (sh (4 * i)) (kx_qx kx ky tn i))) (FP.dmul (FP.dsub (sh ((4 * i) + 1)) (kx_qy kx ky tn i)) (FP.dsub (sh ((4 * i) + 1)) (kx_qy kx ky tn i)))))), (11, .double (FP.dsub (sh ((4 * i) + 1)) (kx_qy kx ky tn i))), (9, .double (FP.dsub (sh (4 * i)) (kx_qx kx ky tn i))), (7, .double (kx_qy kx ky tn i)), (5, .double (kx_qx kx ky tn i)), (1, .int tn), (0, .ref m0)]) hx hb dX5_apartBy_168 hl (k := 5) rfl (by show _ + 1 = _; exact nI_1 _) (by decide) rfl (fun ls hl => ?_)
                  refine lv_goto (tgt := 5) hx hb dX5_apartBy_171 (by decide) ?_
                  exact ih (i + 1) _ (by omega) rfl _ (lv_sub hl [0, 1, 6, 7] rfl)
              · refine lv_aload_n hx hb dX5_apartBy_88 rfl (lv_at hl 4 rfl) ?_
                refine va_get (D := G.1) (ci := 6) (v := .ref m11) (C := RX5) (T := TX5) (N := 19) hx hb hts hin_X5 hown hT.1 hP 0 rfl rfl 17 (by decide) hf_42 (fun _ h9 => h9) rfl dX5_apartBy_89 ?_
                refine lv_iload hx hb dX5_apartBy_92 (lv_at hl 1 rfl) ?_
                refine kx_dald hx hb hT hP 11 rfl i (by omega) (by omega) dX5_apartBy_94 ?_
                refine lv_goto (tgt := 122) hx hb dX5_apartBy_95 (by decide) ?_
                refine kx_ed (y := kx_qy kx ky tn i) (by unfold kx_qy; rw [if_neg c_12, if_pos c_13]) ?_
                refine lv_dstore (lv' := [(7, .double (kx_qy kx ky tn i)), (5, .double (kx_qx kx ky tn i)), (4, .int (nI i)), (2, .double (kx_sum (fun i => kx_d2 (sh (4 * i)) (sh (4 * i + 1)) (kx_qx kx ky tn i) (kx_qy kx ky tn i)) i)), (1, .int tn), (0, .ref m0)]) hx hb dX5_apartBy_122 hl (by decide) rfl (fun ls hl => ?_)
                refine lv_aload_n hx hb dX5_apartBy_124 rfl (lv_at hl 5 rfl) ?_
                refine va_get (D := G.1) (ci := 6) (v := .ref m7) (C := RX5) (T := TX5) (N := 19) hx hb hts hin_X5 hown hT.1 hP 0 rfl rfl 11 (by decide) hf_29 (fun _ h9 => h9) rfl dX5_apartBy_125 ?_
                refine lv_iconst (v := 4) hx hb dX5_apartBy_128 (by decide) ?_
                refine lv_iload hx hb dX5_apartBy_129 (lv_at hl 2 rfl) ?_
                refine lv_imul hx hb dX5_apartBy_131 ?_
                refine kx_ei (y := nI (4 * i)) (pk_mul 4 i) ?_
                refine kx_dald hx hb hT hP 7 rfl (4 * i) (by omega) (by omega) dX5_apartBy_132 ?_
                refine lv_dload hx hb dX5_apartBy_133 (lv_at hl 1 rfl) ?_
                refine lv_dsub hx hb dX5_apartBy_135 (fx_bd.sub (hb_sh (4 * i)) (kx_qx_bd hb_kx hb_ky) (by omega)).n ?_
                refine lv_dstore (lv' := [(9, .double (FP.dsub (sh (4 * i)) (kx_qx kx ky tn i))), (7, .double (kx_qy kx ky tn i)), (5, .double (kx_qx kx ky tn i)), (4, .int (nI i)), (2, .double (kx_sum (fun i => kx_d2 (sh (4 * i)) (sh (4 * i + 1)) (kx_qx kx ky tn i) (kx_qy kx ky tn i)) i)), (1, .int tn), (0, .ref m0)]) hx hb dX5_apartBy_136 hl (by decide) rfl (fun ls hl => ?_)
                refine lv_aload_n hx hb dX5_apartBy_138 rfl (lv_at hl 6 rfl) ?_
                refine va_get (D := G.1) (ci := 6) (v := .ref m7) (C := RX5) (T := TX5) (N := 19) hx hb hts hin_X5 hown hT.1 hP 0 rfl rfl 11 (by decide) hf_29 (fun _ h9 => h9) rfl dX5_apartBy_139 ?_
                refine lv_iconst (v := 4) hx hb dX5_apartBy_142 (by decide) ?_
                refine lv_iload hx hb dX5_apartBy_143 (lv_at hl 3 rfl) ?_
                refine lv_imul hx hb dX5_apartBy_145 ?_
                refine kx_ei (y := nI (4 * i)) (pk_mul 4 i) ?_
                refine lv_iconst (v := 1) hx hb dX5_apartBy_146 (by decide) ?_
                refine lv_iadd hx hb dX5_apartBy_147 ?_
                refine kx_ei (y := nI ((4 * i) + 1)) (nI_add (4 * i) 1) ?_
                refine kx_dald hx hb hT hP 7 rfl ((4 * i) + 1) (by omega) (by omega) dX5_apartBy_148 ?_
                refine lv_dload hx hb dX5_apartBy_149 (lv_at hl 1 rfl) ?_
                refine lv_dsub hx hb dX5_apartBy_151 (fx_bd.sub (hb_sh ((4 * i) + 1)) (kx_qy_bd hb_kx hb_ky) (by omega)).n ?_
                refine lv_dstore (lv' := [(11, .double (FP.dsub (sh ((4 * i) + 1)) (kx_qy kx ky tn i))), (9, .double (FP.dsub (sh (4 * i)) (kx_qx kx ky tn i))), (7, .double (kx_qy kx ky tn i)), (5, .double (kx_qx kx ky tn i)), (4, .int (nI i)), (2, .double (kx_sum (fun i => kx_d2 (sh (4 * i)) (sh (4 * i + 1)) (kx_qx kx ky tn i) (kx_qy kx ky tn i)) i)), (1, .int tn), (0, .ref m0)]) hx hb dX5_apartBy_152 hl (by decide) rfl (fun ls hl => ?_)
                refine lv_dload_n hx hb dX5_apartBy_154 rfl (lv_at hl 5 rfl) ?_
                refine lv_dload hx hb dX5_apartBy_155 (lv_at hl 1 rfl) ?_
                refine lv_dload hx hb dX5_apartBy_157 (lv_at hl 1 rfl) ?_
                refine lv_dmul hx hb dX5_apartBy_159 (fx_bd.mul (fx_bd.sub (hb_sh (4 * i)) (kx_qx_bd hb_kx hb_ky) (by omega)) (fx_bd.sub (hb_sh (4 * i)) (kx_qx_bd hb_kx hb_ky) (by omega)) (by omega)).n ?_
                refine lv_dload hx hb dX5_apartBy_160 (lv_at hl 0 rfl) ?_
                refine lv_dload hx hb dX5_apartBy_162 (lv_at hl 0 rfl) ?_
                refine lv_dmul hx hb dX5_apartBy_164 (fx_bd.mul (fx_bd.sub (hb_sh ((4 * i) + 1)) (kx_qy_bd hb_kx hb_ky) (by omega)) (fx_bd.sub (hb_sh ((4 * i) + 1)) (kx_qy_bd hb_kx hb_ky) (by omega)) (by omega)).n ?_
                refine lv_dadd hx hb dX5_apartBy_165 (fx_bd.add (fx_bd.mul (fx_bd.sub (hb_sh (4 * i)) (kx_qx_bd hb_kx hb_ky) (by omega)) (fx_bd.sub (hb_sh (4 * i)) (kx_qx_bd hb_kx hb_ky) (by omega)) (by omega)) (fx_bd.mul (fx_bd.sub (hb_sh ((4 * i) + 1)) (kx_qy_bd hb_kx hb_ky) (by omega)) (fx_bd.sub (hb_sh ((4 * i) + 1)) (kx_qy_bd hb_kx hb_ky) (by omega)) (by omega)) (by omega)).n ?_
                refine lv_dadd hx hb dX5_apartBy_166 (fx_bd.add (kx_sum_bd (K := 447) (fun j => kx_d2_bd (hb_sh (4 * j)) (hb_sh (4 * j + 1)) (kx_qx_bd hb_kx hb_ky) (kx_qy_bd hb_kx hb_ky)) i (by omega)) (fx_bd.add (fx_bd.mul (fx_bd.sub (hb_sh (4 * i)) (kx_qx_bd hb_kx hb_ky) (by omega)) (fx_bd.sub (hb_sh (4 * i)) (kx_qx_bd hb_kx hb_ky) (by omega)) (by omega)) (fx_bd.mul (fx_bd.sub (hb_sh ((4 * i) + 1)) (kx_qy_bd hb_kx hb_ky) (by omega)) (fx_bd.sub (hb_sh ((4 * i) + 1)) (kx_qy_bd hb_kx hb_ky) (by omega)) (by omega)) (by omega)) (by omega)).n ?_
                refine lv_dstore_n (lv' := [(2, .double (FP.dadd (kx_sum (fun i => kx_d2 (sh (4 * i)) (sh (4 * i + 1)) (kx_qx kx ky tn i) (kx_qy kx ky tn i)) i) (FP.dadd (FP.dmul (FP.dsub (sh (4 * i)) (kx_qx kx ky tn i)) (FP.dsub (sh (4 * i)) (kx_qx kx ky tn i))) (FP.dmul (FP.dsub (sh ((4 * i) + 1)) (kx_qy kx ky tn i)) (FP.dsub (sh ((4 * i) + 1)) (kx_qy kx ky tn i)))))), (11, .double (FP.dsub (sh ((4 * i) + 1)) (kx_qy kx ky tn i))), (9, .double (FP.dsub (sh (4 * i)) (kx_qx kx ky tn i))), (7, .double (kx_qy kx ky tn i)), (5, .double (kx_qx kx ky tn i)), (4, .int (nI i)), (1, .int tn), (0, .ref m0)]) hx hb dX5_apartBy_167 rfl hl (by decide) rfl (fun ls hl => ?_)
                refine lv_iinc (v := nI (i + 1)) (lv' := [(4, .int (nI (i + 1))), (2, .double (FP.dadd (kx_sum (fun i => kx_d2 (sh (4 * i)) (sh (4 * i + 1)) (kx_qx kx ky tn i) (kx_qy kx ky tn i)) i) (FP.dadd (FP.dmul (FP.dsub (sh (4 * i)) (kx_qx kx ky tn i)) (FP.dsub (sh (4 * i)) (kx_qx kx ky tn i))) (FP.dmul (FP.dsub (sh ((4 * i) + 1)) (kx_qy kx ky tn i)) (FP.dsub (sh ((4 * i) + 1)) (kx_qy kx ky tn i)))))), (11, .double (FP.dsub (sh ((4 * i) + 1)) (kx_qy kx ky tn i))), (9, .double (FP.dsub (sh (4 * i)) (kx_qx kx ky tn i))), (7, .double (kx_qy kx ky tn i)), (5, .double (kx_qx kx ky tn i)), (1, .int tn), (0, .ref m0)]) hx hb dX5_apartBy_168 hl (k := 5) rfl (by show _ + 1 = _; exact nI_1 _) (by decide) rfl (fun ls hl => ?_)
                refine lv_goto (tgt := 5) hx hb dX5_apartBy_171 (by decide) ?_
                exact ih (i + 1) _ (by omega) rfl _ (lv_sub hl [0, 1, 6, 7] rfl)
            · refine lv_aload_n hx hb dX5_apartBy_73 rfl (lv_at hl 4 rfl) ?_
              refine va_get (D := G.1) (ci := 6) (v := .ref m12) (C := RX5) (T := TX5) (N := 19) hx hb hts hin_X5 hown hT.1 hP 0 rfl rfl 18 (by decide) hf_45 (fun _ h9 => h9) rfl dX5_apartBy_74 ?_
              refine lv_iload hx hb dX5_apartBy_77 (lv_at hl 1 rfl) ?_
              refine kx_dald hx hb hT hP 12 rfl i (by omega) (by omega) dX5_apartBy_79 ?_
              refine lv_goto (tgt := 122) hx hb dX5_apartBy_80 (by decide) ?_
              refine kx_ed (y := kx_qy kx ky tn i) (by unfold kx_qy; rw [if_pos c_12]) ?_
              refine lv_dstore (lv' := [(7, .double (kx_qy kx ky tn i)), (5, .double (kx_qx kx ky tn i)), (4, .int (nI i)), (2, .double (kx_sum (fun i => kx_d2 (sh (4 * i)) (sh (4 * i + 1)) (kx_qx kx ky tn i) (kx_qy kx ky tn i)) i)), (1, .int tn), (0, .ref m0)]) hx hb dX5_apartBy_122 hl (by decide) rfl (fun ls hl => ?_)
              refine lv_aload_n hx hb dX5_apartBy_124 rfl (lv_at hl 5 rfl) ?_
              refine va_get (D := G.1) (ci := 6) (v := .ref m7) (C := RX5) (T := TX5) (N := 19) hx hb hts hin_X5 hown hT.1 hP 0 rfl rfl 11 (by decide) hf_29 (fun _ h9 => h9) rfl dX5_apartBy_125 ?_
              refine lv_iconst (v := 4) hx hb dX5_apartBy_128 (by decide) ?_
              refine lv_iload hx hb dX5_apartBy_129 (lv_at hl 2 rfl) ?_
              refine lv_imul hx hb dX5_apartBy_131 ?_
              refine kx_ei (y := nI (4 * i)) (pk_mul 4 i) ?_
              refine kx_dald hx hb hT hP 7 rfl (4 * i) (by omega) (by omega) dX5_apartBy_132 ?_
              refine lv_dload hx hb dX5_apartBy_133 (lv_at hl 1 rfl) ?_
              refine lv_dsub hx hb dX5_apartBy_135 (fx_bd.sub (hb_sh (4 * i)) (kx_qx_bd hb_kx hb_ky) (by omega)).n ?_
              refine lv_dstore (lv' := [(9, .double (FP.dsub (sh (4 * i)) (kx_qx kx ky tn i))), (7, .double (kx_qy kx ky tn i)), (5, .double (kx_qx kx ky tn i)), (4, .int (nI i)), (2, .double (kx_sum (fun i => kx_d2 (sh (4 * i)) (sh (4 * i + 1)) (kx_qx kx ky tn i) (kx_qy kx ky tn i)) i)), (1, .int tn), (0, .ref m0)]) hx hb dX5_apartBy_136 hl (by decide) rfl (fun ls hl => ?_)
              refine lv_aload_n hx hb dX5_apartBy_138 rfl (lv_at hl 6 rfl) ?_
              refine va_get (D := G.1) (ci := 6) (v := .ref m7) (C := RX5) (T := TX5) (N := 19) hx hb hts hin_X5 hown hT.1 hP 0 rfl rfl 11 (by decide) hf_29 (fun _ h9 => h9) rfl dX5_apartBy_139 ?_
              refine lv_iconst (v := 4) hx hb dX5_apartBy_142 (by decide) ?_
              refine lv_iload hx hb dX5_apartBy_143 (lv_at hl 3 rfl) ?_
              refine lv_imul hx hb dX5_apartBy_145 ?_
              refine kx_ei (y := nI (4 * i)) (pk_mul 4 i) ?_
              refine lv_iconst (v := 1) hx hb dX5_apartBy_146 (by decide) ?_
              refine lv_iadd hx hb dX5_apartBy_147 ?_
              refine kx_ei (y := nI ((4 * i) + 1)) (nI_add (4 * i) 1) ?_
              refine kx_dald hx hb hT hP 7 rfl ((4 * i) + 1) (by omega) (by omega) dX5_apartBy_148 ?_
              refine lv_dload hx hb dX5_apartBy_149 (lv_at hl 1 rfl) ?_
              refine lv_dsub hx hb dX5_apartBy_151 (fx_bd.sub (hb_sh ((4 * i) + 1)) (kx_qy_bd hb_kx hb_ky) (by omega)).n ?_
              refine lv_dstore (lv' := [(11, .double (FP.dsub (sh ((4 * i) + 1)) (kx_qy kx ky tn i))), (9, .double (FP.dsub (sh (4 * i)) (kx_qx kx ky tn i))), (7, .double (kx_qy kx ky tn i)), (5, .double (kx_qx kx ky tn i)), (4, .int (nI i)), (2, .double (kx_sum (fun i => kx_d2 (sh (4 * i)) (sh (4 * i + 1)) (kx_qx kx ky tn i) (kx_qy kx ky tn i)) i)), (1, .int tn), (0, .ref m0)]) hx hb dX5_apartBy_152 hl (by decide) rfl (fun ls hl => ?_)
              refine lv_dload_n hx hb dX5_apartBy_154 rfl (lv_at hl 5 rfl) ?_
              refine lv_dload hx hb dX5_apartBy_155 (lv_at hl 1 rfl) ?_
              refine lv_dload hx hb dX5_apartBy_157 (lv_at hl 1 rfl) ?_
              refine lv_dmul hx hb dX5_apartBy_159 (fx_bd.mul (fx_bd.sub (hb_sh (4 * i)) (kx_qx_bd hb_kx hb_ky) (by omega)) (fx_bd.sub (hb_sh (4 * i)) (kx_qx_bd hb_kx hb_ky) (by omega)) (by omega)).n ?_
              refine lv_dload hx hb dX5_apartBy_160 (lv_at hl 0 rfl) ?_
              refine lv_dload hx hb dX5_apartBy_162 (lv_at hl 0 rfl) ?_
              refine lv_dmul hx hb dX5_apartBy_164 (fx_bd.mul (fx_bd.sub (hb_sh ((4 * i) + 1)) (kx_qy_bd hb_kx hb_ky) (by omega)) (fx_bd.sub (hb_sh ((4 * i) + 1)) (kx_qy_bd hb_kx hb_ky) (by omega)) (by omega)).n ?_
              refine lv_dadd hx hb dX5_apartBy_165 (fx_bd.add (fx_bd.mul (fx_bd.sub (hb_sh (4 * i)) (kx_qx_bd hb_kx hb_ky) (by omega)) (fx_bd.sub (hb_sh (4 * i)) (kx_qx_bd hb_kx hb_ky) (by omega)) (by omega)) (fx_bd.mul (fx_bd.sub (hb_sh ((4 * i) + 1)) (kx_qy_bd hb_kx hb_ky) (by omega)) (fx_bd.sub (hb_sh ((4 * i) + 1)) (kx_qy_bd hb_kx hb_ky) (by omega)) (by omega)) (by omega)).n ?_
              refine lv_dadd hx hb dX5_apartBy_166 (fx_bd.add (kx_sum_bd (K := 447) (fun j => kx_d2_bd (hb_sh (4 * j)) (hb_sh (4 * j + 1)) (kx_qx_bd hb_kx hb_ky) (kx_qy_bd hb_kx hb_ky)) i (by omega)) (fx_bd.add (fx_bd.mul (fx_bd.sub (hb_sh (4 * i)) (kx_qx_bd hb_kx hb_ky) (by omega)) (fx_bd.sub (hb_sh (4 * i)) (kx_qx_bd hb_kx hb_ky) (by omega)) (by omega)) (fx_bd.mul (fx_bd.sub (hb_sh ((4 * i) + 1)) (kx_qy_bd hb_kx hb_ky) (by omega)) (fx_bd.sub (hb_sh ((4 * i) + 1)) (kx_qy_bd hb_kx hb_ky) (by omega)) (by omega)) (by omega)) (by omega)).n ?_
              refine lv_dstore_n (lv' := [(2, .double (FP.dadd (kx_sum (fun i => kx_d2 (sh (4 * i)) (sh (4 * i + 1)) (kx_qx kx ky tn i) (kx_qy kx ky tn i)) i) (FP.dadd (FP.dmul (FP.dsub (sh (4 * i)) (kx_qx kx ky tn i)) (FP.dsub (sh (4 * i)) (kx_qx kx ky tn i))) (FP.dmul (FP.dsub (sh ((4 * i) + 1)) (kx_qy kx ky tn i)) (FP.dsub (sh ((4 * i) + 1)) (kx_qy kx ky tn i)))))), (11, .double (FP.dsub (sh ((4 * i) + 1)) (kx_qy kx ky tn i))), (9, .double (FP.dsub (sh (4 * i)) (kx_qx kx ky tn i))), (7, .double (kx_qy kx ky tn i)), (5, .double (kx_qx kx ky tn i)), (4, .int (nI i)), (1, .int tn), (0, .ref m0)]) hx hb dX5_apartBy_167 rfl hl (by decide) rfl (fun ls hl => ?_)
              refine lv_iinc (v := nI (i + 1)) (lv' := [(4, .int (nI (i + 1))), (2, .double (FP.dadd (kx_sum (fun i => kx_d2 (sh (4 * i)) (sh (4 * i + 1)) (kx_qx kx ky tn i) (kx_qy kx ky tn i)) i) (FP.dadd (FP.dmul (FP.dsub (sh (4 * i)) (kx_qx kx ky tn i)) (FP.dsub (sh (4 * i)) (kx_qx kx ky tn i))) (FP.dmul (FP.dsub (sh ((4 * i) + 1)) (kx_qy kx ky tn i)) (FP.dsub (sh ((4 * i) + 1)) (kx_qy kx ky tn i)))))), (11, .double (FP.dsub (sh ((4 * i) + 1)) (kx_qy kx ky tn i))), (9, .double (FP.dsub (sh (4 * i)) (kx_qx kx ky tn i))), (7, .double (kx_qy kx ky tn i)), (5, .double (kx_qx kx ky tn i)), (1, .int tn), (0, .ref m0)]) hx hb dX5_apartBy_168 hl (k := 5) rfl (by show _ + 1 = _; exact nI_1 _) (by decide) rfl (fun ls hl => ?_)
              refine lv_goto (tgt := 5) hx hb dX5_apartBy_171 (by decide) ?_
              exact ih (i + 1) _ (by omega) rfl _ (lv_sub hl [0, 1, 6, 7] rfl)
        · refine lv_aload_n hx hb dX5_apartBy_18 rfl (lv_at hl 3 rfl) ?_
          refine va_get (D := G.1) (ci := 6) (v := .ref m11) (C := RX5) (T := TX5) (N := 19) hx hb hts hin_X5 hown hT.1 hP 0 rfl rfl 17 (by decide) hf_42 (fun _ h9 => h9) rfl dX5_apartBy_19 ?_
          refine lv_iload hx hb dX5_apartBy_22 (lv_at hl 0 rfl) ?_
          refine kx_dald hx hb hT hP 11 rfl i (by omega) (by omega) dX5_apartBy_24 ?_
          refine lv_goto (tgt := 67) hx hb dX5_apartBy_25 (by decide) ?_
          refine kx_ed (y := kx_qx kx ky tn i) (by unfold kx_qx; rw [if_pos c_3]) ?_
          refine lv_dstore (lv' := [(5, .double (kx_qx kx ky tn i)), (4, .int (nI i)), (2, .double (kx_sum (fun i => kx_d2 (sh (4 * i)) (sh (4 * i + 1)) (kx_qx kx ky tn i) (kx_qy kx ky tn i)) i)), (1, .int tn), (0, .ref m0)]) hx hb dX5_apartBy_67 hl (by decide) rfl (fun ls hl => ?_)
          refine lv_iload_n hx hb dX5_apartBy_69 rfl (lv_at hl 3 rfl) ?_
          refine lv_if_ne (x := tn) (tgt := 83) hx hb dX5_apartBy_70 (by decide) (fun c_15 => ?_) (fun c_15 => ?_)
          · refine lv_iload_n hx hb dX5_apartBy_83 rfl (lv_at hl 3 rfl) ?_
            refine lv_iconst (v := 1) hx hb dX5_apartBy_84 (by decide) ?_
            refine lv_icmp_ne (x := tn) (y := 1) (tgt := 98) hx hb dX5_apartBy_85 (by decide) (fun c_16 => ?_) (fun c_16 => ?_)
            · refine lv_iload_n hx hb dX5_apartBy_98 rfl (lv_at hl 3 rfl) ?_
              refine lv_iconst (v := 2) hx hb dX5_apartBy_99 (by decide) ?_
              refine lv_icmp_ne (x := tn) (y := 2) (tgt := 114) hx hb dX5_apartBy_100 (by decide) (fun c_17 => ?_) (fun c_17 => ?_)
              · refine lv_aload_n hx hb dX5_apartBy_114 rfl (lv_at hl 4 rfl) ?_
                refine va_get (D := G.1) (ci := 6) (v := .ref m11) (C := RX5) (T := TX5) (N := 19) hx hb hts hin_X5 hown hT.1 hP 0 rfl rfl 17 (by decide) hf_42 (fun _ h9 => h9) rfl dX5_apartBy_115 ?_
                refine lv_iload hx hb dX5_apartBy_118 (lv_at hl 1 rfl) ?_
                refine kx_dald hx hb hT hP 11 rfl i (by omega) (by omega) dX5_apartBy_120 ?_
                refine lv_dneg hx hb dX5_apartBy_121 ?_
                refine kx_ed (y := kx_qy kx ky tn i) (by unfold kx_qy; rw [if_neg c_15, if_neg c_16, if_neg c_17]) ?_
                refine lv_dstore (lv' := [(7, .double (kx_qy kx ky tn i)), (5, .double (kx_qx kx ky tn i)), (4, .int (nI i)), (2, .double (kx_sum (fun i => kx_d2 (sh (4 * i)) (sh (4 * i + 1)) (kx_qx kx ky tn i) (kx_qy kx ky tn i)) i)), (1, .int tn), (0, .ref m0)]) hx hb dX5_apartBy_122 hl (by decide) rfl (fun ls hl => ?_)
                refine lv_aload_n hx hb dX5_apartBy_124 rfl (lv_at hl 5 rfl) ?_
                refine va_get (D := G.1) (ci := 6) (v := .ref m7) (C := RX5) (T := TX5) (N := 19) hx hb hts hin_X5 hown hT.1 hP 0 rfl rfl 11 (by decide) hf_29 (fun _ h9 => h9) rfl dX5_apartBy_125 ?_
                refine lv_iconst (v := 4) hx hb dX5_apartBy_128 (by decide) ?_
                refine lv_iload hx hb dX5_apartBy_129 (lv_at hl 2 rfl) ?_
                refine lv_imul hx hb dX5_apartBy_131 ?_
                refine kx_ei (y := nI (4 * i)) (pk_mul 4 i) ?_
                refine kx_dald hx hb hT hP 7 rfl (4 * i) (by omega) (by omega) dX5_apartBy_132 ?_
                refine lv_dload hx hb dX5_apartBy_133 (lv_at hl 1 rfl) ?_
                refine lv_dsub hx hb dX5_apartBy_135 (fx_bd.sub (hb_sh (4 * i)) (kx_qx_bd hb_kx hb_ky) (by omega)).n ?_
                refine lv_dstore (lv' := [(9, .double (FP.dsub (sh (4 * i)) (kx_qx kx ky tn i))), (7, .double (kx_qy kx ky tn i)), (5, .double (kx_qx kx ky tn i)), (4, .int (nI i)), (2, .double (kx_sum (fun i => kx_d2 (sh (4 * i)) (sh (4 * i + 1)) (kx_qx kx ky tn i) (kx_qy kx ky tn i)) i)), (1, .int tn), (0, .ref m0)]) hx hb dX5_apartBy_136 hl (by decide) rfl (fun ls hl => ?_)
                refine lv_aload_n hx hb dX5_apartBy_138 rfl (lv_at hl 6 rfl) ?_
                refine va_get (D := G.1) (ci := 6) (v := .ref m7) (C := RX5) (T := TX5) (N := 19) hx hb hts hin_X5 hown hT.1 hP 0 rfl rfl 11 (by decide) hf_29 (fun _ h9 => h9) rfl dX5_apartBy_139 ?_
                refine lv_iconst (v := 4) hx hb dX5_apartBy_142 (by decide) ?_
                refine lv_iload hx hb dX5_apartBy_143 (lv_at hl 3 rfl) ?_
                refine lv_imul hx hb dX5_apartBy_145 ?_
                refine kx_ei (y := nI (4 * i)) (pk_mul 4 i) ?_
                refine lv_iconst (v := 1) hx hb dX5_apartBy_146 (by decide) ?_
                refine lv_iadd hx hb dX5_apartBy_147 ?_
                refine kx_ei (y := nI ((4 * i) + 1)) (nI_add (4 * i) 1) ?_
                refine kx_dald hx hb hT hP 7 rfl ((4 * i) + 1) (by omega) (by omega) dX5_apartBy_148 ?_
                refine lv_dload hx hb dX5_apartBy_149 (lv_at hl 1 rfl) ?_
                refine lv_dsub hx hb dX5_apartBy_151 (fx_bd.sub (hb_sh ((4 * i) + 1)) (kx_qy_bd hb_kx hb_ky) (by omega)).n ?_
                refine lv_dstore (lv' := [(11, .double (FP.dsub (sh ((4 * i) + 1)) (kx_qy kx ky tn i))), (9, .double (FP.dsub (sh (4 * i)) (kx_qx kx ky tn i))), (7, .double (kx_qy kx ky tn i)), (5, .double (kx_qx kx ky tn i)), (4, .int (nI i)), (2, .double (kx_sum (fun i => kx_d2 (sh (4 * i)) (sh (4 * i + 1)) (kx_qx kx ky tn i) (kx_qy kx ky tn i)) i)), (1, .int tn), (0, .ref m0)]) hx hb dX5_apartBy_152 hl (by decide) rfl (fun ls hl => ?_)
                refine lv_dload_n hx hb dX5_apartBy_154 rfl (lv_at hl 5 rfl) ?_
                refine lv_dload hx hb dX5_apartBy_155 (lv_at hl 1 rfl) ?_
                refine lv_dload hx hb dX5_apartBy_157 (lv_at hl 1 rfl) ?_
                refine lv_dmul hx hb dX5_apartBy_159 (fx_bd.mul (fx_bd.sub (hb_sh (4 * i)) (kx_qx_bd hb_kx hb_ky) (by omega)) (fx_bd.sub (hb_sh (4 * i)) (kx_qx_bd hb_kx hb_ky) (by omega)) (by omega)).n ?_
                refine lv_dload hx hb dX5_apartBy_160 (lv_at hl 0 rfl) ?_
                refine lv_dload hx hb dX5_apartBy_162 (lv_at hl 0 rfl) ?_
                refine lv_dmul hx hb dX5_apartBy_164 (fx_bd.mul (fx_bd.sub (hb_sh ((4 * i) + 1)) (kx_qy_bd hb_kx hb_ky) (by omega)) (fx_bd.sub (hb_sh ((4 * i) + 1)) (kx_qy_bd hb_kx hb_ky) (by omega)) (by omega)).n ?_
                refine lv_dadd hx hb dX5_apartBy_165 (fx_bd.add (fx_bd.mul (fx_bd.sub (hb_sh (4 * i)) (kx_qx_bd hb_kx hb_ky) (by omega)) (fx_bd.sub (hb_sh (4 * i)) (kx_qx_bd hb_kx hb_ky) (by omega)) (by omega)) (fx_bd.mul (fx_bd.sub (hb_sh ((4 * i) + 1)) (kx_qy_bd hb_kx hb_ky) (by omega)) (fx_bd.sub (hb_sh ((4 * i) + 1)) (kx_qy_bd hb_kx hb_ky) (by omega)) (by omega)) (by omega)).n ?_
                refine lv_dadd hx hb dX5_apartBy_166 (fx_bd.add (kx_sum_bd (K := 447) (fun j => kx_d2_bd (hb_sh (4 * j)) (hb_sh (4 * j + 1)) (kx_qx_bd hb_kx hb_ky) (kx_qy_bd hb_kx hb_ky)) i (by omega)) (fx_bd.add (fx_bd.mul (fx_bd.sub (hb_sh (4 * i)) (kx_qx_bd hb_kx hb_ky) (by omega)) (fx_bd.sub (hb_sh (4 * i)) (kx_qx_bd hb_kx hb_ky) (by omega)) (by omega)) (fx_bd.mul (fx_bd.sub (hb_sh ((4 * i) + 1)) (kx_qy_bd hb_kx hb_ky) (by omega)) (fx_bd.sub (hb_sh ((4 * i) + 1)) (kx_qy_bd hb_kx hb_ky) (by omega)) (by omega)) (by omega)) (by omega)).n ?_
                refine lv_dstore_n (lv' := [(2, .double (FP.dadd (kx_sum (fun i => kx_d2 (sh (4 * i)) (sh (4 * i + 1)) (kx_qx kx ky tn i) (kx_qy kx ky tn i)) i) (FP.dadd (FP.dmul (FP.dsub (sh (4 * i)) (kx_qx kx ky tn i)) (FP.dsub (sh (4 * i)) (kx_qx kx ky tn i))) (FP.dmul (FP.dsub (sh ((4 * i) + 1)) (kx_qy kx ky tn i)) (FP.dsub (sh ((4 * i) + 1)) (kx_qy kx ky tn i)))))), (11, .double (FP.dsub (sh ((4 * i) + 1)) (kx_qy kx ky tn i))), (9, .double (FP.dsub (sh (4 * i)) (kx_qx kx ky tn i))), (7, .double (kx_qy kx ky tn i)), (5, .double (kx_qx kx ky tn i)), (4, .int (nI i)), (1, .int tn), (0, .ref m0)]) hx hb dX5_apartBy_167 rfl hl (by decide) rfl (fun ls hl => ?_)
                refine lv_iinc (v := nI (i + 1)) (lv' := [(4, .int (nI (i + 1))), (2, .double (FP.dadd (kx_sum (fun i => kx_d2 (sh (4 * i)) (sh (4 * i + 1)) (kx_qx kx ky tn i) (kx_qy kx ky tn i)) i) (FP.dadd (FP.dmul (FP.dsub (sh (4 * i)) (kx_qx kx ky tn i)) (FP.dsub (sh (4 * i)) (kx_qx kx ky tn i))) (FP.dmul (FP.dsub (sh ((4 * i) + 1)) (kx_qy kx ky tn i)) (FP.dsub (sh ((4 * i) + 1)) (kx_qy kx ky tn i)))))), (11, .double (FP.dsub (sh ((4 * i) + 1)) (kx_qy kx ky tn i))), (9, .double (FP.dsub (sh (4 * i)) (kx_qx kx ky tn i))), (7, .double (kx_qy kx ky tn i)), (5, .double (kx_qx kx ky tn i)), (1, .int tn), (0, .ref m0)]) hx hb dX5_apartBy_168 hl (k := 5) rfl (by show _ + 1 = _; exact nI_1 _) (by decide) rfl (fun ls hl => ?_)
                refine lv_goto (tgt := 5) hx hb dX5_apartBy_171 (by decide) ?_
                exact ih (i + 1) _ (by omega) rfl _ (lv_sub hl [0, 1, 6, 7] rfl)
              · refine lv_aload_n hx hb dX5_apartBy_103 rfl (lv_at hl 4 rfl) ?_
                refine va_get (D := G.1) (ci := 6) (v := .ref m12) (C := RX5) (T := TX5) (N := 19) hx hb hts hin_X5 hown hT.1 hP 0 rfl rfl 18 (by decide) hf_45 (fun _ h9 => h9) rfl dX5_apartBy_104 ?_
                refine lv_iload hx hb dX5_apartBy_107 (lv_at hl 1 rfl) ?_
                refine kx_dald hx hb hT hP 12 rfl i (by omega) (by omega) dX5_apartBy_109 ?_
                refine lv_dneg hx hb dX5_apartBy_110 ?_
                refine lv_goto (tgt := 122) hx hb dX5_apartBy_111 (by decide) ?_
                refine kx_ed (y := kx_qy kx ky tn i) (by unfold kx_qy; rw [if_neg c_15, if_neg c_16, if_pos c_17]) ?_
                refine lv_dstore (lv' := [(7, .double (kx_qy kx ky tn i)), (5, .double (kx_qx kx ky tn i)), (4, .int (nI i)), (2, .double (kx_sum (fun i => kx_d2 (sh (4 * i)) (sh (4 * i + 1)) (kx_qx kx ky tn i) (kx_qy kx ky tn i)) i)), (1, .int tn), (0, .ref m0)]) hx hb dX5_apartBy_122 hl (by decide) rfl (fun ls hl => ?_)
                refine lv_aload_n hx hb dX5_apartBy_124 rfl (lv_at hl 5 rfl) ?_
                refine va_get (D := G.1) (ci := 6) (v := .ref m7) (C := RX5) (T := TX5) (N := 19) hx hb hts hin_X5 hown hT.1 hP 0 rfl rfl 11 (by decide) hf_29 (fun _ h9 => h9) rfl dX5_apartBy_125 ?_
                refine lv_iconst (v := 4) hx hb dX5_apartBy_128 (by decide) ?_
                refine lv_iload hx hb dX5_apartBy_129 (lv_at hl 2 rfl) ?_
                refine lv_imul hx hb dX5_apartBy_131 ?_
                refine kx_ei (y := nI (4 * i)) (pk_mul 4 i) ?_
                refine kx_dald hx hb hT hP 7 rfl (4 * i) (by omega) (by omega) dX5_apartBy_132 ?_
                refine lv_dload hx hb dX5_apartBy_133 (lv_at hl 1 rfl) ?_
                refine lv_dsub hx hb dX5_apartBy_135 (fx_bd.sub (hb_sh (4 * i)) (kx_qx_bd hb_kx hb_ky) (by omega)).n ?_
                refine lv_dstore (lv' := [(9, .double (FP.dsub (sh (4 * i)) (kx_qx kx ky tn i))), (7, .double (kx_qy kx ky tn i)), (5, .double (kx_qx kx ky tn i)), (4, .int (nI i)), (2, .double (kx_sum (fun i => kx_d2 (sh (4 * i)) (sh (4 * i + 1)) (kx_qx kx ky tn i) (kx_qy kx ky tn i)) i)), (1, .int tn), (0, .ref m0)]) hx hb dX5_apartBy_136 hl (by decide) rfl (fun ls hl => ?_)
                refine lv_aload_n hx hb dX5_apartBy_138 rfl (lv_at hl 6 rfl) ?_
                refine va_get (D := G.1) (ci := 6) (v := .ref m7) (C := RX5) (T := TX5) (N := 19) hx hb hts hin_X5 hown hT.1 hP 0 rfl rfl 11 (by decide) hf_29 (fun _ h9 => h9) rfl dX5_apartBy_139 ?_
                refine lv_iconst (v := 4) hx hb dX5_apartBy_142 (by decide) ?_
                refine lv_iload hx hb dX5_apartBy_143 (lv_at hl 3 rfl) ?_
                refine lv_imul hx hb dX5_apartBy_145 ?_
                refine kx_ei (y := nI (4 * i)) (pk_mul 4 i) ?_
                refine lv_iconst (v := 1) hx hb dX5_apartBy_146 (by decide) ?_
                refine lv_iadd hx hb dX5_apartBy_147 ?_
                refine kx_ei (y := nI ((4 * i) + 1)) (nI_add (4 * i) 1) ?_
                refine kx_dald hx hb hT hP 7 rfl ((4 * i) + 1) (by omega) (by omega) dX5_apartBy_148 ?_
                refine lv_dload hx hb dX5_apartBy_149 (lv_at hl 1 rfl) ?_
                refine lv_dsub hx hb dX5_apartBy_151 (fx_bd.sub (hb_sh ((4 * i) + 1)) (kx_qy_bd hb_kx hb_ky) (by omega)).n ?_
                refine lv_dstore (lv' := [(11, .double (FP.dsub (sh ((4 * i) + 1)) (kx_qy kx ky tn i))), (9, .double (FP.dsub (sh (4 * i)) (kx_qx kx ky tn i))), (7, .double (kx_qy kx ky tn i)), (5, .double (kx_qx kx ky tn i)), (4, .int (nI i)), (2, .double (kx_sum (fun i => kx_d2 (sh (4 * i)) (sh (4 * i + 1)) (kx_qx kx ky tn i) (kx_qy kx ky tn i)) i)), (1, .int tn), (0, .ref m0)]) hx hb dX5_apartBy_152 hl (by decide) rfl (fun ls hl => ?_)
                refine lv_dload_n hx hb dX5_apartBy_154 rfl (lv_at hl 5 rfl) ?_
                refine lv_dload hx hb dX5_apartBy_155 (lv_at hl 1 rfl) ?_
                refine lv_dload hx hb dX5_apartBy_157 (lv_at hl 1 rfl) ?_
                refine lv_dmul hx hb dX5_apartBy_159 (fx_bd.mul (fx_bd.sub (hb_sh (4 * i)) (kx_qx_bd hb_kx hb_ky) (by omega)) (fx_bd.sub (hb_sh (4 * i)) (kx_qx_bd hb_kx hb_ky) (by omega)) (by omega)).n ?_
                refine lv_dload hx hb dX5_apartBy_160 (lv_at hl 0 rfl) ?_
                refine lv_dload hx hb dX5_apartBy_162 (lv_at hl 0 rfl) ?_
                refine lv_dmul hx hb dX5_apartBy_164 (fx_bd.mul (fx_bd.sub (hb_sh ((4 * i) + 1)) (kx_qy_bd hb_kx hb_ky) (by omega)) (fx_bd.sub (hb_sh ((4 * i) + 1)) (kx_qy_bd hb_kx hb_ky) (by omega)) (by omega)).n ?_
                refine lv_dadd hx hb dX5_apartBy_165 (fx_bd.add (fx_bd.mul (fx_bd.sub (hb_sh (4 * i)) (kx_qx_bd hb_kx hb_ky) (by omega)) (fx_bd.sub (hb_sh (4 * i)) (kx_qx_bd hb_kx hb_ky) (by omega)) (by omega)) (fx_bd.mul (fx_bd.sub (hb_sh ((4 * i) + 1)) (kx_qy_bd hb_kx hb_ky) (by omega)) (fx_bd.sub (hb_sh ((4 * i) + 1)) (kx_qy_bd hb_kx hb_ky) (by omega)) (by omega)) (by omega)).n ?_
                refine lv_dadd hx hb dX5_apartBy_166 (fx_bd.add (kx_sum_bd (K := 447) (fun j => kx_d2_bd (hb_sh (4 * j)) (hb_sh (4 * j + 1)) (kx_qx_bd hb_kx hb_ky) (kx_qy_bd hb_kx hb_ky)) i (by omega)) (fx_bd.add (fx_bd.mul (fx_bd.sub (hb_sh (4 * i)) (kx_qx_bd hb_kx hb_ky) (by omega)) (fx_bd.sub (hb_sh (4 * i)) (kx_qx_bd hb_kx hb_ky) (by omega)) (by omega)) (fx_bd.mul (fx_bd.sub (hb_sh ((4 * i) + 1)) (kx_qy_bd hb_kx hb_ky) (by omega)) (fx_bd.sub (hb_sh ((4 * i) + 1)) (kx_qy_bd hb_kx hb_ky) (by omega)) (by omega)) (by omega)) (by omega)).n ?_
                refine lv_dstore_n (lv' := [(2, .double (FP.dadd (kx_sum (fun i => kx_d2 (sh (4 * i)) (sh (4 * i + 1)) (kx_qx kx ky tn i) (kx_qy kx ky tn i)) i) (FP.dadd (FP.dmul (FP.dsub (sh (4 * i)) (kx_qx kx ky tn i)) (FP.dsub (sh (4 * i)) (kx_qx kx ky tn i))) (FP.dmul (FP.dsub (sh ((4 * i) + 1)) (kx_qy kx ky tn i)) (FP.dsub (sh ((4 * i) + 1)) (kx_qy kx ky tn i)))))), (11, .double (FP.dsub (sh ((4 * i) + 1)) (kx_qy kx ky tn i))), (9, .double (FP.dsub (sh (4 * i)) (kx_qx kx ky tn i))), (7, .double (kx_qy kx ky tn i)), (5, .double (kx_qx kx ky tn i)), (4, .int (nI i)), (1, .int tn), (0, .ref m0)]) hx hb dX5_apartBy_167 rfl hl (by decide) rfl (fun ls hl => ?_)
                refine lv_iinc (v := nI (i + 1)) (lv' := [(4, .int (nI (i + 1))), (2, .double (FP.dadd (kx_sum (fun i => kx_d2 (sh (4 * i)) (sh (4 * i + 1)) (kx_qx kx ky tn i) (kx_qy kx ky tn i)) i) (FP.dadd (FP.dmul (FP.dsub (sh (4 * i)) (kx_qx kx ky tn i)) (FP.dsub (sh (4 * i)) (kx_qx kx ky tn i))) (FP.dmul (FP.dsub (sh ((4 * i) + 1)) (kx_qy kx ky tn i)) (FP.dsub (sh ((4 * i) + 1)) (kx_qy kx ky tn i)))))), (11, .double (FP.dsub (sh ((4 * i) + 1)) (kx_qy kx ky tn i))), (9, .double (FP.dsub (sh (4 * i)) (kx_qx kx ky tn i))), (7, .double (kx_qy kx ky tn i)), (5, .double (kx_qx kx ky tn i)), (1, .int tn), (0, .ref m0)]) hx hb dX5_apartBy_168 hl (k := 5) rfl (by show _ + 1 = _; exact nI_1 _) (by decide) rfl (fun ls hl => ?_)
                refine lv_goto (tgt := 5) hx hb dX5_apartBy_171 (by decide) ?_
                exact ih (i + 1) _ (by omega) rfl _ (lv_sub hl [0, 1, 6, 7] rfl)
            · refine lv_aload_n hx hb dX5_apartBy_88 rfl (lv_at hl 4 rfl) ?_
              refine va_get (D := G.1) (ci := 6) (v := .ref m11) (C := RX5) (T := TX5) (N := 19) hx hb hts hin_X5 hown hT.1 hP 0 rfl rfl 17 (by decide) hf_42 (fun _ h9 => h9) rfl dX5_apartBy_89 ?_
              refine lv_iload hx hb dX5_apartBy_92 (lv_at hl 1 rfl) ?_
              refine kx_dald hx hb hT hP 11 rfl i (by omega) (by omega) dX5_apartBy_94 ?_
              refine lv_goto (tgt := 122) hx hb dX5_apartBy_95 (by decide) ?_
              refine kx_ed (y := kx_qy kx ky tn i) (by unfold kx_qy; rw [if_neg c_15, if_pos c_16]) ?_
              refine lv_dstore (lv' := [(7, .double (kx_qy kx ky tn i)), (5, .double (kx_qx kx ky tn i)), (4, .int (nI i)), (2, .double (kx_sum (fun i => kx_d2 (sh (4 * i)) (sh (4 * i + 1)) (kx_qx kx ky tn i) (kx_qy kx ky tn i)) i)), (1, .int tn), (0, .ref m0)]) hx hb dX5_apartBy_122 hl (by decide) rfl (fun ls hl => ?_)
              refine lv_aload_n hx hb dX5_apartBy_124 rfl (lv_at hl 5 rfl) ?_
              refine va_get (D := G.1) (ci := 6) (v := .ref m7) (C := RX5) (T := TX5) (N := 19) hx hb hts hin_X5 hown hT.1 hP 0 rfl rfl 11 (by decide) hf_29 (fun _ h9 => h9) rfl dX5_apartBy_125 ?_
              refine lv_iconst (v := 4) hx hb dX5_apartBy_128 (by decide) ?_
              refine lv_iload hx hb dX5_apartBy_129 (lv_at hl 2 rfl) ?_
              refine lv_imul hx hb dX5_apartBy_131 ?_
              refine kx_ei (y := nI (4 * i)) (pk_mul 4 i) ?_
              refine kx_dald hx hb hT hP 7 rfl (4 * i) (by omega) (by omega) dX5_apartBy_132 ?_
              refine lv_dload hx hb dX5_apartBy_133 (lv_at hl 1 rfl) ?_
              refine lv_dsub hx hb dX5_apartBy_135 (fx_bd.sub (hb_sh (4 * i)) (kx_qx_bd hb_kx hb_ky) (by omega)).n ?_
              refine lv_dstore (lv' := [(9, .double (FP.dsub (sh (4 * i)) (kx_qx kx ky tn i))), (7, .double (kx_qy kx ky tn i)), (5, .double (kx_qx kx ky tn i)), (4, .int (nI i)), (2, .double (kx_sum (fun i => kx_d2 (sh (4 * i)) (sh (4 * i + 1)) (kx_qx kx ky tn i) (kx_qy kx ky tn i)) i)), (1, .int tn), (0, .ref m0)]) hx hb dX5_apartBy_136 hl (by decide) rfl (fun ls hl => ?_)
              refine lv_aload_n hx hb dX5_apartBy_138 rfl (lv_at hl 6 rfl) ?_
              refine va_get (D := G.1) (ci := 6) (v := .ref m7) (C := RX5) (T := TX5) (N := 19) hx hb hts hin_X5 hown hT.1 hP 0 rfl rfl 11 (by decide) hf_29 (fun _ h9 => h9) rfl dX5_apartBy_139 ?_
              refine lv_iconst (v := 4) hx hb dX5_apartBy_142 (by decide) ?_
              refine lv_iload hx hb dX5_apartBy_143 (lv_at hl 3 rfl) ?_
              refine lv_imul hx hb dX5_apartBy_145 ?_
              refine kx_ei (y := nI (4 * i)) (pk_mul 4 i) ?_
              refine lv_iconst (v := 1) hx hb dX5_apartBy_146 (by decide) ?_
              refine lv_iadd hx hb dX5_apartBy_147 ?_
              refine kx_ei (y := nI ((4 * i) + 1)) (nI_add (4 * i) 1) ?_
              refine kx_dald hx hb hT hP 7 rfl ((4 * i) + 1) (by omega) (by omega) dX5_apartBy_148 ?_
              refine lv_dload hx hb dX5_apartBy_149 (lv_at hl 1 rfl) ?_
              refine lv_dsub hx hb dX5_apartBy_151 (fx_bd.sub (hb_sh ((4 * i) + 1)) (kx_qy_bd hb_kx hb_ky) (by omega)).n ?_
              refine lv_dstore (lv' := [(11, .double (FP.dsub (sh ((4 * i) + 1)) (kx_qy kx ky tn i))), (9, .double (FP.dsub (sh (4 * i)) (kx_qx kx ky tn i))), (7, .double (kx_qy kx ky tn i)), (5, .double (kx_qx kx ky tn i)), (4, .int (nI i)), (2, .double (kx_sum (fun i => kx_d2 (sh (4 * i)) (sh (4 * i + 1)) (kx_qx kx ky tn i) (kx_qy kx ky tn i)) i)), (1, .int tn), (0, .ref m0)]) hx hb dX5_apartBy_152 hl (by decide) rfl (fun ls hl => ?_)
              refine lv_dload_n hx hb dX5_apartBy_154 rfl (lv_at hl 5 rfl) ?_
              refine lv_dload hx hb dX5_apartBy_155 (lv_at hl 1 rfl) ?_
              refine lv_dload hx hb dX5_apartBy_157 (lv_at hl 1 rfl) ?_
              refine lv_dmul hx hb dX5_apartBy_159 (fx_bd.mul (fx_bd.sub (hb_sh (4 * i)) (kx_qx_bd hb_kx hb_ky) (by omega)) (fx_bd.sub (hb_sh (4 * i)) (kx_qx_bd hb_kx hb_ky) (by omega)) (by omega)).n ?_
              refine lv_dload hx hb dX5_apartBy_160 (lv_at hl 0 rfl) ?_
              refine lv_dload hx hb dX5_apartBy_162 (lv_at hl 0 rfl) ?_
              refine lv_dmul hx hb dX5_apartBy_164 (fx_bd.mul (fx_bd.sub (hb_sh ((4 * i) + 1)) (kx_qy_bd hb_kx hb_ky) (by omega)) (fx_bd.sub (hb_sh ((4 * i) + 1)) (kx_qy_bd hb_kx hb_ky) (by omega)) (by omega)).n ?_
              refine lv_dadd hx hb dX5_apartBy_165 (fx_bd.add (fx_bd.mul (fx_bd.sub (hb_sh (4 * i)) (kx_qx_bd hb_kx hb_ky) (by omega)) (fx_bd.sub (hb_sh (4 * i)) (kx_qx_bd hb_kx hb_ky) (by omega)) (by omega)) (fx_bd.mul (fx_bd.sub (hb_sh ((4 * i) + 1)) (kx_qy_bd hb_kx hb_ky) (by omega)) (fx_bd.sub (hb_sh ((4 * i) + 1)) (kx_qy_bd hb_kx hb_ky) (by omega)) (by omega)) (by omega)).n ?_
              refine lv_dadd hx hb dX5_apartBy_166 (fx_bd.add (kx_sum_bd (K := 447) (fun j => kx_d2_bd (hb_sh (4 * j)) (hb_sh (4 * j + 1)) (kx_qx_bd hb_kx hb_ky) (kx_qy_bd hb_kx hb_ky)) i (by omega)) (fx_bd.add (fx_bd.mul (fx_bd.sub (hb_sh (4 * i)) (kx_qx_bd hb_kx hb_ky) (by omega)) (fx_bd.sub (hb_sh (4 * i)) (kx_qx_bd hb_kx hb_ky) (by omega)) (by omega)) (fx_bd.mul (fx_bd.sub (hb_sh ((4 * i) + 1)) (kx_qy_bd hb_kx hb_ky) (by omega)) (fx_bd.sub (hb_sh ((4 * i) + 1)) (kx_qy_bd hb_kx hb_ky) (by omega)) (by omega)) (by omega)) (by omega)).n ?_
              refine lv_dstore_n (lv' := [(2, .double (FP.dadd (kx_sum (fun i => kx_d2 (sh (4 * i)) (sh (4 * i + 1)) (kx_qx kx ky tn i) (kx_qy kx ky tn i)) i) (FP.dadd (FP.dmul (FP.dsub (sh (4 * i)) (kx_qx kx ky tn i)) (FP.dsub (sh (4 * i)) (kx_qx kx ky tn i))) (FP.dmul (FP.dsub (sh ((4 * i) + 1)) (kx_qy kx ky tn i)) (FP.dsub (sh ((4 * i) + 1)) (kx_qy kx ky tn i)))))), (11, .double (FP.dsub (sh ((4 * i) + 1)) (kx_qy kx ky tn i))), (9, .double (FP.dsub (sh (4 * i)) (kx_qx kx ky tn i))), (7, .double (kx_qy kx ky tn i)), (5, .double (kx_qx kx ky tn i)), (4, .int (nI i)), (1, .int tn), (0, .ref m0)]) hx hb dX5_apartBy_167 rfl hl (by decide) rfl (fun ls hl => ?_)
              refine lv_iinc (v := nI (i + 1)) (lv' := [(4, .int (nI (i + 1))), (2, .double (FP.dadd (kx_sum (fun i => kx_d2 (sh (4 * i)) (sh (4 * i + 1)) (kx_qx kx ky tn i) (kx_qy kx ky tn i)) i) (FP.dadd (FP.dmul (FP.dsub (sh (4 * i)) (kx_qx kx ky tn i)) (FP.dsub (sh (4 * i)) (kx_qx kx ky tn i))) (FP.dmul (FP.dsub (sh ((4 * i) + 1)) (kx_qy kx ky tn i)) (FP.dsub (sh ((4 * i) + 1)) (kx_qy kx ky tn i)))))), (11, .double (FP.dsub (sh ((4 * i) + 1)) (kx_qy kx ky tn i))), (9, .double (FP.dsub (sh (4 * i)) (kx_qx kx ky tn i))), (7, .double (kx_qy kx ky tn i)), (5, .double (kx_qx kx ky tn i)), (1, .int tn), (0, .ref m0)]) hx hb dX5_apartBy_168 hl (k := 5) rfl (by show _ + 1 = _; exact nI_1 _) (by decide) rfl (fun ls hl => ?_)
              refine lv_goto (tgt := 5) hx hb dX5_apartBy_171 (by decide) ?_
              exact ih (i + 1) _ (by omega) rfl _ (lv_sub hl [0, 1, 6, 7] rfl)
          · refine lv_aload_n hx hb dX5_apartBy_73 rfl (lv_at hl 4 rfl) ?_
            refine va_get (D := G.1) (ci := 6) (v := .ref m12) (C := RX5) (T := TX5) (N := 19) hx hb hts hin_X5 hown hT.1 hP 0 rfl rfl 18 (by decide) hf_45 (fun _ h9 => h9) rfl dX5_apartBy_74 ?_
            refine lv_iload hx hb dX5_apartBy_77 (lv_at hl 1 rfl) ?_
            refine kx_dald hx hb hT hP 12 rfl i (by omega) (by omega) dX5_apartBy_79 ?_
            refine lv_goto (tgt := 122) hx hb dX5_apartBy_80 (by decide) ?_
            refine kx_ed (y := kx_qy kx ky tn i) (by unfold kx_qy; rw [if_pos c_15]) ?_
            refine lv_dstore (lv' := [(7, .double (kx_qy kx ky tn i)), (5, .double (kx_qx kx ky tn i)), (4, .int (nI i)), (2, .double (kx_sum (fun i => kx_d2 (sh (4 * i)) (sh (4 * i + 1)) (kx_qx kx ky tn i) (kx_qy kx ky tn i)) i)), (1, .int tn), (0, .ref m0)]) hx hb dX5_apartBy_122 hl (by decide) rfl (fun ls hl => ?_)
            refine lv_aload_n hx hb dX5_apartBy_124 rfl (lv_at hl 5 rfl) ?_
            refine va_get (D := G.1) (ci := 6) (v := .ref m7) (C := RX5) (T := TX5) (N := 19) hx hb hts hin_X5 hown hT.1 hP 0 rfl rfl 11 (by decide) hf_29 (fun _ h9 => h9) rfl dX5_apartBy_125 ?_
            refine lv_iconst (v := 4) hx hb dX5_apartBy_128 (by decide) ?_
            refine lv_iload hx hb dX5_apartBy_129 (lv_at hl 2 rfl) ?_
            refine lv_imul hx hb dX5_apartBy_131 ?_
            refine kx_ei (y := nI (4 * i)) (pk_mul 4 i) ?_
            refine kx_dald hx hb hT hP 7 rfl (4 * i) (by omega) (by omega) dX5_apartBy_132 ?_
            refine lv_dload hx hb dX5_apartBy_133 (lv_at hl 1 rfl) ?_
            refine lv_dsub hx hb dX5_apartBy_135 (fx_bd.sub (hb_sh (4 * i)) (kx_qx_bd hb_kx hb_ky) (by omega)).n ?_
            refine lv_dstore (lv' := [(9, .double (FP.dsub (sh (4 * i)) (kx_qx kx ky tn i))), (7, .double (kx_qy kx ky tn i)), (5, .double (kx_qx kx ky tn i)), (4, .int (nI i)), (2, .double (kx_sum (fun i => kx_d2 (sh (4 * i)) (sh (4 * i + 1)) (kx_qx kx ky tn i) (kx_qy kx ky tn i)) i)), (1, .int tn), (0, .ref m0)]) hx hb dX5_apartBy_136 hl (by decide) rfl (fun ls hl => ?_)
            refine lv_aload_n hx hb dX5_apartBy_138 rfl (lv_at hl 6 rfl) ?_
            refine va_get (D := G.1) (ci := 6) (v := .ref m7) (C := RX5) (T := TX5) (N := 19) hx hb hts hin_X5 hown hT.1 hP 0 rfl rfl 11 (by decide) hf_29 (fun _ h9 => h9) rfl dX5_apartBy_139 ?_
            refine lv_iconst (v := 4) hx hb dX5_apartBy_142 (by decide) ?_
            refine lv_iload hx hb dX5_apartBy_143 (lv_at hl 3 rfl) ?_
            refine lv_imul hx hb dX5_apartBy_145 ?_
            refine kx_ei (y := nI (4 * i)) (pk_mul 4 i) ?_
            refine lv_iconst (v := 1) hx hb dX5_apartBy_146 (by decide) ?_
            refine lv_iadd hx hb dX5_apartBy_147 ?_
            refine kx_ei (y := nI ((4 * i) + 1)) (nI_add (4 * i) 1) ?_
            refine kx_dald hx hb hT hP 7 rfl ((4 * i) + 1) (by omega) (by omega) dX5_apartBy_148 ?_
            refine lv_dload hx hb dX5_apartBy_149 (lv_at hl 1 rfl) ?_
            refine lv_dsub hx hb dX5_apartBy_151 (fx_bd.sub (hb_sh ((4 * i) + 1)) (kx_qy_bd hb_kx hb_ky) (by omega)).n ?_
            refine lv_dstore (lv' := [(11, .double (FP.dsub (sh ((4 * i) + 1)) (kx_qy kx ky tn i))), (9, .double (FP.dsub (sh (4 * i)) (kx_qx kx ky tn i))), (7, .double (kx_qy kx ky tn i)), (5, .double (kx_qx kx ky tn i)), (4, .int (nI i)), (2, .double (kx_sum (fun i => kx_d2 (sh (4 * i)) (sh (4 * i + 1)) (kx_qx kx ky tn i) (kx_qy kx ky tn i)) i)), (1, .int tn), (0, .ref m0)]) hx hb dX5_apartBy_152 hl (by decide) rfl (fun ls hl => ?_)
            refine lv_dload_n hx hb dX5_apartBy_154 rfl (lv_at hl 5 rfl) ?_
            refine lv_dload hx hb dX5_apartBy_155 (lv_at hl 1 rfl) ?_
            refine lv_dload hx hb dX5_apartBy_157 (lv_at hl 1 rfl) ?_
            refine lv_dmul hx hb dX5_apartBy_159 (fx_bd.mul (fx_bd.sub (hb_sh (4 * i)) (kx_qx_bd hb_kx hb_ky) (by omega)) (fx_bd.sub (hb_sh (4 * i)) (kx_qx_bd hb_kx hb_ky) (by omega)) (by omega)).n ?_
            refine lv_dload hx hb dX5_apartBy_160 (lv_at hl 0 rfl) ?_
            refine lv_dload hx hb dX5_apartBy_162 (lv_at hl 0 rfl) ?_
            refine lv_dmul hx hb dX5_apartBy_164 (fx_bd.mul (fx_bd.sub (hb_sh ((4 * i) + 1)) (kx_qy_bd hb_kx hb_ky) (by omega)) (fx_bd.sub (hb_sh ((4 * i) + 1)) (kx_qy_bd hb_kx hb_ky) (by omega)) (by omega)).n ?_
            refine lv_dadd hx hb dX5_apartBy_165 (fx_bd.add (fx_bd.mul (fx_bd.sub (hb_sh (4 * i)) (kx_qx_bd hb_kx hb_ky) (by omega)) (fx_bd.sub (hb_sh (4 * i)) (kx_qx_bd hb_kx hb_ky) (by omega)) (by omega)) (fx_bd.mul (fx_bd.sub (hb_sh ((4 * i) + 1)) (kx_qy_bd hb_kx hb_ky) (by omega)) (fx_bd.sub (hb_sh ((4 * i) + 1)) (kx_qy_bd hb_kx hb_ky) (by omega)) (by omega)) (by omega)).n ?_
            refine lv_dadd hx hb dX5_apartBy_166 (fx_bd.add (kx_sum_bd (K := 447) (fun j => kx_d2_bd (hb_sh (4 * j)) (hb_sh (4 * j + 1)) (kx_qx_bd hb_kx hb_ky) (kx_qy_bd hb_kx hb_ky)) i (by omega)) (fx_bd.add (fx_bd.mul (fx_bd.sub (hb_sh (4 * i)) (kx_qx_bd hb_kx hb_ky) (by omega)) (fx_bd.sub (hb_sh (4 * i)) (kx_qx_bd hb_kx hb_ky) (by omega)) (by omega)) (fx_bd.mul (fx_bd.sub (hb_sh ((4 * i) + 1)) (kx_qy_bd hb_kx hb_ky) (by omega)) (fx_bd.sub (hb_sh ((4 * i) + 1)) (kx_qy_bd hb_kx hb_ky) (by omega)) (by omega)) (by omega)) (by omega)).n ?_
            refine lv_dstore_n (lv' := [(2, .double (FP.dadd (kx_sum (fun i => kx_d2 (sh (4 * i)) (sh (4 * i + 1)) (kx_qx kx ky tn i) (kx_qy kx ky tn i)) i) (FP.dadd (FP.dmul (FP.dsub (sh (4 * i)) (kx_qx kx ky tn i)) (FP.dsub (sh (4 * i)) (kx_qx kx ky tn i))) (FP.dmul (FP.dsub (sh ((4 * i) + 1)) (kx_qy kx ky tn i)) (FP.dsub (sh ((4 * i) + 1)) (kx_qy kx ky tn i)))))), (11, .double (FP.dsub (sh ((4 * i) + 1)) (kx_qy kx ky tn i))), (9, .double (FP.dsub (sh (4 * i)) (kx_qx kx ky tn i))), (7, .double (kx_qy kx ky tn i)), (5, .double (kx_qx kx ky tn i)), (4, .int (nI i)), (1, .int tn), (0, .ref m0)]) hx hb dX5_apartBy_167 rfl hl (by decide) rfl (fun ls hl => ?_)
            refine lv_iinc (v := nI (i + 1)) (lv' := [(4, .int (nI (i + 1))), (2, .double (FP.dadd (kx_sum (fun i => kx_d2 (sh (4 * i)) (sh (4 * i + 1)) (kx_qx kx ky tn i) (kx_qy kx ky tn i)) i) (FP.dadd (FP.dmul (FP.dsub (sh (4 * i)) (kx_qx kx ky tn i)) (FP.dsub (sh (4 * i)) (kx_qx kx ky tn i))) (FP.dmul (FP.dsub (sh ((4 * i) + 1)) (kx_qy kx ky tn i)) (FP.dsub (sh ((4 * i) + 1)) (kx_qy kx ky tn i)))))), (11, .double (FP.dsub (sh ((4 * i) + 1)) (kx_qy kx ky tn i))), (9, .double (FP.dsub (sh (4 * i)) (kx_qx kx ky tn i))), (7, .double (kx_qy kx ky tn i)), (5, .double (kx_qx kx ky tn i)), (1, .int tn), (0, .ref m0)]) hx hb dX5_apartBy_168 hl (k := 5) rfl (by show _ + 1 = _; exact nI_1 _) (by decide) rfl (fun ls hl => ?_)
            refine lv_goto (tgt := 5) hx hb dX5_apartBy_171 (by decide) ?_
            exact ih (i + 1) _ (by omega) rfl _ (lv_sub hl [0, 1, 6, 7] rfl)
  exact loop_5 n 0 _ (by omega) rfl _ (lv_sub hl [0, 1, 3, 2] rfl)
set_option maxHeartbeats 4000000 in
set_option maxRecDepth 100000 in
/-- FITTED: a slice -/
theorem c_X5_fit (l : Launch) (G : kx_G) (sz : Nat) (m0 : Nat) (m1 : Nat) (m2 : Nat) (m3 : Nat) (m4 : Nat) (m5 : Nat) (m6 : Nat) (m7 : Nat) (m8 : Nat) (m9 : Nat) (m10 : Nat) (m11 : Nat) (m12 : Nat) (n : Nat) (v : Nat) (tw : Int32) (ps : Nat → UInt64) (qs : Nat → UInt64) (th : Nat → Int32) (fr : Nat → UInt64) (to : Nat → UInt64) (kn : Int32) (ft : Nat) (fd : Nat → Int32) (sh : Nat → UInt64) (ru : Nat) (ki : Nat → Int32) (li : Nat → UInt64) (cl : Nat → Int32) (kp : Int32) (kx : Nat → UInt64) (ky : Nat → UInt64) (i0 : Nat) (hb_ps : ∀ j, fx_bd 5 (ps j)) (hb_qs : ∀ j, fx_bd 5 (qs j)) (hb_fr : ∀ j, fx_bd 11 (fr j)) (hb_to : ∀ j, fx_bd 11 (to j)) (hb_sh : ∀ j, fx_bd 220 (sh j)) (hb_kx : ∀ j, fx_bd 130 (kx j)) (hb_ky : ∀ j, fx_bd 130 (ky j)) (hn1 : 1 ≤ n) (hn : n ≤ 16) (hv1 : 1 ≤ v) (hv : v ≤ 8) (hft : ft ≤ 16) (hru : ru ≤ 6) (hi : i0 < n) : Met l yX5_fit wsX5_fit ({ frames := 1, cells := 0, slots := 0, locals := 29 } : Room) (kx_PM G [.ref m0, .int (nI i0)] sz [(m0, .inr (6, [.int tw, .int (nI n), .int (nI v), .ref m1, .ref m2, .ref m3, .ref m4, .ref m5, .int kn, .int (nI ft), .ref m6, .ref m7, .int (nI ru), .ref m8, .ref m9, .ref m10, .int kp, .ref m11, .ref m12])), (m1, kx_aD G 8 ps), (m2, kx_aD G 8 qs), (m3, kx_aZ G 128 th), (m4, kx_aD G 128 fr), (m5, kx_aD G 128 to), (m6, kx_aZ G 16 fd), (m7, kx_aD G 64 sh), (m8, kx_aI G 6 ki), (m9, kx_aD G 6 li), (m10, kx_aI G 6 cl), (m11, kx_aD G 16 kx), (m12, kx_aD G 16 ky)]) (va_Qi (fun (r : Int32) (u : Nat → UInt64) => (¬ kx_fit (fun j => th (8 * i0 + j)) ps qs v ∧ r = 0 ∧ u = sh) ∨ (kx_fit (fun j => th (8 * i0 + j)) ps qs v ∧ r = 1 ∧ u = kx_st sh i0 (kx_cx (fun j => th (8 * i0 + j)) ps qs (fun j => kx_mm fr to (8 * i0 + j)) v) (kx_cy (fun j => th (8 * i0 + j)) ps qs (fun j => kx_mm fr to (8 * i0 + j)) v) (kx_rad (fun j => th (8 * i0 + j)) (fun j => kx_hh fr to (8 * i0 + j)) (fun j => kx_root (kx_sq (ps j) (qs j))) v) (kx_res (fun j => th (8 * i0 + j)) ps qs (fun j => kx_mm fr to (8 * i0 + j)) (kx_cx (fun j => th (8 * i0 + j)) ps qs (fun j => kx_mm fr to (8 * i0 + j)) v) (kx_cy (fun j => th (8 * i0 + j)) ps qs (fun j => kx_mm fr to (8 * i0 + j)) v) v))) (kx_B G (va_A [(m0, .inr (6, [.int tw, .int (nI n), .int (nI v), .ref m1, .ref m2, .ref m3, .ref m4, .ref m5, .int kn, .int (nI ft), .ref m6, .ref m7, .int (nI ru), .ref m8, .ref m9, .ref m10, .int kp, .ref m11, .ref m12])), (m1, kx_aD G 8 ps), (m2, kx_aD G 8 qs), (m3, kx_aZ G 128 th), (m4, kx_aD G 128 fr), (m5, kx_aD G 128 to), (m6, kx_aZ G 16 fd), (m7, kx_aD G 64 sh), (m8, kx_aI G 6 ki), (m9, kx_aD G 6 li), (m10, kx_aI G 6 cl), (m11, kx_aD G 16 kx), (m12, kx_aD G 16 ky)] sz) (fun u : Nat → UInt64 => [(m0, .inr (6, [.int tw, .int (nI n), .int (nI v), .ref m1, .ref m2, .ref m3, .ref m4, .ref m5, .int kn, .int (nI ft), .ref m6, .ref m7, .int (nI ru), .ref m8, .ref m9, .ref m10, .int kp, .ref m11, .ref m12])), (m1, kx_aD G 8 ps), (m2, kx_aD G 8 qs), (m3, kx_aZ G 128 th), (m4, kx_aD G 128 fr), (m5, kx_aD G 128 to), (m6, kx_aZ G 16 fd), (m7, kx_aD G 64 u), (m8, kx_aI G 6 ki), (m9, kx_aD G 6 li), (m10, kx_aI G 6 cl), (m11, kx_aD G 16 kx), (m12, kx_aD G 16 ky)])) (va_A [(m0, .inr (6, [.int tw, .int (nI n), .int (nI v), .ref m1, .ref m2, .ref m3, .ref m4, .ref m5, .int kn, .int (nI ft), .ref m6, .ref m7, .int (nI ru), .ref m8, .ref m9, .ref m10, .int kp, .ref m11, .ref m12])), (m1, kx_aD G 8 ps), (m2, kx_aD G 8 qs), (m3, kx_aZ G 128 th), (m4, kx_aD G 128 fr), (m5, kx_aD G 128 to), (m6, kx_aZ G 16 fd), (m7, kx_aD G 64 sh), (m8, kx_aI G 6 ki), (m9, kx_aD G 6 li), (m10, kx_aI G 6 cl), (m11, kx_aD G 16 kx), (m12, kx_aD G 16 ky)] sz)) 0 0 (va_A [(m0, .inr (6, [.int tw, .int (nI n), .int (nI v), .ref m1, .ref m2, .ref m3, .ref m4, .ref m5, .int kn, .int (nI ft), .ref m6, .ref m7, .int (nI ru), .ref m8, .ref m9, .ref m10, .int kp, .ref m11, .ref m12])), (m1, kx_aD G 8 ps), (m2, kx_aD G 8 qs), (m3, kx_aZ G 128 th), (m4, kx_aD G 128 fr), (m5, kx_aD G 128 to), (m6, kx_aZ G 16 fd), (m7, kx_aD G 64 sh), (m8, kx_aI G 6 ki), (m9, kx_aD G 6 li), (m10, kx_aI G 6 cl), (m11, kx_aD G 16 kx), (m12, kx_aD G 16 ky)] sz) := by
  refine Met.ofW (cc := cX5_fit) (maxL := 27) (ret := (some .boolean)) (by decide) rfl ?_
  intro p e s m args below meth c s₁ B hml hv
  obtain ⟨rfl, hsz, hP, hT, hD0⟩ := hv
  have hx := B.exec
  have hb := B.bytes
  have hr := B.returns
  have hts := atoms_spec (ws := wsX5_fit) B.pre
  have hown : s.vm.findClass RX5 = some m.cls := findClass_of_methodNamed B.named
  have hlocks := B.notSynchronized
  have hf_52 := hts (.fieldLink RX5 52 "StemShapesModel" "views" "I") (by decide +kernel)
  have hin_X5 : ∀ w ∈ wsX50, w ∈ wsX5_fit := by decide +kernel
  have hc_91 := hts (.constantDouble RX5 91 (4517110426252607488)) (by decide +kernel)
  have hf_16 := hts (.fieldLink RX5 16 "StemShapesModel" "there" "[Z") (by decide +kernel)
  have hf_7 := hts (.fieldLink RX5 7 "StemShapesModel" "ps" "[D") (by decide +kernel)
  have hf_13 := hts (.fieldLink RX5 13 "StemShapesModel" "qs" "[D") (by decide +kernel)
  have hf_23 := hts (.fieldLink RX5 23 "StemShapesModel" "tos" "[D") (by decide +kernel)
  have hf_20 := hts (.fieldLink RX5 20 "StemShapesModel" "froms" "[D") (by decide +kernel)
  have hc_81 := hts (.constantDouble RX5 81 (4611686018427387904)) (by decide +kernel)
  subst hsz
  have hD := hD0.self (sz := s.heap.size)
  generalize hAe : va_A [(m0, .inr (6, [.int tw, .int (nI n), .int (nI v), .ref m1, .ref m2, .ref m3, .ref m4, .ref m5, .int kn, .int (nI ft), .ref m6, .ref m7, .int (nI ru), .ref m8, .ref m9, .ref m10, .int kp, .ref m11, .ref m12])), (m1, kx_aD G 8 ps), (m2, kx_aD G 8 qs), (m3, kx_aZ G 128 th), (m4, kx_aD G 128 fr), (m5, kx_aD G 128 to), (m6, kx_aZ G 16 fd), (m7, kx_aD G 64 sh), (m8, kx_aI G 6 ki), (m9, kx_aD G 6 li), (m10, kx_aI G 6 cl), (m11, kx_aD G 16 kx), (m12, kx_aD G 16 ky)] s.heap.size = A at hD ⊢
  have hA : ∀ q : Nat, s.heap.size ≤ q → A q := fun q h => by rw [← hAe]; exact Or.inr h
  have hS : va_S A s.heap s.heap [] := va_S.rf
  have hl := lv_entry ([.ref m0, .int (nI i0)]) (n := 27) (Nat.le_of_ble_eq_true rfl)
  rw [lg_entry_eq]
  generalize (lg_sl ([.ref m0, .int (nI i0)]) ++ List.replicate (27 - (lg_sl ([.ref m0, .int (nI i0)])).length) Slot.unset).toArray = ls at hl ⊢
  have hl : lv_has ls 27 [(0, .ref m0), (1, .int (nI i0))] := hl
  refine lv_dconst0 hx hb dX5_fit_0 ?_
  refine lv_dstore_n (lv' := [(2, .double FP.dconst0), (0, .ref m0), (1, .int (nI i0))]) hx hb dX5_fit_1 rfl hl (by decide) rfl (fun ls hl => ?_)
  refine lv_dconst0 hx hb dX5_fit_2 ?_
  refine lv_dstore (lv' := [(4, .double FP.dconst0), (2, .double FP.dconst0), (0, .ref m0), (1, .int (nI i0))]) hx hb dX5_fit_3 hl (by decide) rfl (fun ls hl => ?_)
  refine lv_dconst0 hx hb dX5_fit_5 ?_
  refine lv_dstore (lv' := [(6, .double FP.dconst0), (4, .double FP.dconst0), (2, .double FP.dconst0), (0, .ref m0), (1, .int (nI i0))]) hx hb dX5_fit_6 hl (by decide) rfl (fun ls hl => ?_)
  refine lv_dconst0 hx hb dX5_fit_8 ?_
  refine lv_dstore (lv' := [(8, .double FP.dconst0), (6, .double FP.dconst0), (4, .double FP.dconst0), (2, .double FP.dconst0), (0, .ref m0), (1, .int (nI i0))]) hx hb dX5_fit_9 hl (by decide) rfl (fun ls hl => ?_)
  refine lv_dconst0 hx hb dX5_fit_11 ?_
  refine lv_dstore (lv' := [(10, .double FP.dconst0), (8, .double FP.dconst0), (6, .double FP.dconst0), (4, .double FP.dconst0), (2, .double FP.dconst0), (0, .ref m0), (1, .int (nI i0))]) hx hb dX5_fit_12 hl (by decide) rfl (fun ls hl => ?_)
  refine lv_dconst0 hx hb dX5_fit_14 ?_
  refine lv_dstore (lv' := [(12, .double FP.dconst0), (10, .double FP.dconst0), (8, .double FP.dconst0), (6, .double FP.dconst0), (4, .double FP.dconst0), (2, .double FP.dconst0), (0, .ref m0), (1, .int (nI i0))]) hx hb dX5_fit_15 hl (by decide) rfl (fun ls hl => ?_)
  refine lv_iconst (v := 0) hx hb dX5_fit_17 (by decide) ?_
  refine lv_istore (lv' := [(14, .int 0), (12, .double FP.dconst0), (10, .double FP.dconst0), (8, .double FP.dconst0), (6, .double FP.dconst0), (4, .double FP.dconst0), (2, .double FP.dconst0), (0, .ref m0), (1, .int (nI i0))]) hx hb dX5_fit_18 hl (by decide) rfl (fun ls hl => ?_)
  refine lv_iconst (v := 0) hx hb dX5_fit_20 (by decide) ?_
  refine lv_istore (lv' := [(15, .int 0), (14, .int 0), (12, .double FP.dconst0), (10, .double FP.dconst0), (8, .double FP.dconst0), (6, .double FP.dconst0), (4, .double FP.dconst0), (2, .double FP.dconst0), (0, .ref m0), (1, .int (nI i0))]) hx hb dX5_fit_21 hl (by decide) rfl (fun ls hl => ?_)
  have loop_23 : ∀ (k i : Nat) (a : UInt64) (b : UInt64) (c9 : UInt64) (d : UInt64) (e9 : UInt64) (w9 : UInt64) (mn : Nat), i + k = v → a = kx_S2 (fun j => th (8 * i0 + j)) ps ps i → b = kx_S2 (fun j => th (8 * i0 + j)) ps qs i → c9 = kx_S2 (fun j => th (8 * i0 + j)) qs qs i → d = kx_S2 (fun j => th (8 * i0 + j)) ps (fun j => kx_mm fr to (8 * i0 + j)) i → e9 = kx_S2 (fun j => th (8 * i0 + j)) qs (fun j => kx_mm fr to (8 * i0 + j)) i → w9 = kx_si (fun j => th (8 * i0 + j)) (fun j => FP.ddiv (kx_hh fr to (8 * i0 + j)) (kx_root (kx_sq (ps j) (qs j)))) i → mn = kx_cn (fun j => th (8 * i0 + j)) i → ∀ (H : Heap) (locs : List Loc), va_P G.1 vwCl [(m0, .inr (6, [.int tw, .int (nI n), .int (nI v), .ref m1, .ref m2, .ref m3, .ref m4, .ref m5, .int kn, .int (nI ft), .ref m6, .ref m7, .int (nI ru), .ref m8, .ref m9, .ref m10, .int kp, .ref m11, .ref m12])), (m1, kx_aD G 8 ps), (m2, kx_aD G 8 qs), (m3, kx_aZ G 128 th), (m4, kx_aD G 128 fr), (m5, kx_aD G 128 to), (m6, kx_aZ G 16 fd), (m7, kx_aD G 64 sh), (m8, kx_aI G 6 ki), (m9, kx_aD G 6 li), (m10, kx_aI G 6 cl), (m11, kx_aD G 16 kx), (m12, kx_aD G 16 ky)] H → va_D A [(m0, .inr (6, [.int tw, .int (nI n), .int (nI v), .ref m1, .ref m2, .ref m3, .ref m4, .ref m5, .int kn, .int (nI ft), .ref m6, .ref m7, .int (nI ru), .ref m8, .ref m9, .ref m10, .int kp, .ref m11, .ref m12])), (m1, kx_aD G 8 ps), (m2, kx_aD G 8 qs), (m3, kx_aZ G 128 th), (m4, kx_aD G 128 fr), (m5, kx_aD G 128 to), (m6, kx_aZ G 16 fd), (m7, kx_aD G 64 sh), (m8, kx_aI G 6 ki), (m9, kx_aD G 6 li), (m10, kx_aI G 6 cl), (m11, kx_aD G 16 kx), (m12, kx_aD G 16 ky)] → va_S A s.heap H locs → ∀ ls : Array Slot, lv_has ls 27 [(15, .int (nI i)), (14, .int (nI mn)), (12, .double w9), (10, .double e9), (8, .double d), (6, .double c9), (4, .double b), (2, .double a), (1, .int (nI i0)), (0, .ref m0)] → W p l e (headSpec wsX5_fit ({ frames := 1, cells := 0, slots := 0, locals := 29 } : Room)).room s m [.ref m0, .int (nI i0)].toArray below meth c H locs 0 0 (MQ below (va_Qi (fun (r : Int32) (u : Nat → UInt64) => (¬ kx_fit (fun j => th (8 * i0 + j)) ps qs v ∧ r = 0 ∧ u = sh) ∨ (kx_fit (fun j => th (8 * i0 + j)) ps qs v ∧ r = 1 ∧ u = kx_st sh i0 (kx_cx (fun j => th (8 * i0 + j)) ps qs (fun j => kx_mm fr to (8 * i0 + j)) v) (kx_cy (fun j => th (8 * i0 + j)) ps qs (fun j => kx_mm fr to (8 * i0 + j)) v) (kx_rad (fun j => th (8 * i0 + j)) (fun j => kx_hh fr to (8 * i0 + j)) (fun j => kx_root (kx_sq (ps j) (qs j))) v) (kx_res (fun j => th (8 * i0 + j)) ps qs (fun j => kx_mm fr to (8 * i0 + j)) (kx_cx (fun j => th (8 * i0 + j)) ps qs (fun j => kx_mm fr to (8 * i0 + j)) v) (kx_cy (fun j => th (8 * i0 + j)) ps qs (fun j => kx_mm fr to (8 * i0 + j)) v) v))) (kx_B G A (fun u : Nat → UInt64 => [(m0, .inr (6, [.int tw, .int (nI n), .int (nI v), .ref m1, .ref m2, .ref m3, .ref m4, .ref m5, .int kn, .int (nI ft), .ref m6, .ref m7, .int (nI ru), .ref m8, .ref m9, .ref m10, .int kp, .ref m11, .ref m12])), (m1, kx_aD G 8 ps), (m2, kx_aD G 8 qs), (m3, kx_aZ G 128 th), (m4, kx_aD G 128 fr), (m5, kx_aD G 128 to), (m6, kx_aZ G 16 fd), (m7, kx_aD G 64 u), (m8, kx_aI G 6 ki), (m9, kx_aD G 6 li), (m10, kx_aI G 6 cl), (m11, kx_aD G 16 kx), (m12, kx_aD G 16 ky)])) A) [.ref m0, .int (nI i0)].toArray s 0 0 A) (F0 m 23 ls []) := by
    intro k
    induction k with
    | zero =>
      intro i a b c9 d e9 w9 mn htot e_a e_b e_c9 e_d e_e9 e_w9 e_mn H locs hP hD hS ls hl
      subst e_a
      subst e_b
      subst e_c9
      subst e_d
      subst e_e9
      subst e_w9
      subst e_mn
      have hiv : i = v := by omega
      rw [hiv] at hl
      refine lv_iload hx hb dX5_fit_23 (lv_at hl 0 rfl) ?_
      refine lv_aload_n hx hb dX5_fit_25 rfl (lv_at hl 9 rfl) ?_
      refine va_get (D := G.1) (ci := 6) (v := .int (nI v)) (C := RX5) (T := TX5) (N := 19) hx hb hts hin_X5 hown hT.1 hP 0 rfl rfl 2 (by decide) hf_52 (fun _ h9 => h9) rfl dX5_fit_26 ?_
      refine lv_icmp_ge (x := nI v) (y := nI v) (tgt := 215) hx hb dX5_fit_29 (by decide) (fun c_1 => ?_) (fun c_1 => ?_)
      · have c_1 : v ≤ v := (nI_leI (a := v) (b := v) (by omega) (by omega)).mp c_1
        refine lv_dload_n hx hb dX5_fit_215 rfl (lv_at hl 7 rfl) ?_
        refine lv_dload hx hb dX5_fit_216 (lv_at hl 5 rfl) ?_
        refine lv_dmul hx hb dX5_fit_218 (fx_bd.mul (kx_S2_bd (th := (fun j => th (8 * i0 + j))) (f := ps) (g := ps) hb_ps hb_ps v (by omega)) (kx_S2_bd (th := (fun j => th (8 * i0 + j))) (f := qs) (g := qs) hb_qs hb_qs v (by omega)) (by omega)).n ?_
        refine lv_dload hx hb dX5_fit_219 (lv_at hl 6 rfl) ?_
        refine lv_dload hx hb dX5_fit_221 (lv_at hl 6 rfl) ?_
        refine lv_dmul hx hb dX5_fit_223 (fx_bd.mul (kx_S2_bd (th := (fun j => th (8 * i0 + j))) (f := ps) (g := qs) hb_ps hb_qs v (by omega)) (kx_S2_bd (th := (fun j => th (8 * i0 + j))) (f := ps) (g := qs) hb_ps hb_qs v (by omega)) (by omega)).n ?_
        refine lv_dsub hx hb dX5_fit_224 (fx_bd.sub (fx_bd.mul (kx_S2_bd (th := (fun j => th (8 * i0 + j))) (f := ps) (g := ps) hb_ps hb_ps v (by omega)) (kx_S2_bd (th := (fun j => th (8 * i0 + j))) (f := qs) (g := qs) hb_qs hb_qs v (by omega)) (by omega)) (fx_bd.mul (kx_S2_bd (th := (fun j => th (8 * i0 + j))) (f := ps) (g := qs) hb_ps hb_qs v (by omega)) (kx_S2_bd (th := (fun j => th (8 * i0 + j))) (f := ps) (g := qs) hb_ps hb_qs v (by omega)) (by omega)) (by omega)).n ?_
        refine lv_dstore (lv' := [(15, .double (FP.dsub (FP.dmul (kx_S2 (fun j => th (8 * i0 + j)) ps ps v) (kx_S2 (fun j => th (8 * i0 + j)) qs qs v)) (FP.dmul (kx_S2 (fun j => th (8 * i0 + j)) ps qs v) (kx_S2 (fun j => th (8 * i0 + j)) ps qs v)))), (14, .int (nI (kx_cn (fun j => th (8 * i0 + j)) v))), (12, .double (kx_si (fun j => th (8 * i0 + j)) (fun j => FP.ddiv (kx_hh fr to (8 * i0 + j)) (kx_root (kx_sq (ps j) (qs j)))) v)), (10, .double (kx_S2 (fun j => th (8 * i0 + j)) qs (fun j => kx_mm fr to (8 * i0 + j)) v)), (8, .double (kx_S2 (fun j => th (8 * i0 + j)) ps (fun j => kx_mm fr to (8 * i0 + j)) v)), (6, .double (kx_S2 (fun j => th (8 * i0 + j)) qs qs v)), (4, .double (kx_S2 (fun j => th (8 * i0 + j)) ps qs v)), (2, .double (kx_S2 (fun j => th (8 * i0 + j)) ps ps v)), (1, .int (nI i0)), (0, .ref m0)]) hx hb dX5_fit_225 hl (by decide) rfl (fun ls hl => ?_)
        have hcle := kx_cn_le (th := (fun j => th (8 * i0 + j))) v
        refine lv_iload hx hb dX5_fit_227 (lv_at hl 1 rfl) ?_
        refine lv_iconst (v := 2) hx hb dX5_fit_229 (by decide) ?_
        refine lv_icmp_lt (x := nI (kx_cn (fun j => th (8 * i0 + j)) v)) (y := 2) (tgt := 255) hx hb dX5_fit_230 (by decide) (fun c_2 => ?_) (fun c_2 => ?_)
        · have c_2 : (kx_cn (fun j => th (8 * i0 + j)) v) < 2 := (nI_ltI (a := kx_cn (fun j => th (8 * i0 + j)) v) (b := 2) (by omega) (by omega)).mp c_2
          refine lv_iconst (v := 0) hx hb dX5_fit_255 (by decide) ?_
          exact W.zret (v := 0) hx hb hr rfl (fun t ht hW => ⟨⟨0, sh, rfl, Or.inl ⟨fun q => by have := q.1; omega, rfl, rfl⟩, And.intro (by rw [ht]; exact hP) hD⟩, hS.F ht⟩) hS.2.2 dX5_fit_256
        · have c_2 : ¬ (kx_cn (fun j => th (8 * i0 + j)) v) < 2 := fun q => c_2 ((nI_ltI (a := kx_cn (fun j => th (8 * i0 + j)) v) (b := 2) (by omega) (by omega)).mpr q)
          refine lv_dload hx hb dX5_fit_233 (lv_at hl 0 rfl) ?_
          refine lv_dconst0 hx hb dX5_fit_235 ?_
          refine kx_dlt (tgt := 246) hx hb dX5_fit_236 dX5_fit_237 (by decide) (fun c_3 => ?_) (fun c_3 => ?_)
          · refine lv_dload hx hb dX5_fit_246 (lv_at hl 0 rfl) ?_
            refine lv_ldc2d (v := 4517110426252607488) hx hb hown hc_91 dX5_fit_248 ?_
            refine kx_dlt (tgt := 257) hx hb dX5_fit_251 dX5_fit_252 (by decide) (fun c_4 => ?_) (fun c_4 => ?_)
            · have hok : kx_ok (kx_det (fun j => th (8 * i0 + j)) ps qs v) := (kx_ok_2 c_3).mpr c_4
              refine lv_dload hx hb dX5_fit_257 (lv_at hl 4 rfl) ?_
              refine lv_dload hx hb dX5_fit_259 (lv_at hl 5 rfl) ?_
              refine lv_dmul hx hb dX5_fit_261 (fx_bd.mul (kx_S2_bd (th := (fun j => th (8 * i0 + j))) (f := ps) (g := (fun j => kx_mm fr to (8 * i0 + j))) hb_ps (fun j => kx_mid_bd (hb_fr (8 * i0 + j)) (hb_to (8 * i0 + j))) v (by omega)) (kx_S2_bd (th := (fun j => th (8 * i0 + j))) (f := qs) (g := qs) hb_qs hb_qs v (by omega)) (by omega)).n ?_
              refine lv_dload hx hb dX5_fit_262 (lv_at hl 3 rfl) ?_
              refine lv_dload hx hb dX5_fit_264 (lv_at hl 6 rfl) ?_
              refine lv_dmul hx hb dX5_fit_266 (fx_bd.mul (kx_S2_bd (th := (fun j => th (8 * i0 + j))) (f := qs) (g := (fun j => kx_mm fr to (8 * i0 + j))) hb_qs (fun j => kx_mid_bd (hb_fr (8 * i0 + j)) (hb_to (8 * i0 + j))) v (by omega)) (kx_S2_bd (th := (fun j => th (8 * i0 + j))) (f := ps) (g := qs) hb_ps hb_qs v (by omega)) (by omega)).n ?_
              refine lv_dsub hx hb dX5_fit_267 (fx_bd.sub (fx_bd.mul (kx_S2_bd (th := (fun j => th (8 * i0 + j))) (f := ps) (g := (fun j => kx_mm fr to (8 * i0 + j))) hb_ps (fun j => kx_mid_bd (hb_fr (8 * i0 + j)) (hb_to (8 * i0 + j))) v (by omega)) (kx_S2_bd (th := (fun j => th (8 * i0 + j))) (f := qs) (g := qs) hb_qs hb_qs v (by omega)) (by omega)) (fx_bd.mul (kx_S2_bd (th := (fun j => th (8 * i0 + j))) (f := qs) (g := (fun j => kx_mm fr to (8 * i0 + j))) hb_qs (fun j => kx_mid_bd (hb_fr (8 * i0 + j)) (hb_to (8 * i0 + j))) v (by omega)) (kx_S2_bd (th := (fun j => th (8 * i0 + j))) (f := ps) (g := qs) hb_ps hb_qs v (by omega)) (by omega)) (by omega)).n ?_
              refine lv_dload hx hb dX5_fit_268 (lv_at hl 0 rfl) ?_
              refine lv_ddiv hx hb dX5_fit_270 (fx_bd.div (fx_bd.sub (fx_bd.mul (kx_S2_bd (th := (fun j => th (8 * i0 + j))) (f := ps) (g := (fun j => kx_mm fr to (8 * i0 + j))) hb_ps (fun j => kx_mid_bd (hb_fr (8 * i0 + j)) (hb_to (8 * i0 + j))) v (by omega)) (kx_S2_bd (th := (fun j => th (8 * i0 + j))) (f := qs) (g := qs) hb_qs hb_qs v (by omega)) (by omega)) (fx_bd.mul (kx_S2_bd (th := (fun j => th (8 * i0 + j))) (f := qs) (g := (fun j => kx_mm fr to (8 * i0 + j))) hb_qs (fun j => kx_mid_bd (hb_fr (8 * i0 + j)) (hb_to (8 * i0 + j))) v (by omega)) (kx_S2_bd (th := (fun j => th (8 * i0 + j))) (f := ps) (g := qs) hb_ps hb_qs v (by omega)) (by omega)) (by omega)) (kx_ok_lb (kx_det_bd hb_ps hb_qs hv) hok) (by omega)).n ?_
              refine kx_ed (y := (kx_cx (fun j => th (8 * i0 + j)) ps qs (fun j => kx_mm fr to (8 * i0 + j)) v)) rfl ?_
              refine lv_dstore (lv' := [(17, .double (kx_cx (fun j => th (8 * i0 + j)) ps qs (fun j => kx_mm fr to (8 * i0 + j)) v)), (15, .double (FP.dsub (FP.dmul (kx_S2 (fun j => th (8 * i0 + j)) ps ps v) (kx_S2 (fun j => th (8 * i0 + j)) qs qs v)) (FP.dmul (kx_S2 (fun j => th (8 * i0 + j)) ps qs v) (kx_S2 (fun j => th (8 * i0 + j)) ps qs v)))), (14, .int (nI (kx_cn (fun j => th (8 * i0 + j)) v))), (12, .double (kx_si (fun j => th (8 * i0 + j)) (fun j => FP.ddiv (kx_hh fr to (8 * i0 + j)) (kx_root (kx_sq (ps j) (qs j)))) v)), (10, .double (kx_S2 (fun j => th (8 * i0 + j)) qs (fun j => kx_mm fr to (8 * i0 + j)) v)), (8, .double (kx_S2 (fun j => th (8 * i0 + j)) ps (fun j => kx_mm fr to (8 * i0 + j)) v)), (6, .double (kx_S2 (fun j => th (8 * i0 + j)) qs qs v)), (4, .double (kx_S2 (fun j => th (8 * i0 + j)) ps qs v)), (2, .double (kx_S2 (fun j => th (8 * i0 + j)) ps ps v)), (1, .int (nI i0)), (0, .ref m0)]) hx hb dX5_fit_271 hl (by decide) rfl (fun ls hl => ?_)
              refine lv_dload_n hx hb dX5_fit_273 rfl (lv_at hl 8 rfl) ?_
              refine lv_dload hx hb dX5_fit_274 (lv_at hl 4 rfl) ?_
              refine lv_dmul hx hb dX5_fit_276 (fx_bd.mul (kx_S2_bd (th := (fun j => th (8 * i0 + j))) (f := ps) (g := ps) hb_ps hb_ps v (by omega)) (kx_S2_bd (th := (fun j => th (8 * i0 + j))) (f := qs) (g := (fun j => kx_mm fr to (8 * i0 + j))) hb_qs (fun j => kx_mid_bd (hb_fr (8 * i0 + j)) (hb_to (8 * i0 + j))) v (by omega)) (by omega)).n ?_
              refine lv_dload hx hb dX5_fit_277 (lv_at hl 7 rfl) ?_
              refine lv_dload hx hb dX5_fit_279 (lv_at hl 5 rfl) ?_
              refine lv_dmul hx hb dX5_fit_281 (fx_bd.mul (kx_S2_bd (th := (fun j => th (8 * i0 + j))) (f := ps) (g := qs) hb_ps hb_qs v (by omega)) (kx_S2_bd (th := (fun j => th (8 * i0 + j))) (f := ps) (g := (fun j => kx_mm fr to (8 * i0 + j))) hb_ps (fun j => kx_mid_bd (hb_fr (8 * i0 + j)) (hb_to (8 * i0 + j))) v (by omega)) (by omega)).n ?_
              refine lv_dsub hx hb dX5_fit_282 (fx_bd.sub (fx_bd.mul (kx_S2_bd (th := (fun j => th (8 * i0 + j))) (f := ps) (g := ps) hb_ps hb_ps v (by omega)) (kx_S2_bd (th := (fun j => th (8 * i0 + j))) (f := qs) (g := (fun j => kx_mm fr to (8 * i0 + j))) hb_qs (fun j => kx_mid_bd (hb_fr (8 * i0 + j)) (hb_to (8 * i0 + j))) v (by omega)) (by omega)) (fx_bd.mul (kx_S2_bd (th := (fun j => th (8 * i0 + j))) (f := ps) (g := qs) hb_ps hb_qs v (by omega)) (kx_S2_bd (th := (fun j => th (8 * i0 + j))) (f := ps) (g := (fun j => kx_mm fr to (8 * i0 + j))) hb_ps (fun j => kx_mid_bd (hb_fr (8 * i0 + j)) (hb_to (8 * i0 + j))) v (by omega)) (by omega)) (by omega)).n ?_
              refine lv_dload hx hb dX5_fit_283 (lv_at hl 1 rfl) ?_
              refine lv_ddiv hx hb dX5_fit_285 (fx_bd.div (fx_bd.sub (fx_bd.mul (kx_S2_bd (th := (fun j => th (8 * i0 + j))) (f := ps) (g := ps) hb_ps hb_ps v (by omega)) (kx_S2_bd (th := (fun j => th (8 * i0 + j))) (f := qs) (g := (fun j => kx_mm fr to (8 * i0 + j))) hb_qs (fun j => kx_mid_bd (hb_fr (8 * i0 + j)) (hb_to (8 * i0 + j))) v (by omega)) (by omega)) (fx_bd.mul (kx_S2_bd (th := (fun j => th (8 * i0 + j))) (f := ps) (g := qs) hb_ps hb_qs v (by omega)) (kx_S2_bd (th := (fun j => th (8 * i0 + j))) (f := ps) (g := (fun j => kx_mm fr to (8 * i0 + j))) hb_ps (fun j => kx_mid_bd (hb_fr (8 * i0 + j)) (hb_to (8 * i0 + j))) v (by omega)) (by omega)) (by omega)) (kx_ok_lb (kx_det_bd hb_ps hb_qs hv) hok) (by omega)).n ?_
              refine kx_ed (y := (kx_cy (fun j => th (8 * i0 + j)) ps qs (fun j => kx_mm fr to (8 * i0 + j)) v)) rfl ?_
              refine lv_dstore (lv' := [(19, .double (kx_cy (fun j => th (8 * i0 + j)) ps qs (fun j => kx_mm fr to (8 * i0 + j)) v)), (17, .double (kx_cx (fun j => th (8 * i0 + j)) ps qs (fun j => kx_mm fr to (8 * i0 + j)) v)), (15, .double (FP.dsub (FP.dmul (kx_S2 (fun j => th (8 * i0 + j)) ps ps v) (kx_S2 (fun j => th (8 * i0 + j)) qs qs v)) (FP.dmul (kx_S2 (fun j => th (8 * i0 + j)) ps qs v) (kx_S2 (fun j => th (8 * i0 + j)) ps qs v)))), (14, .int (nI (kx_cn (fun j => th (8 * i0 + j)) v))), (12, .double (kx_si (fun j => th (8 * i0 + j)) (fun j => FP.ddiv (kx_hh fr to (8 * i0 + j)) (kx_root (kx_sq (ps j) (qs j)))) v)), (10, .double (kx_S2 (fun j => th (8 * i0 + j)) qs (fun j => kx_mm fr to (8 * i0 + j)) v)), (8, .double (kx_S2 (fun j => th (8 * i0 + j)) ps (fun j => kx_mm fr to (8 * i0 + j)) v)), (6, .double (kx_S2 (fun j => th (8 * i0 + j)) qs qs v)), (4, .double (kx_S2 (fun j => th (8 * i0 + j)) ps qs v)), (2, .double (kx_S2 (fun j => th (8 * i0 + j)) ps ps v)), (1, .int (nI i0)), (0, .ref m0)]) hx hb dX5_fit_286 hl (by decide) rfl (fun ls hl => ?_)
              refine lv_dconst0 hx hb dX5_fit_288 ?_
              refine lv_dstore (lv' := [(21, .double FP.dconst0), (19, .double (kx_cy (fun j => th (8 * i0 + j)) ps qs (fun j => kx_mm fr to (8 * i0 + j)) v)), (17, .double (kx_cx (fun j => th (8 * i0 + j)) ps qs (fun j => kx_mm fr to (8 * i0 + j)) v)), (15, .double (FP.dsub (FP.dmul (kx_S2 (fun j => th (8 * i0 + j)) ps ps v) (kx_S2 (fun j => th (8 * i0 + j)) qs qs v)) (FP.dmul (kx_S2 (fun j => th (8 * i0 + j)) ps qs v) (kx_S2 (fun j => th (8 * i0 + j)) ps qs v)))), (14, .int (nI (kx_cn (fun j => th (8 * i0 + j)) v))), (12, .double (kx_si (fun j => th (8 * i0 + j)) (fun j => FP.ddiv (kx_hh fr to (8 * i0 + j)) (kx_root (kx_sq (ps j) (qs j)))) v)), (10, .double (kx_S2 (fun j => th (8 * i0 + j)) qs (fun j => kx_mm fr to (8 * i0 + j)) v)), (8, .double (kx_S2 (fun j => th (8 * i0 + j)) ps (fun j => kx_mm fr to (8 * i0 + j)) v)), (6, .double (kx_S2 (fun j => th (8 * i0 + j)) qs qs v)), (4, .double (kx_S2 (fun j => th (8 * i0 + j)) ps qs v)), (2, .double (kx_S2 (fun j => th (8 * i0 + j)) ps ps v)), (1, .int (nI i0)), (0, .ref m0)]) hx hb dX5_fit_289 hl (by decide) rfl (fun ls hl => ?_)
              refine lv_iconst (v := 0) hx hb dX5_fit_291 (by decide) ?_
              refine lv_istore (lv' := [(23, .int 0), (21, .double FP.dconst0), (19, .double (kx_cy (fun j => th (8 * i0 + j)) ps qs (fun j => kx_mm fr to (8 * i0 + j)) v)), (17, .double (kx_cx (fun j => th (8 * i0 + j)) ps qs (fun j => kx_mm fr to (8 * i0 + j)) v)), (15, .double (FP.dsub (FP.dmul (kx_S2 (fun j => th (8 * i0 + j)) ps ps v) (kx_S2 (fun j => th (8 * i0 + j)) qs qs v)) (FP.dmul (kx_S2 (fun j => th (8 * i0 + j)) ps qs v) (kx_S2 (fun j => th (8 * i0 + j)) ps qs v)))), (14, .int (nI (kx_cn (fun j => th (8 * i0 + j)) v))), (12, .double (kx_si (fun j => th (8 * i0 + j)) (fun j => FP.ddiv (kx_hh fr to (8 * i0 + j)) (kx_root (kx_sq (ps j) (qs j)))) v)), (10, .double (kx_S2 (fun j => th (8 * i0 + j)) qs (fun j => kx_mm fr to (8 * i0 + j)) v)), (8, .double (kx_S2 (fun j => th (8 * i0 + j)) ps (fun j => kx_mm fr to (8 * i0 + j)) v)), (6, .double (kx_S2 (fun j => th (8 * i0 + j)) qs qs v)), (4, .double (kx_S2 (fun j => th (8 * i0 + j)) ps qs v)), (2, .double (kx_S2 (fun j => th (8 * i0 + j)) ps ps v)), (1, .int (nI i0)), (0, .ref m0)]) hx hb dX5_fit_292 hl (by decide) rfl (fun ls hl => ?_)
              have loop_294 : ∀ (k2 j : Nat) (rs : UInt64), j + k2 = v → rs = kx_si (fun j => th (8 * i0 + j)) (fun j => kx_sqe (kx_mm fr to (8 * i0 + j)) (ps j) (qs j) (kx_cx (fun j => th (8 * i0 + j)) ps qs (fun j => kx_mm fr to (8 * i0 + j)) v) (kx_cy (fun j => th (8 * i0 + j)) ps qs (fun j => kx_mm fr to (8 * i0 + j)) v)) j → ∀ (H : Heap) (locs : List Loc), va_P G.1 vwCl [(m0, .inr (6, [.int tw, .int (nI n), .int (nI v), .ref m1, .ref m2, .ref m3, .ref m4, .ref m5, .int kn, .int (nI ft), .ref m6, .ref m7, .int (nI ru), .ref m8, .ref m9, .ref m10, .int kp, .ref m11, .ref m12])), (m1, kx_aD G 8 ps), (m2, kx_aD G 8 qs), (m3, kx_aZ G 128 th), (m4, kx_aD G 128 fr), (m5, kx_aD G 128 to), (m6, kx_aZ G 16 fd), (m7, kx_aD G 64 sh), (m8, kx_aI G 6 ki), (m9, kx_aD G 6 li), (m10, kx_aI G 6 cl), (m11, kx_aD G 16 kx), (m12, kx_aD G 16 ky)] H → va_D A [(m0, .inr (6, [.int tw, .int (nI n), .int (nI v), .ref m1, .ref m2, .ref m3, .ref m4, .ref m5, .int kn, .int (nI ft), .ref m6, .ref m7, .int (nI ru), .ref m8, .ref m9, .ref m10, .int kp, .ref m11, .ref m12])), (m1, kx_aD G 8 ps), (m2, kx_aD G 8 qs), (m3, kx_aZ G 128 th), (m4, kx_aD G 128 fr), (m5, kx_aD G 128 to), (m6, kx_aZ G 16 fd), (m7, kx_aD G 64 sh), (m8, kx_aI G 6 ki), (m9, kx_aD G 6 li), (m10, kx_aI G 6 cl), (m11, kx_aD G 16 kx), (m12, kx_aD G 16 ky)] → va_S A s.heap H locs → ∀ ls : Array Slot, lv_has ls 27 [(23, .int (nI j)), (21, .double rs), (19, .double (kx_cy (fun j => th (8 * i0 + j)) ps qs (fun j => kx_mm fr to (8 * i0 + j)) v)), (17, .double (kx_cx (fun j => th (8 * i0 + j)) ps qs (fun j => kx_mm fr to (8 * i0 + j)) v)), (14, .int (nI (kx_cn (fun j => th (8 * i0 + j)) v))), (12, .double (kx_si (fun j => th (8 * i0 + j)) (fun j => FP.ddiv (kx_hh fr to (8 * i0 + j)) (kx_root (kx_sq (ps j) (qs j)))) v)), (1, .int (nI i0)), (0, .ref m0)] → W p l e (headSpec wsX5_fit ({ frames := 1, cells := 0, slots := 0, locals := 29 } : Room)).room s m [.ref m0, .int (nI i0)].toArray below meth c H locs 0 0 (MQ below (va_Qi (fun (r : Int32) (u : Nat → UInt64) => (¬ kx_fit (fun j => th (8 * i0 + j)) ps qs v ∧ r = 0 ∧ u = sh) ∨ (kx_fit (fun j => th (8 * i0 + j)) ps qs v ∧ r = 1 ∧ u = kx_st sh i0 (kx_cx (fun j => th (8 * i0 + j)) ps qs (fun j => kx_mm fr to (8 * i0 + j)) v) (kx_cy (fun j => th (8 * i0 + j)) ps qs (fun j => kx_mm fr to (8 * i0 + j)) v) (kx_rad (fun j => th (8 * i0 + j)) (fun j => kx_hh fr to (8 * i0 + j)) (fun j => kx_root (kx_sq (ps j) (qs j))) v) (kx_res (fun j => th (8 * i0 + j)) ps qs (fun j => kx_mm fr to (8 * i0 + j)) (kx_cx (fun j => th (8 * i0 + j)) ps qs (fun j => kx_mm fr to (8 * i0 + j)) v) (kx_cy (fun j => th (8 * i0 + j)) ps qs (fun j => kx_mm fr to (8 * i0 + j)) v) v))) (kx_B G A (fun u : Nat → UInt64 => [(m0, .inr (6, [.int tw, .int (nI n), .int (nI v), .ref m1, .ref m2, .ref m3, .ref m4, .ref m5, .int kn, .int (nI ft), .ref m6, .ref m7, .int (nI ru), .ref m8, .ref m9, .ref m10, .int kp, .ref m11, .ref m12])), (m1, kx_aD G 8 ps), (m2, kx_aD G 8 qs), (m3, kx_aZ G 128 th), (m4, kx_aD G 128 fr), (m5, kx_aD G 128 to), (m6, kx_aZ G 16 fd), (m7, kx_aD G 64 u), (m8, kx_aI G 6 ki), (m9, kx_aD G 6 li), (m10, kx_aI G 6 cl), (m11, kx_aD G 16 kx), (m12, kx_aD G 16 ky)])) A) [.ref m0, .int (nI i0)].toArray s 0 0 A) (F0 m 294 ls []) := by
                intro k2
                induction k2 with
                | zero =>
                  intro j rs htot e_rs H locs hP hD hS ls hl
                  subst e_rs
                  have hjv : j = v := by omega
                  rw [hjv] at hl
                  refine lv_iload hx hb dX5_fit_294 (lv_at hl 0 rfl) ?_
                  refine lv_aload_n hx hb dX5_fit_296 rfl (lv_at hl 7 rfl) ?_
                  refine va_get (D := G.1) (ci := 6) (v := .int (nI v)) (C := RX5) (T := TX5) (N := 19) hx hb hts hin_X5 hown hT.1 hP 0 rfl rfl 2 (by decide) hf_52 (fun _ h9 => h9) rfl dX5_fit_297 ?_
                  refine lv_icmp_ge (x := nI v) (y := nI v) (tgt := 368) hx hb dX5_fit_300 (by decide) (fun c_5 => ?_) (fun c_5 => ?_)
                  · have c_5 : v ≤ v := (nI_leI (a := v) (b := v) (by omega) (by omega)).mp c_5
                    refine lv_aload_n hx hb dX5_fit_368 rfl (lv_at hl 7 rfl) ?_
                    refine lv_iload_n hx hb dX5_fit_369 rfl (lv_at hl 6 rfl) ?_
                    refine lv_dload hx hb dX5_fit_370 (lv_at hl 3 rfl) ?_
                    refine lv_dload hx hb dX5_fit_372 (lv_at hl 2 rfl) ?_
                    refine lv_dload hx hb dX5_fit_374 (lv_at hl 5 rfl) ?_
                    refine lv_iload hx hb dX5_fit_376 (lv_at hl 4 rfl) ?_
                    refine lv_i2d hx hb dX5_fit_378 ?_
                    refine lv_ddiv hx hb dX5_fit_379 (fx_bd.div (kx_si_bn (K := 76) (n := v) (fun j _ => (kx_hlf_bd (hb_fr (8 * i0 + j)) (hb_to (8 * i0 + j))).div (kx_root_pl (kx_sq_nn (hb_ps j) (hb_qs j)) (kx_sq_bd (hb_ps j) (hb_qs j))).lb (by omega)) v (by omega) (by omega)) (fx_il (nI_ne0 (by omega) (by omega))) (by omega)).n ?_
                    refine lv_dload hx hb dX5_fit_380 (lv_at hl 1 rfl) ?_
                    refine kx_mv (va_runV (As := [.int (nI i0), .double (kx_cx (fun j => th (8 * i0 + j)) ps qs (fun j => kx_mm fr to (8 * i0 + j)) v), .double (kx_cy (fun j => th (8 * i0 + j)) ps qs (fun j => kx_mm fr to (8 * i0 + j)) v), .double (FP.ddiv (kx_si (fun j => th (8 * i0 + j)) (fun j => FP.ddiv (kx_hh fr to (8 * i0 + j)) (kx_root (kx_sq (ps j) (qs j)))) v) (FP.i2d (nI (kx_cn (fun j => th (8 * i0 + j)) v)))), .double (kx_si (fun j => th (8 * i0 + j)) (fun j => kx_sqe (kx_mm fr to (8 * i0 + j)) (ps j) (qs j) (kx_cx (fun j => th (8 * i0 + j)) ps qs (fun j => kx_mm fr to (8 * i0 + j)) v) (kx_cy (fun j => th (8 * i0 + j)) ps qs (fun j => kx_mm fr to (8 * i0 + j)) v)) v)]) (rest := []) ⟨hx, hb, hml, hown, hts⟩ (c_X5_set l G _ (m0 := m0) (m1 := m1) (m2 := m2) (m3 := m3) (m4 := m4) (m5 := m5) (m6 := m6) (m7 := m7) (m8 := m8) (m9 := m9) (m10 := m10) (m11 := m11) (m12 := m12) (n := n) (v := v) (tw := tw) (ps := ps) (qs := qs) (th := th) (fr := fr) (to := to) (kn := kn) (ft := ft) (fd := fd) (sh := sh) (ru := ru) (ki := ki) (li := li) (cl := cl) (kp := kp) (kx := kx) (ky := ky) (i := i0) (x := (kx_cx (fun j => th (8 * i0 + j)) ps qs (fun j => kx_mm fr to (8 * i0 + j)) v)) (y := (kx_cy (fun j => th (8 * i0 + j)) ps qs (fun j => kx_mm fr to (8 * i0 + j)) v)) (r9 := FP.ddiv (kx_si (fun j => th (8 * i0 + j)) (fun j => FP.ddiv (kx_hh fr to (8 * i0 + j)) (kx_root (kx_sq (ps j) (qs j)))) v) (FP.i2d (nI (kx_cn (fun j => th (8 * i0 + j)) v)))) (e9 := kx_si (fun j => th (8 * i0 + j)) (fun j => kx_sqe (kx_mm fr to (8 * i0 + j)) (ps j) (qs j) (kx_cx (fun j => th (8 * i0 + j)) ps qs (fun j => kx_mm fr to (8 * i0 + j)) v) (kx_cy (fun j => th (8 * i0 + j)) ps qs (fun j => kx_mm fr to (8 * i0 + j)) v)) v) (hb_ps := hb_ps) (hb_qs := hb_qs) (hb_fr := hb_fr) (hb_to := hb_to) (hb_sh := hb_sh) (hb_kx := hb_kx) (hb_ky := hb_ky) (hi := (by omega)) (hx_b := ((kx_cx_bd hb_ps hb_qs (fun j => kx_mid_bd (hb_fr (8 * i0 + j)) (hb_to (8 * i0 + j))) hv hok).mono (by omega))) (hy_b := ((kx_cy_bd hb_ps hb_qs (fun j => kx_mid_bd (hb_fr (8 * i0 + j)) (hb_to (8 * i0 + j))) hv hok).mono (by omega))) (hr_b := ((kx_rad_bd (fun j => kx_hlf_bd (hb_fr (8 * i0 + j)) (hb_to (8 * i0 + j))) (fun j _ => kx_root_pl (kx_sq_nn (hb_ps j) (hb_qs j)) (kx_sq_bd (hb_ps j) (hb_qs j))) hv (by omega)).mono (by omega))) (he_b := (kx_res_bd hb_ps hb_qs (fun j => kx_mid_bd (hb_fr (8 * i0 + j)) (hb_to (8 * i0 + j))) (kx_cx_bd hb_ps hb_qs (fun j => kx_mid_bd (hb_fr (8 * i0 + j)) (hb_to (8 * i0 + j))) hv hok) (kx_cy_bd hb_ps hb_qs (fun j => kx_mid_bd (hb_fr (8 * i0 + j)) (hb_to (8 * i0 + j))) hv hok) hv))) (cwV 5 hts gX5_fit_X5_set rfl rfl rfl (by decide +kernel) ⟨Nat.le_of_ble_eq_true rfl, Nat.le_of_ble_eq_true rfl⟩) ⟨kx_PMb, va_recv hT.1 hP (ci := 6) (q0 := 0) rfl rfl, kx_pm hT hP hD [0, 1, 2, 3, 4, 5, 6, 7, 8, 9, 10, 11, 12] rfl rfl rfl⟩ rfl rfl hl.1 rfl (lv_room (Nat.le_of_ble_eq_true rfl)) dX5_fit_382 ⟨Nat.zero_le _, Nat.zero_le _⟩) hP hD hS hA [0, 1, 2, 3, 4, 5, 6, 7, 8, 9, 10, 11, 12] rfl rfl (fun _ => rfl) (fun u_8 H locs hw_7 hP hD hS => ?_)
                    have hP : va_P G.1 vwCl [(m0, .inr (6, [.int tw, .int (nI n), .int (nI v), .ref m1, .ref m2, .ref m3, .ref m4, .ref m5, .int kn, .int (nI ft), .ref m6, .ref m7, .int (nI ru), .ref m8, .ref m9, .ref m10, .int kp, .ref m11, .ref m12])), (m1, kx_aD G 8 ps), (m2, kx_aD G 8 qs), (m3, kx_aZ G 128 th), (m4, kx_aD G 128 fr), (m5, kx_aD G 128 to), (m6, kx_aZ G 16 fd), (m7, kx_aD G 64 (kx_st sh i0 (kx_cx (fun j => th (8 * i0 + j)) ps qs (fun j => kx_mm fr to (8 * i0 + j)) v) (kx_cy (fun j => th (8 * i0 + j)) ps qs (fun j => kx_mm fr to (8 * i0 + j)) v) (FP.ddiv (kx_si (fun j => th (8 * i0 + j)) (fun j => FP.ddiv (kx_hh fr to (8 * i0 + j)) (kx_root (kx_sq (ps j) (qs j)))) v) (FP.i2d (nI (kx_cn (fun j => th (8 * i0 + j)) v)))) (kx_si (fun j => th (8 * i0 + j)) (fun j => kx_sqe (kx_mm fr to (8 * i0 + j)) (ps j) (qs j) (kx_cx (fun j => th (8 * i0 + j)) ps qs (fun j => kx_mm fr to (8 * i0 + j)) v) (kx_cy (fun j => th (8 * i0 + j)) ps qs (fun j => kx_mm fr to (8 * i0 + j)) v)) v))), (m8, kx_aI G 6 ki), (m9, kx_aD G 6 li), (m10, kx_aI G 6 cl), (m11, kx_aD G 16 kx), (m12, kx_aD G 16 ky)] H := hP
                    have hD : va_D A [(m0, .inr (6, [.int tw, .int (nI n), .int (nI v), .ref m1, .ref m2, .ref m3, .ref m4, .ref m5, .int kn, .int (nI ft), .ref m6, .ref m7, .int (nI ru), .ref m8, .ref m9, .ref m10, .int kp, .ref m11, .ref m12])), (m1, kx_aD G 8 ps), (m2, kx_aD G 8 qs), (m3, kx_aZ G 128 th), (m4, kx_aD G 128 fr), (m5, kx_aD G 128 to), (m6, kx_aZ G 16 fd), (m7, kx_aD G 64 (kx_st sh i0 (kx_cx (fun j => th (8 * i0 + j)) ps qs (fun j => kx_mm fr to (8 * i0 + j)) v) (kx_cy (fun j => th (8 * i0 + j)) ps qs (fun j => kx_mm fr to (8 * i0 + j)) v) (FP.ddiv (kx_si (fun j => th (8 * i0 + j)) (fun j => FP.ddiv (kx_hh fr to (8 * i0 + j)) (kx_root (kx_sq (ps j) (qs j)))) v) (FP.i2d (nI (kx_cn (fun j => th (8 * i0 + j)) v)))) (kx_si (fun j => th (8 * i0 + j)) (fun j => kx_sqe (kx_mm fr to (8 * i0 + j)) (ps j) (qs j) (kx_cx (fun j => th (8 * i0 + j)) ps qs (fun j => kx_mm fr to (8 * i0 + j)) v) (kx_cy (fun j => th (8 * i0 + j)) ps qs (fun j => kx_mm fr to (8 * i0 + j)) v)) v))), (m8, kx_aI G 6 ki), (m9, kx_aD G 6 li), (m10, kx_aI G 6 cl), (m11, kx_aD G 16 kx), (m12, kx_aD G 16 ky)] := hD
                    refine lv_iconst (v := 1) hx hb dX5_fit_385 (by decide) ?_
                    exact W.zret (v := 1) hx hb hr rfl (fun t ht hW => ⟨⟨1, kx_st sh i0 (kx_cx (fun j => th (8 * i0 + j)) ps qs (fun j => kx_mm fr to (8 * i0 + j)) v) (kx_cy (fun j => th (8 * i0 + j)) ps qs (fun j => kx_mm fr to (8 * i0 + j)) v) (kx_rad (fun j => th (8 * i0 + j)) (fun j => kx_hh fr to (8 * i0 + j)) (fun j => kx_root (kx_sq (ps j) (qs j))) v) (kx_res (fun j => th (8 * i0 + j)) ps qs (fun j => kx_mm fr to (8 * i0 + j)) (kx_cx (fun j => th (8 * i0 + j)) ps qs (fun j => kx_mm fr to (8 * i0 + j)) v) (kx_cy (fun j => th (8 * i0 + j)) ps qs (fun j => kx_mm fr to (8 * i0 + j)) v) v), rfl, Or.inr ⟨⟨by omega, hok⟩, rfl, rfl⟩, And.intro (by rw [ht]; exact hP) hD⟩, hS.F ht⟩) hS.2.2 dX5_fit_386
                  · have c_5 : ¬ v ≤ v := fun q => c_5 ((nI_leI (a := v) (b := v) (by omega) (by omega)).mpr q)
                    exact absurd (Nat.le_refl v) c_5
                | succ k2 ih =>
                  intro j rs htot e_rs H locs hP hD hS ls hl
                  subst e_rs
                  refine lv_iload hx hb dX5_fit_294 (lv_at hl 0 rfl) ?_
                  refine lv_aload_n hx hb dX5_fit_296 rfl (lv_at hl 7 rfl) ?_
                  refine va_get (D := G.1) (ci := 6) (v := .int (nI v)) (C := RX5) (T := TX5) (N := 19) hx hb hts hin_X5 hown hT.1 hP 0 rfl rfl 2 (by decide) hf_52 (fun _ h9 => h9) rfl dX5_fit_297 ?_
                  refine lv_icmp_ge (x := nI j) (y := nI v) (tgt := 368) hx hb dX5_fit_300 (by decide) (fun c_9 => ?_) (fun c_9 => ?_)
                  · have c_9 : v ≤ j := (nI_leI (a := v) (b := j) (by omega) (by omega)).mp c_9
                    exfalso; omega
                  · have c_9 : ¬ v ≤ j := fun q => c_9 ((nI_leI (a := v) (b := j) (by omega) (by omega)).mpr q)
                    refine lv_bipush (v := 8) hx hb dX5_fit_303 (by decide) ?_
                    refine lv_iload_n hx hb dX5_fit_305 rfl (lv_at hl 6 rfl) ?_
                    refine lv_imul hx hb dX5_fit_306 ?_
                    refine kx_ei (y := nI (8 * i0)) (pk_mul 8 i0) ?_
                    refine lv_iload hx hb dX5_fit_307 (lv_at hl 0 rfl) ?_
                    refine lv_iadd hx hb dX5_fit_309 ?_
                    refine kx_ei (y := nI ((8 * i0) + j)) (nI_add (8 * i0) j) ?_
                    refine lv_istore (lv' := [(24, .int (nI ((8 * i0) + j))), (23, .int (nI j)), (21, .double (kx_si (fun j => th (8 * i0 + j)) (fun j => kx_sqe (kx_mm fr to (8 * i0 + j)) (ps j) (qs j) (kx_cx (fun j => th (8 * i0 + j)) ps qs (fun j => kx_mm fr to (8 * i0 + j)) v) (kx_cy (fun j => th (8 * i0 + j)) ps qs (fun j => kx_mm fr to (8 * i0 + j)) v)) j)), (19, .double (kx_cy (fun j => th (8 * i0 + j)) ps qs (fun j => kx_mm fr to (8 * i0 + j)) v)), (17, .double (kx_cx (fun j => th (8 * i0 + j)) ps qs (fun j => kx_mm fr to (8 * i0 + j)) v)), (14, .int (nI (kx_cn (fun j => th (8 * i0 + j)) v))), (12, .double (kx_si (fun j => th (8 * i0 + j)) (fun j => FP.ddiv (kx_hh fr to (8 * i0 + j)) (kx_root (kx_sq (ps j) (qs j)))) v)), (1, .int (nI i0)), (0, .ref m0)]) hx hb dX5_fit_310 hl (by decide) rfl (fun ls hl => ?_)
                    refine lv_aload_n hx hb dX5_fit_312 rfl (lv_at hl 8 rfl) ?_
                    refine va_get (D := G.1) (ci := 6) (v := .ref m3) (C := RX5) (T := TX5) (N := 19) hx hb hts hin_X5 hown hT.1 hP 0 rfl rfl 5 (by decide) hf_16 (fun _ h9 => h9) rfl dX5_fit_313 ?_
                    refine lv_iload hx hb dX5_fit_316 (lv_at hl 0 rfl) ?_
                    refine kx_zald hx hb hT hP 3 rfl ((8 * i0) + j) (by omega) (by omega) dX5_fit_318 ?_
                    refine lv_if_eq (x := th ((8 * i0) + j)) (tgt := 362) hx hb dX5_fit_319 (by decide) (fun c_10 => ?_) (fun c_10 => ?_)
                    · refine lv_iinc (v := nI (j + 1)) (lv' := [(23, .int (nI (j + 1))), (24, .int (nI ((8 * i0) + j))), (21, .double (kx_si (fun j => th (8 * i0 + j)) (fun j => kx_sqe (kx_mm fr to (8 * i0 + j)) (ps j) (qs j) (kx_cx (fun j => th (8 * i0 + j)) ps qs (fun j => kx_mm fr to (8 * i0 + j)) v) (kx_cy (fun j => th (8 * i0 + j)) ps qs (fun j => kx_mm fr to (8 * i0 + j)) v)) j)), (19, .double (kx_cy (fun j => th (8 * i0 + j)) ps qs (fun j => kx_mm fr to (8 * i0 + j)) v)), (17, .double (kx_cx (fun j => th (8 * i0 + j)) ps qs (fun j => kx_mm fr to (8 * i0 + j)) v)), (14, .int (nI (kx_cn (fun j => th (8 * i0 + j)) v))), (12, .double (kx_si (fun j => th (8 * i0 + j)) (fun j => FP.ddiv (kx_hh fr to (8 * i0 + j)) (kx_root (kx_sq (ps j) (qs j)))) v)), (1, .int (nI i0)), (0, .ref m0)]) hx hb dX5_fit_362 hl (k := 1) rfl (by show _ + 1 = _; exact nI_1 _) (by decide) rfl (fun ls hl => ?_)
                      refine lv_goto (tgt := 294) hx hb dX5_fit_365 (by decide) ?_
                      exact ih (j + 1) _ (by omega) ((kx_si_f (th := (fun j => th (8 * i0 + j))) (g := (fun j => kx_sqe (kx_mm fr to (8 * i0 + j)) (ps j) (qs j) (kx_cx (fun j => th (8 * i0 + j)) ps qs (fun j => kx_mm fr to (8 * i0 + j)) v) (kx_cy (fun j => th (8 * i0 + j)) ps qs (fun j => kx_mm fr to (8 * i0 + j)) v))) c_10).symm) _ _ hP hD hS _ (lv_sub hl [0, 2, 3, 4, 5, 6, 7, 8] rfl)
                    · refine lv_aload_n hx hb dX5_fit_322 rfl (lv_at hl 8 rfl) ?_
                      refine lv_iload hx hb dX5_fit_323 (lv_at hl 0 rfl) ?_
                      refine vp_callSd (W.runV (As := [.int (nI ((8 * i0) + j))]) (rest := []) ⟨hx, hb, hml, hown, hts⟩ (c_X5_middle l G (m0 := m0) (m1 := m1) (m2 := m2) (m3 := m3) (m4 := m4) (m5 := m5) (m6 := m6) (m7 := m7) (m8 := m8) (m9 := m9) (m10 := m10) (m11 := m11) (m12 := m12) (n := n) (v := v) (tw := tw) (ps := ps) (qs := qs) (th := th) (fr := fr) (to := to) (kn := kn) (ft := ft) (fd := fd) (sh := sh) (ru := ru) (ki := ki) (li := li) (cl := cl) (kp := kp) (kx := kx) (ky := ky) (k9 := (8 * i0) + j) (hb_ps := hb_ps) (hb_qs := hb_qs) (hb_fr := hb_fr) (hb_to := hb_to) (hb_sh := hb_sh) (hb_kx := hb_kx) (hb_ky := hb_ky) (hk := (by omega))) (cwV 1 hts gX5_fit_X5_middle rfl rfl rfl (by decide +kernel) ⟨Nat.le_of_ble_eq_true rfl, Nat.le_of_ble_eq_true rfl⟩) ⟨kx_PRb, va_recv hT.1 hP (ci := 6) (q0 := 0) rfl rfl, kx_pr hT hP [0, 1, 2, 3, 4, 5, 6, 7, 8, 9, 10, 11, 12] rfl⟩ rfl rfl hl.1 rfl (lv_room (Nat.le_of_ble_eq_true rfl)) dX5_fit_325 ⟨Nat.zero_le _, Nat.zero_le _⟩) (fun r_11 hw_12 => ?_)
                      subst hw_12
                      refine lv_aload_n hx hb dX5_fit_328 rfl (lv_at hl 8 rfl) ?_
                      refine va_get (D := G.1) (ci := 6) (v := .ref m1) (C := RX5) (T := TX5) (N := 19) hx hb hts hin_X5 hown hT.1 hP 0 rfl rfl 3 (by decide) hf_7 (fun _ h9 => h9) rfl dX5_fit_329 ?_
                      refine lv_iload hx hb dX5_fit_332 (lv_at hl 1 rfl) ?_
                      refine kx_dald hx hb hT hP 1 rfl j (by omega) (by omega) dX5_fit_334 ?_
                      refine lv_dload hx hb dX5_fit_335 (lv_at hl 4 rfl) ?_
                      refine lv_dmul hx hb dX5_fit_337 (fx_bd.mul (hb_ps j) (kx_cx_bd hb_ps hb_qs (fun j => kx_mid_bd (hb_fr (8 * i0 + j)) (hb_to (8 * i0 + j))) hv hok) (by omega)).n ?_
                      refine lv_dsub hx hb dX5_fit_338 (fx_bd.sub (kx_mid_bd (hb_fr ((8 * i0) + j)) (hb_to ((8 * i0) + j))) (fx_bd.mul (hb_ps j) (kx_cx_bd hb_ps hb_qs (fun j => kx_mid_bd (hb_fr (8 * i0 + j)) (hb_to (8 * i0 + j))) hv hok) (by omega)) (by omega)).n ?_
                      refine lv_aload_n hx hb dX5_fit_339 rfl (lv_at hl 8 rfl) ?_
                      refine va_get (D := G.1) (ci := 6) (v := .ref m2) (C := RX5) (T := TX5) (N := 19) hx hb hts hin_X5 hown hT.1 hP 0 rfl rfl 4 (by decide) hf_13 (fun _ h9 => h9) rfl dX5_fit_340 ?_
                      refine lv_iload hx hb dX5_fit_343 (lv_at hl 1 rfl) ?_
                      refine kx_dald hx hb hT hP 2 rfl j (by omega) (by omega) dX5_fit_345 ?_
                      refine lv_dload hx hb dX5_fit_346 (lv_at hl 3 rfl) ?_
                      refine lv_dmul hx hb dX5_fit_348 (fx_bd.mul (hb_qs j) (kx_cy_bd hb_ps hb_qs (fun j => kx_mid_bd (hb_fr (8 * i0 + j)) (hb_to (8 * i0 + j))) hv hok) (by omega)).n ?_
                      refine lv_dsub hx hb dX5_fit_349 (fx_bd.sub (fx_bd.sub (kx_mid_bd (hb_fr ((8 * i0) + j)) (hb_to ((8 * i0) + j))) (fx_bd.mul (hb_ps j) (kx_cx_bd hb_ps hb_qs (fun j => kx_mid_bd (hb_fr (8 * i0 + j)) (hb_to (8 * i0 + j))) hv hok) (by omega)) (by omega)) (fx_bd.mul (hb_qs j) (kx_cy_bd hb_ps hb_qs (fun j => kx_mid_bd (hb_fr (8 * i0 + j)) (hb_to (8 * i0 + j))) hv hok) (by omega)) (by omega)).n ?_
                      refine lv_dstore (lv' := [(25, .double (FP.dsub (FP.dsub (kx_mm fr to ((8 * i0) + j)) (FP.dmul (ps j) (kx_cx (fun j => th (8 * i0 + j)) ps qs (fun j => kx_mm fr to (8 * i0 + j)) v))) (FP.dmul (qs j) (kx_cy (fun j => th (8 * i0 + j)) ps qs (fun j => kx_mm fr to (8 * i0 + j)) v)))), (24, .int (nI ((8 * i0) + j))), (23, .int (nI j)), (21, .double (kx_si (fun j => th (8 * i0 + j)) (fun j => kx_sqe (kx_mm fr to (8 * i0 + j)) (ps j) (qs j) (kx_cx (fun j => th (8 * i0 + j)) ps qs (fun j => kx_mm fr to (8 * i0 + j)) v) (kx_cy (fun j => th (8 * i0 + j)) ps qs (fun j => kx_mm fr to (8 * i0 + j)) v)) j)), (19, .double (kx_cy (fun j => th (8 * i0 + j)) ps qs (fun j => kx_mm fr to (8 * i0 + j)) v)), (17, .double (kx_cx (fun j => th (8 * i0 + j)) ps qs (fun j => kx_mm fr to (8 * i0 + j)) v)), (14, .int (nI (kx_cn (fun j => th (8 * i0 + j)) v))), (12, .double (kx_si (fun j => th (8 * i0 + j)) (fun j => FP.ddiv (kx_hh fr to (8 * i0 + j)) (kx_root (kx_sq (ps j) (qs j)))) v)), (1, .int (nI i0)), (0, .ref m0)]) hx hb dX5_fit_350 hl (by decide) rfl (fun ls hl => ?_)
                      refine lv_dload hx hb dX5_fit_352 (lv_at hl 3 rfl) ?_
                      refine lv_dload hx hb dX5_fit_354 (lv_at hl 0 rfl) ?_
                      refine lv_dload hx hb dX5_fit_356 (lv_at hl 0 rfl) ?_
                      refine lv_dmul hx hb dX5_fit_358 (fx_bd.mul (fx_bd.sub (fx_bd.sub (kx_mid_bd (hb_fr ((8 * i0) + j)) (hb_to ((8 * i0) + j))) (fx_bd.mul (hb_ps j) (kx_cx_bd hb_ps hb_qs (fun j => kx_mid_bd (hb_fr (8 * i0 + j)) (hb_to (8 * i0 + j))) hv hok) (by omega)) (by omega)) (fx_bd.mul (hb_qs j) (kx_cy_bd hb_ps hb_qs (fun j => kx_mid_bd (hb_fr (8 * i0 + j)) (hb_to (8 * i0 + j))) hv hok) (by omega)) (by omega)) (fx_bd.sub (fx_bd.sub (kx_mid_bd (hb_fr ((8 * i0) + j)) (hb_to ((8 * i0) + j))) (fx_bd.mul (hb_ps j) (kx_cx_bd hb_ps hb_qs (fun j => kx_mid_bd (hb_fr (8 * i0 + j)) (hb_to (8 * i0 + j))) hv hok) (by omega)) (by omega)) (fx_bd.mul (hb_qs j) (kx_cy_bd hb_ps hb_qs (fun j => kx_mid_bd (hb_fr (8 * i0 + j)) (hb_to (8 * i0 + j))) hv hok) (by omega)) (by omega)) (by omega)).n ?_
                      refine lv_dadd hx hb dX5_fit_359 (fx_bd.add (kx_si_bd (K := 201) (fun j => kx_sqe_bd (kx_mid_bd (hb_fr (8 * i0 + j)) (hb_to (8 * i0 + j))) (hb_ps j) (hb_qs j) (kx_cx_bd hb_ps hb_qs (fun j => kx_mid_bd (hb_fr (8 * i0 + j)) (hb_to (8 * i0 + j))) hv hok) (kx_cy_bd hb_ps hb_qs (fun j => kx_mid_bd (hb_fr (8 * i0 + j)) (hb_to (8 * i0 + j))) hv hok)) j (by omega)) (fx_bd.mul (fx_bd.sub (fx_bd.sub (kx_mid_bd (hb_fr ((8 * i0) + j)) (hb_to ((8 * i0) + j))) (fx_bd.mul (hb_ps j) (kx_cx_bd hb_ps hb_qs (fun j => kx_mid_bd (hb_fr (8 * i0 + j)) (hb_to (8 * i0 + j))) hv hok) (by omega)) (by omega)) (fx_bd.mul (hb_qs j) (kx_cy_bd hb_ps hb_qs (fun j => kx_mid_bd (hb_fr (8 * i0 + j)) (hb_to (8 * i0 + j))) hv hok) (by omega)) (by omega)) (fx_bd.sub (fx_bd.sub (kx_mid_bd (hb_fr ((8 * i0) + j)) (hb_to ((8 * i0) + j))) (fx_bd.mul (hb_ps j) (kx_cx_bd hb_ps hb_qs (fun j => kx_mid_bd (hb_fr (8 * i0 + j)) (hb_to (8 * i0 + j))) hv hok) (by omega)) (by omega)) (fx_bd.mul (hb_qs j) (kx_cy_bd hb_ps hb_qs (fun j => kx_mid_bd (hb_fr (8 * i0 + j)) (hb_to (8 * i0 + j))) hv hok) (by omega)) (by omega)) (by omega)) (by omega)).n ?_
                      refine lv_dstore (lv' := [(21, .double (FP.dadd (kx_si (fun j => th (8 * i0 + j)) (fun j => kx_sqe (kx_mm fr to (8 * i0 + j)) (ps j) (qs j) (kx_cx (fun j => th (8 * i0 + j)) ps qs (fun j => kx_mm fr to (8 * i0 + j)) v) (kx_cy (fun j => th (8 * i0 + j)) ps qs (fun j => kx_mm fr to (8 * i0 + j)) v)) j) (FP.dmul (FP.dsub (FP.dsub (kx_mm fr to ((8 * i0) + j)) (FP.dmul (ps j) (kx_cx (fun j => th (8 * i0 + j)) ps qs (fun j => kx_mm fr to (8 * i0 + j)) v))) (FP.dmul (qs j) (kx_cy (fun j => th (8 * i0 + j)) ps qs (fun j => kx_mm fr to (8 * i0 + j)) v))) (FP.dsub (FP.dsub (kx_mm fr to ((8 * i0) + j)) (FP.dmul (ps j) (kx_cx (fun j => th (8 * i0 + j)) ps qs (fun j => kx_mm fr to (8 * i0 + j)) v))) (FP.dmul (qs j) (kx_cy (fun j => th (8 * i0 + j)) ps qs (fun j => kx_mm fr to (8 * i0 + j)) v)))))), (25, .double (FP.dsub (FP.dsub (kx_mm fr to ((8 * i0) + j)) (FP.dmul (ps j) (kx_cx (fun j => th (8 * i0 + j)) ps qs (fun j => kx_mm fr to (8 * i0 + j)) v))) (FP.dmul (qs j) (kx_cy (fun j => th (8 * i0 + j)) ps qs (fun j => kx_mm fr to (8 * i0 + j)) v)))), (24, .int (nI ((8 * i0) + j))), (23, .int (nI j)), (19, .double (kx_cy (fun j => th (8 * i0 + j)) ps qs (fun j => kx_mm fr to (8 * i0 + j)) v)), (17, .double (kx_cx (fun j => th (8 * i0 + j)) ps qs (fun j => kx_mm fr to (8 * i0 + j)) v)), (14, .int (nI (kx_cn (fun j => th (8 * i0 + j)) v))), (12, .double (kx_si (fun j => th (8 * i0 + j)) (fun j => FP.ddiv (kx_hh fr to (8 * i0 + j)) (kx_root (kx_sq (ps j) (qs j)))) v)), (1, .int (nI i0)), (0, .ref m0)]) hx hb dX5_fit_360 hl (by decide) rfl (fun ls hl => ?_)
                      refine lv_iinc (v := nI (j + 1)) (lv' := [(23, .int (nI (j + 1))), (21, .double (FP.dadd (kx_si (fun j => th (8 * i0 + j)) (fun j => kx_sqe (kx_mm fr to (8 * i0 + j)) (ps j) (qs j) (kx_cx (fun j => th (8 * i0 + j)) ps qs (fun j => kx_mm fr to (8 * i0 + j)) v) (kx_cy (fun j => th (8 * i0 + j)) ps qs (fun j => kx_mm fr to (8 * i0 + j)) v)) j) (FP.dmul (FP.dsub (FP.dsub (kx_mm fr to ((8 * i0) + j)) (FP.dmul (ps j) (kx_cx (fun j => th (8 * i0 + j)) ps qs (fun j => kx_mm fr to (8 * i0 + j)) v))) (FP.dmul (qs j) (kx_cy (fun j => th (8 * i0 + j)) ps qs (fun j => kx_mm fr to (8 * i0 + j)) v))) (FP.dsub (FP.dsub (kx_mm fr to ((8 * i0) + j)) (FP.dmul (ps j) (kx_cx (fun j => th (8 * i0 + j)) ps qs (fun j => kx_mm fr to (8 * i0 + j)) v))) (FP.dmul (qs j) (kx_cy (fun j => th (8 * i0 + j)) ps qs (fun j => kx_mm fr to (8 * i0 + j)) v)))))), (25, .double (FP.dsub (FP.dsub (kx_mm fr to ((8 * i0) + j)) (FP.dmul (ps j) (kx_cx (fun j => th (8 * i0 + j)) ps qs (fun j => kx_mm fr to (8 * i0 + j)) v))) (FP.dmul (qs j) (kx_cy (fun j => th (8 * i0 + j)) ps qs (fun j => kx_mm fr to (8 * i0 + j)) v)))), (24, .int (nI ((8 * i0) + j))), (19, .double (kx_cy (fun j => th (8 * i0 + j)) ps qs (fun j => kx_mm fr to (8 * i0 + j)) v)), (17, .double (kx_cx (fun j => th (8 * i0 + j)) ps qs (fun j => kx_mm fr to (8 * i0 + j)) v)), (14, .int (nI (kx_cn (fun j => th (8 * i0 + j)) v))), (12, .double (kx_si (fun j => th (8 * i0 + j)) (fun j => FP.ddiv (kx_hh fr to (8 * i0 + j)) (kx_root (kx_sq (ps j) (qs j)))) v)), (1, .int (nI i0)), (0, .ref m0)]) hx hb dX5_fit_362 hl (k := 3) rfl (by show _ + 1 = _; exact nI_1 _) (by decide) rfl (fun ls hl => ?_)
                      refine lv_goto (tgt := 294) hx hb dX5_fit_365 (by decide) ?_
                      exact ih (j + 1) _ (by omega) ((kx_si_t (th := (fun j => th (8 * i0 + j))) (g := (fun j => kx_sqe (kx_mm fr to (8 * i0 + j)) (ps j) (qs j) (kx_cx (fun j => th (8 * i0 + j)) ps qs (fun j => kx_mm fr to (8 * i0 + j)) v) (kx_cy (fun j => th (8 * i0 + j)) ps qs (fun j => kx_mm fr to (8 * i0 + j)) v))) c_10).symm) _ _ hP hD hS _ (lv_sub hl [0, 1, 4, 5, 6, 7, 8, 9] rfl)
              exact loop_294 v 0 _ (by omega) rfl _ _ hP hD hS _ (lv_sub hl [0, 1, 2, 3, 5, 6, 12, 13] rfl)
            · refine lv_iconst (v := 0) hx hb dX5_fit_255 (by decide) ?_
              exact W.zret (v := 0) hx hb hr rfl (fun t ht hW => ⟨⟨0, sh, rfl, Or.inl ⟨fun q => (kx_ok_2 c_3).mp q.2 c_4, rfl, rfl⟩, And.intro (by rw [ht]; exact hP) hD⟩, hS.F ht⟩) hS.2.2 dX5_fit_256
          · refine lv_dload hx hb dX5_fit_240 (lv_at hl 0 rfl) ?_
            refine lv_dneg hx hb dX5_fit_242 ?_
            refine lv_goto (tgt := 248) hx hb dX5_fit_243 (by decide) ?_
            refine lv_ldc2d (v := 4517110426252607488) hx hb hown hc_91 dX5_fit_248 ?_
            refine kx_dlt (tgt := 257) hx hb dX5_fit_251 dX5_fit_252 (by decide) (fun c_13 => ?_) (fun c_13 => ?_)
            · have hok : kx_ok (kx_det (fun j => th (8 * i0 + j)) ps qs v) := (kx_ok_1 c_3).mpr c_13
              refine lv_dload hx hb dX5_fit_257 (lv_at hl 4 rfl) ?_
              refine lv_dload hx hb dX5_fit_259 (lv_at hl 5 rfl) ?_
              refine lv_dmul hx hb dX5_fit_261 (fx_bd.mul (kx_S2_bd (th := (fun j => th (8 * i0 + j))) (f := ps) (g := (fun j => kx_mm fr to (8 * i0 + j))) hb_ps (fun j => kx_mid_bd (hb_fr (8 * i0 + j)) (hb_to (8 * i0 + j))) v (by omega)) (kx_S2_bd (th := (fun j => th (8 * i0 + j))) (f := qs) (g := qs) hb_qs hb_qs v (by omega)) (by omega)).n ?_
              refine lv_dload hx hb dX5_fit_262 (lv_at hl 3 rfl) ?_
              refine lv_dload hx hb dX5_fit_264 (lv_at hl 6 rfl) ?_
              refine lv_dmul hx hb dX5_fit_266 (fx_bd.mul (kx_S2_bd (th := (fun j => th (8 * i0 + j))) (f := qs) (g := (fun j => kx_mm fr to (8 * i0 + j))) hb_qs (fun j => kx_mid_bd (hb_fr (8 * i0 + j)) (hb_to (8 * i0 + j))) v (by omega)) (kx_S2_bd (th := (fun j => th (8 * i0 + j))) (f := ps) (g := qs) hb_ps hb_qs v (by omega)) (by omega)).n ?_
              refine lv_dsub hx hb dX5_fit_267 (fx_bd.sub (fx_bd.mul (kx_S2_bd (th := (fun j => th (8 * i0 + j))) (f := ps) (g := (fun j => kx_mm fr to (8 * i0 + j))) hb_ps (fun j => kx_mid_bd (hb_fr (8 * i0 + j)) (hb_to (8 * i0 + j))) v (by omega)) (kx_S2_bd (th := (fun j => th (8 * i0 + j))) (f := qs) (g := qs) hb_qs hb_qs v (by omega)) (by omega)) (fx_bd.mul (kx_S2_bd (th := (fun j => th (8 * i0 + j))) (f := qs) (g := (fun j => kx_mm fr to (8 * i0 + j))) hb_qs (fun j => kx_mid_bd (hb_fr (8 * i0 + j)) (hb_to (8 * i0 + j))) v (by omega)) (kx_S2_bd (th := (fun j => th (8 * i0 + j))) (f := ps) (g := qs) hb_ps hb_qs v (by omega)) (by omega)) (by omega)).n ?_
              refine lv_dload hx hb dX5_fit_268 (lv_at hl 0 rfl) ?_
              refine lv_ddiv hx hb dX5_fit_270 (fx_bd.div (fx_bd.sub (fx_bd.mul (kx_S2_bd (th := (fun j => th (8 * i0 + j))) (f := ps) (g := (fun j => kx_mm fr to (8 * i0 + j))) hb_ps (fun j => kx_mid_bd (hb_fr (8 * i0 + j)) (hb_to (8 * i0 + j))) v (by omega)) (kx_S2_bd (th := (fun j => th (8 * i0 + j))) (f := qs) (g := qs) hb_qs hb_qs v (by omega)) (by omega)) (fx_bd.mul (kx_S2_bd (th := (fun j => th (8 * i0 + j))) (f := qs) (g := (fun j => kx_mm fr to (8 * i0 + j))) hb_qs (fun j => kx_mid_bd (hb_fr (8 * i0 + j)) (hb_to (8 * i0 + j))) v (by omega)) (kx_S2_bd (th := (fun j => th (8 * i0 + j))) (f := ps) (g := qs) hb_ps hb_qs v (by omega)) (by omega)) (by omega)) (kx_ok_lb (kx_det_bd hb_ps hb_qs hv) hok) (by omega)).n ?_
              refine kx_ed (y := (kx_cx (fun j => th (8 * i0 + j)) ps qs (fun j => kx_mm fr to (8 * i0 + j)) v)) rfl ?_
              refine lv_dstore (lv' := [(17, .double (kx_cx (fun j => th (8 * i0 + j)) ps qs (fun j => kx_mm fr to (8 * i0 + j)) v)), (15, .double (FP.dsub (FP.dmul (kx_S2 (fun j => th (8 * i0 + j)) ps ps v) (kx_S2 (fun j => th (8 * i0 + j)) qs qs v)) (FP.dmul (kx_S2 (fun j => th (8 * i0 + j)) ps qs v) (kx_S2 (fun j => th (8 * i0 + j)) ps qs v)))), (14, .int (nI (kx_cn (fun j => th (8 * i0 + j)) v))), (12, .double (kx_si (fun j => th (8 * i0 + j)) (fun j => FP.ddiv (kx_hh fr to (8 * i0 + j)) (kx_root (kx_sq (ps j) (qs j)))) v)), (10, .double (kx_S2 (fun j => th (8 * i0 + j)) qs (fun j => kx_mm fr to (8 * i0 + j)) v)), (8, .double (kx_S2 (fun j => th (8 * i0 + j)) ps (fun j => kx_mm fr to (8 * i0 + j)) v)), (6, .double (kx_S2 (fun j => th (8 * i0 + j)) qs qs v)), (4, .double (kx_S2 (fun j => th (8 * i0 + j)) ps qs v)), (2, .double (kx_S2 (fun j => th (8 * i0 + j)) ps ps v)), (1, .int (nI i0)), (0, .ref m0)]) hx hb dX5_fit_271 hl (by decide) rfl (fun ls hl => ?_)
              refine lv_dload_n hx hb dX5_fit_273 rfl (lv_at hl 8 rfl) ?_
              refine lv_dload hx hb dX5_fit_274 (lv_at hl 4 rfl) ?_
              refine lv_dmul hx hb dX5_fit_276 (fx_bd.mul (kx_S2_bd (th := (fun j => th (8 * i0 + j))) (f := ps) (g := ps) hb_ps hb_ps v (by omega)) (kx_S2_bd (th := (fun j => th (8 * i0 + j))) (f := qs) (g := (fun j => kx_mm fr to (8 * i0 + j))) hb_qs (fun j => kx_mid_bd (hb_fr (8 * i0 + j)) (hb_to (8 * i0 + j))) v (by omega)) (by omega)).n ?_
              refine lv_dload hx hb dX5_fit_277 (lv_at hl 7 rfl) ?_
              refine lv_dload hx hb dX5_fit_279 (lv_at hl 5 rfl) ?_
              refine lv_dmul hx hb dX5_fit_281 (fx_bd.mul (kx_S2_bd (th := (fun j => th (8 * i0 + j))) (f := ps) (g := qs) hb_ps hb_qs v (by omega)) (kx_S2_bd (th := (fun j => th (8 * i0 + j))) (f := ps) (g := (fun j => kx_mm fr to (8 * i0 + j))) hb_ps (fun j => kx_mid_bd (hb_fr (8 * i0 + j)) (hb_to (8 * i0 + j))) v (by omega)) (by omega)).n ?_
              refine lv_dsub hx hb dX5_fit_282 (fx_bd.sub (fx_bd.mul (kx_S2_bd (th := (fun j => th (8 * i0 + j))) (f := ps) (g := ps) hb_ps hb_ps v (by omega)) (kx_S2_bd (th := (fun j => th (8 * i0 + j))) (f := qs) (g := (fun j => kx_mm fr to (8 * i0 + j))) hb_qs (fun j => kx_mid_bd (hb_fr (8 * i0 + j)) (hb_to (8 * i0 + j))) v (by omega)) (by omega)) (fx_bd.mul (kx_S2_bd (th := (fun j => th (8 * i0 + j))) (f := ps) (g := qs) hb_ps hb_qs v (by omega)) (kx_S2_bd (th := (fun j => th (8 * i0 + j))) (f := ps) (g := (fun j => kx_mm fr to (8 * i0 + j))) hb_ps (fun j => kx_mid_bd (hb_fr (8 * i0 + j)) (hb_to (8 * i0 + j))) v (by omega)) (by omega)) (by omega)).n ?_
              refine lv_dload hx hb dX5_fit_283 (lv_at hl 1 rfl) ?_
              refine lv_ddiv hx hb dX5_fit_285 (fx_bd.div (fx_bd.sub (fx_bd.mul (kx_S2_bd (th := (fun j => th (8 * i0 + j))) (f := ps) (g := ps) hb_ps hb_ps v (by omega)) (kx_S2_bd (th := (fun j => th (8 * i0 + j))) (f := qs) (g := (fun j => kx_mm fr to (8 * i0 + j))) hb_qs (fun j => kx_mid_bd (hb_fr (8 * i0 + j)) (hb_to (8 * i0 + j))) v (by omega)) (by omega)) (fx_bd.mul (kx_S2_bd (th := (fun j => th (8 * i0 + j))) (f := ps) (g := qs) hb_ps hb_qs v (by omega)) (kx_S2_bd (th := (fun j => th (8 * i0 + j))) (f := ps) (g := (fun j => kx_mm fr to (8 * i0 + j))) hb_ps (fun j => kx_mid_bd (hb_fr (8 * i0 + j)) (hb_to (8 * i0 + j))) v (by omega)) (by omega)) (by omega)) (kx_ok_lb (kx_det_bd hb_ps hb_qs hv) hok) (by omega)).n ?_
              refine kx_ed (y := (kx_cy (fun j => th (8 * i0 + j)) ps qs (fun j => kx_mm fr to (8 * i0 + j)) v)) rfl ?_
              refine lv_dstore (lv' := [(19, .double (kx_cy (fun j => th (8 * i0 + j)) ps qs (fun j => kx_mm fr to (8 * i0 + j)) v)), (17, .double (kx_cx (fun j => th (8 * i0 + j)) ps qs (fun j => kx_mm fr to (8 * i0 + j)) v)), (15, .double (FP.dsub (FP.dmul (kx_S2 (fun j => th (8 * i0 + j)) ps ps v) (kx_S2 (fun j => th (8 * i0 + j)) qs qs v)) (FP.dmul (kx_S2 (fun j => th (8 * i0 + j)) ps qs v) (kx_S2 (fun j => th (8 * i0 + j)) ps qs v)))), (14, .int (nI (kx_cn (fun j => th (8 * i0 + j)) v))), (12, .double (kx_si (fun j => th (8 * i0 + j)) (fun j => FP.ddiv (kx_hh fr to (8 * i0 + j)) (kx_root (kx_sq (ps j) (qs j)))) v)), (10, .double (kx_S2 (fun j => th (8 * i0 + j)) qs (fun j => kx_mm fr to (8 * i0 + j)) v)), (8, .double (kx_S2 (fun j => th (8 * i0 + j)) ps (fun j => kx_mm fr to (8 * i0 + j)) v)), (6, .double (kx_S2 (fun j => th (8 * i0 + j)) qs qs v)), (4, .double (kx_S2 (fun j => th (8 * i0 + j)) ps qs v)), (2, .double (kx_S2 (fun j => th (8 * i0 + j)) ps ps v)), (1, .int (nI i0)), (0, .ref m0)]) hx hb dX5_fit_286 hl (by decide) rfl (fun ls hl => ?_)
              refine lv_dconst0 hx hb dX5_fit_288 ?_
              refine lv_dstore (lv' := [(21, .double FP.dconst0), (19, .double (kx_cy (fun j => th (8 * i0 + j)) ps qs (fun j => kx_mm fr to (8 * i0 + j)) v)), (17, .double (kx_cx (fun j => th (8 * i0 + j)) ps qs (fun j => kx_mm fr to (8 * i0 + j)) v)), (15, .double (FP.dsub (FP.dmul (kx_S2 (fun j => th (8 * i0 + j)) ps ps v) (kx_S2 (fun j => th (8 * i0 + j)) qs qs v)) (FP.dmul (kx_S2 (fun j => th (8 * i0 + j)) ps qs v) (kx_S2 (fun j => th (8 * i0 + j)) ps qs v)))), (14, .int (nI (kx_cn (fun j => th (8 * i0 + j)) v))), (12, .double (kx_si (fun j => th (8 * i0 + j)) (fun j => FP.ddiv (kx_hh fr to (8 * i0 + j)) (kx_root (kx_sq (ps j) (qs j)))) v)), (10, .double (kx_S2 (fun j => th (8 * i0 + j)) qs (fun j => kx_mm fr to (8 * i0 + j)) v)), (8, .double (kx_S2 (fun j => th (8 * i0 + j)) ps (fun j => kx_mm fr to (8 * i0 + j)) v)), (6, .double (kx_S2 (fun j => th (8 * i0 + j)) qs qs v)), (4, .double (kx_S2 (fun j => th (8 * i0 + j)) ps qs v)), (2, .double (kx_S2 (fun j => th (8 * i0 + j)) ps ps v)), (1, .int (nI i0)), (0, .ref m0)]) hx hb dX5_fit_289 hl (by decide) rfl (fun ls hl => ?_)
              refine lv_iconst (v := 0) hx hb dX5_fit_291 (by decide) ?_
              refine lv_istore (lv' := [(23, .int 0), (21, .double FP.dconst0), (19, .double (kx_cy (fun j => th (8 * i0 + j)) ps qs (fun j => kx_mm fr to (8 * i0 + j)) v)), (17, .double (kx_cx (fun j => th (8 * i0 + j)) ps qs (fun j => kx_mm fr to (8 * i0 + j)) v)), (15, .double (FP.dsub (FP.dmul (kx_S2 (fun j => th (8 * i0 + j)) ps ps v) (kx_S2 (fun j => th (8 * i0 + j)) qs qs v)) (FP.dmul (kx_S2 (fun j => th (8 * i0 + j)) ps qs v) (kx_S2 (fun j => th (8 * i0 + j)) ps qs v)))), (14, .int (nI (kx_cn (fun j => th (8 * i0 + j)) v))), (12, .double (kx_si (fun j => th (8 * i0 + j)) (fun j => FP.ddiv (kx_hh fr to (8 * i0 + j)) (kx_root (kx_sq (ps j) (qs j)))) v)), (10, .double (kx_S2 (fun j => th (8 * i0 + j)) qs (fun j => kx_mm fr to (8 * i0 + j)) v)), (8, .double (kx_S2 (fun j => th (8 * i0 + j)) ps (fun j => kx_mm fr to (8 * i0 + j)) v)), (6, .double (kx_S2 (fun j => th (8 * i0 + j)) qs qs v)), (4, .double (kx_S2 (fun j => th (8 * i0 + j)) ps qs v)), (2, .double (kx_S2 (fun j => th (8 * i0 + j)) ps ps v)), (1, .int (nI i0)), (0, .ref m0)]) hx hb dX5_fit_292 hl (by decide) rfl (fun ls hl => ?_)
              have loop_294 : ∀ (k2 j : Nat) (rs : UInt64), j + k2 = v → rs = kx_si (fun j => th (8 * i0 + j)) (fun j => kx_sqe (kx_mm fr to (8 * i0 + j)) (ps j) (qs j) (kx_cx (fun j => th (8 * i0 + j)) ps qs (fun j => kx_mm fr to (8 * i0 + j)) v) (kx_cy (fun j => th (8 * i0 + j)) ps qs (fun j => kx_mm fr to (8 * i0 + j)) v)) j → ∀ (H : Heap) (locs : List Loc), va_P G.1 vwCl [(m0, .inr (6, [.int tw, .int (nI n), .int (nI v), .ref m1, .ref m2, .ref m3, .ref m4, .ref m5, .int kn, .int (nI ft), .ref m6, .ref m7, .int (nI ru), .ref m8, .ref m9, .ref m10, .int kp, .ref m11, .ref m12])), (m1, kx_aD G 8 ps), (m2, kx_aD G 8 qs), (m3, kx_aZ G 128 th), (m4, kx_aD G 128 fr), (m5, kx_aD G 128 to), (m6, kx_aZ G 16 fd), (m7, kx_aD G 64 sh), (m8, kx_aI G 6 ki), (m9, kx_aD G 6 li), (m10, kx_aI G 6 cl), (m11, kx_aD G 16 kx), (m12, kx_aD G 16 ky)] H → va_D A [(m0, .inr (6, [.int tw, .int (nI n), .int (nI v), .ref m1, .ref m2, .ref m3, .ref m4, .ref m5, .int kn, .int (nI ft), .ref m6, .ref m7, .int (nI ru), .ref m8, .ref m9, .ref m10, .int kp, .ref m11, .ref m12])), (m1, kx_aD G 8 ps), (m2, kx_aD G 8 qs), (m3, kx_aZ G 128 th), (m4, kx_aD G 128 fr), (m5, kx_aD G 128 to), (m6, kx_aZ G 16 fd), (m7, kx_aD G 64 sh), (m8, kx_aI G 6 ki), (m9, kx_aD G 6 li), (m10, kx_aI G 6 cl), (m11, kx_aD G 16 kx), (m12, kx_aD G 16 ky)] → va_S A s.heap H locs → ∀ ls : Array Slot, lv_has ls 27 [(23, .int (nI j)), (21, .double rs), (19, .double (kx_cy (fun j => th (8 * i0 + j)) ps qs (fun j => kx_mm fr to (8 * i0 + j)) v)), (17, .double (kx_cx (fun j => th (8 * i0 + j)) ps qs (fun j => kx_mm fr to (8 * i0 + j)) v)), (14, .int (nI (kx_cn (fun j => th (8 * i0 + j)) v))), (12, .double (kx_si (fun j => th (8 * i0 + j)) (fun j => FP.ddiv (kx_hh fr to (8 * i0 + j)) (kx_root (kx_sq (ps j) (qs j)))) v)), (1, .int (nI i0)), (0, .ref m0)] → W p l e (headSpec wsX5_fit ({ frames := 1, cells := 0, slots := 0, locals := 29 } : Room)).room s m [.ref m0, .int (nI i0)].toArray below meth c H locs 0 0 (MQ below (va_Qi (fun (r : Int32) (u : Nat → UInt64) => (¬ kx_fit (fun j => th (8 * i0 + j)) ps qs v ∧ r = 0 ∧ u = sh) ∨ (kx_fit (fun j => th (8 * i0 + j)) ps qs v ∧ r = 1 ∧ u = kx_st sh i0 (kx_cx (fun j => th (8 * i0 + j)) ps qs (fun j => kx_mm fr to (8 * i0 + j)) v) (kx_cy (fun j => th (8 * i0 + j)) ps qs (fun j => kx_mm fr to (8 * i0 + j)) v) (kx_rad (fun j => th (8 * i0 + j)) (fun j => kx_hh fr to (8 * i0 + j)) (fun j => kx_root (kx_sq (ps j) (qs j))) v) (kx_res (fun j => th (8 * i0 + j)) ps qs (fun j => kx_mm fr to (8 * i0 + j)) (kx_cx (fun j => th (8 * i0 + j)) ps qs (fun j => kx_mm fr to (8 * i0 + j)) v) (kx_cy (fun j => th (8 * i0 + j)) ps qs (fun j => kx_mm fr to (8 * i0 + j)) v) v))) (kx_B G A (fun u : Nat → UInt64 => [(m0, .inr (6, [.int tw, .int (nI n), .int (nI v), .ref m1, .ref m2, .ref m3, .ref m4, .ref m5, .int kn, .int (nI ft), .ref m6, .ref m7, .int (nI ru), .ref m8, .ref m9, .ref m10, .int kp, .ref m11, .ref m12])), (m1, kx_aD G 8 ps), (m2, kx_aD G 8 qs), (m3, kx_aZ G 128 th), (m4, kx_aD G 128 fr), (m5, kx_aD G 128 to), (m6, kx_aZ G 16 fd), (m7, kx_aD G 64 u), (m8, kx_aI G 6 ki), (m9, kx_aD G 6 li), (m10, kx_aI G 6 cl), (m11, kx_aD G 16 kx), (m12, kx_aD G 16 ky)])) A) [.ref m0, .int (nI i0)].toArray s 0 0 A) (F0 m 294 ls []) := by
                intro k2
                induction k2 with
                | zero =>
                  intro j rs htot e_rs H locs hP hD hS ls hl
                  subst e_rs
                  have hjv : j = v := by omega
                  rw [hjv] at hl
                  refine lv_iload hx hb dX5_fit_294 (lv_at hl 0 rfl) ?_
                  refine lv_aload_n hx hb dX5_fit_296 rfl (lv_at hl 7 rfl) ?_
                  refine va_get (D := G.1) (ci := 6) (v := .int (nI v)) (C := RX5) (T := TX5) (N := 19) hx hb hts hin_X5 hown hT.1 hP 0 rfl rfl 2 (by decide) hf_52 (fun _ h9 => h9) rfl dX5_fit_297 ?_
                  refine lv_icmp_ge (x := nI v) (y := nI v) (tgt := 368) hx hb dX5_fit_300 (by decide) (fun c_14 => ?_) (fun c_14 => ?_)
                  · have c_14 : v ≤ v := (nI_leI (a := v) (b := v) (by omega) (by omega)).mp c_14
                    refine lv_aload_n hx hb dX5_fit_368 rfl (lv_at hl 7 rfl) ?_
                    refine lv_iload_n hx hb dX5_fit_369 rfl (lv_at hl 6 rfl) ?_
                    refine lv_dload hx hb dX5_fit_370 (lv_at hl 3 rfl) ?_
                    refine lv_dload hx hb dX5_fit_372 (lv_at hl 2 rfl) ?_
                    refine lv_dload hx hb dX5_fit_374 (lv_at hl 5 rfl) ?_
                    refine lv_iload hx hb dX5_fit_376 (lv_at hl 4 rfl) ?_
                    refine lv_i2d hx hb dX5_fit_378 ?_
                    refine lv_ddiv hx hb dX5_fit_379 (fx_bd.div (kx_si_bn (K := 76) (n := v) (fun j _ => (kx_hlf_bd (hb_fr (8 * i0 + j)) (hb_to (8 * i0 + j))).div (kx_root_pl (kx_sq_nn (hb_ps j) (hb_qs j)) (kx_sq_bd (hb_ps j) (hb_qs j))).lb (by omega)) v (by omega) (by omega)) (fx_il (nI_ne0 (by omega) (by omega))) (by omega)).n ?_
                    refine lv_dload hx hb dX5_fit_380 (lv_at hl 1 rfl) ?_
                    refine kx_mv (va_runV (As := [.int (nI i0), .double (kx_cx (fun j => th (8 * i0 + j)) ps qs (fun j => kx_mm fr to (8 * i0 + j)) v), .double (kx_cy (fun j => th (8 * i0 + j)) ps qs (fun j => kx_mm fr to (8 * i0 + j)) v), .double (FP.ddiv (kx_si (fun j => th (8 * i0 + j)) (fun j => FP.ddiv (kx_hh fr to (8 * i0 + j)) (kx_root (kx_sq (ps j) (qs j)))) v) (FP.i2d (nI (kx_cn (fun j => th (8 * i0 + j)) v)))), .double (kx_si (fun j => th (8 * i0 + j)) (fun j => kx_sqe (kx_mm fr to (8 * i0 + j)) (ps j) (qs j) (kx_cx (fun j => th (8 * i0 + j)) ps qs (fun j => kx_mm fr to (8 * i0 + j)) v) (kx_cy (fun j => th (8 * i0 + j)) ps qs (fun j => kx_mm fr to (8 * i0 + j)) v)) v)]) (rest := []) ⟨hx, hb, hml, hown, hts⟩ (c_X5_set l G _ (m0 := m0) (m1 := m1) (m2 := m2) (m3 := m3) (m4 := m4) (m5 := m5) (m6 := m6) (m7 := m7) (m8 := m8) (m9 := m9) (m10 := m10) (m11 := m11) (m12 := m12) (n := n) (v := v) (tw := tw) (ps := ps) (qs := qs) (th := th) (fr := fr) (to := to) (kn := kn) (ft := ft) (fd := fd) (sh := sh) (ru := ru) (ki := ki) (li := li) (cl := cl) (kp := kp) (kx := kx) (ky := ky) (i := i0) (x := (kx_cx (fun j => th (8 * i0 + j)) ps qs (fun j => kx_mm fr to (8 * i0 + j)) v)) (y := (kx_cy (fun j => th (8 * i0 + j)) ps qs (fun j => kx_mm fr to (8 * i0 + j)) v)) (r9 := FP.ddiv (kx_si (fun j => th (8 * i0 + j)) (fun j => FP.ddiv (kx_hh fr to (8 * i0 + j)) (kx_root (kx_sq (ps j) (qs j)))) v) (FP.i2d (nI (kx_cn (fun j => th (8 * i0 + j)) v)))) (e9 := kx_si (fun j => th (8 * i0 + j)) (fun j => kx_sqe (kx_mm fr to (8 * i0 + j)) (ps j) (qs j) (kx_cx (fun j => th (8 * i0 + j)) ps qs (fun j => kx_mm fr to (8 * i0 + j)) v) (kx_cy (fun j => th (8 * i0 + j)) ps qs (fun j => kx_mm fr to (8 * i0 + j)) v)) v) (hb_ps := hb_ps) (hb_qs := hb_qs) (hb_fr := hb_fr) (hb_to := hb_to) (hb_sh := hb_sh) (hb_kx := hb_kx) (hb_ky := hb_ky) (hi := (by omega)) (hx_b := ((kx_cx_bd hb_ps hb_qs (fun j => kx_mid_bd (hb_fr (8 * i0 + j)) (hb_to (8 * i0 + j))) hv hok).mono (by omega))) (hy_b := ((kx_cy_bd hb_ps hb_qs (fun j => kx_mid_bd (hb_fr (8 * i0 + j)) (hb_to (8 * i0 + j))) hv hok).mono (by omega))) (hr_b := ((kx_rad_bd (fun j => kx_hlf_bd (hb_fr (8 * i0 + j)) (hb_to (8 * i0 + j))) (fun j _ => kx_root_pl (kx_sq_nn (hb_ps j) (hb_qs j)) (kx_sq_bd (hb_ps j) (hb_qs j))) hv (by omega)).mono (by omega))) (he_b := (kx_res_bd hb_ps hb_qs (fun j => kx_mid_bd (hb_fr (8 * i0 + j)) (hb_to (8 * i0 + j))) (kx_cx_bd hb_ps hb_qs (fun j => kx_mid_bd (hb_fr (8 * i0 + j)) (hb_to (8 * i0 + j))) hv hok) (kx_cy_bd hb_ps hb_qs (fun j => kx_mid_bd (hb_fr (8 * i0 + j)) (hb_to (8 * i0 + j))) hv hok) hv))) (cwV 5 hts gX5_fit_X5_set rfl rfl rfl (by decide +kernel) ⟨Nat.le_of_ble_eq_true rfl, Nat.le_of_ble_eq_true rfl⟩) ⟨kx_PMb, va_recv hT.1 hP (ci := 6) (q0 := 0) rfl rfl, kx_pm hT hP hD [0, 1, 2, 3, 4, 5, 6, 7, 8, 9, 10, 11, 12] rfl rfl rfl⟩ rfl rfl hl.1 rfl (lv_room (Nat.le_of_ble_eq_true rfl)) dX5_fit_382 ⟨Nat.zero_le _, Nat.zero_le _⟩) hP hD hS hA [0, 1, 2, 3, 4, 5, 6, 7, 8, 9, 10, 11, 12] rfl rfl (fun _ => rfl) (fun u_17 H locs hw_16 hP hD hS => ?_)
                    have hP : va_P G.1 vwCl [(m0, .inr (6, [.int tw, .int (nI n), .int (nI v), .ref m1, .ref m2, .ref m3, .ref m4, .ref m5, .int kn, .int (nI ft), .ref m6, .ref m7, .int (nI ru), .ref m8, .ref m9, .ref m10, .int kp, .ref m11, .ref m12])), (m1, kx_aD G 8 ps), (m2, kx_aD G 8 qs), (m3, kx_aZ G 128 th), (m4, kx_aD G 128 fr), (m5, kx_aD G 128 to), (m6, kx_aZ G 16 fd), (m7, kx_aD G 64 (kx_st sh i0 (kx_cx (fun j => th (8 * i0 + j)) ps qs (fun j => kx_mm fr to (8 * i0 + j)) v) (kx_cy (fun j => th (8 * i0 + j)) ps qs (fun j => kx_mm fr to (8 * i0 + j)) v) (FP.ddiv (kx_si (fun j => th (8 * i0 + j)) (fun j => FP.ddiv (kx_hh fr to (8 * i0 + j)) (kx_root (kx_sq (ps j) (qs j)))) v) (FP.i2d (nI (kx_cn (fun j => th (8 * i0 + j)) v)))) (kx_si (fun j => th (8 * i0 + j)) (fun j => kx_sqe (kx_mm fr to (8 * i0 + j)) (ps j) (qs j) (kx_cx (fun j => th (8 * i0 + j)) ps qs (fun j => kx_mm fr to (8 * i0 + j)) v) (kx_cy (fun j => th (8 * i0 + j)) ps qs (fun j => kx_mm fr to (8 * i0 + j)) v)) v))), (m8, kx_aI G 6 ki), (m9, kx_aD G 6 li), (m10, kx_aI G 6 cl), (m11, kx_aD G 16 kx), (m12, kx_aD G 16 ky)] H := hP
                    have hD : va_D A [(m0, .inr (6, [.int tw, .int (nI n), .int (nI v), .ref m1, .ref m2, .ref m3, .ref m4, .ref m5, .int kn, .int (nI ft), .ref m6, .ref m7, .int (nI ru), .ref m8, .ref m9, .ref m10, .int kp, .ref m11, .ref m12])), (m1, kx_aD G 8 ps), (m2, kx_aD G 8 qs), (m3, kx_aZ G 128 th), (m4, kx_aD G 128 fr), (m5, kx_aD G 128 to), (m6, kx_aZ G 16 fd), (m7, kx_aD G 64 (kx_st sh i0 (kx_cx (fun j => th (8 * i0 + j)) ps qs (fun j => kx_mm fr to (8 * i0 + j)) v) (kx_cy (fun j => th (8 * i0 + j)) ps qs (fun j => kx_mm fr to (8 * i0 + j)) v) (FP.ddiv (kx_si (fun j => th (8 * i0 + j)) (fun j => FP.ddiv (kx_hh fr to (8 * i0 + j)) (kx_root (kx_sq (ps j) (qs j)))) v) (FP.i2d (nI (kx_cn (fun j => th (8 * i0 + j)) v)))) (kx_si (fun j => th (8 * i0 + j)) (fun j => kx_sqe (kx_mm fr to (8 * i0 + j)) (ps j) (qs j) (kx_cx (fun j => th (8 * i0 + j)) ps qs (fun j => kx_mm fr to (8 * i0 + j)) v) (kx_cy (fun j => th (8 * i0 + j)) ps qs (fun j => kx_mm fr to (8 * i0 + j)) v)) v))), (m8, kx_aI G 6 ki), (m9, kx_aD G 6 li), (m10, kx_aI G 6 cl), (m11, kx_aD G 16 kx), (m12, kx_aD G 16 ky)] := hD
                    refine lv_iconst (v := 1) hx hb dX5_fit_385 (by decide) ?_
                    exact W.zret (v := 1) hx hb hr rfl (fun t ht hW => ⟨⟨1, kx_st sh i0 (kx_cx (fun j => th (8 * i0 + j)) ps qs (fun j => kx_mm fr to (8 * i0 + j)) v) (kx_cy (fun j => th (8 * i0 + j)) ps qs (fun j => kx_mm fr to (8 * i0 + j)) v) (kx_rad (fun j => th (8 * i0 + j)) (fun j => kx_hh fr to (8 * i0 + j)) (fun j => kx_root (kx_sq (ps j) (qs j))) v) (kx_res (fun j => th (8 * i0 + j)) ps qs (fun j => kx_mm fr to (8 * i0 + j)) (kx_cx (fun j => th (8 * i0 + j)) ps qs (fun j => kx_mm fr to (8 * i0 + j)) v) (kx_cy (fun j => th (8 * i0 + j)) ps qs (fun j => kx_mm fr to (8 * i0 + j)) v) v), rfl, Or.inr ⟨⟨by omega, hok⟩, rfl, rfl⟩, And.intro (by rw [ht]; exact hP) hD⟩, hS.F ht⟩) hS.2.2 dX5_fit_386
                  · have c_14 : ¬ v ≤ v := fun q => c_14 ((nI_leI (a := v) (b := v) (by omega) (by omega)).mpr q)
                    exact absurd (Nat.le_refl v) c_14
                | succ k2 ih =>
                  intro j rs htot e_rs H locs hP hD hS ls hl
                  subst e_rs
                  refine lv_iload hx hb dX5_fit_294 (lv_at hl 0 rfl) ?_
                  refine lv_aload_n hx hb dX5_fit_296 rfl (lv_at hl 7 rfl) ?_
                  refine va_get (D := G.1) (ci := 6) (v := .int (nI v)) (C := RX5) (T := TX5) (N := 19) hx hb hts hin_X5 hown hT.1 hP 0 rfl rfl 2 (by decide) hf_52 (fun _ h9 => h9) rfl dX5_fit_297 ?_
                  refine lv_icmp_ge (x := nI j) (y := nI v) (tgt := 368) hx hb dX5_fit_300 (by decide) (fun c_18 => ?_) (fun c_18 => ?_)
                  · have c_18 : v ≤ j := (nI_leI (a := v) (b := j) (by omega) (by omega)).mp c_18
                    exfalso; omega
                  · have c_18 : ¬ v ≤ j := fun q => c_18 ((nI_leI (a := v) (b := j) (by omega) (by omega)).mpr q)
                    refine lv_bipush (v := 8) hx hb dX5_fit_303 (by decide) ?_
                    refine lv_iload_n hx hb dX5_fit_305 rfl (lv_at hl 6 rfl) ?_
                    refine lv_imul hx hb dX5_fit_306 ?_
                    refine kx_ei (y := nI (8 * i0)) (pk_mul 8 i0) ?_
                    refine lv_iload hx hb dX5_fit_307 (lv_at hl 0 rfl) ?_
                    refine lv_iadd hx hb dX5_fit_309 ?_
                    refine kx_ei (y := nI ((8 * i0) + j)) (nI_add (8 * i0) j) ?_
                    refine lv_istore (lv' := [(24, .int (nI ((8 * i0) + j))), (23, .int (nI j)), (21, .double (kx_si (fun j => th (8 * i0 + j)) (fun j => kx_sqe (kx_mm fr to (8 * i0 + j)) (ps j) (qs j) (kx_cx (fun j => th (8 * i0 + j)) ps qs (fun j => kx_mm fr to (8 * i0 + j)) v) (kx_cy (fun j => th (8 * i0 + j)) ps qs (fun j => kx_mm fr to (8 * i0 + j)) v)) j)), (19, .double (kx_cy (fun j => th (8 * i0 + j)) ps qs (fun j => kx_mm fr to (8 * i0 + j)) v)), (17, .double (kx_cx (fun j => th (8 * i0 + j)) ps qs (fun j => kx_mm fr to (8 * i0 + j)) v)), (14, .int (nI (kx_cn (fun j => th (8 * i0 + j)) v))), (12, .double (kx_si (fun j => th (8 * i0 + j)) (fun j => FP.ddiv (kx_hh fr to (8 * i0 + j)) (kx_root (kx_sq (ps j) (qs j)))) v)), (1, .int (nI i0)), (0, .ref m0)]) hx hb dX5_fit_310 hl (by decide) rfl (fun ls hl => ?_)
                    refine lv_aload_n hx hb dX5_fit_312 rfl (lv_at hl 8 rfl) ?_
                    refine va_get (D := G.1) (ci := 6) (v := .ref m3) (C := RX5) (T := TX5) (N := 19) hx hb hts hin_X5 hown hT.1 hP 0 rfl rfl 5 (by decide) hf_16 (fun _ h9 => h9) rfl dX5_fit_313 ?_
                    refine lv_iload hx hb dX5_fit_316 (lv_at hl 0 rfl) ?_
                    refine kx_zald hx hb hT hP 3 rfl ((8 * i0) + j) (by omega) (by omega) dX5_fit_318 ?_
                    refine lv_if_eq (x := th ((8 * i0) + j)) (tgt := 362) hx hb dX5_fit_319 (by decide) (fun c_19 => ?_) (fun c_19 => ?_)
                    · refine lv_iinc (v := nI (j + 1)) (lv' := [(23, .int (nI (j + 1))), (24, .int (nI ((8 * i0) + j))), (21, .double (kx_si (fun j => th (8 * i0 + j)) (fun j => kx_sqe (kx_mm fr to (8 * i0 + j)) (ps j) (qs j) (kx_cx (fun j => th (8 * i0 + j)) ps qs (fun j => kx_mm fr to (8 * i0 + j)) v) (kx_cy (fun j => th (8 * i0 + j)) ps qs (fun j => kx_mm fr to (8 * i0 + j)) v)) j)), (19, .double (kx_cy (fun j => th (8 * i0 + j)) ps qs (fun j => kx_mm fr to (8 * i0 + j)) v)), (17, .double (kx_cx (fun j => th (8 * i0 + j)) ps qs (fun j => kx_mm fr to (8 * i0 + j)) v)), (14, .int (nI (kx_cn (fun j => th (8 * i0 + j)) v))), (12, .double (kx_si (fun j => th (8 * i0 + j)) (fun j => FP.ddiv (kx_hh fr to (8 * i0 + j)) (kx_root (kx_sq (ps j) (qs j)))) v)), (1, .int (nI i0)), (0, .ref m0)]) hx hb dX5_fit_362 hl (k := 1) rfl (by show _ + 1 = _; exact nI_1 _) (by decide) rfl (fun ls hl => ?_)
                      refine lv_goto (tgt := 294) hx hb dX5_fit_365 (by decide) ?_
                      exact ih (j + 1) _ (by omega) ((kx_si_f (th := (fun j => th (8 * i0 + j))) (g := (fun j => kx_sqe (kx_mm fr to (8 * i0 + j)) (ps j) (qs j) (kx_cx (fun j => th (8 * i0 + j)) ps qs (fun j => kx_mm fr to (8 * i0 + j)) v) (kx_cy (fun j => th (8 * i0 + j)) ps qs (fun j => kx_mm fr to (8 * i0 + j)) v))) c_19).symm) _ _ hP hD hS _ (lv_sub hl [0, 2, 3, 4, 5, 6, 7, 8] rfl)
                    · refine lv_aload_n hx hb dX5_fit_322 rfl (lv_at hl 8 rfl) ?_
                      refine lv_iload hx hb dX5_fit_323 (lv_at hl 0 rfl) ?_
                      refine vp_callSd (W.runV (As := [.int (nI ((8 * i0) + j))]) (rest := []) ⟨hx, hb, hml, hown, hts⟩ (c_X5_middle l G (m0 := m0) (m1 := m1) (m2 := m2) (m3 := m3) (m4 := m4) (m5 := m5) (m6 := m6) (m7 := m7) (m8 := m8) (m9 := m9) (m10 := m10) (m11 := m11) (m12 := m12) (n := n) (v := v) (tw := tw) (ps := ps) (qs := qs) (th := th) (fr := fr) (to := to) (kn := kn) (ft := ft) (fd := fd) (sh := sh) (ru := ru) (ki := ki) (li := li) (cl := cl) (kp := kp) (kx := kx) (ky := ky) (k9 := (8 * i0) + j) (hb_ps := hb_ps) (hb_qs := hb_qs) (hb_fr := hb_fr) (hb_to := hb_to) (hb_sh := hb_sh) (hb_kx := hb_kx) (hb_ky := hb_ky) (hk := (by omega))) (cwV 1 hts gX5_fit_X5_middle rfl rfl rfl (by decide +kernel) ⟨Nat.le_of_ble_eq_true rfl, Nat.le_of_ble_eq_true rfl⟩) ⟨kx_PRb, va_recv hT.1 hP (ci := 6) (q0 := 0) rfl rfl, kx_pr hT hP [0, 1, 2, 3, 4, 5, 6, 7, 8, 9, 10, 11, 12] rfl⟩ rfl rfl hl.1 rfl (lv_room (Nat.le_of_ble_eq_true rfl)) dX5_fit_325 ⟨Nat.zero_le _, Nat.zero_le _⟩) (fun r_20 hw_21 => ?_)
                      subst hw_21
                      refine lv_aload_n hx hb dX5_fit_328 rfl (lv_at hl 8 rfl) ?_
                      refine va_get (D := G.1) (ci := 6) (v := .ref m1) (C := RX5) (T := TX5) (N := 19) hx hb hts hin_X5 hown hT.1 hP 0 rfl rfl 3 (by decide) hf_7 (fun _ h9 => h9) rfl dX5_fit_329 ?_
                      refine lv_iload hx hb dX5_fit_332 (lv_at hl 1 rfl) ?_
                      refine kx_dald hx hb hT hP 1 rfl j (by omega) (by omega) dX5_fit_334 ?_
                      refine lv_dload hx hb dX5_fit_335 (lv_at hl 4 rfl) ?_
                      refine lv_dmul hx hb dX5_fit_337 (fx_bd.mul (hb_ps j) (kx_cx_bd hb_ps hb_qs (fun j => kx_mid_bd (hb_fr (8 * i0 + j)) (hb_to (8 * i0 + j))) hv hok) (by omega)).n ?_
                      refine lv_dsub hx hb dX5_fit_338 (fx_bd.sub (kx_mid_bd (hb_fr ((8 * i0) + j)) (hb_to ((8 * i0) + j))) (fx_bd.mul (hb_ps j) (kx_cx_bd hb_ps hb_qs (fun j => kx_mid_bd (hb_fr (8 * i0 + j)) (hb_to (8 * i0 + j))) hv hok) (by omega)) (by omega)).n ?_
                      refine lv_aload_n hx hb dX5_fit_339 rfl (lv_at hl 8 rfl) ?_
                      refine va_get (D := G.1) (ci := 6) (v := .ref m2) (C := RX5) (T := TX5) (N := 19) hx hb hts hin_X5 hown hT.1 hP 0 rfl rfl 4 (by decide) hf_13 (fun _ h9 => h9) rfl dX5_fit_340 ?_
                      refine lv_iload hx hb dX5_fit_343 (lv_at hl 1 rfl) ?_
                      refine kx_dald hx hb hT hP 2 rfl j (by omega) (by omega) dX5_fit_345 ?_
                      refine lv_dload hx hb dX5_fit_346 (lv_at hl 3 rfl) ?_
                      refine lv_dmul hx hb dX5_fit_348 (fx_bd.mul (hb_qs j) (kx_cy_bd hb_ps hb_qs (fun j => kx_mid_bd (hb_fr (8 * i0 + j)) (hb_to (8 * i0 + j))) hv hok) (by omega)).n ?_
                      refine lv_dsub hx hb dX5_fit_349 (fx_bd.sub (fx_bd.sub (kx_mid_bd (hb_fr ((8 * i0) + j)) (hb_to ((8 * i0) + j))) (fx_bd.mul (hb_ps j) (kx_cx_bd hb_ps hb_qs (fun j => kx_mid_bd (hb_fr (8 * i0 + j)) (hb_to (8 * i0 + j))) hv hok) (by omega)) (by omega)) (fx_bd.mul (hb_qs j) (kx_cy_bd hb_ps hb_qs (fun j => kx_mid_bd (hb_fr (8 * i0 + j)) (hb_to (8 * i0 + j))) hv hok) (by omega)) (by omega)).n ?_
                      refine lv_dstore (lv' := [(25, .double (FP.dsub (FP.dsub (kx_mm fr to ((8 * i0) + j)) (FP.dmul (ps j) (kx_cx (fun j => th (8 * i0 + j)) ps qs (fun j => kx_mm fr to (8 * i0 + j)) v))) (FP.dmul (qs j) (kx_cy (fun j => th (8 * i0 + j)) ps qs (fun j => kx_mm fr to (8 * i0 + j)) v)))), (24, .int (nI ((8 * i0) + j))), (23, .int (nI j)), (21, .double (kx_si (fun j => th (8 * i0 + j)) (fun j => kx_sqe (kx_mm fr to (8 * i0 + j)) (ps j) (qs j) (kx_cx (fun j => th (8 * i0 + j)) ps qs (fun j => kx_mm fr to (8 * i0 + j)) v) (kx_cy (fun j => th (8 * i0 + j)) ps qs (fun j => kx_mm fr to (8 * i0 + j)) v)) j)), (19, .double (kx_cy (fun j => th (8 * i0 + j)) ps qs (fun j => kx_mm fr to (8 * i0 + j)) v)), (17, .double (kx_cx (fun j => th (8 * i0 + j)) ps qs (fun j => kx_mm fr to (8 * i0 + j)) v)), (14, .int (nI (kx_cn (fun j => th (8 * i0 + j)) v))), (12, .double (kx_si (fun j => th (8 * i0 + j)) (fun j => FP.ddiv (kx_hh fr to (8 * i0 + j)) (kx_root (kx_sq (ps j) (qs j)))) v)), (1, .int (nI i0)), (0, .ref m0)]) hx hb dX5_fit_350 hl (by decide) rfl (fun ls hl => ?_)
                      refine lv_dload hx hb dX5_fit_352 (lv_at hl 3 rfl) ?_
                      refine lv_dload hx hb dX5_fit_354 (lv_at hl 0 rfl) ?_
                      refine lv_dload hx hb dX5_fit_356 (lv_at hl 0 rfl) ?_
                      refine lv_dmul hx hb dX5_fit_358 (fx_bd.mul (fx_bd.sub (fx_bd.sub (kx_mid_bd (hb_fr ((8 * i0) + j)) (hb_to ((8 * i0) + j))) (fx_bd.mul (hb_ps j) (kx_cx_bd hb_ps hb_qs (fun j => kx_mid_bd (hb_fr (8 * i0 + j)) (hb_to (8 * i0 + j))) hv hok) (by omega)) (by omega)) (fx_bd.mul (hb_qs j) (kx_cy_bd hb_ps hb_qs (fun j => kx_mid_bd (hb_fr (8 * i0 + j)) (hb_to (8 * i0 + j))) hv hok) (by omega)) (by omega)) (fx_bd.sub (fx_bd.sub (kx_mid_bd (hb_fr ((8 * i0) + j)) (hb_to ((8 * i0) + j))) (fx_bd.mul (hb_ps j) (kx_cx_bd hb_ps hb_qs (fun j => kx_mid_bd (hb_fr (8 * i0 + j)) (hb_to (8 * i0 + j))) hv hok) (by omega)) (by omega)) (fx_bd.mul (hb_qs j) (kx_cy_bd hb_ps hb_qs (fun j => kx_mid_bd (hb_fr (8 * i0 + j)) (hb_to (8 * i0 + j))) hv hok) (by omega)) (by omega)) (by omega)).n ?_
                      refine lv_dadd hx hb dX5_fit_359 (fx_bd.add (kx_si_bd (K := 201) (fun j => kx_sqe_bd (kx_mid_bd (hb_fr (8 * i0 + j)) (hb_to (8 * i0 + j))) (hb_ps j) (hb_qs j) (kx_cx_bd hb_ps hb_qs (fun j => kx_mid_bd (hb_fr (8 * i0 + j)) (hb_to (8 * i0 + j))) hv hok) (kx_cy_bd hb_ps hb_qs (fun j => kx_mid_bd (hb_fr (8 * i0 + j)) (hb_to (8 * i0 + j))) hv hok)) j (by omega)) (fx_bd.mul (fx_bd.sub (fx_bd.sub (kx_mid_bd (hb_fr ((8 * i0) + j)) (hb_to ((8 * i0) + j))) (fx_bd.mul (hb_ps j) (kx_cx_bd hb_ps hb_qs (fun j => kx_mid_bd (hb_fr (8 * i0 + j)) (hb_to (8 * i0 + j))) hv hok) (by omega)) (by omega)) (fx_bd.mul (hb_qs j) (kx_cy_bd hb_ps hb_qs (fun j => kx_mid_bd (hb_fr (8 * i0 + j)) (hb_to (8 * i0 + j))) hv hok) (by omega)) (by omega)) (fx_bd.sub (fx_bd.sub (kx_mid_bd (hb_fr ((8 * i0) + j)) (hb_to ((8 * i0) + j))) (fx_bd.mul (hb_ps j) (kx_cx_bd hb_ps hb_qs (fun j => kx_mid_bd (hb_fr (8 * i0 + j)) (hb_to (8 * i0 + j))) hv hok) (by omega)) (by omega)) (fx_bd.mul (hb_qs j) (kx_cy_bd hb_ps hb_qs (fun j => kx_mid_bd (hb_fr (8 * i0 + j)) (hb_to (8 * i0 + j))) hv hok) (by omega)) (by omega)) (by omega)) (by omega)).n ?_
                      refine lv_dstore (lv' := [(21, .double (FP.dadd (kx_si (fun j => th (8 * i0 + j)) (fun j => kx_sqe (kx_mm fr to (8 * i0 + j)) (ps j) (qs j) (kx_cx (fun j => th (8 * i0 + j)) ps qs (fun j => kx_mm fr to (8 * i0 + j)) v) (kx_cy (fun j => th (8 * i0 + j)) ps qs (fun j => kx_mm fr to (8 * i0 + j)) v)) j) (FP.dmul (FP.dsub (FP.dsub (kx_mm fr to ((8 * i0) + j)) (FP.dmul (ps j) (kx_cx (fun j => th (8 * i0 + j)) ps qs (fun j => kx_mm fr to (8 * i0 + j)) v))) (FP.dmul (qs j) (kx_cy (fun j => th (8 * i0 + j)) ps qs (fun j => kx_mm fr to (8 * i0 + j)) v))) (FP.dsub (FP.dsub (kx_mm fr to ((8 * i0) + j)) (FP.dmul (ps j) (kx_cx (fun j => th (8 * i0 + j)) ps qs (fun j => kx_mm fr to (8 * i0 + j)) v))) (FP.dmul (qs j) (kx_cy (fun j => th (8 * i0 + j)) ps qs (fun j => kx_mm fr to (8 * i0 + j)) v)))))), (25, .double (FP.dsub (FP.dsub (kx_mm fr to ((8 * i0) + j)) (FP.dmul (ps j) (kx_cx (fun j => th (8 * i0 + j)) ps qs (fun j => kx_mm fr to (8 * i0 + j)) v))) (FP.dmul (qs j) (kx_cy (fun j => th (8 * i0 + j)) ps qs (fun j => kx_mm fr to (8 * i0 + j)) v)))), (24, .int (nI ((8 * i0) + j))), (23, .int (nI j)), (19, .double (kx_cy (fun j => th (8 * i0 + j)) ps qs (fun j => kx_mm fr to (8 * i0 + j)) v)), (17, .double (kx_cx (fun j => th (8 * i0 + j)) ps qs (fun j => kx_mm fr to (8 * i0 + j)) v)), (14, .int (nI (kx_cn (fun j => th (8 * i0 + j)) v))), (12, .double (kx_si (fun j => th (8 * i0 + j)) (fun j => FP.ddiv (kx_hh fr to (8 * i0 + j)) (kx_root (kx_sq (ps j) (qs j)))) v)), (1, .int (nI i0)), (0, .ref m0)]) hx hb dX5_fit_360 hl (by decide) rfl (fun ls hl => ?_)
                      refine lv_iinc (v := nI (j + 1)) (lv' := [(23, .int (nI (j + 1))), (21, .double (FP.dadd (kx_si (fun j => th (8 * i0 + j)) (fun j => kx_sqe (kx_mm fr to (8 * i0 + j)) (ps j) (qs j) (kx_cx (fun j => th (8 * i0 + j)) ps qs (fun j => kx_mm fr to (8 * i0 + j)) v) (kx_cy (fun j => th (8 * i0 + j)) ps qs (fun j => kx_mm fr to (8 * i0 + j)) v)) j) (FP.dmul (FP.dsub (FP.dsub (kx_mm fr to ((8 * i0) + j)) (FP.dmul (ps j) (kx_cx (fun j => th (8 * i0 + j)) ps qs (fun j => kx_mm fr to (8 * i0 + j)) v))) (FP.dmul (qs j) (kx_cy (fun j => th (8 * i0 + j)) ps qs (fun j => kx_mm fr to (8 * i0 + j)) v))) (FP.dsub (FP.dsub (kx_mm fr to ((8 * i0) + j)) (FP.dmul (ps j) (kx_cx (fun j => th (8 * i0 + j)) ps qs (fun j => kx_mm fr to (8 * i0 + j)) v))) (FP.dmul (qs j) (kx_cy (fun j => th (8 * i0 + j)) ps qs (fun j => kx_mm fr to (8 * i0 + j)) v)))))), (25, .double (FP.dsub (FP.dsub (kx_mm fr to ((8 * i0) + j)) (FP.dmul (ps j) (kx_cx (fun j => th (8 * i0 + j)) ps qs (fun j => kx_mm fr to (8 * i0 + j)) v))) (FP.dmul (qs j) (kx_cy (fun j => th (8 * i0 + j)) ps qs (fun j => kx_mm fr to (8 * i0 + j)) v)))), (24, .int (nI ((8 * i0) + j))), (19, .double (kx_cy (fun j => th (8 * i0 + j)) ps qs (fun j => kx_mm fr to (8 * i0 + j)) v)), (17, .double (kx_cx (fun j => th (8 * i0 + j)) ps qs (fun j => kx_mm fr to (8 * i0 + j)) v)), (14, .int (nI (kx_cn (fun j => th (8 * i0 + j)) v))), (12, .double (kx_si (fun j => th (8 * i0 + j)) (fun j => FP.ddiv (kx_hh fr to (8 * i0 + j)) (kx_root (kx_sq (ps j) (qs j)))) v)), (1, .int (nI i0)), (0, .ref m0)]) hx hb dX5_fit_362 hl (k := 3) rfl (by show _ + 1 = _; exact nI_1 _) (by decide) rfl (fun ls hl => ?_)
                      refine lv_goto (tgt := 294) hx hb dX5_fit_365 (by decide) ?_
                      exact ih (j + 1) _ (by omega) ((kx_si_t (th := (fun j => th (8 * i0 + j))) (g := (fun j => kx_sqe (kx_mm fr to (8 * i0 + j)) (ps j) (qs j) (kx_cx (fun j => th (8 * i0 + j)) ps qs (fun j => kx_mm fr to (8 * i0 + j)) v) (kx_cy (fun j => th (8 * i0 + j)) ps qs (fun j => kx_mm fr to (8 * i0 + j)) v))) c_19).symm) _ _ hP hD hS _ (lv_sub hl [0, 1, 4, 5, 6, 7, 8, 9] rfl)
              exact loop_294 v 0 _ (by omega) rfl _ _ hP hD hS _ (lv_sub hl [0, 1, 2, 3, 5, 6, 12, 13] rfl)
            · refine lv_iconst (v := 0) hx hb dX5_fit_255 (by decide) ?_
              exact W.zret (v := 0) hx hb hr rfl (fun t ht hW => ⟨⟨0, sh, rfl, Or.inl ⟨fun q => (kx_ok_1 c_3).mp q.2 c_13, rfl, rfl⟩, And.intro (by rw [ht]; exact hP) hD⟩, hS.F ht⟩) hS.2.2 dX5_fit_256
      · have c_1 : ¬ v ≤ v := fun q => c_1 ((nI_leI (a := v) (b := v) (by omega) (by omega)).mpr q)
        exact absurd (Nat.le_refl v) c_1
    | succ k ih =>
      intro i a b c9 d e9 w9 mn htot e_a e_b e_c9 e_d e_e9 e_w9 e_mn H locs hP hD hS ls hl
      subst e_a
      subst e_b
      subst e_c9
      subst e_d
      subst e_e9
      subst e_w9
      subst e_mn
      refine lv_iload hx hb dX5_fit_23 (lv_at hl 0 rfl) ?_
      refine lv_aload_n hx hb dX5_fit_25 rfl (lv_at hl 9 rfl) ?_
      refine va_get (D := G.1) (ci := 6) (v := .int (nI v)) (C := RX5) (T := TX5) (N := 19) hx hb hts hin_X5 hown hT.1 hP 0 rfl rfl 2 (by decide) hf_52 (fun _ h9 => h9) rfl dX5_fit_26 ?_
      refine lv_icmp_ge (x := nI i) (y := nI v) (tgt := 215) hx hb dX5_fit_29 (by decide) (fun c_22 => ?_) (fun c_22 => ?_)
      · have c_22 : v ≤ i := (nI_leI (a := v) (b := i) (by omega) (by omega)).mp c_22
        exfalso; omega
      · have c_22 : ¬ v ≤ i := fun q => c_22 ((nI_leI (a := v) (b := i) (by omega) (by omega)).mpr q)
        refine lv_bipush (v := 8) hx hb dX5_fit_32 (by decide) ?_
        refine lv_iload_n hx hb dX5_fit_34 rfl (lv_at hl 8 rfl) ?_
        refine lv_imul hx hb dX5_fit_35 ?_
        refine kx_ei (y := nI (8 * i0)) (pk_mul 8 i0) ?_
        refine lv_iload hx hb dX5_fit_36 (lv_at hl 0 rfl) ?_
        refine lv_iadd hx hb dX5_fit_38 ?_
        refine kx_ei (y := nI ((8 * i0) + i)) (nI_add (8 * i0) i) ?_
        refine lv_istore (lv' := [(16, .int (nI ((8 * i0) + i))), (15, .int (nI i)), (14, .int (nI (kx_cn (fun j => th (8 * i0 + j)) i))), (12, .double (kx_si (fun j => th (8 * i0 + j)) (fun j => FP.ddiv (kx_hh fr to (8 * i0 + j)) (kx_root (kx_sq (ps j) (qs j)))) i)), (10, .double (kx_S2 (fun j => th (8 * i0 + j)) qs (fun j => kx_mm fr to (8 * i0 + j)) i)), (8, .double (kx_S2 (fun j => th (8 * i0 + j)) ps (fun j => kx_mm fr to (8 * i0 + j)) i)), (6, .double (kx_S2 (fun j => th (8 * i0 + j)) qs qs i)), (4, .double (kx_S2 (fun j => th (8 * i0 + j)) ps qs i)), (2, .double (kx_S2 (fun j => th (8 * i0 + j)) ps ps i)), (1, .int (nI i0)), (0, .ref m0)]) hx hb dX5_fit_39 hl (by decide) rfl (fun ls hl => ?_)
        refine lv_aload_n hx hb dX5_fit_41 rfl (lv_at hl 10 rfl) ?_
        refine va_get (D := G.1) (ci := 6) (v := .ref m3) (C := RX5) (T := TX5) (N := 19) hx hb hts hin_X5 hown hT.1 hP 0 rfl rfl 5 (by decide) hf_16 (fun _ h9 => h9) rfl dX5_fit_42 ?_
        refine lv_iload hx hb dX5_fit_45 (lv_at hl 0 rfl) ?_
        refine kx_zald hx hb hT hP 3 rfl ((8 * i0) + i) (by omega) (by omega) dX5_fit_47 ?_
        refine lv_if_eq (x := th ((8 * i0) + i)) (tgt := 209) hx hb dX5_fit_48 (by decide) (fun c_23 => ?_) (fun c_23 => ?_)
        · refine lv_iinc (v := nI (i + 1)) (lv' := [(15, .int (nI (i + 1))), (16, .int (nI ((8 * i0) + i))), (14, .int (nI (kx_cn (fun j => th (8 * i0 + j)) i))), (12, .double (kx_si (fun j => th (8 * i0 + j)) (fun j => FP.ddiv (kx_hh fr to (8 * i0 + j)) (kx_root (kx_sq (ps j) (qs j)))) i)), (10, .double (kx_S2 (fun j => th (8 * i0 + j)) qs (fun j => kx_mm fr to (8 * i0 + j)) i)), (8, .double (kx_S2 (fun j => th (8 * i0 + j)) ps (fun j => kx_mm fr to (8 * i0 + j)) i)), (6, .double (kx_S2 (fun j => th (8 * i0 + j)) qs qs i)), (4, .double (kx_S2 (fun j => th (8 * i0 + j)) ps qs i)), (2, .double (kx_S2 (fun j => th (8 * i0 + j)) ps ps i)), (1, .int (nI i0)), (0, .ref m0)]) hx hb dX5_fit_209 hl (k := 1) rfl (by show _ + 1 = _; exact nI_1 _) (by decide) rfl (fun ls hl => ?_)
          refine lv_goto (tgt := 23) hx hb dX5_fit_212 (by decide) ?_
          exact ih (i + 1) _ _ _ _ _ _ _ (by omega) ((kx_S2_f (th := (fun j => th (8 * i0 + j))) (f := ps) (g := ps) c_23).symm) ((kx_S2_f (th := (fun j => th (8 * i0 + j))) (f := ps) (g := qs) c_23).symm) ((kx_S2_f (th := (fun j => th (8 * i0 + j))) (f := qs) (g := qs) c_23).symm) ((kx_S2_f (th := (fun j => th (8 * i0 + j))) (f := ps) (g := (fun j => kx_mm fr to (8 * i0 + j))) c_23).symm) ((kx_S2_f (th := (fun j => th (8 * i0 + j))) (f := qs) (g := (fun j => kx_mm fr to (8 * i0 + j))) c_23).symm) ((kx_si_f (th := (fun j => th (8 * i0 + j))) (g := (fun j => FP.ddiv (kx_hh fr to (8 * i0 + j)) (kx_root (kx_sq (ps j) (qs j))))) c_23).symm) ((kx_cn_f (th := (fun j => th (8 * i0 + j))) c_23).symm) _ _ hP hD hS _ (lv_sub hl [0, 2, 3, 4, 5, 6, 7, 8, 9, 10] rfl)
        · refine lv_dload_n hx hb dX5_fit_51 rfl (lv_at hl 8 rfl) ?_
          refine lv_aload_n hx hb dX5_fit_52 rfl (lv_at hl 10 rfl) ?_
          refine va_get (D := G.1) (ci := 6) (v := .ref m1) (C := RX5) (T := TX5) (N := 19) hx hb hts hin_X5 hown hT.1 hP 0 rfl rfl 3 (by decide) hf_7 (fun _ h9 => h9) rfl dX5_fit_53 ?_
          refine lv_iload hx hb dX5_fit_56 (lv_at hl 1 rfl) ?_
          refine kx_dald hx hb hT hP 1 rfl i (by omega) (by omega) dX5_fit_58 ?_
          refine lv_aload_n hx hb dX5_fit_59 rfl (lv_at hl 10 rfl) ?_
          refine va_get (D := G.1) (ci := 6) (v := .ref m1) (C := RX5) (T := TX5) (N := 19) hx hb hts hin_X5 hown hT.1 hP 0 rfl rfl 3 (by decide) hf_7 (fun _ h9 => h9) rfl dX5_fit_60 ?_
          refine lv_iload hx hb dX5_fit_63 (lv_at hl 1 rfl) ?_
          refine kx_dald hx hb hT hP 1 rfl i (by omega) (by omega) dX5_fit_65 ?_
          refine lv_dmul hx hb dX5_fit_66 (fx_bd.mul (hb_ps i) (hb_ps i) (by omega)).n ?_
          refine lv_dadd hx hb dX5_fit_67 (fx_bd.add (kx_S2_bd (th := (fun j => th (8 * i0 + j))) (f := ps) (g := ps) hb_ps hb_ps i (by omega)) (fx_bd.mul (hb_ps i) (hb_ps i) (by omega)) (by omega)).n ?_
          refine lv_dstore_n (lv' := [(2, .double (FP.dadd (kx_S2 (fun j => th (8 * i0 + j)) ps ps i) (FP.dmul (ps i) (ps i)))), (16, .int (nI ((8 * i0) + i))), (15, .int (nI i)), (14, .int (nI (kx_cn (fun j => th (8 * i0 + j)) i))), (12, .double (kx_si (fun j => th (8 * i0 + j)) (fun j => FP.ddiv (kx_hh fr to (8 * i0 + j)) (kx_root (kx_sq (ps j) (qs j)))) i)), (10, .double (kx_S2 (fun j => th (8 * i0 + j)) qs (fun j => kx_mm fr to (8 * i0 + j)) i)), (8, .double (kx_S2 (fun j => th (8 * i0 + j)) ps (fun j => kx_mm fr to (8 * i0 + j)) i)), (6, .double (kx_S2 (fun j => th (8 * i0 + j)) qs qs i)), (4, .double (kx_S2 (fun j => th (8 * i0 + j)) ps qs i)), (1, .int (nI i0)), (0, .ref m0)]) hx hb dX5_fit_68 rfl hl (by decide) rfl (fun ls hl => ?_)
          refine lv_dload hx hb dX5_fit_69 (lv_at hl 8 rfl) ?_
          refine lv_aload_n hx hb dX5_fit_71 rfl (lv_at hl 10 rfl) ?_
          refine va_get (D := G.1) (ci := 6) (v := .ref m1) (C := RX5) (T := TX5) (N := 19) hx hb hts hin_X5 hown hT.1 hP 0 rfl rfl 3 (by decide) hf_7 (fun _ h9 => h9) rfl dX5_fit_72 ?_
          refine lv_iload hx hb dX5_fit_75 (lv_at hl 2 rfl) ?_
          refine kx_dald hx hb hT hP 1 rfl i (by omega) (by omega) dX5_fit_77 ?_
          refine lv_aload_n hx hb dX5_fit_78 rfl (lv_at hl 10 rfl) ?_
          refine va_get (D := G.1) (ci := 6) (v := .ref m2) (C := RX5) (T := TX5) (N := 19) hx hb hts hin_X5 hown hT.1 hP 0 rfl rfl 4 (by decide) hf_13 (fun _ h9 => h9) rfl dX5_fit_79 ?_
          refine lv_iload hx hb dX5_fit_82 (lv_at hl 2 rfl) ?_
          refine kx_dald hx hb hT hP 2 rfl i (by omega) (by omega) dX5_fit_84 ?_
          refine lv_dmul hx hb dX5_fit_85 (fx_bd.mul (hb_ps i) (hb_qs i) (by omega)).n ?_
          refine lv_dadd hx hb dX5_fit_86 (fx_bd.add (kx_S2_bd (th := (fun j => th (8 * i0 + j))) (f := ps) (g := qs) hb_ps hb_qs i (by omega)) (fx_bd.mul (hb_ps i) (hb_qs i) (by omega)) (by omega)).n ?_
          refine lv_dstore (lv' := [(4, .double (FP.dadd (kx_S2 (fun j => th (8 * i0 + j)) ps qs i) (FP.dmul (ps i) (qs i)))), (2, .double (FP.dadd (kx_S2 (fun j => th (8 * i0 + j)) ps ps i) (FP.dmul (ps i) (ps i)))), (16, .int (nI ((8 * i0) + i))), (15, .int (nI i)), (14, .int (nI (kx_cn (fun j => th (8 * i0 + j)) i))), (12, .double (kx_si (fun j => th (8 * i0 + j)) (fun j => FP.ddiv (kx_hh fr to (8 * i0 + j)) (kx_root (kx_sq (ps j) (qs j)))) i)), (10, .double (kx_S2 (fun j => th (8 * i0 + j)) qs (fun j => kx_mm fr to (8 * i0 + j)) i)), (8, .double (kx_S2 (fun j => th (8 * i0 + j)) ps (fun j => kx_mm fr to (8 * i0 + j)) i)), (6, .double (kx_S2 (fun j => th (8 * i0 + j)) qs qs i)), (1, .int (nI i0)), (0, .ref m0)]) hx hb dX5_fit_87 hl (by decide) rfl (fun ls hl => ?_)
          refine lv_dload hx hb dX5_fit_89 (lv_at hl 8 rfl) ?_
          refine lv_aload_n hx hb dX5_fit_91 rfl (lv_at hl 10 rfl) ?_
          refine va_get (D := G.1) (ci := 6) (v := .ref m2) (C := RX5) (T := TX5) (N := 19) hx hb hts hin_X5 hown hT.1 hP 0 rfl rfl 4 (by decide) hf_13 (fun _ h9 => h9) rfl dX5_fit_92 ?_
          refine lv_iload hx hb dX5_fit_95 (lv_at hl 3 rfl) ?_
          refine kx_dald hx hb hT hP 2 rfl i (by omega) (by omega) dX5_fit_97 ?_
          refine lv_aload_n hx hb dX5_fit_98 rfl (lv_at hl 10 rfl) ?_
          refine va_get (D := G.1) (ci := 6) (v := .ref m2) (C := RX5) (T := TX5) (N := 19) hx hb hts hin_X5 hown hT.1 hP 0 rfl rfl 4 (by decide) hf_13 (fun _ h9 => h9) rfl dX5_fit_99 ?_
          refine lv_iload hx hb dX5_fit_102 (lv_at hl 3 rfl) ?_
          refine kx_dald hx hb hT hP 2 rfl i (by omega) (by omega) dX5_fit_104 ?_
          refine lv_dmul hx hb dX5_fit_105 (fx_bd.mul (hb_qs i) (hb_qs i) (by omega)).n ?_
          refine lv_dadd hx hb dX5_fit_106 (fx_bd.add (kx_S2_bd (th := (fun j => th (8 * i0 + j))) (f := qs) (g := qs) hb_qs hb_qs i (by omega)) (fx_bd.mul (hb_qs i) (hb_qs i) (by omega)) (by omega)).n ?_
          refine lv_dstore (lv' := [(6, .double (FP.dadd (kx_S2 (fun j => th (8 * i0 + j)) qs qs i) (FP.dmul (qs i) (qs i)))), (4, .double (FP.dadd (kx_S2 (fun j => th (8 * i0 + j)) ps qs i) (FP.dmul (ps i) (qs i)))), (2, .double (FP.dadd (kx_S2 (fun j => th (8 * i0 + j)) ps ps i) (FP.dmul (ps i) (ps i)))), (16, .int (nI ((8 * i0) + i))), (15, .int (nI i)), (14, .int (nI (kx_cn (fun j => th (8 * i0 + j)) i))), (12, .double (kx_si (fun j => th (8 * i0 + j)) (fun j => FP.ddiv (kx_hh fr to (8 * i0 + j)) (kx_root (kx_sq (ps j) (qs j)))) i)), (10, .double (kx_S2 (fun j => th (8 * i0 + j)) qs (fun j => kx_mm fr to (8 * i0 + j)) i)), (8, .double (kx_S2 (fun j => th (8 * i0 + j)) ps (fun j => kx_mm fr to (8 * i0 + j)) i)), (1, .int (nI i0)), (0, .ref m0)]) hx hb dX5_fit_107 hl (by decide) rfl (fun ls hl => ?_)
          refine lv_dload hx hb dX5_fit_109 (lv_at hl 8 rfl) ?_
          refine lv_aload_n hx hb dX5_fit_111 rfl (lv_at hl 10 rfl) ?_
          refine va_get (D := G.1) (ci := 6) (v := .ref m1) (C := RX5) (T := TX5) (N := 19) hx hb hts hin_X5 hown hT.1 hP 0 rfl rfl 3 (by decide) hf_7 (fun _ h9 => h9) rfl dX5_fit_112 ?_
          refine lv_iload hx hb dX5_fit_115 (lv_at hl 4 rfl) ?_
          refine kx_dald hx hb hT hP 1 rfl i (by omega) (by omega) dX5_fit_117 ?_
          refine lv_aload_n hx hb dX5_fit_118 rfl (lv_at hl 10 rfl) ?_
          refine lv_iload hx hb dX5_fit_119 (lv_at hl 3 rfl) ?_
          refine vp_callSd (W.runV (As := [.int (nI ((8 * i0) + i))]) (rest := [.double (ps i), .double (kx_S2 (fun j => th (8 * i0 + j)) ps (fun j => kx_mm fr to (8 * i0 + j)) i)]) ⟨hx, hb, hml, hown, hts⟩ (c_X5_middle l G (m0 := m0) (m1 := m1) (m2 := m2) (m3 := m3) (m4 := m4) (m5 := m5) (m6 := m6) (m7 := m7) (m8 := m8) (m9 := m9) (m10 := m10) (m11 := m11) (m12 := m12) (n := n) (v := v) (tw := tw) (ps := ps) (qs := qs) (th := th) (fr := fr) (to := to) (kn := kn) (ft := ft) (fd := fd) (sh := sh) (ru := ru) (ki := ki) (li := li) (cl := cl) (kp := kp) (kx := kx) (ky := ky) (k9 := (8 * i0) + i) (hb_ps := hb_ps) (hb_qs := hb_qs) (hb_fr := hb_fr) (hb_to := hb_to) (hb_sh := hb_sh) (hb_kx := hb_kx) (hb_ky := hb_ky) (hk := (by omega))) (cwV 1 hts gX5_fit_X5_middle rfl rfl rfl (by decide +kernel) ⟨Nat.le_of_ble_eq_true rfl, Nat.le_of_ble_eq_true rfl⟩) ⟨kx_PRb, va_recv hT.1 hP (ci := 6) (q0 := 0) rfl rfl, kx_pr hT hP [0, 1, 2, 3, 4, 5, 6, 7, 8, 9, 10, 11, 12] rfl⟩ rfl rfl hl.1 rfl (lv_room (Nat.le_of_ble_eq_true rfl)) dX5_fit_121 ⟨Nat.zero_le _, Nat.zero_le _⟩) (fun r_24 hw_25 => ?_)
          subst hw_25
          refine lv_dmul hx hb dX5_fit_124 (fx_bd.mul (hb_ps i) (kx_mid_bd (hb_fr ((8 * i0) + i)) (hb_to ((8 * i0) + i))) (by omega)).n ?_
          refine lv_dadd hx hb dX5_fit_125 (fx_bd.add (kx_S2_bd (th := (fun j => th (8 * i0 + j))) (f := ps) (g := (fun j => kx_mm fr to (8 * i0 + j))) hb_ps (fun j => kx_mid_bd (hb_fr (8 * i0 + j)) (hb_to (8 * i0 + j))) i (by omega)) (fx_bd.mul (hb_ps i) (kx_mid_bd (hb_fr ((8 * i0) + i)) (hb_to ((8 * i0) + i))) (by omega)) (by omega)).n ?_
          refine lv_dstore (lv' := [(8, .double (FP.dadd (kx_S2 (fun j => th (8 * i0 + j)) ps (fun j => kx_mm fr to (8 * i0 + j)) i) (FP.dmul (ps i) (kx_mm fr to ((8 * i0) + i))))), (6, .double (FP.dadd (kx_S2 (fun j => th (8 * i0 + j)) qs qs i) (FP.dmul (qs i) (qs i)))), (4, .double (FP.dadd (kx_S2 (fun j => th (8 * i0 + j)) ps qs i) (FP.dmul (ps i) (qs i)))), (2, .double (FP.dadd (kx_S2 (fun j => th (8 * i0 + j)) ps ps i) (FP.dmul (ps i) (ps i)))), (16, .int (nI ((8 * i0) + i))), (15, .int (nI i)), (14, .int (nI (kx_cn (fun j => th (8 * i0 + j)) i))), (12, .double (kx_si (fun j => th (8 * i0 + j)) (fun j => FP.ddiv (kx_hh fr to (8 * i0 + j)) (kx_root (kx_sq (ps j) (qs j)))) i)), (10, .double (kx_S2 (fun j => th (8 * i0 + j)) qs (fun j => kx_mm fr to (8 * i0 + j)) i)), (1, .int (nI i0)), (0, .ref m0)]) hx hb dX5_fit_126 hl (by decide) rfl (fun ls hl => ?_)
          refine lv_dload hx hb dX5_fit_128 (lv_at hl 8 rfl) ?_
          refine lv_aload_n hx hb dX5_fit_130 rfl (lv_at hl 10 rfl) ?_
          refine va_get (D := G.1) (ci := 6) (v := .ref m2) (C := RX5) (T := TX5) (N := 19) hx hb hts hin_X5 hown hT.1 hP 0 rfl rfl 4 (by decide) hf_13 (fun _ h9 => h9) rfl dX5_fit_131 ?_
          refine lv_iload hx hb dX5_fit_134 (lv_at hl 5 rfl) ?_
          refine kx_dald hx hb hT hP 2 rfl i (by omega) (by omega) dX5_fit_136 ?_
          refine lv_aload_n hx hb dX5_fit_137 rfl (lv_at hl 10 rfl) ?_
          refine lv_iload hx hb dX5_fit_138 (lv_at hl 4 rfl) ?_
          refine vp_callSd (W.runV (As := [.int (nI ((8 * i0) + i))]) (rest := [.double (qs i), .double (kx_S2 (fun j => th (8 * i0 + j)) qs (fun j => kx_mm fr to (8 * i0 + j)) i)]) ⟨hx, hb, hml, hown, hts⟩ (c_X5_middle l G (m0 := m0) (m1 := m1) (m2 := m2) (m3 := m3) (m4 := m4) (m5 := m5) (m6 := m6) (m7 := m7) (m8 := m8) (m9 := m9) (m10 := m10) (m11 := m11) (m12 := m12) (n := n) (v := v) (tw := tw) (ps := ps) (qs := qs) (th := th) (fr := fr) (to := to) (kn := kn) (ft := ft) (fd := fd) (sh := sh) (ru := ru) (ki := ki) (li := li) (cl := cl) (kp := kp) (kx := kx) (ky := ky) (k9 := (8 * i0) + i) (hb_ps := hb_ps) (hb_qs := hb_qs) (hb_fr := hb_fr) (hb_to := hb_to) (hb_sh := hb_sh) (hb_kx := hb_kx) (hb_ky := hb_ky) (hk := (by omega))) (cwV 1 hts gX5_fit_X5_middle rfl rfl rfl (by decide +kernel) ⟨Nat.le_of_ble_eq_true rfl, Nat.le_of_ble_eq_true rfl⟩) ⟨kx_PRb, va_recv hT.1 hP (ci := 6) (q0 := 0) rfl rfl, kx_pr hT hP [0, 1, 2, 3, 4, 5, 6, 7, 8, 9, 10, 11, 12] rfl⟩ rfl rfl hl.1 rfl (lv_room (Nat.le_of_ble_eq_true rfl)) dX5_fit_140 ⟨Nat.zero_le _, Nat.zero_le _⟩) (fun r_26 hw_27 => ?_)
          subst hw_27
          refine lv_dmul hx hb dX5_fit_143 (fx_bd.mul (hb_qs i) (kx_mid_bd (hb_fr ((8 * i0) + i)) (hb_to ((8 * i0) + i))) (by omega)).n ?_
          refine lv_dadd hx hb dX5_fit_144 (fx_bd.add (kx_S2_bd (th := (fun j => th (8 * i0 + j))) (f := qs) (g := (fun j => kx_mm fr to (8 * i0 + j))) hb_qs (fun j => kx_mid_bd (hb_fr (8 * i0 + j)) (hb_to (8 * i0 + j))) i (by omega)) (fx_bd.mul (hb_qs i) (kx_mid_bd (hb_fr ((8 * i0) + i)) (hb_to ((8 * i0) + i))) (by omega)) (by omega)).n ?_
          refine lv_dstore (lv' := [(10, .double (FP.dadd (kx_S2 (fun j => th (8 * i0 + j)) qs (fun j => kx_mm fr to (8 * i0 + j)) i) (FP.dmul (qs i) (kx_mm fr to ((8 * i0) + i))))), (8, .double (FP.dadd (kx_S2 (fun j => th (8 * i0 + j)) ps (fun j => kx_mm fr to (8 * i0 + j)) i) (FP.dmul (ps i) (kx_mm fr to ((8 * i0) + i))))), (6, .double (FP.dadd (kx_S2 (fun j => th (8 * i0 + j)) qs qs i) (FP.dmul (qs i) (qs i)))), (4, .double (FP.dadd (kx_S2 (fun j => th (8 * i0 + j)) ps qs i) (FP.dmul (ps i) (qs i)))), (2, .double (FP.dadd (kx_S2 (fun j => th (8 * i0 + j)) ps ps i) (FP.dmul (ps i) (ps i)))), (16, .int (nI ((8 * i0) + i))), (15, .int (nI i)), (14, .int (nI (kx_cn (fun j => th (8 * i0 + j)) i))), (12, .double (kx_si (fun j => th (8 * i0 + j)) (fun j => FP.ddiv (kx_hh fr to (8 * i0 + j)) (kx_root (kx_sq (ps j) (qs j)))) i)), (1, .int (nI i0)), (0, .ref m0)]) hx hb dX5_fit_145 hl (by decide) rfl (fun ls hl => ?_)
          refine lv_dload hx hb dX5_fit_147 (lv_at hl 8 rfl) ?_
          refine lv_aload_n hx hb dX5_fit_149 rfl (lv_at hl 10 rfl) ?_
          refine va_get (D := G.1) (ci := 6) (v := .ref m5) (C := RX5) (T := TX5) (N := 19) hx hb hts hin_X5 hown hT.1 hP 0 rfl rfl 7 (by decide) hf_23 (fun _ h9 => h9) rfl dX5_fit_150 ?_
          refine lv_iload hx hb dX5_fit_153 (lv_at hl 5 rfl) ?_
          refine kx_dald hx hb hT hP 5 rfl ((8 * i0) + i) (by omega) (by omega) dX5_fit_155 ?_
          refine lv_aload_n hx hb dX5_fit_156 rfl (lv_at hl 10 rfl) ?_
          refine va_get (D := G.1) (ci := 6) (v := .ref m4) (C := RX5) (T := TX5) (N := 19) hx hb hts hin_X5 hown hT.1 hP 0 rfl rfl 6 (by decide) hf_20 (fun _ h9 => h9) rfl dX5_fit_157 ?_
          refine lv_iload hx hb dX5_fit_160 (lv_at hl 5 rfl) ?_
          refine kx_dald hx hb hT hP 4 rfl ((8 * i0) + i) (by omega) (by omega) dX5_fit_162 ?_
          refine lv_dsub hx hb dX5_fit_163 (fx_bd.sub (hb_to ((8 * i0) + i)) (hb_fr ((8 * i0) + i)) (by omega)).n ?_
          refine lv_ldc2d (v := 4611686018427387904) hx hb hown hc_81 dX5_fit_164 ?_
          refine lv_ddiv hx hb dX5_fit_167 (fx_bd.div (fx_bd.sub (hb_to ((8 * i0) + i)) (hb_fr ((8 * i0) + i)) (by omega)) fx_2l.lb (by omega)).n ?_
          refine lv_aload_n hx hb dX5_fit_168 rfl (lv_at hl 10 rfl) ?_
          refine va_get (D := G.1) (ci := 6) (v := .ref m1) (C := RX5) (T := TX5) (N := 19) hx hb hts hin_X5 hown hT.1 hP 0 rfl rfl 3 (by decide) hf_7 (fun _ h9 => h9) rfl dX5_fit_169 ?_
          refine lv_iload hx hb dX5_fit_172 (lv_at hl 6 rfl) ?_
          refine kx_dald hx hb hT hP 1 rfl i (by omega) (by omega) dX5_fit_174 ?_
          refine lv_aload_n hx hb dX5_fit_175 rfl (lv_at hl 10 rfl) ?_
          refine va_get (D := G.1) (ci := 6) (v := .ref m1) (C := RX5) (T := TX5) (N := 19) hx hb hts hin_X5 hown hT.1 hP 0 rfl rfl 3 (by decide) hf_7 (fun _ h9 => h9) rfl dX5_fit_176 ?_
          refine lv_iload hx hb dX5_fit_179 (lv_at hl 6 rfl) ?_
          refine kx_dald hx hb hT hP 1 rfl i (by omega) (by omega) dX5_fit_181 ?_
          refine lv_dmul hx hb dX5_fit_182 (fx_bd.mul (hb_ps i) (hb_ps i) (by omega)).n ?_
          refine lv_aload_n hx hb dX5_fit_183 rfl (lv_at hl 10 rfl) ?_
          refine va_get (D := G.1) (ci := 6) (v := .ref m2) (C := RX5) (T := TX5) (N := 19) hx hb hts hin_X5 hown hT.1 hP 0 rfl rfl 4 (by decide) hf_13 (fun _ h9 => h9) rfl dX5_fit_184 ?_
          refine lv_iload hx hb dX5_fit_187 (lv_at hl 6 rfl) ?_
          refine kx_dald hx hb hT hP 2 rfl i (by omega) (by omega) dX5_fit_189 ?_
          refine lv_aload_n hx hb dX5_fit_190 rfl (lv_at hl 10 rfl) ?_
          refine va_get (D := G.1) (ci := 6) (v := .ref m2) (C := RX5) (T := TX5) (N := 19) hx hb hts hin_X5 hown hT.1 hP 0 rfl rfl 4 (by decide) hf_13 (fun _ h9 => h9) rfl dX5_fit_191 ?_
          refine lv_iload hx hb dX5_fit_194 (lv_at hl 6 rfl) ?_
          refine kx_dald hx hb hT hP 2 rfl i (by omega) (by omega) dX5_fit_196 ?_
          refine lv_dmul hx hb dX5_fit_197 (fx_bd.mul (hb_qs i) (hb_qs i) (by omega)).n ?_
          refine lv_dadd hx hb dX5_fit_198 (fx_bd.add (fx_bd.mul (hb_ps i) (hb_ps i) (by omega)) (fx_bd.mul (hb_qs i) (hb_qs i) (by omega)) (by omega)).n ?_
          refine vp_callSd (W.runS (As := [.double (FP.dadd (FP.dmul (ps i) (ps i)) (FP.dmul (qs i) (qs i)))]) (rest := [.double (FP.ddiv (FP.dsub (to ((8 * i0) + i)) (fr ((8 * i0) + i))) fx_2), .double (kx_si (fun j => th (8 * i0 + j)) (fun j => FP.ddiv (kx_hh fr to (8 * i0 + j)) (kx_root (kx_sq (ps j) (qs j)))) i)]) ⟨hx, hb, hml, hown, hts⟩ (c_X5_root l G (w := FP.dadd (FP.dmul (ps i) (ps i)) (FP.dmul (qs i) (qs i))) (hw_b := (kx_sq_bd (hb_ps i) (hb_qs i))) (hw_n := (kx_sq_nn (hb_ps i) (hb_qs i)))) (va_cwS 1 hts gX5_fit_X5_root rfl rfl rfl (by decide +kernel) ⟨Nat.le_of_ble_eq_true rfl, Nat.le_of_ble_eq_true rfl⟩) ⟨kx_PRb, kx_pr hT hP [] rfl⟩ rfl rfl hl.1 rfl (lv_room (Nat.le_of_ble_eq_true rfl)) dX5_fit_199 ⟨Nat.zero_le _, Nat.zero_le _⟩) (fun r_28 hw_29 => ?_)
          subst hw_29
          refine lv_ddiv hx hb dX5_fit_202 (fx_bd.div (fx_bd.div (fx_bd.sub (hb_to ((8 * i0) + i)) (hb_fr ((8 * i0) + i)) (by omega)) fx_2l.lb (by omega)) (kx_root_pl (kx_sq_nn (hb_ps i) (hb_qs i)) (kx_sq_bd (hb_ps i) (hb_qs i))).lb (by omega)).n ?_
          refine lv_dadd hx hb dX5_fit_203 (fx_bd.add (kx_si_bn (K := 76) (n := v) (fun j _ => (kx_hlf_bd (hb_fr (8 * i0 + j)) (hb_to (8 * i0 + j))).div (kx_root_pl (kx_sq_nn (hb_ps j) (hb_qs j)) (kx_sq_bd (hb_ps j) (hb_qs j))).lb (by omega)) i (by omega) (by omega)) (fx_bd.div (fx_bd.div (fx_bd.sub (hb_to ((8 * i0) + i)) (hb_fr ((8 * i0) + i)) (by omega)) fx_2l.lb (by omega)) (kx_root_pl (kx_sq_nn (hb_ps i) (hb_qs i)) (kx_sq_bd (hb_ps i) (hb_qs i))).lb (by omega)) (by omega)).n ?_
          refine lv_dstore (lv' := [(12, .double (FP.dadd (kx_si (fun j => th (8 * i0 + j)) (fun j => FP.ddiv (kx_hh fr to (8 * i0 + j)) (kx_root (kx_sq (ps j) (qs j)))) i) (FP.ddiv (FP.ddiv (FP.dsub (to ((8 * i0) + i)) (fr ((8 * i0) + i))) fx_2) (kx_root (FP.dadd (FP.dmul (ps i) (ps i)) (FP.dmul (qs i) (qs i))))))), (10, .double (FP.dadd (kx_S2 (fun j => th (8 * i0 + j)) qs (fun j => kx_mm fr to (8 * i0 + j)) i) (FP.dmul (qs i) (kx_mm fr to ((8 * i0) + i))))), (8, .double (FP.dadd (kx_S2 (fun j => th (8 * i0 + j)) ps (fun j => kx_mm fr to (8 * i0 + j)) i) (FP.dmul (ps i) (kx_mm fr to ((8 * i0) + i))))), (6, .double (FP.dadd (kx_S2 (fun j => th (8 * i0 + j)) qs qs i) (FP.dmul (qs i) (qs i)))), (4, .double (FP.dadd (kx_S2 (fun j => th (8 * i0 + j)) ps qs i) (FP.dmul (ps i) (qs i)))), (2, .double (FP.dadd (kx_S2 (fun j => th (8 * i0 + j)) ps ps i) (FP.dmul (ps i) (ps i)))), (16, .int (nI ((8 * i0) + i))), (15, .int (nI i)), (14, .int (nI (kx_cn (fun j => th (8 * i0 + j)) i))), (1, .int (nI i0)), (0, .ref m0)]) hx hb dX5_fit_204 hl (by decide) rfl (fun ls hl => ?_)
          refine lv_iinc (v := nI (kx_cn (fun j => th (8 * i0 + j)) i + 1)) (lv' := [(14, .int (nI (kx_cn (fun j => th (8 * i0 + j)) i + 1))), (12, .double (FP.dadd (kx_si (fun j => th (8 * i0 + j)) (fun j => FP.ddiv (kx_hh fr to (8 * i0 + j)) (kx_root (kx_sq (ps j) (qs j)))) i) (FP.ddiv (FP.ddiv (FP.dsub (to ((8 * i0) + i)) (fr ((8 * i0) + i))) fx_2) (kx_root (FP.dadd (FP.dmul (ps i) (ps i)) (FP.dmul (qs i) (qs i))))))), (10, .double (FP.dadd (kx_S2 (fun j => th (8 * i0 + j)) qs (fun j => kx_mm fr to (8 * i0 + j)) i) (FP.dmul (qs i) (kx_mm fr to ((8 * i0) + i))))), (8, .double (FP.dadd (kx_S2 (fun j => th (8 * i0 + j)) ps (fun j => kx_mm fr to (8 * i0 + j)) i) (FP.dmul (ps i) (kx_mm fr to ((8 * i0) + i))))), (6, .double (FP.dadd (kx_S2 (fun j => th (8 * i0 + j)) qs qs i) (FP.dmul (qs i) (qs i)))), (4, .double (FP.dadd (kx_S2 (fun j => th (8 * i0 + j)) ps qs i) (FP.dmul (ps i) (qs i)))), (2, .double (FP.dadd (kx_S2 (fun j => th (8 * i0 + j)) ps ps i) (FP.dmul (ps i) (ps i)))), (16, .int (nI ((8 * i0) + i))), (15, .int (nI i)), (1, .int (nI i0)), (0, .ref m0)]) hx hb dX5_fit_206 hl (k := 8) rfl (by show _ + 1 = _; exact nI_1 _) (by decide) rfl (fun ls hl => ?_)
          refine lv_iinc (v := nI (i + 1)) (lv' := [(15, .int (nI (i + 1))), (14, .int (nI (kx_cn (fun j => th (8 * i0 + j)) i + 1))), (12, .double (FP.dadd (kx_si (fun j => th (8 * i0 + j)) (fun j => FP.ddiv (kx_hh fr to (8 * i0 + j)) (kx_root (kx_sq (ps j) (qs j)))) i) (FP.ddiv (FP.ddiv (FP.dsub (to ((8 * i0) + i)) (fr ((8 * i0) + i))) fx_2) (kx_root (FP.dadd (FP.dmul (ps i) (ps i)) (FP.dmul (qs i) (qs i))))))), (10, .double (FP.dadd (kx_S2 (fun j => th (8 * i0 + j)) qs (fun j => kx_mm fr to (8 * i0 + j)) i) (FP.dmul (qs i) (kx_mm fr to ((8 * i0) + i))))), (8, .double (FP.dadd (kx_S2 (fun j => th (8 * i0 + j)) ps (fun j => kx_mm fr to (8 * i0 + j)) i) (FP.dmul (ps i) (kx_mm fr to ((8 * i0) + i))))), (6, .double (FP.dadd (kx_S2 (fun j => th (8 * i0 + j)) qs qs i) (FP.dmul (qs i) (qs i)))), (4, .double (FP.dadd (kx_S2 (fun j => th (8 * i0 + j)) ps qs i) (FP.dmul (ps i) (qs i)))), (2, .double (FP.dadd (kx_S2 (fun j => th (8 * i0 + j)) ps ps i) (FP.dmul (ps i) (ps i)))), (16, .int (nI ((8 * i0) + i))), (1, .int (nI i0)), (0, .ref m0)]) hx hb dX5_fit_209 hl (k := 8) rfl (by show _ + 1 = _; exact nI_1 _) (by decide) rfl (fun ls hl => ?_)
          refine lv_goto (tgt := 23) hx hb dX5_fit_212 (by decide) ?_
          exact ih (i + 1) _ _ _ _ _ _ _ (by omega) ((kx_S2_t (th := (fun j => th (8 * i0 + j))) (f := ps) (g := ps) c_23).symm) ((kx_S2_t (th := (fun j => th (8 * i0 + j))) (f := ps) (g := qs) c_23).symm) ((kx_S2_t (th := (fun j => th (8 * i0 + j))) (f := qs) (g := qs) c_23).symm) ((kx_S2_t (th := (fun j => th (8 * i0 + j))) (f := ps) (g := (fun j => kx_mm fr to (8 * i0 + j))) c_23).symm) ((kx_S2_t (th := (fun j => th (8 * i0 + j))) (f := qs) (g := (fun j => kx_mm fr to (8 * i0 + j))) c_23).symm) ((kx_si_t (th := (fun j => th (8 * i0 + j))) (g := (fun j => FP.ddiv (kx_hh fr to (8 * i0 + j)) (kx_root (kx_sq (ps j) (qs j))))) c_23).symm) ((kx_cn_t (th := (fun j => th (8 * i0 + j))) c_23).symm) _ _ hP hD hS _ (lv_sub hl [0, 1, 2, 3, 4, 5, 6, 7, 9, 10] rfl)
  exact loop_23 v 0 _ _ _ _ _ _ _ (by omega) rfl rfl rfl rfl rfl rfl rfl _ _ hP hD hS _ (lv_sub hl [0, 1, 2, 3, 4, 5, 6, 7, 9, 8] rfl)
