set_option maxHeartbeats 4000000 in
set_option maxRecDepth 100000 in
/-- ROOT -/
theorem c_X4_root (l : Launch) (G : kx_G) (w : UInt64)  (hw_b : fx_bd 14 w) (hw_n : fx_nn w) : Met l yX4_root wsX4_root ({ frames := 0, cells := 0, slots := 0, locals := 0 } : Room) (kx_PR G [.double w] []) (vp_Sd (fun r => r = kx_root w)) 0 0 (fun _ => False) := by
  refine Met.ofW (cc := cX4_root) (maxL := 5) (ret := (some .double)) (by decide) rfl ?_
  intro p e s m args below meth c s₁ B hml hv
  obtain ⟨rfl, hP, hT⟩ := hv
  have hx := B.exec
  have hb := B.bytes
  have hr := B.returns
  have hts := atoms_spec (ws := wsX4_root) B.pre
  have hown : s.vm.findClass RX4 = some m.cls := findClass_of_methodNamed B.named
  have hlocks := B.notSynchronized
  have hc_216 := hts (.constantDouble RX4 216 (4611686018427387904)) (by decide +kernel)
  have hl := lv_entry ([.double w]) (n := 5) (Nat.le_of_ble_eq_true rfl)
  rw [lg_entry_eq]
  generalize (lg_sl ([.double w]) ++ List.replicate (5 - (lg_sl ([.double w])).length) Slot.unset).toArray = ls at hl ⊢
  have hl : lv_has ls 5 [(0, .double w)] := hl
  refine lv_dload_n hx hb dX4_root_0 rfl (lv_at hl 0 rfl) ?_
  refine lv_dconst1 hx hb dX4_root_1 ?_
  refine lv_dadd hx hb dX4_root_2 (fx_bd.add hw_b fx_1b (by omega)).n ?_
  refine lv_ldc2d (v := 4611686018427387904) hx hb hown hc_216 dX4_root_3 ?_
  refine lv_ddiv hx hb dX4_root_6 (fx_bd.div (fx_bd.add hw_b fx_1b (by omega)) fx_2l.lb (by omega)).n ?_
  refine lv_dstore_n (lv' := [(2, .double (FP.ddiv (FP.dadd w FP.dconst1) fx_2)), (0, .double w)]) hx hb dX4_root_7 rfl hl (by decide) rfl (fun ls hl => ?_)
  refine lv_iconst (v := 0) hx hb dX4_root_8 (by decide) ?_
  refine lv_istore (lv' := [(4, .int 0), (2, .double (FP.ddiv (FP.dadd w FP.dconst1) fx_2)), (0, .double w)]) hx hb dX4_root_9 hl (by decide) rfl (fun ls hl => ?_)
  have loop_11 : ∀ (k i : Nat) (a : UInt64), i + k = 60 → a = kx_rs w i → ∀ ls : Array Slot, lv_has ls 5 [(4, .int (nI i)), (2, .double a), (0, .double w)] → W p l e (headSpec wsX4_root ({ frames := 0, cells := 0, slots := 0, locals := 0 } : Room)).room s m [.double w].toArray below meth c s.heap [] 0 0 (MQ below (vp_Sd (fun r => r = kx_root w)) [.double w].toArray s 0 0 (fun _ => False)) (F0 m 11 ls []) := by
    intro k
    induction k with
    | zero =>
      intro i a htot e_a ls hl
      subst e_a
      refine lv_iload hx hb dX4_root_11 (lv_at hl 0 rfl) ?_
      refine lv_bipush (v := 60) hx hb dX4_root_13 (by decide) ?_
      refine lv_icmp_ge (x := nI i) (y := 60) (tgt := 34) hx hb dX4_root_15 (by decide) (fun c_1 => ?_) (fun c_1 => ?_)
      · have c_1 : 60 ≤ i := (nI_leI (a := 60) (b := i) (by omega) (by omega)).mp c_1
        refine lv_dload_n hx hb dX4_root_34 rfl (lv_at hl 1 rfl) ?_
        exact W.dret (v := kx_rs w i) hx hb hr (fun t ht hW => ⟨kx_rs w i, rfl, (by rw [show i = 60 from by omega]; rfl), ht⟩) (fun _ h => nomatch h) dX4_root_35
      · have c_1 : ¬ 60 ≤ i := fun q => c_1 ((nI_leI (a := 60) (b := i) (by omega) (by omega)).mpr q)
        exfalso; omega
    | succ k ih =>
      intro i a htot e_a ls hl
      subst e_a
      refine lv_iload hx hb dX4_root_11 (lv_at hl 0 rfl) ?_
      refine lv_bipush (v := 60) hx hb dX4_root_13 (by decide) ?_
      refine lv_icmp_ge (x := nI i) (y := 60) (tgt := 34) hx hb dX4_root_15 (by decide) (fun c_2 => ?_) (fun c_2 => ?_)
      · have c_2 : 60 ≤ i := (nI_leI (a := 60) (b := i) (by omega) (by omega)).mp c_2
        exfalso; omega
      · have c_2 : ¬ 60 ≤ i := fun q => c_2 ((nI_leI (a := 60) (b := i) (by omega) (by omega)).mpr q)
        refine lv_dload_n hx hb dX4_root_18 rfl (lv_at hl 1 rfl) ?_
        refine lv_dload_n hx hb dX4_root_19 rfl (lv_at hl 2 rfl) ?_
        refine lv_dload_n hx hb dX4_root_20 rfl (lv_at hl 1 rfl) ?_
        refine lv_ddiv hx hb dX4_root_21 (fx_bd.div hw_b (kx_rs_ok hw_n hw_b i (by omega)).2.lb (by omega)).n ?_
        refine lv_dadd hx hb dX4_root_22 (fx_bd.add (kx_rs_ok hw_n hw_b i (by omega)).1 (fx_bd.div hw_b (kx_rs_ok hw_n hw_b i (by omega)).2.lb (by omega)) (by omega)).n ?_
        refine lv_ldc2d (v := 4611686018427387904) hx hb hown hc_216 dX4_root_23 ?_
        refine lv_ddiv hx hb dX4_root_26 (fx_bd.div (fx_bd.add (kx_rs_ok hw_n hw_b i (by omega)).1 (fx_bd.div hw_b (kx_rs_ok hw_n hw_b i (by omega)).2.lb (by omega)) (by omega)) fx_2l.lb (by omega)).n ?_
        refine lv_dstore_n (lv' := [(2, .double (FP.ddiv (FP.dadd (kx_rs w i) (FP.ddiv w (kx_rs w i))) fx_2)), (4, .int (nI i)), (0, .double w)]) hx hb dX4_root_27 rfl hl (by decide) rfl (fun ls hl => ?_)
        refine lv_iinc (v := nI (i + 1)) (lv' := [(4, .int (nI (i + 1))), (2, .double (FP.ddiv (FP.dadd (kx_rs w i) (FP.ddiv w (kx_rs w i))) fx_2)), (0, .double w)]) hx hb dX4_root_28 hl (k := 1) rfl (by show _ + 1 = _; exact nI_1 _) (by decide) rfl (fun ls hl => ?_)
        refine lv_goto (tgt := 11) hx hb dX4_root_31 (by decide) ?_
        exact ih (i + 1) _ (by omega) rfl _ (lv_sub hl [0, 1, 2] rfl)
  exact loop_11 60 0 _ (by omega) rfl _ (lv_sub hl [0, 1, 2] rfl)
set_option maxHeartbeats 4000000 in
set_option maxRecDepth 100000 in
/-- AREA of a slice -/
theorem c_X3_areaOf (l : Launch) (G : kx_G) (h0 : Nat) (h1 : Nat) (h2 : Nat) (h3 : Nat) (h4 : Nat) (h5 : Nat) (n : Nat) (X : Nat → UInt64) (Y : Nat → UInt64) (R : Nat → UInt64) (E : Nat → UInt64) (F : Nat → Int32) (md : Int32) (i : Nat) (hb_X : ∀ j, fx_bd 130 (X j)) (hb_Y : ∀ j, fx_bd 130 (Y j)) (hb_R : ∀ j, fx_bd 140 (R j)) (hb_E : ∀ j, fx_bd 220 (E j)) (hn1 : 1 ≤ n) (hn : n ≤ 16) (hi : i < n) : Met l yX3_areaOf wsX3_areaOf ({ frames := 0, cells := 0, slots := 0, locals := 0 } : Room) (kx_PR G [.ref h0, .int (nI i)] [(h0, .inr (4, [.int (nI n), .ref h1, .ref h2, .ref h3, .ref h4, .ref h5, .int md])), (h1, kx_aD G n X), (h2, kx_aD G n Y), (h3, kx_aD G n R), (h4, kx_aD G n E), (h5, kx_aZ G n F)]) (vp_Sd (fun r => r = kx_area (R i))) 0 0 (fun _ => False) := by
  refine Met.ofW (cc := cX3_areaOf) (maxL := 2) (ret := (some .double)) (by decide) rfl ?_
  intro p e s m args below meth c s₁ B hml hv
  obtain ⟨rfl, hP, hT⟩ := hv
  have hx := B.exec
  have hb := B.bytes
  have hr := B.returns
  have hts := atoms_spec (ws := wsX3_areaOf) B.pre
  have hown : s.vm.findClass RX3 = some m.cls := findClass_of_methodNamed B.named
  have hlocks := B.notSynchronized
  have hc_43 := hts (.constantDouble RX3 43 (4614254477589872640)) (by decide +kernel)
  have hf_22 := hts (.fieldLink RX3 22 "StemShapes$Stem" "radius" "[D") (by decide +kernel)
  have hin_X3 : ∀ w ∈ wsX30, w ∈ wsX3_areaOf := by decide +kernel
  have hl := lv_entry ([.ref h0, .int (nI i)]) (n := 2) (Nat.le_of_ble_eq_true rfl)
  rw [lg_entry_eq]
  generalize (lg_sl ([.ref h0, .int (nI i)]) ++ List.replicate (2 - (lg_sl ([.ref h0, .int (nI i)])).length) Slot.unset).toArray = ls at hl ⊢
  have hl : lv_has ls 2 [(0, .ref h0), (1, .int (nI i))] := hl
  refine lv_ldc2d (v := 4614254477589872640) hx hb hown hc_43 dX3_areaOf_0 ?_
  refine lv_aload_n hx hb dX3_areaOf_3 rfl (lv_at hl 0 rfl) ?_
  refine va_get (D := G.1) (ci := 4) (v := .ref h3) (C := RX3) (T := TX3) (N := 7) hx hb hts hin_X3 hown hT.1 hP 0 rfl rfl 3 (by decide) hf_22 (fun _ h9 => h9) rfl dX3_areaOf_4 ?_
  refine lv_iload_n hx hb dX3_areaOf_7 rfl (lv_at hl 1 rfl) ?_
  refine kx_dald hx hb hT hP 3 rfl i (by omega) (by omega) dX3_areaOf_8 ?_
  refine lv_dmul hx hb dX3_areaOf_9 (fx_bd.mul fx_k4614254477589872640 (hb_R i) (by omega)).n ?_
  refine lv_aload_n hx hb dX3_areaOf_10 rfl (lv_at hl 0 rfl) ?_
  refine va_get (D := G.1) (ci := 4) (v := .ref h3) (C := RX3) (T := TX3) (N := 7) hx hb hts hin_X3 hown hT.1 hP 0 rfl rfl 3 (by decide) hf_22 (fun _ h9 => h9) rfl dX3_areaOf_11 ?_
  refine lv_iload_n hx hb dX3_areaOf_14 rfl (lv_at hl 1 rfl) ?_
  refine kx_dald hx hb hT hP 3 rfl i (by omega) (by omega) dX3_areaOf_15 ?_
  refine lv_dmul hx hb dX3_areaOf_16 (fx_bd.mul (fx_bd.mul fx_k4614254477589872640 (hb_R i) (by omega)) (hb_R i) (by omega)).n ?_
  exact W.dret (v := FP.dmul (FP.dmul 4614254477589872640 (R i)) (R i)) hx hb hr (fun t ht hW => ⟨FP.dmul (FP.dmul 4614254477589872640 (R i)) (R i), rfl, rfl, ht⟩) (fun _ h => nomatch h) dX3_areaOf_17
set_option maxHeartbeats 4000000 in
set_option maxRecDepth 100000 in
/-- VOLUME -/
theorem c_X3_sumOfAreas (l : Launch) (G : kx_G) (h0 : Nat) (h1 : Nat) (h2 : Nat) (h3 : Nat) (h4 : Nat) (h5 : Nat) (n : Nat) (X : Nat → UInt64) (Y : Nat → UInt64) (R : Nat → UInt64) (E : Nat → UInt64) (F : Nat → Int32) (md : Int32) (hb_X : ∀ j, fx_bd 130 (X j)) (hb_Y : ∀ j, fx_bd 130 (Y j)) (hb_R : ∀ j, fx_bd 140 (R j)) (hb_E : ∀ j, fx_bd 220 (E j)) (hn1 : 1 ≤ n) (hn : n ≤ 16) : Met l yX3_sumOfAreas wsX3_sumOfAreas ({ frames := 1, cells := 0, slots := 0, locals := 21 } : Room) (kx_PR G [.ref h0] [(h0, .inr (4, [.int (nI n), .ref h1, .ref h2, .ref h3, .ref h4, .ref h5, .int md])), (h1, kx_aD G n X), (h2, kx_aD G n Y), (h3, kx_aD G n R), (h4, kx_aD G n E), (h5, kx_aZ G n F)]) (vp_Sd (fun r => r = kx_sum (fun j => kx_area (R j)) n)) 0 0 (fun _ => False) := by
  refine Met.ofW (cc := cX3_sumOfAreas) (maxL := 4) (ret := (some .double)) (by decide) rfl ?_
  intro p e s m args below meth c s₁ B hml hv
  obtain ⟨rfl, hP, hT⟩ := hv
  have hx := B.exec
  have hb := B.bytes
  have hr := B.returns
  have hts := atoms_spec (ws := wsX3_sumOfAreas) B.pre
  have hown : s.vm.findClass RX3 = some m.cls := findClass_of_methodNamed B.named
  have hlocks := B.notSynchronized
  have hf_9 := hts (.fieldLink RX3 9 "StemShapes$Stem" "slices" "I") (by decide +kernel)
  have hin_X3 : ∀ w ∈ wsX30, w ∈ wsX3_sumOfAreas := by decide +kernel
  have hl := lv_entry ([.ref h0]) (n := 4) (Nat.le_of_ble_eq_true rfl)
  rw [lg_entry_eq]
  generalize (lg_sl ([.ref h0]) ++ List.replicate (4 - (lg_sl ([.ref h0])).length) Slot.unset).toArray = ls at hl ⊢
  have hl : lv_has ls 4 [(0, .ref h0)] := hl
  refine lv_dconst0 hx hb dX3_sumOfAreas_0 ?_
  refine lv_dstore_n (lv' := [(1, .double FP.dconst0), (0, .ref h0)]) hx hb dX3_sumOfAreas_1 rfl hl (by decide) rfl (fun ls hl => ?_)
  refine lv_iconst (v := 0) hx hb dX3_sumOfAreas_2 (by decide) ?_
  refine lv_istore_n (lv' := [(3, .int 0), (1, .double FP.dconst0), (0, .ref h0)]) hx hb dX3_sumOfAreas_3 rfl hl (by decide) rfl (fun ls hl => ?_)
  have loop_4 : ∀ (k i : Nat) (a : UInt64), i + k = n → a = kx_sum (fun j => kx_area (R j)) i → ∀ ls : Array Slot, lv_has ls 4 [(3, .int (nI i)), (1, .double a), (0, .ref h0)] → W p l e (headSpec wsX3_sumOfAreas ({ frames := 1, cells := 0, slots := 0, locals := 21 } : Room)).room s m [.ref h0].toArray below meth c s.heap [] 0 0 (MQ below (vp_Sd (fun r => r = kx_sum (fun j => kx_area (R j)) n)) [.ref h0].toArray s 0 0 (fun _ => False)) (F0 m 4 ls []) := by
    intro k
    induction k with
    | zero =>
      intro i a htot e_a ls hl
      subst e_a
      refine lv_iload_n hx hb dX3_sumOfAreas_4 rfl (lv_at hl 0 rfl) ?_
      refine lv_aload_n hx hb dX3_sumOfAreas_5 rfl (lv_at hl 2 rfl) ?_
      refine va_get (D := G.1) (ci := 4) (v := .int (nI n)) (C := RX3) (T := TX3) (N := 7) hx hb hts hin_X3 hown hT.1 hP 0 rfl rfl 0 (by decide) hf_9 (fun _ h9 => h9) rfl dX3_sumOfAreas_6 ?_
      refine lv_icmp_ge (x := nI i) (y := nI n) (tgt := 26) hx hb dX3_sumOfAreas_9 (by decide) (fun c_1 => ?_) (fun c_1 => ?_)
      · have c_1 : n ≤ i := (nI_leI (a := n) (b := i) (by omega) (by omega)).mp c_1
        refine lv_dload_n hx hb dX3_sumOfAreas_26 rfl (lv_at hl 1 rfl) ?_
        exact W.dret (v := kx_sum (fun j => kx_area (R j)) i) hx hb hr (fun t ht hW => ⟨kx_sum (fun j => kx_area (R j)) i, rfl, (by rw [show i = n from by omega]), ht⟩) (fun _ h => nomatch h) dX3_sumOfAreas_27
      · have c_1 : ¬ n ≤ i := fun q => c_1 ((nI_leI (a := n) (b := i) (by omega) (by omega)).mpr q)
        exfalso; omega
    | succ k ih =>
      intro i a htot e_a ls hl
      subst e_a
      refine lv_iload_n hx hb dX3_sumOfAreas_4 rfl (lv_at hl 0 rfl) ?_
      refine lv_aload_n hx hb dX3_sumOfAreas_5 rfl (lv_at hl 2 rfl) ?_
      refine va_get (D := G.1) (ci := 4) (v := .int (nI n)) (C := RX3) (T := TX3) (N := 7) hx hb hts hin_X3 hown hT.1 hP 0 rfl rfl 0 (by decide) hf_9 (fun _ h9 => h9) rfl dX3_sumOfAreas_6 ?_
      refine lv_icmp_ge (x := nI i) (y := nI n) (tgt := 26) hx hb dX3_sumOfAreas_9 (by decide) (fun c_2 => ?_) (fun c_2 => ?_)
      · have c_2 : n ≤ i := (nI_leI (a := n) (b := i) (by omega) (by omega)).mp c_2
        exfalso; omega
      · have c_2 : ¬ n ≤ i := fun q => c_2 ((nI_leI (a := n) (b := i) (by omega) (by omega)).mpr q)
        refine lv_dload_n hx hb dX3_sumOfAreas_12 rfl (lv_at hl 1 rfl) ?_
        refine lv_aload_n hx hb dX3_sumOfAreas_13 rfl (lv_at hl 2 rfl) ?_
        refine lv_iload_n hx hb dX3_sumOfAreas_14 rfl (lv_at hl 0 rfl) ?_
        refine vp_callSd (W.runV (As := [.int (nI i)]) (rest := [.double (kx_sum (fun j => kx_area (R j)) i)]) ⟨hx, hb, hml, hown, hts⟩ (c_X3_areaOf l G (h0 := h0) (h1 := h1) (h2 := h2) (h3 := h3) (h4 := h4) (h5 := h5) (n := n) (X := X) (Y := Y) (R := R) (E := E) (F := F) (md := md) (i := i) (hb_X := hb_X) (hb_Y := hb_Y) (hb_R := hb_R) (hb_E := hb_E) (hn1 := (by omega)) (hn := (by omega)) (hi := (by omega))) (cwV 1 hts gX3_sumOfAreas_X3_areaOf rfl rfl rfl (by decide +kernel) ⟨Nat.le_of_ble_eq_true rfl, Nat.le_of_ble_eq_true rfl⟩) ⟨kx_PRb, va_recv hT.1 hP (ci := 4) (q0 := 0) rfl rfl, kx_pr hT hP [0, 1, 2, 3, 4, 5] rfl⟩ rfl rfl hl.1 rfl (lv_room (Nat.le_of_ble_eq_true rfl)) dX3_sumOfAreas_15 ⟨Nat.zero_le _, Nat.zero_le _⟩) (fun r_3 hw_4 => ?_)
        subst hw_4
        refine lv_dadd hx hb dX3_sumOfAreas_18 (fx_bd.add (kx_sum_bd (fun j => kx_area_bd (hb_R j)) i (by omega)) (kx_area_bd (hb_R i)) (by omega)).n ?_
        refine lv_dstore_n (lv' := [(1, .double (FP.dadd (kx_sum (fun j => kx_area (R j)) i) (kx_area (R i)))), (3, .int (nI i)), (0, .ref h0)]) hx hb dX3_sumOfAreas_19 rfl hl (by decide) rfl (fun ls hl => ?_)
        refine lv_iinc (v := nI (i + 1)) (lv' := [(3, .int (nI (i + 1))), (1, .double (FP.dadd (kx_sum (fun j => kx_area (R j)) i) (kx_area (R i)))), (0, .ref h0)]) hx hb dX3_sumOfAreas_20 hl (k := 1) rfl (by show _ + 1 = _; exact nI_1 _) (by decide) rfl (fun ls hl => ?_)
        refine lv_goto (tgt := 4) hx hb dX3_sumOfAreas_23 (by decide) ?_
        exact ih (i + 1) _ (by omega) rfl _ (lv_sub hl [0, 1, 2] rfl)
  exact loop_4 n 0 _ (by omega) rfl _ (lv_sub hl [0, 1, 2] rfl)
set_option maxHeartbeats 4000000 in
set_option maxRecDepth 100000 in
/-- TAPER -/
theorem c_X3_thinning (l : Launch) (G : kx_G) (h0 : Nat) (h1 : Nat) (h2 : Nat) (h3 : Nat) (h4 : Nat) (h5 : Nat) (n : Nat) (X : Nat → UInt64) (Y : Nat → UInt64) (R : Nat → UInt64) (E : Nat → UInt64) (F : Nat → Int32) (md : Int32) (hb_X : ∀ j, fx_bd 130 (X j)) (hb_Y : ∀ j, fx_bd 130 (Y j)) (hb_R : ∀ j, fx_bd 140 (R j)) (hb_E : ∀ j, fx_bd 220 (E j)) (hn1 : 1 ≤ n) (hn : n ≤ 16) : Met l yX3_thinning wsX3_thinning ({ frames := 0, cells := 0, slots := 0, locals := 0 } : Room) (kx_PR G [.ref h0] [(h0, .inr (4, [.int (nI n), .ref h1, .ref h2, .ref h3, .ref h4, .ref h5, .int md])), (h1, kx_aD G n X), (h2, kx_aD G n Y), (h3, kx_aD G n R), (h4, kx_aD G n E), (h5, kx_aZ G n F)]) (vp_Sd (fun r => r = kx_tap R n)) 0 0 (fun _ => False) := by
  refine Met.ofW (cc := cX3_thinning) (maxL := 1) (ret := (some .double)) (by decide) rfl ?_
  intro p e s m args below meth c s₁ B hml hv
  obtain ⟨rfl, hP, hT⟩ := hv
  have hx := B.exec
  have hb := B.bytes
  have hr := B.returns
  have hts := atoms_spec (ws := wsX3_thinning) B.pre
  have hown : s.vm.findClass RX3 = some m.cls := findClass_of_methodNamed B.named
  have hlocks := B.notSynchronized
  have hf_9 := hts (.fieldLink RX3 9 "StemShapes$Stem" "slices" "I") (by decide +kernel)
  have hin_X3 : ∀ w ∈ wsX30, w ∈ wsX3_thinning := by decide +kernel
  have hf_22 := hts (.fieldLink RX3 22 "StemShapes$Stem" "radius" "[D") (by decide +kernel)
  have hl := lv_entry ([.ref h0]) (n := 1) (Nat.le_of_ble_eq_true rfl)
  rw [lg_entry_eq]
  generalize (lg_sl ([.ref h0]) ++ List.replicate (1 - (lg_sl ([.ref h0])).length) Slot.unset).toArray = ls at hl ⊢
  have hl : lv_has ls 1 [(0, .ref h0)] := hl
  refine lv_aload_n hx hb dX3_thinning_0 rfl (lv_at hl 0 rfl) ?_
  refine va_get (D := G.1) (ci := 4) (v := .int (nI n)) (C := RX3) (T := TX3) (N := 7) hx hb hts hin_X3 hown hT.1 hP 0 rfl rfl 0 (by decide) hf_9 (fun _ h9 => h9) rfl dX3_thinning_1 ?_
  refine lv_iconst (v := 1) hx hb dX3_thinning_4 (by decide) ?_
  refine lv_icmp_ne (x := nI n) (y := 1) (tgt := 10) hx hb dX3_thinning_5 (by decide) (fun c_1 => ?_) (fun c_1 => ?_)
  · have c_1 : ¬ n = 1 := fun q => c_1 ((nI_eq (a := n) (b := 1) (by omega) (by omega)).mpr q)
    refine lv_aload_n hx hb dX3_thinning_10 rfl (lv_at hl 0 rfl) ?_
    refine va_get (D := G.1) (ci := 4) (v := .ref h3) (C := RX3) (T := TX3) (N := 7) hx hb hts hin_X3 hown hT.1 hP 0 rfl rfl 3 (by decide) hf_22 (fun _ h9 => h9) rfl dX3_thinning_11 ?_
    refine lv_iconst (v := 0) hx hb dX3_thinning_14 (by decide) ?_
    refine kx_dald hx hb hT hP 3 rfl 0 (by omega) (by omega) dX3_thinning_15 ?_
    refine lv_aload_n hx hb dX3_thinning_16 rfl (lv_at hl 0 rfl) ?_
    refine va_get (D := G.1) (ci := 4) (v := .ref h3) (C := RX3) (T := TX3) (N := 7) hx hb hts hin_X3 hown hT.1 hP 0 rfl rfl 3 (by decide) hf_22 (fun _ h9 => h9) rfl dX3_thinning_17 ?_
    refine lv_aload_n hx hb dX3_thinning_20 rfl (lv_at hl 0 rfl) ?_
    refine va_get (D := G.1) (ci := 4) (v := .int (nI n)) (C := RX3) (T := TX3) (N := 7) hx hb hts hin_X3 hown hT.1 hP 0 rfl rfl 0 (by decide) hf_9 (fun _ h9 => h9) rfl dX3_thinning_21 ?_
    refine lv_iconst (v := 1) hx hb dX3_thinning_24 (by decide) ?_
    refine lv_isub hx hb dX3_thinning_25 ?_
    refine kx_ei (y := nI (n - 1)) (pk_sub (a := n) (b := 1) (by omega)) ?_
    refine kx_dald hx hb hT hP 3 rfl (n - 1) (by omega) (by omega) dX3_thinning_26 ?_
    refine lv_dsub hx hb dX3_thinning_27 (fx_bd.sub (hb_R 0) (hb_R (n - 1)) (by omega)).n ?_
    refine lv_aload_n hx hb dX3_thinning_28 rfl (lv_at hl 0 rfl) ?_
    refine va_get (D := G.1) (ci := 4) (v := .int (nI n)) (C := RX3) (T := TX3) (N := 7) hx hb hts hin_X3 hown hT.1 hP 0 rfl rfl 0 (by decide) hf_9 (fun _ h9 => h9) rfl dX3_thinning_29 ?_
    refine lv_iconst (v := 1) hx hb dX3_thinning_32 (by decide) ?_
    refine lv_isub hx hb dX3_thinning_33 ?_
    refine kx_ei (y := nI (n - 1)) (pk_sub (a := n) (b := 1) (by omega)) ?_
    refine lv_i2d hx hb dX3_thinning_34 ?_
    refine lv_ddiv hx hb dX3_thinning_35 (fx_bd.div (fx_bd.sub (hb_R 0) (hb_R (n - 1)) (by omega)) (fx_il (nI_ne0 (by omega) (by omega))) (by omega)).n ?_
    exact W.dret (v := FP.ddiv (FP.dsub (R 0) (R (n - 1))) (FP.i2d (nI (n - 1)))) hx hb hr (fun t ht hW => ⟨FP.ddiv (FP.dsub (R 0) (R (n - 1))) (FP.i2d (nI (n - 1))), rfl, (if_neg (by omega)).symm, ht⟩) (fun _ h => nomatch h) dX3_thinning_36
  · have c_1 : n = 1 := (nI_eq (a := n) (b := 1) (by omega) (by omega)).mp c_1
    refine lv_dconst0 hx hb dX3_thinning_8 ?_
    exact W.dret (v := FP.dconst0) hx hb hr (fun t ht hW => ⟨FP.dconst0, rfl, (if_pos (by omega)).symm, ht⟩) (fun _ h => nomatch h) dX3_thinning_9
set_option maxHeartbeats 4000000 in
set_option maxRecDepth 100000 in
/-- the last radius -/
theorem c_X3_lastRadius (l : Launch) (G : kx_G) (h0 : Nat) (h1 : Nat) (h2 : Nat) (h3 : Nat) (h4 : Nat) (h5 : Nat) (n : Nat) (X : Nat → UInt64) (Y : Nat → UInt64) (R : Nat → UInt64) (E : Nat → UInt64) (F : Nat → Int32) (md : Int32) (hb_X : ∀ j, fx_bd 130 (X j)) (hb_Y : ∀ j, fx_bd 130 (Y j)) (hb_R : ∀ j, fx_bd 140 (R j)) (hb_E : ∀ j, fx_bd 220 (E j)) (hn1 : 1 ≤ n) (hn : n ≤ 16) : Met l yX3_lastRadius wsX3_lastRadius ({ frames := 0, cells := 0, slots := 0, locals := 0 } : Room) (kx_PR G [.ref h0] [(h0, .inr (4, [.int (nI n), .ref h1, .ref h2, .ref h3, .ref h4, .ref h5, .int md])), (h1, kx_aD G n X), (h2, kx_aD G n Y), (h3, kx_aD G n R), (h4, kx_aD G n E), (h5, kx_aZ G n F)]) (vp_Sd (fun r => r = R (n - 1))) 0 0 (fun _ => False) := by
  refine Met.ofW (cc := cX3_lastRadius) (maxL := 1) (ret := (some .double)) (by decide) rfl ?_
  intro p e s m args below meth c s₁ B hml hv
  obtain ⟨rfl, hP, hT⟩ := hv
  have hx := B.exec
  have hb := B.bytes
  have hr := B.returns
  have hts := atoms_spec (ws := wsX3_lastRadius) B.pre
  have hown : s.vm.findClass RX3 = some m.cls := findClass_of_methodNamed B.named
  have hlocks := B.notSynchronized
  have hf_22 := hts (.fieldLink RX3 22 "StemShapes$Stem" "radius" "[D") (by decide +kernel)
  have hin_X3 : ∀ w ∈ wsX30, w ∈ wsX3_lastRadius := by decide +kernel
  have hf_9 := hts (.fieldLink RX3 9 "StemShapes$Stem" "slices" "I") (by decide +kernel)
  have hl := lv_entry ([.ref h0]) (n := 1) (Nat.le_of_ble_eq_true rfl)
  rw [lg_entry_eq]
  generalize (lg_sl ([.ref h0]) ++ List.replicate (1 - (lg_sl ([.ref h0])).length) Slot.unset).toArray = ls at hl ⊢
  have hl : lv_has ls 1 [(0, .ref h0)] := hl
  refine lv_aload_n hx hb dX3_lastRadius_0 rfl (lv_at hl 0 rfl) ?_
  refine va_get (D := G.1) (ci := 4) (v := .ref h3) (C := RX3) (T := TX3) (N := 7) hx hb hts hin_X3 hown hT.1 hP 0 rfl rfl 3 (by decide) hf_22 (fun _ h9 => h9) rfl dX3_lastRadius_1 ?_
  refine lv_aload_n hx hb dX3_lastRadius_4 rfl (lv_at hl 0 rfl) ?_
  refine va_get (D := G.1) (ci := 4) (v := .int (nI n)) (C := RX3) (T := TX3) (N := 7) hx hb hts hin_X3 hown hT.1 hP 0 rfl rfl 0 (by decide) hf_9 (fun _ h9 => h9) rfl dX3_lastRadius_5 ?_
  refine lv_iconst (v := 1) hx hb dX3_lastRadius_8 (by decide) ?_
  refine lv_isub hx hb dX3_lastRadius_9 ?_
  refine kx_ei (y := nI (n - 1)) (pk_sub (a := n) (b := 1) (by omega)) ?_
  refine kx_dald hx hb hT hP 3 rfl (n - 1) (by omega) (by omega) dX3_lastRadius_10 ?_
  exact W.dret (v := R (n - 1)) hx hb hr (fun t ht hW => ⟨R (n - 1), rfl, rfl, ht⟩) (fun _ h => nomatch h) dX3_lastRadius_11
set_option maxHeartbeats 4000000 in
set_option maxRecDepth 100000 in
/-- u, w of SWEEP -/
theorem c_X3_straight (l : Launch) (G : kx_G) (h0 : Nat) (h1 : Nat) (a1 : Nat) (a2 : Nat) (a3 : Nat) (a4 : Nat) (a5 : Nat) (n : Nat) (X : Nat → UInt64) (md : Int32) (i : Nat) (hb_X : ∀ j, fx_bd 130 (X j)) (hn2 : 2 ≤ n) (hn : n ≤ 16) (hi : i < n) : Met l yX3_straight wsX3_straight ({ frames := 0, cells := 0, slots := 0, locals := 0 } : Room) (kx_PR G [.ref h0, .ref h1, .int (nI i)] [(h0, .inr (4, [.int (nI n), .ref a1, .ref a2, .ref a3, .ref a4, .ref a5, .int md])), (h1, kx_aD G n X)]) (vp_Sd (fun r => r = kx_str X n i)) 0 0 (fun _ => False) := by
  refine Met.ofW (cc := cX3_straight) (maxL := 3) (ret := (some .double)) (by decide) rfl ?_
  intro p e s m args below meth c s₁ B hml hv
  obtain ⟨rfl, hP, hT⟩ := hv
  have hx := B.exec
  have hb := B.bytes
  have hr := B.returns
  have hts := atoms_spec (ws := wsX3_straight) B.pre
  have hown : s.vm.findClass RX3 = some m.cls := findClass_of_methodNamed B.named
  have hlocks := B.notSynchronized
  have hf_9 := hts (.fieldLink RX3 9 "StemShapes$Stem" "slices" "I") (by decide +kernel)
  have hin_X3 : ∀ w ∈ wsX30, w ∈ wsX3_straight := by decide +kernel
  have hl := lv_entry ([.ref h0, .ref h1, .int (nI i)]) (n := 3) (Nat.le_of_ble_eq_true rfl)
  rw [lg_entry_eq]
  generalize (lg_sl ([.ref h0, .ref h1, .int (nI i)]) ++ List.replicate (3 - (lg_sl ([.ref h0, .ref h1, .int (nI i)])).length) Slot.unset).toArray = ls at hl ⊢
  have hl : lv_has ls 3 [(0, .ref h0), (1, .ref h1), (2, .int (nI i))] := hl
  refine lv_aload_n hx hb dX3_straight_0 rfl (lv_at hl 1 rfl) ?_
  refine lv_iconst (v := 0) hx hb dX3_straight_1 (by decide) ?_
  refine kx_dald hx hb hT hP 1 rfl 0 (by omega) (by omega) dX3_straight_2 ?_
  refine lv_aload_n hx hb dX3_straight_3 rfl (lv_at hl 1 rfl) ?_
  refine lv_aload_n hx hb dX3_straight_4 rfl (lv_at hl 0 rfl) ?_
  refine va_get (D := G.1) (ci := 4) (v := .int (nI n)) (C := RX3) (T := TX3) (N := 7) hx hb hts hin_X3 hown hT.1 hP 0 rfl rfl 0 (by decide) hf_9 (fun _ h9 => h9) rfl dX3_straight_5 ?_
  refine lv_iconst (v := 1) hx hb dX3_straight_8 (by decide) ?_
  refine lv_isub hx hb dX3_straight_9 ?_
  refine kx_ei (y := nI (n - 1)) (pk_sub (a := n) (b := 1) (by omega)) ?_
  refine kx_dald hx hb hT hP 1 rfl (n - 1) (by omega) (by omega) dX3_straight_10 ?_
  refine lv_aload_n hx hb dX3_straight_11 rfl (lv_at hl 1 rfl) ?_
  refine lv_iconst (v := 0) hx hb dX3_straight_12 (by decide) ?_
  refine kx_dald hx hb hT hP 1 rfl 0 (by omega) (by omega) dX3_straight_13 ?_
  refine lv_dsub hx hb dX3_straight_14 (fx_bd.sub (hb_X (n - 1)) (hb_X 0) (by omega)).n ?_
  refine lv_iload_n hx hb dX3_straight_15 rfl (lv_at hl 2 rfl) ?_
  refine lv_i2d hx hb dX3_straight_16 ?_
  refine lv_dmul hx hb dX3_straight_17 (fx_bd.mul (fx_bd.sub (hb_X (n - 1)) (hb_X 0) (by omega)) fx_i (by omega)).n ?_
  refine lv_aload_n hx hb dX3_straight_18 rfl (lv_at hl 0 rfl) ?_
  refine va_get (D := G.1) (ci := 4) (v := .int (nI n)) (C := RX3) (T := TX3) (N := 7) hx hb hts hin_X3 hown hT.1 hP 0 rfl rfl 0 (by decide) hf_9 (fun _ h9 => h9) rfl dX3_straight_19 ?_
  refine lv_iconst (v := 1) hx hb dX3_straight_22 (by decide) ?_
  refine lv_isub hx hb dX3_straight_23 ?_
  refine kx_ei (y := nI (n - 1)) (pk_sub (a := n) (b := 1) (by omega)) ?_
  refine lv_i2d hx hb dX3_straight_24 ?_
  refine lv_ddiv hx hb dX3_straight_25 (fx_bd.div (fx_bd.mul (fx_bd.sub (hb_X (n - 1)) (hb_X 0) (by omega)) fx_i (by omega)) (fx_il (nI_ne0 (by omega) (by omega))) (by omega)).n ?_
  refine lv_dadd hx hb dX3_straight_26 (fx_bd.add (hb_X 0) (fx_bd.div (fx_bd.mul (fx_bd.sub (hb_X (n - 1)) (hb_X 0) (by omega)) fx_i (by omega)) (fx_il (nI_ne0 (by omega) (by omega))) (by omega)) (by omega)).n ?_
  exact W.dret (v := FP.dadd (X 0) (FP.ddiv (FP.dmul (FP.dsub (X (n - 1)) (X 0)) (FP.i2d (nI i))) (FP.i2d (nI (n - 1))))) hx hb hr (fun t ht hW => ⟨FP.dadd (X 0) (FP.ddiv (FP.dmul (FP.dsub (X (n - 1)) (X 0)) (FP.i2d (nI i))) (FP.i2d (nI (n - 1)))), rfl, rfl, ht⟩) (fun _ h => nomatch h) dX3_straight_27
set_option maxHeartbeats 4000000 in
set_option maxRecDepth 100000 in
/-- SWEEP -/
theorem c_X3_greatestBend (l : Launch) (G : kx_G) (h0 : Nat) (h1 : Nat) (h2 : Nat) (h3 : Nat) (h4 : Nat) (h5 : Nat) (n : Nat) (X : Nat → UInt64) (Y : Nat → UInt64) (R : Nat → UInt64) (E : Nat → UInt64) (F : Nat → Int32) (md : Int32) (hb_X : ∀ j, fx_bd 130 (X j)) (hb_Y : ∀ j, fx_bd 130 (Y j)) (hb_R : ∀ j, fx_bd 140 (R j)) (hb_E : ∀ j, fx_bd 220 (E j)) (hn1 : 1 ≤ n) (hn : n ≤ 16) : Met l yX3_greatestBend wsX3_greatestBend ({ frames := 1, cells := 0, slots := 0, locals := 22 } : Room) (kx_PR G [.ref h0] [(h0, .inr (4, [.int (nI n), .ref h1, .ref h2, .ref h3, .ref h4, .ref h5, .int md])), (h1, kx_aD G n X), (h2, kx_aD G n Y), (h3, kx_aD G n R), (h4, kx_aD G n E), (h5, kx_aZ G n F)]) (vp_Sd (fun r => r = kx_swp X Y n)) 0 0 (fun _ => False) := by
  refine Met.ofW (cc := cX3_greatestBend) (maxL := 10) (ret := (some .double)) (by decide) rfl ?_
  intro p e s m args below meth c s₁ B hml hv
  obtain ⟨rfl, hP, hT⟩ := hv
  have hx := B.exec
  have hb := B.bytes
  have hr := B.returns
  have hts := atoms_spec (ws := wsX3_greatestBend) B.pre
  have hown : s.vm.findClass RX3 = some m.cls := findClass_of_methodNamed B.named
  have hlocks := B.notSynchronized
  have hf_9 := hts (.fieldLink RX3 9 "StemShapes$Stem" "slices" "I") (by decide +kernel)
  have hin_X3 : ∀ w ∈ wsX30, w ∈ wsX3_greatestBend := by decide +kernel
  have hf_15 := hts (.fieldLink RX3 15 "StemShapes$Stem" "x" "[D") (by decide +kernel)
  have hf_19 := hts (.fieldLink RX3 19 "StemShapes$Stem" "y" "[D") (by decide +kernel)
  have hl := lv_entry ([.ref h0]) (n := 10) (Nat.le_of_ble_eq_true rfl)
  rw [lg_entry_eq]
  generalize (lg_sl ([.ref h0]) ++ List.replicate (10 - (lg_sl ([.ref h0])).length) Slot.unset).toArray = ls at hl ⊢
  have hl : lv_has ls 10 [(0, .ref h0)] := hl
  refine lv_dconst0 hx hb dX3_greatestBend_0 ?_
  refine lv_dstore_n (lv' := [(1, .double FP.dconst0), (0, .ref h0)]) hx hb dX3_greatestBend_1 rfl hl (by decide) rfl (fun ls hl => ?_)
  refine lv_aload_n hx hb dX3_greatestBend_2 rfl (lv_at hl 1 rfl) ?_
  refine va_get (D := G.1) (ci := 4) (v := .int (nI n)) (C := RX3) (T := TX3) (N := 7) hx hb hts hin_X3 hown hT.1 hP 0 rfl rfl 0 (by decide) hf_9 (fun _ h9 => h9) rfl dX3_greatestBend_3 ?_
  refine lv_iconst (v := 1) hx hb dX3_greatestBend_6 (by decide) ?_
  refine lv_icmp_ne (x := nI n) (y := 1) (tgt := 12) hx hb dX3_greatestBend_7 (by decide) (fun c_1 => ?_) (fun c_1 => ?_)
  · have c_1 : ¬ n = 1 := fun q => c_1 ((nI_eq (a := n) (b := 1) (by omega) (by omega)).mpr q)
    refine lv_iconst (v := 0) hx hb dX3_greatestBend_12 (by decide) ?_
    refine lv_istore_n (lv' := [(3, .int 0), (1, .double FP.dconst0), (0, .ref h0)]) hx hb dX3_greatestBend_13 rfl hl (by decide) rfl (fun ls hl => ?_)
    have loop_14 : ∀ (k i : Nat) (a : UInt64), i + k = n → a = kx_max (kx_bend X Y n) i → ∀ ls : Array Slot, lv_has ls 10 [(3, .int (nI i)), (1, .double a), (0, .ref h0)] → W p l e (headSpec wsX3_greatestBend ({ frames := 1, cells := 0, slots := 0, locals := 22 } : Room)).room s m [.ref h0].toArray below meth c s.heap [] 0 0 (MQ below (vp_Sd (fun r => r = kx_swp X Y n)) [.ref h0].toArray s 0 0 (fun _ => False)) (F0 m 14 ls []) := by
      intro k
      induction k with
      | zero =>
        intro i a htot e_a ls hl
        subst e_a
        refine lv_iload_n hx hb dX3_greatestBend_14 rfl (lv_at hl 0 rfl) ?_
        refine lv_aload_n hx hb dX3_greatestBend_15 rfl (lv_at hl 2 rfl) ?_
        refine va_get (D := G.1) (ci := 4) (v := .int (nI n)) (C := RX3) (T := TX3) (N := 7) hx hb hts hin_X3 hown hT.1 hP 0 rfl rfl 0 (by decide) hf_9 (fun _ h9 => h9) rfl dX3_greatestBend_16 ?_
        refine lv_icmp_ge (x := nI i) (y := nI n) (tgt := 87) hx hb dX3_greatestBend_19 (by decide) (fun c_2 => ?_) (fun c_2 => ?_)
        · have c_2 : n ≤ i := (nI_leI (a := n) (b := i) (by omega) (by omega)).mp c_2
          refine lv_dload_n hx hb dX3_greatestBend_87 rfl (lv_at hl 1 rfl) ?_
          exact W.dret (v := kx_max (kx_bend X Y n) i) hx hb hr (fun t ht hW => ⟨kx_max (kx_bend X Y n) i, rfl, (by rw [show i = n from by omega]; exact (if_neg (by omega)).symm), ht⟩) (fun _ h => nomatch h) dX3_greatestBend_88
        · have c_2 : ¬ n ≤ i := fun q => c_2 ((nI_leI (a := n) (b := i) (by omega) (by omega)).mpr q)
          exfalso; omega
      | succ k ih =>
        intro i a htot e_a ls hl
        subst e_a
        refine lv_iload_n hx hb dX3_greatestBend_14 rfl (lv_at hl 0 rfl) ?_
        refine lv_aload_n hx hb dX3_greatestBend_15 rfl (lv_at hl 2 rfl) ?_
        refine va_get (D := G.1) (ci := 4) (v := .int (nI n)) (C := RX3) (T := TX3) (N := 7) hx hb hts hin_X3 hown hT.1 hP 0 rfl rfl 0 (by decide) hf_9 (fun _ h9 => h9) rfl dX3_greatestBend_16 ?_
        refine lv_icmp_ge (x := nI i) (y := nI n) (tgt := 87) hx hb dX3_greatestBend_19 (by decide) (fun c_3 => ?_) (fun c_3 => ?_)
        · have c_3 : n ≤ i := (nI_leI (a := n) (b := i) (by omega) (by omega)).mp c_3
          exfalso; omega
        · have c_3 : ¬ n ≤ i := fun q => c_3 ((nI_leI (a := n) (b := i) (by omega) (by omega)).mpr q)
          refine lv_aload_n hx hb dX3_greatestBend_22 rfl (lv_at hl 2 rfl) ?_
          refine va_get (D := G.1) (ci := 4) (v := .ref h1) (C := RX3) (T := TX3) (N := 7) hx hb hts hin_X3 hown hT.1 hP 0 rfl rfl 1 (by decide) hf_15 (fun _ h9 => h9) rfl dX3_greatestBend_23 ?_
          refine lv_iload_n hx hb dX3_greatestBend_26 rfl (lv_at hl 0 rfl) ?_
          refine kx_dald hx hb hT hP 1 rfl i (by omega) (by omega) dX3_greatestBend_27 ?_
          refine lv_aload_n hx hb dX3_greatestBend_28 rfl (lv_at hl 2 rfl) ?_
          refine lv_aload_n hx hb dX3_greatestBend_29 rfl (lv_at hl 2 rfl) ?_
          refine va_get (D := G.1) (ci := 4) (v := .ref h1) (C := RX3) (T := TX3) (N := 7) hx hb hts hin_X3 hown hT.1 hP 0 rfl rfl 1 (by decide) hf_15 (fun _ h9 => h9) rfl dX3_greatestBend_30 ?_
          refine lv_iload_n hx hb dX3_greatestBend_33 rfl (lv_at hl 0 rfl) ?_
          refine vp_callSd (W.runV (As := [.ref h1, .int (nI i)]) (rest := [.double (X i)]) ⟨hx, hb, hml, hown, hts⟩ (c_X3_straight l G (h0 := h0) (h1 := h1) (a1 := h1) (a2 := h2) (a3 := h3) (a4 := h4) (a5 := h5) (n := n) (X := X) (md := md) (i := i) (hb_X := hb_X) (hn2 := (by omega)) (hn := (by omega)) (hi := (by omega))) (cwV 2 hts gX3_greatestBend_X3_straight rfl rfl rfl (by decide +kernel) ⟨Nat.le_of_ble_eq_true rfl, Nat.le_of_ble_eq_true rfl⟩) ⟨kx_PRb, va_recv hT.1 hP (ci := 4) (q0 := 0) rfl rfl, kx_pr hT hP [0, 1] rfl⟩ rfl rfl hl.1 rfl (lv_room (Nat.le_of_ble_eq_true rfl)) dX3_greatestBend_34 ⟨Nat.zero_le _, Nat.zero_le _⟩) (fun r_4 hw_5 => ?_)
          subst hw_5
          refine lv_dsub hx hb dX3_greatestBend_37 (fx_bd.sub (hb_X i) (kx_str_bd hb_X (by omega) (by omega)) (by omega)).n ?_
          refine lv_dstore (lv' := [(4, .double (FP.dsub (X i) (kx_str X n i))), (3, .int (nI i)), (1, .double (kx_max (kx_bend X Y n) i)), (0, .ref h0)]) hx hb dX3_greatestBend_38 hl (by decide) rfl (fun ls hl => ?_)
          refine lv_aload_n hx hb dX3_greatestBend_40 rfl (lv_at hl 3 rfl) ?_
          refine va_get (D := G.1) (ci := 4) (v := .ref h2) (C := RX3) (T := TX3) (N := 7) hx hb hts hin_X3 hown hT.1 hP 0 rfl rfl 2 (by decide) hf_19 (fun _ h9 => h9) rfl dX3_greatestBend_41 ?_
          refine lv_iload_n hx hb dX3_greatestBend_44 rfl (lv_at hl 1 rfl) ?_
          refine kx_dald hx hb hT hP 2 rfl i (by omega) (by omega) dX3_greatestBend_45 ?_
          refine lv_aload_n hx hb dX3_greatestBend_46 rfl (lv_at hl 3 rfl) ?_
          refine lv_aload_n hx hb dX3_greatestBend_47 rfl (lv_at hl 3 rfl) ?_
          refine va_get (D := G.1) (ci := 4) (v := .ref h2) (C := RX3) (T := TX3) (N := 7) hx hb hts hin_X3 hown hT.1 hP 0 rfl rfl 2 (by decide) hf_19 (fun _ h9 => h9) rfl dX3_greatestBend_48 ?_
          refine lv_iload_n hx hb dX3_greatestBend_51 rfl (lv_at hl 1 rfl) ?_
          refine vp_callSd (W.runV (As := [.ref h2, .int (nI i)]) (rest := [.double (Y i)]) ⟨hx, hb, hml, hown, hts⟩ (c_X3_straight l G (h0 := h0) (h1 := h2) (a1 := h1) (a2 := h2) (a3 := h3) (a4 := h4) (a5 := h5) (n := n) (X := Y) (md := md) (i := i) (hb_X := hb_Y) (hn2 := (by omega)) (hn := (by omega)) (hi := (by omega))) (cwV 2 hts gX3_greatestBend_X3_straight rfl rfl rfl (by decide +kernel) ⟨Nat.le_of_ble_eq_true rfl, Nat.le_of_ble_eq_true rfl⟩) ⟨kx_PRb, va_recv hT.1 hP (ci := 4) (q0 := 0) rfl rfl, kx_pr hT hP [0, 2] rfl⟩ rfl rfl hl.1 rfl (lv_room (Nat.le_of_ble_eq_true rfl)) dX3_greatestBend_52 ⟨Nat.zero_le _, Nat.zero_le _⟩) (fun r_6 hw_7 => ?_)
          subst hw_7
          refine lv_dsub hx hb dX3_greatestBend_55 (fx_bd.sub (hb_Y i) (kx_str_bd hb_Y (by omega) (by omega)) (by omega)).n ?_
          refine lv_dstore (lv' := [(6, .double (FP.dsub (Y i) (kx_str Y n i))), (4, .double (FP.dsub (X i) (kx_str X n i))), (3, .int (nI i)), (1, .double (kx_max (kx_bend X Y n) i)), (0, .ref h0)]) hx hb dX3_greatestBend_56 hl (by decide) rfl (fun ls hl => ?_)
          refine lv_dload hx hb dX3_greatestBend_58 (lv_at hl 1 rfl) ?_
          refine lv_dload hx hb dX3_greatestBend_60 (lv_at hl 1 rfl) ?_
          refine lv_dmul hx hb dX3_greatestBend_62 (fx_bd.mul (fx_bd.sub (hb_X i) (kx_str_bd hb_X (by omega) (by omega)) (by omega)) (fx_bd.sub (hb_X i) (kx_str_bd hb_X (by omega) (by omega)) (by omega)) (by omega)).n ?_
          refine lv_dload hx hb dX3_greatestBend_63 (lv_at hl 0 rfl) ?_
          refine lv_dload hx hb dX3_greatestBend_65 (lv_at hl 0 rfl) ?_
          refine lv_dmul hx hb dX3_greatestBend_67 (fx_bd.mul (fx_bd.sub (hb_Y i) (kx_str_bd hb_Y (by omega) (by omega)) (by omega)) (fx_bd.sub (hb_Y i) (kx_str_bd hb_Y (by omega) (by omega)) (by omega)) (by omega)).n ?_
          refine lv_dadd hx hb dX3_greatestBend_68 (fx_bd.add (fx_bd.mul (fx_bd.sub (hb_X i) (kx_str_bd hb_X (by omega) (by omega)) (by omega)) (fx_bd.sub (hb_X i) (kx_str_bd hb_X (by omega) (by omega)) (by omega)) (by omega)) (fx_bd.mul (fx_bd.sub (hb_Y i) (kx_str_bd hb_Y (by omega) (by omega)) (by omega)) (fx_bd.sub (hb_Y i) (kx_str_bd hb_Y (by omega) (by omega)) (by omega)) (by omega)) (by omega)).n ?_
          refine lv_dstore (lv' := [(8, .double (FP.dadd (FP.dmul (FP.dsub (X i) (kx_str X n i)) (FP.dsub (X i) (kx_str X n i))) (FP.dmul (FP.dsub (Y i) (kx_str Y n i)) (FP.dsub (Y i) (kx_str Y n i))))), (6, .double (FP.dsub (Y i) (kx_str Y n i))), (4, .double (FP.dsub (X i) (kx_str X n i))), (3, .int (nI i)), (1, .double (kx_max (kx_bend X Y n) i)), (0, .ref h0)]) hx hb dX3_greatestBend_69 hl (by decide) rfl (fun ls hl => ?_)
          refine lv_dload hx hb dX3_greatestBend_71 (lv_at hl 0 rfl) ?_
          refine lv_dload_n hx hb dX3_greatestBend_73 rfl (lv_at hl 4 rfl) ?_
          refine kx_dgt (tgt := 81) hx hb dX3_greatestBend_74 dX3_greatestBend_75 (by decide) (fun c_8 => ?_) (fun c_8 => ?_)
          · refine lv_iinc (v := nI (i + 1)) (lv' := [(3, .int (nI (i + 1))), (8, .double (FP.dadd (FP.dmul (FP.dsub (X i) (kx_str X n i)) (FP.dsub (X i) (kx_str X n i))) (FP.dmul (FP.dsub (Y i) (kx_str Y n i)) (FP.dsub (Y i) (kx_str Y n i))))), (6, .double (FP.dsub (Y i) (kx_str Y n i))), (4, .double (FP.dsub (X i) (kx_str X n i))), (1, .double (kx_max (kx_bend X Y n) i)), (0, .ref h0)]) hx hb dX3_greatestBend_81 hl (k := 3) rfl (by show _ + 1 = _; exact nI_1 _) (by decide) rfl (fun ls hl => ?_)
            refine lv_goto (tgt := 14) hx hb dX3_greatestBend_84 (by decide) ?_
            exact ih (i + 1) _ (by omega) ((kx_max_f (g := kx_bend X Y n) c_8).symm) _ (lv_sub hl [0, 4, 5] rfl)
          · refine lv_dload hx hb dX3_greatestBend_78 (lv_at hl 0 rfl) ?_
            refine lv_dstore_n (lv' := [(1, .double (FP.dadd (FP.dmul (FP.dsub (X i) (kx_str X n i)) (FP.dsub (X i) (kx_str X n i))) (FP.dmul (FP.dsub (Y i) (kx_str Y n i)) (FP.dsub (Y i) (kx_str Y n i))))), (8, .double (FP.dadd (FP.dmul (FP.dsub (X i) (kx_str X n i)) (FP.dsub (X i) (kx_str X n i))) (FP.dmul (FP.dsub (Y i) (kx_str Y n i)) (FP.dsub (Y i) (kx_str Y n i))))), (6, .double (FP.dsub (Y i) (kx_str Y n i))), (4, .double (FP.dsub (X i) (kx_str X n i))), (3, .int (nI i)), (0, .ref h0)]) hx hb dX3_greatestBend_80 rfl hl (by decide) rfl (fun ls hl => ?_)
            refine lv_iinc (v := nI (i + 1)) (lv' := [(3, .int (nI (i + 1))), (1, .double (FP.dadd (FP.dmul (FP.dsub (X i) (kx_str X n i)) (FP.dsub (X i) (kx_str X n i))) (FP.dmul (FP.dsub (Y i) (kx_str Y n i)) (FP.dsub (Y i) (kx_str Y n i))))), (8, .double (FP.dadd (FP.dmul (FP.dsub (X i) (kx_str X n i)) (FP.dsub (X i) (kx_str X n i))) (FP.dmul (FP.dsub (Y i) (kx_str Y n i)) (FP.dsub (Y i) (kx_str Y n i))))), (6, .double (FP.dsub (Y i) (kx_str Y n i))), (4, .double (FP.dsub (X i) (kx_str X n i))), (0, .ref h0)]) hx hb dX3_greatestBend_81 hl (k := 4) rfl (by show _ + 1 = _; exact nI_1 _) (by decide) rfl (fun ls hl => ?_)
            refine lv_goto (tgt := 14) hx hb dX3_greatestBend_84 (by decide) ?_
            exact ih (i + 1) _ (by omega) ((kx_max_t (g := kx_bend X Y n) c_8).symm) _ (lv_sub hl [0, 1, 5] rfl)
    exact loop_14 n 0 _ (by omega) rfl _ (lv_sub hl [0, 1, 2] rfl)
  · have c_1 : n = 1 := (nI_eq (a := n) (b := 1) (by omega) (by omega)).mp c_1
    refine lv_dload_n hx hb dX3_greatestBend_10 rfl (lv_at hl 0 rfl) ?_
    exact W.dret (v := FP.dconst0) hx hb hr (fun t ht hW => ⟨FP.dconst0, rfl, (if_pos (by omega)).symm, ht⟩) (fun _ h => nomatch h) dX3_greatestBend_11
set_option maxHeartbeats 4000000 in
set_option maxRecDepth 100000 in
/-- INSIDE -/
theorem c_X3_covers (l : Launch) (G : kx_G) (h0 : Nat) (h1 : Nat) (h2 : Nat) (h3 : Nat) (h4 : Nat) (h5 : Nat) (n : Nat) (X : Nat → UInt64) (Y : Nat → UInt64) (R : Nat → UInt64) (E : Nat → UInt64) (F : Nat → Int32) (md : Int32) (i : Nat) (x : UInt64) (y : UInt64) (hb_X : ∀ j, fx_bd 130 (X j)) (hb_Y : ∀ j, fx_bd 130 (Y j)) (hb_R : ∀ j, fx_bd 140 (R j)) (hb_E : ∀ j, fx_bd 220 (E j)) (hn1 : 1 ≤ n) (hn : n ≤ 16) (hi : i < n) (hx_b : fx_bd 40 x) (hy_b : fx_bd 40 y) : Met l yX3_covers wsX3_covers ({ frames := 0, cells := 0, slots := 0, locals := 0 } : Room) (kx_PR G [.ref h0, .int (nI i), .double x, .double y] [(h0, .inr (4, [.int (nI n), .ref h1, .ref h2, .ref h3, .ref h4, .ref h5, .int md])), (h1, kx_aD G n X), (h2, kx_aD G n Y), (h3, kx_aD G n R), (h4, kx_aD G n E), (h5, kx_aZ G n F)]) (vp_Si (fun r => r = kx_cov (X i) (Y i) (R i) x y)) 0 0 (fun _ => False) := by
  refine Met.ofW (cc := cX3_covers) (maxL := 10) (ret := (some .boolean)) (by decide) rfl ?_
  intro p e s m args below meth c s₁ B hml hv
  obtain ⟨rfl, hP, hT⟩ := hv
  have hx := B.exec
  have hb := B.bytes
  have hr := B.returns
  have hts := atoms_spec (ws := wsX3_covers) B.pre
  have hown : s.vm.findClass RX3 = some m.cls := findClass_of_methodNamed B.named
  have hlocks := B.notSynchronized
  have hf_15 := hts (.fieldLink RX3 15 "StemShapes$Stem" "x" "[D") (by decide +kernel)
  have hin_X3 : ∀ w ∈ wsX30, w ∈ wsX3_covers := by decide +kernel
  have hf_19 := hts (.fieldLink RX3 19 "StemShapes$Stem" "y" "[D") (by decide +kernel)
  have hf_22 := hts (.fieldLink RX3 22 "StemShapes$Stem" "radius" "[D") (by decide +kernel)
  have hl := lv_entry ([.ref h0, .int (nI i), .double x, .double y]) (n := 10) (Nat.le_of_ble_eq_true rfl)
  rw [lg_entry_eq]
  generalize (lg_sl ([.ref h0, .int (nI i), .double x, .double y]) ++ List.replicate (10 - (lg_sl ([.ref h0, .int (nI i), .double x, .double y])).length) Slot.unset).toArray = ls at hl ⊢
  have hl : lv_has ls 10 [(0, .ref h0), (1, .int (nI i)), (2, .double x), (4, .double y)] := hl
  refine lv_dload_n hx hb dX3_covers_0 rfl (lv_at hl 2 rfl) ?_
  refine lv_aload_n hx hb dX3_covers_1 rfl (lv_at hl 0 rfl) ?_
  refine va_get (D := G.1) (ci := 4) (v := .ref h1) (C := RX3) (T := TX3) (N := 7) hx hb hts hin_X3 hown hT.1 hP 0 rfl rfl 1 (by decide) hf_15 (fun _ h9 => h9) rfl dX3_covers_2 ?_
  refine lv_iload_n hx hb dX3_covers_5 rfl (lv_at hl 1 rfl) ?_
  refine kx_dald hx hb hT hP 1 rfl i (by omega) (by omega) dX3_covers_6 ?_
  refine lv_dsub hx hb dX3_covers_7 (fx_bd.sub hx_b (hb_X i) (by omega)).n ?_
  refine lv_dstore (lv' := [(6, .double (FP.dsub x (X i))), (0, .ref h0), (1, .int (nI i)), (2, .double x), (4, .double y)]) hx hb dX3_covers_8 hl (by decide) rfl (fun ls hl => ?_)
  refine lv_dload hx hb dX3_covers_10 (lv_at hl 4 rfl) ?_
  refine lv_aload_n hx hb dX3_covers_12 rfl (lv_at hl 1 rfl) ?_
  refine va_get (D := G.1) (ci := 4) (v := .ref h2) (C := RX3) (T := TX3) (N := 7) hx hb hts hin_X3 hown hT.1 hP 0 rfl rfl 2 (by decide) hf_19 (fun _ h9 => h9) rfl dX3_covers_13 ?_
  refine lv_iload_n hx hb dX3_covers_16 rfl (lv_at hl 2 rfl) ?_
  refine kx_dald hx hb hT hP 2 rfl i (by omega) (by omega) dX3_covers_17 ?_
  refine lv_dsub hx hb dX3_covers_18 (fx_bd.sub hy_b (hb_Y i) (by omega)).n ?_
  refine lv_dstore (lv' := [(8, .double (FP.dsub y (Y i))), (6, .double (FP.dsub x (X i))), (0, .ref h0), (1, .int (nI i)), (2, .double x), (4, .double y)]) hx hb dX3_covers_19 hl (by decide) rfl (fun ls hl => ?_)
  refine lv_dload hx hb dX3_covers_21 (lv_at hl 1 rfl) ?_
  refine lv_dload hx hb dX3_covers_23 (lv_at hl 1 rfl) ?_
  refine lv_dmul hx hb dX3_covers_25 (fx_bd.mul (fx_bd.sub hx_b (hb_X i) (by omega)) (fx_bd.sub hx_b (hb_X i) (by omega)) (by omega)).n ?_
  refine lv_dload hx hb dX3_covers_26 (lv_at hl 0 rfl) ?_
  refine lv_dload hx hb dX3_covers_28 (lv_at hl 0 rfl) ?_
  refine lv_dmul hx hb dX3_covers_30 (fx_bd.mul (fx_bd.sub hy_b (hb_Y i) (by omega)) (fx_bd.sub hy_b (hb_Y i) (by omega)) (by omega)).n ?_
  refine lv_dadd hx hb dX3_covers_31 (fx_bd.add (fx_bd.mul (fx_bd.sub hx_b (hb_X i) (by omega)) (fx_bd.sub hx_b (hb_X i) (by omega)) (by omega)) (fx_bd.mul (fx_bd.sub hy_b (hb_Y i) (by omega)) (fx_bd.sub hy_b (hb_Y i) (by omega)) (by omega)) (by omega)).n ?_
  refine lv_aload_n hx hb dX3_covers_32 rfl (lv_at hl 2 rfl) ?_
  refine va_get (D := G.1) (ci := 4) (v := .ref h3) (C := RX3) (T := TX3) (N := 7) hx hb hts hin_X3 hown hT.1 hP 0 rfl rfl 3 (by decide) hf_22 (fun _ h9 => h9) rfl dX3_covers_33 ?_
  refine lv_iload_n hx hb dX3_covers_36 rfl (lv_at hl 3 rfl) ?_
  refine kx_dald hx hb hT hP 3 rfl i (by omega) (by omega) dX3_covers_37 ?_
  refine lv_aload_n hx hb dX3_covers_38 rfl (lv_at hl 2 rfl) ?_
  refine va_get (D := G.1) (ci := 4) (v := .ref h3) (C := RX3) (T := TX3) (N := 7) hx hb hts hin_X3 hown hT.1 hP 0 rfl rfl 3 (by decide) hf_22 (fun _ h9 => h9) rfl dX3_covers_39 ?_
  refine lv_iload_n hx hb dX3_covers_42 rfl (lv_at hl 3 rfl) ?_
  refine kx_dald hx hb hT hP 3 rfl i (by omega) (by omega) dX3_covers_43 ?_
  refine lv_dmul hx hb dX3_covers_44 (fx_bd.mul (hb_R i) (hb_R i) (by omega)).n ?_
  refine kx_dle (tgt := 53) hx hb dX3_covers_45 dX3_covers_46 (by decide) (fun c_1 => ?_) (fun c_1 => ?_)
  · refine lv_iconst (v := 0) hx hb dX3_covers_53 (by decide) ?_
    exact W.zret (v := 0) hx hb hr rfl (fun t ht hW => ⟨0, rfl, (if_neg c_1).symm, ht⟩) (fun _ h => nomatch h) dX3_covers_54
  · refine lv_iconst (v := 1) hx hb dX3_covers_49 (by decide) ?_
    refine lv_goto (tgt := 54) hx hb dX3_covers_50 (by decide) ?_
    exact W.zret (v := 1) hx hb hr rfl (fun t ht hW => ⟨1, rfl, (if_pos c_1).symm, ht⟩) (fun _ h => nomatch h) dX3_covers_54
set_option maxHeartbeats 4000000 in
set_option maxRecDepth 100000 in
/-- the nearest FITTED one before -/
theorem c_X3_fittedBefore (l : Launch) (G : kx_G) (h0 : Nat) (h1 : Nat) (h2 : Nat) (h3 : Nat) (h4 : Nat) (h5 : Nat) (n : Nat) (X : Nat → UInt64) (Y : Nat → UInt64) (R : Nat → UInt64) (E : Nat → UInt64) (F : Nat → Int32) (md : Int32) (i0 : Nat) (hb_X : ∀ j, fx_bd 130 (X j)) (hb_Y : ∀ j, fx_bd 130 (Y j)) (hb_R : ∀ j, fx_bd 140 (R j)) (hb_E : ∀ j, fx_bd 220 (E j)) (hn1 : 1 ≤ n) (hn : n ≤ 16) (hi : i0 < n) : Met l yX3_fittedBefore wsX3_fittedBefore ({ frames := 0, cells := 0, slots := 0, locals := 0 } : Room) (kx_PR G [.ref h0, .int (nI i0)] [(h0, .inr (4, [.int (nI n), .ref h1, .ref h2, .ref h3, .ref h4, .ref h5, .int md])), (h1, kx_aD G n X), (h2, kx_aD G n Y), (h3, kx_aD G n R), (h4, kx_aD G n E), (h5, kx_aZ G n F)]) (vp_Si (fun r => r = kx_bef F i0)) 0 0 (fun _ => False) := by
  refine Met.ofW (cc := cX3_fittedBefore) (maxL := 3) (ret := (some .int)) (by decide) rfl ?_
  intro p e s m args below meth c s₁ B hml hv
  obtain ⟨rfl, hP, hT⟩ := hv
  have hx := B.exec
  have hb := B.bytes
  have hr := B.returns
  have hts := atoms_spec (ws := wsX3_fittedBefore) B.pre
  have hown : s.vm.findClass RX3 = some m.cls := findClass_of_methodNamed B.named
  have hlocks := B.notSynchronized
  have hf_28 := hts (.fieldLink RX3 28 "StemShapes$Stem" "isFitted" "[Z") (by decide +kernel)
  have hin_X3 : ∀ w ∈ wsX30, w ∈ wsX3_fittedBefore := by decide +kernel
  have hl := lv_entry ([.ref h0, .int (nI i0)]) (n := 3) (Nat.le_of_ble_eq_true rfl)
  rw [lg_entry_eq]
  generalize (lg_sl ([.ref h0, .int (nI i0)]) ++ List.replicate (3 - (lg_sl ([.ref h0, .int (nI i0)])).length) Slot.unset).toArray = ls at hl ⊢
  have hl : lv_has ls 3 [(0, .ref h0), (1, .int (nI i0))] := hl
  refine lv_iload_n hx hb dX3_fittedBefore_0 rfl (lv_at hl 1 rfl) ?_
  refine lv_iconst (v := 1) hx hb dX3_fittedBefore_1 (by decide) ?_
  refine lv_isub hx hb dX3_fittedBefore_2 ?_
  refine lv_istore_n (lv' := [(2, .int ((nI i0) - 1)), (0, .ref h0), (1, .int (nI i0))]) hx hb dX3_fittedBefore_3 rfl hl (by decide) rfl (fun ls hl => ?_)
  have loop_4 : ∀ (k i : Nat) , i = k → (i ≤ i0) → (kx_bef F i0 = kx_bef F i) → ∀ ls : Array Slot, lv_has ls 3 [(2, .int (nI i - 1)), (1, .int (nI i0)), (0, .ref h0)] → W p l e (headSpec wsX3_fittedBefore ({ frames := 0, cells := 0, slots := 0, locals := 0 } : Room)).room s m [.ref h0, .int (nI i0)].toArray below meth c s.heap [] 0 0 (MQ below (vp_Si (fun r => r = kx_bef F i0)) [.ref h0, .int (nI i0)].toArray s 0 0 (fun _ => False)) (F0 m 4 ls []) := by
    intro k
    induction k with
    | zero =>
      intro i htot hle hq ls hl
      refine lv_iload_n hx hb dX3_fittedBefore_4 rfl (lv_at hl 0 rfl) ?_
      refine lv_if_lt (x := nI i - 1) (tgt := 25) hx hb dX3_fittedBefore_5 (by decide) (fun c_1 => ?_) (fun c_1 => ?_)
      · refine lv_iconst (v := (-1)) hx hb dX3_fittedBefore_25 (by decide) ?_
        exact W.iret (v := (-1)) hx hb hr (fun t ht hW => ⟨(-1), rfl, (by rw [hq, htot]; rfl), ht⟩) (fun _ h => nomatch h) dX3_fittedBefore_26
      · exact absurd (by rw [htot]; decide) c_1
    | succ k ih =>
      intro i htot hle hq ls hl
      subst htot
      rw [nI_pred] at hl
      refine lv_iload_n hx hb dX3_fittedBefore_4 rfl (lv_at hl 0 rfl) ?_
      refine lv_if_lt (x := nI k) (tgt := 25) hx hb dX3_fittedBefore_5 (by decide) (fun c_2 => ?_) (fun c_2 => ?_)
      · have c_2 : k < 0 := (nI_ltI (a := k) (b := 0) (by omega) (by omega)).mp c_2
        exfalso; omega
      · have c_2 : ¬ k < 0 := fun q => c_2 ((nI_ltI (a := k) (b := 0) (by omega) (by omega)).mpr q)
        refine lv_aload_n hx hb dX3_fittedBefore_8 rfl (lv_at hl 2 rfl) ?_
        refine va_get (D := G.1) (ci := 4) (v := .ref h5) (C := RX3) (T := TX3) (N := 7) hx hb hts hin_X3 hown hT.1 hP 0 rfl rfl 5 (by decide) hf_28 (fun _ h9 => h9) rfl dX3_fittedBefore_9 ?_
        refine lv_iload_n hx hb dX3_fittedBefore_12 rfl (lv_at hl 0 rfl) ?_
        refine kx_zald hx hb hT hP 5 rfl k (by omega) (by omega) dX3_fittedBefore_13 ?_
        refine lv_if_eq (x := F k) (tgt := 19) hx hb dX3_fittedBefore_14 (by decide) (fun c_3 => ?_) (fun c_3 => ?_)
        · refine lv_iinc (v := nI k - 1) (lv' := [(2, .int (nI k - 1)), (1, .int (nI i0)), (0, .ref h0)]) hx hb dX3_fittedBefore_19 hl (k := 0) rfl (kx_dec _) (by decide) rfl (fun ls hl => ?_)
          refine lv_goto (tgt := 4) hx hb dX3_fittedBefore_22 (by decide) ?_
          exact ih k (by omega) (by omega) (by rw [hq]; exact if_pos c_3) _ (lv_sub hl [0, 1, 2] rfl)
        · refine lv_iload_n hx hb dX3_fittedBefore_17 rfl (lv_at hl 0 rfl) ?_
          exact W.iret (v := nI k) hx hb hr (fun t ht hW => ⟨nI k, rfl, (by rw [hq]; exact (if_neg c_3).symm), ht⟩) (fun _ h => nomatch h) dX3_fittedBefore_18
  exact loop_4 i0 i0 (by omega) (Nat.le_refl i0) rfl _ (lv_sub hl [0, 2, 1] rfl)
set_option maxHeartbeats 4000000 in
set_option maxRecDepth 100000 in
/-- the nearest FITTED one behind -/
theorem c_X3_fittedBehind (l : Launch) (G : kx_G) (h0 : Nat) (h1 : Nat) (h2 : Nat) (h3 : Nat) (h4 : Nat) (h5 : Nat) (n : Nat) (X : Nat → UInt64) (Y : Nat → UInt64) (R : Nat → UInt64) (E : Nat → UInt64) (F : Nat → Int32) (md : Int32) (i0 : Nat) (hb_X : ∀ j, fx_bd 130 (X j)) (hb_Y : ∀ j, fx_bd 130 (Y j)) (hb_R : ∀ j, fx_bd 140 (R j)) (hb_E : ∀ j, fx_bd 220 (E j)) (hn1 : 1 ≤ n) (hn : n ≤ 16) (hi : i0 < n) : Met l yX3_fittedBehind wsX3_fittedBehind ({ frames := 0, cells := 0, slots := 0, locals := 0 } : Room) (kx_PR G [.ref h0, .int (nI i0)] [(h0, .inr (4, [.int (nI n), .ref h1, .ref h2, .ref h3, .ref h4, .ref h5, .int md])), (h1, kx_aD G n X), (h2, kx_aD G n Y), (h3, kx_aD G n R), (h4, kx_aD G n E), (h5, kx_aZ G n F)]) (vp_Si (fun r => r = kx_beh F n (n - (i0 + 1)))) 0 0 (fun _ => False) := by
  refine Met.ofW (cc := cX3_fittedBehind) (maxL := 3) (ret := (some .int)) (by decide) rfl ?_
  intro p e s m args below meth c s₁ B hml hv
  obtain ⟨rfl, hP, hT⟩ := hv
  have hx := B.exec
  have hb := B.bytes
  have hr := B.returns
  have hts := atoms_spec (ws := wsX3_fittedBehind) B.pre
  have hown : s.vm.findClass RX3 = some m.cls := findClass_of_methodNamed B.named
  have hlocks := B.notSynchronized
  have hf_9 := hts (.fieldLink RX3 9 "StemShapes$Stem" "slices" "I") (by decide +kernel)
  have hin_X3 : ∀ w ∈ wsX30, w ∈ wsX3_fittedBehind := by decide +kernel
  have hf_28 := hts (.fieldLink RX3 28 "StemShapes$Stem" "isFitted" "[Z") (by decide +kernel)
  have hl := lv_entry ([.ref h0, .int (nI i0)]) (n := 3) (Nat.le_of_ble_eq_true rfl)
  rw [lg_entry_eq]
  generalize (lg_sl ([.ref h0, .int (nI i0)]) ++ List.replicate (3 - (lg_sl ([.ref h0, .int (nI i0)])).length) Slot.unset).toArray = ls at hl ⊢
  have hl : lv_has ls 3 [(0, .ref h0), (1, .int (nI i0))] := hl
  refine lv_iload_n hx hb dX3_fittedBehind_0 rfl (lv_at hl 1 rfl) ?_
  refine lv_iconst (v := 1) hx hb dX3_fittedBehind_1 (by decide) ?_
  refine lv_iadd hx hb dX3_fittedBehind_2 ?_
  refine kx_ei (y := nI (i0 + 1)) (nI_add i0 1) ?_
  refine lv_istore_n (lv' := [(2, .int (nI (i0 + 1))), (0, .ref h0), (1, .int (nI i0))]) hx hb dX3_fittedBehind_3 rfl hl (by decide) rfl (fun ls hl => ?_)
  have loop_4 : ∀ (k i : Nat) , i + k = n → (kx_beh F n (n - (i0 + 1)) = kx_beh F n k) → ∀ ls : Array Slot, lv_has ls 3 [(2, .int (nI i)), (1, .int (nI i0)), (0, .ref h0)] → W p l e (headSpec wsX3_fittedBehind ({ frames := 0, cells := 0, slots := 0, locals := 0 } : Room)).room s m [.ref h0, .int (nI i0)].toArray below meth c s.heap [] 0 0 (MQ below (vp_Si (fun r => r = kx_beh F n (n - (i0 + 1)))) [.ref h0, .int (nI i0)].toArray s 0 0 (fun _ => False)) (F0 m 4 ls []) := by
    intro k
    induction k with
    | zero =>
      intro i htot hq ls hl
      refine lv_iload_n hx hb dX3_fittedBehind_4 rfl (lv_at hl 0 rfl) ?_
      refine lv_aload_n hx hb dX3_fittedBehind_5 rfl (lv_at hl 2 rfl) ?_
      refine va_get (D := G.1) (ci := 4) (v := .int (nI n)) (C := RX3) (T := TX3) (N := 7) hx hb hts hin_X3 hown hT.1 hP 0 rfl rfl 0 (by decide) hf_9 (fun _ h9 => h9) rfl dX3_fittedBehind_6 ?_
      refine lv_icmp_ge (x := nI i) (y := nI n) (tgt := 29) hx hb dX3_fittedBehind_9 (by decide) (fun c_1 => ?_) (fun c_1 => ?_)
      · have c_1 : n ≤ i := (nI_leI (a := n) (b := i) (by omega) (by omega)).mp c_1
        refine lv_iconst (v := (-1)) hx hb dX3_fittedBehind_29 (by decide) ?_
        exact W.iret (v := (-1)) hx hb hr (fun t ht hW => ⟨(-1), rfl, (by rw [hq]; rfl), ht⟩) (fun _ h => nomatch h) dX3_fittedBehind_30
      · have c_1 : ¬ n ≤ i := fun q => c_1 ((nI_leI (a := n) (b := i) (by omega) (by omega)).mpr q)
        exfalso; omega
    | succ k ih =>
      intro i htot hq ls hl
      refine lv_iload_n hx hb dX3_fittedBehind_4 rfl (lv_at hl 0 rfl) ?_
      refine lv_aload_n hx hb dX3_fittedBehind_5 rfl (lv_at hl 2 rfl) ?_
      refine va_get (D := G.1) (ci := 4) (v := .int (nI n)) (C := RX3) (T := TX3) (N := 7) hx hb hts hin_X3 hown hT.1 hP 0 rfl rfl 0 (by decide) hf_9 (fun _ h9 => h9) rfl dX3_fittedBehind_6 ?_
      refine lv_icmp_ge (x := nI i) (y := nI n) (tgt := 29) hx hb dX3_fittedBehind_9 (by decide) (fun c_2 => ?_) (fun c_2 => ?_)
      · have c_2 : n ≤ i := (nI_leI (a := n) (b := i) (by omega) (by omega)).mp c_2
        exfalso; omega
      · have c_2 : ¬ n ≤ i := fun q => c_2 ((nI_leI (a := n) (b := i) (by omega) (by omega)).mpr q)
        refine lv_aload_n hx hb dX3_fittedBehind_12 rfl (lv_at hl 2 rfl) ?_
        refine va_get (D := G.1) (ci := 4) (v := .ref h5) (C := RX3) (T := TX3) (N := 7) hx hb hts hin_X3 hown hT.1 hP 0 rfl rfl 5 (by decide) hf_28 (fun _ h9 => h9) rfl dX3_fittedBehind_13 ?_
        refine lv_iload_n hx hb dX3_fittedBehind_16 rfl (lv_at hl 0 rfl) ?_
        refine kx_zald hx hb hT hP 5 rfl i (by omega) (by omega) dX3_fittedBehind_17 ?_
        refine lv_if_eq (x := F i) (tgt := 23) hx hb dX3_fittedBehind_18 (by decide) (fun c_3 => ?_) (fun c_3 => ?_)
        · refine lv_iinc (v := nI (i + 1)) (lv' := [(2, .int (nI (i + 1))), (1, .int (nI i0)), (0, .ref h0)]) hx hb dX3_fittedBehind_23 hl (k := 0) rfl (by show _ + 1 = _; exact nI_1 _) (by decide) rfl (fun ls hl => ?_)
          refine lv_goto (tgt := 4) hx hb dX3_fittedBehind_26 (by decide) ?_
          exact ih (i + 1) (by omega) (by rw [hq]; exact kx_beh_f (by omega) c_3) _ (lv_sub hl [0, 1, 2] rfl)
        · refine lv_iload_n hx hb dX3_fittedBehind_21 rfl (lv_at hl 0 rfl) ?_
          exact W.iret (v := nI i) hx hb hr (fun t ht hW => ⟨nI i, rfl, (by rw [hq]; exact (kx_beh_t (by omega) c_3).symm), ht⟩) (fun _ h => nomatch h) dX3_fittedBehind_22
  exact loop_4 (n - (i0 + 1)) (i0 + 1) (by omega) rfl _ (lv_sub hl [0, 2, 1] rfl)
