set_option maxHeartbeats 4000000 in
set_option maxRecDepth 100000 in
/-- where a shadow lies -/
theorem c_X2_place (l : Launch) (G : kx_G) (h0 : Nat) (h1 : Nat) (h2 : Nat) (h3 : Nat) (h4 : Nat) (h5 : Nat) (h6 : Nat) (n : Nat) (v : Nat) (P : Nat → UInt64) (Q : Nat → UInt64) (Ln : Nat → UInt64) (Th : Nat → Int32) (Mi : Nat → UInt64) (Ha : Nat → UInt64) (i : Nat) (j : Nat) (hb_P : ∀ j, fx_bd 5 (P j)) (hb_Q : ∀ j, fx_bd 5 (Q j)) (hb_Ln : ∀ j, fx_bd 200 (Ln j)) (hb_Mi : ∀ j, fx_bd 14 (Mi j)) (hb_Ha : ∀ j, fx_bd 14 (Ha j))  : Met l yX2_place wsX2_place ({ frames := 0, cells := 0, slots := 0, locals := 0 } : Room) (kx_PR G [.ref h0, .int (nI i), .int (nI j)] [(h0, .inr (3, [.int (nI v), .ref h1, .ref h2, .ref h3, .ref h4, .ref h5, .ref h6])), (h1, kx_aD G v P), (h2, kx_aD G v Q), (h3, kx_aD G v Ln), (h4, kx_aZ G (n * v) Th), (h5, kx_aD G (n * v) Mi), (h6, kx_aD G (n * v) Ha)]) (vp_Si (fun r => r = nI (i * v + j))) 0 0 (fun _ => False) := by
  refine Met.ofW (cc := cX2_place) (maxL := 3) (ret := (some .int)) (by decide) rfl ?_
  intro p e s m args below meth c s₁ B hml hv
  obtain ⟨rfl, hP, hT⟩ := hv
  have hx := B.exec
  have hb := B.bytes
  have hr := B.returns
  have hts := atoms_spec (ws := wsX2_place) B.pre
  have hown : s.vm.findClass RX2 = some m.cls := findClass_of_methodNamed B.named
  have hlocks := B.notSynchronized
  have hf_7 := hts (.fieldLink RX2 7 "StemShapes$Shadows" "views" "I") (by decide +kernel)
  have hin_X2 : ∀ w ∈ wsX20, w ∈ wsX2_place := by decide +kernel
  have hl := lv_entry ([.ref h0, .int (nI i), .int (nI j)]) (n := 3) (Nat.le_of_ble_eq_true rfl)
  rw [lg_entry_eq]
  generalize (lg_sl ([.ref h0, .int (nI i), .int (nI j)]) ++ List.replicate (3 - (lg_sl ([.ref h0, .int (nI i), .int (nI j)])).length) Slot.unset).toArray = ls at hl ⊢
  have hl : lv_has ls 3 [(0, .ref h0), (1, .int (nI i)), (2, .int (nI j))] := hl
  refine lv_iload_n hx hb dX2_place_0 rfl (lv_at hl 1 rfl) ?_
  refine lv_aload_n hx hb dX2_place_1 rfl (lv_at hl 0 rfl) ?_
  refine va_get (D := G.1) (ci := 3) (v := .int (nI v)) (C := RX2) (T := TX2) (N := 7) hx hb hts hin_X2 hown hT.1 hP 0 rfl rfl 0 (by decide) hf_7 (fun _ h9 => h9) rfl dX2_place_2 ?_
  refine lv_imul hx hb dX2_place_5 ?_
  refine kx_ei (y := nI (i * v)) (pk_mul i v) ?_
  refine lv_iload_n hx hb dX2_place_6 rfl (lv_at hl 2 rfl) ?_
  refine lv_iadd hx hb dX2_place_7 ?_
  refine kx_ei (y := nI ((i * v) + j)) (nI_add (i * v) j) ?_
  exact W.iret (v := nI ((i * v) + j)) hx hb hr (fun t ht hW => ⟨nI ((i * v) + j), rfl, rfl, ht⟩) (fun _ h => nomatch h) dX2_place_8
set_option maxHeartbeats 4000000 in
set_option maxRecDepth 100000 in
/-- how many shadows a slice has -/
theorem c_X2_countOf (l : Launch) (G : kx_G) (h0 : Nat) (h1 : Nat) (h2 : Nat) (h3 : Nat) (h4 : Nat) (h5 : Nat) (h6 : Nat) (n : Nat) (v : Nat) (P : Nat → UInt64) (Q : Nat → UInt64) (Ln : Nat → UInt64) (Th : Nat → Int32) (Mi : Nat → UInt64) (Ha : Nat → UInt64) (i0 : Nat) (hb_P : ∀ j, fx_bd 5 (P j)) (hb_Q : ∀ j, fx_bd 5 (Q j)) (hb_Ln : ∀ j, fx_bd 200 (Ln j)) (hb_Mi : ∀ j, fx_bd 14 (Mi j)) (hb_Ha : ∀ j, fx_bd 14 (Ha j)) (hn1 : 1 ≤ n) (hn : n ≤ 16) (hv1 : 1 ≤ v) (hv : v ≤ 8) (hi : i0 < n) : Met l yX2_countOf wsX2_countOf ({ frames := 1, cells := 0, slots := 0, locals := 22 } : Room) (kx_PR G [.ref h0, .int (nI i0)] [(h0, .inr (3, [.int (nI v), .ref h1, .ref h2, .ref h3, .ref h4, .ref h5, .ref h6])), (h1, kx_aD G v P), (h2, kx_aD G v Q), (h3, kx_aD G v Ln), (h4, kx_aZ G (n * v) Th), (h5, kx_aD G (n * v) Mi), (h6, kx_aD G (n * v) Ha)]) (vp_Si (fun r => r = nI (kx_cn (fun j => Th (i0 * v + j)) v))) 0 0 (fun _ => False) := by
  refine Met.ofW (cc := cX2_countOf) (maxL := 4) (ret := (some .int)) (by decide) rfl ?_
  intro p e s m args below meth c s₁ B hml hv
  obtain ⟨rfl, hP, hT⟩ := hv
  have hx := B.exec
  have hb := B.bytes
  have hr := B.returns
  have hts := atoms_spec (ws := wsX2_countOf) B.pre
  have hown : s.vm.findClass RX2 = some m.cls := findClass_of_methodNamed B.named
  have hlocks := B.notSynchronized
  have hf_7 := hts (.fieldLink RX2 7 "StemShapes$Shadows" "views" "I") (by decide +kernel)
  have hin_X2 : ∀ w ∈ wsX20, w ∈ wsX2_countOf := by decide +kernel
  have hf_23 := hts (.fieldLink RX2 23 "StemShapes$Shadows" "there" "[Z") (by decide +kernel)
  have hl := lv_entry ([.ref h0, .int (nI i0)]) (n := 4) (Nat.le_of_ble_eq_true rfl)
  rw [lg_entry_eq]
  generalize (lg_sl ([.ref h0, .int (nI i0)]) ++ List.replicate (4 - (lg_sl ([.ref h0, .int (nI i0)])).length) Slot.unset).toArray = ls at hl ⊢
  have hl : lv_has ls 4 [(0, .ref h0), (1, .int (nI i0))] := hl
  refine lv_iconst (v := 0) hx hb dX2_countOf_0 (by decide) ?_
  refine lv_istore_n (lv' := [(2, .int 0), (0, .ref h0), (1, .int (nI i0))]) hx hb dX2_countOf_1 rfl hl (by decide) rfl (fun ls hl => ?_)
  refine lv_iconst (v := 0) hx hb dX2_countOf_2 (by decide) ?_
  refine lv_istore_n (lv' := [(3, .int 0), (2, .int 0), (0, .ref h0), (1, .int (nI i0))]) hx hb dX2_countOf_3 rfl hl (by decide) rfl (fun ls hl => ?_)
  have loop_4 : ∀ (k i : Nat) (a : Nat), i + k = v → a = kx_cn (fun j => Th (i0 * v + j)) i → ∀ ls : Array Slot, lv_has ls 4 [(3, .int (nI i)), (2, .int (nI a)), (1, .int (nI i0)), (0, .ref h0)] → W p l e (headSpec wsX2_countOf ({ frames := 1, cells := 0, slots := 0, locals := 22 } : Room)).room s m [.ref h0, .int (nI i0)].toArray below meth c s.heap [] 0 0 (MQ below (vp_Si (fun r => r = nI (kx_cn (fun j => Th (i0 * v + j)) v))) [.ref h0, .int (nI i0)].toArray s 0 0 (fun _ => False)) (F0 m 4 ls []) := by
    intro k
    induction k with
    | zero =>
      intro i a htot e_a ls hl
      subst e_a
      have hiv : i = v := by omega
      rw [hiv] at hl
      refine lv_iload_n hx hb dX2_countOf_4 rfl (lv_at hl 0 rfl) ?_
      refine lv_aload_n hx hb dX2_countOf_5 rfl (lv_at hl 3 rfl) ?_
      refine va_get (D := G.1) (ci := 3) (v := .int (nI v)) (C := RX2) (T := TX2) (N := 7) hx hb hts hin_X2 hown hT.1 hP 0 rfl rfl 0 (by decide) hf_7 (fun _ h9 => h9) rfl dX2_countOf_6 ?_
      refine lv_icmp_ge (x := nI v) (y := nI v) (tgt := 35) hx hb dX2_countOf_9 (by decide) (fun c_1 => ?_) (fun c_1 => ?_)
      · have c_1 : v ≤ v := (nI_leI (a := v) (b := v) (by omega) (by omega)).mp c_1
        refine lv_iload_n hx hb dX2_countOf_35 rfl (lv_at hl 1 rfl) ?_
        exact W.iret (v := nI (kx_cn (fun j => Th (i0 * v + j)) v)) hx hb hr (fun t ht hW => ⟨nI (kx_cn (fun j => Th (i0 * v + j)) v), rfl, rfl, ht⟩) (fun _ h => nomatch h) dX2_countOf_36
      · have c_1 : ¬ v ≤ v := fun q => c_1 ((nI_leI (a := v) (b := v) (by omega) (by omega)).mpr q)
        exact absurd (Nat.le_refl v) c_1
    | succ k ih =>
      intro i a htot e_a ls hl
      subst e_a
      refine lv_iload_n hx hb dX2_countOf_4 rfl (lv_at hl 0 rfl) ?_
      refine lv_aload_n hx hb dX2_countOf_5 rfl (lv_at hl 3 rfl) ?_
      refine va_get (D := G.1) (ci := 3) (v := .int (nI v)) (C := RX2) (T := TX2) (N := 7) hx hb hts hin_X2 hown hT.1 hP 0 rfl rfl 0 (by decide) hf_7 (fun _ h9 => h9) rfl dX2_countOf_6 ?_
      refine lv_icmp_ge (x := nI i) (y := nI v) (tgt := 35) hx hb dX2_countOf_9 (by decide) (fun c_2 => ?_) (fun c_2 => ?_)
      · have c_2 : v ≤ i := (nI_leI (a := v) (b := i) (by omega) (by omega)).mp c_2
        exfalso; omega
      · have c_2 : ¬ v ≤ i := fun q => c_2 ((nI_leI (a := v) (b := i) (by omega) (by omega)).mpr q)
        refine lv_aload_n hx hb dX2_countOf_12 rfl (lv_at hl 3 rfl) ?_
        refine va_get (D := G.1) (ci := 3) (v := .ref h4) (C := RX2) (T := TX2) (N := 7) hx hb hts hin_X2 hown hT.1 hP 0 rfl rfl 4 (by decide) hf_23 (fun _ h9 => h9) rfl dX2_countOf_13 ?_
        refine lv_aload_n hx hb dX2_countOf_16 rfl (lv_at hl 3 rfl) ?_
        refine lv_iload_n hx hb dX2_countOf_17 rfl (lv_at hl 2 rfl) ?_
        refine lv_iload_n hx hb dX2_countOf_18 rfl (lv_at hl 0 rfl) ?_
        refine vp_callSi (W.runV (As := [.int (nI i0), .int (nI i)]) (rest := [.ref h4]) ⟨hx, hb, hml, hown, hts⟩ (c_X2_place l G (h0 := h0) (h1 := h1) (h2 := h2) (h3 := h3) (h4 := h4) (h5 := h5) (h6 := h6) (n := n) (v := v) (P := P) (Q := Q) (Ln := Ln) (Th := Th) (Mi := Mi) (Ha := Ha) (i := i0) (j := i) (hb_P := hb_P) (hb_Q := hb_Q) (hb_Ln := hb_Ln) (hb_Mi := hb_Mi) (hb_Ha := hb_Ha)) (cwV 2 hts gX2_countOf_X2_place rfl rfl rfl (by decide +kernel) ⟨Nat.le_of_ble_eq_true rfl, Nat.le_of_ble_eq_true rfl⟩) ⟨kx_PRb, va_recv hT.1 hP (ci := 3) (q0 := 0) rfl rfl, kx_pr hT hP [0, 1, 2, 3, 4, 5, 6] rfl⟩ rfl rfl hl.1 rfl (lv_room (Nat.le_of_ble_eq_true rfl)) dX2_countOf_19 ⟨Nat.zero_le _, Nat.zero_le _⟩) (fun r_3 hw_4 => ?_)
        subst hw_4
        refine kx_zald hx hb hT hP 4 rfl (i0 * v + i) (kx_ix (by omega) (by omega)) (kx_nv (by omega) (by omega)) dX2_countOf_22 ?_
        refine lv_if_eq (x := Th (i0 * v + i)) (tgt := 29) hx hb dX2_countOf_23 (by decide) (fun c_5 => ?_) (fun c_5 => ?_)
        · refine lv_iinc (v := nI (i + 1)) (lv' := [(3, .int (nI (i + 1))), (2, .int (nI (kx_cn (fun j => Th (i0 * v + j)) i))), (1, .int (nI i0)), (0, .ref h0)]) hx hb dX2_countOf_29 hl (k := 0) rfl (by show _ + 1 = _; exact nI_1 _) (by decide) rfl (fun ls hl => ?_)
          refine lv_goto (tgt := 4) hx hb dX2_countOf_32 (by decide) ?_
          exact ih (i + 1) _ (by omega) ((kx_cn_f (th := (fun j => Th (i0 * v + j))) c_5).symm) _ (lv_sub hl [0, 1, 2, 3] rfl)
        · refine lv_iinc (v := nI (kx_cn (fun j => Th (i0 * v + j)) i + 1)) (lv' := [(2, .int (nI (kx_cn (fun j => Th (i0 * v + j)) i + 1))), (3, .int (nI i)), (1, .int (nI i0)), (0, .ref h0)]) hx hb dX2_countOf_26 hl (k := 1) rfl (by show _ + 1 = _; exact nI_1 _) (by decide) rfl (fun ls hl => ?_)
          refine lv_iinc (v := nI (i + 1)) (lv' := [(3, .int (nI (i + 1))), (2, .int (nI (kx_cn (fun j => Th (i0 * v + j)) i + 1))), (1, .int (nI i0)), (0, .ref h0)]) hx hb dX2_countOf_29 hl (k := 1) rfl (by show _ + 1 = _; exact nI_1 _) (by decide) rfl (fun ls hl => ?_)
          refine lv_goto (tgt := 4) hx hb dX2_countOf_32 (by decide) ?_
          exact ih (i + 1) _ (by omega) ((kx_cn_t (th := (fun j => Th (i0 * v + j))) c_5).symm) _ (lv_sub hl [0, 1, 2, 3] rfl)
  exact loop_4 v 0 _ (by omega) rfl _ (lv_sub hl [0, 1, 3, 2] rfl)
set_option maxHeartbeats 4000000 in
set_option maxRecDepth 100000 in
/-- the sum of HALF / ROOT -/
theorem c_X2_sumOfRadii (l : Launch) (G : kx_G) (h0 : Nat) (h1 : Nat) (h2 : Nat) (h3 : Nat) (h4 : Nat) (h5 : Nat) (h6 : Nat) (n : Nat) (v : Nat) (P : Nat → UInt64) (Q : Nat → UInt64) (Ln : Nat → UInt64) (Th : Nat → Int32) (Mi : Nat → UInt64) (Ha : Nat → UInt64) (i0 : Nat) (hb_P : ∀ j, fx_bd 5 (P j)) (hb_Q : ∀ j, fx_bd 5 (Q j)) (hb_Ln : ∀ j, fx_bd 200 (Ln j)) (hb_Mi : ∀ j, fx_bd 14 (Mi j)) (hb_Ha : ∀ j, fx_bd 14 (Ha j)) (hn1 : 1 ≤ n) (hn : n ≤ 16) (hv1 : 1 ≤ v) (hv : v ≤ 8) (hi : i0 < n) (hl_Ln : ∀ j, j < v → fx_pl 61 (Ln j)) : Met l yX2_sumOfRadii wsX2_sumOfRadii ({ frames := 1, cells := 0, slots := 0, locals := 22 } : Room) (kx_PR G [.ref h0, .int (nI i0)] [(h0, .inr (3, [.int (nI v), .ref h1, .ref h2, .ref h3, .ref h4, .ref h5, .ref h6])), (h1, kx_aD G v P), (h2, kx_aD G v Q), (h3, kx_aD G v Ln), (h4, kx_aZ G (n * v) Th), (h5, kx_aD G (n * v) Mi), (h6, kx_aD G (n * v) Ha)]) (vp_Sd (fun r => r = kx_si (fun j => Th (i0 * v + j)) (fun j => FP.ddiv (Ha (i0 * v + j)) (Ln j)) v)) 0 0 (fun _ => False) := by
  refine Met.ofW (cc := cX2_sumOfRadii) (maxL := 6) (ret := (some .double)) (by decide) rfl ?_
  intro p e s m args below meth c s₁ B hml hv
  obtain ⟨rfl, hP, hT⟩ := hv
  have hx := B.exec
  have hb := B.bytes
  have hr := B.returns
  have hts := atoms_spec (ws := wsX2_sumOfRadii) B.pre
  have hown : s.vm.findClass RX2 = some m.cls := findClass_of_methodNamed B.named
  have hlocks := B.notSynchronized
  have hf_7 := hts (.fieldLink RX2 7 "StemShapes$Shadows" "views" "I") (by decide +kernel)
  have hin_X2 : ∀ w ∈ wsX20, w ∈ wsX2_sumOfRadii := by decide +kernel
  have hf_23 := hts (.fieldLink RX2 23 "StemShapes$Shadows" "there" "[Z") (by decide +kernel)
  have hf_30 := hts (.fieldLink RX2 30 "StemShapes$Shadows" "half" "[D") (by decide +kernel)
  have hf_20 := hts (.fieldLink RX2 20 "StemShapes$Shadows" "length" "[D") (by decide +kernel)
  have hl := lv_entry ([.ref h0, .int (nI i0)]) (n := 6) (Nat.le_of_ble_eq_true rfl)
  rw [lg_entry_eq]
  generalize (lg_sl ([.ref h0, .int (nI i0)]) ++ List.replicate (6 - (lg_sl ([.ref h0, .int (nI i0)])).length) Slot.unset).toArray = ls at hl ⊢
  have hl : lv_has ls 6 [(0, .ref h0), (1, .int (nI i0))] := hl
  refine lv_dconst0 hx hb dX2_sumOfRadii_0 ?_
  refine lv_dstore_n (lv' := [(2, .double FP.dconst0), (0, .ref h0), (1, .int (nI i0))]) hx hb dX2_sumOfRadii_1 rfl hl (by decide) rfl (fun ls hl => ?_)
  refine lv_iconst (v := 0) hx hb dX2_sumOfRadii_2 (by decide) ?_
  refine lv_istore (lv' := [(4, .int 0), (2, .double FP.dconst0), (0, .ref h0), (1, .int (nI i0))]) hx hb dX2_sumOfRadii_3 hl (by decide) rfl (fun ls hl => ?_)
  have loop_5 : ∀ (k i : Nat) (a : UInt64), i + k = v → a = kx_si (fun j => Th (i0 * v + j)) (fun j => FP.ddiv (Ha (i0 * v + j)) (Ln j)) i → ∀ ls : Array Slot, lv_has ls 6 [(4, .int (nI i)), (2, .double a), (1, .int (nI i0)), (0, .ref h0)] → W p l e (headSpec wsX2_sumOfRadii ({ frames := 1, cells := 0, slots := 0, locals := 22 } : Room)).room s m [.ref h0, .int (nI i0)].toArray below meth c s.heap [] 0 0 (MQ below (vp_Sd (fun r => r = kx_si (fun j => Th (i0 * v + j)) (fun j => FP.ddiv (Ha (i0 * v + j)) (Ln j)) v)) [.ref h0, .int (nI i0)].toArray s 0 0 (fun _ => False)) (F0 m 5 ls []) := by
    intro k
    induction k with
    | zero =>
      intro i a htot e_a ls hl
      subst e_a
      have hiv : i = v := by omega
      rw [hiv] at hl
      refine lv_iload hx hb dX2_sumOfRadii_5 (lv_at hl 0 rfl) ?_
      refine lv_aload_n hx hb dX2_sumOfRadii_7 rfl (lv_at hl 3 rfl) ?_
      refine va_get (D := G.1) (ci := 3) (v := .int (nI v)) (C := RX2) (T := TX2) (N := 7) hx hb hts hin_X2 hown hT.1 hP 0 rfl rfl 0 (by decide) hf_7 (fun _ h9 => h9) rfl dX2_sumOfRadii_8 ?_
      refine lv_icmp_ge (x := nI v) (y := nI v) (tgt := 57) hx hb dX2_sumOfRadii_11 (by decide) (fun c_1 => ?_) (fun c_1 => ?_)
      · have c_1 : v ≤ v := (nI_leI (a := v) (b := v) (by omega) (by omega)).mp c_1
        refine lv_dload_n hx hb dX2_sumOfRadii_57 rfl (lv_at hl 1 rfl) ?_
        exact W.dret (v := kx_si (fun j => Th (i0 * v + j)) (fun j => FP.ddiv (Ha (i0 * v + j)) (Ln j)) v) hx hb hr (fun t ht hW => ⟨kx_si (fun j => Th (i0 * v + j)) (fun j => FP.ddiv (Ha (i0 * v + j)) (Ln j)) v, rfl, rfl, ht⟩) (fun _ h => nomatch h) dX2_sumOfRadii_58
      · have c_1 : ¬ v ≤ v := fun q => c_1 ((nI_leI (a := v) (b := v) (by omega) (by omega)).mpr q)
        exact absurd (Nat.le_refl v) c_1
    | succ k ih =>
      intro i a htot e_a ls hl
      subst e_a
      refine lv_iload hx hb dX2_sumOfRadii_5 (lv_at hl 0 rfl) ?_
      refine lv_aload_n hx hb dX2_sumOfRadii_7 rfl (lv_at hl 3 rfl) ?_
      refine va_get (D := G.1) (ci := 3) (v := .int (nI v)) (C := RX2) (T := TX2) (N := 7) hx hb hts hin_X2 hown hT.1 hP 0 rfl rfl 0 (by decide) hf_7 (fun _ h9 => h9) rfl dX2_sumOfRadii_8 ?_
      refine lv_icmp_ge (x := nI i) (y := nI v) (tgt := 57) hx hb dX2_sumOfRadii_11 (by decide) (fun c_2 => ?_) (fun c_2 => ?_)
      · have c_2 : v ≤ i := (nI_leI (a := v) (b := i) (by omega) (by omega)).mp c_2
        exfalso; omega
      · have c_2 : ¬ v ≤ i := fun q => c_2 ((nI_leI (a := v) (b := i) (by omega) (by omega)).mpr q)
        refine lv_aload_n hx hb dX2_sumOfRadii_14 rfl (lv_at hl 3 rfl) ?_
        refine lv_iload_n hx hb dX2_sumOfRadii_15 rfl (lv_at hl 2 rfl) ?_
        refine lv_iload hx hb dX2_sumOfRadii_16 (lv_at hl 0 rfl) ?_
        refine vp_callSi (W.runV (As := [.int (nI i0), .int (nI i)]) (rest := []) ⟨hx, hb, hml, hown, hts⟩ (c_X2_place l G (h0 := h0) (h1 := h1) (h2 := h2) (h3 := h3) (h4 := h4) (h5 := h5) (h6 := h6) (n := n) (v := v) (P := P) (Q := Q) (Ln := Ln) (Th := Th) (Mi := Mi) (Ha := Ha) (i := i0) (j := i) (hb_P := hb_P) (hb_Q := hb_Q) (hb_Ln := hb_Ln) (hb_Mi := hb_Mi) (hb_Ha := hb_Ha)) (cwV 2 hts gX2_sumOfRadii_X2_place rfl rfl rfl (by decide +kernel) ⟨Nat.le_of_ble_eq_true rfl, Nat.le_of_ble_eq_true rfl⟩) ⟨kx_PRb, va_recv hT.1 hP (ci := 3) (q0 := 0) rfl rfl, kx_pr hT hP [0, 1, 2, 3, 4, 5, 6] rfl⟩ rfl rfl hl.1 rfl (lv_room (Nat.le_of_ble_eq_true rfl)) dX2_sumOfRadii_18 ⟨Nat.zero_le _, Nat.zero_le _⟩) (fun r_3 hw_4 => ?_)
        subst hw_4
        refine lv_istore (lv' := [(5, .int (nI (i0 * v + i))), (4, .int (nI i)), (2, .double (kx_si (fun j => Th (i0 * v + j)) (fun j => FP.ddiv (Ha (i0 * v + j)) (Ln j)) i)), (1, .int (nI i0)), (0, .ref h0)]) hx hb dX2_sumOfRadii_21 hl (by decide) rfl (fun ls hl => ?_)
        refine lv_aload_n hx hb dX2_sumOfRadii_23 rfl (lv_at hl 4 rfl) ?_
        refine va_get (D := G.1) (ci := 3) (v := .ref h4) (C := RX2) (T := TX2) (N := 7) hx hb hts hin_X2 hown hT.1 hP 0 rfl rfl 4 (by decide) hf_23 (fun _ h9 => h9) rfl dX2_sumOfRadii_24 ?_
        refine lv_iload hx hb dX2_sumOfRadii_27 (lv_at hl 0 rfl) ?_
        refine kx_zald hx hb hT hP 4 rfl (i0 * v + i) (kx_ix (by omega) (by omega)) (kx_nv (by omega) (by omega)) dX2_sumOfRadii_29 ?_
        refine lv_if_eq (x := Th (i0 * v + i)) (tgt := 51) hx hb dX2_sumOfRadii_30 (by decide) (fun c_5 => ?_) (fun c_5 => ?_)
        · refine lv_iinc (v := nI (i + 1)) (lv' := [(4, .int (nI (i + 1))), (5, .int (nI (i0 * v + i))), (2, .double (kx_si (fun j => Th (i0 * v + j)) (fun j => FP.ddiv (Ha (i0 * v + j)) (Ln j)) i)), (1, .int (nI i0)), (0, .ref h0)]) hx hb dX2_sumOfRadii_51 hl (k := 1) rfl (by show _ + 1 = _; exact nI_1 _) (by decide) rfl (fun ls hl => ?_)
          refine lv_goto (tgt := 5) hx hb dX2_sumOfRadii_54 (by decide) ?_
          exact ih (i + 1) _ (by omega) ((kx_si_f (th := (fun j => Th (i0 * v + j))) c_5).symm) _ (lv_sub hl [0, 2, 3, 4] rfl)
        · refine lv_dload_n hx hb dX2_sumOfRadii_33 rfl (lv_at hl 2 rfl) ?_
          refine lv_aload_n hx hb dX2_sumOfRadii_34 rfl (lv_at hl 4 rfl) ?_
          refine va_get (D := G.1) (ci := 3) (v := .ref h6) (C := RX2) (T := TX2) (N := 7) hx hb hts hin_X2 hown hT.1 hP 0 rfl rfl 6 (by decide) hf_30 (fun _ h9 => h9) rfl dX2_sumOfRadii_35 ?_
          refine lv_iload hx hb dX2_sumOfRadii_38 (lv_at hl 0 rfl) ?_
          refine kx_dald hx hb hT hP 6 rfl (i0 * v + i) (kx_ix (by omega) (by omega)) (kx_nv (by omega) (by omega)) dX2_sumOfRadii_40 ?_
          refine lv_aload_n hx hb dX2_sumOfRadii_41 rfl (lv_at hl 4 rfl) ?_
          refine va_get (D := G.1) (ci := 3) (v := .ref h3) (C := RX2) (T := TX2) (N := 7) hx hb hts hin_X2 hown hT.1 hP 0 rfl rfl 3 (by decide) hf_20 (fun _ h9 => h9) rfl dX2_sumOfRadii_42 ?_
          refine lv_iload hx hb dX2_sumOfRadii_45 (lv_at hl 1 rfl) ?_
          refine kx_dald hx hb hT hP 3 rfl i (by omega) (by omega) dX2_sumOfRadii_47 ?_
          refine lv_ddiv hx hb dX2_sumOfRadii_48 (fx_bd.div (hb_Ha (i0 * v + i)) (hl_Ln i (by omega)).lb (by omega)).n ?_
          refine lv_dadd hx hb dX2_sumOfRadii_49 (fx_bd.add (kx_si_bn (K := 76) (n := v) (fun j hj => (hb_Ha (i0 * v + j)).div (hl_Ln j hj).lb (by omega)) i (by omega) (by omega)) (fx_bd.div (hb_Ha (i0 * v + i)) (hl_Ln i (by omega)).lb (by omega)) (by omega)).n ?_
          refine lv_dstore_n (lv' := [(2, .double (FP.dadd (kx_si (fun j => Th (i0 * v + j)) (fun j => FP.ddiv (Ha (i0 * v + j)) (Ln j)) i) (FP.ddiv (Ha (i0 * v + i)) (Ln i)))), (5, .int (nI (i0 * v + i))), (4, .int (nI i)), (1, .int (nI i0)), (0, .ref h0)]) hx hb dX2_sumOfRadii_50 rfl hl (by decide) rfl (fun ls hl => ?_)
          refine lv_iinc (v := nI (i + 1)) (lv' := [(4, .int (nI (i + 1))), (2, .double (FP.dadd (kx_si (fun j => Th (i0 * v + j)) (fun j => FP.ddiv (Ha (i0 * v + j)) (Ln j)) i) (FP.ddiv (Ha (i0 * v + i)) (Ln i)))), (5, .int (nI (i0 * v + i))), (1, .int (nI i0)), (0, .ref h0)]) hx hb dX2_sumOfRadii_51 hl (k := 2) rfl (by show _ + 1 = _; exact nI_1 _) (by decide) rfl (fun ls hl => ?_)
          refine lv_goto (tgt := 5) hx hb dX2_sumOfRadii_54 (by decide) ?_
          exact ih (i + 1) _ (by omega) ((kx_si_t (th := (fun j => Th (i0 * v + j))) (g := (fun j => FP.ddiv (Ha (i0 * v + j)) (Ln j))) c_5).symm) _ (lv_sub hl [0, 1, 3, 4] rfl)
  exact loop_5 v 0 _ (by omega) rfl _ (lv_sub hl [0, 1, 3, 2] rfl)
set_option maxHeartbeats 4000000 in
set_option maxRecDepth 100000 in
/-- RESIDUAL -/
theorem c_X2_sumOfErrors (l : Launch) (G : kx_G) (h0 : Nat) (h1 : Nat) (h2 : Nat) (h3 : Nat) (h4 : Nat) (h5 : Nat) (h6 : Nat) (n : Nat) (v : Nat) (P : Nat → UInt64) (Q : Nat → UInt64) (Ln : Nat → UInt64) (Th : Nat → Int32) (Mi : Nat → UInt64) (Ha : Nat → UInt64) (i0 : Nat) (x : UInt64) (y : UInt64) (hb_P : ∀ j, fx_bd 5 (P j)) (hb_Q : ∀ j, fx_bd 5 (Q j)) (hb_Ln : ∀ j, fx_bd 200 (Ln j)) (hb_Mi : ∀ j, fx_bd 14 (Mi j)) (hb_Ha : ∀ j, fx_bd 14 (Ha j)) (hn1 : 1 ≤ n) (hn : n ≤ 16) (hv1 : 1 ≤ v) (hv : v ≤ 8) (hi : i0 < n) (hx_b : fx_bd 90 x) (hy_b : fx_bd 90 y) : Met l yX2_sumOfErrors wsX2_sumOfErrors ({ frames := 1, cells := 0, slots := 0, locals := 22 } : Room) (kx_PR G [.ref h0, .int (nI i0), .double x, .double y] [(h0, .inr (3, [.int (nI v), .ref h1, .ref h2, .ref h3, .ref h4, .ref h5, .ref h6])), (h1, kx_aD G v P), (h2, kx_aD G v Q), (h3, kx_aD G v Ln), (h4, kx_aZ G (n * v) Th), (h5, kx_aD G (n * v) Mi), (h6, kx_aD G (n * v) Ha)]) (vp_Sd (fun r => r = kx_si (fun j => Th (i0 * v + j)) (fun j => kx_sqe (Mi (i0 * v + j)) (P j) (Q j) x y) v)) 0 0 (fun _ => False) := by
  refine Met.ofW (cc := cX2_sumOfErrors) (maxL := 12) (ret := (some .double)) (by decide) rfl ?_
  intro p e s m args below meth c s₁ B hml hv
  obtain ⟨rfl, hP, hT⟩ := hv
  have hx := B.exec
  have hb := B.bytes
  have hr := B.returns
  have hts := atoms_spec (ws := wsX2_sumOfErrors) B.pre
  have hown : s.vm.findClass RX2 = some m.cls := findClass_of_methodNamed B.named
  have hlocks := B.notSynchronized
  have hf_7 := hts (.fieldLink RX2 7 "StemShapes$Shadows" "views" "I") (by decide +kernel)
  have hin_X2 : ∀ w ∈ wsX20, w ∈ wsX2_sumOfErrors := by decide +kernel
  have hf_23 := hts (.fieldLink RX2 23 "StemShapes$Shadows" "there" "[Z") (by decide +kernel)
  have hf_27 := hts (.fieldLink RX2 27 "StemShapes$Shadows" "middle" "[D") (by decide +kernel)
  have hf_13 := hts (.fieldLink RX2 13 "StemShapes$Shadows" "p" "[D") (by decide +kernel)
  have hf_17 := hts (.fieldLink RX2 17 "StemShapes$Shadows" "q" "[D") (by decide +kernel)
  have hl := lv_entry ([.ref h0, .int (nI i0), .double x, .double y]) (n := 12) (Nat.le_of_ble_eq_true rfl)
  rw [lg_entry_eq]
  generalize (lg_sl ([.ref h0, .int (nI i0), .double x, .double y]) ++ List.replicate (12 - (lg_sl ([.ref h0, .int (nI i0), .double x, .double y])).length) Slot.unset).toArray = ls at hl ⊢
  have hl : lv_has ls 12 [(0, .ref h0), (1, .int (nI i0)), (2, .double x), (4, .double y)] := hl
  refine lv_dconst0 hx hb dX2_sumOfErrors_0 ?_
  refine lv_dstore (lv' := [(6, .double FP.dconst0), (0, .ref h0), (1, .int (nI i0)), (2, .double x), (4, .double y)]) hx hb dX2_sumOfErrors_1 hl (by decide) rfl (fun ls hl => ?_)
  refine lv_iconst (v := 0) hx hb dX2_sumOfErrors_3 (by decide) ?_
  refine lv_istore (lv' := [(8, .int 0), (6, .double FP.dconst0), (0, .ref h0), (1, .int (nI i0)), (2, .double x), (4, .double y)]) hx hb dX2_sumOfErrors_4 hl (by decide) rfl (fun ls hl => ?_)
  have loop_6 : ∀ (k i : Nat) (a : UInt64), i + k = v → a = kx_si (fun j => Th (i0 * v + j)) (fun j => kx_sqe (Mi (i0 * v + j)) (P j) (Q j) x y) i → ∀ ls : Array Slot, lv_has ls 12 [(8, .int (nI i)), (6, .double a), (4, .double y), (2, .double x), (1, .int (nI i0)), (0, .ref h0)] → W p l e (headSpec wsX2_sumOfErrors ({ frames := 1, cells := 0, slots := 0, locals := 22 } : Room)).room s m [.ref h0, .int (nI i0), .double x, .double y].toArray below meth c s.heap [] 0 0 (MQ below (vp_Sd (fun r => r = kx_si (fun j => Th (i0 * v + j)) (fun j => kx_sqe (Mi (i0 * v + j)) (P j) (Q j) x y) v)) [.ref h0, .int (nI i0), .double x, .double y].toArray s 0 0 (fun _ => False)) (F0 m 6 ls []) := by
    intro k
    induction k with
    | zero =>
      intro i a htot e_a ls hl
      subst e_a
      have hiv : i = v := by omega
      rw [hiv] at hl
      refine lv_iload hx hb dX2_sumOfErrors_6 (lv_at hl 0 rfl) ?_
      refine lv_aload_n hx hb dX2_sumOfErrors_8 rfl (lv_at hl 5 rfl) ?_
      refine va_get (D := G.1) (ci := 3) (v := .int (nI v)) (C := RX2) (T := TX2) (N := 7) hx hb hts hin_X2 hown hT.1 hP 0 rfl rfl 0 (by decide) hf_7 (fun _ h9 => h9) rfl dX2_sumOfErrors_9 ?_
      refine lv_icmp_ge (x := nI v) (y := nI v) (tgt := 80) hx hb dX2_sumOfErrors_12 (by decide) (fun c_1 => ?_) (fun c_1 => ?_)
      · have c_1 : v ≤ v := (nI_leI (a := v) (b := v) (by omega) (by omega)).mp c_1
        refine lv_dload hx hb dX2_sumOfErrors_80 (lv_at hl 1 rfl) ?_
        exact W.dret (v := kx_si (fun j => Th (i0 * v + j)) (fun j => kx_sqe (Mi (i0 * v + j)) (P j) (Q j) x y) v) hx hb hr (fun t ht hW => ⟨kx_si (fun j => Th (i0 * v + j)) (fun j => kx_sqe (Mi (i0 * v + j)) (P j) (Q j) x y) v, rfl, rfl, ht⟩) (fun _ h => nomatch h) dX2_sumOfErrors_82
      · have c_1 : ¬ v ≤ v := fun q => c_1 ((nI_leI (a := v) (b := v) (by omega) (by omega)).mpr q)
        exact absurd (Nat.le_refl v) c_1
    | succ k ih =>
      intro i a htot e_a ls hl
      subst e_a
      refine lv_iload hx hb dX2_sumOfErrors_6 (lv_at hl 0 rfl) ?_
      refine lv_aload_n hx hb dX2_sumOfErrors_8 rfl (lv_at hl 5 rfl) ?_
      refine va_get (D := G.1) (ci := 3) (v := .int (nI v)) (C := RX2) (T := TX2) (N := 7) hx hb hts hin_X2 hown hT.1 hP 0 rfl rfl 0 (by decide) hf_7 (fun _ h9 => h9) rfl dX2_sumOfErrors_9 ?_
      refine lv_icmp_ge (x := nI i) (y := nI v) (tgt := 80) hx hb dX2_sumOfErrors_12 (by decide) (fun c_2 => ?_) (fun c_2 => ?_)
      · have c_2 : v ≤ i := (nI_leI (a := v) (b := i) (by omega) (by omega)).mp c_2
        exfalso; omega
      · have c_2 : ¬ v ≤ i := fun q => c_2 ((nI_leI (a := v) (b := i) (by omega) (by omega)).mpr q)
        refine lv_aload_n hx hb dX2_sumOfErrors_15 rfl (lv_at hl 5 rfl) ?_
        refine lv_iload_n hx hb dX2_sumOfErrors_16 rfl (lv_at hl 4 rfl) ?_
        refine lv_iload hx hb dX2_sumOfErrors_17 (lv_at hl 0 rfl) ?_
        refine vp_callSi (W.runV (As := [.int (nI i0), .int (nI i)]) (rest := []) ⟨hx, hb, hml, hown, hts⟩ (c_X2_place l G (h0 := h0) (h1 := h1) (h2 := h2) (h3 := h3) (h4 := h4) (h5 := h5) (h6 := h6) (n := n) (v := v) (P := P) (Q := Q) (Ln := Ln) (Th := Th) (Mi := Mi) (Ha := Ha) (i := i0) (j := i) (hb_P := hb_P) (hb_Q := hb_Q) (hb_Ln := hb_Ln) (hb_Mi := hb_Mi) (hb_Ha := hb_Ha)) (cwV 2 hts gX2_sumOfErrors_X2_place rfl rfl rfl (by decide +kernel) ⟨Nat.le_of_ble_eq_true rfl, Nat.le_of_ble_eq_true rfl⟩) ⟨kx_PRb, va_recv hT.1 hP (ci := 3) (q0 := 0) rfl rfl, kx_pr hT hP [0, 1, 2, 3, 4, 5, 6] rfl⟩ rfl rfl hl.1 rfl (lv_room (Nat.le_of_ble_eq_true rfl)) dX2_sumOfErrors_19 ⟨Nat.zero_le _, Nat.zero_le _⟩) (fun r_3 hw_4 => ?_)
        subst hw_4
        refine lv_istore (lv' := [(9, .int (nI (i0 * v + i))), (8, .int (nI i)), (6, .double (kx_si (fun j => Th (i0 * v + j)) (fun j => kx_sqe (Mi (i0 * v + j)) (P j) (Q j) x y) i)), (4, .double y), (2, .double x), (1, .int (nI i0)), (0, .ref h0)]) hx hb dX2_sumOfErrors_22 hl (by decide) rfl (fun ls hl => ?_)
        refine lv_aload_n hx hb dX2_sumOfErrors_24 rfl (lv_at hl 6 rfl) ?_
        refine va_get (D := G.1) (ci := 3) (v := .ref h4) (C := RX2) (T := TX2) (N := 7) hx hb hts hin_X2 hown hT.1 hP 0 rfl rfl 4 (by decide) hf_23 (fun _ h9 => h9) rfl dX2_sumOfErrors_25 ?_
        refine lv_iload hx hb dX2_sumOfErrors_28 (lv_at hl 0 rfl) ?_
        refine kx_zald hx hb hT hP 4 rfl (i0 * v + i) (kx_ix (by omega) (by omega)) (kx_nv (by omega) (by omega)) dX2_sumOfErrors_30 ?_
        refine lv_if_eq (x := Th (i0 * v + i)) (tgt := 74) hx hb dX2_sumOfErrors_31 (by decide) (fun c_5 => ?_) (fun c_5 => ?_)
        · refine lv_iinc (v := nI (i + 1)) (lv' := [(8, .int (nI (i + 1))), (9, .int (nI (i0 * v + i))), (6, .double (kx_si (fun j => Th (i0 * v + j)) (fun j => kx_sqe (Mi (i0 * v + j)) (P j) (Q j) x y) i)), (4, .double y), (2, .double x), (1, .int (nI i0)), (0, .ref h0)]) hx hb dX2_sumOfErrors_74 hl (k := 1) rfl (by show _ + 1 = _; exact nI_1 _) (by decide) rfl (fun ls hl => ?_)
          refine lv_goto (tgt := 6) hx hb dX2_sumOfErrors_77 (by decide) ?_
          exact ih (i + 1) _ (by omega) ((kx_si_f (th := (fun j => Th (i0 * v + j))) c_5).symm) _ (lv_sub hl [0, 2, 3, 4, 5, 6] rfl)
        · refine lv_aload_n hx hb dX2_sumOfErrors_34 rfl (lv_at hl 6 rfl) ?_
          refine va_get (D := G.1) (ci := 3) (v := .ref h5) (C := RX2) (T := TX2) (N := 7) hx hb hts hin_X2 hown hT.1 hP 0 rfl rfl 5 (by decide) hf_27 (fun _ h9 => h9) rfl dX2_sumOfErrors_35 ?_
          refine lv_iload hx hb dX2_sumOfErrors_38 (lv_at hl 0 rfl) ?_
          refine kx_dald hx hb hT hP 5 rfl (i0 * v + i) (kx_ix (by omega) (by omega)) (kx_nv (by omega) (by omega)) dX2_sumOfErrors_40 ?_
          refine lv_aload_n hx hb dX2_sumOfErrors_41 rfl (lv_at hl 6 rfl) ?_
          refine va_get (D := G.1) (ci := 3) (v := .ref h1) (C := RX2) (T := TX2) (N := 7) hx hb hts hin_X2 hown hT.1 hP 0 rfl rfl 1 (by decide) hf_13 (fun _ h9 => h9) rfl dX2_sumOfErrors_42 ?_
          refine lv_iload hx hb dX2_sumOfErrors_45 (lv_at hl 1 rfl) ?_
          refine kx_dald hx hb hT hP 1 rfl i (by omega) (by omega) dX2_sumOfErrors_47 ?_
          refine lv_dload_n hx hb dX2_sumOfErrors_48 rfl (lv_at hl 4 rfl) ?_
          refine lv_dmul hx hb dX2_sumOfErrors_49 (fx_bd.mul (hb_P i) hx_b (by omega)).n ?_
          refine lv_dsub hx hb dX2_sumOfErrors_50 (fx_bd.sub (hb_Mi (i0 * v + i)) (fx_bd.mul (hb_P i) hx_b (by omega)) (by omega)).n ?_
          refine lv_aload_n hx hb dX2_sumOfErrors_51 rfl (lv_at hl 6 rfl) ?_
          refine va_get (D := G.1) (ci := 3) (v := .ref h2) (C := RX2) (T := TX2) (N := 7) hx hb hts hin_X2 hown hT.1 hP 0 rfl rfl 2 (by decide) hf_17 (fun _ h9 => h9) rfl dX2_sumOfErrors_52 ?_
          refine lv_iload hx hb dX2_sumOfErrors_55 (lv_at hl 1 rfl) ?_
          refine kx_dald hx hb hT hP 2 rfl i (by omega) (by omega) dX2_sumOfErrors_57 ?_
          refine lv_dload hx hb dX2_sumOfErrors_58 (lv_at hl 3 rfl) ?_
          refine lv_dmul hx hb dX2_sumOfErrors_60 (fx_bd.mul (hb_Q i) hy_b (by omega)).n ?_
          refine lv_dsub hx hb dX2_sumOfErrors_61 (fx_bd.sub (fx_bd.sub (hb_Mi (i0 * v + i)) (fx_bd.mul (hb_P i) hx_b (by omega)) (by omega)) (fx_bd.mul (hb_Q i) hy_b (by omega)) (by omega)).n ?_
          refine lv_dstore (lv' := [(10, .double (FP.dsub (FP.dsub (Mi (i0 * v + i)) (FP.dmul (P i) x)) (FP.dmul (Q i) y))), (9, .int (nI (i0 * v + i))), (8, .int (nI i)), (6, .double (kx_si (fun j => Th (i0 * v + j)) (fun j => kx_sqe (Mi (i0 * v + j)) (P j) (Q j) x y) i)), (4, .double y), (2, .double x), (1, .int (nI i0)), (0, .ref h0)]) hx hb dX2_sumOfErrors_62 hl (by decide) rfl (fun ls hl => ?_)
          refine lv_dload hx hb dX2_sumOfErrors_64 (lv_at hl 3 rfl) ?_
          refine lv_dload hx hb dX2_sumOfErrors_66 (lv_at hl 0 rfl) ?_
          refine lv_dload hx hb dX2_sumOfErrors_68 (lv_at hl 0 rfl) ?_
          refine lv_dmul hx hb dX2_sumOfErrors_70 (fx_bd.mul (fx_bd.sub (fx_bd.sub (hb_Mi (i0 * v + i)) (fx_bd.mul (hb_P i) hx_b (by omega)) (by omega)) (fx_bd.mul (hb_Q i) hy_b (by omega)) (by omega)) (fx_bd.sub (fx_bd.sub (hb_Mi (i0 * v + i)) (fx_bd.mul (hb_P i) hx_b (by omega)) (by omega)) (fx_bd.mul (hb_Q i) hy_b (by omega)) (by omega)) (by omega)).n ?_
          refine lv_dadd hx hb dX2_sumOfErrors_71 (fx_bd.add (kx_si_bd (K := 201) (fun j => kx_sqe_bd (hb_Mi (i0 * v + j)) (hb_P j) (hb_Q j) hx_b hy_b) i (by omega)) (fx_bd.mul (fx_bd.sub (fx_bd.sub (hb_Mi (i0 * v + i)) (fx_bd.mul (hb_P i) hx_b (by omega)) (by omega)) (fx_bd.mul (hb_Q i) hy_b (by omega)) (by omega)) (fx_bd.sub (fx_bd.sub (hb_Mi (i0 * v + i)) (fx_bd.mul (hb_P i) hx_b (by omega)) (by omega)) (fx_bd.mul (hb_Q i) hy_b (by omega)) (by omega)) (by omega)) (by omega)).n ?_
          refine lv_dstore (lv' := [(6, .double (FP.dadd (kx_si (fun j => Th (i0 * v + j)) (fun j => kx_sqe (Mi (i0 * v + j)) (P j) (Q j) x y) i) (FP.dmul (FP.dsub (FP.dsub (Mi (i0 * v + i)) (FP.dmul (P i) x)) (FP.dmul (Q i) y)) (FP.dsub (FP.dsub (Mi (i0 * v + i)) (FP.dmul (P i) x)) (FP.dmul (Q i) y))))), (10, .double (FP.dsub (FP.dsub (Mi (i0 * v + i)) (FP.dmul (P i) x)) (FP.dmul (Q i) y))), (9, .int (nI (i0 * v + i))), (8, .int (nI i)), (4, .double y), (2, .double x), (1, .int (nI i0)), (0, .ref h0)]) hx hb dX2_sumOfErrors_72 hl (by decide) rfl (fun ls hl => ?_)
          refine lv_iinc (v := nI (i + 1)) (lv' := [(8, .int (nI (i + 1))), (6, .double (FP.dadd (kx_si (fun j => Th (i0 * v + j)) (fun j => kx_sqe (Mi (i0 * v + j)) (P j) (Q j) x y) i) (FP.dmul (FP.dsub (FP.dsub (Mi (i0 * v + i)) (FP.dmul (P i) x)) (FP.dmul (Q i) y)) (FP.dsub (FP.dsub (Mi (i0 * v + i)) (FP.dmul (P i) x)) (FP.dmul (Q i) y))))), (10, .double (FP.dsub (FP.dsub (Mi (i0 * v + i)) (FP.dmul (P i) x)) (FP.dmul (Q i) y))), (9, .int (nI (i0 * v + i))), (4, .double y), (2, .double x), (1, .int (nI i0)), (0, .ref h0)]) hx hb dX2_sumOfErrors_74 hl (k := 3) rfl (by show _ + 1 = _; exact nI_1 _) (by decide) rfl (fun ls hl => ?_)
          refine lv_goto (tgt := 6) hx hb dX2_sumOfErrors_77 (by decide) ?_
          exact ih (i + 1) _ (by omega) ((kx_si_t (th := (fun j => Th (i0 * v + j))) (g := (fun j => kx_sqe (Mi (i0 * v + j)) (P j) (Q j) x y)) c_5).symm) _ (lv_sub hl [0, 1, 4, 5, 6, 7] rfl)
  exact loop_6 v 0 _ (by omega) rfl _ (lv_sub hl [0, 1, 5, 4, 3, 2] rfl)
set_option maxHeartbeats 4000000 in
set_option maxRecDepth 100000 in
/-- a mended number -/
theorem c_X3_between (l : Launch) (G : kx_G) (h1 : Nat) (n : Nat) (X : Nat → UInt64) (i : Nat) (a : Nat) (b : Nat) (hb_X : ∀ j, fx_bd 140 (X j)) (hn : n ≤ 16) (hi : i < n) (ha : a < n) (hb9 : b < n) (hab : a = b ∨ (a < i ∧ i < b)) : Met l yX3_between wsX3_between ({ frames := 0, cells := 0, slots := 0, locals := 0 } : Room) (kx_PR G [.ref h1, .int (nI i), .int (nI a), .int (nI b)] [(h1, kx_aD G n X)]) (vp_Sd (fun r => r = kx_btw X i a b)) 0 0 (fun _ => False) := by
  refine Met.ofW (cc := cX3_between) (maxL := 4) (ret := (some .double)) (by decide) rfl ?_
  intro p e s m args below meth c s₁ B hml hv
  obtain ⟨rfl, hP, hT⟩ := hv
  have hx := B.exec
  have hb := B.bytes
  have hr := B.returns
  have hts := atoms_spec (ws := wsX3_between) B.pre
  have hown : s.vm.findClass RX3 = some m.cls := findClass_of_methodNamed B.named
  have hlocks := B.notSynchronized
  have hl := lv_entry ([.ref h1, .int (nI i), .int (nI a), .int (nI b)]) (n := 4) (Nat.le_of_ble_eq_true rfl)
  rw [lg_entry_eq]
  generalize (lg_sl ([.ref h1, .int (nI i), .int (nI a), .int (nI b)]) ++ List.replicate (4 - (lg_sl ([.ref h1, .int (nI i), .int (nI a), .int (nI b)])).length) Slot.unset).toArray = ls at hl ⊢
  have hl : lv_has ls 4 [(0, .ref h1), (1, .int (nI i)), (2, .int (nI a)), (3, .int (nI b))] := hl
  refine lv_iload_n hx hb dX3_between_0 rfl (lv_at hl 2 rfl) ?_
  refine lv_iload_n hx hb dX3_between_1 rfl (lv_at hl 3 rfl) ?_
  refine lv_icmp_ne (x := nI a) (y := nI b) (tgt := 9) hx hb dX3_between_2 (by decide) (fun c_1 => ?_) (fun c_1 => ?_)
  · have c_1 : ¬ a = b := fun q => c_1 ((nI_eq (a := a) (b := b) (by omega) (by omega)).mpr q)
    refine lv_aload_n hx hb dX3_between_9 rfl (lv_at hl 0 rfl) ?_
    refine lv_iload_n hx hb dX3_between_10 rfl (lv_at hl 2 rfl) ?_
    refine kx_dald hx hb hT hP 0 rfl a (by omega) (by omega) dX3_between_11 ?_
    refine lv_aload_n hx hb dX3_between_12 rfl (lv_at hl 0 rfl) ?_
    refine lv_iload_n hx hb dX3_between_13 rfl (lv_at hl 3 rfl) ?_
    refine kx_dald hx hb hT hP 0 rfl b (by omega) (by omega) dX3_between_14 ?_
    refine lv_aload_n hx hb dX3_between_15 rfl (lv_at hl 0 rfl) ?_
    refine lv_iload_n hx hb dX3_between_16 rfl (lv_at hl 2 rfl) ?_
    refine kx_dald hx hb hT hP 0 rfl a (by omega) (by omega) dX3_between_17 ?_
    refine lv_dsub hx hb dX3_between_18 (fx_bd.sub (hb_X b) (hb_X a) (by omega)).n ?_
    refine lv_iload_n hx hb dX3_between_19 rfl (lv_at hl 1 rfl) ?_
    refine lv_iload_n hx hb dX3_between_20 rfl (lv_at hl 2 rfl) ?_
    refine lv_isub hx hb dX3_between_21 ?_
    refine kx_ei (y := nI (i - a)) (pk_sub (a := i) (b := a) (by omega)) ?_
    refine lv_i2d hx hb dX3_between_22 ?_
    refine lv_dmul hx hb dX3_between_23 (fx_bd.mul (fx_bd.sub (hb_X b) (hb_X a) (by omega)) fx_i (by omega)).n ?_
    refine lv_iload_n hx hb dX3_between_24 rfl (lv_at hl 3 rfl) ?_
    refine lv_iload_n hx hb dX3_between_25 rfl (lv_at hl 2 rfl) ?_
    refine lv_isub hx hb dX3_between_26 ?_
    refine kx_ei (y := nI (b - a)) (pk_sub (a := b) (b := a) (by omega)) ?_
    refine lv_i2d hx hb dX3_between_27 ?_
    refine lv_ddiv hx hb dX3_between_28 (fx_bd.div (fx_bd.mul (fx_bd.sub (hb_X b) (hb_X a) (by omega)) fx_i (by omega)) (fx_il (nI_ne0 (by omega) (by omega))) (by omega)).n ?_
    refine lv_dadd hx hb dX3_between_29 (fx_bd.add (hb_X a) (fx_bd.div (fx_bd.mul (fx_bd.sub (hb_X b) (hb_X a) (by omega)) fx_i (by omega)) (fx_il (nI_ne0 (by omega) (by omega))) (by omega)) (by omega)).n ?_
    exact W.dret (v := FP.dadd (X a) (FP.ddiv (FP.dmul (FP.dsub (X b) (X a)) (FP.i2d (nI (i - a)))) (FP.i2d (nI (b - a))))) hx hb hr (fun t ht hW => ⟨FP.dadd (X a) (FP.ddiv (FP.dmul (FP.dsub (X b) (X a)) (FP.i2d (nI (i - a)))) (FP.i2d (nI (b - a)))), rfl, (if_neg c_1).symm, ht⟩) (fun _ h => nomatch h) dX3_between_30
  · have c_1 : a = b := (nI_eq (a := a) (b := b) (by omega) (by omega)).mp c_1
    refine lv_aload_n hx hb dX3_between_5 rfl (lv_at hl 0 rfl) ?_
    refine lv_iload_n hx hb dX3_between_6 rfl (lv_at hl 2 rfl) ?_
    refine kx_dald hx hb hT hP 0 rfl a (by omega) (by omega) dX3_between_7 ?_
    exact W.dret (v := X a) hx hb hr (fun t ht hW => ⟨X a, rfl, (if_pos c_1).symm, ht⟩) (fun _ h => nomatch h) dX3_between_8
set_option maxHeartbeats 4000000 in
set_option maxRecDepth 100000 in
/-- CELLS -/
theorem c_X3_cellsOf (l : Launch) (G : kx_G) (h0 : Nat) (h1 : Nat) (h2 : Nat) (h3 : Nat) (h4 : Nat) (h5 : Nat) (n : Nat) (X : Nat → UInt64) (Y : Nat → UInt64) (R : Nat → UInt64) (E : Nat → UInt64) (F : Nat → Int32) (md : Int32) (i0 : Nat) (hb_X : ∀ j, fx_bd 130 (X j)) (hb_Y : ∀ j, fx_bd 130 (Y j)) (hb_R : ∀ j, fx_bd 140 (R j)) (hb_E : ∀ j, fx_bd 220 (E j)) (hn1 : 1 ≤ n) (hn : n ≤ 16) (hi : i0 < n) : Met l yX3_cellsOf wsX3_cellsOf ({ frames := 1, cells := 0, slots := 0, locals := 29 } : Room) (kx_PR G [.ref h0, .int (nI i0)] [(h0, .inr (4, [.int (nI n), .ref h1, .ref h2, .ref h3, .ref h4, .ref h5, .int md])), (h1, kx_aD G n X), (h2, kx_aD G n Y), (h3, kx_aD G n R), (h4, kx_aD G n E), (h5, kx_aZ G n F)]) (vp_Si (fun r => r = nI (kx_c2 (fun a b => kx_cov (X i0) (Y i0) (R i0) (FP.i2d (kx_z a)) (FP.i2d (kx_z b))) 81))) 0 0 (fun _ => False) := by
  refine Met.ofW (cc := cX3_cellsOf) (maxL := 5) (ret := (some .int)) (by decide) rfl ?_
  intro p e s m args below meth c s₁ B hml hv
  obtain ⟨rfl, hP, hT⟩ := hv
  have hx := B.exec
  have hb := B.bytes
  have hr := B.returns
  have hts := atoms_spec (ws := wsX3_cellsOf) B.pre
  have hown : s.vm.findClass RX3 = some m.cls := findClass_of_methodNamed B.named
  have hlocks := B.notSynchronized
  have hl := lv_entry ([.ref h0, .int (nI i0)]) (n := 5) (Nat.le_of_ble_eq_true rfl)
  rw [lg_entry_eq]
  generalize (lg_sl ([.ref h0, .int (nI i0)]) ++ List.replicate (5 - (lg_sl ([.ref h0, .int (nI i0)])).length) Slot.unset).toArray = ls at hl ⊢
  have hl : lv_has ls 5 [(0, .ref h0), (1, .int (nI i0))] := hl
  refine lv_iconst (v := 0) hx hb dX3_cellsOf_0 (by decide) ?_
  refine lv_istore_n (lv' := [(2, .int 0), (0, .ref h0), (1, .int (nI i0))]) hx hb dX3_cellsOf_1 rfl hl (by decide) rfl (fun ls hl => ?_)
  refine lv_bipush (v := (-40)) hx hb dX3_cellsOf_2 (by decide) ?_
  refine lv_istore_n (lv' := [(3, .int (-40)), (2, .int 0), (0, .ref h0), (1, .int (nI i0))]) hx hb dX3_cellsOf_4 rfl hl (by decide) rfl (fun ls hl => ?_)
  have loop_5 : ∀ (k i : Nat) (a : Nat), i + k = 81 → a = kx_c2 (fun a b => kx_cov (X i0) (Y i0) (R i0) (FP.i2d (kx_z a)) (FP.i2d (kx_z b))) i → ∀ ls : Array Slot, lv_has ls 5 [(3, .int (kx_z i)), (2, .int (nI a)), (1, .int (nI i0)), (0, .ref h0)] → W p l e (headSpec wsX3_cellsOf ({ frames := 1, cells := 0, slots := 0, locals := 29 } : Room)).room s m [.ref h0, .int (nI i0)].toArray below meth c s.heap [] 0 0 (MQ below (vp_Si (fun r => r = nI (kx_c2 (fun a b => kx_cov (X i0) (Y i0) (R i0) (FP.i2d (kx_z a)) (FP.i2d (kx_z b))) 81))) [.ref h0, .int (nI i0)].toArray s 0 0 (fun _ => False)) (F0 m 5 ls []) := by
    intro k
    induction k with
    | zero =>
      intro i a htot e_a ls hl
      subst e_a
      refine lv_iload_n hx hb dX3_cellsOf_5 rfl (lv_at hl 0 rfl) ?_
      refine lv_bipush (v := 40) hx hb dX3_cellsOf_6 (by decide) ?_
      refine lv_icmp_gt (x := kx_z i) (y := 40) (tgt := 50) hx hb dX3_cellsOf_8 (by decide) (fun c_1 => ?_) (fun c_1 => ?_)
      · refine lv_iload_n hx hb dX3_cellsOf_50 rfl (lv_at hl 1 rfl) ?_
        exact W.iret (v := nI (kx_c2 (fun a b => kx_cov (X i0) (Y i0) (R i0) (FP.i2d (kx_z a)) (FP.i2d (kx_z b))) i)) hx hb hr (fun t ht hW => ⟨nI (kx_c2 (fun a b => kx_cov (X i0) (Y i0) (R i0) (FP.i2d (kx_z a)) (FP.i2d (kx_z b))) i), rfl, (by rw [show i = 81 from by omega]), ht⟩) (fun _ h => nomatch h) dX3_cellsOf_51
      · exact absurd ((kx_z_gt (by omega)).mpr (by omega)) c_1
    | succ k ih =>
      intro i a htot e_a ls hl
      subst e_a
      refine lv_iload_n hx hb dX3_cellsOf_5 rfl (lv_at hl 0 rfl) ?_
      refine lv_bipush (v := 40) hx hb dX3_cellsOf_6 (by decide) ?_
      refine lv_icmp_gt (x := kx_z i) (y := 40) (tgt := 50) hx hb dX3_cellsOf_8 (by decide) (fun c_2 => ?_) (fun c_2 => ?_)
      · exact absurd ((kx_z_gt (by omega)).mp c_2) (by omega)
      · refine lv_bipush (v := (-40)) hx hb dX3_cellsOf_11 (by decide) ?_
        refine lv_istore (lv' := [(4, .int (-40)), (3, .int (kx_z i)), (2, .int (nI (kx_c2 (fun a b => kx_cov (X i0) (Y i0) (R i0) (FP.i2d (kx_z a)) (FP.i2d (kx_z b))) i))), (1, .int (nI i0)), (0, .ref h0)]) hx hb dX3_cellsOf_13 hl (by decide) rfl (fun ls hl => ?_)
        have loop_15 : ∀ (k2 j : Nat) (b : Nat), j + k2 = 81 → b = kx_c2 (fun a b => kx_cov (X i0) (Y i0) (R i0) (FP.i2d (kx_z a)) (FP.i2d (kx_z b))) i + kx_cn ((fun a b => kx_cov (X i0) (Y i0) (R i0) (FP.i2d (kx_z a)) (FP.i2d (kx_z b))) i) j → ∀ ls : Array Slot, lv_has ls 5 [(4, .int (kx_z j)), (3, .int (kx_z i)), (2, .int (nI b)), (1, .int (nI i0)), (0, .ref h0)] → W p l e (headSpec wsX3_cellsOf ({ frames := 1, cells := 0, slots := 0, locals := 29 } : Room)).room s m [.ref h0, .int (nI i0)].toArray below meth c s.heap [] 0 0 (MQ below (vp_Si (fun r => r = nI (kx_c2 (fun a b => kx_cov (X i0) (Y i0) (R i0) (FP.i2d (kx_z a)) (FP.i2d (kx_z b))) 81))) [.ref h0, .int (nI i0)].toArray s 0 0 (fun _ => False)) (F0 m 15 ls []) := by
          intro k2
          induction k2 with
          | zero =>
            intro j b htot e_b ls hl
            subst e_b
            have hj81 : j = 81 := by omega
            have hl : lv_has ls 5 [(4, .int (kx_z j)), (3, .int (kx_z i)), (2, .int (nI (kx_c2 (fun a b => kx_cov (X i0) (Y i0) (R i0) (FP.i2d (kx_z a)) (FP.i2d (kx_z b))) (i + 1)))), (1, .int (nI i0)), (0, .ref h0)] := by rw [hj81] at hl ⊢; exact hl
            refine lv_iload hx hb dX3_cellsOf_15 (lv_at hl 0 rfl) ?_
            refine lv_bipush (v := 40) hx hb dX3_cellsOf_17 (by decide) ?_
            refine lv_icmp_gt (x := kx_z j) (y := 40) (tgt := 44) hx hb dX3_cellsOf_19 (by decide) (fun c_3 => ?_) (fun c_3 => ?_)
            · refine lv_iinc (v := kx_z (i + 1)) (lv' := [(3, .int (kx_z (i + 1))), (4, .int (kx_z j)), (2, .int (nI (kx_c2 (fun a b => kx_cov (X i0) (Y i0) (R i0) (FP.i2d (kx_z a)) (FP.i2d (kx_z b))) (i + 1)))), (1, .int (nI i0)), (0, .ref h0)]) hx hb dX3_cellsOf_44 hl (k := 1) rfl (kx_z_1 i) (by decide) rfl (fun ls hl => ?_)
              refine lv_goto (tgt := 5) hx hb dX3_cellsOf_47 (by decide) ?_
              exact ih (i + 1) _ (by omega) rfl _ (lv_sub hl [0, 2, 3, 4] rfl)
            · exact absurd ((kx_z_gt (by omega)).mpr (by omega)) c_3
          | succ k2 ih =>
            intro j b htot e_b ls hl
            subst e_b
            refine lv_iload hx hb dX3_cellsOf_15 (lv_at hl 0 rfl) ?_
            refine lv_bipush (v := 40) hx hb dX3_cellsOf_17 (by decide) ?_
            refine lv_icmp_gt (x := kx_z j) (y := 40) (tgt := 44) hx hb dX3_cellsOf_19 (by decide) (fun c_4 => ?_) (fun c_4 => ?_)
            · exact absurd ((kx_z_gt (by omega)).mp c_4) (by omega)
            · refine lv_aload_n hx hb dX3_cellsOf_22 rfl (lv_at hl 4 rfl) ?_
              refine lv_iload_n hx hb dX3_cellsOf_23 rfl (lv_at hl 3 rfl) ?_
              refine lv_iload_n hx hb dX3_cellsOf_24 rfl (lv_at hl 1 rfl) ?_
              refine lv_i2d hx hb dX3_cellsOf_25 ?_
              refine lv_iload hx hb dX3_cellsOf_26 (lv_at hl 0 rfl) ?_
              refine lv_i2d hx hb dX3_cellsOf_28 ?_
              refine vp_callSi (W.runV (As := [.int (nI i0), .double (FP.i2d (kx_z i)), .double (FP.i2d (kx_z j))]) (rest := []) ⟨hx, hb, hml, hown, hts⟩ (c_X3_covers l G (h0 := h0) (h1 := h1) (h2 := h2) (h3 := h3) (h4 := h4) (h5 := h5) (n := n) (X := X) (Y := Y) (R := R) (E := E) (F := F) (md := md) (i := i0) (x := FP.i2d (kx_z i)) (y := FP.i2d (kx_z j)) (hb_X := hb_X) (hb_Y := hb_Y) (hb_R := hb_R) (hb_E := hb_E) (hn1 := (by omega)) (hn := (by omega)) (hi := (by omega)) (hx_b := (fx_i.mono (by omega))) (hy_b := (fx_i.mono (by omega)))) (cwV 3 hts gX3_cellsOf_X3_covers rfl rfl rfl (by decide +kernel) ⟨Nat.le_of_ble_eq_true rfl, Nat.le_of_ble_eq_true rfl⟩) ⟨kx_PRb, va_recv hT.1 hP (ci := 4) (q0 := 0) rfl rfl, kx_pr hT hP [0, 1, 2, 3, 4, 5] rfl⟩ rfl rfl hl.1 rfl (lv_room (Nat.le_of_ble_eq_true rfl)) dX3_cellsOf_29 ⟨Nat.zero_le _, Nat.zero_le _⟩) (fun r_5 hw_6 => ?_)
              subst hw_6
              refine lv_if_eq (x := kx_cov (X i0) (Y i0) (R i0) (FP.i2d (kx_z i)) (FP.i2d (kx_z j))) (tgt := 38) hx hb dX3_cellsOf_32 (by decide) (fun c_7 => ?_) (fun c_7 => ?_)
              · refine lv_iinc (v := kx_z (j + 1)) (lv' := [(4, .int (kx_z (j + 1))), (3, .int (kx_z i)), (2, .int (nI (kx_c2 (fun a b => kx_cov (X i0) (Y i0) (R i0) (FP.i2d (kx_z a)) (FP.i2d (kx_z b))) i + kx_cn ((fun a b => kx_cov (X i0) (Y i0) (R i0) (FP.i2d (kx_z a)) (FP.i2d (kx_z b))) i) j))), (1, .int (nI i0)), (0, .ref h0)]) hx hb dX3_cellsOf_38 hl (k := 0) rfl (kx_z_1 j) (by decide) rfl (fun ls hl => ?_)
                refine lv_goto (tgt := 15) hx hb dX3_cellsOf_41 (by decide) ?_
                exact ih (j + 1) _ (by omega) (by rw [kx_cn_f (th := (fun a b => kx_cov (X i0) (Y i0) (R i0) (FP.i2d (kx_z a)) (FP.i2d (kx_z b))) i) c_7]) _ (lv_sub hl [0, 1, 2, 3, 4] rfl)
              · refine lv_iinc (v := nI (kx_c2 (fun a b => kx_cov (X i0) (Y i0) (R i0) (FP.i2d (kx_z a)) (FP.i2d (kx_z b))) i + kx_cn ((fun a b => kx_cov (X i0) (Y i0) (R i0) (FP.i2d (kx_z a)) (FP.i2d (kx_z b))) i) j + 1)) (lv' := [(2, .int (nI (kx_c2 (fun a b => kx_cov (X i0) (Y i0) (R i0) (FP.i2d (kx_z a)) (FP.i2d (kx_z b))) i + kx_cn ((fun a b => kx_cov (X i0) (Y i0) (R i0) (FP.i2d (kx_z a)) (FP.i2d (kx_z b))) i) j + 1))), (4, .int (kx_z j)), (3, .int (kx_z i)), (1, .int (nI i0)), (0, .ref h0)]) hx hb dX3_cellsOf_35 hl (k := 2) rfl (by show _ + 1 = _; exact nI_1 _) (by decide) rfl (fun ls hl => ?_)
                refine lv_iinc (v := kx_z (j + 1)) (lv' := [(4, .int (kx_z (j + 1))), (2, .int (nI (kx_c2 (fun a b => kx_cov (X i0) (Y i0) (R i0) (FP.i2d (kx_z a)) (FP.i2d (kx_z b))) i + kx_cn ((fun a b => kx_cov (X i0) (Y i0) (R i0) (FP.i2d (kx_z a)) (FP.i2d (kx_z b))) i) j + 1))), (3, .int (kx_z i)), (1, .int (nI i0)), (0, .ref h0)]) hx hb dX3_cellsOf_38 hl (k := 1) rfl (kx_z_1 j) (by decide) rfl (fun ls hl => ?_)
                refine lv_goto (tgt := 15) hx hb dX3_cellsOf_41 (by decide) ?_
                exact ih (j + 1) _ (by omega) (by rw [kx_cn_t (th := (fun a b => kx_cov (X i0) (Y i0) (R i0) (FP.i2d (kx_z a)) (FP.i2d (kx_z b))) i) c_7]; rfl) _ (lv_sub hl [0, 2, 1, 3, 4] rfl)
        exact loop_15 81 0 _ (by omega) rfl _ (lv_sub hl [0, 1, 2, 3, 4] rfl)
  exact loop_5 81 0 _ (by omega) rfl _ (lv_sub hl [0, 1, 3, 2] rfl)
set_option maxHeartbeats 4000000 in
set_option maxRecDepth 100000 in
/-- TURNED -/
theorem c_X0_turnedX (l : Launch) (G : kx_G) (h0 : Nat) (h1 : Nat) (h2 : Nat) (n : Nat) (KX : Nat → UInt64) (KY : Nat → UInt64) (kt : Int32) (i : Nat) (tn : Int32) (hb_KX : ∀ j, fx_bd 130 (KX j)) (hb_KY : ∀ j, fx_bd 130 (KY j)) (hn1 : 1 ≤ n) (hn : n ≤ 16) (hi : i < n) : Met l yX0_turnedX wsX0_turnedX ({ frames := 0, cells := 0, slots := 0, locals := 0 } : Room) (kx_PR G [.ref h0, .int (nI i), .int tn] [(h0, .inr (1, [.ref h1, .ref h2, .int kt])), (h1, kx_aD G n KX), (h2, kx_aD G n KY)]) (vp_Sd (fun r => r = kx_qx KX KY tn i)) 0 0 (fun _ => False) := by
  refine Met.ofW (cc := cX0_turnedX) (maxL := 3) (ret := (some .double)) (by decide) rfl ?_
  intro p e s m args below meth c s₁ B hml hv
  obtain ⟨rfl, hP, hT⟩ := hv
  have hx := B.exec
  have hb := B.bytes
  have hr := B.returns
  have hts := atoms_spec (ws := wsX0_turnedX) B.pre
  have hown : s.vm.findClass RX0 = some m.cls := findClass_of_methodNamed B.named
  have hlocks := B.notSynchronized
  have hf_9 := hts (.fieldLink RX0 9 "StemShapes$Kept" "x" "[D") (by decide +kernel)
  have hin_X0 : ∀ w ∈ wsX00, w ∈ wsX0_turnedX := by decide +kernel
  have hf_15 := hts (.fieldLink RX0 15 "StemShapes$Kept" "y" "[D") (by decide +kernel)
  have hl := lv_entry ([.ref h0, .int (nI i), .int tn]) (n := 3) (Nat.le_of_ble_eq_true rfl)
  rw [lg_entry_eq]
  generalize (lg_sl ([.ref h0, .int (nI i), .int tn]) ++ List.replicate (3 - (lg_sl ([.ref h0, .int (nI i), .int tn])).length) Slot.unset).toArray = ls at hl ⊢
  have hl : lv_has ls 3 [(0, .ref h0), (1, .int (nI i)), (2, .int tn)] := hl
  refine lv_iload_n hx hb dX0_turnedX_0 rfl (lv_at hl 2 rfl) ?_
  by_cases c_1 : tn = 0
  · refine lv_tableIn (x := tn) (off := 27) (tgt := 28) hx hb dX0_turnedX_1 (by rw [c_1]; decide) (by rw [c_1]; decide) (by rw [c_1]; rfl) (by decide) ?_
    refine lv_aload_n hx hb dX0_turnedX_28 rfl (lv_at hl 0 rfl) ?_
    refine va_get (D := G.1) (ci := 1) (v := .ref h1) (C := RX0) (T := TX0) (N := 3) hx hb hts hin_X0 hown hT.1 hP 0 rfl rfl 0 (by decide) hf_9 (fun _ h9 => h9) rfl dX0_turnedX_29 ?_
    refine lv_iload_n hx hb dX0_turnedX_32 rfl (lv_at hl 1 rfl) ?_
    refine kx_dald hx hb hT hP 1 rfl i (by omega) (by omega) dX0_turnedX_33 ?_
    exact W.dret (v := KX i) hx hb hr (fun t ht hW => ⟨KX i, rfl, (by unfold kx_qx; rw [if_pos c_1]), ht⟩) (fun _ h => nomatch h) dX0_turnedX_34
  ·
    by_cases c_2 : tn = 1
    · refine lv_tableIn (x := tn) (off := 34) (tgt := 35) hx hb dX0_turnedX_1 (by rw [c_2]; decide) (by rw [c_2]; decide) (by rw [c_2]; rfl) (by decide) ?_
      refine lv_aload_n hx hb dX0_turnedX_35 rfl (lv_at hl 0 rfl) ?_
      refine va_get (D := G.1) (ci := 1) (v := .ref h2) (C := RX0) (T := TX0) (N := 3) hx hb hts hin_X0 hown hT.1 hP 0 rfl rfl 1 (by decide) hf_15 (fun _ h9 => h9) rfl dX0_turnedX_36 ?_
      refine lv_iload_n hx hb dX0_turnedX_39 rfl (lv_at hl 1 rfl) ?_
      refine kx_dald hx hb hT hP 2 rfl i (by omega) (by omega) dX0_turnedX_40 ?_
      refine lv_dneg hx hb dX0_turnedX_41 ?_
      exact W.dret (v := FP.dneg (KY i)) hx hb hr (fun t ht hW => ⟨FP.dneg (KY i), rfl, (by unfold kx_qx; rw [if_neg c_1]; rw [if_pos c_2]), ht⟩) (fun _ h => nomatch h) dX0_turnedX_42
    ·
      by_cases c_3 : tn = 2
      · refine lv_tableIn (x := tn) (off := 42) (tgt := 43) hx hb dX0_turnedX_1 (by rw [c_3]; decide) (by rw [c_3]; decide) (by rw [c_3]; rfl) (by decide) ?_
        refine lv_aload_n hx hb dX0_turnedX_43 rfl (lv_at hl 0 rfl) ?_
        refine va_get (D := G.1) (ci := 1) (v := .ref h1) (C := RX0) (T := TX0) (N := 3) hx hb hts hin_X0 hown hT.1 hP 0 rfl rfl 0 (by decide) hf_9 (fun _ h9 => h9) rfl dX0_turnedX_44 ?_
        refine lv_iload_n hx hb dX0_turnedX_47 rfl (lv_at hl 1 rfl) ?_
        refine kx_dald hx hb hT hP 1 rfl i (by omega) (by omega) dX0_turnedX_48 ?_
        refine lv_dneg hx hb dX0_turnedX_49 ?_
        exact W.dret (v := FP.dneg (KX i)) hx hb hr (fun t ht hW => ⟨FP.dneg (KX i), rfl, (by unfold kx_qx; rw [if_neg c_1]; rw [if_neg c_2]; rw [if_pos c_3]), ht⟩) (fun _ h => nomatch h) dX0_turnedX_50
      · skip
        refine lv_tableOut (x := tn) (tgt := 51) hx hb dX0_turnedX_1 (by have := lv_neT c_1 (a := 0) rfl; have := lv_neT c_2 (a := 1) rfl; have := lv_neT c_3 (a := 2) rfl; omega) (by decide) ?_
        refine lv_aload_n hx hb dX0_turnedX_51 rfl (lv_at hl 0 rfl) ?_
        refine va_get (D := G.1) (ci := 1) (v := .ref h2) (C := RX0) (T := TX0) (N := 3) hx hb hts hin_X0 hown hT.1 hP 0 rfl rfl 1 (by decide) hf_15 (fun _ h9 => h9) rfl dX0_turnedX_52 ?_
        refine lv_iload_n hx hb dX0_turnedX_55 rfl (lv_at hl 1 rfl) ?_
        refine kx_dald hx hb hT hP 2 rfl i (by omega) (by omega) dX0_turnedX_56 ?_
        exact W.dret (v := KY i) hx hb hr (fun t ht hW => ⟨KY i, rfl, (by unfold kx_qx; rw [if_neg c_1]; rw [if_neg c_2]; rw [if_neg c_3]), ht⟩) (fun _ h => nomatch h) dX0_turnedX_57
set_option maxHeartbeats 4000000 in
set_option maxRecDepth 100000 in
/-- TURNED -/
theorem c_X0_turnedY (l : Launch) (G : kx_G) (h0 : Nat) (h1 : Nat) (h2 : Nat) (n : Nat) (KX : Nat → UInt64) (KY : Nat → UInt64) (kt : Int32) (i : Nat) (tn : Int32) (hb_KX : ∀ j, fx_bd 130 (KX j)) (hb_KY : ∀ j, fx_bd 130 (KY j)) (hn1 : 1 ≤ n) (hn : n ≤ 16) (hi : i < n) : Met l yX0_turnedY wsX0_turnedY ({ frames := 0, cells := 0, slots := 0, locals := 0 } : Room) (kx_PR G [.ref h0, .int (nI i), .int tn] [(h0, .inr (1, [.ref h1, .ref h2, .int kt])), (h1, kx_aD G n KX), (h2, kx_aD G n KY)]) (vp_Sd (fun r => r = kx_qy KX KY tn i)) 0 0 (fun _ => False) := by
  refine Met.ofW (cc := cX0_turnedY) (maxL := 3) (ret := (some .double)) (by decide) rfl ?_
  intro p e s m args below meth c s₁ B hml hv
  obtain ⟨rfl, hP, hT⟩ := hv
  have hx := B.exec
  have hb := B.bytes
  have hr := B.returns
  have hts := atoms_spec (ws := wsX0_turnedY) B.pre
  have hown : s.vm.findClass RX0 = some m.cls := findClass_of_methodNamed B.named
  have hlocks := B.notSynchronized
  have hf_15 := hts (.fieldLink RX0 15 "StemShapes$Kept" "y" "[D") (by decide +kernel)
  have hin_X0 : ∀ w ∈ wsX00, w ∈ wsX0_turnedY := by decide +kernel
  have hf_9 := hts (.fieldLink RX0 9 "StemShapes$Kept" "x" "[D") (by decide +kernel)
  have hl := lv_entry ([.ref h0, .int (nI i), .int tn]) (n := 3) (Nat.le_of_ble_eq_true rfl)
  rw [lg_entry_eq]
  generalize (lg_sl ([.ref h0, .int (nI i), .int tn]) ++ List.replicate (3 - (lg_sl ([.ref h0, .int (nI i), .int tn])).length) Slot.unset).toArray = ls at hl ⊢
  have hl : lv_has ls 3 [(0, .ref h0), (1, .int (nI i)), (2, .int tn)] := hl
  refine lv_iload_n hx hb dX0_turnedY_0 rfl (lv_at hl 2 rfl) ?_
  by_cases c_1 : tn = 0
  · refine lv_tableIn (x := tn) (off := 27) (tgt := 28) hx hb dX0_turnedY_1 (by rw [c_1]; decide) (by rw [c_1]; decide) (by rw [c_1]; rfl) (by decide) ?_
    refine lv_aload_n hx hb dX0_turnedY_28 rfl (lv_at hl 0 rfl) ?_
    refine va_get (D := G.1) (ci := 1) (v := .ref h2) (C := RX0) (T := TX0) (N := 3) hx hb hts hin_X0 hown hT.1 hP 0 rfl rfl 1 (by decide) hf_15 (fun _ h9 => h9) rfl dX0_turnedY_29 ?_
    refine lv_iload_n hx hb dX0_turnedY_32 rfl (lv_at hl 1 rfl) ?_
    refine kx_dald hx hb hT hP 2 rfl i (by omega) (by omega) dX0_turnedY_33 ?_
    exact W.dret (v := KY i) hx hb hr (fun t ht hW => ⟨KY i, rfl, (by unfold kx_qy; rw [if_pos c_1]), ht⟩) (fun _ h => nomatch h) dX0_turnedY_34
  ·
    by_cases c_2 : tn = 1
    · refine lv_tableIn (x := tn) (off := 34) (tgt := 35) hx hb dX0_turnedY_1 (by rw [c_2]; decide) (by rw [c_2]; decide) (by rw [c_2]; rfl) (by decide) ?_
      refine lv_aload_n hx hb dX0_turnedY_35 rfl (lv_at hl 0 rfl) ?_
      refine va_get (D := G.1) (ci := 1) (v := .ref h1) (C := RX0) (T := TX0) (N := 3) hx hb hts hin_X0 hown hT.1 hP 0 rfl rfl 0 (by decide) hf_9 (fun _ h9 => h9) rfl dX0_turnedY_36 ?_
      refine lv_iload_n hx hb dX0_turnedY_39 rfl (lv_at hl 1 rfl) ?_
      refine kx_dald hx hb hT hP 1 rfl i (by omega) (by omega) dX0_turnedY_40 ?_
      exact W.dret (v := KX i) hx hb hr (fun t ht hW => ⟨KX i, rfl, (by unfold kx_qy; rw [if_neg c_1]; rw [if_pos c_2]), ht⟩) (fun _ h => nomatch h) dX0_turnedY_41
    ·
      by_cases c_3 : tn = 2
      · refine lv_tableIn (x := tn) (off := 41) (tgt := 42) hx hb dX0_turnedY_1 (by rw [c_3]; decide) (by rw [c_3]; decide) (by rw [c_3]; rfl) (by decide) ?_
        refine lv_aload_n hx hb dX0_turnedY_42 rfl (lv_at hl 0 rfl) ?_
        refine va_get (D := G.1) (ci := 1) (v := .ref h2) (C := RX0) (T := TX0) (N := 3) hx hb hts hin_X0 hown hT.1 hP 0 rfl rfl 1 (by decide) hf_15 (fun _ h9 => h9) rfl dX0_turnedY_43 ?_
        refine lv_iload_n hx hb dX0_turnedY_46 rfl (lv_at hl 1 rfl) ?_
        refine kx_dald hx hb hT hP 2 rfl i (by omega) (by omega) dX0_turnedY_47 ?_
        refine lv_dneg hx hb dX0_turnedY_48 ?_
        exact W.dret (v := FP.dneg (KY i)) hx hb hr (fun t ht hW => ⟨FP.dneg (KY i), rfl, (by unfold kx_qy; rw [if_neg c_1]; rw [if_neg c_2]; rw [if_pos c_3]), ht⟩) (fun _ h => nomatch h) dX0_turnedY_49
      · skip
        refine lv_tableOut (x := tn) (tgt := 50) hx hb dX0_turnedY_1 (by have := lv_neT c_1 (a := 0) rfl; have := lv_neT c_2 (a := 1) rfl; have := lv_neT c_3 (a := 2) rfl; omega) (by decide) ?_
        refine lv_aload_n hx hb dX0_turnedY_50 rfl (lv_at hl 0 rfl) ?_
        refine va_get (D := G.1) (ci := 1) (v := .ref h1) (C := RX0) (T := TX0) (N := 3) hx hb hts hin_X0 hown hT.1 hP 0 rfl rfl 0 (by decide) hf_9 (fun _ h9 => h9) rfl dX0_turnedY_51 ?_
        refine lv_iload_n hx hb dX0_turnedY_54 rfl (lv_at hl 1 rfl) ?_
        refine kx_dald hx hb hT hP 1 rfl i (by omega) (by omega) dX0_turnedY_55 ?_
        refine lv_dneg hx hb dX0_turnedY_56 ?_
        exact W.dret (v := FP.dneg (KX i)) hx hb hr (fun t ht hW => ⟨FP.dneg (KX i), rfl, (by unfold kx_qy; rw [if_neg c_1]; rw [if_neg c_2]; rw [if_neg c_3]), ht⟩) (fun _ h => nomatch h) dX0_turnedY_57
set_option maxHeartbeats 4000000 in
set_option maxRecDepth 100000 in
/-- APART -/
theorem c_X0_distance (l : Launch) (G : kx_G) (h0 : Nat) (h1 : Nat) (h2 : Nat) (n : Nat) (KX : Nat → UInt64) (KY : Nat → UInt64) (kt : Int32) (g0 : Nat) (g1 : Nat) (g2 : Nat) (g3 : Nat) (g4 : Nat) (g5 : Nat) (X : Nat → UInt64) (Y : Nat → UInt64) (R : Nat → UInt64) (E : Nat → UInt64) (F : Nat → Int32) (md : Int32) (tn : Int32) (hb_KX : ∀ j, fx_bd 130 (KX j)) (hb_KY : ∀ j, fx_bd 130 (KY j)) (hb_X : ∀ j, fx_bd 130 (X j)) (hb_Y : ∀ j, fx_bd 130 (Y j)) (hb_R : ∀ j, fx_bd 140 (R j)) (hb_E : ∀ j, fx_bd 220 (E j)) (hn1 : 1 ≤ n) (hn : n ≤ 16) : Met l yX0_distance wsX0_distance ({ frames := 1, cells := 0, slots := 0, locals := 22 } : Room) (kx_PR G [.ref h0, .ref g0, .int tn] [(h0, .inr (1, [.ref h1, .ref h2, .int kt])), (h1, kx_aD G n KX), (h2, kx_aD G n KY), (g0, .inr (4, [.int (nI n), .ref g1, .ref g2, .ref g3, .ref g4, .ref g5, .int md])), (g1, kx_aD G n X), (g2, kx_aD G n Y), (g3, kx_aD G n R), (g4, kx_aD G n E), (g5, kx_aZ G n F)]) (vp_Sd (fun r => r = kx_dst X Y KX KY n tn)) 0 0 (fun _ => False) := by
  refine Met.ofW (cc := cX0_distance) (maxL := 10) (ret := (some .double)) (by decide) rfl ?_
  intro p e s m args below meth c s₁ B hml hv
  obtain ⟨rfl, hP, hT⟩ := hv
  have hx := B.exec
  have hb := B.bytes
  have hr := B.returns
  have hts := atoms_spec (ws := wsX0_distance) B.pre
  have hown : s.vm.findClass RX0 = some m.cls := findClass_of_methodNamed B.named
  have hlocks := B.notSynchronized
  have hf_9 := hts (.fieldLink RX0 9 "StemShapes$Kept" "x" "[D") (by decide +kernel)
  have hin_X0 : ∀ w ∈ wsX00, w ∈ wsX0_distance := by decide +kernel
  have hf_18 := hT.nest (args := [.ref h0, .ref g0, .int tn].toArray) (.fieldLinkNest RX0 18 "StemShapes$Stem" "x" "[D" "StemShapes") (by decide +kernel)
  have hin_X3 : ∀ w ∈ wsX30, w ∈ wsX0_distance := by decide +kernel
  have hf_21 := hT.nest (args := [.ref h0, .ref g0, .int tn].toArray) (.fieldLinkNest RX0 21 "StemShapes$Stem" "y" "[D" "StemShapes") (by decide +kernel)
  have hl := lv_entry ([.ref h0, .ref g0, .int tn]) (n := 10) (Nat.le_of_ble_eq_true rfl)
  rw [lg_entry_eq]
  generalize (lg_sl ([.ref h0, .ref g0, .int tn]) ++ List.replicate (10 - (lg_sl ([.ref h0, .ref g0, .int tn])).length) Slot.unset).toArray = ls at hl ⊢
  have hl : lv_has ls 10 [(0, .ref h0), (1, .ref g0), (2, .int tn)] := hl
  refine lv_dconst0 hx hb dX0_distance_0 ?_
  refine lv_dstore_n (lv' := [(3, .double FP.dconst0), (0, .ref h0), (1, .ref g0), (2, .int tn)]) hx hb dX0_distance_1 rfl hl (by decide) rfl (fun ls hl => ?_)
  refine lv_iconst (v := 0) hx hb dX0_distance_2 (by decide) ?_
  refine lv_istore (lv' := [(5, .int 0), (3, .double FP.dconst0), (0, .ref h0), (1, .ref g0), (2, .int tn)]) hx hb dX0_distance_3 hl (by decide) rfl (fun ls hl => ?_)
  have loop_5 : ∀ (k i : Nat) (a : UInt64), i + k = n → a = kx_sum (fun i => kx_d2 (X i) (Y i) (kx_qx KX KY tn i) (kx_qy KX KY tn i)) i → ∀ ls : Array Slot, lv_has ls 10 [(5, .int (nI i)), (3, .double a), (2, .int tn), (1, .ref g0), (0, .ref h0)] → W p l e (headSpec wsX0_distance ({ frames := 1, cells := 0, slots := 0, locals := 22 } : Room)).room s m [.ref h0, .ref g0, .int tn].toArray below meth c s.heap [] 0 0 (MQ below (vp_Sd (fun r => r = kx_dst X Y KX KY n tn)) [.ref h0, .ref g0, .int tn].toArray s 0 0 (fun _ => False)) (F0 m 5 ls []) := by
    intro k
    induction k with
    | zero =>
      intro i a htot e_a ls hl
      subst e_a
      refine lv_iload hx hb dX0_distance_5 (lv_at hl 0 rfl) ?_
      refine lv_aload_n hx hb dX0_distance_7 rfl (lv_at hl 4 rfl) ?_
      refine va_get (D := G.1) (ci := 1) (v := .ref h1) (C := RX0) (T := TX0) (N := 3) hx hb hts hin_X0 hown hT.1 hP 0 rfl rfl 0 (by decide) hf_9 (fun _ h9 => h9) rfl dX0_distance_8 ?_
      refine va_alen (v := nI n) hx hb hT.1 hP 1 1 rfl rfl rfl dX0_distance_11 ?_
      refine lv_icmp_ge (x := nI i) (y := nI n) (tgt := 69) hx hb dX0_distance_12 (by decide) (fun c_1 => ?_) (fun c_1 => ?_)
      · have c_1 : n ≤ i := (nI_leI (a := n) (b := i) (by omega) (by omega)).mp c_1
        refine lv_dload_n hx hb dX0_distance_69 rfl (lv_at hl 1 rfl) ?_
        exact W.dret (v := kx_sum (fun i => kx_d2 (X i) (Y i) (kx_qx KX KY tn i) (kx_qy KX KY tn i)) i) hx hb hr (fun t ht hW => ⟨kx_sum (fun i => kx_d2 (X i) (Y i) (kx_qx KX KY tn i) (kx_qy KX KY tn i)) i, rfl, (by rw [show i = n from by omega]; rfl), ht⟩) (fun _ h => nomatch h) dX0_distance_70
      · have c_1 : ¬ n ≤ i := fun q => c_1 ((nI_leI (a := n) (b := i) (by omega) (by omega)).mpr q)
        exfalso; omega
    | succ k ih =>
      intro i a htot e_a ls hl
      subst e_a
      refine lv_iload hx hb dX0_distance_5 (lv_at hl 0 rfl) ?_
      refine lv_aload_n hx hb dX0_distance_7 rfl (lv_at hl 4 rfl) ?_
      refine va_get (D := G.1) (ci := 1) (v := .ref h1) (C := RX0) (T := TX0) (N := 3) hx hb hts hin_X0 hown hT.1 hP 0 rfl rfl 0 (by decide) hf_9 (fun _ h9 => h9) rfl dX0_distance_8 ?_
      refine va_alen (v := nI n) hx hb hT.1 hP 1 1 rfl rfl rfl dX0_distance_11 ?_
      refine lv_icmp_ge (x := nI i) (y := nI n) (tgt := 69) hx hb dX0_distance_12 (by decide) (fun c_2 => ?_) (fun c_2 => ?_)
      · have c_2 : n ≤ i := (nI_leI (a := n) (b := i) (by omega) (by omega)).mp c_2
        exfalso; omega
      · have c_2 : ¬ n ≤ i := fun q => c_2 ((nI_leI (a := n) (b := i) (by omega) (by omega)).mpr q)
        refine lv_aload_n hx hb dX0_distance_15 rfl (lv_at hl 3 rfl) ?_
        refine va_getN (D := G.1) (ci := 4) (v := .ref g1) (C := RX3) (T := TX3) (N := 7) hx hb hts hin_X3 hown hT.1 hP 3 rfl rfl 1 (by decide) hf_18 (fun _ h9 => h9) rfl dX0_distance_16 ?_
        refine lv_iload hx hb dX0_distance_19 (lv_at hl 0 rfl) ?_
        refine kx_dald hx hb hT hP 4 rfl i (by omega) (by omega) dX0_distance_21 ?_
        refine lv_aload_n hx hb dX0_distance_22 rfl (lv_at hl 4 rfl) ?_
        refine lv_iload hx hb dX0_distance_23 (lv_at hl 0 rfl) ?_
        refine lv_iload_n hx hb dX0_distance_25 rfl (lv_at hl 2 rfl) ?_
        refine vp_callSd (W.runV (As := [.int (nI i), .int tn]) (rest := [.double (X i)]) ⟨hx, hb, hml, hown, hts⟩ (c_X0_turnedX l G (h0 := h0) (h1 := h1) (h2 := h2) (n := n) (KX := KX) (KY := KY) (kt := kt) (i := i) (tn := tn) (hb_KX := hb_KX) (hb_KY := hb_KY) (hn1 := (by omega)) (hn := (by omega)) (hi := (by omega))) (cwV 2 hts gX0_distance_X0_turnedX rfl rfl rfl (by decide +kernel) ⟨Nat.le_of_ble_eq_true rfl, Nat.le_of_ble_eq_true rfl⟩) ⟨kx_PRb, va_recv hT.1 hP (ci := 1) (q0 := 0) rfl rfl, kx_pr hT hP [0, 1, 2] rfl⟩ rfl rfl hl.1 rfl (lv_room (Nat.le_of_ble_eq_true rfl)) dX0_distance_26 ⟨Nat.zero_le _, Nat.zero_le _⟩) (fun r_3 hw_4 => ?_)
        subst hw_4
        refine lv_dsub hx hb dX0_distance_29 (fx_bd.sub (hb_X i) (kx_qx_bd hb_KX hb_KY) (by omega)).n ?_
        refine lv_dstore (lv' := [(6, .double (FP.dsub (X i) (kx_qx KX KY tn i))), (5, .int (nI i)), (3, .double (kx_sum (fun i => kx_d2 (X i) (Y i) (kx_qx KX KY tn i) (kx_qy KX KY tn i)) i)), (2, .int tn), (1, .ref g0), (0, .ref h0)]) hx hb dX0_distance_30 hl (by decide) rfl (fun ls hl => ?_)
        refine lv_aload_n hx hb dX0_distance_32 rfl (lv_at hl 4 rfl) ?_
        refine va_getN (D := G.1) (ci := 4) (v := .ref g2) (C := RX3) (T := TX3) (N := 7) hx hb hts hin_X3 hown hT.1 hP 3 rfl rfl 2 (by decide) hf_21 (fun _ h9 => h9) rfl dX0_distance_33 ?_
        refine lv_iload hx hb dX0_distance_36 (lv_at hl 1 rfl) ?_
        refine kx_dald hx hb hT hP 5 rfl i (by omega) (by omega) dX0_distance_38 ?_
        refine lv_aload_n hx hb dX0_distance_39 rfl (lv_at hl 5 rfl) ?_
        refine lv_iload hx hb dX0_distance_40 (lv_at hl 1 rfl) ?_
        refine lv_iload_n hx hb dX0_distance_42 rfl (lv_at hl 3 rfl) ?_
        refine vp_callSd (W.runV (As := [.int (nI i), .int tn]) (rest := [.double (Y i)]) ⟨hx, hb, hml, hown, hts⟩ (c_X0_turnedY l G (h0 := h0) (h1 := h1) (h2 := h2) (n := n) (KX := KX) (KY := KY) (kt := kt) (i := i) (tn := tn) (hb_KX := hb_KX) (hb_KY := hb_KY) (hn1 := (by omega)) (hn := (by omega)) (hi := (by omega))) (cwV 2 hts gX0_distance_X0_turnedY rfl rfl rfl (by decide +kernel) ⟨Nat.le_of_ble_eq_true rfl, Nat.le_of_ble_eq_true rfl⟩) ⟨kx_PRb, va_recv hT.1 hP (ci := 1) (q0 := 0) rfl rfl, kx_pr hT hP [0, 1, 2] rfl⟩ rfl rfl hl.1 rfl (lv_room (Nat.le_of_ble_eq_true rfl)) dX0_distance_43 ⟨Nat.zero_le _, Nat.zero_le _⟩) (fun r_5 hw_6 => ?_)
        subst hw_6
        refine lv_dsub hx hb dX0_distance_46 (fx_bd.sub (hb_Y i) (kx_qy_bd hb_KX hb_KY) (by omega)).n ?_
        refine lv_dstore (lv' := [(8, .double (FP.dsub (Y i) (kx_qy KX KY tn i))), (6, .double (FP.dsub (X i) (kx_qx KX KY tn i))), (5, .int (nI i)), (3, .double (kx_sum (fun i => kx_d2 (X i) (Y i) (kx_qx KX KY tn i) (kx_qy KX KY tn i)) i)), (2, .int tn), (1, .ref g0), (0, .ref h0)]) hx hb dX0_distance_47 hl (by decide) rfl (fun ls hl => ?_)
        refine lv_dload_n hx hb dX0_distance_49 rfl (lv_at hl 3 rfl) ?_
        refine lv_dload hx hb dX0_distance_50 (lv_at hl 1 rfl) ?_
        refine lv_dload hx hb dX0_distance_52 (lv_at hl 1 rfl) ?_
        refine lv_dmul hx hb dX0_distance_54 (fx_bd.mul (fx_bd.sub (hb_X i) (kx_qx_bd hb_KX hb_KY) (by omega)) (fx_bd.sub (hb_X i) (kx_qx_bd hb_KX hb_KY) (by omega)) (by omega)).n ?_
        refine lv_dload hx hb dX0_distance_55 (lv_at hl 0 rfl) ?_
        refine lv_dload hx hb dX0_distance_57 (lv_at hl 0 rfl) ?_
        refine lv_dmul hx hb dX0_distance_59 (fx_bd.mul (fx_bd.sub (hb_Y i) (kx_qy_bd hb_KX hb_KY) (by omega)) (fx_bd.sub (hb_Y i) (kx_qy_bd hb_KX hb_KY) (by omega)) (by omega)).n ?_
        refine lv_dadd hx hb dX0_distance_60 (fx_bd.add (fx_bd.mul (fx_bd.sub (hb_X i) (kx_qx_bd hb_KX hb_KY) (by omega)) (fx_bd.sub (hb_X i) (kx_qx_bd hb_KX hb_KY) (by omega)) (by omega)) (fx_bd.mul (fx_bd.sub (hb_Y i) (kx_qy_bd hb_KX hb_KY) (by omega)) (fx_bd.sub (hb_Y i) (kx_qy_bd hb_KX hb_KY) (by omega)) (by omega)) (by omega)).n ?_
        refine lv_dadd hx hb dX0_distance_61 (fx_bd.add (kx_sum_bd (K := 267) (fun j => kx_d2_bd (hb_X j) (hb_Y j) (kx_qx_bd hb_KX hb_KY) (kx_qy_bd hb_KX hb_KY)) i (by omega)) (fx_bd.add (fx_bd.mul (fx_bd.sub (hb_X i) (kx_qx_bd hb_KX hb_KY) (by omega)) (fx_bd.sub (hb_X i) (kx_qx_bd hb_KX hb_KY) (by omega)) (by omega)) (fx_bd.mul (fx_bd.sub (hb_Y i) (kx_qy_bd hb_KX hb_KY) (by omega)) (fx_bd.sub (hb_Y i) (kx_qy_bd hb_KX hb_KY) (by omega)) (by omega)) (by omega)) (by omega)).n ?_
        refine lv_dstore_n (lv' := [(3, .double (FP.dadd (kx_sum (fun i => kx_d2 (X i) (Y i) (kx_qx KX KY tn i) (kx_qy KX KY tn i)) i) (FP.dadd (FP.dmul (FP.dsub (X i) (kx_qx KX KY tn i)) (FP.dsub (X i) (kx_qx KX KY tn i))) (FP.dmul (FP.dsub (Y i) (kx_qy KX KY tn i)) (FP.dsub (Y i) (kx_qy KX KY tn i)))))), (8, .double (FP.dsub (Y i) (kx_qy KX KY tn i))), (6, .double (FP.dsub (X i) (kx_qx KX KY tn i))), (5, .int (nI i)), (2, .int tn), (1, .ref g0), (0, .ref h0)]) hx hb dX0_distance_62 rfl hl (by decide) rfl (fun ls hl => ?_)
        refine lv_iinc (v := nI (i + 1)) (lv' := [(5, .int (nI (i + 1))), (3, .double (FP.dadd (kx_sum (fun i => kx_d2 (X i) (Y i) (kx_qx KX KY tn i) (kx_qy KX KY tn i)) i) (FP.dadd (FP.dmul (FP.dsub (X i) (kx_qx KX KY tn i)) (FP.dsub (X i) (kx_qx KX KY tn i))) (FP.dmul (FP.dsub (Y i) (kx_qy KX KY tn i)) (FP.dsub (Y i) (kx_qy KX KY tn i)))))), (8, .double (FP.dsub (Y i) (kx_qy KX KY tn i))), (6, .double (FP.dsub (X i) (kx_qx KX KY tn i))), (2, .int tn), (1, .ref g0), (0, .ref h0)]) hx hb dX0_distance_63 hl (k := 3) rfl (by show _ + 1 = _; exact nI_1 _) (by decide) rfl (fun ls hl => ?_)
        refine lv_goto (tgt := 5) hx hb dX0_distance_66 (by decide) ?_
        exact ih (i + 1) _ (by omega) rfl _ (lv_sub hl [0, 1, 4, 5, 6] rfl)
  exact loop_5 n 0 _ (by omega) rfl _ (lv_sub hl [0, 1, 4, 3, 2] rfl)
set_option maxHeartbeats 4000000 in
set_option maxRecDepth 100000 in
/-- MATCH -/
theorem c_X0_nearestTurn (l : Launch) (G : kx_G) (h0 : Nat) (h1 : Nat) (h2 : Nat) (n : Nat) (KX : Nat → UInt64) (KY : Nat → UInt64) (kt : Int32) (g0 : Nat) (g1 : Nat) (g2 : Nat) (g3 : Nat) (g4 : Nat) (g5 : Nat) (X : Nat → UInt64) (Y : Nat → UInt64) (R : Nat → UInt64) (E : Nat → UInt64) (F : Nat → Int32) (md : Int32) (hb_KX : ∀ j, fx_bd 130 (KX j)) (hb_KY : ∀ j, fx_bd 130 (KY j)) (hb_X : ∀ j, fx_bd 130 (X j)) (hb_Y : ∀ j, fx_bd 130 (Y j)) (hb_R : ∀ j, fx_bd 140 (R j)) (hb_E : ∀ j, fx_bd 220 (E j)) (hn1 : 1 ≤ n) (hn : n ≤ 16) : Met l yX0_nearestTurn wsX0_nearestTurn ({ frames := 2, cells := 0, slots := 0, locals := 51 } : Room) (kx_PR G [.ref h0, .ref g0] [(h0, .inr (1, [.ref h1, .ref h2, .int kt])), (h1, kx_aD G n KX), (h2, kx_aD G n KY), (g0, .inr (4, [.int (nI n), .ref g1, .ref g2, .ref g3, .ref g4, .ref g5, .int md])), (g1, kx_aD G n X), (g2, kx_aD G n Y), (g3, kx_aD G n R), (g4, kx_aD G n E), (g5, kx_aZ G n F)]) (vp_Si (fun r => r = kx_nr (kx_dst X Y KX KY n) 3)) 0 0 (fun _ => False) := by
  refine Met.ofW (cc := cX0_nearestTurn) (maxL := 8) (ret := (some .int)) (by decide) rfl ?_
  intro p e s m args below meth c s₁ B hml hv
  obtain ⟨rfl, hP, hT⟩ := hv
  have hx := B.exec
  have hb := B.bytes
  have hr := B.returns
  have hts := atoms_spec (ws := wsX0_nearestTurn) B.pre
  have hown : s.vm.findClass RX0 = some m.cls := findClass_of_methodNamed B.named
  have hlocks := B.notSynchronized
  have hl := lv_entry ([.ref h0, .ref g0]) (n := 8) (Nat.le_of_ble_eq_true rfl)
  rw [lg_entry_eq]
  generalize (lg_sl ([.ref h0, .ref g0]) ++ List.replicate (8 - (lg_sl ([.ref h0, .ref g0])).length) Slot.unset).toArray = ls at hl ⊢
  have hl : lv_has ls 8 [(0, .ref h0), (1, .ref g0)] := hl
  refine lv_iconst (v := 0) hx hb dX0_nearestTurn_0 (by decide) ?_
  refine lv_istore_n (lv' := [(2, .int 0), (0, .ref h0), (1, .ref g0)]) hx hb dX0_nearestTurn_1 rfl hl (by decide) rfl (fun ls hl => ?_)
  refine lv_aload_n hx hb dX0_nearestTurn_2 rfl (lv_at hl 1 rfl) ?_
  refine lv_aload_n hx hb dX0_nearestTurn_3 rfl (lv_at hl 2 rfl) ?_
  refine lv_iconst (v := 0) hx hb dX0_nearestTurn_4 (by decide) ?_
  refine vp_callSd (W.runV (As := [.ref g0, .int 0]) (rest := []) ⟨hx, hb, hml, hown, hts⟩ (c_X0_distance l G (h0 := h0) (h1 := h1) (h2 := h2) (n := n) (KX := KX) (KY := KY) (kt := kt) (g0 := g0) (g1 := g1) (g2 := g2) (g3 := g3) (g4 := g4) (g5 := g5) (X := X) (Y := Y) (R := R) (E := E) (F := F) (md := md) (tn := 0) (hb_KX := hb_KX) (hb_KY := hb_KY) (hb_X := hb_X) (hb_Y := hb_Y) (hb_R := hb_R) (hb_E := hb_E) (hn1 := (by omega)) (hn := (by omega))) (cwV 2 hts gX0_nearestTurn_X0_distance rfl rfl rfl (by decide +kernel) ⟨Nat.le_of_ble_eq_true rfl, Nat.le_of_ble_eq_true rfl⟩) ⟨kx_PRb, va_recv hT.1 hP (ci := 1) (q0 := 0) rfl rfl, kx_pr hT hP [0, 1, 2, 3, 4, 5, 6, 7, 8] rfl⟩ rfl rfl hl.1 rfl (lv_room (Nat.le_of_ble_eq_true rfl)) dX0_nearestTurn_5 ⟨Nat.zero_le _, Nat.zero_le _⟩) (fun r_1 hw_2 => ?_)
  subst hw_2
  refine lv_dstore_n (lv' := [(3, .double (kx_dst X Y KX KY n 0)), (2, .int 0), (0, .ref h0), (1, .ref g0)]) hx hb dX0_nearestTurn_8 rfl hl (by decide) rfl (fun ls hl => ?_)
  refine lv_iconst (v := 1) hx hb dX0_nearestTurn_9 (by decide) ?_
  refine lv_istore (lv' := [(5, .int 1), (3, .double (kx_dst X Y KX KY n 0)), (2, .int 0), (0, .ref h0), (1, .ref g0)]) hx hb dX0_nearestTurn_10 hl (by decide) rfl (fun ls hl => ?_)
  have loop_12 : ∀ (k i : Nat) (a : Int32) (b : UInt64), i + k = 3 → a = kx_nr (kx_dst X Y KX KY n) i → b = kx_dst X Y KX KY n (kx_nr (kx_dst X Y KX KY n) i) → ∀ ls : Array Slot, lv_has ls 8 [(5, .int (nI (i + 1))), (3, .double b), (2, .int a), (1, .ref g0), (0, .ref h0)] → W p l e (headSpec wsX0_nearestTurn ({ frames := 2, cells := 0, slots := 0, locals := 51 } : Room)).room s m [.ref h0, .ref g0].toArray below meth c s.heap [] 0 0 (MQ below (vp_Si (fun r => r = kx_nr (kx_dst X Y KX KY n) 3)) [.ref h0, .ref g0].toArray s 0 0 (fun _ => False)) (F0 m 12 ls []) := by
    intro k
    induction k with
    | zero =>
      intro i a b htot e_a e_b ls hl
      subst e_a
      subst e_b
      refine lv_iload hx hb dX0_nearestTurn_12 (lv_at hl 0 rfl) ?_
      refine lv_iconst (v := 4) hx hb dX0_nearestTurn_14 (by decide) ?_
      refine lv_icmp_ge (x := nI (i + 1)) (y := 4) (tgt := 46) hx hb dX0_nearestTurn_15 (by decide) (fun c_3 => ?_) (fun c_3 => ?_)
      · have c_3 : 4 ≤ (i + 1) := (nI_leI (a := 4) (b := i + 1) (by omega) (by omega)).mp c_3
        refine lv_iload_n hx hb dX0_nearestTurn_46 rfl (lv_at hl 2 rfl) ?_
        exact W.iret (v := kx_nr (kx_dst X Y KX KY n) i) hx hb hr (fun t ht hW => ⟨kx_nr (kx_dst X Y KX KY n) i, rfl, (by rw [show i = 3 from by omega]), ht⟩) (fun _ h => nomatch h) dX0_nearestTurn_47
      · have c_3 : ¬ 4 ≤ (i + 1) := fun q => c_3 ((nI_leI (a := 4) (b := i + 1) (by omega) (by omega)).mpr q)
        exfalso; omega
    | succ k ih =>
      intro i a b htot e_a e_b ls hl
      subst e_a
      subst e_b
      refine lv_iload hx hb dX0_nearestTurn_12 (lv_at hl 0 rfl) ?_
      refine lv_iconst (v := 4) hx hb dX0_nearestTurn_14 (by decide) ?_
      refine lv_icmp_ge (x := nI (i + 1)) (y := 4) (tgt := 46) hx hb dX0_nearestTurn_15 (by decide) (fun c_4 => ?_) (fun c_4 => ?_)
      · have c_4 : 4 ≤ (i + 1) := (nI_leI (a := 4) (b := i + 1) (by omega) (by omega)).mp c_4
        exfalso; omega
      · have c_4 : ¬ 4 ≤ (i + 1) := fun q => c_4 ((nI_leI (a := 4) (b := i + 1) (by omega) (by omega)).mpr q)
        refine lv_aload_n hx hb dX0_nearestTurn_18 rfl (lv_at hl 4 rfl) ?_
        refine lv_aload_n hx hb dX0_nearestTurn_19 rfl (lv_at hl 3 rfl) ?_
        refine lv_iload hx hb dX0_nearestTurn_20 (lv_at hl 0 rfl) ?_
        refine vp_callSd (W.runV (As := [.ref g0, .int (nI (i + 1))]) (rest := []) ⟨hx, hb, hml, hown, hts⟩ (c_X0_distance l G (h0 := h0) (h1 := h1) (h2 := h2) (n := n) (KX := KX) (KY := KY) (kt := kt) (g0 := g0) (g1 := g1) (g2 := g2) (g3 := g3) (g4 := g4) (g5 := g5) (X := X) (Y := Y) (R := R) (E := E) (F := F) (md := md) (tn := nI (i + 1)) (hb_KX := hb_KX) (hb_KY := hb_KY) (hb_X := hb_X) (hb_Y := hb_Y) (hb_R := hb_R) (hb_E := hb_E) (hn1 := (by omega)) (hn := (by omega))) (cwV 2 hts gX0_nearestTurn_X0_distance rfl rfl rfl (by decide +kernel) ⟨Nat.le_of_ble_eq_true rfl, Nat.le_of_ble_eq_true rfl⟩) ⟨kx_PRb, va_recv hT.1 hP (ci := 1) (q0 := 0) rfl rfl, kx_pr hT hP [0, 1, 2, 3, 4, 5, 6, 7, 8] rfl⟩ rfl rfl hl.1 rfl (lv_room (Nat.le_of_ble_eq_true rfl)) dX0_nearestTurn_22 ⟨Nat.zero_le _, Nat.zero_le _⟩) (fun r_5 hw_6 => ?_)
        subst hw_6
        refine lv_dstore (lv' := [(6, .double (kx_dst X Y KX KY n (nI (i + 1)))), (5, .int (nI (i + 1))), (3, .double (kx_dst X Y KX KY n (kx_nr (kx_dst X Y KX KY n) i))), (2, .int (kx_nr (kx_dst X Y KX KY n) i)), (1, .ref g0), (0, .ref h0)]) hx hb dX0_nearestTurn_25 hl (by decide) rfl (fun ls hl => ?_)
        refine lv_dload hx hb dX0_nearestTurn_27 (lv_at hl 0 rfl) ?_
        refine lv_dload_n hx hb dX0_nearestTurn_29 rfl (lv_at hl 2 rfl) ?_
        refine kx_dlt (tgt := 40) hx hb dX0_nearestTurn_30 dX0_nearestTurn_31 (by decide) (fun c_7 => ?_) (fun c_7 => ?_)
        · refine lv_iinc (v := nI (i + 1 + 1)) (lv' := [(5, .int (nI (i + 1 + 1))), (6, .double (kx_dst X Y KX KY n (nI (i + 1)))), (3, .double (kx_dst X Y KX KY n (kx_nr (kx_dst X Y KX KY n) i))), (2, .int (kx_nr (kx_dst X Y KX KY n) i)), (1, .ref g0), (0, .ref h0)]) hx hb dX0_nearestTurn_40 hl (k := 1) rfl (by show _ + 1 = _; exact nI_1 _) (by decide) rfl (fun ls hl => ?_)
          refine lv_goto (tgt := 12) hx hb dX0_nearestTurn_43 (by decide) ?_
          exact ih (i + 1) _ _ (by omega) ((kx_nr_f c_7).symm) (by rw [kx_nr_f c_7]) _ (lv_sub hl [0, 2, 3, 4, 5] rfl)
        · refine lv_dload hx hb dX0_nearestTurn_34 (lv_at hl 0 rfl) ?_
          refine lv_dstore_n (lv' := [(3, .double (kx_dst X Y KX KY n (nI (i + 1)))), (6, .double (kx_dst X Y KX KY n (nI (i + 1)))), (5, .int (nI (i + 1))), (2, .int (kx_nr (kx_dst X Y KX KY n) i)), (1, .ref g0), (0, .ref h0)]) hx hb dX0_nearestTurn_36 rfl hl (by decide) rfl (fun ls hl => ?_)
          refine lv_iload hx hb dX0_nearestTurn_37 (lv_at hl 2 rfl) ?_
          refine lv_istore_n (lv' := [(2, .int (nI (i + 1))), (3, .double (kx_dst X Y KX KY n (nI (i + 1)))), (6, .double (kx_dst X Y KX KY n (nI (i + 1)))), (5, .int (nI (i + 1))), (1, .ref g0), (0, .ref h0)]) hx hb dX0_nearestTurn_39 rfl hl (by decide) rfl (fun ls hl => ?_)
          refine lv_iinc (v := nI (i + 1 + 1)) (lv' := [(5, .int (nI (i + 1 + 1))), (2, .int (nI (i + 1))), (3, .double (kx_dst X Y KX KY n (nI (i + 1)))), (6, .double (kx_dst X Y KX KY n (nI (i + 1)))), (1, .ref g0), (0, .ref h0)]) hx hb dX0_nearestTurn_40 hl (k := 3) rfl (by show _ + 1 = _; exact nI_1 _) (by decide) rfl (fun ls hl => ?_)
          refine lv_goto (tgt := 12) hx hb dX0_nearestTurn_43 (by decide) ?_
          exact ih (i + 1) _ _ (by omega) ((kx_nr_t c_7).symm) (by rw [kx_nr_t c_7]) _ (lv_sub hl [0, 2, 1, 4, 5] rfl)
  exact loop_12 3 0 _ _ (by omega) rfl rfl _ (lv_sub hl [0, 1, 2, 4, 3] rfl)
set_option maxHeartbeats 4000000 in
set_option maxRecDepth 100000 in
/-- a number of -mo .. mo -/
theorem c_X4_within (l : Launch) (G : kx_G) (x : UInt64) (mo : Int32)   : Met l yX4_within wsX4_within ({ frames := 0, cells := 0, slots := 0, locals := 0 } : Room) (kx_PR G [.double x, .int mo] []) (vp_Si (fun r => r = kx_wi x mo)) 0 0 (fun _ => False) := by
  refine Met.ofW (cc := cX4_within) (maxL := 3) (ret := (some .boolean)) (by decide) rfl ?_
  intro p e s m args below meth c s₁ B hml hv
  obtain ⟨rfl, hP, hT⟩ := hv
  have hx := B.exec
  have hb := B.bytes
  have hr := B.returns
  have hts := atoms_spec (ws := wsX4_within) B.pre
  have hown : s.vm.findClass RX4 = some m.cls := findClass_of_methodNamed B.named
  have hlocks := B.notSynchronized
  have hl := lv_entry ([.double x, .int mo]) (n := 3) (Nat.le_of_ble_eq_true rfl)
  rw [lg_entry_eq]
  generalize (lg_sl ([.double x, .int mo]) ++ List.replicate (3 - (lg_sl ([.double x, .int mo])).length) Slot.unset).toArray = ls at hl ⊢
  have hl : lv_has ls 3 [(0, .double x), (2, .int mo)] := hl
  refine lv_dload_n hx hb dX4_within_0 rfl (lv_at hl 0 rfl) ?_
  refine lv_iload_n hx hb dX4_within_1 rfl (lv_at hl 1 rfl) ?_
  refine lv_ineg hx hb dX4_within_2 ?_
  refine lv_i2d hx hb dX4_within_3 ?_
  refine kx_dge (tgt := 19) hx hb dX4_within_4 dX4_within_5 (by decide) (fun c_1 => ?_) (fun c_1 => ?_)
  · refine lv_iconst (v := 0) hx hb dX4_within_19 (by decide) ?_
    exact W.zret (v := 0) hx hb hr rfl (fun t ht hW => ⟨0, rfl, (if_neg (fun q => c_1 q.1)).symm, ht⟩) (fun _ h => nomatch h) dX4_within_20
  · refine lv_dload_n hx hb dX4_within_8 rfl (lv_at hl 0 rfl) ?_
    refine lv_iload_n hx hb dX4_within_9 rfl (lv_at hl 1 rfl) ?_
    refine lv_i2d hx hb dX4_within_10 ?_
    refine kx_dle (tgt := 19) hx hb dX4_within_11 dX4_within_12 (by decide) (fun c_2 => ?_) (fun c_2 => ?_)
    · refine lv_iconst (v := 0) hx hb dX4_within_19 (by decide) ?_
      exact W.zret (v := 0) hx hb hr rfl (fun t ht hW => ⟨0, rfl, (if_neg (fun q => c_2 q.2)).symm, ht⟩) (fun _ h => nomatch h) dX4_within_20
    · refine lv_iconst (v := 1) hx hb dX4_within_15 (by decide) ?_
      refine lv_goto (tgt := 20) hx hb dX4_within_16 (by decide) ?_
      exact W.zret (v := 1) hx hb hr rfl (fun t ht hW => ⟨1, rfl, (if_pos ⟨c_1, c_2⟩).symm, ht⟩) (fun _ h => nomatch h) dX4_within_20
set_option maxHeartbeats 4000000 in
set_option maxRecDepth 100000 in
/-- the nearest of 1 .. mo -/
theorem c_X4_nearest (l : Launch) (G : kx_G) (x : Int32) (mo : Int32)   : Met l yX4_nearest wsX4_nearest ({ frames := 1, cells := 0, slots := 0, locals := 21 } : Room) (kx_PR G [.int x, .int mo] []) (vp_Si (fun r => r = kx_ne x mo)) 0 0 (fun _ => False) := by
  refine Met.ofW (cc := cX4_nearest) (maxL := 2) (ret := (some .int)) (by decide) rfl ?_
  intro p e s m args below meth c s₁ B hml hv
  obtain ⟨rfl, hP, hT⟩ := hv
  have hx := B.exec
  have hb := B.bytes
  have hr := B.returns
  have hts := atoms_spec (ws := wsX4_nearest) B.pre
  have hown : s.vm.findClass RX4 = some m.cls := findClass_of_methodNamed B.named
  have hlocks := B.notSynchronized
  have hj_min_l := hts (.methodLink RX4 208 Lib.Math.min.name) (by decide +kernel)
  have hj_min_s := hts (.static Lib.Math.min.name) (by decide +kernel)
  have hj_i := hts (.initialized "java/lang/Math") (by decide +kernel)
  have hj_min_c := hts (.code Lib.Math.min.name Lib.Math.min.code 2 (some .int)) (by decide +kernel)
  have hj_max_l := hts (.methodLink RX4 213 Lib.Math.max.name) (by decide +kernel)
  have hj_max_s := hts (.static Lib.Math.max.name) (by decide +kernel)
  have hj_max_c := hts (.code Lib.Math.max.name Lib.Math.max.code 2 (some .int)) (by decide +kernel)
  have hl := lv_entry ([.int x, .int mo]) (n := 2) (Nat.le_of_ble_eq_true rfl)
  rw [lg_entry_eq]
  generalize (lg_sl ([.int x, .int mo]) ++ List.replicate (2 - (lg_sl ([.int x, .int mo])).length) Slot.unset).toArray = ls at hl ⊢
  have hl : lv_has ls 2 [(0, .int x), (1, .int mo)] := hl
  refine lv_iconst (v := 1) hx hb dX4_nearest_0 (by decide) ?_
  refine lv_iload_n hx hb dX4_nearest_1 rfl (lv_at hl 0 rfl) ?_
  refine lv_iload_n hx hb dX4_nearest_2 rfl (lv_at hl 1 rfl) ?_
  refine va_mmin hx hb (by rw [hml]; exact hl.1.symm) hown hj_min_l hj_min_s hj_i hj_min_c (Nat.le_of_ble_eq_true rfl) (Nat.le_of_ble_eq_true rfl) (Nat.zero_le _) (Nat.zero_le _) dX4_nearest_3 ?_
  refine va_mmax hx hb (by rw [hml]; exact hl.1.symm) hown hj_max_l hj_max_s hj_i hj_max_c (Nat.le_of_ble_eq_true rfl) (Nat.le_of_ble_eq_true rfl) (Nat.zero_le _) (Nat.zero_le _) dX4_nearest_6 ?_
  exact W.iret (v := if 1 < if mo < x then mo else x then if mo < x then mo else x else 1) hx hb hr (fun t ht hW => ⟨if 1 < if mo < x then mo else x then if mo < x then mo else x else 1, rfl, rfl, ht⟩) (fun _ h => nomatch h) dX4_nearest_9
set_option maxHeartbeats 4000000 in
set_option maxRecDepth 100000 in
/-- no room for a rule -/
theorem c_X1_isFull (l : Launch) (G : kx_G) (h0 : Nat) (h1 : Nat) (h2 : Nat) (h3 : Nat) (Ki : Nat → Int32) (Li : Nat → UInt64) (Cl : Nat → Int32) (cnt : Nat)  (hc : cnt ≤ 6) : Met l yX1_isFull wsX1_isFull ({ frames := 0, cells := 0, slots := 0, locals := 0 } : Room) (kx_PR G [.ref h0] [(h0, .inr (2, [.ref h1, .ref h2, .ref h3, .int (nI cnt)])), (h1, kx_aI G 6 Ki), (h2, kx_aD G 6 Li), (h3, kx_aI G 6 Cl)]) (vp_Si (fun r => r = (if cnt < 6 then 0 else 1 : Int32))) 0 0 (fun _ => False) := by
  refine Met.ofW (cc := cX1_isFull) (maxL := 1) (ret := (some .boolean)) (by decide) rfl ?_
  intro p e s m args below meth c s₁ B hml hv
  obtain ⟨rfl, hP, hT⟩ := hv
  have hx := B.exec
  have hb := B.bytes
  have hr := B.returns
  have hts := atoms_spec (ws := wsX1_isFull) B.pre
  have hown : s.vm.findClass RX1 = some m.cls := findClass_of_methodNamed B.named
  have hlocks := B.notSynchronized
  have hf_22 := hts (.fieldLink RX1 22 "StemShapes$RuleList" "count" "I") (by decide +kernel)
  have hin_X1 : ∀ w ∈ wsX10, w ∈ wsX1_isFull := by decide +kernel
  have hl := lv_entry ([.ref h0]) (n := 1) (Nat.le_of_ble_eq_true rfl)
  rw [lg_entry_eq]
  generalize (lg_sl ([.ref h0]) ++ List.replicate (1 - (lg_sl ([.ref h0])).length) Slot.unset).toArray = ls at hl ⊢
  have hl : lv_has ls 1 [(0, .ref h0)] := hl
  refine lv_aload_n hx hb dX1_isFull_0 rfl (lv_at hl 0 rfl) ?_
  refine va_get (D := G.1) (ci := 2) (v := .int (nI cnt)) (C := RX1) (T := TX1) (N := 4) hx hb hts hin_X1 hown hT.1 hP 0 rfl rfl 3 (by decide) hf_22 (fun _ h9 => h9) rfl dX1_isFull_1 ?_
  refine lv_bipush (v := 6) hx hb dX1_isFull_4 (by decide) ?_
  refine lv_icmp_lt (x := nI cnt) (y := 6) (tgt := 13) hx hb dX1_isFull_6 (by decide) (fun c_1 => ?_) (fun c_1 => ?_)
  · have c_1 : cnt < 6 := (nI_ltI (a := cnt) (b := 6) (by omega) (by omega)).mp c_1
    refine lv_iconst (v := 0) hx hb dX1_isFull_13 (by decide) ?_
    exact W.zret (v := 0) hx hb hr rfl (fun t ht hW => ⟨0, rfl, (if_pos c_1).symm, ht⟩) (fun _ h => nomatch h) dX1_isFull_14
  · have c_1 : ¬ cnt < 6 := fun q => c_1 ((nI_ltI (a := cnt) (b := 6) (by omega) (by omega)).mpr q)
    refine lv_iconst (v := 1) hx hb dX1_isFull_9 (by decide) ?_
    refine lv_goto (tgt := 14) hx hb dX1_isFull_10 (by decide) ?_
    exact W.zret (v := 1) hx hb hr rfl (fun t ht hW => ⟨1, rfl, (if_neg c_1).symm, ht⟩) (fun _ h => nomatch h) dX1_isFull_14
set_option maxHeartbeats 4000000 in
set_option maxRecDepth 100000 in
/-- whether a rule holds -/
theorem c_X1_holds (l : Launch) (G : kx_G) (h0 : Nat) (h1 : Nat) (h2 : Nat) (h3 : Nat) (h4 : Nat) (h5 : Nat) (n : Nat) (X : Nat → UInt64) (Y : Nat → UInt64) (R : Nat → UInt64) (E : Nat → UInt64) (F : Nat → Int32) (md : Int32) (kd : Int32) (lm : UInt64) (hb_X : ∀ j, fx_bd 130 (X j)) (hb_Y : ∀ j, fx_bd 130 (Y j)) (hb_R : ∀ j, fx_bd 140 (R j)) (hb_E : ∀ j, fx_bd 220 (E j)) (hn1 : 1 ≤ n) (hn : n ≤ 16) : Met l yX1_holds wsX1_holds ({ frames := 2, cells := 0, slots := 0, locals := 51 } : Room) (kx_PR G [.ref h0, .int kd, .double lm] [(h0, .inr (4, [.int (nI n), .ref h1, .ref h2, .ref h3, .ref h4, .ref h5, .int md])), (h1, kx_aD G n X), (h2, kx_aD G n Y), (h3, kx_aD G n R), (h4, kx_aD G n E), (h5, kx_aZ G n F)]) (vp_Si (fun r => r = kx_hd X Y R n md kd lm)) 0 0 (fun _ => False) := by
  refine Met.ofW (cc := cX1_holds) (maxL := 4) (ret := (some .boolean)) (by decide) rfl ?_
  intro p e s m args below meth c s₁ B hml hv
  obtain ⟨rfl, hP, hT⟩ := hv
  have hx := B.exec
  have hb := B.bytes
  have hr := B.returns
  have hts := atoms_spec (ws := wsX1_holds) B.pre
  have hown : s.vm.findClass RX1 = some m.cls := findClass_of_methodNamed B.named
  have hlocks := B.notSynchronized
  have hf_45 := hT.nest (args := [.ref h0, .int kd, .double lm].toArray) (.fieldLinkNest RX1 45 "StemShapes$Stem" "mended" "I" "StemShapes") (by decide +kernel)
  have hin_X3 : ∀ w ∈ wsX30, w ∈ wsX1_holds := by decide +kernel
  have hl := lv_entry ([.ref h0, .int kd, .double lm]) (n := 4) (Nat.le_of_ble_eq_true rfl)
  rw [lg_entry_eq]
  generalize (lg_sl ([.ref h0, .int kd, .double lm]) ++ List.replicate (4 - (lg_sl ([.ref h0, .int kd, .double lm])).length) Slot.unset).toArray = ls at hl ⊢
  have hl : lv_has ls 4 [(0, .ref h0), (1, .int kd), (2, .double lm)] := hl
  refine lv_iload_n hx hb dX1_holds_0 rfl (lv_at hl 1 rfl) ?_
  by_cases c_1 : kd = 0
  · refine lv_tableIn (x := kd) (off := 31) (tgt := 32) hx hb dX1_holds_1 (by rw [c_1]; decide) (by rw [c_1]; decide) (by rw [c_1]; rfl) (by decide) ?_
    refine lv_aload_n hx hb dX1_holds_32 rfl (lv_at hl 0 rfl) ?_
    refine vp_callSd (W.runV (As := []) (rest := []) ⟨hx, hb, hml, hown, hts⟩ (c_X3_greatestBend l G (h0 := h0) (h1 := h1) (h2 := h2) (h3 := h3) (h4 := h4) (h5 := h5) (n := n) (X := X) (Y := Y) (R := R) (E := E) (F := F) (md := md) (hb_X := hb_X) (hb_Y := hb_Y) (hb_R := hb_R) (hb_E := hb_E) (hn1 := (by omega)) (hn := (by omega))) (cwV 0 hts gX1_holds_X3_greatestBend rfl rfl rfl (by decide +kernel) ⟨Nat.le_of_ble_eq_true rfl, Nat.le_of_ble_eq_true rfl⟩) ⟨kx_PRb, va_recv hT.1 hP (ci := 4) (q0 := 0) rfl rfl, kx_pr hT hP [0, 1, 2, 3, 4, 5] rfl⟩ rfl rfl hl.1 rfl (lv_room (Nat.le_of_ble_eq_true rfl)) dX1_holds_33 ⟨Nat.zero_le _, Nat.zero_le _⟩) (fun r_2 hw_3 => ?_)
    subst hw_3
    refine lv_dload_n hx hb dX1_holds_36 rfl (lv_at hl 2 rfl) ?_
    refine kx_dle (tgt := 45) hx hb dX1_holds_37 dX1_holds_38 (by decide) (fun c_4 => ?_) (fun c_4 => ?_)
    · refine lv_iconst (v := 0) hx hb dX1_holds_45 (by decide) ?_
      exact W.zret (v := 0) hx hb hr rfl (fun t ht hW => ⟨0, rfl, (by unfold kx_hd; rw [if_pos c_1]; exact (if_neg c_4).symm), ht⟩) (fun _ h => nomatch h) dX1_holds_46
    · refine lv_iconst (v := 1) hx hb dX1_holds_41 (by decide) ?_
      refine lv_goto (tgt := 46) hx hb dX1_holds_42 (by decide) ?_
      exact W.zret (v := 1) hx hb hr rfl (fun t ht hW => ⟨1, rfl, (by unfold kx_hd; rw [if_pos c_1]; exact (if_pos c_4).symm), ht⟩) (fun _ h => nomatch h) dX1_holds_46
  ·
    by_cases c_5 : kd = 1
    · refine lv_tableIn (x := kd) (off := 46) (tgt := 47) hx hb dX1_holds_1 (by rw [c_5]; decide) (by rw [c_5]; decide) (by rw [c_5]; rfl) (by decide) ?_
      refine lv_aload_n hx hb dX1_holds_47 rfl (lv_at hl 0 rfl) ?_
      refine vp_callSd (W.runV (As := []) (rest := []) ⟨hx, hb, hml, hown, hts⟩ (c_X3_thinning l G (h0 := h0) (h1 := h1) (h2 := h2) (h3 := h3) (h4 := h4) (h5 := h5) (n := n) (X := X) (Y := Y) (R := R) (E := E) (F := F) (md := md) (hb_X := hb_X) (hb_Y := hb_Y) (hb_R := hb_R) (hb_E := hb_E) (hn1 := (by omega)) (hn := (by omega))) (cwV 0 hts gX1_holds_X3_thinning rfl rfl rfl (by decide +kernel) ⟨Nat.le_of_ble_eq_true rfl, Nat.le_of_ble_eq_true rfl⟩) ⟨kx_PRb, va_recv hT.1 hP (ci := 4) (q0 := 0) rfl rfl, kx_pr hT hP [0, 1, 2, 3, 4, 5] rfl⟩ rfl rfl hl.1 rfl (lv_room (Nat.le_of_ble_eq_true rfl)) dX1_holds_48 ⟨Nat.zero_le _, Nat.zero_le _⟩) (fun r_6 hw_7 => ?_)
      subst hw_7
      refine lv_dload_n hx hb dX1_holds_51 rfl (lv_at hl 2 rfl) ?_
      refine kx_dle (tgt := 60) hx hb dX1_holds_52 dX1_holds_53 (by decide) (fun c_8 => ?_) (fun c_8 => ?_)
      · refine lv_iconst (v := 0) hx hb dX1_holds_60 (by decide) ?_
        exact W.zret (v := 0) hx hb hr rfl (fun t ht hW => ⟨0, rfl, (by unfold kx_hd; rw [if_neg c_1]; rw [if_pos c_5]; exact (if_neg c_8).symm), ht⟩) (fun _ h => nomatch h) dX1_holds_61
      · refine lv_iconst (v := 1) hx hb dX1_holds_56 (by decide) ?_
        refine lv_goto (tgt := 61) hx hb dX1_holds_57 (by decide) ?_
        exact W.zret (v := 1) hx hb hr rfl (fun t ht hW => ⟨1, rfl, (by unfold kx_hd; rw [if_neg c_1]; rw [if_pos c_5]; exact (if_pos c_8).symm), ht⟩) (fun _ h => nomatch h) dX1_holds_61
    ·
      by_cases c_9 : kd = 2
      · refine lv_tableIn (x := kd) (off := 61) (tgt := 62) hx hb dX1_holds_1 (by rw [c_9]; decide) (by rw [c_9]; decide) (by rw [c_9]; rfl) (by decide) ?_
        refine lv_aload_n hx hb dX1_holds_62 rfl (lv_at hl 0 rfl) ?_
        refine vp_callSd (W.runV (As := []) (rest := []) ⟨hx, hb, hml, hown, hts⟩ (c_X3_lastRadius l G (h0 := h0) (h1 := h1) (h2 := h2) (h3 := h3) (h4 := h4) (h5 := h5) (n := n) (X := X) (Y := Y) (R := R) (E := E) (F := F) (md := md) (hb_X := hb_X) (hb_Y := hb_Y) (hb_R := hb_R) (hb_E := hb_E) (hn1 := (by omega)) (hn := (by omega))) (cwV 0 hts gX1_holds_X3_lastRadius rfl rfl rfl (by decide +kernel) ⟨Nat.le_of_ble_eq_true rfl, Nat.le_of_ble_eq_true rfl⟩) ⟨kx_PRb, va_recv hT.1 hP (ci := 4) (q0 := 0) rfl rfl, kx_pr hT hP [0, 1, 2, 3, 4, 5] rfl⟩ rfl rfl hl.1 rfl (lv_room (Nat.le_of_ble_eq_true rfl)) dX1_holds_63 ⟨Nat.zero_le _, Nat.zero_le _⟩) (fun r_10 hw_11 => ?_)
        subst hw_11
        refine lv_dload_n hx hb dX1_holds_66 rfl (lv_at hl 2 rfl) ?_
        refine kx_dge (tgt := 75) hx hb dX1_holds_67 dX1_holds_68 (by decide) (fun c_12 => ?_) (fun c_12 => ?_)
        · refine lv_iconst (v := 0) hx hb dX1_holds_75 (by decide) ?_
          exact W.zret (v := 0) hx hb hr rfl (fun t ht hW => ⟨0, rfl, (by unfold kx_hd; rw [if_neg c_1]; rw [if_neg c_5]; rw [if_pos c_9]; exact (if_neg c_12).symm), ht⟩) (fun _ h => nomatch h) dX1_holds_76
        · refine lv_iconst (v := 1) hx hb dX1_holds_71 (by decide) ?_
          refine lv_goto (tgt := 76) hx hb dX1_holds_72 (by decide) ?_
          exact W.zret (v := 1) hx hb hr rfl (fun t ht hW => ⟨1, rfl, (by unfold kx_hd; rw [if_neg c_1]; rw [if_neg c_5]; rw [if_pos c_9]; exact (if_pos c_12).symm), ht⟩) (fun _ h => nomatch h) dX1_holds_76
      ·
        by_cases c_13 : kd = 3
        · refine lv_tableIn (x := kd) (off := 76) (tgt := 77) hx hb dX1_holds_1 (by rw [c_13]; decide) (by rw [c_13]; decide) (by rw [c_13]; rfl) (by decide) ?_
          refine lv_aload_n hx hb dX1_holds_77 rfl (lv_at hl 0 rfl) ?_
          refine vp_callSd (W.runV (As := []) (rest := []) ⟨hx, hb, hml, hown, hts⟩ (c_X3_sumOfAreas l G (h0 := h0) (h1 := h1) (h2 := h2) (h3 := h3) (h4 := h4) (h5 := h5) (n := n) (X := X) (Y := Y) (R := R) (E := E) (F := F) (md := md) (hb_X := hb_X) (hb_Y := hb_Y) (hb_R := hb_R) (hb_E := hb_E) (hn1 := (by omega)) (hn := (by omega))) (cwV 0 hts gX1_holds_X3_sumOfAreas rfl rfl rfl (by decide +kernel) ⟨Nat.le_of_ble_eq_true rfl, Nat.le_of_ble_eq_true rfl⟩) ⟨kx_PRb, va_recv hT.1 hP (ci := 4) (q0 := 0) rfl rfl, kx_pr hT hP [0, 1, 2, 3, 4, 5] rfl⟩ rfl rfl hl.1 rfl (lv_room (Nat.le_of_ble_eq_true rfl)) dX1_holds_78 ⟨Nat.zero_le _, Nat.zero_le _⟩) (fun r_14 hw_15 => ?_)
          subst hw_15
          refine lv_dload_n hx hb dX1_holds_81 rfl (lv_at hl 2 rfl) ?_
          refine kx_dge (tgt := 90) hx hb dX1_holds_82 dX1_holds_83 (by decide) (fun c_16 => ?_) (fun c_16 => ?_)
          · refine lv_iconst (v := 0) hx hb dX1_holds_90 (by decide) ?_
            exact W.zret (v := 0) hx hb hr rfl (fun t ht hW => ⟨0, rfl, (by unfold kx_hd; rw [if_neg c_1]; rw [if_neg c_5]; rw [if_neg c_9]; rw [if_pos c_13]; exact (if_neg c_16).symm), ht⟩) (fun _ h => nomatch h) dX1_holds_91
          · refine lv_iconst (v := 1) hx hb dX1_holds_86 (by decide) ?_
            refine lv_goto (tgt := 91) hx hb dX1_holds_87 (by decide) ?_
            exact W.zret (v := 1) hx hb hr rfl (fun t ht hW => ⟨1, rfl, (by unfold kx_hd; rw [if_neg c_1]; rw [if_neg c_5]; rw [if_neg c_9]; rw [if_pos c_13]; exact (if_pos c_16).symm), ht⟩) (fun _ h => nomatch h) dX1_holds_91
        · skip
          refine lv_tableOut (x := kd) (tgt := 92) hx hb dX1_holds_1 (by have := lv_neT c_1 (a := 0) rfl; have := lv_neT c_5 (a := 1) rfl; have := lv_neT c_9 (a := 2) rfl; have := lv_neT c_13 (a := 3) rfl; omega) (by decide) ?_
          refine lv_aload_n hx hb dX1_holds_92 rfl (lv_at hl 0 rfl) ?_
          refine va_getN (D := G.1) (ci := 4) (v := .int md) (C := RX3) (T := TX3) (N := 7) hx hb hts hin_X3 hown hT.1 hP 0 rfl rfl 6 (by decide) hf_45 (fun _ h9 => h9) rfl dX1_holds_93 ?_
          refine lv_i2d hx hb dX1_holds_96 ?_
          refine lv_dload_n hx hb dX1_holds_97 rfl (lv_at hl 2 rfl) ?_
          refine kx_dle (tgt := 106) hx hb dX1_holds_98 dX1_holds_99 (by decide) (fun c_17 => ?_) (fun c_17 => ?_)
          · refine lv_iconst (v := 0) hx hb dX1_holds_106 (by decide) ?_
            exact W.zret (v := 0) hx hb hr rfl (fun t ht hW => ⟨0, rfl, (by unfold kx_hd; rw [if_neg c_1]; rw [if_neg c_5]; rw [if_neg c_9]; rw [if_neg c_13]; exact (if_neg c_17).symm), ht⟩) (fun _ h => nomatch h) dX1_holds_107
          · refine lv_iconst (v := 1) hx hb dX1_holds_102 (by decide) ?_
            refine lv_goto (tgt := 107) hx hb dX1_holds_103 (by decide) ?_
            exact W.zret (v := 1) hx hb hr rfl (fun t ht hW => ⟨1, rfl, (by unfold kx_hd; rw [if_neg c_1]; rw [if_neg c_5]; rw [if_neg c_9]; rw [if_neg c_13]; exact (if_pos c_17).symm), ht⟩) (fun _ h => nomatch h) dX1_holds_107
set_option maxHeartbeats 4000000 in
set_option maxRecDepth 100000 in
/-- CLASS -/
theorem c_X1_classOf (l : Launch) (G : kx_G) (h0 : Nat) (h1 : Nat) (h2 : Nat) (h3 : Nat) (Ki : Nat → Int32) (Li : Nat → UInt64) (Cl : Nat → Int32) (cnt : Nat) (g0 : Nat) (g1 : Nat) (g2 : Nat) (g3 : Nat) (g4 : Nat) (g5 : Nat) (n : Nat) (X : Nat → UInt64) (Y : Nat → UInt64) (R : Nat → UInt64) (E : Nat → UInt64) (F : Nat → Int32) (md : Int32) (hb_X : ∀ j, fx_bd 130 (X j)) (hb_Y : ∀ j, fx_bd 130 (Y j)) (hb_R : ∀ j, fx_bd 140 (R j)) (hb_E : ∀ j, fx_bd 220 (E j)) (hn1 : 1 ≤ n) (hn : n ≤ 16) (hc : cnt ≤ 6) : Met l yX1_classOf wsX1_classOf ({ frames := 3, cells := 0, slots := 0, locals := 74 } : Room) (kx_PR G [.ref h0, .ref g0] [(h0, .inr (2, [.ref h1, .ref h2, .ref h3, .int (nI cnt)])), (h1, kx_aI G 6 Ki), (h2, kx_aD G 6 Li), (h3, kx_aI G 6 Cl), (g0, .inr (4, [.int (nI n), .ref g1, .ref g2, .ref g3, .ref g4, .ref g5, .int md])), (g1, kx_aD G n X), (g2, kx_aD G n Y), (g3, kx_aD G n R), (g4, kx_aD G n E), (g5, kx_aZ G n F)]) (vp_Si (fun r => r = kx_cl (fun j => kx_hd X Y R n md (Ki j) (Li j)) Cl cnt cnt)) 0 0 (fun _ => False) := by
  refine Met.ofW (cc := cX1_classOf) (maxL := 3) (ret := (some .int)) (by decide) rfl ?_
  intro p e s m args below meth c s₁ B hml hv
  obtain ⟨rfl, hP, hT⟩ := hv
  have hx := B.exec
  have hb := B.bytes
  have hr := B.returns
  have hts := atoms_spec (ws := wsX1_classOf) B.pre
  have hown : s.vm.findClass RX1 = some m.cls := findClass_of_methodNamed B.named
  have hlocks := B.notSynchronized
  have hf_22 := hts (.fieldLink RX1 22 "StemShapes$RuleList" "count" "I") (by decide +kernel)
  have hin_X1 : ∀ w ∈ wsX10, w ∈ wsX1_classOf := by decide +kernel
  have hf_9 := hts (.fieldLink RX1 9 "StemShapes$RuleList" "kinds" "[I") (by decide +kernel)
  have hf_15 := hts (.fieldLink RX1 15 "StemShapes$RuleList" "limits" "[D") (by decide +kernel)
  have hf_19 := hts (.fieldLink RX1 19 "StemShapes$RuleList" "classes" "[I") (by decide +kernel)
  have hl := lv_entry ([.ref h0, .ref g0]) (n := 3) (Nat.le_of_ble_eq_true rfl)
  rw [lg_entry_eq]
  generalize (lg_sl ([.ref h0, .ref g0]) ++ List.replicate (3 - (lg_sl ([.ref h0, .ref g0])).length) Slot.unset).toArray = ls at hl ⊢
  have hl : lv_has ls 3 [(0, .ref h0), (1, .ref g0)] := hl
  refine lv_iconst (v := 0) hx hb dX1_classOf_0 (by decide) ?_
  refine lv_istore_n (lv' := [(2, .int 0), (0, .ref h0), (1, .ref g0)]) hx hb dX1_classOf_1 rfl hl (by decide) rfl (fun ls hl => ?_)
  have loop_2 : ∀ (k i : Nat) , i + k = cnt → (kx_cl (fun j => kx_hd X Y R n md (Ki j) (Li j)) Cl cnt cnt = kx_cl (fun j => kx_hd X Y R n md (Ki j) (Li j)) Cl cnt k) → ∀ ls : Array Slot, lv_has ls 3 [(2, .int (nI i)), (1, .ref g0), (0, .ref h0)] → W p l e (headSpec wsX1_classOf ({ frames := 3, cells := 0, slots := 0, locals := 74 } : Room)).room s m [.ref h0, .ref g0].toArray below meth c s.heap [] 0 0 (MQ below (vp_Si (fun r => r = kx_cl (fun j => kx_hd X Y R n md (Ki j) (Li j)) Cl cnt cnt)) [.ref h0, .ref g0].toArray s 0 0 (fun _ => False)) (F0 m 2 ls []) := by
    intro k
    induction k with
    | zero =>
      intro i htot hq ls hl
      refine lv_iload_n hx hb dX1_classOf_2 rfl (lv_at hl 0 rfl) ?_
      refine lv_aload_n hx hb dX1_classOf_3 rfl (lv_at hl 2 rfl) ?_
      refine va_get (D := G.1) (ci := 2) (v := .int (nI cnt)) (C := RX1) (T := TX1) (N := 4) hx hb hts hin_X1 hown hT.1 hP 0 rfl rfl 3 (by decide) hf_22 (fun _ h9 => h9) rfl dX1_classOf_4 ?_
      refine lv_icmp_ge (x := nI i) (y := nI cnt) (tgt := 42) hx hb dX1_classOf_7 (by decide) (fun c_1 => ?_) (fun c_1 => ?_)
      · have c_1 : cnt ≤ i := (nI_leI (a := cnt) (b := i) (by omega) (by omega)).mp c_1
        refine lv_iconst (v := (-1)) hx hb dX1_classOf_42 (by decide) ?_
        exact W.iret (v := (-1)) hx hb hr (fun t ht hW => ⟨(-1), rfl, (by rw [hq]; rfl), ht⟩) (fun _ h => nomatch h) dX1_classOf_43
      · have c_1 : ¬ cnt ≤ i := fun q => c_1 ((nI_leI (a := cnt) (b := i) (by omega) (by omega)).mpr q)
        exfalso; omega
    | succ k ih =>
      intro i htot hq ls hl
      refine lv_iload_n hx hb dX1_classOf_2 rfl (lv_at hl 0 rfl) ?_
      refine lv_aload_n hx hb dX1_classOf_3 rfl (lv_at hl 2 rfl) ?_
      refine va_get (D := G.1) (ci := 2) (v := .int (nI cnt)) (C := RX1) (T := TX1) (N := 4) hx hb hts hin_X1 hown hT.1 hP 0 rfl rfl 3 (by decide) hf_22 (fun _ h9 => h9) rfl dX1_classOf_4 ?_
      refine lv_icmp_ge (x := nI i) (y := nI cnt) (tgt := 42) hx hb dX1_classOf_7 (by decide) (fun c_2 => ?_) (fun c_2 => ?_)
      · have c_2 : cnt ≤ i := (nI_leI (a := cnt) (b := i) (by omega) (by omega)).mp c_2
        exfalso; omega
      · have c_2 : ¬ cnt ≤ i := fun q => c_2 ((nI_leI (a := cnt) (b := i) (by omega) (by omega)).mpr q)
        refine lv_aload_n hx hb dX1_classOf_10 rfl (lv_at hl 1 rfl) ?_
        refine lv_aload_n hx hb dX1_classOf_11 rfl (lv_at hl 2 rfl) ?_
        refine va_get (D := G.1) (ci := 2) (v := .ref h1) (C := RX1) (T := TX1) (N := 4) hx hb hts hin_X1 hown hT.1 hP 0 rfl rfl 0 (by decide) hf_9 (fun _ h9 => h9) rfl dX1_classOf_12 ?_
        refine lv_iload_n hx hb dX1_classOf_15 rfl (lv_at hl 0 rfl) ?_
        refine kx_iald hx hb hT hP 1 rfl i (by omega) (by omega) dX1_classOf_16 ?_
        refine lv_aload_n hx hb dX1_classOf_17 rfl (lv_at hl 2 rfl) ?_
        refine va_get (D := G.1) (ci := 2) (v := .ref h2) (C := RX1) (T := TX1) (N := 4) hx hb hts hin_X1 hown hT.1 hP 0 rfl rfl 1 (by decide) hf_15 (fun _ h9 => h9) rfl dX1_classOf_18 ?_
        refine lv_iload_n hx hb dX1_classOf_21 rfl (lv_at hl 0 rfl) ?_
        refine kx_dald hx hb hT hP 2 rfl i (by omega) (by omega) dX1_classOf_22 ?_
        refine vp_callSi (W.runS (As := [.ref g0, .int (Ki i), .double (Li i)]) (rest := []) ⟨hx, hb, hml, hown, hts⟩ (c_X1_holds l G (h0 := g0) (h1 := g1) (h2 := g2) (h3 := g3) (h4 := g4) (h5 := g5) (n := n) (X := X) (Y := Y) (R := R) (E := E) (F := F) (md := md) (kd := Ki i) (lm := Li i) (hb_X := hb_X) (hb_Y := hb_Y) (hb_R := hb_R) (hb_E := hb_E) (hn1 := (by omega)) (hn := (by omega))) (va_cwS 3 hts gX1_classOf_X1_holds rfl rfl rfl (by decide +kernel) ⟨Nat.le_of_ble_eq_true rfl, Nat.le_of_ble_eq_true rfl⟩) ⟨kx_PRb, kx_pr hT hP [4, 5, 6, 7, 8, 9] rfl⟩ rfl rfl hl.1 rfl (lv_room (Nat.le_of_ble_eq_true rfl)) dX1_classOf_23 ⟨Nat.zero_le _, Nat.zero_le _⟩) (fun r_3 hw_4 => ?_)
        subst hw_4
        refine lv_if_eq (x := kx_hd X Y R n md (Ki i) (Li i)) (tgt := 36) hx hb dX1_classOf_26 (by decide) (fun c_5 => ?_) (fun c_5 => ?_)
        · refine lv_iinc (v := nI (i + 1)) (lv' := [(2, .int (nI (i + 1))), (1, .ref g0), (0, .ref h0)]) hx hb dX1_classOf_36 hl (k := 0) rfl (by show _ + 1 = _; exact nI_1 _) (by decide) rfl (fun ls hl => ?_)
          refine lv_goto (tgt := 2) hx hb dX1_classOf_39 (by decide) ?_
          exact ih (i + 1) (by omega) (by rw [hq]; exact kx_cl_f (by omega) c_5) _ (lv_sub hl [0, 1, 2] rfl)
        · refine lv_aload_n hx hb dX1_classOf_29 rfl (lv_at hl 2 rfl) ?_
          refine va_get (D := G.1) (ci := 2) (v := .ref h3) (C := RX1) (T := TX1) (N := 4) hx hb hts hin_X1 hown hT.1 hP 0 rfl rfl 2 (by decide) hf_19 (fun _ h9 => h9) rfl dX1_classOf_30 ?_
          refine lv_iload_n hx hb dX1_classOf_33 rfl (lv_at hl 0 rfl) ?_
          refine kx_iald hx hb hT hP 3 rfl i (by omega) (by omega) dX1_classOf_34 ?_
          exact W.iret (v := Cl i) hx hb hr (fun t ht hW => ⟨Cl i, rfl, (by rw [hq]; exact (kx_cl_t (by omega) c_5).symm), ht⟩) (fun _ h => nomatch h) dX1_classOf_35
  exact loop_2 cnt 0 (by omega) rfl _ (lv_sub hl [0, 2, 1] rfl)
