set_option maxHeartbeats 4000000 in
set_option maxRecDepth 100000 in
/-- aim: a direction and its length -/
theorem c_X2_direct (l : Launch) (G : kx_G) (sz : Nat) (h0 : Nat) (h1 : Nat) (h2 : Nat) (h3 : Nat) (h4 : Nat) (h5 : Nat) (h6 : Nat) (n : Nat) (v : Nat) (P : Nat → UInt64) (Q : Nat → UInt64) (Ln : Nat → UInt64) (Th : Nat → Int32) (Mi : Nat → UInt64) (Ha : Nat → UInt64) (j : Nat) (p9 : UInt64) (q9 : UInt64) (hb_P : ∀ j, fx_bd 5 (P j)) (hb_Q : ∀ j, fx_bd 5 (Q j)) (hb_Ln : ∀ j, fx_bd 200 (Ln j)) (hb_Mi : ∀ j, fx_bd 14 (Mi j)) (hb_Ha : ∀ j, fx_bd 14 (Ha j)) (hn1 : 1 ≤ n) (hn : n ≤ 16) (hv1 : 1 ≤ v) (hv : v ≤ 8) (hj : j < v) (hp_b : fx_bd 5 p9) (hq_b : fx_bd 5 q9) : Met l yX2_direct wsX2_direct ({ frames := 1, cells := 0, slots := 0, locals := 24 } : Room) (kx_PM G [.ref h0, .int (nI j), .double p9, .double q9] sz [(h0, .inr (3, [.int (nI v), .ref h1, .ref h2, .ref h3, .ref h4, .ref h5, .ref h6])), (h1, kx_aD G v P), (h2, kx_aD G v Q), (h3, kx_aD G v Ln), (h4, kx_aZ G (n * v) Th), (h5, kx_aD G (n * v) Mi), (h6, kx_aD G (n * v) Ha)]) (va_Qv (fun (_ : Unit) => True) (kx_B G (va_A [(h0, .inr (3, [.int (nI v), .ref h1, .ref h2, .ref h3, .ref h4, .ref h5, .ref h6])), (h1, kx_aD G v P), (h2, kx_aD G v Q), (h3, kx_aD G v Ln), (h4, kx_aZ G (n * v) Th), (h5, kx_aD G (n * v) Mi), (h6, kx_aD G (n * v) Ha)] sz) (fun u : Unit => [(h0, .inr (3, [.int (nI v), .ref h1, .ref h2, .ref h3, .ref h4, .ref h5, .ref h6])), (h1, kx_aD G v (vf_upd P j p9)), (h2, kx_aD G v (vf_upd Q j q9)), (h3, kx_aD G v (vf_upd Ln j (kx_root (kx_sq p9 q9)))), (h4, kx_aZ G (n * v) Th), (h5, kx_aD G (n * v) Mi), (h6, kx_aD G (n * v) Ha)])) (va_A [(h0, .inr (3, [.int (nI v), .ref h1, .ref h2, .ref h3, .ref h4, .ref h5, .ref h6])), (h1, kx_aD G v P), (h2, kx_aD G v Q), (h3, kx_aD G v Ln), (h4, kx_aZ G (n * v) Th), (h5, kx_aD G (n * v) Mi), (h6, kx_aD G (n * v) Ha)] sz)) 0 0 (va_A [(h0, .inr (3, [.int (nI v), .ref h1, .ref h2, .ref h3, .ref h4, .ref h5, .ref h6])), (h1, kx_aD G v P), (h2, kx_aD G v Q), (h3, kx_aD G v Ln), (h4, kx_aZ G (n * v) Th), (h5, kx_aD G (n * v) Mi), (h6, kx_aD G (n * v) Ha)] sz) := by
  refine Met.ofW (cc := cX2_direct) (maxL := 6) (ret := none) (by decide) rfl ?_
  intro p e s m args below meth c s₁ B hml hv
  obtain ⟨rfl, hsz, hP, hT, hD0⟩ := hv
  have hx := B.exec
  have hb := B.bytes
  have hr := B.returns
  have hts := atoms_spec (ws := wsX2_direct) B.pre
  have hown : s.vm.findClass RX2 = some m.cls := findClass_of_methodNamed B.named
  have hlocks := B.notSynchronized
  have hf_13 := hts (.fieldLink RX2 13 "StemShapes$Shadows" "p" "[D") (by decide +kernel)
  have hin_X2 : ∀ w ∈ wsX20, w ∈ wsX2_direct := by decide +kernel
  have hf_17 := hts (.fieldLink RX2 17 "StemShapes$Shadows" "q" "[D") (by decide +kernel)
  have hf_20 := hts (.fieldLink RX2 20 "StemShapes$Shadows" "length" "[D") (by decide +kernel)
  have hm_33 : va_Nw (.methodLinkNest RX2 33 yX4_root "StemShapes") s := hT.2 _ (by decide +kernel)
  have hini_RX4 := hts (.initialized RX4) (by decide +kernel)
  have hst_X4_root := hts (.static yX4_root) (by decide +kernel)
  subst hsz
  have hD := hD0.self (sz := s.heap.size)
  generalize hAe : va_A [(h0, .inr (3, [.int (nI v), .ref h1, .ref h2, .ref h3, .ref h4, .ref h5, .ref h6])), (h1, kx_aD G v P), (h2, kx_aD G v Q), (h3, kx_aD G v Ln), (h4, kx_aZ G (n * v) Th), (h5, kx_aD G (n * v) Mi), (h6, kx_aD G (n * v) Ha)] s.heap.size = A at hD ⊢
  have hA : ∀ q : Nat, s.heap.size ≤ q → A q := fun q h => by rw [← hAe]; exact Or.inr h
  have hS : va_S A s.heap s.heap [] := va_S.rf
  have hl := lv_entry ([.ref h0, .int (nI j), .double p9, .double q9]) (n := 6) (Nat.le_of_ble_eq_true rfl)
  rw [lg_entry_eq]
  generalize (lg_sl ([.ref h0, .int (nI j), .double p9, .double q9]) ++ List.replicate (6 - (lg_sl ([.ref h0, .int (nI j), .double p9, .double q9])).length) Slot.unset).toArray = ls at hl ⊢
  have hl : lv_has ls 6 [(0, .ref h0), (1, .int (nI j)), (2, .double p9), (4, .double q9)] := hl
  refine lv_aload_n hx hb dX2_direct_0 rfl (lv_at hl 0 rfl) ?_
  refine va_get (D := G.1) (ci := 3) (v := .ref h1) (C := RX2) (T := TX2) (N := 7) hx hb hts hin_X2 hown hT.1 hP 0 rfl rfl 1 (by decide) hf_13 (fun _ h9 => h9) rfl dX2_direct_1 ?_
  refine lv_iload_n hx hb dX2_direct_4 rfl (lv_at hl 1 rfl) ?_
  refine lv_dload_n hx hb dX2_direct_5 rfl (lv_at hl 2 rfl) ?_
  refine kx_dast hx hb hT hP hD hS 1 rfl j (by omega) (by omega) dX2_direct_6 (fun H locs hP hD hS => ?_)
  have hP : va_P G.1 vwCl [(h0, .inr (3, [.int (nI v), .ref h1, .ref h2, .ref h3, .ref h4, .ref h5, .ref h6])), (h1, kx_aD G v (vf_upd P j p9)), (h2, kx_aD G v Q), (h3, kx_aD G v Ln), (h4, kx_aZ G (n * v) Th), (h5, kx_aD G (n * v) Mi), (h6, kx_aD G (n * v) Ha)] H := hP
  have hD : va_D A [(h0, .inr (3, [.int (nI v), .ref h1, .ref h2, .ref h3, .ref h4, .ref h5, .ref h6])), (h1, kx_aD G v (vf_upd P j p9)), (h2, kx_aD G v Q), (h3, kx_aD G v Ln), (h4, kx_aZ G (n * v) Th), (h5, kx_aD G (n * v) Mi), (h6, kx_aD G (n * v) Ha)] := hD
  refine lv_aload_n hx hb dX2_direct_7 rfl (lv_at hl 0 rfl) ?_
  refine va_get (D := G.1) (ci := 3) (v := .ref h2) (C := RX2) (T := TX2) (N := 7) hx hb hts hin_X2 hown hT.1 hP 0 rfl rfl 2 (by decide) hf_17 (fun _ h9 => h9) rfl dX2_direct_8 ?_
  refine lv_iload_n hx hb dX2_direct_11 rfl (lv_at hl 1 rfl) ?_
  refine lv_dload hx hb dX2_direct_12 (lv_at hl 3 rfl) ?_
  refine kx_dast hx hb hT hP hD hS 2 rfl j (by omega) (by omega) dX2_direct_14 (fun H locs hP hD hS => ?_)
  have hP : va_P G.1 vwCl [(h0, .inr (3, [.int (nI v), .ref h1, .ref h2, .ref h3, .ref h4, .ref h5, .ref h6])), (h1, kx_aD G v (vf_upd P j p9)), (h2, kx_aD G v (vf_upd Q j q9)), (h3, kx_aD G v Ln), (h4, kx_aZ G (n * v) Th), (h5, kx_aD G (n * v) Mi), (h6, kx_aD G (n * v) Ha)] H := hP
  have hD : va_D A [(h0, .inr (3, [.int (nI v), .ref h1, .ref h2, .ref h3, .ref h4, .ref h5, .ref h6])), (h1, kx_aD G v (vf_upd P j p9)), (h2, kx_aD G v (vf_upd Q j q9)), (h3, kx_aD G v Ln), (h4, kx_aZ G (n * v) Th), (h5, kx_aD G (n * v) Mi), (h6, kx_aD G (n * v) Ha)] := hD
  refine lv_aload_n hx hb dX2_direct_15 rfl (lv_at hl 0 rfl) ?_
  refine va_get (D := G.1) (ci := 3) (v := .ref h3) (C := RX2) (T := TX2) (N := 7) hx hb hts hin_X2 hown hT.1 hP 0 rfl rfl 3 (by decide) hf_20 (fun _ h9 => h9) rfl dX2_direct_16 ?_
  refine lv_iload_n hx hb dX2_direct_19 rfl (lv_at hl 1 rfl) ?_
  refine lv_dload_n hx hb dX2_direct_20 rfl (lv_at hl 2 rfl) ?_
  refine lv_dload_n hx hb dX2_direct_21 rfl (lv_at hl 2 rfl) ?_
  refine lv_dmul hx hb dX2_direct_22 (fx_bd.mul hp_b hp_b (by omega)).n ?_
  refine lv_dload hx hb dX2_direct_23 (lv_at hl 3 rfl) ?_
  refine lv_dload hx hb dX2_direct_25 (lv_at hl 3 rfl) ?_
  refine lv_dmul hx hb dX2_direct_27 (fx_bd.mul hq_b hq_b (by omega)).n ?_
  refine lv_dadd hx hb dX2_direct_28 (fx_bd.add (fx_bd.mul hp_b hp_b (by omega)) (fx_bd.mul hq_b hq_b (by omega)) (by omega)).n ?_
  refine vp_callSd (va_Run.run (va_runSN (As := [.double (FP.dadd (FP.dmul p9 p9) (FP.dmul q9 q9))]) (rest := [.int (nI j), .ref h3]) ⟨hx, hb, hml, hown, hts⟩ (c_X4_root l G (w := FP.dadd (FP.dmul p9 p9) (FP.dmul q9 q9)) (hw_b := (kx_sq_bd hp_b hq_b)) (hw_n := (kx_sq_nn hp_b hq_b))) ⟨(va_cnB 1 hts gX2_direct_X4_root_n33 rfl rfl rfl hm_33 hini_RX4 (by decide +kernel) ⟨Nat.le_of_ble_eq_true rfl, Nat.le_of_ble_eq_true rfl⟩), hst_X4_root, trivial⟩ ⟨kx_PRb, kx_pr hT hP [] rfl⟩ rfl rfl hl.1 rfl (lv_room (Nat.le_of_ble_eq_true rfl)) dX2_direct_29 ⟨Nat.zero_le _, Nat.zero_le _⟩)) (fun r_1 hw_2 => ?_)
  subst hw_2
  refine kx_dast hx hb hT hP hD hS 3 rfl j (by omega) (by omega) dX2_direct_32 (fun H locs hP hD hS => ?_)
  have hP : va_P G.1 vwCl [(h0, .inr (3, [.int (nI v), .ref h1, .ref h2, .ref h3, .ref h4, .ref h5, .ref h6])), (h1, kx_aD G v (vf_upd P j p9)), (h2, kx_aD G v (vf_upd Q j q9)), (h3, kx_aD G v (vf_upd Ln j (kx_root (FP.dadd (FP.dmul p9 p9) (FP.dmul q9 q9))))), (h4, kx_aZ G (n * v) Th), (h5, kx_aD G (n * v) Mi), (h6, kx_aD G (n * v) Ha)] H := hP
  have hD : va_D A [(h0, .inr (3, [.int (nI v), .ref h1, .ref h2, .ref h3, .ref h4, .ref h5, .ref h6])), (h1, kx_aD G v (vf_upd P j p9)), (h2, kx_aD G v (vf_upd Q j q9)), (h3, kx_aD G v (vf_upd Ln j (kx_root (FP.dadd (FP.dmul p9 p9) (FP.dmul q9 q9))))), (h4, kx_aZ G (n * v) Th), (h5, kx_aD G (n * v) Mi), (h6, kx_aD G (n * v) Ha)] := hD
  exact W.vret hx hb hr (fun t ht hW => ⟨⟨(), rfl, trivial, And.intro (by rw [ht]; exact hP) hD⟩, hS.F ht⟩) hS.2.2 dX2_direct_33
set_option maxHeartbeats 4000000 in
set_option maxRecDepth 100000 in
/-- shadow: a shadow anew -/
theorem c_X2_cast (l : Launch) (G : kx_G) (sz : Nat) (h0 : Nat) (h1 : Nat) (h2 : Nat) (h3 : Nat) (h4 : Nat) (h5 : Nat) (h6 : Nat) (n : Nat) (v : Nat) (P : Nat → UInt64) (Q : Nat → UInt64) (Ln : Nat → UInt64) (Th : Nat → Int32) (Mi : Nat → UInt64) (Ha : Nat → UInt64) (i : Nat) (j : Nat) (fr : UInt64) (to : UInt64) (hb_P : ∀ j, fx_bd 5 (P j)) (hb_Q : ∀ j, fx_bd 5 (Q j)) (hb_Ln : ∀ j, fx_bd 200 (Ln j)) (hb_Mi : ∀ j, fx_bd 14 (Mi j)) (hb_Ha : ∀ j, fx_bd 14 (Ha j)) (hn1 : 1 ≤ n) (hn : n ≤ 16) (hv1 : 1 ≤ v) (hv : v ≤ 8) (hi : i < n) (hj : j < v) (hf_b : fx_bd 11 fr) (ht_b : fx_bd 11 to) : Met l yX2_cast wsX2_cast ({ frames := 1, cells := 0, slots := 0, locals := 22 } : Room) (kx_PM G [.ref h0, .int (nI i), .int (nI j), .double fr, .double to] sz [(h0, .inr (3, [.int (nI v), .ref h1, .ref h2, .ref h3, .ref h4, .ref h5, .ref h6])), (h1, kx_aD G v P), (h2, kx_aD G v Q), (h3, kx_aD G v Ln), (h4, kx_aZ G (n * v) Th), (h5, kx_aD G (n * v) Mi), (h6, kx_aD G (n * v) Ha)]) (va_Qv (fun (_ : Unit) => True) (kx_B G (va_A [(h0, .inr (3, [.int (nI v), .ref h1, .ref h2, .ref h3, .ref h4, .ref h5, .ref h6])), (h1, kx_aD G v P), (h2, kx_aD G v Q), (h3, kx_aD G v Ln), (h4, kx_aZ G (n * v) Th), (h5, kx_aD G (n * v) Mi), (h6, kx_aD G (n * v) Ha)] sz) (fun u : Unit => [(h0, .inr (3, [.int (nI v), .ref h1, .ref h2, .ref h3, .ref h4, .ref h5, .ref h6])), (h1, kx_aD G v P), (h2, kx_aD G v Q), (h3, kx_aD G v Ln), (h4, kx_aZ G (n * v) (upd Th (i * v + j) 1)), (h5, kx_aD G (n * v) (vf_upd Mi (i * v + j) (FP.ddiv (FP.dadd fr to) fx_2))), (h6, kx_aD G (n * v) (vf_upd Ha (i * v + j) (FP.ddiv (FP.dsub to fr) fx_2)))])) (va_A [(h0, .inr (3, [.int (nI v), .ref h1, .ref h2, .ref h3, .ref h4, .ref h5, .ref h6])), (h1, kx_aD G v P), (h2, kx_aD G v Q), (h3, kx_aD G v Ln), (h4, kx_aZ G (n * v) Th), (h5, kx_aD G (n * v) Mi), (h6, kx_aD G (n * v) Ha)] sz)) 0 0 (va_A [(h0, .inr (3, [.int (nI v), .ref h1, .ref h2, .ref h3, .ref h4, .ref h5, .ref h6])), (h1, kx_aD G v P), (h2, kx_aD G v Q), (h3, kx_aD G v Ln), (h4, kx_aZ G (n * v) Th), (h5, kx_aD G (n * v) Mi), (h6, kx_aD G (n * v) Ha)] sz) := by
  refine Met.ofW (cc := cX2_cast) (maxL := 8) (ret := none) (by decide) rfl ?_
  intro p e s m args below meth c s₁ B hml hv
  obtain ⟨rfl, hsz, hP, hT, hD0⟩ := hv
  have hx := B.exec
  have hb := B.bytes
  have hr := B.returns
  have hts := atoms_spec (ws := wsX2_cast) B.pre
  have hown : s.vm.findClass RX2 = some m.cls := findClass_of_methodNamed B.named
  have hlocks := B.notSynchronized
  have hf_23 := hts (.fieldLink RX2 23 "StemShapes$Shadows" "there" "[Z") (by decide +kernel)
  have hin_X2 : ∀ w ∈ wsX20, w ∈ wsX2_cast := by decide +kernel
  have hf_27 := hts (.fieldLink RX2 27 "StemShapes$Shadows" "middle" "[D") (by decide +kernel)
  have hc_43 := hts (.constantDouble RX2 43 (4611686018427387904)) (by decide +kernel)
  have hf_30 := hts (.fieldLink RX2 30 "StemShapes$Shadows" "half" "[D") (by decide +kernel)
  subst hsz
  have hD := hD0.self (sz := s.heap.size)
  generalize hAe : va_A [(h0, .inr (3, [.int (nI v), .ref h1, .ref h2, .ref h3, .ref h4, .ref h5, .ref h6])), (h1, kx_aD G v P), (h2, kx_aD G v Q), (h3, kx_aD G v Ln), (h4, kx_aZ G (n * v) Th), (h5, kx_aD G (n * v) Mi), (h6, kx_aD G (n * v) Ha)] s.heap.size = A at hD ⊢
  have hA : ∀ q : Nat, s.heap.size ≤ q → A q := fun q h => by rw [← hAe]; exact Or.inr h
  have hS : va_S A s.heap s.heap [] := va_S.rf
  have hl := lv_entry ([.ref h0, .int (nI i), .int (nI j), .double fr, .double to]) (n := 8) (Nat.le_of_ble_eq_true rfl)
  rw [lg_entry_eq]
  generalize (lg_sl ([.ref h0, .int (nI i), .int (nI j), .double fr, .double to]) ++ List.replicate (8 - (lg_sl ([.ref h0, .int (nI i), .int (nI j), .double fr, .double to])).length) Slot.unset).toArray = ls at hl ⊢
  have hl : lv_has ls 8 [(0, .ref h0), (1, .int (nI i)), (2, .int (nI j)), (3, .double fr), (5, .double to)] := hl
  refine lv_aload_n hx hb dX2_cast_0 rfl (lv_at hl 0 rfl) ?_
  refine lv_iload_n hx hb dX2_cast_1 rfl (lv_at hl 1 rfl) ?_
  refine lv_iload_n hx hb dX2_cast_2 rfl (lv_at hl 2 rfl) ?_
  refine vp_callSi (W.runV (As := [.int (nI i), .int (nI j)]) (rest := []) ⟨hx, hb, hml, hown, hts⟩ (c_X2_place l G (h0 := h0) (h1 := h1) (h2 := h2) (h3 := h3) (h4 := h4) (h5 := h5) (h6 := h6) (n := n) (v := v) (P := P) (Q := Q) (Ln := Ln) (Th := Th) (Mi := Mi) (Ha := Ha) (i := i) (j := j) (hb_P := hb_P) (hb_Q := hb_Q) (hb_Ln := hb_Ln) (hb_Mi := hb_Mi) (hb_Ha := hb_Ha)) (cwV 2 hts gX2_cast_X2_place rfl rfl rfl (by decide +kernel) ⟨Nat.le_of_ble_eq_true rfl, Nat.le_of_ble_eq_true rfl⟩) ⟨kx_PRb, va_recv hT.1 hP (ci := 3) (q0 := 0) rfl rfl, kx_pr hT hP [0, 1, 2, 3, 4, 5, 6] rfl⟩ rfl rfl hl.1 rfl (lv_room (Nat.le_of_ble_eq_true rfl)) dX2_cast_3 ⟨Nat.zero_le _, Nat.zero_le _⟩) (fun r_1 hw_2 => ?_)
  subst hw_2
  refine lv_istore (lv' := [(7, .int (nI (i * v + j))), (0, .ref h0), (1, .int (nI i)), (2, .int (nI j)), (3, .double fr), (5, .double to)]) hx hb dX2_cast_6 hl (by decide) rfl (fun ls hl => ?_)
  refine lv_aload_n hx hb dX2_cast_8 rfl (lv_at hl 1 rfl) ?_
  refine va_get (D := G.1) (ci := 3) (v := .ref h4) (C := RX2) (T := TX2) (N := 7) hx hb hts hin_X2 hown hT.1 hP 0 rfl rfl 4 (by decide) hf_23 (fun _ h9 => h9) rfl dX2_cast_9 ?_
  refine lv_iload hx hb dX2_cast_12 (lv_at hl 0 rfl) ?_
  refine lv_iconst (v := 1) hx hb dX2_cast_14 (by decide) ?_
  refine kx_zast hx hb hT hP hD hS 4 rfl (i * v + j) rfl (kx_ix (by omega) (by omega)) (kx_nv (by omega) (by omega)) dX2_cast_15 (fun H locs hP hD hS => ?_)
  have hP : va_P G.1 vwCl [(h0, .inr (3, [.int (nI v), .ref h1, .ref h2, .ref h3, .ref h4, .ref h5, .ref h6])), (h1, kx_aD G v P), (h2, kx_aD G v Q), (h3, kx_aD G v Ln), (h4, kx_aZ G (n * v) (upd Th (i * v + j) 1)), (h5, kx_aD G (n * v) Mi), (h6, kx_aD G (n * v) Ha)] H := hP
  have hD : va_D A [(h0, .inr (3, [.int (nI v), .ref h1, .ref h2, .ref h3, .ref h4, .ref h5, .ref h6])), (h1, kx_aD G v P), (h2, kx_aD G v Q), (h3, kx_aD G v Ln), (h4, kx_aZ G (n * v) (upd Th (i * v + j) 1)), (h5, kx_aD G (n * v) Mi), (h6, kx_aD G (n * v) Ha)] := hD
  refine lv_aload_n hx hb dX2_cast_16 rfl (lv_at hl 1 rfl) ?_
  refine va_get (D := G.1) (ci := 3) (v := .ref h5) (C := RX2) (T := TX2) (N := 7) hx hb hts hin_X2 hown hT.1 hP 0 rfl rfl 5 (by decide) hf_27 (fun _ h9 => h9) rfl dX2_cast_17 ?_
  refine lv_iload hx hb dX2_cast_20 (lv_at hl 0 rfl) ?_
  refine lv_dload_n hx hb dX2_cast_22 rfl (lv_at hl 4 rfl) ?_
  refine lv_dload hx hb dX2_cast_23 (lv_at hl 5 rfl) ?_
  refine lv_dadd hx hb dX2_cast_25 (fx_bd.add hf_b ht_b (by omega)).n ?_
  refine lv_ldc2d (v := 4611686018427387904) hx hb hown hc_43 dX2_cast_26 ?_
  refine lv_ddiv hx hb dX2_cast_29 (fx_bd.div (fx_bd.add hf_b ht_b (by omega)) fx_2l.lb (by omega)).n ?_
  refine kx_dast hx hb hT hP hD hS 5 rfl (i * v + j) (kx_ix (by omega) (by omega)) (kx_nv (by omega) (by omega)) dX2_cast_30 (fun H locs hP hD hS => ?_)
  have hP : va_P G.1 vwCl [(h0, .inr (3, [.int (nI v), .ref h1, .ref h2, .ref h3, .ref h4, .ref h5, .ref h6])), (h1, kx_aD G v P), (h2, kx_aD G v Q), (h3, kx_aD G v Ln), (h4, kx_aZ G (n * v) (upd Th (i * v + j) 1)), (h5, kx_aD G (n * v) (vf_upd Mi (i * v + j) (FP.ddiv (FP.dadd fr to) fx_2))), (h6, kx_aD G (n * v) Ha)] H := hP
  have hD : va_D A [(h0, .inr (3, [.int (nI v), .ref h1, .ref h2, .ref h3, .ref h4, .ref h5, .ref h6])), (h1, kx_aD G v P), (h2, kx_aD G v Q), (h3, kx_aD G v Ln), (h4, kx_aZ G (n * v) (upd Th (i * v + j) 1)), (h5, kx_aD G (n * v) (vf_upd Mi (i * v + j) (FP.ddiv (FP.dadd fr to) fx_2))), (h6, kx_aD G (n * v) Ha)] := hD
  refine lv_aload_n hx hb dX2_cast_31 rfl (lv_at hl 1 rfl) ?_
  refine va_get (D := G.1) (ci := 3) (v := .ref h6) (C := RX2) (T := TX2) (N := 7) hx hb hts hin_X2 hown hT.1 hP 0 rfl rfl 6 (by decide) hf_30 (fun _ h9 => h9) rfl dX2_cast_32 ?_
  refine lv_iload hx hb dX2_cast_35 (lv_at hl 0 rfl) ?_
  refine lv_dload hx hb dX2_cast_37 (lv_at hl 5 rfl) ?_
  refine lv_dload_n hx hb dX2_cast_39 rfl (lv_at hl 4 rfl) ?_
  refine lv_dsub hx hb dX2_cast_40 (fx_bd.sub ht_b hf_b (by omega)).n ?_
  refine lv_ldc2d (v := 4611686018427387904) hx hb hown hc_43 dX2_cast_41 ?_
  refine lv_ddiv hx hb dX2_cast_44 (fx_bd.div (fx_bd.sub ht_b hf_b (by omega)) fx_2l.lb (by omega)).n ?_
  refine kx_dast hx hb hT hP hD hS 6 rfl (i * v + j) (kx_ix (by omega) (by omega)) (kx_nv (by omega) (by omega)) dX2_cast_45 (fun H locs hP hD hS => ?_)
  have hP : va_P G.1 vwCl [(h0, .inr (3, [.int (nI v), .ref h1, .ref h2, .ref h3, .ref h4, .ref h5, .ref h6])), (h1, kx_aD G v P), (h2, kx_aD G v Q), (h3, kx_aD G v Ln), (h4, kx_aZ G (n * v) (upd Th (i * v + j) 1)), (h5, kx_aD G (n * v) (vf_upd Mi (i * v + j) (FP.ddiv (FP.dadd fr to) fx_2))), (h6, kx_aD G (n * v) (vf_upd Ha (i * v + j) (FP.ddiv (FP.dsub to fr) fx_2)))] H := hP
  have hD : va_D A [(h0, .inr (3, [.int (nI v), .ref h1, .ref h2, .ref h3, .ref h4, .ref h5, .ref h6])), (h1, kx_aD G v P), (h2, kx_aD G v Q), (h3, kx_aD G v Ln), (h4, kx_aZ G (n * v) (upd Th (i * v + j) 1)), (h5, kx_aD G (n * v) (vf_upd Mi (i * v + j) (FP.ddiv (FP.dadd fr to) fx_2))), (h6, kx_aD G (n * v) (vf_upd Ha (i * v + j) (FP.ddiv (FP.dsub to fr) fx_2)))] := hD
  exact W.vret hx hb hr (fun t ht hW => ⟨⟨(), rfl, trivial, And.intro (by rw [ht]; exact hP) hD⟩, hS.F ht⟩) hS.2.2 dX2_cast_46
set_option maxHeartbeats 4000000 in
set_option maxRecDepth 100000 in
/-- lift -/
theorem c_X2_takeAway (l : Launch) (G : kx_G) (sz : Nat) (h0 : Nat) (h1 : Nat) (h2 : Nat) (h3 : Nat) (h4 : Nat) (h5 : Nat) (h6 : Nat) (n : Nat) (v : Nat) (P : Nat → UInt64) (Q : Nat → UInt64) (Ln : Nat → UInt64) (Th : Nat → Int32) (Mi : Nat → UInt64) (Ha : Nat → UInt64) (i : Nat) (j : Nat) (hb_P : ∀ j, fx_bd 5 (P j)) (hb_Q : ∀ j, fx_bd 5 (Q j)) (hb_Ln : ∀ j, fx_bd 200 (Ln j)) (hb_Mi : ∀ j, fx_bd 14 (Mi j)) (hb_Ha : ∀ j, fx_bd 14 (Ha j)) (hn1 : 1 ≤ n) (hn : n ≤ 16) (hv1 : 1 ≤ v) (hv : v ≤ 8) (hi : i < n) (hj : j < v) (h01 : ∀ j, Th j = 0 ∨ Th j = 1) : Met l yX2_takeAway wsX2_takeAway ({ frames := 1, cells := 0, slots := 0, locals := 22 } : Room) (kx_PM G [.ref h0, .int (nI i), .int (nI j)] sz [(h0, .inr (3, [.int (nI v), .ref h1, .ref h2, .ref h3, .ref h4, .ref h5, .ref h6])), (h1, kx_aD G v P), (h2, kx_aD G v Q), (h3, kx_aD G v Ln), (h4, kx_aZ G (n * v) Th), (h5, kx_aD G (n * v) Mi), (h6, kx_aD G (n * v) Ha)]) (va_Qi (fun (r : Int32) (_ : Unit) => r = Th (i * v + j)) (kx_B G (va_A [(h0, .inr (3, [.int (nI v), .ref h1, .ref h2, .ref h3, .ref h4, .ref h5, .ref h6])), (h1, kx_aD G v P), (h2, kx_aD G v Q), (h3, kx_aD G v Ln), (h4, kx_aZ G (n * v) Th), (h5, kx_aD G (n * v) Mi), (h6, kx_aD G (n * v) Ha)] sz) (fun u : Unit => [(h0, .inr (3, [.int (nI v), .ref h1, .ref h2, .ref h3, .ref h4, .ref h5, .ref h6])), (h1, kx_aD G v P), (h2, kx_aD G v Q), (h3, kx_aD G v Ln), (h4, kx_aZ G (n * v) (upd Th (i * v + j) 0)), (h5, kx_aD G (n * v) Mi), (h6, kx_aD G (n * v) Ha)])) (va_A [(h0, .inr (3, [.int (nI v), .ref h1, .ref h2, .ref h3, .ref h4, .ref h5, .ref h6])), (h1, kx_aD G v P), (h2, kx_aD G v Q), (h3, kx_aD G v Ln), (h4, kx_aZ G (n * v) Th), (h5, kx_aD G (n * v) Mi), (h6, kx_aD G (n * v) Ha)] sz)) 0 0 (va_A [(h0, .inr (3, [.int (nI v), .ref h1, .ref h2, .ref h3, .ref h4, .ref h5, .ref h6])), (h1, kx_aD G v P), (h2, kx_aD G v Q), (h3, kx_aD G v Ln), (h4, kx_aZ G (n * v) Th), (h5, kx_aD G (n * v) Mi), (h6, kx_aD G (n * v) Ha)] sz) := by
  refine Met.ofW (cc := cX2_takeAway) (maxL := 5) (ret := (some .boolean)) (by decide) rfl ?_
  intro p e s m args below meth c s₁ B hml hv
  obtain ⟨rfl, hsz, hP, hT, hD0⟩ := hv
  have hx := B.exec
  have hb := B.bytes
  have hr := B.returns
  have hts := atoms_spec (ws := wsX2_takeAway) B.pre
  have hown : s.vm.findClass RX2 = some m.cls := findClass_of_methodNamed B.named
  have hlocks := B.notSynchronized
  have hf_23 := hts (.fieldLink RX2 23 "StemShapes$Shadows" "there" "[Z") (by decide +kernel)
  have hin_X2 : ∀ w ∈ wsX20, w ∈ wsX2_takeAway := by decide +kernel
  subst hsz
  have hD := hD0.self (sz := s.heap.size)
  generalize hAe : va_A [(h0, .inr (3, [.int (nI v), .ref h1, .ref h2, .ref h3, .ref h4, .ref h5, .ref h6])), (h1, kx_aD G v P), (h2, kx_aD G v Q), (h3, kx_aD G v Ln), (h4, kx_aZ G (n * v) Th), (h5, kx_aD G (n * v) Mi), (h6, kx_aD G (n * v) Ha)] s.heap.size = A at hD ⊢
  have hA : ∀ q : Nat, s.heap.size ≤ q → A q := fun q h => by rw [← hAe]; exact Or.inr h
  have hS : va_S A s.heap s.heap [] := va_S.rf
  have hl := lv_entry ([.ref h0, .int (nI i), .int (nI j)]) (n := 5) (Nat.le_of_ble_eq_true rfl)
  rw [lg_entry_eq]
  generalize (lg_sl ([.ref h0, .int (nI i), .int (nI j)]) ++ List.replicate (5 - (lg_sl ([.ref h0, .int (nI i), .int (nI j)])).length) Slot.unset).toArray = ls at hl ⊢
  have hl : lv_has ls 5 [(0, .ref h0), (1, .int (nI i)), (2, .int (nI j))] := hl
  refine lv_aload_n hx hb dX2_takeAway_0 rfl (lv_at hl 0 rfl) ?_
  refine lv_iload_n hx hb dX2_takeAway_1 rfl (lv_at hl 1 rfl) ?_
  refine lv_iload_n hx hb dX2_takeAway_2 rfl (lv_at hl 2 rfl) ?_
  refine vp_callSi (W.runV (As := [.int (nI i), .int (nI j)]) (rest := []) ⟨hx, hb, hml, hown, hts⟩ (c_X2_place l G (h0 := h0) (h1 := h1) (h2 := h2) (h3 := h3) (h4 := h4) (h5 := h5) (h6 := h6) (n := n) (v := v) (P := P) (Q := Q) (Ln := Ln) (Th := Th) (Mi := Mi) (Ha := Ha) (i := i) (j := j) (hb_P := hb_P) (hb_Q := hb_Q) (hb_Ln := hb_Ln) (hb_Mi := hb_Mi) (hb_Ha := hb_Ha)) (cwV 2 hts gX2_takeAway_X2_place rfl rfl rfl (by decide +kernel) ⟨Nat.le_of_ble_eq_true rfl, Nat.le_of_ble_eq_true rfl⟩) ⟨kx_PRb, va_recv hT.1 hP (ci := 3) (q0 := 0) rfl rfl, kx_pr hT hP [0, 1, 2, 3, 4, 5, 6] rfl⟩ rfl rfl hl.1 rfl (lv_room (Nat.le_of_ble_eq_true rfl)) dX2_takeAway_3 ⟨Nat.zero_le _, Nat.zero_le _⟩) (fun r_1 hw_2 => ?_)
  subst hw_2
  refine lv_istore_n (lv' := [(3, .int (nI (i * v + j))), (0, .ref h0), (1, .int (nI i)), (2, .int (nI j))]) hx hb dX2_takeAway_6 rfl hl (by decide) rfl (fun ls hl => ?_)
  refine lv_aload_n hx hb dX2_takeAway_7 rfl (lv_at hl 1 rfl) ?_
  refine va_get (D := G.1) (ci := 3) (v := .ref h4) (C := RX2) (T := TX2) (N := 7) hx hb hts hin_X2 hown hT.1 hP 0 rfl rfl 4 (by decide) hf_23 (fun _ h9 => h9) rfl dX2_takeAway_8 ?_
  refine lv_iload_n hx hb dX2_takeAway_11 rfl (lv_at hl 0 rfl) ?_
  refine kx_zald hx hb hT hP 4 rfl (i * v + j) (kx_ix (by omega) (by omega)) (kx_nv (by omega) (by omega)) dX2_takeAway_12 ?_
  refine lv_istore (lv' := [(4, .int (Th (i * v + j))), (3, .int (nI (i * v + j))), (0, .ref h0), (1, .int (nI i)), (2, .int (nI j))]) hx hb dX2_takeAway_13 hl (by decide) rfl (fun ls hl => ?_)
  refine lv_aload_n hx hb dX2_takeAway_15 rfl (lv_at hl 2 rfl) ?_
  refine va_get (D := G.1) (ci := 3) (v := .ref h4) (C := RX2) (T := TX2) (N := 7) hx hb hts hin_X2 hown hT.1 hP 0 rfl rfl 4 (by decide) hf_23 (fun _ h9 => h9) rfl dX2_takeAway_16 ?_
  refine lv_iload_n hx hb dX2_takeAway_19 rfl (lv_at hl 1 rfl) ?_
  refine lv_iconst (v := 0) hx hb dX2_takeAway_20 (by decide) ?_
  refine kx_zast hx hb hT hP hD hS 4 rfl (i * v + j) rfl (kx_ix (by omega) (by omega)) (kx_nv (by omega) (by omega)) dX2_takeAway_21 (fun H locs hP hD hS => ?_)
  have hP : va_P G.1 vwCl [(h0, .inr (3, [.int (nI v), .ref h1, .ref h2, .ref h3, .ref h4, .ref h5, .ref h6])), (h1, kx_aD G v P), (h2, kx_aD G v Q), (h3, kx_aD G v Ln), (h4, kx_aZ G (n * v) (upd Th (i * v + j) 0)), (h5, kx_aD G (n * v) Mi), (h6, kx_aD G (n * v) Ha)] H := hP
  have hD : va_D A [(h0, .inr (3, [.int (nI v), .ref h1, .ref h2, .ref h3, .ref h4, .ref h5, .ref h6])), (h1, kx_aD G v P), (h2, kx_aD G v Q), (h3, kx_aD G v Ln), (h4, kx_aZ G (n * v) (upd Th (i * v + j) 0)), (h5, kx_aD G (n * v) Mi), (h6, kx_aD G (n * v) Ha)] := hD
  refine lv_iload hx hb dX2_takeAway_22 (lv_at hl 0 rfl) ?_
  exact W.zret (v := Th (i * v + j)) hx hb hr (kx_nb (h01 _)) (fun t ht hW => ⟨⟨Th (i * v + j), (), rfl, rfl, And.intro (by rw [ht]; exact hP) hD⟩, hS.F ht⟩) hS.2.2 dX2_takeAway_24
set_option maxHeartbeats 4000000 in
set_option maxRecDepth 100000 in
/-- CENTRE -/
theorem c_X2_fitCentre (l : Launch) (G : kx_G) (sz : Nat) (h0 : Nat) (h1 : Nat) (h2 : Nat) (h3 : Nat) (h4 : Nat) (h5 : Nat) (h6 : Nat) (n : Nat) (v : Nat) (P : Nat → UInt64) (Q : Nat → UInt64) (Ln : Nat → UInt64) (Th : Nat → Int32) (Mi : Nat → UInt64) (Ha : Nat → UInt64) (g0 : Nat) (g1 : Nat) (g2 : Nat) (g3 : Nat) (g4 : Nat) (g5 : Nat) (X : Nat → UInt64) (Y : Nat → UInt64) (R : Nat → UInt64) (E : Nat → UInt64) (F : Nat → Int32) (md : Int32) (i0 : Nat) (hb_P : ∀ j, fx_bd 5 (P j)) (hb_Q : ∀ j, fx_bd 5 (Q j)) (hb_Ln : ∀ j, fx_bd 200 (Ln j)) (hb_Mi : ∀ j, fx_bd 14 (Mi j)) (hb_Ha : ∀ j, fx_bd 14 (Ha j)) (hb_X : ∀ j, fx_bd 130 (X j)) (hb_Y : ∀ j, fx_bd 130 (Y j)) (hb_R : ∀ j, fx_bd 140 (R j)) (hb_E : ∀ j, fx_bd 220 (E j)) (hn1 : 1 ≤ n) (hn : n ≤ 16) (hv1 : 1 ≤ v) (hv : v ≤ 8) (hi : i0 < n) : Met l yX2_fitCentre wsX2_fitCentre ({ frames := 1, cells := 0, slots := 0, locals := 22 } : Room) (kx_PM G [.ref h0, .ref g0, .int (nI i0)] sz [(h0, .inr (3, [.int (nI v), .ref h1, .ref h2, .ref h3, .ref h4, .ref h5, .ref h6])), (h1, kx_aD G v P), (h2, kx_aD G v Q), (h3, kx_aD G v Ln), (h4, kx_aZ G (n * v) Th), (h5, kx_aD G (n * v) Mi), (h6, kx_aD G (n * v) Ha), (g0, .inr (4, [.int (nI n), .ref g1, .ref g2, .ref g3, .ref g4, .ref g5, .int md])), (g1, kx_aD G n X), (g2, kx_aD G n Y), (g3, kx_aD G n R), (g4, kx_aD G n E), (g5, kx_aZ G n F)]) (va_Qi (fun (r : Int32) (u : (Nat → UInt64) × (Nat → UInt64)) => (¬ kx_ok (kx_det (fun j => Th (i0 * v + j)) P Q v) ∧ r = 0 ∧ u = (X, Y)) ∨ (kx_ok (kx_det (fun j => Th (i0 * v + j)) P Q v) ∧ r = 1 ∧ u = (vf_upd X i0 (kx_cx (fun j => Th (i0 * v + j)) P Q (fun j => Mi (i0 * v + j)) v), vf_upd Y i0 (kx_cy (fun j => Th (i0 * v + j)) P Q (fun j => Mi (i0 * v + j)) v)))) (kx_B G (va_A [(h0, .inr (3, [.int (nI v), .ref h1, .ref h2, .ref h3, .ref h4, .ref h5, .ref h6])), (h1, kx_aD G v P), (h2, kx_aD G v Q), (h3, kx_aD G v Ln), (h4, kx_aZ G (n * v) Th), (h5, kx_aD G (n * v) Mi), (h6, kx_aD G (n * v) Ha), (g0, .inr (4, [.int (nI n), .ref g1, .ref g2, .ref g3, .ref g4, .ref g5, .int md])), (g1, kx_aD G n X), (g2, kx_aD G n Y), (g3, kx_aD G n R), (g4, kx_aD G n E), (g5, kx_aZ G n F)] sz) (fun u : (Nat → UInt64) × (Nat → UInt64) => [(h0, .inr (3, [.int (nI v), .ref h1, .ref h2, .ref h3, .ref h4, .ref h5, .ref h6])), (h1, kx_aD G v P), (h2, kx_aD G v Q), (h3, kx_aD G v Ln), (h4, kx_aZ G (n * v) Th), (h5, kx_aD G (n * v) Mi), (h6, kx_aD G (n * v) Ha), (g0, .inr (4, [.int (nI n), .ref g1, .ref g2, .ref g3, .ref g4, .ref g5, .int md])), (g1, kx_aD G n u.1), (g2, kx_aD G n u.2), (g3, kx_aD G n R), (g4, kx_aD G n E), (g5, kx_aZ G n F)])) (va_A [(h0, .inr (3, [.int (nI v), .ref h1, .ref h2, .ref h3, .ref h4, .ref h5, .ref h6])), (h1, kx_aD G v P), (h2, kx_aD G v Q), (h3, kx_aD G v Ln), (h4, kx_aZ G (n * v) Th), (h5, kx_aD G (n * v) Mi), (h6, kx_aD G (n * v) Ha), (g0, .inr (4, [.int (nI n), .ref g1, .ref g2, .ref g3, .ref g4, .ref g5, .int md])), (g1, kx_aD G n X), (g2, kx_aD G n Y), (g3, kx_aD G n R), (g4, kx_aD G n E), (g5, kx_aZ G n F)] sz)) 0 0 (va_A [(h0, .inr (3, [.int (nI v), .ref h1, .ref h2, .ref h3, .ref h4, .ref h5, .ref h6])), (h1, kx_aD G v P), (h2, kx_aD G v Q), (h3, kx_aD G v Ln), (h4, kx_aZ G (n * v) Th), (h5, kx_aD G (n * v) Mi), (h6, kx_aD G (n * v) Ha), (g0, .inr (4, [.int (nI n), .ref g1, .ref g2, .ref g3, .ref g4, .ref g5, .int md])), (g1, kx_aD G n X), (g2, kx_aD G n Y), (g3, kx_aD G n R), (g4, kx_aD G n E), (g5, kx_aZ G n F)] sz) := by
  refine Met.ofW (cc := cX2_fitCentre) (maxL := 17) (ret := (some .boolean)) (by decide) rfl ?_
  intro p e s m args below meth c s₁ B hml hv
  obtain ⟨rfl, hsz, hP, hT, hD0⟩ := hv
  have hx := B.exec
  have hb := B.bytes
  have hr := B.returns
  have hts := atoms_spec (ws := wsX2_fitCentre) B.pre
  have hown : s.vm.findClass RX2 = some m.cls := findClass_of_methodNamed B.named
  have hlocks := B.notSynchronized
  have hf_7 := hts (.fieldLink RX2 7 "StemShapes$Shadows" "views" "I") (by decide +kernel)
  have hin_X2 : ∀ w ∈ wsX20, w ∈ wsX2_fitCentre := by decide +kernel
  have hc_75 := hts (.constantDouble RX2 75 (4517110426252607488)) (by decide +kernel)
  have hf_65 := hT.nest (args := [.ref h0, .ref g0, .int (nI i0)].toArray) (.fieldLinkNest RX2 65 "StemShapes$Stem" "x" "[D" "StemShapes") (by decide +kernel)
  have hin_X3 : ∀ w ∈ wsX30, w ∈ wsX2_fitCentre := by decide +kernel
  have hf_68 := hT.nest (args := [.ref h0, .ref g0, .int (nI i0)].toArray) (.fieldLinkNest RX2 68 "StemShapes$Stem" "y" "[D" "StemShapes") (by decide +kernel)
  have hf_23 := hts (.fieldLink RX2 23 "StemShapes$Shadows" "there" "[Z") (by decide +kernel)
  have hf_13 := hts (.fieldLink RX2 13 "StemShapes$Shadows" "p" "[D") (by decide +kernel)
  have hf_17 := hts (.fieldLink RX2 17 "StemShapes$Shadows" "q" "[D") (by decide +kernel)
  have hf_27 := hts (.fieldLink RX2 27 "StemShapes$Shadows" "middle" "[D") (by decide +kernel)
  subst hsz
  have hD := hD0.self (sz := s.heap.size)
  generalize hAe : va_A [(h0, .inr (3, [.int (nI v), .ref h1, .ref h2, .ref h3, .ref h4, .ref h5, .ref h6])), (h1, kx_aD G v P), (h2, kx_aD G v Q), (h3, kx_aD G v Ln), (h4, kx_aZ G (n * v) Th), (h5, kx_aD G (n * v) Mi), (h6, kx_aD G (n * v) Ha), (g0, .inr (4, [.int (nI n), .ref g1, .ref g2, .ref g3, .ref g4, .ref g5, .int md])), (g1, kx_aD G n X), (g2, kx_aD G n Y), (g3, kx_aD G n R), (g4, kx_aD G n E), (g5, kx_aZ G n F)] s.heap.size = A at hD ⊢
  have hA : ∀ q : Nat, s.heap.size ≤ q → A q := fun q h => by rw [← hAe]; exact Or.inr h
  have hS : va_S A s.heap s.heap [] := va_S.rf
  have hl := lv_entry ([.ref h0, .ref g0, .int (nI i0)]) (n := 17) (Nat.le_of_ble_eq_true rfl)
  rw [lg_entry_eq]
  generalize (lg_sl ([.ref h0, .ref g0, .int (nI i0)]) ++ List.replicate (17 - (lg_sl ([.ref h0, .ref g0, .int (nI i0)])).length) Slot.unset).toArray = ls at hl ⊢
  have hl : lv_has ls 17 [(0, .ref h0), (1, .ref g0), (2, .int (nI i0))] := hl
  refine lv_dconst0 hx hb dX2_fitCentre_0 ?_
  refine lv_dstore_n (lv' := [(3, .double FP.dconst0), (0, .ref h0), (1, .ref g0), (2, .int (nI i0))]) hx hb dX2_fitCentre_1 rfl hl (by decide) rfl (fun ls hl => ?_)
  refine lv_dconst0 hx hb dX2_fitCentre_2 ?_
  refine lv_dstore (lv' := [(5, .double FP.dconst0), (3, .double FP.dconst0), (0, .ref h0), (1, .ref g0), (2, .int (nI i0))]) hx hb dX2_fitCentre_3 hl (by decide) rfl (fun ls hl => ?_)
  refine lv_dconst0 hx hb dX2_fitCentre_5 ?_
  refine lv_dstore (lv' := [(7, .double FP.dconst0), (5, .double FP.dconst0), (3, .double FP.dconst0), (0, .ref h0), (1, .ref g0), (2, .int (nI i0))]) hx hb dX2_fitCentre_6 hl (by decide) rfl (fun ls hl => ?_)
  refine lv_dconst0 hx hb dX2_fitCentre_8 ?_
  refine lv_dstore (lv' := [(9, .double FP.dconst0), (7, .double FP.dconst0), (5, .double FP.dconst0), (3, .double FP.dconst0), (0, .ref h0), (1, .ref g0), (2, .int (nI i0))]) hx hb dX2_fitCentre_9 hl (by decide) rfl (fun ls hl => ?_)
  refine lv_dconst0 hx hb dX2_fitCentre_11 ?_
  refine lv_dstore (lv' := [(11, .double FP.dconst0), (9, .double FP.dconst0), (7, .double FP.dconst0), (5, .double FP.dconst0), (3, .double FP.dconst0), (0, .ref h0), (1, .ref g0), (2, .int (nI i0))]) hx hb dX2_fitCentre_12 hl (by decide) rfl (fun ls hl => ?_)
  refine lv_iconst (v := 0) hx hb dX2_fitCentre_14 (by decide) ?_
  refine lv_istore (lv' := [(13, .int 0), (11, .double FP.dconst0), (9, .double FP.dconst0), (7, .double FP.dconst0), (5, .double FP.dconst0), (3, .double FP.dconst0), (0, .ref h0), (1, .ref g0), (2, .int (nI i0))]) hx hb dX2_fitCentre_15 hl (by decide) rfl (fun ls hl => ?_)
  have loop_17 : ∀ (k i : Nat) (a : UInt64) (b : UInt64) (c9 : UInt64) (d : UInt64) (e9 : UInt64), i + k = v → a = kx_S2 (fun j => Th (i0 * v + j)) P P i → b = kx_S2 (fun j => Th (i0 * v + j)) P Q i → c9 = kx_S2 (fun j => Th (i0 * v + j)) Q Q i → d = kx_S2 (fun j => Th (i0 * v + j)) P (fun j => Mi (i0 * v + j)) i → e9 = kx_S2 (fun j => Th (i0 * v + j)) Q (fun j => Mi (i0 * v + j)) i → ∀ (H : Heap) (locs : List Loc), va_P G.1 vwCl [(h0, .inr (3, [.int (nI v), .ref h1, .ref h2, .ref h3, .ref h4, .ref h5, .ref h6])), (h1, kx_aD G v P), (h2, kx_aD G v Q), (h3, kx_aD G v Ln), (h4, kx_aZ G (n * v) Th), (h5, kx_aD G (n * v) Mi), (h6, kx_aD G (n * v) Ha), (g0, .inr (4, [.int (nI n), .ref g1, .ref g2, .ref g3, .ref g4, .ref g5, .int md])), (g1, kx_aD G n X), (g2, kx_aD G n Y), (g3, kx_aD G n R), (g4, kx_aD G n E), (g5, kx_aZ G n F)] H → va_D A [(h0, .inr (3, [.int (nI v), .ref h1, .ref h2, .ref h3, .ref h4, .ref h5, .ref h6])), (h1, kx_aD G v P), (h2, kx_aD G v Q), (h3, kx_aD G v Ln), (h4, kx_aZ G (n * v) Th), (h5, kx_aD G (n * v) Mi), (h6, kx_aD G (n * v) Ha), (g0, .inr (4, [.int (nI n), .ref g1, .ref g2, .ref g3, .ref g4, .ref g5, .int md])), (g1, kx_aD G n X), (g2, kx_aD G n Y), (g3, kx_aD G n R), (g4, kx_aD G n E), (g5, kx_aZ G n F)] → va_S A s.heap H locs → ∀ ls : Array Slot, lv_has ls 17 [(13, .int (nI i)), (11, .double e9), (9, .double d), (7, .double c9), (5, .double b), (3, .double a), (2, .int (nI i0)), (1, .ref g0), (0, .ref h0)] → W p l e (headSpec wsX2_fitCentre ({ frames := 1, cells := 0, slots := 0, locals := 22 } : Room)).room s m [.ref h0, .ref g0, .int (nI i0)].toArray below meth c H locs 0 0 (MQ below (va_Qi (fun (r : Int32) (u : (Nat → UInt64) × (Nat → UInt64)) => (¬ kx_ok (kx_det (fun j => Th (i0 * v + j)) P Q v) ∧ r = 0 ∧ u = (X, Y)) ∨ (kx_ok (kx_det (fun j => Th (i0 * v + j)) P Q v) ∧ r = 1 ∧ u = (vf_upd X i0 (kx_cx (fun j => Th (i0 * v + j)) P Q (fun j => Mi (i0 * v + j)) v), vf_upd Y i0 (kx_cy (fun j => Th (i0 * v + j)) P Q (fun j => Mi (i0 * v + j)) v)))) (kx_B G A (fun u : (Nat → UInt64) × (Nat → UInt64) => [(h0, .inr (3, [.int (nI v), .ref h1, .ref h2, .ref h3, .ref h4, .ref h5, .ref h6])), (h1, kx_aD G v P), (h2, kx_aD G v Q), (h3, kx_aD G v Ln), (h4, kx_aZ G (n * v) Th), (h5, kx_aD G (n * v) Mi), (h6, kx_aD G (n * v) Ha), (g0, .inr (4, [.int (nI n), .ref g1, .ref g2, .ref g3, .ref g4, .ref g5, .int md])), (g1, kx_aD G n u.1), (g2, kx_aD G n u.2), (g3, kx_aD G n R), (g4, kx_aD G n E), (g5, kx_aZ G n F)])) A) [.ref h0, .ref g0, .int (nI i0)].toArray s 0 0 A) (F0 m 17 ls []) := by
    intro k
    induction k with
    | zero =>
      intro i a b c9 d e9 htot e_a e_b e_c9 e_d e_e9 H locs hP hD hS ls hl
      subst e_a
      subst e_b
      subst e_c9
      subst e_d
      subst e_e9
      have hiv : i = v := by omega
      rw [hiv] at hl
      refine lv_iload hx hb dX2_fitCentre_17 (lv_at hl 0 rfl) ?_
      refine lv_aload_n hx hb dX2_fitCentre_19 rfl (lv_at hl 8 rfl) ?_
      refine va_get (D := G.1) (ci := 3) (v := .int (nI v)) (C := RX2) (T := TX2) (N := 7) hx hb hts hin_X2 hown hT.1 hP 0 rfl rfl 0 (by decide) hf_7 (fun _ h9 => h9) rfl dX2_fitCentre_20 ?_
      refine lv_icmp_ge (x := nI v) (y := nI v) (tgt := 149) hx hb dX2_fitCentre_23 (by decide) (fun c_1 => ?_) (fun c_1 => ?_)
      · have c_1 : v ≤ v := (nI_leI (a := v) (b := v) (by omega) (by omega)).mp c_1
        refine lv_dload_n hx hb dX2_fitCentre_149 rfl (lv_at hl 5 rfl) ?_
        refine lv_dload hx hb dX2_fitCentre_150 (lv_at hl 3 rfl) ?_
        refine lv_dmul hx hb dX2_fitCentre_152 (fx_bd.mul (kx_S2_bd (th := (fun j => Th (i0 * v + j))) (f := P) (g := P) hb_P hb_P v (by omega)) (kx_S2_bd (th := (fun j => Th (i0 * v + j))) (f := Q) (g := Q) hb_Q hb_Q v (by omega)) (by omega)).n ?_
        refine lv_dload hx hb dX2_fitCentre_153 (lv_at hl 4 rfl) ?_
        refine lv_dload hx hb dX2_fitCentre_155 (lv_at hl 4 rfl) ?_
        refine lv_dmul hx hb dX2_fitCentre_157 (fx_bd.mul (kx_S2_bd (th := (fun j => Th (i0 * v + j))) (f := P) (g := Q) hb_P hb_Q v (by omega)) (kx_S2_bd (th := (fun j => Th (i0 * v + j))) (f := P) (g := Q) hb_P hb_Q v (by omega)) (by omega)).n ?_
        refine lv_dsub hx hb dX2_fitCentre_158 (fx_bd.sub (fx_bd.mul (kx_S2_bd (th := (fun j => Th (i0 * v + j))) (f := P) (g := P) hb_P hb_P v (by omega)) (kx_S2_bd (th := (fun j => Th (i0 * v + j))) (f := Q) (g := Q) hb_Q hb_Q v (by omega)) (by omega)) (fx_bd.mul (kx_S2_bd (th := (fun j => Th (i0 * v + j))) (f := P) (g := Q) hb_P hb_Q v (by omega)) (kx_S2_bd (th := (fun j => Th (i0 * v + j))) (f := P) (g := Q) hb_P hb_Q v (by omega)) (by omega)) (by omega)).n ?_
        refine lv_dstore (lv' := [(13, .double (FP.dsub (FP.dmul (kx_S2 (fun j => Th (i0 * v + j)) P P v) (kx_S2 (fun j => Th (i0 * v + j)) Q Q v)) (FP.dmul (kx_S2 (fun j => Th (i0 * v + j)) P Q v) (kx_S2 (fun j => Th (i0 * v + j)) P Q v)))), (11, .double (kx_S2 (fun j => Th (i0 * v + j)) Q (fun j => Mi (i0 * v + j)) v)), (9, .double (kx_S2 (fun j => Th (i0 * v + j)) P (fun j => Mi (i0 * v + j)) v)), (7, .double (kx_S2 (fun j => Th (i0 * v + j)) Q Q v)), (5, .double (kx_S2 (fun j => Th (i0 * v + j)) P Q v)), (3, .double (kx_S2 (fun j => Th (i0 * v + j)) P P v)), (2, .int (nI i0)), (1, .ref g0), (0, .ref h0)]) hx hb dX2_fitCentre_159 hl (by decide) rfl (fun ls hl => ?_)
        refine lv_dload hx hb dX2_fitCentre_161 (lv_at hl 0 rfl) ?_
        refine lv_dconst0 hx hb dX2_fitCentre_163 ?_
        refine kx_dlt (tgt := 174) hx hb dX2_fitCentre_164 dX2_fitCentre_165 (by decide) (fun c_2 => ?_) (fun c_2 => ?_)
        · refine lv_dload hx hb dX2_fitCentre_174 (lv_at hl 0 rfl) ?_
          refine lv_dstore (lv' := [(15, .double (FP.dsub (FP.dmul (kx_S2 (fun j => Th (i0 * v + j)) P P v) (kx_S2 (fun j => Th (i0 * v + j)) Q Q v)) (FP.dmul (kx_S2 (fun j => Th (i0 * v + j)) P Q v) (kx_S2 (fun j => Th (i0 * v + j)) P Q v)))), (13, .double (FP.dsub (FP.dmul (kx_S2 (fun j => Th (i0 * v + j)) P P v) (kx_S2 (fun j => Th (i0 * v + j)) Q Q v)) (FP.dmul (kx_S2 (fun j => Th (i0 * v + j)) P Q v) (kx_S2 (fun j => Th (i0 * v + j)) P Q v)))), (11, .double (kx_S2 (fun j => Th (i0 * v + j)) Q (fun j => Mi (i0 * v + j)) v)), (9, .double (kx_S2 (fun j => Th (i0 * v + j)) P (fun j => Mi (i0 * v + j)) v)), (7, .double (kx_S2 (fun j => Th (i0 * v + j)) Q Q v)), (5, .double (kx_S2 (fun j => Th (i0 * v + j)) P Q v)), (3, .double (kx_S2 (fun j => Th (i0 * v + j)) P P v)), (2, .int (nI i0)), (1, .ref g0), (0, .ref h0)]) hx hb dX2_fitCentre_176 hl (by decide) rfl (fun ls hl => ?_)
          refine lv_dload hx hb dX2_fitCentre_178 (lv_at hl 0 rfl) ?_
          refine lv_ldc2d (v := 4517110426252607488) hx hb hown hc_75 dX2_fitCentre_180 ?_
          refine kx_dlt (tgt := 189) hx hb dX2_fitCentre_183 dX2_fitCentre_184 (by decide) (fun c_3 => ?_) (fun c_3 => ?_)
          · have hok : kx_ok (kx_det (fun j => Th (i0 * v + j)) P Q v) := (kx_ok_2 c_2).mpr c_3
            refine lv_aload_n hx hb dX2_fitCentre_189 rfl (lv_at hl 8 rfl) ?_
            refine va_getN (D := G.1) (ci := 4) (v := .ref g1) (C := RX3) (T := TX3) (N := 7) hx hb hts hin_X3 hown hT.1 hP 7 rfl rfl 1 (by decide) hf_65 (fun _ h9 => h9) rfl dX2_fitCentre_190 ?_
            refine lv_iload_n hx hb dX2_fitCentre_193 rfl (lv_at hl 7 rfl) ?_
            refine lv_dload hx hb dX2_fitCentre_194 (lv_at hl 3 rfl) ?_
            refine lv_dload hx hb dX2_fitCentre_196 (lv_at hl 4 rfl) ?_
            refine lv_dmul hx hb dX2_fitCentre_198 (fx_bd.mul (kx_S2_bd (th := (fun j => Th (i0 * v + j))) (f := P) (g := (fun j => Mi (i0 * v + j))) hb_P (fun j => hb_Mi (i0 * v + j)) v (by omega)) (kx_S2_bd (th := (fun j => Th (i0 * v + j))) (f := Q) (g := Q) hb_Q hb_Q v (by omega)) (by omega)).n ?_
            refine lv_dload hx hb dX2_fitCentre_199 (lv_at hl 2 rfl) ?_
            refine lv_dload hx hb dX2_fitCentre_201 (lv_at hl 5 rfl) ?_
            refine lv_dmul hx hb dX2_fitCentre_203 (fx_bd.mul (kx_S2_bd (th := (fun j => Th (i0 * v + j))) (f := Q) (g := (fun j => Mi (i0 * v + j))) hb_Q (fun j => hb_Mi (i0 * v + j)) v (by omega)) (kx_S2_bd (th := (fun j => Th (i0 * v + j))) (f := P) (g := Q) hb_P hb_Q v (by omega)) (by omega)).n ?_
            refine lv_dsub hx hb dX2_fitCentre_204 (fx_bd.sub (fx_bd.mul (kx_S2_bd (th := (fun j => Th (i0 * v + j))) (f := P) (g := (fun j => Mi (i0 * v + j))) hb_P (fun j => hb_Mi (i0 * v + j)) v (by omega)) (kx_S2_bd (th := (fun j => Th (i0 * v + j))) (f := Q) (g := Q) hb_Q hb_Q v (by omega)) (by omega)) (fx_bd.mul (kx_S2_bd (th := (fun j => Th (i0 * v + j))) (f := Q) (g := (fun j => Mi (i0 * v + j))) hb_Q (fun j => hb_Mi (i0 * v + j)) v (by omega)) (kx_S2_bd (th := (fun j => Th (i0 * v + j))) (f := P) (g := Q) hb_P hb_Q v (by omega)) (by omega)) (by omega)).n ?_
            refine lv_dload hx hb dX2_fitCentre_205 (lv_at hl 1 rfl) ?_
            refine lv_ddiv hx hb dX2_fitCentre_207 (fx_bd.div (fx_bd.sub (fx_bd.mul (kx_S2_bd (th := (fun j => Th (i0 * v + j))) (f := P) (g := (fun j => Mi (i0 * v + j))) hb_P (fun j => hb_Mi (i0 * v + j)) v (by omega)) (kx_S2_bd (th := (fun j => Th (i0 * v + j))) (f := Q) (g := Q) hb_Q hb_Q v (by omega)) (by omega)) (fx_bd.mul (kx_S2_bd (th := (fun j => Th (i0 * v + j))) (f := Q) (g := (fun j => Mi (i0 * v + j))) hb_Q (fun j => hb_Mi (i0 * v + j)) v (by omega)) (kx_S2_bd (th := (fun j => Th (i0 * v + j))) (f := P) (g := Q) hb_P hb_Q v (by omega)) (by omega)) (by omega)) (kx_ok_lb (kx_det_bd hb_P hb_Q hv) hok) (by omega)).n ?_
            refine kx_dast hx hb hT hP hD hS 8 rfl i0 (by omega) (by omega) dX2_fitCentre_208 (fun H locs hP hD hS => ?_)
            have hP : va_P G.1 vwCl [(h0, .inr (3, [.int (nI v), .ref h1, .ref h2, .ref h3, .ref h4, .ref h5, .ref h6])), (h1, kx_aD G v P), (h2, kx_aD G v Q), (h3, kx_aD G v Ln), (h4, kx_aZ G (n * v) Th), (h5, kx_aD G (n * v) Mi), (h6, kx_aD G (n * v) Ha), (g0, .inr (4, [.int (nI n), .ref g1, .ref g2, .ref g3, .ref g4, .ref g5, .int md])), (g1, kx_aD G n (vf_upd X i0 (FP.ddiv (FP.dsub (FP.dmul (kx_S2 (fun j => Th (i0 * v + j)) P (fun j => Mi (i0 * v + j)) v) (kx_S2 (fun j => Th (i0 * v + j)) Q Q v)) (FP.dmul (kx_S2 (fun j => Th (i0 * v + j)) Q (fun j => Mi (i0 * v + j)) v) (kx_S2 (fun j => Th (i0 * v + j)) P Q v))) (FP.dsub (FP.dmul (kx_S2 (fun j => Th (i0 * v + j)) P P v) (kx_S2 (fun j => Th (i0 * v + j)) Q Q v)) (FP.dmul (kx_S2 (fun j => Th (i0 * v + j)) P Q v) (kx_S2 (fun j => Th (i0 * v + j)) P Q v)))))), (g2, kx_aD G n Y), (g3, kx_aD G n R), (g4, kx_aD G n E), (g5, kx_aZ G n F)] H := hP
            have hD : va_D A [(h0, .inr (3, [.int (nI v), .ref h1, .ref h2, .ref h3, .ref h4, .ref h5, .ref h6])), (h1, kx_aD G v P), (h2, kx_aD G v Q), (h3, kx_aD G v Ln), (h4, kx_aZ G (n * v) Th), (h5, kx_aD G (n * v) Mi), (h6, kx_aD G (n * v) Ha), (g0, .inr (4, [.int (nI n), .ref g1, .ref g2, .ref g3, .ref g4, .ref g5, .int md])), (g1, kx_aD G n (vf_upd X i0 (FP.ddiv (FP.dsub (FP.dmul (kx_S2 (fun j => Th (i0 * v + j)) P (fun j => Mi (i0 * v + j)) v) (kx_S2 (fun j => Th (i0 * v + j)) Q Q v)) (FP.dmul (kx_S2 (fun j => Th (i0 * v + j)) Q (fun j => Mi (i0 * v + j)) v) (kx_S2 (fun j => Th (i0 * v + j)) P Q v))) (FP.dsub (FP.dmul (kx_S2 (fun j => Th (i0 * v + j)) P P v) (kx_S2 (fun j => Th (i0 * v + j)) Q Q v)) (FP.dmul (kx_S2 (fun j => Th (i0 * v + j)) P Q v) (kx_S2 (fun j => Th (i0 * v + j)) P Q v)))))), (g2, kx_aD G n Y), (g3, kx_aD G n R), (g4, kx_aD G n E), (g5, kx_aZ G n F)] := hD
            refine lv_aload_n hx hb dX2_fitCentre_209 rfl (lv_at hl 8 rfl) ?_
            refine va_getN (D := G.1) (ci := 4) (v := .ref g2) (C := RX3) (T := TX3) (N := 7) hx hb hts hin_X3 hown hT.1 hP 7 rfl rfl 2 (by decide) hf_68 (fun _ h9 => h9) rfl dX2_fitCentre_210 ?_
            refine lv_iload_n hx hb dX2_fitCentre_213 rfl (lv_at hl 7 rfl) ?_
            refine lv_dload_n hx hb dX2_fitCentre_214 rfl (lv_at hl 6 rfl) ?_
            refine lv_dload hx hb dX2_fitCentre_215 (lv_at hl 2 rfl) ?_
            refine lv_dmul hx hb dX2_fitCentre_217 (fx_bd.mul (kx_S2_bd (th := (fun j => Th (i0 * v + j))) (f := P) (g := P) hb_P hb_P v (by omega)) (kx_S2_bd (th := (fun j => Th (i0 * v + j))) (f := Q) (g := (fun j => Mi (i0 * v + j))) hb_Q (fun j => hb_Mi (i0 * v + j)) v (by omega)) (by omega)).n ?_
            refine lv_dload hx hb dX2_fitCentre_218 (lv_at hl 5 rfl) ?_
            refine lv_dload hx hb dX2_fitCentre_220 (lv_at hl 3 rfl) ?_
            refine lv_dmul hx hb dX2_fitCentre_222 (fx_bd.mul (kx_S2_bd (th := (fun j => Th (i0 * v + j))) (f := P) (g := Q) hb_P hb_Q v (by omega)) (kx_S2_bd (th := (fun j => Th (i0 * v + j))) (f := P) (g := (fun j => Mi (i0 * v + j))) hb_P (fun j => hb_Mi (i0 * v + j)) v (by omega)) (by omega)).n ?_
            refine lv_dsub hx hb dX2_fitCentre_223 (fx_bd.sub (fx_bd.mul (kx_S2_bd (th := (fun j => Th (i0 * v + j))) (f := P) (g := P) hb_P hb_P v (by omega)) (kx_S2_bd (th := (fun j => Th (i0 * v + j))) (f := Q) (g := (fun j => Mi (i0 * v + j))) hb_Q (fun j => hb_Mi (i0 * v + j)) v (by omega)) (by omega)) (fx_bd.mul (kx_S2_bd (th := (fun j => Th (i0 * v + j))) (f := P) (g := Q) hb_P hb_Q v (by omega)) (kx_S2_bd (th := (fun j => Th (i0 * v + j))) (f := P) (g := (fun j => Mi (i0 * v + j))) hb_P (fun j => hb_Mi (i0 * v + j)) v (by omega)) (by omega)) (by omega)).n ?_
            refine lv_dload hx hb dX2_fitCentre_224 (lv_at hl 1 rfl) ?_
            refine lv_ddiv hx hb dX2_fitCentre_226 (fx_bd.div (fx_bd.sub (fx_bd.mul (kx_S2_bd (th := (fun j => Th (i0 * v + j))) (f := P) (g := P) hb_P hb_P v (by omega)) (kx_S2_bd (th := (fun j => Th (i0 * v + j))) (f := Q) (g := (fun j => Mi (i0 * v + j))) hb_Q (fun j => hb_Mi (i0 * v + j)) v (by omega)) (by omega)) (fx_bd.mul (kx_S2_bd (th := (fun j => Th (i0 * v + j))) (f := P) (g := Q) hb_P hb_Q v (by omega)) (kx_S2_bd (th := (fun j => Th (i0 * v + j))) (f := P) (g := (fun j => Mi (i0 * v + j))) hb_P (fun j => hb_Mi (i0 * v + j)) v (by omega)) (by omega)) (by omega)) (kx_ok_lb (kx_det_bd hb_P hb_Q hv) hok) (by omega)).n ?_
            refine kx_dast hx hb hT hP hD hS 9 rfl i0 (by omega) (by omega) dX2_fitCentre_227 (fun H locs hP hD hS => ?_)
            have hP : va_P G.1 vwCl [(h0, .inr (3, [.int (nI v), .ref h1, .ref h2, .ref h3, .ref h4, .ref h5, .ref h6])), (h1, kx_aD G v P), (h2, kx_aD G v Q), (h3, kx_aD G v Ln), (h4, kx_aZ G (n * v) Th), (h5, kx_aD G (n * v) Mi), (h6, kx_aD G (n * v) Ha), (g0, .inr (4, [.int (nI n), .ref g1, .ref g2, .ref g3, .ref g4, .ref g5, .int md])), (g1, kx_aD G n (vf_upd X i0 (FP.ddiv (FP.dsub (FP.dmul (kx_S2 (fun j => Th (i0 * v + j)) P (fun j => Mi (i0 * v + j)) v) (kx_S2 (fun j => Th (i0 * v + j)) Q Q v)) (FP.dmul (kx_S2 (fun j => Th (i0 * v + j)) Q (fun j => Mi (i0 * v + j)) v) (kx_S2 (fun j => Th (i0 * v + j)) P Q v))) (FP.dsub (FP.dmul (kx_S2 (fun j => Th (i0 * v + j)) P P v) (kx_S2 (fun j => Th (i0 * v + j)) Q Q v)) (FP.dmul (kx_S2 (fun j => Th (i0 * v + j)) P Q v) (kx_S2 (fun j => Th (i0 * v + j)) P Q v)))))), (g2, kx_aD G n (vf_upd Y i0 (FP.ddiv (FP.dsub (FP.dmul (kx_S2 (fun j => Th (i0 * v + j)) P P v) (kx_S2 (fun j => Th (i0 * v + j)) Q (fun j => Mi (i0 * v + j)) v)) (FP.dmul (kx_S2 (fun j => Th (i0 * v + j)) P Q v) (kx_S2 (fun j => Th (i0 * v + j)) P (fun j => Mi (i0 * v + j)) v))) (FP.dsub (FP.dmul (kx_S2 (fun j => Th (i0 * v + j)) P P v) (kx_S2 (fun j => Th (i0 * v + j)) Q Q v)) (FP.dmul (kx_S2 (fun j => Th (i0 * v + j)) P Q v) (kx_S2 (fun j => Th (i0 * v + j)) P Q v)))))), (g3, kx_aD G n R), (g4, kx_aD G n E), (g5, kx_aZ G n F)] H := hP
            have hD : va_D A [(h0, .inr (3, [.int (nI v), .ref h1, .ref h2, .ref h3, .ref h4, .ref h5, .ref h6])), (h1, kx_aD G v P), (h2, kx_aD G v Q), (h3, kx_aD G v Ln), (h4, kx_aZ G (n * v) Th), (h5, kx_aD G (n * v) Mi), (h6, kx_aD G (n * v) Ha), (g0, .inr (4, [.int (nI n), .ref g1, .ref g2, .ref g3, .ref g4, .ref g5, .int md])), (g1, kx_aD G n (vf_upd X i0 (FP.ddiv (FP.dsub (FP.dmul (kx_S2 (fun j => Th (i0 * v + j)) P (fun j => Mi (i0 * v + j)) v) (kx_S2 (fun j => Th (i0 * v + j)) Q Q v)) (FP.dmul (kx_S2 (fun j => Th (i0 * v + j)) Q (fun j => Mi (i0 * v + j)) v) (kx_S2 (fun j => Th (i0 * v + j)) P Q v))) (FP.dsub (FP.dmul (kx_S2 (fun j => Th (i0 * v + j)) P P v) (kx_S2 (fun j => Th (i0 * v + j)) Q Q v)) (FP.dmul (kx_S2 (fun j => Th (i0 * v + j)) P Q v) (kx_S2 (fun j => Th (i0 * v + j)) P Q v)))))), (g2, kx_aD G n (vf_upd Y i0 (FP.ddiv (FP.dsub (FP.dmul (kx_S2 (fun j => Th (i0 * v + j)) P P v) (kx_S2 (fun j => Th (i0 * v + j)) Q (fun j => Mi (i0 * v + j)) v)) (FP.dmul (kx_S2 (fun j => Th (i0 * v + j)) P Q v) (kx_S2 (fun j => Th (i0 * v + j)) P (fun j => Mi (i0 * v + j)) v))) (FP.dsub (FP.dmul (kx_S2 (fun j => Th (i0 * v + j)) P P v) (kx_S2 (fun j => Th (i0 * v + j)) Q Q v)) (FP.dmul (kx_S2 (fun j => Th (i0 * v + j)) P Q v) (kx_S2 (fun j => Th (i0 * v + j)) P Q v)))))), (g3, kx_aD G n R), (g4, kx_aD G n E), (g5, kx_aZ G n F)] := hD
            refine lv_iconst (v := 1) hx hb dX2_fitCentre_228 (by decide) ?_
            exact W.zret (v := 1) hx hb hr rfl (fun t ht hW => ⟨⟨1, (vf_upd X i0 (kx_cx (fun j => Th (i0 * v + j)) P Q (fun j => Mi (i0 * v + j)) v), vf_upd Y i0 (kx_cy (fun j => Th (i0 * v + j)) P Q (fun j => Mi (i0 * v + j)) v)), rfl, Or.inr ⟨hok, rfl, rfl⟩, And.intro (by rw [ht]; exact hP) hD⟩, hS.F ht⟩) hS.2.2 dX2_fitCentre_229
          · refine lv_iconst (v := 0) hx hb dX2_fitCentre_187 (by decide) ?_
            exact W.zret (v := 0) hx hb hr rfl (fun t ht hW => ⟨⟨0, (X, Y), rfl, Or.inl ⟨fun q => (kx_ok_2 c_2).mp q c_3, rfl, rfl⟩, And.intro (by rw [ht]; exact hP) hD⟩, hS.F ht⟩) hS.2.2 dX2_fitCentre_188
        · refine lv_dload hx hb dX2_fitCentre_168 (lv_at hl 0 rfl) ?_
          refine lv_dneg hx hb dX2_fitCentre_170 ?_
          refine lv_goto (tgt := 176) hx hb dX2_fitCentre_171 (by decide) ?_
          refine lv_dstore (lv' := [(15, .double (FP.dneg (FP.dsub (FP.dmul (kx_S2 (fun j => Th (i0 * v + j)) P P v) (kx_S2 (fun j => Th (i0 * v + j)) Q Q v)) (FP.dmul (kx_S2 (fun j => Th (i0 * v + j)) P Q v) (kx_S2 (fun j => Th (i0 * v + j)) P Q v))))), (13, .double (FP.dsub (FP.dmul (kx_S2 (fun j => Th (i0 * v + j)) P P v) (kx_S2 (fun j => Th (i0 * v + j)) Q Q v)) (FP.dmul (kx_S2 (fun j => Th (i0 * v + j)) P Q v) (kx_S2 (fun j => Th (i0 * v + j)) P Q v)))), (11, .double (kx_S2 (fun j => Th (i0 * v + j)) Q (fun j => Mi (i0 * v + j)) v)), (9, .double (kx_S2 (fun j => Th (i0 * v + j)) P (fun j => Mi (i0 * v + j)) v)), (7, .double (kx_S2 (fun j => Th (i0 * v + j)) Q Q v)), (5, .double (kx_S2 (fun j => Th (i0 * v + j)) P Q v)), (3, .double (kx_S2 (fun j => Th (i0 * v + j)) P P v)), (2, .int (nI i0)), (1, .ref g0), (0, .ref h0)]) hx hb dX2_fitCentre_176 hl (by decide) rfl (fun ls hl => ?_)
          refine lv_dload hx hb dX2_fitCentre_178 (lv_at hl 0 rfl) ?_
          refine lv_ldc2d (v := 4517110426252607488) hx hb hown hc_75 dX2_fitCentre_180 ?_
          refine kx_dlt (tgt := 189) hx hb dX2_fitCentre_183 dX2_fitCentre_184 (by decide) (fun c_4 => ?_) (fun c_4 => ?_)
          · have hok : kx_ok (kx_det (fun j => Th (i0 * v + j)) P Q v) := (kx_ok_1 c_2).mpr c_4
            refine lv_aload_n hx hb dX2_fitCentre_189 rfl (lv_at hl 8 rfl) ?_
            refine va_getN (D := G.1) (ci := 4) (v := .ref g1) (C := RX3) (T := TX3) (N := 7) hx hb hts hin_X3 hown hT.1 hP 7 rfl rfl 1 (by decide) hf_65 (fun _ h9 => h9) rfl dX2_fitCentre_190 ?_
            refine lv_iload_n hx hb dX2_fitCentre_193 rfl (lv_at hl 7 rfl) ?_
            refine lv_dload hx hb dX2_fitCentre_194 (lv_at hl 3 rfl) ?_
            refine lv_dload hx hb dX2_fitCentre_196 (lv_at hl 4 rfl) ?_
            refine lv_dmul hx hb dX2_fitCentre_198 (fx_bd.mul (kx_S2_bd (th := (fun j => Th (i0 * v + j))) (f := P) (g := (fun j => Mi (i0 * v + j))) hb_P (fun j => hb_Mi (i0 * v + j)) v (by omega)) (kx_S2_bd (th := (fun j => Th (i0 * v + j))) (f := Q) (g := Q) hb_Q hb_Q v (by omega)) (by omega)).n ?_
            refine lv_dload hx hb dX2_fitCentre_199 (lv_at hl 2 rfl) ?_
            refine lv_dload hx hb dX2_fitCentre_201 (lv_at hl 5 rfl) ?_
            refine lv_dmul hx hb dX2_fitCentre_203 (fx_bd.mul (kx_S2_bd (th := (fun j => Th (i0 * v + j))) (f := Q) (g := (fun j => Mi (i0 * v + j))) hb_Q (fun j => hb_Mi (i0 * v + j)) v (by omega)) (kx_S2_bd (th := (fun j => Th (i0 * v + j))) (f := P) (g := Q) hb_P hb_Q v (by omega)) (by omega)).n ?_
            refine lv_dsub hx hb dX2_fitCentre_204 (fx_bd.sub (fx_bd.mul (kx_S2_bd (th := (fun j => Th (i0 * v + j))) (f := P) (g := (fun j => Mi (i0 * v + j))) hb_P (fun j => hb_Mi (i0 * v + j)) v (by omega)) (kx_S2_bd (th := (fun j => Th (i0 * v + j))) (f := Q) (g := Q) hb_Q hb_Q v (by omega)) (by omega)) (fx_bd.mul (kx_S2_bd (th := (fun j => Th (i0 * v + j))) (f := Q) (g := (fun j => Mi (i0 * v + j))) hb_Q (fun j => hb_Mi (i0 * v + j)) v (by omega)) (kx_S2_bd (th := (fun j => Th (i0 * v + j))) (f := P) (g := Q) hb_P hb_Q v (by omega)) (by omega)) (by omega)).n ?_
            refine lv_dload hx hb dX2_fitCentre_205 (lv_at hl 1 rfl) ?_
            refine lv_ddiv hx hb dX2_fitCentre_207 (fx_bd.div (fx_bd.sub (fx_bd.mul (kx_S2_bd (th := (fun j => Th (i0 * v + j))) (f := P) (g := (fun j => Mi (i0 * v + j))) hb_P (fun j => hb_Mi (i0 * v + j)) v (by omega)) (kx_S2_bd (th := (fun j => Th (i0 * v + j))) (f := Q) (g := Q) hb_Q hb_Q v (by omega)) (by omega)) (fx_bd.mul (kx_S2_bd (th := (fun j => Th (i0 * v + j))) (f := Q) (g := (fun j => Mi (i0 * v + j))) hb_Q (fun j => hb_Mi (i0 * v + j)) v (by omega)) (kx_S2_bd (th := (fun j => Th (i0 * v + j))) (f := P) (g := Q) hb_P hb_Q v (by omega)) (by omega)) (by omega)) (kx_ok_lb (kx_det_bd hb_P hb_Q hv) hok) (by omega)).n ?_
            refine kx_dast hx hb hT hP hD hS 8 rfl i0 (by omega) (by omega) dX2_fitCentre_208 (fun H locs hP hD hS => ?_)
            have hP : va_P G.1 vwCl [(h0, .inr (3, [.int (nI v), .ref h1, .ref h2, .ref h3, .ref h4, .ref h5, .ref h6])), (h1, kx_aD G v P), (h2, kx_aD G v Q), (h3, kx_aD G v Ln), (h4, kx_aZ G (n * v) Th), (h5, kx_aD G (n * v) Mi), (h6, kx_aD G (n * v) Ha), (g0, .inr (4, [.int (nI n), .ref g1, .ref g2, .ref g3, .ref g4, .ref g5, .int md])), (g1, kx_aD G n (vf_upd X i0 (FP.ddiv (FP.dsub (FP.dmul (kx_S2 (fun j => Th (i0 * v + j)) P (fun j => Mi (i0 * v + j)) v) (kx_S2 (fun j => Th (i0 * v + j)) Q Q v)) (FP.dmul (kx_S2 (fun j => Th (i0 * v + j)) Q (fun j => Mi (i0 * v + j)) v) (kx_S2 (fun j => Th (i0 * v + j)) P Q v))) (FP.dsub (FP.dmul (kx_S2 (fun j => Th (i0 * v + j)) P P v) (kx_S2 (fun j => Th (i0 * v + j)) Q Q v)) (FP.dmul (kx_S2 (fun j => Th (i0 * v + j)) P Q v) (kx_S2 (fun j => Th (i0 * v + j)) P Q v)))))), (g2, kx_aD G n Y), (g3, kx_aD G n R), (g4, kx_aD G n E), (g5, kx_aZ G n F)] H := hP
            have hD : va_D A [(h0, .inr (3, [.int (nI v), .ref h1, .ref h2, .ref h3, .ref h4, .ref h5, .ref h6])), (h1, kx_aD G v P), (h2, kx_aD G v Q), (h3, kx_aD G v Ln), (h4, kx_aZ G (n * v) Th), (h5, kx_aD G (n * v) Mi), (h6, kx_aD G (n * v) Ha), (g0, .inr (4, [.int (nI n), .ref g1, .ref g2, .ref g3, .ref g4, .ref g5, .int md])), (g1, kx_aD G n (vf_upd X i0 (FP.ddiv (FP.dsub (FP.dmul (kx_S2 (fun j => Th (i0 * v + j)) P (fun j => Mi (i0 * v + j)) v) (kx_S2 (fun j => Th (i0 * v + j)) Q Q v)) (FP.dmul (kx_S2 (fun j => Th (i0 * v + j)) Q (fun j => Mi (i0 * v + j)) v) (kx_S2 (fun j => Th (i0 * v + j)) P Q v))) (FP.dsub (FP.dmul (kx_S2 (fun j => Th (i0 * v + j)) P P v) (kx_S2 (fun j => Th (i0 * v + j)) Q Q v)) (FP.dmul (kx_S2 (fun j => Th (i0 * v + j)) P Q v) (kx_S2 (fun j => Th (i0 * v + j)) P Q v)))))), (g2, kx_aD G n Y), (g3, kx_aD G n R), (g4, kx_aD G n E), (g5, kx_aZ G n F)] := hD
            refine lv_aload_n hx hb dX2_fitCentre_209 rfl (lv_at hl 8 rfl) ?_
            refine va_getN (D := G.1) (ci := 4) (v := .ref g2) (C := RX3) (T := TX3) (N := 7) hx hb hts hin_X3 hown hT.1 hP 7 rfl rfl 2 (by decide) hf_68 (fun _ h9 => h9) rfl dX2_fitCentre_210 ?_
            refine lv_iload_n hx hb dX2_fitCentre_213 rfl (lv_at hl 7 rfl) ?_
            refine lv_dload_n hx hb dX2_fitCentre_214 rfl (lv_at hl 6 rfl) ?_
            refine lv_dload hx hb dX2_fitCentre_215 (lv_at hl 2 rfl) ?_
            refine lv_dmul hx hb dX2_fitCentre_217 (fx_bd.mul (kx_S2_bd (th := (fun j => Th (i0 * v + j))) (f := P) (g := P) hb_P hb_P v (by omega)) (kx_S2_bd (th := (fun j => Th (i0 * v + j))) (f := Q) (g := (fun j => Mi (i0 * v + j))) hb_Q (fun j => hb_Mi (i0 * v + j)) v (by omega)) (by omega)).n ?_
            refine lv_dload hx hb dX2_fitCentre_218 (lv_at hl 5 rfl) ?_
            refine lv_dload hx hb dX2_fitCentre_220 (lv_at hl 3 rfl) ?_
            refine lv_dmul hx hb dX2_fitCentre_222 (fx_bd.mul (kx_S2_bd (th := (fun j => Th (i0 * v + j))) (f := P) (g := Q) hb_P hb_Q v (by omega)) (kx_S2_bd (th := (fun j => Th (i0 * v + j))) (f := P) (g := (fun j => Mi (i0 * v + j))) hb_P (fun j => hb_Mi (i0 * v + j)) v (by omega)) (by omega)).n ?_
            refine lv_dsub hx hb dX2_fitCentre_223 (fx_bd.sub (fx_bd.mul (kx_S2_bd (th := (fun j => Th (i0 * v + j))) (f := P) (g := P) hb_P hb_P v (by omega)) (kx_S2_bd (th := (fun j => Th (i0 * v + j))) (f := Q) (g := (fun j => Mi (i0 * v + j))) hb_Q (fun j => hb_Mi (i0 * v + j)) v (by omega)) (by omega)) (fx_bd.mul (kx_S2_bd (th := (fun j => Th (i0 * v + j))) (f := P) (g := Q) hb_P hb_Q v (by omega)) (kx_S2_bd (th := (fun j => Th (i0 * v + j))) (f := P) (g := (fun j => Mi (i0 * v + j))) hb_P (fun j => hb_Mi (i0 * v + j)) v (by omega)) (by omega)) (by omega)).n ?_
            refine lv_dload hx hb dX2_fitCentre_224 (lv_at hl 1 rfl) ?_
            refine lv_ddiv hx hb dX2_fitCentre_226 (fx_bd.div (fx_bd.sub (fx_bd.mul (kx_S2_bd (th := (fun j => Th (i0 * v + j))) (f := P) (g := P) hb_P hb_P v (by omega)) (kx_S2_bd (th := (fun j => Th (i0 * v + j))) (f := Q) (g := (fun j => Mi (i0 * v + j))) hb_Q (fun j => hb_Mi (i0 * v + j)) v (by omega)) (by omega)) (fx_bd.mul (kx_S2_bd (th := (fun j => Th (i0 * v + j))) (f := P) (g := Q) hb_P hb_Q v (by omega)) (kx_S2_bd (th := (fun j => Th (i0 * v + j))) (f := P) (g := (fun j => Mi (i0 * v + j))) hb_P (fun j => hb_Mi (i0 * v + j)) v (by omega)) (by omega)) (by omega)) (kx_ok_lb (kx_det_bd hb_P hb_Q hv) hok) (by omega)).n ?_
            refine kx_dast hx hb hT hP hD hS 9 rfl i0 (by omega) (by omega) dX2_fitCentre_227 (fun H locs hP hD hS => ?_)
            have hP : va_P G.1 vwCl [(h0, .inr (3, [.int (nI v), .ref h1, .ref h2, .ref h3, .ref h4, .ref h5, .ref h6])), (h1, kx_aD G v P), (h2, kx_aD G v Q), (h3, kx_aD G v Ln), (h4, kx_aZ G (n * v) Th), (h5, kx_aD G (n * v) Mi), (h6, kx_aD G (n * v) Ha), (g0, .inr (4, [.int (nI n), .ref g1, .ref g2, .ref g3, .ref g4, .ref g5, .int md])), (g1, kx_aD G n (vf_upd X i0 (FP.ddiv (FP.dsub (FP.dmul (kx_S2 (fun j => Th (i0 * v + j)) P (fun j => Mi (i0 * v + j)) v) (kx_S2 (fun j => Th (i0 * v + j)) Q Q v)) (FP.dmul (kx_S2 (fun j => Th (i0 * v + j)) Q (fun j => Mi (i0 * v + j)) v) (kx_S2 (fun j => Th (i0 * v + j)) P Q v))) (FP.dsub (FP.dmul (kx_S2 (fun j => Th (i0 * v + j)) P P v) (kx_S2 (fun j => Th (i0 * v + j)) Q Q v)) (FP.dmul (kx_S2 (fun j => Th (i0 * v + j)) P Q v) (kx_S2 (fun j => Th (i0 * v + j)) P Q v)))))), (g2, kx_aD G n (vf_upd Y i0 (FP.ddiv (FP.dsub (FP.dmul (kx_S2 (fun j => Th (i0 * v + j)) P P v) (kx_S2 (fun j => Th (i0 * v + j)) Q (fun j => Mi (i0 * v + j)) v)) (FP.dmul (kx_S2 (fun j => Th (i0 * v + j)) P Q v) (kx_S2 (fun j => Th (i0 * v + j)) P (fun j => Mi (i0 * v + j)) v))) (FP.dsub (FP.dmul (kx_S2 (fun j => Th (i0 * v + j)) P P v) (kx_S2 (fun j => Th (i0 * v + j)) Q Q v)) (FP.dmul (kx_S2 (fun j => Th (i0 * v + j)) P Q v) (kx_S2 (fun j => Th (i0 * v + j)) P Q v)))))), (g3, kx_aD G n R), (g4, kx_aD G n E), (g5, kx_aZ G n F)] H := hP
            have hD : va_D A [(h0, .inr (3, [.int (nI v), .ref h1, .ref h2, .ref h3, .ref h4, .ref h5, .ref h6])), (h1, kx_aD G v P), (h2, kx_aD G v Q), (h3, kx_aD G v Ln), (h4, kx_aZ G (n * v) Th), (h5, kx_aD G (n * v) Mi), (h6, kx_aD G (n * v) Ha), (g0, .inr (4, [.int (nI n), .ref g1, .ref g2, .ref g3, .ref g4, .ref g5, .int md])), (g1, kx_aD G n (vf_upd X i0 (FP.ddiv (FP.dsub (FP.dmul (kx_S2 (fun j => Th (i0 * v + j)) P (fun j => Mi (i0 * v + j)) v) (kx_S2 (fun j => Th (i0 * v + j)) Q Q v)) (FP.dmul (kx_S2 (fun j => Th (i0 * v + j)) Q (fun j => Mi (i0 * v + j)) v) (kx_S2 (fun j => Th (i0 * v + j)) P Q v))) (FP.dsub (FP.dmul (kx_S2 (fun j => Th (i0 * v + j)) P P v) (kx_S2 (fun j => Th (i0 * v + j)) Q Q v)) (FP.dmul (kx_S2 (fun j => Th (i0 * v + j)) P Q v) (kx_S2 (fun j => Th (i0 * v + j)) P Q v)))))), (g2, kx_aD G n (vf_upd Y i0 (FP.ddiv (FP.dsub (FP.dmul (kx_S2 (fun j => Th (i0 * v + j)) P P v) (kx_S2 (fun j => Th (i0 * v + j)) Q (fun j => Mi (i0 * v + j)) v)) (FP.dmul (kx_S2 (fun j => Th (i0 * v + j)) P Q v) (kx_S2 (fun j => Th (i0 * v + j)) P (fun j => Mi (i0 * v + j)) v))) (FP.dsub (FP.dmul (kx_S2 (fun j => Th (i0 * v + j)) P P v) (kx_S2 (fun j => Th (i0 * v + j)) Q Q v)) (FP.dmul (kx_S2 (fun j => Th (i0 * v + j)) P Q v) (kx_S2 (fun j => Th (i0 * v + j)) P Q v)))))), (g3, kx_aD G n R), (g4, kx_aD G n E), (g5, kx_aZ G n F)] := hD
            refine lv_iconst (v := 1) hx hb dX2_fitCentre_228 (by decide) ?_
            exact W.zret (v := 1) hx hb hr rfl (fun t ht hW => ⟨⟨1, (vf_upd X i0 (kx_cx (fun j => Th (i0 * v + j)) P Q (fun j => Mi (i0 * v + j)) v), vf_upd Y i0 (kx_cy (fun j => Th (i0 * v + j)) P Q (fun j => Mi (i0 * v + j)) v)), rfl, Or.inr ⟨hok, rfl, rfl⟩, And.intro (by rw [ht]; exact hP) hD⟩, hS.F ht⟩) hS.2.2 dX2_fitCentre_229
          · refine lv_iconst (v := 0) hx hb dX2_fitCentre_187 (by decide) ?_
            exact W.zret (v := 0) hx hb hr rfl (fun t ht hW => ⟨⟨0, (X, Y), rfl, Or.inl ⟨fun q => (kx_ok_1 c_2).mp q c_4, rfl, rfl⟩, And.intro (by rw [ht]; exact hP) hD⟩, hS.F ht⟩) hS.2.2 dX2_fitCentre_188
      · have c_1 : ¬ v ≤ v := fun q => c_1 ((nI_leI (a := v) (b := v) (by omega) (by omega)).mpr q)
        exact absurd (Nat.le_refl v) c_1
    | succ k ih =>
      intro i a b c9 d e9 htot e_a e_b e_c9 e_d e_e9 H locs hP hD hS ls hl
      subst e_a
      subst e_b
      subst e_c9
      subst e_d
      subst e_e9
      refine lv_iload hx hb dX2_fitCentre_17 (lv_at hl 0 rfl) ?_
      refine lv_aload_n hx hb dX2_fitCentre_19 rfl (lv_at hl 8 rfl) ?_
      refine va_get (D := G.1) (ci := 3) (v := .int (nI v)) (C := RX2) (T := TX2) (N := 7) hx hb hts hin_X2 hown hT.1 hP 0 rfl rfl 0 (by decide) hf_7 (fun _ h9 => h9) rfl dX2_fitCentre_20 ?_
      refine lv_icmp_ge (x := nI i) (y := nI v) (tgt := 149) hx hb dX2_fitCentre_23 (by decide) (fun c_5 => ?_) (fun c_5 => ?_)
      · have c_5 : v ≤ i := (nI_leI (a := v) (b := i) (by omega) (by omega)).mp c_5
        exfalso; omega
      · have c_5 : ¬ v ≤ i := fun q => c_5 ((nI_leI (a := v) (b := i) (by omega) (by omega)).mpr q)
        refine lv_aload_n hx hb dX2_fitCentre_26 rfl (lv_at hl 8 rfl) ?_
        refine lv_iload_n hx hb dX2_fitCentre_27 rfl (lv_at hl 6 rfl) ?_
        refine lv_iload hx hb dX2_fitCentre_28 (lv_at hl 0 rfl) ?_
        refine vp_callSi (W.runV (As := [.int (nI i0), .int (nI i)]) (rest := []) ⟨hx, hb, hml, hown, hts⟩ (c_X2_place l G (h0 := h0) (h1 := h1) (h2 := h2) (h3 := h3) (h4 := h4) (h5 := h5) (h6 := h6) (n := n) (v := v) (P := P) (Q := Q) (Ln := Ln) (Th := Th) (Mi := Mi) (Ha := Ha) (i := i0) (j := i) (hb_P := hb_P) (hb_Q := hb_Q) (hb_Ln := hb_Ln) (hb_Mi := hb_Mi) (hb_Ha := hb_Ha)) (cwV 2 hts gX2_fitCentre_X2_place rfl rfl rfl (by decide +kernel) ⟨Nat.le_of_ble_eq_true rfl, Nat.le_of_ble_eq_true rfl⟩) ⟨kx_PRb, va_recv hT.1 hP (ci := 3) (q0 := 0) rfl rfl, kx_pr hT hP [0, 1, 2, 3, 4, 5, 6] rfl⟩ rfl rfl hl.1 rfl (lv_room (Nat.le_of_ble_eq_true rfl)) dX2_fitCentre_30 ⟨Nat.zero_le _, Nat.zero_le _⟩) (fun r_6 hw_7 => ?_)
        subst hw_7
        refine lv_istore (lv' := [(14, .int (nI (i0 * v + i))), (13, .int (nI i)), (11, .double (kx_S2 (fun j => Th (i0 * v + j)) Q (fun j => Mi (i0 * v + j)) i)), (9, .double (kx_S2 (fun j => Th (i0 * v + j)) P (fun j => Mi (i0 * v + j)) i)), (7, .double (kx_S2 (fun j => Th (i0 * v + j)) Q Q i)), (5, .double (kx_S2 (fun j => Th (i0 * v + j)) P Q i)), (3, .double (kx_S2 (fun j => Th (i0 * v + j)) P P i)), (2, .int (nI i0)), (1, .ref g0), (0, .ref h0)]) hx hb dX2_fitCentre_33 hl (by decide) rfl (fun ls hl => ?_)
        refine lv_aload_n hx hb dX2_fitCentre_35 rfl (lv_at hl 9 rfl) ?_
        refine va_get (D := G.1) (ci := 3) (v := .ref h4) (C := RX2) (T := TX2) (N := 7) hx hb hts hin_X2 hown hT.1 hP 0 rfl rfl 4 (by decide) hf_23 (fun _ h9 => h9) rfl dX2_fitCentre_36 ?_
        refine lv_iload hx hb dX2_fitCentre_39 (lv_at hl 0 rfl) ?_
        refine kx_zald hx hb hT hP 4 rfl (i0 * v + i) (kx_ix (by omega) (by omega)) (kx_nv (by omega) (by omega)) dX2_fitCentre_41 ?_
        refine lv_if_eq (x := Th (i0 * v + i)) (tgt := 143) hx hb dX2_fitCentre_42 (by decide) (fun c_8 => ?_) (fun c_8 => ?_)
        · refine lv_iinc (v := nI (i + 1)) (lv' := [(13, .int (nI (i + 1))), (14, .int (nI (i0 * v + i))), (11, .double (kx_S2 (fun j => Th (i0 * v + j)) Q (fun j => Mi (i0 * v + j)) i)), (9, .double (kx_S2 (fun j => Th (i0 * v + j)) P (fun j => Mi (i0 * v + j)) i)), (7, .double (kx_S2 (fun j => Th (i0 * v + j)) Q Q i)), (5, .double (kx_S2 (fun j => Th (i0 * v + j)) P Q i)), (3, .double (kx_S2 (fun j => Th (i0 * v + j)) P P i)), (2, .int (nI i0)), (1, .ref g0), (0, .ref h0)]) hx hb dX2_fitCentre_143 hl (k := 1) rfl (by show _ + 1 = _; exact nI_1 _) (by decide) rfl (fun ls hl => ?_)
          refine lv_goto (tgt := 17) hx hb dX2_fitCentre_146 (by decide) ?_
          exact ih (i + 1) _ _ _ _ _ (by omega) ((kx_S2_f (th := (fun j => Th (i0 * v + j))) (f := P) (g := P) c_8).symm) ((kx_S2_f (th := (fun j => Th (i0 * v + j))) (f := P) (g := Q) c_8).symm) ((kx_S2_f (th := (fun j => Th (i0 * v + j))) (f := Q) (g := Q) c_8).symm) ((kx_S2_f (th := (fun j => Th (i0 * v + j))) (f := P) (g := (fun j => Mi (i0 * v + j))) c_8).symm) ((kx_S2_f (th := (fun j => Th (i0 * v + j))) (f := Q) (g := (fun j => Mi (i0 * v + j))) c_8).symm) _ _ hP hD hS _ (lv_sub hl [0, 2, 3, 4, 5, 6, 7, 8, 9] rfl)
        · refine lv_dload_n hx hb dX2_fitCentre_45 rfl (lv_at hl 6 rfl) ?_
          refine lv_aload_n hx hb dX2_fitCentre_46 rfl (lv_at hl 9 rfl) ?_
          refine va_get (D := G.1) (ci := 3) (v := .ref h1) (C := RX2) (T := TX2) (N := 7) hx hb hts hin_X2 hown hT.1 hP 0 rfl rfl 1 (by decide) hf_13 (fun _ h9 => h9) rfl dX2_fitCentre_47 ?_
          refine lv_iload hx hb dX2_fitCentre_50 (lv_at hl 1 rfl) ?_
          refine kx_dald hx hb hT hP 1 rfl i (by omega) (by omega) dX2_fitCentre_52 ?_
          refine lv_aload_n hx hb dX2_fitCentre_53 rfl (lv_at hl 9 rfl) ?_
          refine va_get (D := G.1) (ci := 3) (v := .ref h1) (C := RX2) (T := TX2) (N := 7) hx hb hts hin_X2 hown hT.1 hP 0 rfl rfl 1 (by decide) hf_13 (fun _ h9 => h9) rfl dX2_fitCentre_54 ?_
          refine lv_iload hx hb dX2_fitCentre_57 (lv_at hl 1 rfl) ?_
          refine kx_dald hx hb hT hP 1 rfl i (by omega) (by omega) dX2_fitCentre_59 ?_
          refine lv_dmul hx hb dX2_fitCentre_60 (fx_bd.mul (hb_P i) (hb_P i) (by omega)).n ?_
          refine lv_dadd hx hb dX2_fitCentre_61 (fx_bd.add (kx_S2_bd (th := (fun j => Th (i0 * v + j))) (f := P) (g := P) hb_P hb_P i (by omega)) (fx_bd.mul (hb_P i) (hb_P i) (by omega)) (by omega)).n ?_
          refine lv_dstore_n (lv' := [(3, .double (FP.dadd (kx_S2 (fun j => Th (i0 * v + j)) P P i) (FP.dmul (P i) (P i)))), (14, .int (nI (i0 * v + i))), (13, .int (nI i)), (11, .double (kx_S2 (fun j => Th (i0 * v + j)) Q (fun j => Mi (i0 * v + j)) i)), (9, .double (kx_S2 (fun j => Th (i0 * v + j)) P (fun j => Mi (i0 * v + j)) i)), (7, .double (kx_S2 (fun j => Th (i0 * v + j)) Q Q i)), (5, .double (kx_S2 (fun j => Th (i0 * v + j)) P Q i)), (2, .int (nI i0)), (1, .ref g0), (0, .ref h0)]) hx hb dX2_fitCentre_62 rfl hl (by decide) rfl (fun ls hl => ?_)
          refine lv_dload hx hb dX2_fitCentre_63 (lv_at hl 6 rfl) ?_
          refine lv_aload_n hx hb dX2_fitCentre_65 rfl (lv_at hl 9 rfl) ?_
          refine va_get (D := G.1) (ci := 3) (v := .ref h1) (C := RX2) (T := TX2) (N := 7) hx hb hts hin_X2 hown hT.1 hP 0 rfl rfl 1 (by decide) hf_13 (fun _ h9 => h9) rfl dX2_fitCentre_66 ?_
          refine lv_iload hx hb dX2_fitCentre_69 (lv_at hl 2 rfl) ?_
          refine kx_dald hx hb hT hP 1 rfl i (by omega) (by omega) dX2_fitCentre_71 ?_
          refine lv_aload_n hx hb dX2_fitCentre_72 rfl (lv_at hl 9 rfl) ?_
          refine va_get (D := G.1) (ci := 3) (v := .ref h2) (C := RX2) (T := TX2) (N := 7) hx hb hts hin_X2 hown hT.1 hP 0 rfl rfl 2 (by decide) hf_17 (fun _ h9 => h9) rfl dX2_fitCentre_73 ?_
          refine lv_iload hx hb dX2_fitCentre_76 (lv_at hl 2 rfl) ?_
          refine kx_dald hx hb hT hP 2 rfl i (by omega) (by omega) dX2_fitCentre_78 ?_
          refine lv_dmul hx hb dX2_fitCentre_79 (fx_bd.mul (hb_P i) (hb_Q i) (by omega)).n ?_
          refine lv_dadd hx hb dX2_fitCentre_80 (fx_bd.add (kx_S2_bd (th := (fun j => Th (i0 * v + j))) (f := P) (g := Q) hb_P hb_Q i (by omega)) (fx_bd.mul (hb_P i) (hb_Q i) (by omega)) (by omega)).n ?_
          refine lv_dstore (lv' := [(5, .double (FP.dadd (kx_S2 (fun j => Th (i0 * v + j)) P Q i) (FP.dmul (P i) (Q i)))), (3, .double (FP.dadd (kx_S2 (fun j => Th (i0 * v + j)) P P i) (FP.dmul (P i) (P i)))), (14, .int (nI (i0 * v + i))), (13, .int (nI i)), (11, .double (kx_S2 (fun j => Th (i0 * v + j)) Q (fun j => Mi (i0 * v + j)) i)), (9, .double (kx_S2 (fun j => Th (i0 * v + j)) P (fun j => Mi (i0 * v + j)) i)), (7, .double (kx_S2 (fun j => Th (i0 * v + j)) Q Q i)), (2, .int (nI i0)), (1, .ref g0), (0, .ref h0)]) hx hb dX2_fitCentre_81 hl (by decide) rfl (fun ls hl => ?_)
          refine lv_dload hx hb dX2_fitCentre_83 (lv_at hl 6 rfl) ?_
          refine lv_aload_n hx hb dX2_fitCentre_85 rfl (lv_at hl 9 rfl) ?_
          refine va_get (D := G.1) (ci := 3) (v := .ref h2) (C := RX2) (T := TX2) (N := 7) hx hb hts hin_X2 hown hT.1 hP 0 rfl rfl 2 (by decide) hf_17 (fun _ h9 => h9) rfl dX2_fitCentre_86 ?_
          refine lv_iload hx hb dX2_fitCentre_89 (lv_at hl 3 rfl) ?_
          refine kx_dald hx hb hT hP 2 rfl i (by omega) (by omega) dX2_fitCentre_91 ?_
          refine lv_aload_n hx hb dX2_fitCentre_92 rfl (lv_at hl 9 rfl) ?_
          refine va_get (D := G.1) (ci := 3) (v := .ref h2) (C := RX2) (T := TX2) (N := 7) hx hb hts hin_X2 hown hT.1 hP 0 rfl rfl 2 (by decide) hf_17 (fun _ h9 => h9) rfl dX2_fitCentre_93 ?_
          refine lv_iload hx hb dX2_fitCentre_96 (lv_at hl 3 rfl) ?_
          refine kx_dald hx hb hT hP 2 rfl i (by omega) (by omega) dX2_fitCentre_98 ?_
          refine lv_dmul hx hb dX2_fitCentre_99 (fx_bd.mul (hb_Q i) (hb_Q i) (by omega)).n ?_
          refine lv_dadd hx hb dX2_fitCentre_100 (fx_bd.add (kx_S2_bd (th := (fun j => Th (i0 * v + j))) (f := Q) (g := Q) hb_Q hb_Q i (by omega)) (fx_bd.mul (hb_Q i) (hb_Q i) (by omega)) (by omega)).n ?_
          refine lv_dstore (lv' := [(7, .double (FP.dadd (kx_S2 (fun j => Th (i0 * v + j)) Q Q i) (FP.dmul (Q i) (Q i)))), (5, .double (FP.dadd (kx_S2 (fun j => Th (i0 * v + j)) P Q i) (FP.dmul (P i) (Q i)))), (3, .double (FP.dadd (kx_S2 (fun j => Th (i0 * v + j)) P P i) (FP.dmul (P i) (P i)))), (14, .int (nI (i0 * v + i))), (13, .int (nI i)), (11, .double (kx_S2 (fun j => Th (i0 * v + j)) Q (fun j => Mi (i0 * v + j)) i)), (9, .double (kx_S2 (fun j => Th (i0 * v + j)) P (fun j => Mi (i0 * v + j)) i)), (2, .int (nI i0)), (1, .ref g0), (0, .ref h0)]) hx hb dX2_fitCentre_101 hl (by decide) rfl (fun ls hl => ?_)
          refine lv_dload hx hb dX2_fitCentre_103 (lv_at hl 6 rfl) ?_
          refine lv_aload_n hx hb dX2_fitCentre_105 rfl (lv_at hl 9 rfl) ?_
          refine va_get (D := G.1) (ci := 3) (v := .ref h1) (C := RX2) (T := TX2) (N := 7) hx hb hts hin_X2 hown hT.1 hP 0 rfl rfl 1 (by decide) hf_13 (fun _ h9 => h9) rfl dX2_fitCentre_106 ?_
          refine lv_iload hx hb dX2_fitCentre_109 (lv_at hl 4 rfl) ?_
          refine kx_dald hx hb hT hP 1 rfl i (by omega) (by omega) dX2_fitCentre_111 ?_
          refine lv_aload_n hx hb dX2_fitCentre_112 rfl (lv_at hl 9 rfl) ?_
          refine va_get (D := G.1) (ci := 3) (v := .ref h5) (C := RX2) (T := TX2) (N := 7) hx hb hts hin_X2 hown hT.1 hP 0 rfl rfl 5 (by decide) hf_27 (fun _ h9 => h9) rfl dX2_fitCentre_113 ?_
          refine lv_iload hx hb dX2_fitCentre_116 (lv_at hl 3 rfl) ?_
          refine kx_dald hx hb hT hP 5 rfl (i0 * v + i) (kx_ix (by omega) (by omega)) (kx_nv (by omega) (by omega)) dX2_fitCentre_118 ?_
          refine lv_dmul hx hb dX2_fitCentre_119 (fx_bd.mul (hb_P i) (hb_Mi (i0 * v + i)) (by omega)).n ?_
          refine lv_dadd hx hb dX2_fitCentre_120 (fx_bd.add (kx_S2_bd (th := (fun j => Th (i0 * v + j))) (f := P) (g := (fun j => Mi (i0 * v + j))) hb_P (fun j => hb_Mi (i0 * v + j)) i (by omega)) (fx_bd.mul (hb_P i) (hb_Mi (i0 * v + i)) (by omega)) (by omega)).n ?_
          refine lv_dstore (lv' := [(9, .double (FP.dadd (kx_S2 (fun j => Th (i0 * v + j)) P (fun j => Mi (i0 * v + j)) i) (FP.dmul (P i) (Mi (i0 * v + i))))), (7, .double (FP.dadd (kx_S2 (fun j => Th (i0 * v + j)) Q Q i) (FP.dmul (Q i) (Q i)))), (5, .double (FP.dadd (kx_S2 (fun j => Th (i0 * v + j)) P Q i) (FP.dmul (P i) (Q i)))), (3, .double (FP.dadd (kx_S2 (fun j => Th (i0 * v + j)) P P i) (FP.dmul (P i) (P i)))), (14, .int (nI (i0 * v + i))), (13, .int (nI i)), (11, .double (kx_S2 (fun j => Th (i0 * v + j)) Q (fun j => Mi (i0 * v + j)) i)), (2, .int (nI i0)), (1, .ref g0), (0, .ref h0)]) hx hb dX2_fitCentre_121 hl (by decide) rfl (fun ls hl => ?_)
          refine lv_dload hx hb dX2_fitCentre_123 (lv_at hl 6 rfl) ?_
          refine lv_aload_n hx hb dX2_fitCentre_125 rfl (lv_at hl 9 rfl) ?_
          refine va_get (D := G.1) (ci := 3) (v := .ref h2) (C := RX2) (T := TX2) (N := 7) hx hb hts hin_X2 hown hT.1 hP 0 rfl rfl 2 (by decide) hf_17 (fun _ h9 => h9) rfl dX2_fitCentre_126 ?_
          refine lv_iload hx hb dX2_fitCentre_129 (lv_at hl 5 rfl) ?_
          refine kx_dald hx hb hT hP 2 rfl i (by omega) (by omega) dX2_fitCentre_131 ?_
          refine lv_aload_n hx hb dX2_fitCentre_132 rfl (lv_at hl 9 rfl) ?_
          refine va_get (D := G.1) (ci := 3) (v := .ref h5) (C := RX2) (T := TX2) (N := 7) hx hb hts hin_X2 hown hT.1 hP 0 rfl rfl 5 (by decide) hf_27 (fun _ h9 => h9) rfl dX2_fitCentre_133 ?_
          refine lv_iload hx hb dX2_fitCentre_136 (lv_at hl 4 rfl) ?_
          refine kx_dald hx hb hT hP 5 rfl (i0 * v + i) (kx_ix (by omega) (by omega)) (kx_nv (by omega) (by omega)) dX2_fitCentre_138 ?_
          refine lv_dmul hx hb dX2_fitCentre_139 (fx_bd.mul (hb_Q i) (hb_Mi (i0 * v + i)) (by omega)).n ?_
          refine lv_dadd hx hb dX2_fitCentre_140 (fx_bd.add (kx_S2_bd (th := (fun j => Th (i0 * v + j))) (f := Q) (g := (fun j => Mi (i0 * v + j))) hb_Q (fun j => hb_Mi (i0 * v + j)) i (by omega)) (fx_bd.mul (hb_Q i) (hb_Mi (i0 * v + i)) (by omega)) (by omega)).n ?_
          refine lv_dstore (lv' := [(11, .double (FP.dadd (kx_S2 (fun j => Th (i0 * v + j)) Q (fun j => Mi (i0 * v + j)) i) (FP.dmul (Q i) (Mi (i0 * v + i))))), (9, .double (FP.dadd (kx_S2 (fun j => Th (i0 * v + j)) P (fun j => Mi (i0 * v + j)) i) (FP.dmul (P i) (Mi (i0 * v + i))))), (7, .double (FP.dadd (kx_S2 (fun j => Th (i0 * v + j)) Q Q i) (FP.dmul (Q i) (Q i)))), (5, .double (FP.dadd (kx_S2 (fun j => Th (i0 * v + j)) P Q i) (FP.dmul (P i) (Q i)))), (3, .double (FP.dadd (kx_S2 (fun j => Th (i0 * v + j)) P P i) (FP.dmul (P i) (P i)))), (14, .int (nI (i0 * v + i))), (13, .int (nI i)), (2, .int (nI i0)), (1, .ref g0), (0, .ref h0)]) hx hb dX2_fitCentre_141 hl (by decide) rfl (fun ls hl => ?_)
          refine lv_iinc (v := nI (i + 1)) (lv' := [(13, .int (nI (i + 1))), (11, .double (FP.dadd (kx_S2 (fun j => Th (i0 * v + j)) Q (fun j => Mi (i0 * v + j)) i) (FP.dmul (Q i) (Mi (i0 * v + i))))), (9, .double (FP.dadd (kx_S2 (fun j => Th (i0 * v + j)) P (fun j => Mi (i0 * v + j)) i) (FP.dmul (P i) (Mi (i0 * v + i))))), (7, .double (FP.dadd (kx_S2 (fun j => Th (i0 * v + j)) Q Q i) (FP.dmul (Q i) (Q i)))), (5, .double (FP.dadd (kx_S2 (fun j => Th (i0 * v + j)) P Q i) (FP.dmul (P i) (Q i)))), (3, .double (FP.dadd (kx_S2 (fun j => Th (i0 * v + j)) P P i) (FP.dmul (P i) (P i)))), (14, .int (nI (i0 * v + i))), (2, .int (nI i0)), (1, .ref g0), (0, .ref h0)]) hx hb dX2_fitCentre_143 hl (k := 6) rfl (by show _ + 1 = _; exact nI_1 _) (by decide) rfl (fun ls hl => ?_)
          refine lv_goto (tgt := 17) hx hb dX2_fitCentre_146 (by decide) ?_
          exact ih (i + 1) _ _ _ _ _ (by omega) ((kx_S2_t (th := (fun j => Th (i0 * v + j))) (f := P) (g := P) c_8).symm) ((kx_S2_t (th := (fun j => Th (i0 * v + j))) (f := P) (g := Q) c_8).symm) ((kx_S2_t (th := (fun j => Th (i0 * v + j))) (f := Q) (g := Q) c_8).symm) ((kx_S2_t (th := (fun j => Th (i0 * v + j))) (f := P) (g := (fun j => Mi (i0 * v + j))) c_8).symm) ((kx_S2_t (th := (fun j => Th (i0 * v + j))) (f := Q) (g := (fun j => Mi (i0 * v + j))) c_8).symm) _ _ hP hD hS _ (lv_sub hl [0, 1, 2, 3, 4, 5, 7, 8, 9] rfl)
  exact loop_17 v 0 _ _ _ _ _ (by omega) rfl rfl rfl rfl rfl _ _ hP hD hS _ (lv_sub hl [0, 1, 2, 3, 4, 5, 8, 7, 6] rfl)
set_option maxHeartbeats 4000000 in
set_option maxRecDepth 100000 in
/-- FITTED: a slice -/
theorem c_X2_fitInto (l : Launch) (G : kx_G) (sz : Nat) (h0 : Nat) (h1 : Nat) (h2 : Nat) (h3 : Nat) (h4 : Nat) (h5 : Nat) (h6 : Nat) (n : Nat) (v : Nat) (P : Nat → UInt64) (Q : Nat → UInt64) (Ln : Nat → UInt64) (Th : Nat → Int32) (Mi : Nat → UInt64) (Ha : Nat → UInt64) (g0 : Nat) (g1 : Nat) (g2 : Nat) (g3 : Nat) (g4 : Nat) (g5 : Nat) (X : Nat → UInt64) (Y : Nat → UInt64) (R : Nat → UInt64) (E : Nat → UInt64) (F : Nat → Int32) (md : Int32) (i0 : Nat) (hb_P : ∀ j, fx_bd 5 (P j)) (hb_Q : ∀ j, fx_bd 5 (Q j)) (hb_Ln : ∀ j, fx_bd 200 (Ln j)) (hb_Mi : ∀ j, fx_bd 14 (Mi j)) (hb_Ha : ∀ j, fx_bd 14 (Ha j)) (hb_X : ∀ j, fx_bd 130 (X j)) (hb_Y : ∀ j, fx_bd 130 (Y j)) (hb_R : ∀ j, fx_bd 140 (R j)) (hb_E : ∀ j, fx_bd 220 (E j)) (hn1 : 1 ≤ n) (hn : n ≤ 16) (hv1 : 1 ≤ v) (hv : v ≤ 8) (hi : i0 < n) (hl_Ln : ∀ j, j < v → fx_pl 61 (Ln j)) : Met l yX2_fitInto wsX2_fitInto ({ frames := 2, cells := 0, slots := 0, locals := 58 } : Room) (kx_PM G [.ref h0, .ref g0, .int (nI i0)] sz [(h0, .inr (3, [.int (nI v), .ref h1, .ref h2, .ref h3, .ref h4, .ref h5, .ref h6])), (h1, kx_aD G v P), (h2, kx_aD G v Q), (h3, kx_aD G v Ln), (h4, kx_aZ G (n * v) Th), (h5, kx_aD G (n * v) Mi), (h6, kx_aD G (n * v) Ha), (g0, .inr (4, [.int (nI n), .ref g1, .ref g2, .ref g3, .ref g4, .ref g5, .int md])), (g1, kx_aD G n X), (g2, kx_aD G n Y), (g3, kx_aD G n R), (g4, kx_aD G n E), (g5, kx_aZ G n F)]) (va_Qi (fun (r : Int32) (u : (Nat → UInt64) × (Nat → UInt64) × (Nat → UInt64) × (Nat → UInt64)) => (¬ kx_fit (fun j => Th (i0 * v + j)) P Q v ∧ r = 0 ∧ u = (X, Y, R, E)) ∨ (kx_fit (fun j => Th (i0 * v + j)) P Q v ∧ r = 1 ∧ u = (vf_upd X i0 (kx_cx (fun j => Th (i0 * v + j)) P Q (fun j => Mi (i0 * v + j)) v), vf_upd Y i0 (kx_cy (fun j => Th (i0 * v + j)) P Q (fun j => Mi (i0 * v + j)) v), vf_upd R i0 (kx_rad (fun j => Th (i0 * v + j)) (fun j => Ha (i0 * v + j)) Ln v), vf_upd E i0 (kx_res (fun j => Th (i0 * v + j)) P Q (fun j => Mi (i0 * v + j)) (kx_cx (fun j => Th (i0 * v + j)) P Q (fun j => Mi (i0 * v + j)) v) (kx_cy (fun j => Th (i0 * v + j)) P Q (fun j => Mi (i0 * v + j)) v) v)))) (kx_B G (va_A [(h0, .inr (3, [.int (nI v), .ref h1, .ref h2, .ref h3, .ref h4, .ref h5, .ref h6])), (h1, kx_aD G v P), (h2, kx_aD G v Q), (h3, kx_aD G v Ln), (h4, kx_aZ G (n * v) Th), (h5, kx_aD G (n * v) Mi), (h6, kx_aD G (n * v) Ha), (g0, .inr (4, [.int (nI n), .ref g1, .ref g2, .ref g3, .ref g4, .ref g5, .int md])), (g1, kx_aD G n X), (g2, kx_aD G n Y), (g3, kx_aD G n R), (g4, kx_aD G n E), (g5, kx_aZ G n F)] sz) (fun u : (Nat → UInt64) × (Nat → UInt64) × (Nat → UInt64) × (Nat → UInt64) => [(h0, .inr (3, [.int (nI v), .ref h1, .ref h2, .ref h3, .ref h4, .ref h5, .ref h6])), (h1, kx_aD G v P), (h2, kx_aD G v Q), (h3, kx_aD G v Ln), (h4, kx_aZ G (n * v) Th), (h5, kx_aD G (n * v) Mi), (h6, kx_aD G (n * v) Ha), (g0, .inr (4, [.int (nI n), .ref g1, .ref g2, .ref g3, .ref g4, .ref g5, .int md])), (g1, kx_aD G n u.1), (g2, kx_aD G n u.2.1), (g3, kx_aD G n u.2.2.1), (g4, kx_aD G n u.2.2.2), (g5, kx_aZ G n F)])) (va_A [(h0, .inr (3, [.int (nI v), .ref h1, .ref h2, .ref h3, .ref h4, .ref h5, .ref h6])), (h1, kx_aD G v P), (h2, kx_aD G v Q), (h3, kx_aD G v Ln), (h4, kx_aZ G (n * v) Th), (h5, kx_aD G (n * v) Mi), (h6, kx_aD G (n * v) Ha), (g0, .inr (4, [.int (nI n), .ref g1, .ref g2, .ref g3, .ref g4, .ref g5, .int md])), (g1, kx_aD G n X), (g2, kx_aD G n Y), (g3, kx_aD G n R), (g4, kx_aD G n E), (g5, kx_aZ G n F)] sz)) 0 0 (va_A [(h0, .inr (3, [.int (nI v), .ref h1, .ref h2, .ref h3, .ref h4, .ref h5, .ref h6])), (h1, kx_aD G v P), (h2, kx_aD G v Q), (h3, kx_aD G v Ln), (h4, kx_aZ G (n * v) Th), (h5, kx_aD G (n * v) Mi), (h6, kx_aD G (n * v) Ha), (g0, .inr (4, [.int (nI n), .ref g1, .ref g2, .ref g3, .ref g4, .ref g5, .int md])), (g1, kx_aD G n X), (g2, kx_aD G n Y), (g3, kx_aD G n R), (g4, kx_aD G n E), (g5, kx_aZ G n F)] sz) := by
  refine Met.ofW (cc := cX2_fitInto) (maxL := 4) (ret := (some .boolean)) (by decide) rfl ?_
  intro p e s m args below meth c s₁ B hml hv
  obtain ⟨rfl, hsz, hP, hT, hD0⟩ := hv
  have hx := B.exec
  have hb := B.bytes
  have hr := B.returns
  have hts := atoms_spec (ws := wsX2_fitInto) B.pre
  have hown : s.vm.findClass RX2 = some m.cls := findClass_of_methodNamed B.named
  have hlocks := B.notSynchronized
  have hf_53 := hT.nest (args := [.ref h0, .ref g0, .int (nI i0)].toArray) (.fieldLinkNest RX2 53 "StemShapes$Stem" "radius" "[D" "StemShapes") (by decide +kernel)
  have hin_X3 : ∀ w ∈ wsX30, w ∈ wsX2_fitInto := by decide +kernel
  have hf_62 := hT.nest (args := [.ref h0, .ref g0, .int (nI i0)].toArray) (.fieldLinkNest RX2 62 "StemShapes$Stem" "residual" "[D" "StemShapes") (by decide +kernel)
  have hf_65 := hT.nest (args := [.ref h0, .ref g0, .int (nI i0)].toArray) (.fieldLinkNest RX2 65 "StemShapes$Stem" "x" "[D" "StemShapes") (by decide +kernel)
  have hf_68 := hT.nest (args := [.ref h0, .ref g0, .int (nI i0)].toArray) (.fieldLinkNest RX2 68 "StemShapes$Stem" "y" "[D" "StemShapes") (by decide +kernel)
  subst hsz
  have hD := hD0.self (sz := s.heap.size)
  generalize hAe : va_A [(h0, .inr (3, [.int (nI v), .ref h1, .ref h2, .ref h3, .ref h4, .ref h5, .ref h6])), (h1, kx_aD G v P), (h2, kx_aD G v Q), (h3, kx_aD G v Ln), (h4, kx_aZ G (n * v) Th), (h5, kx_aD G (n * v) Mi), (h6, kx_aD G (n * v) Ha), (g0, .inr (4, [.int (nI n), .ref g1, .ref g2, .ref g3, .ref g4, .ref g5, .int md])), (g1, kx_aD G n X), (g2, kx_aD G n Y), (g3, kx_aD G n R), (g4, kx_aD G n E), (g5, kx_aZ G n F)] s.heap.size = A at hD ⊢
  have hA : ∀ q : Nat, s.heap.size ≤ q → A q := fun q h => by rw [← hAe]; exact Or.inr h
  have hS : va_S A s.heap s.heap [] := va_S.rf
  have hl := lv_entry ([.ref h0, .ref g0, .int (nI i0)]) (n := 4) (Nat.le_of_ble_eq_true rfl)
  rw [lg_entry_eq]
  generalize (lg_sl ([.ref h0, .ref g0, .int (nI i0)]) ++ List.replicate (4 - (lg_sl ([.ref h0, .ref g0, .int (nI i0)])).length) Slot.unset).toArray = ls at hl ⊢
  have hl : lv_has ls 4 [(0, .ref h0), (1, .ref g0), (2, .int (nI i0))] := hl
  refine lv_aload_n hx hb dX2_fitInto_0 rfl (lv_at hl 0 rfl) ?_
  refine lv_iload_n hx hb dX2_fitInto_1 rfl (lv_at hl 2 rfl) ?_
  refine vp_callSi (W.runV (As := [.int (nI i0)]) (rest := []) ⟨hx, hb, hml, hown, hts⟩ (c_X2_countOf l G (h0 := h0) (h1 := h1) (h2 := h2) (h3 := h3) (h4 := h4) (h5 := h5) (h6 := h6) (n := n) (v := v) (P := P) (Q := Q) (Ln := Ln) (Th := Th) (Mi := Mi) (Ha := Ha) (i0 := i0) (hb_P := hb_P) (hb_Q := hb_Q) (hb_Ln := hb_Ln) (hb_Mi := hb_Mi) (hb_Ha := hb_Ha) (hn1 := (by omega)) (hn := (by omega)) (hv1 := (by omega)) (hv := (by omega)) (hi := (by omega))) (cwV 1 hts gX2_fitInto_X2_countOf rfl rfl rfl (by decide +kernel) ⟨Nat.le_of_ble_eq_true rfl, Nat.le_of_ble_eq_true rfl⟩) ⟨kx_PRb, va_recv hT.1 hP (ci := 3) (q0 := 0) rfl rfl, kx_pr hT hP [0, 1, 2, 3, 4, 5, 6] rfl⟩ rfl rfl hl.1 rfl (lv_room (Nat.le_of_ble_eq_true rfl)) dX2_fitInto_2 ⟨Nat.zero_le _, Nat.zero_le _⟩) (fun r_1 hw_2 => ?_)
  subst hw_2
  have hcle := kx_cn_le (th := (fun j => Th (i0 * v + j))) v
  refine lv_istore_n (lv' := [(3, .int (nI (kx_cn (fun j => Th (i0 * v + j)) v))), (0, .ref h0), (1, .ref g0), (2, .int (nI i0))]) hx hb dX2_fitInto_5 rfl hl (by decide) rfl (fun ls hl => ?_)
  refine lv_iload_n hx hb dX2_fitInto_6 rfl (lv_at hl 0 rfl) ?_
  refine lv_iconst (v := 2) hx hb dX2_fitInto_7 (by decide) ?_
  refine lv_icmp_lt (x := nI (kx_cn (fun j => Th (i0 * v + j)) v)) (y := 2) (tgt := 20) hx hb dX2_fitInto_8 (by decide) (fun c_3 => ?_) (fun c_3 => ?_)
  · have c_3 : (kx_cn (fun j => Th (i0 * v + j)) v) < 2 := (nI_ltI (a := kx_cn (fun j => Th (i0 * v + j)) v) (b := 2) (by omega) (by omega)).mp c_3
    refine lv_iconst (v := 0) hx hb dX2_fitInto_20 (by decide) ?_
    exact W.zret (v := 0) hx hb hr rfl (fun t ht hW => ⟨⟨0, (X, Y, R, E), rfl, Or.inl ⟨fun q => by have := q.1; omega, rfl, rfl⟩, And.intro (by rw [ht]; exact hP) hD⟩, hS.F ht⟩) hS.2.2 dX2_fitInto_21
  · have c_3 : ¬ (kx_cn (fun j => Th (i0 * v + j)) v) < 2 := fun q => c_3 ((nI_ltI (a := kx_cn (fun j => Th (i0 * v + j)) v) (b := 2) (by omega) (by omega)).mpr q)
    refine lv_aload_n hx hb dX2_fitInto_11 rfl (lv_at hl 1 rfl) ?_
    refine lv_aload_n hx hb dX2_fitInto_12 rfl (lv_at hl 2 rfl) ?_
    refine lv_iload_n hx hb dX2_fitInto_13 rfl (lv_at hl 3 rfl) ?_
    refine kx_mi (va_runV (As := [.ref g0, .int (nI i0)]) (rest := []) ⟨hx, hb, hml, hown, hts⟩ (c_X2_fitCentre l G _ (h0 := h0) (h1 := h1) (h2 := h2) (h3 := h3) (h4 := h4) (h5 := h5) (h6 := h6) (n := n) (v := v) (P := P) (Q := Q) (Ln := Ln) (Th := Th) (Mi := Mi) (Ha := Ha) (g0 := g0) (g1 := g1) (g2 := g2) (g3 := g3) (g4 := g4) (g5 := g5) (X := X) (Y := Y) (R := R) (E := E) (F := F) (md := md) (i0 := i0) (hb_P := hb_P) (hb_Q := hb_Q) (hb_Ln := hb_Ln) (hb_Mi := hb_Mi) (hb_Ha := hb_Ha) (hb_X := hb_X) (hb_Y := hb_Y) (hb_R := hb_R) (hb_E := hb_E) (hn1 := (by omega)) (hn := (by omega)) (hv1 := (by omega)) (hv := (by omega)) (hi := (by omega))) (cwV 2 hts gX2_fitInto_X2_fitCentre rfl rfl rfl (by decide +kernel) ⟨Nat.le_of_ble_eq_true rfl, Nat.le_of_ble_eq_true rfl⟩) ⟨kx_PMb, va_recv hT.1 hP (ci := 3) (q0 := 0) rfl rfl, kx_pm hT hP hD [0, 1, 2, 3, 4, 5, 6, 7, 8, 9, 10, 11, 12] rfl rfl rfl⟩ rfl rfl hl.1 rfl (lv_room (Nat.le_of_ble_eq_true rfl)) dX2_fitInto_14 ⟨Nat.zero_le _, Nat.zero_le _⟩) hP hD hS hA [0, 1, 2, 3, 4, 5, 6, 7, 8, 9, 10, 11, 12] rfl rfl (fun _ => rfl) (fun r_4 u_6 H locs hw_5 hP hD hS => ?_)
    rcases hw_5 with ⟨hk_, hr_, hu_⟩ | ⟨hk_, hr_, hu_⟩
    · subst hr_
      subst hu_
      have hP : va_P G.1 vwCl [(h0, .inr (3, [.int (nI v), .ref h1, .ref h2, .ref h3, .ref h4, .ref h5, .ref h6])), (h1, kx_aD G v P), (h2, kx_aD G v Q), (h3, kx_aD G v Ln), (h4, kx_aZ G (n * v) Th), (h5, kx_aD G (n * v) Mi), (h6, kx_aD G (n * v) Ha), (g0, .inr (4, [.int (nI n), .ref g1, .ref g2, .ref g3, .ref g4, .ref g5, .int md])), (g1, kx_aD G n X), (g2, kx_aD G n Y), (g3, kx_aD G n R), (g4, kx_aD G n E), (g5, kx_aZ G n F)] H := hP
      have hD : va_D A [(h0, .inr (3, [.int (nI v), .ref h1, .ref h2, .ref h3, .ref h4, .ref h5, .ref h6])), (h1, kx_aD G v P), (h2, kx_aD G v Q), (h3, kx_aD G v Ln), (h4, kx_aZ G (n * v) Th), (h5, kx_aD G (n * v) Mi), (h6, kx_aD G (n * v) Ha), (g0, .inr (4, [.int (nI n), .ref g1, .ref g2, .ref g3, .ref g4, .ref g5, .int md])), (g1, kx_aD G n X), (g2, kx_aD G n Y), (g3, kx_aD G n R), (g4, kx_aD G n E), (g5, kx_aZ G n F)] := hD
      refine lv_if_ne (x := 0) (tgt := 22) hx hb dX2_fitInto_17 (by decide) (fun c_7 => ?_) (fun c_7 => ?_)
      · exact absurd c_7 (by decide)
      · refine lv_iconst (v := 0) hx hb dX2_fitInto_20 (by decide) ?_
        exact W.zret (v := 0) hx hb hr rfl (fun t ht hW => ⟨⟨0, (X, Y, R, E), rfl, Or.inl ⟨fun q => hk_ q.2, rfl, rfl⟩, And.intro (by rw [ht]; exact hP) hD⟩, hS.F ht⟩) hS.2.2 dX2_fitInto_21
    · subst hr_
      subst hu_
      have hP : va_P G.1 vwCl [(h0, .inr (3, [.int (nI v), .ref h1, .ref h2, .ref h3, .ref h4, .ref h5, .ref h6])), (h1, kx_aD G v P), (h2, kx_aD G v Q), (h3, kx_aD G v Ln), (h4, kx_aZ G (n * v) Th), (h5, kx_aD G (n * v) Mi), (h6, kx_aD G (n * v) Ha), (g0, .inr (4, [.int (nI n), .ref g1, .ref g2, .ref g3, .ref g4, .ref g5, .int md])), (g1, kx_aD G n (vf_upd X i0 (kx_cx (fun j => Th (i0 * v + j)) P Q (fun j => Mi (i0 * v + j)) v))), (g2, kx_aD G n (vf_upd Y i0 (kx_cy (fun j => Th (i0 * v + j)) P Q (fun j => Mi (i0 * v + j)) v))), (g3, kx_aD G n R), (g4, kx_aD G n E), (g5, kx_aZ G n F)] H := hP
      have hD : va_D A [(h0, .inr (3, [.int (nI v), .ref h1, .ref h2, .ref h3, .ref h4, .ref h5, .ref h6])), (h1, kx_aD G v P), (h2, kx_aD G v Q), (h3, kx_aD G v Ln), (h4, kx_aZ G (n * v) Th), (h5, kx_aD G (n * v) Mi), (h6, kx_aD G (n * v) Ha), (g0, .inr (4, [.int (nI n), .ref g1, .ref g2, .ref g3, .ref g4, .ref g5, .int md])), (g1, kx_aD G n (vf_upd X i0 (kx_cx (fun j => Th (i0 * v + j)) P Q (fun j => Mi (i0 * v + j)) v))), (g2, kx_aD G n (vf_upd Y i0 (kx_cy (fun j => Th (i0 * v + j)) P Q (fun j => Mi (i0 * v + j)) v))), (g3, kx_aD G n R), (g4, kx_aD G n E), (g5, kx_aZ G n F)] := hD
      refine lv_if_ne (x := 1) (tgt := 22) hx hb dX2_fitInto_17 (by decide) (fun c_8 => ?_) (fun c_8 => ?_)
      · refine lv_aload_n hx hb dX2_fitInto_22 rfl (lv_at hl 2 rfl) ?_
        refine va_getN (D := G.1) (ci := 4) (v := .ref g3) (C := RX3) (T := TX3) (N := 7) hx hb hts hin_X3 hown hT.1 hP 7 rfl rfl 3 (by decide) hf_53 (fun _ h9 => h9) rfl dX2_fitInto_23 ?_
        refine lv_iload_n hx hb dX2_fitInto_26 rfl (lv_at hl 3 rfl) ?_
        refine lv_aload_n hx hb dX2_fitInto_27 rfl (lv_at hl 1 rfl) ?_
        refine lv_iload_n hx hb dX2_fitInto_28 rfl (lv_at hl 3 rfl) ?_
        refine vp_callSd (W.runV (As := [.int (nI i0)]) (rest := [.int (nI i0), .ref g3]) ⟨hx, hb, hml, hown, hts⟩ (c_X2_sumOfRadii l G (h0 := h0) (h1 := h1) (h2 := h2) (h3 := h3) (h4 := h4) (h5 := h5) (h6 := h6) (n := n) (v := v) (P := P) (Q := Q) (Ln := Ln) (Th := Th) (Mi := Mi) (Ha := Ha) (i0 := i0) (hb_P := hb_P) (hb_Q := hb_Q) (hb_Ln := hb_Ln) (hb_Mi := hb_Mi) (hb_Ha := hb_Ha) (hn1 := (by omega)) (hn := (by omega)) (hv1 := (by omega)) (hv := (by omega)) (hi := (by omega)) (hl_Ln := hl_Ln)) (cwV 1 hts gX2_fitInto_X2_sumOfRadii rfl rfl rfl (by decide +kernel) ⟨Nat.le_of_ble_eq_true rfl, Nat.le_of_ble_eq_true rfl⟩) ⟨kx_PRb, va_recv hT.1 hP (ci := 3) (q0 := 0) rfl rfl, kx_pr hT hP [0, 1, 2, 3, 4, 5, 6] rfl⟩ rfl rfl hl.1 rfl (lv_room (Nat.le_of_ble_eq_true rfl)) dX2_fitInto_29 ⟨Nat.zero_le _, Nat.zero_le _⟩) (fun r_9 hw_10 => ?_)
        subst hw_10
        refine lv_iload_n hx hb dX2_fitInto_32 rfl (lv_at hl 0 rfl) ?_
        refine lv_i2d hx hb dX2_fitInto_33 ?_
        refine lv_ddiv hx hb dX2_fitInto_34 (fx_bd.div (kx_si_bn (K := 76) (n := v) (fun j hj => (hb_Ha (i0 * v + j)).div (hl_Ln j hj).lb (by omega)) v (by omega) (by omega)) (fx_il (nI_ne0 (by omega) (by omega))) (by omega)).n ?_
        refine kx_dast hx hb hT hP hD hS 10 rfl i0 (by omega) (by omega) dX2_fitInto_35 (fun H locs hP hD hS => ?_)
        have hP : va_P G.1 vwCl [(h0, .inr (3, [.int (nI v), .ref h1, .ref h2, .ref h3, .ref h4, .ref h5, .ref h6])), (h1, kx_aD G v P), (h2, kx_aD G v Q), (h3, kx_aD G v Ln), (h4, kx_aZ G (n * v) Th), (h5, kx_aD G (n * v) Mi), (h6, kx_aD G (n * v) Ha), (g0, .inr (4, [.int (nI n), .ref g1, .ref g2, .ref g3, .ref g4, .ref g5, .int md])), (g1, kx_aD G n (vf_upd X i0 (kx_cx (fun j => Th (i0 * v + j)) P Q (fun j => Mi (i0 * v + j)) v))), (g2, kx_aD G n (vf_upd Y i0 (kx_cy (fun j => Th (i0 * v + j)) P Q (fun j => Mi (i0 * v + j)) v))), (g3, kx_aD G n (vf_upd R i0 (FP.ddiv (kx_si (fun j => Th (i0 * v + j)) (fun j => FP.ddiv (Ha (i0 * v + j)) (Ln j)) v) (FP.i2d (nI (kx_cn (fun j => Th (i0 * v + j)) v)))))), (g4, kx_aD G n E), (g5, kx_aZ G n F)] H := hP
        have hD : va_D A [(h0, .inr (3, [.int (nI v), .ref h1, .ref h2, .ref h3, .ref h4, .ref h5, .ref h6])), (h1, kx_aD G v P), (h2, kx_aD G v Q), (h3, kx_aD G v Ln), (h4, kx_aZ G (n * v) Th), (h5, kx_aD G (n * v) Mi), (h6, kx_aD G (n * v) Ha), (g0, .inr (4, [.int (nI n), .ref g1, .ref g2, .ref g3, .ref g4, .ref g5, .int md])), (g1, kx_aD G n (vf_upd X i0 (kx_cx (fun j => Th (i0 * v + j)) P Q (fun j => Mi (i0 * v + j)) v))), (g2, kx_aD G n (vf_upd Y i0 (kx_cy (fun j => Th (i0 * v + j)) P Q (fun j => Mi (i0 * v + j)) v))), (g3, kx_aD G n (vf_upd R i0 (FP.ddiv (kx_si (fun j => Th (i0 * v + j)) (fun j => FP.ddiv (Ha (i0 * v + j)) (Ln j)) v) (FP.i2d (nI (kx_cn (fun j => Th (i0 * v + j)) v)))))), (g4, kx_aD G n E), (g5, kx_aZ G n F)] := hD
        refine lv_aload_n hx hb dX2_fitInto_36 rfl (lv_at hl 2 rfl) ?_
        refine va_getN (D := G.1) (ci := 4) (v := .ref g4) (C := RX3) (T := TX3) (N := 7) hx hb hts hin_X3 hown hT.1 hP 7 rfl rfl 4 (by decide) hf_62 (fun _ h9 => h9) rfl dX2_fitInto_37 ?_
        refine lv_iload_n hx hb dX2_fitInto_40 rfl (lv_at hl 3 rfl) ?_
        refine lv_aload_n hx hb dX2_fitInto_41 rfl (lv_at hl 1 rfl) ?_
        refine lv_iload_n hx hb dX2_fitInto_42 rfl (lv_at hl 3 rfl) ?_
        refine lv_aload_n hx hb dX2_fitInto_43 rfl (lv_at hl 2 rfl) ?_
        refine va_getN (D := G.1) (ci := 4) (v := .ref g1) (C := RX3) (T := TX3) (N := 7) hx hb hts hin_X3 hown hT.1 hP 7 rfl rfl 1 (by decide) hf_65 (fun _ h9 => h9) rfl dX2_fitInto_44 ?_
        refine lv_iload_n hx hb dX2_fitInto_47 rfl (lv_at hl 3 rfl) ?_
        refine kx_dald hx hb hT hP 8 rfl i0 (by omega) (by omega) dX2_fitInto_48 ?_
        refine kx_ed (y := (kx_cx (fun j => Th (i0 * v + j)) P Q (fun j => Mi (i0 * v + j)) v)) kx_us ?_
        refine lv_aload_n hx hb dX2_fitInto_49 rfl (lv_at hl 2 rfl) ?_
        refine va_getN (D := G.1) (ci := 4) (v := .ref g2) (C := RX3) (T := TX3) (N := 7) hx hb hts hin_X3 hown hT.1 hP 7 rfl rfl 2 (by decide) hf_68 (fun _ h9 => h9) rfl dX2_fitInto_50 ?_
        refine lv_iload_n hx hb dX2_fitInto_53 rfl (lv_at hl 3 rfl) ?_
        refine kx_dald hx hb hT hP 9 rfl i0 (by omega) (by omega) dX2_fitInto_54 ?_
        refine kx_ed (y := (kx_cy (fun j => Th (i0 * v + j)) P Q (fun j => Mi (i0 * v + j)) v)) kx_us ?_
        refine vp_callSd (W.runV (As := [.int (nI i0), .double (kx_cx (fun j => Th (i0 * v + j)) P Q (fun j => Mi (i0 * v + j)) v), .double (kx_cy (fun j => Th (i0 * v + j)) P Q (fun j => Mi (i0 * v + j)) v)]) (rest := [.int (nI i0), .ref g4]) ⟨hx, hb, hml, hown, hts⟩ (c_X2_sumOfErrors l G (h0 := h0) (h1 := h1) (h2 := h2) (h3 := h3) (h4 := h4) (h5 := h5) (h6 := h6) (n := n) (v := v) (P := P) (Q := Q) (Ln := Ln) (Th := Th) (Mi := Mi) (Ha := Ha) (i0 := i0) (x := (kx_cx (fun j => Th (i0 * v + j)) P Q (fun j => Mi (i0 * v + j)) v)) (y := (kx_cy (fun j => Th (i0 * v + j)) P Q (fun j => Mi (i0 * v + j)) v)) (hb_P := hb_P) (hb_Q := hb_Q) (hb_Ln := hb_Ln) (hb_Mi := hb_Mi) (hb_Ha := hb_Ha) (hn1 := (by omega)) (hn := (by omega)) (hv1 := (by omega)) (hv := (by omega)) (hi := (by omega)) (hx_b := (kx_cx_bd hb_P hb_Q (fun j => hb_Mi (i0 * v + j)) hv hk_)) (hy_b := (kx_cy_bd hb_P hb_Q (fun j => hb_Mi (i0 * v + j)) hv hk_))) (cwV 3 hts gX2_fitInto_X2_sumOfErrors rfl rfl rfl (by decide +kernel) ⟨Nat.le_of_ble_eq_true rfl, Nat.le_of_ble_eq_true rfl⟩) ⟨kx_PRb, va_recv hT.1 hP (ci := 3) (q0 := 0) rfl rfl, kx_pr hT hP [0, 1, 2, 3, 4, 5, 6] rfl⟩ rfl rfl hl.1 rfl (lv_room (Nat.le_of_ble_eq_true rfl)) dX2_fitInto_55 ⟨Nat.zero_le _, Nat.zero_le _⟩) (fun r_11 hw_12 => ?_)
        subst hw_12
        refine kx_dast hx hb hT hP hD hS 11 rfl i0 (by omega) (by omega) dX2_fitInto_58 (fun H locs hP hD hS => ?_)
        have hP : va_P G.1 vwCl [(h0, .inr (3, [.int (nI v), .ref h1, .ref h2, .ref h3, .ref h4, .ref h5, .ref h6])), (h1, kx_aD G v P), (h2, kx_aD G v Q), (h3, kx_aD G v Ln), (h4, kx_aZ G (n * v) Th), (h5, kx_aD G (n * v) Mi), (h6, kx_aD G (n * v) Ha), (g0, .inr (4, [.int (nI n), .ref g1, .ref g2, .ref g3, .ref g4, .ref g5, .int md])), (g1, kx_aD G n (vf_upd X i0 (kx_cx (fun j => Th (i0 * v + j)) P Q (fun j => Mi (i0 * v + j)) v))), (g2, kx_aD G n (vf_upd Y i0 (kx_cy (fun j => Th (i0 * v + j)) P Q (fun j => Mi (i0 * v + j)) v))), (g3, kx_aD G n (vf_upd R i0 (FP.ddiv (kx_si (fun j => Th (i0 * v + j)) (fun j => FP.ddiv (Ha (i0 * v + j)) (Ln j)) v) (FP.i2d (nI (kx_cn (fun j => Th (i0 * v + j)) v)))))), (g4, kx_aD G n (vf_upd E i0 (kx_si (fun j => Th (i0 * v + j)) (fun j => kx_sqe (Mi (i0 * v + j)) (P j) (Q j) (kx_cx (fun j => Th (i0 * v + j)) P Q (fun j => Mi (i0 * v + j)) v) (kx_cy (fun j => Th (i0 * v + j)) P Q (fun j => Mi (i0 * v + j)) v)) v))), (g5, kx_aZ G n F)] H := hP
        have hD : va_D A [(h0, .inr (3, [.int (nI v), .ref h1, .ref h2, .ref h3, .ref h4, .ref h5, .ref h6])), (h1, kx_aD G v P), (h2, kx_aD G v Q), (h3, kx_aD G v Ln), (h4, kx_aZ G (n * v) Th), (h5, kx_aD G (n * v) Mi), (h6, kx_aD G (n * v) Ha), (g0, .inr (4, [.int (nI n), .ref g1, .ref g2, .ref g3, .ref g4, .ref g5, .int md])), (g1, kx_aD G n (vf_upd X i0 (kx_cx (fun j => Th (i0 * v + j)) P Q (fun j => Mi (i0 * v + j)) v))), (g2, kx_aD G n (vf_upd Y i0 (kx_cy (fun j => Th (i0 * v + j)) P Q (fun j => Mi (i0 * v + j)) v))), (g3, kx_aD G n (vf_upd R i0 (FP.ddiv (kx_si (fun j => Th (i0 * v + j)) (fun j => FP.ddiv (Ha (i0 * v + j)) (Ln j)) v) (FP.i2d (nI (kx_cn (fun j => Th (i0 * v + j)) v)))))), (g4, kx_aD G n (vf_upd E i0 (kx_si (fun j => Th (i0 * v + j)) (fun j => kx_sqe (Mi (i0 * v + j)) (P j) (Q j) (kx_cx (fun j => Th (i0 * v + j)) P Q (fun j => Mi (i0 * v + j)) v) (kx_cy (fun j => Th (i0 * v + j)) P Q (fun j => Mi (i0 * v + j)) v)) v))), (g5, kx_aZ G n F)] := hD
        refine lv_iconst (v := 1) hx hb dX2_fitInto_59 (by decide) ?_
        exact W.zret (v := 1) hx hb hr rfl (fun t ht hW => ⟨⟨1, (vf_upd X i0 (kx_cx (fun j => Th (i0 * v + j)) P Q (fun j => Mi (i0 * v + j)) v), vf_upd Y i0 (kx_cy (fun j => Th (i0 * v + j)) P Q (fun j => Mi (i0 * v + j)) v), vf_upd R i0 (kx_rad (fun j => Th (i0 * v + j)) (fun j => Ha (i0 * v + j)) Ln v), vf_upd E i0 (kx_res (fun j => Th (i0 * v + j)) P Q (fun j => Mi (i0 * v + j)) (kx_cx (fun j => Th (i0 * v + j)) P Q (fun j => Mi (i0 * v + j)) v) (kx_cy (fun j => Th (i0 * v + j)) P Q (fun j => Mi (i0 * v + j)) v) v)), rfl, Or.inr ⟨⟨by omega, hk_⟩, rfl, rfl⟩, And.intro (by rw [ht]; exact hP) hD⟩, hS.F ht⟩) hS.2.2 dX2_fitInto_60
      · exact absurd c_8 (by decide)
set_option maxHeartbeats 4000000 in
set_option maxRecDepth 100000 in
/-- MENDED: one slice -/
theorem c_X3_mendOne (l : Launch) (G : kx_G) (sz : Nat) (h0 : Nat) (h1 : Nat) (h2 : Nat) (h3 : Nat) (h4 : Nat) (h5 : Nat) (n : Nat) (X : Nat → UInt64) (Y : Nat → UInt64) (R : Nat → UInt64) (E : Nat → UInt64) (F : Nat → Int32) (md : Int32) (i0 : Nat) (a : Nat) (b : Nat) (bf : Int32) (bh : Int32) (hb_X : ∀ j, fx_bd 130 (X j)) (hb_Y : ∀ j, fx_bd 130 (Y j)) (hb_R : ∀ j, fx_bd 140 (R j)) (hb_E : ∀ j, fx_bd 220 (E j)) (hn1 : 1 ≤ n) (hn : n ≤ 16) (hi : i0 < n) (hsel : kx_sel bf bh i0 a b n) : Met l yX3_mendOne wsX3_mendOne ({ frames := 1, cells := 0, slots := 0, locals := 23 } : Room) (kx_PM G [.ref h0, .int (nI i0), .int bf, .int bh] sz [(h0, .inr (4, [.int (nI n), .ref h1, .ref h2, .ref h3, .ref h4, .ref h5, .int md])), (h1, kx_aD G n X), (h2, kx_aD G n Y), (h3, kx_aD G n R), (h4, kx_aD G n E), (h5, kx_aZ G n F)]) (va_Qv (fun (_ : Unit) => True) (kx_B G (va_A [(h0, .inr (4, [.int (nI n), .ref h1, .ref h2, .ref h3, .ref h4, .ref h5, .int md])), (h1, kx_aD G n X), (h2, kx_aD G n Y), (h3, kx_aD G n R), (h4, kx_aD G n E), (h5, kx_aZ G n F)] sz) (fun u : Unit => [(h0, .inr (4, [.int (nI n), .ref h1, .ref h2, .ref h3, .ref h4, .ref h5, .int md])), (h1, kx_aD G n (vf_upd X i0 (kx_btw X i0 a b))), (h2, kx_aD G n (vf_upd Y i0 (kx_btw Y i0 a b))), (h3, kx_aD G n (vf_upd R i0 (kx_btw R i0 a b))), (h4, kx_aD G n (vf_upd E i0 FP.dconst0)), (h5, kx_aZ G n F)])) (va_A [(h0, .inr (4, [.int (nI n), .ref h1, .ref h2, .ref h3, .ref h4, .ref h5, .int md])), (h1, kx_aD G n X), (h2, kx_aD G n Y), (h3, kx_aD G n R), (h4, kx_aD G n E), (h5, kx_aZ G n F)] sz)) 0 0 (va_A [(h0, .inr (4, [.int (nI n), .ref h1, .ref h2, .ref h3, .ref h4, .ref h5, .int md])), (h1, kx_aD G n X), (h2, kx_aD G n Y), (h3, kx_aD G n R), (h4, kx_aD G n E), (h5, kx_aZ G n F)] sz) := by
  refine Met.ofW (cc := cX3_mendOne) (maxL := 6) (ret := none) (by decide) rfl ?_
  intro p e s m args below meth c s₁ B hml hv
  obtain ⟨rfl, hsz, hP, hT, hD0⟩ := hv
  have hx := B.exec
  have hb := B.bytes
  have hr := B.returns
  have hts := atoms_spec (ws := wsX3_mendOne) B.pre
  have hown : s.vm.findClass RX3 = some m.cls := findClass_of_methodNamed B.named
  have hlocks := B.notSynchronized
  have hf_15 := hts (.fieldLink RX3 15 "StemShapes$Stem" "x" "[D") (by decide +kernel)
  have hin_X3 : ∀ w ∈ wsX30, w ∈ wsX3_mendOne := by decide +kernel
  have hf_19 := hts (.fieldLink RX3 19 "StemShapes$Stem" "y" "[D") (by decide +kernel)
  have hf_22 := hts (.fieldLink RX3 22 "StemShapes$Stem" "radius" "[D") (by decide +kernel)
  have hf_25 := hts (.fieldLink RX3 25 "StemShapes$Stem" "residual" "[D") (by decide +kernel)
  subst hsz
  have hD := hD0.self (sz := s.heap.size)
  generalize hAe : va_A [(h0, .inr (4, [.int (nI n), .ref h1, .ref h2, .ref h3, .ref h4, .ref h5, .int md])), (h1, kx_aD G n X), (h2, kx_aD G n Y), (h3, kx_aD G n R), (h4, kx_aD G n E), (h5, kx_aZ G n F)] s.heap.size = A at hD ⊢
  have hA : ∀ q : Nat, s.heap.size ≤ q → A q := fun q h => by rw [← hAe]; exact Or.inr h
  have hS : va_S A s.heap s.heap [] := va_S.rf
  have hl := lv_entry ([.ref h0, .int (nI i0), .int bf, .int bh]) (n := 6) (Nat.le_of_ble_eq_true rfl)
  rw [lg_entry_eq]
  generalize (lg_sl ([.ref h0, .int (nI i0), .int bf, .int bh]) ++ List.replicate (6 - (lg_sl ([.ref h0, .int (nI i0), .int bf, .int bh])).length) Slot.unset).toArray = ls at hl ⊢
  have hl : lv_has ls 6 [(0, .ref h0), (1, .int (nI i0)), (2, .int bf), (3, .int bh)] := hl
  have hab := kx_sel_ab hsel
  rcases hsel with ⟨e1, e2, h1_, h2_, h3_⟩ | ⟨e1, e2, e3, h1_, h2_⟩ | ⟨e1, e2, e3, h1_, h2_⟩
  · skip
    subst e1
    subst e2
    refine lv_iload_n hx hb dX3_mendOne_0 rfl (lv_at hl 2 rfl) ?_
    refine lv_iconst (v := (-1)) hx hb dX3_mendOne_1 (by decide) ?_
    refine lv_icmp_ne (x := nI a) (y := (-1)) (tgt := 9) hx hb dX3_mendOne_2 (by decide) (fun c_1 => ?_) (fun c_1 => ?_)
    · refine lv_iload_n hx hb dX3_mendOne_9 rfl (lv_at hl 2 rfl) ?_
      refine lv_istore (lv' := [(4, .int (nI a)), (0, .ref h0), (1, .int (nI i0)), (2, .int (nI a)), (3, .int (nI b))]) hx hb dX3_mendOne_10 hl (by decide) rfl (fun ls hl => ?_)
      refine lv_iload_n hx hb dX3_mendOne_12 rfl (lv_at hl 4 rfl) ?_
      refine lv_iconst (v := (-1)) hx hb dX3_mendOne_13 (by decide) ?_
      refine lv_icmp_ne (x := nI b) (y := (-1)) (tgt := 21) hx hb dX3_mendOne_14 (by decide) (fun c_2 => ?_) (fun c_2 => ?_)
      · refine lv_iload_n hx hb dX3_mendOne_21 rfl (lv_at hl 4 rfl) ?_
        refine lv_istore (lv' := [(5, .int (nI b)), (4, .int (nI a)), (0, .ref h0), (1, .int (nI i0)), (2, .int (nI a)), (3, .int (nI b))]) hx hb dX3_mendOne_22 hl (by decide) rfl (fun ls hl => ?_)
        refine lv_iload hx hb dX3_mendOne_24 (lv_at hl 1 rfl) ?_
        refine lv_iconst (v := (-1)) hx hb dX3_mendOne_26 (by decide) ?_
        refine lv_icmp_eq (x := nI a) (y := (-1)) (tgt := 36) hx hb dX3_mendOne_27 (by decide) (fun c_3 => ?_) (fun c_3 => ?_)
        · exact absurd c_3 (kx_nm1 (by omega))
        · refine lv_iload hx hb dX3_mendOne_30 (lv_at hl 0 rfl) ?_
          refine lv_iconst (v := (-1)) hx hb dX3_mendOne_32 (by decide) ?_
          refine lv_icmp_ne (x := nI b) (y := (-1)) (tgt := 37) hx hb dX3_mendOne_33 (by decide) (fun c_4 => ?_) (fun c_4 => ?_)
          · refine lv_aload_n hx hb dX3_mendOne_37 rfl (lv_at hl 2 rfl) ?_
            refine va_get (D := G.1) (ci := 4) (v := .ref h1) (C := RX3) (T := TX3) (N := 7) hx hb hts hin_X3 hown hT.1 hP 0 rfl rfl 1 (by decide) hf_15 (fun _ h9 => h9) rfl dX3_mendOne_38 ?_
            refine lv_iload_n hx hb dX3_mendOne_41 rfl (lv_at hl 3 rfl) ?_
            refine lv_aload_n hx hb dX3_mendOne_42 rfl (lv_at hl 2 rfl) ?_
            refine va_get (D := G.1) (ci := 4) (v := .ref h1) (C := RX3) (T := TX3) (N := 7) hx hb hts hin_X3 hown hT.1 hP 0 rfl rfl 1 (by decide) hf_15 (fun _ h9 => h9) rfl dX3_mendOne_43 ?_
            refine lv_iload_n hx hb dX3_mendOne_46 rfl (lv_at hl 3 rfl) ?_
            refine lv_iload hx hb dX3_mendOne_47 (lv_at hl 1 rfl) ?_
            refine lv_iload hx hb dX3_mendOne_49 (lv_at hl 0 rfl) ?_
            refine vp_callSd (W.runS (As := [.ref h1, .int (nI i0), .int (nI a), .int (nI b)]) (rest := [.int (nI i0), .ref h1]) ⟨hx, hb, hml, hown, hts⟩ (c_X3_between l G (h1 := h1) (n := n) (X := X) (i := i0) (a := a) (b := b) (hb_X := (fun j9 => (hb_X j9).mono (by decide))) (hn := (by omega)) (hi := (by omega)) (ha := (by omega)) (hb9 := (by omega)) (hab := (by omega))) (va_cwS 4 hts gX3_mendOne_X3_between rfl rfl rfl (by decide +kernel) ⟨Nat.le_of_ble_eq_true rfl, Nat.le_of_ble_eq_true rfl⟩) ⟨kx_PRb, kx_pr hT hP [1] rfl⟩ rfl rfl hl.1 rfl (lv_room (Nat.le_of_ble_eq_true rfl)) dX3_mendOne_51 ⟨Nat.zero_le _, Nat.zero_le _⟩) (fun r_5 hw_6 => ?_)
            subst hw_6
            refine kx_dast hx hb hT hP hD hS 1 rfl i0 (by omega) (by omega) dX3_mendOne_54 (fun H locs hP hD hS => ?_)
            have hP : va_P G.1 vwCl [(h0, .inr (4, [.int (nI n), .ref h1, .ref h2, .ref h3, .ref h4, .ref h5, .int md])), (h1, kx_aD G n (vf_upd X i0 (kx_btw X i0 a b))), (h2, kx_aD G n Y), (h3, kx_aD G n R), (h4, kx_aD G n E), (h5, kx_aZ G n F)] H := hP
            have hD : va_D A [(h0, .inr (4, [.int (nI n), .ref h1, .ref h2, .ref h3, .ref h4, .ref h5, .int md])), (h1, kx_aD G n (vf_upd X i0 (kx_btw X i0 a b))), (h2, kx_aD G n Y), (h3, kx_aD G n R), (h4, kx_aD G n E), (h5, kx_aZ G n F)] := hD
            refine lv_aload_n hx hb dX3_mendOne_55 rfl (lv_at hl 2 rfl) ?_
            refine va_get (D := G.1) (ci := 4) (v := .ref h2) (C := RX3) (T := TX3) (N := 7) hx hb hts hin_X3 hown hT.1 hP 0 rfl rfl 2 (by decide) hf_19 (fun _ h9 => h9) rfl dX3_mendOne_56 ?_
            refine lv_iload_n hx hb dX3_mendOne_59 rfl (lv_at hl 3 rfl) ?_
            refine lv_aload_n hx hb dX3_mendOne_60 rfl (lv_at hl 2 rfl) ?_
            refine va_get (D := G.1) (ci := 4) (v := .ref h2) (C := RX3) (T := TX3) (N := 7) hx hb hts hin_X3 hown hT.1 hP 0 rfl rfl 2 (by decide) hf_19 (fun _ h9 => h9) rfl dX3_mendOne_61 ?_
            refine lv_iload_n hx hb dX3_mendOne_64 rfl (lv_at hl 3 rfl) ?_
            refine lv_iload hx hb dX3_mendOne_65 (lv_at hl 1 rfl) ?_
            refine lv_iload hx hb dX3_mendOne_67 (lv_at hl 0 rfl) ?_
            refine vp_callSd (W.runS (As := [.ref h2, .int (nI i0), .int (nI a), .int (nI b)]) (rest := [.int (nI i0), .ref h2]) ⟨hx, hb, hml, hown, hts⟩ (c_X3_between l G (h1 := h2) (n := n) (X := Y) (i := i0) (a := a) (b := b) (hb_X := (fun j9 => (hb_Y j9).mono (by decide))) (hn := (by omega)) (hi := (by omega)) (ha := (by omega)) (hb9 := (by omega)) (hab := (by omega))) (va_cwS 4 hts gX3_mendOne_X3_between rfl rfl rfl (by decide +kernel) ⟨Nat.le_of_ble_eq_true rfl, Nat.le_of_ble_eq_true rfl⟩) ⟨kx_PRb, kx_pr hT hP [2] rfl⟩ rfl rfl hl.1 rfl (lv_room (Nat.le_of_ble_eq_true rfl)) dX3_mendOne_69 ⟨Nat.zero_le _, Nat.zero_le _⟩) (fun r_7 hw_8 => ?_)
            subst hw_8
            refine kx_dast hx hb hT hP hD hS 2 rfl i0 (by omega) (by omega) dX3_mendOne_72 (fun H locs hP hD hS => ?_)
            have hP : va_P G.1 vwCl [(h0, .inr (4, [.int (nI n), .ref h1, .ref h2, .ref h3, .ref h4, .ref h5, .int md])), (h1, kx_aD G n (vf_upd X i0 (kx_btw X i0 a b))), (h2, kx_aD G n (vf_upd Y i0 (kx_btw Y i0 a b))), (h3, kx_aD G n R), (h4, kx_aD G n E), (h5, kx_aZ G n F)] H := hP
            have hD : va_D A [(h0, .inr (4, [.int (nI n), .ref h1, .ref h2, .ref h3, .ref h4, .ref h5, .int md])), (h1, kx_aD G n (vf_upd X i0 (kx_btw X i0 a b))), (h2, kx_aD G n (vf_upd Y i0 (kx_btw Y i0 a b))), (h3, kx_aD G n R), (h4, kx_aD G n E), (h5, kx_aZ G n F)] := hD
            refine lv_aload_n hx hb dX3_mendOne_73 rfl (lv_at hl 2 rfl) ?_
            refine va_get (D := G.1) (ci := 4) (v := .ref h3) (C := RX3) (T := TX3) (N := 7) hx hb hts hin_X3 hown hT.1 hP 0 rfl rfl 3 (by decide) hf_22 (fun _ h9 => h9) rfl dX3_mendOne_74 ?_
            refine lv_iload_n hx hb dX3_mendOne_77 rfl (lv_at hl 3 rfl) ?_
            refine lv_aload_n hx hb dX3_mendOne_78 rfl (lv_at hl 2 rfl) ?_
            refine va_get (D := G.1) (ci := 4) (v := .ref h3) (C := RX3) (T := TX3) (N := 7) hx hb hts hin_X3 hown hT.1 hP 0 rfl rfl 3 (by decide) hf_22 (fun _ h9 => h9) rfl dX3_mendOne_79 ?_
            refine lv_iload_n hx hb dX3_mendOne_82 rfl (lv_at hl 3 rfl) ?_
            refine lv_iload hx hb dX3_mendOne_83 (lv_at hl 1 rfl) ?_
            refine lv_iload hx hb dX3_mendOne_85 (lv_at hl 0 rfl) ?_
            refine vp_callSd (W.runS (As := [.ref h3, .int (nI i0), .int (nI a), .int (nI b)]) (rest := [.int (nI i0), .ref h3]) ⟨hx, hb, hml, hown, hts⟩ (c_X3_between l G (h1 := h3) (n := n) (X := R) (i := i0) (a := a) (b := b) (hb_X := hb_R) (hn := (by omega)) (hi := (by omega)) (ha := (by omega)) (hb9 := (by omega)) (hab := (by omega))) (va_cwS 4 hts gX3_mendOne_X3_between rfl rfl rfl (by decide +kernel) ⟨Nat.le_of_ble_eq_true rfl, Nat.le_of_ble_eq_true rfl⟩) ⟨kx_PRb, kx_pr hT hP [3] rfl⟩ rfl rfl hl.1 rfl (lv_room (Nat.le_of_ble_eq_true rfl)) dX3_mendOne_87 ⟨Nat.zero_le _, Nat.zero_le _⟩) (fun r_9 hw_10 => ?_)
            subst hw_10
            refine kx_dast hx hb hT hP hD hS 3 rfl i0 (by omega) (by omega) dX3_mendOne_90 (fun H locs hP hD hS => ?_)
            have hP : va_P G.1 vwCl [(h0, .inr (4, [.int (nI n), .ref h1, .ref h2, .ref h3, .ref h4, .ref h5, .int md])), (h1, kx_aD G n (vf_upd X i0 (kx_btw X i0 a b))), (h2, kx_aD G n (vf_upd Y i0 (kx_btw Y i0 a b))), (h3, kx_aD G n (vf_upd R i0 (kx_btw R i0 a b))), (h4, kx_aD G n E), (h5, kx_aZ G n F)] H := hP
            have hD : va_D A [(h0, .inr (4, [.int (nI n), .ref h1, .ref h2, .ref h3, .ref h4, .ref h5, .int md])), (h1, kx_aD G n (vf_upd X i0 (kx_btw X i0 a b))), (h2, kx_aD G n (vf_upd Y i0 (kx_btw Y i0 a b))), (h3, kx_aD G n (vf_upd R i0 (kx_btw R i0 a b))), (h4, kx_aD G n E), (h5, kx_aZ G n F)] := hD
            refine lv_aload_n hx hb dX3_mendOne_91 rfl (lv_at hl 2 rfl) ?_
            refine va_get (D := G.1) (ci := 4) (v := .ref h4) (C := RX3) (T := TX3) (N := 7) hx hb hts hin_X3 hown hT.1 hP 0 rfl rfl 4 (by decide) hf_25 (fun _ h9 => h9) rfl dX3_mendOne_92 ?_
            refine lv_iload_n hx hb dX3_mendOne_95 rfl (lv_at hl 3 rfl) ?_
            refine lv_dconst0 hx hb dX3_mendOne_96 ?_
            refine kx_dast hx hb hT hP hD hS 4 rfl i0 (by omega) (by omega) dX3_mendOne_97 (fun H locs hP hD hS => ?_)
            have hP : va_P G.1 vwCl [(h0, .inr (4, [.int (nI n), .ref h1, .ref h2, .ref h3, .ref h4, .ref h5, .int md])), (h1, kx_aD G n (vf_upd X i0 (kx_btw X i0 a b))), (h2, kx_aD G n (vf_upd Y i0 (kx_btw Y i0 a b))), (h3, kx_aD G n (vf_upd R i0 (kx_btw R i0 a b))), (h4, kx_aD G n (vf_upd E i0 FP.dconst0)), (h5, kx_aZ G n F)] H := hP
            have hD : va_D A [(h0, .inr (4, [.int (nI n), .ref h1, .ref h2, .ref h3, .ref h4, .ref h5, .int md])), (h1, kx_aD G n (vf_upd X i0 (kx_btw X i0 a b))), (h2, kx_aD G n (vf_upd Y i0 (kx_btw Y i0 a b))), (h3, kx_aD G n (vf_upd R i0 (kx_btw R i0 a b))), (h4, kx_aD G n (vf_upd E i0 FP.dconst0)), (h5, kx_aZ G n F)] := hD
            exact W.vret hx hb hr (fun t ht hW => ⟨⟨(), rfl, trivial, And.intro (by rw [ht]; exact hP) hD⟩, hS.F ht⟩) hS.2.2 dX3_mendOne_98
          · exact absurd c_4 (kx_nm1 (by omega))
      · exact absurd c_2 (kx_nm1 (by omega))
    · exact absurd c_1 (kx_nm1 (by omega))
  · subst e3
    subst e1
    subst e2
    refine lv_iload_n hx hb dX3_mendOne_0 rfl (lv_at hl 2 rfl) ?_
    refine lv_iconst (v := (-1)) hx hb dX3_mendOne_1 (by decide) ?_
    refine lv_icmp_ne (x := (-1)) (y := (-1)) (tgt := 9) hx hb dX3_mendOne_2 (by decide) (fun c_11 => ?_) (fun c_11 => ?_)
    · exact absurd rfl c_11
    · refine lv_iload_n hx hb dX3_mendOne_5 rfl (lv_at hl 3 rfl) ?_
      refine lv_goto (tgt := 10) hx hb dX3_mendOne_6 (by decide) ?_
      refine lv_istore (lv' := [(4, .int (nI a)), (0, .ref h0), (1, .int (nI i0)), (2, .int (-1)), (3, .int (nI a))]) hx hb dX3_mendOne_10 hl (by decide) rfl (fun ls hl => ?_)
      refine lv_iload_n hx hb dX3_mendOne_12 rfl (lv_at hl 4 rfl) ?_
      refine lv_iconst (v := (-1)) hx hb dX3_mendOne_13 (by decide) ?_
      refine lv_icmp_ne (x := nI a) (y := (-1)) (tgt := 21) hx hb dX3_mendOne_14 (by decide) (fun c_12 => ?_) (fun c_12 => ?_)
      · refine lv_iload_n hx hb dX3_mendOne_21 rfl (lv_at hl 4 rfl) ?_
        refine lv_istore (lv' := [(5, .int (nI a)), (4, .int (nI a)), (0, .ref h0), (1, .int (nI i0)), (2, .int (-1)), (3, .int (nI a))]) hx hb dX3_mendOne_22 hl (by decide) rfl (fun ls hl => ?_)
        refine lv_iload hx hb dX3_mendOne_24 (lv_at hl 1 rfl) ?_
        refine lv_iconst (v := (-1)) hx hb dX3_mendOne_26 (by decide) ?_
        refine lv_icmp_eq (x := nI a) (y := (-1)) (tgt := 36) hx hb dX3_mendOne_27 (by decide) (fun c_13 => ?_) (fun c_13 => ?_)
        · exact absurd c_13 (kx_nm1 (by omega))
        · refine lv_iload hx hb dX3_mendOne_30 (lv_at hl 0 rfl) ?_
          refine lv_iconst (v := (-1)) hx hb dX3_mendOne_32 (by decide) ?_
          refine lv_icmp_ne (x := nI a) (y := (-1)) (tgt := 37) hx hb dX3_mendOne_33 (by decide) (fun c_14 => ?_) (fun c_14 => ?_)
          · refine lv_aload_n hx hb dX3_mendOne_37 rfl (lv_at hl 2 rfl) ?_
            refine va_get (D := G.1) (ci := 4) (v := .ref h1) (C := RX3) (T := TX3) (N := 7) hx hb hts hin_X3 hown hT.1 hP 0 rfl rfl 1 (by decide) hf_15 (fun _ h9 => h9) rfl dX3_mendOne_38 ?_
            refine lv_iload_n hx hb dX3_mendOne_41 rfl (lv_at hl 3 rfl) ?_
            refine lv_aload_n hx hb dX3_mendOne_42 rfl (lv_at hl 2 rfl) ?_
            refine va_get (D := G.1) (ci := 4) (v := .ref h1) (C := RX3) (T := TX3) (N := 7) hx hb hts hin_X3 hown hT.1 hP 0 rfl rfl 1 (by decide) hf_15 (fun _ h9 => h9) rfl dX3_mendOne_43 ?_
            refine lv_iload_n hx hb dX3_mendOne_46 rfl (lv_at hl 3 rfl) ?_
            refine lv_iload hx hb dX3_mendOne_47 (lv_at hl 1 rfl) ?_
            refine lv_iload hx hb dX3_mendOne_49 (lv_at hl 0 rfl) ?_
            refine vp_callSd (W.runS (As := [.ref h1, .int (nI i0), .int (nI a), .int (nI a)]) (rest := [.int (nI i0), .ref h1]) ⟨hx, hb, hml, hown, hts⟩ (c_X3_between l G (h1 := h1) (n := n) (X := X) (i := i0) (a := a) (b := a) (hb_X := (fun j9 => (hb_X j9).mono (by decide))) (hn := (by omega)) (hi := (by omega)) (ha := (by omega)) (hb9 := (by omega)) (hab := (by omega))) (va_cwS 4 hts gX3_mendOne_X3_between rfl rfl rfl (by decide +kernel) ⟨Nat.le_of_ble_eq_true rfl, Nat.le_of_ble_eq_true rfl⟩) ⟨kx_PRb, kx_pr hT hP [1] rfl⟩ rfl rfl hl.1 rfl (lv_room (Nat.le_of_ble_eq_true rfl)) dX3_mendOne_51 ⟨Nat.zero_le _, Nat.zero_le _⟩) (fun r_15 hw_16 => ?_)
            subst hw_16
            refine kx_dast hx hb hT hP hD hS 1 rfl i0 (by omega) (by omega) dX3_mendOne_54 (fun H locs hP hD hS => ?_)
            have hP : va_P G.1 vwCl [(h0, .inr (4, [.int (nI n), .ref h1, .ref h2, .ref h3, .ref h4, .ref h5, .int md])), (h1, kx_aD G n (vf_upd X i0 (kx_btw X i0 a a))), (h2, kx_aD G n Y), (h3, kx_aD G n R), (h4, kx_aD G n E), (h5, kx_aZ G n F)] H := hP
            have hD : va_D A [(h0, .inr (4, [.int (nI n), .ref h1, .ref h2, .ref h3, .ref h4, .ref h5, .int md])), (h1, kx_aD G n (vf_upd X i0 (kx_btw X i0 a a))), (h2, kx_aD G n Y), (h3, kx_aD G n R), (h4, kx_aD G n E), (h5, kx_aZ G n F)] := hD
            refine lv_aload_n hx hb dX3_mendOne_55 rfl (lv_at hl 2 rfl) ?_
            refine va_get (D := G.1) (ci := 4) (v := .ref h2) (C := RX3) (T := TX3) (N := 7) hx hb hts hin_X3 hown hT.1 hP 0 rfl rfl 2 (by decide) hf_19 (fun _ h9 => h9) rfl dX3_mendOne_56 ?_
            refine lv_iload_n hx hb dX3_mendOne_59 rfl (lv_at hl 3 rfl) ?_
            refine lv_aload_n hx hb dX3_mendOne_60 rfl (lv_at hl 2 rfl) ?_
            refine va_get (D := G.1) (ci := 4) (v := .ref h2) (C := RX3) (T := TX3) (N := 7) hx hb hts hin_X3 hown hT.1 hP 0 rfl rfl 2 (by decide) hf_19 (fun _ h9 => h9) rfl dX3_mendOne_61 ?_
            refine lv_iload_n hx hb dX3_mendOne_64 rfl (lv_at hl 3 rfl) ?_
            refine lv_iload hx hb dX3_mendOne_65 (lv_at hl 1 rfl) ?_
            refine lv_iload hx hb dX3_mendOne_67 (lv_at hl 0 rfl) ?_
            refine vp_callSd (W.runS (As := [.ref h2, .int (nI i0), .int (nI a), .int (nI a)]) (rest := [.int (nI i0), .ref h2]) ⟨hx, hb, hml, hown, hts⟩ (c_X3_between l G (h1 := h2) (n := n) (X := Y) (i := i0) (a := a) (b := a) (hb_X := (fun j9 => (hb_Y j9).mono (by decide))) (hn := (by omega)) (hi := (by omega)) (ha := (by omega)) (hb9 := (by omega)) (hab := (by omega))) (va_cwS 4 hts gX3_mendOne_X3_between rfl rfl rfl (by decide +kernel) ⟨Nat.le_of_ble_eq_true rfl, Nat.le_of_ble_eq_true rfl⟩) ⟨kx_PRb, kx_pr hT hP [2] rfl⟩ rfl rfl hl.1 rfl (lv_room (Nat.le_of_ble_eq_true rfl)) dX3_mendOne_69 ⟨Nat.zero_le _, Nat.zero_le _⟩) (fun r_17 hw_18 => ?_)
            subst hw_18
            refine kx_dast hx hb hT hP hD hS 2 rfl i0 (by omega) (by omega) dX3_mendOne_72 (fun H locs hP hD hS => ?_)
            have hP : va_P G.1 vwCl [(h0, .inr (4, [.int (nI n), .ref h1, .ref h2, .ref h3, .ref h4, .ref h5, .int md])), (h1, kx_aD G n (vf_upd X i0 (kx_btw X i0 a a))), (h2, kx_aD G n (vf_upd Y i0 (kx_btw Y i0 a a))), (h3, kx_aD G n R), (h4, kx_aD G n E), (h5, kx_aZ G n F)] H := hP
            have hD : va_D A [(h0, .inr (4, [.int (nI n), .ref h1, .ref h2, .ref h3, .ref h4, .ref h5, .int md])), (h1, kx_aD G n (vf_upd X i0 (kx_btw X i0 a a))), (h2, kx_aD G n (vf_upd Y i0 (kx_btw Y i0 a a))), (h3, kx_aD G n R), (h4, kx_aD G n E), (h5, kx_aZ G n F)] := hD
            refine lv_aload_n hx hb dX3_mendOne_73 rfl (lv_at hl 2 rfl) ?_
            refine va_get (D := G.1) (ci := 4) (v := .ref h3) (C := RX3) (T := TX3) (N := 7) hx hb hts hin_X3 hown hT.1 hP 0 rfl rfl 3 (by decide) hf_22 (fun _ h9 => h9) rfl dX3_mendOne_74 ?_
            refine lv_iload_n hx hb dX3_mendOne_77 rfl (lv_at hl 3 rfl) ?_
            refine lv_aload_n hx hb dX3_mendOne_78 rfl (lv_at hl 2 rfl) ?_
            refine va_get (D := G.1) (ci := 4) (v := .ref h3) (C := RX3) (T := TX3) (N := 7) hx hb hts hin_X3 hown hT.1 hP 0 rfl rfl 3 (by decide) hf_22 (fun _ h9 => h9) rfl dX3_mendOne_79 ?_
            refine lv_iload_n hx hb dX3_mendOne_82 rfl (lv_at hl 3 rfl) ?_
            refine lv_iload hx hb dX3_mendOne_83 (lv_at hl 1 rfl) ?_
            refine lv_iload hx hb dX3_mendOne_85 (lv_at hl 0 rfl) ?_
            refine vp_callSd (W.runS (As := [.ref h3, .int (nI i0), .int (nI a), .int (nI a)]) (rest := [.int (nI i0), .ref h3]) ⟨hx, hb, hml, hown, hts⟩ (c_X3_between l G (h1 := h3) (n := n) (X := R) (i := i0) (a := a) (b := a) (hb_X := hb_R) (hn := (by omega)) (hi := (by omega)) (ha := (by omega)) (hb9 := (by omega)) (hab := (by omega))) (va_cwS 4 hts gX3_mendOne_X3_between rfl rfl rfl (by decide +kernel) ⟨Nat.le_of_ble_eq_true rfl, Nat.le_of_ble_eq_true rfl⟩) ⟨kx_PRb, kx_pr hT hP [3] rfl⟩ rfl rfl hl.1 rfl (lv_room (Nat.le_of_ble_eq_true rfl)) dX3_mendOne_87 ⟨Nat.zero_le _, Nat.zero_le _⟩) (fun r_19 hw_20 => ?_)
            subst hw_20
            refine kx_dast hx hb hT hP hD hS 3 rfl i0 (by omega) (by omega) dX3_mendOne_90 (fun H locs hP hD hS => ?_)
            have hP : va_P G.1 vwCl [(h0, .inr (4, [.int (nI n), .ref h1, .ref h2, .ref h3, .ref h4, .ref h5, .int md])), (h1, kx_aD G n (vf_upd X i0 (kx_btw X i0 a a))), (h2, kx_aD G n (vf_upd Y i0 (kx_btw Y i0 a a))), (h3, kx_aD G n (vf_upd R i0 (kx_btw R i0 a a))), (h4, kx_aD G n E), (h5, kx_aZ G n F)] H := hP
            have hD : va_D A [(h0, .inr (4, [.int (nI n), .ref h1, .ref h2, .ref h3, .ref h4, .ref h5, .int md])), (h1, kx_aD G n (vf_upd X i0 (kx_btw X i0 a a))), (h2, kx_aD G n (vf_upd Y i0 (kx_btw Y i0 a a))), (h3, kx_aD G n (vf_upd R i0 (kx_btw R i0 a a))), (h4, kx_aD G n E), (h5, kx_aZ G n F)] := hD
            refine lv_aload_n hx hb dX3_mendOne_91 rfl (lv_at hl 2 rfl) ?_
            refine va_get (D := G.1) (ci := 4) (v := .ref h4) (C := RX3) (T := TX3) (N := 7) hx hb hts hin_X3 hown hT.1 hP 0 rfl rfl 4 (by decide) hf_25 (fun _ h9 => h9) rfl dX3_mendOne_92 ?_
            refine lv_iload_n hx hb dX3_mendOne_95 rfl (lv_at hl 3 rfl) ?_
            refine lv_dconst0 hx hb dX3_mendOne_96 ?_
            refine kx_dast hx hb hT hP hD hS 4 rfl i0 (by omega) (by omega) dX3_mendOne_97 (fun H locs hP hD hS => ?_)
            have hP : va_P G.1 vwCl [(h0, .inr (4, [.int (nI n), .ref h1, .ref h2, .ref h3, .ref h4, .ref h5, .int md])), (h1, kx_aD G n (vf_upd X i0 (kx_btw X i0 a a))), (h2, kx_aD G n (vf_upd Y i0 (kx_btw Y i0 a a))), (h3, kx_aD G n (vf_upd R i0 (kx_btw R i0 a a))), (h4, kx_aD G n (vf_upd E i0 FP.dconst0)), (h5, kx_aZ G n F)] H := hP
            have hD : va_D A [(h0, .inr (4, [.int (nI n), .ref h1, .ref h2, .ref h3, .ref h4, .ref h5, .int md])), (h1, kx_aD G n (vf_upd X i0 (kx_btw X i0 a a))), (h2, kx_aD G n (vf_upd Y i0 (kx_btw Y i0 a a))), (h3, kx_aD G n (vf_upd R i0 (kx_btw R i0 a a))), (h4, kx_aD G n (vf_upd E i0 FP.dconst0)), (h5, kx_aZ G n F)] := hD
            exact W.vret hx hb hr (fun t ht hW => ⟨⟨(), rfl, trivial, And.intro (by rw [ht]; exact hP) hD⟩, hS.F ht⟩) hS.2.2 dX3_mendOne_98
          · exact absurd c_14 (kx_nm1 (by omega))
      · exact absurd c_12 (kx_nm1 (by omega))
  · subst e3
    subst e1
    subst e2
    refine lv_iload_n hx hb dX3_mendOne_0 rfl (lv_at hl 2 rfl) ?_
    refine lv_iconst (v := (-1)) hx hb dX3_mendOne_1 (by decide) ?_
    refine lv_icmp_ne (x := nI a) (y := (-1)) (tgt := 9) hx hb dX3_mendOne_2 (by decide) (fun c_21 => ?_) (fun c_21 => ?_)
    · refine lv_iload_n hx hb dX3_mendOne_9 rfl (lv_at hl 2 rfl) ?_
      refine lv_istore (lv' := [(4, .int (nI a)), (0, .ref h0), (1, .int (nI i0)), (2, .int (nI a)), (3, .int (-1))]) hx hb dX3_mendOne_10 hl (by decide) rfl (fun ls hl => ?_)
      refine lv_iload_n hx hb dX3_mendOne_12 rfl (lv_at hl 4 rfl) ?_
      refine lv_iconst (v := (-1)) hx hb dX3_mendOne_13 (by decide) ?_
      refine lv_icmp_ne (x := (-1)) (y := (-1)) (tgt := 21) hx hb dX3_mendOne_14 (by decide) (fun c_22 => ?_) (fun c_22 => ?_)
      · exact absurd rfl c_22
      · refine lv_iload_n hx hb dX3_mendOne_17 rfl (lv_at hl 3 rfl) ?_
        refine lv_goto (tgt := 22) hx hb dX3_mendOne_18 (by decide) ?_
        refine lv_istore (lv' := [(5, .int (nI a)), (4, .int (nI a)), (0, .ref h0), (1, .int (nI i0)), (2, .int (nI a)), (3, .int (-1))]) hx hb dX3_mendOne_22 hl (by decide) rfl (fun ls hl => ?_)
        refine lv_iload hx hb dX3_mendOne_24 (lv_at hl 1 rfl) ?_
        refine lv_iconst (v := (-1)) hx hb dX3_mendOne_26 (by decide) ?_
        refine lv_icmp_eq (x := nI a) (y := (-1)) (tgt := 36) hx hb dX3_mendOne_27 (by decide) (fun c_23 => ?_) (fun c_23 => ?_)
        · exact absurd c_23 (kx_nm1 (by omega))
        · refine lv_iload hx hb dX3_mendOne_30 (lv_at hl 0 rfl) ?_
          refine lv_iconst (v := (-1)) hx hb dX3_mendOne_32 (by decide) ?_
          refine lv_icmp_ne (x := nI a) (y := (-1)) (tgt := 37) hx hb dX3_mendOne_33 (by decide) (fun c_24 => ?_) (fun c_24 => ?_)
          · refine lv_aload_n hx hb dX3_mendOne_37 rfl (lv_at hl 2 rfl) ?_
            refine va_get (D := G.1) (ci := 4) (v := .ref h1) (C := RX3) (T := TX3) (N := 7) hx hb hts hin_X3 hown hT.1 hP 0 rfl rfl 1 (by decide) hf_15 (fun _ h9 => h9) rfl dX3_mendOne_38 ?_
            refine lv_iload_n hx hb dX3_mendOne_41 rfl (lv_at hl 3 rfl) ?_
            refine lv_aload_n hx hb dX3_mendOne_42 rfl (lv_at hl 2 rfl) ?_
            refine va_get (D := G.1) (ci := 4) (v := .ref h1) (C := RX3) (T := TX3) (N := 7) hx hb hts hin_X3 hown hT.1 hP 0 rfl rfl 1 (by decide) hf_15 (fun _ h9 => h9) rfl dX3_mendOne_43 ?_
            refine lv_iload_n hx hb dX3_mendOne_46 rfl (lv_at hl 3 rfl) ?_
            refine lv_iload hx hb dX3_mendOne_47 (lv_at hl 1 rfl) ?_
            refine lv_iload hx hb dX3_mendOne_49 (lv_at hl 0 rfl) ?_
            refine vp_callSd (W.runS (As := [.ref h1, .int (nI i0), .int (nI a), .int (nI a)]) (rest := [.int (nI i0), .ref h1]) ⟨hx, hb, hml, hown, hts⟩ (c_X3_between l G (h1 := h1) (n := n) (X := X) (i := i0) (a := a) (b := a) (hb_X := (fun j9 => (hb_X j9).mono (by decide))) (hn := (by omega)) (hi := (by omega)) (ha := (by omega)) (hb9 := (by omega)) (hab := (by omega))) (va_cwS 4 hts gX3_mendOne_X3_between rfl rfl rfl (by decide +kernel) ⟨Nat.le_of_ble_eq_true rfl, Nat.le_of_ble_eq_true rfl⟩) ⟨kx_PRb, kx_pr hT hP [1] rfl⟩ rfl rfl hl.1 rfl (lv_room (Nat.le_of_ble_eq_true rfl)) dX3_mendOne_51 ⟨Nat.zero_le _, Nat.zero_le _⟩) (fun r_25 hw_26 => ?_)
            subst hw_26
            refine kx_dast hx hb hT hP hD hS 1 rfl i0 (by omega) (by omega) dX3_mendOne_54 (fun H locs hP hD hS => ?_)
            have hP : va_P G.1 vwCl [(h0, .inr (4, [.int (nI n), .ref h1, .ref h2, .ref h3, .ref h4, .ref h5, .int md])), (h1, kx_aD G n (vf_upd X i0 (kx_btw X i0 a a))), (h2, kx_aD G n Y), (h3, kx_aD G n R), (h4, kx_aD G n E), (h5, kx_aZ G n F)] H := hP
            have hD : va_D A [(h0, .inr (4, [.int (nI n), .ref h1, .ref h2, .ref h3, .ref h4, .ref h5, .int md])), (h1, kx_aD G n (vf_upd X i0 (kx_btw X i0 a a))), (h2, kx_aD G n Y), (h3, kx_aD G n R), (h4, kx_aD G n E), (h5, kx_aZ G n F)] := hD
            refine lv_aload_n hx hb dX3_mendOne_55 rfl (lv_at hl 2 rfl) ?_
            refine va_get (D := G.1) (ci := 4) (v := .ref h2) (C := RX3) (T := TX3) (N := 7) hx hb hts hin_X3 hown hT.1 hP 0 rfl rfl 2 (by decide) hf_19 (fun _ h9 => h9) rfl dX3_mendOne_56 ?_
            refine lv_iload_n hx hb dX3_mendOne_59 rfl (lv_at hl 3 rfl) ?_
            refine lv_aload_n hx hb dX3_mendOne_60 rfl (lv_at hl 2 rfl) ?_
            refine va_get (D := G.1) (ci := 4) (v := .ref h2) (C := RX3) (T := TX3) (N := 7) hx hb hts hin_X3 hown hT.1 hP 0 rfl rfl 2 (by decide) hf_19 (fun _ h9 => h9) rfl dX3_mendOne_61 ?_
            refine lv_iload_n hx hb dX3_mendOne_64 rfl (lv_at hl 3 rfl) ?_
            refine lv_iload hx hb dX3_mendOne_65 (lv_at hl 1 rfl) ?_
            refine lv_iload hx hb dX3_mendOne_67 (lv_at hl 0 rfl) ?_
            refine vp_callSd (W.runS (As := [.ref h2, .int (nI i0), .int (nI a), .int (nI a)]) (rest := [.int (nI i0), .ref h2]) ⟨hx, hb, hml, hown, hts⟩ (c_X3_between l G (h1 := h2) (n := n) (X := Y) (i := i0) (a := a) (b := a) (hb_X := (fun j9 => (hb_Y j9).mono (by decide))) (hn := (by omega)) (hi := (by omega)) (ha := (by omega)) (hb9 := (by omega)) (hab := (by omega))) (va_cwS 4 hts gX3_mendOne_X3_between rfl rfl rfl (by decide +kernel) ⟨Nat.le_of_ble_eq_true rfl, Nat.le_of_ble_eq_true rfl⟩) ⟨kx_PRb, kx_pr hT hP [2] rfl⟩ rfl rfl hl.1 rfl (lv_room (Nat.le_of_ble_eq_true rfl)) dX3_mendOne_69 ⟨Nat.zero_le _, Nat.zero_le _⟩) (fun r_27 hw_28 => ?_)
            subst hw_28
            refine kx_dast hx hb hT hP hD hS 2 rfl i0 (by omega) (by omega) dX3_mendOne_72 (fun H locs hP hD hS => ?_)
            have hP : va_P G.1 vwCl [(h0, .inr (4, [.int (nI n), .ref h1, .ref h2, .ref h3, .ref h4, .ref h5, .int md])), (h1, kx_aD G n (vf_upd X i0 (kx_btw X i0 a a))), (h2, kx_aD G n (vf_upd Y i0 (kx_btw Y i0 a a))), (h3, kx_aD G n R), (h4, kx_aD G n E), (h5, kx_aZ G n F)] H := hP
            have hD : va_D A [(h0, .inr (4, [.int (nI n), .ref h1, .ref h2, .ref h3, .ref h4, .ref h5, .int md])), (h1, kx_aD G n (vf_upd X i0 (kx_btw X i0 a a))), (h2, kx_aD G n (vf_upd Y i0 (kx_btw Y i0 a a))), (h3, kx_aD G n R), (h4, kx_aD G n E), (h5, kx_aZ G n F)] := hD
            refine lv_aload_n hx hb dX3_mendOne_73 rfl (lv_at hl 2 rfl) ?_
            refine va_get (D := G.1) (ci := 4) (v := .ref h3) (C := RX3) (T := TX3) (N := 7) hx hb hts hin_X3 hown hT.1 hP 0 rfl rfl 3 (by decide) hf_22 (fun _ h9 => h9) rfl dX3_mendOne_74 ?_
            refine lv_iload_n hx hb dX3_mendOne_77 rfl (lv_at hl 3 rfl) ?_
            refine lv_aload_n hx hb dX3_mendOne_78 rfl (lv_at hl 2 rfl) ?_
            refine va_get (D := G.1) (ci := 4) (v := .ref h3) (C := RX3) (T := TX3) (N := 7) hx hb hts hin_X3 hown hT.1 hP 0 rfl rfl 3 (by decide) hf_22 (fun _ h9 => h9) rfl dX3_mendOne_79 ?_
            refine lv_iload_n hx hb dX3_mendOne_82 rfl (lv_at hl 3 rfl) ?_
            refine lv_iload hx hb dX3_mendOne_83 (lv_at hl 1 rfl) ?_
            refine lv_iload hx hb dX3_mendOne_85 (lv_at hl 0 rfl) ?_
            refine vp_callSd (W.runS (As := [.ref h3, .int (nI i0), .int (nI a), .int (nI a)]) (rest := [.int (nI i0), .ref h3]) ⟨hx, hb, hml, hown, hts⟩ (c_X3_between l G (h1 := h3) (n := n) (X := R) (i := i0) (a := a) (b := a) (hb_X := hb_R) (hn := (by omega)) (hi := (by omega)) (ha := (by omega)) (hb9 := (by omega)) (hab := (by omega))) (va_cwS 4 hts gX3_mendOne_X3_between rfl rfl rfl (by decide +kernel) ⟨Nat.le_of_ble_eq_true rfl, Nat.le_of_ble_eq_true rfl⟩) ⟨kx_PRb, kx_pr hT hP [3] rfl⟩ rfl rfl hl.1 rfl (lv_room (Nat.le_of_ble_eq_true rfl)) dX3_mendOne_87 ⟨Nat.zero_le _, Nat.zero_le _⟩) (fun r_29 hw_30 => ?_)
            subst hw_30
            refine kx_dast hx hb hT hP hD hS 3 rfl i0 (by omega) (by omega) dX3_mendOne_90 (fun H locs hP hD hS => ?_)
            have hP : va_P G.1 vwCl [(h0, .inr (4, [.int (nI n), .ref h1, .ref h2, .ref h3, .ref h4, .ref h5, .int md])), (h1, kx_aD G n (vf_upd X i0 (kx_btw X i0 a a))), (h2, kx_aD G n (vf_upd Y i0 (kx_btw Y i0 a a))), (h3, kx_aD G n (vf_upd R i0 (kx_btw R i0 a a))), (h4, kx_aD G n E), (h5, kx_aZ G n F)] H := hP
            have hD : va_D A [(h0, .inr (4, [.int (nI n), .ref h1, .ref h2, .ref h3, .ref h4, .ref h5, .int md])), (h1, kx_aD G n (vf_upd X i0 (kx_btw X i0 a a))), (h2, kx_aD G n (vf_upd Y i0 (kx_btw Y i0 a a))), (h3, kx_aD G n (vf_upd R i0 (kx_btw R i0 a a))), (h4, kx_aD G n E), (h5, kx_aZ G n F)] := hD
            refine lv_aload_n hx hb dX3_mendOne_91 rfl (lv_at hl 2 rfl) ?_
            refine va_get (D := G.1) (ci := 4) (v := .ref h4) (C := RX3) (T := TX3) (N := 7) hx hb hts hin_X3 hown hT.1 hP 0 rfl rfl 4 (by decide) hf_25 (fun _ h9 => h9) rfl dX3_mendOne_92 ?_
            refine lv_iload_n hx hb dX3_mendOne_95 rfl (lv_at hl 3 rfl) ?_
            refine lv_dconst0 hx hb dX3_mendOne_96 ?_
            refine kx_dast hx hb hT hP hD hS 4 rfl i0 (by omega) (by omega) dX3_mendOne_97 (fun H locs hP hD hS => ?_)
            have hP : va_P G.1 vwCl [(h0, .inr (4, [.int (nI n), .ref h1, .ref h2, .ref h3, .ref h4, .ref h5, .int md])), (h1, kx_aD G n (vf_upd X i0 (kx_btw X i0 a a))), (h2, kx_aD G n (vf_upd Y i0 (kx_btw Y i0 a a))), (h3, kx_aD G n (vf_upd R i0 (kx_btw R i0 a a))), (h4, kx_aD G n (vf_upd E i0 FP.dconst0)), (h5, kx_aZ G n F)] H := hP
            have hD : va_D A [(h0, .inr (4, [.int (nI n), .ref h1, .ref h2, .ref h3, .ref h4, .ref h5, .int md])), (h1, kx_aD G n (vf_upd X i0 (kx_btw X i0 a a))), (h2, kx_aD G n (vf_upd Y i0 (kx_btw Y i0 a a))), (h3, kx_aD G n (vf_upd R i0 (kx_btw R i0 a a))), (h4, kx_aD G n (vf_upd E i0 FP.dconst0)), (h5, kx_aZ G n F)] := hD
            exact W.vret hx hb hr (fun t ht hW => ⟨⟨(), rfl, trivial, And.intro (by rw [ht]; exact hP) hD⟩, hS.F ht⟩) hS.2.2 dX3_mendOne_98
          · exact absurd c_24 (kx_nm1 (by omega))
    · exact absurd c_21 (kx_nm1 (by omega))
set_option maxHeartbeats 4000000 in
set_option maxRecDepth 100000 in
/-- MENDED: all slices -/
theorem c_X3_mendAll (l : Launch) (G : kx_G) (sz : Nat) (h0 : Nat) (h1 : Nat) (h2 : Nat) (h3 : Nat) (h4 : Nat) (h5 : Nat) (n : Nat) (X : Nat → UInt64) (Y : Nat → UInt64) (R : Nat → UInt64) (E : Nat → UInt64) (F : Nat → Int32) (md : Int32) (hb_X : ∀ j, fx_bd 130 (X j)) (hb_Y : ∀ j, fx_bd 130 (Y j)) (hb_R : ∀ j, fx_bd 140 (R j)) (hb_E : ∀ j, fx_bd 220 (E j)) (hn1 : 1 ≤ n) (hn : n ≤ 16) (he : ∃ j, j < n ∧ F j ≠ 0) (hF_X : ∀ j, j < n → F j ≠ 0 → fx_bd 90 (X j)) (hF_Y : ∀ j, j < n → F j ≠ 0 → fx_bd 90 (Y j)) (hF_R : ∀ j, j < n → F j ≠ 0 → fx_bd 95 (R j)) : Met l yX3_mendAll wsX3_mendAll ({ frames := 2, cells := 0, slots := 0, locals := 48 } : Room) (kx_PM G [.ref h0] sz [(h0, .inr (4, [.int (nI n), .ref h1, .ref h2, .ref h3, .ref h4, .ref h5, .int md])), (h1, kx_aD G n X), (h2, kx_aD G n Y), (h3, kx_aD G n R), (h4, kx_aD G n E), (h5, kx_aZ G n F)]) (va_Qv (fun (_ : Unit) => True) (kx_B G (va_A [(h0, .inr (4, [.int (nI n), .ref h1, .ref h2, .ref h3, .ref h4, .ref h5, .int md])), (h1, kx_aD G n X), (h2, kx_aD G n Y), (h3, kx_aD G n R), (h4, kx_aD G n E), (h5, kx_aZ G n F)] sz) (fun u : Unit => [(h0, .inr (4, [.int (nI n), .ref h1, .ref h2, .ref h3, .ref h4, .ref h5, .int md])), (h1, kx_aD G n (kx_mp F X n n)), (h2, kx_aD G n (kx_mp F Y n n)), (h3, kx_aD G n (kx_mp F R n n)), (h4, kx_aD G n (kx_ep F E n)), (h5, kx_aZ G n F)])) (va_A [(h0, .inr (4, [.int (nI n), .ref h1, .ref h2, .ref h3, .ref h4, .ref h5, .int md])), (h1, kx_aD G n X), (h2, kx_aD G n Y), (h3, kx_aD G n R), (h4, kx_aD G n E), (h5, kx_aZ G n F)] sz)) 0 0 (va_A [(h0, .inr (4, [.int (nI n), .ref h1, .ref h2, .ref h3, .ref h4, .ref h5, .int md])), (h1, kx_aD G n X), (h2, kx_aD G n Y), (h3, kx_aD G n R), (h4, kx_aD G n E), (h5, kx_aZ G n F)] sz) := by
  refine Met.ofW (cc := cX3_mendAll) (maxL := 2) (ret := none) (by decide) rfl ?_
  intro p e s m args below meth c s₁ B hml hv
  obtain ⟨rfl, hsz, hP, hT, hD0⟩ := hv
  have hx := B.exec
  have hb := B.bytes
  have hr := B.returns
  have hts := atoms_spec (ws := wsX3_mendAll) B.pre
  have hown : s.vm.findClass RX3 = some m.cls := findClass_of_methodNamed B.named
  have hlocks := B.notSynchronized
  have hf_9 := hts (.fieldLink RX3 9 "StemShapes$Stem" "slices" "I") (by decide +kernel)
  have hin_X3 : ∀ w ∈ wsX30, w ∈ wsX3_mendAll := by decide +kernel
  have hf_28 := hts (.fieldLink RX3 28 "StemShapes$Stem" "isFitted" "[Z") (by decide +kernel)
  subst hsz
  have hD := hD0.self (sz := s.heap.size)
  generalize hAe : va_A [(h0, .inr (4, [.int (nI n), .ref h1, .ref h2, .ref h3, .ref h4, .ref h5, .int md])), (h1, kx_aD G n X), (h2, kx_aD G n Y), (h3, kx_aD G n R), (h4, kx_aD G n E), (h5, kx_aZ G n F)] s.heap.size = A at hD ⊢
  have hA : ∀ q : Nat, s.heap.size ≤ q → A q := fun q h => by rw [← hAe]; exact Or.inr h
  have hS : va_S A s.heap s.heap [] := va_S.rf
  have hl := lv_entry ([.ref h0]) (n := 2) (Nat.le_of_ble_eq_true rfl)
  rw [lg_entry_eq]
  generalize (lg_sl ([.ref h0]) ++ List.replicate (2 - (lg_sl ([.ref h0])).length) Slot.unset).toArray = ls at hl ⊢
  have hl : lv_has ls 2 [(0, .ref h0)] := hl
  refine lv_iconst (v := 0) hx hb dX3_mendAll_0 (by decide) ?_
  refine lv_istore_n (lv' := [(1, .int 0), (0, .ref h0)]) hx hb dX3_mendAll_1 rfl hl (by decide) rfl (fun ls hl => ?_)
  have loop_2 : ∀ (k i : Nat) (X1 : Nat → UInt64) (Y1 : Nat → UInt64) (R1 : Nat → UInt64) (E1 : Nat → UInt64), i + k = n → X1 = kx_mp F X n i → Y1 = kx_mp F Y n i → R1 = kx_mp F R n i → E1 = kx_ep F E i → ∀ (H : Heap) (locs : List Loc), va_P G.1 vwCl [(h0, .inr (4, [.int (nI n), .ref h1, .ref h2, .ref h3, .ref h4, .ref h5, .int md])), (h1, kx_aD G n X1), (h2, kx_aD G n Y1), (h3, kx_aD G n R1), (h4, kx_aD G n E1), (h5, kx_aZ G n F)] H → va_D A [(h0, .inr (4, [.int (nI n), .ref h1, .ref h2, .ref h3, .ref h4, .ref h5, .int md])), (h1, kx_aD G n X1), (h2, kx_aD G n Y1), (h3, kx_aD G n R1), (h4, kx_aD G n E1), (h5, kx_aZ G n F)] → va_S A s.heap H locs → ∀ ls : Array Slot, lv_has ls 2 [(1, .int (nI i)), (0, .ref h0)] → W p l e (headSpec wsX3_mendAll ({ frames := 2, cells := 0, slots := 0, locals := 48 } : Room)).room s m [.ref h0].toArray below meth c H locs 0 0 (MQ below (va_Qv (fun (_ : Unit) => True) (kx_B G A (fun u : Unit => [(h0, .inr (4, [.int (nI n), .ref h1, .ref h2, .ref h3, .ref h4, .ref h5, .int md])), (h1, kx_aD G n (kx_mp F X n n)), (h2, kx_aD G n (kx_mp F Y n n)), (h3, kx_aD G n (kx_mp F R n n)), (h4, kx_aD G n (kx_ep F E n)), (h5, kx_aZ G n F)])) A) [.ref h0].toArray s 0 0 A) (F0 m 2 ls []) := by
    intro k
    induction k with
    | zero =>
      intro i X1 Y1 R1 E1 htot e_X1 e_Y1 e_R1 e_E1 H locs hP hD hS ls hl
      subst e_X1
      subst e_Y1
      subst e_R1
      subst e_E1
      refine lv_iload_n hx hb dX3_mendAll_2 rfl (lv_at hl 0 rfl) ?_
      refine lv_aload_n hx hb dX3_mendAll_3 rfl (lv_at hl 1 rfl) ?_
      refine va_get (D := G.1) (ci := 4) (v := .int (nI n)) (C := RX3) (T := TX3) (N := 7) hx hb hts hin_X3 hown hT.1 hP 0 rfl rfl 0 (by decide) hf_9 (fun _ h9 => h9) rfl dX3_mendAll_4 ?_
      refine lv_icmp_ge (x := nI i) (y := nI n) (tgt := 40) hx hb dX3_mendAll_7 (by decide) (fun c_1 => ?_) (fun c_1 => ?_)
      · have c_1 : n ≤ i := (nI_leI (a := n) (b := i) (by omega) (by omega)).mp c_1
        have hin9 : i = n := by omega
        rw [hin9] at hP hD
        exact W.vret hx hb hr (fun t ht hW => ⟨⟨(), rfl, trivial, And.intro (by rw [ht]; exact hP) hD⟩, hS.F ht⟩) hS.2.2 dX3_mendAll_40
      · have c_1 : ¬ n ≤ i := fun q => c_1 ((nI_leI (a := n) (b := i) (by omega) (by omega)).mpr q)
        exfalso; omega
    | succ k ih =>
      intro i X1 Y1 R1 E1 htot e_X1 e_Y1 e_R1 e_E1 H locs hP hD hS ls hl
      subst e_X1
      subst e_Y1
      subst e_R1
      subst e_E1
      refine lv_iload_n hx hb dX3_mendAll_2 rfl (lv_at hl 0 rfl) ?_
      refine lv_aload_n hx hb dX3_mendAll_3 rfl (lv_at hl 1 rfl) ?_
      refine va_get (D := G.1) (ci := 4) (v := .int (nI n)) (C := RX3) (T := TX3) (N := 7) hx hb hts hin_X3 hown hT.1 hP 0 rfl rfl 0 (by decide) hf_9 (fun _ h9 => h9) rfl dX3_mendAll_4 ?_
      refine lv_icmp_ge (x := nI i) (y := nI n) (tgt := 40) hx hb dX3_mendAll_7 (by decide) (fun c_2 => ?_) (fun c_2 => ?_)
      · have c_2 : n ≤ i := (nI_leI (a := n) (b := i) (by omega) (by omega)).mp c_2
        exfalso; omega
      · have c_2 : ¬ n ≤ i := fun q => c_2 ((nI_leI (a := n) (b := i) (by omega) (by omega)).mpr q)
        refine lv_aload_n hx hb dX3_mendAll_10 rfl (lv_at hl 1 rfl) ?_
        refine va_get (D := G.1) (ci := 4) (v := .ref h5) (C := RX3) (T := TX3) (N := 7) hx hb hts hin_X3 hown hT.1 hP 0 rfl rfl 5 (by decide) hf_28 (fun _ h9 => h9) rfl dX3_mendAll_11 ?_
        refine lv_iload_n hx hb dX3_mendAll_14 rfl (lv_at hl 0 rfl) ?_
        refine kx_zald hx hb hT hP 5 rfl i (by omega) (by omega) dX3_mendAll_15 ?_
        refine lv_if_ne (x := F i) (tgt := 34) hx hb dX3_mendAll_16 (by decide) (fun c_3 => ?_) (fun c_3 => ?_)
        · refine lv_iinc (v := nI (i + 1)) (lv' := [(1, .int (nI (i + 1))), (0, .ref h0)]) hx hb dX3_mendAll_34 hl (k := 0) rfl (by show _ + 1 = _; exact nI_1 _) (by decide) rfl (fun ls hl => ?_)
          refine lv_goto (tgt := 2) hx hb dX3_mendAll_37 (by decide) ?_
          exact ih (i + 1) _ _ _ _ (by omega) (kx_mp_f c_3) (kx_mp_f c_3) (kx_mp_f c_3) (kx_ep_f c_3) _ _ hP hD hS _ (lv_sub hl [0, 1] rfl)
        · have hsl := kx_sel_of hn (by omega) c_3 he
          refine lv_aload_n hx hb dX3_mendAll_19 rfl (lv_at hl 1 rfl) ?_
          refine lv_iload_n hx hb dX3_mendAll_20 rfl (lv_at hl 0 rfl) ?_
          refine lv_aload_n hx hb dX3_mendAll_21 rfl (lv_at hl 1 rfl) ?_
          refine lv_iload_n hx hb dX3_mendAll_22 rfl (lv_at hl 0 rfl) ?_
          refine vp_callSi (W.runV (As := [.int (nI i)]) (rest := [.int (nI i), .ref h0]) ⟨hx, hb, hml, hown, hts⟩ (c_X3_fittedBefore l G (h0 := h0) (h1 := h1) (h2 := h2) (h3 := h3) (h4 := h4) (h5 := h5) (n := n) (X := kx_mp F X n i) (Y := kx_mp F Y n i) (R := kx_mp F R n i) (E := kx_ep F E i) (F := F) (md := md) (i0 := i) (hb_X := (kx_mp_bd hb_X hF_X hn he (by omega) (by omega) (by omega))) (hb_Y := (kx_mp_bd hb_Y hF_Y hn he (by omega) (by omega) (by omega))) (hb_R := (kx_mp_bd hb_R hF_R hn he (by omega) (by omega) (by omega))) (hb_E := (kx_ep_bd hb_E)) (hn1 := (by omega)) (hn := (by omega)) (hi := (by omega))) (cwV 1 hts gX3_mendAll_X3_fittedBefore rfl rfl rfl (by decide +kernel) ⟨Nat.le_of_ble_eq_true rfl, Nat.le_of_ble_eq_true rfl⟩) ⟨kx_PRb, va_recv hT.1 hP (ci := 4) (q0 := 0) rfl rfl, kx_pr hT hP [0, 1, 2, 3, 4, 5] rfl⟩ rfl rfl hl.1 rfl (lv_room (Nat.le_of_ble_eq_true rfl)) dX3_mendAll_23 ⟨Nat.zero_le _, Nat.zero_le _⟩) (fun r_4 hw_5 => ?_)
          subst hw_5
          refine lv_aload_n hx hb dX3_mendAll_26 rfl (lv_at hl 1 rfl) ?_
          refine lv_iload_n hx hb dX3_mendAll_27 rfl (lv_at hl 0 rfl) ?_
          refine vp_callSi (W.runV (As := [.int (nI i)]) (rest := [.int (kx_bef F i), .int (nI i), .ref h0]) ⟨hx, hb, hml, hown, hts⟩ (c_X3_fittedBehind l G (h0 := h0) (h1 := h1) (h2 := h2) (h3 := h3) (h4 := h4) (h5 := h5) (n := n) (X := kx_mp F X n i) (Y := kx_mp F Y n i) (R := kx_mp F R n i) (E := kx_ep F E i) (F := F) (md := md) (i0 := i) (hb_X := (kx_mp_bd hb_X hF_X hn he (by omega) (by omega) (by omega))) (hb_Y := (kx_mp_bd hb_Y hF_Y hn he (by omega) (by omega) (by omega))) (hb_R := (kx_mp_bd hb_R hF_R hn he (by omega) (by omega) (by omega))) (hb_E := (kx_ep_bd hb_E)) (hn1 := (by omega)) (hn := (by omega)) (hi := (by omega))) (cwV 1 hts gX3_mendAll_X3_fittedBehind rfl rfl rfl (by decide +kernel) ⟨Nat.le_of_ble_eq_true rfl, Nat.le_of_ble_eq_true rfl⟩) ⟨kx_PRb, va_recv hT.1 hP (ci := 4) (q0 := 0) rfl rfl, kx_pr hT hP [0, 1, 2, 3, 4, 5] rfl⟩ rfl rfl hl.1 rfl (lv_room (Nat.le_of_ble_eq_true rfl)) dX3_mendAll_28 ⟨Nat.zero_le _, Nat.zero_le _⟩) (fun r_6 hw_7 => ?_)
          subst hw_7
          refine kx_mv (va_runV (As := [.int (nI i), .int (kx_bef F i), .int (kx_beh F n (n - (i + 1)))]) (rest := []) ⟨hx, hb, hml, hown, hts⟩ (c_X3_mendOne l G _ (h0 := h0) (h1 := h1) (h2 := h2) (h3 := h3) (h4 := h4) (h5 := h5) (n := n) (X := kx_mp F X n i) (Y := kx_mp F Y n i) (R := kx_mp F R n i) (E := kx_ep F E i) (F := F) (md := md) (i0 := i) (a := kx_sa F n i) (b := kx_sb F n i) (bf := kx_bef F i) (bh := kx_beh F n (n - (i + 1))) (hb_X := (kx_mp_bd hb_X hF_X hn he (by omega) (by omega) (by omega))) (hb_Y := (kx_mp_bd hb_Y hF_Y hn he (by omega) (by omega) (by omega))) (hb_R := (kx_mp_bd hb_R hF_R hn he (by omega) (by omega) (by omega))) (hb_E := (kx_ep_bd hb_E)) (hn1 := (by omega)) (hn := (by omega)) (hi := (by omega)) (hsel := hsl.1)) (cwV 3 hts gX3_mendAll_X3_mendOne rfl rfl rfl (by decide +kernel) ⟨Nat.le_of_ble_eq_true rfl, Nat.le_of_ble_eq_true rfl⟩) ⟨kx_PMb, va_recv hT.1 hP (ci := 4) (q0 := 0) rfl rfl, kx_pm hT hP hD [0, 1, 2, 3, 4, 5] rfl rfl rfl⟩ rfl rfl hl.1 rfl (lv_room (Nat.le_of_ble_eq_true rfl)) dX3_mendAll_31 ⟨Nat.zero_le _, Nat.zero_le _⟩) hP hD hS hA [0, 1, 2, 3, 4, 5] rfl rfl (fun _ => rfl) (fun u_10 H locs hw_9 hP hD hS => ?_)
          have hP : va_P G.1 vwCl [(h0, .inr (4, [.int (nI n), .ref h1, .ref h2, .ref h3, .ref h4, .ref h5, .int md])), (h1, kx_aD G n (vf_upd (kx_mp F X n i) i (kx_btw (kx_mp F X n i) i (kx_sa F n i) (kx_sb F n i)))), (h2, kx_aD G n (vf_upd (kx_mp F Y n i) i (kx_btw (kx_mp F Y n i) i (kx_sa F n i) (kx_sb F n i)))), (h3, kx_aD G n (vf_upd (kx_mp F R n i) i (kx_btw (kx_mp F R n i) i (kx_sa F n i) (kx_sb F n i)))), (h4, kx_aD G n (vf_upd (kx_ep F E i) i FP.dconst0)), (h5, kx_aZ G n F)] H := hP
          have hD : va_D A [(h0, .inr (4, [.int (nI n), .ref h1, .ref h2, .ref h3, .ref h4, .ref h5, .int md])), (h1, kx_aD G n (vf_upd (kx_mp F X n i) i (kx_btw (kx_mp F X n i) i (kx_sa F n i) (kx_sb F n i)))), (h2, kx_aD G n (vf_upd (kx_mp F Y n i) i (kx_btw (kx_mp F Y n i) i (kx_sa F n i) (kx_sb F n i)))), (h3, kx_aD G n (vf_upd (kx_mp F R n i) i (kx_btw (kx_mp F R n i) i (kx_sa F n i) (kx_sb F n i)))), (h4, kx_aD G n (vf_upd (kx_ep F E i) i FP.dconst0)), (h5, kx_aZ G n F)] := hD
          refine lv_iinc (v := nI (i + 1)) (lv' := [(1, .int (nI (i + 1))), (0, .ref h0)]) hx hb dX3_mendAll_34 hl (k := 0) rfl (by show _ + 1 = _; exact nI_1 _) (by decide) rfl (fun ls hl => ?_)
          refine lv_goto (tgt := 2) hx hb dX3_mendAll_37 (by decide) ?_
          exact ih (i + 1) _ _ _ _ (by omega) (kx_mp_t c_3 hsl.2.1 hsl.2.2) (kx_mp_t c_3 hsl.2.1 hsl.2.2) (kx_mp_t c_3 hsl.2.1 hsl.2.2) (kx_ep_t c_3) _ _ hP hD hS _ (lv_sub hl [0, 1] rfl)
  exact loop_2 n 0 _ _ _ _ (by omega) kx_mp_0.symm kx_mp_0.symm kx_mp_0.symm kx_ep_0.symm _ _ hP hD hS _ (lv_sub hl [0, 1] rfl)
set_option maxHeartbeats 4000000 in
set_option maxRecDepth 100000 in
/-- KEPT -/
theorem c_X0_take (l : Launch) (G : kx_G) (sz : Nat) (h0 : Nat) (h1 : Nat) (h2 : Nat) (n : Nat) (KX : Nat → UInt64) (KY : Nat → UInt64) (kt : Int32) (g0 : Nat) (g1 : Nat) (g2 : Nat) (g3 : Nat) (g4 : Nat) (g5 : Nat) (X : Nat → UInt64) (Y : Nat → UInt64) (R : Nat → UInt64) (E : Nat → UInt64) (F : Nat → Int32) (md : Int32) (hb_KX : ∀ j, fx_bd 130 (KX j)) (hb_KY : ∀ j, fx_bd 130 (KY j)) (hb_X : ∀ j, fx_bd 130 (X j)) (hb_Y : ∀ j, fx_bd 130 (Y j)) (hb_R : ∀ j, fx_bd 140 (R j)) (hb_E : ∀ j, fx_bd 220 (E j)) (hn1 : 1 ≤ n) (hn : n ≤ 16) : Met l yX0_take wsX0_take ({ frames := 0, cells := 0, slots := 0, locals := 0 } : Room) (kx_PM G [.ref h0, .ref g0] sz [(h0, .inr (1, [.ref h1, .ref h2, .int kt])), (h1, kx_aD G n KX), (h2, kx_aD G n KY), (g0, .inr (4, [.int (nI n), .ref g1, .ref g2, .ref g3, .ref g4, .ref g5, .int md])), (g1, kx_aD G n X), (g2, kx_aD G n Y), (g3, kx_aD G n R), (g4, kx_aD G n E), (g5, kx_aZ G n F)]) (va_Qv (fun (_ : Unit) => True) (kx_B G (va_A [(h0, .inr (1, [.ref h1, .ref h2, .int kt])), (h1, kx_aD G n KX), (h2, kx_aD G n KY), (g0, .inr (4, [.int (nI n), .ref g1, .ref g2, .ref g3, .ref g4, .ref g5, .int md])), (g1, kx_aD G n X), (g2, kx_aD G n Y), (g3, kx_aD G n R), (g4, kx_aD G n E), (g5, kx_aZ G n F)] sz) (fun u : Unit => [(h0, .inr (1, [.ref h1, .ref h2, .int 1])), (h1, kx_aD G n (kx_cp KX X n)), (h2, kx_aD G n (kx_cp KY Y n)), (g0, .inr (4, [.int (nI n), .ref g1, .ref g2, .ref g3, .ref g4, .ref g5, .int md])), (g1, kx_aD G n X), (g2, kx_aD G n Y), (g3, kx_aD G n R), (g4, kx_aD G n E), (g5, kx_aZ G n F)])) (va_A [(h0, .inr (1, [.ref h1, .ref h2, .int kt])), (h1, kx_aD G n KX), (h2, kx_aD G n KY), (g0, .inr (4, [.int (nI n), .ref g1, .ref g2, .ref g3, .ref g4, .ref g5, .int md])), (g1, kx_aD G n X), (g2, kx_aD G n Y), (g3, kx_aD G n R), (g4, kx_aD G n E), (g5, kx_aZ G n F)] sz)) 0 0 (va_A [(h0, .inr (1, [.ref h1, .ref h2, .int kt])), (h1, kx_aD G n KX), (h2, kx_aD G n KY), (g0, .inr (4, [.int (nI n), .ref g1, .ref g2, .ref g3, .ref g4, .ref g5, .int md])), (g1, kx_aD G n X), (g2, kx_aD G n Y), (g3, kx_aD G n R), (g4, kx_aD G n E), (g5, kx_aZ G n F)] sz) := by
  refine Met.ofW (cc := cX0_take) (maxL := 3) (ret := none) (by decide) rfl ?_
  intro p e s m args below meth c s₁ B hml hv
  obtain ⟨rfl, hsz, hP, hT, hD0⟩ := hv
  have hx := B.exec
  have hb := B.bytes
  have hr := B.returns
  have hts := atoms_spec (ws := wsX0_take) B.pre
  have hown : s.vm.findClass RX0 = some m.cls := findClass_of_methodNamed B.named
  have hlocks := B.notSynchronized
  have hf_9 := hts (.fieldLink RX0 9 "StemShapes$Kept" "x" "[D") (by decide +kernel)
  have hin_X0 : ∀ w ∈ wsX00, w ∈ wsX0_take := by decide +kernel
  have hf_22 := hts (.fieldLink RX0 22 "StemShapes$Kept" "isThere" "Z") (by decide +kernel)
  have hf_18 := hT.nest (args := [.ref h0, .ref g0].toArray) (.fieldLinkNest RX0 18 "StemShapes$Stem" "x" "[D" "StemShapes") (by decide +kernel)
  have hin_X3 : ∀ w ∈ wsX30, w ∈ wsX0_take := by decide +kernel
  have hf_15 := hts (.fieldLink RX0 15 "StemShapes$Kept" "y" "[D") (by decide +kernel)
  have hf_21 := hT.nest (args := [.ref h0, .ref g0].toArray) (.fieldLinkNest RX0 21 "StemShapes$Stem" "y" "[D" "StemShapes") (by decide +kernel)
  subst hsz
  have hD := hD0.self (sz := s.heap.size)
  generalize hAe : va_A [(h0, .inr (1, [.ref h1, .ref h2, .int kt])), (h1, kx_aD G n KX), (h2, kx_aD G n KY), (g0, .inr (4, [.int (nI n), .ref g1, .ref g2, .ref g3, .ref g4, .ref g5, .int md])), (g1, kx_aD G n X), (g2, kx_aD G n Y), (g3, kx_aD G n R), (g4, kx_aD G n E), (g5, kx_aZ G n F)] s.heap.size = A at hD ⊢
  have hA : ∀ q : Nat, s.heap.size ≤ q → A q := fun q h => by rw [← hAe]; exact Or.inr h
  have hS : va_S A s.heap s.heap [] := va_S.rf
  have hl := lv_entry ([.ref h0, .ref g0]) (n := 3) (Nat.le_of_ble_eq_true rfl)
  rw [lg_entry_eq]
  generalize (lg_sl ([.ref h0, .ref g0]) ++ List.replicate (3 - (lg_sl ([.ref h0, .ref g0])).length) Slot.unset).toArray = ls at hl ⊢
  have hl : lv_has ls 3 [(0, .ref h0), (1, .ref g0)] := hl
  refine lv_iconst (v := 0) hx hb dX0_take_0 (by decide) ?_
  refine lv_istore_n (lv' := [(2, .int 0), (0, .ref h0), (1, .ref g0)]) hx hb dX0_take_1 rfl hl (by decide) rfl (fun ls hl => ?_)
  have loop_2 : ∀ (k i : Nat) (U1 : Nat → UInt64) (V1 : Nat → UInt64), i + k = n → U1 = kx_cp KX X i → V1 = kx_cp KY Y i → ∀ (H : Heap) (locs : List Loc), va_P G.1 vwCl [(h0, .inr (1, [.ref h1, .ref h2, .int kt])), (h1, kx_aD G n U1), (h2, kx_aD G n V1), (g0, .inr (4, [.int (nI n), .ref g1, .ref g2, .ref g3, .ref g4, .ref g5, .int md])), (g1, kx_aD G n X), (g2, kx_aD G n Y), (g3, kx_aD G n R), (g4, kx_aD G n E), (g5, kx_aZ G n F)] H → va_D A [(h0, .inr (1, [.ref h1, .ref h2, .int kt])), (h1, kx_aD G n U1), (h2, kx_aD G n V1), (g0, .inr (4, [.int (nI n), .ref g1, .ref g2, .ref g3, .ref g4, .ref g5, .int md])), (g1, kx_aD G n X), (g2, kx_aD G n Y), (g3, kx_aD G n R), (g4, kx_aD G n E), (g5, kx_aZ G n F)] → va_S A s.heap H locs → ∀ ls : Array Slot, lv_has ls 3 [(2, .int (nI i)), (1, .ref g0), (0, .ref h0)] → W p l e (headSpec wsX0_take ({ frames := 0, cells := 0, slots := 0, locals := 0 } : Room)).room s m [.ref h0, .ref g0].toArray below meth c H locs 0 0 (MQ below (va_Qv (fun (_ : Unit) => True) (kx_B G A (fun u : Unit => [(h0, .inr (1, [.ref h1, .ref h2, .int 1])), (h1, kx_aD G n (kx_cp KX X n)), (h2, kx_aD G n (kx_cp KY Y n)), (g0, .inr (4, [.int (nI n), .ref g1, .ref g2, .ref g3, .ref g4, .ref g5, .int md])), (g1, kx_aD G n X), (g2, kx_aD G n Y), (g3, kx_aD G n R), (g4, kx_aD G n E), (g5, kx_aZ G n F)])) A) [.ref h0, .ref g0].toArray s 0 0 A) (F0 m 2 ls []) := by
    intro k
    induction k with
    | zero =>
      intro i U1 V1 htot e_U1 e_V1 H locs hP hD hS ls hl
      subst e_U1
      subst e_V1
      refine lv_iload_n hx hb dX0_take_2 rfl (lv_at hl 0 rfl) ?_
      refine lv_aload_n hx hb dX0_take_3 rfl (lv_at hl 2 rfl) ?_
      refine va_get (D := G.1) (ci := 1) (v := .ref h1) (C := RX0) (T := TX0) (N := 3) hx hb hts hin_X0 hown hT.1 hP 0 rfl rfl 0 (by decide) hf_9 (fun _ h9 => h9) rfl dX0_take_4 ?_
      refine va_alen (v := nI n) hx hb hT.1 hP 1 1 rfl rfl rfl dX0_take_7 ?_
      refine lv_icmp_ge (x := nI i) (y := nI n) (tgt := 41) hx hb dX0_take_8 (by decide) (fun c_1 => ?_) (fun c_1 => ?_)
      · have c_1 : n ≤ i := (nI_leI (a := n) (b := i) (by omega) (by omega)).mp c_1
        have hin9 : i = n := by omega
        rw [hin9] at hP hD
        refine lv_aload_n hx hb dX0_take_41 rfl (lv_at hl 2 rfl) ?_
        refine lv_iconst (v := 1) hx hb dX0_take_42 (by decide) ?_
        refine va_put (D := G.1) (ci := 1) (v := .int 1) (ty := .boolean) (C := RX0) (T := TX0) (N := 3) hx hb hts hin_X0 tyX0 tyX0_ok nmX0 hown hT.1 hP hD hS 0 rfl rfl 2 (by decide) hf_22 (fun _ h9 => h9) rfl (by decide +kernel) rfl rfl (Nat.le_of_ble_eq_true rfl) dX0_take_43 (fun H locs hP hD hS => ?_)
        have hP : va_P G.1 vwCl [(h0, .inr (1, [.ref h1, .ref h2, .int 1])), (h1, kx_aD G n (kx_cp KX X n)), (h2, kx_aD G n (kx_cp KY Y n)), (g0, .inr (4, [.int (nI n), .ref g1, .ref g2, .ref g3, .ref g4, .ref g5, .int md])), (g1, kx_aD G n X), (g2, kx_aD G n Y), (g3, kx_aD G n R), (g4, kx_aD G n E), (g5, kx_aZ G n F)] H := hP
        have hD : va_D A [(h0, .inr (1, [.ref h1, .ref h2, .int 1])), (h1, kx_aD G n (kx_cp KX X n)), (h2, kx_aD G n (kx_cp KY Y n)), (g0, .inr (4, [.int (nI n), .ref g1, .ref g2, .ref g3, .ref g4, .ref g5, .int md])), (g1, kx_aD G n X), (g2, kx_aD G n Y), (g3, kx_aD G n R), (g4, kx_aD G n E), (g5, kx_aZ G n F)] := hD
        exact W.vret hx hb hr (fun t ht hW => ⟨⟨(), rfl, trivial, And.intro (by rw [ht]; exact hP) hD⟩, hS.F ht⟩) hS.2.2 dX0_take_46
      · have c_1 : ¬ n ≤ i := fun q => c_1 ((nI_leI (a := n) (b := i) (by omega) (by omega)).mpr q)
        exfalso; omega
    | succ k ih =>
      intro i U1 V1 htot e_U1 e_V1 H locs hP hD hS ls hl
      subst e_U1
      subst e_V1
      refine lv_iload_n hx hb dX0_take_2 rfl (lv_at hl 0 rfl) ?_
      refine lv_aload_n hx hb dX0_take_3 rfl (lv_at hl 2 rfl) ?_
      refine va_get (D := G.1) (ci := 1) (v := .ref h1) (C := RX0) (T := TX0) (N := 3) hx hb hts hin_X0 hown hT.1 hP 0 rfl rfl 0 (by decide) hf_9 (fun _ h9 => h9) rfl dX0_take_4 ?_
      refine va_alen (v := nI n) hx hb hT.1 hP 1 1 rfl rfl rfl dX0_take_7 ?_
      refine lv_icmp_ge (x := nI i) (y := nI n) (tgt := 41) hx hb dX0_take_8 (by decide) (fun c_2 => ?_) (fun c_2 => ?_)
      · have c_2 : n ≤ i := (nI_leI (a := n) (b := i) (by omega) (by omega)).mp c_2
        exfalso; omega
      · have c_2 : ¬ n ≤ i := fun q => c_2 ((nI_leI (a := n) (b := i) (by omega) (by omega)).mpr q)
        refine lv_aload_n hx hb dX0_take_11 rfl (lv_at hl 2 rfl) ?_
        refine va_get (D := G.1) (ci := 1) (v := .ref h1) (C := RX0) (T := TX0) (N := 3) hx hb hts hin_X0 hown hT.1 hP 0 rfl rfl 0 (by decide) hf_9 (fun _ h9 => h9) rfl dX0_take_12 ?_
        refine lv_iload_n hx hb dX0_take_15 rfl (lv_at hl 0 rfl) ?_
        refine lv_aload_n hx hb dX0_take_16 rfl (lv_at hl 1 rfl) ?_
        refine va_getN (D := G.1) (ci := 4) (v := .ref g1) (C := RX3) (T := TX3) (N := 7) hx hb hts hin_X3 hown hT.1 hP 3 rfl rfl 1 (by decide) hf_18 (fun _ h9 => h9) rfl dX0_take_17 ?_
        refine lv_iload_n hx hb dX0_take_20 rfl (lv_at hl 0 rfl) ?_
        refine kx_dald hx hb hT hP 4 rfl i (by omega) (by omega) dX0_take_21 ?_
        refine kx_dast hx hb hT hP hD hS 1 rfl i (by omega) (by omega) dX0_take_22 (fun H locs hP hD hS => ?_)
        have hP : va_P G.1 vwCl [(h0, .inr (1, [.ref h1, .ref h2, .int kt])), (h1, kx_aD G n (vf_upd (kx_cp KX X i) i (X i))), (h2, kx_aD G n (kx_cp KY Y i)), (g0, .inr (4, [.int (nI n), .ref g1, .ref g2, .ref g3, .ref g4, .ref g5, .int md])), (g1, kx_aD G n X), (g2, kx_aD G n Y), (g3, kx_aD G n R), (g4, kx_aD G n E), (g5, kx_aZ G n F)] H := hP
        have hD : va_D A [(h0, .inr (1, [.ref h1, .ref h2, .int kt])), (h1, kx_aD G n (vf_upd (kx_cp KX X i) i (X i))), (h2, kx_aD G n (kx_cp KY Y i)), (g0, .inr (4, [.int (nI n), .ref g1, .ref g2, .ref g3, .ref g4, .ref g5, .int md])), (g1, kx_aD G n X), (g2, kx_aD G n Y), (g3, kx_aD G n R), (g4, kx_aD G n E), (g5, kx_aZ G n F)] := hD
        refine lv_aload_n hx hb dX0_take_23 rfl (lv_at hl 2 rfl) ?_
        refine va_get (D := G.1) (ci := 1) (v := .ref h2) (C := RX0) (T := TX0) (N := 3) hx hb hts hin_X0 hown hT.1 hP 0 rfl rfl 1 (by decide) hf_15 (fun _ h9 => h9) rfl dX0_take_24 ?_
        refine lv_iload_n hx hb dX0_take_27 rfl (lv_at hl 0 rfl) ?_
        refine lv_aload_n hx hb dX0_take_28 rfl (lv_at hl 1 rfl) ?_
        refine va_getN (D := G.1) (ci := 4) (v := .ref g2) (C := RX3) (T := TX3) (N := 7) hx hb hts hin_X3 hown hT.1 hP 3 rfl rfl 2 (by decide) hf_21 (fun _ h9 => h9) rfl dX0_take_29 ?_
        refine lv_iload_n hx hb dX0_take_32 rfl (lv_at hl 0 rfl) ?_
        refine kx_dald hx hb hT hP 5 rfl i (by omega) (by omega) dX0_take_33 ?_
        refine kx_dast hx hb hT hP hD hS 2 rfl i (by omega) (by omega) dX0_take_34 (fun H locs hP hD hS => ?_)
        have hP : va_P G.1 vwCl [(h0, .inr (1, [.ref h1, .ref h2, .int kt])), (h1, kx_aD G n (vf_upd (kx_cp KX X i) i (X i))), (h2, kx_aD G n (vf_upd (kx_cp KY Y i) i (Y i))), (g0, .inr (4, [.int (nI n), .ref g1, .ref g2, .ref g3, .ref g4, .ref g5, .int md])), (g1, kx_aD G n X), (g2, kx_aD G n Y), (g3, kx_aD G n R), (g4, kx_aD G n E), (g5, kx_aZ G n F)] H := hP
        have hD : va_D A [(h0, .inr (1, [.ref h1, .ref h2, .int kt])), (h1, kx_aD G n (vf_upd (kx_cp KX X i) i (X i))), (h2, kx_aD G n (vf_upd (kx_cp KY Y i) i (Y i))), (g0, .inr (4, [.int (nI n), .ref g1, .ref g2, .ref g3, .ref g4, .ref g5, .int md])), (g1, kx_aD G n X), (g2, kx_aD G n Y), (g3, kx_aD G n R), (g4, kx_aD G n E), (g5, kx_aZ G n F)] := hD
        refine lv_iinc (v := nI (i + 1)) (lv' := [(2, .int (nI (i + 1))), (1, .ref g0), (0, .ref h0)]) hx hb dX0_take_35 hl (k := 0) rfl (by show _ + 1 = _; exact nI_1 _) (by decide) rfl (fun ls hl => ?_)
        refine lv_goto (tgt := 2) hx hb dX0_take_38 (by decide) ?_
        exact ih (i + 1) _ _ (by omega) kx_cp_s kx_cp_s _ _ hP hD hS _ (lv_sub hl [0, 1, 2] rfl)
  exact loop_2 n 0 _ _ (by omega) kx_cp_0.symm kx_cp_0.symm _ _ hP hD hS _ (lv_sub hl [0, 2, 1] rfl)
set_option maxHeartbeats 4000000 in
set_option maxRecDepth 100000 in
/-- a rule more -/
theorem c_X1_addOne (l : Launch) (G : kx_G) (sz : Nat) (h0 : Nat) (h1 : Nat) (h2 : Nat) (h3 : Nat) (Ki : Nat → Int32) (Li : Nat → UInt64) (Cl : Nat → Int32) (cnt : Nat) (kd : Int32) (lm : UInt64) (cl : Int32)  (hc : cnt < 6) : Met l yX1_addOne wsX1_addOne ({ frames := 0, cells := 0, slots := 0, locals := 0 } : Room) (kx_PM G [.ref h0, .int kd, .double lm, .int cl] sz [(h0, .inr (2, [.ref h1, .ref h2, .ref h3, .int (nI cnt)])), (h1, kx_aI G 6 Ki), (h2, kx_aD G 6 Li), (h3, kx_aI G 6 Cl)]) (va_Qi (fun (r : Int32) (_ : Unit) => r = nI (cnt + 1)) (kx_B G (va_A [(h0, .inr (2, [.ref h1, .ref h2, .ref h3, .int (nI cnt)])), (h1, kx_aI G 6 Ki), (h2, kx_aD G 6 Li), (h3, kx_aI G 6 Cl)] sz) (fun u : Unit => [(h0, .inr (2, [.ref h1, .ref h2, .ref h3, .int (nI (cnt + 1))])), (h1, kx_aI G 6 (upd Ki cnt kd)), (h2, kx_aD G 6 (vf_upd Li cnt lm)), (h3, kx_aI G 6 (upd Cl cnt cl))])) (va_A [(h0, .inr (2, [.ref h1, .ref h2, .ref h3, .int (nI cnt)])), (h1, kx_aI G 6 Ki), (h2, kx_aD G 6 Li), (h3, kx_aI G 6 Cl)] sz)) 0 0 (va_A [(h0, .inr (2, [.ref h1, .ref h2, .ref h3, .int (nI cnt)])), (h1, kx_aI G 6 Ki), (h2, kx_aD G 6 Li), (h3, kx_aI G 6 Cl)] sz) := by
  refine Met.ofW (cc := cX1_addOne) (maxL := 5) (ret := (some .int)) (by decide) rfl ?_
  intro p e s m args below meth c s₁ B hml hv
  obtain ⟨rfl, hsz, hP, hT, hD0⟩ := hv
  have hx := B.exec
  have hb := B.bytes
  have hr := B.returns
  have hts := atoms_spec (ws := wsX1_addOne) B.pre
  have hown : s.vm.findClass RX1 = some m.cls := findClass_of_methodNamed B.named
  have hlocks := B.notSynchronized
  have hf_9 := hts (.fieldLink RX1 9 "StemShapes$RuleList" "kinds" "[I") (by decide +kernel)
  have hin_X1 : ∀ w ∈ wsX10, w ∈ wsX1_addOne := by decide +kernel
  have hf_22 := hts (.fieldLink RX1 22 "StemShapes$RuleList" "count" "I") (by decide +kernel)
  have hf_15 := hts (.fieldLink RX1 15 "StemShapes$RuleList" "limits" "[D") (by decide +kernel)
  have hf_19 := hts (.fieldLink RX1 19 "StemShapes$RuleList" "classes" "[I") (by decide +kernel)
  subst hsz
  have hD := hD0.self (sz := s.heap.size)
  generalize hAe : va_A [(h0, .inr (2, [.ref h1, .ref h2, .ref h3, .int (nI cnt)])), (h1, kx_aI G 6 Ki), (h2, kx_aD G 6 Li), (h3, kx_aI G 6 Cl)] s.heap.size = A at hD ⊢
  have hA : ∀ q : Nat, s.heap.size ≤ q → A q := fun q h => by rw [← hAe]; exact Or.inr h
  have hS : va_S A s.heap s.heap [] := va_S.rf
  have hl := lv_entry ([.ref h0, .int kd, .double lm, .int cl]) (n := 5) (Nat.le_of_ble_eq_true rfl)
  rw [lg_entry_eq]
  generalize (lg_sl ([.ref h0, .int kd, .double lm, .int cl]) ++ List.replicate (5 - (lg_sl ([.ref h0, .int kd, .double lm, .int cl])).length) Slot.unset).toArray = ls at hl ⊢
  have hl : lv_has ls 5 [(0, .ref h0), (1, .int kd), (2, .double lm), (4, .int cl)] := hl
  refine lv_aload_n hx hb dX1_addOne_0 rfl (lv_at hl 0 rfl) ?_
  refine va_get (D := G.1) (ci := 2) (v := .ref h1) (C := RX1) (T := TX1) (N := 4) hx hb hts hin_X1 hown hT.1 hP 0 rfl rfl 0 (by decide) hf_9 (fun _ h9 => h9) rfl dX1_addOne_1 ?_
  refine lv_aload_n hx hb dX1_addOne_4 rfl (lv_at hl 0 rfl) ?_
  refine va_get (D := G.1) (ci := 2) (v := .int (nI cnt)) (C := RX1) (T := TX1) (N := 4) hx hb hts hin_X1 hown hT.1 hP 0 rfl rfl 3 (by decide) hf_22 (fun _ h9 => h9) rfl dX1_addOne_5 ?_
  refine lv_iload_n hx hb dX1_addOne_8 rfl (lv_at hl 1 rfl) ?_
  refine kx_iast hx hb hT hP hD hS 1 rfl cnt (by omega) (by omega) dX1_addOne_9 (fun H locs hP hD hS => ?_)
  have hP : va_P G.1 vwCl [(h0, .inr (2, [.ref h1, .ref h2, .ref h3, .int (nI cnt)])), (h1, kx_aI G 6 (upd Ki cnt kd)), (h2, kx_aD G 6 Li), (h3, kx_aI G 6 Cl)] H := hP
  have hD : va_D A [(h0, .inr (2, [.ref h1, .ref h2, .ref h3, .int (nI cnt)])), (h1, kx_aI G 6 (upd Ki cnt kd)), (h2, kx_aD G 6 Li), (h3, kx_aI G 6 Cl)] := hD
  refine lv_aload_n hx hb dX1_addOne_10 rfl (lv_at hl 0 rfl) ?_
  refine va_get (D := G.1) (ci := 2) (v := .ref h2) (C := RX1) (T := TX1) (N := 4) hx hb hts hin_X1 hown hT.1 hP 0 rfl rfl 1 (by decide) hf_15 (fun _ h9 => h9) rfl dX1_addOne_11 ?_
  refine lv_aload_n hx hb dX1_addOne_14 rfl (lv_at hl 0 rfl) ?_
  refine va_get (D := G.1) (ci := 2) (v := .int (nI cnt)) (C := RX1) (T := TX1) (N := 4) hx hb hts hin_X1 hown hT.1 hP 0 rfl rfl 3 (by decide) hf_22 (fun _ h9 => h9) rfl dX1_addOne_15 ?_
  refine lv_dload_n hx hb dX1_addOne_18 rfl (lv_at hl 2 rfl) ?_
  refine kx_dast hx hb hT hP hD hS 2 rfl cnt (by omega) (by omega) dX1_addOne_19 (fun H locs hP hD hS => ?_)
  have hP : va_P G.1 vwCl [(h0, .inr (2, [.ref h1, .ref h2, .ref h3, .int (nI cnt)])), (h1, kx_aI G 6 (upd Ki cnt kd)), (h2, kx_aD G 6 (vf_upd Li cnt lm)), (h3, kx_aI G 6 Cl)] H := hP
  have hD : va_D A [(h0, .inr (2, [.ref h1, .ref h2, .ref h3, .int (nI cnt)])), (h1, kx_aI G 6 (upd Ki cnt kd)), (h2, kx_aD G 6 (vf_upd Li cnt lm)), (h3, kx_aI G 6 Cl)] := hD
  refine lv_aload_n hx hb dX1_addOne_20 rfl (lv_at hl 0 rfl) ?_
  refine va_get (D := G.1) (ci := 2) (v := .ref h3) (C := RX1) (T := TX1) (N := 4) hx hb hts hin_X1 hown hT.1 hP 0 rfl rfl 2 (by decide) hf_19 (fun _ h9 => h9) rfl dX1_addOne_21 ?_
  refine lv_aload_n hx hb dX1_addOne_24 rfl (lv_at hl 0 rfl) ?_
  refine va_get (D := G.1) (ci := 2) (v := .int (nI cnt)) (C := RX1) (T := TX1) (N := 4) hx hb hts hin_X1 hown hT.1 hP 0 rfl rfl 3 (by decide) hf_22 (fun _ h9 => h9) rfl dX1_addOne_25 ?_
  refine lv_iload hx hb dX1_addOne_28 (lv_at hl 3 rfl) ?_
  refine kx_iast hx hb hT hP hD hS 3 rfl cnt (by omega) (by omega) dX1_addOne_30 (fun H locs hP hD hS => ?_)
  have hP : va_P G.1 vwCl [(h0, .inr (2, [.ref h1, .ref h2, .ref h3, .int (nI cnt)])), (h1, kx_aI G 6 (upd Ki cnt kd)), (h2, kx_aD G 6 (vf_upd Li cnt lm)), (h3, kx_aI G 6 (upd Cl cnt cl))] H := hP
  have hD : va_D A [(h0, .inr (2, [.ref h1, .ref h2, .ref h3, .int (nI cnt)])), (h1, kx_aI G 6 (upd Ki cnt kd)), (h2, kx_aD G 6 (vf_upd Li cnt lm)), (h3, kx_aI G 6 (upd Cl cnt cl))] := hD
  refine lv_aload_n hx hb dX1_addOne_31 rfl (lv_at hl 0 rfl) ?_
  refine lv_dup hx hb dX1_addOne_32 rfl ?_
  refine va_get (D := G.1) (ci := 2) (v := .int (nI cnt)) (C := RX1) (T := TX1) (N := 4) hx hb hts hin_X1 hown hT.1 hP 0 rfl rfl 3 (by decide) hf_22 (fun _ h9 => h9) rfl dX1_addOne_33 ?_
  refine lv_iconst (v := 1) hx hb dX1_addOne_36 (by decide) ?_
  refine lv_iadd hx hb dX1_addOne_37 ?_
  refine kx_ei (y := nI (cnt + 1)) (nI_add cnt 1) ?_
  refine va_put (D := G.1) (ci := 2) (v := .int (nI (cnt + 1))) (ty := .int) (C := RX1) (T := TX1) (N := 4) hx hb hts hin_X1 tyX1 tyX1_ok nmX1 hown hT.1 hP hD hS 0 rfl rfl 3 (by decide) hf_22 (fun _ h9 => h9) rfl (by decide +kernel) rfl rfl (Nat.le_of_ble_eq_true rfl) dX1_addOne_38 (fun H locs hP hD hS => ?_)
  have hP : va_P G.1 vwCl [(h0, .inr (2, [.ref h1, .ref h2, .ref h3, .int (nI (cnt + 1))])), (h1, kx_aI G 6 (upd Ki cnt kd)), (h2, kx_aD G 6 (vf_upd Li cnt lm)), (h3, kx_aI G 6 (upd Cl cnt cl))] H := hP
  have hD : va_D A [(h0, .inr (2, [.ref h1, .ref h2, .ref h3, .int (nI (cnt + 1))])), (h1, kx_aI G 6 (upd Ki cnt kd)), (h2, kx_aD G 6 (vf_upd Li cnt lm)), (h3, kx_aI G 6 (upd Cl cnt cl))] := hD
  refine lv_aload_n hx hb dX1_addOne_41 rfl (lv_at hl 0 rfl) ?_
  refine va_get (D := G.1) (ci := 2) (v := .int (nI (cnt + 1))) (C := RX1) (T := TX1) (N := 4) hx hb hts hin_X1 hown hT.1 hP 0 rfl rfl 3 (by decide) hf_22 (fun _ h9 => h9) rfl dX1_addOne_42 ?_
  exact W.iret (v := nI (cnt + 1)) hx hb hr (fun t ht hW => ⟨⟨nI (cnt + 1), (), rfl, rfl, And.intro (by rw [ht]; exact hP) hD⟩, hS.F ht⟩) hS.2.2 dX1_addOne_45
