set_option maxHeartbeats 4000000 in
set_option maxRecDepth 100000 in
/-- aim -/
theorem c_X5_aim (l : Launch) (G : kx_G) (sz : Nat) (m0 : Nat) (m1 : Nat) (m2 : Nat) (m3 : Nat) (m4 : Nat) (m5 : Nat) (m6 : Nat) (m7 : Nat) (m8 : Nat) (m9 : Nat) (m10 : Nat) (m11 : Nat) (m12 : Nat) (n : Nat) (v : Nat) (tw : Int32) (ps : Nat → UInt64) (qs : Nat → UInt64) (th : Nat → Int32) (fr : Nat → UInt64) (to : Nat → UInt64) (kn : Int32) (ft : Nat) (fd : Nat → Int32) (sh : Nat → UInt64) (ru : Nat) (ki : Nat → Int32) (li : Nat → UInt64) (cl : Nat → Int32) (kp : Int32) (kx : Nat → UInt64) (ky : Nat → UInt64) (a9 : Int32) (p9 : UInt64) (q9 : UInt64) (hb_ps : ∀ j, fx_bd 5 (ps j)) (hb_qs : ∀ j, fx_bd 5 (qs j)) (hb_fr : ∀ j, fx_bd 11 (fr j)) (hb_to : ∀ j, fx_bd 11 (to j)) (hb_sh : ∀ j, fx_bd 220 (sh j)) (hb_kx : ∀ j, fx_bd 130 (kx j)) (hb_ky : ∀ j, fx_bd 130 (ky j)) (hn1 : 1 ≤ n) (hn : n ≤ 16) (hv1 : 1 ≤ v) (hv : v ≤ 8) : Met l yX5_aim wsX5_aim ({ frames := 1, cells := 0, slots := 0, locals := 25 } : Room) (kx_PM G [.ref m0, .int a9, .double p9, .double q9] sz [(m0, .inr (6, [.int tw, .int (nI n), .int (nI v), .ref m1, .ref m2, .ref m3, .ref m4, .ref m5, .int kn, .int (nI ft), .ref m6, .ref m7, .int (nI ru), .ref m8, .ref m9, .ref m10, .int kp, .ref m11, .ref m12])), (m1, kx_aD G 8 ps), (m2, kx_aD G 8 qs), (m3, kx_aZ G 128 th), (m4, kx_aD G 128 fr), (m5, kx_aD G 128 to), (m6, kx_aZ G 16 fd), (m7, kx_aD G 64 sh), (m8, kx_aI G 6 ki), (m9, kx_aD G 6 li), (m10, kx_aI G 6 cl), (m11, kx_aD G 16 kx), (m12, kx_aD G 16 ky)]) (va_Qv (fun (u : Int32 × (Nat → UInt64) × (Nat → UInt64) × Int32) => u.1 = (kc_aim (kx_no v a9) (kx_wi p9 16) (kx_wi q9 16) p9 q9) ∧ (((kc_aim (kx_no v a9) (kx_wi p9 16) (kx_wi q9 16) p9 q9) = 0 ∧ u.2 = (vf_upd ps a9.toNatClampNeg p9, vf_upd qs a9.toNatClampNeg q9, 0)) ∨ ((kc_aim (kx_no v a9) (kx_wi p9 16) (kx_wi q9 16) p9 q9) ≠ 0 ∧ u.2 = (ps, qs, kn)))) (kx_B G (va_A [(m0, .inr (6, [.int tw, .int (nI n), .int (nI v), .ref m1, .ref m2, .ref m3, .ref m4, .ref m5, .int kn, .int (nI ft), .ref m6, .ref m7, .int (nI ru), .ref m8, .ref m9, .ref m10, .int kp, .ref m11, .ref m12])), (m1, kx_aD G 8 ps), (m2, kx_aD G 8 qs), (m3, kx_aZ G 128 th), (m4, kx_aD G 128 fr), (m5, kx_aD G 128 to), (m6, kx_aZ G 16 fd), (m7, kx_aD G 64 sh), (m8, kx_aI G 6 ki), (m9, kx_aD G 6 li), (m10, kx_aI G 6 cl), (m11, kx_aD G 16 kx), (m12, kx_aD G 16 ky)] sz) (fun u : Int32 × (Nat → UInt64) × (Nat → UInt64) × Int32 => [(m0, .inr (6, [.int u.1, .int (nI n), .int (nI v), .ref m1, .ref m2, .ref m3, .ref m4, .ref m5, .int u.2.2.2, .int (nI ft), .ref m6, .ref m7, .int (nI ru), .ref m8, .ref m9, .ref m10, .int kp, .ref m11, .ref m12])), (m1, kx_aD G 8 u.2.1), (m2, kx_aD G 8 u.2.2.1), (m3, kx_aZ G 128 th), (m4, kx_aD G 128 fr), (m5, kx_aD G 128 to), (m6, kx_aZ G 16 fd), (m7, kx_aD G 64 sh), (m8, kx_aI G 6 ki), (m9, kx_aD G 6 li), (m10, kx_aI G 6 cl), (m11, kx_aD G 16 kx), (m12, kx_aD G 16 ky)])) (va_A [(m0, .inr (6, [.int tw, .int (nI n), .int (nI v), .ref m1, .ref m2, .ref m3, .ref m4, .ref m5, .int kn, .int (nI ft), .ref m6, .ref m7, .int (nI ru), .ref m8, .ref m9, .ref m10, .int kp, .ref m11, .ref m12])), (m1, kx_aD G 8 ps), (m2, kx_aD G 8 qs), (m3, kx_aZ G 128 th), (m4, kx_aD G 128 fr), (m5, kx_aD G 128 to), (m6, kx_aZ G 16 fd), (m7, kx_aD G 64 sh), (m8, kx_aI G 6 ki), (m9, kx_aD G 6 li), (m10, kx_aI G 6 cl), (m11, kx_aD G 16 kx), (m12, kx_aD G 16 ky)] sz)) 0 0 (va_A [(m0, .inr (6, [.int tw, .int (nI n), .int (nI v), .ref m1, .ref m2, .ref m3, .ref m4, .ref m5, .int kn, .int (nI ft), .ref m6, .ref m7, .int (nI ru), .ref m8, .ref m9, .ref m10, .int kp, .ref m11, .ref m12])), (m1, kx_aD G 8 ps), (m2, kx_aD G 8 qs), (m3, kx_aZ G 128 th), (m4, kx_aD G 128 fr), (m5, kx_aD G 128 to), (m6, kx_aZ G 16 fd), (m7, kx_aD G 64 sh), (m8, kx_aI G 6 ki), (m9, kx_aD G 6 li), (m10, kx_aI G 6 cl), (m11, kx_aD G 16 kx), (m12, kx_aD G 16 ky)] sz) := by
  refine Met.ofW (cc := cX5_aim) (maxL := 6) (ret := none) (by decide) rfl ?_
  intro p e s m args below meth c s₁ B hml hv
  obtain ⟨rfl, hsz, hP, hT, hD0⟩ := hv
  have hx := B.exec
  have hb := B.bytes
  have hr := B.returns
  have hts := atoms_spec (ws := wsX5_aim) B.pre
  have hown : s.vm.findClass RX5 = some m.cls := findClass_of_methodNamed B.named
  have hlocks := B.notSynchronized
  have hc_62 := hts (.constantDouble RX5 62 (13848568854164275200)) (by decide +kernel)
  have hc_64 := hts (.constantDouble RX5 64 (4625196817309499392)) (by decide +kernel)
  have hf_55 := hts (.fieldLink RX5 55 "StemShapesModel" "thrown" "I") (by decide +kernel)
  have hin_X5 : ∀ w ∈ wsX50, w ∈ wsX5_aim := by decide +kernel
  have hf_7 := hts (.fieldLink RX5 7 "StemShapesModel" "ps" "[D") (by decide +kernel)
  have hf_13 := hts (.fieldLink RX5 13 "StemShapesModel" "qs" "[D") (by decide +kernel)
  have hf_70 := hts (.fieldLink RX5 70 "StemShapesModel" "known" "Z") (by decide +kernel)
  subst hsz
  have hD := hD0.self (sz := s.heap.size)
  generalize hAe : va_A [(m0, .inr (6, [.int tw, .int (nI n), .int (nI v), .ref m1, .ref m2, .ref m3, .ref m4, .ref m5, .int kn, .int (nI ft), .ref m6, .ref m7, .int (nI ru), .ref m8, .ref m9, .ref m10, .int kp, .ref m11, .ref m12])), (m1, kx_aD G 8 ps), (m2, kx_aD G 8 qs), (m3, kx_aZ G 128 th), (m4, kx_aD G 128 fr), (m5, kx_aD G 128 to), (m6, kx_aZ G 16 fd), (m7, kx_aD G 64 sh), (m8, kx_aI G 6 ki), (m9, kx_aD G 6 li), (m10, kx_aI G 6 cl), (m11, kx_aD G 16 kx), (m12, kx_aD G 16 ky)] s.heap.size = A at hD ⊢
  have hA : ∀ q : Nat, s.heap.size ≤ q → A q := fun q h => by rw [← hAe]; exact Or.inr h
  have hS : va_S A s.heap s.heap [] := va_S.rf
  have hl := lv_entry ([.ref m0, .int a9, .double p9, .double q9]) (n := 6) (Nat.le_of_ble_eq_true rfl)
  rw [lg_entry_eq]
  generalize (lg_sl ([.ref m0, .int a9, .double p9, .double q9]) ++ List.replicate (6 - (lg_sl ([.ref m0, .int a9, .double p9, .double q9])).length) Slot.unset).toArray = ls at hl ⊢
  have hl : lv_has ls 6 [(0, .ref m0), (1, .int a9), (2, .double p9), (4, .double q9)] := hl
  refine lv_aload_n hx hb dX5_aim_0 rfl (lv_at hl 0 rfl) ?_
  refine lv_aload_n hx hb dX5_aim_1 rfl (lv_at hl 0 rfl) ?_
  refine lv_iload_n hx hb dX5_aim_2 rfl (lv_at hl 1 rfl) ?_
  refine vp_callSi (W.runV (As := [.int a9]) (rest := [.ref m0]) ⟨hx, hb, hml, hown, hts⟩ (c_X5_noView l G (m0 := m0) (m1 := m1) (m2 := m2) (m3 := m3) (m4 := m4) (m5 := m5) (m6 := m6) (m7 := m7) (m8 := m8) (m9 := m9) (m10 := m10) (m11 := m11) (m12 := m12) (n := n) (v := v) (tw := tw) (ps := ps) (qs := qs) (th := th) (fr := fr) (to := to) (kn := kn) (ft := ft) (fd := fd) (sh := sh) (ru := ru) (ki := ki) (li := li) (cl := cl) (kp := kp) (kx := kx) (ky := ky) (a9 := a9) (hb_ps := hb_ps) (hb_qs := hb_qs) (hb_fr := hb_fr) (hb_to := hb_to) (hb_sh := hb_sh) (hb_kx := hb_kx) (hb_ky := hb_ky)) (cwV 1 hts gX5_aim_X5_noView rfl rfl rfl (by decide +kernel) ⟨Nat.le_of_ble_eq_true rfl, Nat.le_of_ble_eq_true rfl⟩) ⟨kx_PRb, va_recv hT.1 hP (ci := 6) (q0 := 0) rfl rfl, kx_pr hT hP [0, 1, 2, 3, 4, 5, 6, 7, 8, 9, 10, 11, 12] rfl⟩ rfl rfl hl.1 rfl (lv_room (Nat.le_of_ble_eq_true rfl)) dX5_aim_3 ⟨Nat.zero_le _, Nat.zero_le _⟩) (fun r_1 hw_2 => ?_)
  subst hw_2
  refine lv_if_eq (x := kx_no v a9) (tgt := 13) hx hb dX5_aim_6 (by decide) (fun c_3 => ?_) (fun c_3 => ?_)
  · refine lv_dload_n hx hb dX5_aim_13 rfl (lv_at hl 2 rfl) ?_
    refine lv_ldc2d (v := 13848568854164275200) hx hb hown hc_62 dX5_aim_14 ?_
    refine lv_ldc2d (v := 4625196817309499392) hx hb hown hc_64 dX5_aim_17 ?_
    refine vp_callSi (W.runS (As := [.double p9, .double 13848568854164275200, .double 4625196817309499392]) (rest := [.ref m0]) ⟨hx, hb, hml, hown, hts⟩ (c_X5_between l G (x := p9) (lo := 13848568854164275200) (hi := 4625196817309499392)) (va_cwS 3 hts gX5_aim_X5_between rfl rfl rfl (by decide +kernel) ⟨Nat.le_of_ble_eq_true rfl, Nat.le_of_ble_eq_true rfl⟩) ⟨kx_PRb, kx_pr hT hP [] rfl⟩ rfl rfl hl.1 rfl (lv_room (Nat.le_of_ble_eq_true rfl)) dX5_aim_20 ⟨Nat.zero_le _, Nat.zero_le _⟩) (fun r_4 hw_5 => ?_)
    subst hw_5
    refine kx_ei (y := kx_wi p9 16) (kx_bt_16 p9) ?_
    refine lv_if_eq (x := kx_wi p9 16) (tgt := 53) hx hb dX5_aim_23 (by decide) (fun c_6 => ?_) (fun c_6 => ?_)
    · refine lv_iconst (v := 2) hx hb dX5_aim_53 (by decide) ?_
      refine lv_goto (tgt := 58) hx hb dX5_aim_54 (by decide) ?_
      refine va_put (D := G.1) (ci := 6) (v := .int 2) (ty := .int) (C := RX5) (T := TX5) (N := 19) hx hb hts hin_X5 tyX5 tyX5_ok nmX5 hown hT.1 hP hD hS 0 rfl rfl 0 (by decide) hf_55 (fun _ h9 => h9) rfl (by decide +kernel) rfl rfl (Nat.le_of_ble_eq_true rfl) dX5_aim_58 (fun H locs hP hD hS => ?_)
      have hP : va_P G.1 vwCl [(m0, .inr (6, [.int 2, .int (nI n), .int (nI v), .ref m1, .ref m2, .ref m3, .ref m4, .ref m5, .int kn, .int (nI ft), .ref m6, .ref m7, .int (nI ru), .ref m8, .ref m9, .ref m10, .int kp, .ref m11, .ref m12])), (m1, kx_aD G 8 ps), (m2, kx_aD G 8 qs), (m3, kx_aZ G 128 th), (m4, kx_aD G 128 fr), (m5, kx_aD G 128 to), (m6, kx_aZ G 16 fd), (m7, kx_aD G 64 sh), (m8, kx_aI G 6 ki), (m9, kx_aD G 6 li), (m10, kx_aI G 6 cl), (m11, kx_aD G 16 kx), (m12, kx_aD G 16 ky)] H := hP
      have hD : va_D A [(m0, .inr (6, [.int 2, .int (nI n), .int (nI v), .ref m1, .ref m2, .ref m3, .ref m4, .ref m5, .int kn, .int (nI ft), .ref m6, .ref m7, .int (nI ru), .ref m8, .ref m9, .ref m10, .int kp, .ref m11, .ref m12])), (m1, kx_aD G 8 ps), (m2, kx_aD G 8 qs), (m3, kx_aZ G 128 th), (m4, kx_aD G 128 fr), (m5, kx_aD G 128 to), (m6, kx_aZ G 16 fd), (m7, kx_aD G 64 sh), (m8, kx_aI G 6 ki), (m9, kx_aD G 6 li), (m10, kx_aI G 6 cl), (m11, kx_aD G 16 kx), (m12, kx_aD G 16 ky)] := hD
      refine lv_aload_n hx hb dX5_aim_61 rfl (lv_at hl 0 rfl) ?_
      refine va_get (D := G.1) (ci := 6) (v := .int 2) (C := RX5) (T := TX5) (N := 19) hx hb hts hin_X5 hown hT.1 hP 0 rfl rfl 0 (by decide) hf_55 (fun _ h9 => h9) rfl dX5_aim_62 ?_
      refine lv_if_ne (x := 2) (tgt := 88) hx hb dX5_aim_65 (by decide) (fun c_7 => ?_) (fun c_7 => ?_)
      · have hcd : (kc_aim (kx_no v a9) (kx_wi p9 16) (kx_wi q9 16) p9 q9) = 2 := by
          unfold kc_aim
          rw [if_pos c_3, if_pos c_6]
        exact W.vret hx hb hr (fun t ht hW => ⟨⟨(2, ps, qs, kn), rfl, ⟨hcd.symm, Or.inr ⟨by rw [hcd]; decide, rfl⟩⟩, And.intro (by rw [ht]; exact hP) hD⟩, hS.F ht⟩) hS.2.2 dX5_aim_88
      · exact absurd c_7 (by decide)
    · refine lv_dload hx hb dX5_aim_26 (lv_at hl 3 rfl) ?_
      refine lv_ldc2d (v := 13848568854164275200) hx hb hown hc_62 dX5_aim_28 ?_
      refine lv_ldc2d (v := 4625196817309499392) hx hb hown hc_64 dX5_aim_31 ?_
      refine vp_callSi (W.runS (As := [.double q9, .double 13848568854164275200, .double 4625196817309499392]) (rest := [.ref m0]) ⟨hx, hb, hml, hown, hts⟩ (c_X5_between l G (x := q9) (lo := 13848568854164275200) (hi := 4625196817309499392)) (va_cwS 3 hts gX5_aim_X5_between rfl rfl rfl (by decide +kernel) ⟨Nat.le_of_ble_eq_true rfl, Nat.le_of_ble_eq_true rfl⟩) ⟨kx_PRb, kx_pr hT hP [] rfl⟩ rfl rfl hl.1 rfl (lv_room (Nat.le_of_ble_eq_true rfl)) dX5_aim_34 ⟨Nat.zero_le _, Nat.zero_le _⟩) (fun r_8 hw_9 => ?_)
      subst hw_9
      refine kx_ei (y := kx_wi q9 16) (kx_bt_16 q9) ?_
      refine lv_if_eq (x := kx_wi q9 16) (tgt := 53) hx hb dX5_aim_37 (by decide) (fun c_10 => ?_) (fun c_10 => ?_)
      · refine lv_iconst (v := 2) hx hb dX5_aim_53 (by decide) ?_
        refine lv_goto (tgt := 58) hx hb dX5_aim_54 (by decide) ?_
        refine va_put (D := G.1) (ci := 6) (v := .int 2) (ty := .int) (C := RX5) (T := TX5) (N := 19) hx hb hts hin_X5 tyX5 tyX5_ok nmX5 hown hT.1 hP hD hS 0 rfl rfl 0 (by decide) hf_55 (fun _ h9 => h9) rfl (by decide +kernel) rfl rfl (Nat.le_of_ble_eq_true rfl) dX5_aim_58 (fun H locs hP hD hS => ?_)
        have hP : va_P G.1 vwCl [(m0, .inr (6, [.int 2, .int (nI n), .int (nI v), .ref m1, .ref m2, .ref m3, .ref m4, .ref m5, .int kn, .int (nI ft), .ref m6, .ref m7, .int (nI ru), .ref m8, .ref m9, .ref m10, .int kp, .ref m11, .ref m12])), (m1, kx_aD G 8 ps), (m2, kx_aD G 8 qs), (m3, kx_aZ G 128 th), (m4, kx_aD G 128 fr), (m5, kx_aD G 128 to), (m6, kx_aZ G 16 fd), (m7, kx_aD G 64 sh), (m8, kx_aI G 6 ki), (m9, kx_aD G 6 li), (m10, kx_aI G 6 cl), (m11, kx_aD G 16 kx), (m12, kx_aD G 16 ky)] H := hP
        have hD : va_D A [(m0, .inr (6, [.int 2, .int (nI n), .int (nI v), .ref m1, .ref m2, .ref m3, .ref m4, .ref m5, .int kn, .int (nI ft), .ref m6, .ref m7, .int (nI ru), .ref m8, .ref m9, .ref m10, .int kp, .ref m11, .ref m12])), (m1, kx_aD G 8 ps), (m2, kx_aD G 8 qs), (m3, kx_aZ G 128 th), (m4, kx_aD G 128 fr), (m5, kx_aD G 128 to), (m6, kx_aZ G 16 fd), (m7, kx_aD G 64 sh), (m8, kx_aI G 6 ki), (m9, kx_aD G 6 li), (m10, kx_aI G 6 cl), (m11, kx_aD G 16 kx), (m12, kx_aD G 16 ky)] := hD
        refine lv_aload_n hx hb dX5_aim_61 rfl (lv_at hl 0 rfl) ?_
        refine va_get (D := G.1) (ci := 6) (v := .int 2) (C := RX5) (T := TX5) (N := 19) hx hb hts hin_X5 hown hT.1 hP 0 rfl rfl 0 (by decide) hf_55 (fun _ h9 => h9) rfl dX5_aim_62 ?_
        refine lv_if_ne (x := 2) (tgt := 88) hx hb dX5_aim_65 (by decide) (fun c_11 => ?_) (fun c_11 => ?_)
        · have hcd : (kc_aim (kx_no v a9) (kx_wi p9 16) (kx_wi q9 16) p9 q9) = 2 := by
            unfold kc_aim
            rw [if_pos c_3, if_neg c_6, if_pos c_10]
          exact W.vret hx hb hr (fun t ht hW => ⟨⟨(2, ps, qs, kn), rfl, ⟨hcd.symm, Or.inr ⟨by rw [hcd]; decide, rfl⟩⟩, And.intro (by rw [ht]; exact hP) hD⟩, hS.F ht⟩) hS.2.2 dX5_aim_88
        · exact absurd c_11 (by decide)
      · refine lv_dload_n hx hb dX5_aim_40 rfl (lv_at hl 2 rfl) ?_
        refine lv_dconst0 hx hb dX5_aim_41 ?_
        refine kx_deq (tgt := 57) hx hb dX5_aim_42 dX5_aim_43 (by decide) (fun c_12 => ?_) (fun c_12 => ?_)
        · refine lv_iconst (v := 0) hx hb dX5_aim_57 (by decide) ?_
          refine va_put (D := G.1) (ci := 6) (v := .int 0) (ty := .int) (C := RX5) (T := TX5) (N := 19) hx hb hts hin_X5 tyX5 tyX5_ok nmX5 hown hT.1 hP hD hS 0 rfl rfl 0 (by decide) hf_55 (fun _ h9 => h9) rfl (by decide +kernel) rfl rfl (Nat.le_of_ble_eq_true rfl) dX5_aim_58 (fun H locs hP hD hS => ?_)
          have hP : va_P G.1 vwCl [(m0, .inr (6, [.int 0, .int (nI n), .int (nI v), .ref m1, .ref m2, .ref m3, .ref m4, .ref m5, .int kn, .int (nI ft), .ref m6, .ref m7, .int (nI ru), .ref m8, .ref m9, .ref m10, .int kp, .ref m11, .ref m12])), (m1, kx_aD G 8 ps), (m2, kx_aD G 8 qs), (m3, kx_aZ G 128 th), (m4, kx_aD G 128 fr), (m5, kx_aD G 128 to), (m6, kx_aZ G 16 fd), (m7, kx_aD G 64 sh), (m8, kx_aI G 6 ki), (m9, kx_aD G 6 li), (m10, kx_aI G 6 cl), (m11, kx_aD G 16 kx), (m12, kx_aD G 16 ky)] H := hP
          have hD : va_D A [(m0, .inr (6, [.int 0, .int (nI n), .int (nI v), .ref m1, .ref m2, .ref m3, .ref m4, .ref m5, .int kn, .int (nI ft), .ref m6, .ref m7, .int (nI ru), .ref m8, .ref m9, .ref m10, .int kp, .ref m11, .ref m12])), (m1, kx_aD G 8 ps), (m2, kx_aD G 8 qs), (m3, kx_aZ G 128 th), (m4, kx_aD G 128 fr), (m5, kx_aD G 128 to), (m6, kx_aZ G 16 fd), (m7, kx_aD G 64 sh), (m8, kx_aI G 6 ki), (m9, kx_aD G 6 li), (m10, kx_aI G 6 cl), (m11, kx_aD G 16 kx), (m12, kx_aD G 16 ky)] := hD
          refine lv_aload_n hx hb dX5_aim_61 rfl (lv_at hl 0 rfl) ?_
          refine va_get (D := G.1) (ci := 6) (v := .int 0) (C := RX5) (T := TX5) (N := 19) hx hb hts hin_X5 hown hT.1 hP 0 rfl rfl 0 (by decide) hf_55 (fun _ h9 => h9) rfl dX5_aim_62 ?_
          refine lv_if_ne (x := 0) (tgt := 88) hx hb dX5_aim_65 (by decide) (fun c_13 => ?_) (fun c_13 => ?_)
          · exact absurd c_13 (by decide)
          · obtain ⟨i_, hi_, ea_⟩ := kx_no_0 (n := v) (by omega) c_3
            rw [ea_] at hl
            refine lv_aload_n hx hb dX5_aim_68 rfl (lv_at hl 0 rfl) ?_
            refine va_get (D := G.1) (ci := 6) (v := .ref m1) (C := RX5) (T := TX5) (N := 19) hx hb hts hin_X5 hown hT.1 hP 0 rfl rfl 3 (by decide) hf_7 (fun _ h9 => h9) rfl dX5_aim_69 ?_
            refine lv_iload_n hx hb dX5_aim_72 rfl (lv_at hl 1 rfl) ?_
            refine lv_dload_n hx hb dX5_aim_73 rfl (lv_at hl 2 rfl) ?_
            refine kx_dast hx hb hT hP hD hS 1 rfl i_ (by omega) (by omega) dX5_aim_74 (fun H locs hP hD hS => ?_)
            have hP : va_P G.1 vwCl [(m0, .inr (6, [.int 0, .int (nI n), .int (nI v), .ref m1, .ref m2, .ref m3, .ref m4, .ref m5, .int kn, .int (nI ft), .ref m6, .ref m7, .int (nI ru), .ref m8, .ref m9, .ref m10, .int kp, .ref m11, .ref m12])), (m1, kx_aD G 8 (vf_upd ps i_ p9)), (m2, kx_aD G 8 qs), (m3, kx_aZ G 128 th), (m4, kx_aD G 128 fr), (m5, kx_aD G 128 to), (m6, kx_aZ G 16 fd), (m7, kx_aD G 64 sh), (m8, kx_aI G 6 ki), (m9, kx_aD G 6 li), (m10, kx_aI G 6 cl), (m11, kx_aD G 16 kx), (m12, kx_aD G 16 ky)] H := hP
            have hD : va_D A [(m0, .inr (6, [.int 0, .int (nI n), .int (nI v), .ref m1, .ref m2, .ref m3, .ref m4, .ref m5, .int kn, .int (nI ft), .ref m6, .ref m7, .int (nI ru), .ref m8, .ref m9, .ref m10, .int kp, .ref m11, .ref m12])), (m1, kx_aD G 8 (vf_upd ps i_ p9)), (m2, kx_aD G 8 qs), (m3, kx_aZ G 128 th), (m4, kx_aD G 128 fr), (m5, kx_aD G 128 to), (m6, kx_aZ G 16 fd), (m7, kx_aD G 64 sh), (m8, kx_aI G 6 ki), (m9, kx_aD G 6 li), (m10, kx_aI G 6 cl), (m11, kx_aD G 16 kx), (m12, kx_aD G 16 ky)] := hD
            refine lv_aload_n hx hb dX5_aim_75 rfl (lv_at hl 0 rfl) ?_
            refine va_get (D := G.1) (ci := 6) (v := .ref m2) (C := RX5) (T := TX5) (N := 19) hx hb hts hin_X5 hown hT.1 hP 0 rfl rfl 4 (by decide) hf_13 (fun _ h9 => h9) rfl dX5_aim_76 ?_
            refine lv_iload_n hx hb dX5_aim_79 rfl (lv_at hl 1 rfl) ?_
            refine lv_dload hx hb dX5_aim_80 (lv_at hl 3 rfl) ?_
            refine kx_dast hx hb hT hP hD hS 2 rfl i_ (by omega) (by omega) dX5_aim_82 (fun H locs hP hD hS => ?_)
            have hP : va_P G.1 vwCl [(m0, .inr (6, [.int 0, .int (nI n), .int (nI v), .ref m1, .ref m2, .ref m3, .ref m4, .ref m5, .int kn, .int (nI ft), .ref m6, .ref m7, .int (nI ru), .ref m8, .ref m9, .ref m10, .int kp, .ref m11, .ref m12])), (m1, kx_aD G 8 (vf_upd ps i_ p9)), (m2, kx_aD G 8 (vf_upd qs i_ q9)), (m3, kx_aZ G 128 th), (m4, kx_aD G 128 fr), (m5, kx_aD G 128 to), (m6, kx_aZ G 16 fd), (m7, kx_aD G 64 sh), (m8, kx_aI G 6 ki), (m9, kx_aD G 6 li), (m10, kx_aI G 6 cl), (m11, kx_aD G 16 kx), (m12, kx_aD G 16 ky)] H := hP
            have hD : va_D A [(m0, .inr (6, [.int 0, .int (nI n), .int (nI v), .ref m1, .ref m2, .ref m3, .ref m4, .ref m5, .int kn, .int (nI ft), .ref m6, .ref m7, .int (nI ru), .ref m8, .ref m9, .ref m10, .int kp, .ref m11, .ref m12])), (m1, kx_aD G 8 (vf_upd ps i_ p9)), (m2, kx_aD G 8 (vf_upd qs i_ q9)), (m3, kx_aZ G 128 th), (m4, kx_aD G 128 fr), (m5, kx_aD G 128 to), (m6, kx_aZ G 16 fd), (m7, kx_aD G 64 sh), (m8, kx_aI G 6 ki), (m9, kx_aD G 6 li), (m10, kx_aI G 6 cl), (m11, kx_aD G 16 kx), (m12, kx_aD G 16 ky)] := hD
            refine lv_aload_n hx hb dX5_aim_83 rfl (lv_at hl 0 rfl) ?_
            refine lv_iconst (v := 0) hx hb dX5_aim_84 (by decide) ?_
            refine va_put (D := G.1) (ci := 6) (v := .int 0) (ty := .boolean) (C := RX5) (T := TX5) (N := 19) hx hb hts hin_X5 tyX5 tyX5_ok nmX5 hown hT.1 hP hD hS 0 rfl rfl 8 (by decide) hf_70 (fun _ h9 => h9) rfl (by decide +kernel) rfl rfl (Nat.le_of_ble_eq_true rfl) dX5_aim_85 (fun H locs hP hD hS => ?_)
            have hP : va_P G.1 vwCl [(m0, .inr (6, [.int 0, .int (nI n), .int (nI v), .ref m1, .ref m2, .ref m3, .ref m4, .ref m5, .int 0, .int (nI ft), .ref m6, .ref m7, .int (nI ru), .ref m8, .ref m9, .ref m10, .int kp, .ref m11, .ref m12])), (m1, kx_aD G 8 (vf_upd ps i_ p9)), (m2, kx_aD G 8 (vf_upd qs i_ q9)), (m3, kx_aZ G 128 th), (m4, kx_aD G 128 fr), (m5, kx_aD G 128 to), (m6, kx_aZ G 16 fd), (m7, kx_aD G 64 sh), (m8, kx_aI G 6 ki), (m9, kx_aD G 6 li), (m10, kx_aI G 6 cl), (m11, kx_aD G 16 kx), (m12, kx_aD G 16 ky)] H := hP
            have hD : va_D A [(m0, .inr (6, [.int 0, .int (nI n), .int (nI v), .ref m1, .ref m2, .ref m3, .ref m4, .ref m5, .int 0, .int (nI ft), .ref m6, .ref m7, .int (nI ru), .ref m8, .ref m9, .ref m10, .int kp, .ref m11, .ref m12])), (m1, kx_aD G 8 (vf_upd ps i_ p9)), (m2, kx_aD G 8 (vf_upd qs i_ q9)), (m3, kx_aZ G 128 th), (m4, kx_aD G 128 fr), (m5, kx_aD G 128 to), (m6, kx_aZ G 16 fd), (m7, kx_aD G 64 sh), (m8, kx_aI G 6 ki), (m9, kx_aD G 6 li), (m10, kx_aI G 6 cl), (m11, kx_aD G 16 kx), (m12, kx_aD G 16 ky)] := hD
            have hcd : (kc_aim (kx_no v a9) (kx_wi p9 16) (kx_wi q9 16) p9 q9) = 0 := by
              unfold kc_aim
              rw [if_pos c_3, if_neg c_6, if_neg c_10, if_pos c_12]
            exact W.vret hx hb hr (fun t ht hW => ⟨⟨(0, vf_upd ps i_ p9, vf_upd qs i_ q9, 0), rfl, ⟨hcd.symm, Or.inl ⟨hcd, by rw [ea_, nI_clamp (by omega)]⟩⟩, And.intro (by rw [ht]; exact hP) hD⟩, hS.F ht⟩) hS.2.2 dX5_aim_88
        · refine lv_dload hx hb dX5_aim_46 (lv_at hl 3 rfl) ?_
          refine lv_dconst0 hx hb dX5_aim_48 ?_
          refine kx_deq (tgt := 57) hx hb dX5_aim_49 dX5_aim_50 (by decide) (fun c_14 => ?_) (fun c_14 => ?_)
          · refine lv_iconst (v := 0) hx hb dX5_aim_57 (by decide) ?_
            refine va_put (D := G.1) (ci := 6) (v := .int 0) (ty := .int) (C := RX5) (T := TX5) (N := 19) hx hb hts hin_X5 tyX5 tyX5_ok nmX5 hown hT.1 hP hD hS 0 rfl rfl 0 (by decide) hf_55 (fun _ h9 => h9) rfl (by decide +kernel) rfl rfl (Nat.le_of_ble_eq_true rfl) dX5_aim_58 (fun H locs hP hD hS => ?_)
            have hP : va_P G.1 vwCl [(m0, .inr (6, [.int 0, .int (nI n), .int (nI v), .ref m1, .ref m2, .ref m3, .ref m4, .ref m5, .int kn, .int (nI ft), .ref m6, .ref m7, .int (nI ru), .ref m8, .ref m9, .ref m10, .int kp, .ref m11, .ref m12])), (m1, kx_aD G 8 ps), (m2, kx_aD G 8 qs), (m3, kx_aZ G 128 th), (m4, kx_aD G 128 fr), (m5, kx_aD G 128 to), (m6, kx_aZ G 16 fd), (m7, kx_aD G 64 sh), (m8, kx_aI G 6 ki), (m9, kx_aD G 6 li), (m10, kx_aI G 6 cl), (m11, kx_aD G 16 kx), (m12, kx_aD G 16 ky)] H := hP
            have hD : va_D A [(m0, .inr (6, [.int 0, .int (nI n), .int (nI v), .ref m1, .ref m2, .ref m3, .ref m4, .ref m5, .int kn, .int (nI ft), .ref m6, .ref m7, .int (nI ru), .ref m8, .ref m9, .ref m10, .int kp, .ref m11, .ref m12])), (m1, kx_aD G 8 ps), (m2, kx_aD G 8 qs), (m3, kx_aZ G 128 th), (m4, kx_aD G 128 fr), (m5, kx_aD G 128 to), (m6, kx_aZ G 16 fd), (m7, kx_aD G 64 sh), (m8, kx_aI G 6 ki), (m9, kx_aD G 6 li), (m10, kx_aI G 6 cl), (m11, kx_aD G 16 kx), (m12, kx_aD G 16 ky)] := hD
            refine lv_aload_n hx hb dX5_aim_61 rfl (lv_at hl 0 rfl) ?_
            refine va_get (D := G.1) (ci := 6) (v := .int 0) (C := RX5) (T := TX5) (N := 19) hx hb hts hin_X5 hown hT.1 hP 0 rfl rfl 0 (by decide) hf_55 (fun _ h9 => h9) rfl dX5_aim_62 ?_
            refine lv_if_ne (x := 0) (tgt := 88) hx hb dX5_aim_65 (by decide) (fun c_15 => ?_) (fun c_15 => ?_)
            · exact absurd c_15 (by decide)
            · obtain ⟨i_, hi_, ea_⟩ := kx_no_0 (n := v) (by omega) c_3
              rw [ea_] at hl
              refine lv_aload_n hx hb dX5_aim_68 rfl (lv_at hl 0 rfl) ?_
              refine va_get (D := G.1) (ci := 6) (v := .ref m1) (C := RX5) (T := TX5) (N := 19) hx hb hts hin_X5 hown hT.1 hP 0 rfl rfl 3 (by decide) hf_7 (fun _ h9 => h9) rfl dX5_aim_69 ?_
              refine lv_iload_n hx hb dX5_aim_72 rfl (lv_at hl 1 rfl) ?_
              refine lv_dload_n hx hb dX5_aim_73 rfl (lv_at hl 2 rfl) ?_
              refine kx_dast hx hb hT hP hD hS 1 rfl i_ (by omega) (by omega) dX5_aim_74 (fun H locs hP hD hS => ?_)
              have hP : va_P G.1 vwCl [(m0, .inr (6, [.int 0, .int (nI n), .int (nI v), .ref m1, .ref m2, .ref m3, .ref m4, .ref m5, .int kn, .int (nI ft), .ref m6, .ref m7, .int (nI ru), .ref m8, .ref m9, .ref m10, .int kp, .ref m11, .ref m12])), (m1, kx_aD G 8 (vf_upd ps i_ p9)), (m2, kx_aD G 8 qs), (m3, kx_aZ G 128 th), (m4, kx_aD G 128 fr), (m5, kx_aD G 128 to), (m6, kx_aZ G 16 fd), (m7, kx_aD G 64 sh), (m8, kx_aI G 6 ki), (m9, kx_aD G 6 li), (m10, kx_aI G 6 cl), (m11, kx_aD G 16 kx), (m12, kx_aD G 16 ky)] H := hP
              have hD : va_D A [(m0, .inr (6, [.int 0, .int (nI n), .int (nI v), .ref m1, .ref m2, .ref m3, .ref m4, .ref m5, .int kn, .int (nI ft), .ref m6, .ref m7, .int (nI ru), .ref m8, .ref m9, .ref m10, .int kp, .ref m11, .ref m12])), (m1, kx_aD G 8 (vf_upd ps i_ p9)), (m2, kx_aD G 8 qs), (m3, kx_aZ G 128 th), (m4, kx_aD G 128 fr), (m5, kx_aD G 128 to), (m6, kx_aZ G 16 fd), (m7, kx_aD G 64 sh), (m8, kx_aI G 6 ki), (m9, kx_aD G 6 li), (m10, kx_aI G 6 cl), (m11, kx_aD G 16 kx), (m12, kx_aD G 16 ky)] := hD
              refine lv_aload_n hx hb dX5_aim_75 rfl (lv_at hl 0 rfl) ?_
              refine va_get (D := G.1) (ci := 6) (v := .ref m2) (C := RX5) (T := TX5) (N := 19) hx hb hts hin_X5 hown hT.1 hP 0 rfl rfl 4 (by decide) hf_13 (fun _ h9 => h9) rfl dX5_aim_76 ?_
              refine lv_iload_n hx hb dX5_aim_79 rfl (lv_at hl 1 rfl) ?_
              refine lv_dload hx hb dX5_aim_80 (lv_at hl 3 rfl) ?_
              refine kx_dast hx hb hT hP hD hS 2 rfl i_ (by omega) (by omega) dX5_aim_82 (fun H locs hP hD hS => ?_)
              have hP : va_P G.1 vwCl [(m0, .inr (6, [.int 0, .int (nI n), .int (nI v), .ref m1, .ref m2, .ref m3, .ref m4, .ref m5, .int kn, .int (nI ft), .ref m6, .ref m7, .int (nI ru), .ref m8, .ref m9, .ref m10, .int kp, .ref m11, .ref m12])), (m1, kx_aD G 8 (vf_upd ps i_ p9)), (m2, kx_aD G 8 (vf_upd qs i_ q9)), (m3, kx_aZ G 128 th), (m4, kx_aD G 128 fr), (m5, kx_aD G 128 to), (m6, kx_aZ G 16 fd), (m7, kx_aD G 64 sh), (m8, kx_aI G 6 ki), (m9, kx_aD G 6 li), (m10, kx_aI G 6 cl), (m11, kx_aD G 16 kx), (m12, kx_aD G 16 ky)] H := hP
              have hD : va_D A [(m0, .inr (6, [.int 0, .int (nI n), .int (nI v), .ref m1, .ref m2, .ref m3, .ref m4, .ref m5, .int kn, .int (nI ft), .ref m6, .ref m7, .int (nI ru), .ref m8, .ref m9, .ref m10, .int kp, .ref m11, .ref m12])), (m1, kx_aD G 8 (vf_upd ps i_ p9)), (m2, kx_aD G 8 (vf_upd qs i_ q9)), (m3, kx_aZ G 128 th), (m4, kx_aD G 128 fr), (m5, kx_aD G 128 to), (m6, kx_aZ G 16 fd), (m7, kx_aD G 64 sh), (m8, kx_aI G 6 ki), (m9, kx_aD G 6 li), (m10, kx_aI G 6 cl), (m11, kx_aD G 16 kx), (m12, kx_aD G 16 ky)] := hD
              refine lv_aload_n hx hb dX5_aim_83 rfl (lv_at hl 0 rfl) ?_
              refine lv_iconst (v := 0) hx hb dX5_aim_84 (by decide) ?_
              refine va_put (D := G.1) (ci := 6) (v := .int 0) (ty := .boolean) (C := RX5) (T := TX5) (N := 19) hx hb hts hin_X5 tyX5 tyX5_ok nmX5 hown hT.1 hP hD hS 0 rfl rfl 8 (by decide) hf_70 (fun _ h9 => h9) rfl (by decide +kernel) rfl rfl (Nat.le_of_ble_eq_true rfl) dX5_aim_85 (fun H locs hP hD hS => ?_)
              have hP : va_P G.1 vwCl [(m0, .inr (6, [.int 0, .int (nI n), .int (nI v), .ref m1, .ref m2, .ref m3, .ref m4, .ref m5, .int 0, .int (nI ft), .ref m6, .ref m7, .int (nI ru), .ref m8, .ref m9, .ref m10, .int kp, .ref m11, .ref m12])), (m1, kx_aD G 8 (vf_upd ps i_ p9)), (m2, kx_aD G 8 (vf_upd qs i_ q9)), (m3, kx_aZ G 128 th), (m4, kx_aD G 128 fr), (m5, kx_aD G 128 to), (m6, kx_aZ G 16 fd), (m7, kx_aD G 64 sh), (m8, kx_aI G 6 ki), (m9, kx_aD G 6 li), (m10, kx_aI G 6 cl), (m11, kx_aD G 16 kx), (m12, kx_aD G 16 ky)] H := hP
              have hD : va_D A [(m0, .inr (6, [.int 0, .int (nI n), .int (nI v), .ref m1, .ref m2, .ref m3, .ref m4, .ref m5, .int 0, .int (nI ft), .ref m6, .ref m7, .int (nI ru), .ref m8, .ref m9, .ref m10, .int kp, .ref m11, .ref m12])), (m1, kx_aD G 8 (vf_upd ps i_ p9)), (m2, kx_aD G 8 (vf_upd qs i_ q9)), (m3, kx_aZ G 128 th), (m4, kx_aD G 128 fr), (m5, kx_aD G 128 to), (m6, kx_aZ G 16 fd), (m7, kx_aD G 64 sh), (m8, kx_aI G 6 ki), (m9, kx_aD G 6 li), (m10, kx_aI G 6 cl), (m11, kx_aD G 16 kx), (m12, kx_aD G 16 ky)] := hD
              have hcd : (kc_aim (kx_no v a9) (kx_wi p9 16) (kx_wi q9 16) p9 q9) = 0 := by
                unfold kc_aim
                rw [if_pos c_3, if_neg c_6, if_neg c_10, if_neg (fun q => q c_12), if_pos c_14]
              exact W.vret hx hb hr (fun t ht hW => ⟨⟨(0, vf_upd ps i_ p9, vf_upd qs i_ q9, 0), rfl, ⟨hcd.symm, Or.inl ⟨hcd, by rw [ea_, nI_clamp (by omega)]⟩⟩, And.intro (by rw [ht]; exact hP) hD⟩, hS.F ht⟩) hS.2.2 dX5_aim_88
          · refine lv_iconst (v := 2) hx hb dX5_aim_53 (by decide) ?_
            refine lv_goto (tgt := 58) hx hb dX5_aim_54 (by decide) ?_
            refine va_put (D := G.1) (ci := 6) (v := .int 2) (ty := .int) (C := RX5) (T := TX5) (N := 19) hx hb hts hin_X5 tyX5 tyX5_ok nmX5 hown hT.1 hP hD hS 0 rfl rfl 0 (by decide) hf_55 (fun _ h9 => h9) rfl (by decide +kernel) rfl rfl (Nat.le_of_ble_eq_true rfl) dX5_aim_58 (fun H locs hP hD hS => ?_)
            have hP : va_P G.1 vwCl [(m0, .inr (6, [.int 2, .int (nI n), .int (nI v), .ref m1, .ref m2, .ref m3, .ref m4, .ref m5, .int kn, .int (nI ft), .ref m6, .ref m7, .int (nI ru), .ref m8, .ref m9, .ref m10, .int kp, .ref m11, .ref m12])), (m1, kx_aD G 8 ps), (m2, kx_aD G 8 qs), (m3, kx_aZ G 128 th), (m4, kx_aD G 128 fr), (m5, kx_aD G 128 to), (m6, kx_aZ G 16 fd), (m7, kx_aD G 64 sh), (m8, kx_aI G 6 ki), (m9, kx_aD G 6 li), (m10, kx_aI G 6 cl), (m11, kx_aD G 16 kx), (m12, kx_aD G 16 ky)] H := hP
            have hD : va_D A [(m0, .inr (6, [.int 2, .int (nI n), .int (nI v), .ref m1, .ref m2, .ref m3, .ref m4, .ref m5, .int kn, .int (nI ft), .ref m6, .ref m7, .int (nI ru), .ref m8, .ref m9, .ref m10, .int kp, .ref m11, .ref m12])), (m1, kx_aD G 8 ps), (m2, kx_aD G 8 qs), (m3, kx_aZ G 128 th), (m4, kx_aD G 128 fr), (m5, kx_aD G 128 to), (m6, kx_aZ G 16 fd), (m7, kx_aD G 64 sh), (m8, kx_aI G 6 ki), (m9, kx_aD G 6 li), (m10, kx_aI G 6 cl), (m11, kx_aD G 16 kx), (m12, kx_aD G 16 ky)] := hD
            refine lv_aload_n hx hb dX5_aim_61 rfl (lv_at hl 0 rfl) ?_
            refine va_get (D := G.1) (ci := 6) (v := .int 2) (C := RX5) (T := TX5) (N := 19) hx hb hts hin_X5 hown hT.1 hP 0 rfl rfl 0 (by decide) hf_55 (fun _ h9 => h9) rfl dX5_aim_62 ?_
            refine lv_if_ne (x := 2) (tgt := 88) hx hb dX5_aim_65 (by decide) (fun c_16 => ?_) (fun c_16 => ?_)
            · have hcd : (kc_aim (kx_no v a9) (kx_wi p9 16) (kx_wi q9 16) p9 q9) = 2 := by
                unfold kc_aim
                rw [if_pos c_3, if_neg c_6, if_neg c_10, if_neg (fun q => q c_12), if_neg (fun q => q c_14)]
              exact W.vret hx hb hr (fun t ht hW => ⟨⟨(2, ps, qs, kn), rfl, ⟨hcd.symm, Or.inr ⟨by rw [hcd]; decide, rfl⟩⟩, And.intro (by rw [ht]; exact hP) hD⟩, hS.F ht⟩) hS.2.2 dX5_aim_88
            · exact absurd c_16 (by decide)
  · refine lv_iconst (v := 1) hx hb dX5_aim_9 (by decide) ?_
    refine lv_goto (tgt := 58) hx hb dX5_aim_10 (by decide) ?_
    refine va_put (D := G.1) (ci := 6) (v := .int 1) (ty := .int) (C := RX5) (T := TX5) (N := 19) hx hb hts hin_X5 tyX5 tyX5_ok nmX5 hown hT.1 hP hD hS 0 rfl rfl 0 (by decide) hf_55 (fun _ h9 => h9) rfl (by decide +kernel) rfl rfl (Nat.le_of_ble_eq_true rfl) dX5_aim_58 (fun H locs hP hD hS => ?_)
    have hP : va_P G.1 vwCl [(m0, .inr (6, [.int 1, .int (nI n), .int (nI v), .ref m1, .ref m2, .ref m3, .ref m4, .ref m5, .int kn, .int (nI ft), .ref m6, .ref m7, .int (nI ru), .ref m8, .ref m9, .ref m10, .int kp, .ref m11, .ref m12])), (m1, kx_aD G 8 ps), (m2, kx_aD G 8 qs), (m3, kx_aZ G 128 th), (m4, kx_aD G 128 fr), (m5, kx_aD G 128 to), (m6, kx_aZ G 16 fd), (m7, kx_aD G 64 sh), (m8, kx_aI G 6 ki), (m9, kx_aD G 6 li), (m10, kx_aI G 6 cl), (m11, kx_aD G 16 kx), (m12, kx_aD G 16 ky)] H := hP
    have hD : va_D A [(m0, .inr (6, [.int 1, .int (nI n), .int (nI v), .ref m1, .ref m2, .ref m3, .ref m4, .ref m5, .int kn, .int (nI ft), .ref m6, .ref m7, .int (nI ru), .ref m8, .ref m9, .ref m10, .int kp, .ref m11, .ref m12])), (m1, kx_aD G 8 ps), (m2, kx_aD G 8 qs), (m3, kx_aZ G 128 th), (m4, kx_aD G 128 fr), (m5, kx_aD G 128 to), (m6, kx_aZ G 16 fd), (m7, kx_aD G 64 sh), (m8, kx_aI G 6 ki), (m9, kx_aD G 6 li), (m10, kx_aI G 6 cl), (m11, kx_aD G 16 kx), (m12, kx_aD G 16 ky)] := hD
    refine lv_aload_n hx hb dX5_aim_61 rfl (lv_at hl 0 rfl) ?_
    refine va_get (D := G.1) (ci := 6) (v := .int 1) (C := RX5) (T := TX5) (N := 19) hx hb hts hin_X5 hown hT.1 hP 0 rfl rfl 0 (by decide) hf_55 (fun _ h9 => h9) rfl dX5_aim_62 ?_
    refine lv_if_ne (x := 1) (tgt := 88) hx hb dX5_aim_65 (by decide) (fun c_17 => ?_) (fun c_17 => ?_)
    · have hcd : (kc_aim (kx_no v a9) (kx_wi p9 16) (kx_wi q9 16) p9 q9) = 1 := by
        unfold kc_aim
        rw [if_neg c_3]
      exact W.vret hx hb hr (fun t ht hW => ⟨⟨(1, ps, qs, kn), rfl, ⟨hcd.symm, Or.inr ⟨by rw [hcd]; decide, rfl⟩⟩, And.intro (by rw [ht]; exact hP) hD⟩, hS.F ht⟩) hS.2.2 dX5_aim_88
    · exact absurd c_17 (by decide)
set_option maxHeartbeats 4000000 in
set_option maxRecDepth 100000 in
/-- shadow -/
theorem c_X5_shadow (l : Launch) (G : kx_G) (sz : Nat) (m0 : Nat) (m1 : Nat) (m2 : Nat) (m3 : Nat) (m4 : Nat) (m5 : Nat) (m6 : Nat) (m7 : Nat) (m8 : Nat) (m9 : Nat) (m10 : Nat) (m11 : Nat) (m12 : Nat) (n : Nat) (v : Nat) (tw : Int32) (ps : Nat → UInt64) (qs : Nat → UInt64) (th : Nat → Int32) (fr : Nat → UInt64) (to : Nat → UInt64) (kn : Int32) (ft : Nat) (fd : Nat → Int32) (sh : Nat → UInt64) (ru : Nat) (ki : Nat → Int32) (li : Nat → UInt64) (cl : Nat → Int32) (kp : Int32) (kx : Nat → UInt64) (ky : Nat → UInt64) (a9 : Int32) (b9 : Int32) (f9 : UInt64) (t9 : UInt64) (hb_ps : ∀ j, fx_bd 5 (ps j)) (hb_qs : ∀ j, fx_bd 5 (qs j)) (hb_fr : ∀ j, fx_bd 11 (fr j)) (hb_to : ∀ j, fx_bd 11 (to j)) (hb_sh : ∀ j, fx_bd 220 (sh j)) (hb_kx : ∀ j, fx_bd 130 (kx j)) (hb_ky : ∀ j, fx_bd 130 (ky j)) (hn1 : 1 ≤ n) (hn : n ≤ 16) (hv1 : 1 ≤ v) (hv : v ≤ 8) : Met l yX5_shadow wsX5_shadow ({ frames := 1, cells := 0, slots := 0, locals := 25 } : Room) (kx_PM G [.ref m0, .int a9, .int b9, .double f9, .double t9] sz [(m0, .inr (6, [.int tw, .int (nI n), .int (nI v), .ref m1, .ref m2, .ref m3, .ref m4, .ref m5, .int kn, .int (nI ft), .ref m6, .ref m7, .int (nI ru), .ref m8, .ref m9, .ref m10, .int kp, .ref m11, .ref m12])), (m1, kx_aD G 8 ps), (m2, kx_aD G 8 qs), (m3, kx_aZ G 128 th), (m4, kx_aD G 128 fr), (m5, kx_aD G 128 to), (m6, kx_aZ G 16 fd), (m7, kx_aD G 64 sh), (m8, kx_aI G 6 ki), (m9, kx_aD G 6 li), (m10, kx_aI G 6 cl), (m11, kx_aD G 16 kx), (m12, kx_aD G 16 ky)]) (va_Qv (fun (u : Int32 × (Nat → Int32) × (Nat → UInt64) × (Nat → UInt64) × Int32) => u.1 = (kc_sha (kx_no n a9) (kx_no v b9) (kx_wi f9 1000) (kx_wi t9 1000) f9 t9) ∧ (((kc_sha (kx_no n a9) (kx_no v b9) (kx_wi f9 1000) (kx_wi t9 1000) f9 t9) = 0 ∧ u.2 = (upd th (8 * a9.toNatClampNeg + b9.toNatClampNeg) 1, vf_upd fr (8 * a9.toNatClampNeg + b9.toNatClampNeg) f9, vf_upd to (8 * a9.toNatClampNeg + b9.toNatClampNeg) t9, 0)) ∨ ((kc_sha (kx_no n a9) (kx_no v b9) (kx_wi f9 1000) (kx_wi t9 1000) f9 t9) ≠ 0 ∧ u.2 = (th, fr, to, kn)))) (kx_B G (va_A [(m0, .inr (6, [.int tw, .int (nI n), .int (nI v), .ref m1, .ref m2, .ref m3, .ref m4, .ref m5, .int kn, .int (nI ft), .ref m6, .ref m7, .int (nI ru), .ref m8, .ref m9, .ref m10, .int kp, .ref m11, .ref m12])), (m1, kx_aD G 8 ps), (m2, kx_aD G 8 qs), (m3, kx_aZ G 128 th), (m4, kx_aD G 128 fr), (m5, kx_aD G 128 to), (m6, kx_aZ G 16 fd), (m7, kx_aD G 64 sh), (m8, kx_aI G 6 ki), (m9, kx_aD G 6 li), (m10, kx_aI G 6 cl), (m11, kx_aD G 16 kx), (m12, kx_aD G 16 ky)] sz) (fun u : Int32 × (Nat → Int32) × (Nat → UInt64) × (Nat → UInt64) × Int32 => [(m0, .inr (6, [.int u.1, .int (nI n), .int (nI v), .ref m1, .ref m2, .ref m3, .ref m4, .ref m5, .int u.2.2.2.2, .int (nI ft), .ref m6, .ref m7, .int (nI ru), .ref m8, .ref m9, .ref m10, .int kp, .ref m11, .ref m12])), (m1, kx_aD G 8 ps), (m2, kx_aD G 8 qs), (m3, kx_aZ G 128 u.2.1), (m4, kx_aD G 128 u.2.2.1), (m5, kx_aD G 128 u.2.2.2.1), (m6, kx_aZ G 16 fd), (m7, kx_aD G 64 sh), (m8, kx_aI G 6 ki), (m9, kx_aD G 6 li), (m10, kx_aI G 6 cl), (m11, kx_aD G 16 kx), (m12, kx_aD G 16 ky)])) (va_A [(m0, .inr (6, [.int tw, .int (nI n), .int (nI v), .ref m1, .ref m2, .ref m3, .ref m4, .ref m5, .int kn, .int (nI ft), .ref m6, .ref m7, .int (nI ru), .ref m8, .ref m9, .ref m10, .int kp, .ref m11, .ref m12])), (m1, kx_aD G 8 ps), (m2, kx_aD G 8 qs), (m3, kx_aZ G 128 th), (m4, kx_aD G 128 fr), (m5, kx_aD G 128 to), (m6, kx_aZ G 16 fd), (m7, kx_aD G 64 sh), (m8, kx_aI G 6 ki), (m9, kx_aD G 6 li), (m10, kx_aI G 6 cl), (m11, kx_aD G 16 kx), (m12, kx_aD G 16 ky)] sz)) 0 0 (va_A [(m0, .inr (6, [.int tw, .int (nI n), .int (nI v), .ref m1, .ref m2, .ref m3, .ref m4, .ref m5, .int kn, .int (nI ft), .ref m6, .ref m7, .int (nI ru), .ref m8, .ref m9, .ref m10, .int kp, .ref m11, .ref m12])), (m1, kx_aD G 8 ps), (m2, kx_aD G 8 qs), (m3, kx_aZ G 128 th), (m4, kx_aD G 128 fr), (m5, kx_aD G 128 to), (m6, kx_aZ G 16 fd), (m7, kx_aD G 64 sh), (m8, kx_aI G 6 ki), (m9, kx_aD G 6 li), (m10, kx_aI G 6 cl), (m11, kx_aD G 16 kx), (m12, kx_aD G 16 ky)] sz) := by
  refine Met.ofW (cc := cX5_shadow) (maxL := 7) (ret := none) (by decide) rfl ?_
  intro p e s m args below meth c s₁ B hml hv
  obtain ⟨rfl, hsz, hP, hT, hD0⟩ := hv
  have hx := B.exec
  have hb := B.bytes
  have hr := B.returns
  have hts := atoms_spec (ws := wsX5_shadow) B.pre
  have hown : s.vm.findClass RX5 = some m.cls := findClass_of_methodNamed B.named
  have hlocks := B.notSynchronized
  have hf_55 := hts (.fieldLink RX5 55 "StemShapesModel" "thrown" "I") (by decide +kernel)
  have hin_X5 : ∀ w ∈ wsX50, w ∈ wsX5_shadow := by decide +kernel
  have hc_77 := hts (.constantDouble RX5 77 (13875379345695965184)) (by decide +kernel)
  have hc_79 := hts (.constantDouble RX5 79 (4652007308841189376)) (by decide +kernel)
  have hf_16 := hts (.fieldLink RX5 16 "StemShapesModel" "there" "[Z") (by decide +kernel)
  have hf_20 := hts (.fieldLink RX5 20 "StemShapesModel" "froms" "[D") (by decide +kernel)
  have hf_23 := hts (.fieldLink RX5 23 "StemShapesModel" "tos" "[D") (by decide +kernel)
  have hf_70 := hts (.fieldLink RX5 70 "StemShapesModel" "known" "Z") (by decide +kernel)
  subst hsz
  have hD := hD0.self (sz := s.heap.size)
  generalize hAe : va_A [(m0, .inr (6, [.int tw, .int (nI n), .int (nI v), .ref m1, .ref m2, .ref m3, .ref m4, .ref m5, .int kn, .int (nI ft), .ref m6, .ref m7, .int (nI ru), .ref m8, .ref m9, .ref m10, .int kp, .ref m11, .ref m12])), (m1, kx_aD G 8 ps), (m2, kx_aD G 8 qs), (m3, kx_aZ G 128 th), (m4, kx_aD G 128 fr), (m5, kx_aD G 128 to), (m6, kx_aZ G 16 fd), (m7, kx_aD G 64 sh), (m8, kx_aI G 6 ki), (m9, kx_aD G 6 li), (m10, kx_aI G 6 cl), (m11, kx_aD G 16 kx), (m12, kx_aD G 16 ky)] s.heap.size = A at hD ⊢
  have hA : ∀ q : Nat, s.heap.size ≤ q → A q := fun q h => by rw [← hAe]; exact Or.inr h
  have hS : va_S A s.heap s.heap [] := va_S.rf
  have hl := lv_entry ([.ref m0, .int a9, .int b9, .double f9, .double t9]) (n := 7) (Nat.le_of_ble_eq_true rfl)
  rw [lg_entry_eq]
  generalize (lg_sl ([.ref m0, .int a9, .int b9, .double f9, .double t9]) ++ List.replicate (7 - (lg_sl ([.ref m0, .int a9, .int b9, .double f9, .double t9])).length) Slot.unset).toArray = ls at hl ⊢
  have hl : lv_has ls 7 [(0, .ref m0), (1, .int a9), (2, .int b9), (3, .double f9), (5, .double t9)] := hl
  refine lv_aload_n hx hb dX5_shadow_0 rfl (lv_at hl 0 rfl) ?_
  refine lv_aload_n hx hb dX5_shadow_1 rfl (lv_at hl 0 rfl) ?_
  refine lv_iload_n hx hb dX5_shadow_2 rfl (lv_at hl 1 rfl) ?_
  refine vp_callSi (W.runV (As := [.int a9]) (rest := [.ref m0]) ⟨hx, hb, hml, hown, hts⟩ (c_X5_noSlice l G (m0 := m0) (m1 := m1) (m2 := m2) (m3 := m3) (m4 := m4) (m5 := m5) (m6 := m6) (m7 := m7) (m8 := m8) (m9 := m9) (m10 := m10) (m11 := m11) (m12 := m12) (n := n) (v := v) (tw := tw) (ps := ps) (qs := qs) (th := th) (fr := fr) (to := to) (kn := kn) (ft := ft) (fd := fd) (sh := sh) (ru := ru) (ki := ki) (li := li) (cl := cl) (kp := kp) (kx := kx) (ky := ky) (a9 := a9) (hb_ps := hb_ps) (hb_qs := hb_qs) (hb_fr := hb_fr) (hb_to := hb_to) (hb_sh := hb_sh) (hb_kx := hb_kx) (hb_ky := hb_ky)) (cwV 1 hts gX5_shadow_X5_noSlice rfl rfl rfl (by decide +kernel) ⟨Nat.le_of_ble_eq_true rfl, Nat.le_of_ble_eq_true rfl⟩) ⟨kx_PRb, va_recv hT.1 hP (ci := 6) (q0 := 0) rfl rfl, kx_pr hT hP [0, 1, 2, 3, 4, 5, 6, 7, 8, 9, 10, 11, 12] rfl⟩ rfl rfl hl.1 rfl (lv_room (Nat.le_of_ble_eq_true rfl)) dX5_shadow_3 ⟨Nat.zero_le _, Nat.zero_le _⟩) (fun r_1 hw_2 => ?_)
  subst hw_2
  refine lv_if_ne (x := kx_no n a9) (tgt := 17) hx hb dX5_shadow_6 (by decide) (fun c_3 => ?_) (fun c_3 => ?_)
  · refine lv_iconst (v := 1) hx hb dX5_shadow_17 (by decide) ?_
    refine lv_goto (tgt := 60) hx hb dX5_shadow_18 (by decide) ?_
    refine va_put (D := G.1) (ci := 6) (v := .int 1) (ty := .int) (C := RX5) (T := TX5) (N := 19) hx hb hts hin_X5 tyX5 tyX5_ok nmX5 hown hT.1 hP hD hS 0 rfl rfl 0 (by decide) hf_55 (fun _ h9 => h9) rfl (by decide +kernel) rfl rfl (Nat.le_of_ble_eq_true rfl) dX5_shadow_60 (fun H locs hP hD hS => ?_)
    have hP : va_P G.1 vwCl [(m0, .inr (6, [.int 1, .int (nI n), .int (nI v), .ref m1, .ref m2, .ref m3, .ref m4, .ref m5, .int kn, .int (nI ft), .ref m6, .ref m7, .int (nI ru), .ref m8, .ref m9, .ref m10, .int kp, .ref m11, .ref m12])), (m1, kx_aD G 8 ps), (m2, kx_aD G 8 qs), (m3, kx_aZ G 128 th), (m4, kx_aD G 128 fr), (m5, kx_aD G 128 to), (m6, kx_aZ G 16 fd), (m7, kx_aD G 64 sh), (m8, kx_aI G 6 ki), (m9, kx_aD G 6 li), (m10, kx_aI G 6 cl), (m11, kx_aD G 16 kx), (m12, kx_aD G 16 ky)] H := hP
    have hD : va_D A [(m0, .inr (6, [.int 1, .int (nI n), .int (nI v), .ref m1, .ref m2, .ref m3, .ref m4, .ref m5, .int kn, .int (nI ft), .ref m6, .ref m7, .int (nI ru), .ref m8, .ref m9, .ref m10, .int kp, .ref m11, .ref m12])), (m1, kx_aD G 8 ps), (m2, kx_aD G 8 qs), (m3, kx_aZ G 128 th), (m4, kx_aD G 128 fr), (m5, kx_aD G 128 to), (m6, kx_aZ G 16 fd), (m7, kx_aD G 64 sh), (m8, kx_aI G 6 ki), (m9, kx_aD G 6 li), (m10, kx_aI G 6 cl), (m11, kx_aD G 16 kx), (m12, kx_aD G 16 ky)] := hD
    refine lv_aload_n hx hb dX5_shadow_63 rfl (lv_at hl 0 rfl) ?_
    refine va_get (D := G.1) (ci := 6) (v := .int 1) (C := RX5) (T := TX5) (N := 19) hx hb hts hin_X5 hown hT.1 hP 0 rfl rfl 0 (by decide) hf_55 (fun _ h9 => h9) rfl dX5_shadow_64 ?_
    refine lv_if_ne (x := 1) (tgt := 112) hx hb dX5_shadow_67 (by decide) (fun c_4 => ?_) (fun c_4 => ?_)
    · have hcd : (kc_sha (kx_no n a9) (kx_no v b9) (kx_wi f9 1000) (kx_wi t9 1000) f9 t9) = 1 := by
        unfold kc_sha
        rw [if_pos c_3]
      exact W.vret hx hb hr (fun t ht hW => ⟨⟨(1, th, fr, to, kn), rfl, ⟨hcd.symm, Or.inr ⟨by rw [hcd]; decide, rfl⟩⟩, And.intro (by rw [ht]; exact hP) hD⟩, hS.F ht⟩) hS.2.2 dX5_shadow_112
    · exact absurd c_4 (by decide)
  · refine lv_aload_n hx hb dX5_shadow_9 rfl (lv_at hl 0 rfl) ?_
    refine lv_iload_n hx hb dX5_shadow_10 rfl (lv_at hl 2 rfl) ?_
    refine vp_callSi (W.runV (As := [.int b9]) (rest := [.ref m0]) ⟨hx, hb, hml, hown, hts⟩ (c_X5_noView l G (m0 := m0) (m1 := m1) (m2 := m2) (m3 := m3) (m4 := m4) (m5 := m5) (m6 := m6) (m7 := m7) (m8 := m8) (m9 := m9) (m10 := m10) (m11 := m11) (m12 := m12) (n := n) (v := v) (tw := tw) (ps := ps) (qs := qs) (th := th) (fr := fr) (to := to) (kn := kn) (ft := ft) (fd := fd) (sh := sh) (ru := ru) (ki := ki) (li := li) (cl := cl) (kp := kp) (kx := kx) (ky := ky) (a9 := b9) (hb_ps := hb_ps) (hb_qs := hb_qs) (hb_fr := hb_fr) (hb_to := hb_to) (hb_sh := hb_sh) (hb_kx := hb_kx) (hb_ky := hb_ky)) (cwV 1 hts gX5_shadow_X5_noView rfl rfl rfl (by decide +kernel) ⟨Nat.le_of_ble_eq_true rfl, Nat.le_of_ble_eq_true rfl⟩) ⟨kx_PRb, va_recv hT.1 hP (ci := 6) (q0 := 0) rfl rfl, kx_pr hT hP [0, 1, 2, 3, 4, 5, 6, 7, 8, 9, 10, 11, 12] rfl⟩ rfl rfl hl.1 rfl (lv_room (Nat.le_of_ble_eq_true rfl)) dX5_shadow_11 ⟨Nat.zero_le _, Nat.zero_le _⟩) (fun r_5 hw_6 => ?_)
    subst hw_6
    refine lv_if_eq (x := kx_no v b9) (tgt := 21) hx hb dX5_shadow_14 (by decide) (fun c_7 => ?_) (fun c_7 => ?_)
    · refine lv_dload_n hx hb dX5_shadow_21 rfl (lv_at hl 3 rfl) ?_
      refine lv_ldc2d (v := 13875379345695965184) hx hb hown hc_77 dX5_shadow_22 ?_
      refine lv_ldc2d (v := 4652007308841189376) hx hb hown hc_79 dX5_shadow_25 ?_
      refine vp_callSi (W.runS (As := [.double f9, .double 13875379345695965184, .double 4652007308841189376]) (rest := [.ref m0]) ⟨hx, hb, hml, hown, hts⟩ (c_X5_between l G (x := f9) (lo := 13875379345695965184) (hi := 4652007308841189376)) (va_cwS 3 hts gX5_shadow_X5_between rfl rfl rfl (by decide +kernel) ⟨Nat.le_of_ble_eq_true rfl, Nat.le_of_ble_eq_true rfl⟩) ⟨kx_PRb, kx_pr hT hP [] rfl⟩ rfl rfl hl.1 rfl (lv_room (Nat.le_of_ble_eq_true rfl)) dX5_shadow_28 ⟨Nat.zero_le _, Nat.zero_le _⟩) (fun r_8 hw_9 => ?_)
      subst hw_9
      refine kx_ei (y := kx_wi f9 1000) (kx_bt_1000 f9) ?_
      refine lv_if_eq (x := kx_wi f9 1000) (tgt := 55) hx hb dX5_shadow_31 (by decide) (fun c_10 => ?_) (fun c_10 => ?_)
      · refine lv_iconst (v := 2) hx hb dX5_shadow_55 (by decide) ?_
        refine lv_goto (tgt := 60) hx hb dX5_shadow_56 (by decide) ?_
        refine va_put (D := G.1) (ci := 6) (v := .int 2) (ty := .int) (C := RX5) (T := TX5) (N := 19) hx hb hts hin_X5 tyX5 tyX5_ok nmX5 hown hT.1 hP hD hS 0 rfl rfl 0 (by decide) hf_55 (fun _ h9 => h9) rfl (by decide +kernel) rfl rfl (Nat.le_of_ble_eq_true rfl) dX5_shadow_60 (fun H locs hP hD hS => ?_)
        have hP : va_P G.1 vwCl [(m0, .inr (6, [.int 2, .int (nI n), .int (nI v), .ref m1, .ref m2, .ref m3, .ref m4, .ref m5, .int kn, .int (nI ft), .ref m6, .ref m7, .int (nI ru), .ref m8, .ref m9, .ref m10, .int kp, .ref m11, .ref m12])), (m1, kx_aD G 8 ps), (m2, kx_aD G 8 qs), (m3, kx_aZ G 128 th), (m4, kx_aD G 128 fr), (m5, kx_aD G 128 to), (m6, kx_aZ G 16 fd), (m7, kx_aD G 64 sh), (m8, kx_aI G 6 ki), (m9, kx_aD G 6 li), (m10, kx_aI G 6 cl), (m11, kx_aD G 16 kx), (m12, kx_aD G 16 ky)] H := hP
        have hD : va_D A [(m0, .inr (6, [.int 2, .int (nI n), .int (nI v), .ref m1, .ref m2, .ref m3, .ref m4, .ref m5, .int kn, .int (nI ft), .ref m6, .ref m7, .int (nI ru), .ref m8, .ref m9, .ref m10, .int kp, .ref m11, .ref m12])), (m1, kx_aD G 8 ps), (m2, kx_aD G 8 qs), (m3, kx_aZ G 128 th), (m4, kx_aD G 128 fr), (m5, kx_aD G 128 to), (m6, kx_aZ G 16 fd), (m7, kx_aD G 64 sh), (m8, kx_aI G 6 ki), (m9, kx_aD G 6 li), (m10, kx_aI G 6 cl), (m11, kx_aD G 16 kx), (m12, kx_aD G 16 ky)] := hD
        refine lv_aload_n hx hb dX5_shadow_63 rfl (lv_at hl 0 rfl) ?_
        refine va_get (D := G.1) (ci := 6) (v := .int 2) (C := RX5) (T := TX5) (N := 19) hx hb hts hin_X5 hown hT.1 hP 0 rfl rfl 0 (by decide) hf_55 (fun _ h9 => h9) rfl dX5_shadow_64 ?_
        refine lv_if_ne (x := 2) (tgt := 112) hx hb dX5_shadow_67 (by decide) (fun c_11 => ?_) (fun c_11 => ?_)
        · have hcd : (kc_sha (kx_no n a9) (kx_no v b9) (kx_wi f9 1000) (kx_wi t9 1000) f9 t9) = 2 := by
            unfold kc_sha
            rw [if_neg (fun q => q c_3), if_pos c_7, if_pos c_10]
          exact W.vret hx hb hr (fun t ht hW => ⟨⟨(2, th, fr, to, kn), rfl, ⟨hcd.symm, Or.inr ⟨by rw [hcd]; decide, rfl⟩⟩, And.intro (by rw [ht]; exact hP) hD⟩, hS.F ht⟩) hS.2.2 dX5_shadow_112
        · exact absurd c_11 (by decide)
      · refine lv_dload hx hb dX5_shadow_34 (lv_at hl 4 rfl) ?_
        refine lv_ldc2d (v := 13875379345695965184) hx hb hown hc_77 dX5_shadow_36 ?_
        refine lv_ldc2d (v := 4652007308841189376) hx hb hown hc_79 dX5_shadow_39 ?_
        refine vp_callSi (W.runS (As := [.double t9, .double 13875379345695965184, .double 4652007308841189376]) (rest := [.ref m0]) ⟨hx, hb, hml, hown, hts⟩ (c_X5_between l G (x := t9) (lo := 13875379345695965184) (hi := 4652007308841189376)) (va_cwS 3 hts gX5_shadow_X5_between rfl rfl rfl (by decide +kernel) ⟨Nat.le_of_ble_eq_true rfl, Nat.le_of_ble_eq_true rfl⟩) ⟨kx_PRb, kx_pr hT hP [] rfl⟩ rfl rfl hl.1 rfl (lv_room (Nat.le_of_ble_eq_true rfl)) dX5_shadow_42 ⟨Nat.zero_le _, Nat.zero_le _⟩) (fun r_12 hw_13 => ?_)
        subst hw_13
        refine kx_ei (y := kx_wi t9 1000) (kx_bt_1000 t9) ?_
        refine lv_if_eq (x := kx_wi t9 1000) (tgt := 55) hx hb dX5_shadow_45 (by decide) (fun c_14 => ?_) (fun c_14 => ?_)
        · refine lv_iconst (v := 2) hx hb dX5_shadow_55 (by decide) ?_
          refine lv_goto (tgt := 60) hx hb dX5_shadow_56 (by decide) ?_
          refine va_put (D := G.1) (ci := 6) (v := .int 2) (ty := .int) (C := RX5) (T := TX5) (N := 19) hx hb hts hin_X5 tyX5 tyX5_ok nmX5 hown hT.1 hP hD hS 0 rfl rfl 0 (by decide) hf_55 (fun _ h9 => h9) rfl (by decide +kernel) rfl rfl (Nat.le_of_ble_eq_true rfl) dX5_shadow_60 (fun H locs hP hD hS => ?_)
          have hP : va_P G.1 vwCl [(m0, .inr (6, [.int 2, .int (nI n), .int (nI v), .ref m1, .ref m2, .ref m3, .ref m4, .ref m5, .int kn, .int (nI ft), .ref m6, .ref m7, .int (nI ru), .ref m8, .ref m9, .ref m10, .int kp, .ref m11, .ref m12])), (m1, kx_aD G 8 ps), (m2, kx_aD G 8 qs), (m3, kx_aZ G 128 th), (m4, kx_aD G 128 fr), (m5, kx_aD G 128 to), (m6, kx_aZ G 16 fd), (m7, kx_aD G 64 sh), (m8, kx_aI G 6 ki), (m9, kx_aD G 6 li), (m10, kx_aI G 6 cl), (m11, kx_aD G 16 kx), (m12, kx_aD G 16 ky)] H := hP
          have hD : va_D A [(m0, .inr (6, [.int 2, .int (nI n), .int (nI v), .ref m1, .ref m2, .ref m3, .ref m4, .ref m5, .int kn, .int (nI ft), .ref m6, .ref m7, .int (nI ru), .ref m8, .ref m9, .ref m10, .int kp, .ref m11, .ref m12])), (m1, kx_aD G 8 ps), (m2, kx_aD G 8 qs), (m3, kx_aZ G 128 th), (m4, kx_aD G 128 fr), (m5, kx_aD G 128 to), (m6, kx_aZ G 16 fd), (m7, kx_aD G 64 sh), (m8, kx_aI G 6 ki), (m9, kx_aD G 6 li), (m10, kx_aI G 6 cl), (m11, kx_aD G 16 kx), (m12, kx_aD G 16 ky)] := hD
          refine lv_aload_n hx hb dX5_shadow_63 rfl (lv_at hl 0 rfl) ?_
          refine va_get (D := G.1) (ci := 6) (v := .int 2) (C := RX5) (T := TX5) (N := 19) hx hb hts hin_X5 hown hT.1 hP 0 rfl rfl 0 (by decide) hf_55 (fun _ h9 => h9) rfl dX5_shadow_64 ?_
          refine lv_if_ne (x := 2) (tgt := 112) hx hb dX5_shadow_67 (by decide) (fun c_15 => ?_) (fun c_15 => ?_)
          · have hcd : (kc_sha (kx_no n a9) (kx_no v b9) (kx_wi f9 1000) (kx_wi t9 1000) f9 t9) = 2 := by
              unfold kc_sha
              rw [if_neg (fun q => q c_3), if_pos c_7, if_neg c_10, if_pos c_14]
            exact W.vret hx hb hr (fun t ht hW => ⟨⟨(2, th, fr, to, kn), rfl, ⟨hcd.symm, Or.inr ⟨by rw [hcd]; decide, rfl⟩⟩, And.intro (by rw [ht]; exact hP) hD⟩, hS.F ht⟩) hS.2.2 dX5_shadow_112
          · exact absurd c_15 (by decide)
        · refine lv_dload hx hb dX5_shadow_48 (lv_at hl 4 rfl) ?_
          refine lv_dload_n hx hb dX5_shadow_50 rfl (lv_at hl 3 rfl) ?_
          refine kx_dlt (tgt := 59) hx hb dX5_shadow_51 dX5_shadow_52 (by decide) (fun c_16 => ?_) (fun c_16 => ?_)
          · refine lv_iconst (v := 0) hx hb dX5_shadow_59 (by decide) ?_
            refine va_put (D := G.1) (ci := 6) (v := .int 0) (ty := .int) (C := RX5) (T := TX5) (N := 19) hx hb hts hin_X5 tyX5 tyX5_ok nmX5 hown hT.1 hP hD hS 0 rfl rfl 0 (by decide) hf_55 (fun _ h9 => h9) rfl (by decide +kernel) rfl rfl (Nat.le_of_ble_eq_true rfl) dX5_shadow_60 (fun H locs hP hD hS => ?_)
            have hP : va_P G.1 vwCl [(m0, .inr (6, [.int 0, .int (nI n), .int (nI v), .ref m1, .ref m2, .ref m3, .ref m4, .ref m5, .int kn, .int (nI ft), .ref m6, .ref m7, .int (nI ru), .ref m8, .ref m9, .ref m10, .int kp, .ref m11, .ref m12])), (m1, kx_aD G 8 ps), (m2, kx_aD G 8 qs), (m3, kx_aZ G 128 th), (m4, kx_aD G 128 fr), (m5, kx_aD G 128 to), (m6, kx_aZ G 16 fd), (m7, kx_aD G 64 sh), (m8, kx_aI G 6 ki), (m9, kx_aD G 6 li), (m10, kx_aI G 6 cl), (m11, kx_aD G 16 kx), (m12, kx_aD G 16 ky)] H := hP
            have hD : va_D A [(m0, .inr (6, [.int 0, .int (nI n), .int (nI v), .ref m1, .ref m2, .ref m3, .ref m4, .ref m5, .int kn, .int (nI ft), .ref m6, .ref m7, .int (nI ru), .ref m8, .ref m9, .ref m10, .int kp, .ref m11, .ref m12])), (m1, kx_aD G 8 ps), (m2, kx_aD G 8 qs), (m3, kx_aZ G 128 th), (m4, kx_aD G 128 fr), (m5, kx_aD G 128 to), (m6, kx_aZ G 16 fd), (m7, kx_aD G 64 sh), (m8, kx_aI G 6 ki), (m9, kx_aD G 6 li), (m10, kx_aI G 6 cl), (m11, kx_aD G 16 kx), (m12, kx_aD G 16 ky)] := hD
            refine lv_aload_n hx hb dX5_shadow_63 rfl (lv_at hl 0 rfl) ?_
            refine va_get (D := G.1) (ci := 6) (v := .int 0) (C := RX5) (T := TX5) (N := 19) hx hb hts hin_X5 hown hT.1 hP 0 rfl rfl 0 (by decide) hf_55 (fun _ h9 => h9) rfl dX5_shadow_64 ?_
            refine lv_if_ne (x := 0) (tgt := 112) hx hb dX5_shadow_67 (by decide) (fun c_17 => ?_) (fun c_17 => ?_)
            · exact absurd c_17 (by decide)
            · obtain ⟨i_, hi_, ea_⟩ := kx_no_0 (n := n) (by omega) c_3
              rw [ea_] at hl
              obtain ⟨j_, hj_, eb_⟩ := kx_no_0 (n := v) (by omega) c_7
              rw [eb_] at hl
              refine lv_aload_n hx hb dX5_shadow_70 rfl (lv_at hl 0 rfl) ?_
              refine va_get (D := G.1) (ci := 6) (v := .ref m3) (C := RX5) (T := TX5) (N := 19) hx hb hts hin_X5 hown hT.1 hP 0 rfl rfl 5 (by decide) hf_16 (fun _ h9 => h9) rfl dX5_shadow_71 ?_
              refine lv_bipush (v := 8) hx hb dX5_shadow_74 (by decide) ?_
              refine lv_iload_n hx hb dX5_shadow_76 rfl (lv_at hl 1 rfl) ?_
              refine lv_imul hx hb dX5_shadow_77 ?_
              refine kx_ei (y := nI (8 * i_)) (pk_mul 8 i_) ?_
              refine lv_iload_n hx hb dX5_shadow_78 rfl (lv_at hl 2 rfl) ?_
              refine lv_iadd hx hb dX5_shadow_79 ?_
              refine kx_ei (y := nI ((8 * i_) + j_)) (nI_add (8 * i_) j_) ?_
              refine lv_iconst (v := 1) hx hb dX5_shadow_80 (by decide) ?_
              refine kx_zast hx hb hT hP hD hS 3 rfl ((8 * i_) + j_) rfl (by omega) (by omega) dX5_shadow_81 (fun H locs hP hD hS => ?_)
              have hP : va_P G.1 vwCl [(m0, .inr (6, [.int 0, .int (nI n), .int (nI v), .ref m1, .ref m2, .ref m3, .ref m4, .ref m5, .int kn, .int (nI ft), .ref m6, .ref m7, .int (nI ru), .ref m8, .ref m9, .ref m10, .int kp, .ref m11, .ref m12])), (m1, kx_aD G 8 ps), (m2, kx_aD G 8 qs), (m3, kx_aZ G 128 (upd th ((8 * i_) + j_) 1)), (m4, kx_aD G 128 fr), (m5, kx_aD G 128 to), (m6, kx_aZ G 16 fd), (m7, kx_aD G 64 sh), (m8, kx_aI G 6 ki), (m9, kx_aD G 6 li), (m10, kx_aI G 6 cl), (m11, kx_aD G 16 kx), (m12, kx_aD G 16 ky)] H := hP
              have hD : va_D A [(m0, .inr (6, [.int 0, .int (nI n), .int (nI v), .ref m1, .ref m2, .ref m3, .ref m4, .ref m5, .int kn, .int (nI ft), .ref m6, .ref m7, .int (nI ru), .ref m8, .ref m9, .ref m10, .int kp, .ref m11, .ref m12])), (m1, kx_aD G 8 ps), (m2, kx_aD G 8 qs), (m3, kx_aZ G 128 (upd th ((8 * i_) + j_) 1)), (m4, kx_aD G 128 fr), (m5, kx_aD G 128 to), (m6, kx_aZ G 16 fd), (m7, kx_aD G 64 sh), (m8, kx_aI G 6 ki), (m9, kx_aD G 6 li), (m10, kx_aI G 6 cl), (m11, kx_aD G 16 kx), (m12, kx_aD G 16 ky)] := hD
              refine lv_aload_n hx hb dX5_shadow_82 rfl (lv_at hl 0 rfl) ?_
              refine va_get (D := G.1) (ci := 6) (v := .ref m4) (C := RX5) (T := TX5) (N := 19) hx hb hts hin_X5 hown hT.1 hP 0 rfl rfl 6 (by decide) hf_20 (fun _ h9 => h9) rfl dX5_shadow_83 ?_
              refine lv_bipush (v := 8) hx hb dX5_shadow_86 (by decide) ?_
              refine lv_iload_n hx hb dX5_shadow_88 rfl (lv_at hl 1 rfl) ?_
              refine lv_imul hx hb dX5_shadow_89 ?_
              refine kx_ei (y := nI (8 * i_)) (pk_mul 8 i_) ?_
              refine lv_iload_n hx hb dX5_shadow_90 rfl (lv_at hl 2 rfl) ?_
              refine lv_iadd hx hb dX5_shadow_91 ?_
              refine kx_ei (y := nI ((8 * i_) + j_)) (nI_add (8 * i_) j_) ?_
              refine lv_dload_n hx hb dX5_shadow_92 rfl (lv_at hl 3 rfl) ?_
              refine kx_dast hx hb hT hP hD hS 4 rfl ((8 * i_) + j_) (by omega) (by omega) dX5_shadow_93 (fun H locs hP hD hS => ?_)
              have hP : va_P G.1 vwCl [(m0, .inr (6, [.int 0, .int (nI n), .int (nI v), .ref m1, .ref m2, .ref m3, .ref m4, .ref m5, .int kn, .int (nI ft), .ref m6, .ref m7, .int (nI ru), .ref m8, .ref m9, .ref m10, .int kp, .ref m11, .ref m12])), (m1, kx_aD G 8 ps), (m2, kx_aD G 8 qs), (m3, kx_aZ G 128 (upd th ((8 * i_) + j_) 1)), (m4, kx_aD G 128 (vf_upd fr ((8 * i_) + j_) f9)), (m5, kx_aD G 128 to), (m6, kx_aZ G 16 fd), (m7, kx_aD G 64 sh), (m8, kx_aI G 6 ki), (m9, kx_aD G 6 li), (m10, kx_aI G 6 cl), (m11, kx_aD G 16 kx), (m12, kx_aD G 16 ky)] H := hP
              have hD : va_D A [(m0, .inr (6, [.int 0, .int (nI n), .int (nI v), .ref m1, .ref m2, .ref m3, .ref m4, .ref m5, .int kn, .int (nI ft), .ref m6, .ref m7, .int (nI ru), .ref m8, .ref m9, .ref m10, .int kp, .ref m11, .ref m12])), (m1, kx_aD G 8 ps), (m2, kx_aD G 8 qs), (m3, kx_aZ G 128 (upd th ((8 * i_) + j_) 1)), (m4, kx_aD G 128 (vf_upd fr ((8 * i_) + j_) f9)), (m5, kx_aD G 128 to), (m6, kx_aZ G 16 fd), (m7, kx_aD G 64 sh), (m8, kx_aI G 6 ki), (m9, kx_aD G 6 li), (m10, kx_aI G 6 cl), (m11, kx_aD G 16 kx), (m12, kx_aD G 16 ky)] := hD
              refine lv_aload_n hx hb dX5_shadow_94 rfl (lv_at hl 0 rfl) ?_
              refine va_get (D := G.1) (ci := 6) (v := .ref m5) (C := RX5) (T := TX5) (N := 19) hx hb hts hin_X5 hown hT.1 hP 0 rfl rfl 7 (by decide) hf_23 (fun _ h9 => h9) rfl dX5_shadow_95 ?_
              refine lv_bipush (v := 8) hx hb dX5_shadow_98 (by decide) ?_
              refine lv_iload_n hx hb dX5_shadow_100 rfl (lv_at hl 1 rfl) ?_
              refine lv_imul hx hb dX5_shadow_101 ?_
              refine kx_ei (y := nI (8 * i_)) (pk_mul 8 i_) ?_
              refine lv_iload_n hx hb dX5_shadow_102 rfl (lv_at hl 2 rfl) ?_
              refine lv_iadd hx hb dX5_shadow_103 ?_
              refine kx_ei (y := nI ((8 * i_) + j_)) (nI_add (8 * i_) j_) ?_
              refine lv_dload hx hb dX5_shadow_104 (lv_at hl 4 rfl) ?_
              refine kx_dast hx hb hT hP hD hS 5 rfl ((8 * i_) + j_) (by omega) (by omega) dX5_shadow_106 (fun H locs hP hD hS => ?_)
              have hP : va_P G.1 vwCl [(m0, .inr (6, [.int 0, .int (nI n), .int (nI v), .ref m1, .ref m2, .ref m3, .ref m4, .ref m5, .int kn, .int (nI ft), .ref m6, .ref m7, .int (nI ru), .ref m8, .ref m9, .ref m10, .int kp, .ref m11, .ref m12])), (m1, kx_aD G 8 ps), (m2, kx_aD G 8 qs), (m3, kx_aZ G 128 (upd th ((8 * i_) + j_) 1)), (m4, kx_aD G 128 (vf_upd fr ((8 * i_) + j_) f9)), (m5, kx_aD G 128 (vf_upd to ((8 * i_) + j_) t9)), (m6, kx_aZ G 16 fd), (m7, kx_aD G 64 sh), (m8, kx_aI G 6 ki), (m9, kx_aD G 6 li), (m10, kx_aI G 6 cl), (m11, kx_aD G 16 kx), (m12, kx_aD G 16 ky)] H := hP
              have hD : va_D A [(m0, .inr (6, [.int 0, .int (nI n), .int (nI v), .ref m1, .ref m2, .ref m3, .ref m4, .ref m5, .int kn, .int (nI ft), .ref m6, .ref m7, .int (nI ru), .ref m8, .ref m9, .ref m10, .int kp, .ref m11, .ref m12])), (m1, kx_aD G 8 ps), (m2, kx_aD G 8 qs), (m3, kx_aZ G 128 (upd th ((8 * i_) + j_) 1)), (m4, kx_aD G 128 (vf_upd fr ((8 * i_) + j_) f9)), (m5, kx_aD G 128 (vf_upd to ((8 * i_) + j_) t9)), (m6, kx_aZ G 16 fd), (m7, kx_aD G 64 sh), (m8, kx_aI G 6 ki), (m9, kx_aD G 6 li), (m10, kx_aI G 6 cl), (m11, kx_aD G 16 kx), (m12, kx_aD G 16 ky)] := hD
              refine lv_aload_n hx hb dX5_shadow_107 rfl (lv_at hl 0 rfl) ?_
              refine lv_iconst (v := 0) hx hb dX5_shadow_108 (by decide) ?_
              refine va_put (D := G.1) (ci := 6) (v := .int 0) (ty := .boolean) (C := RX5) (T := TX5) (N := 19) hx hb hts hin_X5 tyX5 tyX5_ok nmX5 hown hT.1 hP hD hS 0 rfl rfl 8 (by decide) hf_70 (fun _ h9 => h9) rfl (by decide +kernel) rfl rfl (Nat.le_of_ble_eq_true rfl) dX5_shadow_109 (fun H locs hP hD hS => ?_)
              have hP : va_P G.1 vwCl [(m0, .inr (6, [.int 0, .int (nI n), .int (nI v), .ref m1, .ref m2, .ref m3, .ref m4, .ref m5, .int 0, .int (nI ft), .ref m6, .ref m7, .int (nI ru), .ref m8, .ref m9, .ref m10, .int kp, .ref m11, .ref m12])), (m1, kx_aD G 8 ps), (m2, kx_aD G 8 qs), (m3, kx_aZ G 128 (upd th ((8 * i_) + j_) 1)), (m4, kx_aD G 128 (vf_upd fr ((8 * i_) + j_) f9)), (m5, kx_aD G 128 (vf_upd to ((8 * i_) + j_) t9)), (m6, kx_aZ G 16 fd), (m7, kx_aD G 64 sh), (m8, kx_aI G 6 ki), (m9, kx_aD G 6 li), (m10, kx_aI G 6 cl), (m11, kx_aD G 16 kx), (m12, kx_aD G 16 ky)] H := hP
              have hD : va_D A [(m0, .inr (6, [.int 0, .int (nI n), .int (nI v), .ref m1, .ref m2, .ref m3, .ref m4, .ref m5, .int 0, .int (nI ft), .ref m6, .ref m7, .int (nI ru), .ref m8, .ref m9, .ref m10, .int kp, .ref m11, .ref m12])), (m1, kx_aD G 8 ps), (m2, kx_aD G 8 qs), (m3, kx_aZ G 128 (upd th ((8 * i_) + j_) 1)), (m4, kx_aD G 128 (vf_upd fr ((8 * i_) + j_) f9)), (m5, kx_aD G 128 (vf_upd to ((8 * i_) + j_) t9)), (m6, kx_aZ G 16 fd), (m7, kx_aD G 64 sh), (m8, kx_aI G 6 ki), (m9, kx_aD G 6 li), (m10, kx_aI G 6 cl), (m11, kx_aD G 16 kx), (m12, kx_aD G 16 ky)] := hD
              have hcd : (kc_sha (kx_no n a9) (kx_no v b9) (kx_wi f9 1000) (kx_wi t9 1000) f9 t9) = 0 := by
                unfold kc_sha
                rw [if_neg (fun q => q c_3), if_pos c_7, if_neg c_10, if_neg c_14, if_pos c_16]
              exact W.vret hx hb hr (fun t ht hW => ⟨⟨(0, upd th (8 * i_ + j_) 1, vf_upd fr (8 * i_ + j_) f9, vf_upd to (8 * i_ + j_) t9, 0), rfl, ⟨hcd.symm, Or.inl ⟨hcd, by rw [ea_, eb_, nI_clamp (by omega), nI_clamp (by omega)]⟩⟩, And.intro (by rw [ht]; exact hP) hD⟩, hS.F ht⟩) hS.2.2 dX5_shadow_112
          · refine lv_iconst (v := 2) hx hb dX5_shadow_55 (by decide) ?_
            refine lv_goto (tgt := 60) hx hb dX5_shadow_56 (by decide) ?_
            refine va_put (D := G.1) (ci := 6) (v := .int 2) (ty := .int) (C := RX5) (T := TX5) (N := 19) hx hb hts hin_X5 tyX5 tyX5_ok nmX5 hown hT.1 hP hD hS 0 rfl rfl 0 (by decide) hf_55 (fun _ h9 => h9) rfl (by decide +kernel) rfl rfl (Nat.le_of_ble_eq_true rfl) dX5_shadow_60 (fun H locs hP hD hS => ?_)
            have hP : va_P G.1 vwCl [(m0, .inr (6, [.int 2, .int (nI n), .int (nI v), .ref m1, .ref m2, .ref m3, .ref m4, .ref m5, .int kn, .int (nI ft), .ref m6, .ref m7, .int (nI ru), .ref m8, .ref m9, .ref m10, .int kp, .ref m11, .ref m12])), (m1, kx_aD G 8 ps), (m2, kx_aD G 8 qs), (m3, kx_aZ G 128 th), (m4, kx_aD G 128 fr), (m5, kx_aD G 128 to), (m6, kx_aZ G 16 fd), (m7, kx_aD G 64 sh), (m8, kx_aI G 6 ki), (m9, kx_aD G 6 li), (m10, kx_aI G 6 cl), (m11, kx_aD G 16 kx), (m12, kx_aD G 16 ky)] H := hP
            have hD : va_D A [(m0, .inr (6, [.int 2, .int (nI n), .int (nI v), .ref m1, .ref m2, .ref m3, .ref m4, .ref m5, .int kn, .int (nI ft), .ref m6, .ref m7, .int (nI ru), .ref m8, .ref m9, .ref m10, .int kp, .ref m11, .ref m12])), (m1, kx_aD G 8 ps), (m2, kx_aD G 8 qs), (m3, kx_aZ G 128 th), (m4, kx_aD G 128 fr), (m5, kx_aD G 128 to), (m6, kx_aZ G 16 fd), (m7, kx_aD G 64 sh), (m8, kx_aI G 6 ki), (m9, kx_aD G 6 li), (m10, kx_aI G 6 cl), (m11, kx_aD G 16 kx), (m12, kx_aD G 16 ky)] := hD
            refine lv_aload_n hx hb dX5_shadow_63 rfl (lv_at hl 0 rfl) ?_
            refine va_get (D := G.1) (ci := 6) (v := .int 2) (C := RX5) (T := TX5) (N := 19) hx hb hts hin_X5 hown hT.1 hP 0 rfl rfl 0 (by decide) hf_55 (fun _ h9 => h9) rfl dX5_shadow_64 ?_
            refine lv_if_ne (x := 2) (tgt := 112) hx hb dX5_shadow_67 (by decide) (fun c_18 => ?_) (fun c_18 => ?_)
            · have hcd : (kc_sha (kx_no n a9) (kx_no v b9) (kx_wi f9 1000) (kx_wi t9 1000) f9 t9) = 2 := by
                unfold kc_sha
                rw [if_neg (fun q => q c_3), if_pos c_7, if_neg c_10, if_neg c_14, if_neg (fun q => q c_16)]
              exact W.vret hx hb hr (fun t ht hW => ⟨⟨(2, th, fr, to, kn), rfl, ⟨hcd.symm, Or.inr ⟨by rw [hcd]; decide, rfl⟩⟩, And.intro (by rw [ht]; exact hP) hD⟩, hS.F ht⟩) hS.2.2 dX5_shadow_112
            · exact absurd c_18 (by decide)
    · refine lv_iconst (v := 1) hx hb dX5_shadow_17 (by decide) ?_
      refine lv_goto (tgt := 60) hx hb dX5_shadow_18 (by decide) ?_
      refine va_put (D := G.1) (ci := 6) (v := .int 1) (ty := .int) (C := RX5) (T := TX5) (N := 19) hx hb hts hin_X5 tyX5 tyX5_ok nmX5 hown hT.1 hP hD hS 0 rfl rfl 0 (by decide) hf_55 (fun _ h9 => h9) rfl (by decide +kernel) rfl rfl (Nat.le_of_ble_eq_true rfl) dX5_shadow_60 (fun H locs hP hD hS => ?_)
      have hP : va_P G.1 vwCl [(m0, .inr (6, [.int 1, .int (nI n), .int (nI v), .ref m1, .ref m2, .ref m3, .ref m4, .ref m5, .int kn, .int (nI ft), .ref m6, .ref m7, .int (nI ru), .ref m8, .ref m9, .ref m10, .int kp, .ref m11, .ref m12])), (m1, kx_aD G 8 ps), (m2, kx_aD G 8 qs), (m3, kx_aZ G 128 th), (m4, kx_aD G 128 fr), (m5, kx_aD G 128 to), (m6, kx_aZ G 16 fd), (m7, kx_aD G 64 sh), (m8, kx_aI G 6 ki), (m9, kx_aD G 6 li), (m10, kx_aI G 6 cl), (m11, kx_aD G 16 kx), (m12, kx_aD G 16 ky)] H := hP
      have hD : va_D A [(m0, .inr (6, [.int 1, .int (nI n), .int (nI v), .ref m1, .ref m2, .ref m3, .ref m4, .ref m5, .int kn, .int (nI ft), .ref m6, .ref m7, .int (nI ru), .ref m8, .ref m9, .ref m10, .int kp, .ref m11, .ref m12])), (m1, kx_aD G 8 ps), (m2, kx_aD G 8 qs), (m3, kx_aZ G 128 th), (m4, kx_aD G 128 fr), (m5, kx_aD G 128 to), (m6, kx_aZ G 16 fd), (m7, kx_aD G 64 sh), (m8, kx_aI G 6 ki), (m9, kx_aD G 6 li), (m10, kx_aI G 6 cl), (m11, kx_aD G 16 kx), (m12, kx_aD G 16 ky)] := hD
      refine lv_aload_n hx hb dX5_shadow_63 rfl (lv_at hl 0 rfl) ?_
      refine va_get (D := G.1) (ci := 6) (v := .int 1) (C := RX5) (T := TX5) (N := 19) hx hb hts hin_X5 hown hT.1 hP 0 rfl rfl 0 (by decide) hf_55 (fun _ h9 => h9) rfl dX5_shadow_64 ?_
      refine lv_if_ne (x := 1) (tgt := 112) hx hb dX5_shadow_67 (by decide) (fun c_19 => ?_) (fun c_19 => ?_)
      · have hcd : (kc_sha (kx_no n a9) (kx_no v b9) (kx_wi f9 1000) (kx_wi t9 1000) f9 t9) = 1 := by
          unfold kc_sha
          rw [if_neg (fun q => q c_3), if_neg c_7]
        exact W.vret hx hb hr (fun t ht hW => ⟨⟨(1, th, fr, to, kn), rfl, ⟨hcd.symm, Or.inr ⟨by rw [hcd]; decide, rfl⟩⟩, And.intro (by rw [ht]; exact hP) hD⟩, hS.F ht⟩) hS.2.2 dX5_shadow_112
      · exact absurd c_19 (by decide)
set_option maxHeartbeats 4000000 in
set_option maxRecDepth 100000 in
/-- lift -/
theorem c_X5_lift (l : Launch) (G : kx_G) (sz : Nat) (m0 : Nat) (m1 : Nat) (m2 : Nat) (m3 : Nat) (m4 : Nat) (m5 : Nat) (m6 : Nat) (m7 : Nat) (m8 : Nat) (m9 : Nat) (m10 : Nat) (m11 : Nat) (m12 : Nat) (n : Nat) (v : Nat) (tw : Int32) (ps : Nat → UInt64) (qs : Nat → UInt64) (th : Nat → Int32) (fr : Nat → UInt64) (to : Nat → UInt64) (kn : Int32) (ft : Nat) (fd : Nat → Int32) (sh : Nat → UInt64) (ru : Nat) (ki : Nat → Int32) (li : Nat → UInt64) (cl : Nat → Int32) (kp : Int32) (kx : Nat → UInt64) (ky : Nat → UInt64) (a9 : Int32) (b9 : Int32) (hb_ps : ∀ j, fx_bd 5 (ps j)) (hb_qs : ∀ j, fx_bd 5 (qs j)) (hb_fr : ∀ j, fx_bd 11 (fr j)) (hb_to : ∀ j, fx_bd 11 (to j)) (hb_sh : ∀ j, fx_bd 220 (sh j)) (hb_kx : ∀ j, fx_bd 130 (kx j)) (hb_ky : ∀ j, fx_bd 130 (ky j)) (hn1 : 1 ≤ n) (hn : n ≤ 16) (hv1 : 1 ≤ v) (hv : v ≤ 8) : Met l yX5_lift wsX5_lift ({ frames := 1, cells := 0, slots := 0, locals := 21 } : Room) (kx_PM G [.ref m0, .int a9, .int b9] sz [(m0, .inr (6, [.int tw, .int (nI n), .int (nI v), .ref m1, .ref m2, .ref m3, .ref m4, .ref m5, .int kn, .int (nI ft), .ref m6, .ref m7, .int (nI ru), .ref m8, .ref m9, .ref m10, .int kp, .ref m11, .ref m12])), (m1, kx_aD G 8 ps), (m2, kx_aD G 8 qs), (m3, kx_aZ G 128 th), (m4, kx_aD G 128 fr), (m5, kx_aD G 128 to), (m6, kx_aZ G 16 fd), (m7, kx_aD G 64 sh), (m8, kx_aI G 6 ki), (m9, kx_aD G 6 li), (m10, kx_aI G 6 cl), (m11, kx_aD G 16 kx), (m12, kx_aD G 16 ky)]) (va_Qi (fun (r : Int32) (u : Int32 × (Nat → Int32) × Int32) => u.1 = (kc_lif (kx_no n a9) (kx_no v b9)) ∧ (((kc_lif (kx_no n a9) (kx_no v b9)) = 0 ∧ th (8 * a9.toNatClampNeg + b9.toNatClampNeg) ≠ 0 ∧ r = 1 ∧ u.2 = (upd th (8 * a9.toNatClampNeg + b9.toNatClampNeg) 0, 0)) ∨ ((kc_lif (kx_no n a9) (kx_no v b9)) = 0 ∧ th (8 * a9.toNatClampNeg + b9.toNatClampNeg) = 0 ∧ r = 0 ∧ u.2 = (th, kn)) ∨ ((kc_lif (kx_no n a9) (kx_no v b9)) ≠ 0 ∧ r = 0 ∧ u.2 = (th, kn)))) (kx_B G (va_A [(m0, .inr (6, [.int tw, .int (nI n), .int (nI v), .ref m1, .ref m2, .ref m3, .ref m4, .ref m5, .int kn, .int (nI ft), .ref m6, .ref m7, .int (nI ru), .ref m8, .ref m9, .ref m10, .int kp, .ref m11, .ref m12])), (m1, kx_aD G 8 ps), (m2, kx_aD G 8 qs), (m3, kx_aZ G 128 th), (m4, kx_aD G 128 fr), (m5, kx_aD G 128 to), (m6, kx_aZ G 16 fd), (m7, kx_aD G 64 sh), (m8, kx_aI G 6 ki), (m9, kx_aD G 6 li), (m10, kx_aI G 6 cl), (m11, kx_aD G 16 kx), (m12, kx_aD G 16 ky)] sz) (fun u : Int32 × (Nat → Int32) × Int32 => [(m0, .inr (6, [.int u.1, .int (nI n), .int (nI v), .ref m1, .ref m2, .ref m3, .ref m4, .ref m5, .int u.2.2, .int (nI ft), .ref m6, .ref m7, .int (nI ru), .ref m8, .ref m9, .ref m10, .int kp, .ref m11, .ref m12])), (m1, kx_aD G 8 ps), (m2, kx_aD G 8 qs), (m3, kx_aZ G 128 u.2.1), (m4, kx_aD G 128 fr), (m5, kx_aD G 128 to), (m6, kx_aZ G 16 fd), (m7, kx_aD G 64 sh), (m8, kx_aI G 6 ki), (m9, kx_aD G 6 li), (m10, kx_aI G 6 cl), (m11, kx_aD G 16 kx), (m12, kx_aD G 16 ky)])) (va_A [(m0, .inr (6, [.int tw, .int (nI n), .int (nI v), .ref m1, .ref m2, .ref m3, .ref m4, .ref m5, .int kn, .int (nI ft), .ref m6, .ref m7, .int (nI ru), .ref m8, .ref m9, .ref m10, .int kp, .ref m11, .ref m12])), (m1, kx_aD G 8 ps), (m2, kx_aD G 8 qs), (m3, kx_aZ G 128 th), (m4, kx_aD G 128 fr), (m5, kx_aD G 128 to), (m6, kx_aZ G 16 fd), (m7, kx_aD G 64 sh), (m8, kx_aI G 6 ki), (m9, kx_aD G 6 li), (m10, kx_aI G 6 cl), (m11, kx_aD G 16 kx), (m12, kx_aD G 16 ky)] sz)) 0 0 (va_A [(m0, .inr (6, [.int tw, .int (nI n), .int (nI v), .ref m1, .ref m2, .ref m3, .ref m4, .ref m5, .int kn, .int (nI ft), .ref m6, .ref m7, .int (nI ru), .ref m8, .ref m9, .ref m10, .int kp, .ref m11, .ref m12])), (m1, kx_aD G 8 ps), (m2, kx_aD G 8 qs), (m3, kx_aZ G 128 th), (m4, kx_aD G 128 fr), (m5, kx_aD G 128 to), (m6, kx_aZ G 16 fd), (m7, kx_aD G 64 sh), (m8, kx_aI G 6 ki), (m9, kx_aD G 6 li), (m10, kx_aI G 6 cl), (m11, kx_aD G 16 kx), (m12, kx_aD G 16 ky)] sz) := by
  refine Met.ofW (cc := cX5_lift) (maxL := 3) (ret := (some .boolean)) (by decide) rfl ?_
  intro p e s m args below meth c s₁ B hml hv
  obtain ⟨rfl, hsz, hP, hT, hD0⟩ := hv
  have hx := B.exec
  have hb := B.bytes
  have hr := B.returns
  have hts := atoms_spec (ws := wsX5_lift) B.pre
  have hown : s.vm.findClass RX5 = some m.cls := findClass_of_methodNamed B.named
  have hlocks := B.notSynchronized
  have hf_55 := hts (.fieldLink RX5 55 "StemShapesModel" "thrown" "I") (by decide +kernel)
  have hin_X5 : ∀ w ∈ wsX50, w ∈ wsX5_lift := by decide +kernel
  have hf_16 := hts (.fieldLink RX5 16 "StemShapesModel" "there" "[Z") (by decide +kernel)
  have hf_70 := hts (.fieldLink RX5 70 "StemShapesModel" "known" "Z") (by decide +kernel)
  subst hsz
  have hD := hD0.self (sz := s.heap.size)
  generalize hAe : va_A [(m0, .inr (6, [.int tw, .int (nI n), .int (nI v), .ref m1, .ref m2, .ref m3, .ref m4, .ref m5, .int kn, .int (nI ft), .ref m6, .ref m7, .int (nI ru), .ref m8, .ref m9, .ref m10, .int kp, .ref m11, .ref m12])), (m1, kx_aD G 8 ps), (m2, kx_aD G 8 qs), (m3, kx_aZ G 128 th), (m4, kx_aD G 128 fr), (m5, kx_aD G 128 to), (m6, kx_aZ G 16 fd), (m7, kx_aD G 64 sh), (m8, kx_aI G 6 ki), (m9, kx_aD G 6 li), (m10, kx_aI G 6 cl), (m11, kx_aD G 16 kx), (m12, kx_aD G 16 ky)] s.heap.size = A at hD ⊢
  have hA : ∀ q : Nat, s.heap.size ≤ q → A q := fun q h => by rw [← hAe]; exact Or.inr h
  have hS : va_S A s.heap s.heap [] := va_S.rf
  have hl := lv_entry ([.ref m0, .int a9, .int b9]) (n := 3) (Nat.le_of_ble_eq_true rfl)
  rw [lg_entry_eq]
  generalize (lg_sl ([.ref m0, .int a9, .int b9]) ++ List.replicate (3 - (lg_sl ([.ref m0, .int a9, .int b9])).length) Slot.unset).toArray = ls at hl ⊢
  have hl : lv_has ls 3 [(0, .ref m0), (1, .int a9), (2, .int b9)] := hl
  refine lv_aload_n hx hb dX5_lift_0 rfl (lv_at hl 0 rfl) ?_
  refine lv_aload_n hx hb dX5_lift_1 rfl (lv_at hl 0 rfl) ?_
  refine lv_iload_n hx hb dX5_lift_2 rfl (lv_at hl 1 rfl) ?_
  refine vp_callSi (W.runV (As := [.int a9]) (rest := [.ref m0]) ⟨hx, hb, hml, hown, hts⟩ (c_X5_noSlice l G (m0 := m0) (m1 := m1) (m2 := m2) (m3 := m3) (m4 := m4) (m5 := m5) (m6 := m6) (m7 := m7) (m8 := m8) (m9 := m9) (m10 := m10) (m11 := m11) (m12 := m12) (n := n) (v := v) (tw := tw) (ps := ps) (qs := qs) (th := th) (fr := fr) (to := to) (kn := kn) (ft := ft) (fd := fd) (sh := sh) (ru := ru) (ki := ki) (li := li) (cl := cl) (kp := kp) (kx := kx) (ky := ky) (a9 := a9) (hb_ps := hb_ps) (hb_qs := hb_qs) (hb_fr := hb_fr) (hb_to := hb_to) (hb_sh := hb_sh) (hb_kx := hb_kx) (hb_ky := hb_ky)) (cwV 1 hts gX5_lift_X5_noSlice rfl rfl rfl (by decide +kernel) ⟨Nat.le_of_ble_eq_true rfl, Nat.le_of_ble_eq_true rfl⟩) ⟨kx_PRb, va_recv hT.1 hP (ci := 6) (q0 := 0) rfl rfl, kx_pr hT hP [0, 1, 2, 3, 4, 5, 6, 7, 8, 9, 10, 11, 12] rfl⟩ rfl rfl hl.1 rfl (lv_room (Nat.le_of_ble_eq_true rfl)) dX5_lift_3 ⟨Nat.zero_le _, Nat.zero_le _⟩) (fun r_1 hw_2 => ?_)
  subst hw_2
  refine lv_if_ne (x := kx_no n a9) (tgt := 17) hx hb dX5_lift_6 (by decide) (fun c_3 => ?_) (fun c_3 => ?_)
  · refine lv_iconst (v := 1) hx hb dX5_lift_17 (by decide) ?_
    refine lv_goto (tgt := 22) hx hb dX5_lift_18 (by decide) ?_
    refine va_put (D := G.1) (ci := 6) (v := .int 1) (ty := .int) (C := RX5) (T := TX5) (N := 19) hx hb hts hin_X5 tyX5 tyX5_ok nmX5 hown hT.1 hP hD hS 0 rfl rfl 0 (by decide) hf_55 (fun _ h9 => h9) rfl (by decide +kernel) rfl rfl (Nat.le_of_ble_eq_true rfl) dX5_lift_22 (fun H locs hP hD hS => ?_)
    have hP : va_P G.1 vwCl [(m0, .inr (6, [.int 1, .int (nI n), .int (nI v), .ref m1, .ref m2, .ref m3, .ref m4, .ref m5, .int kn, .int (nI ft), .ref m6, .ref m7, .int (nI ru), .ref m8, .ref m9, .ref m10, .int kp, .ref m11, .ref m12])), (m1, kx_aD G 8 ps), (m2, kx_aD G 8 qs), (m3, kx_aZ G 128 th), (m4, kx_aD G 128 fr), (m5, kx_aD G 128 to), (m6, kx_aZ G 16 fd), (m7, kx_aD G 64 sh), (m8, kx_aI G 6 ki), (m9, kx_aD G 6 li), (m10, kx_aI G 6 cl), (m11, kx_aD G 16 kx), (m12, kx_aD G 16 ky)] H := hP
    have hD : va_D A [(m0, .inr (6, [.int 1, .int (nI n), .int (nI v), .ref m1, .ref m2, .ref m3, .ref m4, .ref m5, .int kn, .int (nI ft), .ref m6, .ref m7, .int (nI ru), .ref m8, .ref m9, .ref m10, .int kp, .ref m11, .ref m12])), (m1, kx_aD G 8 ps), (m2, kx_aD G 8 qs), (m3, kx_aZ G 128 th), (m4, kx_aD G 128 fr), (m5, kx_aD G 128 to), (m6, kx_aZ G 16 fd), (m7, kx_aD G 64 sh), (m8, kx_aI G 6 ki), (m9, kx_aD G 6 li), (m10, kx_aI G 6 cl), (m11, kx_aD G 16 kx), (m12, kx_aD G 16 ky)] := hD
    refine lv_aload_n hx hb dX5_lift_25 rfl (lv_at hl 0 rfl) ?_
    refine va_get (D := G.1) (ci := 6) (v := .int 1) (C := RX5) (T := TX5) (N := 19) hx hb hts hin_X5 hown hT.1 hP 0 rfl rfl 0 (by decide) hf_55 (fun _ h9 => h9) rfl dX5_lift_26 ?_
    refine lv_if_gt (x := 1) (tgt := 46) hx hb dX5_lift_29 (by decide) (fun c_4 => ?_) (fun c_4 => ?_)
    · refine lv_iconst (v := 0) hx hb dX5_lift_46 (by decide) ?_
      have hcd : (kc_lif (kx_no n a9) (kx_no v b9)) = 1 := by
        unfold kc_lif
        rw [if_pos c_3]
      exact W.zret (v := 0) hx hb hr rfl (fun t ht hW => ⟨⟨0, (1, th, kn), rfl, ⟨hcd.symm, Or.inr (Or.inr ⟨by rw [hcd]; decide, rfl, rfl⟩)⟩, And.intro (by rw [ht]; exact hP) hD⟩, hS.F ht⟩) hS.2.2 dX5_lift_47
    · exact absurd c_4 (by decide)
  · refine lv_aload_n hx hb dX5_lift_9 rfl (lv_at hl 0 rfl) ?_
    refine lv_iload_n hx hb dX5_lift_10 rfl (lv_at hl 2 rfl) ?_
    refine vp_callSi (W.runV (As := [.int b9]) (rest := [.ref m0]) ⟨hx, hb, hml, hown, hts⟩ (c_X5_noView l G (m0 := m0) (m1 := m1) (m2 := m2) (m3 := m3) (m4 := m4) (m5 := m5) (m6 := m6) (m7 := m7) (m8 := m8) (m9 := m9) (m10 := m10) (m11 := m11) (m12 := m12) (n := n) (v := v) (tw := tw) (ps := ps) (qs := qs) (th := th) (fr := fr) (to := to) (kn := kn) (ft := ft) (fd := fd) (sh := sh) (ru := ru) (ki := ki) (li := li) (cl := cl) (kp := kp) (kx := kx) (ky := ky) (a9 := b9) (hb_ps := hb_ps) (hb_qs := hb_qs) (hb_fr := hb_fr) (hb_to := hb_to) (hb_sh := hb_sh) (hb_kx := hb_kx) (hb_ky := hb_ky)) (cwV 1 hts gX5_lift_X5_noView rfl rfl rfl (by decide +kernel) ⟨Nat.le_of_ble_eq_true rfl, Nat.le_of_ble_eq_true rfl⟩) ⟨kx_PRb, va_recv hT.1 hP (ci := 6) (q0 := 0) rfl rfl, kx_pr hT hP [0, 1, 2, 3, 4, 5, 6, 7, 8, 9, 10, 11, 12] rfl⟩ rfl rfl hl.1 rfl (lv_room (Nat.le_of_ble_eq_true rfl)) dX5_lift_11 ⟨Nat.zero_le _, Nat.zero_le _⟩) (fun r_5 hw_6 => ?_)
    subst hw_6
    refine lv_if_eq (x := kx_no v b9) (tgt := 21) hx hb dX5_lift_14 (by decide) (fun c_7 => ?_) (fun c_7 => ?_)
    · refine lv_iconst (v := 0) hx hb dX5_lift_21 (by decide) ?_
      refine va_put (D := G.1) (ci := 6) (v := .int 0) (ty := .int) (C := RX5) (T := TX5) (N := 19) hx hb hts hin_X5 tyX5 tyX5_ok nmX5 hown hT.1 hP hD hS 0 rfl rfl 0 (by decide) hf_55 (fun _ h9 => h9) rfl (by decide +kernel) rfl rfl (Nat.le_of_ble_eq_true rfl) dX5_lift_22 (fun H locs hP hD hS => ?_)
      have hP : va_P G.1 vwCl [(m0, .inr (6, [.int 0, .int (nI n), .int (nI v), .ref m1, .ref m2, .ref m3, .ref m4, .ref m5, .int kn, .int (nI ft), .ref m6, .ref m7, .int (nI ru), .ref m8, .ref m9, .ref m10, .int kp, .ref m11, .ref m12])), (m1, kx_aD G 8 ps), (m2, kx_aD G 8 qs), (m3, kx_aZ G 128 th), (m4, kx_aD G 128 fr), (m5, kx_aD G 128 to), (m6, kx_aZ G 16 fd), (m7, kx_aD G 64 sh), (m8, kx_aI G 6 ki), (m9, kx_aD G 6 li), (m10, kx_aI G 6 cl), (m11, kx_aD G 16 kx), (m12, kx_aD G 16 ky)] H := hP
      have hD : va_D A [(m0, .inr (6, [.int 0, .int (nI n), .int (nI v), .ref m1, .ref m2, .ref m3, .ref m4, .ref m5, .int kn, .int (nI ft), .ref m6, .ref m7, .int (nI ru), .ref m8, .ref m9, .ref m10, .int kp, .ref m11, .ref m12])), (m1, kx_aD G 8 ps), (m2, kx_aD G 8 qs), (m3, kx_aZ G 128 th), (m4, kx_aD G 128 fr), (m5, kx_aD G 128 to), (m6, kx_aZ G 16 fd), (m7, kx_aD G 64 sh), (m8, kx_aI G 6 ki), (m9, kx_aD G 6 li), (m10, kx_aI G 6 cl), (m11, kx_aD G 16 kx), (m12, kx_aD G 16 ky)] := hD
      refine lv_aload_n hx hb dX5_lift_25 rfl (lv_at hl 0 rfl) ?_
      refine va_get (D := G.1) (ci := 6) (v := .int 0) (C := RX5) (T := TX5) (N := 19) hx hb hts hin_X5 hown hT.1 hP 0 rfl rfl 0 (by decide) hf_55 (fun _ h9 => h9) rfl dX5_lift_26 ?_
      refine lv_if_gt (x := 0) (tgt := 46) hx hb dX5_lift_29 (by decide) (fun c_8 => ?_) (fun c_8 => ?_)
      · exact absurd c_8 (by decide)
      · obtain ⟨i_, hi_, ea_⟩ := kx_no_0 (n := n) (by omega) c_3
        rw [ea_] at hl
        obtain ⟨j_, hj_, eb_⟩ := kx_no_0 (n := v) (by omega) c_7
        rw [eb_] at hl
        refine lv_aload_n hx hb dX5_lift_32 rfl (lv_at hl 0 rfl) ?_
        refine va_get (D := G.1) (ci := 6) (v := .ref m3) (C := RX5) (T := TX5) (N := 19) hx hb hts hin_X5 hown hT.1 hP 0 rfl rfl 5 (by decide) hf_16 (fun _ h9 => h9) rfl dX5_lift_33 ?_
        refine lv_bipush (v := 8) hx hb dX5_lift_36 (by decide) ?_
        refine lv_iload_n hx hb dX5_lift_38 rfl (lv_at hl 1 rfl) ?_
        refine lv_imul hx hb dX5_lift_39 ?_
        refine kx_ei (y := nI (8 * i_)) (pk_mul 8 i_) ?_
        refine lv_iload_n hx hb dX5_lift_40 rfl (lv_at hl 2 rfl) ?_
        refine lv_iadd hx hb dX5_lift_41 ?_
        refine kx_ei (y := nI ((8 * i_) + j_)) (nI_add (8 * i_) j_) ?_
        refine kx_zald hx hb hT hP 3 rfl ((8 * i_) + j_) (by omega) (by omega) dX5_lift_42 ?_
        refine lv_if_ne (x := th ((8 * i_) + j_)) (tgt := 48) hx hb dX5_lift_43 (by decide) (fun c_9 => ?_) (fun c_9 => ?_)
        · refine lv_aload_n hx hb dX5_lift_48 rfl (lv_at hl 0 rfl) ?_
          refine va_get (D := G.1) (ci := 6) (v := .ref m3) (C := RX5) (T := TX5) (N := 19) hx hb hts hin_X5 hown hT.1 hP 0 rfl rfl 5 (by decide) hf_16 (fun _ h9 => h9) rfl dX5_lift_49 ?_
          refine lv_bipush (v := 8) hx hb dX5_lift_52 (by decide) ?_
          refine lv_iload_n hx hb dX5_lift_54 rfl (lv_at hl 1 rfl) ?_
          refine lv_imul hx hb dX5_lift_55 ?_
          refine kx_ei (y := nI (8 * i_)) (pk_mul 8 i_) ?_
          refine lv_iload_n hx hb dX5_lift_56 rfl (lv_at hl 2 rfl) ?_
          refine lv_iadd hx hb dX5_lift_57 ?_
          refine kx_ei (y := nI ((8 * i_) + j_)) (nI_add (8 * i_) j_) ?_
          refine lv_iconst (v := 0) hx hb dX5_lift_58 (by decide) ?_
          refine kx_zast hx hb hT hP hD hS 3 rfl ((8 * i_) + j_) rfl (by omega) (by omega) dX5_lift_59 (fun H locs hP hD hS => ?_)
          have hP : va_P G.1 vwCl [(m0, .inr (6, [.int 0, .int (nI n), .int (nI v), .ref m1, .ref m2, .ref m3, .ref m4, .ref m5, .int kn, .int (nI ft), .ref m6, .ref m7, .int (nI ru), .ref m8, .ref m9, .ref m10, .int kp, .ref m11, .ref m12])), (m1, kx_aD G 8 ps), (m2, kx_aD G 8 qs), (m3, kx_aZ G 128 (upd th ((8 * i_) + j_) 0)), (m4, kx_aD G 128 fr), (m5, kx_aD G 128 to), (m6, kx_aZ G 16 fd), (m7, kx_aD G 64 sh), (m8, kx_aI G 6 ki), (m9, kx_aD G 6 li), (m10, kx_aI G 6 cl), (m11, kx_aD G 16 kx), (m12, kx_aD G 16 ky)] H := hP
          have hD : va_D A [(m0, .inr (6, [.int 0, .int (nI n), .int (nI v), .ref m1, .ref m2, .ref m3, .ref m4, .ref m5, .int kn, .int (nI ft), .ref m6, .ref m7, .int (nI ru), .ref m8, .ref m9, .ref m10, .int kp, .ref m11, .ref m12])), (m1, kx_aD G 8 ps), (m2, kx_aD G 8 qs), (m3, kx_aZ G 128 (upd th ((8 * i_) + j_) 0)), (m4, kx_aD G 128 fr), (m5, kx_aD G 128 to), (m6, kx_aZ G 16 fd), (m7, kx_aD G 64 sh), (m8, kx_aI G 6 ki), (m9, kx_aD G 6 li), (m10, kx_aI G 6 cl), (m11, kx_aD G 16 kx), (m12, kx_aD G 16 ky)] := hD
          refine lv_aload_n hx hb dX5_lift_60 rfl (lv_at hl 0 rfl) ?_
          refine lv_iconst (v := 0) hx hb dX5_lift_61 (by decide) ?_
          refine va_put (D := G.1) (ci := 6) (v := .int 0) (ty := .boolean) (C := RX5) (T := TX5) (N := 19) hx hb hts hin_X5 tyX5 tyX5_ok nmX5 hown hT.1 hP hD hS 0 rfl rfl 8 (by decide) hf_70 (fun _ h9 => h9) rfl (by decide +kernel) rfl rfl (Nat.le_of_ble_eq_true rfl) dX5_lift_62 (fun H locs hP hD hS => ?_)
          have hP : va_P G.1 vwCl [(m0, .inr (6, [.int 0, .int (nI n), .int (nI v), .ref m1, .ref m2, .ref m3, .ref m4, .ref m5, .int 0, .int (nI ft), .ref m6, .ref m7, .int (nI ru), .ref m8, .ref m9, .ref m10, .int kp, .ref m11, .ref m12])), (m1, kx_aD G 8 ps), (m2, kx_aD G 8 qs), (m3, kx_aZ G 128 (upd th ((8 * i_) + j_) 0)), (m4, kx_aD G 128 fr), (m5, kx_aD G 128 to), (m6, kx_aZ G 16 fd), (m7, kx_aD G 64 sh), (m8, kx_aI G 6 ki), (m9, kx_aD G 6 li), (m10, kx_aI G 6 cl), (m11, kx_aD G 16 kx), (m12, kx_aD G 16 ky)] H := hP
          have hD : va_D A [(m0, .inr (6, [.int 0, .int (nI n), .int (nI v), .ref m1, .ref m2, .ref m3, .ref m4, .ref m5, .int 0, .int (nI ft), .ref m6, .ref m7, .int (nI ru), .ref m8, .ref m9, .ref m10, .int kp, .ref m11, .ref m12])), (m1, kx_aD G 8 ps), (m2, kx_aD G 8 qs), (m3, kx_aZ G 128 (upd th ((8 * i_) + j_) 0)), (m4, kx_aD G 128 fr), (m5, kx_aD G 128 to), (m6, kx_aZ G 16 fd), (m7, kx_aD G 64 sh), (m8, kx_aI G 6 ki), (m9, kx_aD G 6 li), (m10, kx_aI G 6 cl), (m11, kx_aD G 16 kx), (m12, kx_aD G 16 ky)] := hD
          refine lv_iconst (v := 1) hx hb dX5_lift_65 (by decide) ?_
          have hcd : (kc_lif (kx_no n a9) (kx_no v b9)) = 0 := by
            unfold kc_lif
            rw [if_neg (fun q => q c_3), if_pos c_7]
          exact W.zret (v := 1) hx hb hr rfl (fun t ht hW => ⟨⟨1, (0, upd th (8 * i_ + j_) 0, 0), rfl, ⟨hcd.symm, Or.inl ⟨hcd, by rw [ea_, eb_, nI_clamp (by omega), nI_clamp (by omega)]; exact c_9, rfl, by rw [ea_, eb_, nI_clamp (by omega), nI_clamp (by omega)]⟩⟩, And.intro (by rw [ht]; exact hP) hD⟩, hS.F ht⟩) hS.2.2 dX5_lift_66
        · refine lv_iconst (v := 0) hx hb dX5_lift_46 (by decide) ?_
          have hcd : (kc_lif (kx_no n a9) (kx_no v b9)) = 0 := by
            unfold kc_lif
            rw [if_neg (fun q => q c_3), if_pos c_7]
          exact W.zret (v := 0) hx hb hr rfl (fun t ht hW => ⟨⟨0, (0, th, kn), rfl, ⟨hcd.symm, Or.inr (Or.inl ⟨hcd, by rw [ea_, eb_, nI_clamp (by omega), nI_clamp (by omega)]; exact c_9, rfl, rfl⟩)⟩, And.intro (by rw [ht]; exact hP) hD⟩, hS.F ht⟩) hS.2.2 dX5_lift_47
    · refine lv_iconst (v := 1) hx hb dX5_lift_17 (by decide) ?_
      refine lv_goto (tgt := 22) hx hb dX5_lift_18 (by decide) ?_
      refine va_put (D := G.1) (ci := 6) (v := .int 1) (ty := .int) (C := RX5) (T := TX5) (N := 19) hx hb hts hin_X5 tyX5 tyX5_ok nmX5 hown hT.1 hP hD hS 0 rfl rfl 0 (by decide) hf_55 (fun _ h9 => h9) rfl (by decide +kernel) rfl rfl (Nat.le_of_ble_eq_true rfl) dX5_lift_22 (fun H locs hP hD hS => ?_)
      have hP : va_P G.1 vwCl [(m0, .inr (6, [.int 1, .int (nI n), .int (nI v), .ref m1, .ref m2, .ref m3, .ref m4, .ref m5, .int kn, .int (nI ft), .ref m6, .ref m7, .int (nI ru), .ref m8, .ref m9, .ref m10, .int kp, .ref m11, .ref m12])), (m1, kx_aD G 8 ps), (m2, kx_aD G 8 qs), (m3, kx_aZ G 128 th), (m4, kx_aD G 128 fr), (m5, kx_aD G 128 to), (m6, kx_aZ G 16 fd), (m7, kx_aD G 64 sh), (m8, kx_aI G 6 ki), (m9, kx_aD G 6 li), (m10, kx_aI G 6 cl), (m11, kx_aD G 16 kx), (m12, kx_aD G 16 ky)] H := hP
      have hD : va_D A [(m0, .inr (6, [.int 1, .int (nI n), .int (nI v), .ref m1, .ref m2, .ref m3, .ref m4, .ref m5, .int kn, .int (nI ft), .ref m6, .ref m7, .int (nI ru), .ref m8, .ref m9, .ref m10, .int kp, .ref m11, .ref m12])), (m1, kx_aD G 8 ps), (m2, kx_aD G 8 qs), (m3, kx_aZ G 128 th), (m4, kx_aD G 128 fr), (m5, kx_aD G 128 to), (m6, kx_aZ G 16 fd), (m7, kx_aD G 64 sh), (m8, kx_aI G 6 ki), (m9, kx_aD G 6 li), (m10, kx_aI G 6 cl), (m11, kx_aD G 16 kx), (m12, kx_aD G 16 ky)] := hD
      refine lv_aload_n hx hb dX5_lift_25 rfl (lv_at hl 0 rfl) ?_
      refine va_get (D := G.1) (ci := 6) (v := .int 1) (C := RX5) (T := TX5) (N := 19) hx hb hts hin_X5 hown hT.1 hP 0 rfl rfl 0 (by decide) hf_55 (fun _ h9 => h9) rfl dX5_lift_26 ?_
      refine lv_if_gt (x := 1) (tgt := 46) hx hb dX5_lift_29 (by decide) (fun c_10 => ?_) (fun c_10 => ?_)
      · refine lv_iconst (v := 0) hx hb dX5_lift_46 (by decide) ?_
        have hcd : (kc_lif (kx_no n a9) (kx_no v b9)) = 1 := by
          unfold kc_lif
          rw [if_neg (fun q => q c_3), if_neg c_7]
        exact W.zret (v := 0) hx hb hr rfl (fun t ht hW => ⟨⟨0, (1, th, kn), rfl, ⟨hcd.symm, Or.inr (Or.inr ⟨by rw [hcd]; decide, rfl, rfl⟩)⟩, And.intro (by rw [ht]; exact hP) hD⟩, hS.F ht⟩) hS.2.2 dX5_lift_47
      · exact absurd c_10 (by decide)
set_option maxHeartbeats 4000000 in
set_option maxRecDepth 100000 in
/-- shape -/
theorem c_X5_shape (l : Launch) (G : kx_G) (sz : Nat) (m0 : Nat) (m1 : Nat) (m2 : Nat) (m3 : Nat) (m4 : Nat) (m5 : Nat) (m6 : Nat) (m7 : Nat) (m8 : Nat) (m9 : Nat) (m10 : Nat) (m11 : Nat) (m12 : Nat) (n : Nat) (v : Nat) (tw : Int32) (ps : Nat → UInt64) (qs : Nat → UInt64) (th : Nat → Int32) (fr : Nat → UInt64) (to : Nat → UInt64) (kn : Int32) (ft : Nat) (fd : Nat → Int32) (sh : Nat → UInt64) (ru : Nat) (ki : Nat → Int32) (li : Nat → UInt64) (cl : Nat → Int32) (kp : Int32) (kx : Nat → UInt64) (ky : Nat → UInt64) (a9 : Int32) (w9 : Int32) (hb_ps : ∀ j, fx_bd 5 (ps j)) (hb_qs : ∀ j, fx_bd 5 (qs j)) (hb_fr : ∀ j, fx_bd 11 (fr j)) (hb_to : ∀ j, fx_bd 11 (to j)) (hb_sh : ∀ j, fx_bd 220 (sh j)) (hb_kx : ∀ j, fx_bd 130 (kx j)) (hb_ky : ∀ j, fx_bd 130 (ky j)) (hn1 : 1 ≤ n) (hn : n ≤ 16) (hv1 : 1 ≤ v) (hv : v ≤ 8) (hft : ft ≤ 16) (hru : ru ≤ 6) : Met l yX5_shape wsX5_shape ({ frames := 1, cells := 0, slots := 0, locals := 23 } : Room) (kx_PM G [.ref m0, .int a9, .int w9] sz [(m0, .inr (6, [.int tw, .int (nI n), .int (nI v), .ref m1, .ref m2, .ref m3, .ref m4, .ref m5, .int kn, .int (nI ft), .ref m6, .ref m7, .int (nI ru), .ref m8, .ref m9, .ref m10, .int kp, .ref m11, .ref m12])), (m1, kx_aD G 8 ps), (m2, kx_aD G 8 qs), (m3, kx_aZ G 128 th), (m4, kx_aD G 128 fr), (m5, kx_aD G 128 to), (m6, kx_aZ G 16 fd), (m7, kx_aD G 64 sh), (m8, kx_aI G 6 ki), (m9, kx_aD G 6 li), (m10, kx_aI G 6 cl), (m11, kx_aD G 16 kx), (m12, kx_aD G 16 ky)]) (va_Qd (fun (r : UInt64) (u : Int32) => u = (kc_shp (kx_no n a9) w9 (kx_hs kn ft)) ∧ ((kc_shp (kx_no n a9) w9 (kx_hs kn ft)) = 0 → r = km_val sh a9.toNatClampNeg w9)) (kx_B G (va_A [(m0, .inr (6, [.int tw, .int (nI n), .int (nI v), .ref m1, .ref m2, .ref m3, .ref m4, .ref m5, .int kn, .int (nI ft), .ref m6, .ref m7, .int (nI ru), .ref m8, .ref m9, .ref m10, .int kp, .ref m11, .ref m12])), (m1, kx_aD G 8 ps), (m2, kx_aD G 8 qs), (m3, kx_aZ G 128 th), (m4, kx_aD G 128 fr), (m5, kx_aD G 128 to), (m6, kx_aZ G 16 fd), (m7, kx_aD G 64 sh), (m8, kx_aI G 6 ki), (m9, kx_aD G 6 li), (m10, kx_aI G 6 cl), (m11, kx_aD G 16 kx), (m12, kx_aD G 16 ky)] sz) (fun u : Int32 => [(m0, .inr (6, [.int u, .int (nI n), .int (nI v), .ref m1, .ref m2, .ref m3, .ref m4, .ref m5, .int kn, .int (nI ft), .ref m6, .ref m7, .int (nI ru), .ref m8, .ref m9, .ref m10, .int kp, .ref m11, .ref m12])), (m1, kx_aD G 8 ps), (m2, kx_aD G 8 qs), (m3, kx_aZ G 128 th), (m4, kx_aD G 128 fr), (m5, kx_aD G 128 to), (m6, kx_aZ G 16 fd), (m7, kx_aD G 64 sh), (m8, kx_aI G 6 ki), (m9, kx_aD G 6 li), (m10, kx_aI G 6 cl), (m11, kx_aD G 16 kx), (m12, kx_aD G 16 ky)])) (va_A [(m0, .inr (6, [.int tw, .int (nI n), .int (nI v), .ref m1, .ref m2, .ref m3, .ref m4, .ref m5, .int kn, .int (nI ft), .ref m6, .ref m7, .int (nI ru), .ref m8, .ref m9, .ref m10, .int kp, .ref m11, .ref m12])), (m1, kx_aD G 8 ps), (m2, kx_aD G 8 qs), (m3, kx_aZ G 128 th), (m4, kx_aD G 128 fr), (m5, kx_aD G 128 to), (m6, kx_aZ G 16 fd), (m7, kx_aD G 64 sh), (m8, kx_aI G 6 ki), (m9, kx_aD G 6 li), (m10, kx_aI G 6 cl), (m11, kx_aD G 16 kx), (m12, kx_aD G 16 ky)] sz)) 0 0 (va_A [(m0, .inr (6, [.int tw, .int (nI n), .int (nI v), .ref m1, .ref m2, .ref m3, .ref m4, .ref m5, .int kn, .int (nI ft), .ref m6, .ref m7, .int (nI ru), .ref m8, .ref m9, .ref m10, .int kp, .ref m11, .ref m12])), (m1, kx_aD G 8 ps), (m2, kx_aD G 8 qs), (m3, kx_aZ G 128 th), (m4, kx_aD G 128 fr), (m5, kx_aD G 128 to), (m6, kx_aZ G 16 fd), (m7, kx_aD G 64 sh), (m8, kx_aI G 6 ki), (m9, kx_aD G 6 li), (m10, kx_aI G 6 cl), (m11, kx_aD G 16 kx), (m12, kx_aD G 16 ky)] sz) := by
  refine Met.ofW (cc := cX5_shape) (maxL := 3) (ret := (some .double)) (by decide) rfl ?_
  intro p e s m args below meth c s₁ B hml hv
  obtain ⟨rfl, hsz, hP, hT, hD0⟩ := hv
  have hx := B.exec
  have hb := B.bytes
  have hr := B.returns
  have hts := atoms_spec (ws := wsX5_shape) B.pre
  have hown : s.vm.findClass RX5 = some m.cls := findClass_of_methodNamed B.named
  have hlocks := B.notSynchronized
  have hf_55 := hts (.fieldLink RX5 55 "StemShapesModel" "thrown" "I") (by decide +kernel)
  have hin_X5 : ∀ w ∈ wsX50, w ∈ wsX5_shape := by decide +kernel
  have hf_29 := hts (.fieldLink RX5 29 "StemShapesModel" "shapes" "[D") (by decide +kernel)
  subst hsz
  have hD := hD0.self (sz := s.heap.size)
  generalize hAe : va_A [(m0, .inr (6, [.int tw, .int (nI n), .int (nI v), .ref m1, .ref m2, .ref m3, .ref m4, .ref m5, .int kn, .int (nI ft), .ref m6, .ref m7, .int (nI ru), .ref m8, .ref m9, .ref m10, .int kp, .ref m11, .ref m12])), (m1, kx_aD G 8 ps), (m2, kx_aD G 8 qs), (m3, kx_aZ G 128 th), (m4, kx_aD G 128 fr), (m5, kx_aD G 128 to), (m6, kx_aZ G 16 fd), (m7, kx_aD G 64 sh), (m8, kx_aI G 6 ki), (m9, kx_aD G 6 li), (m10, kx_aI G 6 cl), (m11, kx_aD G 16 kx), (m12, kx_aD G 16 ky)] s.heap.size = A at hD ⊢
  have hA : ∀ q : Nat, s.heap.size ≤ q → A q := fun q h => by rw [← hAe]; exact Or.inr h
  have hS : va_S A s.heap s.heap [] := va_S.rf
  have hl := lv_entry ([.ref m0, .int a9, .int w9]) (n := 3) (Nat.le_of_ble_eq_true rfl)
  rw [lg_entry_eq]
  generalize (lg_sl ([.ref m0, .int a9, .int w9]) ++ List.replicate (3 - (lg_sl ([.ref m0, .int a9, .int w9])).length) Slot.unset).toArray = ls at hl ⊢
  have hl : lv_has ls 3 [(0, .ref m0), (1, .int a9), (2, .int w9)] := hl
  refine lv_aload_n hx hb dX5_shape_0 rfl (lv_at hl 0 rfl) ?_
  refine lv_aload_n hx hb dX5_shape_1 rfl (lv_at hl 0 rfl) ?_
  refine lv_iload_n hx hb dX5_shape_2 rfl (lv_at hl 1 rfl) ?_
  refine vp_callSi (W.runV (As := [.int a9]) (rest := [.ref m0]) ⟨hx, hb, hml, hown, hts⟩ (c_X5_noSlice l G (m0 := m0) (m1 := m1) (m2 := m2) (m3 := m3) (m4 := m4) (m5 := m5) (m6 := m6) (m7 := m7) (m8 := m8) (m9 := m9) (m10 := m10) (m11 := m11) (m12 := m12) (n := n) (v := v) (tw := tw) (ps := ps) (qs := qs) (th := th) (fr := fr) (to := to) (kn := kn) (ft := ft) (fd := fd) (sh := sh) (ru := ru) (ki := ki) (li := li) (cl := cl) (kp := kp) (kx := kx) (ky := ky) (a9 := a9) (hb_ps := hb_ps) (hb_qs := hb_qs) (hb_fr := hb_fr) (hb_to := hb_to) (hb_sh := hb_sh) (hb_kx := hb_kx) (hb_ky := hb_ky)) (cwV 1 hts gX5_shape_X5_noSlice rfl rfl rfl (by decide +kernel) ⟨Nat.le_of_ble_eq_true rfl, Nat.le_of_ble_eq_true rfl⟩) ⟨kx_PRb, va_recv hT.1 hP (ci := 6) (q0 := 0) rfl rfl, kx_pr hT hP [0, 1, 2, 3, 4, 5, 6, 7, 8, 9, 10, 11, 12] rfl⟩ rfl rfl hl.1 rfl (lv_room (Nat.le_of_ble_eq_true rfl)) dX5_shape_3 ⟨Nat.zero_le _, Nat.zero_le _⟩) (fun r_1 hw_2 => ?_)
  subst hw_2
  refine lv_if_ne (x := kx_no n a9) (tgt := 18) hx hb dX5_shape_6 (by decide) (fun c_3 => ?_) (fun c_3 => ?_)
  · refine lv_iconst (v := 1) hx hb dX5_shape_18 (by decide) ?_
    refine lv_goto (tgt := 34) hx hb dX5_shape_19 (by decide) ?_
    refine va_put (D := G.1) (ci := 6) (v := .int 1) (ty := .int) (C := RX5) (T := TX5) (N := 19) hx hb hts hin_X5 tyX5 tyX5_ok nmX5 hown hT.1 hP hD hS 0 rfl rfl 0 (by decide) hf_55 (fun _ h9 => h9) rfl (by decide +kernel) rfl rfl (Nat.le_of_ble_eq_true rfl) dX5_shape_34 (fun H locs hP hD hS => ?_)
    have hP : va_P G.1 vwCl [(m0, .inr (6, [.int 1, .int (nI n), .int (nI v), .ref m1, .ref m2, .ref m3, .ref m4, .ref m5, .int kn, .int (nI ft), .ref m6, .ref m7, .int (nI ru), .ref m8, .ref m9, .ref m10, .int kp, .ref m11, .ref m12])), (m1, kx_aD G 8 ps), (m2, kx_aD G 8 qs), (m3, kx_aZ G 128 th), (m4, kx_aD G 128 fr), (m5, kx_aD G 128 to), (m6, kx_aZ G 16 fd), (m7, kx_aD G 64 sh), (m8, kx_aI G 6 ki), (m9, kx_aD G 6 li), (m10, kx_aI G 6 cl), (m11, kx_aD G 16 kx), (m12, kx_aD G 16 ky)] H := hP
    have hD : va_D A [(m0, .inr (6, [.int 1, .int (nI n), .int (nI v), .ref m1, .ref m2, .ref m3, .ref m4, .ref m5, .int kn, .int (nI ft), .ref m6, .ref m7, .int (nI ru), .ref m8, .ref m9, .ref m10, .int kp, .ref m11, .ref m12])), (m1, kx_aD G 8 ps), (m2, kx_aD G 8 qs), (m3, kx_aZ G 128 th), (m4, kx_aD G 128 fr), (m5, kx_aD G 128 to), (m6, kx_aZ G 16 fd), (m7, kx_aD G 64 sh), (m8, kx_aI G 6 ki), (m9, kx_aD G 6 li), (m10, kx_aI G 6 cl), (m11, kx_aD G 16 kx), (m12, kx_aD G 16 ky)] := hD
    refine lv_aload_n hx hb dX5_shape_37 rfl (lv_at hl 0 rfl) ?_
    refine va_get (D := G.1) (ci := 6) (v := .int 1) (C := RX5) (T := TX5) (N := 19) hx hb hts hin_X5 hown hT.1 hP 0 rfl rfl 0 (by decide) hf_55 (fun _ h9 => h9) rfl dX5_shape_38 ?_
    refine lv_if_le (x := 1) (tgt := 48) hx hb dX5_shape_41 (by decide) (fun c_4 => ?_) (fun c_4 => ?_)
    · exact absurd c_4 (by decide)
    · refine lv_dconst0 hx hb dX5_shape_44 ?_
      refine lv_goto (tgt := 71) hx hb dX5_shape_45 (by decide) ?_
      have hcd : (kc_shp (kx_no n a9) w9 (kx_hs kn ft)) = 1 := by
        unfold kc_shp
        rw [if_pos c_3]
      exact W.dret (v := FP.dconst0) hx hb hr (fun t ht hW => ⟨⟨FP.dconst0, 1, rfl, ⟨hcd.symm, fun q => absurd (hcd.symm.trans q) (by decide)⟩, And.intro (by rw [ht]; exact hP) hD⟩, hS.F ht⟩) hS.2.2 dX5_shape_71
  · refine lv_iload_n hx hb dX5_shape_9 rfl (lv_at hl 2 rfl) ?_
    refine lv_if_lt (x := w9) (tgt := 18) hx hb dX5_shape_10 (by decide) (fun c_5 => ?_) (fun c_5 => ?_)
    · refine lv_iconst (v := 1) hx hb dX5_shape_18 (by decide) ?_
      refine lv_goto (tgt := 34) hx hb dX5_shape_19 (by decide) ?_
      refine va_put (D := G.1) (ci := 6) (v := .int 1) (ty := .int) (C := RX5) (T := TX5) (N := 19) hx hb hts hin_X5 tyX5 tyX5_ok nmX5 hown hT.1 hP hD hS 0 rfl rfl 0 (by decide) hf_55 (fun _ h9 => h9) rfl (by decide +kernel) rfl rfl (Nat.le_of_ble_eq_true rfl) dX5_shape_34 (fun H locs hP hD hS => ?_)
      have hP : va_P G.1 vwCl [(m0, .inr (6, [.int 1, .int (nI n), .int (nI v), .ref m1, .ref m2, .ref m3, .ref m4, .ref m5, .int kn, .int (nI ft), .ref m6, .ref m7, .int (nI ru), .ref m8, .ref m9, .ref m10, .int kp, .ref m11, .ref m12])), (m1, kx_aD G 8 ps), (m2, kx_aD G 8 qs), (m3, kx_aZ G 128 th), (m4, kx_aD G 128 fr), (m5, kx_aD G 128 to), (m6, kx_aZ G 16 fd), (m7, kx_aD G 64 sh), (m8, kx_aI G 6 ki), (m9, kx_aD G 6 li), (m10, kx_aI G 6 cl), (m11, kx_aD G 16 kx), (m12, kx_aD G 16 ky)] H := hP
      have hD : va_D A [(m0, .inr (6, [.int 1, .int (nI n), .int (nI v), .ref m1, .ref m2, .ref m3, .ref m4, .ref m5, .int kn, .int (nI ft), .ref m6, .ref m7, .int (nI ru), .ref m8, .ref m9, .ref m10, .int kp, .ref m11, .ref m12])), (m1, kx_aD G 8 ps), (m2, kx_aD G 8 qs), (m3, kx_aZ G 128 th), (m4, kx_aD G 128 fr), (m5, kx_aD G 128 to), (m6, kx_aZ G 16 fd), (m7, kx_aD G 64 sh), (m8, kx_aI G 6 ki), (m9, kx_aD G 6 li), (m10, kx_aI G 6 cl), (m11, kx_aD G 16 kx), (m12, kx_aD G 16 ky)] := hD
      refine lv_aload_n hx hb dX5_shape_37 rfl (lv_at hl 0 rfl) ?_
      refine va_get (D := G.1) (ci := 6) (v := .int 1) (C := RX5) (T := TX5) (N := 19) hx hb hts hin_X5 hown hT.1 hP 0 rfl rfl 0 (by decide) hf_55 (fun _ h9 => h9) rfl dX5_shape_38 ?_
      refine lv_if_le (x := 1) (tgt := 48) hx hb dX5_shape_41 (by decide) (fun c_6 => ?_) (fun c_6 => ?_)
      · exact absurd c_6 (by decide)
      · refine lv_dconst0 hx hb dX5_shape_44 ?_
        refine lv_goto (tgt := 71) hx hb dX5_shape_45 (by decide) ?_
        have hcd : (kc_shp (kx_no n a9) w9 (kx_hs kn ft)) = 1 := by
          unfold kc_shp
          rw [if_neg (fun q => q c_3), if_pos c_5]
        exact W.dret (v := FP.dconst0) hx hb hr (fun t ht hW => ⟨⟨FP.dconst0, 1, rfl, ⟨hcd.symm, fun q => absurd (hcd.symm.trans q) (by decide)⟩, And.intro (by rw [ht]; exact hP) hD⟩, hS.F ht⟩) hS.2.2 dX5_shape_71
    · refine lv_iload_n hx hb dX5_shape_13 rfl (lv_at hl 2 rfl) ?_
      refine lv_iconst (v := 4) hx hb dX5_shape_14 (by decide) ?_
      refine lv_icmp_le (x := w9) (y := 4) (tgt := 22) hx hb dX5_shape_15 (by decide) (fun c_7 => ?_) (fun c_7 => ?_)
      · refine lv_aload_n hx hb dX5_shape_22 rfl (lv_at hl 0 rfl) ?_
        refine vp_callSi (W.runV (As := []) (rest := [.ref m0]) ⟨hx, hb, hml, hown, hts⟩ (c_X5_hasShape l G (m0 := m0) (m1 := m1) (m2 := m2) (m3 := m3) (m4 := m4) (m5 := m5) (m6 := m6) (m7 := m7) (m8 := m8) (m9 := m9) (m10 := m10) (m11 := m11) (m12 := m12) (n := n) (v := v) (tw := tw) (ps := ps) (qs := qs) (th := th) (fr := fr) (to := to) (kn := kn) (ft := ft) (fd := fd) (sh := sh) (ru := ru) (ki := ki) (li := li) (cl := cl) (kp := kp) (kx := kx) (ky := ky) (hb_ps := hb_ps) (hb_qs := hb_qs) (hb_fr := hb_fr) (hb_to := hb_to) (hb_sh := hb_sh) (hb_kx := hb_kx) (hb_ky := hb_ky) (hft := (by omega))) (cwV 0 hts gX5_shape_X5_hasShape rfl rfl rfl (by decide +kernel) ⟨Nat.le_of_ble_eq_true rfl, Nat.le_of_ble_eq_true rfl⟩) ⟨kx_PRb, va_recv hT.1 hP (ci := 6) (q0 := 0) rfl rfl, kx_pr hT hP [0, 1, 2, 3, 4, 5, 6, 7, 8, 9, 10, 11, 12] rfl⟩ rfl rfl hl.1 rfl (lv_room (Nat.le_of_ble_eq_true rfl)) dX5_shape_23 ⟨Nat.zero_le _, Nat.zero_le _⟩) (fun r_8 hw_9 => ?_)
        subst hw_9
        refine lv_if_eq (x := kx_hs kn ft) (tgt := 33) hx hb dX5_shape_26 (by decide) (fun c_10 => ?_) (fun c_10 => ?_)
        · refine lv_iconst (v := 2) hx hb dX5_shape_33 (by decide) ?_
          refine va_put (D := G.1) (ci := 6) (v := .int 2) (ty := .int) (C := RX5) (T := TX5) (N := 19) hx hb hts hin_X5 tyX5 tyX5_ok nmX5 hown hT.1 hP hD hS 0 rfl rfl 0 (by decide) hf_55 (fun _ h9 => h9) rfl (by decide +kernel) rfl rfl (Nat.le_of_ble_eq_true rfl) dX5_shape_34 (fun H locs hP hD hS => ?_)
          have hP : va_P G.1 vwCl [(m0, .inr (6, [.int 2, .int (nI n), .int (nI v), .ref m1, .ref m2, .ref m3, .ref m4, .ref m5, .int kn, .int (nI ft), .ref m6, .ref m7, .int (nI ru), .ref m8, .ref m9, .ref m10, .int kp, .ref m11, .ref m12])), (m1, kx_aD G 8 ps), (m2, kx_aD G 8 qs), (m3, kx_aZ G 128 th), (m4, kx_aD G 128 fr), (m5, kx_aD G 128 to), (m6, kx_aZ G 16 fd), (m7, kx_aD G 64 sh), (m8, kx_aI G 6 ki), (m9, kx_aD G 6 li), (m10, kx_aI G 6 cl), (m11, kx_aD G 16 kx), (m12, kx_aD G 16 ky)] H := hP
          have hD : va_D A [(m0, .inr (6, [.int 2, .int (nI n), .int (nI v), .ref m1, .ref m2, .ref m3, .ref m4, .ref m5, .int kn, .int (nI ft), .ref m6, .ref m7, .int (nI ru), .ref m8, .ref m9, .ref m10, .int kp, .ref m11, .ref m12])), (m1, kx_aD G 8 ps), (m2, kx_aD G 8 qs), (m3, kx_aZ G 128 th), (m4, kx_aD G 128 fr), (m5, kx_aD G 128 to), (m6, kx_aZ G 16 fd), (m7, kx_aD G 64 sh), (m8, kx_aI G 6 ki), (m9, kx_aD G 6 li), (m10, kx_aI G 6 cl), (m11, kx_aD G 16 kx), (m12, kx_aD G 16 ky)] := hD
          refine lv_aload_n hx hb dX5_shape_37 rfl (lv_at hl 0 rfl) ?_
          refine va_get (D := G.1) (ci := 6) (v := .int 2) (C := RX5) (T := TX5) (N := 19) hx hb hts hin_X5 hown hT.1 hP 0 rfl rfl 0 (by decide) hf_55 (fun _ h9 => h9) rfl dX5_shape_38 ?_
          refine lv_if_le (x := 2) (tgt := 48) hx hb dX5_shape_41 (by decide) (fun c_11 => ?_) (fun c_11 => ?_)
          · exact absurd c_11 (by decide)
          · refine lv_dconst0 hx hb dX5_shape_44 ?_
            refine lv_goto (tgt := 71) hx hb dX5_shape_45 (by decide) ?_
            have hcd : (kc_shp (kx_no n a9) w9 (kx_hs kn ft)) = 2 := by
              unfold kc_shp
              rw [if_neg (fun q => q c_3), if_neg c_5, if_pos c_7, if_pos c_10]
            exact W.dret (v := FP.dconst0) hx hb hr (fun t ht hW => ⟨⟨FP.dconst0, 2, rfl, ⟨hcd.symm, fun q => absurd (hcd.symm.trans q) (by decide)⟩, And.intro (by rw [ht]; exact hP) hD⟩, hS.F ht⟩) hS.2.2 dX5_shape_71
        · refine lv_iconst (v := 0) hx hb dX5_shape_29 (by decide) ?_
          refine lv_goto (tgt := 34) hx hb dX5_shape_30 (by decide) ?_
          refine va_put (D := G.1) (ci := 6) (v := .int 0) (ty := .int) (C := RX5) (T := TX5) (N := 19) hx hb hts hin_X5 tyX5 tyX5_ok nmX5 hown hT.1 hP hD hS 0 rfl rfl 0 (by decide) hf_55 (fun _ h9 => h9) rfl (by decide +kernel) rfl rfl (Nat.le_of_ble_eq_true rfl) dX5_shape_34 (fun H locs hP hD hS => ?_)
          have hP : va_P G.1 vwCl [(m0, .inr (6, [.int 0, .int (nI n), .int (nI v), .ref m1, .ref m2, .ref m3, .ref m4, .ref m5, .int kn, .int (nI ft), .ref m6, .ref m7, .int (nI ru), .ref m8, .ref m9, .ref m10, .int kp, .ref m11, .ref m12])), (m1, kx_aD G 8 ps), (m2, kx_aD G 8 qs), (m3, kx_aZ G 128 th), (m4, kx_aD G 128 fr), (m5, kx_aD G 128 to), (m6, kx_aZ G 16 fd), (m7, kx_aD G 64 sh), (m8, kx_aI G 6 ki), (m9, kx_aD G 6 li), (m10, kx_aI G 6 cl), (m11, kx_aD G 16 kx), (m12, kx_aD G 16 ky)] H := hP
          have hD : va_D A [(m0, .inr (6, [.int 0, .int (nI n), .int (nI v), .ref m1, .ref m2, .ref m3, .ref m4, .ref m5, .int kn, .int (nI ft), .ref m6, .ref m7, .int (nI ru), .ref m8, .ref m9, .ref m10, .int kp, .ref m11, .ref m12])), (m1, kx_aD G 8 ps), (m2, kx_aD G 8 qs), (m3, kx_aZ G 128 th), (m4, kx_aD G 128 fr), (m5, kx_aD G 128 to), (m6, kx_aZ G 16 fd), (m7, kx_aD G 64 sh), (m8, kx_aI G 6 ki), (m9, kx_aD G 6 li), (m10, kx_aI G 6 cl), (m11, kx_aD G 16 kx), (m12, kx_aD G 16 ky)] := hD
          refine lv_aload_n hx hb dX5_shape_37 rfl (lv_at hl 0 rfl) ?_
          refine va_get (D := G.1) (ci := 6) (v := .int 0) (C := RX5) (T := TX5) (N := 19) hx hb hts hin_X5 hown hT.1 hP 0 rfl rfl 0 (by decide) hf_55 (fun _ h9 => h9) rfl dX5_shape_38 ?_
          refine lv_if_le (x := 0) (tgt := 48) hx hb dX5_shape_41 (by decide) (fun c_12 => ?_) (fun c_12 => ?_)
          · obtain ⟨i_, hi_, ea_⟩ := kx_no_0 (n := n) (by omega) c_3
            rw [ea_] at hl
            obtain ⟨w_, hw_, ew_⟩ := kx_w4 c_5 c_7
            rw [ew_] at hl
            refine lv_iload_n hx hb dX5_shape_48 rfl (lv_at hl 2 rfl) ?_
            refine lv_iconst (v := 4) hx hb dX5_shape_49 (by decide) ?_
            refine lv_icmp_ne (x := nI w_) (y := 4) (tgt := 61) hx hb dX5_shape_50 (by decide) (fun c_13 => ?_) (fun c_13 => ?_)
            · have c_13 : ¬ w_ = 4 := fun q => c_13 ((nI_eq (a := w_) (b := 4) (by omega) (by omega)).mpr q)
              refine lv_aload_n hx hb dX5_shape_61 rfl (lv_at hl 0 rfl) ?_
              refine va_get (D := G.1) (ci := 6) (v := .ref m7) (C := RX5) (T := TX5) (N := 19) hx hb hts hin_X5 hown hT.1 hP 0 rfl rfl 11 (by decide) hf_29 (fun _ h9 => h9) rfl dX5_shape_62 ?_
              refine lv_iconst (v := 4) hx hb dX5_shape_65 (by decide) ?_
              refine lv_iload_n hx hb dX5_shape_66 rfl (lv_at hl 1 rfl) ?_
              refine lv_imul hx hb dX5_shape_67 ?_
              refine kx_ei (y := nI (4 * i_)) (pk_mul 4 i_) ?_
              refine lv_iload_n hx hb dX5_shape_68 rfl (lv_at hl 2 rfl) ?_
              refine lv_iadd hx hb dX5_shape_69 ?_
              refine kx_ei (y := nI ((4 * i_) + w_)) (nI_add (4 * i_) w_) ?_
              refine kx_dald hx hb hT hP 7 rfl ((4 * i_) + w_) (by omega) (by omega) dX5_shape_70 ?_
              have hcd : (kc_shp (kx_no n a9) w9 (kx_hs kn ft)) = 0 := by
                unfold kc_shp
                rw [if_neg (fun q => q c_3), if_neg c_5, if_pos c_7, if_neg c_10]
              exact W.dret (v := sh ((4 * i_) + w_)) hx hb hr (fun t ht hW => ⟨⟨sh ((4 * i_) + w_), 0, rfl, ⟨hcd.symm, fun _ => by unfold km_val; rw [ea_, ew_, nI_clamp (by omega), nI_clamp (by omega), if_neg (show ¬ nI w_ = 4 from fun q => c_13 (kx_nIi (b := 4) (by omega) (by omega) q))]⟩, And.intro (by rw [ht]; exact hP) hD⟩, hS.F ht⟩) hS.2.2 dX5_shape_71
            · have c_13 : w_ = 4 := (nI_eq (a := w_) (b := 4) (by omega) (by omega)).mp c_13
              refine lv_aload_n hx hb dX5_shape_53 rfl (lv_at hl 0 rfl) ?_
              refine lv_iload_n hx hb dX5_shape_54 rfl (lv_at hl 1 rfl) ?_
              refine vp_callSd (W.runV (As := [.int (nI i_)]) (rest := []) ⟨hx, hb, hml, hown, hts⟩ (c_X5_area l G (m0 := m0) (m1 := m1) (m2 := m2) (m3 := m3) (m4 := m4) (m5 := m5) (m6 := m6) (m7 := m7) (m8 := m8) (m9 := m9) (m10 := m10) (m11 := m11) (m12 := m12) (n := n) (v := v) (tw := 0) (ps := ps) (qs := qs) (th := th) (fr := fr) (to := to) (kn := kn) (ft := ft) (fd := fd) (sh := sh) (ru := ru) (ki := ki) (li := li) (cl := cl) (kp := kp) (kx := kx) (ky := ky) (i := i_) (hb_ps := hb_ps) (hb_qs := hb_qs) (hb_fr := hb_fr) (hb_to := hb_to) (hb_sh := hb_sh) (hb_kx := hb_kx) (hb_ky := hb_ky) (hi := (by omega))) (cwV 1 hts gX5_shape_X5_area rfl rfl rfl (by decide +kernel) ⟨Nat.le_of_ble_eq_true rfl, Nat.le_of_ble_eq_true rfl⟩) ⟨kx_PRb, va_recv hT.1 hP (ci := 6) (q0 := 0) rfl rfl, kx_pr hT hP [0, 1, 2, 3, 4, 5, 6, 7, 8, 9, 10, 11, 12] rfl⟩ rfl rfl hl.1 rfl (lv_room (Nat.le_of_ble_eq_true rfl)) dX5_shape_55 ⟨Nat.zero_le _, Nat.zero_le _⟩) (fun r_14 hw_15 => ?_)
              subst hw_15
              refine lv_goto (tgt := 71) hx hb dX5_shape_58 (by decide) ?_
              have hcd : (kc_shp (kx_no n a9) w9 (kx_hs kn ft)) = 0 := by
                unfold kc_shp
                rw [if_neg (fun q => q c_3), if_neg c_5, if_pos c_7, if_neg c_10]
              exact W.dret (v := kx_area (sh (4 * i_ + 2))) hx hb hr (fun t ht hW => ⟨⟨kx_area (sh (4 * i_ + 2)), 0, rfl, ⟨hcd.symm, fun _ => by unfold km_val; rw [ea_, ew_, nI_clamp (by omega), if_pos (by rw [c_13]; rfl)]⟩, And.intro (by rw [ht]; exact hP) hD⟩, hS.F ht⟩) hS.2.2 dX5_shape_71
          · exact absurd c_12 (by decide)
      · refine lv_iconst (v := 1) hx hb dX5_shape_18 (by decide) ?_
        refine lv_goto (tgt := 34) hx hb dX5_shape_19 (by decide) ?_
        refine va_put (D := G.1) (ci := 6) (v := .int 1) (ty := .int) (C := RX5) (T := TX5) (N := 19) hx hb hts hin_X5 tyX5 tyX5_ok nmX5 hown hT.1 hP hD hS 0 rfl rfl 0 (by decide) hf_55 (fun _ h9 => h9) rfl (by decide +kernel) rfl rfl (Nat.le_of_ble_eq_true rfl) dX5_shape_34 (fun H locs hP hD hS => ?_)
        have hP : va_P G.1 vwCl [(m0, .inr (6, [.int 1, .int (nI n), .int (nI v), .ref m1, .ref m2, .ref m3, .ref m4, .ref m5, .int kn, .int (nI ft), .ref m6, .ref m7, .int (nI ru), .ref m8, .ref m9, .ref m10, .int kp, .ref m11, .ref m12])), (m1, kx_aD G 8 ps), (m2, kx_aD G 8 qs), (m3, kx_aZ G 128 th), (m4, kx_aD G 128 fr), (m5, kx_aD G 128 to), (m6, kx_aZ G 16 fd), (m7, kx_aD G 64 sh), (m8, kx_aI G 6 ki), (m9, kx_aD G 6 li), (m10, kx_aI G 6 cl), (m11, kx_aD G 16 kx), (m12, kx_aD G 16 ky)] H := hP
        have hD : va_D A [(m0, .inr (6, [.int 1, .int (nI n), .int (nI v), .ref m1, .ref m2, .ref m3, .ref m4, .ref m5, .int kn, .int (nI ft), .ref m6, .ref m7, .int (nI ru), .ref m8, .ref m9, .ref m10, .int kp, .ref m11, .ref m12])), (m1, kx_aD G 8 ps), (m2, kx_aD G 8 qs), (m3, kx_aZ G 128 th), (m4, kx_aD G 128 fr), (m5, kx_aD G 128 to), (m6, kx_aZ G 16 fd), (m7, kx_aD G 64 sh), (m8, kx_aI G 6 ki), (m9, kx_aD G 6 li), (m10, kx_aI G 6 cl), (m11, kx_aD G 16 kx), (m12, kx_aD G 16 ky)] := hD
        refine lv_aload_n hx hb dX5_shape_37 rfl (lv_at hl 0 rfl) ?_
        refine va_get (D := G.1) (ci := 6) (v := .int 1) (C := RX5) (T := TX5) (N := 19) hx hb hts hin_X5 hown hT.1 hP 0 rfl rfl 0 (by decide) hf_55 (fun _ h9 => h9) rfl dX5_shape_38 ?_
        refine lv_if_le (x := 1) (tgt := 48) hx hb dX5_shape_41 (by decide) (fun c_16 => ?_) (fun c_16 => ?_)
        · exact absurd c_16 (by decide)
        · refine lv_dconst0 hx hb dX5_shape_44 ?_
          refine lv_goto (tgt := 71) hx hb dX5_shape_45 (by decide) ?_
          have hcd : (kc_shp (kx_no n a9) w9 (kx_hs kn ft)) = 1 := by
            unfold kc_shp
            rw [if_neg (fun q => q c_3), if_neg c_5, if_neg c_7]
          exact W.dret (v := FP.dconst0) hx hb hr (fun t ht hW => ⟨⟨FP.dconst0, 1, rfl, ⟨hcd.symm, fun q => absurd (hcd.symm.trans q) (by decide)⟩, And.intro (by rw [ht]; exact hP) hD⟩, hS.F ht⟩) hS.2.2 dX5_shape_71
set_option maxHeartbeats 4000000 in
set_option maxRecDepth 100000 in
/-- fitted -/
theorem c_X5_fitted (l : Launch) (G : kx_G) (sz : Nat) (m0 : Nat) (m1 : Nat) (m2 : Nat) (m3 : Nat) (m4 : Nat) (m5 : Nat) (m6 : Nat) (m7 : Nat) (m8 : Nat) (m9 : Nat) (m10 : Nat) (m11 : Nat) (m12 : Nat) (n : Nat) (v : Nat) (tw : Int32) (ps : Nat → UInt64) (qs : Nat → UInt64) (th : Nat → Int32) (fr : Nat → UInt64) (to : Nat → UInt64) (kn : Int32) (ft : Nat) (fd : Nat → Int32) (sh : Nat → UInt64) (ru : Nat) (ki : Nat → Int32) (li : Nat → UInt64) (cl : Nat → Int32) (kp : Int32) (kx : Nat → UInt64) (ky : Nat → UInt64) (a9 : Int32) (hb_ps : ∀ j, fx_bd 5 (ps j)) (hb_qs : ∀ j, fx_bd 5 (qs j)) (hb_fr : ∀ j, fx_bd 11 (fr j)) (hb_to : ∀ j, fx_bd 11 (to j)) (hb_sh : ∀ j, fx_bd 220 (sh j)) (hb_kx : ∀ j, fx_bd 130 (kx j)) (hb_ky : ∀ j, fx_bd 130 (ky j)) (hn1 : 1 ≤ n) (hn : n ≤ 16) (hv1 : 1 ≤ v) (hv : v ≤ 8) (hft : ft ≤ 16) (hru : ru ≤ 6) : Met l yX5_fitted wsX5_fitted ({ frames := 1, cells := 0, slots := 0, locals := 21 } : Room) (kx_PM G [.ref m0, .int a9] sz [(m0, .inr (6, [.int tw, .int (nI n), .int (nI v), .ref m1, .ref m2, .ref m3, .ref m4, .ref m5, .int kn, .int (nI ft), .ref m6, .ref m7, .int (nI ru), .ref m8, .ref m9, .ref m10, .int kp, .ref m11, .ref m12])), (m1, kx_aD G 8 ps), (m2, kx_aD G 8 qs), (m3, kx_aZ G 128 th), (m4, kx_aD G 128 fr), (m5, kx_aD G 128 to), (m6, kx_aZ G 16 fd), (m7, kx_aD G 64 sh), (m8, kx_aI G 6 ki), (m9, kx_aD G 6 li), (m10, kx_aI G 6 cl), (m11, kx_aD G 16 kx), (m12, kx_aD G 16 ky)]) (va_Qi (fun (r : Int32) (u : Int32) => u = (kc_fit (kx_no n a9) (kx_hs kn ft)) ∧ ((kc_fit (kx_no n a9) (kx_hs kn ft)) = 0 → r = (if fd a9.toNatClampNeg = 0 then 0 else 1))) (kx_B G (va_A [(m0, .inr (6, [.int tw, .int (nI n), .int (nI v), .ref m1, .ref m2, .ref m3, .ref m4, .ref m5, .int kn, .int (nI ft), .ref m6, .ref m7, .int (nI ru), .ref m8, .ref m9, .ref m10, .int kp, .ref m11, .ref m12])), (m1, kx_aD G 8 ps), (m2, kx_aD G 8 qs), (m3, kx_aZ G 128 th), (m4, kx_aD G 128 fr), (m5, kx_aD G 128 to), (m6, kx_aZ G 16 fd), (m7, kx_aD G 64 sh), (m8, kx_aI G 6 ki), (m9, kx_aD G 6 li), (m10, kx_aI G 6 cl), (m11, kx_aD G 16 kx), (m12, kx_aD G 16 ky)] sz) (fun u : Int32 => [(m0, .inr (6, [.int u, .int (nI n), .int (nI v), .ref m1, .ref m2, .ref m3, .ref m4, .ref m5, .int kn, .int (nI ft), .ref m6, .ref m7, .int (nI ru), .ref m8, .ref m9, .ref m10, .int kp, .ref m11, .ref m12])), (m1, kx_aD G 8 ps), (m2, kx_aD G 8 qs), (m3, kx_aZ G 128 th), (m4, kx_aD G 128 fr), (m5, kx_aD G 128 to), (m6, kx_aZ G 16 fd), (m7, kx_aD G 64 sh), (m8, kx_aI G 6 ki), (m9, kx_aD G 6 li), (m10, kx_aI G 6 cl), (m11, kx_aD G 16 kx), (m12, kx_aD G 16 ky)])) (va_A [(m0, .inr (6, [.int tw, .int (nI n), .int (nI v), .ref m1, .ref m2, .ref m3, .ref m4, .ref m5, .int kn, .int (nI ft), .ref m6, .ref m7, .int (nI ru), .ref m8, .ref m9, .ref m10, .int kp, .ref m11, .ref m12])), (m1, kx_aD G 8 ps), (m2, kx_aD G 8 qs), (m3, kx_aZ G 128 th), (m4, kx_aD G 128 fr), (m5, kx_aD G 128 to), (m6, kx_aZ G 16 fd), (m7, kx_aD G 64 sh), (m8, kx_aI G 6 ki), (m9, kx_aD G 6 li), (m10, kx_aI G 6 cl), (m11, kx_aD G 16 kx), (m12, kx_aD G 16 ky)] sz)) 0 0 (va_A [(m0, .inr (6, [.int tw, .int (nI n), .int (nI v), .ref m1, .ref m2, .ref m3, .ref m4, .ref m5, .int kn, .int (nI ft), .ref m6, .ref m7, .int (nI ru), .ref m8, .ref m9, .ref m10, .int kp, .ref m11, .ref m12])), (m1, kx_aD G 8 ps), (m2, kx_aD G 8 qs), (m3, kx_aZ G 128 th), (m4, kx_aD G 128 fr), (m5, kx_aD G 128 to), (m6, kx_aZ G 16 fd), (m7, kx_aD G 64 sh), (m8, kx_aI G 6 ki), (m9, kx_aD G 6 li), (m10, kx_aI G 6 cl), (m11, kx_aD G 16 kx), (m12, kx_aD G 16 ky)] sz) := by
  refine Met.ofW (cc := cX5_fitted) (maxL := 2) (ret := (some .boolean)) (by decide) rfl ?_
  intro p e s m args below meth c s₁ B hml hv
  obtain ⟨rfl, hsz, hP, hT, hD0⟩ := hv
  have hx := B.exec
  have hb := B.bytes
  have hr := B.returns
  have hts := atoms_spec (ws := wsX5_fitted) B.pre
  have hown : s.vm.findClass RX5 = some m.cls := findClass_of_methodNamed B.named
  have hlocks := B.notSynchronized
  have hf_55 := hts (.fieldLink RX5 55 "StemShapesModel" "thrown" "I") (by decide +kernel)
  have hin_X5 : ∀ w ∈ wsX50, w ∈ wsX5_fitted := by decide +kernel
  have hf_26 := hts (.fieldLink RX5 26 "StemShapesModel" "fitted" "[Z") (by decide +kernel)
  subst hsz
  have hD := hD0.self (sz := s.heap.size)
  generalize hAe : va_A [(m0, .inr (6, [.int tw, .int (nI n), .int (nI v), .ref m1, .ref m2, .ref m3, .ref m4, .ref m5, .int kn, .int (nI ft), .ref m6, .ref m7, .int (nI ru), .ref m8, .ref m9, .ref m10, .int kp, .ref m11, .ref m12])), (m1, kx_aD G 8 ps), (m2, kx_aD G 8 qs), (m3, kx_aZ G 128 th), (m4, kx_aD G 128 fr), (m5, kx_aD G 128 to), (m6, kx_aZ G 16 fd), (m7, kx_aD G 64 sh), (m8, kx_aI G 6 ki), (m9, kx_aD G 6 li), (m10, kx_aI G 6 cl), (m11, kx_aD G 16 kx), (m12, kx_aD G 16 ky)] s.heap.size = A at hD ⊢
  have hA : ∀ q : Nat, s.heap.size ≤ q → A q := fun q h => by rw [← hAe]; exact Or.inr h
  have hS : va_S A s.heap s.heap [] := va_S.rf
  have hl := lv_entry ([.ref m0, .int a9]) (n := 2) (Nat.le_of_ble_eq_true rfl)
  rw [lg_entry_eq]
  generalize (lg_sl ([.ref m0, .int a9]) ++ List.replicate (2 - (lg_sl ([.ref m0, .int a9])).length) Slot.unset).toArray = ls at hl ⊢
  have hl : lv_has ls 2 [(0, .ref m0), (1, .int a9)] := hl
  refine lv_aload_n hx hb dX5_fitted_0 rfl (lv_at hl 0 rfl) ?_
  refine lv_aload_n hx hb dX5_fitted_1 rfl (lv_at hl 0 rfl) ?_
  refine lv_iload_n hx hb dX5_fitted_2 rfl (lv_at hl 1 rfl) ?_
  refine vp_callSi (W.runV (As := [.int a9]) (rest := [.ref m0]) ⟨hx, hb, hml, hown, hts⟩ (c_X5_noSlice l G (m0 := m0) (m1 := m1) (m2 := m2) (m3 := m3) (m4 := m4) (m5 := m5) (m6 := m6) (m7 := m7) (m8 := m8) (m9 := m9) (m10 := m10) (m11 := m11) (m12 := m12) (n := n) (v := v) (tw := tw) (ps := ps) (qs := qs) (th := th) (fr := fr) (to := to) (kn := kn) (ft := ft) (fd := fd) (sh := sh) (ru := ru) (ki := ki) (li := li) (cl := cl) (kp := kp) (kx := kx) (ky := ky) (a9 := a9) (hb_ps := hb_ps) (hb_qs := hb_qs) (hb_fr := hb_fr) (hb_to := hb_to) (hb_sh := hb_sh) (hb_kx := hb_kx) (hb_ky := hb_ky)) (cwV 1 hts gX5_fitted_X5_noSlice rfl rfl rfl (by decide +kernel) ⟨Nat.le_of_ble_eq_true rfl, Nat.le_of_ble_eq_true rfl⟩) ⟨kx_PRb, va_recv hT.1 hP (ci := 6) (q0 := 0) rfl rfl, kx_pr hT hP [0, 1, 2, 3, 4, 5, 6, 7, 8, 9, 10, 11, 12] rfl⟩ rfl rfl hl.1 rfl (lv_room (Nat.le_of_ble_eq_true rfl)) dX5_fitted_3 ⟨Nat.zero_le _, Nat.zero_le _⟩) (fun r_1 hw_2 => ?_)
  subst hw_2
  refine lv_if_eq (x := kx_no n a9) (tgt := 13) hx hb dX5_fitted_6 (by decide) (fun c_3 => ?_) (fun c_3 => ?_)
  · refine lv_aload_n hx hb dX5_fitted_13 rfl (lv_at hl 0 rfl) ?_
    refine vp_callSi (W.runV (As := []) (rest := [.ref m0]) ⟨hx, hb, hml, hown, hts⟩ (c_X5_hasShape l G (m0 := m0) (m1 := m1) (m2 := m2) (m3 := m3) (m4 := m4) (m5 := m5) (m6 := m6) (m7 := m7) (m8 := m8) (m9 := m9) (m10 := m10) (m11 := m11) (m12 := m12) (n := n) (v := v) (tw := tw) (ps := ps) (qs := qs) (th := th) (fr := fr) (to := to) (kn := kn) (ft := ft) (fd := fd) (sh := sh) (ru := ru) (ki := ki) (li := li) (cl := cl) (kp := kp) (kx := kx) (ky := ky) (hb_ps := hb_ps) (hb_qs := hb_qs) (hb_fr := hb_fr) (hb_to := hb_to) (hb_sh := hb_sh) (hb_kx := hb_kx) (hb_ky := hb_ky) (hft := (by omega))) (cwV 0 hts gX5_fitted_X5_hasShape rfl rfl rfl (by decide +kernel) ⟨Nat.le_of_ble_eq_true rfl, Nat.le_of_ble_eq_true rfl⟩) ⟨kx_PRb, va_recv hT.1 hP (ci := 6) (q0 := 0) rfl rfl, kx_pr hT hP [0, 1, 2, 3, 4, 5, 6, 7, 8, 9, 10, 11, 12] rfl⟩ rfl rfl hl.1 rfl (lv_room (Nat.le_of_ble_eq_true rfl)) dX5_fitted_14 ⟨Nat.zero_le _, Nat.zero_le _⟩) (fun r_4 hw_5 => ?_)
    subst hw_5
    refine lv_if_eq (x := kx_hs kn ft) (tgt := 24) hx hb dX5_fitted_17 (by decide) (fun c_6 => ?_) (fun c_6 => ?_)
    · refine lv_iconst (v := 2) hx hb dX5_fitted_24 (by decide) ?_
      refine va_put (D := G.1) (ci := 6) (v := .int 2) (ty := .int) (C := RX5) (T := TX5) (N := 19) hx hb hts hin_X5 tyX5 tyX5_ok nmX5 hown hT.1 hP hD hS 0 rfl rfl 0 (by decide) hf_55 (fun _ h9 => h9) rfl (by decide +kernel) rfl rfl (Nat.le_of_ble_eq_true rfl) dX5_fitted_25 (fun H locs hP hD hS => ?_)
      have hP : va_P G.1 vwCl [(m0, .inr (6, [.int 2, .int (nI n), .int (nI v), .ref m1, .ref m2, .ref m3, .ref m4, .ref m5, .int kn, .int (nI ft), .ref m6, .ref m7, .int (nI ru), .ref m8, .ref m9, .ref m10, .int kp, .ref m11, .ref m12])), (m1, kx_aD G 8 ps), (m2, kx_aD G 8 qs), (m3, kx_aZ G 128 th), (m4, kx_aD G 128 fr), (m5, kx_aD G 128 to), (m6, kx_aZ G 16 fd), (m7, kx_aD G 64 sh), (m8, kx_aI G 6 ki), (m9, kx_aD G 6 li), (m10, kx_aI G 6 cl), (m11, kx_aD G 16 kx), (m12, kx_aD G 16 ky)] H := hP
      have hD : va_D A [(m0, .inr (6, [.int 2, .int (nI n), .int (nI v), .ref m1, .ref m2, .ref m3, .ref m4, .ref m5, .int kn, .int (nI ft), .ref m6, .ref m7, .int (nI ru), .ref m8, .ref m9, .ref m10, .int kp, .ref m11, .ref m12])), (m1, kx_aD G 8 ps), (m2, kx_aD G 8 qs), (m3, kx_aZ G 128 th), (m4, kx_aD G 128 fr), (m5, kx_aD G 128 to), (m6, kx_aZ G 16 fd), (m7, kx_aD G 64 sh), (m8, kx_aI G 6 ki), (m9, kx_aD G 6 li), (m10, kx_aI G 6 cl), (m11, kx_aD G 16 kx), (m12, kx_aD G 16 ky)] := hD
      refine lv_aload_n hx hb dX5_fitted_28 rfl (lv_at hl 0 rfl) ?_
      refine va_get (D := G.1) (ci := 6) (v := .int 2) (C := RX5) (T := TX5) (N := 19) hx hb hts hin_X5 hown hT.1 hP 0 rfl rfl 0 (by decide) hf_55 (fun _ h9 => h9) rfl dX5_fitted_29 ?_
      refine lv_if_ne (x := 2) (tgt := 48) hx hb dX5_fitted_32 (by decide) (fun c_7 => ?_) (fun c_7 => ?_)
      · refine lv_iconst (v := 0) hx hb dX5_fitted_48 (by decide) ?_
        have hcd : (kc_fit (kx_no n a9) (kx_hs kn ft)) = 2 := by
          unfold kc_fit
          rw [if_pos c_3, if_pos c_6]
        exact W.zret (v := 0) hx hb hr rfl (fun t ht hW => ⟨⟨0, 2, rfl, ⟨hcd.symm, fun q => absurd (hcd.symm.trans q) (by decide)⟩, And.intro (by rw [ht]; exact hP) hD⟩, hS.F ht⟩) hS.2.2 dX5_fitted_49
      · exact absurd c_7 (by decide)
    · refine lv_iconst (v := 0) hx hb dX5_fitted_20 (by decide) ?_
      refine lv_goto (tgt := 25) hx hb dX5_fitted_21 (by decide) ?_
      refine va_put (D := G.1) (ci := 6) (v := .int 0) (ty := .int) (C := RX5) (T := TX5) (N := 19) hx hb hts hin_X5 tyX5 tyX5_ok nmX5 hown hT.1 hP hD hS 0 rfl rfl 0 (by decide) hf_55 (fun _ h9 => h9) rfl (by decide +kernel) rfl rfl (Nat.le_of_ble_eq_true rfl) dX5_fitted_25 (fun H locs hP hD hS => ?_)
      have hP : va_P G.1 vwCl [(m0, .inr (6, [.int 0, .int (nI n), .int (nI v), .ref m1, .ref m2, .ref m3, .ref m4, .ref m5, .int kn, .int (nI ft), .ref m6, .ref m7, .int (nI ru), .ref m8, .ref m9, .ref m10, .int kp, .ref m11, .ref m12])), (m1, kx_aD G 8 ps), (m2, kx_aD G 8 qs), (m3, kx_aZ G 128 th), (m4, kx_aD G 128 fr), (m5, kx_aD G 128 to), (m6, kx_aZ G 16 fd), (m7, kx_aD G 64 sh), (m8, kx_aI G 6 ki), (m9, kx_aD G 6 li), (m10, kx_aI G 6 cl), (m11, kx_aD G 16 kx), (m12, kx_aD G 16 ky)] H := hP
      have hD : va_D A [(m0, .inr (6, [.int 0, .int (nI n), .int (nI v), .ref m1, .ref m2, .ref m3, .ref m4, .ref m5, .int kn, .int (nI ft), .ref m6, .ref m7, .int (nI ru), .ref m8, .ref m9, .ref m10, .int kp, .ref m11, .ref m12])), (m1, kx_aD G 8 ps), (m2, kx_aD G 8 qs), (m3, kx_aZ G 128 th), (m4, kx_aD G 128 fr), (m5, kx_aD G 128 to), (m6, kx_aZ G 16 fd), (m7, kx_aD G 64 sh), (m8, kx_aI G 6 ki), (m9, kx_aD G 6 li), (m10, kx_aI G 6 cl), (m11, kx_aD G 16 kx), (m12, kx_aD G 16 ky)] := hD
      refine lv_aload_n hx hb dX5_fitted_28 rfl (lv_at hl 0 rfl) ?_
      refine va_get (D := G.1) (ci := 6) (v := .int 0) (C := RX5) (T := TX5) (N := 19) hx hb hts hin_X5 hown hT.1 hP 0 rfl rfl 0 (by decide) hf_55 (fun _ h9 => h9) rfl dX5_fitted_29 ?_
      refine lv_if_ne (x := 0) (tgt := 48) hx hb dX5_fitted_32 (by decide) (fun c_8 => ?_) (fun c_8 => ?_)
      · exact absurd c_8 (by decide)
      · obtain ⟨i_, hi_, ea_⟩ := kx_no_0 (n := n) (by omega) c_3
        rw [ea_] at hl
        refine lv_aload_n hx hb dX5_fitted_35 rfl (lv_at hl 0 rfl) ?_
        refine va_get (D := G.1) (ci := 6) (v := .ref m6) (C := RX5) (T := TX5) (N := 19) hx hb hts hin_X5 hown hT.1 hP 0 rfl rfl 10 (by decide) hf_26 (fun _ h9 => h9) rfl dX5_fitted_36 ?_
        refine lv_iload_n hx hb dX5_fitted_39 rfl (lv_at hl 1 rfl) ?_
        refine kx_zald hx hb hT hP 6 rfl i_ (by omega) (by omega) dX5_fitted_40 ?_
        refine lv_if_eq (x := fd i_) (tgt := 48) hx hb dX5_fitted_41 (by decide) (fun c_9 => ?_) (fun c_9 => ?_)
        · refine lv_iconst (v := 0) hx hb dX5_fitted_48 (by decide) ?_
          have hcd : (kc_fit (kx_no n a9) (kx_hs kn ft)) = 0 := by
            unfold kc_fit
            rw [if_pos c_3, if_neg c_6]
          exact W.zret (v := 0) hx hb hr rfl (fun t ht hW => ⟨⟨0, 0, rfl, ⟨hcd.symm, fun _ => by rw [ea_, nI_clamp (by omega), if_pos c_9]⟩, And.intro (by rw [ht]; exact hP) hD⟩, hS.F ht⟩) hS.2.2 dX5_fitted_49
        · refine lv_iconst (v := 1) hx hb dX5_fitted_44 (by decide) ?_
          refine lv_goto (tgt := 49) hx hb dX5_fitted_45 (by decide) ?_
          have hcd : (kc_fit (kx_no n a9) (kx_hs kn ft)) = 0 := by
            unfold kc_fit
            rw [if_pos c_3, if_neg c_6]
          exact W.zret (v := 1) hx hb hr rfl (fun t ht hW => ⟨⟨1, 0, rfl, ⟨hcd.symm, fun _ => by rw [ea_, nI_clamp (by omega), if_neg c_9]⟩, And.intro (by rw [ht]; exact hP) hD⟩, hS.F ht⟩) hS.2.2 dX5_fitted_49
  · refine lv_iconst (v := 1) hx hb dX5_fitted_9 (by decide) ?_
    refine lv_goto (tgt := 25) hx hb dX5_fitted_10 (by decide) ?_
    refine va_put (D := G.1) (ci := 6) (v := .int 1) (ty := .int) (C := RX5) (T := TX5) (N := 19) hx hb hts hin_X5 tyX5 tyX5_ok nmX5 hown hT.1 hP hD hS 0 rfl rfl 0 (by decide) hf_55 (fun _ h9 => h9) rfl (by decide +kernel) rfl rfl (Nat.le_of_ble_eq_true rfl) dX5_fitted_25 (fun H locs hP hD hS => ?_)
    have hP : va_P G.1 vwCl [(m0, .inr (6, [.int 1, .int (nI n), .int (nI v), .ref m1, .ref m2, .ref m3, .ref m4, .ref m5, .int kn, .int (nI ft), .ref m6, .ref m7, .int (nI ru), .ref m8, .ref m9, .ref m10, .int kp, .ref m11, .ref m12])), (m1, kx_aD G 8 ps), (m2, kx_aD G 8 qs), (m3, kx_aZ G 128 th), (m4, kx_aD G 128 fr), (m5, kx_aD G 128 to), (m6, kx_aZ G 16 fd), (m7, kx_aD G 64 sh), (m8, kx_aI G 6 ki), (m9, kx_aD G 6 li), (m10, kx_aI G 6 cl), (m11, kx_aD G 16 kx), (m12, kx_aD G 16 ky)] H := hP
    have hD : va_D A [(m0, .inr (6, [.int 1, .int (nI n), .int (nI v), .ref m1, .ref m2, .ref m3, .ref m4, .ref m5, .int kn, .int (nI ft), .ref m6, .ref m7, .int (nI ru), .ref m8, .ref m9, .ref m10, .int kp, .ref m11, .ref m12])), (m1, kx_aD G 8 ps), (m2, kx_aD G 8 qs), (m3, kx_aZ G 128 th), (m4, kx_aD G 128 fr), (m5, kx_aD G 128 to), (m6, kx_aZ G 16 fd), (m7, kx_aD G 64 sh), (m8, kx_aI G 6 ki), (m9, kx_aD G 6 li), (m10, kx_aI G 6 cl), (m11, kx_aD G 16 kx), (m12, kx_aD G 16 ky)] := hD
    refine lv_aload_n hx hb dX5_fitted_28 rfl (lv_at hl 0 rfl) ?_
    refine va_get (D := G.1) (ci := 6) (v := .int 1) (C := RX5) (T := TX5) (N := 19) hx hb hts hin_X5 hown hT.1 hP 0 rfl rfl 0 (by decide) hf_55 (fun _ h9 => h9) rfl dX5_fitted_29 ?_
    refine lv_if_ne (x := 1) (tgt := 48) hx hb dX5_fitted_32 (by decide) (fun c_10 => ?_) (fun c_10 => ?_)
    · refine lv_iconst (v := 0) hx hb dX5_fitted_48 (by decide) ?_
      have hcd : (kc_fit (kx_no n a9) (kx_hs kn ft)) = 1 := by
        unfold kc_fit
        rw [if_neg c_3]
      exact W.zret (v := 0) hx hb hr rfl (fun t ht hW => ⟨⟨0, 1, rfl, ⟨hcd.symm, fun q => absurd (hcd.symm.trans q) (by decide)⟩, And.intro (by rw [ht]; exact hP) hD⟩, hS.F ht⟩) hS.2.2 dX5_fitted_49
    · exact absurd c_10 (by decide)
set_option maxHeartbeats 4000000 in
set_option maxRecDepth 100000 in
/-- inside -/
theorem c_X5_inside (l : Launch) (G : kx_G) (sz : Nat) (m0 : Nat) (m1 : Nat) (m2 : Nat) (m3 : Nat) (m4 : Nat) (m5 : Nat) (m6 : Nat) (m7 : Nat) (m8 : Nat) (m9 : Nat) (m10 : Nat) (m11 : Nat) (m12 : Nat) (n : Nat) (v : Nat) (tw : Int32) (ps : Nat → UInt64) (qs : Nat → UInt64) (th : Nat → Int32) (fr : Nat → UInt64) (to : Nat → UInt64) (kn : Int32) (ft : Nat) (fd : Nat → Int32) (sh : Nat → UInt64) (ru : Nat) (ki : Nat → Int32) (li : Nat → UInt64) (cl : Nat → Int32) (kp : Int32) (kx : Nat → UInt64) (ky : Nat → UInt64) (a9 : Int32) (x9 : UInt64) (y9 : UInt64) (hb_ps : ∀ j, fx_bd 5 (ps j)) (hb_qs : ∀ j, fx_bd 5 (qs j)) (hb_fr : ∀ j, fx_bd 11 (fr j)) (hb_to : ∀ j, fx_bd 11 (to j)) (hb_sh : ∀ j, fx_bd 220 (sh j)) (hb_kx : ∀ j, fx_bd 130 (kx j)) (hb_ky : ∀ j, fx_bd 130 (ky j)) (hn1 : 1 ≤ n) (hn : n ≤ 16) (hv1 : 1 ≤ v) (hv : v ≤ 8) (hft : ft ≤ 16) (hru : ru ≤ 6) : Met l yX5_inside wsX5_inside ({ frames := 1, cells := 0, slots := 0, locals := 31 } : Room) (kx_PM G [.ref m0, .int a9, .double x9, .double y9] sz [(m0, .inr (6, [.int tw, .int (nI n), .int (nI v), .ref m1, .ref m2, .ref m3, .ref m4, .ref m5, .int kn, .int (nI ft), .ref m6, .ref m7, .int (nI ru), .ref m8, .ref m9, .ref m10, .int kp, .ref m11, .ref m12])), (m1, kx_aD G 8 ps), (m2, kx_aD G 8 qs), (m3, kx_aZ G 128 th), (m4, kx_aD G 128 fr), (m5, kx_aD G 128 to), (m6, kx_aZ G 16 fd), (m7, kx_aD G 64 sh), (m8, kx_aI G 6 ki), (m9, kx_aD G 6 li), (m10, kx_aI G 6 cl), (m11, kx_aD G 16 kx), (m12, kx_aD G 16 ky)]) (va_Qi (fun (r : Int32) (u : Int32) => u = (kc_ins (kx_no n a9) (kx_wi x9 1000) (kx_wi y9 1000) (kx_hs kn ft)) ∧ ((kc_ins (kx_no n a9) (kx_wi x9 1000) (kx_wi y9 1000) (kx_hs kn ft)) = 0 → r = kx_cov (sh (4 * a9.toNatClampNeg)) (sh (4 * a9.toNatClampNeg + 1)) (sh (4 * a9.toNatClampNeg + 2)) x9 y9)) (kx_B G (va_A [(m0, .inr (6, [.int tw, .int (nI n), .int (nI v), .ref m1, .ref m2, .ref m3, .ref m4, .ref m5, .int kn, .int (nI ft), .ref m6, .ref m7, .int (nI ru), .ref m8, .ref m9, .ref m10, .int kp, .ref m11, .ref m12])), (m1, kx_aD G 8 ps), (m2, kx_aD G 8 qs), (m3, kx_aZ G 128 th), (m4, kx_aD G 128 fr), (m5, kx_aD G 128 to), (m6, kx_aZ G 16 fd), (m7, kx_aD G 64 sh), (m8, kx_aI G 6 ki), (m9, kx_aD G 6 li), (m10, kx_aI G 6 cl), (m11, kx_aD G 16 kx), (m12, kx_aD G 16 ky)] sz) (fun u : Int32 => [(m0, .inr (6, [.int u, .int (nI n), .int (nI v), .ref m1, .ref m2, .ref m3, .ref m4, .ref m5, .int kn, .int (nI ft), .ref m6, .ref m7, .int (nI ru), .ref m8, .ref m9, .ref m10, .int kp, .ref m11, .ref m12])), (m1, kx_aD G 8 ps), (m2, kx_aD G 8 qs), (m3, kx_aZ G 128 th), (m4, kx_aD G 128 fr), (m5, kx_aD G 128 to), (m6, kx_aZ G 16 fd), (m7, kx_aD G 64 sh), (m8, kx_aI G 6 ki), (m9, kx_aD G 6 li), (m10, kx_aI G 6 cl), (m11, kx_aD G 16 kx), (m12, kx_aD G 16 ky)])) (va_A [(m0, .inr (6, [.int tw, .int (nI n), .int (nI v), .ref m1, .ref m2, .ref m3, .ref m4, .ref m5, .int kn, .int (nI ft), .ref m6, .ref m7, .int (nI ru), .ref m8, .ref m9, .ref m10, .int kp, .ref m11, .ref m12])), (m1, kx_aD G 8 ps), (m2, kx_aD G 8 qs), (m3, kx_aZ G 128 th), (m4, kx_aD G 128 fr), (m5, kx_aD G 128 to), (m6, kx_aZ G 16 fd), (m7, kx_aD G 64 sh), (m8, kx_aI G 6 ki), (m9, kx_aD G 6 li), (m10, kx_aI G 6 cl), (m11, kx_aD G 16 kx), (m12, kx_aD G 16 ky)] sz)) 0 0 (va_A [(m0, .inr (6, [.int tw, .int (nI n), .int (nI v), .ref m1, .ref m2, .ref m3, .ref m4, .ref m5, .int kn, .int (nI ft), .ref m6, .ref m7, .int (nI ru), .ref m8, .ref m9, .ref m10, .int kp, .ref m11, .ref m12])), (m1, kx_aD G 8 ps), (m2, kx_aD G 8 qs), (m3, kx_aZ G 128 th), (m4, kx_aD G 128 fr), (m5, kx_aD G 128 to), (m6, kx_aZ G 16 fd), (m7, kx_aD G 64 sh), (m8, kx_aI G 6 ki), (m9, kx_aD G 6 li), (m10, kx_aI G 6 cl), (m11, kx_aD G 16 kx), (m12, kx_aD G 16 ky)] sz) := by
  refine Met.ofW (cc := cX5_inside) (maxL := 6) (ret := (some .boolean)) (by decide) rfl ?_
  intro p e s m args below meth c s₁ B hml hv
  obtain ⟨rfl, hsz, hP, hT, hD0⟩ := hv
  have hx := B.exec
  have hb := B.bytes
  have hr := B.returns
  have hts := atoms_spec (ws := wsX5_inside) B.pre
  have hown : s.vm.findClass RX5 = some m.cls := findClass_of_methodNamed B.named
  have hlocks := B.notSynchronized
  have hc_77 := hts (.constantDouble RX5 77 (13875379345695965184)) (by decide +kernel)
  have hc_79 := hts (.constantDouble RX5 79 (4652007308841189376)) (by decide +kernel)
  have hf_55 := hts (.fieldLink RX5 55 "StemShapesModel" "thrown" "I") (by decide +kernel)
  have hin_X5 : ∀ w ∈ wsX50, w ∈ wsX5_inside := by decide +kernel
  subst hsz
  have hD := hD0.self (sz := s.heap.size)
  generalize hAe : va_A [(m0, .inr (6, [.int tw, .int (nI n), .int (nI v), .ref m1, .ref m2, .ref m3, .ref m4, .ref m5, .int kn, .int (nI ft), .ref m6, .ref m7, .int (nI ru), .ref m8, .ref m9, .ref m10, .int kp, .ref m11, .ref m12])), (m1, kx_aD G 8 ps), (m2, kx_aD G 8 qs), (m3, kx_aZ G 128 th), (m4, kx_aD G 128 fr), (m5, kx_aD G 128 to), (m6, kx_aZ G 16 fd), (m7, kx_aD G 64 sh), (m8, kx_aI G 6 ki), (m9, kx_aD G 6 li), (m10, kx_aI G 6 cl), (m11, kx_aD G 16 kx), (m12, kx_aD G 16 ky)] s.heap.size = A at hD ⊢
  have hA : ∀ q : Nat, s.heap.size ≤ q → A q := fun q h => by rw [← hAe]; exact Or.inr h
  have hS : va_S A s.heap s.heap [] := va_S.rf
  have hl := lv_entry ([.ref m0, .int a9, .double x9, .double y9]) (n := 6) (Nat.le_of_ble_eq_true rfl)
  rw [lg_entry_eq]
  generalize (lg_sl ([.ref m0, .int a9, .double x9, .double y9]) ++ List.replicate (6 - (lg_sl ([.ref m0, .int a9, .double x9, .double y9])).length) Slot.unset).toArray = ls at hl ⊢
  have hl : lv_has ls 6 [(0, .ref m0), (1, .int a9), (2, .double x9), (4, .double y9)] := hl
  refine lv_aload_n hx hb dX5_inside_0 rfl (lv_at hl 0 rfl) ?_
  refine lv_aload_n hx hb dX5_inside_1 rfl (lv_at hl 0 rfl) ?_
  refine lv_iload_n hx hb dX5_inside_2 rfl (lv_at hl 1 rfl) ?_
  refine vp_callSi (W.runV (As := [.int a9]) (rest := [.ref m0]) ⟨hx, hb, hml, hown, hts⟩ (c_X5_noSlice l G (m0 := m0) (m1 := m1) (m2 := m2) (m3 := m3) (m4 := m4) (m5 := m5) (m6 := m6) (m7 := m7) (m8 := m8) (m9 := m9) (m10 := m10) (m11 := m11) (m12 := m12) (n := n) (v := v) (tw := tw) (ps := ps) (qs := qs) (th := th) (fr := fr) (to := to) (kn := kn) (ft := ft) (fd := fd) (sh := sh) (ru := ru) (ki := ki) (li := li) (cl := cl) (kp := kp) (kx := kx) (ky := ky) (a9 := a9) (hb_ps := hb_ps) (hb_qs := hb_qs) (hb_fr := hb_fr) (hb_to := hb_to) (hb_sh := hb_sh) (hb_kx := hb_kx) (hb_ky := hb_ky)) (cwV 1 hts gX5_inside_X5_noSlice rfl rfl rfl (by decide +kernel) ⟨Nat.le_of_ble_eq_true rfl, Nat.le_of_ble_eq_true rfl⟩) ⟨kx_PRb, va_recv hT.1 hP (ci := 6) (q0 := 0) rfl rfl, kx_pr hT hP [0, 1, 2, 3, 4, 5, 6, 7, 8, 9, 10, 11, 12] rfl⟩ rfl rfl hl.1 rfl (lv_room (Nat.le_of_ble_eq_true rfl)) dX5_inside_3 ⟨Nat.zero_le _, Nat.zero_le _⟩) (fun r_1 hw_2 => ?_)
  subst hw_2
  refine lv_if_eq (x := kx_no n a9) (tgt := 13) hx hb dX5_inside_6 (by decide) (fun c_3 => ?_) (fun c_3 => ?_)
  · refine lv_dload_n hx hb dX5_inside_13 rfl (lv_at hl 2 rfl) ?_
    refine lv_ldc2d (v := 13875379345695965184) hx hb hown hc_77 dX5_inside_14 ?_
    refine lv_ldc2d (v := 4652007308841189376) hx hb hown hc_79 dX5_inside_17 ?_
    refine vp_callSi (W.runS (As := [.double x9, .double 13875379345695965184, .double 4652007308841189376]) (rest := [.ref m0]) ⟨hx, hb, hml, hown, hts⟩ (c_X5_between l G (x := x9) (lo := 13875379345695965184) (hi := 4652007308841189376)) (va_cwS 3 hts gX5_inside_X5_between rfl rfl rfl (by decide +kernel) ⟨Nat.le_of_ble_eq_true rfl, Nat.le_of_ble_eq_true rfl⟩) ⟨kx_PRb, kx_pr hT hP [] rfl⟩ rfl rfl hl.1 rfl (lv_room (Nat.le_of_ble_eq_true rfl)) dX5_inside_20 ⟨Nat.zero_le _, Nat.zero_le _⟩) (fun r_4 hw_5 => ?_)
    subst hw_5
    refine kx_ei (y := kx_wi x9 1000) (kx_bt_1000 x9) ?_
    refine lv_if_eq (x := kx_wi x9 1000) (tgt := 40) hx hb dX5_inside_23 (by decide) (fun c_6 => ?_) (fun c_6 => ?_)
    · refine lv_iconst (v := 2) hx hb dX5_inside_40 (by decide) ?_
      refine lv_goto (tgt := 56) hx hb dX5_inside_41 (by decide) ?_
      refine va_put (D := G.1) (ci := 6) (v := .int 2) (ty := .int) (C := RX5) (T := TX5) (N := 19) hx hb hts hin_X5 tyX5 tyX5_ok nmX5 hown hT.1 hP hD hS 0 rfl rfl 0 (by decide) hf_55 (fun _ h9 => h9) rfl (by decide +kernel) rfl rfl (Nat.le_of_ble_eq_true rfl) dX5_inside_56 (fun H locs hP hD hS => ?_)
      have hP : va_P G.1 vwCl [(m0, .inr (6, [.int 2, .int (nI n), .int (nI v), .ref m1, .ref m2, .ref m3, .ref m4, .ref m5, .int kn, .int (nI ft), .ref m6, .ref m7, .int (nI ru), .ref m8, .ref m9, .ref m10, .int kp, .ref m11, .ref m12])), (m1, kx_aD G 8 ps), (m2, kx_aD G 8 qs), (m3, kx_aZ G 128 th), (m4, kx_aD G 128 fr), (m5, kx_aD G 128 to), (m6, kx_aZ G 16 fd), (m7, kx_aD G 64 sh), (m8, kx_aI G 6 ki), (m9, kx_aD G 6 li), (m10, kx_aI G 6 cl), (m11, kx_aD G 16 kx), (m12, kx_aD G 16 ky)] H := hP
      have hD : va_D A [(m0, .inr (6, [.int 2, .int (nI n), .int (nI v), .ref m1, .ref m2, .ref m3, .ref m4, .ref m5, .int kn, .int (nI ft), .ref m6, .ref m7, .int (nI ru), .ref m8, .ref m9, .ref m10, .int kp, .ref m11, .ref m12])), (m1, kx_aD G 8 ps), (m2, kx_aD G 8 qs), (m3, kx_aZ G 128 th), (m4, kx_aD G 128 fr), (m5, kx_aD G 128 to), (m6, kx_aZ G 16 fd), (m7, kx_aD G 64 sh), (m8, kx_aI G 6 ki), (m9, kx_aD G 6 li), (m10, kx_aI G 6 cl), (m11, kx_aD G 16 kx), (m12, kx_aD G 16 ky)] := hD
      refine lv_aload_n hx hb dX5_inside_59 rfl (lv_at hl 0 rfl) ?_
      refine va_get (D := G.1) (ci := 6) (v := .int 2) (C := RX5) (T := TX5) (N := 19) hx hb hts hin_X5 hown hT.1 hP 0 rfl rfl 0 (by decide) hf_55 (fun _ h9 => h9) rfl dX5_inside_60 ?_
      refine lv_if_ne (x := 2) (tgt := 81) hx hb dX5_inside_63 (by decide) (fun c_7 => ?_) (fun c_7 => ?_)
      · refine lv_iconst (v := 0) hx hb dX5_inside_81 (by decide) ?_
        have hcd : (kc_ins (kx_no n a9) (kx_wi x9 1000) (kx_wi y9 1000) (kx_hs kn ft)) = 2 := by
          unfold kc_ins
          rw [if_pos c_3, if_pos c_6]
        exact W.zret (v := 0) hx hb hr rfl (fun t ht hW => ⟨⟨0, 2, rfl, ⟨hcd.symm, fun q => absurd (hcd.symm.trans q) (by decide)⟩, And.intro (by rw [ht]; exact hP) hD⟩, hS.F ht⟩) hS.2.2 dX5_inside_82
      · exact absurd c_7 (by decide)
    · have hxb := (fx_w1000 c_6).mono (b := 40) (by omega)
      refine lv_dload hx hb dX5_inside_26 (lv_at hl 3 rfl) ?_
      refine lv_ldc2d (v := 13875379345695965184) hx hb hown hc_77 dX5_inside_28 ?_
      refine lv_ldc2d (v := 4652007308841189376) hx hb hown hc_79 dX5_inside_31 ?_
      refine vp_callSi (W.runS (As := [.double y9, .double 13875379345695965184, .double 4652007308841189376]) (rest := [.ref m0]) ⟨hx, hb, hml, hown, hts⟩ (c_X5_between l G (x := y9) (lo := 13875379345695965184) (hi := 4652007308841189376)) (va_cwS 3 hts gX5_inside_X5_between rfl rfl rfl (by decide +kernel) ⟨Nat.le_of_ble_eq_true rfl, Nat.le_of_ble_eq_true rfl⟩) ⟨kx_PRb, kx_pr hT hP [] rfl⟩ rfl rfl hl.1 rfl (lv_room (Nat.le_of_ble_eq_true rfl)) dX5_inside_34 ⟨Nat.zero_le _, Nat.zero_le _⟩) (fun r_8 hw_9 => ?_)
      subst hw_9
      refine kx_ei (y := kx_wi y9 1000) (kx_bt_1000 y9) ?_
      refine lv_if_ne (x := kx_wi y9 1000) (tgt := 44) hx hb dX5_inside_37 (by decide) (fun c_10 => ?_) (fun c_10 => ?_)
      · have hyb := (fx_w1000 c_10).mono (b := 40) (by omega)
        refine lv_aload_n hx hb dX5_inside_44 rfl (lv_at hl 0 rfl) ?_
        refine vp_callSi (W.runV (As := []) (rest := [.ref m0]) ⟨hx, hb, hml, hown, hts⟩ (c_X5_hasShape l G (m0 := m0) (m1 := m1) (m2 := m2) (m3 := m3) (m4 := m4) (m5 := m5) (m6 := m6) (m7 := m7) (m8 := m8) (m9 := m9) (m10 := m10) (m11 := m11) (m12 := m12) (n := n) (v := v) (tw := tw) (ps := ps) (qs := qs) (th := th) (fr := fr) (to := to) (kn := kn) (ft := ft) (fd := fd) (sh := sh) (ru := ru) (ki := ki) (li := li) (cl := cl) (kp := kp) (kx := kx) (ky := ky) (hb_ps := hb_ps) (hb_qs := hb_qs) (hb_fr := hb_fr) (hb_to := hb_to) (hb_sh := hb_sh) (hb_kx := hb_kx) (hb_ky := hb_ky) (hft := (by omega))) (cwV 0 hts gX5_inside_X5_hasShape rfl rfl rfl (by decide +kernel) ⟨Nat.le_of_ble_eq_true rfl, Nat.le_of_ble_eq_true rfl⟩) ⟨kx_PRb, va_recv hT.1 hP (ci := 6) (q0 := 0) rfl rfl, kx_pr hT hP [0, 1, 2, 3, 4, 5, 6, 7, 8, 9, 10, 11, 12] rfl⟩ rfl rfl hl.1 rfl (lv_room (Nat.le_of_ble_eq_true rfl)) dX5_inside_45 ⟨Nat.zero_le _, Nat.zero_le _⟩) (fun r_11 hw_12 => ?_)
        subst hw_12
        refine lv_if_eq (x := kx_hs kn ft) (tgt := 55) hx hb dX5_inside_48 (by decide) (fun c_13 => ?_) (fun c_13 => ?_)
        · refine lv_iconst (v := 3) hx hb dX5_inside_55 (by decide) ?_
          refine va_put (D := G.1) (ci := 6) (v := .int 3) (ty := .int) (C := RX5) (T := TX5) (N := 19) hx hb hts hin_X5 tyX5 tyX5_ok nmX5 hown hT.1 hP hD hS 0 rfl rfl 0 (by decide) hf_55 (fun _ h9 => h9) rfl (by decide +kernel) rfl rfl (Nat.le_of_ble_eq_true rfl) dX5_inside_56 (fun H locs hP hD hS => ?_)
          have hP : va_P G.1 vwCl [(m0, .inr (6, [.int 3, .int (nI n), .int (nI v), .ref m1, .ref m2, .ref m3, .ref m4, .ref m5, .int kn, .int (nI ft), .ref m6, .ref m7, .int (nI ru), .ref m8, .ref m9, .ref m10, .int kp, .ref m11, .ref m12])), (m1, kx_aD G 8 ps), (m2, kx_aD G 8 qs), (m3, kx_aZ G 128 th), (m4, kx_aD G 128 fr), (m5, kx_aD G 128 to), (m6, kx_aZ G 16 fd), (m7, kx_aD G 64 sh), (m8, kx_aI G 6 ki), (m9, kx_aD G 6 li), (m10, kx_aI G 6 cl), (m11, kx_aD G 16 kx), (m12, kx_aD G 16 ky)] H := hP
          have hD : va_D A [(m0, .inr (6, [.int 3, .int (nI n), .int (nI v), .ref m1, .ref m2, .ref m3, .ref m4, .ref m5, .int kn, .int (nI ft), .ref m6, .ref m7, .int (nI ru), .ref m8, .ref m9, .ref m10, .int kp, .ref m11, .ref m12])), (m1, kx_aD G 8 ps), (m2, kx_aD G 8 qs), (m3, kx_aZ G 128 th), (m4, kx_aD G 128 fr), (m5, kx_aD G 128 to), (m6, kx_aZ G 16 fd), (m7, kx_aD G 64 sh), (m8, kx_aI G 6 ki), (m9, kx_aD G 6 li), (m10, kx_aI G 6 cl), (m11, kx_aD G 16 kx), (m12, kx_aD G 16 ky)] := hD
          refine lv_aload_n hx hb dX5_inside_59 rfl (lv_at hl 0 rfl) ?_
          refine va_get (D := G.1) (ci := 6) (v := .int 3) (C := RX5) (T := TX5) (N := 19) hx hb hts hin_X5 hown hT.1 hP 0 rfl rfl 0 (by decide) hf_55 (fun _ h9 => h9) rfl dX5_inside_60 ?_
          refine lv_if_ne (x := 3) (tgt := 81) hx hb dX5_inside_63 (by decide) (fun c_14 => ?_) (fun c_14 => ?_)
          · refine lv_iconst (v := 0) hx hb dX5_inside_81 (by decide) ?_
            have hcd : (kc_ins (kx_no n a9) (kx_wi x9 1000) (kx_wi y9 1000) (kx_hs kn ft)) = 3 := by
              unfold kc_ins
              rw [if_pos c_3, if_neg c_6, if_pos c_10, if_pos c_13]
            exact W.zret (v := 0) hx hb hr rfl (fun t ht hW => ⟨⟨0, 3, rfl, ⟨hcd.symm, fun q => absurd (hcd.symm.trans q) (by decide)⟩, And.intro (by rw [ht]; exact hP) hD⟩, hS.F ht⟩) hS.2.2 dX5_inside_82
          · exact absurd c_14 (by decide)
        · refine lv_iconst (v := 0) hx hb dX5_inside_51 (by decide) ?_
          refine lv_goto (tgt := 56) hx hb dX5_inside_52 (by decide) ?_
          refine va_put (D := G.1) (ci := 6) (v := .int 0) (ty := .int) (C := RX5) (T := TX5) (N := 19) hx hb hts hin_X5 tyX5 tyX5_ok nmX5 hown hT.1 hP hD hS 0 rfl rfl 0 (by decide) hf_55 (fun _ h9 => h9) rfl (by decide +kernel) rfl rfl (Nat.le_of_ble_eq_true rfl) dX5_inside_56 (fun H locs hP hD hS => ?_)
          have hP : va_P G.1 vwCl [(m0, .inr (6, [.int 0, .int (nI n), .int (nI v), .ref m1, .ref m2, .ref m3, .ref m4, .ref m5, .int kn, .int (nI ft), .ref m6, .ref m7, .int (nI ru), .ref m8, .ref m9, .ref m10, .int kp, .ref m11, .ref m12])), (m1, kx_aD G 8 ps), (m2, kx_aD G 8 qs), (m3, kx_aZ G 128 th), (m4, kx_aD G 128 fr), (m5, kx_aD G 128 to), (m6, kx_aZ G 16 fd), (m7, kx_aD G 64 sh), (m8, kx_aI G 6 ki), (m9, kx_aD G 6 li), (m10, kx_aI G 6 cl), (m11, kx_aD G 16 kx), (m12, kx_aD G 16 ky)] H := hP
          have hD : va_D A [(m0, .inr (6, [.int 0, .int (nI n), .int (nI v), .ref m1, .ref m2, .ref m3, .ref m4, .ref m5, .int kn, .int (nI ft), .ref m6, .ref m7, .int (nI ru), .ref m8, .ref m9, .ref m10, .int kp, .ref m11, .ref m12])), (m1, kx_aD G 8 ps), (m2, kx_aD G 8 qs), (m3, kx_aZ G 128 th), (m4, kx_aD G 128 fr), (m5, kx_aD G 128 to), (m6, kx_aZ G 16 fd), (m7, kx_aD G 64 sh), (m8, kx_aI G 6 ki), (m9, kx_aD G 6 li), (m10, kx_aI G 6 cl), (m11, kx_aD G 16 kx), (m12, kx_aD G 16 ky)] := hD
          refine lv_aload_n hx hb dX5_inside_59 rfl (lv_at hl 0 rfl) ?_
          refine va_get (D := G.1) (ci := 6) (v := .int 0) (C := RX5) (T := TX5) (N := 19) hx hb hts hin_X5 hown hT.1 hP 0 rfl rfl 0 (by decide) hf_55 (fun _ h9 => h9) rfl dX5_inside_60 ?_
          refine lv_if_ne (x := 0) (tgt := 81) hx hb dX5_inside_63 (by decide) (fun c_15 => ?_) (fun c_15 => ?_)
          · exact absurd c_15 (by decide)
          · obtain ⟨i_, hi_, ea_⟩ := kx_no_0 (n := n) (by omega) c_3
            rw [ea_] at hl
            refine lv_aload_n hx hb dX5_inside_66 rfl (lv_at hl 0 rfl) ?_
            refine lv_iload_n hx hb dX5_inside_67 rfl (lv_at hl 1 rfl) ?_
            refine lv_dload_n hx hb dX5_inside_68 rfl (lv_at hl 2 rfl) ?_
            refine lv_dload hx hb dX5_inside_69 (lv_at hl 3 rfl) ?_
            refine vp_callSi (W.runV (As := [.int (nI i_), .double x9, .double y9]) (rest := []) ⟨hx, hb, hml, hown, hts⟩ (c_X5_isInside l G (m0 := m0) (m1 := m1) (m2 := m2) (m3 := m3) (m4 := m4) (m5 := m5) (m6 := m6) (m7 := m7) (m8 := m8) (m9 := m9) (m10 := m10) (m11 := m11) (m12 := m12) (n := n) (v := v) (tw := 0) (ps := ps) (qs := qs) (th := th) (fr := fr) (to := to) (kn := kn) (ft := ft) (fd := fd) (sh := sh) (ru := ru) (ki := ki) (li := li) (cl := cl) (kp := kp) (kx := kx) (ky := ky) (i := i_) (x := x9) (y := y9) (hb_ps := hb_ps) (hb_qs := hb_qs) (hb_fr := hb_fr) (hb_to := hb_to) (hb_sh := hb_sh) (hb_kx := hb_kx) (hb_ky := hb_ky) (hi := (by omega)) (hx_b := hxb) (hy_b := hyb)) (cwV 3 hts gX5_inside_X5_isInside rfl rfl rfl (by decide +kernel) ⟨Nat.le_of_ble_eq_true rfl, Nat.le_of_ble_eq_true rfl⟩) ⟨kx_PRb, va_recv hT.1 hP (ci := 6) (q0 := 0) rfl rfl, kx_pr hT hP [0, 1, 2, 3, 4, 5, 6, 7, 8, 9, 10, 11, 12] rfl⟩ rfl rfl hl.1 rfl (lv_room (Nat.le_of_ble_eq_true rfl)) dX5_inside_71 ⟨Nat.zero_le _, Nat.zero_le _⟩) (fun r_16 hw_17 => ?_)
            subst hw_17
            refine lv_if_eq (x := kx_cov (sh (4 * i_)) (sh (4 * i_ + 1)) (sh (4 * i_ + 2)) x9 y9) (tgt := 81) hx hb dX5_inside_74 (by decide) (fun c_18 => ?_) (fun c_18 => ?_)
            · refine lv_iconst (v := 0) hx hb dX5_inside_81 (by decide) ?_
              have hcd : (kc_ins (kx_no n a9) (kx_wi x9 1000) (kx_wi y9 1000) (kx_hs kn ft)) = 0 := by
                unfold kc_ins
                rw [if_pos c_3, if_neg c_6, if_pos c_10, if_neg c_13]
              exact W.zret (v := 0) hx hb hr rfl (fun t ht hW => ⟨⟨0, 0, rfl, ⟨hcd.symm, fun _ => by rw [ea_, nI_clamp (by omega)]; exact c_18.symm⟩, And.intro (by rw [ht]; exact hP) hD⟩, hS.F ht⟩) hS.2.2 dX5_inside_82
            · refine lv_iconst (v := 1) hx hb dX5_inside_77 (by decide) ?_
              refine lv_goto (tgt := 82) hx hb dX5_inside_78 (by decide) ?_
              have hcd : (kc_ins (kx_no n a9) (kx_wi x9 1000) (kx_wi y9 1000) (kx_hs kn ft)) = 0 := by
                unfold kc_ins
                rw [if_pos c_3, if_neg c_6, if_pos c_10, if_neg c_13]
              exact W.zret (v := 1) hx hb hr rfl (fun t ht hW => ⟨⟨1, 0, rfl, ⟨hcd.symm, fun _ => by rw [ea_, nI_clamp (by omega)]; exact (kx_cov_01.resolve_left c_18).symm⟩, And.intro (by rw [ht]; exact hP) hD⟩, hS.F ht⟩) hS.2.2 dX5_inside_82
      · refine lv_iconst (v := 2) hx hb dX5_inside_40 (by decide) ?_
        refine lv_goto (tgt := 56) hx hb dX5_inside_41 (by decide) ?_
        refine va_put (D := G.1) (ci := 6) (v := .int 2) (ty := .int) (C := RX5) (T := TX5) (N := 19) hx hb hts hin_X5 tyX5 tyX5_ok nmX5 hown hT.1 hP hD hS 0 rfl rfl 0 (by decide) hf_55 (fun _ h9 => h9) rfl (by decide +kernel) rfl rfl (Nat.le_of_ble_eq_true rfl) dX5_inside_56 (fun H locs hP hD hS => ?_)
        have hP : va_P G.1 vwCl [(m0, .inr (6, [.int 2, .int (nI n), .int (nI v), .ref m1, .ref m2, .ref m3, .ref m4, .ref m5, .int kn, .int (nI ft), .ref m6, .ref m7, .int (nI ru), .ref m8, .ref m9, .ref m10, .int kp, .ref m11, .ref m12])), (m1, kx_aD G 8 ps), (m2, kx_aD G 8 qs), (m3, kx_aZ G 128 th), (m4, kx_aD G 128 fr), (m5, kx_aD G 128 to), (m6, kx_aZ G 16 fd), (m7, kx_aD G 64 sh), (m8, kx_aI G 6 ki), (m9, kx_aD G 6 li), (m10, kx_aI G 6 cl), (m11, kx_aD G 16 kx), (m12, kx_aD G 16 ky)] H := hP
        have hD : va_D A [(m0, .inr (6, [.int 2, .int (nI n), .int (nI v), .ref m1, .ref m2, .ref m3, .ref m4, .ref m5, .int kn, .int (nI ft), .ref m6, .ref m7, .int (nI ru), .ref m8, .ref m9, .ref m10, .int kp, .ref m11, .ref m12])), (m1, kx_aD G 8 ps), (m2, kx_aD G 8 qs), (m3, kx_aZ G 128 th), (m4, kx_aD G 128 fr), (m5, kx_aD G 128 to), (m6, kx_aZ G 16 fd), (m7, kx_aD G 64 sh), (m8, kx_aI G 6 ki), (m9, kx_aD G 6 li), (m10, kx_aI G 6 cl), (m11, kx_aD G 16 kx), (m12, kx_aD G 16 ky)] := hD
        refine lv_aload_n hx hb dX5_inside_59 rfl (lv_at hl 0 rfl) ?_
        refine va_get (D := G.1) (ci := 6) (v := .int 2) (C := RX5) (T := TX5) (N := 19) hx hb hts hin_X5 hown hT.1 hP 0 rfl rfl 0 (by decide) hf_55 (fun _ h9 => h9) rfl dX5_inside_60 ?_
        refine lv_if_ne (x := 2) (tgt := 81) hx hb dX5_inside_63 (by decide) (fun c_19 => ?_) (fun c_19 => ?_)
        · refine lv_iconst (v := 0) hx hb dX5_inside_81 (by decide) ?_
          have hcd : (kc_ins (kx_no n a9) (kx_wi x9 1000) (kx_wi y9 1000) (kx_hs kn ft)) = 2 := by
            unfold kc_ins
            rw [if_pos c_3, if_neg c_6, if_neg (fun q => q c_10)]
          exact W.zret (v := 0) hx hb hr rfl (fun t ht hW => ⟨⟨0, 2, rfl, ⟨hcd.symm, fun q => absurd (hcd.symm.trans q) (by decide)⟩, And.intro (by rw [ht]; exact hP) hD⟩, hS.F ht⟩) hS.2.2 dX5_inside_82
        · exact absurd c_19 (by decide)
  · refine lv_iconst (v := 1) hx hb dX5_inside_9 (by decide) ?_
    refine lv_goto (tgt := 56) hx hb dX5_inside_10 (by decide) ?_
    refine va_put (D := G.1) (ci := 6) (v := .int 1) (ty := .int) (C := RX5) (T := TX5) (N := 19) hx hb hts hin_X5 tyX5 tyX5_ok nmX5 hown hT.1 hP hD hS 0 rfl rfl 0 (by decide) hf_55 (fun _ h9 => h9) rfl (by decide +kernel) rfl rfl (Nat.le_of_ble_eq_true rfl) dX5_inside_56 (fun H locs hP hD hS => ?_)
    have hP : va_P G.1 vwCl [(m0, .inr (6, [.int 1, .int (nI n), .int (nI v), .ref m1, .ref m2, .ref m3, .ref m4, .ref m5, .int kn, .int (nI ft), .ref m6, .ref m7, .int (nI ru), .ref m8, .ref m9, .ref m10, .int kp, .ref m11, .ref m12])), (m1, kx_aD G 8 ps), (m2, kx_aD G 8 qs), (m3, kx_aZ G 128 th), (m4, kx_aD G 128 fr), (m5, kx_aD G 128 to), (m6, kx_aZ G 16 fd), (m7, kx_aD G 64 sh), (m8, kx_aI G 6 ki), (m9, kx_aD G 6 li), (m10, kx_aI G 6 cl), (m11, kx_aD G 16 kx), (m12, kx_aD G 16 ky)] H := hP
    have hD : va_D A [(m0, .inr (6, [.int 1, .int (nI n), .int (nI v), .ref m1, .ref m2, .ref m3, .ref m4, .ref m5, .int kn, .int (nI ft), .ref m6, .ref m7, .int (nI ru), .ref m8, .ref m9, .ref m10, .int kp, .ref m11, .ref m12])), (m1, kx_aD G 8 ps), (m2, kx_aD G 8 qs), (m3, kx_aZ G 128 th), (m4, kx_aD G 128 fr), (m5, kx_aD G 128 to), (m6, kx_aZ G 16 fd), (m7, kx_aD G 64 sh), (m8, kx_aI G 6 ki), (m9, kx_aD G 6 li), (m10, kx_aI G 6 cl), (m11, kx_aD G 16 kx), (m12, kx_aD G 16 ky)] := hD
    refine lv_aload_n hx hb dX5_inside_59 rfl (lv_at hl 0 rfl) ?_
    refine va_get (D := G.1) (ci := 6) (v := .int 1) (C := RX5) (T := TX5) (N := 19) hx hb hts hin_X5 hown hT.1 hP 0 rfl rfl 0 (by decide) hf_55 (fun _ h9 => h9) rfl dX5_inside_60 ?_
    refine lv_if_ne (x := 1) (tgt := 81) hx hb dX5_inside_63 (by decide) (fun c_20 => ?_) (fun c_20 => ?_)
    · refine lv_iconst (v := 0) hx hb dX5_inside_81 (by decide) ?_
      have hcd : (kc_ins (kx_no n a9) (kx_wi x9 1000) (kx_wi y9 1000) (kx_hs kn ft)) = 1 := by
        unfold kc_ins
        rw [if_neg c_3]
      exact W.zret (v := 0) hx hb hr rfl (fun t ht hW => ⟨⟨0, 1, rfl, ⟨hcd.symm, fun q => absurd (hcd.symm.trans q) (by decide)⟩, And.intro (by rw [ht]; exact hP) hD⟩, hS.F ht⟩) hS.2.2 dX5_inside_82
    · exact absurd c_20 (by decide)
set_option maxHeartbeats 4000000 in
set_option maxRecDepth 100000 in
/-- wholes -/
theorem c_X5_wholes (l : Launch) (G : kx_G) (sz : Nat) (m0 : Nat) (m1 : Nat) (m2 : Nat) (m3 : Nat) (m4 : Nat) (m5 : Nat) (m6 : Nat) (m7 : Nat) (m8 : Nat) (m9 : Nat) (m10 : Nat) (m11 : Nat) (m12 : Nat) (n : Nat) (v : Nat) (tw : Int32) (ps : Nat → UInt64) (qs : Nat → UInt64) (th : Nat → Int32) (fr : Nat → UInt64) (to : Nat → UInt64) (kn : Int32) (ft : Nat) (fd : Nat → Int32) (sh : Nat → UInt64) (ru : Nat) (ki : Nat → Int32) (li : Nat → UInt64) (cl : Nat → Int32) (kp : Int32) (kx : Nat → UInt64) (ky : Nat → UInt64) (a9 : Int32) (hb_ps : ∀ j, fx_bd 5 (ps j)) (hb_qs : ∀ j, fx_bd 5 (qs j)) (hb_fr : ∀ j, fx_bd 11 (fr j)) (hb_to : ∀ j, fx_bd 11 (to j)) (hb_sh : ∀ j, fx_bd 220 (sh j)) (hb_kx : ∀ j, fx_bd 130 (kx j)) (hb_ky : ∀ j, fx_bd 130 (ky j)) (hn1 : 1 ≤ n) (hn : n ≤ 16) (hv1 : 1 ≤ v) (hv : v ≤ 8) (hft : ft ≤ 16) (hru : ru ≤ 6) : Met l yX5_wholes wsX5_wholes ({ frames := 1, cells := 0, slots := 0, locals := 31 } : Room) (kx_PM G [.ref m0, .int a9] sz [(m0, .inr (6, [.int tw, .int (nI n), .int (nI v), .ref m1, .ref m2, .ref m3, .ref m4, .ref m5, .int kn, .int (nI ft), .ref m6, .ref m7, .int (nI ru), .ref m8, .ref m9, .ref m10, .int kp, .ref m11, .ref m12])), (m1, kx_aD G 8 ps), (m2, kx_aD G 8 qs), (m3, kx_aZ G 128 th), (m4, kx_aD G 128 fr), (m5, kx_aD G 128 to), (m6, kx_aZ G 16 fd), (m7, kx_aD G 64 sh), (m8, kx_aI G 6 ki), (m9, kx_aD G 6 li), (m10, kx_aI G 6 cl), (m11, kx_aD G 16 kx), (m12, kx_aD G 16 ky)]) (va_Qi (fun (r : Int32) (u : Int32) => u = (kc_fit (kx_no n a9) (kx_hs kn ft)) ∧ ((kc_fit (kx_no n a9) (kx_hs kn ft)) = 0 → r = nI (kx_c2 (fun a b => kx_cov (sh (4 * a9.toNatClampNeg)) (sh (4 * a9.toNatClampNeg + 1)) (sh (4 * a9.toNatClampNeg + 2)) (FP.i2d (kx_z a)) (FP.i2d (kx_z b))) 81))) (kx_B G (va_A [(m0, .inr (6, [.int tw, .int (nI n), .int (nI v), .ref m1, .ref m2, .ref m3, .ref m4, .ref m5, .int kn, .int (nI ft), .ref m6, .ref m7, .int (nI ru), .ref m8, .ref m9, .ref m10, .int kp, .ref m11, .ref m12])), (m1, kx_aD G 8 ps), (m2, kx_aD G 8 qs), (m3, kx_aZ G 128 th), (m4, kx_aD G 128 fr), (m5, kx_aD G 128 to), (m6, kx_aZ G 16 fd), (m7, kx_aD G 64 sh), (m8, kx_aI G 6 ki), (m9, kx_aD G 6 li), (m10, kx_aI G 6 cl), (m11, kx_aD G 16 kx), (m12, kx_aD G 16 ky)] sz) (fun u : Int32 => [(m0, .inr (6, [.int u, .int (nI n), .int (nI v), .ref m1, .ref m2, .ref m3, .ref m4, .ref m5, .int kn, .int (nI ft), .ref m6, .ref m7, .int (nI ru), .ref m8, .ref m9, .ref m10, .int kp, .ref m11, .ref m12])), (m1, kx_aD G 8 ps), (m2, kx_aD G 8 qs), (m3, kx_aZ G 128 th), (m4, kx_aD G 128 fr), (m5, kx_aD G 128 to), (m6, kx_aZ G 16 fd), (m7, kx_aD G 64 sh), (m8, kx_aI G 6 ki), (m9, kx_aD G 6 li), (m10, kx_aI G 6 cl), (m11, kx_aD G 16 kx), (m12, kx_aD G 16 ky)])) (va_A [(m0, .inr (6, [.int tw, .int (nI n), .int (nI v), .ref m1, .ref m2, .ref m3, .ref m4, .ref m5, .int kn, .int (nI ft), .ref m6, .ref m7, .int (nI ru), .ref m8, .ref m9, .ref m10, .int kp, .ref m11, .ref m12])), (m1, kx_aD G 8 ps), (m2, kx_aD G 8 qs), (m3, kx_aZ G 128 th), (m4, kx_aD G 128 fr), (m5, kx_aD G 128 to), (m6, kx_aZ G 16 fd), (m7, kx_aD G 64 sh), (m8, kx_aI G 6 ki), (m9, kx_aD G 6 li), (m10, kx_aI G 6 cl), (m11, kx_aD G 16 kx), (m12, kx_aD G 16 ky)] sz)) 0 0 (va_A [(m0, .inr (6, [.int tw, .int (nI n), .int (nI v), .ref m1, .ref m2, .ref m3, .ref m4, .ref m5, .int kn, .int (nI ft), .ref m6, .ref m7, .int (nI ru), .ref m8, .ref m9, .ref m10, .int kp, .ref m11, .ref m12])), (m1, kx_aD G 8 ps), (m2, kx_aD G 8 qs), (m3, kx_aZ G 128 th), (m4, kx_aD G 128 fr), (m5, kx_aD G 128 to), (m6, kx_aZ G 16 fd), (m7, kx_aD G 64 sh), (m8, kx_aI G 6 ki), (m9, kx_aD G 6 li), (m10, kx_aI G 6 cl), (m11, kx_aD G 16 kx), (m12, kx_aD G 16 ky)] sz) := by
  refine Met.ofW (cc := cX5_wholes) (maxL := 5) (ret := (some .int)) (by decide) rfl ?_
  intro p e s m args below meth c s₁ B hml hv
  obtain ⟨rfl, hsz, hP, hT, hD0⟩ := hv
  have hx := B.exec
  have hb := B.bytes
  have hr := B.returns
  have hts := atoms_spec (ws := wsX5_wholes) B.pre
  have hown : s.vm.findClass RX5 = some m.cls := findClass_of_methodNamed B.named
  have hlocks := B.notSynchronized
  have hf_55 := hts (.fieldLink RX5 55 "StemShapesModel" "thrown" "I") (by decide +kernel)
  have hin_X5 : ∀ w ∈ wsX50, w ∈ wsX5_wholes := by decide +kernel
  subst hsz
  have hD := hD0.self (sz := s.heap.size)
  generalize hAe : va_A [(m0, .inr (6, [.int tw, .int (nI n), .int (nI v), .ref m1, .ref m2, .ref m3, .ref m4, .ref m5, .int kn, .int (nI ft), .ref m6, .ref m7, .int (nI ru), .ref m8, .ref m9, .ref m10, .int kp, .ref m11, .ref m12])), (m1, kx_aD G 8 ps), (m2, kx_aD G 8 qs), (m3, kx_aZ G 128 th), (m4, kx_aD G 128 fr), (m5, kx_aD G 128 to), (m6, kx_aZ G 16 fd), (m7, kx_aD G 64 sh), (m8, kx_aI G 6 ki), (m9, kx_aD G 6 li), (m10, kx_aI G 6 cl), (m11, kx_aD G 16 kx), (m12, kx_aD G 16 ky)] s.heap.size = A at hD ⊢
  have hA : ∀ q : Nat, s.heap.size ≤ q → A q := fun q h => by rw [← hAe]; exact Or.inr h
  have hS : va_S A s.heap s.heap [] := va_S.rf
  have hl := lv_entry ([.ref m0, .int a9]) (n := 5) (Nat.le_of_ble_eq_true rfl)
  rw [lg_entry_eq]
  generalize (lg_sl ([.ref m0, .int a9]) ++ List.replicate (5 - (lg_sl ([.ref m0, .int a9])).length) Slot.unset).toArray = ls at hl ⊢
  have hl : lv_has ls 5 [(0, .ref m0), (1, .int a9)] := hl
  refine lv_aload_n hx hb dX5_wholes_0 rfl (lv_at hl 0 rfl) ?_
  refine lv_aload_n hx hb dX5_wholes_1 rfl (lv_at hl 0 rfl) ?_
  refine lv_iload_n hx hb dX5_wholes_2 rfl (lv_at hl 1 rfl) ?_
  refine vp_callSi (W.runV (As := [.int a9]) (rest := [.ref m0]) ⟨hx, hb, hml, hown, hts⟩ (c_X5_noSlice l G (m0 := m0) (m1 := m1) (m2 := m2) (m3 := m3) (m4 := m4) (m5 := m5) (m6 := m6) (m7 := m7) (m8 := m8) (m9 := m9) (m10 := m10) (m11 := m11) (m12 := m12) (n := n) (v := v) (tw := tw) (ps := ps) (qs := qs) (th := th) (fr := fr) (to := to) (kn := kn) (ft := ft) (fd := fd) (sh := sh) (ru := ru) (ki := ki) (li := li) (cl := cl) (kp := kp) (kx := kx) (ky := ky) (a9 := a9) (hb_ps := hb_ps) (hb_qs := hb_qs) (hb_fr := hb_fr) (hb_to := hb_to) (hb_sh := hb_sh) (hb_kx := hb_kx) (hb_ky := hb_ky)) (cwV 1 hts gX5_wholes_X5_noSlice rfl rfl rfl (by decide +kernel) ⟨Nat.le_of_ble_eq_true rfl, Nat.le_of_ble_eq_true rfl⟩) ⟨kx_PRb, va_recv hT.1 hP (ci := 6) (q0 := 0) rfl rfl, kx_pr hT hP [0, 1, 2, 3, 4, 5, 6, 7, 8, 9, 10, 11, 12] rfl⟩ rfl rfl hl.1 rfl (lv_room (Nat.le_of_ble_eq_true rfl)) dX5_wholes_3 ⟨Nat.zero_le _, Nat.zero_le _⟩) (fun r_1 hw_2 => ?_)
  subst hw_2
  refine lv_if_eq (x := kx_no n a9) (tgt := 13) hx hb dX5_wholes_6 (by decide) (fun c_3 => ?_) (fun c_3 => ?_)
  · refine lv_aload_n hx hb dX5_wholes_13 rfl (lv_at hl 0 rfl) ?_
    refine vp_callSi (W.runV (As := []) (rest := [.ref m0]) ⟨hx, hb, hml, hown, hts⟩ (c_X5_hasShape l G (m0 := m0) (m1 := m1) (m2 := m2) (m3 := m3) (m4 := m4) (m5 := m5) (m6 := m6) (m7 := m7) (m8 := m8) (m9 := m9) (m10 := m10) (m11 := m11) (m12 := m12) (n := n) (v := v) (tw := tw) (ps := ps) (qs := qs) (th := th) (fr := fr) (to := to) (kn := kn) (ft := ft) (fd := fd) (sh := sh) (ru := ru) (ki := ki) (li := li) (cl := cl) (kp := kp) (kx := kx) (ky := ky) (hb_ps := hb_ps) (hb_qs := hb_qs) (hb_fr := hb_fr) (hb_to := hb_to) (hb_sh := hb_sh) (hb_kx := hb_kx) (hb_ky := hb_ky) (hft := (by omega))) (cwV 0 hts gX5_wholes_X5_hasShape rfl rfl rfl (by decide +kernel) ⟨Nat.le_of_ble_eq_true rfl, Nat.le_of_ble_eq_true rfl⟩) ⟨kx_PRb, va_recv hT.1 hP (ci := 6) (q0 := 0) rfl rfl, kx_pr hT hP [0, 1, 2, 3, 4, 5, 6, 7, 8, 9, 10, 11, 12] rfl⟩ rfl rfl hl.1 rfl (lv_room (Nat.le_of_ble_eq_true rfl)) dX5_wholes_14 ⟨Nat.zero_le _, Nat.zero_le _⟩) (fun r_4 hw_5 => ?_)
    subst hw_5
    refine lv_if_eq (x := kx_hs kn ft) (tgt := 24) hx hb dX5_wholes_17 (by decide) (fun c_6 => ?_) (fun c_6 => ?_)
    · refine lv_iconst (v := 2) hx hb dX5_wholes_24 (by decide) ?_
      refine va_put (D := G.1) (ci := 6) (v := .int 2) (ty := .int) (C := RX5) (T := TX5) (N := 19) hx hb hts hin_X5 tyX5 tyX5_ok nmX5 hown hT.1 hP hD hS 0 rfl rfl 0 (by decide) hf_55 (fun _ h9 => h9) rfl (by decide +kernel) rfl rfl (Nat.le_of_ble_eq_true rfl) dX5_wholes_25 (fun H locs hP hD hS => ?_)
      have hP : va_P G.1 vwCl [(m0, .inr (6, [.int 2, .int (nI n), .int (nI v), .ref m1, .ref m2, .ref m3, .ref m4, .ref m5, .int kn, .int (nI ft), .ref m6, .ref m7, .int (nI ru), .ref m8, .ref m9, .ref m10, .int kp, .ref m11, .ref m12])), (m1, kx_aD G 8 ps), (m2, kx_aD G 8 qs), (m3, kx_aZ G 128 th), (m4, kx_aD G 128 fr), (m5, kx_aD G 128 to), (m6, kx_aZ G 16 fd), (m7, kx_aD G 64 sh), (m8, kx_aI G 6 ki), (m9, kx_aD G 6 li), (m10, kx_aI G 6 cl), (m11, kx_aD G 16 kx), (m12, kx_aD G 16 ky)] H := hP
      have hD : va_D A [(m0, .inr (6, [.int 2, .int (nI n), .int (nI v), .ref m1, .ref m2, .ref m3, .ref m4, .ref m5, .int kn, .int (nI ft), .ref m6, .ref m7, .int (nI ru), .ref m8, .ref m9, .ref m10, .int kp, .ref m11, .ref m12])), (m1, kx_aD G 8 ps), (m2, kx_aD G 8 qs), (m3, kx_aZ G 128 th), (m4, kx_aD G 128 fr), (m5, kx_aD G 128 to), (m6, kx_aZ G 16 fd), (m7, kx_aD G 64 sh), (m8, kx_aI G 6 ki), (m9, kx_aD G 6 li), (m10, kx_aI G 6 cl), (m11, kx_aD G 16 kx), (m12, kx_aD G 16 ky)] := hD
      have hcd : (kc_fit (kx_no n a9) (kx_hs kn ft)) = 2 := by
        unfold kc_fit
        rw [if_pos c_3, if_pos c_6]
      refine lv_iconst (v := 0) hx hb dX5_wholes_28 (by decide) ?_
      refine lv_istore_n (lv' := [(2, .int 0), (0, .ref m0), (1, .int a9)]) hx hb dX5_wholes_29 rfl hl (by decide) rfl (fun ls hl => ?_)
      refine lv_bipush (v := (-40)) hx hb dX5_wholes_30 (by decide) ?_
      refine lv_istore_n (lv' := [(3, .int (-40)), (2, .int 0), (0, .ref m0), (1, .int a9)]) hx hb dX5_wholes_32 rfl hl (by decide) rfl (fun ls hl => ?_)
      refine lv_iload_n hx hb dX5_wholes_33 rfl (lv_at hl 0 rfl) ?_
      refine lv_bipush (v := 40) hx hb dX5_wholes_34 (by decide) ?_
      refine lv_icmp_gt (x := (-40)) (y := 40) (tgt := 90) hx hb dX5_wholes_36 (by decide) (fun c_7 => ?_) (fun c_7 => ?_)
      · exact absurd c_7 (by decide)
      · refine lv_aload_n hx hb dX5_wholes_39 rfl (lv_at hl 2 rfl) ?_
        refine va_get (D := G.1) (ci := 6) (v := .int 2) (C := RX5) (T := TX5) (N := 19) hx hb hts hin_X5 hown hT.1 hP 0 rfl rfl 0 (by decide) hf_55 (fun _ h9 => h9) rfl dX5_wholes_40 ?_
        refine lv_if_ne (x := 2) (tgt := 90) hx hb dX5_wholes_43 (by decide) (fun c_8 => ?_) (fun c_8 => ?_)
        · refine lv_iload_n hx hb dX5_wholes_90 rfl (lv_at hl 1 rfl) ?_
          exact W.iret (v := 0) hx hb hr (fun t ht hW => ⟨⟨0, 2, rfl, ⟨hcd.symm, fun q => absurd (hcd.symm.trans q) (by decide)⟩, And.intro (by rw [ht]; exact hP) hD⟩, hS.F ht⟩) hS.2.2 dX5_wholes_91
        · exact absurd c_8 (by decide)
    · refine lv_iconst (v := 0) hx hb dX5_wholes_20 (by decide) ?_
      refine lv_goto (tgt := 25) hx hb dX5_wholes_21 (by decide) ?_
      refine va_put (D := G.1) (ci := 6) (v := .int 0) (ty := .int) (C := RX5) (T := TX5) (N := 19) hx hb hts hin_X5 tyX5 tyX5_ok nmX5 hown hT.1 hP hD hS 0 rfl rfl 0 (by decide) hf_55 (fun _ h9 => h9) rfl (by decide +kernel) rfl rfl (Nat.le_of_ble_eq_true rfl) dX5_wholes_25 (fun H locs hP hD hS => ?_)
      have hP : va_P G.1 vwCl [(m0, .inr (6, [.int 0, .int (nI n), .int (nI v), .ref m1, .ref m2, .ref m3, .ref m4, .ref m5, .int kn, .int (nI ft), .ref m6, .ref m7, .int (nI ru), .ref m8, .ref m9, .ref m10, .int kp, .ref m11, .ref m12])), (m1, kx_aD G 8 ps), (m2, kx_aD G 8 qs), (m3, kx_aZ G 128 th), (m4, kx_aD G 128 fr), (m5, kx_aD G 128 to), (m6, kx_aZ G 16 fd), (m7, kx_aD G 64 sh), (m8, kx_aI G 6 ki), (m9, kx_aD G 6 li), (m10, kx_aI G 6 cl), (m11, kx_aD G 16 kx), (m12, kx_aD G 16 ky)] H := hP
      have hD : va_D A [(m0, .inr (6, [.int 0, .int (nI n), .int (nI v), .ref m1, .ref m2, .ref m3, .ref m4, .ref m5, .int kn, .int (nI ft), .ref m6, .ref m7, .int (nI ru), .ref m8, .ref m9, .ref m10, .int kp, .ref m11, .ref m12])), (m1, kx_aD G 8 ps), (m2, kx_aD G 8 qs), (m3, kx_aZ G 128 th), (m4, kx_aD G 128 fr), (m5, kx_aD G 128 to), (m6, kx_aZ G 16 fd), (m7, kx_aD G 64 sh), (m8, kx_aI G 6 ki), (m9, kx_aD G 6 li), (m10, kx_aI G 6 cl), (m11, kx_aD G 16 kx), (m12, kx_aD G 16 ky)] := hD
      have hcd : (kc_fit (kx_no n a9) (kx_hs kn ft)) = 0 := by
        unfold kc_fit
        rw [if_pos c_3, if_neg c_6]
      obtain ⟨i_, hi_, ea_⟩ := kx_no_0 (n := n) (by omega) c_3
      rw [ea_] at hl
      refine lv_iconst (v := 0) hx hb dX5_wholes_28 (by decide) ?_
      refine lv_istore_n (lv' := [(2, .int 0), (0, .ref m0), (1, .int (nI i_))]) hx hb dX5_wholes_29 rfl hl (by decide) rfl (fun ls hl => ?_)
      refine lv_bipush (v := (-40)) hx hb dX5_wholes_30 (by decide) ?_
      refine lv_istore_n (lv' := [(3, .int (-40)), (2, .int 0), (0, .ref m0), (1, .int (nI i_))]) hx hb dX5_wholes_32 rfl hl (by decide) rfl (fun ls hl => ?_)
      have loop_33 : ∀ (k i : Nat) (a : Nat), i + k = 81 → a = kx_c2 (fun a b => kx_cov (sh (4 * i_)) (sh (4 * i_ + 1)) (sh (4 * i_ + 2)) (FP.i2d (kx_z a)) (FP.i2d (kx_z b))) i → ∀ (H : Heap) (locs : List Loc), va_P G.1 vwCl [(m0, .inr (6, [.int 0, .int (nI n), .int (nI v), .ref m1, .ref m2, .ref m3, .ref m4, .ref m5, .int kn, .int (nI ft), .ref m6, .ref m7, .int (nI ru), .ref m8, .ref m9, .ref m10, .int kp, .ref m11, .ref m12])), (m1, kx_aD G 8 ps), (m2, kx_aD G 8 qs), (m3, kx_aZ G 128 th), (m4, kx_aD G 128 fr), (m5, kx_aD G 128 to), (m6, kx_aZ G 16 fd), (m7, kx_aD G 64 sh), (m8, kx_aI G 6 ki), (m9, kx_aD G 6 li), (m10, kx_aI G 6 cl), (m11, kx_aD G 16 kx), (m12, kx_aD G 16 ky)] H → va_D A [(m0, .inr (6, [.int 0, .int (nI n), .int (nI v), .ref m1, .ref m2, .ref m3, .ref m4, .ref m5, .int kn, .int (nI ft), .ref m6, .ref m7, .int (nI ru), .ref m8, .ref m9, .ref m10, .int kp, .ref m11, .ref m12])), (m1, kx_aD G 8 ps), (m2, kx_aD G 8 qs), (m3, kx_aZ G 128 th), (m4, kx_aD G 128 fr), (m5, kx_aD G 128 to), (m6, kx_aZ G 16 fd), (m7, kx_aD G 64 sh), (m8, kx_aI G 6 ki), (m9, kx_aD G 6 li), (m10, kx_aI G 6 cl), (m11, kx_aD G 16 kx), (m12, kx_aD G 16 ky)] → va_S A s.heap H locs → ∀ ls : Array Slot, lv_has ls 5 [(3, .int (kx_z i)), (2, .int (nI a)), (1, .int (nI i_)), (0, .ref m0)] → W p l e (headSpec wsX5_wholes ({ frames := 1, cells := 0, slots := 0, locals := 31 } : Room)).room s m [.ref m0, .int a9].toArray below meth c H locs 0 0 (MQ below (va_Qi (fun (r : Int32) (u : Int32) => u = (kc_fit (kx_no n a9) (kx_hs kn ft)) ∧ ((kc_fit (kx_no n a9) (kx_hs kn ft)) = 0 → r = nI (kx_c2 (fun a b => kx_cov (sh (4 * a9.toNatClampNeg)) (sh (4 * a9.toNatClampNeg + 1)) (sh (4 * a9.toNatClampNeg + 2)) (FP.i2d (kx_z a)) (FP.i2d (kx_z b))) 81))) (kx_B G A (fun u : Int32 => [(m0, .inr (6, [.int u, .int (nI n), .int (nI v), .ref m1, .ref m2, .ref m3, .ref m4, .ref m5, .int kn, .int (nI ft), .ref m6, .ref m7, .int (nI ru), .ref m8, .ref m9, .ref m10, .int kp, .ref m11, .ref m12])), (m1, kx_aD G 8 ps), (m2, kx_aD G 8 qs), (m3, kx_aZ G 128 th), (m4, kx_aD G 128 fr), (m5, kx_aD G 128 to), (m6, kx_aZ G 16 fd), (m7, kx_aD G 64 sh), (m8, kx_aI G 6 ki), (m9, kx_aD G 6 li), (m10, kx_aI G 6 cl), (m11, kx_aD G 16 kx), (m12, kx_aD G 16 ky)])) A) [.ref m0, .int a9].toArray s 0 0 A) (F0 m 33 ls []) := by
        intro k
        induction k with
        | zero =>
          intro i a htot e_a H locs hP hD hS ls hl
          subst e_a
          refine lv_iload_n hx hb dX5_wholes_33 rfl (lv_at hl 0 rfl) ?_
          refine lv_bipush (v := 40) hx hb dX5_wholes_34 (by decide) ?_
          refine lv_icmp_gt (x := kx_z i) (y := 40) (tgt := 90) hx hb dX5_wholes_36 (by decide) (fun c_9 => ?_) (fun c_9 => ?_)
          · refine lv_iload_n hx hb dX5_wholes_90 rfl (lv_at hl 1 rfl) ?_
            exact W.iret (v := nI (kx_c2 (fun a b => kx_cov (sh (4 * i_)) (sh (4 * i_ + 1)) (sh (4 * i_ + 2)) (FP.i2d (kx_z a)) (FP.i2d (kx_z b))) i)) hx hb hr (fun t ht hW => ⟨⟨nI (kx_c2 (fun a b => kx_cov (sh (4 * i_)) (sh (4 * i_ + 1)) (sh (4 * i_ + 2)) (FP.i2d (kx_z a)) (FP.i2d (kx_z b))) i), 0, rfl, ⟨hcd.symm, fun _ => by rw [ea_, nI_clamp (by omega), show i = 81 from by omega]⟩, And.intro (by rw [ht]; exact hP) hD⟩, hS.F ht⟩) hS.2.2 dX5_wholes_91
          · exact absurd ((kx_z_gt (by omega)).mpr (by omega)) c_9
        | succ k ih =>
          intro i a htot e_a H locs hP hD hS ls hl
          subst e_a
          refine lv_iload_n hx hb dX5_wholes_33 rfl (lv_at hl 0 rfl) ?_
          refine lv_bipush (v := 40) hx hb dX5_wholes_34 (by decide) ?_
          refine lv_icmp_gt (x := kx_z i) (y := 40) (tgt := 90) hx hb dX5_wholes_36 (by decide) (fun c_10 => ?_) (fun c_10 => ?_)
          · exact absurd ((kx_z_gt (by omega)).mp c_10) (by omega)
          · refine lv_aload_n hx hb dX5_wholes_39 rfl (lv_at hl 3 rfl) ?_
            refine va_get (D := G.1) (ci := 6) (v := .int 0) (C := RX5) (T := TX5) (N := 19) hx hb hts hin_X5 hown hT.1 hP 0 rfl rfl 0 (by decide) hf_55 (fun _ h9 => h9) rfl dX5_wholes_40 ?_
            refine lv_if_ne (x := 0) (tgt := 90) hx hb dX5_wholes_43 (by decide) (fun c_11 => ?_) (fun c_11 => ?_)
            · exact absurd c_11 (by decide)
            · refine lv_bipush (v := (-40)) hx hb dX5_wholes_46 (by decide) ?_
              refine lv_istore (lv' := [(4, .int (-40)), (3, .int (kx_z i)), (2, .int (nI (kx_c2 (fun a b => kx_cov (sh (4 * i_)) (sh (4 * i_ + 1)) (sh (4 * i_ + 2)) (FP.i2d (kx_z a)) (FP.i2d (kx_z b))) i))), (1, .int (nI i_)), (0, .ref m0)]) hx hb dX5_wholes_48 hl (by decide) rfl (fun ls hl => ?_)
              have loop_50 : ∀ (k2 j : Nat) (b : Nat), j + k2 = 81 → b = kx_c2 (fun a b => kx_cov (sh (4 * i_)) (sh (4 * i_ + 1)) (sh (4 * i_ + 2)) (FP.i2d (kx_z a)) (FP.i2d (kx_z b))) i + kx_cn ((fun a b => kx_cov (sh (4 * i_)) (sh (4 * i_ + 1)) (sh (4 * i_ + 2)) (FP.i2d (kx_z a)) (FP.i2d (kx_z b))) i) j → ∀ (H : Heap) (locs : List Loc), va_P G.1 vwCl [(m0, .inr (6, [.int 0, .int (nI n), .int (nI v), .ref m1, .ref m2, .ref m3, .ref m4, .ref m5, .int kn, .int (nI ft), .ref m6, .ref m7, .int (nI ru), .ref m8, .ref m9, .ref m10, .int kp, .ref m11, .ref m12])), (m1, kx_aD G 8 ps), (m2, kx_aD G 8 qs), (m3, kx_aZ G 128 th), (m4, kx_aD G 128 fr), (m5, kx_aD G 128 to), (m6, kx_aZ G 16 fd), (m7, kx_aD G 64 sh), (m8, kx_aI G 6 ki), (m9, kx_aD G 6 li), (m10, kx_aI G 6 cl), (m11, kx_aD G 16 kx), (m12, kx_aD G 16 ky)] H → va_D A [(m0, .inr (6, [.int 0, .int (nI n), .int (nI v), .ref m1, .ref m2, .ref m3, .ref m4, .ref m5, .int kn, .int (nI ft), .ref m6, .ref m7, .int (nI ru), .ref m8, .ref m9, .ref m10, .int kp, .ref m11, .ref m12])), (m1, kx_aD G 8 ps), (m2, kx_aD G 8 qs), (m3, kx_aZ G 128 th), (m4, kx_aD G 128 fr), (m5, kx_aD G 128 to), (m6, kx_aZ G 16 fd), (m7, kx_aD G 64 sh), (m8, kx_aI G 6 ki), (m9, kx_aD G 6 li), (m10, kx_aI G 6 cl), (m11, kx_aD G 16 kx), (m12, kx_aD G 16 ky)] → va_S A s.heap H locs → ∀ ls : Array Slot, lv_has ls 5 [(4, .int (kx_z j)), (3, .int (kx_z i)), (2, .int (nI b)), (1, .int (nI i_)), (0, .ref m0)] → W p l e (headSpec wsX5_wholes ({ frames := 1, cells := 0, slots := 0, locals := 31 } : Room)).room s m [.ref m0, .int a9].toArray below meth c H locs 0 0 (MQ below (va_Qi (fun (r : Int32) (u : Int32) => u = (kc_fit (kx_no n a9) (kx_hs kn ft)) ∧ ((kc_fit (kx_no n a9) (kx_hs kn ft)) = 0 → r = nI (kx_c2 (fun a b => kx_cov (sh (4 * a9.toNatClampNeg)) (sh (4 * a9.toNatClampNeg + 1)) (sh (4 * a9.toNatClampNeg + 2)) (FP.i2d (kx_z a)) (FP.i2d (kx_z b))) 81))) (kx_B G A (fun u : Int32 => [(m0, .inr (6, [.int u, .int (nI n), .int (nI v), .ref m1, .ref m2, .ref m3, .ref m4, .ref m5, .int kn, .int (nI ft), .ref m6, .ref m7, .int (nI ru), .ref m8, .ref m9, .ref m10, .int kp, .ref m11, .ref m12])), (m1, kx_aD G 8 ps), (m2, kx_aD G 8 qs), (m3, kx_aZ G 128 th), (m4, kx_aD G 128 fr), (m5, kx_aD G 128 to), (m6, kx_aZ G 16 fd), (m7, kx_aD G 64 sh), (m8, kx_aI G 6 ki), (m9, kx_aD G 6 li), (m10, kx_aI G 6 cl), (m11, kx_aD G 16 kx), (m12, kx_aD G 16 ky)])) A) [.ref m0, .int a9].toArray s 0 0 A) (F0 m 50 ls []) := by
                intro k2
                induction k2 with
                | zero =>
                  intro j b htot e_b H locs hP hD hS ls hl
                  subst e_b
                  have hj81 : j = 81 := by omega
                  have hl : lv_has ls 5 [(4, .int (kx_z j)), (3, .int (kx_z i)), (2, .int (nI (kx_c2 (fun a b => kx_cov (sh (4 * i_)) (sh (4 * i_ + 1)) (sh (4 * i_ + 2)) (FP.i2d (kx_z a)) (FP.i2d (kx_z b))) (i + 1)))), (1, .int (nI i_)), (0, .ref m0)] := by rw [hj81] at hl ⊢; exact hl
                  refine lv_iload hx hb dX5_wholes_50 (lv_at hl 0 rfl) ?_
                  refine lv_bipush (v := 40) hx hb dX5_wholes_52 (by decide) ?_
                  refine lv_icmp_gt (x := kx_z j) (y := 40) (tgt := 84) hx hb dX5_wholes_54 (by decide) (fun c_12 => ?_) (fun c_12 => ?_)
                  · refine lv_iinc (v := kx_z (i + 1)) (lv' := [(3, .int (kx_z (i + 1))), (4, .int (kx_z j)), (2, .int (nI (kx_c2 (fun a b => kx_cov (sh (4 * i_)) (sh (4 * i_ + 1)) (sh (4 * i_ + 2)) (FP.i2d (kx_z a)) (FP.i2d (kx_z b))) (i + 1)))), (1, .int (nI i_)), (0, .ref m0)]) hx hb dX5_wholes_84 hl (k := 1) rfl (kx_z_1 i) (by decide) rfl (fun ls hl => ?_)
                    refine lv_goto (tgt := 33) hx hb dX5_wholes_87 (by decide) ?_
                    exact ih (i + 1) _ (by omega) rfl _ _ hP hD hS _ (lv_sub hl [0, 2, 3, 4] rfl)
                  · exact absurd ((kx_z_gt (by omega)).mpr (by omega)) c_12
                | succ k2 ih =>
                  intro j b htot e_b H locs hP hD hS ls hl
                  subst e_b
                  refine lv_iload hx hb dX5_wholes_50 (lv_at hl 0 rfl) ?_
                  refine lv_bipush (v := 40) hx hb dX5_wholes_52 (by decide) ?_
                  refine lv_icmp_gt (x := kx_z j) (y := 40) (tgt := 84) hx hb dX5_wholes_54 (by decide) (fun c_13 => ?_) (fun c_13 => ?_)
                  · exact absurd ((kx_z_gt (by omega)).mp c_13) (by omega)
                  · refine lv_aload_n hx hb dX5_wholes_57 rfl (lv_at hl 4 rfl) ?_
                    refine lv_iload_n hx hb dX5_wholes_58 rfl (lv_at hl 3 rfl) ?_
                    refine lv_iload_n hx hb dX5_wholes_59 rfl (lv_at hl 1 rfl) ?_
                    refine lv_i2d hx hb dX5_wholes_60 ?_
                    refine lv_iload hx hb dX5_wholes_61 (lv_at hl 0 rfl) ?_
                    refine lv_i2d hx hb dX5_wholes_63 ?_
                    refine vp_callSi (W.runV (As := [.int (nI i_), .double (FP.i2d (kx_z i)), .double (FP.i2d (kx_z j))]) (rest := []) ⟨hx, hb, hml, hown, hts⟩ (c_X5_isInside l G (m0 := m0) (m1 := m1) (m2 := m2) (m3 := m3) (m4 := m4) (m5 := m5) (m6 := m6) (m7 := m7) (m8 := m8) (m9 := m9) (m10 := m10) (m11 := m11) (m12 := m12) (n := n) (v := v) (tw := 0) (ps := ps) (qs := qs) (th := th) (fr := fr) (to := to) (kn := kn) (ft := ft) (fd := fd) (sh := sh) (ru := ru) (ki := ki) (li := li) (cl := cl) (kp := kp) (kx := kx) (ky := ky) (i := i_) (x := FP.i2d (kx_z i)) (y := FP.i2d (kx_z j)) (hb_ps := hb_ps) (hb_qs := hb_qs) (hb_fr := hb_fr) (hb_to := hb_to) (hb_sh := hb_sh) (hb_kx := hb_kx) (hb_ky := hb_ky) (hi := (by omega)) (hx_b := (fx_i.mono (by omega))) (hy_b := (fx_i.mono (by omega)))) (cwV 3 hts gX5_wholes_X5_isInside rfl rfl rfl (by decide +kernel) ⟨Nat.le_of_ble_eq_true rfl, Nat.le_of_ble_eq_true rfl⟩) ⟨kx_PRb, va_recv hT.1 hP (ci := 6) (q0 := 0) rfl rfl, kx_pr hT hP [0, 1, 2, 3, 4, 5, 6, 7, 8, 9, 10, 11, 12] rfl⟩ rfl rfl hl.1 rfl (lv_room (Nat.le_of_ble_eq_true rfl)) dX5_wholes_64 ⟨Nat.zero_le _, Nat.zero_le _⟩) (fun r_14 hw_15 => ?_)
                    subst hw_15
                    refine lv_if_eq (x := kx_cov (sh (4 * i_)) (sh (4 * i_ + 1)) (sh (4 * i_ + 2)) (FP.i2d (kx_z i)) (FP.i2d (kx_z j))) (tgt := 76) hx hb dX5_wholes_67 (by decide) (fun c_16 => ?_) (fun c_16 => ?_)
                    · refine lv_iload_n hx hb dX5_wholes_76 rfl (lv_at hl 2 rfl) ?_
                      refine lv_istore_n (lv' := [(2, .int (nI (kx_c2 (fun a b => kx_cov (sh (4 * i_)) (sh (4 * i_ + 1)) (sh (4 * i_ + 2)) (FP.i2d (kx_z a)) (FP.i2d (kx_z b))) i + kx_cn ((fun a b => kx_cov (sh (4 * i_)) (sh (4 * i_ + 1)) (sh (4 * i_ + 2)) (FP.i2d (kx_z a)) (FP.i2d (kx_z b))) i) j))), (4, .int (kx_z j)), (3, .int (kx_z i)), (1, .int (nI i_)), (0, .ref m0)]) hx hb dX5_wholes_77 rfl hl (by decide) rfl (fun ls hl => ?_)
                      refine lv_iinc (v := kx_z (j + 1)) (lv' := [(4, .int (kx_z (j + 1))), (2, .int (nI (kx_c2 (fun a b => kx_cov (sh (4 * i_)) (sh (4 * i_ + 1)) (sh (4 * i_ + 2)) (FP.i2d (kx_z a)) (FP.i2d (kx_z b))) i + kx_cn ((fun a b => kx_cov (sh (4 * i_)) (sh (4 * i_ + 1)) (sh (4 * i_ + 2)) (FP.i2d (kx_z a)) (FP.i2d (kx_z b))) i) j))), (3, .int (kx_z i)), (1, .int (nI i_)), (0, .ref m0)]) hx hb dX5_wholes_78 hl (k := 1) rfl (kx_z_1 j) (by decide) rfl (fun ls hl => ?_)
                      refine lv_goto (tgt := 50) hx hb dX5_wholes_81 (by decide) ?_
                      exact ih (j + 1) _ (by omega) (by rw [kx_cn_f (th := (fun a b => kx_cov (sh (4 * i_)) (sh (4 * i_ + 1)) (sh (4 * i_ + 2)) (FP.i2d (kx_z a)) (FP.i2d (kx_z b))) i) c_16]) _ _ hP hD hS _ (lv_sub hl [0, 2, 1, 3, 4] rfl)
                    · refine lv_iload_n hx hb dX5_wholes_70 rfl (lv_at hl 2 rfl) ?_
                      refine lv_iconst (v := 1) hx hb dX5_wholes_71 (by decide) ?_
                      refine lv_iadd hx hb dX5_wholes_72 ?_
                      refine kx_ei (y := nI ((kx_c2 (fun a b => kx_cov (sh (4 * i_)) (sh (4 * i_ + 1)) (sh (4 * i_ + 2)) (FP.i2d (kx_z a)) (FP.i2d (kx_z b))) i + kx_cn ((fun a b => kx_cov (sh (4 * i_)) (sh (4 * i_ + 1)) (sh (4 * i_ + 2)) (FP.i2d (kx_z a)) (FP.i2d (kx_z b))) i) j) + 1)) (nI_add (kx_c2 (fun a b => kx_cov (sh (4 * i_)) (sh (4 * i_ + 1)) (sh (4 * i_ + 2)) (FP.i2d (kx_z a)) (FP.i2d (kx_z b))) i + kx_cn ((fun a b => kx_cov (sh (4 * i_)) (sh (4 * i_ + 1)) (sh (4 * i_ + 2)) (FP.i2d (kx_z a)) (FP.i2d (kx_z b))) i) j) 1) ?_
                      refine lv_goto (tgt := 77) hx hb dX5_wholes_73 (by decide) ?_
                      refine lv_istore_n (lv' := [(2, .int (nI ((kx_c2 (fun a b => kx_cov (sh (4 * i_)) (sh (4 * i_ + 1)) (sh (4 * i_ + 2)) (FP.i2d (kx_z a)) (FP.i2d (kx_z b))) i + kx_cn ((fun a b => kx_cov (sh (4 * i_)) (sh (4 * i_ + 1)) (sh (4 * i_ + 2)) (FP.i2d (kx_z a)) (FP.i2d (kx_z b))) i) j) + 1))), (4, .int (kx_z j)), (3, .int (kx_z i)), (1, .int (nI i_)), (0, .ref m0)]) hx hb dX5_wholes_77 rfl hl (by decide) rfl (fun ls hl => ?_)
                      refine lv_iinc (v := kx_z (j + 1)) (lv' := [(4, .int (kx_z (j + 1))), (2, .int (nI ((kx_c2 (fun a b => kx_cov (sh (4 * i_)) (sh (4 * i_ + 1)) (sh (4 * i_ + 2)) (FP.i2d (kx_z a)) (FP.i2d (kx_z b))) i + kx_cn ((fun a b => kx_cov (sh (4 * i_)) (sh (4 * i_ + 1)) (sh (4 * i_ + 2)) (FP.i2d (kx_z a)) (FP.i2d (kx_z b))) i) j) + 1))), (3, .int (kx_z i)), (1, .int (nI i_)), (0, .ref m0)]) hx hb dX5_wholes_78 hl (k := 1) rfl (kx_z_1 j) (by decide) rfl (fun ls hl => ?_)
                      refine lv_goto (tgt := 50) hx hb dX5_wholes_81 (by decide) ?_
                      exact ih (j + 1) _ (by omega) (by rw [kx_cn_t (th := (fun a b => kx_cov (sh (4 * i_)) (sh (4 * i_ + 1)) (sh (4 * i_ + 2)) (FP.i2d (kx_z a)) (FP.i2d (kx_z b))) i) c_16]; rfl) _ _ hP hD hS _ (lv_sub hl [0, 2, 1, 3, 4] rfl)
              exact loop_50 81 0 _ (by omega) rfl _ _ hP hD hS _ (lv_sub hl [0, 1, 2, 3, 4] rfl)
      exact loop_33 81 0 _ (by omega) rfl _ _ hP hD hS _ (lv_sub hl [0, 1, 3, 2] rfl)
  · refine lv_iconst (v := 1) hx hb dX5_wholes_9 (by decide) ?_
    refine lv_goto (tgt := 25) hx hb dX5_wholes_10 (by decide) ?_
    refine va_put (D := G.1) (ci := 6) (v := .int 1) (ty := .int) (C := RX5) (T := TX5) (N := 19) hx hb hts hin_X5 tyX5 tyX5_ok nmX5 hown hT.1 hP hD hS 0 rfl rfl 0 (by decide) hf_55 (fun _ h9 => h9) rfl (by decide +kernel) rfl rfl (Nat.le_of_ble_eq_true rfl) dX5_wholes_25 (fun H locs hP hD hS => ?_)
    have hP : va_P G.1 vwCl [(m0, .inr (6, [.int 1, .int (nI n), .int (nI v), .ref m1, .ref m2, .ref m3, .ref m4, .ref m5, .int kn, .int (nI ft), .ref m6, .ref m7, .int (nI ru), .ref m8, .ref m9, .ref m10, .int kp, .ref m11, .ref m12])), (m1, kx_aD G 8 ps), (m2, kx_aD G 8 qs), (m3, kx_aZ G 128 th), (m4, kx_aD G 128 fr), (m5, kx_aD G 128 to), (m6, kx_aZ G 16 fd), (m7, kx_aD G 64 sh), (m8, kx_aI G 6 ki), (m9, kx_aD G 6 li), (m10, kx_aI G 6 cl), (m11, kx_aD G 16 kx), (m12, kx_aD G 16 ky)] H := hP
    have hD : va_D A [(m0, .inr (6, [.int 1, .int (nI n), .int (nI v), .ref m1, .ref m2, .ref m3, .ref m4, .ref m5, .int kn, .int (nI ft), .ref m6, .ref m7, .int (nI ru), .ref m8, .ref m9, .ref m10, .int kp, .ref m11, .ref m12])), (m1, kx_aD G 8 ps), (m2, kx_aD G 8 qs), (m3, kx_aZ G 128 th), (m4, kx_aD G 128 fr), (m5, kx_aD G 128 to), (m6, kx_aZ G 16 fd), (m7, kx_aD G 64 sh), (m8, kx_aI G 6 ki), (m9, kx_aD G 6 li), (m10, kx_aI G 6 cl), (m11, kx_aD G 16 kx), (m12, kx_aD G 16 ky)] := hD
    have hcd : (kc_fit (kx_no n a9) (kx_hs kn ft)) = 1 := by
      unfold kc_fit
      rw [if_neg c_3]
    refine lv_iconst (v := 0) hx hb dX5_wholes_28 (by decide) ?_
    refine lv_istore_n (lv' := [(2, .int 0), (0, .ref m0), (1, .int a9)]) hx hb dX5_wholes_29 rfl hl (by decide) rfl (fun ls hl => ?_)
    refine lv_bipush (v := (-40)) hx hb dX5_wholes_30 (by decide) ?_
    refine lv_istore_n (lv' := [(3, .int (-40)), (2, .int 0), (0, .ref m0), (1, .int a9)]) hx hb dX5_wholes_32 rfl hl (by decide) rfl (fun ls hl => ?_)
    refine lv_iload_n hx hb dX5_wholes_33 rfl (lv_at hl 0 rfl) ?_
    refine lv_bipush (v := 40) hx hb dX5_wholes_34 (by decide) ?_
    refine lv_icmp_gt (x := (-40)) (y := 40) (tgt := 90) hx hb dX5_wholes_36 (by decide) (fun c_17 => ?_) (fun c_17 => ?_)
    · exact absurd c_17 (by decide)
    · refine lv_aload_n hx hb dX5_wholes_39 rfl (lv_at hl 2 rfl) ?_
      refine va_get (D := G.1) (ci := 6) (v := .int 1) (C := RX5) (T := TX5) (N := 19) hx hb hts hin_X5 hown hT.1 hP 0 rfl rfl 0 (by decide) hf_55 (fun _ h9 => h9) rfl dX5_wholes_40 ?_
      refine lv_if_ne (x := 1) (tgt := 90) hx hb dX5_wholes_43 (by decide) (fun c_18 => ?_) (fun c_18 => ?_)
      · refine lv_iload_n hx hb dX5_wholes_90 rfl (lv_at hl 1 rfl) ?_
        exact W.iret (v := 0) hx hb hr (fun t ht hW => ⟨⟨0, 1, rfl, ⟨hcd.symm, fun q => absurd (hcd.symm.trans q) (by decide)⟩, And.intro (by rw [ht]; exact hP) hD⟩, hS.F ht⟩) hS.2.2 dX5_wholes_91
      · exact absurd c_18 (by decide)
set_option maxHeartbeats 4000000 in
set_option maxRecDepth 100000 in
/-- volume -/
theorem c_X5_volume (l : Launch) (G : kx_G) (sz : Nat) (m0 : Nat) (m1 : Nat) (m2 : Nat) (m3 : Nat) (m4 : Nat) (m5 : Nat) (m6 : Nat) (m7 : Nat) (m8 : Nat) (m9 : Nat) (m10 : Nat) (m11 : Nat) (m12 : Nat) (n : Nat) (v : Nat) (tw : Int32) (ps : Nat → UInt64) (qs : Nat → UInt64) (th : Nat → Int32) (fr : Nat → UInt64) (to : Nat → UInt64) (kn : Int32) (ft : Nat) (fd : Nat → Int32) (sh : Nat → UInt64) (ru : Nat) (ki : Nat → Int32) (li : Nat → UInt64) (cl : Nat → Int32) (kp : Int32) (kx : Nat → UInt64) (ky : Nat → UInt64) (hb_ps : ∀ j, fx_bd 5 (ps j)) (hb_qs : ∀ j, fx_bd 5 (qs j)) (hb_fr : ∀ j, fx_bd 11 (fr j)) (hb_to : ∀ j, fx_bd 11 (to j)) (hb_sh : ∀ j, fx_bd 220 (sh j)) (hb_kx : ∀ j, fx_bd 130 (kx j)) (hb_ky : ∀ j, fx_bd 130 (ky j)) (hn1 : 1 ≤ n) (hn : n ≤ 16) (hv1 : 1 ≤ v) (hv : v ≤ 8) (hft : ft ≤ 16) (hru : ru ≤ 6) : Met l yX5_volume wsX5_volume ({ frames := 2, cells := 0, slots := 0, locals := 46 } : Room) (kx_PM G [.ref m0] sz [(m0, .inr (6, [.int tw, .int (nI n), .int (nI v), .ref m1, .ref m2, .ref m3, .ref m4, .ref m5, .int kn, .int (nI ft), .ref m6, .ref m7, .int (nI ru), .ref m8, .ref m9, .ref m10, .int kp, .ref m11, .ref m12])), (m1, kx_aD G 8 ps), (m2, kx_aD G 8 qs), (m3, kx_aZ G 128 th), (m4, kx_aD G 128 fr), (m5, kx_aD G 128 to), (m6, kx_aZ G 16 fd), (m7, kx_aD G 64 sh), (m8, kx_aI G 6 ki), (m9, kx_aD G 6 li), (m10, kx_aI G 6 cl), (m11, kx_aD G 16 kx), (m12, kx_aD G 16 ky)]) (va_Qd (fun (r : UInt64) (u : Int32) => u = (kc_h (kx_hs kn ft)) ∧ ((kc_h (kx_hs kn ft)) = 0 → r = kx_sum (fun j => kx_area (sh (4 * j + 2))) n)) (kx_B G (va_A [(m0, .inr (6, [.int tw, .int (nI n), .int (nI v), .ref m1, .ref m2, .ref m3, .ref m4, .ref m5, .int kn, .int (nI ft), .ref m6, .ref m7, .int (nI ru), .ref m8, .ref m9, .ref m10, .int kp, .ref m11, .ref m12])), (m1, kx_aD G 8 ps), (m2, kx_aD G 8 qs), (m3, kx_aZ G 128 th), (m4, kx_aD G 128 fr), (m5, kx_aD G 128 to), (m6, kx_aZ G 16 fd), (m7, kx_aD G 64 sh), (m8, kx_aI G 6 ki), (m9, kx_aD G 6 li), (m10, kx_aI G 6 cl), (m11, kx_aD G 16 kx), (m12, kx_aD G 16 ky)] sz) (fun u : Int32 => [(m0, .inr (6, [.int u, .int (nI n), .int (nI v), .ref m1, .ref m2, .ref m3, .ref m4, .ref m5, .int kn, .int (nI ft), .ref m6, .ref m7, .int (nI ru), .ref m8, .ref m9, .ref m10, .int kp, .ref m11, .ref m12])), (m1, kx_aD G 8 ps), (m2, kx_aD G 8 qs), (m3, kx_aZ G 128 th), (m4, kx_aD G 128 fr), (m5, kx_aD G 128 to), (m6, kx_aZ G 16 fd), (m7, kx_aD G 64 sh), (m8, kx_aI G 6 ki), (m9, kx_aD G 6 li), (m10, kx_aI G 6 cl), (m11, kx_aD G 16 kx), (m12, kx_aD G 16 ky)])) (va_A [(m0, .inr (6, [.int tw, .int (nI n), .int (nI v), .ref m1, .ref m2, .ref m3, .ref m4, .ref m5, .int kn, .int (nI ft), .ref m6, .ref m7, .int (nI ru), .ref m8, .ref m9, .ref m10, .int kp, .ref m11, .ref m12])), (m1, kx_aD G 8 ps), (m2, kx_aD G 8 qs), (m3, kx_aZ G 128 th), (m4, kx_aD G 128 fr), (m5, kx_aD G 128 to), (m6, kx_aZ G 16 fd), (m7, kx_aD G 64 sh), (m8, kx_aI G 6 ki), (m9, kx_aD G 6 li), (m10, kx_aI G 6 cl), (m11, kx_aD G 16 kx), (m12, kx_aD G 16 ky)] sz)) 0 0 (va_A [(m0, .inr (6, [.int tw, .int (nI n), .int (nI v), .ref m1, .ref m2, .ref m3, .ref m4, .ref m5, .int kn, .int (nI ft), .ref m6, .ref m7, .int (nI ru), .ref m8, .ref m9, .ref m10, .int kp, .ref m11, .ref m12])), (m1, kx_aD G 8 ps), (m2, kx_aD G 8 qs), (m3, kx_aZ G 128 th), (m4, kx_aD G 128 fr), (m5, kx_aD G 128 to), (m6, kx_aZ G 16 fd), (m7, kx_aD G 64 sh), (m8, kx_aI G 6 ki), (m9, kx_aD G 6 li), (m10, kx_aI G 6 cl), (m11, kx_aD G 16 kx), (m12, kx_aD G 16 ky)] sz) := by
  refine Met.ofW (cc := cX5_volume) (maxL := 1) (ret := (some .double)) (by decide) rfl ?_
  intro p e s m args below meth c s₁ B hml hv
  obtain ⟨rfl, hsz, hP, hT, hD0⟩ := hv
  have hx := B.exec
  have hb := B.bytes
  have hr := B.returns
  have hts := atoms_spec (ws := wsX5_volume) B.pre
  have hown : s.vm.findClass RX5 = some m.cls := findClass_of_methodNamed B.named
  have hlocks := B.notSynchronized
  have hf_55 := hts (.fieldLink RX5 55 "StemShapesModel" "thrown" "I") (by decide +kernel)
  have hin_X5 : ∀ w ∈ wsX50, w ∈ wsX5_volume := by decide +kernel
  subst hsz
  have hD := hD0.self (sz := s.heap.size)
  generalize hAe : va_A [(m0, .inr (6, [.int tw, .int (nI n), .int (nI v), .ref m1, .ref m2, .ref m3, .ref m4, .ref m5, .int kn, .int (nI ft), .ref m6, .ref m7, .int (nI ru), .ref m8, .ref m9, .ref m10, .int kp, .ref m11, .ref m12])), (m1, kx_aD G 8 ps), (m2, kx_aD G 8 qs), (m3, kx_aZ G 128 th), (m4, kx_aD G 128 fr), (m5, kx_aD G 128 to), (m6, kx_aZ G 16 fd), (m7, kx_aD G 64 sh), (m8, kx_aI G 6 ki), (m9, kx_aD G 6 li), (m10, kx_aI G 6 cl), (m11, kx_aD G 16 kx), (m12, kx_aD G 16 ky)] s.heap.size = A at hD ⊢
  have hA : ∀ q : Nat, s.heap.size ≤ q → A q := fun q h => by rw [← hAe]; exact Or.inr h
  have hS : va_S A s.heap s.heap [] := va_S.rf
  have hl := lv_entry ([.ref m0]) (n := 1) (Nat.le_of_ble_eq_true rfl)
  rw [lg_entry_eq]
  generalize (lg_sl ([.ref m0]) ++ List.replicate (1 - (lg_sl ([.ref m0])).length) Slot.unset).toArray = ls at hl ⊢
  have hl : lv_has ls 1 [(0, .ref m0)] := hl
  refine lv_aload_n hx hb dX5_volume_0 rfl (lv_at hl 0 rfl) ?_
  refine lv_aload_n hx hb dX5_volume_1 rfl (lv_at hl 0 rfl) ?_
  refine vp_callSi (W.runV (As := []) (rest := [.ref m0]) ⟨hx, hb, hml, hown, hts⟩ (c_X5_hasShape l G (m0 := m0) (m1 := m1) (m2 := m2) (m3 := m3) (m4 := m4) (m5 := m5) (m6 := m6) (m7 := m7) (m8 := m8) (m9 := m9) (m10 := m10) (m11 := m11) (m12 := m12) (n := n) (v := v) (tw := tw) (ps := ps) (qs := qs) (th := th) (fr := fr) (to := to) (kn := kn) (ft := ft) (fd := fd) (sh := sh) (ru := ru) (ki := ki) (li := li) (cl := cl) (kp := kp) (kx := kx) (ky := ky) (hb_ps := hb_ps) (hb_qs := hb_qs) (hb_fr := hb_fr) (hb_to := hb_to) (hb_sh := hb_sh) (hb_kx := hb_kx) (hb_ky := hb_ky) (hft := (by omega))) (cwV 0 hts gX5_volume_X5_hasShape rfl rfl rfl (by decide +kernel) ⟨Nat.le_of_ble_eq_true rfl, Nat.le_of_ble_eq_true rfl⟩) ⟨kx_PRb, va_recv hT.1 hP (ci := 6) (q0 := 0) rfl rfl, kx_pr hT hP [0, 1, 2, 3, 4, 5, 6, 7, 8, 9, 10, 11, 12] rfl⟩ rfl rfl hl.1 rfl (lv_room (Nat.le_of_ble_eq_true rfl)) dX5_volume_2 ⟨Nat.zero_le _, Nat.zero_le _⟩) (fun r_1 hw_2 => ?_)
  subst hw_2
  refine lv_if_eq (x := kx_hs kn ft) (tgt := 12) hx hb dX5_volume_5 (by decide) (fun c_3 => ?_) (fun c_3 => ?_)
  · refine lv_iconst (v := 1) hx hb dX5_volume_12 (by decide) ?_
    refine va_put (D := G.1) (ci := 6) (v := .int 1) (ty := .int) (C := RX5) (T := TX5) (N := 19) hx hb hts hin_X5 tyX5 tyX5_ok nmX5 hown hT.1 hP hD hS 0 rfl rfl 0 (by decide) hf_55 (fun _ h9 => h9) rfl (by decide +kernel) rfl rfl (Nat.le_of_ble_eq_true rfl) dX5_volume_13 (fun H locs hP hD hS => ?_)
    have hP : va_P G.1 vwCl [(m0, .inr (6, [.int 1, .int (nI n), .int (nI v), .ref m1, .ref m2, .ref m3, .ref m4, .ref m5, .int kn, .int (nI ft), .ref m6, .ref m7, .int (nI ru), .ref m8, .ref m9, .ref m10, .int kp, .ref m11, .ref m12])), (m1, kx_aD G 8 ps), (m2, kx_aD G 8 qs), (m3, kx_aZ G 128 th), (m4, kx_aD G 128 fr), (m5, kx_aD G 128 to), (m6, kx_aZ G 16 fd), (m7, kx_aD G 64 sh), (m8, kx_aI G 6 ki), (m9, kx_aD G 6 li), (m10, kx_aI G 6 cl), (m11, kx_aD G 16 kx), (m12, kx_aD G 16 ky)] H := hP
    have hD : va_D A [(m0, .inr (6, [.int 1, .int (nI n), .int (nI v), .ref m1, .ref m2, .ref m3, .ref m4, .ref m5, .int kn, .int (nI ft), .ref m6, .ref m7, .int (nI ru), .ref m8, .ref m9, .ref m10, .int kp, .ref m11, .ref m12])), (m1, kx_aD G 8 ps), (m2, kx_aD G 8 qs), (m3, kx_aZ G 128 th), (m4, kx_aD G 128 fr), (m5, kx_aD G 128 to), (m6, kx_aZ G 16 fd), (m7, kx_aD G 64 sh), (m8, kx_aI G 6 ki), (m9, kx_aD G 6 li), (m10, kx_aI G 6 cl), (m11, kx_aD G 16 kx), (m12, kx_aD G 16 ky)] := hD
    refine lv_aload_n hx hb dX5_volume_16 rfl (lv_at hl 0 rfl) ?_
    refine va_get (D := G.1) (ci := 6) (v := .int 1) (C := RX5) (T := TX5) (N := 19) hx hb hts hin_X5 hown hT.1 hP 0 rfl rfl 0 (by decide) hf_55 (fun _ h9 => h9) rfl dX5_volume_17 ?_
    refine lv_if_le (x := 1) (tgt := 27) hx hb dX5_volume_20 (by decide) (fun c_4 => ?_) (fun c_4 => ?_)
    · exact absurd c_4 (by decide)
    · refine lv_dconst0 hx hb dX5_volume_23 ?_
      refine lv_goto (tgt := 31) hx hb dX5_volume_24 (by decide) ?_
      have hcd : (kc_h (kx_hs kn ft)) = 1 := by
        unfold kc_h
        rw [if_pos c_3]
      exact W.dret (v := FP.dconst0) hx hb hr (fun t ht hW => ⟨⟨FP.dconst0, 1, rfl, ⟨hcd.symm, fun q => absurd (hcd.symm.trans q) (by decide)⟩, And.intro (by rw [ht]; exact hP) hD⟩, hS.F ht⟩) hS.2.2 dX5_volume_31
  · refine lv_iconst (v := 0) hx hb dX5_volume_8 (by decide) ?_
    refine lv_goto (tgt := 13) hx hb dX5_volume_9 (by decide) ?_
    refine va_put (D := G.1) (ci := 6) (v := .int 0) (ty := .int) (C := RX5) (T := TX5) (N := 19) hx hb hts hin_X5 tyX5 tyX5_ok nmX5 hown hT.1 hP hD hS 0 rfl rfl 0 (by decide) hf_55 (fun _ h9 => h9) rfl (by decide +kernel) rfl rfl (Nat.le_of_ble_eq_true rfl) dX5_volume_13 (fun H locs hP hD hS => ?_)
    have hP : va_P G.1 vwCl [(m0, .inr (6, [.int 0, .int (nI n), .int (nI v), .ref m1, .ref m2, .ref m3, .ref m4, .ref m5, .int kn, .int (nI ft), .ref m6, .ref m7, .int (nI ru), .ref m8, .ref m9, .ref m10, .int kp, .ref m11, .ref m12])), (m1, kx_aD G 8 ps), (m2, kx_aD G 8 qs), (m3, kx_aZ G 128 th), (m4, kx_aD G 128 fr), (m5, kx_aD G 128 to), (m6, kx_aZ G 16 fd), (m7, kx_aD G 64 sh), (m8, kx_aI G 6 ki), (m9, kx_aD G 6 li), (m10, kx_aI G 6 cl), (m11, kx_aD G 16 kx), (m12, kx_aD G 16 ky)] H := hP
    have hD : va_D A [(m0, .inr (6, [.int 0, .int (nI n), .int (nI v), .ref m1, .ref m2, .ref m3, .ref m4, .ref m5, .int kn, .int (nI ft), .ref m6, .ref m7, .int (nI ru), .ref m8, .ref m9, .ref m10, .int kp, .ref m11, .ref m12])), (m1, kx_aD G 8 ps), (m2, kx_aD G 8 qs), (m3, kx_aZ G 128 th), (m4, kx_aD G 128 fr), (m5, kx_aD G 128 to), (m6, kx_aZ G 16 fd), (m7, kx_aD G 64 sh), (m8, kx_aI G 6 ki), (m9, kx_aD G 6 li), (m10, kx_aI G 6 cl), (m11, kx_aD G 16 kx), (m12, kx_aD G 16 ky)] := hD
    refine lv_aload_n hx hb dX5_volume_16 rfl (lv_at hl 0 rfl) ?_
    refine va_get (D := G.1) (ci := 6) (v := .int 0) (C := RX5) (T := TX5) (N := 19) hx hb hts hin_X5 hown hT.1 hP 0 rfl rfl 0 (by decide) hf_55 (fun _ h9 => h9) rfl dX5_volume_17 ?_
    refine lv_if_le (x := 0) (tgt := 27) hx hb dX5_volume_20 (by decide) (fun c_5 => ?_) (fun c_5 => ?_)
    · refine lv_aload_n hx hb dX5_volume_27 rfl (lv_at hl 0 rfl) ?_
      refine vp_callSd (W.runV (As := []) (rest := []) ⟨hx, hb, hml, hown, hts⟩ (c_X5_volumeNow l G (m0 := m0) (m1 := m1) (m2 := m2) (m3 := m3) (m4 := m4) (m5 := m5) (m6 := m6) (m7 := m7) (m8 := m8) (m9 := m9) (m10 := m10) (m11 := m11) (m12 := m12) (n := n) (v := v) (tw := 0) (ps := ps) (qs := qs) (th := th) (fr := fr) (to := to) (kn := kn) (ft := ft) (fd := fd) (sh := sh) (ru := ru) (ki := ki) (li := li) (cl := cl) (kp := kp) (kx := kx) (ky := ky) (hb_ps := hb_ps) (hb_qs := hb_qs) (hb_fr := hb_fr) (hb_to := hb_to) (hb_sh := hb_sh) (hb_kx := hb_kx) (hb_ky := hb_ky) (hn1 := (by omega)) (hn := (by omega))) (cwV 0 hts gX5_volume_X5_volumeNow rfl rfl rfl (by decide +kernel) ⟨Nat.le_of_ble_eq_true rfl, Nat.le_of_ble_eq_true rfl⟩) ⟨kx_PRb, va_recv hT.1 hP (ci := 6) (q0 := 0) rfl rfl, kx_pr hT hP [0, 1, 2, 3, 4, 5, 6, 7, 8, 9, 10, 11, 12] rfl⟩ rfl rfl hl.1 rfl (lv_room (Nat.le_of_ble_eq_true rfl)) dX5_volume_28 ⟨Nat.zero_le _, Nat.zero_le _⟩) (fun r_6 hw_7 => ?_)
      subst hw_7
      have hcd : (kc_h (kx_hs kn ft)) = 0 := by
        unfold kc_h
        rw [if_neg c_3]
      exact W.dret (v := kx_sum (fun j => kx_area (sh (4 * j + 2))) n) hx hb hr (fun t ht hW => ⟨⟨kx_sum (fun j => kx_area (sh (4 * j + 2))) n, 0, rfl, ⟨hcd.symm, fun _ => rfl⟩, And.intro (by rw [ht]; exact hP) hD⟩, hS.F ht⟩) hS.2.2 dX5_volume_31
    · exact absurd c_5 (by decide)
set_option maxHeartbeats 4000000 in
set_option maxRecDepth 100000 in
/-- taper -/
theorem c_X5_taper (l : Launch) (G : kx_G) (sz : Nat) (m0 : Nat) (m1 : Nat) (m2 : Nat) (m3 : Nat) (m4 : Nat) (m5 : Nat) (m6 : Nat) (m7 : Nat) (m8 : Nat) (m9 : Nat) (m10 : Nat) (m11 : Nat) (m12 : Nat) (n : Nat) (v : Nat) (tw : Int32) (ps : Nat → UInt64) (qs : Nat → UInt64) (th : Nat → Int32) (fr : Nat → UInt64) (to : Nat → UInt64) (kn : Int32) (ft : Nat) (fd : Nat → Int32) (sh : Nat → UInt64) (ru : Nat) (ki : Nat → Int32) (li : Nat → UInt64) (cl : Nat → Int32) (kp : Int32) (kx : Nat → UInt64) (ky : Nat → UInt64) (hb_ps : ∀ j, fx_bd 5 (ps j)) (hb_qs : ∀ j, fx_bd 5 (qs j)) (hb_fr : ∀ j, fx_bd 11 (fr j)) (hb_to : ∀ j, fx_bd 11 (to j)) (hb_sh : ∀ j, fx_bd 220 (sh j)) (hb_kx : ∀ j, fx_bd 130 (kx j)) (hb_ky : ∀ j, fx_bd 130 (ky j)) (hn1 : 1 ≤ n) (hn : n ≤ 16) (hv1 : 1 ≤ v) (hv : v ≤ 8) (hft : ft ≤ 16) (hru : ru ≤ 6) : Met l yX5_taper wsX5_taper ({ frames := 1, cells := 0, slots := 0, locals := 20 } : Room) (kx_PM G [.ref m0] sz [(m0, .inr (6, [.int tw, .int (nI n), .int (nI v), .ref m1, .ref m2, .ref m3, .ref m4, .ref m5, .int kn, .int (nI ft), .ref m6, .ref m7, .int (nI ru), .ref m8, .ref m9, .ref m10, .int kp, .ref m11, .ref m12])), (m1, kx_aD G 8 ps), (m2, kx_aD G 8 qs), (m3, kx_aZ G 128 th), (m4, kx_aD G 128 fr), (m5, kx_aD G 128 to), (m6, kx_aZ G 16 fd), (m7, kx_aD G 64 sh), (m8, kx_aI G 6 ki), (m9, kx_aD G 6 li), (m10, kx_aI G 6 cl), (m11, kx_aD G 16 kx), (m12, kx_aD G 16 ky)]) (va_Qd (fun (r : UInt64) (u : Int32) => u = (kc_h (kx_hs kn ft)) ∧ ((kc_h (kx_hs kn ft)) = 0 → r = kx_tap (fun j => sh (4 * j + 2)) n)) (kx_B G (va_A [(m0, .inr (6, [.int tw, .int (nI n), .int (nI v), .ref m1, .ref m2, .ref m3, .ref m4, .ref m5, .int kn, .int (nI ft), .ref m6, .ref m7, .int (nI ru), .ref m8, .ref m9, .ref m10, .int kp, .ref m11, .ref m12])), (m1, kx_aD G 8 ps), (m2, kx_aD G 8 qs), (m3, kx_aZ G 128 th), (m4, kx_aD G 128 fr), (m5, kx_aD G 128 to), (m6, kx_aZ G 16 fd), (m7, kx_aD G 64 sh), (m8, kx_aI G 6 ki), (m9, kx_aD G 6 li), (m10, kx_aI G 6 cl), (m11, kx_aD G 16 kx), (m12, kx_aD G 16 ky)] sz) (fun u : Int32 => [(m0, .inr (6, [.int u, .int (nI n), .int (nI v), .ref m1, .ref m2, .ref m3, .ref m4, .ref m5, .int kn, .int (nI ft), .ref m6, .ref m7, .int (nI ru), .ref m8, .ref m9, .ref m10, .int kp, .ref m11, .ref m12])), (m1, kx_aD G 8 ps), (m2, kx_aD G 8 qs), (m3, kx_aZ G 128 th), (m4, kx_aD G 128 fr), (m5, kx_aD G 128 to), (m6, kx_aZ G 16 fd), (m7, kx_aD G 64 sh), (m8, kx_aI G 6 ki), (m9, kx_aD G 6 li), (m10, kx_aI G 6 cl), (m11, kx_aD G 16 kx), (m12, kx_aD G 16 ky)])) (va_A [(m0, .inr (6, [.int tw, .int (nI n), .int (nI v), .ref m1, .ref m2, .ref m3, .ref m4, .ref m5, .int kn, .int (nI ft), .ref m6, .ref m7, .int (nI ru), .ref m8, .ref m9, .ref m10, .int kp, .ref m11, .ref m12])), (m1, kx_aD G 8 ps), (m2, kx_aD G 8 qs), (m3, kx_aZ G 128 th), (m4, kx_aD G 128 fr), (m5, kx_aD G 128 to), (m6, kx_aZ G 16 fd), (m7, kx_aD G 64 sh), (m8, kx_aI G 6 ki), (m9, kx_aD G 6 li), (m10, kx_aI G 6 cl), (m11, kx_aD G 16 kx), (m12, kx_aD G 16 ky)] sz)) 0 0 (va_A [(m0, .inr (6, [.int tw, .int (nI n), .int (nI v), .ref m1, .ref m2, .ref m3, .ref m4, .ref m5, .int kn, .int (nI ft), .ref m6, .ref m7, .int (nI ru), .ref m8, .ref m9, .ref m10, .int kp, .ref m11, .ref m12])), (m1, kx_aD G 8 ps), (m2, kx_aD G 8 qs), (m3, kx_aZ G 128 th), (m4, kx_aD G 128 fr), (m5, kx_aD G 128 to), (m6, kx_aZ G 16 fd), (m7, kx_aD G 64 sh), (m8, kx_aI G 6 ki), (m9, kx_aD G 6 li), (m10, kx_aI G 6 cl), (m11, kx_aD G 16 kx), (m12, kx_aD G 16 ky)] sz) := by
  refine Met.ofW (cc := cX5_taper) (maxL := 1) (ret := (some .double)) (by decide) rfl ?_
  intro p e s m args below meth c s₁ B hml hv
  obtain ⟨rfl, hsz, hP, hT, hD0⟩ := hv
  have hx := B.exec
  have hb := B.bytes
  have hr := B.returns
  have hts := atoms_spec (ws := wsX5_taper) B.pre
  have hown : s.vm.findClass RX5 = some m.cls := findClass_of_methodNamed B.named
  have hlocks := B.notSynchronized
  have hf_55 := hts (.fieldLink RX5 55 "StemShapesModel" "thrown" "I") (by decide +kernel)
  have hin_X5 : ∀ w ∈ wsX50, w ∈ wsX5_taper := by decide +kernel
  subst hsz
  have hD := hD0.self (sz := s.heap.size)
  generalize hAe : va_A [(m0, .inr (6, [.int tw, .int (nI n), .int (nI v), .ref m1, .ref m2, .ref m3, .ref m4, .ref m5, .int kn, .int (nI ft), .ref m6, .ref m7, .int (nI ru), .ref m8, .ref m9, .ref m10, .int kp, .ref m11, .ref m12])), (m1, kx_aD G 8 ps), (m2, kx_aD G 8 qs), (m3, kx_aZ G 128 th), (m4, kx_aD G 128 fr), (m5, kx_aD G 128 to), (m6, kx_aZ G 16 fd), (m7, kx_aD G 64 sh), (m8, kx_aI G 6 ki), (m9, kx_aD G 6 li), (m10, kx_aI G 6 cl), (m11, kx_aD G 16 kx), (m12, kx_aD G 16 ky)] s.heap.size = A at hD ⊢
  have hA : ∀ q : Nat, s.heap.size ≤ q → A q := fun q h => by rw [← hAe]; exact Or.inr h
  have hS : va_S A s.heap s.heap [] := va_S.rf
  have hl := lv_entry ([.ref m0]) (n := 1) (Nat.le_of_ble_eq_true rfl)
  rw [lg_entry_eq]
  generalize (lg_sl ([.ref m0]) ++ List.replicate (1 - (lg_sl ([.ref m0])).length) Slot.unset).toArray = ls at hl ⊢
  have hl : lv_has ls 1 [(0, .ref m0)] := hl
  refine lv_aload_n hx hb dX5_taper_0 rfl (lv_at hl 0 rfl) ?_
  refine lv_aload_n hx hb dX5_taper_1 rfl (lv_at hl 0 rfl) ?_
  refine vp_callSi (W.runV (As := []) (rest := [.ref m0]) ⟨hx, hb, hml, hown, hts⟩ (c_X5_hasShape l G (m0 := m0) (m1 := m1) (m2 := m2) (m3 := m3) (m4 := m4) (m5 := m5) (m6 := m6) (m7 := m7) (m8 := m8) (m9 := m9) (m10 := m10) (m11 := m11) (m12 := m12) (n := n) (v := v) (tw := tw) (ps := ps) (qs := qs) (th := th) (fr := fr) (to := to) (kn := kn) (ft := ft) (fd := fd) (sh := sh) (ru := ru) (ki := ki) (li := li) (cl := cl) (kp := kp) (kx := kx) (ky := ky) (hb_ps := hb_ps) (hb_qs := hb_qs) (hb_fr := hb_fr) (hb_to := hb_to) (hb_sh := hb_sh) (hb_kx := hb_kx) (hb_ky := hb_ky) (hft := (by omega))) (cwV 0 hts gX5_taper_X5_hasShape rfl rfl rfl (by decide +kernel) ⟨Nat.le_of_ble_eq_true rfl, Nat.le_of_ble_eq_true rfl⟩) ⟨kx_PRb, va_recv hT.1 hP (ci := 6) (q0 := 0) rfl rfl, kx_pr hT hP [0, 1, 2, 3, 4, 5, 6, 7, 8, 9, 10, 11, 12] rfl⟩ rfl rfl hl.1 rfl (lv_room (Nat.le_of_ble_eq_true rfl)) dX5_taper_2 ⟨Nat.zero_le _, Nat.zero_le _⟩) (fun r_1 hw_2 => ?_)
  subst hw_2
  refine lv_if_eq (x := kx_hs kn ft) (tgt := 12) hx hb dX5_taper_5 (by decide) (fun c_3 => ?_) (fun c_3 => ?_)
  · refine lv_iconst (v := 1) hx hb dX5_taper_12 (by decide) ?_
    refine va_put (D := G.1) (ci := 6) (v := .int 1) (ty := .int) (C := RX5) (T := TX5) (N := 19) hx hb hts hin_X5 tyX5 tyX5_ok nmX5 hown hT.1 hP hD hS 0 rfl rfl 0 (by decide) hf_55 (fun _ h9 => h9) rfl (by decide +kernel) rfl rfl (Nat.le_of_ble_eq_true rfl) dX5_taper_13 (fun H locs hP hD hS => ?_)
    have hP : va_P G.1 vwCl [(m0, .inr (6, [.int 1, .int (nI n), .int (nI v), .ref m1, .ref m2, .ref m3, .ref m4, .ref m5, .int kn, .int (nI ft), .ref m6, .ref m7, .int (nI ru), .ref m8, .ref m9, .ref m10, .int kp, .ref m11, .ref m12])), (m1, kx_aD G 8 ps), (m2, kx_aD G 8 qs), (m3, kx_aZ G 128 th), (m4, kx_aD G 128 fr), (m5, kx_aD G 128 to), (m6, kx_aZ G 16 fd), (m7, kx_aD G 64 sh), (m8, kx_aI G 6 ki), (m9, kx_aD G 6 li), (m10, kx_aI G 6 cl), (m11, kx_aD G 16 kx), (m12, kx_aD G 16 ky)] H := hP
    have hD : va_D A [(m0, .inr (6, [.int 1, .int (nI n), .int (nI v), .ref m1, .ref m2, .ref m3, .ref m4, .ref m5, .int kn, .int (nI ft), .ref m6, .ref m7, .int (nI ru), .ref m8, .ref m9, .ref m10, .int kp, .ref m11, .ref m12])), (m1, kx_aD G 8 ps), (m2, kx_aD G 8 qs), (m3, kx_aZ G 128 th), (m4, kx_aD G 128 fr), (m5, kx_aD G 128 to), (m6, kx_aZ G 16 fd), (m7, kx_aD G 64 sh), (m8, kx_aI G 6 ki), (m9, kx_aD G 6 li), (m10, kx_aI G 6 cl), (m11, kx_aD G 16 kx), (m12, kx_aD G 16 ky)] := hD
    refine lv_aload_n hx hb dX5_taper_16 rfl (lv_at hl 0 rfl) ?_
    refine va_get (D := G.1) (ci := 6) (v := .int 1) (C := RX5) (T := TX5) (N := 19) hx hb hts hin_X5 hown hT.1 hP 0 rfl rfl 0 (by decide) hf_55 (fun _ h9 => h9) rfl dX5_taper_17 ?_
    refine lv_if_le (x := 1) (tgt := 27) hx hb dX5_taper_20 (by decide) (fun c_4 => ?_) (fun c_4 => ?_)
    · exact absurd c_4 (by decide)
    · refine lv_dconst0 hx hb dX5_taper_23 ?_
      refine lv_goto (tgt := 31) hx hb dX5_taper_24 (by decide) ?_
      have hcd : (kc_h (kx_hs kn ft)) = 1 := by
        unfold kc_h
        rw [if_pos c_3]
      exact W.dret (v := FP.dconst0) hx hb hr (fun t ht hW => ⟨⟨FP.dconst0, 1, rfl, ⟨hcd.symm, fun q => absurd (hcd.symm.trans q) (by decide)⟩, And.intro (by rw [ht]; exact hP) hD⟩, hS.F ht⟩) hS.2.2 dX5_taper_31
  · refine lv_iconst (v := 0) hx hb dX5_taper_8 (by decide) ?_
    refine lv_goto (tgt := 13) hx hb dX5_taper_9 (by decide) ?_
    refine va_put (D := G.1) (ci := 6) (v := .int 0) (ty := .int) (C := RX5) (T := TX5) (N := 19) hx hb hts hin_X5 tyX5 tyX5_ok nmX5 hown hT.1 hP hD hS 0 rfl rfl 0 (by decide) hf_55 (fun _ h9 => h9) rfl (by decide +kernel) rfl rfl (Nat.le_of_ble_eq_true rfl) dX5_taper_13 (fun H locs hP hD hS => ?_)
    have hP : va_P G.1 vwCl [(m0, .inr (6, [.int 0, .int (nI n), .int (nI v), .ref m1, .ref m2, .ref m3, .ref m4, .ref m5, .int kn, .int (nI ft), .ref m6, .ref m7, .int (nI ru), .ref m8, .ref m9, .ref m10, .int kp, .ref m11, .ref m12])), (m1, kx_aD G 8 ps), (m2, kx_aD G 8 qs), (m3, kx_aZ G 128 th), (m4, kx_aD G 128 fr), (m5, kx_aD G 128 to), (m6, kx_aZ G 16 fd), (m7, kx_aD G 64 sh), (m8, kx_aI G 6 ki), (m9, kx_aD G 6 li), (m10, kx_aI G 6 cl), (m11, kx_aD G 16 kx), (m12, kx_aD G 16 ky)] H := hP
    have hD : va_D A [(m0, .inr (6, [.int 0, .int (nI n), .int (nI v), .ref m1, .ref m2, .ref m3, .ref m4, .ref m5, .int kn, .int (nI ft), .ref m6, .ref m7, .int (nI ru), .ref m8, .ref m9, .ref m10, .int kp, .ref m11, .ref m12])), (m1, kx_aD G 8 ps), (m2, kx_aD G 8 qs), (m3, kx_aZ G 128 th), (m4, kx_aD G 128 fr), (m5, kx_aD G 128 to), (m6, kx_aZ G 16 fd), (m7, kx_aD G 64 sh), (m8, kx_aI G 6 ki), (m9, kx_aD G 6 li), (m10, kx_aI G 6 cl), (m11, kx_aD G 16 kx), (m12, kx_aD G 16 ky)] := hD
    refine lv_aload_n hx hb dX5_taper_16 rfl (lv_at hl 0 rfl) ?_
    refine va_get (D := G.1) (ci := 6) (v := .int 0) (C := RX5) (T := TX5) (N := 19) hx hb hts hin_X5 hown hT.1 hP 0 rfl rfl 0 (by decide) hf_55 (fun _ h9 => h9) rfl dX5_taper_17 ?_
    refine lv_if_le (x := 0) (tgt := 27) hx hb dX5_taper_20 (by decide) (fun c_5 => ?_) (fun c_5 => ?_)
    · refine lv_aload_n hx hb dX5_taper_27 rfl (lv_at hl 0 rfl) ?_
      refine vp_callSd (W.runV (As := []) (rest := []) ⟨hx, hb, hml, hown, hts⟩ (c_X5_taperNow l G (m0 := m0) (m1 := m1) (m2 := m2) (m3 := m3) (m4 := m4) (m5 := m5) (m6 := m6) (m7 := m7) (m8 := m8) (m9 := m9) (m10 := m10) (m11 := m11) (m12 := m12) (n := n) (v := v) (tw := 0) (ps := ps) (qs := qs) (th := th) (fr := fr) (to := to) (kn := kn) (ft := ft) (fd := fd) (sh := sh) (ru := ru) (ki := ki) (li := li) (cl := cl) (kp := kp) (kx := kx) (ky := ky) (hb_ps := hb_ps) (hb_qs := hb_qs) (hb_fr := hb_fr) (hb_to := hb_to) (hb_sh := hb_sh) (hb_kx := hb_kx) (hb_ky := hb_ky) (hn1 := (by omega)) (hn := (by omega))) (cwV 0 hts gX5_taper_X5_taperNow rfl rfl rfl (by decide +kernel) ⟨Nat.le_of_ble_eq_true rfl, Nat.le_of_ble_eq_true rfl⟩) ⟨kx_PRb, va_recv hT.1 hP (ci := 6) (q0 := 0) rfl rfl, kx_pr hT hP [0, 1, 2, 3, 4, 5, 6, 7, 8, 9, 10, 11, 12] rfl⟩ rfl rfl hl.1 rfl (lv_room (Nat.le_of_ble_eq_true rfl)) dX5_taper_28 ⟨Nat.zero_le _, Nat.zero_le _⟩) (fun r_6 hw_7 => ?_)
      subst hw_7
      have hcd : (kc_h (kx_hs kn ft)) = 0 := by
        unfold kc_h
        rw [if_neg c_3]
      exact W.dret (v := kx_tap (fun j => sh (4 * j + 2)) n) hx hb hr (fun t ht hW => ⟨⟨kx_tap (fun j => sh (4 * j + 2)) n, 0, rfl, ⟨hcd.symm, fun _ => rfl⟩, And.intro (by rw [ht]; exact hP) hD⟩, hS.F ht⟩) hS.2.2 dX5_taper_31
    · exact absurd c_5 (by decide)
set_option maxHeartbeats 4000000 in
set_option maxRecDepth 100000 in
/-- sweep -/
theorem c_X5_sweep (l : Launch) (G : kx_G) (sz : Nat) (m0 : Nat) (m1 : Nat) (m2 : Nat) (m3 : Nat) (m4 : Nat) (m5 : Nat) (m6 : Nat) (m7 : Nat) (m8 : Nat) (m9 : Nat) (m10 : Nat) (m11 : Nat) (m12 : Nat) (n : Nat) (v : Nat) (tw : Int32) (ps : Nat → UInt64) (qs : Nat → UInt64) (th : Nat → Int32) (fr : Nat → UInt64) (to : Nat → UInt64) (kn : Int32) (ft : Nat) (fd : Nat → Int32) (sh : Nat → UInt64) (ru : Nat) (ki : Nat → Int32) (li : Nat → UInt64) (cl : Nat → Int32) (kp : Int32) (kx : Nat → UInt64) (ky : Nat → UInt64) (hb_ps : ∀ j, fx_bd 5 (ps j)) (hb_qs : ∀ j, fx_bd 5 (qs j)) (hb_fr : ∀ j, fx_bd 11 (fr j)) (hb_to : ∀ j, fx_bd 11 (to j)) (hb_sh : ∀ j, fx_bd 220 (sh j)) (hb_kx : ∀ j, fx_bd 130 (kx j)) (hb_ky : ∀ j, fx_bd 130 (ky j)) (hn1 : 1 ≤ n) (hn : n ≤ 16) (hv1 : 1 ≤ v) (hv : v ≤ 8) (hft : ft ≤ 16) (hru : ru ≤ 6) : Met l yX5_sweep wsX5_sweep ({ frames := 2, cells := 0, slots := 0, locals := 51 } : Room) (kx_PM G [.ref m0] sz [(m0, .inr (6, [.int tw, .int (nI n), .int (nI v), .ref m1, .ref m2, .ref m3, .ref m4, .ref m5, .int kn, .int (nI ft), .ref m6, .ref m7, .int (nI ru), .ref m8, .ref m9, .ref m10, .int kp, .ref m11, .ref m12])), (m1, kx_aD G 8 ps), (m2, kx_aD G 8 qs), (m3, kx_aZ G 128 th), (m4, kx_aD G 128 fr), (m5, kx_aD G 128 to), (m6, kx_aZ G 16 fd), (m7, kx_aD G 64 sh), (m8, kx_aI G 6 ki), (m9, kx_aD G 6 li), (m10, kx_aI G 6 cl), (m11, kx_aD G 16 kx), (m12, kx_aD G 16 ky)]) (va_Qd (fun (r : UInt64) (u : Int32) => u = (kc_h (kx_hs kn ft)) ∧ ((kc_h (kx_hs kn ft)) = 0 → r = kx_swp (fun j => sh (4 * j)) (fun j => sh (4 * j + 1)) n)) (kx_B G (va_A [(m0, .inr (6, [.int tw, .int (nI n), .int (nI v), .ref m1, .ref m2, .ref m3, .ref m4, .ref m5, .int kn, .int (nI ft), .ref m6, .ref m7, .int (nI ru), .ref m8, .ref m9, .ref m10, .int kp, .ref m11, .ref m12])), (m1, kx_aD G 8 ps), (m2, kx_aD G 8 qs), (m3, kx_aZ G 128 th), (m4, kx_aD G 128 fr), (m5, kx_aD G 128 to), (m6, kx_aZ G 16 fd), (m7, kx_aD G 64 sh), (m8, kx_aI G 6 ki), (m9, kx_aD G 6 li), (m10, kx_aI G 6 cl), (m11, kx_aD G 16 kx), (m12, kx_aD G 16 ky)] sz) (fun u : Int32 => [(m0, .inr (6, [.int u, .int (nI n), .int (nI v), .ref m1, .ref m2, .ref m3, .ref m4, .ref m5, .int kn, .int (nI ft), .ref m6, .ref m7, .int (nI ru), .ref m8, .ref m9, .ref m10, .int kp, .ref m11, .ref m12])), (m1, kx_aD G 8 ps), (m2, kx_aD G 8 qs), (m3, kx_aZ G 128 th), (m4, kx_aD G 128 fr), (m5, kx_aD G 128 to), (m6, kx_aZ G 16 fd), (m7, kx_aD G 64 sh), (m8, kx_aI G 6 ki), (m9, kx_aD G 6 li), (m10, kx_aI G 6 cl), (m11, kx_aD G 16 kx), (m12, kx_aD G 16 ky)])) (va_A [(m0, .inr (6, [.int tw, .int (nI n), .int (nI v), .ref m1, .ref m2, .ref m3, .ref m4, .ref m5, .int kn, .int (nI ft), .ref m6, .ref m7, .int (nI ru), .ref m8, .ref m9, .ref m10, .int kp, .ref m11, .ref m12])), (m1, kx_aD G 8 ps), (m2, kx_aD G 8 qs), (m3, kx_aZ G 128 th), (m4, kx_aD G 128 fr), (m5, kx_aD G 128 to), (m6, kx_aZ G 16 fd), (m7, kx_aD G 64 sh), (m8, kx_aI G 6 ki), (m9, kx_aD G 6 li), (m10, kx_aI G 6 cl), (m11, kx_aD G 16 kx), (m12, kx_aD G 16 ky)] sz)) 0 0 (va_A [(m0, .inr (6, [.int tw, .int (nI n), .int (nI v), .ref m1, .ref m2, .ref m3, .ref m4, .ref m5, .int kn, .int (nI ft), .ref m6, .ref m7, .int (nI ru), .ref m8, .ref m9, .ref m10, .int kp, .ref m11, .ref m12])), (m1, kx_aD G 8 ps), (m2, kx_aD G 8 qs), (m3, kx_aZ G 128 th), (m4, kx_aD G 128 fr), (m5, kx_aD G 128 to), (m6, kx_aZ G 16 fd), (m7, kx_aD G 64 sh), (m8, kx_aI G 6 ki), (m9, kx_aD G 6 li), (m10, kx_aI G 6 cl), (m11, kx_aD G 16 kx), (m12, kx_aD G 16 ky)] sz) := by
  refine Met.ofW (cc := cX5_sweep) (maxL := 1) (ret := (some .double)) (by decide) rfl ?_
  intro p e s m args below meth c s₁ B hml hv
  obtain ⟨rfl, hsz, hP, hT, hD0⟩ := hv
  have hx := B.exec
  have hb := B.bytes
  have hr := B.returns
  have hts := atoms_spec (ws := wsX5_sweep) B.pre
  have hown : s.vm.findClass RX5 = some m.cls := findClass_of_methodNamed B.named
  have hlocks := B.notSynchronized
  have hf_55 := hts (.fieldLink RX5 55 "StemShapesModel" "thrown" "I") (by decide +kernel)
  have hin_X5 : ∀ w ∈ wsX50, w ∈ wsX5_sweep := by decide +kernel
  subst hsz
  have hD := hD0.self (sz := s.heap.size)
  generalize hAe : va_A [(m0, .inr (6, [.int tw, .int (nI n), .int (nI v), .ref m1, .ref m2, .ref m3, .ref m4, .ref m5, .int kn, .int (nI ft), .ref m6, .ref m7, .int (nI ru), .ref m8, .ref m9, .ref m10, .int kp, .ref m11, .ref m12])), (m1, kx_aD G 8 ps), (m2, kx_aD G 8 qs), (m3, kx_aZ G 128 th), (m4, kx_aD G 128 fr), (m5, kx_aD G 128 to), (m6, kx_aZ G 16 fd), (m7, kx_aD G 64 sh), (m8, kx_aI G 6 ki), (m9, kx_aD G 6 li), (m10, kx_aI G 6 cl), (m11, kx_aD G 16 kx), (m12, kx_aD G 16 ky)] s.heap.size = A at hD ⊢
  have hA : ∀ q : Nat, s.heap.size ≤ q → A q := fun q h => by rw [← hAe]; exact Or.inr h
  have hS : va_S A s.heap s.heap [] := va_S.rf
  have hl := lv_entry ([.ref m0]) (n := 1) (Nat.le_of_ble_eq_true rfl)
  rw [lg_entry_eq]
  generalize (lg_sl ([.ref m0]) ++ List.replicate (1 - (lg_sl ([.ref m0])).length) Slot.unset).toArray = ls at hl ⊢
  have hl : lv_has ls 1 [(0, .ref m0)] := hl
  refine lv_aload_n hx hb dX5_sweep_0 rfl (lv_at hl 0 rfl) ?_
  refine lv_aload_n hx hb dX5_sweep_1 rfl (lv_at hl 0 rfl) ?_
  refine vp_callSi (W.runV (As := []) (rest := [.ref m0]) ⟨hx, hb, hml, hown, hts⟩ (c_X5_hasShape l G (m0 := m0) (m1 := m1) (m2 := m2) (m3 := m3) (m4 := m4) (m5 := m5) (m6 := m6) (m7 := m7) (m8 := m8) (m9 := m9) (m10 := m10) (m11 := m11) (m12 := m12) (n := n) (v := v) (tw := tw) (ps := ps) (qs := qs) (th := th) (fr := fr) (to := to) (kn := kn) (ft := ft) (fd := fd) (sh := sh) (ru := ru) (ki := ki) (li := li) (cl := cl) (kp := kp) (kx := kx) (ky := ky) (hb_ps := hb_ps) (hb_qs := hb_qs) (hb_fr := hb_fr) (hb_to := hb_to) (hb_sh := hb_sh) (hb_kx := hb_kx) (hb_ky := hb_ky) (hft := (by omega))) (cwV 0 hts gX5_sweep_X5_hasShape rfl rfl rfl (by decide +kernel) ⟨Nat.le_of_ble_eq_true rfl, Nat.le_of_ble_eq_true rfl⟩) ⟨kx_PRb, va_recv hT.1 hP (ci := 6) (q0 := 0) rfl rfl, kx_pr hT hP [0, 1, 2, 3, 4, 5, 6, 7, 8, 9, 10, 11, 12] rfl⟩ rfl rfl hl.1 rfl (lv_room (Nat.le_of_ble_eq_true rfl)) dX5_sweep_2 ⟨Nat.zero_le _, Nat.zero_le _⟩) (fun r_1 hw_2 => ?_)
  subst hw_2
  refine lv_if_eq (x := kx_hs kn ft) (tgt := 12) hx hb dX5_sweep_5 (by decide) (fun c_3 => ?_) (fun c_3 => ?_)
  · refine lv_iconst (v := 1) hx hb dX5_sweep_12 (by decide) ?_
    refine va_put (D := G.1) (ci := 6) (v := .int 1) (ty := .int) (C := RX5) (T := TX5) (N := 19) hx hb hts hin_X5 tyX5 tyX5_ok nmX5 hown hT.1 hP hD hS 0 rfl rfl 0 (by decide) hf_55 (fun _ h9 => h9) rfl (by decide +kernel) rfl rfl (Nat.le_of_ble_eq_true rfl) dX5_sweep_13 (fun H locs hP hD hS => ?_)
    have hP : va_P G.1 vwCl [(m0, .inr (6, [.int 1, .int (nI n), .int (nI v), .ref m1, .ref m2, .ref m3, .ref m4, .ref m5, .int kn, .int (nI ft), .ref m6, .ref m7, .int (nI ru), .ref m8, .ref m9, .ref m10, .int kp, .ref m11, .ref m12])), (m1, kx_aD G 8 ps), (m2, kx_aD G 8 qs), (m3, kx_aZ G 128 th), (m4, kx_aD G 128 fr), (m5, kx_aD G 128 to), (m6, kx_aZ G 16 fd), (m7, kx_aD G 64 sh), (m8, kx_aI G 6 ki), (m9, kx_aD G 6 li), (m10, kx_aI G 6 cl), (m11, kx_aD G 16 kx), (m12, kx_aD G 16 ky)] H := hP
    have hD : va_D A [(m0, .inr (6, [.int 1, .int (nI n), .int (nI v), .ref m1, .ref m2, .ref m3, .ref m4, .ref m5, .int kn, .int (nI ft), .ref m6, .ref m7, .int (nI ru), .ref m8, .ref m9, .ref m10, .int kp, .ref m11, .ref m12])), (m1, kx_aD G 8 ps), (m2, kx_aD G 8 qs), (m3, kx_aZ G 128 th), (m4, kx_aD G 128 fr), (m5, kx_aD G 128 to), (m6, kx_aZ G 16 fd), (m7, kx_aD G 64 sh), (m8, kx_aI G 6 ki), (m9, kx_aD G 6 li), (m10, kx_aI G 6 cl), (m11, kx_aD G 16 kx), (m12, kx_aD G 16 ky)] := hD
    refine lv_aload_n hx hb dX5_sweep_16 rfl (lv_at hl 0 rfl) ?_
    refine va_get (D := G.1) (ci := 6) (v := .int 1) (C := RX5) (T := TX5) (N := 19) hx hb hts hin_X5 hown hT.1 hP 0 rfl rfl 0 (by decide) hf_55 (fun _ h9 => h9) rfl dX5_sweep_17 ?_
    refine lv_if_le (x := 1) (tgt := 27) hx hb dX5_sweep_20 (by decide) (fun c_4 => ?_) (fun c_4 => ?_)
    · exact absurd c_4 (by decide)
    · refine lv_dconst0 hx hb dX5_sweep_23 ?_
      refine lv_goto (tgt := 31) hx hb dX5_sweep_24 (by decide) ?_
      have hcd : (kc_h (kx_hs kn ft)) = 1 := by
        unfold kc_h
        rw [if_pos c_3]
      exact W.dret (v := FP.dconst0) hx hb hr (fun t ht hW => ⟨⟨FP.dconst0, 1, rfl, ⟨hcd.symm, fun q => absurd (hcd.symm.trans q) (by decide)⟩, And.intro (by rw [ht]; exact hP) hD⟩, hS.F ht⟩) hS.2.2 dX5_sweep_31
  · refine lv_iconst (v := 0) hx hb dX5_sweep_8 (by decide) ?_
    refine lv_goto (tgt := 13) hx hb dX5_sweep_9 (by decide) ?_
    refine va_put (D := G.1) (ci := 6) (v := .int 0) (ty := .int) (C := RX5) (T := TX5) (N := 19) hx hb hts hin_X5 tyX5 tyX5_ok nmX5 hown hT.1 hP hD hS 0 rfl rfl 0 (by decide) hf_55 (fun _ h9 => h9) rfl (by decide +kernel) rfl rfl (Nat.le_of_ble_eq_true rfl) dX5_sweep_13 (fun H locs hP hD hS => ?_)
    have hP : va_P G.1 vwCl [(m0, .inr (6, [.int 0, .int (nI n), .int (nI v), .ref m1, .ref m2, .ref m3, .ref m4, .ref m5, .int kn, .int (nI ft), .ref m6, .ref m7, .int (nI ru), .ref m8, .ref m9, .ref m10, .int kp, .ref m11, .ref m12])), (m1, kx_aD G 8 ps), (m2, kx_aD G 8 qs), (m3, kx_aZ G 128 th), (m4, kx_aD G 128 fr), (m5, kx_aD G 128 to), (m6, kx_aZ G 16 fd), (m7, kx_aD G 64 sh), (m8, kx_aI G 6 ki), (m9, kx_aD G 6 li), (m10, kx_aI G 6 cl), (m11, kx_aD G 16 kx), (m12, kx_aD G 16 ky)] H := hP
    have hD : va_D A [(m0, .inr (6, [.int 0, .int (nI n), .int (nI v), .ref m1, .ref m2, .ref m3, .ref m4, .ref m5, .int kn, .int (nI ft), .ref m6, .ref m7, .int (nI ru), .ref m8, .ref m9, .ref m10, .int kp, .ref m11, .ref m12])), (m1, kx_aD G 8 ps), (m2, kx_aD G 8 qs), (m3, kx_aZ G 128 th), (m4, kx_aD G 128 fr), (m5, kx_aD G 128 to), (m6, kx_aZ G 16 fd), (m7, kx_aD G 64 sh), (m8, kx_aI G 6 ki), (m9, kx_aD G 6 li), (m10, kx_aI G 6 cl), (m11, kx_aD G 16 kx), (m12, kx_aD G 16 ky)] := hD
    refine lv_aload_n hx hb dX5_sweep_16 rfl (lv_at hl 0 rfl) ?_
    refine va_get (D := G.1) (ci := 6) (v := .int 0) (C := RX5) (T := TX5) (N := 19) hx hb hts hin_X5 hown hT.1 hP 0 rfl rfl 0 (by decide) hf_55 (fun _ h9 => h9) rfl dX5_sweep_17 ?_
    refine lv_if_le (x := 0) (tgt := 27) hx hb dX5_sweep_20 (by decide) (fun c_5 => ?_) (fun c_5 => ?_)
    · refine lv_aload_n hx hb dX5_sweep_27 rfl (lv_at hl 0 rfl) ?_
      refine vp_callSd (W.runV (As := []) (rest := []) ⟨hx, hb, hml, hown, hts⟩ (c_X5_sweepNow l G (m0 := m0) (m1 := m1) (m2 := m2) (m3 := m3) (m4 := m4) (m5 := m5) (m6 := m6) (m7 := m7) (m8 := m8) (m9 := m9) (m10 := m10) (m11 := m11) (m12 := m12) (n := n) (v := v) (tw := 0) (ps := ps) (qs := qs) (th := th) (fr := fr) (to := to) (kn := kn) (ft := ft) (fd := fd) (sh := sh) (ru := ru) (ki := ki) (li := li) (cl := cl) (kp := kp) (kx := kx) (ky := ky) (hb_ps := hb_ps) (hb_qs := hb_qs) (hb_fr := hb_fr) (hb_to := hb_to) (hb_sh := hb_sh) (hb_kx := hb_kx) (hb_ky := hb_ky) (hn1 := (by omega)) (hn := (by omega))) (cwV 0 hts gX5_sweep_X5_sweepNow rfl rfl rfl (by decide +kernel) ⟨Nat.le_of_ble_eq_true rfl, Nat.le_of_ble_eq_true rfl⟩) ⟨kx_PRb, va_recv hT.1 hP (ci := 6) (q0 := 0) rfl rfl, kx_pr hT hP [0, 1, 2, 3, 4, 5, 6, 7, 8, 9, 10, 11, 12] rfl⟩ rfl rfl hl.1 rfl (lv_room (Nat.le_of_ble_eq_true rfl)) dX5_sweep_28 ⟨Nat.zero_le _, Nat.zero_le _⟩) (fun r_6 hw_7 => ?_)
      subst hw_7
      have hcd : (kc_h (kx_hs kn ft)) = 0 := by
        unfold kc_h
        rw [if_neg c_3]
      exact W.dret (v := kx_swp (fun j => sh (4 * j)) (fun j => sh (4 * j + 1)) n) hx hb hr (fun t ht hW => ⟨⟨kx_swp (fun j => sh (4 * j)) (fun j => sh (4 * j + 1)) n, 0, rfl, ⟨hcd.symm, fun _ => rfl⟩, And.intro (by rw [ht]; exact hP) hD⟩, hS.F ht⟩) hS.2.2 dX5_sweep_31
    · exact absurd c_5 (by decide)
set_option maxHeartbeats 4000000 in
set_option maxRecDepth 100000 in
/-- rule -/
theorem c_X5_rule (l : Launch) (G : kx_G) (sz : Nat) (m0 : Nat) (m1 : Nat) (m2 : Nat) (m3 : Nat) (m4 : Nat) (m5 : Nat) (m6 : Nat) (m7 : Nat) (m8 : Nat) (m9 : Nat) (m10 : Nat) (m11 : Nat) (m12 : Nat) (n : Nat) (v : Nat) (tw : Int32) (ps : Nat → UInt64) (qs : Nat → UInt64) (th : Nat → Int32) (fr : Nat → UInt64) (to : Nat → UInt64) (kn : Int32) (ft : Nat) (fd : Nat → Int32) (sh : Nat → UInt64) (ru : Nat) (ki : Nat → Int32) (li : Nat → UInt64) (cl : Nat → Int32) (kp : Int32) (kx : Nat → UInt64) (ky : Nat → UInt64) (kd : Int32) (lm : UInt64) (cl9 : Int32) (hb_ps : ∀ j, fx_bd 5 (ps j)) (hb_qs : ∀ j, fx_bd 5 (qs j)) (hb_fr : ∀ j, fx_bd 11 (fr j)) (hb_to : ∀ j, fx_bd 11 (to j)) (hb_sh : ∀ j, fx_bd 220 (sh j)) (hb_kx : ∀ j, fx_bd 130 (kx j)) (hb_ky : ∀ j, fx_bd 130 (ky j)) (hn1 : 1 ≤ n) (hn : n ≤ 16) (hv1 : 1 ≤ v) (hv : v ≤ 8) (hft : ft ≤ 16) (hru : ru ≤ 6) : Met l yX5_rule wsX5_rule ({ frames := 0, cells := 0, slots := 0, locals := 0 } : Room) (kx_PM G [.ref m0, .int kd, .double lm, .int cl9] sz [(m0, .inr (6, [.int tw, .int (nI n), .int (nI v), .ref m1, .ref m2, .ref m3, .ref m4, .ref m5, .int kn, .int (nI ft), .ref m6, .ref m7, .int (nI ru), .ref m8, .ref m9, .ref m10, .int kp, .ref m11, .ref m12])), (m1, kx_aD G 8 ps), (m2, kx_aD G 8 qs), (m3, kx_aZ G 128 th), (m4, kx_aD G 128 fr), (m5, kx_aD G 128 to), (m6, kx_aZ G 16 fd), (m7, kx_aD G 64 sh), (m8, kx_aI G 6 ki), (m9, kx_aD G 6 li), (m10, kx_aI G 6 cl), (m11, kx_aD G 16 kx), (m12, kx_aD G 16 ky)]) (va_Qi (fun (r : Int32) (u : Int32 × (Nat → Int32) × (Nat → UInt64) × (Nat → Int32) × Nat) => u.1 = (kc_rul kd cl9 ru) ∧ (((kc_rul kd cl9 ru) = 0 ∧ r = nI (ru + 1) ∧ u.2 = (upd ki ru kd, vf_upd li ru lm, upd cl ru cl9, ru + 1)) ∨ ((kc_rul kd cl9 ru) ≠ 0 ∧ r = 0 ∧ u.2 = (ki, li, cl, ru)))) (kx_B G (va_A [(m0, .inr (6, [.int tw, .int (nI n), .int (nI v), .ref m1, .ref m2, .ref m3, .ref m4, .ref m5, .int kn, .int (nI ft), .ref m6, .ref m7, .int (nI ru), .ref m8, .ref m9, .ref m10, .int kp, .ref m11, .ref m12])), (m1, kx_aD G 8 ps), (m2, kx_aD G 8 qs), (m3, kx_aZ G 128 th), (m4, kx_aD G 128 fr), (m5, kx_aD G 128 to), (m6, kx_aZ G 16 fd), (m7, kx_aD G 64 sh), (m8, kx_aI G 6 ki), (m9, kx_aD G 6 li), (m10, kx_aI G 6 cl), (m11, kx_aD G 16 kx), (m12, kx_aD G 16 ky)] sz) (fun u : Int32 × (Nat → Int32) × (Nat → UInt64) × (Nat → Int32) × Nat => [(m0, .inr (6, [.int u.1, .int (nI n), .int (nI v), .ref m1, .ref m2, .ref m3, .ref m4, .ref m5, .int kn, .int (nI ft), .ref m6, .ref m7, .int (nI u.2.2.2.2), .ref m8, .ref m9, .ref m10, .int kp, .ref m11, .ref m12])), (m1, kx_aD G 8 ps), (m2, kx_aD G 8 qs), (m3, kx_aZ G 128 th), (m4, kx_aD G 128 fr), (m5, kx_aD G 128 to), (m6, kx_aZ G 16 fd), (m7, kx_aD G 64 sh), (m8, kx_aI G 6 u.2.1), (m9, kx_aD G 6 u.2.2.1), (m10, kx_aI G 6 u.2.2.2.1), (m11, kx_aD G 16 kx), (m12, kx_aD G 16 ky)])) (va_A [(m0, .inr (6, [.int tw, .int (nI n), .int (nI v), .ref m1, .ref m2, .ref m3, .ref m4, .ref m5, .int kn, .int (nI ft), .ref m6, .ref m7, .int (nI ru), .ref m8, .ref m9, .ref m10, .int kp, .ref m11, .ref m12])), (m1, kx_aD G 8 ps), (m2, kx_aD G 8 qs), (m3, kx_aZ G 128 th), (m4, kx_aD G 128 fr), (m5, kx_aD G 128 to), (m6, kx_aZ G 16 fd), (m7, kx_aD G 64 sh), (m8, kx_aI G 6 ki), (m9, kx_aD G 6 li), (m10, kx_aI G 6 cl), (m11, kx_aD G 16 kx), (m12, kx_aD G 16 ky)] sz)) 0 0 (va_A [(m0, .inr (6, [.int tw, .int (nI n), .int (nI v), .ref m1, .ref m2, .ref m3, .ref m4, .ref m5, .int kn, .int (nI ft), .ref m6, .ref m7, .int (nI ru), .ref m8, .ref m9, .ref m10, .int kp, .ref m11, .ref m12])), (m1, kx_aD G 8 ps), (m2, kx_aD G 8 qs), (m3, kx_aZ G 128 th), (m4, kx_aD G 128 fr), (m5, kx_aD G 128 to), (m6, kx_aZ G 16 fd), (m7, kx_aD G 64 sh), (m8, kx_aI G 6 ki), (m9, kx_aD G 6 li), (m10, kx_aI G 6 cl), (m11, kx_aD G 16 kx), (m12, kx_aD G 16 ky)] sz) := by
  refine Met.ofW (cc := cX5_rule) (maxL := 5) (ret := (some .int)) (by decide) rfl ?_
  intro p e s m args below meth c s₁ B hml hv
  obtain ⟨rfl, hsz, hP, hT, hD0⟩ := hv
  have hx := B.exec
  have hb := B.bytes
  have hr := B.returns
  have hts := atoms_spec (ws := wsX5_rule) B.pre
  have hown : s.vm.findClass RX5 = some m.cls := findClass_of_methodNamed B.named
  have hlocks := B.notSynchronized
  have hf_55 := hts (.fieldLink RX5 55 "StemShapesModel" "thrown" "I") (by decide +kernel)
  have hin_X5 : ∀ w ∈ wsX50, w ∈ wsX5_rule := by decide +kernel
  have hf_138 := hts (.fieldLink RX5 138 "StemShapesModel" "rules" "I") (by decide +kernel)
  have hf_32 := hts (.fieldLink RX5 32 "StemShapesModel" "kinds" "[I") (by decide +kernel)
  have hf_36 := hts (.fieldLink RX5 36 "StemShapesModel" "limits" "[D") (by decide +kernel)
  have hf_39 := hts (.fieldLink RX5 39 "StemShapesModel" "classes" "[I") (by decide +kernel)
  subst hsz
  have hD := hD0.self (sz := s.heap.size)
  generalize hAe : va_A [(m0, .inr (6, [.int tw, .int (nI n), .int (nI v), .ref m1, .ref m2, .ref m3, .ref m4, .ref m5, .int kn, .int (nI ft), .ref m6, .ref m7, .int (nI ru), .ref m8, .ref m9, .ref m10, .int kp, .ref m11, .ref m12])), (m1, kx_aD G 8 ps), (m2, kx_aD G 8 qs), (m3, kx_aZ G 128 th), (m4, kx_aD G 128 fr), (m5, kx_aD G 128 to), (m6, kx_aZ G 16 fd), (m7, kx_aD G 64 sh), (m8, kx_aI G 6 ki), (m9, kx_aD G 6 li), (m10, kx_aI G 6 cl), (m11, kx_aD G 16 kx), (m12, kx_aD G 16 ky)] s.heap.size = A at hD ⊢
  have hA : ∀ q : Nat, s.heap.size ≤ q → A q := fun q h => by rw [← hAe]; exact Or.inr h
  have hS : va_S A s.heap s.heap [] := va_S.rf
  have hl := lv_entry ([.ref m0, .int kd, .double lm, .int cl9]) (n := 5) (Nat.le_of_ble_eq_true rfl)
  rw [lg_entry_eq]
  generalize (lg_sl ([.ref m0, .int kd, .double lm, .int cl9]) ++ List.replicate (5 - (lg_sl ([.ref m0, .int kd, .double lm, .int cl9])).length) Slot.unset).toArray = ls at hl ⊢
  have hl : lv_has ls 5 [(0, .ref m0), (1, .int kd), (2, .double lm), (4, .int cl9)] := hl
  refine lv_aload_n hx hb dX5_rule_0 rfl (lv_at hl 0 rfl) ?_
  refine lv_iload_n hx hb dX5_rule_1 rfl (lv_at hl 1 rfl) ?_
  refine lv_if_lt (x := kd) (tgt := 22) hx hb dX5_rule_2 (by decide) (fun c_1 => ?_) (fun c_1 => ?_)
  · refine lv_iconst (v := 1) hx hb dX5_rule_22 (by decide) ?_
    refine lv_goto (tgt := 40) hx hb dX5_rule_23 (by decide) ?_
    refine va_put (D := G.1) (ci := 6) (v := .int 1) (ty := .int) (C := RX5) (T := TX5) (N := 19) hx hb hts hin_X5 tyX5 tyX5_ok nmX5 hown hT.1 hP hD hS 0 rfl rfl 0 (by decide) hf_55 (fun _ h9 => h9) rfl (by decide +kernel) rfl rfl (Nat.le_of_ble_eq_true rfl) dX5_rule_40 (fun H locs hP hD hS => ?_)
    have hP : va_P G.1 vwCl [(m0, .inr (6, [.int 1, .int (nI n), .int (nI v), .ref m1, .ref m2, .ref m3, .ref m4, .ref m5, .int kn, .int (nI ft), .ref m6, .ref m7, .int (nI ru), .ref m8, .ref m9, .ref m10, .int kp, .ref m11, .ref m12])), (m1, kx_aD G 8 ps), (m2, kx_aD G 8 qs), (m3, kx_aZ G 128 th), (m4, kx_aD G 128 fr), (m5, kx_aD G 128 to), (m6, kx_aZ G 16 fd), (m7, kx_aD G 64 sh), (m8, kx_aI G 6 ki), (m9, kx_aD G 6 li), (m10, kx_aI G 6 cl), (m11, kx_aD G 16 kx), (m12, kx_aD G 16 ky)] H := hP
    have hD : va_D A [(m0, .inr (6, [.int 1, .int (nI n), .int (nI v), .ref m1, .ref m2, .ref m3, .ref m4, .ref m5, .int kn, .int (nI ft), .ref m6, .ref m7, .int (nI ru), .ref m8, .ref m9, .ref m10, .int kp, .ref m11, .ref m12])), (m1, kx_aD G 8 ps), (m2, kx_aD G 8 qs), (m3, kx_aZ G 128 th), (m4, kx_aD G 128 fr), (m5, kx_aD G 128 to), (m6, kx_aZ G 16 fd), (m7, kx_aD G 64 sh), (m8, kx_aI G 6 ki), (m9, kx_aD G 6 li), (m10, kx_aI G 6 cl), (m11, kx_aD G 16 kx), (m12, kx_aD G 16 ky)] := hD
    refine lv_aload_n hx hb dX5_rule_43 rfl (lv_at hl 0 rfl) ?_
    refine va_get (D := G.1) (ci := 6) (v := .int 1) (C := RX5) (T := TX5) (N := 19) hx hb hts hin_X5 hown hT.1 hP 0 rfl rfl 0 (by decide) hf_55 (fun _ h9 => h9) rfl dX5_rule_44 ?_
    refine lv_if_le (x := 1) (tgt := 52) hx hb dX5_rule_47 (by decide) (fun c_2 => ?_) (fun c_2 => ?_)
    · exact absurd c_2 (by decide)
    · refine lv_iconst (v := 0) hx hb dX5_rule_50 (by decide) ?_
      have hcd : (kc_rul kd cl9 ru) = 1 := by
        unfold kc_rul
        rw [if_pos c_1]
      exact W.iret (v := 0) hx hb hr (fun t ht hW => ⟨⟨0, (1, ki, li, cl, ru), rfl, ⟨hcd.symm, Or.inr ⟨by rw [hcd]; decide, rfl, rfl⟩⟩, And.intro (by rw [ht]; exact hP) hD⟩, hS.F ht⟩) hS.2.2 dX5_rule_51
  · refine lv_iload_n hx hb dX5_rule_5 rfl (lv_at hl 1 rfl) ?_
    refine lv_iconst (v := 4) hx hb dX5_rule_6 (by decide) ?_
    refine lv_icmp_gt (x := kd) (y := 4) (tgt := 22) hx hb dX5_rule_7 (by decide) (fun c_3 => ?_) (fun c_3 => ?_)
    · refine lv_iconst (v := 1) hx hb dX5_rule_22 (by decide) ?_
      refine lv_goto (tgt := 40) hx hb dX5_rule_23 (by decide) ?_
      refine va_put (D := G.1) (ci := 6) (v := .int 1) (ty := .int) (C := RX5) (T := TX5) (N := 19) hx hb hts hin_X5 tyX5 tyX5_ok nmX5 hown hT.1 hP hD hS 0 rfl rfl 0 (by decide) hf_55 (fun _ h9 => h9) rfl (by decide +kernel) rfl rfl (Nat.le_of_ble_eq_true rfl) dX5_rule_40 (fun H locs hP hD hS => ?_)
      have hP : va_P G.1 vwCl [(m0, .inr (6, [.int 1, .int (nI n), .int (nI v), .ref m1, .ref m2, .ref m3, .ref m4, .ref m5, .int kn, .int (nI ft), .ref m6, .ref m7, .int (nI ru), .ref m8, .ref m9, .ref m10, .int kp, .ref m11, .ref m12])), (m1, kx_aD G 8 ps), (m2, kx_aD G 8 qs), (m3, kx_aZ G 128 th), (m4, kx_aD G 128 fr), (m5, kx_aD G 128 to), (m6, kx_aZ G 16 fd), (m7, kx_aD G 64 sh), (m8, kx_aI G 6 ki), (m9, kx_aD G 6 li), (m10, kx_aI G 6 cl), (m11, kx_aD G 16 kx), (m12, kx_aD G 16 ky)] H := hP
      have hD : va_D A [(m0, .inr (6, [.int 1, .int (nI n), .int (nI v), .ref m1, .ref m2, .ref m3, .ref m4, .ref m5, .int kn, .int (nI ft), .ref m6, .ref m7, .int (nI ru), .ref m8, .ref m9, .ref m10, .int kp, .ref m11, .ref m12])), (m1, kx_aD G 8 ps), (m2, kx_aD G 8 qs), (m3, kx_aZ G 128 th), (m4, kx_aD G 128 fr), (m5, kx_aD G 128 to), (m6, kx_aZ G 16 fd), (m7, kx_aD G 64 sh), (m8, kx_aI G 6 ki), (m9, kx_aD G 6 li), (m10, kx_aI G 6 cl), (m11, kx_aD G 16 kx), (m12, kx_aD G 16 ky)] := hD
      refine lv_aload_n hx hb dX5_rule_43 rfl (lv_at hl 0 rfl) ?_
      refine va_get (D := G.1) (ci := 6) (v := .int 1) (C := RX5) (T := TX5) (N := 19) hx hb hts hin_X5 hown hT.1 hP 0 rfl rfl 0 (by decide) hf_55 (fun _ h9 => h9) rfl dX5_rule_44 ?_
      refine lv_if_le (x := 1) (tgt := 52) hx hb dX5_rule_47 (by decide) (fun c_4 => ?_) (fun c_4 => ?_)
      · exact absurd c_4 (by decide)
      · refine lv_iconst (v := 0) hx hb dX5_rule_50 (by decide) ?_
        have hcd : (kc_rul kd cl9 ru) = 1 := by
          unfold kc_rul
          rw [if_neg c_1, if_pos c_3]
        exact W.iret (v := 0) hx hb hr (fun t ht hW => ⟨⟨0, (1, ki, li, cl, ru), rfl, ⟨hcd.symm, Or.inr ⟨by rw [hcd]; decide, rfl, rfl⟩⟩, And.intro (by rw [ht]; exact hP) hD⟩, hS.F ht⟩) hS.2.2 dX5_rule_51
    · refine lv_iload hx hb dX5_rule_10 (lv_at hl 3 rfl) ?_
      refine lv_if_lt (x := cl9) (tgt := 22) hx hb dX5_rule_12 (by decide) (fun c_5 => ?_) (fun c_5 => ?_)
      · refine lv_iconst (v := 1) hx hb dX5_rule_22 (by decide) ?_
        refine lv_goto (tgt := 40) hx hb dX5_rule_23 (by decide) ?_
        refine va_put (D := G.1) (ci := 6) (v := .int 1) (ty := .int) (C := RX5) (T := TX5) (N := 19) hx hb hts hin_X5 tyX5 tyX5_ok nmX5 hown hT.1 hP hD hS 0 rfl rfl 0 (by decide) hf_55 (fun _ h9 => h9) rfl (by decide +kernel) rfl rfl (Nat.le_of_ble_eq_true rfl) dX5_rule_40 (fun H locs hP hD hS => ?_)
        have hP : va_P G.1 vwCl [(m0, .inr (6, [.int 1, .int (nI n), .int (nI v), .ref m1, .ref m2, .ref m3, .ref m4, .ref m5, .int kn, .int (nI ft), .ref m6, .ref m7, .int (nI ru), .ref m8, .ref m9, .ref m10, .int kp, .ref m11, .ref m12])), (m1, kx_aD G 8 ps), (m2, kx_aD G 8 qs), (m3, kx_aZ G 128 th), (m4, kx_aD G 128 fr), (m5, kx_aD G 128 to), (m6, kx_aZ G 16 fd), (m7, kx_aD G 64 sh), (m8, kx_aI G 6 ki), (m9, kx_aD G 6 li), (m10, kx_aI G 6 cl), (m11, kx_aD G 16 kx), (m12, kx_aD G 16 ky)] H := hP
        have hD : va_D A [(m0, .inr (6, [.int 1, .int (nI n), .int (nI v), .ref m1, .ref m2, .ref m3, .ref m4, .ref m5, .int kn, .int (nI ft), .ref m6, .ref m7, .int (nI ru), .ref m8, .ref m9, .ref m10, .int kp, .ref m11, .ref m12])), (m1, kx_aD G 8 ps), (m2, kx_aD G 8 qs), (m3, kx_aZ G 128 th), (m4, kx_aD G 128 fr), (m5, kx_aD G 128 to), (m6, kx_aZ G 16 fd), (m7, kx_aD G 64 sh), (m8, kx_aI G 6 ki), (m9, kx_aD G 6 li), (m10, kx_aI G 6 cl), (m11, kx_aD G 16 kx), (m12, kx_aD G 16 ky)] := hD
        refine lv_aload_n hx hb dX5_rule_43 rfl (lv_at hl 0 rfl) ?_
        refine va_get (D := G.1) (ci := 6) (v := .int 1) (C := RX5) (T := TX5) (N := 19) hx hb hts hin_X5 hown hT.1 hP 0 rfl rfl 0 (by decide) hf_55 (fun _ h9 => h9) rfl dX5_rule_44 ?_
        refine lv_if_le (x := 1) (tgt := 52) hx hb dX5_rule_47 (by decide) (fun c_6 => ?_) (fun c_6 => ?_)
        · exact absurd c_6 (by decide)
        · refine lv_iconst (v := 0) hx hb dX5_rule_50 (by decide) ?_
          have hcd : (kc_rul kd cl9 ru) = 1 := by
            unfold kc_rul
            rw [if_neg c_1, if_neg c_3, if_pos c_5]
          exact W.iret (v := 0) hx hb hr (fun t ht hW => ⟨⟨0, (1, ki, li, cl, ru), rfl, ⟨hcd.symm, Or.inr ⟨by rw [hcd]; decide, rfl, rfl⟩⟩, And.intro (by rw [ht]; exact hP) hD⟩, hS.F ht⟩) hS.2.2 dX5_rule_51
      · refine lv_iload hx hb dX5_rule_15 (lv_at hl 3 rfl) ?_
        refine lv_bipush (v := 100) hx hb dX5_rule_17 (by decide) ?_
        refine lv_icmp_le (x := cl9) (y := 100) (tgt := 26) hx hb dX5_rule_19 (by decide) (fun c_7 => ?_) (fun c_7 => ?_)
        · refine lv_aload_n hx hb dX5_rule_26 rfl (lv_at hl 0 rfl) ?_
          refine va_get (D := G.1) (ci := 6) (v := .int (nI ru)) (C := RX5) (T := TX5) (N := 19) hx hb hts hin_X5 hown hT.1 hP 0 rfl rfl 12 (by decide) hf_138 (fun _ h9 => h9) rfl dX5_rule_27 ?_
          refine lv_bipush (v := 6) hx hb dX5_rule_30 (by decide) ?_
          refine lv_icmp_ne (x := nI ru) (y := 6) (tgt := 39) hx hb dX5_rule_32 (by decide) (fun c_8 => ?_) (fun c_8 => ?_)
          · have c_8 : ¬ ru = 6 := fun q => c_8 ((nI_eq (a := ru) (b := 6) (by omega) (by omega)).mpr q)
            refine lv_iconst (v := 0) hx hb dX5_rule_39 (by decide) ?_
            refine va_put (D := G.1) (ci := 6) (v := .int 0) (ty := .int) (C := RX5) (T := TX5) (N := 19) hx hb hts hin_X5 tyX5 tyX5_ok nmX5 hown hT.1 hP hD hS 0 rfl rfl 0 (by decide) hf_55 (fun _ h9 => h9) rfl (by decide +kernel) rfl rfl (Nat.le_of_ble_eq_true rfl) dX5_rule_40 (fun H locs hP hD hS => ?_)
            have hP : va_P G.1 vwCl [(m0, .inr (6, [.int 0, .int (nI n), .int (nI v), .ref m1, .ref m2, .ref m3, .ref m4, .ref m5, .int kn, .int (nI ft), .ref m6, .ref m7, .int (nI ru), .ref m8, .ref m9, .ref m10, .int kp, .ref m11, .ref m12])), (m1, kx_aD G 8 ps), (m2, kx_aD G 8 qs), (m3, kx_aZ G 128 th), (m4, kx_aD G 128 fr), (m5, kx_aD G 128 to), (m6, kx_aZ G 16 fd), (m7, kx_aD G 64 sh), (m8, kx_aI G 6 ki), (m9, kx_aD G 6 li), (m10, kx_aI G 6 cl), (m11, kx_aD G 16 kx), (m12, kx_aD G 16 ky)] H := hP
            have hD : va_D A [(m0, .inr (6, [.int 0, .int (nI n), .int (nI v), .ref m1, .ref m2, .ref m3, .ref m4, .ref m5, .int kn, .int (nI ft), .ref m6, .ref m7, .int (nI ru), .ref m8, .ref m9, .ref m10, .int kp, .ref m11, .ref m12])), (m1, kx_aD G 8 ps), (m2, kx_aD G 8 qs), (m3, kx_aZ G 128 th), (m4, kx_aD G 128 fr), (m5, kx_aD G 128 to), (m6, kx_aZ G 16 fd), (m7, kx_aD G 64 sh), (m8, kx_aI G 6 ki), (m9, kx_aD G 6 li), (m10, kx_aI G 6 cl), (m11, kx_aD G 16 kx), (m12, kx_aD G 16 ky)] := hD
            refine lv_aload_n hx hb dX5_rule_43 rfl (lv_at hl 0 rfl) ?_
            refine va_get (D := G.1) (ci := 6) (v := .int 0) (C := RX5) (T := TX5) (N := 19) hx hb hts hin_X5 hown hT.1 hP 0 rfl rfl 0 (by decide) hf_55 (fun _ h9 => h9) rfl dX5_rule_44 ?_
            refine lv_if_le (x := 0) (tgt := 52) hx hb dX5_rule_47 (by decide) (fun c_9 => ?_) (fun c_9 => ?_)
            · refine lv_aload_n hx hb dX5_rule_52 rfl (lv_at hl 0 rfl) ?_
              refine va_get (D := G.1) (ci := 6) (v := .ref m8) (C := RX5) (T := TX5) (N := 19) hx hb hts hin_X5 hown hT.1 hP 0 rfl rfl 13 (by decide) hf_32 (fun _ h9 => h9) rfl dX5_rule_53 ?_
              refine lv_aload_n hx hb dX5_rule_56 rfl (lv_at hl 0 rfl) ?_
              refine va_get (D := G.1) (ci := 6) (v := .int (nI ru)) (C := RX5) (T := TX5) (N := 19) hx hb hts hin_X5 hown hT.1 hP 0 rfl rfl 12 (by decide) hf_138 (fun _ h9 => h9) rfl dX5_rule_57 ?_
              refine lv_iload_n hx hb dX5_rule_60 rfl (lv_at hl 1 rfl) ?_
              refine kx_iast hx hb hT hP hD hS 8 rfl ru (by omega) (by omega) dX5_rule_61 (fun H locs hP hD hS => ?_)
              have hP : va_P G.1 vwCl [(m0, .inr (6, [.int 0, .int (nI n), .int (nI v), .ref m1, .ref m2, .ref m3, .ref m4, .ref m5, .int kn, .int (nI ft), .ref m6, .ref m7, .int (nI ru), .ref m8, .ref m9, .ref m10, .int kp, .ref m11, .ref m12])), (m1, kx_aD G 8 ps), (m2, kx_aD G 8 qs), (m3, kx_aZ G 128 th), (m4, kx_aD G 128 fr), (m5, kx_aD G 128 to), (m6, kx_aZ G 16 fd), (m7, kx_aD G 64 sh), (m8, kx_aI G 6 (upd ki ru kd)), (m9, kx_aD G 6 li), (m10, kx_aI G 6 cl), (m11, kx_aD G 16 kx), (m12, kx_aD G 16 ky)] H := hP
              have hD : va_D A [(m0, .inr (6, [.int 0, .int (nI n), .int (nI v), .ref m1, .ref m2, .ref m3, .ref m4, .ref m5, .int kn, .int (nI ft), .ref m6, .ref m7, .int (nI ru), .ref m8, .ref m9, .ref m10, .int kp, .ref m11, .ref m12])), (m1, kx_aD G 8 ps), (m2, kx_aD G 8 qs), (m3, kx_aZ G 128 th), (m4, kx_aD G 128 fr), (m5, kx_aD G 128 to), (m6, kx_aZ G 16 fd), (m7, kx_aD G 64 sh), (m8, kx_aI G 6 (upd ki ru kd)), (m9, kx_aD G 6 li), (m10, kx_aI G 6 cl), (m11, kx_aD G 16 kx), (m12, kx_aD G 16 ky)] := hD
              refine lv_aload_n hx hb dX5_rule_62 rfl (lv_at hl 0 rfl) ?_
              refine va_get (D := G.1) (ci := 6) (v := .ref m9) (C := RX5) (T := TX5) (N := 19) hx hb hts hin_X5 hown hT.1 hP 0 rfl rfl 14 (by decide) hf_36 (fun _ h9 => h9) rfl dX5_rule_63 ?_
              refine lv_aload_n hx hb dX5_rule_66 rfl (lv_at hl 0 rfl) ?_
              refine va_get (D := G.1) (ci := 6) (v := .int (nI ru)) (C := RX5) (T := TX5) (N := 19) hx hb hts hin_X5 hown hT.1 hP 0 rfl rfl 12 (by decide) hf_138 (fun _ h9 => h9) rfl dX5_rule_67 ?_
              refine lv_dload_n hx hb dX5_rule_70 rfl (lv_at hl 2 rfl) ?_
              refine kx_dast hx hb hT hP hD hS 9 rfl ru (by omega) (by omega) dX5_rule_71 (fun H locs hP hD hS => ?_)
              have hP : va_P G.1 vwCl [(m0, .inr (6, [.int 0, .int (nI n), .int (nI v), .ref m1, .ref m2, .ref m3, .ref m4, .ref m5, .int kn, .int (nI ft), .ref m6, .ref m7, .int (nI ru), .ref m8, .ref m9, .ref m10, .int kp, .ref m11, .ref m12])), (m1, kx_aD G 8 ps), (m2, kx_aD G 8 qs), (m3, kx_aZ G 128 th), (m4, kx_aD G 128 fr), (m5, kx_aD G 128 to), (m6, kx_aZ G 16 fd), (m7, kx_aD G 64 sh), (m8, kx_aI G 6 (upd ki ru kd)), (m9, kx_aD G 6 (vf_upd li ru lm)), (m10, kx_aI G 6 cl), (m11, kx_aD G 16 kx), (m12, kx_aD G 16 ky)] H := hP
              have hD : va_D A [(m0, .inr (6, [.int 0, .int (nI n), .int (nI v), .ref m1, .ref m2, .ref m3, .ref m4, .ref m5, .int kn, .int (nI ft), .ref m6, .ref m7, .int (nI ru), .ref m8, .ref m9, .ref m10, .int kp, .ref m11, .ref m12])), (m1, kx_aD G 8 ps), (m2, kx_aD G 8 qs), (m3, kx_aZ G 128 th), (m4, kx_aD G 128 fr), (m5, kx_aD G 128 to), (m6, kx_aZ G 16 fd), (m7, kx_aD G 64 sh), (m8, kx_aI G 6 (upd ki ru kd)), (m9, kx_aD G 6 (vf_upd li ru lm)), (m10, kx_aI G 6 cl), (m11, kx_aD G 16 kx), (m12, kx_aD G 16 ky)] := hD
              refine lv_aload_n hx hb dX5_rule_72 rfl (lv_at hl 0 rfl) ?_
              refine va_get (D := G.1) (ci := 6) (v := .ref m10) (C := RX5) (T := TX5) (N := 19) hx hb hts hin_X5 hown hT.1 hP 0 rfl rfl 15 (by decide) hf_39 (fun _ h9 => h9) rfl dX5_rule_73 ?_
              refine lv_aload_n hx hb dX5_rule_76 rfl (lv_at hl 0 rfl) ?_
              refine va_get (D := G.1) (ci := 6) (v := .int (nI ru)) (C := RX5) (T := TX5) (N := 19) hx hb hts hin_X5 hown hT.1 hP 0 rfl rfl 12 (by decide) hf_138 (fun _ h9 => h9) rfl dX5_rule_77 ?_
              refine lv_iload hx hb dX5_rule_80 (lv_at hl 3 rfl) ?_
              refine kx_iast hx hb hT hP hD hS 10 rfl ru (by omega) (by omega) dX5_rule_82 (fun H locs hP hD hS => ?_)
              have hP : va_P G.1 vwCl [(m0, .inr (6, [.int 0, .int (nI n), .int (nI v), .ref m1, .ref m2, .ref m3, .ref m4, .ref m5, .int kn, .int (nI ft), .ref m6, .ref m7, .int (nI ru), .ref m8, .ref m9, .ref m10, .int kp, .ref m11, .ref m12])), (m1, kx_aD G 8 ps), (m2, kx_aD G 8 qs), (m3, kx_aZ G 128 th), (m4, kx_aD G 128 fr), (m5, kx_aD G 128 to), (m6, kx_aZ G 16 fd), (m7, kx_aD G 64 sh), (m8, kx_aI G 6 (upd ki ru kd)), (m9, kx_aD G 6 (vf_upd li ru lm)), (m10, kx_aI G 6 (upd cl ru cl9)), (m11, kx_aD G 16 kx), (m12, kx_aD G 16 ky)] H := hP
              have hD : va_D A [(m0, .inr (6, [.int 0, .int (nI n), .int (nI v), .ref m1, .ref m2, .ref m3, .ref m4, .ref m5, .int kn, .int (nI ft), .ref m6, .ref m7, .int (nI ru), .ref m8, .ref m9, .ref m10, .int kp, .ref m11, .ref m12])), (m1, kx_aD G 8 ps), (m2, kx_aD G 8 qs), (m3, kx_aZ G 128 th), (m4, kx_aD G 128 fr), (m5, kx_aD G 128 to), (m6, kx_aZ G 16 fd), (m7, kx_aD G 64 sh), (m8, kx_aI G 6 (upd ki ru kd)), (m9, kx_aD G 6 (vf_upd li ru lm)), (m10, kx_aI G 6 (upd cl ru cl9)), (m11, kx_aD G 16 kx), (m12, kx_aD G 16 ky)] := hD
              refine lv_aload_n hx hb dX5_rule_83 rfl (lv_at hl 0 rfl) ?_
              refine lv_dup hx hb dX5_rule_84 rfl ?_
              refine va_get (D := G.1) (ci := 6) (v := .int (nI ru)) (C := RX5) (T := TX5) (N := 19) hx hb hts hin_X5 hown hT.1 hP 0 rfl rfl 12 (by decide) hf_138 (fun _ h9 => h9) rfl dX5_rule_85 ?_
              refine lv_iconst (v := 1) hx hb dX5_rule_88 (by decide) ?_
              refine lv_iadd hx hb dX5_rule_89 ?_
              refine kx_ei (y := nI (ru + 1)) (nI_add ru 1) ?_
              refine va_put (D := G.1) (ci := 6) (v := .int (nI (ru + 1))) (ty := .int) (C := RX5) (T := TX5) (N := 19) hx hb hts hin_X5 tyX5 tyX5_ok nmX5 hown hT.1 hP hD hS 0 rfl rfl 12 (by decide) hf_138 (fun _ h9 => h9) rfl (by decide +kernel) rfl rfl (Nat.le_of_ble_eq_true rfl) dX5_rule_90 (fun H locs hP hD hS => ?_)
              have hP : va_P G.1 vwCl [(m0, .inr (6, [.int 0, .int (nI n), .int (nI v), .ref m1, .ref m2, .ref m3, .ref m4, .ref m5, .int kn, .int (nI ft), .ref m6, .ref m7, .int (nI (ru + 1)), .ref m8, .ref m9, .ref m10, .int kp, .ref m11, .ref m12])), (m1, kx_aD G 8 ps), (m2, kx_aD G 8 qs), (m3, kx_aZ G 128 th), (m4, kx_aD G 128 fr), (m5, kx_aD G 128 to), (m6, kx_aZ G 16 fd), (m7, kx_aD G 64 sh), (m8, kx_aI G 6 (upd ki ru kd)), (m9, kx_aD G 6 (vf_upd li ru lm)), (m10, kx_aI G 6 (upd cl ru cl9)), (m11, kx_aD G 16 kx), (m12, kx_aD G 16 ky)] H := hP
              have hD : va_D A [(m0, .inr (6, [.int 0, .int (nI n), .int (nI v), .ref m1, .ref m2, .ref m3, .ref m4, .ref m5, .int kn, .int (nI ft), .ref m6, .ref m7, .int (nI (ru + 1)), .ref m8, .ref m9, .ref m10, .int kp, .ref m11, .ref m12])), (m1, kx_aD G 8 ps), (m2, kx_aD G 8 qs), (m3, kx_aZ G 128 th), (m4, kx_aD G 128 fr), (m5, kx_aD G 128 to), (m6, kx_aZ G 16 fd), (m7, kx_aD G 64 sh), (m8, kx_aI G 6 (upd ki ru kd)), (m9, kx_aD G 6 (vf_upd li ru lm)), (m10, kx_aI G 6 (upd cl ru cl9)), (m11, kx_aD G 16 kx), (m12, kx_aD G 16 ky)] := hD
              refine lv_aload_n hx hb dX5_rule_93 rfl (lv_at hl 0 rfl) ?_
              refine va_get (D := G.1) (ci := 6) (v := .int (nI (ru + 1))) (C := RX5) (T := TX5) (N := 19) hx hb hts hin_X5 hown hT.1 hP 0 rfl rfl 12 (by decide) hf_138 (fun _ h9 => h9) rfl dX5_rule_94 ?_
              have hcd : (kc_rul kd cl9 ru) = 0 := by
                unfold kc_rul
                rw [if_neg c_1, if_neg c_3, if_neg c_5, if_pos c_7, if_pos c_8]
              exact W.iret (v := nI (ru + 1)) hx hb hr (fun t ht hW => ⟨⟨nI (ru + 1), (0, upd ki ru kd, vf_upd li ru lm, upd cl ru cl9, ru + 1), rfl, ⟨hcd.symm, Or.inl ⟨hcd, rfl, rfl⟩⟩, And.intro (by rw [ht]; exact hP) hD⟩, hS.F ht⟩) hS.2.2 dX5_rule_97
            · exact absurd c_9 (by decide)
          · have c_8 : ru = 6 := (nI_eq (a := ru) (b := 6) (by omega) (by omega)).mp c_8
            refine lv_iconst (v := 2) hx hb dX5_rule_35 (by decide) ?_
            refine lv_goto (tgt := 40) hx hb dX5_rule_36 (by decide) ?_
            refine va_put (D := G.1) (ci := 6) (v := .int 2) (ty := .int) (C := RX5) (T := TX5) (N := 19) hx hb hts hin_X5 tyX5 tyX5_ok nmX5 hown hT.1 hP hD hS 0 rfl rfl 0 (by decide) hf_55 (fun _ h9 => h9) rfl (by decide +kernel) rfl rfl (Nat.le_of_ble_eq_true rfl) dX5_rule_40 (fun H locs hP hD hS => ?_)
            have hP : va_P G.1 vwCl [(m0, .inr (6, [.int 2, .int (nI n), .int (nI v), .ref m1, .ref m2, .ref m3, .ref m4, .ref m5, .int kn, .int (nI ft), .ref m6, .ref m7, .int (nI ru), .ref m8, .ref m9, .ref m10, .int kp, .ref m11, .ref m12])), (m1, kx_aD G 8 ps), (m2, kx_aD G 8 qs), (m3, kx_aZ G 128 th), (m4, kx_aD G 128 fr), (m5, kx_aD G 128 to), (m6, kx_aZ G 16 fd), (m7, kx_aD G 64 sh), (m8, kx_aI G 6 ki), (m9, kx_aD G 6 li), (m10, kx_aI G 6 cl), (m11, kx_aD G 16 kx), (m12, kx_aD G 16 ky)] H := hP
            have hD : va_D A [(m0, .inr (6, [.int 2, .int (nI n), .int (nI v), .ref m1, .ref m2, .ref m3, .ref m4, .ref m5, .int kn, .int (nI ft), .ref m6, .ref m7, .int (nI ru), .ref m8, .ref m9, .ref m10, .int kp, .ref m11, .ref m12])), (m1, kx_aD G 8 ps), (m2, kx_aD G 8 qs), (m3, kx_aZ G 128 th), (m4, kx_aD G 128 fr), (m5, kx_aD G 128 to), (m6, kx_aZ G 16 fd), (m7, kx_aD G 64 sh), (m8, kx_aI G 6 ki), (m9, kx_aD G 6 li), (m10, kx_aI G 6 cl), (m11, kx_aD G 16 kx), (m12, kx_aD G 16 ky)] := hD
            refine lv_aload_n hx hb dX5_rule_43 rfl (lv_at hl 0 rfl) ?_
            refine va_get (D := G.1) (ci := 6) (v := .int 2) (C := RX5) (T := TX5) (N := 19) hx hb hts hin_X5 hown hT.1 hP 0 rfl rfl 0 (by decide) hf_55 (fun _ h9 => h9) rfl dX5_rule_44 ?_
            refine lv_if_le (x := 2) (tgt := 52) hx hb dX5_rule_47 (by decide) (fun c_10 => ?_) (fun c_10 => ?_)
            · exact absurd c_10 (by decide)
            · refine lv_iconst (v := 0) hx hb dX5_rule_50 (by decide) ?_
              have hcd : (kc_rul kd cl9 ru) = 2 := by
                unfold kc_rul
                rw [if_neg c_1, if_neg c_3, if_neg c_5, if_pos c_7, if_neg (fun q => q c_8)]
              exact W.iret (v := 0) hx hb hr (fun t ht hW => ⟨⟨0, (2, ki, li, cl, ru), rfl, ⟨hcd.symm, Or.inr ⟨by rw [hcd]; decide, rfl, rfl⟩⟩, And.intro (by rw [ht]; exact hP) hD⟩, hS.F ht⟩) hS.2.2 dX5_rule_51
        · refine lv_iconst (v := 1) hx hb dX5_rule_22 (by decide) ?_
          refine lv_goto (tgt := 40) hx hb dX5_rule_23 (by decide) ?_
          refine va_put (D := G.1) (ci := 6) (v := .int 1) (ty := .int) (C := RX5) (T := TX5) (N := 19) hx hb hts hin_X5 tyX5 tyX5_ok nmX5 hown hT.1 hP hD hS 0 rfl rfl 0 (by decide) hf_55 (fun _ h9 => h9) rfl (by decide +kernel) rfl rfl (Nat.le_of_ble_eq_true rfl) dX5_rule_40 (fun H locs hP hD hS => ?_)
          have hP : va_P G.1 vwCl [(m0, .inr (6, [.int 1, .int (nI n), .int (nI v), .ref m1, .ref m2, .ref m3, .ref m4, .ref m5, .int kn, .int (nI ft), .ref m6, .ref m7, .int (nI ru), .ref m8, .ref m9, .ref m10, .int kp, .ref m11, .ref m12])), (m1, kx_aD G 8 ps), (m2, kx_aD G 8 qs), (m3, kx_aZ G 128 th), (m4, kx_aD G 128 fr), (m5, kx_aD G 128 to), (m6, kx_aZ G 16 fd), (m7, kx_aD G 64 sh), (m8, kx_aI G 6 ki), (m9, kx_aD G 6 li), (m10, kx_aI G 6 cl), (m11, kx_aD G 16 kx), (m12, kx_aD G 16 ky)] H := hP
          have hD : va_D A [(m0, .inr (6, [.int 1, .int (nI n), .int (nI v), .ref m1, .ref m2, .ref m3, .ref m4, .ref m5, .int kn, .int (nI ft), .ref m6, .ref m7, .int (nI ru), .ref m8, .ref m9, .ref m10, .int kp, .ref m11, .ref m12])), (m1, kx_aD G 8 ps), (m2, kx_aD G 8 qs), (m3, kx_aZ G 128 th), (m4, kx_aD G 128 fr), (m5, kx_aD G 128 to), (m6, kx_aZ G 16 fd), (m7, kx_aD G 64 sh), (m8, kx_aI G 6 ki), (m9, kx_aD G 6 li), (m10, kx_aI G 6 cl), (m11, kx_aD G 16 kx), (m12, kx_aD G 16 ky)] := hD
          refine lv_aload_n hx hb dX5_rule_43 rfl (lv_at hl 0 rfl) ?_
          refine va_get (D := G.1) (ci := 6) (v := .int 1) (C := RX5) (T := TX5) (N := 19) hx hb hts hin_X5 hown hT.1 hP 0 rfl rfl 0 (by decide) hf_55 (fun _ h9 => h9) rfl dX5_rule_44 ?_
          refine lv_if_le (x := 1) (tgt := 52) hx hb dX5_rule_47 (by decide) (fun c_11 => ?_) (fun c_11 => ?_)
          · exact absurd c_11 (by decide)
          · refine lv_iconst (v := 0) hx hb dX5_rule_50 (by decide) ?_
            have hcd : (kc_rul kd cl9 ru) = 1 := by
              unfold kc_rul
              rw [if_neg c_1, if_neg c_3, if_neg c_5, if_neg c_7]
            exact W.iret (v := 0) hx hb hr (fun t ht hW => ⟨⟨0, (1, ki, li, cl, ru), rfl, ⟨hcd.symm, Or.inr ⟨by rw [hcd]; decide, rfl, rfl⟩⟩, And.intro (by rw [ht]; exact hP) hD⟩, hS.F ht⟩) hS.2.2 dX5_rule_51
set_option maxHeartbeats 4000000 in
set_option maxRecDepth 100000 in
/-- cls -/
theorem c_X5_cls (l : Launch) (G : kx_G) (sz : Nat) (m0 : Nat) (m1 : Nat) (m2 : Nat) (m3 : Nat) (m4 : Nat) (m5 : Nat) (m6 : Nat) (m7 : Nat) (m8 : Nat) (m9 : Nat) (m10 : Nat) (m11 : Nat) (m12 : Nat) (n : Nat) (v : Nat) (tw : Int32) (ps : Nat → UInt64) (qs : Nat → UInt64) (th : Nat → Int32) (fr : Nat → UInt64) (to : Nat → UInt64) (kn : Int32) (ft : Nat) (fd : Nat → Int32) (sh : Nat → UInt64) (ru : Nat) (ki : Nat → Int32) (li : Nat → UInt64) (cl : Nat → Int32) (kp : Int32) (kx : Nat → UInt64) (ky : Nat → UInt64) (hb_ps : ∀ j, fx_bd 5 (ps j)) (hb_qs : ∀ j, fx_bd 5 (qs j)) (hb_fr : ∀ j, fx_bd 11 (fr j)) (hb_to : ∀ j, fx_bd 11 (to j)) (hb_sh : ∀ j, fx_bd 220 (sh j)) (hb_kx : ∀ j, fx_bd 130 (kx j)) (hb_ky : ∀ j, fx_bd 130 (ky j)) (hn1 : 1 ≤ n) (hn : n ≤ 16) (hv1 : 1 ≤ v) (hv : v ≤ 8) (hft : ft ≤ 16) (hru : ru ≤ 6) (hfn : ft ≤ n) : Met l yX5_cls wsX5_cls ({ frames := 3, cells := 0, slots := 0, locals := 75 } : Room) (kx_PM G [.ref m0] sz [(m0, .inr (6, [.int tw, .int (nI n), .int (nI v), .ref m1, .ref m2, .ref m3, .ref m4, .ref m5, .int kn, .int (nI ft), .ref m6, .ref m7, .int (nI ru), .ref m8, .ref m9, .ref m10, .int kp, .ref m11, .ref m12])), (m1, kx_aD G 8 ps), (m2, kx_aD G 8 qs), (m3, kx_aZ G 128 th), (m4, kx_aD G 128 fr), (m5, kx_aD G 128 to), (m6, kx_aZ G 16 fd), (m7, kx_aD G 64 sh), (m8, kx_aI G 6 ki), (m9, kx_aD G 6 li), (m10, kx_aI G 6 cl), (m11, kx_aD G 16 kx), (m12, kx_aD G 16 ky)]) (va_Qi (fun (r : Int32) (u : Int32) => u = (kc_h (kx_hs kn ft)) ∧ ((kc_h (kx_hs kn ft)) = 0 → r = kx_cl (fun j => kx_hd (fun j => sh (4 * j)) (fun j => sh (4 * j + 1)) (fun j => sh (4 * j + 2)) n (nI (n - ft)) (ki j) (li j)) cl ru ru)) (kx_B G (va_A [(m0, .inr (6, [.int tw, .int (nI n), .int (nI v), .ref m1, .ref m2, .ref m3, .ref m4, .ref m5, .int kn, .int (nI ft), .ref m6, .ref m7, .int (nI ru), .ref m8, .ref m9, .ref m10, .int kp, .ref m11, .ref m12])), (m1, kx_aD G 8 ps), (m2, kx_aD G 8 qs), (m3, kx_aZ G 128 th), (m4, kx_aD G 128 fr), (m5, kx_aD G 128 to), (m6, kx_aZ G 16 fd), (m7, kx_aD G 64 sh), (m8, kx_aI G 6 ki), (m9, kx_aD G 6 li), (m10, kx_aI G 6 cl), (m11, kx_aD G 16 kx), (m12, kx_aD G 16 ky)] sz) (fun u : Int32 => [(m0, .inr (6, [.int u, .int (nI n), .int (nI v), .ref m1, .ref m2, .ref m3, .ref m4, .ref m5, .int kn, .int (nI ft), .ref m6, .ref m7, .int (nI ru), .ref m8, .ref m9, .ref m10, .int kp, .ref m11, .ref m12])), (m1, kx_aD G 8 ps), (m2, kx_aD G 8 qs), (m3, kx_aZ G 128 th), (m4, kx_aD G 128 fr), (m5, kx_aD G 128 to), (m6, kx_aZ G 16 fd), (m7, kx_aD G 64 sh), (m8, kx_aI G 6 ki), (m9, kx_aD G 6 li), (m10, kx_aI G 6 cl), (m11, kx_aD G 16 kx), (m12, kx_aD G 16 ky)])) (va_A [(m0, .inr (6, [.int tw, .int (nI n), .int (nI v), .ref m1, .ref m2, .ref m3, .ref m4, .ref m5, .int kn, .int (nI ft), .ref m6, .ref m7, .int (nI ru), .ref m8, .ref m9, .ref m10, .int kp, .ref m11, .ref m12])), (m1, kx_aD G 8 ps), (m2, kx_aD G 8 qs), (m3, kx_aZ G 128 th), (m4, kx_aD G 128 fr), (m5, kx_aD G 128 to), (m6, kx_aZ G 16 fd), (m7, kx_aD G 64 sh), (m8, kx_aI G 6 ki), (m9, kx_aD G 6 li), (m10, kx_aI G 6 cl), (m11, kx_aD G 16 kx), (m12, kx_aD G 16 ky)] sz)) 0 0 (va_A [(m0, .inr (6, [.int tw, .int (nI n), .int (nI v), .ref m1, .ref m2, .ref m3, .ref m4, .ref m5, .int kn, .int (nI ft), .ref m6, .ref m7, .int (nI ru), .ref m8, .ref m9, .ref m10, .int kp, .ref m11, .ref m12])), (m1, kx_aD G 8 ps), (m2, kx_aD G 8 qs), (m3, kx_aZ G 128 th), (m4, kx_aD G 128 fr), (m5, kx_aD G 128 to), (m6, kx_aZ G 16 fd), (m7, kx_aD G 64 sh), (m8, kx_aI G 6 ki), (m9, kx_aD G 6 li), (m10, kx_aI G 6 cl), (m11, kx_aD G 16 kx), (m12, kx_aD G 16 ky)] sz) := by
  refine Met.ofW (cc := cX5_cls) (maxL := 2) (ret := (some .int)) (by decide) rfl ?_
  intro p e s m args below meth c s₁ B hml hv
  obtain ⟨rfl, hsz, hP, hT, hD0⟩ := hv
  have hx := B.exec
  have hb := B.bytes
  have hr := B.returns
  have hts := atoms_spec (ws := wsX5_cls) B.pre
  have hown : s.vm.findClass RX5 = some m.cls := findClass_of_methodNamed B.named
  have hlocks := B.notSynchronized
  have hf_55 := hts (.fieldLink RX5 55 "StemShapesModel" "thrown" "I") (by decide +kernel)
  have hin_X5 : ∀ w ∈ wsX50, w ∈ wsX5_cls := by decide +kernel
  have hf_138 := hts (.fieldLink RX5 138 "StemShapesModel" "rules" "I") (by decide +kernel)
  have hf_39 := hts (.fieldLink RX5 39 "StemShapesModel" "classes" "[I") (by decide +kernel)
  subst hsz
  have hD := hD0.self (sz := s.heap.size)
  generalize hAe : va_A [(m0, .inr (6, [.int tw, .int (nI n), .int (nI v), .ref m1, .ref m2, .ref m3, .ref m4, .ref m5, .int kn, .int (nI ft), .ref m6, .ref m7, .int (nI ru), .ref m8, .ref m9, .ref m10, .int kp, .ref m11, .ref m12])), (m1, kx_aD G 8 ps), (m2, kx_aD G 8 qs), (m3, kx_aZ G 128 th), (m4, kx_aD G 128 fr), (m5, kx_aD G 128 to), (m6, kx_aZ G 16 fd), (m7, kx_aD G 64 sh), (m8, kx_aI G 6 ki), (m9, kx_aD G 6 li), (m10, kx_aI G 6 cl), (m11, kx_aD G 16 kx), (m12, kx_aD G 16 ky)] s.heap.size = A at hD ⊢
  have hA : ∀ q : Nat, s.heap.size ≤ q → A q := fun q h => by rw [← hAe]; exact Or.inr h
  have hS : va_S A s.heap s.heap [] := va_S.rf
  have hl := lv_entry ([.ref m0]) (n := 2) (Nat.le_of_ble_eq_true rfl)
  rw [lg_entry_eq]
  generalize (lg_sl ([.ref m0]) ++ List.replicate (2 - (lg_sl ([.ref m0])).length) Slot.unset).toArray = ls at hl ⊢
  have hl : lv_has ls 2 [(0, .ref m0)] := hl
  refine lv_aload_n hx hb dX5_cls_0 rfl (lv_at hl 0 rfl) ?_
  refine lv_aload_n hx hb dX5_cls_1 rfl (lv_at hl 0 rfl) ?_
  refine vp_callSi (W.runV (As := []) (rest := [.ref m0]) ⟨hx, hb, hml, hown, hts⟩ (c_X5_hasShape l G (m0 := m0) (m1 := m1) (m2 := m2) (m3 := m3) (m4 := m4) (m5 := m5) (m6 := m6) (m7 := m7) (m8 := m8) (m9 := m9) (m10 := m10) (m11 := m11) (m12 := m12) (n := n) (v := v) (tw := tw) (ps := ps) (qs := qs) (th := th) (fr := fr) (to := to) (kn := kn) (ft := ft) (fd := fd) (sh := sh) (ru := ru) (ki := ki) (li := li) (cl := cl) (kp := kp) (kx := kx) (ky := ky) (hb_ps := hb_ps) (hb_qs := hb_qs) (hb_fr := hb_fr) (hb_to := hb_to) (hb_sh := hb_sh) (hb_kx := hb_kx) (hb_ky := hb_ky) (hft := (by omega))) (cwV 0 hts gX5_cls_X5_hasShape rfl rfl rfl (by decide +kernel) ⟨Nat.le_of_ble_eq_true rfl, Nat.le_of_ble_eq_true rfl⟩) ⟨kx_PRb, va_recv hT.1 hP (ci := 6) (q0 := 0) rfl rfl, kx_pr hT hP [0, 1, 2, 3, 4, 5, 6, 7, 8, 9, 10, 11, 12] rfl⟩ rfl rfl hl.1 rfl (lv_room (Nat.le_of_ble_eq_true rfl)) dX5_cls_2 ⟨Nat.zero_le _, Nat.zero_le _⟩) (fun r_1 hw_2 => ?_)
  subst hw_2
  refine lv_if_eq (x := kx_hs kn ft) (tgt := 12) hx hb dX5_cls_5 (by decide) (fun c_3 => ?_) (fun c_3 => ?_)
  · refine lv_iconst (v := 1) hx hb dX5_cls_12 (by decide) ?_
    refine va_put (D := G.1) (ci := 6) (v := .int 1) (ty := .int) (C := RX5) (T := TX5) (N := 19) hx hb hts hin_X5 tyX5 tyX5_ok nmX5 hown hT.1 hP hD hS 0 rfl rfl 0 (by decide) hf_55 (fun _ h9 => h9) rfl (by decide +kernel) rfl rfl (Nat.le_of_ble_eq_true rfl) dX5_cls_13 (fun H locs hP hD hS => ?_)
    have hP : va_P G.1 vwCl [(m0, .inr (6, [.int 1, .int (nI n), .int (nI v), .ref m1, .ref m2, .ref m3, .ref m4, .ref m5, .int kn, .int (nI ft), .ref m6, .ref m7, .int (nI ru), .ref m8, .ref m9, .ref m10, .int kp, .ref m11, .ref m12])), (m1, kx_aD G 8 ps), (m2, kx_aD G 8 qs), (m3, kx_aZ G 128 th), (m4, kx_aD G 128 fr), (m5, kx_aD G 128 to), (m6, kx_aZ G 16 fd), (m7, kx_aD G 64 sh), (m8, kx_aI G 6 ki), (m9, kx_aD G 6 li), (m10, kx_aI G 6 cl), (m11, kx_aD G 16 kx), (m12, kx_aD G 16 ky)] H := hP
    have hD : va_D A [(m0, .inr (6, [.int 1, .int (nI n), .int (nI v), .ref m1, .ref m2, .ref m3, .ref m4, .ref m5, .int kn, .int (nI ft), .ref m6, .ref m7, .int (nI ru), .ref m8, .ref m9, .ref m10, .int kp, .ref m11, .ref m12])), (m1, kx_aD G 8 ps), (m2, kx_aD G 8 qs), (m3, kx_aZ G 128 th), (m4, kx_aD G 128 fr), (m5, kx_aD G 128 to), (m6, kx_aZ G 16 fd), (m7, kx_aD G 64 sh), (m8, kx_aI G 6 ki), (m9, kx_aD G 6 li), (m10, kx_aI G 6 cl), (m11, kx_aD G 16 kx), (m12, kx_aD G 16 ky)] := hD
    have hcd : (kc_h (kx_hs kn ft)) = 1 := by
      unfold kc_h
      rw [if_pos c_3]
    refine lv_iconst (v := 0) hx hb dX5_cls_16 (by decide) ?_
    refine lv_istore_n (lv' := [(1, .int 0), (0, .ref m0)]) hx hb dX5_cls_17 rfl hl (by decide) rfl (fun ls hl => ?_)
    refine lv_iload_n hx hb dX5_cls_18 rfl (lv_at hl 0 rfl) ?_
    refine lv_aload_n hx hb dX5_cls_19 rfl (lv_at hl 1 rfl) ?_
    refine va_get (D := G.1) (ci := 6) (v := .int (nI ru)) (C := RX5) (T := TX5) (N := 19) hx hb hts hin_X5 hown hT.1 hP 0 rfl rfl 12 (by decide) hf_138 (fun _ h9 => h9) rfl dX5_cls_20 ?_
    refine lv_icmp_ge (x := 0) (y := nI ru) (tgt := 54) hx hb dX5_cls_23 (by decide) (fun c_4 => ?_) (fun c_4 => ?_)
    · have c_4 : ru ≤ 0 := (nI_leI (a := ru) (b := 0) (by omega) (by omega)).mp c_4
      refine lv_aload_n hx hb dX5_cls_54 rfl (lv_at hl 1 rfl) ?_
      refine va_get (D := G.1) (ci := 6) (v := .int 1) (C := RX5) (T := TX5) (N := 19) hx hb hts hin_X5 hown hT.1 hP 0 rfl rfl 0 (by decide) hf_55 (fun _ h9 => h9) rfl dX5_cls_55 ?_
      refine lv_if_le (x := 1) (tgt := 65) hx hb dX5_cls_58 (by decide) (fun c_5 => ?_) (fun c_5 => ?_)
      · exact absurd c_5 (by decide)
      · refine lv_iconst (v := 0) hx hb dX5_cls_61 (by decide) ?_
        refine lv_goto (tgt := 66) hx hb dX5_cls_62 (by decide) ?_
        exact W.iret (v := 0) hx hb hr (fun t ht hW => ⟨⟨0, 1, rfl, ⟨hcd.symm, fun q => absurd (hcd.symm.trans q) (by decide)⟩, And.intro (by rw [ht]; exact hP) hD⟩, hS.F ht⟩) hS.2.2 dX5_cls_66
    · have c_4 : ¬ ru ≤ 0 := fun q => c_4 ((nI_leI (a := ru) (b := 0) (by omega) (by omega)).mpr q)
      refine lv_aload_n hx hb dX5_cls_26 rfl (lv_at hl 1 rfl) ?_
      refine va_get (D := G.1) (ci := 6) (v := .int 1) (C := RX5) (T := TX5) (N := 19) hx hb hts hin_X5 hown hT.1 hP 0 rfl rfl 0 (by decide) hf_55 (fun _ h9 => h9) rfl dX5_cls_27 ?_
      refine lv_if_ne (x := 1) (tgt := 54) hx hb dX5_cls_30 (by decide) (fun c_6 => ?_) (fun c_6 => ?_)
      · refine lv_aload_n hx hb dX5_cls_54 rfl (lv_at hl 1 rfl) ?_
        refine va_get (D := G.1) (ci := 6) (v := .int 1) (C := RX5) (T := TX5) (N := 19) hx hb hts hin_X5 hown hT.1 hP 0 rfl rfl 0 (by decide) hf_55 (fun _ h9 => h9) rfl dX5_cls_55 ?_
        refine lv_if_le (x := 1) (tgt := 65) hx hb dX5_cls_58 (by decide) (fun c_7 => ?_) (fun c_7 => ?_)
        · exact absurd c_7 (by decide)
        · refine lv_iconst (v := 0) hx hb dX5_cls_61 (by decide) ?_
          refine lv_goto (tgt := 66) hx hb dX5_cls_62 (by decide) ?_
          exact W.iret (v := 0) hx hb hr (fun t ht hW => ⟨⟨0, 1, rfl, ⟨hcd.symm, fun q => absurd (hcd.symm.trans q) (by decide)⟩, And.intro (by rw [ht]; exact hP) hD⟩, hS.F ht⟩) hS.2.2 dX5_cls_66
      · exact absurd c_6 (by decide)
  · refine lv_iconst (v := 0) hx hb dX5_cls_8 (by decide) ?_
    refine lv_goto (tgt := 13) hx hb dX5_cls_9 (by decide) ?_
    refine va_put (D := G.1) (ci := 6) (v := .int 0) (ty := .int) (C := RX5) (T := TX5) (N := 19) hx hb hts hin_X5 tyX5 tyX5_ok nmX5 hown hT.1 hP hD hS 0 rfl rfl 0 (by decide) hf_55 (fun _ h9 => h9) rfl (by decide +kernel) rfl rfl (Nat.le_of_ble_eq_true rfl) dX5_cls_13 (fun H locs hP hD hS => ?_)
    have hP : va_P G.1 vwCl [(m0, .inr (6, [.int 0, .int (nI n), .int (nI v), .ref m1, .ref m2, .ref m3, .ref m4, .ref m5, .int kn, .int (nI ft), .ref m6, .ref m7, .int (nI ru), .ref m8, .ref m9, .ref m10, .int kp, .ref m11, .ref m12])), (m1, kx_aD G 8 ps), (m2, kx_aD G 8 qs), (m3, kx_aZ G 128 th), (m4, kx_aD G 128 fr), (m5, kx_aD G 128 to), (m6, kx_aZ G 16 fd), (m7, kx_aD G 64 sh), (m8, kx_aI G 6 ki), (m9, kx_aD G 6 li), (m10, kx_aI G 6 cl), (m11, kx_aD G 16 kx), (m12, kx_aD G 16 ky)] H := hP
    have hD : va_D A [(m0, .inr (6, [.int 0, .int (nI n), .int (nI v), .ref m1, .ref m2, .ref m3, .ref m4, .ref m5, .int kn, .int (nI ft), .ref m6, .ref m7, .int (nI ru), .ref m8, .ref m9, .ref m10, .int kp, .ref m11, .ref m12])), (m1, kx_aD G 8 ps), (m2, kx_aD G 8 qs), (m3, kx_aZ G 128 th), (m4, kx_aD G 128 fr), (m5, kx_aD G 128 to), (m6, kx_aZ G 16 fd), (m7, kx_aD G 64 sh), (m8, kx_aI G 6 ki), (m9, kx_aD G 6 li), (m10, kx_aI G 6 cl), (m11, kx_aD G 16 kx), (m12, kx_aD G 16 ky)] := hD
    have hcd : (kc_h (kx_hs kn ft)) = 0 := by
      unfold kc_h
      rw [if_neg c_3]
    refine lv_iconst (v := 0) hx hb dX5_cls_16 (by decide) ?_
    refine lv_istore_n (lv' := [(1, .int 0), (0, .ref m0)]) hx hb dX5_cls_17 rfl hl (by decide) rfl (fun ls hl => ?_)
    have loop_18 : ∀ (k i : Nat) , i + k = ru → (kx_cl (fun j => kx_hd (fun j => sh (4 * j)) (fun j => sh (4 * j + 1)) (fun j => sh (4 * j + 2)) n (nI (n - ft)) (ki j) (li j)) cl ru ru = kx_cl (fun j => kx_hd (fun j => sh (4 * j)) (fun j => sh (4 * j + 1)) (fun j => sh (4 * j + 2)) n (nI (n - ft)) (ki j) (li j)) cl ru k) → ∀ (H : Heap) (locs : List Loc), va_P G.1 vwCl [(m0, .inr (6, [.int 0, .int (nI n), .int (nI v), .ref m1, .ref m2, .ref m3, .ref m4, .ref m5, .int kn, .int (nI ft), .ref m6, .ref m7, .int (nI ru), .ref m8, .ref m9, .ref m10, .int kp, .ref m11, .ref m12])), (m1, kx_aD G 8 ps), (m2, kx_aD G 8 qs), (m3, kx_aZ G 128 th), (m4, kx_aD G 128 fr), (m5, kx_aD G 128 to), (m6, kx_aZ G 16 fd), (m7, kx_aD G 64 sh), (m8, kx_aI G 6 ki), (m9, kx_aD G 6 li), (m10, kx_aI G 6 cl), (m11, kx_aD G 16 kx), (m12, kx_aD G 16 ky)] H → va_D A [(m0, .inr (6, [.int 0, .int (nI n), .int (nI v), .ref m1, .ref m2, .ref m3, .ref m4, .ref m5, .int kn, .int (nI ft), .ref m6, .ref m7, .int (nI ru), .ref m8, .ref m9, .ref m10, .int kp, .ref m11, .ref m12])), (m1, kx_aD G 8 ps), (m2, kx_aD G 8 qs), (m3, kx_aZ G 128 th), (m4, kx_aD G 128 fr), (m5, kx_aD G 128 to), (m6, kx_aZ G 16 fd), (m7, kx_aD G 64 sh), (m8, kx_aI G 6 ki), (m9, kx_aD G 6 li), (m10, kx_aI G 6 cl), (m11, kx_aD G 16 kx), (m12, kx_aD G 16 ky)] → va_S A s.heap H locs → ∀ ls : Array Slot, lv_has ls 2 [(1, .int (nI i)), (0, .ref m0)] → W p l e (headSpec wsX5_cls ({ frames := 3, cells := 0, slots := 0, locals := 75 } : Room)).room s m [.ref m0].toArray below meth c H locs 0 0 (MQ below (va_Qi (fun (r : Int32) (u : Int32) => u = (kc_h (kx_hs kn ft)) ∧ ((kc_h (kx_hs kn ft)) = 0 → r = kx_cl (fun j => kx_hd (fun j => sh (4 * j)) (fun j => sh (4 * j + 1)) (fun j => sh (4 * j + 2)) n (nI (n - ft)) (ki j) (li j)) cl ru ru)) (kx_B G A (fun u : Int32 => [(m0, .inr (6, [.int u, .int (nI n), .int (nI v), .ref m1, .ref m2, .ref m3, .ref m4, .ref m5, .int kn, .int (nI ft), .ref m6, .ref m7, .int (nI ru), .ref m8, .ref m9, .ref m10, .int kp, .ref m11, .ref m12])), (m1, kx_aD G 8 ps), (m2, kx_aD G 8 qs), (m3, kx_aZ G 128 th), (m4, kx_aD G 128 fr), (m5, kx_aD G 128 to), (m6, kx_aZ G 16 fd), (m7, kx_aD G 64 sh), (m8, kx_aI G 6 ki), (m9, kx_aD G 6 li), (m10, kx_aI G 6 cl), (m11, kx_aD G 16 kx), (m12, kx_aD G 16 ky)])) A) [.ref m0].toArray s 0 0 A) (F0 m 18 ls []) := by
      intro k
      induction k with
      | zero =>
        intro i htot hq H locs hP hD hS ls hl
        refine lv_iload_n hx hb dX5_cls_18 rfl (lv_at hl 0 rfl) ?_
        refine lv_aload_n hx hb dX5_cls_19 rfl (lv_at hl 1 rfl) ?_
        refine va_get (D := G.1) (ci := 6) (v := .int (nI ru)) (C := RX5) (T := TX5) (N := 19) hx hb hts hin_X5 hown hT.1 hP 0 rfl rfl 12 (by decide) hf_138 (fun _ h9 => h9) rfl dX5_cls_20 ?_
        refine lv_icmp_ge (x := nI i) (y := nI ru) (tgt := 54) hx hb dX5_cls_23 (by decide) (fun c_8 => ?_) (fun c_8 => ?_)
        · have c_8 : ru ≤ i := (nI_leI (a := ru) (b := i) (by omega) (by omega)).mp c_8
          refine lv_aload_n hx hb dX5_cls_54 rfl (lv_at hl 1 rfl) ?_
          refine va_get (D := G.1) (ci := 6) (v := .int 0) (C := RX5) (T := TX5) (N := 19) hx hb hts hin_X5 hown hT.1 hP 0 rfl rfl 0 (by decide) hf_55 (fun _ h9 => h9) rfl dX5_cls_55 ?_
          refine lv_if_le (x := 0) (tgt := 65) hx hb dX5_cls_58 (by decide) (fun c_9 => ?_) (fun c_9 => ?_)
          · refine lv_iconst (v := (-1)) hx hb dX5_cls_65 (by decide) ?_
            exact W.iret (v := (-1)) hx hb hr (fun t ht hW => ⟨⟨(-1), 0, rfl, ⟨hcd.symm, fun _ => by rw [hq]; rfl⟩, And.intro (by rw [ht]; exact hP) hD⟩, hS.F ht⟩) hS.2.2 dX5_cls_66
          · exact absurd c_9 (by decide)
        · have c_8 : ¬ ru ≤ i := fun q => c_8 ((nI_leI (a := ru) (b := i) (by omega) (by omega)).mpr q)
          exfalso; omega
      | succ k ih =>
        intro i htot hq H locs hP hD hS ls hl
        refine lv_iload_n hx hb dX5_cls_18 rfl (lv_at hl 0 rfl) ?_
        refine lv_aload_n hx hb dX5_cls_19 rfl (lv_at hl 1 rfl) ?_
        refine va_get (D := G.1) (ci := 6) (v := .int (nI ru)) (C := RX5) (T := TX5) (N := 19) hx hb hts hin_X5 hown hT.1 hP 0 rfl rfl 12 (by decide) hf_138 (fun _ h9 => h9) rfl dX5_cls_20 ?_
        refine lv_icmp_ge (x := nI i) (y := nI ru) (tgt := 54) hx hb dX5_cls_23 (by decide) (fun c_10 => ?_) (fun c_10 => ?_)
        · have c_10 : ru ≤ i := (nI_leI (a := ru) (b := i) (by omega) (by omega)).mp c_10
          exfalso; omega
        · have c_10 : ¬ ru ≤ i := fun q => c_10 ((nI_leI (a := ru) (b := i) (by omega) (by omega)).mpr q)
          refine lv_aload_n hx hb dX5_cls_26 rfl (lv_at hl 1 rfl) ?_
          refine va_get (D := G.1) (ci := 6) (v := .int 0) (C := RX5) (T := TX5) (N := 19) hx hb hts hin_X5 hown hT.1 hP 0 rfl rfl 0 (by decide) hf_55 (fun _ h9 => h9) rfl dX5_cls_27 ?_
          refine lv_if_ne (x := 0) (tgt := 54) hx hb dX5_cls_30 (by decide) (fun c_11 => ?_) (fun c_11 => ?_)
          · exact absurd c_11 (by decide)
          · refine lv_aload_n hx hb dX5_cls_33 rfl (lv_at hl 1 rfl) ?_
            refine lv_iload_n hx hb dX5_cls_34 rfl (lv_at hl 0 rfl) ?_
            refine vp_callSi (W.runV (As := [.int (nI i)]) (rest := []) ⟨hx, hb, hml, hown, hts⟩ (c_X5_holds l G (m0 := m0) (m1 := m1) (m2 := m2) (m3 := m3) (m4 := m4) (m5 := m5) (m6 := m6) (m7 := m7) (m8 := m8) (m9 := m9) (m10 := m10) (m11 := m11) (m12 := m12) (n := n) (v := v) (tw := 0) (ps := ps) (qs := qs) (th := th) (fr := fr) (to := to) (kn := kn) (ft := ft) (fd := fd) (sh := sh) (ru := ru) (ki := ki) (li := li) (cl := cl) (kp := kp) (kx := kx) (ky := ky) (k9 := i) (hb_ps := hb_ps) (hb_qs := hb_qs) (hb_fr := hb_fr) (hb_to := hb_to) (hb_sh := hb_sh) (hb_kx := hb_kx) (hb_ky := hb_ky) (hn1 := (by omega)) (hn := (by omega)) (hv1 := (by omega)) (hv := (by omega)) (hft := (by omega)) (hru := (by omega)) (hk := (by omega)) (hfn := (by omega))) (cwV 1 hts gX5_cls_X5_holds rfl rfl rfl (by decide +kernel) ⟨Nat.le_of_ble_eq_true rfl, Nat.le_of_ble_eq_true rfl⟩) ⟨kx_PRb, va_recv hT.1 hP (ci := 6) (q0 := 0) rfl rfl, kx_pr hT hP [0, 1, 2, 3, 4, 5, 6, 7, 8, 9, 10, 11, 12] rfl⟩ rfl rfl hl.1 rfl (lv_room (Nat.le_of_ble_eq_true rfl)) dX5_cls_35 ⟨Nat.zero_le _, Nat.zero_le _⟩) (fun r_12 hw_13 => ?_)
            subst hw_13
            refine lv_if_eq (x := kx_hd (fun j => sh (4 * j)) (fun j => sh (4 * j + 1)) (fun j => sh (4 * j + 2)) n (nI (n - ft)) (ki i) (li i)) (tgt := 48) hx hb dX5_cls_38 (by decide) (fun c_14 => ?_) (fun c_14 => ?_)
            · refine lv_iinc (v := nI (i + 1)) (lv' := [(1, .int (nI (i + 1))), (0, .ref m0)]) hx hb dX5_cls_48 hl (k := 0) rfl (by show _ + 1 = _; exact nI_1 _) (by decide) rfl (fun ls hl => ?_)
              refine lv_goto (tgt := 18) hx hb dX5_cls_51 (by decide) ?_
              exact ih (i + 1) (by omega) (by rw [hq]; exact kx_cl_f (by omega) c_14) _ _ hP hD hS _ (lv_sub hl [0, 1] rfl)
            · refine lv_aload_n hx hb dX5_cls_41 rfl (lv_at hl 1 rfl) ?_
              refine va_get (D := G.1) (ci := 6) (v := .ref m10) (C := RX5) (T := TX5) (N := 19) hx hb hts hin_X5 hown hT.1 hP 0 rfl rfl 15 (by decide) hf_39 (fun _ h9 => h9) rfl dX5_cls_42 ?_
              refine lv_iload_n hx hb dX5_cls_45 rfl (lv_at hl 0 rfl) ?_
              refine kx_iald hx hb hT hP 10 rfl i (by omega) (by omega) dX5_cls_46 ?_
              exact W.iret (v := cl i) hx hb hr (fun t ht hW => ⟨⟨cl i, 0, rfl, ⟨hcd.symm, fun _ => by rw [hq]; exact (kx_cl_t (by omega) c_14).symm⟩, And.intro (by rw [ht]; exact hP) hD⟩, hS.F ht⟩) hS.2.2 dX5_cls_47
    exact loop_18 ru 0 (by omega) rfl _ _ hP hD hS _ (lv_sub hl [0, 1] rfl)
set_option maxHeartbeats 4000000 in
set_option maxRecDepth 100000 in
/-- keep -/
theorem c_X5_keep (l : Launch) (G : kx_G) (sz : Nat) (m0 : Nat) (m1 : Nat) (m2 : Nat) (m3 : Nat) (m4 : Nat) (m5 : Nat) (m6 : Nat) (m7 : Nat) (m8 : Nat) (m9 : Nat) (m10 : Nat) (m11 : Nat) (m12 : Nat) (n : Nat) (v : Nat) (tw : Int32) (ps : Nat → UInt64) (qs : Nat → UInt64) (th : Nat → Int32) (fr : Nat → UInt64) (to : Nat → UInt64) (kn : Int32) (ft : Nat) (fd : Nat → Int32) (sh : Nat → UInt64) (ru : Nat) (ki : Nat → Int32) (li : Nat → UInt64) (cl : Nat → Int32) (kp : Int32) (kx : Nat → UInt64) (ky : Nat → UInt64) (hb_ps : ∀ j, fx_bd 5 (ps j)) (hb_qs : ∀ j, fx_bd 5 (qs j)) (hb_fr : ∀ j, fx_bd 11 (fr j)) (hb_to : ∀ j, fx_bd 11 (to j)) (hb_sh : ∀ j, fx_bd 220 (sh j)) (hb_kx : ∀ j, fx_bd 130 (kx j)) (hb_ky : ∀ j, fx_bd 130 (ky j)) (hn1 : 1 ≤ n) (hn : n ≤ 16) (hv1 : 1 ≤ v) (hv : v ≤ 8) (hft : ft ≤ 16) (hru : ru ≤ 6) (hshk : ∀ j, fx_bd 220 (sh j)) : Met l yX5_keep wsX5_keep ({ frames := 1, cells := 0, slots := 0, locals := 20 } : Room) (kx_PM G [.ref m0] sz [(m0, .inr (6, [.int tw, .int (nI n), .int (nI v), .ref m1, .ref m2, .ref m3, .ref m4, .ref m5, .int kn, .int (nI ft), .ref m6, .ref m7, .int (nI ru), .ref m8, .ref m9, .ref m10, .int kp, .ref m11, .ref m12])), (m1, kx_aD G 8 ps), (m2, kx_aD G 8 qs), (m3, kx_aZ G 128 th), (m4, kx_aD G 128 fr), (m5, kx_aD G 128 to), (m6, kx_aZ G 16 fd), (m7, kx_aD G 64 sh), (m8, kx_aI G 6 ki), (m9, kx_aD G 6 li), (m10, kx_aI G 6 cl), (m11, kx_aD G 16 kx), (m12, kx_aD G 16 ky)]) (va_Qv (fun (u : Int32 × (Nat → UInt64) × (Nat → UInt64) × Int32) => u.1 = (kc_h (kx_hs kn ft)) ∧ (((kc_h (kx_hs kn ft)) = 0 ∧ u.2 = (kx_cp kx (fun j => sh (4 * j)) n, kx_cp ky (fun j => sh (4 * j + 1)) n, 1)) ∨ ((kc_h (kx_hs kn ft)) ≠ 0 ∧ u.2 = (kx, ky, kp)))) (kx_B G (va_A [(m0, .inr (6, [.int tw, .int (nI n), .int (nI v), .ref m1, .ref m2, .ref m3, .ref m4, .ref m5, .int kn, .int (nI ft), .ref m6, .ref m7, .int (nI ru), .ref m8, .ref m9, .ref m10, .int kp, .ref m11, .ref m12])), (m1, kx_aD G 8 ps), (m2, kx_aD G 8 qs), (m3, kx_aZ G 128 th), (m4, kx_aD G 128 fr), (m5, kx_aD G 128 to), (m6, kx_aZ G 16 fd), (m7, kx_aD G 64 sh), (m8, kx_aI G 6 ki), (m9, kx_aD G 6 li), (m10, kx_aI G 6 cl), (m11, kx_aD G 16 kx), (m12, kx_aD G 16 ky)] sz) (fun u : Int32 × (Nat → UInt64) × (Nat → UInt64) × Int32 => [(m0, .inr (6, [.int u.1, .int (nI n), .int (nI v), .ref m1, .ref m2, .ref m3, .ref m4, .ref m5, .int kn, .int (nI ft), .ref m6, .ref m7, .int (nI ru), .ref m8, .ref m9, .ref m10, .int u.2.2.2, .ref m11, .ref m12])), (m1, kx_aD G 8 ps), (m2, kx_aD G 8 qs), (m3, kx_aZ G 128 th), (m4, kx_aD G 128 fr), (m5, kx_aD G 128 to), (m6, kx_aZ G 16 fd), (m7, kx_aD G 64 sh), (m8, kx_aI G 6 ki), (m9, kx_aD G 6 li), (m10, kx_aI G 6 cl), (m11, kx_aD G 16 u.2.1), (m12, kx_aD G 16 u.2.2.1)])) (va_A [(m0, .inr (6, [.int tw, .int (nI n), .int (nI v), .ref m1, .ref m2, .ref m3, .ref m4, .ref m5, .int kn, .int (nI ft), .ref m6, .ref m7, .int (nI ru), .ref m8, .ref m9, .ref m10, .int kp, .ref m11, .ref m12])), (m1, kx_aD G 8 ps), (m2, kx_aD G 8 qs), (m3, kx_aZ G 128 th), (m4, kx_aD G 128 fr), (m5, kx_aD G 128 to), (m6, kx_aZ G 16 fd), (m7, kx_aD G 64 sh), (m8, kx_aI G 6 ki), (m9, kx_aD G 6 li), (m10, kx_aI G 6 cl), (m11, kx_aD G 16 kx), (m12, kx_aD G 16 ky)] sz)) 0 0 (va_A [(m0, .inr (6, [.int tw, .int (nI n), .int (nI v), .ref m1, .ref m2, .ref m3, .ref m4, .ref m5, .int kn, .int (nI ft), .ref m6, .ref m7, .int (nI ru), .ref m8, .ref m9, .ref m10, .int kp, .ref m11, .ref m12])), (m1, kx_aD G 8 ps), (m2, kx_aD G 8 qs), (m3, kx_aZ G 128 th), (m4, kx_aD G 128 fr), (m5, kx_aD G 128 to), (m6, kx_aZ G 16 fd), (m7, kx_aD G 64 sh), (m8, kx_aI G 6 ki), (m9, kx_aD G 6 li), (m10, kx_aI G 6 cl), (m11, kx_aD G 16 kx), (m12, kx_aD G 16 ky)] sz) := by
  refine Met.ofW (cc := cX5_keep) (maxL := 2) (ret := none) (by decide) rfl ?_
  intro p e s m args below meth c s₁ B hml hv
  obtain ⟨rfl, hsz, hP, hT, hD0⟩ := hv
  have hx := B.exec
  have hb := B.bytes
  have hr := B.returns
  have hts := atoms_spec (ws := wsX5_keep) B.pre
  have hown : s.vm.findClass RX5 = some m.cls := findClass_of_methodNamed B.named
  have hlocks := B.notSynchronized
  have hf_55 := hts (.fieldLink RX5 55 "StemShapesModel" "thrown" "I") (by decide +kernel)
  have hin_X5 : ∀ w ∈ wsX50, w ∈ wsX5_keep := by decide +kernel
  have hf_48 := hts (.fieldLink RX5 48 "StemShapesModel" "slices" "I") (by decide +kernel)
  have hf_144 := hts (.fieldLink RX5 144 "StemShapesModel" "kept" "Z") (by decide +kernel)
  have hf_42 := hts (.fieldLink RX5 42 "StemShapesModel" "keptX" "[D") (by decide +kernel)
  have hf_29 := hts (.fieldLink RX5 29 "StemShapesModel" "shapes" "[D") (by decide +kernel)
  have hf_45 := hts (.fieldLink RX5 45 "StemShapesModel" "keptY" "[D") (by decide +kernel)
  subst hsz
  have hD := hD0.self (sz := s.heap.size)
  generalize hAe : va_A [(m0, .inr (6, [.int tw, .int (nI n), .int (nI v), .ref m1, .ref m2, .ref m3, .ref m4, .ref m5, .int kn, .int (nI ft), .ref m6, .ref m7, .int (nI ru), .ref m8, .ref m9, .ref m10, .int kp, .ref m11, .ref m12])), (m1, kx_aD G 8 ps), (m2, kx_aD G 8 qs), (m3, kx_aZ G 128 th), (m4, kx_aD G 128 fr), (m5, kx_aD G 128 to), (m6, kx_aZ G 16 fd), (m7, kx_aD G 64 sh), (m8, kx_aI G 6 ki), (m9, kx_aD G 6 li), (m10, kx_aI G 6 cl), (m11, kx_aD G 16 kx), (m12, kx_aD G 16 ky)] s.heap.size = A at hD ⊢
  have hA : ∀ q : Nat, s.heap.size ≤ q → A q := fun q h => by rw [← hAe]; exact Or.inr h
  have hS : va_S A s.heap s.heap [] := va_S.rf
  have hl := lv_entry ([.ref m0]) (n := 2) (Nat.le_of_ble_eq_true rfl)
  rw [lg_entry_eq]
  generalize (lg_sl ([.ref m0]) ++ List.replicate (2 - (lg_sl ([.ref m0])).length) Slot.unset).toArray = ls at hl ⊢
  have hl : lv_has ls 2 [(0, .ref m0)] := hl
  refine lv_aload_n hx hb dX5_keep_0 rfl (lv_at hl 0 rfl) ?_
  refine lv_aload_n hx hb dX5_keep_1 rfl (lv_at hl 0 rfl) ?_
  refine vp_callSi (W.runV (As := []) (rest := [.ref m0]) ⟨hx, hb, hml, hown, hts⟩ (c_X5_hasShape l G (m0 := m0) (m1 := m1) (m2 := m2) (m3 := m3) (m4 := m4) (m5 := m5) (m6 := m6) (m7 := m7) (m8 := m8) (m9 := m9) (m10 := m10) (m11 := m11) (m12 := m12) (n := n) (v := v) (tw := tw) (ps := ps) (qs := qs) (th := th) (fr := fr) (to := to) (kn := kn) (ft := ft) (fd := fd) (sh := sh) (ru := ru) (ki := ki) (li := li) (cl := cl) (kp := kp) (kx := kx) (ky := ky) (hb_ps := hb_ps) (hb_qs := hb_qs) (hb_fr := hb_fr) (hb_to := hb_to) (hb_sh := hb_sh) (hb_kx := hb_kx) (hb_ky := hb_ky) (hft := (by omega))) (cwV 0 hts gX5_keep_X5_hasShape rfl rfl rfl (by decide +kernel) ⟨Nat.le_of_ble_eq_true rfl, Nat.le_of_ble_eq_true rfl⟩) ⟨kx_PRb, va_recv hT.1 hP (ci := 6) (q0 := 0) rfl rfl, kx_pr hT hP [0, 1, 2, 3, 4, 5, 6, 7, 8, 9, 10, 11, 12] rfl⟩ rfl rfl hl.1 rfl (lv_room (Nat.le_of_ble_eq_true rfl)) dX5_keep_2 ⟨Nat.zero_le _, Nat.zero_le _⟩) (fun r_1 hw_2 => ?_)
  subst hw_2
  refine lv_if_eq (x := kx_hs kn ft) (tgt := 12) hx hb dX5_keep_5 (by decide) (fun c_3 => ?_) (fun c_3 => ?_)
  · refine lv_iconst (v := 1) hx hb dX5_keep_12 (by decide) ?_
    refine va_put (D := G.1) (ci := 6) (v := .int 1) (ty := .int) (C := RX5) (T := TX5) (N := 19) hx hb hts hin_X5 tyX5 tyX5_ok nmX5 hown hT.1 hP hD hS 0 rfl rfl 0 (by decide) hf_55 (fun _ h9 => h9) rfl (by decide +kernel) rfl rfl (Nat.le_of_ble_eq_true rfl) dX5_keep_13 (fun H locs hP hD hS => ?_)
    have hP : va_P G.1 vwCl [(m0, .inr (6, [.int 1, .int (nI n), .int (nI v), .ref m1, .ref m2, .ref m3, .ref m4, .ref m5, .int kn, .int (nI ft), .ref m6, .ref m7, .int (nI ru), .ref m8, .ref m9, .ref m10, .int kp, .ref m11, .ref m12])), (m1, kx_aD G 8 ps), (m2, kx_aD G 8 qs), (m3, kx_aZ G 128 th), (m4, kx_aD G 128 fr), (m5, kx_aD G 128 to), (m6, kx_aZ G 16 fd), (m7, kx_aD G 64 sh), (m8, kx_aI G 6 ki), (m9, kx_aD G 6 li), (m10, kx_aI G 6 cl), (m11, kx_aD G 16 kx), (m12, kx_aD G 16 ky)] H := hP
    have hD : va_D A [(m0, .inr (6, [.int 1, .int (nI n), .int (nI v), .ref m1, .ref m2, .ref m3, .ref m4, .ref m5, .int kn, .int (nI ft), .ref m6, .ref m7, .int (nI ru), .ref m8, .ref m9, .ref m10, .int kp, .ref m11, .ref m12])), (m1, kx_aD G 8 ps), (m2, kx_aD G 8 qs), (m3, kx_aZ G 128 th), (m4, kx_aD G 128 fr), (m5, kx_aD G 128 to), (m6, kx_aZ G 16 fd), (m7, kx_aD G 64 sh), (m8, kx_aI G 6 ki), (m9, kx_aD G 6 li), (m10, kx_aI G 6 cl), (m11, kx_aD G 16 kx), (m12, kx_aD G 16 ky)] := hD
    have hcd : (kc_h (kx_hs kn ft)) = 1 := by
      unfold kc_h
      rw [if_pos c_3]
    refine lv_iconst (v := 0) hx hb dX5_keep_16 (by decide) ?_
    refine lv_istore_n (lv' := [(1, .int 0), (0, .ref m0)]) hx hb dX5_keep_17 rfl hl (by decide) rfl (fun ls hl => ?_)
    refine lv_iload_n hx hb dX5_keep_18 rfl (lv_at hl 0 rfl) ?_
    refine lv_aload_n hx hb dX5_keep_19 rfl (lv_at hl 1 rfl) ?_
    refine va_get (D := G.1) (ci := 6) (v := .int (nI n)) (C := RX5) (T := TX5) (N := 19) hx hb hts hin_X5 hown hT.1 hP 0 rfl rfl 1 (by decide) hf_48 (fun _ h9 => h9) rfl dX5_keep_20 ?_
    refine lv_icmp_ge (x := 0) (y := nI n) (tgt := 74) hx hb dX5_keep_23 (by decide) (fun c_4 => ?_) (fun c_4 => ?_)
    · have c_4 : n ≤ 0 := (nI_leI (a := n) (b := 0) (by omega) (by omega)).mp c_4
      exact W.vret hx hb hr (fun t ht hW => ⟨⟨(1, kx, ky, kp), rfl, ⟨hcd.symm, Or.inr ⟨by rw [hcd]; decide, rfl⟩⟩, And.intro (by rw [ht]; exact hP) hD⟩, hS.F ht⟩) hS.2.2 dX5_keep_74
    · have c_4 : ¬ n ≤ 0 := fun q => c_4 ((nI_leI (a := n) (b := 0) (by omega) (by omega)).mpr q)
      refine lv_aload_n hx hb dX5_keep_26 rfl (lv_at hl 1 rfl) ?_
      refine va_get (D := G.1) (ci := 6) (v := .int 1) (C := RX5) (T := TX5) (N := 19) hx hb hts hin_X5 hown hT.1 hP 0 rfl rfl 0 (by decide) hf_55 (fun _ h9 => h9) rfl dX5_keep_27 ?_
      refine lv_if_ne (x := 1) (tgt := 74) hx hb dX5_keep_30 (by decide) (fun c_5 => ?_) (fun c_5 => ?_)
      · exact W.vret hx hb hr (fun t ht hW => ⟨⟨(1, kx, ky, kp), rfl, ⟨hcd.symm, Or.inr ⟨by rw [hcd]; decide, rfl⟩⟩, And.intro (by rw [ht]; exact hP) hD⟩, hS.F ht⟩) hS.2.2 dX5_keep_74
      · exact absurd c_5 (by decide)
  · refine lv_iconst (v := 0) hx hb dX5_keep_8 (by decide) ?_
    refine lv_goto (tgt := 13) hx hb dX5_keep_9 (by decide) ?_
    refine va_put (D := G.1) (ci := 6) (v := .int 0) (ty := .int) (C := RX5) (T := TX5) (N := 19) hx hb hts hin_X5 tyX5 tyX5_ok nmX5 hown hT.1 hP hD hS 0 rfl rfl 0 (by decide) hf_55 (fun _ h9 => h9) rfl (by decide +kernel) rfl rfl (Nat.le_of_ble_eq_true rfl) dX5_keep_13 (fun H locs hP hD hS => ?_)
    have hP : va_P G.1 vwCl [(m0, .inr (6, [.int 0, .int (nI n), .int (nI v), .ref m1, .ref m2, .ref m3, .ref m4, .ref m5, .int kn, .int (nI ft), .ref m6, .ref m7, .int (nI ru), .ref m8, .ref m9, .ref m10, .int kp, .ref m11, .ref m12])), (m1, kx_aD G 8 ps), (m2, kx_aD G 8 qs), (m3, kx_aZ G 128 th), (m4, kx_aD G 128 fr), (m5, kx_aD G 128 to), (m6, kx_aZ G 16 fd), (m7, kx_aD G 64 sh), (m8, kx_aI G 6 ki), (m9, kx_aD G 6 li), (m10, kx_aI G 6 cl), (m11, kx_aD G 16 kx), (m12, kx_aD G 16 ky)] H := hP
    have hD : va_D A [(m0, .inr (6, [.int 0, .int (nI n), .int (nI v), .ref m1, .ref m2, .ref m3, .ref m4, .ref m5, .int kn, .int (nI ft), .ref m6, .ref m7, .int (nI ru), .ref m8, .ref m9, .ref m10, .int kp, .ref m11, .ref m12])), (m1, kx_aD G 8 ps), (m2, kx_aD G 8 qs), (m3, kx_aZ G 128 th), (m4, kx_aD G 128 fr), (m5, kx_aD G 128 to), (m6, kx_aZ G 16 fd), (m7, kx_aD G 64 sh), (m8, kx_aI G 6 ki), (m9, kx_aD G 6 li), (m10, kx_aI G 6 cl), (m11, kx_aD G 16 kx), (m12, kx_aD G 16 ky)] := hD
    have hcd : (kc_h (kx_hs kn ft)) = 0 := by
      unfold kc_h
      rw [if_neg c_3]
    refine lv_iconst (v := 0) hx hb dX5_keep_16 (by decide) ?_
    refine lv_istore_n (lv' := [(1, .int 0), (0, .ref m0)]) hx hb dX5_keep_17 rfl hl (by decide) rfl (fun ls hl => ?_)
    have loop_18 : ∀ (k i : Nat) (z9 : Int32) (U1 : Nat → UInt64) (V1 : Nat → UInt64), i + k = n → U1 = kx_cp kx (fun j => sh (4 * j)) i → V1 = kx_cp ky (fun j => sh (4 * j + 1)) i → (0 < i → z9 = 1) → ∀ (H : Heap) (locs : List Loc), va_P G.1 vwCl [(m0, .inr (6, [.int 0, .int (nI n), .int (nI v), .ref m1, .ref m2, .ref m3, .ref m4, .ref m5, .int kn, .int (nI ft), .ref m6, .ref m7, .int (nI ru), .ref m8, .ref m9, .ref m10, .int z9, .ref m11, .ref m12])), (m1, kx_aD G 8 ps), (m2, kx_aD G 8 qs), (m3, kx_aZ G 128 th), (m4, kx_aD G 128 fr), (m5, kx_aD G 128 to), (m6, kx_aZ G 16 fd), (m7, kx_aD G 64 sh), (m8, kx_aI G 6 ki), (m9, kx_aD G 6 li), (m10, kx_aI G 6 cl), (m11, kx_aD G 16 U1), (m12, kx_aD G 16 V1)] H → va_D A [(m0, .inr (6, [.int 0, .int (nI n), .int (nI v), .ref m1, .ref m2, .ref m3, .ref m4, .ref m5, .int kn, .int (nI ft), .ref m6, .ref m7, .int (nI ru), .ref m8, .ref m9, .ref m10, .int z9, .ref m11, .ref m12])), (m1, kx_aD G 8 ps), (m2, kx_aD G 8 qs), (m3, kx_aZ G 128 th), (m4, kx_aD G 128 fr), (m5, kx_aD G 128 to), (m6, kx_aZ G 16 fd), (m7, kx_aD G 64 sh), (m8, kx_aI G 6 ki), (m9, kx_aD G 6 li), (m10, kx_aI G 6 cl), (m11, kx_aD G 16 U1), (m12, kx_aD G 16 V1)] → va_S A s.heap H locs → ∀ ls : Array Slot, lv_has ls 2 [(1, .int (nI i)), (0, .ref m0)] → W p l e (headSpec wsX5_keep ({ frames := 1, cells := 0, slots := 0, locals := 20 } : Room)).room s m [.ref m0].toArray below meth c H locs 0 0 (MQ below (va_Qv (fun (u : Int32 × (Nat → UInt64) × (Nat → UInt64) × Int32) => u.1 = (kc_h (kx_hs kn ft)) ∧ (((kc_h (kx_hs kn ft)) = 0 ∧ u.2 = (kx_cp kx (fun j => sh (4 * j)) n, kx_cp ky (fun j => sh (4 * j + 1)) n, 1)) ∨ ((kc_h (kx_hs kn ft)) ≠ 0 ∧ u.2 = (kx, ky, kp)))) (kx_B G A (fun u : Int32 × (Nat → UInt64) × (Nat → UInt64) × Int32 => [(m0, .inr (6, [.int u.1, .int (nI n), .int (nI v), .ref m1, .ref m2, .ref m3, .ref m4, .ref m5, .int kn, .int (nI ft), .ref m6, .ref m7, .int (nI ru), .ref m8, .ref m9, .ref m10, .int u.2.2.2, .ref m11, .ref m12])), (m1, kx_aD G 8 ps), (m2, kx_aD G 8 qs), (m3, kx_aZ G 128 th), (m4, kx_aD G 128 fr), (m5, kx_aD G 128 to), (m6, kx_aZ G 16 fd), (m7, kx_aD G 64 sh), (m8, kx_aI G 6 ki), (m9, kx_aD G 6 li), (m10, kx_aI G 6 cl), (m11, kx_aD G 16 u.2.1), (m12, kx_aD G 16 u.2.2.1)])) A) [.ref m0].toArray s 0 0 A) (F0 m 18 ls []) := by
      intro k
      induction k with
      | zero =>
        intro i z9 U1 V1 htot e_U1 e_V1 hz9 H locs hP hD hS ls hl
        subst e_U1
        subst e_V1
        refine lv_iload_n hx hb dX5_keep_18 rfl (lv_at hl 0 rfl) ?_
        refine lv_aload_n hx hb dX5_keep_19 rfl (lv_at hl 1 rfl) ?_
        refine va_get (D := G.1) (ci := 6) (v := .int (nI n)) (C := RX5) (T := TX5) (N := 19) hx hb hts hin_X5 hown hT.1 hP 0 rfl rfl 1 (by decide) hf_48 (fun _ h9 => h9) rfl dX5_keep_20 ?_
        refine lv_icmp_ge (x := nI i) (y := nI n) (tgt := 74) hx hb dX5_keep_23 (by decide) (fun c_6 => ?_) (fun c_6 => ?_)
        · have c_6 : n ≤ i := (nI_leI (a := n) (b := i) (by omega) (by omega)).mp c_6
          have hz1 : z9 = 1 := hz9 (by omega)
          have e9 : i = n := by omega
          rw [hz1, e9] at hP hD
          exact W.vret hx hb hr (fun t ht hW => ⟨⟨(0, kx_cp kx (fun j => sh (4 * j)) n, kx_cp ky (fun j => sh (4 * j + 1)) n, 1), rfl, ⟨hcd.symm, Or.inl ⟨hcd, rfl⟩⟩, And.intro (by rw [ht]; exact hP) hD⟩, hS.F ht⟩) hS.2.2 dX5_keep_74
        · have c_6 : ¬ n ≤ i := fun q => c_6 ((nI_leI (a := n) (b := i) (by omega) (by omega)).mpr q)
          exfalso; omega
      | succ k ih =>
        intro i z9 U1 V1 htot e_U1 e_V1 hz9 H locs hP hD hS ls hl
        subst e_U1
        subst e_V1
        refine lv_iload_n hx hb dX5_keep_18 rfl (lv_at hl 0 rfl) ?_
        refine lv_aload_n hx hb dX5_keep_19 rfl (lv_at hl 1 rfl) ?_
        refine va_get (D := G.1) (ci := 6) (v := .int (nI n)) (C := RX5) (T := TX5) (N := 19) hx hb hts hin_X5 hown hT.1 hP 0 rfl rfl 1 (by decide) hf_48 (fun _ h9 => h9) rfl dX5_keep_20 ?_
        refine lv_icmp_ge (x := nI i) (y := nI n) (tgt := 74) hx hb dX5_keep_23 (by decide) (fun c_7 => ?_) (fun c_7 => ?_)
        · have c_7 : n ≤ i := (nI_leI (a := n) (b := i) (by omega) (by omega)).mp c_7
          exfalso; omega
        · have c_7 : ¬ n ≤ i := fun q => c_7 ((nI_leI (a := n) (b := i) (by omega) (by omega)).mpr q)
          refine lv_aload_n hx hb dX5_keep_26 rfl (lv_at hl 1 rfl) ?_
          refine va_get (D := G.1) (ci := 6) (v := .int 0) (C := RX5) (T := TX5) (N := 19) hx hb hts hin_X5 hown hT.1 hP 0 rfl rfl 0 (by decide) hf_55 (fun _ h9 => h9) rfl dX5_keep_27 ?_
          refine lv_if_ne (x := 0) (tgt := 74) hx hb dX5_keep_30 (by decide) (fun c_8 => ?_) (fun c_8 => ?_)
          · exact absurd c_8 (by decide)
          · refine lv_aload_n hx hb dX5_keep_33 rfl (lv_at hl 1 rfl) ?_
            refine lv_iconst (v := 1) hx hb dX5_keep_34 (by decide) ?_
            refine va_put (D := G.1) (ci := 6) (v := .int 1) (ty := .boolean) (C := RX5) (T := TX5) (N := 19) hx hb hts hin_X5 tyX5 tyX5_ok nmX5 hown hT.1 hP hD hS 0 rfl rfl 16 (by decide) hf_144 (fun _ h9 => h9) rfl (by decide +kernel) rfl rfl (Nat.le_of_ble_eq_true rfl) dX5_keep_35 (fun H locs hP hD hS => ?_)
            have hP : va_P G.1 vwCl [(m0, .inr (6, [.int 0, .int (nI n), .int (nI v), .ref m1, .ref m2, .ref m3, .ref m4, .ref m5, .int kn, .int (nI ft), .ref m6, .ref m7, .int (nI ru), .ref m8, .ref m9, .ref m10, .int 1, .ref m11, .ref m12])), (m1, kx_aD G 8 ps), (m2, kx_aD G 8 qs), (m3, kx_aZ G 128 th), (m4, kx_aD G 128 fr), (m5, kx_aD G 128 to), (m6, kx_aZ G 16 fd), (m7, kx_aD G 64 sh), (m8, kx_aI G 6 ki), (m9, kx_aD G 6 li), (m10, kx_aI G 6 cl), (m11, kx_aD G 16 (kx_cp kx (fun j => sh (4 * j)) i)), (m12, kx_aD G 16 (kx_cp ky (fun j => sh (4 * j + 1)) i))] H := hP
            have hD : va_D A [(m0, .inr (6, [.int 0, .int (nI n), .int (nI v), .ref m1, .ref m2, .ref m3, .ref m4, .ref m5, .int kn, .int (nI ft), .ref m6, .ref m7, .int (nI ru), .ref m8, .ref m9, .ref m10, .int 1, .ref m11, .ref m12])), (m1, kx_aD G 8 ps), (m2, kx_aD G 8 qs), (m3, kx_aZ G 128 th), (m4, kx_aD G 128 fr), (m5, kx_aD G 128 to), (m6, kx_aZ G 16 fd), (m7, kx_aD G 64 sh), (m8, kx_aI G 6 ki), (m9, kx_aD G 6 li), (m10, kx_aI G 6 cl), (m11, kx_aD G 16 (kx_cp kx (fun j => sh (4 * j)) i)), (m12, kx_aD G 16 (kx_cp ky (fun j => sh (4 * j + 1)) i))] := hD
            refine lv_aload_n hx hb dX5_keep_38 rfl (lv_at hl 1 rfl) ?_
            refine va_get (D := G.1) (ci := 6) (v := .ref m11) (C := RX5) (T := TX5) (N := 19) hx hb hts hin_X5 hown hT.1 hP 0 rfl rfl 17 (by decide) hf_42 (fun _ h9 => h9) rfl dX5_keep_39 ?_
            refine lv_iload_n hx hb dX5_keep_42 rfl (lv_at hl 0 rfl) ?_
            refine lv_aload_n hx hb dX5_keep_43 rfl (lv_at hl 1 rfl) ?_
            refine va_get (D := G.1) (ci := 6) (v := .ref m7) (C := RX5) (T := TX5) (N := 19) hx hb hts hin_X5 hown hT.1 hP 0 rfl rfl 11 (by decide) hf_29 (fun _ h9 => h9) rfl dX5_keep_44 ?_
            refine lv_iconst (v := 4) hx hb dX5_keep_47 (by decide) ?_
            refine lv_iload_n hx hb dX5_keep_48 rfl (lv_at hl 0 rfl) ?_
            refine lv_imul hx hb dX5_keep_49 ?_
            refine kx_ei (y := nI (4 * i)) (pk_mul 4 i) ?_
            refine kx_dald hx hb hT hP 7 rfl (4 * i) (by omega) (by omega) dX5_keep_50 ?_
            refine kx_dast hx hb hT hP hD hS 11 rfl i (by omega) (by omega) dX5_keep_51 (fun H locs hP hD hS => ?_)
            have hP : va_P G.1 vwCl [(m0, .inr (6, [.int 0, .int (nI n), .int (nI v), .ref m1, .ref m2, .ref m3, .ref m4, .ref m5, .int kn, .int (nI ft), .ref m6, .ref m7, .int (nI ru), .ref m8, .ref m9, .ref m10, .int 1, .ref m11, .ref m12])), (m1, kx_aD G 8 ps), (m2, kx_aD G 8 qs), (m3, kx_aZ G 128 th), (m4, kx_aD G 128 fr), (m5, kx_aD G 128 to), (m6, kx_aZ G 16 fd), (m7, kx_aD G 64 sh), (m8, kx_aI G 6 ki), (m9, kx_aD G 6 li), (m10, kx_aI G 6 cl), (m11, kx_aD G 16 (vf_upd (kx_cp kx (fun j => sh (4 * j)) i) i (sh (4 * i)))), (m12, kx_aD G 16 (kx_cp ky (fun j => sh (4 * j + 1)) i))] H := hP
            have hD : va_D A [(m0, .inr (6, [.int 0, .int (nI n), .int (nI v), .ref m1, .ref m2, .ref m3, .ref m4, .ref m5, .int kn, .int (nI ft), .ref m6, .ref m7, .int (nI ru), .ref m8, .ref m9, .ref m10, .int 1, .ref m11, .ref m12])), (m1, kx_aD G 8 ps), (m2, kx_aD G 8 qs), (m3, kx_aZ G 128 th), (m4, kx_aD G 128 fr), (m5, kx_aD G 128 to), (m6, kx_aZ G 16 fd), (m7, kx_aD G 64 sh), (m8, kx_aI G 6 ki), (m9, kx_aD G 6 li), (m10, kx_aI G 6 cl), (m11, kx_aD G 16 (vf_upd (kx_cp kx (fun j => sh (4 * j)) i) i (sh (4 * i)))), (m12, kx_aD G 16 (kx_cp ky (fun j => sh (4 * j + 1)) i))] := hD
            refine lv_aload_n hx hb dX5_keep_52 rfl (lv_at hl 1 rfl) ?_
            refine va_get (D := G.1) (ci := 6) (v := .ref m12) (C := RX5) (T := TX5) (N := 19) hx hb hts hin_X5 hown hT.1 hP 0 rfl rfl 18 (by decide) hf_45 (fun _ h9 => h9) rfl dX5_keep_53 ?_
            refine lv_iload_n hx hb dX5_keep_56 rfl (lv_at hl 0 rfl) ?_
            refine lv_aload_n hx hb dX5_keep_57 rfl (lv_at hl 1 rfl) ?_
            refine va_get (D := G.1) (ci := 6) (v := .ref m7) (C := RX5) (T := TX5) (N := 19) hx hb hts hin_X5 hown hT.1 hP 0 rfl rfl 11 (by decide) hf_29 (fun _ h9 => h9) rfl dX5_keep_58 ?_
            refine lv_iconst (v := 4) hx hb dX5_keep_61 (by decide) ?_
            refine lv_iload_n hx hb dX5_keep_62 rfl (lv_at hl 0 rfl) ?_
            refine lv_imul hx hb dX5_keep_63 ?_
            refine kx_ei (y := nI (4 * i)) (pk_mul 4 i) ?_
            refine lv_iconst (v := 1) hx hb dX5_keep_64 (by decide) ?_
            refine lv_iadd hx hb dX5_keep_65 ?_
            refine kx_ei (y := nI ((4 * i) + 1)) (nI_add (4 * i) 1) ?_
            refine kx_dald hx hb hT hP 7 rfl ((4 * i) + 1) (by omega) (by omega) dX5_keep_66 ?_
            refine kx_dast hx hb hT hP hD hS 12 rfl i (by omega) (by omega) dX5_keep_67 (fun H locs hP hD hS => ?_)
            have hP : va_P G.1 vwCl [(m0, .inr (6, [.int 0, .int (nI n), .int (nI v), .ref m1, .ref m2, .ref m3, .ref m4, .ref m5, .int kn, .int (nI ft), .ref m6, .ref m7, .int (nI ru), .ref m8, .ref m9, .ref m10, .int 1, .ref m11, .ref m12])), (m1, kx_aD G 8 ps), (m2, kx_aD G 8 qs), (m3, kx_aZ G 128 th), (m4, kx_aD G 128 fr), (m5, kx_aD G 128 to), (m6, kx_aZ G 16 fd), (m7, kx_aD G 64 sh), (m8, kx_aI G 6 ki), (m9, kx_aD G 6 li), (m10, kx_aI G 6 cl), (m11, kx_aD G 16 (vf_upd (kx_cp kx (fun j => sh (4 * j)) i) i (sh (4 * i)))), (m12, kx_aD G 16 (vf_upd (kx_cp ky (fun j => sh (4 * j + 1)) i) i (sh ((4 * i) + 1))))] H := hP
            have hD : va_D A [(m0, .inr (6, [.int 0, .int (nI n), .int (nI v), .ref m1, .ref m2, .ref m3, .ref m4, .ref m5, .int kn, .int (nI ft), .ref m6, .ref m7, .int (nI ru), .ref m8, .ref m9, .ref m10, .int 1, .ref m11, .ref m12])), (m1, kx_aD G 8 ps), (m2, kx_aD G 8 qs), (m3, kx_aZ G 128 th), (m4, kx_aD G 128 fr), (m5, kx_aD G 128 to), (m6, kx_aZ G 16 fd), (m7, kx_aD G 64 sh), (m8, kx_aI G 6 ki), (m9, kx_aD G 6 li), (m10, kx_aI G 6 cl), (m11, kx_aD G 16 (vf_upd (kx_cp kx (fun j => sh (4 * j)) i) i (sh (4 * i)))), (m12, kx_aD G 16 (vf_upd (kx_cp ky (fun j => sh (4 * j + 1)) i) i (sh ((4 * i) + 1))))] := hD
            refine lv_iinc (v := nI (i + 1)) (lv' := [(1, .int (nI (i + 1))), (0, .ref m0)]) hx hb dX5_keep_68 hl (k := 0) rfl (by show _ + 1 = _; exact nI_1 _) (by decide) rfl (fun ls hl => ?_)
            refine lv_goto (tgt := 18) hx hb dX5_keep_71 (by decide) ?_
            exact ih (i + 1) _ _ _ (by omega) kx_cp_s kx_cp_s (fun _ => rfl) _ _ hP hD hS _ (lv_sub hl [0, 1] rfl)
    exact loop_18 n 0 _ _ _ (by omega) kx_cp_0.symm kx_cp_0.symm (fun h => absurd h (Nat.lt_irrefl 0)) _ _ hP hD hS _ (lv_sub hl [0, 1] rfl)
set_option maxHeartbeats 4000000 in
set_option maxRecDepth 100000 in
/-- apart -/
theorem c_X5_apart (l : Launch) (G : kx_G) (sz : Nat) (m0 : Nat) (m1 : Nat) (m2 : Nat) (m3 : Nat) (m4 : Nat) (m5 : Nat) (m6 : Nat) (m7 : Nat) (m8 : Nat) (m9 : Nat) (m10 : Nat) (m11 : Nat) (m12 : Nat) (n : Nat) (v : Nat) (tw : Int32) (ps : Nat → UInt64) (qs : Nat → UInt64) (th : Nat → Int32) (fr : Nat → UInt64) (to : Nat → UInt64) (kn : Int32) (ft : Nat) (fd : Nat → Int32) (sh : Nat → UInt64) (ru : Nat) (ki : Nat → Int32) (li : Nat → UInt64) (cl : Nat → Int32) (kp : Int32) (kx : Nat → UInt64) (ky : Nat → UInt64) (t9 : Int32) (hb_ps : ∀ j, fx_bd 5 (ps j)) (hb_qs : ∀ j, fx_bd 5 (qs j)) (hb_fr : ∀ j, fx_bd 11 (fr j)) (hb_to : ∀ j, fx_bd 11 (to j)) (hb_sh : ∀ j, fx_bd 220 (sh j)) (hb_kx : ∀ j, fx_bd 130 (kx j)) (hb_ky : ∀ j, fx_bd 130 (ky j)) (hn1 : 1 ≤ n) (hn : n ≤ 16) (hv1 : 1 ≤ v) (hv : v ≤ 8) (hft : ft ≤ 16) (hru : ru ≤ 6) : Met l yX5_apart wsX5_apart ({ frames := 1, cells := 0, slots := 0, locals := 32 } : Room) (kx_PM G [.ref m0, .int t9] sz [(m0, .inr (6, [.int tw, .int (nI n), .int (nI v), .ref m1, .ref m2, .ref m3, .ref m4, .ref m5, .int kn, .int (nI ft), .ref m6, .ref m7, .int (nI ru), .ref m8, .ref m9, .ref m10, .int kp, .ref m11, .ref m12])), (m1, kx_aD G 8 ps), (m2, kx_aD G 8 qs), (m3, kx_aZ G 128 th), (m4, kx_aD G 128 fr), (m5, kx_aD G 128 to), (m6, kx_aZ G 16 fd), (m7, kx_aD G 64 sh), (m8, kx_aI G 6 ki), (m9, kx_aD G 6 li), (m10, kx_aI G 6 cl), (m11, kx_aD G 16 kx), (m12, kx_aD G 16 ky)]) (va_Qd (fun (r : UInt64) (u : Int32) => u = (kc_apa t9 (kx_hs kn ft) kp) ∧ ((kc_apa t9 (kx_hs kn ft) kp) = 0 → r = kx_dst (fun j => sh (4 * j)) (fun j => sh (4 * j + 1)) kx ky n t9)) (kx_B G (va_A [(m0, .inr (6, [.int tw, .int (nI n), .int (nI v), .ref m1, .ref m2, .ref m3, .ref m4, .ref m5, .int kn, .int (nI ft), .ref m6, .ref m7, .int (nI ru), .ref m8, .ref m9, .ref m10, .int kp, .ref m11, .ref m12])), (m1, kx_aD G 8 ps), (m2, kx_aD G 8 qs), (m3, kx_aZ G 128 th), (m4, kx_aD G 128 fr), (m5, kx_aD G 128 to), (m6, kx_aZ G 16 fd), (m7, kx_aD G 64 sh), (m8, kx_aI G 6 ki), (m9, kx_aD G 6 li), (m10, kx_aI G 6 cl), (m11, kx_aD G 16 kx), (m12, kx_aD G 16 ky)] sz) (fun u : Int32 => [(m0, .inr (6, [.int u, .int (nI n), .int (nI v), .ref m1, .ref m2, .ref m3, .ref m4, .ref m5, .int kn, .int (nI ft), .ref m6, .ref m7, .int (nI ru), .ref m8, .ref m9, .ref m10, .int kp, .ref m11, .ref m12])), (m1, kx_aD G 8 ps), (m2, kx_aD G 8 qs), (m3, kx_aZ G 128 th), (m4, kx_aD G 128 fr), (m5, kx_aD G 128 to), (m6, kx_aZ G 16 fd), (m7, kx_aD G 64 sh), (m8, kx_aI G 6 ki), (m9, kx_aD G 6 li), (m10, kx_aI G 6 cl), (m11, kx_aD G 16 kx), (m12, kx_aD G 16 ky)])) (va_A [(m0, .inr (6, [.int tw, .int (nI n), .int (nI v), .ref m1, .ref m2, .ref m3, .ref m4, .ref m5, .int kn, .int (nI ft), .ref m6, .ref m7, .int (nI ru), .ref m8, .ref m9, .ref m10, .int kp, .ref m11, .ref m12])), (m1, kx_aD G 8 ps), (m2, kx_aD G 8 qs), (m3, kx_aZ G 128 th), (m4, kx_aD G 128 fr), (m5, kx_aD G 128 to), (m6, kx_aZ G 16 fd), (m7, kx_aD G 64 sh), (m8, kx_aI G 6 ki), (m9, kx_aD G 6 li), (m10, kx_aI G 6 cl), (m11, kx_aD G 16 kx), (m12, kx_aD G 16 ky)] sz)) 0 0 (va_A [(m0, .inr (6, [.int tw, .int (nI n), .int (nI v), .ref m1, .ref m2, .ref m3, .ref m4, .ref m5, .int kn, .int (nI ft), .ref m6, .ref m7, .int (nI ru), .ref m8, .ref m9, .ref m10, .int kp, .ref m11, .ref m12])), (m1, kx_aD G 8 ps), (m2, kx_aD G 8 qs), (m3, kx_aZ G 128 th), (m4, kx_aD G 128 fr), (m5, kx_aD G 128 to), (m6, kx_aZ G 16 fd), (m7, kx_aD G 64 sh), (m8, kx_aI G 6 ki), (m9, kx_aD G 6 li), (m10, kx_aI G 6 cl), (m11, kx_aD G 16 kx), (m12, kx_aD G 16 ky)] sz) := by
  refine Met.ofW (cc := cX5_apart) (maxL := 2) (ret := (some .double)) (by decide) rfl ?_
  intro p e s m args below meth c s₁ B hml hv
  obtain ⟨rfl, hsz, hP, hT, hD0⟩ := hv
  have hx := B.exec
  have hb := B.bytes
  have hr := B.returns
  have hts := atoms_spec (ws := wsX5_apart) B.pre
  have hown : s.vm.findClass RX5 = some m.cls := findClass_of_methodNamed B.named
  have hlocks := B.notSynchronized
  have hf_55 := hts (.fieldLink RX5 55 "StemShapesModel" "thrown" "I") (by decide +kernel)
  have hin_X5 : ∀ w ∈ wsX50, w ∈ wsX5_apart := by decide +kernel
  have hf_144 := hts (.fieldLink RX5 144 "StemShapesModel" "kept" "Z") (by decide +kernel)
  subst hsz
  have hD := hD0.self (sz := s.heap.size)
  generalize hAe : va_A [(m0, .inr (6, [.int tw, .int (nI n), .int (nI v), .ref m1, .ref m2, .ref m3, .ref m4, .ref m5, .int kn, .int (nI ft), .ref m6, .ref m7, .int (nI ru), .ref m8, .ref m9, .ref m10, .int kp, .ref m11, .ref m12])), (m1, kx_aD G 8 ps), (m2, kx_aD G 8 qs), (m3, kx_aZ G 128 th), (m4, kx_aD G 128 fr), (m5, kx_aD G 128 to), (m6, kx_aZ G 16 fd), (m7, kx_aD G 64 sh), (m8, kx_aI G 6 ki), (m9, kx_aD G 6 li), (m10, kx_aI G 6 cl), (m11, kx_aD G 16 kx), (m12, kx_aD G 16 ky)] s.heap.size = A at hD ⊢
  have hA : ∀ q : Nat, s.heap.size ≤ q → A q := fun q h => by rw [← hAe]; exact Or.inr h
  have hS : va_S A s.heap s.heap [] := va_S.rf
  have hl := lv_entry ([.ref m0, .int t9]) (n := 2) (Nat.le_of_ble_eq_true rfl)
  rw [lg_entry_eq]
  generalize (lg_sl ([.ref m0, .int t9]) ++ List.replicate (2 - (lg_sl ([.ref m0, .int t9])).length) Slot.unset).toArray = ls at hl ⊢
  have hl : lv_has ls 2 [(0, .ref m0), (1, .int t9)] := hl
  refine lv_aload_n hx hb dX5_apart_0 rfl (lv_at hl 0 rfl) ?_
  refine lv_iload_n hx hb dX5_apart_1 rfl (lv_at hl 1 rfl) ?_
  refine lv_if_lt (x := t9) (tgt := 10) hx hb dX5_apart_2 (by decide) (fun c_1 => ?_) (fun c_1 => ?_)
  · refine lv_iconst (v := 1) hx hb dX5_apart_10 (by decide) ?_
    refine lv_goto (tgt := 33) hx hb dX5_apart_11 (by decide) ?_
    refine va_put (D := G.1) (ci := 6) (v := .int 1) (ty := .int) (C := RX5) (T := TX5) (N := 19) hx hb hts hin_X5 tyX5 tyX5_ok nmX5 hown hT.1 hP hD hS 0 rfl rfl 0 (by decide) hf_55 (fun _ h9 => h9) rfl (by decide +kernel) rfl rfl (Nat.le_of_ble_eq_true rfl) dX5_apart_33 (fun H locs hP hD hS => ?_)
    have hP : va_P G.1 vwCl [(m0, .inr (6, [.int 1, .int (nI n), .int (nI v), .ref m1, .ref m2, .ref m3, .ref m4, .ref m5, .int kn, .int (nI ft), .ref m6, .ref m7, .int (nI ru), .ref m8, .ref m9, .ref m10, .int kp, .ref m11, .ref m12])), (m1, kx_aD G 8 ps), (m2, kx_aD G 8 qs), (m3, kx_aZ G 128 th), (m4, kx_aD G 128 fr), (m5, kx_aD G 128 to), (m6, kx_aZ G 16 fd), (m7, kx_aD G 64 sh), (m8, kx_aI G 6 ki), (m9, kx_aD G 6 li), (m10, kx_aI G 6 cl), (m11, kx_aD G 16 kx), (m12, kx_aD G 16 ky)] H := hP
    have hD : va_D A [(m0, .inr (6, [.int 1, .int (nI n), .int (nI v), .ref m1, .ref m2, .ref m3, .ref m4, .ref m5, .int kn, .int (nI ft), .ref m6, .ref m7, .int (nI ru), .ref m8, .ref m9, .ref m10, .int kp, .ref m11, .ref m12])), (m1, kx_aD G 8 ps), (m2, kx_aD G 8 qs), (m3, kx_aZ G 128 th), (m4, kx_aD G 128 fr), (m5, kx_aD G 128 to), (m6, kx_aZ G 16 fd), (m7, kx_aD G 64 sh), (m8, kx_aI G 6 ki), (m9, kx_aD G 6 li), (m10, kx_aI G 6 cl), (m11, kx_aD G 16 kx), (m12, kx_aD G 16 ky)] := hD
    refine lv_aload_n hx hb dX5_apart_36 rfl (lv_at hl 0 rfl) ?_
    refine va_get (D := G.1) (ci := 6) (v := .int 1) (C := RX5) (T := TX5) (N := 19) hx hb hts hin_X5 hown hT.1 hP 0 rfl rfl 0 (by decide) hf_55 (fun _ h9 => h9) rfl dX5_apart_37 ?_
    refine lv_if_le (x := 1) (tgt := 47) hx hb dX5_apart_40 (by decide) (fun c_2 => ?_) (fun c_2 => ?_)
    · exact absurd c_2 (by decide)
    · refine lv_dconst0 hx hb dX5_apart_43 ?_
      refine lv_goto (tgt := 52) hx hb dX5_apart_44 (by decide) ?_
      have hcd : (kc_apa t9 (kx_hs kn ft) kp) = 1 := by
        unfold kc_apa
        rw [if_pos c_1]
      exact W.dret (v := FP.dconst0) hx hb hr (fun t ht hW => ⟨⟨FP.dconst0, 1, rfl, ⟨hcd.symm, fun q => absurd (hcd.symm.trans q) (by decide)⟩, And.intro (by rw [ht]; exact hP) hD⟩, hS.F ht⟩) hS.2.2 dX5_apart_52
  · refine lv_iload_n hx hb dX5_apart_5 rfl (lv_at hl 1 rfl) ?_
    refine lv_iconst (v := 3) hx hb dX5_apart_6 (by decide) ?_
    refine lv_icmp_le (x := t9) (y := 3) (tgt := 14) hx hb dX5_apart_7 (by decide) (fun c_3 => ?_) (fun c_3 => ?_)
    · refine lv_aload_n hx hb dX5_apart_14 rfl (lv_at hl 0 rfl) ?_
      refine vp_callSi (W.runV (As := []) (rest := [.ref m0]) ⟨hx, hb, hml, hown, hts⟩ (c_X5_hasShape l G (m0 := m0) (m1 := m1) (m2 := m2) (m3 := m3) (m4 := m4) (m5 := m5) (m6 := m6) (m7 := m7) (m8 := m8) (m9 := m9) (m10 := m10) (m11 := m11) (m12 := m12) (n := n) (v := v) (tw := tw) (ps := ps) (qs := qs) (th := th) (fr := fr) (to := to) (kn := kn) (ft := ft) (fd := fd) (sh := sh) (ru := ru) (ki := ki) (li := li) (cl := cl) (kp := kp) (kx := kx) (ky := ky) (hb_ps := hb_ps) (hb_qs := hb_qs) (hb_fr := hb_fr) (hb_to := hb_to) (hb_sh := hb_sh) (hb_kx := hb_kx) (hb_ky := hb_ky) (hft := (by omega))) (cwV 0 hts gX5_apart_X5_hasShape rfl rfl rfl (by decide +kernel) ⟨Nat.le_of_ble_eq_true rfl, Nat.le_of_ble_eq_true rfl⟩) ⟨kx_PRb, va_recv hT.1 hP (ci := 6) (q0 := 0) rfl rfl, kx_pr hT hP [0, 1, 2, 3, 4, 5, 6, 7, 8, 9, 10, 11, 12] rfl⟩ rfl rfl hl.1 rfl (lv_room (Nat.le_of_ble_eq_true rfl)) dX5_apart_15 ⟨Nat.zero_le _, Nat.zero_le _⟩) (fun r_4 hw_5 => ?_)
      subst hw_5
      refine lv_if_eq (x := kx_hs kn ft) (tgt := 32) hx hb dX5_apart_18 (by decide) (fun c_6 => ?_) (fun c_6 => ?_)
      · refine lv_iconst (v := 2) hx hb dX5_apart_32 (by decide) ?_
        refine va_put (D := G.1) (ci := 6) (v := .int 2) (ty := .int) (C := RX5) (T := TX5) (N := 19) hx hb hts hin_X5 tyX5 tyX5_ok nmX5 hown hT.1 hP hD hS 0 rfl rfl 0 (by decide) hf_55 (fun _ h9 => h9) rfl (by decide +kernel) rfl rfl (Nat.le_of_ble_eq_true rfl) dX5_apart_33 (fun H locs hP hD hS => ?_)
        have hP : va_P G.1 vwCl [(m0, .inr (6, [.int 2, .int (nI n), .int (nI v), .ref m1, .ref m2, .ref m3, .ref m4, .ref m5, .int kn, .int (nI ft), .ref m6, .ref m7, .int (nI ru), .ref m8, .ref m9, .ref m10, .int kp, .ref m11, .ref m12])), (m1, kx_aD G 8 ps), (m2, kx_aD G 8 qs), (m3, kx_aZ G 128 th), (m4, kx_aD G 128 fr), (m5, kx_aD G 128 to), (m6, kx_aZ G 16 fd), (m7, kx_aD G 64 sh), (m8, kx_aI G 6 ki), (m9, kx_aD G 6 li), (m10, kx_aI G 6 cl), (m11, kx_aD G 16 kx), (m12, kx_aD G 16 ky)] H := hP
        have hD : va_D A [(m0, .inr (6, [.int 2, .int (nI n), .int (nI v), .ref m1, .ref m2, .ref m3, .ref m4, .ref m5, .int kn, .int (nI ft), .ref m6, .ref m7, .int (nI ru), .ref m8, .ref m9, .ref m10, .int kp, .ref m11, .ref m12])), (m1, kx_aD G 8 ps), (m2, kx_aD G 8 qs), (m3, kx_aZ G 128 th), (m4, kx_aD G 128 fr), (m5, kx_aD G 128 to), (m6, kx_aZ G 16 fd), (m7, kx_aD G 64 sh), (m8, kx_aI G 6 ki), (m9, kx_aD G 6 li), (m10, kx_aI G 6 cl), (m11, kx_aD G 16 kx), (m12, kx_aD G 16 ky)] := hD
        refine lv_aload_n hx hb dX5_apart_36 rfl (lv_at hl 0 rfl) ?_
        refine va_get (D := G.1) (ci := 6) (v := .int 2) (C := RX5) (T := TX5) (N := 19) hx hb hts hin_X5 hown hT.1 hP 0 rfl rfl 0 (by decide) hf_55 (fun _ h9 => h9) rfl dX5_apart_37 ?_
        refine lv_if_le (x := 2) (tgt := 47) hx hb dX5_apart_40 (by decide) (fun c_7 => ?_) (fun c_7 => ?_)
        · exact absurd c_7 (by decide)
        · refine lv_dconst0 hx hb dX5_apart_43 ?_
          refine lv_goto (tgt := 52) hx hb dX5_apart_44 (by decide) ?_
          have hcd : (kc_apa t9 (kx_hs kn ft) kp) = 2 := by
            unfold kc_apa
            rw [if_neg c_1, if_pos c_3, if_pos c_6]
          exact W.dret (v := FP.dconst0) hx hb hr (fun t ht hW => ⟨⟨FP.dconst0, 2, rfl, ⟨hcd.symm, fun q => absurd (hcd.symm.trans q) (by decide)⟩, And.intro (by rw [ht]; exact hP) hD⟩, hS.F ht⟩) hS.2.2 dX5_apart_52
      · refine lv_aload_n hx hb dX5_apart_21 rfl (lv_at hl 0 rfl) ?_
        refine va_get (D := G.1) (ci := 6) (v := .int kp) (C := RX5) (T := TX5) (N := 19) hx hb hts hin_X5 hown hT.1 hP 0 rfl rfl 16 (by decide) hf_144 (fun _ h9 => h9) rfl dX5_apart_22 ?_
        refine lv_if_eq (x := kp) (tgt := 32) hx hb dX5_apart_25 (by decide) (fun c_8 => ?_) (fun c_8 => ?_)
        · refine lv_iconst (v := 2) hx hb dX5_apart_32 (by decide) ?_
          refine va_put (D := G.1) (ci := 6) (v := .int 2) (ty := .int) (C := RX5) (T := TX5) (N := 19) hx hb hts hin_X5 tyX5 tyX5_ok nmX5 hown hT.1 hP hD hS 0 rfl rfl 0 (by decide) hf_55 (fun _ h9 => h9) rfl (by decide +kernel) rfl rfl (Nat.le_of_ble_eq_true rfl) dX5_apart_33 (fun H locs hP hD hS => ?_)
          have hP : va_P G.1 vwCl [(m0, .inr (6, [.int 2, .int (nI n), .int (nI v), .ref m1, .ref m2, .ref m3, .ref m4, .ref m5, .int kn, .int (nI ft), .ref m6, .ref m7, .int (nI ru), .ref m8, .ref m9, .ref m10, .int kp, .ref m11, .ref m12])), (m1, kx_aD G 8 ps), (m2, kx_aD G 8 qs), (m3, kx_aZ G 128 th), (m4, kx_aD G 128 fr), (m5, kx_aD G 128 to), (m6, kx_aZ G 16 fd), (m7, kx_aD G 64 sh), (m8, kx_aI G 6 ki), (m9, kx_aD G 6 li), (m10, kx_aI G 6 cl), (m11, kx_aD G 16 kx), (m12, kx_aD G 16 ky)] H := hP
          have hD : va_D A [(m0, .inr (6, [.int 2, .int (nI n), .int (nI v), .ref m1, .ref m2, .ref m3, .ref m4, .ref m5, .int kn, .int (nI ft), .ref m6, .ref m7, .int (nI ru), .ref m8, .ref m9, .ref m10, .int kp, .ref m11, .ref m12])), (m1, kx_aD G 8 ps), (m2, kx_aD G 8 qs), (m3, kx_aZ G 128 th), (m4, kx_aD G 128 fr), (m5, kx_aD G 128 to), (m6, kx_aZ G 16 fd), (m7, kx_aD G 64 sh), (m8, kx_aI G 6 ki), (m9, kx_aD G 6 li), (m10, kx_aI G 6 cl), (m11, kx_aD G 16 kx), (m12, kx_aD G 16 ky)] := hD
          refine lv_aload_n hx hb dX5_apart_36 rfl (lv_at hl 0 rfl) ?_
          refine va_get (D := G.1) (ci := 6) (v := .int 2) (C := RX5) (T := TX5) (N := 19) hx hb hts hin_X5 hown hT.1 hP 0 rfl rfl 0 (by decide) hf_55 (fun _ h9 => h9) rfl dX5_apart_37 ?_
          refine lv_if_le (x := 2) (tgt := 47) hx hb dX5_apart_40 (by decide) (fun c_9 => ?_) (fun c_9 => ?_)
          · exact absurd c_9 (by decide)
          · refine lv_dconst0 hx hb dX5_apart_43 ?_
            refine lv_goto (tgt := 52) hx hb dX5_apart_44 (by decide) ?_
            have hcd : (kc_apa t9 (kx_hs kn ft) kp) = 2 := by
              unfold kc_apa
              rw [if_neg c_1, if_pos c_3, if_neg c_6, if_pos c_8]
            exact W.dret (v := FP.dconst0) hx hb hr (fun t ht hW => ⟨⟨FP.dconst0, 2, rfl, ⟨hcd.symm, fun q => absurd (hcd.symm.trans q) (by decide)⟩, And.intro (by rw [ht]; exact hP) hD⟩, hS.F ht⟩) hS.2.2 dX5_apart_52
        · refine lv_iconst (v := 0) hx hb dX5_apart_28 (by decide) ?_
          refine lv_goto (tgt := 33) hx hb dX5_apart_29 (by decide) ?_
          refine va_put (D := G.1) (ci := 6) (v := .int 0) (ty := .int) (C := RX5) (T := TX5) (N := 19) hx hb hts hin_X5 tyX5 tyX5_ok nmX5 hown hT.1 hP hD hS 0 rfl rfl 0 (by decide) hf_55 (fun _ h9 => h9) rfl (by decide +kernel) rfl rfl (Nat.le_of_ble_eq_true rfl) dX5_apart_33 (fun H locs hP hD hS => ?_)
          have hP : va_P G.1 vwCl [(m0, .inr (6, [.int 0, .int (nI n), .int (nI v), .ref m1, .ref m2, .ref m3, .ref m4, .ref m5, .int kn, .int (nI ft), .ref m6, .ref m7, .int (nI ru), .ref m8, .ref m9, .ref m10, .int kp, .ref m11, .ref m12])), (m1, kx_aD G 8 ps), (m2, kx_aD G 8 qs), (m3, kx_aZ G 128 th), (m4, kx_aD G 128 fr), (m5, kx_aD G 128 to), (m6, kx_aZ G 16 fd), (m7, kx_aD G 64 sh), (m8, kx_aI G 6 ki), (m9, kx_aD G 6 li), (m10, kx_aI G 6 cl), (m11, kx_aD G 16 kx), (m12, kx_aD G 16 ky)] H := hP
          have hD : va_D A [(m0, .inr (6, [.int 0, .int (nI n), .int (nI v), .ref m1, .ref m2, .ref m3, .ref m4, .ref m5, .int kn, .int (nI ft), .ref m6, .ref m7, .int (nI ru), .ref m8, .ref m9, .ref m10, .int kp, .ref m11, .ref m12])), (m1, kx_aD G 8 ps), (m2, kx_aD G 8 qs), (m3, kx_aZ G 128 th), (m4, kx_aD G 128 fr), (m5, kx_aD G 128 to), (m6, kx_aZ G 16 fd), (m7, kx_aD G 64 sh), (m8, kx_aI G 6 ki), (m9, kx_aD G 6 li), (m10, kx_aI G 6 cl), (m11, kx_aD G 16 kx), (m12, kx_aD G 16 ky)] := hD
          refine lv_aload_n hx hb dX5_apart_36 rfl (lv_at hl 0 rfl) ?_
          refine va_get (D := G.1) (ci := 6) (v := .int 0) (C := RX5) (T := TX5) (N := 19) hx hb hts hin_X5 hown hT.1 hP 0 rfl rfl 0 (by decide) hf_55 (fun _ h9 => h9) rfl dX5_apart_37 ?_
          refine lv_if_le (x := 0) (tgt := 47) hx hb dX5_apart_40 (by decide) (fun c_10 => ?_) (fun c_10 => ?_)
          · refine lv_aload_n hx hb dX5_apart_47 rfl (lv_at hl 0 rfl) ?_
            refine lv_iload_n hx hb dX5_apart_48 rfl (lv_at hl 1 rfl) ?_
            refine vp_callSd (W.runV (As := [.int t9]) (rest := []) ⟨hx, hb, hml, hown, hts⟩ (c_X5_apartBy l G (m0 := m0) (m1 := m1) (m2 := m2) (m3 := m3) (m4 := m4) (m5 := m5) (m6 := m6) (m7 := m7) (m8 := m8) (m9 := m9) (m10 := m10) (m11 := m11) (m12 := m12) (n := n) (v := v) (tw := 0) (ps := ps) (qs := qs) (th := th) (fr := fr) (to := to) (kn := kn) (ft := ft) (fd := fd) (sh := sh) (ru := ru) (ki := ki) (li := li) (cl := cl) (kp := kp) (kx := kx) (ky := ky) (tn := t9) (hb_ps := hb_ps) (hb_qs := hb_qs) (hb_fr := hb_fr) (hb_to := hb_to) (hb_sh := hb_sh) (hb_kx := hb_kx) (hb_ky := hb_ky) (hn1 := (by omega)) (hn := (by omega))) (cwV 1 hts gX5_apart_X5_apartBy rfl rfl rfl (by decide +kernel) ⟨Nat.le_of_ble_eq_true rfl, Nat.le_of_ble_eq_true rfl⟩) ⟨kx_PRb, va_recv hT.1 hP (ci := 6) (q0 := 0) rfl rfl, kx_pr hT hP [0, 1, 2, 3, 4, 5, 6, 7, 8, 9, 10, 11, 12] rfl⟩ rfl rfl hl.1 rfl (lv_room (Nat.le_of_ble_eq_true rfl)) dX5_apart_49 ⟨Nat.zero_le _, Nat.zero_le _⟩) (fun r_11 hw_12 => ?_)
            subst hw_12
            have hcd : (kc_apa t9 (kx_hs kn ft) kp) = 0 := by
              unfold kc_apa
              rw [if_neg c_1, if_pos c_3, if_neg c_6, if_neg c_8]
            exact W.dret (v := kx_dst (fun j => sh (4 * j)) (fun j => sh (4 * j + 1)) kx ky n t9) hx hb hr (fun t ht hW => ⟨⟨kx_dst (fun j => sh (4 * j)) (fun j => sh (4 * j + 1)) kx ky n t9, 0, rfl, ⟨hcd.symm, fun _ => rfl⟩, And.intro (by rw [ht]; exact hP) hD⟩, hS.F ht⟩) hS.2.2 dX5_apart_52
          · exact absurd c_10 (by decide)
    · refine lv_iconst (v := 1) hx hb dX5_apart_10 (by decide) ?_
      refine lv_goto (tgt := 33) hx hb dX5_apart_11 (by decide) ?_
      refine va_put (D := G.1) (ci := 6) (v := .int 1) (ty := .int) (C := RX5) (T := TX5) (N := 19) hx hb hts hin_X5 tyX5 tyX5_ok nmX5 hown hT.1 hP hD hS 0 rfl rfl 0 (by decide) hf_55 (fun _ h9 => h9) rfl (by decide +kernel) rfl rfl (Nat.le_of_ble_eq_true rfl) dX5_apart_33 (fun H locs hP hD hS => ?_)
      have hP : va_P G.1 vwCl [(m0, .inr (6, [.int 1, .int (nI n), .int (nI v), .ref m1, .ref m2, .ref m3, .ref m4, .ref m5, .int kn, .int (nI ft), .ref m6, .ref m7, .int (nI ru), .ref m8, .ref m9, .ref m10, .int kp, .ref m11, .ref m12])), (m1, kx_aD G 8 ps), (m2, kx_aD G 8 qs), (m3, kx_aZ G 128 th), (m4, kx_aD G 128 fr), (m5, kx_aD G 128 to), (m6, kx_aZ G 16 fd), (m7, kx_aD G 64 sh), (m8, kx_aI G 6 ki), (m9, kx_aD G 6 li), (m10, kx_aI G 6 cl), (m11, kx_aD G 16 kx), (m12, kx_aD G 16 ky)] H := hP
      have hD : va_D A [(m0, .inr (6, [.int 1, .int (nI n), .int (nI v), .ref m1, .ref m2, .ref m3, .ref m4, .ref m5, .int kn, .int (nI ft), .ref m6, .ref m7, .int (nI ru), .ref m8, .ref m9, .ref m10, .int kp, .ref m11, .ref m12])), (m1, kx_aD G 8 ps), (m2, kx_aD G 8 qs), (m3, kx_aZ G 128 th), (m4, kx_aD G 128 fr), (m5, kx_aD G 128 to), (m6, kx_aZ G 16 fd), (m7, kx_aD G 64 sh), (m8, kx_aI G 6 ki), (m9, kx_aD G 6 li), (m10, kx_aI G 6 cl), (m11, kx_aD G 16 kx), (m12, kx_aD G 16 ky)] := hD
      refine lv_aload_n hx hb dX5_apart_36 rfl (lv_at hl 0 rfl) ?_
      refine va_get (D := G.1) (ci := 6) (v := .int 1) (C := RX5) (T := TX5) (N := 19) hx hb hts hin_X5 hown hT.1 hP 0 rfl rfl 0 (by decide) hf_55 (fun _ h9 => h9) rfl dX5_apart_37 ?_
      refine lv_if_le (x := 1) (tgt := 47) hx hb dX5_apart_40 (by decide) (fun c_13 => ?_) (fun c_13 => ?_)
      · exact absurd c_13 (by decide)
      · refine lv_dconst0 hx hb dX5_apart_43 ?_
        refine lv_goto (tgt := 52) hx hb dX5_apart_44 (by decide) ?_
        have hcd : (kc_apa t9 (kx_hs kn ft) kp) = 1 := by
          unfold kc_apa
          rw [if_neg c_1, if_neg c_3]
        exact W.dret (v := FP.dconst0) hx hb hr (fun t ht hW => ⟨⟨FP.dconst0, 1, rfl, ⟨hcd.symm, fun q => absurd (hcd.symm.trans q) (by decide)⟩, And.intro (by rw [ht]; exact hP) hD⟩, hS.F ht⟩) hS.2.2 dX5_apart_52
set_option maxHeartbeats 4000000 in
set_option maxRecDepth 100000 in
/-- match -/
theorem c_X5_match (l : Launch) (G : kx_G) (sz : Nat) (m0 : Nat) (m1 : Nat) (m2 : Nat) (m3 : Nat) (m4 : Nat) (m5 : Nat) (m6 : Nat) (m7 : Nat) (m8 : Nat) (m9 : Nat) (m10 : Nat) (m11 : Nat) (m12 : Nat) (n : Nat) (v : Nat) (tw : Int32) (ps : Nat → UInt64) (qs : Nat → UInt64) (th : Nat → Int32) (fr : Nat → UInt64) (to : Nat → UInt64) (kn : Int32) (ft : Nat) (fd : Nat → Int32) (sh : Nat → UInt64) (ru : Nat) (ki : Nat → Int32) (li : Nat → UInt64) (cl : Nat → Int32) (kp : Int32) (kx : Nat → UInt64) (ky : Nat → UInt64) (hb_ps : ∀ j, fx_bd 5 (ps j)) (hb_qs : ∀ j, fx_bd 5 (qs j)) (hb_fr : ∀ j, fx_bd 11 (fr j)) (hb_to : ∀ j, fx_bd 11 (to j)) (hb_sh : ∀ j, fx_bd 220 (sh j)) (hb_kx : ∀ j, fx_bd 130 (kx j)) (hb_ky : ∀ j, fx_bd 130 (ky j)) (hn1 : 1 ≤ n) (hn : n ≤ 16) (hv1 : 1 ≤ v) (hv : v ≤ 8) (hft : ft ≤ 16) (hru : ru ≤ 6) : Met l yX5_match wsX5_match ({ frames := 1, cells := 0, slots := 0, locals := 32 } : Room) (kx_PM G [.ref m0] sz [(m0, .inr (6, [.int tw, .int (nI n), .int (nI v), .ref m1, .ref m2, .ref m3, .ref m4, .ref m5, .int kn, .int (nI ft), .ref m6, .ref m7, .int (nI ru), .ref m8, .ref m9, .ref m10, .int kp, .ref m11, .ref m12])), (m1, kx_aD G 8 ps), (m2, kx_aD G 8 qs), (m3, kx_aZ G 128 th), (m4, kx_aD G 128 fr), (m5, kx_aD G 128 to), (m6, kx_aZ G 16 fd), (m7, kx_aD G 64 sh), (m8, kx_aI G 6 ki), (m9, kx_aD G 6 li), (m10, kx_aI G 6 cl), (m11, kx_aD G 16 kx), (m12, kx_aD G 16 ky)]) (va_Qi (fun (r : Int32) (u : Int32) => u = (kc_mat (kx_hs kn ft) kp) ∧ ((kc_mat (kx_hs kn ft) kp) = 0 → r = kx_nr (kx_dst (fun j => sh (4 * j)) (fun j => sh (4 * j + 1)) kx ky n) 3)) (kx_B G (va_A [(m0, .inr (6, [.int tw, .int (nI n), .int (nI v), .ref m1, .ref m2, .ref m3, .ref m4, .ref m5, .int kn, .int (nI ft), .ref m6, .ref m7, .int (nI ru), .ref m8, .ref m9, .ref m10, .int kp, .ref m11, .ref m12])), (m1, kx_aD G 8 ps), (m2, kx_aD G 8 qs), (m3, kx_aZ G 128 th), (m4, kx_aD G 128 fr), (m5, kx_aD G 128 to), (m6, kx_aZ G 16 fd), (m7, kx_aD G 64 sh), (m8, kx_aI G 6 ki), (m9, kx_aD G 6 li), (m10, kx_aI G 6 cl), (m11, kx_aD G 16 kx), (m12, kx_aD G 16 ky)] sz) (fun u : Int32 => [(m0, .inr (6, [.int u, .int (nI n), .int (nI v), .ref m1, .ref m2, .ref m3, .ref m4, .ref m5, .int kn, .int (nI ft), .ref m6, .ref m7, .int (nI ru), .ref m8, .ref m9, .ref m10, .int kp, .ref m11, .ref m12])), (m1, kx_aD G 8 ps), (m2, kx_aD G 8 qs), (m3, kx_aZ G 128 th), (m4, kx_aD G 128 fr), (m5, kx_aD G 128 to), (m6, kx_aZ G 16 fd), (m7, kx_aD G 64 sh), (m8, kx_aI G 6 ki), (m9, kx_aD G 6 li), (m10, kx_aI G 6 cl), (m11, kx_aD G 16 kx), (m12, kx_aD G 16 ky)])) (va_A [(m0, .inr (6, [.int tw, .int (nI n), .int (nI v), .ref m1, .ref m2, .ref m3, .ref m4, .ref m5, .int kn, .int (nI ft), .ref m6, .ref m7, .int (nI ru), .ref m8, .ref m9, .ref m10, .int kp, .ref m11, .ref m12])), (m1, kx_aD G 8 ps), (m2, kx_aD G 8 qs), (m3, kx_aZ G 128 th), (m4, kx_aD G 128 fr), (m5, kx_aD G 128 to), (m6, kx_aZ G 16 fd), (m7, kx_aD G 64 sh), (m8, kx_aI G 6 ki), (m9, kx_aD G 6 li), (m10, kx_aI G 6 cl), (m11, kx_aD G 16 kx), (m12, kx_aD G 16 ky)] sz)) 0 0 (va_A [(m0, .inr (6, [.int tw, .int (nI n), .int (nI v), .ref m1, .ref m2, .ref m3, .ref m4, .ref m5, .int kn, .int (nI ft), .ref m6, .ref m7, .int (nI ru), .ref m8, .ref m9, .ref m10, .int kp, .ref m11, .ref m12])), (m1, kx_aD G 8 ps), (m2, kx_aD G 8 qs), (m3, kx_aZ G 128 th), (m4, kx_aD G 128 fr), (m5, kx_aD G 128 to), (m6, kx_aZ G 16 fd), (m7, kx_aD G 64 sh), (m8, kx_aI G 6 ki), (m9, kx_aD G 6 li), (m10, kx_aI G 6 cl), (m11, kx_aD G 16 kx), (m12, kx_aD G 16 ky)] sz) := by
  refine Met.ofW (cc := cX5_match) (maxL := 3) (ret := (some .int)) (by decide) rfl ?_
  intro p e s m args below meth c s₁ B hml hv
  obtain ⟨rfl, hsz, hP, hT, hD0⟩ := hv
  have hx := B.exec
  have hb := B.bytes
  have hr := B.returns
  have hts := atoms_spec (ws := wsX5_match) B.pre
  have hown : s.vm.findClass RX5 = some m.cls := findClass_of_methodNamed B.named
  have hlocks := B.notSynchronized
  have hf_55 := hts (.fieldLink RX5 55 "StemShapesModel" "thrown" "I") (by decide +kernel)
  have hin_X5 : ∀ w ∈ wsX50, w ∈ wsX5_match := by decide +kernel
  have hf_144 := hts (.fieldLink RX5 144 "StemShapesModel" "kept" "Z") (by decide +kernel)
  subst hsz
  have hD := hD0.self (sz := s.heap.size)
  generalize hAe : va_A [(m0, .inr (6, [.int tw, .int (nI n), .int (nI v), .ref m1, .ref m2, .ref m3, .ref m4, .ref m5, .int kn, .int (nI ft), .ref m6, .ref m7, .int (nI ru), .ref m8, .ref m9, .ref m10, .int kp, .ref m11, .ref m12])), (m1, kx_aD G 8 ps), (m2, kx_aD G 8 qs), (m3, kx_aZ G 128 th), (m4, kx_aD G 128 fr), (m5, kx_aD G 128 to), (m6, kx_aZ G 16 fd), (m7, kx_aD G 64 sh), (m8, kx_aI G 6 ki), (m9, kx_aD G 6 li), (m10, kx_aI G 6 cl), (m11, kx_aD G 16 kx), (m12, kx_aD G 16 ky)] s.heap.size = A at hD ⊢
  have hA : ∀ q : Nat, s.heap.size ≤ q → A q := fun q h => by rw [← hAe]; exact Or.inr h
  have hS : va_S A s.heap s.heap [] := va_S.rf
  have hl := lv_entry ([.ref m0]) (n := 3) (Nat.le_of_ble_eq_true rfl)
  rw [lg_entry_eq]
  generalize (lg_sl ([.ref m0]) ++ List.replicate (3 - (lg_sl ([.ref m0])).length) Slot.unset).toArray = ls at hl ⊢
  have hl : lv_has ls 3 [(0, .ref m0)] := hl
  refine lv_aload_n hx hb dX5_match_0 rfl (lv_at hl 0 rfl) ?_
  refine lv_aload_n hx hb dX5_match_1 rfl (lv_at hl 0 rfl) ?_
  refine vp_callSi (W.runV (As := []) (rest := [.ref m0]) ⟨hx, hb, hml, hown, hts⟩ (c_X5_hasShape l G (m0 := m0) (m1 := m1) (m2 := m2) (m3 := m3) (m4 := m4) (m5 := m5) (m6 := m6) (m7 := m7) (m8 := m8) (m9 := m9) (m10 := m10) (m11 := m11) (m12 := m12) (n := n) (v := v) (tw := tw) (ps := ps) (qs := qs) (th := th) (fr := fr) (to := to) (kn := kn) (ft := ft) (fd := fd) (sh := sh) (ru := ru) (ki := ki) (li := li) (cl := cl) (kp := kp) (kx := kx) (ky := ky) (hb_ps := hb_ps) (hb_qs := hb_qs) (hb_fr := hb_fr) (hb_to := hb_to) (hb_sh := hb_sh) (hb_kx := hb_kx) (hb_ky := hb_ky) (hft := (by omega))) (cwV 0 hts gX5_match_X5_hasShape rfl rfl rfl (by decide +kernel) ⟨Nat.le_of_ble_eq_true rfl, Nat.le_of_ble_eq_true rfl⟩) ⟨kx_PRb, va_recv hT.1 hP (ci := 6) (q0 := 0) rfl rfl, kx_pr hT hP [0, 1, 2, 3, 4, 5, 6, 7, 8, 9, 10, 11, 12] rfl⟩ rfl rfl hl.1 rfl (lv_room (Nat.le_of_ble_eq_true rfl)) dX5_match_2 ⟨Nat.zero_le _, Nat.zero_le _⟩) (fun r_1 hw_2 => ?_)
  subst hw_2
  refine lv_if_eq (x := kx_hs kn ft) (tgt := 19) hx hb dX5_match_5 (by decide) (fun c_3 => ?_) (fun c_3 => ?_)
  · refine lv_iconst (v := 1) hx hb dX5_match_19 (by decide) ?_
    refine va_put (D := G.1) (ci := 6) (v := .int 1) (ty := .int) (C := RX5) (T := TX5) (N := 19) hx hb hts hin_X5 tyX5 tyX5_ok nmX5 hown hT.1 hP hD hS 0 rfl rfl 0 (by decide) hf_55 (fun _ h9 => h9) rfl (by decide +kernel) rfl rfl (Nat.le_of_ble_eq_true rfl) dX5_match_20 (fun H locs hP hD hS => ?_)
    have hP : va_P G.1 vwCl [(m0, .inr (6, [.int 1, .int (nI n), .int (nI v), .ref m1, .ref m2, .ref m3, .ref m4, .ref m5, .int kn, .int (nI ft), .ref m6, .ref m7, .int (nI ru), .ref m8, .ref m9, .ref m10, .int kp, .ref m11, .ref m12])), (m1, kx_aD G 8 ps), (m2, kx_aD G 8 qs), (m3, kx_aZ G 128 th), (m4, kx_aD G 128 fr), (m5, kx_aD G 128 to), (m6, kx_aZ G 16 fd), (m7, kx_aD G 64 sh), (m8, kx_aI G 6 ki), (m9, kx_aD G 6 li), (m10, kx_aI G 6 cl), (m11, kx_aD G 16 kx), (m12, kx_aD G 16 ky)] H := hP
    have hD : va_D A [(m0, .inr (6, [.int 1, .int (nI n), .int (nI v), .ref m1, .ref m2, .ref m3, .ref m4, .ref m5, .int kn, .int (nI ft), .ref m6, .ref m7, .int (nI ru), .ref m8, .ref m9, .ref m10, .int kp, .ref m11, .ref m12])), (m1, kx_aD G 8 ps), (m2, kx_aD G 8 qs), (m3, kx_aZ G 128 th), (m4, kx_aD G 128 fr), (m5, kx_aD G 128 to), (m6, kx_aZ G 16 fd), (m7, kx_aD G 64 sh), (m8, kx_aI G 6 ki), (m9, kx_aD G 6 li), (m10, kx_aI G 6 cl), (m11, kx_aD G 16 kx), (m12, kx_aD G 16 ky)] := hD
    have hcd : (kc_mat (kx_hs kn ft) kp) = 1 := by
      unfold kc_mat
      rw [if_pos c_3]
    refine lv_iconst (v := 0) hx hb dX5_match_23 (by decide) ?_
    refine lv_istore_n (lv' := [(1, .int 0), (0, .ref m0)]) hx hb dX5_match_24 rfl hl (by decide) rfl (fun ls hl => ?_)
    refine lv_iconst (v := 1) hx hb dX5_match_25 (by decide) ?_
    refine lv_istore_n (lv' := [(2, .int 1), (1, .int 0), (0, .ref m0)]) hx hb dX5_match_26 rfl hl (by decide) rfl (fun ls hl => ?_)
    refine lv_iload_n hx hb dX5_match_27 rfl (lv_at hl 0 rfl) ?_
    refine lv_iconst (v := 4) hx hb dX5_match_28 (by decide) ?_
    refine lv_icmp_ge (x := 1) (y := 4) (tgt := 65) hx hb dX5_match_29 (by decide) (fun c_4 => ?_) (fun c_4 => ?_)
    · have c_4 : 4 ≤ 1 := (nI_leI (a := 4) (b := 1) (by omega) (by omega)).mp c_4
      refine lv_iload_n hx hb dX5_match_65 rfl (lv_at hl 1 rfl) ?_
      exact W.iret (v := 0) hx hb hr (fun t ht hW => ⟨⟨0, 1, rfl, ⟨hcd.symm, fun q => absurd (hcd.symm.trans q) (by decide)⟩, And.intro (by rw [ht]; exact hP) hD⟩, hS.F ht⟩) hS.2.2 dX5_match_66
    · have c_4 : ¬ 4 ≤ 1 := fun q => c_4 ((nI_leI (a := 4) (b := 1) (by omega) (by omega)).mpr q)
      refine lv_aload_n hx hb dX5_match_32 rfl (lv_at hl 2 rfl) ?_
      refine va_get (D := G.1) (ci := 6) (v := .int 1) (C := RX5) (T := TX5) (N := 19) hx hb hts hin_X5 hown hT.1 hP 0 rfl rfl 0 (by decide) hf_55 (fun _ h9 => h9) rfl dX5_match_33 ?_
      refine lv_if_ne (x := 1) (tgt := 65) hx hb dX5_match_36 (by decide) (fun c_5 => ?_) (fun c_5 => ?_)
      · refine lv_iload_n hx hb dX5_match_65 rfl (lv_at hl 1 rfl) ?_
        exact W.iret (v := 0) hx hb hr (fun t ht hW => ⟨⟨0, 1, rfl, ⟨hcd.symm, fun q => absurd (hcd.symm.trans q) (by decide)⟩, And.intro (by rw [ht]; exact hP) hD⟩, hS.F ht⟩) hS.2.2 dX5_match_66
      · exact absurd c_5 (by decide)
  · refine lv_aload_n hx hb dX5_match_8 rfl (lv_at hl 0 rfl) ?_
    refine va_get (D := G.1) (ci := 6) (v := .int kp) (C := RX5) (T := TX5) (N := 19) hx hb hts hin_X5 hown hT.1 hP 0 rfl rfl 16 (by decide) hf_144 (fun _ h9 => h9) rfl dX5_match_9 ?_
    refine lv_if_eq (x := kp) (tgt := 19) hx hb dX5_match_12 (by decide) (fun c_6 => ?_) (fun c_6 => ?_)
    · refine lv_iconst (v := 1) hx hb dX5_match_19 (by decide) ?_
      refine va_put (D := G.1) (ci := 6) (v := .int 1) (ty := .int) (C := RX5) (T := TX5) (N := 19) hx hb hts hin_X5 tyX5 tyX5_ok nmX5 hown hT.1 hP hD hS 0 rfl rfl 0 (by decide) hf_55 (fun _ h9 => h9) rfl (by decide +kernel) rfl rfl (Nat.le_of_ble_eq_true rfl) dX5_match_20 (fun H locs hP hD hS => ?_)
      have hP : va_P G.1 vwCl [(m0, .inr (6, [.int 1, .int (nI n), .int (nI v), .ref m1, .ref m2, .ref m3, .ref m4, .ref m5, .int kn, .int (nI ft), .ref m6, .ref m7, .int (nI ru), .ref m8, .ref m9, .ref m10, .int kp, .ref m11, .ref m12])), (m1, kx_aD G 8 ps), (m2, kx_aD G 8 qs), (m3, kx_aZ G 128 th), (m4, kx_aD G 128 fr), (m5, kx_aD G 128 to), (m6, kx_aZ G 16 fd), (m7, kx_aD G 64 sh), (m8, kx_aI G 6 ki), (m9, kx_aD G 6 li), (m10, kx_aI G 6 cl), (m11, kx_aD G 16 kx), (m12, kx_aD G 16 ky)] H := hP
      have hD : va_D A [(m0, .inr (6, [.int 1, .int (nI n), .int (nI v), .ref m1, .ref m2, .ref m3, .ref m4, .ref m5, .int kn, .int (nI ft), .ref m6, .ref m7, .int (nI ru), .ref m8, .ref m9, .ref m10, .int kp, .ref m11, .ref m12])), (m1, kx_aD G 8 ps), (m2, kx_aD G 8 qs), (m3, kx_aZ G 128 th), (m4, kx_aD G 128 fr), (m5, kx_aD G 128 to), (m6, kx_aZ G 16 fd), (m7, kx_aD G 64 sh), (m8, kx_aI G 6 ki), (m9, kx_aD G 6 li), (m10, kx_aI G 6 cl), (m11, kx_aD G 16 kx), (m12, kx_aD G 16 ky)] := hD
      have hcd : (kc_mat (kx_hs kn ft) kp) = 1 := by
        unfold kc_mat
        rw [if_neg c_3, if_pos c_6]
      refine lv_iconst (v := 0) hx hb dX5_match_23 (by decide) ?_
      refine lv_istore_n (lv' := [(1, .int 0), (0, .ref m0)]) hx hb dX5_match_24 rfl hl (by decide) rfl (fun ls hl => ?_)
      refine lv_iconst (v := 1) hx hb dX5_match_25 (by decide) ?_
      refine lv_istore_n (lv' := [(2, .int 1), (1, .int 0), (0, .ref m0)]) hx hb dX5_match_26 rfl hl (by decide) rfl (fun ls hl => ?_)
      refine lv_iload_n hx hb dX5_match_27 rfl (lv_at hl 0 rfl) ?_
      refine lv_iconst (v := 4) hx hb dX5_match_28 (by decide) ?_
      refine lv_icmp_ge (x := 1) (y := 4) (tgt := 65) hx hb dX5_match_29 (by decide) (fun c_7 => ?_) (fun c_7 => ?_)
      · have c_7 : 4 ≤ 1 := (nI_leI (a := 4) (b := 1) (by omega) (by omega)).mp c_7
        refine lv_iload_n hx hb dX5_match_65 rfl (lv_at hl 1 rfl) ?_
        exact W.iret (v := 0) hx hb hr (fun t ht hW => ⟨⟨0, 1, rfl, ⟨hcd.symm, fun q => absurd (hcd.symm.trans q) (by decide)⟩, And.intro (by rw [ht]; exact hP) hD⟩, hS.F ht⟩) hS.2.2 dX5_match_66
      · have c_7 : ¬ 4 ≤ 1 := fun q => c_7 ((nI_leI (a := 4) (b := 1) (by omega) (by omega)).mpr q)
        refine lv_aload_n hx hb dX5_match_32 rfl (lv_at hl 2 rfl) ?_
        refine va_get (D := G.1) (ci := 6) (v := .int 1) (C := RX5) (T := TX5) (N := 19) hx hb hts hin_X5 hown hT.1 hP 0 rfl rfl 0 (by decide) hf_55 (fun _ h9 => h9) rfl dX5_match_33 ?_
        refine lv_if_ne (x := 1) (tgt := 65) hx hb dX5_match_36 (by decide) (fun c_8 => ?_) (fun c_8 => ?_)
        · refine lv_iload_n hx hb dX5_match_65 rfl (lv_at hl 1 rfl) ?_
          exact W.iret (v := 0) hx hb hr (fun t ht hW => ⟨⟨0, 1, rfl, ⟨hcd.symm, fun q => absurd (hcd.symm.trans q) (by decide)⟩, And.intro (by rw [ht]; exact hP) hD⟩, hS.F ht⟩) hS.2.2 dX5_match_66
        · exact absurd c_8 (by decide)
    · refine lv_iconst (v := 0) hx hb dX5_match_15 (by decide) ?_
      refine lv_goto (tgt := 20) hx hb dX5_match_16 (by decide) ?_
      refine va_put (D := G.1) (ci := 6) (v := .int 0) (ty := .int) (C := RX5) (T := TX5) (N := 19) hx hb hts hin_X5 tyX5 tyX5_ok nmX5 hown hT.1 hP hD hS 0 rfl rfl 0 (by decide) hf_55 (fun _ h9 => h9) rfl (by decide +kernel) rfl rfl (Nat.le_of_ble_eq_true rfl) dX5_match_20 (fun H locs hP hD hS => ?_)
      have hP : va_P G.1 vwCl [(m0, .inr (6, [.int 0, .int (nI n), .int (nI v), .ref m1, .ref m2, .ref m3, .ref m4, .ref m5, .int kn, .int (nI ft), .ref m6, .ref m7, .int (nI ru), .ref m8, .ref m9, .ref m10, .int kp, .ref m11, .ref m12])), (m1, kx_aD G 8 ps), (m2, kx_aD G 8 qs), (m3, kx_aZ G 128 th), (m4, kx_aD G 128 fr), (m5, kx_aD G 128 to), (m6, kx_aZ G 16 fd), (m7, kx_aD G 64 sh), (m8, kx_aI G 6 ki), (m9, kx_aD G 6 li), (m10, kx_aI G 6 cl), (m11, kx_aD G 16 kx), (m12, kx_aD G 16 ky)] H := hP
      have hD : va_D A [(m0, .inr (6, [.int 0, .int (nI n), .int (nI v), .ref m1, .ref m2, .ref m3, .ref m4, .ref m5, .int kn, .int (nI ft), .ref m6, .ref m7, .int (nI ru), .ref m8, .ref m9, .ref m10, .int kp, .ref m11, .ref m12])), (m1, kx_aD G 8 ps), (m2, kx_aD G 8 qs), (m3, kx_aZ G 128 th), (m4, kx_aD G 128 fr), (m5, kx_aD G 128 to), (m6, kx_aZ G 16 fd), (m7, kx_aD G 64 sh), (m8, kx_aI G 6 ki), (m9, kx_aD G 6 li), (m10, kx_aI G 6 cl), (m11, kx_aD G 16 kx), (m12, kx_aD G 16 ky)] := hD
      have hcd : (kc_mat (kx_hs kn ft) kp) = 0 := by
        unfold kc_mat
        rw [if_neg c_3, if_neg c_6]
      refine lv_iconst (v := 0) hx hb dX5_match_23 (by decide) ?_
      refine lv_istore_n (lv' := [(1, .int 0), (0, .ref m0)]) hx hb dX5_match_24 rfl hl (by decide) rfl (fun ls hl => ?_)
      refine lv_iconst (v := 1) hx hb dX5_match_25 (by decide) ?_
      refine lv_istore_n (lv' := [(2, .int 1), (1, .int 0), (0, .ref m0)]) hx hb dX5_match_26 rfl hl (by decide) rfl (fun ls hl => ?_)
      have loop_27 : ∀ (k i : Nat) (a : Int32), i + k = 3 → a = kx_nr (kx_dst (fun j => sh (4 * j)) (fun j => sh (4 * j + 1)) kx ky n) i → ∀ (H : Heap) (locs : List Loc), va_P G.1 vwCl [(m0, .inr (6, [.int 0, .int (nI n), .int (nI v), .ref m1, .ref m2, .ref m3, .ref m4, .ref m5, .int kn, .int (nI ft), .ref m6, .ref m7, .int (nI ru), .ref m8, .ref m9, .ref m10, .int kp, .ref m11, .ref m12])), (m1, kx_aD G 8 ps), (m2, kx_aD G 8 qs), (m3, kx_aZ G 128 th), (m4, kx_aD G 128 fr), (m5, kx_aD G 128 to), (m6, kx_aZ G 16 fd), (m7, kx_aD G 64 sh), (m8, kx_aI G 6 ki), (m9, kx_aD G 6 li), (m10, kx_aI G 6 cl), (m11, kx_aD G 16 kx), (m12, kx_aD G 16 ky)] H → va_D A [(m0, .inr (6, [.int 0, .int (nI n), .int (nI v), .ref m1, .ref m2, .ref m3, .ref m4, .ref m5, .int kn, .int (nI ft), .ref m6, .ref m7, .int (nI ru), .ref m8, .ref m9, .ref m10, .int kp, .ref m11, .ref m12])), (m1, kx_aD G 8 ps), (m2, kx_aD G 8 qs), (m3, kx_aZ G 128 th), (m4, kx_aD G 128 fr), (m5, kx_aD G 128 to), (m6, kx_aZ G 16 fd), (m7, kx_aD G 64 sh), (m8, kx_aI G 6 ki), (m9, kx_aD G 6 li), (m10, kx_aI G 6 cl), (m11, kx_aD G 16 kx), (m12, kx_aD G 16 ky)] → va_S A s.heap H locs → ∀ ls : Array Slot, lv_has ls 3 [(2, .int (nI (i + 1))), (1, .int a), (0, .ref m0)] → W p l e (headSpec wsX5_match ({ frames := 1, cells := 0, slots := 0, locals := 32 } : Room)).room s m [.ref m0].toArray below meth c H locs 0 0 (MQ below (va_Qi (fun (r : Int32) (u : Int32) => u = (kc_mat (kx_hs kn ft) kp) ∧ ((kc_mat (kx_hs kn ft) kp) = 0 → r = kx_nr (kx_dst (fun j => sh (4 * j)) (fun j => sh (4 * j + 1)) kx ky n) 3)) (kx_B G A (fun u : Int32 => [(m0, .inr (6, [.int u, .int (nI n), .int (nI v), .ref m1, .ref m2, .ref m3, .ref m4, .ref m5, .int kn, .int (nI ft), .ref m6, .ref m7, .int (nI ru), .ref m8, .ref m9, .ref m10, .int kp, .ref m11, .ref m12])), (m1, kx_aD G 8 ps), (m2, kx_aD G 8 qs), (m3, kx_aZ G 128 th), (m4, kx_aD G 128 fr), (m5, kx_aD G 128 to), (m6, kx_aZ G 16 fd), (m7, kx_aD G 64 sh), (m8, kx_aI G 6 ki), (m9, kx_aD G 6 li), (m10, kx_aI G 6 cl), (m11, kx_aD G 16 kx), (m12, kx_aD G 16 ky)])) A) [.ref m0].toArray s 0 0 A) (F0 m 27 ls []) := by
        intro k
        induction k with
        | zero =>
          intro i a htot e_a H locs hP hD hS ls hl
          subst e_a
          refine lv_iload_n hx hb dX5_match_27 rfl (lv_at hl 0 rfl) ?_
          refine lv_iconst (v := 4) hx hb dX5_match_28 (by decide) ?_
          refine lv_icmp_ge (x := nI (i + 1)) (y := 4) (tgt := 65) hx hb dX5_match_29 (by decide) (fun c_9 => ?_) (fun c_9 => ?_)
          · have c_9 : 4 ≤ (i + 1) := (nI_leI (a := 4) (b := i + 1) (by omega) (by omega)).mp c_9
            refine lv_iload_n hx hb dX5_match_65 rfl (lv_at hl 1 rfl) ?_
            exact W.iret (v := kx_nr (kx_dst (fun j => sh (4 * j)) (fun j => sh (4 * j + 1)) kx ky n) i) hx hb hr (fun t ht hW => ⟨⟨kx_nr (kx_dst (fun j => sh (4 * j)) (fun j => sh (4 * j + 1)) kx ky n) i, 0, rfl, ⟨hcd.symm, fun _ => by rw [show i = 3 from by omega]⟩, And.intro (by rw [ht]; exact hP) hD⟩, hS.F ht⟩) hS.2.2 dX5_match_66
          · have c_9 : ¬ 4 ≤ (i + 1) := fun q => c_9 ((nI_leI (a := 4) (b := i + 1) (by omega) (by omega)).mpr q)
            exfalso; omega
        | succ k ih =>
          intro i a htot e_a H locs hP hD hS ls hl
          subst e_a
          refine lv_iload_n hx hb dX5_match_27 rfl (lv_at hl 0 rfl) ?_
          refine lv_iconst (v := 4) hx hb dX5_match_28 (by decide) ?_
          refine lv_icmp_ge (x := nI (i + 1)) (y := 4) (tgt := 65) hx hb dX5_match_29 (by decide) (fun c_10 => ?_) (fun c_10 => ?_)
          · have c_10 : 4 ≤ (i + 1) := (nI_leI (a := 4) (b := i + 1) (by omega) (by omega)).mp c_10
            exfalso; omega
          · have c_10 : ¬ 4 ≤ (i + 1) := fun q => c_10 ((nI_leI (a := 4) (b := i + 1) (by omega) (by omega)).mpr q)
            refine lv_aload_n hx hb dX5_match_32 rfl (lv_at hl 2 rfl) ?_
            refine va_get (D := G.1) (ci := 6) (v := .int 0) (C := RX5) (T := TX5) (N := 19) hx hb hts hin_X5 hown hT.1 hP 0 rfl rfl 0 (by decide) hf_55 (fun _ h9 => h9) rfl dX5_match_33 ?_
            refine lv_if_ne (x := 0) (tgt := 65) hx hb dX5_match_36 (by decide) (fun c_11 => ?_) (fun c_11 => ?_)
            · exact absurd c_11 (by decide)
            · refine lv_aload_n hx hb dX5_match_39 rfl (lv_at hl 2 rfl) ?_
              refine lv_iload_n hx hb dX5_match_40 rfl (lv_at hl 0 rfl) ?_
              refine vp_callSd (W.runV (As := [.int (nI (i + 1))]) (rest := []) ⟨hx, hb, hml, hown, hts⟩ (c_X5_apartBy l G (m0 := m0) (m1 := m1) (m2 := m2) (m3 := m3) (m4 := m4) (m5 := m5) (m6 := m6) (m7 := m7) (m8 := m8) (m9 := m9) (m10 := m10) (m11 := m11) (m12 := m12) (n := n) (v := v) (tw := 0) (ps := ps) (qs := qs) (th := th) (fr := fr) (to := to) (kn := kn) (ft := ft) (fd := fd) (sh := sh) (ru := ru) (ki := ki) (li := li) (cl := cl) (kp := kp) (kx := kx) (ky := ky) (tn := nI (i + 1)) (hb_ps := hb_ps) (hb_qs := hb_qs) (hb_fr := hb_fr) (hb_to := hb_to) (hb_sh := hb_sh) (hb_kx := hb_kx) (hb_ky := hb_ky) (hn1 := (by omega)) (hn := (by omega))) (cwV 1 hts gX5_match_X5_apartBy rfl rfl rfl (by decide +kernel) ⟨Nat.le_of_ble_eq_true rfl, Nat.le_of_ble_eq_true rfl⟩) ⟨kx_PRb, va_recv hT.1 hP (ci := 6) (q0 := 0) rfl rfl, kx_pr hT hP [0, 1, 2, 3, 4, 5, 6, 7, 8, 9, 10, 11, 12] rfl⟩ rfl rfl hl.1 rfl (lv_room (Nat.le_of_ble_eq_true rfl)) dX5_match_41 ⟨Nat.zero_le _, Nat.zero_le _⟩) (fun r_12 hw_13 => ?_)
              subst hw_13
              refine lv_aload_n hx hb dX5_match_44 rfl (lv_at hl 2 rfl) ?_
              refine lv_iload_n hx hb dX5_match_45 rfl (lv_at hl 1 rfl) ?_
              refine vp_callSd (W.runV (As := [.int (kx_nr (kx_dst (fun j => sh (4 * j)) (fun j => sh (4 * j + 1)) kx ky n) i)]) (rest := [.double (kx_dst (fun j => sh (4 * j)) (fun j => sh (4 * j + 1)) kx ky n (nI (i + 1)))]) ⟨hx, hb, hml, hown, hts⟩ (c_X5_apartBy l G (m0 := m0) (m1 := m1) (m2 := m2) (m3 := m3) (m4 := m4) (m5 := m5) (m6 := m6) (m7 := m7) (m8 := m8) (m9 := m9) (m10 := m10) (m11 := m11) (m12 := m12) (n := n) (v := v) (tw := 0) (ps := ps) (qs := qs) (th := th) (fr := fr) (to := to) (kn := kn) (ft := ft) (fd := fd) (sh := sh) (ru := ru) (ki := ki) (li := li) (cl := cl) (kp := kp) (kx := kx) (ky := ky) (tn := kx_nr (kx_dst (fun j => sh (4 * j)) (fun j => sh (4 * j + 1)) kx ky n) i) (hb_ps := hb_ps) (hb_qs := hb_qs) (hb_fr := hb_fr) (hb_to := hb_to) (hb_sh := hb_sh) (hb_kx := hb_kx) (hb_ky := hb_ky) (hn1 := (by omega)) (hn := (by omega))) (cwV 1 hts gX5_match_X5_apartBy rfl rfl rfl (by decide +kernel) ⟨Nat.le_of_ble_eq_true rfl, Nat.le_of_ble_eq_true rfl⟩) ⟨kx_PRb, va_recv hT.1 hP (ci := 6) (q0 := 0) rfl rfl, kx_pr hT hP [0, 1, 2, 3, 4, 5, 6, 7, 8, 9, 10, 11, 12] rfl⟩ rfl rfl hl.1 rfl (lv_room (Nat.le_of_ble_eq_true rfl)) dX5_match_46 ⟨Nat.zero_le _, Nat.zero_le _⟩) (fun r_14 hw_15 => ?_)
              subst hw_15
              refine kx_dlt (tgt := 57) hx hb dX5_match_49 dX5_match_50 (by decide) (fun c_16 => ?_) (fun c_16 => ?_)
              · refine lv_iload_n hx hb dX5_match_57 rfl (lv_at hl 1 rfl) ?_
                refine lv_istore_n (lv' := [(1, .int (kx_nr (kx_dst (fun j => sh (4 * j)) (fun j => sh (4 * j + 1)) kx ky n) i)), (2, .int (nI (i + 1))), (0, .ref m0)]) hx hb dX5_match_58 rfl hl (by decide) rfl (fun ls hl => ?_)
                refine lv_iinc (v := nI (i + 1 + 1)) (lv' := [(2, .int (nI (i + 1 + 1))), (1, .int (kx_nr (kx_dst (fun j => sh (4 * j)) (fun j => sh (4 * j + 1)) kx ky n) i)), (0, .ref m0)]) hx hb dX5_match_59 hl (k := 1) rfl (by show _ + 1 = _; exact nI_1 _) (by decide) rfl (fun ls hl => ?_)
                refine lv_goto (tgt := 27) hx hb dX5_match_62 (by decide) ?_
                exact ih (i + 1) _ (by omega) ((kx_nr_f c_16).symm) _ _ hP hD hS _ (lv_sub hl [0, 1, 2] rfl)
              · refine lv_iload_n hx hb dX5_match_53 rfl (lv_at hl 0 rfl) ?_
                refine lv_goto (tgt := 58) hx hb dX5_match_54 (by decide) ?_
                refine lv_istore_n (lv' := [(1, .int (nI (i + 1))), (2, .int (nI (i + 1))), (0, .ref m0)]) hx hb dX5_match_58 rfl hl (by decide) rfl (fun ls hl => ?_)
                refine lv_iinc (v := nI (i + 1 + 1)) (lv' := [(2, .int (nI (i + 1 + 1))), (1, .int (nI (i + 1))), (0, .ref m0)]) hx hb dX5_match_59 hl (k := 1) rfl (by show _ + 1 = _; exact nI_1 _) (by decide) rfl (fun ls hl => ?_)
                refine lv_goto (tgt := 27) hx hb dX5_match_62 (by decide) ?_
                exact ih (i + 1) _ (by omega) ((kx_nr_t c_16).symm) _ _ hP hD hS _ (lv_sub hl [0, 1, 2] rfl)
      exact loop_27 3 0 _ (by omega) rfl _ _ hP hD hS _ (lv_sub hl [0, 1, 2] rfl)
set_option maxHeartbeats 4000000 in
set_option maxRecDepth 100000 in
/-- law -/
theorem c_X5_law (l : Launch) (G : kx_G) (sz : Nat) (m0 : Nat) (m1 : Nat) (m2 : Nat) (m3 : Nat) (m4 : Nat) (m5 : Nat) (m6 : Nat) (m7 : Nat) (m8 : Nat) (m9 : Nat) (m10 : Nat) (m11 : Nat) (m12 : Nat) (n : Nat) (v : Nat) (tw : Int32) (ps : Nat → UInt64) (qs : Nat → UInt64) (th : Nat → Int32) (fr : Nat → UInt64) (to : Nat → UInt64) (kn : Int32) (ft : Nat) (fd : Nat → Int32) (sh : Nat → UInt64) (ru : Nat) (ki : Nat → Int32) (li : Nat → UInt64) (cl : Nat → Int32) (kp : Int32) (kx : Nat → UInt64) (ky : Nat → UInt64) (x9 : Int64) (u9 : Int64) (y9 : Int64) (hb_ps : ∀ j, fx_bd 5 (ps j)) (hb_qs : ∀ j, fx_bd 5 (qs j)) (hb_fr : ∀ j, fx_bd 11 (fr j)) (hb_to : ∀ j, fx_bd 11 (to j)) (hb_sh : ∀ j, fx_bd 220 (sh j)) (hb_kx : ∀ j, fx_bd 130 (kx j)) (hb_ky : ∀ j, fx_bd 130 (ky j))  : Met l yX5_law wsX5_law ({ frames := 0, cells := 0, slots := 0, locals := 0 } : Room) (kx_PM G [.ref m0, .long x9, .long u9, .long y9] sz [(m0, .inr (6, [.int tw, .int (nI n), .int (nI v), .ref m1, .ref m2, .ref m3, .ref m4, .ref m5, .int kn, .int (nI ft), .ref m6, .ref m7, .int (nI ru), .ref m8, .ref m9, .ref m10, .int kp, .ref m11, .ref m12])), (m1, kx_aD G 8 ps), (m2, kx_aD G 8 qs), (m3, kx_aZ G 128 th), (m4, kx_aD G 128 fr), (m5, kx_aD G 128 to), (m6, kx_aZ G 16 fd), (m7, kx_aD G 64 sh), (m8, kx_aI G 6 ki), (m9, kx_aD G 6 li), (m10, kx_aI G 6 cl), (m11, kx_aD G 16 kx), (m12, kx_aD G 16 ky)]) (va_Ql (fun (r : Int64) (u : Int32) => u = (kc_law x9 u9 y9) ∧ ((kc_law x9 u9 y9) = 0 → r = kc_lv x9 u9 y9)) (kx_B G (va_A [(m0, .inr (6, [.int tw, .int (nI n), .int (nI v), .ref m1, .ref m2, .ref m3, .ref m4, .ref m5, .int kn, .int (nI ft), .ref m6, .ref m7, .int (nI ru), .ref m8, .ref m9, .ref m10, .int kp, .ref m11, .ref m12])), (m1, kx_aD G 8 ps), (m2, kx_aD G 8 qs), (m3, kx_aZ G 128 th), (m4, kx_aD G 128 fr), (m5, kx_aD G 128 to), (m6, kx_aZ G 16 fd), (m7, kx_aD G 64 sh), (m8, kx_aI G 6 ki), (m9, kx_aD G 6 li), (m10, kx_aI G 6 cl), (m11, kx_aD G 16 kx), (m12, kx_aD G 16 ky)] sz) (fun u : Int32 => [(m0, .inr (6, [.int u, .int (nI n), .int (nI v), .ref m1, .ref m2, .ref m3, .ref m4, .ref m5, .int kn, .int (nI ft), .ref m6, .ref m7, .int (nI ru), .ref m8, .ref m9, .ref m10, .int kp, .ref m11, .ref m12])), (m1, kx_aD G 8 ps), (m2, kx_aD G 8 qs), (m3, kx_aZ G 128 th), (m4, kx_aD G 128 fr), (m5, kx_aD G 128 to), (m6, kx_aZ G 16 fd), (m7, kx_aD G 64 sh), (m8, kx_aI G 6 ki), (m9, kx_aD G 6 li), (m10, kx_aI G 6 cl), (m11, kx_aD G 16 kx), (m12, kx_aD G 16 ky)])) (va_A [(m0, .inr (6, [.int tw, .int (nI n), .int (nI v), .ref m1, .ref m2, .ref m3, .ref m4, .ref m5, .int kn, .int (nI ft), .ref m6, .ref m7, .int (nI ru), .ref m8, .ref m9, .ref m10, .int kp, .ref m11, .ref m12])), (m1, kx_aD G 8 ps), (m2, kx_aD G 8 qs), (m3, kx_aZ G 128 th), (m4, kx_aD G 128 fr), (m5, kx_aD G 128 to), (m6, kx_aZ G 16 fd), (m7, kx_aD G 64 sh), (m8, kx_aI G 6 ki), (m9, kx_aD G 6 li), (m10, kx_aI G 6 cl), (m11, kx_aD G 16 kx), (m12, kx_aD G 16 ky)] sz)) 0 0 (va_A [(m0, .inr (6, [.int tw, .int (nI n), .int (nI v), .ref m1, .ref m2, .ref m3, .ref m4, .ref m5, .int kn, .int (nI ft), .ref m6, .ref m7, .int (nI ru), .ref m8, .ref m9, .ref m10, .int kp, .ref m11, .ref m12])), (m1, kx_aD G 8 ps), (m2, kx_aD G 8 qs), (m3, kx_aZ G 128 th), (m4, kx_aD G 128 fr), (m5, kx_aD G 128 to), (m6, kx_aZ G 16 fd), (m7, kx_aD G 64 sh), (m8, kx_aI G 6 ki), (m9, kx_aD G 6 li), (m10, kx_aI G 6 cl), (m11, kx_aD G 16 kx), (m12, kx_aD G 16 ky)] sz) := by
  refine Met.ofW (cc := cX5_law) (maxL := 9) (ret := (some .long)) (by decide) rfl ?_
  intro p e s m args below meth c s₁ B hml hv
  obtain ⟨rfl, hsz, hP, hT, hD0⟩ := hv
  have hx := B.exec
  have hb := B.bytes
  have hr := B.returns
  have hts := atoms_spec (ws := wsX5_law) B.pre
  have hown : s.vm.findClass RX5 = some m.cls := findClass_of_methodNamed B.named
  have hlocks := B.notSynchronized
  have hf_55 := hts (.fieldLink RX5 55 "StemShapesModel" "thrown" "I") (by decide +kernel)
  have hin_X5 : ∀ w ∈ wsX50, w ∈ wsX5_law := by decide +kernel
  have hc_150 := hts (.constantLong RX5 150 (1000000000)) (by decide +kernel)
  have hc_152 := hts (.constantLong RX5 152 (1000000)) (by decide +kernel)
  subst hsz
  have hD := hD0.self (sz := s.heap.size)
  generalize hAe : va_A [(m0, .inr (6, [.int tw, .int (nI n), .int (nI v), .ref m1, .ref m2, .ref m3, .ref m4, .ref m5, .int kn, .int (nI ft), .ref m6, .ref m7, .int (nI ru), .ref m8, .ref m9, .ref m10, .int kp, .ref m11, .ref m12])), (m1, kx_aD G 8 ps), (m2, kx_aD G 8 qs), (m3, kx_aZ G 128 th), (m4, kx_aD G 128 fr), (m5, kx_aD G 128 to), (m6, kx_aZ G 16 fd), (m7, kx_aD G 64 sh), (m8, kx_aI G 6 ki), (m9, kx_aD G 6 li), (m10, kx_aI G 6 cl), (m11, kx_aD G 16 kx), (m12, kx_aD G 16 ky)] s.heap.size = A at hD ⊢
  have hA : ∀ q : Nat, s.heap.size ≤ q → A q := fun q h => by rw [← hAe]; exact Or.inr h
  have hS : va_S A s.heap s.heap [] := va_S.rf
  have hl := lv_entry ([.ref m0, .long x9, .long u9, .long y9]) (n := 9) (Nat.le_of_ble_eq_true rfl)
  rw [lg_entry_eq]
  generalize (lg_sl ([.ref m0, .long x9, .long u9, .long y9]) ++ List.replicate (9 - (lg_sl ([.ref m0, .long x9, .long u9, .long y9])).length) Slot.unset).toArray = ls at hl ⊢
  have hl : lv_has ls 9 [(0, .ref m0), (1, .long x9), (3, .long u9), (5, .long y9)] := hl
  refine lv_aload_n hx hb dX5_law_0 rfl (lv_at hl 0 rfl) ?_
  refine lv_lload_n hx hb dX5_law_1 rfl (lv_at hl 1 rfl) ?_
  refine lv_lconst (v := 0) hx hb dX5_law_2 (by decide) ?_
  refine W.lcmp hx hb dX5_law_3 ?_
  refine kx_llt (tgt := 36) hx hb dX5_law_4 (by decide) (fun c_1 => ?_) (fun c_1 => ?_)
  · refine lv_iconst (v := 1) hx hb dX5_law_36 (by decide) ?_
    refine lv_goto (tgt := 41) hx hb dX5_law_37 (by decide) ?_
    refine va_put (D := G.1) (ci := 6) (v := .int 1) (ty := .int) (C := RX5) (T := TX5) (N := 19) hx hb hts hin_X5 tyX5 tyX5_ok nmX5 hown hT.1 hP hD hS 0 rfl rfl 0 (by decide) hf_55 (fun _ h9 => h9) rfl (by decide +kernel) rfl rfl (Nat.le_of_ble_eq_true rfl) dX5_law_41 (fun H locs hP hD hS => ?_)
    have hP : va_P G.1 vwCl [(m0, .inr (6, [.int 1, .int (nI n), .int (nI v), .ref m1, .ref m2, .ref m3, .ref m4, .ref m5, .int kn, .int (nI ft), .ref m6, .ref m7, .int (nI ru), .ref m8, .ref m9, .ref m10, .int kp, .ref m11, .ref m12])), (m1, kx_aD G 8 ps), (m2, kx_aD G 8 qs), (m3, kx_aZ G 128 th), (m4, kx_aD G 128 fr), (m5, kx_aD G 128 to), (m6, kx_aZ G 16 fd), (m7, kx_aD G 64 sh), (m8, kx_aI G 6 ki), (m9, kx_aD G 6 li), (m10, kx_aI G 6 cl), (m11, kx_aD G 16 kx), (m12, kx_aD G 16 ky)] H := hP
    have hD : va_D A [(m0, .inr (6, [.int 1, .int (nI n), .int (nI v), .ref m1, .ref m2, .ref m3, .ref m4, .ref m5, .int kn, .int (nI ft), .ref m6, .ref m7, .int (nI ru), .ref m8, .ref m9, .ref m10, .int kp, .ref m11, .ref m12])), (m1, kx_aD G 8 ps), (m2, kx_aD G 8 qs), (m3, kx_aZ G 128 th), (m4, kx_aD G 128 fr), (m5, kx_aD G 128 to), (m6, kx_aZ G 16 fd), (m7, kx_aD G 64 sh), (m8, kx_aI G 6 ki), (m9, kx_aD G 6 li), (m10, kx_aI G 6 cl), (m11, kx_aD G 16 kx), (m12, kx_aD G 16 ky)] := hD
    refine lv_aload_n hx hb dX5_law_44 rfl (lv_at hl 0 rfl) ?_
    refine va_get (D := G.1) (ci := 6) (v := .int 1) (C := RX5) (T := TX5) (N := 19) hx hb hts hin_X5 hown hT.1 hP 0 rfl rfl 0 (by decide) hf_55 (fun _ h9 => h9) rfl dX5_law_45 ?_
    refine lv_if_le (x := 1) (tgt := 53) hx hb dX5_law_48 (by decide) (fun c_2 => ?_) (fun c_2 => ?_)
    · exact absurd c_2 (by decide)
    · refine lv_lconst (v := 0) hx hb dX5_law_51 (by decide) ?_
      have hcd : (kc_law x9 u9 y9) = 1 := by
        unfold kc_law
        rw [if_pos c_1]
      exact W.lret (v := 0) hx hb hr (fun t ht hW => ⟨⟨0, 1, rfl, ⟨hcd.symm, fun q => absurd (hcd.symm.trans q) (by decide)⟩, And.intro (by rw [ht]; exact hP) hD⟩, hS.F ht⟩) hS.2.2 dX5_law_52
  · refine lv_lload_n hx hb dX5_law_7 rfl (lv_at hl 1 rfl) ?_
    refine lv_ldc2 (v := 1000000000) hx hb hown hc_150 dX5_law_8 ?_
    refine W.lcmp hx hb dX5_law_11 ?_
    refine kx_lgt (tgt := 36) hx hb dX5_law_12 (by decide) (fun c_3 => ?_) (fun c_3 => ?_)
    · refine lv_iconst (v := 1) hx hb dX5_law_36 (by decide) ?_
      refine lv_goto (tgt := 41) hx hb dX5_law_37 (by decide) ?_
      refine va_put (D := G.1) (ci := 6) (v := .int 1) (ty := .int) (C := RX5) (T := TX5) (N := 19) hx hb hts hin_X5 tyX5 tyX5_ok nmX5 hown hT.1 hP hD hS 0 rfl rfl 0 (by decide) hf_55 (fun _ h9 => h9) rfl (by decide +kernel) rfl rfl (Nat.le_of_ble_eq_true rfl) dX5_law_41 (fun H locs hP hD hS => ?_)
      have hP : va_P G.1 vwCl [(m0, .inr (6, [.int 1, .int (nI n), .int (nI v), .ref m1, .ref m2, .ref m3, .ref m4, .ref m5, .int kn, .int (nI ft), .ref m6, .ref m7, .int (nI ru), .ref m8, .ref m9, .ref m10, .int kp, .ref m11, .ref m12])), (m1, kx_aD G 8 ps), (m2, kx_aD G 8 qs), (m3, kx_aZ G 128 th), (m4, kx_aD G 128 fr), (m5, kx_aD G 128 to), (m6, kx_aZ G 16 fd), (m7, kx_aD G 64 sh), (m8, kx_aI G 6 ki), (m9, kx_aD G 6 li), (m10, kx_aI G 6 cl), (m11, kx_aD G 16 kx), (m12, kx_aD G 16 ky)] H := hP
      have hD : va_D A [(m0, .inr (6, [.int 1, .int (nI n), .int (nI v), .ref m1, .ref m2, .ref m3, .ref m4, .ref m5, .int kn, .int (nI ft), .ref m6, .ref m7, .int (nI ru), .ref m8, .ref m9, .ref m10, .int kp, .ref m11, .ref m12])), (m1, kx_aD G 8 ps), (m2, kx_aD G 8 qs), (m3, kx_aZ G 128 th), (m4, kx_aD G 128 fr), (m5, kx_aD G 128 to), (m6, kx_aZ G 16 fd), (m7, kx_aD G 64 sh), (m8, kx_aI G 6 ki), (m9, kx_aD G 6 li), (m10, kx_aI G 6 cl), (m11, kx_aD G 16 kx), (m12, kx_aD G 16 ky)] := hD
      refine lv_aload_n hx hb dX5_law_44 rfl (lv_at hl 0 rfl) ?_
      refine va_get (D := G.1) (ci := 6) (v := .int 1) (C := RX5) (T := TX5) (N := 19) hx hb hts hin_X5 hown hT.1 hP 0 rfl rfl 0 (by decide) hf_55 (fun _ h9 => h9) rfl dX5_law_45 ?_
      refine lv_if_le (x := 1) (tgt := 53) hx hb dX5_law_48 (by decide) (fun c_4 => ?_) (fun c_4 => ?_)
      · exact absurd c_4 (by decide)
      · refine lv_lconst (v := 0) hx hb dX5_law_51 (by decide) ?_
        have hcd : (kc_law x9 u9 y9) = 1 := by
          unfold kc_law
          rw [if_neg c_1, if_pos c_3]
        exact W.lret (v := 0) hx hb hr (fun t ht hW => ⟨⟨0, 1, rfl, ⟨hcd.symm, fun q => absurd (hcd.symm.trans q) (by decide)⟩, And.intro (by rw [ht]; exact hP) hD⟩, hS.F ht⟩) hS.2.2 dX5_law_52
    · refine lv_lload_n hx hb dX5_law_15 rfl (lv_at hl 2 rfl) ?_
      refine lv_lconst (v := 1) hx hb dX5_law_16 (by decide) ?_
      refine W.lcmp hx hb dX5_law_17 ?_
      refine kx_llt (tgt := 36) hx hb dX5_law_18 (by decide) (fun c_5 => ?_) (fun c_5 => ?_)
      · refine lv_iconst (v := 1) hx hb dX5_law_36 (by decide) ?_
        refine lv_goto (tgt := 41) hx hb dX5_law_37 (by decide) ?_
        refine va_put (D := G.1) (ci := 6) (v := .int 1) (ty := .int) (C := RX5) (T := TX5) (N := 19) hx hb hts hin_X5 tyX5 tyX5_ok nmX5 hown hT.1 hP hD hS 0 rfl rfl 0 (by decide) hf_55 (fun _ h9 => h9) rfl (by decide +kernel) rfl rfl (Nat.le_of_ble_eq_true rfl) dX5_law_41 (fun H locs hP hD hS => ?_)
        have hP : va_P G.1 vwCl [(m0, .inr (6, [.int 1, .int (nI n), .int (nI v), .ref m1, .ref m2, .ref m3, .ref m4, .ref m5, .int kn, .int (nI ft), .ref m6, .ref m7, .int (nI ru), .ref m8, .ref m9, .ref m10, .int kp, .ref m11, .ref m12])), (m1, kx_aD G 8 ps), (m2, kx_aD G 8 qs), (m3, kx_aZ G 128 th), (m4, kx_aD G 128 fr), (m5, kx_aD G 128 to), (m6, kx_aZ G 16 fd), (m7, kx_aD G 64 sh), (m8, kx_aI G 6 ki), (m9, kx_aD G 6 li), (m10, kx_aI G 6 cl), (m11, kx_aD G 16 kx), (m12, kx_aD G 16 ky)] H := hP
        have hD : va_D A [(m0, .inr (6, [.int 1, .int (nI n), .int (nI v), .ref m1, .ref m2, .ref m3, .ref m4, .ref m5, .int kn, .int (nI ft), .ref m6, .ref m7, .int (nI ru), .ref m8, .ref m9, .ref m10, .int kp, .ref m11, .ref m12])), (m1, kx_aD G 8 ps), (m2, kx_aD G 8 qs), (m3, kx_aZ G 128 th), (m4, kx_aD G 128 fr), (m5, kx_aD G 128 to), (m6, kx_aZ G 16 fd), (m7, kx_aD G 64 sh), (m8, kx_aI G 6 ki), (m9, kx_aD G 6 li), (m10, kx_aI G 6 cl), (m11, kx_aD G 16 kx), (m12, kx_aD G 16 ky)] := hD
        refine lv_aload_n hx hb dX5_law_44 rfl (lv_at hl 0 rfl) ?_
        refine va_get (D := G.1) (ci := 6) (v := .int 1) (C := RX5) (T := TX5) (N := 19) hx hb hts hin_X5 hown hT.1 hP 0 rfl rfl 0 (by decide) hf_55 (fun _ h9 => h9) rfl dX5_law_45 ?_
        refine lv_if_le (x := 1) (tgt := 53) hx hb dX5_law_48 (by decide) (fun c_6 => ?_) (fun c_6 => ?_)
        · exact absurd c_6 (by decide)
        · refine lv_lconst (v := 0) hx hb dX5_law_51 (by decide) ?_
          have hcd : (kc_law x9 u9 y9) = 1 := by
            unfold kc_law
            rw [if_neg c_1, if_neg c_3, if_pos c_5]
          exact W.lret (v := 0) hx hb hr (fun t ht hW => ⟨⟨0, 1, rfl, ⟨hcd.symm, fun q => absurd (hcd.symm.trans q) (by decide)⟩, And.intro (by rw [ht]; exact hP) hD⟩, hS.F ht⟩) hS.2.2 dX5_law_52
      · have hnz := kx_u1 c_5
        refine lv_lload_n hx hb dX5_law_21 rfl (lv_at hl 2 rfl) ?_
        refine lv_ldc2 (v := 1000000) hx hb hown hc_152 dX5_law_22 ?_
        refine W.lcmp hx hb dX5_law_25 ?_
        refine kx_lgt (tgt := 36) hx hb dX5_law_26 (by decide) (fun c_7 => ?_) (fun c_7 => ?_)
        · refine lv_iconst (v := 1) hx hb dX5_law_36 (by decide) ?_
          refine lv_goto (tgt := 41) hx hb dX5_law_37 (by decide) ?_
          refine va_put (D := G.1) (ci := 6) (v := .int 1) (ty := .int) (C := RX5) (T := TX5) (N := 19) hx hb hts hin_X5 tyX5 tyX5_ok nmX5 hown hT.1 hP hD hS 0 rfl rfl 0 (by decide) hf_55 (fun _ h9 => h9) rfl (by decide +kernel) rfl rfl (Nat.le_of_ble_eq_true rfl) dX5_law_41 (fun H locs hP hD hS => ?_)
          have hP : va_P G.1 vwCl [(m0, .inr (6, [.int 1, .int (nI n), .int (nI v), .ref m1, .ref m2, .ref m3, .ref m4, .ref m5, .int kn, .int (nI ft), .ref m6, .ref m7, .int (nI ru), .ref m8, .ref m9, .ref m10, .int kp, .ref m11, .ref m12])), (m1, kx_aD G 8 ps), (m2, kx_aD G 8 qs), (m3, kx_aZ G 128 th), (m4, kx_aD G 128 fr), (m5, kx_aD G 128 to), (m6, kx_aZ G 16 fd), (m7, kx_aD G 64 sh), (m8, kx_aI G 6 ki), (m9, kx_aD G 6 li), (m10, kx_aI G 6 cl), (m11, kx_aD G 16 kx), (m12, kx_aD G 16 ky)] H := hP
          have hD : va_D A [(m0, .inr (6, [.int 1, .int (nI n), .int (nI v), .ref m1, .ref m2, .ref m3, .ref m4, .ref m5, .int kn, .int (nI ft), .ref m6, .ref m7, .int (nI ru), .ref m8, .ref m9, .ref m10, .int kp, .ref m11, .ref m12])), (m1, kx_aD G 8 ps), (m2, kx_aD G 8 qs), (m3, kx_aZ G 128 th), (m4, kx_aD G 128 fr), (m5, kx_aD G 128 to), (m6, kx_aZ G 16 fd), (m7, kx_aD G 64 sh), (m8, kx_aI G 6 ki), (m9, kx_aD G 6 li), (m10, kx_aI G 6 cl), (m11, kx_aD G 16 kx), (m12, kx_aD G 16 ky)] := hD
          refine lv_aload_n hx hb dX5_law_44 rfl (lv_at hl 0 rfl) ?_
          refine va_get (D := G.1) (ci := 6) (v := .int 1) (C := RX5) (T := TX5) (N := 19) hx hb hts hin_X5 hown hT.1 hP 0 rfl rfl 0 (by decide) hf_55 (fun _ h9 => h9) rfl dX5_law_45 ?_
          refine lv_if_le (x := 1) (tgt := 53) hx hb dX5_law_48 (by decide) (fun c_8 => ?_) (fun c_8 => ?_)
          · exact absurd c_8 (by decide)
          · refine lv_lconst (v := 0) hx hb dX5_law_51 (by decide) ?_
            have hcd : (kc_law x9 u9 y9) = 1 := by
              unfold kc_law
              rw [if_neg c_1, if_neg c_3, if_neg c_5, if_pos c_7]
            exact W.lret (v := 0) hx hb hr (fun t ht hW => ⟨⟨0, 1, rfl, ⟨hcd.symm, fun q => absurd (hcd.symm.trans q) (by decide)⟩, And.intro (by rw [ht]; exact hP) hD⟩, hS.F ht⟩) hS.2.2 dX5_law_52
        · refine lv_lload hx hb dX5_law_29 (lv_at hl 3 rfl) ?_
          refine lv_lconst (v := 0) hx hb dX5_law_31 (by decide) ?_
          refine W.lcmp hx hb dX5_law_32 ?_
          refine kx_lge (tgt := 40) hx hb dX5_law_33 (by decide) (fun c_9 => ?_) (fun c_9 => ?_)
          · refine lv_iconst (v := 0) hx hb dX5_law_40 (by decide) ?_
            refine va_put (D := G.1) (ci := 6) (v := .int 0) (ty := .int) (C := RX5) (T := TX5) (N := 19) hx hb hts hin_X5 tyX5 tyX5_ok nmX5 hown hT.1 hP hD hS 0 rfl rfl 0 (by decide) hf_55 (fun _ h9 => h9) rfl (by decide +kernel) rfl rfl (Nat.le_of_ble_eq_true rfl) dX5_law_41 (fun H locs hP hD hS => ?_)
            have hP : va_P G.1 vwCl [(m0, .inr (6, [.int 0, .int (nI n), .int (nI v), .ref m1, .ref m2, .ref m3, .ref m4, .ref m5, .int kn, .int (nI ft), .ref m6, .ref m7, .int (nI ru), .ref m8, .ref m9, .ref m10, .int kp, .ref m11, .ref m12])), (m1, kx_aD G 8 ps), (m2, kx_aD G 8 qs), (m3, kx_aZ G 128 th), (m4, kx_aD G 128 fr), (m5, kx_aD G 128 to), (m6, kx_aZ G 16 fd), (m7, kx_aD G 64 sh), (m8, kx_aI G 6 ki), (m9, kx_aD G 6 li), (m10, kx_aI G 6 cl), (m11, kx_aD G 16 kx), (m12, kx_aD G 16 ky)] H := hP
            have hD : va_D A [(m0, .inr (6, [.int 0, .int (nI n), .int (nI v), .ref m1, .ref m2, .ref m3, .ref m4, .ref m5, .int kn, .int (nI ft), .ref m6, .ref m7, .int (nI ru), .ref m8, .ref m9, .ref m10, .int kp, .ref m11, .ref m12])), (m1, kx_aD G 8 ps), (m2, kx_aD G 8 qs), (m3, kx_aZ G 128 th), (m4, kx_aD G 128 fr), (m5, kx_aD G 128 to), (m6, kx_aZ G 16 fd), (m7, kx_aD G 64 sh), (m8, kx_aI G 6 ki), (m9, kx_aD G 6 li), (m10, kx_aI G 6 cl), (m11, kx_aD G 16 kx), (m12, kx_aD G 16 ky)] := hD
            refine lv_aload_n hx hb dX5_law_44 rfl (lv_at hl 0 rfl) ?_
            refine va_get (D := G.1) (ci := 6) (v := .int 0) (C := RX5) (T := TX5) (N := 19) hx hb hts hin_X5 hown hT.1 hP 0 rfl rfl 0 (by decide) hf_55 (fun _ h9 => h9) rfl dX5_law_45 ?_
            refine lv_if_le (x := 0) (tgt := 53) hx hb dX5_law_48 (by decide) (fun c_10 => ?_) (fun c_10 => ?_)
            · refine lv_lload_n hx hb dX5_law_53 rfl (lv_at hl 1 rfl) ?_
              refine lv_lload_n hx hb dX5_law_54 rfl (lv_at hl 2 rfl) ?_
              refine lv_ldiv hx hb dX5_law_55 hnz ?_
              refine lv_lload_n hx hb dX5_law_56 rfl (lv_at hl 2 rfl) ?_
              refine lv_lmul hx hb dX5_law_57 ?_
              refine lv_lstore (lv' := [(7, .long ((x9 / u9) * u9)), (0, .ref m0), (1, .long x9), (3, .long u9), (5, .long y9)]) hx hb dX5_law_58 hl (by decide) rfl (fun ls hl => ?_)
              refine lv_lload hx hb dX5_law_60 (lv_at hl 0 rfl) ?_
              refine lv_lload hx hb dX5_law_62 (lv_at hl 4 rfl) ?_
              refine W.lcmp hx hb dX5_law_64 ?_
              refine kx_lge (tgt := 72) hx hb dX5_law_65 (by decide) (fun c_11 => ?_) (fun c_11 => ?_)
              · refine lv_lload hx hb dX5_law_72 (lv_at hl 0 rfl) ?_
                have hcd : (kc_law x9 u9 y9) = 0 := by
                  unfold kc_law
                  rw [if_neg c_1, if_neg c_3, if_neg c_5, if_neg c_7, if_pos c_9]
                exact W.lret (v := (x9 / u9) * u9) hx hb hr (fun t ht hW => ⟨⟨(x9 / u9) * u9, 0, rfl, ⟨hcd.symm, fun _ => (if_pos c_11).symm⟩, And.intro (by rw [ht]; exact hP) hD⟩, hS.F ht⟩) hS.2.2 dX5_law_74
              · refine lv_lconst (v := 0) hx hb dX5_law_68 (by decide) ?_
                refine lv_goto (tgt := 74) hx hb dX5_law_69 (by decide) ?_
                have hcd : (kc_law x9 u9 y9) = 0 := by
                  unfold kc_law
                  rw [if_neg c_1, if_neg c_3, if_neg c_5, if_neg c_7, if_pos c_9]
                exact W.lret (v := 0) hx hb hr (fun t ht hW => ⟨⟨0, 0, rfl, ⟨hcd.symm, fun _ => (if_neg c_11).symm⟩, And.intro (by rw [ht]; exact hP) hD⟩, hS.F ht⟩) hS.2.2 dX5_law_74
            · exact absurd c_10 (by decide)
          · refine lv_iconst (v := 1) hx hb dX5_law_36 (by decide) ?_
            refine lv_goto (tgt := 41) hx hb dX5_law_37 (by decide) ?_
            refine va_put (D := G.1) (ci := 6) (v := .int 1) (ty := .int) (C := RX5) (T := TX5) (N := 19) hx hb hts hin_X5 tyX5 tyX5_ok nmX5 hown hT.1 hP hD hS 0 rfl rfl 0 (by decide) hf_55 (fun _ h9 => h9) rfl (by decide +kernel) rfl rfl (Nat.le_of_ble_eq_true rfl) dX5_law_41 (fun H locs hP hD hS => ?_)
            have hP : va_P G.1 vwCl [(m0, .inr (6, [.int 1, .int (nI n), .int (nI v), .ref m1, .ref m2, .ref m3, .ref m4, .ref m5, .int kn, .int (nI ft), .ref m6, .ref m7, .int (nI ru), .ref m8, .ref m9, .ref m10, .int kp, .ref m11, .ref m12])), (m1, kx_aD G 8 ps), (m2, kx_aD G 8 qs), (m3, kx_aZ G 128 th), (m4, kx_aD G 128 fr), (m5, kx_aD G 128 to), (m6, kx_aZ G 16 fd), (m7, kx_aD G 64 sh), (m8, kx_aI G 6 ki), (m9, kx_aD G 6 li), (m10, kx_aI G 6 cl), (m11, kx_aD G 16 kx), (m12, kx_aD G 16 ky)] H := hP
            have hD : va_D A [(m0, .inr (6, [.int 1, .int (nI n), .int (nI v), .ref m1, .ref m2, .ref m3, .ref m4, .ref m5, .int kn, .int (nI ft), .ref m6, .ref m7, .int (nI ru), .ref m8, .ref m9, .ref m10, .int kp, .ref m11, .ref m12])), (m1, kx_aD G 8 ps), (m2, kx_aD G 8 qs), (m3, kx_aZ G 128 th), (m4, kx_aD G 128 fr), (m5, kx_aD G 128 to), (m6, kx_aZ G 16 fd), (m7, kx_aD G 64 sh), (m8, kx_aI G 6 ki), (m9, kx_aD G 6 li), (m10, kx_aI G 6 cl), (m11, kx_aD G 16 kx), (m12, kx_aD G 16 ky)] := hD
            refine lv_aload_n hx hb dX5_law_44 rfl (lv_at hl 0 rfl) ?_
            refine va_get (D := G.1) (ci := 6) (v := .int 1) (C := RX5) (T := TX5) (N := 19) hx hb hts hin_X5 hown hT.1 hP 0 rfl rfl 0 (by decide) hf_55 (fun _ h9 => h9) rfl dX5_law_45 ?_
            refine lv_if_le (x := 1) (tgt := 53) hx hb dX5_law_48 (by decide) (fun c_12 => ?_) (fun c_12 => ?_)
            · exact absurd c_12 (by decide)
            · refine lv_lconst (v := 0) hx hb dX5_law_51 (by decide) ?_
              have hcd : (kc_law x9 u9 y9) = 1 := by
                unfold kc_law
                rw [if_neg c_1, if_neg c_3, if_neg c_5, if_neg c_7, if_neg c_9]
              exact W.lret (v := 0) hx hb hr (fun t ht hW => ⟨⟨0, 1, rfl, ⟨hcd.symm, fun q => absurd (hcd.symm.trans q) (by decide)⟩, And.intro (by rw [ht]; exact hP) hD⟩, hS.F ht⟩) hS.2.2 dX5_law_52
