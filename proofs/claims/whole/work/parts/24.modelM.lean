set_option maxHeartbeats 4000000 in
set_option maxRecDepth 100000 in
/-- MENDED: a slice -/
theorem c_X5_mend (l : Launch) (G : kx_G) (sz : Nat) (m0 : Nat) (m1 : Nat) (m2 : Nat) (m3 : Nat) (m4 : Nat) (m5 : Nat) (m6 : Nat) (m7 : Nat) (m8 : Nat) (m9 : Nat) (m10 : Nat) (m11 : Nat) (m12 : Nat) (n : Nat) (v : Nat) (tw : Int32) (ps : Nat → UInt64) (qs : Nat → UInt64) (th : Nat → Int32) (fr : Nat → UInt64) (to : Nat → UInt64) (kn : Int32) (ft : Nat) (fd : Nat → Int32) (sh : Nat → UInt64) (ru : Nat) (ki : Nat → Int32) (li : Nat → UInt64) (cl : Nat → Int32) (kp : Int32) (kx : Nat → UInt64) (ky : Nat → UInt64) (i0 : Nat) (hb_ps : ∀ j, fx_bd 5 (ps j)) (hb_qs : ∀ j, fx_bd 5 (qs j)) (hb_fr : ∀ j, fx_bd 11 (fr j)) (hb_to : ∀ j, fx_bd 11 (to j)) (hb_sh : ∀ j, fx_bd 220 (sh j)) (hb_kx : ∀ j, fx_bd 130 (kx j)) (hb_ky : ∀ j, fx_bd 130 (ky j)) (hn1 : 1 ≤ n) (hn : n ≤ 16) (hi : i0 < n) (he : ∃ j, j < n ∧ fd j ≠ 0) (h0_ : fd i0 = 0) (hF_s : ∀ j, j < n → fd j ≠ 0 → fx_bd 95 (sh (4 * j)) ∧ fx_bd 95 (sh (4 * j + 1)) ∧ fx_bd 95 (sh (4 * j + 2))) : Met l yX5_mend wsX5_mend ({ frames := 1, cells := 0, slots := 0, locals := 29 } : Room) (kx_PM G [.ref m0, .int (nI i0)] sz [(m0, .inr (6, [.int tw, .int (nI n), .int (nI v), .ref m1, .ref m2, .ref m3, .ref m4, .ref m5, .int kn, .int (nI ft), .ref m6, .ref m7, .int (nI ru), .ref m8, .ref m9, .ref m10, .int kp, .ref m11, .ref m12])), (m1, kx_aD G 8 ps), (m2, kx_aD G 8 qs), (m3, kx_aZ G 128 th), (m4, kx_aD G 128 fr), (m5, kx_aD G 128 to), (m6, kx_aZ G 16 fd), (m7, kx_aD G 64 sh), (m8, kx_aI G 6 ki), (m9, kx_aD G 6 li), (m10, kx_aI G 6 cl), (m11, kx_aD G 16 kx), (m12, kx_aD G 16 ky)]) (va_Qv (fun (_ : Unit) => True) (kx_B G (va_A [(m0, .inr (6, [.int tw, .int (nI n), .int (nI v), .ref m1, .ref m2, .ref m3, .ref m4, .ref m5, .int kn, .int (nI ft), .ref m6, .ref m7, .int (nI ru), .ref m8, .ref m9, .ref m10, .int kp, .ref m11, .ref m12])), (m1, kx_aD G 8 ps), (m2, kx_aD G 8 qs), (m3, kx_aZ G 128 th), (m4, kx_aD G 128 fr), (m5, kx_aD G 128 to), (m6, kx_aZ G 16 fd), (m7, kx_aD G 64 sh), (m8, kx_aI G 6 ki), (m9, kx_aD G 6 li), (m10, kx_aI G 6 cl), (m11, kx_aD G 16 kx), (m12, kx_aD G 16 ky)] sz) (fun u : Unit => [(m0, .inr (6, [.int tw, .int (nI n), .int (nI v), .ref m1, .ref m2, .ref m3, .ref m4, .ref m5, .int kn, .int (nI ft), .ref m6, .ref m7, .int (nI ru), .ref m8, .ref m9, .ref m10, .int kp, .ref m11, .ref m12])), (m1, kx_aD G 8 ps), (m2, kx_aD G 8 qs), (m3, kx_aZ G 128 th), (m4, kx_aD G 128 fr), (m5, kx_aD G 128 to), (m6, kx_aZ G 16 fd), (m7, kx_aD G 64 (kx_st sh i0 (kx_btw (fun j => sh (4 * j)) i0 (kx_sa fd n i0) (kx_sb fd n i0)) (kx_btw (fun j => sh (4 * j + 1)) i0 (kx_sa fd n i0) (kx_sb fd n i0)) (kx_btw (fun j => sh (4 * j + 2)) i0 (kx_sa fd n i0) (kx_sb fd n i0)) FP.dconst0)), (m8, kx_aI G 6 ki), (m9, kx_aD G 6 li), (m10, kx_aI G 6 cl), (m11, kx_aD G 16 kx), (m12, kx_aD G 16 ky)])) (va_A [(m0, .inr (6, [.int tw, .int (nI n), .int (nI v), .ref m1, .ref m2, .ref m3, .ref m4, .ref m5, .int kn, .int (nI ft), .ref m6, .ref m7, .int (nI ru), .ref m8, .ref m9, .ref m10, .int kp, .ref m11, .ref m12])), (m1, kx_aD G 8 ps), (m2, kx_aD G 8 qs), (m3, kx_aZ G 128 th), (m4, kx_aD G 128 fr), (m5, kx_aD G 128 to), (m6, kx_aZ G 16 fd), (m7, kx_aD G 64 sh), (m8, kx_aI G 6 ki), (m9, kx_aD G 6 li), (m10, kx_aI G 6 cl), (m11, kx_aD G 16 kx), (m12, kx_aD G 16 ky)] sz)) 0 0 (va_A [(m0, .inr (6, [.int tw, .int (nI n), .int (nI v), .ref m1, .ref m2, .ref m3, .ref m4, .ref m5, .int kn, .int (nI ft), .ref m6, .ref m7, .int (nI ru), .ref m8, .ref m9, .ref m10, .int kp, .ref m11, .ref m12])), (m1, kx_aD G 8 ps), (m2, kx_aD G 8 qs), (m3, kx_aZ G 128 th), (m4, kx_aD G 128 fr), (m5, kx_aD G 128 to), (m6, kx_aZ G 16 fd), (m7, kx_aD G 64 sh), (m8, kx_aI G 6 ki), (m9, kx_aD G 6 li), (m10, kx_aI G 6 cl), (m11, kx_aD G 16 kx), (m12, kx_aD G 16 ky)] sz) := by
  refine Met.ofW (cc := cX5_mend) (maxL := 5) (ret := none) (by decide) rfl ?_
  intro p e s m args below meth c s₁ B hml hv
  obtain ⟨rfl, hsz, hP, hT, hD0⟩ := hv
  have hx := B.exec
  have hb := B.bytes
  have hr := B.returns
  have hts := atoms_spec (ws := wsX5_mend) B.pre
  have hown : s.vm.findClass RX5 = some m.cls := findClass_of_methodNamed B.named
  have hlocks := B.notSynchronized
  have hf_48 := hts (.fieldLink RX5 48 "StemShapesModel" "slices" "I") (by decide +kernel)
  have hin_X5 : ∀ w ∈ wsX50, w ∈ wsX5_mend := by decide +kernel
  have hf_26 := hts (.fieldLink RX5 26 "StemShapesModel" "fitted" "[Z") (by decide +kernel)
  have hf_29 := hts (.fieldLink RX5 29 "StemShapesModel" "shapes" "[D") (by decide +kernel)
  subst hsz
  have hD := hD0.self (sz := s.heap.size)
  generalize hAe : va_A [(m0, .inr (6, [.int tw, .int (nI n), .int (nI v), .ref m1, .ref m2, .ref m3, .ref m4, .ref m5, .int kn, .int (nI ft), .ref m6, .ref m7, .int (nI ru), .ref m8, .ref m9, .ref m10, .int kp, .ref m11, .ref m12])), (m1, kx_aD G 8 ps), (m2, kx_aD G 8 qs), (m3, kx_aZ G 128 th), (m4, kx_aD G 128 fr), (m5, kx_aD G 128 to), (m6, kx_aZ G 16 fd), (m7, kx_aD G 64 sh), (m8, kx_aI G 6 ki), (m9, kx_aD G 6 li), (m10, kx_aI G 6 cl), (m11, kx_aD G 16 kx), (m12, kx_aD G 16 ky)] s.heap.size = A at hD ⊢
  have hA : ∀ q : Nat, s.heap.size ≤ q → A q := fun q h => by rw [← hAe]; exact Or.inr h
  have hS : va_S A s.heap s.heap [] := va_S.rf
  have hl := lv_entry ([.ref m0, .int (nI i0)]) (n := 5) (Nat.le_of_ble_eq_true rfl)
  rw [lg_entry_eq]
  generalize (lg_sl ([.ref m0, .int (nI i0)]) ++ List.replicate (5 - (lg_sl ([.ref m0, .int (nI i0)])).length) Slot.unset).toArray = ls at hl ⊢
  have hl : lv_has ls 5 [(0, .ref m0), (1, .int (nI i0))] := hl
  refine lv_iload_n hx hb dX5_mend_0 rfl (lv_at hl 1 rfl) ?_
  refine lv_istore_n (lv' := [(2, .int (nI i0)), (0, .ref m0), (1, .int (nI i0))]) hx hb dX5_mend_1 rfl hl (by decide) rfl (fun ls hl => ?_)
  have loop_2 : ∀ (k i : Nat) (x9 : Int32), i = k → x9 = nI i - 1 → (i ≤ i0 + 1) → (kx_bef fd (i0 + 1) = kx_bef fd i) → ∀ (H : Heap) (locs : List Loc), va_P G.1 vwCl [(m0, .inr (6, [.int tw, .int (nI n), .int (nI v), .ref m1, .ref m2, .ref m3, .ref m4, .ref m5, .int kn, .int (nI ft), .ref m6, .ref m7, .int (nI ru), .ref m8, .ref m9, .ref m10, .int kp, .ref m11, .ref m12])), (m1, kx_aD G 8 ps), (m2, kx_aD G 8 qs), (m3, kx_aZ G 128 th), (m4, kx_aD G 128 fr), (m5, kx_aD G 128 to), (m6, kx_aZ G 16 fd), (m7, kx_aD G 64 sh), (m8, kx_aI G 6 ki), (m9, kx_aD G 6 li), (m10, kx_aI G 6 cl), (m11, kx_aD G 16 kx), (m12, kx_aD G 16 ky)] H → va_D A [(m0, .inr (6, [.int tw, .int (nI n), .int (nI v), .ref m1, .ref m2, .ref m3, .ref m4, .ref m5, .int kn, .int (nI ft), .ref m6, .ref m7, .int (nI ru), .ref m8, .ref m9, .ref m10, .int kp, .ref m11, .ref m12])), (m1, kx_aD G 8 ps), (m2, kx_aD G 8 qs), (m3, kx_aZ G 128 th), (m4, kx_aD G 128 fr), (m5, kx_aD G 128 to), (m6, kx_aZ G 16 fd), (m7, kx_aD G 64 sh), (m8, kx_aI G 6 ki), (m9, kx_aD G 6 li), (m10, kx_aI G 6 cl), (m11, kx_aD G 16 kx), (m12, kx_aD G 16 ky)] → va_S A s.heap H locs → ∀ ls : Array Slot, lv_has ls 5 [(2, .int x9), (1, .int (nI i0)), (0, .ref m0)] → W p l e (headSpec wsX5_mend ({ frames := 1, cells := 0, slots := 0, locals := 29 } : Room)).room s m [.ref m0, .int (nI i0)].toArray below meth c H locs 0 0 (MQ below (va_Qv (fun (_ : Unit) => True) (kx_B G A (fun u : Unit => [(m0, .inr (6, [.int tw, .int (nI n), .int (nI v), .ref m1, .ref m2, .ref m3, .ref m4, .ref m5, .int kn, .int (nI ft), .ref m6, .ref m7, .int (nI ru), .ref m8, .ref m9, .ref m10, .int kp, .ref m11, .ref m12])), (m1, kx_aD G 8 ps), (m2, kx_aD G 8 qs), (m3, kx_aZ G 128 th), (m4, kx_aD G 128 fr), (m5, kx_aD G 128 to), (m6, kx_aZ G 16 fd), (m7, kx_aD G 64 (kx_st sh i0 (kx_btw (fun j => sh (4 * j)) i0 (kx_sa fd n i0) (kx_sb fd n i0)) (kx_btw (fun j => sh (4 * j + 1)) i0 (kx_sa fd n i0) (kx_sb fd n i0)) (kx_btw (fun j => sh (4 * j + 2)) i0 (kx_sa fd n i0) (kx_sb fd n i0)) FP.dconst0)), (m8, kx_aI G 6 ki), (m9, kx_aD G 6 li), (m10, kx_aI G 6 cl), (m11, kx_aD G 16 kx), (m12, kx_aD G 16 ky)])) A) [.ref m0, .int (nI i0)].toArray s 0 0 A) (F0 m 2 ls []) := by
    intro k
    induction k with
    | zero =>
      intro i x9 htot e_x9 hle hq H locs hP hD hS ls hl
      subst e_x9
      refine lv_iload_n hx hb dX5_mend_2 rfl (lv_at hl 0 rfl) ?_
      refine lv_if_lt (x := nI i - 1) (tgt := 21) hx hb dX5_mend_3 (by decide) (fun c_1 => ?_) (fun c_1 => ?_)
      · have hqa : kx_bef fd i0 = -1 := by rw [← kx_bef_0 h0_, hq, htot]; rfl
        have hl : lv_has ls 5 [(2, .int (-1)), (1, .int (nI i0)), (0, .ref m0)] := by rw [htot] at hl; exact hl
        refine lv_iload_n hx hb dX5_mend_21 rfl (lv_at hl 1 rfl) ?_
        refine lv_istore_n (lv' := [(3, .int (nI i0)), (2, .int (-1)), (1, .int (nI i0)), (0, .ref m0)]) hx hb dX5_mend_22 rfl hl (by decide) rfl (fun ls hl => ?_)
        have loop_23 : ∀ (k2 j : Nat) , j + k2 = n → (kx_beh fd n (n - i0) = kx_beh fd n k2) → (i0 ≤ j) → ∀ (H : Heap) (locs : List Loc), va_P G.1 vwCl [(m0, .inr (6, [.int tw, .int (nI n), .int (nI v), .ref m1, .ref m2, .ref m3, .ref m4, .ref m5, .int kn, .int (nI ft), .ref m6, .ref m7, .int (nI ru), .ref m8, .ref m9, .ref m10, .int kp, .ref m11, .ref m12])), (m1, kx_aD G 8 ps), (m2, kx_aD G 8 qs), (m3, kx_aZ G 128 th), (m4, kx_aD G 128 fr), (m5, kx_aD G 128 to), (m6, kx_aZ G 16 fd), (m7, kx_aD G 64 sh), (m8, kx_aI G 6 ki), (m9, kx_aD G 6 li), (m10, kx_aI G 6 cl), (m11, kx_aD G 16 kx), (m12, kx_aD G 16 ky)] H → va_D A [(m0, .inr (6, [.int tw, .int (nI n), .int (nI v), .ref m1, .ref m2, .ref m3, .ref m4, .ref m5, .int kn, .int (nI ft), .ref m6, .ref m7, .int (nI ru), .ref m8, .ref m9, .ref m10, .int kp, .ref m11, .ref m12])), (m1, kx_aD G 8 ps), (m2, kx_aD G 8 qs), (m3, kx_aZ G 128 th), (m4, kx_aD G 128 fr), (m5, kx_aD G 128 to), (m6, kx_aZ G 16 fd), (m7, kx_aD G 64 sh), (m8, kx_aI G 6 ki), (m9, kx_aD G 6 li), (m10, kx_aI G 6 cl), (m11, kx_aD G 16 kx), (m12, kx_aD G 16 ky)] → va_S A s.heap H locs → ∀ ls : Array Slot, lv_has ls 5 [(3, .int (nI j)), (2, .int (-1)), (1, .int (nI i0)), (0, .ref m0)] → W p l e (headSpec wsX5_mend ({ frames := 1, cells := 0, slots := 0, locals := 29 } : Room)).room s m [.ref m0, .int (nI i0)].toArray below meth c H locs 0 0 (MQ below (va_Qv (fun (_ : Unit) => True) (kx_B G A (fun u : Unit => [(m0, .inr (6, [.int tw, .int (nI n), .int (nI v), .ref m1, .ref m2, .ref m3, .ref m4, .ref m5, .int kn, .int (nI ft), .ref m6, .ref m7, .int (nI ru), .ref m8, .ref m9, .ref m10, .int kp, .ref m11, .ref m12])), (m1, kx_aD G 8 ps), (m2, kx_aD G 8 qs), (m3, kx_aZ G 128 th), (m4, kx_aD G 128 fr), (m5, kx_aD G 128 to), (m6, kx_aZ G 16 fd), (m7, kx_aD G 64 (kx_st sh i0 (kx_btw (fun j => sh (4 * j)) i0 (kx_sa fd n i0) (kx_sb fd n i0)) (kx_btw (fun j => sh (4 * j + 1)) i0 (kx_sa fd n i0) (kx_sb fd n i0)) (kx_btw (fun j => sh (4 * j + 2)) i0 (kx_sa fd n i0) (kx_sb fd n i0)) FP.dconst0)), (m8, kx_aI G 6 ki), (m9, kx_aD G 6 li), (m10, kx_aI G 6 cl), (m11, kx_aD G 16 kx), (m12, kx_aD G 16 ky)])) A) [.ref m0, .int (nI i0)].toArray s 0 0 A) (F0 m 23 ls []) := by
          intro k2
          induction k2 with
          | zero =>
            intro j htot hq2 hji H locs hP hD hS ls hl
            refine lv_iload_n hx hb dX5_mend_23 rfl (lv_at hl 0 rfl) ?_
            refine lv_aload_n hx hb dX5_mend_24 rfl (lv_at hl 3 rfl) ?_
            refine va_get (D := G.1) (ci := 6) (v := .int (nI n)) (C := RX5) (T := TX5) (N := 19) hx hb hts hin_X5 hown hT.1 hP 0 rfl rfl 1 (by decide) hf_48 (fun _ h9 => h9) rfl dX5_mend_25 ?_
            refine lv_icmp_ge (x := nI j) (y := nI n) (tgt := 46) hx hb dX5_mend_28 (by decide) (fun c_2 => ?_) (fun c_2 => ?_)
            · have c_2 : n ≤ j := (nI_leI (a := n) (b := j) (by omega) (by omega)).mp c_2
              have hqb : kx_beh fd n (n - (i0 + 1)) = -1 := by rw [← kx_beh_f (k := n - (i0 + 1)) (by omega) h0_, show n - (i0 + 1) + 1 = n - i0 from by omega, hq2]; rfl
              have hsl := kx_sel_of hn hi h0_ he
              exact absurd (show kx_sel (-1) (-1) i0 (kx_sa fd n i0) (kx_sb fd n i0) n from by have h9 := hsl.1; rw [hqa, hqb] at h9; exact h9) (kx_sel_n.resolve_right (by omega))
            · have c_2 : ¬ n ≤ j := fun q => c_2 ((nI_leI (a := n) (b := j) (by omega) (by omega)).mpr q)
              exfalso; omega
          | succ k2 ih =>
            intro j htot hq2 hji H locs hP hD hS ls hl
            refine lv_iload_n hx hb dX5_mend_23 rfl (lv_at hl 0 rfl) ?_
            refine lv_aload_n hx hb dX5_mend_24 rfl (lv_at hl 3 rfl) ?_
            refine va_get (D := G.1) (ci := 6) (v := .int (nI n)) (C := RX5) (T := TX5) (N := 19) hx hb hts hin_X5 hown hT.1 hP 0 rfl rfl 1 (by decide) hf_48 (fun _ h9 => h9) rfl dX5_mend_25 ?_
            refine lv_icmp_ge (x := nI j) (y := nI n) (tgt := 46) hx hb dX5_mend_28 (by decide) (fun c_3 => ?_) (fun c_3 => ?_)
            · have c_3 : n ≤ j := (nI_leI (a := n) (b := j) (by omega) (by omega)).mp c_3
              exfalso; omega
            · have c_3 : ¬ n ≤ j := fun q => c_3 ((nI_leI (a := n) (b := j) (by omega) (by omega)).mpr q)
              refine lv_aload_n hx hb dX5_mend_31 rfl (lv_at hl 3 rfl) ?_
              refine va_get (D := G.1) (ci := 6) (v := .ref m6) (C := RX5) (T := TX5) (N := 19) hx hb hts hin_X5 hown hT.1 hP 0 rfl rfl 10 (by decide) hf_26 (fun _ h9 => h9) rfl dX5_mend_32 ?_
              refine lv_iload_n hx hb dX5_mend_35 rfl (lv_at hl 0 rfl) ?_
              refine kx_zald hx hb hT hP 6 rfl j (by omega) (by omega) dX5_mend_36 ?_
              refine lv_if_ne (x := fd j) (tgt := 46) hx hb dX5_mend_37 (by decide) (fun c_4 => ?_) (fun c_4 => ?_)
              · have hqb : kx_beh fd n (n - (i0 + 1)) = nI j := by rw [← kx_beh_f (k := n - (i0 + 1)) (by omega) h0_, show n - (i0 + 1) + 1 = n - i0 from by omega, hq2]; exact kx_beh_t (by omega) c_4
                have hsl := kx_sel_of hn hi h0_ he
                have hAB := kx_sel_b2 (by have h9 := hsl.1; rw [hqa, hqb] at h9; exact h9) (by omega) (by omega)
                have hFa := hF_s j (by omega) (by rw [← hAB.1]; exact hsl.2.1)
                refine lv_iload_n hx hb dX5_mend_46 rfl (lv_at hl 1 rfl) ?_
                refine lv_if_lt (x := (-1)) (tgt := 91) hx hb dX5_mend_47 (by decide) (fun c_5 => ?_) (fun c_5 => ?_)
                · refine lv_iload_n hx hb dX5_mend_91 rfl (lv_at hl 1 rfl) ?_
                  refine lv_if_lt (x := (-1)) (tgt := 99) hx hb dX5_mend_92 (by decide) (fun c_6 => ?_) (fun c_6 => ?_)
                  · refine lv_iload_n hx hb dX5_mend_99 rfl (lv_at hl 0 rfl) ?_
                    refine lv_istore (lv' := [(4, .int (nI j)), (3, .int (nI j)), (2, .int (-1)), (1, .int (nI i0)), (0, .ref m0)]) hx hb dX5_mend_100 hl (by decide) rfl (fun ls hl => ?_)
                    refine lv_aload_n hx hb dX5_mend_102 rfl (lv_at hl 4 rfl) ?_
                    refine lv_iload_n hx hb dX5_mend_103 rfl (lv_at hl 3 rfl) ?_
                    refine lv_aload_n hx hb dX5_mend_104 rfl (lv_at hl 4 rfl) ?_
                    refine va_get (D := G.1) (ci := 6) (v := .ref m7) (C := RX5) (T := TX5) (N := 19) hx hb hts hin_X5 hown hT.1 hP 0 rfl rfl 11 (by decide) hf_29 (fun _ h9 => h9) rfl dX5_mend_105 ?_
                    refine lv_iconst (v := 4) hx hb dX5_mend_108 (by decide) ?_
                    refine lv_iload hx hb dX5_mend_109 (lv_at hl 0 rfl) ?_
                    refine lv_imul hx hb dX5_mend_111 ?_
                    refine kx_ei (y := nI (4 * j)) (pk_mul 4 j) ?_
                    refine kx_dald hx hb hT hP 7 rfl (4 * j) (by omega) (by omega) dX5_mend_112 ?_
                    refine lv_aload_n hx hb dX5_mend_113 rfl (lv_at hl 4 rfl) ?_
                    refine va_get (D := G.1) (ci := 6) (v := .ref m7) (C := RX5) (T := TX5) (N := 19) hx hb hts hin_X5 hown hT.1 hP 0 rfl rfl 11 (by decide) hf_29 (fun _ h9 => h9) rfl dX5_mend_114 ?_
                    refine lv_iconst (v := 4) hx hb dX5_mend_117 (by decide) ?_
                    refine lv_iload hx hb dX5_mend_118 (lv_at hl 0 rfl) ?_
                    refine lv_imul hx hb dX5_mend_120 ?_
                    refine kx_ei (y := nI (4 * j)) (pk_mul 4 j) ?_
                    refine lv_iconst (v := 1) hx hb dX5_mend_121 (by decide) ?_
                    refine lv_iadd hx hb dX5_mend_122 ?_
                    refine kx_ei (y := nI ((4 * j) + 1)) (nI_add (4 * j) 1) ?_
                    refine kx_dald hx hb hT hP 7 rfl ((4 * j) + 1) (by omega) (by omega) dX5_mend_123 ?_
                    refine lv_aload_n hx hb dX5_mend_124 rfl (lv_at hl 4 rfl) ?_
                    refine va_get (D := G.1) (ci := 6) (v := .ref m7) (C := RX5) (T := TX5) (N := 19) hx hb hts hin_X5 hown hT.1 hP 0 rfl rfl 11 (by decide) hf_29 (fun _ h9 => h9) rfl dX5_mend_125 ?_
                    refine lv_iconst (v := 4) hx hb dX5_mend_128 (by decide) ?_
                    refine lv_iload hx hb dX5_mend_129 (lv_at hl 0 rfl) ?_
                    refine lv_imul hx hb dX5_mend_131 ?_
                    refine kx_ei (y := nI (4 * j)) (pk_mul 4 j) ?_
                    refine lv_iconst (v := 2) hx hb dX5_mend_132 (by decide) ?_
                    refine lv_iadd hx hb dX5_mend_133 ?_
                    refine kx_ei (y := nI ((4 * j) + 2)) (nI_add (4 * j) 2) ?_
                    refine kx_dald hx hb hT hP 7 rfl ((4 * j) + 2) (by omega) (by omega) dX5_mend_134 ?_
                    refine lv_dconst0 hx hb dX5_mend_135 ?_
                    refine kx_mv (va_runV (As := [.int (nI i0), .double (sh (4 * j)), .double (sh ((4 * j) + 1)), .double (sh ((4 * j) + 2)), .double FP.dconst0]) (rest := []) ⟨hx, hb, hml, hown, hts⟩ (c_X5_set l G _ (m0 := m0) (m1 := m1) (m2 := m2) (m3 := m3) (m4 := m4) (m5 := m5) (m6 := m6) (m7 := m7) (m8 := m8) (m9 := m9) (m10 := m10) (m11 := m11) (m12 := m12) (n := n) (v := v) (tw := tw) (ps := ps) (qs := qs) (th := th) (fr := fr) (to := to) (kn := kn) (ft := ft) (fd := fd) (sh := sh) (ru := ru) (ki := ki) (li := li) (cl := cl) (kp := kp) (kx := kx) (ky := ky) (i := i0) (x := sh (4 * j)) (y := sh ((4 * j) + 1)) (r9 := sh ((4 * j) + 2)) (e9 := FP.dconst0) (hb_ps := hb_ps) (hb_qs := hb_qs) (hb_fr := hb_fr) (hb_to := hb_to) (hb_sh := hb_sh) (hb_kx := hb_kx) (hb_ky := hb_ky) (hi := (by omega)) (hx_b := (hb_sh _)) (hy_b := (hb_sh _)) (hr_b := (hb_sh _)) (he_b := (fx_0b.mono (by omega)))) (cwV 5 hts gX5_mend_X5_set rfl rfl rfl (by decide +kernel) ⟨Nat.le_of_ble_eq_true rfl, Nat.le_of_ble_eq_true rfl⟩) ⟨kx_PMb, va_recv hT.1 hP (ci := 6) (q0 := 0) rfl rfl, kx_pm hT hP hD [0, 1, 2, 3, 4, 5, 6, 7, 8, 9, 10, 11, 12] rfl rfl rfl⟩ rfl rfl hl.1 rfl (lv_room (Nat.le_of_ble_eq_true rfl)) dX5_mend_136 ⟨Nat.zero_le _, Nat.zero_le _⟩) hP hD hS hA [0, 1, 2, 3, 4, 5, 6, 7, 8, 9, 10, 11, 12] rfl rfl (fun _ => rfl) (fun u_9 H locs hw_8 hP hD hS => ?_)
                    have est : kx_st sh i0 (sh (4 * j)) (sh ((4 * j) + 1)) (sh ((4 * j) + 2)) FP.dconst0 = kx_st sh i0 (kx_btw (fun j => sh (4 * j)) i0 (kx_sa fd n i0) (kx_sb fd n i0)) (kx_btw (fun j => sh (4 * j + 1)) i0 (kx_sa fd n i0) (kx_sb fd n i0)) (kx_btw (fun j => sh (4 * j + 2)) i0 (kx_sa fd n i0) (kx_sb fd n i0)) FP.dconst0 := by
                      rw [hAB.1, hAB.2.1]
                      unfold kx_btw
                      first | (rw [if_pos rfl, if_pos rfl, if_pos rfl]; done) | (rw [if_neg (by omega), if_neg (by omega), if_neg (by omega)]; done) | (rw [if_pos rfl, if_pos rfl, if_pos rfl]; rfl) | (rw [if_neg (by omega), if_neg (by omega), if_neg (by omega)]; rfl)
                    have hP : va_P G.1 vwCl [(m0, .inr (6, [.int tw, .int (nI n), .int (nI v), .ref m1, .ref m2, .ref m3, .ref m4, .ref m5, .int kn, .int (nI ft), .ref m6, .ref m7, .int (nI ru), .ref m8, .ref m9, .ref m10, .int kp, .ref m11, .ref m12])), (m1, kx_aD G 8 ps), (m2, kx_aD G 8 qs), (m3, kx_aZ G 128 th), (m4, kx_aD G 128 fr), (m5, kx_aD G 128 to), (m6, kx_aZ G 16 fd), (m7, kx_aD G 64 (kx_st sh i0 (kx_btw (fun j => sh (4 * j)) i0 (kx_sa fd n i0) (kx_sb fd n i0)) (kx_btw (fun j => sh (4 * j + 1)) i0 (kx_sa fd n i0) (kx_sb fd n i0)) (kx_btw (fun j => sh (4 * j + 2)) i0 (kx_sa fd n i0) (kx_sb fd n i0)) FP.dconst0)), (m8, kx_aI G 6 ki), (m9, kx_aD G 6 li), (m10, kx_aI G 6 cl), (m11, kx_aD G 16 kx), (m12, kx_aD G 16 ky)] H := by rw [← est]; exact hP
                    have hD : va_D A [(m0, .inr (6, [.int tw, .int (nI n), .int (nI v), .ref m1, .ref m2, .ref m3, .ref m4, .ref m5, .int kn, .int (nI ft), .ref m6, .ref m7, .int (nI ru), .ref m8, .ref m9, .ref m10, .int kp, .ref m11, .ref m12])), (m1, kx_aD G 8 ps), (m2, kx_aD G 8 qs), (m3, kx_aZ G 128 th), (m4, kx_aD G 128 fr), (m5, kx_aD G 128 to), (m6, kx_aZ G 16 fd), (m7, kx_aD G 64 (kx_st sh i0 (kx_btw (fun j => sh (4 * j)) i0 (kx_sa fd n i0) (kx_sb fd n i0)) (kx_btw (fun j => sh (4 * j + 1)) i0 (kx_sa fd n i0) (kx_sb fd n i0)) (kx_btw (fun j => sh (4 * j + 2)) i0 (kx_sa fd n i0) (kx_sb fd n i0)) FP.dconst0)), (m8, kx_aI G 6 ki), (m9, kx_aD G 6 li), (m10, kx_aI G 6 cl), (m11, kx_aD G 16 kx), (m12, kx_aD G 16 ky)] := by rw [← est]; exact hD
                    exact W.vret hx hb hr (fun t ht hW => ⟨⟨(), rfl, trivial, And.intro (by rw [ht]; exact hP) hD⟩, hS.F ht⟩) hS.2.2 dX5_mend_139
                  · exact absurd c_6 (by decide)
                · exact absurd c_5 (by decide)
              · refine lv_iinc (v := nI (j + 1)) (lv' := [(3, .int (nI (j + 1))), (2, .int (-1)), (1, .int (nI i0)), (0, .ref m0)]) hx hb dX5_mend_40 hl (k := 0) rfl (by show _ + 1 = _; exact nI_1 _) (by decide) rfl (fun ls hl => ?_)
                refine lv_goto (tgt := 23) hx hb dX5_mend_43 (by decide) ?_
                exact ih (j + 1) (by omega) (by rw [hq2]; exact kx_beh_f (by omega) c_4) (by omega) _ _ hP hD hS _ (lv_sub hl [0, 1, 2, 3] rfl)
        exact loop_23 (n - i0) i0 (by omega) rfl (Nat.le_refl i0) _ _ hP hD hS _ (lv_sub hl [0, 1, 2, 3] rfl)
      · exact absurd (by rw [htot]; decide) c_1
    | succ k ih =>
      intro i x9 htot e_x9 hle hq H locs hP hD hS ls hl
      subst e_x9
      subst htot
      rw [nI_pred] at hl
      refine lv_iload_n hx hb dX5_mend_2 rfl (lv_at hl 0 rfl) ?_
      refine lv_if_lt (x := nI k) (tgt := 21) hx hb dX5_mend_3 (by decide) (fun c_10 => ?_) (fun c_10 => ?_)
      · have c_10 : k < 0 := (nI_ltI (a := k) (b := 0) (by omega) (by omega)).mp c_10
        exfalso; omega
      · have c_10 : ¬ k < 0 := fun q => c_10 ((nI_ltI (a := k) (b := 0) (by omega) (by omega)).mpr q)
        refine lv_aload_n hx hb dX5_mend_6 rfl (lv_at hl 2 rfl) ?_
        refine va_get (D := G.1) (ci := 6) (v := .ref m6) (C := RX5) (T := TX5) (N := 19) hx hb hts hin_X5 hown hT.1 hP 0 rfl rfl 10 (by decide) hf_26 (fun _ h9 => h9) rfl dX5_mend_7 ?_
        refine lv_iload_n hx hb dX5_mend_10 rfl (lv_at hl 0 rfl) ?_
        refine kx_zald hx hb hT hP 6 rfl k (by omega) (by omega) dX5_mend_11 ?_
        refine lv_if_ne (x := fd k) (tgt := 21) hx hb dX5_mend_12 (by decide) (fun c_11 => ?_) (fun c_11 => ?_)
        · have hqa : kx_bef fd i0 = nI k := by rw [← kx_bef_0 h0_, hq]; exact if_neg c_11
          refine lv_iload_n hx hb dX5_mend_21 rfl (lv_at hl 1 rfl) ?_
          refine lv_istore_n (lv' := [(3, .int (nI i0)), (2, .int (nI k)), (1, .int (nI i0)), (0, .ref m0)]) hx hb dX5_mend_22 rfl hl (by decide) rfl (fun ls hl => ?_)
          have loop_23 : ∀ (k2 j : Nat) , j + k2 = n → (kx_beh fd n (n - i0) = kx_beh fd n k2) → (i0 ≤ j) → ∀ (H : Heap) (locs : List Loc), va_P G.1 vwCl [(m0, .inr (6, [.int tw, .int (nI n), .int (nI v), .ref m1, .ref m2, .ref m3, .ref m4, .ref m5, .int kn, .int (nI ft), .ref m6, .ref m7, .int (nI ru), .ref m8, .ref m9, .ref m10, .int kp, .ref m11, .ref m12])), (m1, kx_aD G 8 ps), (m2, kx_aD G 8 qs), (m3, kx_aZ G 128 th), (m4, kx_aD G 128 fr), (m5, kx_aD G 128 to), (m6, kx_aZ G 16 fd), (m7, kx_aD G 64 sh), (m8, kx_aI G 6 ki), (m9, kx_aD G 6 li), (m10, kx_aI G 6 cl), (m11, kx_aD G 16 kx), (m12, kx_aD G 16 ky)] H → va_D A [(m0, .inr (6, [.int tw, .int (nI n), .int (nI v), .ref m1, .ref m2, .ref m3, .ref m4, .ref m5, .int kn, .int (nI ft), .ref m6, .ref m7, .int (nI ru), .ref m8, .ref m9, .ref m10, .int kp, .ref m11, .ref m12])), (m1, kx_aD G 8 ps), (m2, kx_aD G 8 qs), (m3, kx_aZ G 128 th), (m4, kx_aD G 128 fr), (m5, kx_aD G 128 to), (m6, kx_aZ G 16 fd), (m7, kx_aD G 64 sh), (m8, kx_aI G 6 ki), (m9, kx_aD G 6 li), (m10, kx_aI G 6 cl), (m11, kx_aD G 16 kx), (m12, kx_aD G 16 ky)] → va_S A s.heap H locs → ∀ ls : Array Slot, lv_has ls 5 [(3, .int (nI j)), (2, .int (nI k)), (1, .int (nI i0)), (0, .ref m0)] → W p l e (headSpec wsX5_mend ({ frames := 1, cells := 0, slots := 0, locals := 29 } : Room)).room s m [.ref m0, .int (nI i0)].toArray below meth c H locs 0 0 (MQ below (va_Qv (fun (_ : Unit) => True) (kx_B G A (fun u : Unit => [(m0, .inr (6, [.int tw, .int (nI n), .int (nI v), .ref m1, .ref m2, .ref m3, .ref m4, .ref m5, .int kn, .int (nI ft), .ref m6, .ref m7, .int (nI ru), .ref m8, .ref m9, .ref m10, .int kp, .ref m11, .ref m12])), (m1, kx_aD G 8 ps), (m2, kx_aD G 8 qs), (m3, kx_aZ G 128 th), (m4, kx_aD G 128 fr), (m5, kx_aD G 128 to), (m6, kx_aZ G 16 fd), (m7, kx_aD G 64 (kx_st sh i0 (kx_btw (fun j => sh (4 * j)) i0 (kx_sa fd n i0) (kx_sb fd n i0)) (kx_btw (fun j => sh (4 * j + 1)) i0 (kx_sa fd n i0) (kx_sb fd n i0)) (kx_btw (fun j => sh (4 * j + 2)) i0 (kx_sa fd n i0) (kx_sb fd n i0)) FP.dconst0)), (m8, kx_aI G 6 ki), (m9, kx_aD G 6 li), (m10, kx_aI G 6 cl), (m11, kx_aD G 16 kx), (m12, kx_aD G 16 ky)])) A) [.ref m0, .int (nI i0)].toArray s 0 0 A) (F0 m 23 ls []) := by
            intro k2
            induction k2 with
            | zero =>
              intro j htot hq2 hji H locs hP hD hS ls hl
              refine lv_iload_n hx hb dX5_mend_23 rfl (lv_at hl 0 rfl) ?_
              refine lv_aload_n hx hb dX5_mend_24 rfl (lv_at hl 3 rfl) ?_
              refine va_get (D := G.1) (ci := 6) (v := .int (nI n)) (C := RX5) (T := TX5) (N := 19) hx hb hts hin_X5 hown hT.1 hP 0 rfl rfl 1 (by decide) hf_48 (fun _ h9 => h9) rfl dX5_mend_25 ?_
              refine lv_icmp_ge (x := nI j) (y := nI n) (tgt := 46) hx hb dX5_mend_28 (by decide) (fun c_12 => ?_) (fun c_12 => ?_)
              · have c_12 : n ≤ j := (nI_leI (a := n) (b := j) (by omega) (by omega)).mp c_12
                have hqb : kx_beh fd n (n - (i0 + 1)) = -1 := by rw [← kx_beh_f (k := n - (i0 + 1)) (by omega) h0_, show n - (i0 + 1) + 1 = n - i0 from by omega, hq2]; rfl
                have hsl := kx_sel_of hn hi h0_ he
                have hAB := kx_sel_a2 (by have h9 := hsl.1; rw [hqa, hqb] at h9; exact h9) (by omega) (by omega)
                have hFa := hF_s k (by omega) (by rw [← hAB.1]; exact hsl.2.1)
                refine lv_iload_n hx hb dX5_mend_46 rfl (lv_at hl 1 rfl) ?_
                refine lv_if_lt (x := nI k) (tgt := 91) hx hb dX5_mend_47 (by decide) (fun c_13 => ?_) (fun c_13 => ?_)
                · have c_13 : k < 0 := (nI_ltI (a := k) (b := 0) (by omega) (by omega)).mp c_13
                  exfalso; omega
                · have c_13 : ¬ k < 0 := fun q => c_13 ((nI_ltI (a := k) (b := 0) (by omega) (by omega)).mpr q)
                  refine lv_iload_n hx hb dX5_mend_50 rfl (lv_at hl 0 rfl) ?_
                  refine lv_aload_n hx hb dX5_mend_51 rfl (lv_at hl 3 rfl) ?_
                  refine va_get (D := G.1) (ci := 6) (v := .int (nI n)) (C := RX5) (T := TX5) (N := 19) hx hb hts hin_X5 hown hT.1 hP 0 rfl rfl 1 (by decide) hf_48 (fun _ h9 => h9) rfl dX5_mend_52 ?_
                  refine lv_icmp_ge (x := nI j) (y := nI n) (tgt := 91) hx hb dX5_mend_55 (by decide) (fun c_14 => ?_) (fun c_14 => ?_)
                  · have c_14 : n ≤ j := (nI_leI (a := n) (b := j) (by omega) (by omega)).mp c_14
                    refine lv_iload_n hx hb dX5_mend_91 rfl (lv_at hl 1 rfl) ?_
                    refine lv_if_lt (x := nI k) (tgt := 99) hx hb dX5_mend_92 (by decide) (fun c_15 => ?_) (fun c_15 => ?_)
                    · have c_15 : k < 0 := (nI_ltI (a := k) (b := 0) (by omega) (by omega)).mp c_15
                      exfalso; omega
                    · have c_15 : ¬ k < 0 := fun q => c_15 ((nI_ltI (a := k) (b := 0) (by omega) (by omega)).mpr q)
                      refine lv_iload_n hx hb dX5_mend_95 rfl (lv_at hl 1 rfl) ?_
                      refine lv_goto (tgt := 100) hx hb dX5_mend_96 (by decide) ?_
                      refine lv_istore (lv' := [(4, .int (nI k)), (3, .int (nI j)), (2, .int (nI k)), (1, .int (nI i0)), (0, .ref m0)]) hx hb dX5_mend_100 hl (by decide) rfl (fun ls hl => ?_)
                      refine lv_aload_n hx hb dX5_mend_102 rfl (lv_at hl 4 rfl) ?_
                      refine lv_iload_n hx hb dX5_mend_103 rfl (lv_at hl 3 rfl) ?_
                      refine lv_aload_n hx hb dX5_mend_104 rfl (lv_at hl 4 rfl) ?_
                      refine va_get (D := G.1) (ci := 6) (v := .ref m7) (C := RX5) (T := TX5) (N := 19) hx hb hts hin_X5 hown hT.1 hP 0 rfl rfl 11 (by decide) hf_29 (fun _ h9 => h9) rfl dX5_mend_105 ?_
                      refine lv_iconst (v := 4) hx hb dX5_mend_108 (by decide) ?_
                      refine lv_iload hx hb dX5_mend_109 (lv_at hl 0 rfl) ?_
                      refine lv_imul hx hb dX5_mend_111 ?_
                      refine kx_ei (y := nI (4 * k)) (pk_mul 4 k) ?_
                      refine kx_dald hx hb hT hP 7 rfl (4 * k) (by omega) (by omega) dX5_mend_112 ?_
                      refine lv_aload_n hx hb dX5_mend_113 rfl (lv_at hl 4 rfl) ?_
                      refine va_get (D := G.1) (ci := 6) (v := .ref m7) (C := RX5) (T := TX5) (N := 19) hx hb hts hin_X5 hown hT.1 hP 0 rfl rfl 11 (by decide) hf_29 (fun _ h9 => h9) rfl dX5_mend_114 ?_
                      refine lv_iconst (v := 4) hx hb dX5_mend_117 (by decide) ?_
                      refine lv_iload hx hb dX5_mend_118 (lv_at hl 0 rfl) ?_
                      refine lv_imul hx hb dX5_mend_120 ?_
                      refine kx_ei (y := nI (4 * k)) (pk_mul 4 k) ?_
                      refine lv_iconst (v := 1) hx hb dX5_mend_121 (by decide) ?_
                      refine lv_iadd hx hb dX5_mend_122 ?_
                      refine kx_ei (y := nI ((4 * k) + 1)) (nI_add (4 * k) 1) ?_
                      refine kx_dald hx hb hT hP 7 rfl ((4 * k) + 1) (by omega) (by omega) dX5_mend_123 ?_
                      refine lv_aload_n hx hb dX5_mend_124 rfl (lv_at hl 4 rfl) ?_
                      refine va_get (D := G.1) (ci := 6) (v := .ref m7) (C := RX5) (T := TX5) (N := 19) hx hb hts hin_X5 hown hT.1 hP 0 rfl rfl 11 (by decide) hf_29 (fun _ h9 => h9) rfl dX5_mend_125 ?_
                      refine lv_iconst (v := 4) hx hb dX5_mend_128 (by decide) ?_
                      refine lv_iload hx hb dX5_mend_129 (lv_at hl 0 rfl) ?_
                      refine lv_imul hx hb dX5_mend_131 ?_
                      refine kx_ei (y := nI (4 * k)) (pk_mul 4 k) ?_
                      refine lv_iconst (v := 2) hx hb dX5_mend_132 (by decide) ?_
                      refine lv_iadd hx hb dX5_mend_133 ?_
                      refine kx_ei (y := nI ((4 * k) + 2)) (nI_add (4 * k) 2) ?_
                      refine kx_dald hx hb hT hP 7 rfl ((4 * k) + 2) (by omega) (by omega) dX5_mend_134 ?_
                      refine lv_dconst0 hx hb dX5_mend_135 ?_
                      refine kx_mv (va_runV (As := [.int (nI i0), .double (sh (4 * k)), .double (sh ((4 * k) + 1)), .double (sh ((4 * k) + 2)), .double FP.dconst0]) (rest := []) ⟨hx, hb, hml, hown, hts⟩ (c_X5_set l G _ (m0 := m0) (m1 := m1) (m2 := m2) (m3 := m3) (m4 := m4) (m5 := m5) (m6 := m6) (m7 := m7) (m8 := m8) (m9 := m9) (m10 := m10) (m11 := m11) (m12 := m12) (n := n) (v := v) (tw := tw) (ps := ps) (qs := qs) (th := th) (fr := fr) (to := to) (kn := kn) (ft := ft) (fd := fd) (sh := sh) (ru := ru) (ki := ki) (li := li) (cl := cl) (kp := kp) (kx := kx) (ky := ky) (i := i0) (x := sh (4 * k)) (y := sh ((4 * k) + 1)) (r9 := sh ((4 * k) + 2)) (e9 := FP.dconst0) (hb_ps := hb_ps) (hb_qs := hb_qs) (hb_fr := hb_fr) (hb_to := hb_to) (hb_sh := hb_sh) (hb_kx := hb_kx) (hb_ky := hb_ky) (hi := (by omega)) (hx_b := (hb_sh _)) (hy_b := (hb_sh _)) (hr_b := (hb_sh _)) (he_b := (fx_0b.mono (by omega)))) (cwV 5 hts gX5_mend_X5_set rfl rfl rfl (by decide +kernel) ⟨Nat.le_of_ble_eq_true rfl, Nat.le_of_ble_eq_true rfl⟩) ⟨kx_PMb, va_recv hT.1 hP (ci := 6) (q0 := 0) rfl rfl, kx_pm hT hP hD [0, 1, 2, 3, 4, 5, 6, 7, 8, 9, 10, 11, 12] rfl rfl rfl⟩ rfl rfl hl.1 rfl (lv_room (Nat.le_of_ble_eq_true rfl)) dX5_mend_136 ⟨Nat.zero_le _, Nat.zero_le _⟩) hP hD hS hA [0, 1, 2, 3, 4, 5, 6, 7, 8, 9, 10, 11, 12] rfl rfl (fun _ => rfl) (fun u_18 H locs hw_17 hP hD hS => ?_)
                      have est : kx_st sh i0 (sh (4 * k)) (sh ((4 * k) + 1)) (sh ((4 * k) + 2)) FP.dconst0 = kx_st sh i0 (kx_btw (fun j => sh (4 * j)) i0 (kx_sa fd n i0) (kx_sb fd n i0)) (kx_btw (fun j => sh (4 * j + 1)) i0 (kx_sa fd n i0) (kx_sb fd n i0)) (kx_btw (fun j => sh (4 * j + 2)) i0 (kx_sa fd n i0) (kx_sb fd n i0)) FP.dconst0 := by
                        rw [hAB.1, hAB.2.1]
                        unfold kx_btw
                        first | (rw [if_pos rfl, if_pos rfl, if_pos rfl]; done) | (rw [if_neg (by omega), if_neg (by omega), if_neg (by omega)]; done) | (rw [if_pos rfl, if_pos rfl, if_pos rfl]; rfl) | (rw [if_neg (by omega), if_neg (by omega), if_neg (by omega)]; rfl)
                      have hP : va_P G.1 vwCl [(m0, .inr (6, [.int tw, .int (nI n), .int (nI v), .ref m1, .ref m2, .ref m3, .ref m4, .ref m5, .int kn, .int (nI ft), .ref m6, .ref m7, .int (nI ru), .ref m8, .ref m9, .ref m10, .int kp, .ref m11, .ref m12])), (m1, kx_aD G 8 ps), (m2, kx_aD G 8 qs), (m3, kx_aZ G 128 th), (m4, kx_aD G 128 fr), (m5, kx_aD G 128 to), (m6, kx_aZ G 16 fd), (m7, kx_aD G 64 (kx_st sh i0 (kx_btw (fun j => sh (4 * j)) i0 (kx_sa fd n i0) (kx_sb fd n i0)) (kx_btw (fun j => sh (4 * j + 1)) i0 (kx_sa fd n i0) (kx_sb fd n i0)) (kx_btw (fun j => sh (4 * j + 2)) i0 (kx_sa fd n i0) (kx_sb fd n i0)) FP.dconst0)), (m8, kx_aI G 6 ki), (m9, kx_aD G 6 li), (m10, kx_aI G 6 cl), (m11, kx_aD G 16 kx), (m12, kx_aD G 16 ky)] H := by rw [← est]; exact hP
                      have hD : va_D A [(m0, .inr (6, [.int tw, .int (nI n), .int (nI v), .ref m1, .ref m2, .ref m3, .ref m4, .ref m5, .int kn, .int (nI ft), .ref m6, .ref m7, .int (nI ru), .ref m8, .ref m9, .ref m10, .int kp, .ref m11, .ref m12])), (m1, kx_aD G 8 ps), (m2, kx_aD G 8 qs), (m3, kx_aZ G 128 th), (m4, kx_aD G 128 fr), (m5, kx_aD G 128 to), (m6, kx_aZ G 16 fd), (m7, kx_aD G 64 (kx_st sh i0 (kx_btw (fun j => sh (4 * j)) i0 (kx_sa fd n i0) (kx_sb fd n i0)) (kx_btw (fun j => sh (4 * j + 1)) i0 (kx_sa fd n i0) (kx_sb fd n i0)) (kx_btw (fun j => sh (4 * j + 2)) i0 (kx_sa fd n i0) (kx_sb fd n i0)) FP.dconst0)), (m8, kx_aI G 6 ki), (m9, kx_aD G 6 li), (m10, kx_aI G 6 cl), (m11, kx_aD G 16 kx), (m12, kx_aD G 16 ky)] := by rw [← est]; exact hD
                      exact W.vret hx hb hr (fun t ht hW => ⟨⟨(), rfl, trivial, And.intro (by rw [ht]; exact hP) hD⟩, hS.F ht⟩) hS.2.2 dX5_mend_139
                  · have c_14 : ¬ n ≤ j := fun q => c_14 ((nI_leI (a := n) (b := j) (by omega) (by omega)).mpr q)
                    exfalso; omega
              · have c_12 : ¬ n ≤ j := fun q => c_12 ((nI_leI (a := n) (b := j) (by omega) (by omega)).mpr q)
                exfalso; omega
            | succ k2 ih =>
              intro j htot hq2 hji H locs hP hD hS ls hl
              refine lv_iload_n hx hb dX5_mend_23 rfl (lv_at hl 0 rfl) ?_
              refine lv_aload_n hx hb dX5_mend_24 rfl (lv_at hl 3 rfl) ?_
              refine va_get (D := G.1) (ci := 6) (v := .int (nI n)) (C := RX5) (T := TX5) (N := 19) hx hb hts hin_X5 hown hT.1 hP 0 rfl rfl 1 (by decide) hf_48 (fun _ h9 => h9) rfl dX5_mend_25 ?_
              refine lv_icmp_ge (x := nI j) (y := nI n) (tgt := 46) hx hb dX5_mend_28 (by decide) (fun c_19 => ?_) (fun c_19 => ?_)
              · have c_19 : n ≤ j := (nI_leI (a := n) (b := j) (by omega) (by omega)).mp c_19
                exfalso; omega
              · have c_19 : ¬ n ≤ j := fun q => c_19 ((nI_leI (a := n) (b := j) (by omega) (by omega)).mpr q)
                refine lv_aload_n hx hb dX5_mend_31 rfl (lv_at hl 3 rfl) ?_
                refine va_get (D := G.1) (ci := 6) (v := .ref m6) (C := RX5) (T := TX5) (N := 19) hx hb hts hin_X5 hown hT.1 hP 0 rfl rfl 10 (by decide) hf_26 (fun _ h9 => h9) rfl dX5_mend_32 ?_
                refine lv_iload_n hx hb dX5_mend_35 rfl (lv_at hl 0 rfl) ?_
                refine kx_zald hx hb hT hP 6 rfl j (by omega) (by omega) dX5_mend_36 ?_
                refine lv_if_ne (x := fd j) (tgt := 46) hx hb dX5_mend_37 (by decide) (fun c_20 => ?_) (fun c_20 => ?_)
                · have hqb : kx_beh fd n (n - (i0 + 1)) = nI j := by rw [← kx_beh_f (k := n - (i0 + 1)) (by omega) h0_, show n - (i0 + 1) + 1 = n - i0 from by omega, hq2]; exact kx_beh_t (by omega) c_20
                  have hsl := kx_sel_of hn hi h0_ he
                  have hAB := kx_sel_ab2 (by have h9 := hsl.1; rw [hqa, hqb] at h9; exact h9) (by omega) (by omega) (by omega)
                  have hFa := hF_s k (by omega) (by rw [← hAB.1]; exact hsl.2.1)
                  have hFb := hF_s j (by omega) (by rw [← hAB.2.1]; exact hsl.2.2)
                  refine lv_iload_n hx hb dX5_mend_46 rfl (lv_at hl 1 rfl) ?_
                  refine lv_if_lt (x := nI k) (tgt := 91) hx hb dX5_mend_47 (by decide) (fun c_21 => ?_) (fun c_21 => ?_)
                  · have c_21 : k < 0 := (nI_ltI (a := k) (b := 0) (by omega) (by omega)).mp c_21
                    exfalso; omega
                  · have c_21 : ¬ k < 0 := fun q => c_21 ((nI_ltI (a := k) (b := 0) (by omega) (by omega)).mpr q)
                    refine lv_iload_n hx hb dX5_mend_50 rfl (lv_at hl 0 rfl) ?_
                    refine lv_aload_n hx hb dX5_mend_51 rfl (lv_at hl 3 rfl) ?_
                    refine va_get (D := G.1) (ci := 6) (v := .int (nI n)) (C := RX5) (T := TX5) (N := 19) hx hb hts hin_X5 hown hT.1 hP 0 rfl rfl 1 (by decide) hf_48 (fun _ h9 => h9) rfl dX5_mend_52 ?_
                    refine lv_icmp_ge (x := nI j) (y := nI n) (tgt := 91) hx hb dX5_mend_55 (by decide) (fun c_22 => ?_) (fun c_22 => ?_)
                    · have c_22 : n ≤ j := (nI_leI (a := n) (b := j) (by omega) (by omega)).mp c_22
                      exfalso; omega
                    · have c_22 : ¬ n ≤ j := fun q => c_22 ((nI_leI (a := n) (b := j) (by omega) (by omega)).mpr q)
                      refine lv_aload_n hx hb dX5_mend_58 rfl (lv_at hl 3 rfl) ?_
                      refine lv_iload_n hx hb dX5_mend_59 rfl (lv_at hl 2 rfl) ?_
                      refine lv_aload_n hx hb dX5_mend_60 rfl (lv_at hl 3 rfl) ?_
                      refine lv_iload_n hx hb dX5_mend_61 rfl (lv_at hl 1 rfl) ?_
                      refine lv_iload_n hx hb dX5_mend_62 rfl (lv_at hl 0 rfl) ?_
                      refine lv_iload_n hx hb dX5_mend_63 rfl (lv_at hl 2 rfl) ?_
                      refine lv_iconst (v := 0) hx hb dX5_mend_64 (by decide) ?_
                      refine vp_callSd (W.runV (As := [.int (nI k), .int (nI j), .int (nI i0), .int 0]) (rest := [.int (nI i0), .ref m0]) ⟨hx, hb, hml, hown, hts⟩ (c_X5_mixed l G (m0 := m0) (m1 := m1) (m2 := m2) (m3 := m3) (m4 := m4) (m5 := m5) (m6 := m6) (m7 := m7) (m8 := m8) (m9 := m9) (m10 := m10) (m11 := m11) (m12 := m12) (n := n) (v := v) (tw := tw) (ps := ps) (qs := qs) (th := th) (fr := fr) (to := to) (kn := kn) (ft := ft) (fd := fd) (sh := sh) (ru := ru) (ki := ki) (li := li) (cl := cl) (kp := kp) (kx := kx) (ky := ky) (a := k) (b := j) (i := i0) (w := 0) (hb_ps := hb_ps) (hb_qs := hb_qs) (hb_fr := hb_fr) (hb_to := hb_to) (hb_sh := hb_sh) (hb_kx := hb_kx) (hb_ky := hb_ky) (hb9 := (by omega)) (hai := (by omega)) (hib := (by omega)) (hw := (by omega))) (cwV 4 hts gX5_mend_X5_mixed rfl rfl rfl (by decide +kernel) ⟨Nat.le_of_ble_eq_true rfl, Nat.le_of_ble_eq_true rfl⟩) ⟨kx_PRb, va_recv hT.1 hP (ci := 6) (q0 := 0) rfl rfl, kx_pr hT hP [0, 1, 2, 3, 4, 5, 6, 7, 8, 9, 10, 11, 12] rfl⟩ rfl rfl hl.1 rfl (lv_room (Nat.le_of_ble_eq_true rfl)) dX5_mend_65 ⟨Nat.zero_le _, Nat.zero_le _⟩) (fun r_23 hw_24 => ?_)
                      subst hw_24
                      refine lv_aload_n hx hb dX5_mend_68 rfl (lv_at hl 3 rfl) ?_
                      refine lv_iload_n hx hb dX5_mend_69 rfl (lv_at hl 1 rfl) ?_
                      refine lv_iload_n hx hb dX5_mend_70 rfl (lv_at hl 0 rfl) ?_
                      refine lv_iload_n hx hb dX5_mend_71 rfl (lv_at hl 2 rfl) ?_
                      refine lv_iconst (v := 1) hx hb dX5_mend_72 (by decide) ?_
                      refine vp_callSd (W.runV (As := [.int (nI k), .int (nI j), .int (nI i0), .int 1]) (rest := [.double (kx_ln (sh (4 * k + 0)) (sh (4 * j + 0)) (nI (i0 - k)) (nI (j - k))), .int (nI i0), .ref m0]) ⟨hx, hb, hml, hown, hts⟩ (c_X5_mixed l G (m0 := m0) (m1 := m1) (m2 := m2) (m3 := m3) (m4 := m4) (m5 := m5) (m6 := m6) (m7 := m7) (m8 := m8) (m9 := m9) (m10 := m10) (m11 := m11) (m12 := m12) (n := n) (v := v) (tw := tw) (ps := ps) (qs := qs) (th := th) (fr := fr) (to := to) (kn := kn) (ft := ft) (fd := fd) (sh := sh) (ru := ru) (ki := ki) (li := li) (cl := cl) (kp := kp) (kx := kx) (ky := ky) (a := k) (b := j) (i := i0) (w := 1) (hb_ps := hb_ps) (hb_qs := hb_qs) (hb_fr := hb_fr) (hb_to := hb_to) (hb_sh := hb_sh) (hb_kx := hb_kx) (hb_ky := hb_ky) (hb9 := (by omega)) (hai := (by omega)) (hib := (by omega)) (hw := (by omega))) (cwV 4 hts gX5_mend_X5_mixed rfl rfl rfl (by decide +kernel) ⟨Nat.le_of_ble_eq_true rfl, Nat.le_of_ble_eq_true rfl⟩) ⟨kx_PRb, va_recv hT.1 hP (ci := 6) (q0 := 0) rfl rfl, kx_pr hT hP [0, 1, 2, 3, 4, 5, 6, 7, 8, 9, 10, 11, 12] rfl⟩ rfl rfl hl.1 rfl (lv_room (Nat.le_of_ble_eq_true rfl)) dX5_mend_73 ⟨Nat.zero_le _, Nat.zero_le _⟩) (fun r_25 hw_26 => ?_)
                      subst hw_26
                      refine lv_aload_n hx hb dX5_mend_76 rfl (lv_at hl 3 rfl) ?_
                      refine lv_iload_n hx hb dX5_mend_77 rfl (lv_at hl 1 rfl) ?_
                      refine lv_iload_n hx hb dX5_mend_78 rfl (lv_at hl 0 rfl) ?_
                      refine lv_iload_n hx hb dX5_mend_79 rfl (lv_at hl 2 rfl) ?_
                      refine lv_iconst (v := 2) hx hb dX5_mend_80 (by decide) ?_
                      refine vp_callSd (W.runV (As := [.int (nI k), .int (nI j), .int (nI i0), .int 2]) (rest := [.double (kx_ln (sh (4 * k + 1)) (sh (4 * j + 1)) (nI (i0 - k)) (nI (j - k))), .double (kx_ln (sh (4 * k + 0)) (sh (4 * j + 0)) (nI (i0 - k)) (nI (j - k))), .int (nI i0), .ref m0]) ⟨hx, hb, hml, hown, hts⟩ (c_X5_mixed l G (m0 := m0) (m1 := m1) (m2 := m2) (m3 := m3) (m4 := m4) (m5 := m5) (m6 := m6) (m7 := m7) (m8 := m8) (m9 := m9) (m10 := m10) (m11 := m11) (m12 := m12) (n := n) (v := v) (tw := tw) (ps := ps) (qs := qs) (th := th) (fr := fr) (to := to) (kn := kn) (ft := ft) (fd := fd) (sh := sh) (ru := ru) (ki := ki) (li := li) (cl := cl) (kp := kp) (kx := kx) (ky := ky) (a := k) (b := j) (i := i0) (w := 2) (hb_ps := hb_ps) (hb_qs := hb_qs) (hb_fr := hb_fr) (hb_to := hb_to) (hb_sh := hb_sh) (hb_kx := hb_kx) (hb_ky := hb_ky) (hb9 := (by omega)) (hai := (by omega)) (hib := (by omega)) (hw := (by omega))) (cwV 4 hts gX5_mend_X5_mixed rfl rfl rfl (by decide +kernel) ⟨Nat.le_of_ble_eq_true rfl, Nat.le_of_ble_eq_true rfl⟩) ⟨kx_PRb, va_recv hT.1 hP (ci := 6) (q0 := 0) rfl rfl, kx_pr hT hP [0, 1, 2, 3, 4, 5, 6, 7, 8, 9, 10, 11, 12] rfl⟩ rfl rfl hl.1 rfl (lv_room (Nat.le_of_ble_eq_true rfl)) dX5_mend_81 ⟨Nat.zero_le _, Nat.zero_le _⟩) (fun r_27 hw_28 => ?_)
                      subst hw_28
                      refine lv_dconst0 hx hb dX5_mend_84 ?_
                      refine kx_mv (va_runV (As := [.int (nI i0), .double (kx_ln (sh (4 * k + 0)) (sh (4 * j + 0)) (nI (i0 - k)) (nI (j - k))), .double (kx_ln (sh (4 * k + 1)) (sh (4 * j + 1)) (nI (i0 - k)) (nI (j - k))), .double (kx_ln (sh (4 * k + 2)) (sh (4 * j + 2)) (nI (i0 - k)) (nI (j - k))), .double FP.dconst0]) (rest := []) ⟨hx, hb, hml, hown, hts⟩ (c_X5_set l G _ (m0 := m0) (m1 := m1) (m2 := m2) (m3 := m3) (m4 := m4) (m5 := m5) (m6 := m6) (m7 := m7) (m8 := m8) (m9 := m9) (m10 := m10) (m11 := m11) (m12 := m12) (n := n) (v := v) (tw := tw) (ps := ps) (qs := qs) (th := th) (fr := fr) (to := to) (kn := kn) (ft := ft) (fd := fd) (sh := sh) (ru := ru) (ki := ki) (li := li) (cl := cl) (kp := kp) (kx := kx) (ky := ky) (i := i0) (x := kx_ln (sh (4 * k + 0)) (sh (4 * j + 0)) (nI (i0 - k)) (nI (j - k))) (y := kx_ln (sh (4 * k + 1)) (sh (4 * j + 1)) (nI (i0 - k)) (nI (j - k))) (r9 := kx_ln (sh (4 * k + 2)) (sh (4 * j + 2)) (nI (i0 - k)) (nI (j - k))) (e9 := FP.dconst0) (hb_ps := hb_ps) (hb_qs := hb_qs) (hb_fr := hb_fr) (hb_to := hb_to) (hb_sh := hb_sh) (hb_kx := hb_kx) (hb_ky := hb_ky) (hi := (by omega)) (hx_b := ((kx_ln_bd (K := 95) hFa.1 hFb.1 (nI_ne0 (by omega) (by omega)) (by omega)).mono (by omega))) (hy_b := ((kx_ln_bd (K := 95) hFa.2.1 hFb.2.1 (nI_ne0 (by omega) (by omega)) (by omega)).mono (by omega))) (hr_b := ((kx_ln_bd (K := 95) hFa.2.2 hFb.2.2 (nI_ne0 (by omega) (by omega)) (by omega)).mono (by omega))) (he_b := (fx_0b.mono (by omega)))) (cwV 5 hts gX5_mend_X5_set rfl rfl rfl (by decide +kernel) ⟨Nat.le_of_ble_eq_true rfl, Nat.le_of_ble_eq_true rfl⟩) ⟨kx_PMb, va_recv hT.1 hP (ci := 6) (q0 := 0) rfl rfl, kx_pm hT hP hD [0, 1, 2, 3, 4, 5, 6, 7, 8, 9, 10, 11, 12] rfl rfl rfl⟩ rfl rfl hl.1 rfl (lv_room (Nat.le_of_ble_eq_true rfl)) dX5_mend_85 ⟨Nat.zero_le _, Nat.zero_le _⟩) hP hD hS hA [0, 1, 2, 3, 4, 5, 6, 7, 8, 9, 10, 11, 12] rfl rfl (fun _ => rfl) (fun u_31 H locs hw_30 hP hD hS => ?_)
                      have est : kx_st sh i0 (kx_ln (sh (4 * k + 0)) (sh (4 * j + 0)) (nI (i0 - k)) (nI (j - k))) (kx_ln (sh (4 * k + 1)) (sh (4 * j + 1)) (nI (i0 - k)) (nI (j - k))) (kx_ln (sh (4 * k + 2)) (sh (4 * j + 2)) (nI (i0 - k)) (nI (j - k))) FP.dconst0 = kx_st sh i0 (kx_btw (fun j => sh (4 * j)) i0 (kx_sa fd n i0) (kx_sb fd n i0)) (kx_btw (fun j => sh (4 * j + 1)) i0 (kx_sa fd n i0) (kx_sb fd n i0)) (kx_btw (fun j => sh (4 * j + 2)) i0 (kx_sa fd n i0) (kx_sb fd n i0)) FP.dconst0 := by
                        rw [hAB.1, hAB.2.1]
                        unfold kx_btw
                        first | (rw [if_pos rfl, if_pos rfl, if_pos rfl]; done) | (rw [if_neg (by omega), if_neg (by omega), if_neg (by omega)]; done) | (rw [if_pos rfl, if_pos rfl, if_pos rfl]; rfl) | (rw [if_neg (by omega), if_neg (by omega), if_neg (by omega)]; rfl)
                      have hP : va_P G.1 vwCl [(m0, .inr (6, [.int tw, .int (nI n), .int (nI v), .ref m1, .ref m2, .ref m3, .ref m4, .ref m5, .int kn, .int (nI ft), .ref m6, .ref m7, .int (nI ru), .ref m8, .ref m9, .ref m10, .int kp, .ref m11, .ref m12])), (m1, kx_aD G 8 ps), (m2, kx_aD G 8 qs), (m3, kx_aZ G 128 th), (m4, kx_aD G 128 fr), (m5, kx_aD G 128 to), (m6, kx_aZ G 16 fd), (m7, kx_aD G 64 (kx_st sh i0 (kx_btw (fun j => sh (4 * j)) i0 (kx_sa fd n i0) (kx_sb fd n i0)) (kx_btw (fun j => sh (4 * j + 1)) i0 (kx_sa fd n i0) (kx_sb fd n i0)) (kx_btw (fun j => sh (4 * j + 2)) i0 (kx_sa fd n i0) (kx_sb fd n i0)) FP.dconst0)), (m8, kx_aI G 6 ki), (m9, kx_aD G 6 li), (m10, kx_aI G 6 cl), (m11, kx_aD G 16 kx), (m12, kx_aD G 16 ky)] H := by rw [← est]; exact hP
                      have hD : va_D A [(m0, .inr (6, [.int tw, .int (nI n), .int (nI v), .ref m1, .ref m2, .ref m3, .ref m4, .ref m5, .int kn, .int (nI ft), .ref m6, .ref m7, .int (nI ru), .ref m8, .ref m9, .ref m10, .int kp, .ref m11, .ref m12])), (m1, kx_aD G 8 ps), (m2, kx_aD G 8 qs), (m3, kx_aZ G 128 th), (m4, kx_aD G 128 fr), (m5, kx_aD G 128 to), (m6, kx_aZ G 16 fd), (m7, kx_aD G 64 (kx_st sh i0 (kx_btw (fun j => sh (4 * j)) i0 (kx_sa fd n i0) (kx_sb fd n i0)) (kx_btw (fun j => sh (4 * j + 1)) i0 (kx_sa fd n i0) (kx_sb fd n i0)) (kx_btw (fun j => sh (4 * j + 2)) i0 (kx_sa fd n i0) (kx_sb fd n i0)) FP.dconst0)), (m8, kx_aI G 6 ki), (m9, kx_aD G 6 li), (m10, kx_aI G 6 cl), (m11, kx_aD G 16 kx), (m12, kx_aD G 16 ky)] := by rw [← est]; exact hD
                      refine lv_goto (tgt := 139) hx hb dX5_mend_88 (by decide) ?_
                      exact W.vret hx hb hr (fun t ht hW => ⟨⟨(), rfl, trivial, And.intro (by rw [ht]; exact hP) hD⟩, hS.F ht⟩) hS.2.2 dX5_mend_139
                · refine lv_iinc (v := nI (j + 1)) (lv' := [(3, .int (nI (j + 1))), (2, .int (nI k)), (1, .int (nI i0)), (0, .ref m0)]) hx hb dX5_mend_40 hl (k := 0) rfl (by show _ + 1 = _; exact nI_1 _) (by decide) rfl (fun ls hl => ?_)
                  refine lv_goto (tgt := 23) hx hb dX5_mend_43 (by decide) ?_
                  exact ih (j + 1) (by omega) (by rw [hq2]; exact kx_beh_f (by omega) c_20) (by omega) _ _ hP hD hS _ (lv_sub hl [0, 1, 2, 3] rfl)
          exact loop_23 (n - i0) i0 (by omega) rfl (Nat.le_refl i0) _ _ hP hD hS _ (lv_sub hl [0, 1, 2, 3] rfl)
        · refine lv_iinc (v := nI k - 1) (lv' := [(2, .int (nI k - 1)), (1, .int (nI i0)), (0, .ref m0)]) hx hb dX5_mend_15 hl (k := 0) rfl (kx_dec _) (by decide) rfl (fun ls hl => ?_)
          refine lv_goto (tgt := 2) hx hb dX5_mend_18 (by decide) ?_
          exact ih k _ (by omega) rfl (by omega) (by rw [hq]; exact if_pos c_11) _ _ hP hD hS _ (lv_sub hl [0, 1, 2] rfl)
  exact loop_2 (i0 + 1) (i0 + 1) _ (by omega) ((nI_pred i0).symm) (Nat.le_refl _) rfl _ _ hP hD hS _ (lv_sub hl [0, 2, 1] rfl)
