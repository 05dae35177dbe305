/-! what holds at the law's entry -/
theorem kw_nw : ∀ w ∈ kx_nw, w ∈ lw_tbl := by decide +kernel
theorem kw_xw1 : ∀ w ∈ kx_x1, w ∈ lw_tbl := by decide +kernel
theorem kw_xw2 : ∀ w ∈ kx_x2, w ∈ lw_tbl := by decide +kernel
theorem kw_xw3 : ∀ w ∈ kx_x3, w ∈ lw_tbl := by decide +kernel
theorem kw_xw : ∀ w ∈ kx_xw, w ∈ lw_tbl := List.forall_mem_append.mpr ⟨kw_xw1, List.forall_mem_append.mpr ⟨kw_xw2, kw_xw3⟩⟩
theorem kw_lw : ∀ w ∈ kx_lw, w ∈ lw_tbl := by decide +kernel
theorem kw_cw : ∀ E ∈ kx_cw, Cond.castable E E ∈ lw_tbl := by decide +kernel
theorem kw_s1 : ∀ q ∈ kx_sL, Cond.stringRef RX4 q.1 q.2 ∈ lw_tbl := by decide +kernel
theorem kw_s2 : ∀ q ∈ kx_sL, Cond.exactly (.string RX4 q.1) "java/lang/String" ∈ flatC (Jvm.Cond.and given_1 narrow_1) := by decide +kernel
theorem kw_n1 : ∀ q ∈ kx_nc, Cond.not (.castable q.1 q.2) ∈ flatC (Jvm.Cond.and given_1 narrow_1) := by decide +kernel
theorem kw_i1 : Cond.isRef (.static Bundle.tN "UNASSIGNED_STACK" Bundle.steD) ∈ flatC (Jvm.Cond.and given_1 narrow_1) := by decide +kernel
theorem kw_i2 : Cond.isRef (.static Bundle.tN "SUPPRESSED_SENTINEL" Bundle.listD) ∈ flatC (Jvm.Cond.and given_1 narrow_1) := by decide +kernel
theorem kw_l1 : Cond.laysStatic Bundle.tN "UNASSIGNED_STACK" Bundle.steD ∈ lw_tbl := by decide +kernel
theorem kw_l2 : Cond.laysStatic Bundle.tN "SUPPRESSED_SENTINEL" Bundle.listD ∈ lw_tbl := by decide +kernel
theorem kw_l3 : Cond.initialized Bundle.tN ∈ lw_tbl := by decide +kernel
theorem kw_isN {w : Cond} (h : kx_isN w = true) : w.onTables = true := by
  cases w <;> first | rfl | cases h
theorem kw_arr {args : Array Value} {s : State} {ty : FieldType} (h : (Cond.arrayClass ty).before args s = true) : ∃ cA : ClassId, ArrOfT s cA ty ∧ s.vm.findClass ("[" ++ ty.toString) = some cA := by
  obtain ⟨cA, kA, comp, h1, h2, h3⟩ := Cond.arrayClass_spec h
  exact ⟨cA, fun n z => ⟨fun k h => (by cases h), kA, h2, comp, h3⟩, h1⟩
theorem kw_G {args : Array Value} {s : State} (hts : ∀ w ∈ lw_tbl, w.before args s = true) (hgv : (Jvm.Cond.and given_1 narrow_1).before args s = true) : ∃ G : kx_G, kx_TY G s := by
  have hfl := flat_of_before _ hgv
  obtain ⟨c0, i0, k0⟩ := u_known (C := RJx00060) (T := TJx00060) (N := 6) (n := 6) hts kl_wsJx000600 (hts (.instantiable RJx00060 6) (by decide +kernel))
  obtain ⟨c1, i1, k1⟩ := u_known (C := RX0) (T := TX0) (N := 3) (n := 3) hts kl_wsX00 (hts (.instantiable RX0 3) (by decide +kernel))
  obtain ⟨c2, i2, k2⟩ := u_known (C := RX1) (T := TX1) (N := 4) (n := 4) hts kl_wsX10 (hts (.instantiable RX1 4) (by decide +kernel))
  obtain ⟨c3, i3, k3⟩ := u_known (C := RX2) (T := TX2) (N := 7) (n := 7) hts kl_wsX20 (hts (.instantiable RX2 7) (by decide +kernel))
  obtain ⟨c4, i4, k4⟩ := u_known (C := RX3) (T := TX3) (N := 7) (n := 7) hts kl_wsX30 (hts (.instantiable RX3 7) (by decide +kernel))
  obtain ⟨c5, i5, k5⟩ := u_known (C := RX4) (T := TX4) (N := 7) (n := 7) hts kl_wsX40 (hts (.instantiable RX4 7) (by decide +kernel))
  obtain ⟨c6, i6, k6⟩ := u_known (C := RX5) (T := TX5) (N := 19) (n := 19) hts kl_wsX50 (hts (.instantiable RX5 19) (by decide +kernel))
  obtain ⟨aI, bI, dI⟩ := kw_arr (ty := .int) (hts (.arrayClass .int) (by decide +kernel))
  obtain ⟨aD, bD, dD⟩ := kw_arr (ty := .double) (hts (.arrayClass .double) (by decide +kernel))
  obtain ⟨aZ, bZ, dZ⟩ := kw_arr (ty := .boolean) (hts (.arrayClass .boolean) (by decide +kernel))
  obtain ⟨aJ, bJ, dJ⟩ := kw_arr (ty := .long) (hts (.arrayClass .long) (by decide +kernel))
  refine ⟨((fun k => match k with | 0 => c0 | 1 => c1 | 2 => c2 | 3 => c3 | 4 => c4 | 5 => c5 | _ => c6, fun k => match k with | 0 => i0 | 1 => i1 | 2 => i2 | 3 => i3 | 4 => i4 | 5 => i5 | _ => i6), aI, aD, aZ, aJ), ⟨⟨⟨?_, ?_⟩, fun w hw => ?_⟩, fun w hw => va_Nw.of (kx_xw_ok hw).2 (hts w (kw_xw w hw)), fun q hq => ?_⟩, fun q hq => va_Nc.of (hfl _ (kw_n1 q hq)), fun E hE => va_Nw.of rfl (hts _ (kw_cw E hE)), fun w hw => va_Nw.of (kx_lw_ok hw).2 (hts w (kw_lw w hw))⟩
  · intro k q hq
    match k, hq with
    | 0, hq => cases hq; exact k0
    | 1, hq => cases hq; exact k1
    | 2, hq => cases hq; exact k2
    | 3, hq => cases hq; exact k3
    | 4, hq => cases hq; exact k4
    | 5, hq => cases hq; exact k5
    | 6, hq => cases hq; exact k6
    | k + 7, hq => simp [vwCl] at hq
  · intro k q hq
    match k, hq with
    | 0, hq => cases hq; exact ⟨bI, dI⟩
    | 1, hq => cases hq; exact ⟨bD, dD⟩
    | 2, hq => cases hq; exact ⟨bZ, dZ⟩
    | 3, hq => cases hq; exact ⟨bJ, dJ⟩
    | k + 4, hq => simp [kx_ty] at hq
  · exact va_Nw.of (kw_isN (List.all_eq_true.mp kx_nw_ok w hw)) (hts w (kw_nw w hw))
  · obtain ⟨a, -, -, -, ha, -⟩ := Cond.exactly_spec (args := args) (first := s) (o := none) (s := s) (idx := []) (t := .string RX4 q.1) (cls := "java/lang/String") (hfl _ (kw_s2 q hq))
    exact ⟨a, vk_R.of (hts _ (kw_s1 q hq)) ha⟩
theorem kw_ZZ {args : Array Value} {s : State} (hts : ∀ w ∈ lw_tbl, w.before args s = true) (hgv : (Jvm.Cond.and given_1 narrow_1).before args s = true) : kx_ZZ (fun q : Nat => s.heap.size ≤ q) s s.heap := by
  have hfl := flat_of_before _ hgv
  exact ⟨vx_Zqof (hts _ kw_l1) (hts _ kw_l3) (hfl _ kw_i1) (fun a h => Nat.not_le.mpr h), vx_Zqof (hts _ kw_l2) (hts _ kw_l3) (hfl _ kw_i2) (fun a h => Nat.not_le.mpr h)⟩
theorem kw_cmp {L i : Nat} (hL : L ≤ 3586) (hi : i ≤ 3600) : nI L - 7 < nI i ↔ L < i + 7 := by
  have h := pk_sub_toInt (a := L) (b := 7) (by omega) (by omega)
  have h2 : (nI L - 7).toInt = (L : Int) - 7 := h
  rw [Int32.lt_iff_toInt_lt, h2, nI_toInt (by omega)]
  omega
/-- the law's cell -/
theorem c_L_cell (l : Launch) (b L k : Nat) (xs : Nat → Int32) (hL : L ≤ 3586) (hk : k ≤ 1) : Met l yL_cell wsL_cell ({ frames := 0, cells := 0, slots := 0, locals := 0 } : Room) (va_Pc [.ref b, .int (nI k)] (fun U => va_X b L xs U U.heap ∧ b < U.heap.size)) (vp_Si (fun r => r = (if k < L then xs k else 0))) 0 0 (fun _ => False) := by
  refine Met.ofW (cc := cL_cell) (maxL := 2) (ret := (some .int)) (by decide) rfl ?_
  intro p e s m args below meth c s₁ B hml hv
  obtain ⟨rfl, hX, hbl⟩ := hv
  have hx := B.exec
  have hb := B.bytes
  have hr := B.returns
  have hlocks := B.notSynchronized
  have hS : va_S kx_F s.heap s.heap [] := va_S.rf
  have hl := lv_entry ([.ref b, .int (nI k)]) (n := 2) (Nat.le_of_ble_eq_true rfl)
  rw [lg_entry_eq]
  generalize (lg_sl ([.ref b, .int (nI k)]) ++ List.replicate (2 - (lg_sl ([.ref b, .int (nI k)])).length) Slot.unset).toArray = ls at hl ⊢
  have hl : lv_has ls 2 [(0, .ref b), (1, .int (nI k))] := hl
  refine lv_iload_n hx hb dL_cell_0 rfl (lv_at hl 1 rfl) ?_
  refine lv_aload_n hx hb dL_cell_1 rfl (lv_at hl 0 rfl) ?_
  refine va_slen hx hb hX hbl (A := kx_F) (fun z => z) hS dL_cell_2 ?_
  refine lv_icmp_ge (x := nI k) (y := nI L) (tgt := 12) hx hb dL_cell_3 (by decide) (fun q => ?_) (fun q => ?_)
  · have q : L ≤ k := (nI_leI (a := L) (b := k) (by omega) (by omega)).mp q
    refine lv_iconst (v := 0) hx hb dL_cell_12 (by decide) ?_
    exact W.iret (v := 0) hx hb hr (fun t ht hW => ⟨0, rfl, (if_neg (by omega)).symm, ht⟩) (fun _ h => nomatch h) dL_cell_13
  · have q : ¬ L ≤ k := fun h => q ((nI_leI (a := L) (b := k) (by omega) (by omega)).mpr h)
    refine lv_aload_n hx hb dL_cell_6 rfl (lv_at hl 0 rfl) ?_
    refine lv_iload_n hx hb dL_cell_7 rfl (lv_at hl 1 rfl) ?_
    refine kw_sld hx hb hX hbl (A0 := kx_F) (fun z => z) hS k (by omega) (by omega) dL_cell_8 ?_
    refine lv_goto (tgt := 13) hx hb dL_cell_9 (by decide) ?_
    exact W.iret (v := xs k) hx hb hr (fun t ht hW => ⟨xs k, rfl, (if_pos (by omega)).symm, ht⟩) (fun _ h => nomatch h) dL_cell_13
