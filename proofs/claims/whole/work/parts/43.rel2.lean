section
variable {n v : Nat} {P Q Ln : Nat → UInt64} {Th : Nat → Int32} {Mi Ha ps qs : Nat → UInt64} {th : Nat → Int32} {fr to : Nat → UInt64} {X Y R E : Nat → UInt64} {F : Nat → Int32} {md sh0 kn : Int32} {ft : Nat} {fd : Nat → Int32} {sh : Nat → UInt64}
variable {KX KY kx ky : Nat → UInt64} {kt kp : Int32} {Ki : Nat → Int32} {Li : Nat → UInt64} {Cl : Nat → Int32} {cnt : Nat} {ki : Nat → Int32} {li : Nat → UInt64} {cl : Nat → Int32} {ru : Nat} {tw : Int32}
theorem kL_rule {r r2 kd cl9 : Int32} {lm : UInt64} {o : Nat → Int64} {u : (Nat → Int32) × (Nat → UInt64) × (Nat → Int32) × Nat × (Nat → Int64)} {w : Int32 × (Nat → Int32) × (Nat → UInt64) × (Nat → Int32) × Nat}
    (h1 : r = (kc_rul kd cl9 cnt) ∧ (((kc_rul kd cl9 cnt) = 0 ∧ u = (upd Ki cnt kd, vf_upd Li cnt lm, upd Cl cnt cl9, cnt + 1, vp_updL o 0 (nI (cnt + 1)).toInt64)) ∨ ((kc_rul kd cl9 cnt) ≠ 0 ∧ u = (Ki, Li, Cl, cnt, o))))
    (h2 : w.1 = (kc_rul kd cl9 ru) ∧ (((kc_rul kd cl9 ru) = 0 ∧ r2 = nI (ru + 1) ∧ w.2 = (upd ki ru kd, vf_upd li ru lm, upd cl ru cl9, ru + 1)) ∨ ((kc_rul kd cl9 ru) ≠ 0 ∧ r2 = 0 ∧ w.2 = (ki, li, cl, ru))))
    (hRr : kR_r Ki Li Cl cnt ki li cl ru) : w.1 = r ∧ (r = 0 → u.2.2.2.2 0 = r2.toInt64) ∧ kR_r u.1 u.2.1 u.2.2.1 u.2.2.2.1 w.2.1 w.2.2.1 w.2.2.2.1 w.2.2.2.2 := by
  obtain ⟨rfl, rfl, rfl, rfl, h6⟩ := hRr
  refine ⟨h2.1.trans h1.1.symm, ?_⟩
  rcases h1.2 with ⟨c, e1⟩ | ⟨c, e1⟩ <;> rcases h2.2 with ⟨c2, e3, e2⟩ | ⟨c2, e3, e2⟩
  · rw [e1, e2, e3]
    have := kz_rul c
    exact ⟨fun _ => rfl, rfl, rfl, rfl, rfl, by show cnt + 1 ≤ 6; omega⟩
  · exact absurd c c2
  · exact absurd c2 c
  · rw [e1, e2]; exact ⟨fun q => absurd (h1.1.symm.trans q) c, rfl, rfl, rfl, rfl, h6⟩
theorem kx_hd_c {X2 Y2 R2 : Nat → UInt64} {md2 kd : Int32} {lm : UInt64} (hn1 : 1 ≤ n) (hx : ∀ j, j < n → X j = X2 j) (hy : ∀ j, j < n → Y j = Y2 j) (hr : ∀ j, j < n → R j = R2 j) (hm : md = md2) : kx_hd X Y R n md kd lm = kx_hd X2 Y2 R2 n md2 kd lm := by
  subst hm
  unfold kx_hd
  have e1 : kx_tap R n = kx_tap R2 n := by unfold kx_tap; rw [hr 0 (by omega), hr (n - 1) (by omega)]
  have e2 : kx_sum (fun j => kx_area (R j)) n = kx_sum (fun j => kx_area (R2 j)) n := kx_sum_c n (fun j hj => by rw [hr j hj])
  rw [kx_swp_c hn1 hx hy, e1, e2, hr (n - 1) (by omega)]
theorem kx_cl_c {g g2 C : Nat → Int32} {m : Nat} (h : ∀ j, g j = g2 j) : ∀ k, kx_cl g C m k = kx_cl g2 C m k
  | 0 => rfl
  | k + 1 => by
    show (if g (m - (k + 1)) = 0 then kx_cl g C m k else C (m - (k + 1))) = (if g2 (m - (k + 1)) = 0 then kx_cl g2 C m k else C (m - (k + 1)))
    rw [kx_cl_c h k, h]
theorem kL_cls {r r2 : Int32} {o u : Nat → Int64} {w : Int32}
    (h1 : r = (kc_h sh0) ∧ (((kc_h sh0) = 0 ∧ u = vp_updL o 0 (kx_cl (fun j => kx_hd X Y R n md (Ki j) (Li j)) Cl cnt cnt).toInt64) ∨ ((kc_h sh0) ≠ 0 ∧ u = o)))
    (h2 : w = (kc_h (kx_hs kn ft)) ∧ ((kc_h (kx_hs kn ft)) = 0 → r2 = kx_cl (fun j => kx_hd (fun j => sh (4 * j)) (fun j => sh (4 * j + 1)) (fun j => sh (4 * j + 2)) n (nI (n - ft)) (ki j) (li j)) cl ru ru)) (hn1 : 1 ≤ n) (hRs : kR_s n X Y R E F md sh0 kn ft fd sh) (hRr : kR_r Ki Li Cl cnt ki li cl ru) : w = r ∧ (r = 0 → u 0 = r2.toInt64) := by
  obtain ⟨rfl, rfl, rfl, rfl, h6⟩ := hRr
  have e0 := hRs.1
  rw [← e0] at h2
  refine ⟨h2.1.trans h1.1.symm, fun q => ?_⟩
  have c := h1.1.symm.trans q
  rcases h1.2 with ⟨_, e1⟩ | ⟨c', e1⟩
  · have hx := hRs.2.2.2 (kz_h c)
    rw [e1, h2.2 c, kx_cl_c (fun j => kx_hd_c hn1 (fun j hj => (hx.1 j hj).1) (fun j hj => (hx.1 j hj).2.1) (fun j hj => (hx.1 j hj).2.2.1) hx.2)]
    rfl
  · exact absurd c c'
theorem kL_keep {r : Int32} {u : (Nat → UInt64) × (Nat → UInt64) × Int32} {w : Int32 × (Nat → UInt64) × (Nat → UInt64) × Int32}
    (h1 : r = (kc_h sh0) ∧ (((kc_h sh0) = 0 ∧ u = (kx_cp KX X n, kx_cp KY Y n, 1)) ∨ ((kc_h sh0) ≠ 0 ∧ u = (KX, KY, kt))))
    (h2 : w.1 = (kc_h (kx_hs kn ft)) ∧ (((kc_h (kx_hs kn ft)) = 0 ∧ w.2 = (kx_cp kx (fun j => sh (4 * j)) n, kx_cp ky (fun j => sh (4 * j + 1)) n, 1)) ∨ ((kc_h (kx_hs kn ft)) ≠ 0 ∧ w.2 = (kx, ky, kp))))
    (hRs : kR_s n X Y R E F md sh0 kn ft fd sh) (hBs : kB_s X Y R E sh) (hRk : kR_k n KX KY kx ky kt kp) (hBk : kB_k KX KY kx ky) : w.1 = r ∧ kR_k n u.1 u.2.1 w.2.1 w.2.2.1 u.2.2 w.2.2.2 ∧ kB_k u.1 u.2.1 w.2.1 w.2.2.1 := by
  have e0 := hRs.1
  rw [← e0] at h2
  refine ⟨h2.1.trans h1.1.symm, ?_⟩
  rcases h1.2 with ⟨c, e1⟩ | ⟨c, e1⟩ <;> rcases h2.2 with ⟨c2, e2⟩ | ⟨c2, e2⟩
  · rw [e1, e2]
    have hx := (hRs.2.2.2 (kz_h c)).1
    refine ⟨⟨fun j hj => ?_, rfl⟩, kx_cp_bd hBk.1 hBs.1, kx_cp_bd hBk.2.1 hBs.2.1, fun j => ?_, fun j => ?_⟩
    · show (if j < n then X j else KX j) = (if j < n then sh (4 * j) else kx j) ∧ (if j < n then Y j else KY j) = (if j < n then sh (4 * j + 1) else ky j)
      rw [if_pos hj, if_pos hj, if_pos hj, if_pos hj]
      exact ⟨(hx j hj).1, (hx j hj).2.1⟩
    · show fx_bd 130 (if j < n then sh (4 * j) else kx j)
      by_cases hj : j < n
      · rw [if_pos hj, ← (hx j hj).1]; exact hBs.1 j
      · rw [if_neg hj]; exact hBk.2.2.1 j
    · show fx_bd 130 (if j < n then sh (4 * j + 1) else ky j)
      by_cases hj : j < n
      · rw [if_pos hj, ← (hx j hj).2.1]; exact hBs.2.1 j
      · rw [if_neg hj]; exact hBk.2.2.2 j
  · exact absurd c c2
  · exact absurd c2 c
  · rw [e1, e2]; exact ⟨hRk, hBk⟩
theorem kx_dst_c {X2 Y2 KX2 KY2 : Nat → UInt64} (hx : ∀ j, j < n → X j = X2 j) (hy : ∀ j, j < n → Y j = Y2 j) (hk : ∀ j, j < n → KX j = KX2 j ∧ KY j = KY2 j) (t : Int32) : kx_dst X Y KX KY n t = kx_dst X2 Y2 KX2 KY2 n t :=
  kx_sum_c n (fun j hj => by unfold kx_qx kx_qy; rw [hx j hj, hy j hj, (hk j hj).1, (hk j hj).2])
theorem kL_apart {r t9 : Int32} {r2 : UInt64} {o u : Nat → UInt64} {w : Int32}
    (h1 : r = (kc_apa t9 sh0 kt) ∧ (((kc_apa t9 sh0 kt) = 0 ∧ u = vf_upd o 0 (kx_dst X Y KX KY n t9)) ∨ ((kc_apa t9 sh0 kt) ≠ 0 ∧ u = o)))
    (h2 : w = (kc_apa t9 (kx_hs kn ft) kp) ∧ ((kc_apa t9 (kx_hs kn ft) kp) = 0 → r2 = kx_dst (fun j => sh (4 * j)) (fun j => sh (4 * j + 1)) kx ky n t9)) (hRs : kR_s n X Y R E F md sh0 kn ft fd sh) (hRk : kR_k n KX KY kx ky kt kp) : w = r ∧ (r = 0 → u 0 = r2) := by
  have e0 := hRs.1
  rw [← e0, ← hRk.2] at h2
  refine ⟨h2.1.trans h1.1.symm, fun q => ?_⟩
  have c := h1.1.symm.trans q
  rcases h1.2 with ⟨_, e1⟩ | ⟨c', e1⟩
  · rw [e1, h2.2 c, kx_us]
    have hx := (hRs.2.2.2 (kz_apa c)).1
    exact kx_dst_c (fun j hj => (hx j hj).1) (fun j hj => (hx j hj).2.1) hRk.1 t9
  · exact absurd c c'
theorem kx_nr_c {f g : Int32 → UInt64} (h : ∀ t, f t = g t) : ∀ k, kx_nr f k = kx_nr g k := fun k => by rw [show f = g from funext h]
theorem kL_match {r r2 : Int32} {o u : Nat → Int64} {w : Int32}
    (h1 : r = (kc_mat sh0 kt) ∧ (((kc_mat sh0 kt) = 0 ∧ u = vp_updL o 0 (kx_nr (kx_dst X Y KX KY n) 3).toInt64) ∨ ((kc_mat sh0 kt) ≠ 0 ∧ u = o)))
    (h2 : w = (kc_mat (kx_hs kn ft) kp) ∧ ((kc_mat (kx_hs kn ft) kp) = 0 → r2 = kx_nr (kx_dst (fun j => sh (4 * j)) (fun j => sh (4 * j + 1)) kx ky n) 3)) (hRs : kR_s n X Y R E F md sh0 kn ft fd sh) (hRk : kR_k n KX KY kx ky kt kp) : w = r ∧ (r = 0 → u 0 = r2.toInt64) := by
  have e0 := hRs.1
  rw [← e0, ← hRk.2] at h2
  refine ⟨h2.1.trans h1.1.symm, fun q => ?_⟩
  have c := h1.1.symm.trans q
  rcases h1.2 with ⟨_, e1⟩ | ⟨c', e1⟩
  · have hx := (hRs.2.2.2 (kz_mat c)).1
    rw [e1, h2.2 c, kx_nr_c (fun t => kx_dst_c (fun j hj => (hx j hj).1) (fun j hj => (hx j hj).2.1) hRk.1 t)]
    rfl
  · exact absurd c c'
theorem kL_law {r : Int32} {x9 u9 y9 r2 : Int64} {o u : Nat → Int64} {w : Int32}
    (h1 : r = (kc_law x9 u9 y9) ∧ (((kc_law x9 u9 y9) = 0 ∧ u = vp_updL o 0 (kc_lv x9 u9 y9)) ∨ ((kc_law x9 u9 y9) ≠ 0 ∧ u = o)))
    (h2 : w = (kc_law x9 u9 y9) ∧ ((kc_law x9 u9 y9) = 0 → r2 = kc_lv x9 u9 y9)) : w = r ∧ (r = 0 → u 0 = r2) := by
  refine ⟨h2.1.trans h1.1.symm, fun q => ?_⟩
  have c := h1.1.symm.trans q
  rcases h1.2 with ⟨_, e1⟩ | ⟨c', e1⟩
  · rw [e1, h2.2 c]; rfl
  · exact absurd c c'
/-! run -/
theorem kA_fit (hRa : kR_a n v P Q Ln Th Mi Ha ps qs th fr to) {i : Nat} (hi : i < n) : kq_fit Th P Q v i ↔ km_fit th ps qs v i := by
  have ht : ∀ j, j < v → Th (i * v + j) = th (8 * i + j) := fun j hj => (hRa.2.1 i j hi hj).1
  have hp : ∀ j, j < v → Th (i * v + j) ≠ 0 → P j = ps j := fun j hj _ => (hRa.1 j hj).1
  have hq : ∀ j, j < v → Th (i * v + j) ≠ 0 → Q j = qs j := fun j hj _ => (hRa.1 j hj).2.1
  unfold kq_fit km_fit kx_fit kx_det
  rw [kx_cn_c v ht, kx_S2_c ht hp hp, kx_S2_c ht hq hq, kx_S2_c ht hp hq]
theorem kA_val (hRa : kR_a n v P Q Ln Th Mi Ha ps qs th fr to) {i : Nat} (hi : i < n) : kq_cx Th P Q Mi v i = km_cx th ps qs fr to v i ∧ kq_cy Th P Q Mi v i = km_cy th ps qs fr to v i ∧ kq_cr Th Ha Ln v i = km_cr th ps qs fr to v i ∧ kq_ce Th P Q Mi v i = km_ce th ps qs fr to v i := by
  have ht : ∀ j, j < v → Th (i * v + j) = th (8 * i + j) := fun j hj => (hRa.2.1 i j hi hj).1
  have hp : ∀ j, j < v → Th (i * v + j) ≠ 0 → P j = ps j := fun j hj _ => (hRa.1 j hj).1
  have hq : ∀ j, j < v → Th (i * v + j) ≠ 0 → Q j = qs j := fun j hj _ => (hRa.1 j hj).2.1
  have hm : ∀ j, j < v → Th (i * v + j) ≠ 0 → Mi (i * v + j) = kx_mm fr to (8 * i + j) := fun j hj h0 => ((hRa.2.1 i j hi hj).2 (by rw [← ht j hj]; exact h0)).1
  have hh : ∀ j, j < v → Th (i * v + j) ≠ 0 → Ha (i * v + j) = kx_hh fr to (8 * i + j) := fun j hj h0 => ((hRa.2.1 i j hi hj).2 (by rw [← ht j hj]; exact h0)).2
  have e1 : kq_cx Th P Q Mi v i = km_cx th ps qs fr to v i := by
    unfold kq_cx km_cx kx_cx kx_det
    rw [kx_S2_c ht hp hm, kx_S2_c ht hq hq, kx_S2_c ht hq hm, kx_S2_c ht hp hq, kx_S2_c ht hp hp]
  have e2 : kq_cy Th P Q Mi v i = km_cy th ps qs fr to v i := by
    unfold kq_cy km_cy kx_cy kx_det
    rw [kx_S2_c ht hp hm, kx_S2_c ht hq hq, kx_S2_c ht hq hm, kx_S2_c ht hp hq, kx_S2_c ht hp hp]
  refine ⟨e1, e2, ?_, ?_⟩
  · unfold kq_cr km_cr kx_rad
    rw [kx_cn_c v ht]
    rw [kx_si_c (f := fun j => FP.ddiv (Ha (i * v + j)) (Ln j)) (g := fun j => FP.ddiv (kx_hh fr to (8 * i + j)) (kx_root (kx_sq (ps j) (qs j)))) v ht (fun j hj h0 => by rw [hh j hj h0, (hRa.1 j hj).2.2])]
  · unfold kq_ce km_ce kx_res
    rw [e1, e2]
    exact kx_si_c v ht (fun j hj h0 => by dsimp only; rw [hm j hj h0, hp j hj h0, hq j hj h0])
theorem kL_run {r r2 : Int32} {u : (Nat → UInt64) × (Nat → UInt64) × (Nat → UInt64) × (Nat → UInt64) × (Nat → Int32) × Nat × Int32} {w : (Nat → UInt64) × (Nat → Int32) × Nat}
    (h1 : r = nI u.2.2.2.2.2.1 ∧ kx_fin n (kq_fit Th P Q v) (kq_cx Th P Q Mi v) (kq_cy Th P Q Mi v) (kq_cr Th Ha Ln v) (kq_ce Th P Q Mi v) u.2.2.2.2.1 u.1 u.2.1 u.2.2.1 u.2.2.2.1 u.2.2.2.2.2.1 ∧ ((∀ j, fx_bd 130 (u.1 j)) ∧ (∀ j, fx_bd 130 (u.2.1 j)) ∧ (∀ j, fx_bd 140 (u.2.2.1 j)) ∧ (∀ j, fx_bd 220 (u.2.2.2.1 j))) ∧ u.2.2.2.2.2.2 = (if u.2.2.2.2.2.1 = 0 then 0 else 1) ∧ u.2.2.2.2.2.1 ≤ n)
    (h2 : r2 = nI w.2.2 ∧ kx_fin n (km_fit th ps qs v) (km_cx th ps qs fr to v) (km_cy th ps qs fr to v) (km_cr th ps qs fr to v) (km_ce th ps qs fr to v) w.2.1 (fun j => w.1 (4 * j)) (fun j => w.1 (4 * j + 1)) (fun j => w.1 (4 * j + 2)) (fun j => w.1 (4 * j + 3)) w.2.2 ∧ ∀ j, fx_bd 220 (w.1 j))
    (hn : n ≤ 16) (hRa : kR_a n v P Q Ln Th Mi Ha ps qs th fr to) : r = r2 ∧ kR_s n u.1 u.2.1 u.2.2.1 u.2.2.2.1 u.2.2.2.2.1 (nI (n - u.2.2.2.2.2.1)) u.2.2.2.2.2.2 1 w.2.2 w.2.1 w.1 ∧ kB_s u.1 u.2.1 u.2.2.1 u.2.2.2.1 w.1 := by
  obtain ⟨e1, f1, b1, s1, l1⟩ := h1
  obtain ⟨e2, f2, b2⟩ := h2
  obtain ⟨g1, g2, g3⟩ := kx_fin_u hn f1 f2 (fun i hi => kA_fit hRa hi) (fun i hi _ => kA_val hRa hi)
  refine ⟨by rw [e1, e2, g1], ⟨?_, fun j hj => ?_, by rw [← g1]; exact l1, fun h0 => ⟨fun j hj => ?_, by rw [g1]⟩⟩, b1.1, b1.2.1, b1.2.2.1, b1.2.2.2, b2⟩
  · rw [s1, ← g1]
    unfold kx_hs
    rw [if_neg (show ¬ (1 : Int32) = 0 by decide)]
    by_cases hz : u.2.2.2.2.2.1 = 0
    · rw [if_pos hz, if_pos (by omega)]
    · rw [if_neg hz, if_neg (by omega)]
  · by_cases hk : kq_fit Th P Q v j
    · exact Or.inr ((f1.2 j hj).1 hk).1
    · exact Or.inl ((f1.2 j hj).2 hk).1
  · have hp : 0 < u.2.2.2.2.2.1 := by
      rcases Nat.eq_zero_or_pos u.2.2.2.2.2.1 with q | q
      · exact absurd (by rw [s1, if_pos q]) h0
      · exact q
    obtain ⟨k1, k2, k3, k4⟩ := g3 hp j hj
    exact ⟨k1, k2, k3, k4, g2 j hj⟩
/-! the start -/
theorem kx_sq10 : kx_sq FP.dconst1 0 = FP.dconst1 := by decide +kernel
theorem kI_a (hv : v ≤ 8) : kR_a n v (kx_cp (fun _ => 0) (fun _ => FP.dconst1) v) (fun _ => 0) (kx_cp (fun _ => 0) (fun _ => kx_root FP.dconst1) v) (fun _ => 0) (fun _ => 0) (fun _ => 0) kx_p8 (fun _ => 0) (fun _ => 0) (fun _ => 0) (fun _ => 0) := by
  refine ⟨fun j hj => ?_, fun i j _ _ => ⟨rfl, fun q => absurd rfl q⟩, fun j => Or.inl rfl⟩
  show (if j < v then FP.dconst1 else 0) = kx_p8 j ∧ (0 : UInt64) = 0 ∧ (if j < v then kx_root FP.dconst1 else 0) = kx_root (kx_sq (kx_p8 j) 0)
  rw [if_pos hj, if_pos hj, kx_p8_1 (by omega), kx_sq10]
  exact ⟨rfl, rfl, rfl⟩
theorem kI_s : kR_s n (fun _ => 0) (fun _ => 0) (fun _ => 0) (fun _ => 0) (fun _ => 0) 0 0 0 0 (fun _ => 0) (fun _ => 0) := ⟨rfl, fun j _ => Or.inl rfl, Nat.zero_le _, fun q => absurd rfl q⟩
theorem kI_k : kR_k n (fun _ => 0) (fun _ => 0) (fun _ => 0) (fun _ => 0) 0 0 := ⟨fun j _ => ⟨rfl, rfl⟩, rfl⟩
theorem kI_r : kR_r (fun _ => 0) (fun _ => 0) (fun _ => 0) 0 (fun _ => 0) (fun _ => 0) (fun _ => 0) 0 := ⟨rfl, rfl, rfl, rfl, by omega⟩
theorem kx_z0 {K : Nat} : ∀ j : Nat, fx_bd K ((fun _ => 0 : Nat → UInt64) j) := fun _ => fx_0b.mono (Nat.zero_le _)
theorem kI_Ba (hv : v ≤ 8) : kB_a v (kx_cp (fun _ => 0) (fun _ => FP.dconst1) v) (fun _ => 0) (kx_cp (fun _ => 0) (fun _ => kx_root FP.dconst1) v) (fun _ => 0) (fun _ => 0) kx_p8 (fun _ => 0) (fun _ => 0) (fun _ => 0) := by
  refine ⟨kx_cp_bd kx_z0 (fun _ => fx_1b.mono (by omega)), kx_z0, kx_cp_bd kx_z0 (fun _ => kx_root_bd fx_1l.nn (fx_1b.mono (by omega))), kx_z0, kx_z0, fun j hj => ?_, kx_p8_bd, kx_z0, kx_z0, kx_z0⟩
  show fx_pl 61 (if j < v then kx_root FP.dconst1 else 0)
  rw [if_pos hj]
  exact kx_root_pl fx_1l.nn (fx_1b.mono (by omega))
theorem kI_Bs : kB_s (fun _ => 0) (fun _ => 0) (fun _ => 0) (fun _ => 0) (fun _ => 0) := ⟨kx_z0, kx_z0, kx_z0, kx_z0, kx_z0⟩
theorem kI_Bk : kB_k (fun _ => 0) (fun _ => 0) (fun _ => 0) (fun _ => 0) := ⟨kx_z0, kx_z0, kx_z0, kx_z0⟩
end
