/-! the reference's own words -/
def kx_bt (x lo hi : UInt64) : Int32 := if (FP.dcmp x lo = some .gt ∨ FP.dcmp x lo = some .eq) ∧ (FP.dcmp x hi = some .lt ∨ FP.dcmp x hi = some .eq) then 1 else 0
theorem kx_bt_16 (x : UInt64) : kx_bt x 13848568854164275200 4625196817309499392 = kx_wi x 16 := by
  unfold kx_bt kx_wi
  rw [show FP.i2d (-16) = 13848568854164275200 from by decide +kernel, show FP.i2d 16 = 4625196817309499392 from by decide +kernel]
theorem kx_bt_1000 (x : UInt64) : kx_bt x 13875379345695965184 4652007308841189376 = kx_wi x 1000 := by
  unfold kx_bt kx_wi
  rw [show FP.i2d (-1000) = 13875379345695965184 from by decide +kernel, show FP.i2d 1000 = 4652007308841189376 from by decide +kernel]
def kx_no (n : Nat) (a : Int32) : Int32 := if a < 0 then 1 else if a < nI n then 0 else 1
theorem kx_no_0 {n : Nat} {a : Int32} (hn : n < 2 ^ 31) (h : kx_no n a = 0) : ∃ i, i < n ∧ a = nI i := by
  unfold kx_no at h
  split at h
  · cases h
  · rename_i c
    split at h
    · rename_i c2
      obtain ⟨j, h1, h2⟩ := nI_of c
      subst h2
      exact ⟨j, (nI_ltI h1 hn).mp c2, rfl⟩
    · cases h
def kx_hs (kn : Int32) (ft : Nat) : Int32 := if kn = 0 then 0 else if ft ≤ 0 then 0 else 1
def kx_mm (fr to : Nat → UInt64) (k : Nat) : UInt64 := FP.ddiv (FP.dadd (fr k) (to k)) fx_2
def kx_hh (fr to : Nat → UInt64) (k : Nat) : UInt64 := FP.ddiv (FP.dsub (to k) (fr k)) fx_2
def kx_st (sh : Nat → UInt64) (i : Nat) (x y r e : UInt64) : Nat → UInt64 := vf_upd (vf_upd (vf_upd (vf_upd sh (4 * i) x) (4 * i + 1) y) (4 * i + 2) r) (4 * i + 3) e
theorem kx_st_bd {sh : Nat → UInt64} {i K : Nat} {x y r e : UInt64} (h : ∀ j, fx_bd K (sh j)) (hx : fx_bd K x) (hy : fx_bd K y) (hr : fx_bd K r) (he : fx_bd K e) : ∀ j, fx_bd K (kx_st sh i x y r e j) := fx_bd.upd (fx_bd.upd (fx_bd.upd (fx_bd.upd h hx) hy) hr) he
theorem kx_st_o {sh : Nat → UInt64} {i k : Nat} {x y r e : UInt64} (h : k < 4 * i ∨ 4 * i + 3 < k) : kx_st sh i x y r e k = sh k := by
  unfold kx_st
  rw [kx_un (by omega), kx_un (by omega), kx_un (by omega), kx_un (by omega)]
theorem kx_st_0 {sh : Nat → UInt64} {i : Nat} {x y r e : UInt64} : kx_st sh i x y r e (4 * i) = x := by
  unfold kx_st
  rw [kx_un (by omega), kx_un (by omega), kx_un (by omega), kx_us]
theorem kx_st_1 {sh : Nat → UInt64} {i : Nat} {x y r e : UInt64} : kx_st sh i x y r e (4 * i + 1) = y := by
  unfold kx_st
  rw [kx_un (by omega), kx_un (by omega), kx_us]
theorem kx_st_2 {sh : Nat → UInt64} {i : Nat} {x y r e : UInt64} : kx_st sh i x y r e (4 * i + 2) = r := by
  unfold kx_st
  rw [kx_un (by omega), kx_us]
theorem kx_st_3 {sh : Nat → UInt64} {i : Nat} {x y r e : UInt64} : kx_st sh i x y r e (4 * i + 3) = e := by
  unfold kx_st
  rw [kx_us]
theorem kx_area_bd2 {r : UInt64} (h : fx_bd 220 r) : fx_bd 450 (kx_area r) := ((fx_k4614254477589872640.mul h (by omega)).mul h (by omega)).mono (by omega)
theorem kx_off_bd {sh : Nat → UInt64} {n i w k : Nat} (h : ∀ j, fx_bd 220 (sh j)) (hn : 2 ≤ n) (hn2 : n < 2 ^ 31) : fx_bd 261 (FP.dsub (sh k) (kx_str (fun j => sh (4 * j + w)) n i)) := by
  have h1 : fx_bd 259 (kx_str (fun j => sh (4 * j + w)) n i) := kx_ln_bd (h _) (h _) (nI_ne0 (by omega) (by omega)) (by omega)
  exact ((h k).sub h1 (by omega)).mono (by omega)
theorem kx_swp_n {X Y : Nat → UInt64} {n : Nat} (h : 1 ≤ n) (h1 : n ≠ 1 := by omega) : kx_swp X Y n = kx_max (kx_bend X Y n) n := if_neg h1
theorem kx_swp_1 {X Y : Nat → UInt64} {n : Nat} (h : n = 1) : kx_swp X Y n = FP.dconst0 := if_pos h
