theorem kx_dec (x : Int32) : x + Int32.ofInt (-1) = x - 1 := by
  rw [Int32.sub_eq_add_neg]
  rfl
theorem kx_tap_bd {R : Nat → UInt64} {n : Nat} (h : ∀ j, fx_bd 140 (R j)) (hn1 : 1 ≤ n) (hn : n < 2 ^ 31) : fx_bd 150 (kx_tap R n) := by
  unfold kx_tap
  split
  · exact fx_0b.mono (by omega)
  · exact (((h 0).sub (h (n - 1)) (by omega)).div (fx_il (nI_ne0 (by omega) (by omega))) (by omega)).mono (by omega)
theorem kx_str_bd {f : Nat → UInt64} {n i : Nat} (h : ∀ j, fx_bd 130 (f j)) (hn : 2 ≤ n) (hn2 : n < 2 ^ 31) : fx_bd 169 (kx_str f n i) := kx_ln_bd (h 0) (h (n - 1)) (nI_ne0 (by omega) (by omega)) (by omega)
theorem kx_beh_t {F : Nat → Int32} {n k i : Nat} (h : n - (k + 1) = i) (c : ¬ F i = 0) : kx_beh F n (k + 1) = nI i := by
  subst h
  exact if_neg c
theorem kx_beh_f {F : Nat → Int32} {n k i : Nat} (h : n - (k + 1) = i) (c : F i = 0) : kx_beh F n (k + 1) = kx_beh F n k := by
  subst h
  exact if_pos c
