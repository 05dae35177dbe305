theorem kx_mid_bd {a b : UInt64} (ha : fx_bd 11 a) (hb : fx_bd 11 b) : fx_bd 14 (FP.ddiv (FP.dadd a b) fx_2) := ((ha.add hb (by omega)).div fx_2l.lb (by omega)).mono (by omega)
theorem kx_hlf_bd {a b : UInt64} (ha : fx_bd 11 a) (hb : fx_bd 11 b) : fx_bd 14 (FP.ddiv (FP.dsub b a) fx_2) := ((hb.sub ha (by omega)).div fx_2l.lb (by omega)).mono (by omega)
/-- the first i numbers of a row copied -/
def kx_cp (K X : Nat → UInt64) (i : Nat) : Nat → UInt64 := fun j => if j < i then X j else K j
theorem kx_cp_0 {K X : Nat → UInt64} : kx_cp K X 0 = K := funext fun j => if_neg (by omega)
theorem kx_cp_s {K X : Nat → UInt64} {i : Nat} : vf_upd (kx_cp K X i) i (X i) = kx_cp K X (i + 1) := by
  funext j
  by_cases c : j = i
  · rw [c, kx_us]
    exact (if_pos (by omega)).symm
  · rw [kx_un c]
    unfold kx_cp
    by_cases c2 : j < i
    · rw [if_pos c2, if_pos (by omega)]
    · rw [if_neg c2, if_neg (by omega)]
theorem kx_cp_bd {K X : Nat → UInt64} {i a : Nat} (hK : ∀ j, fx_bd a (K j)) (hX : ∀ j, fx_bd a (X j)) : ∀ j, fx_bd a (kx_cp K X i j) := by
  intro j
  unfold kx_cp
  split
  · exact hX j
  · exact hK j
