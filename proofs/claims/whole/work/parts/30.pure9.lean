/-- the reference's first directions -/
def kx_p8 : Nat → UInt64 := vf_upd (vf_upd (vf_upd (vf_upd (vf_upd (vf_upd (vf_upd (vf_upd (fun _ => 0) 0 FP.dconst1) 1 FP.dconst1) 2 FP.dconst1) 3 FP.dconst1) 4 FP.dconst1) 5 FP.dconst1) 6 FP.dconst1) 7 FP.dconst1
theorem kx_p8_bd : ∀ j, fx_bd 5 (kx_p8 j) := by
  have h1 : fx_bd 5 FP.dconst1 := fx_1b.mono (by omega)
  exact fx_bd.upd (fx_bd.upd (fx_bd.upd (fx_bd.upd (fx_bd.upd (fx_bd.upd (fx_bd.upd (fx_bd.upd (fun _ => fx_0b.mono (by omega)) h1) h1) h1) h1) h1) h1) h1) h1
theorem kx_p8_1 {j : Nat} (h : j < 8) : kx_p8 j = FP.dconst1 := by
  rcases (show j = 0 ∨ j = 1 ∨ j = 2 ∨ j = 3 ∨ j = 4 ∨ j = 5 ∨ j = 6 ∨ j = 7 by omega) with rfl | rfl | rfl | rfl | rfl | rfl | rfl | rfl <;> rfl
