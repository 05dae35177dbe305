theorem kx_bef_0 {F : Nat → Int32} {i : Nat} (h : F i = 0) : kx_bef F (i + 1) = kx_bef F i := if_pos h
theorem kx_nIi {a b : Nat} (ha : a < 2 ^ 31) (hb : b < 2 ^ 31) (h : nI a = nI b) : a = b := (nI_eq ha hb).mp h
theorem kx_sel_ab2 {a b i A B n : Nat} (h : kx_sel (nI a) (nI b) i A B n) (ha : a < 2 ^ 31) (hb : b < 2 ^ 31) (hn : n < 2 ^ 31) : A = a ∧ B = b ∧ a < i ∧ i < b := by
  rcases h with ⟨h1, h2, h3, h4, h5⟩ | ⟨h1, _⟩ | ⟨_, h2, _⟩
  · have e1 := kx_nIi ha (by omega) h1
    have e2 := kx_nIi hb (by omega) h2
    omega
  · exact absurd h1 (kx_nm1 ha)
  · exact absurd h2 (kx_nm1 hb)
theorem kx_sel_a2 {a i A B n : Nat} (h : kx_sel (nI a) (-1) i A B n) (ha : a < 2 ^ 31) (hn : n < 2 ^ 31) : A = a ∧ B = a ∧ a < i := by
  rcases h with ⟨h1, h2, h3, h4, h5⟩ | ⟨h1, _⟩ | ⟨h1, h2, h3, h4, h5⟩
  · exact absurd h2.symm (kx_nm1 (by omega))
  · exact absurd h1 (kx_nm1 ha)
  · have e1 := kx_nIi ha (by omega) h1
    omega
theorem kx_sel_b2 {b i A B n : Nat} (h : kx_sel (-1) (nI b) i A B n) (hb : b < 2 ^ 31) (hn : n < 2 ^ 31) : A = b ∧ B = b ∧ i < b := by
  rcases h with ⟨h1, h2, h3, h4, h5⟩ | ⟨h1, h2, h3, h4, h5⟩ | ⟨h1, h2, h3⟩
  · exact absurd h1.symm (kx_nm1 (by omega))
  · have e1 := kx_nIi hb (by omega) h2
    omega
  · exact absurd h2 (kx_nm1 hb)
theorem kx_sel_n {i A B n : Nat} : ¬ kx_sel (-1) (-1) i A B n ∨ 2 ^ 31 ≤ n := by
  by_cases hn : n < 2 ^ 31
  · left
    intro h
    rcases h with ⟨h1, h2, h3, h4, h5⟩ | ⟨h1, h2, h3, h4, h5⟩ | ⟨h1, h2, h3, h4, h5⟩
    · exact absurd h1.symm (kx_nm1 (by omega))
    · exact absurd h2.symm (kx_nm1 (by omega))
    · exact absurd h1.symm (kx_nm1 (by omega))
  · right
    omega
