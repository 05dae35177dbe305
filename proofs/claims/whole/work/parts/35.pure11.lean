theorem kx_nlt {a b : Int32} (h : a ≤ b) : ¬ b < a := by
  rw [Int32.lt_iff_toInt_lt]; have := Int32.le_iff_toInt_le.mp h; omega
theorem kx_ltn {a b : Int32} (h : ¬ a ≤ b) : b < a := by
  rw [Int32.lt_iff_toInt_lt]
  have : ¬ a.toInt ≤ b.toInt := fun q => h (Int32.le_iff_toInt_le.mpr q)
  omega
theorem kx_nltL {a b : Int64} (h : a ≤ b) : ¬ b < a := by
  rw [Int64.lt_iff_toInt_lt]; have := Int64.le_iff_toInt_le.mp h; omega
theorem kx_ltnL {a b : Int64} (h : ¬ a ≤ b) : b < a := by
  rw [Int64.lt_iff_toInt_lt]
  have : ¬ a.toInt ≤ b.toInt := fun q => h (Int64.le_iff_toInt_le.mpr q)
  omega
theorem kx_34 {t : Int32} : t < 4 ↔ t ≤ 3 := by
  rw [Int32.lt_iff_toInt_lt, Int32.le_iff_toInt_le]
  have e1 : (4 : Int32).toInt = 4 := rfl
  have e2 : (3 : Int32).toInt = 3 := rfl
  omega
theorem kx_fl0 {n : Nat} (hn : n ≤ 6) (h : (if n < 6 then 0 else 1 : Int32) = 0) : n < 6 ∧ ¬ n = 6 := by
  by_cases c : n < 6
  · exact ⟨c, by omega⟩
  · rw [if_neg c] at h; exact absurd h (by decide)
theorem kx_fl1 {n : Nat} (hn : n ≤ 6) (h : ¬ (if n < 6 then 0 else 1 : Int32) = 0) : n = 6 := by
  by_cases c : n < 6
  · rw [if_pos c] at h; exact absurd rfl h
  · omega
theorem kx_lrem {x u : Int64} : x - (x - x / u * u) = x / u * u := by
  have h : ∀ a b : Int64, a - (a - b) = b := fun a b => by
    apply Int64.toBitVec_inj.mp
    simp only [Int64.toBitVec_sub]
    rw [BitVec.sub_eq_add_neg, BitVec.sub_eq_add_neg, BitVec.neg_add, BitVec.sub_eq_add_neg, BitVec.neg_neg, ← BitVec.add_assoc, BitVec.add_right_neg, BitVec.zero_add]
  exact h _ _
def kq_val (X Y R E : Nat → UInt64) (i : Nat) (w : Int32) : UInt64 := if w = 0 then X i else if w = 1 then Y i else if w = 2 then R i else if w = 3 then E i else kx_area (R i)
