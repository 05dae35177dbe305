/-! doubles: bounds that keep NaN out -/
/-- a finite double below 2^k in size -/
def fx_bd (k : Nat) (x : UInt64) : Prop := ∃ (s : Bool) (c : Nat) (q : Int), FP.Core.val64 x = .fin s c q ∧ q + 53 ≤ (k : Int)
/-- a finite double of at least 2^(-j) in size -/
def fx_lb (j : Nat) (x : UInt64) : Prop := ∃ (s : Bool) (c : Nat) (q : Int), FP.Core.val64 x = .fin s c q ∧ 2 ^ 52 ≤ c ∧ -(j : Int) ≤ q + 52
/-- .. and positive -/
def fx_pl (j : Nat) (x : UInt64) : Prop := ∃ (c : Nat) (q : Int), FP.Core.val64 x = .fin false c q ∧ 2 ^ 52 ≤ c ∧ -(j : Int) ≤ q + 52
/-- not below 0 -/
def fx_nn (x : UInt64) : Prop := ∃ (c : Nat) (q : Int), FP.Core.val64 x = .fin false c q
theorem fx_pl.lb {j : Nat} {x : UInt64} (h : fx_pl j x) : fx_lb j x := by
  obtain ⟨c, q, h⟩ := h
  exact ⟨false, c, q, h⟩
theorem fx_pl.nn {j : Nat} {x : UInt64} (h : fx_pl j x) : fx_nn x := by
  obtain ⟨c, q, h, -⟩ := h
  exact ⟨c, q, h⟩
theorem fx_bd.mono {a b : Nat} {x : UInt64} (h : fx_bd a x) (hab : a ≤ b) : fx_bd b x := by
  obtain ⟨s, c, q, h, h2⟩ := h
  exact ⟨s, c, q, h, by omega⟩
theorem fx_lb.mono {a b : Nat} {x : UInt64} (h : fx_lb a x) (hab : a ≤ b) : fx_lb b x := by
  obtain ⟨s, c, q, h, h2, h3⟩ := h
  exact ⟨s, c, q, h, h2, by omega⟩
theorem fx_pl.mono {a b : Nat} {x : UInt64} (h : fx_pl a x) (hab : a ≤ b) : fx_pl b x := by
  obtain ⟨c, q, h, h2, h3⟩ := h
  exact ⟨c, q, h, h2, by omega⟩
theorem fx_bd.n {k : Nat} {x : UInt64} (h : fx_bd k x) : vf_n64 x := by
  obtain ⟨s, c, q, h, -⟩ := h
  have hE : x.toNat / 4503599627370496 % 2048 ≠ 2047 := by
    intro he
    unfold FP.Core.val64 FP.Core.decode at h
    have h1 : FP.Core.fieldE FP.Core.b64 x.toNat = FP.Core.b64.exps - 1 := he
    rw [if_pos h1] at h
    split at h <;> cases h
  unfold vf_n64
  rw [UInt64.le_iff_toNat_le, UInt64.toNat_and]
  have e1 : (0x7fffffffffffffff : UInt64).toNat = 2 ^ 63 - 1 := by decide
  have e2 : (0x7ff0000000000000 : UInt64).toNat = 0x7ff0000000000000 := by decide
  rw [e1, e2, Nat.and_two_pow_sub_one_eq_mod]
  omega
theorem fx_bd.ne {k : Nat} {x : UInt64} (h : fx_bd k x) : FP.Core.val64 x ≠ .nan := by
  obtain ⟨s, c, q, h, -⟩ := h
  rw [h]
  intro q
  cases q
theorem fx_q0 : FP.Core.b64.qmin = -1074 := by decide
theorem fx_q1 : FP.Core.b64.qmax = 971 := by decide
theorem fx_p : FP.Core.b64.p = 53 := rfl
theorem fx_t : FP.Core.b64.tails = 2 ^ 52 := by decide
theorem fx_rr {s : Bool} {A B : Nat} {e : Int} {m : Nat} (hB : 0 < B) (h : FP.Core.Below A B ((m : Int) - e)) (hm : m + 1 ≤ 1024) {x : UInt64} (hx : FP.Core.val64 x = FP.Core.roundRatio FP.Core.b64 s A B e) : fx_bd (m + 1) x := by
  have hf := fx_q0
  have hq := fx_q1
  unfold FP.Core.roundRatio at hx
  split at hx
  · exact ⟨_, _, _, hx, by rw [hf]; omega⟩
  · rename_i hA0
    have hA : 0 < A := by omega
    have l1 := FP.Core.lt_of_below (FP.Core.leading_spec hA hB).1 h
    have hQ : FP.Core.quantum FP.Core.b64 A B e ≤ (m : Int) - 53 := by
      unfold FP.Core.quantum
      rw [hf, fx_p]
      omega
    unfold FP.Core.roundAt FP.Core.settle FP.Core.bound at hx
    rw [hq] at hx
    split at hx
    · rw [if_pos (by omega)] at hx
      exact ⟨_, _, _, hx, by omega⟩
    · rw [if_pos (by omega)] at hx
      exact ⟨_, _, _, hx, by omega⟩
/-- a finite rounding keeps its sign; one of at least 2^(-j) stays so -/
theorem fx_rs {s : Bool} {A B : Nat} {e : Int} {k : Nat} {x : UInt64} (hx : FP.Core.val64 x = FP.Core.roundRatio FP.Core.b64 s A B e) (hb : fx_bd k x) : ∃ (c : Nat) (q : Int), FP.Core.val64 x = .fin s c q := by
  obtain ⟨s', c', q', h', -⟩ := hb
  unfold FP.Core.roundRatio at hx
  split at hx
  · exact ⟨_, _, hx⟩
  · unfold FP.Core.roundAt FP.Core.settle FP.Core.bound at hx
    split at hx
    · split at hx
      · exact ⟨_, _, hx⟩
      · rw [h'] at hx; cases hx
    · split at hx
      · exact ⟨_, _, hx⟩
      · rw [h'] at hx; cases hx
theorem fx_rl {s : Bool} {A B : Nat} {e : Int} {k j : Nat} {x : UInt64} (hA : 0 < A) (hB : 0 < B) (h : ¬ FP.Core.Below A B (-(j : Int) - e)) (hj : j ≤ 1022) (hx : FP.Core.val64 x = FP.Core.roundRatio FP.Core.b64 s A B e) (hb : fx_bd k x) : ∃ (c : Nat) (q : Int), FP.Core.val64 x = .fin s c q ∧ 2 ^ 52 ≤ c ∧ -(j : Int) ≤ q + 52 := by
  obtain ⟨s', c', q', h', -⟩ := hb
  have hf := fx_q0
  have hq := fx_q1
  have ht := fx_t
  have l1 := FP.Core.lt_of_below h (FP.Core.leading_spec hA hB).2
  have hQ : FP.Core.quantum FP.Core.b64 A B e = FP.Core.leading A B + e - 52 := by
    unfold FP.Core.quantum
    rw [hf, fx_p]
    omega
  have hc : 2 ^ 52 ≤ FP.Core.nearest (FP.Core.unitsNum A e (FP.Core.quantum FP.Core.b64 A B e)) (FP.Core.unitsDen B e (FP.Core.quantum FP.Core.b64 A B e)) := by
    refine FP.Core.nearest_ge (FP.Core.unitsDen_pos hB ..) ?_
    refine Nat.le_of_not_lt fun hl => ?_
    rw [FP.Core.units_below] at hl
    refine (FP.Core.leading_spec hA hB).1 ?_
    rw [hQ] at hl
    have e9 : FP.Core.leading A B + e - 52 - e + ((52 : Nat) : Int) = FP.Core.leading A B := by omega
    rw [e9] at hl
    exact hl
  unfold FP.Core.roundRatio at hx
  rw [if_neg (by omega)] at hx
  unfold FP.Core.roundAt FP.Core.settle FP.Core.bound at hx
  split at hx
  · split at hx
    · exact ⟨_, _, hx, hc, by omega⟩
    · rw [h'] at hx; cases hx
  · split at hx
    · exact ⟨_, _, hx, Nat.le_of_eq ht.symm, by omega⟩
    · rw [h'] at hx; cases hx
theorem fx_pw {c u w : Nat} (h : c < 2 ^ 53) (hw : 53 + u ≤ w) : c * 2 ^ u < 2 ^ w := by
  calc c * 2 ^ u < 2 ^ 53 * 2 ^ u := Nat.mul_lt_mul_of_pos_right h (Nat.two_pow_pos u)
    _ = 2 ^ (53 + u) := (Nat.pow_add 2 53 u).symm
    _ ≤ 2 ^ w := Nat.pow_le_pow_right (by decide) hw
theorem fx_c {x : UInt64} {s : Bool} {c : Nat} {q : Int} (h : FP.Core.val64 x = .fin s c q) : c < 2 ^ 53 ∧ -1074 ≤ q ∧ q ≤ 971 ∧ (q = -1074 ∨ 2 ^ 52 ≤ c) := by
  have hf := FP.Core.val64_fits x
  rw [h] at hf
  obtain ⟨h1, h2, h3, h4⟩ := hf
  rw [fx_q0] at h2 h4
  rw [fx_q1] at h3
  rw [fx_t] at h4
  exact ⟨h1, h2, h3, h4⟩
theorem fx_b1 {A : Nat} {a : Int} {w : Nat} (hw : a = (w : Int)) (h : A < 2 ^ w) : FP.Core.Below A 1 a := by
  unfold FP.Core.Below
  have e1 : (-a).toNat = 0 := by omega
  have e2 : a.toNat = w := by omega
  rw [e1, e2, Nat.pow_zero, Nat.mul_one, Nat.one_mul]
  exact h
theorem fx_nb1 {A : Nat} {a : Int} {w : Nat} (hw : a ≤ (w : Int)) (h : 2 ^ w ≤ A) : ¬ FP.Core.Below A 1 a := by
  intro hb
  have hb2 := FP.Core.below_mono hw hb
  unfold FP.Core.Below at hb2
  have e1 : (-(w : Int)).toNat = 0 := by omega
  have e2 : ((w : Int)).toNat = w := by omega
  rw [e1, e2, Nat.pow_zero, Nat.mul_one, Nat.one_mul] at hb2
  omega
theorem fx_sum {s t : Bool} {c d : Nat} {q r : Int} {k : Nat} (hc : c < 2 ^ 53) (hd : d < 2 ^ 53) (hq : q + 53 ≤ (k : Int)) (hr : r + 53 ≤ (k : Int)) : FP.Core.Below (FP.Core.sumUnits s c q t d r (min q r)).natAbs 1 (((k + 1 : Nat) : Int) - min q r) := by
  have hw : ((k + 1 : Nat) : Int) - min q r = (((k : Int) - min q r).toNat + 1 : Nat) := by omega
  refine fx_b1 hw ?_
  unfold FP.Core.sumUnits
  have h1 := Int.natAbs_add_le (FP.Core.signed s (FP.Core.inUnits c q (min q r))) (FP.Core.signed t (FP.Core.inUnits d r (min q r)))
  rw [FP.Core.natAbs_signed, FP.Core.natAbs_signed] at h1
  have h2 : FP.Core.inUnits c q (min q r) < 2 ^ ((k : Int) - min q r).toNat := fx_pw hc (by omega)
  have h3 : FP.Core.inUnits d r (min q r) < 2 ^ ((k : Int) - min q r).toNat := fx_pw hd (by omega)
  rw [Nat.pow_succ]
  omega
theorem fx_vadd {x y : UInt64} {s t : Bool} {c d : Nat} {q r : Int} (h : FP.Core.val64 x = .fin s c q) (g : FP.Core.val64 y = .fin t d r) : FP.Core.val64 (FP.dadd x y) = FP.Core.roundRatio FP.Core.b64 (FP.Core.sumSign s t (FP.Core.sumUnits s c q t d r (min q r))) (FP.Core.sumUnits s c q t d r (min q r)).natAbs 1 (min q r) := by
  have e := FP.Core.val64_dadd x y
  rw [h, g] at e
  exact e
theorem fx_bd.add {a b : Nat} {x y : UInt64} (hx : fx_bd a x) (hy : fx_bd b y) (hk : max a b + 2 ≤ 1024) : fx_bd (max a b + 2) (FP.dadd x y) := by
  obtain ⟨s, c, q, h1, h2⟩ := hx
  obtain ⟨t, d, r, g1, g2⟩ := hy
  have f1 := fx_c h1
  have f2 := fx_c g1
  exact fx_rr (by decide) (fx_sum (k := max a b) f1.1 f2.1 (by omega) (by omega)) (by omega) (fx_vadd h1 g1)
theorem fx_negb (x : UInt64) : (FP.dneg x).toNat % 9223372036854775808 = x.toNat % 9223372036854775808 ∧ (FP.dneg x).toNat / 9223372036854775808 + x.toNat / 9223372036854775808 = 1 := by
  have h : (FP.dneg x).toNat = x.toNat ^^^ 2 ^ 63 := by
    unfold FP.dneg
    rw [UInt64.toNat_xor]
    rfl
  have hx : x.toNat < 18446744073709551616 := x.toNat_lt
  rw [h]
  constructor
  · show (x.toNat ^^^ 2 ^ 63) % 2 ^ 63 = x.toNat % 2 ^ 63
    rw [Nat.xor_mod_two_pow, Nat.mod_self, Nat.xor_zero]
  · have e : (x.toNat ^^^ 2 ^ 63) / 2 ^ 63 = (x.toNat / 2 ^ 63) ^^^ 1 := by
      rw [← Nat.shiftRight_eq_div_pow, Nat.shiftRight_xor_distrib, Nat.shiftRight_eq_div_pow, Nat.shiftRight_eq_div_pow]
    have e1 : (x.toNat ^^^ 2 ^ 63) / 9223372036854775808 = (x.toNat / 9223372036854775808) ^^^ 1 := e
    rw [e1]
    rcases (show x.toNat / 9223372036854775808 = 0 ∨ x.toNat / 9223372036854775808 = 1 by omega) with h1 | h1 <;> rw [h1] <;> rfl
theorem fx_vneg (x : UInt64) : FP.Core.val64 (FP.dneg x) = FP.Core.negate (FP.Core.val64 x) := by
  obtain ⟨h1, h2⟩ := fx_negb x
  have hT : FP.Core.fieldT FP.Core.b64 (FP.dneg x).toNat = FP.Core.fieldT FP.Core.b64 x.toNat := by
    show (FP.dneg x).toNat % 4503599627370496 = x.toNat % 4503599627370496
    omega
  have hE : FP.Core.fieldE FP.Core.b64 (FP.dneg x).toNat = FP.Core.fieldE FP.Core.b64 x.toNat := by
    show (FP.dneg x).toNat / 4503599627370496 % 2048 = x.toNat / 4503599627370496 % 2048
    omega
  have hS : FP.Core.fieldS FP.Core.b64 (FP.dneg x).toNat = !FP.Core.fieldS FP.Core.b64 x.toNat := by
    show ((FP.dneg x).toNat / 4503599627370496 / 2048 % 2 == 1) = !(x.toNat / 4503599627370496 / 2048 % 2 == 1)
    rcases (show x.toNat / 4503599627370496 / 2048 % 2 = 0 ∧ (FP.dneg x).toNat / 4503599627370496 / 2048 % 2 = 1 ∨ x.toNat / 4503599627370496 / 2048 % 2 = 1 ∧ (FP.dneg x).toNat / 4503599627370496 / 2048 % 2 = 0 by omega) with ⟨g1, g2⟩ | ⟨g1, g2⟩ <;> rw [g1, g2] <;> rfl
  unfold FP.Core.val64 FP.Core.decode
  rw [hT, hE, hS]
  by_cases c1 : FP.Core.fieldE FP.Core.b64 x.toNat = FP.Core.b64.exps - 1
  · rw [if_pos c1, if_pos c1]
    by_cases c2 : FP.Core.fieldT FP.Core.b64 x.toNat = 0
    · rw [if_pos c2, if_pos c2]; rfl
    · rw [if_neg c2, if_neg c2]; rfl
  · rw [if_neg c1, if_neg c1]
    by_cases c2 : FP.Core.fieldE FP.Core.b64 x.toNat = 0
    · rw [if_pos c2, if_pos c2]; rfl
    · rw [if_neg c2, if_neg c2]; rfl
theorem fx_bd.neg {a : Nat} {x : UInt64} (hx : fx_bd a x) : fx_bd a (FP.dneg x) := by
  obtain ⟨s, c, q, h1, h2⟩ := hx
  have e := fx_vneg x
  rw [h1] at e
  exact ⟨!s, c, q, e, h2⟩
theorem fx_vsub {x y : UInt64} {s t : Bool} {c d : Nat} {q r : Int} (h : FP.Core.val64 x = .fin s c q) (g : FP.Core.val64 y = .fin t d r) : FP.Core.val64 (FP.dsub x y) = FP.Core.roundRatio FP.Core.b64 (FP.Core.sumSign s (!t) (FP.Core.sumUnits s c q (!t) d r (min q r))) (FP.Core.sumUnits s c q (!t) d r (min q r)).natAbs 1 (min q r) := by
  have e := FP.Core.val64_dsub x y
  rw [h, g] at e
  exact e
theorem fx_bd.sub {a b : Nat} {x y : UInt64} (hx : fx_bd a x) (hy : fx_bd b y) (hk : max a b + 2 ≤ 1024) : fx_bd (max a b + 2) (FP.dsub x y) := by
  obtain ⟨s, c, q, h1, h2⟩ := hx
  obtain ⟨t, d, r, g1, g2⟩ := hy
  have f1 := fx_c h1
  have f2 := fx_c g1
  exact fx_rr (by decide) (fx_sum (k := max a b) f1.1 f2.1 (by omega) (by omega)) (by omega) (fx_vsub h1 g1)
theorem fx_vmul {x y : UInt64} {s t : Bool} {c d : Nat} {q r : Int} (h : FP.Core.val64 x = .fin s c q) (g : FP.Core.val64 y = .fin t d r) : FP.Core.val64 (FP.dmul x y) = FP.Core.roundRatio FP.Core.b64 (s != t) (c * d) 1 (q + r) := by
  have e := FP.Core.val64_dmul x y
  rw [h, g] at e
  exact e
theorem fx_bd.mul {a b : Nat} {x y : UInt64} (hx : fx_bd a x) (hy : fx_bd b y) (hk : a + b + 1 ≤ 1024) : fx_bd (a + b + 1) (FP.dmul x y) := by
  obtain ⟨s, c, q, h1, h2⟩ := hx
  obtain ⟨t, d, r, g1, g2⟩ := hy
  have f1 := fx_c h1
  have f2 := fx_c g1
  refine fx_rr (m := a + b) (by decide) ?_ hk (fx_vmul h1 g1)
  refine FP.Core.below_mono (a := ((106 : Nat) : Int)) (by omega) (fx_b1 rfl ?_)
  calc c * d < 2 ^ 53 * 2 ^ 53 := Nat.mul_lt_mul'' f1.1 f2.1
    _ = 2 ^ 106 := by decide
theorem fx_vdiv {x y : UInt64} {s t : Bool} {c d : Nat} {q r : Int} (h : FP.Core.val64 x = .fin s c q) (g : FP.Core.val64 y = .fin t d r) (hd : d ≠ 0) : FP.Core.val64 (FP.ddiv x y) = FP.Core.roundRatio FP.Core.b64 (s != t) c d (q - r) := by
  have e := FP.Core.val64_ddiv x y
  rw [h, g] at e
  have e2 : FP.Core.quotient FP.Core.b64 (.fin s c q) (.fin t d r) = if d = 0 then (if c = 0 then .nan else .inf (s != t)) else FP.Core.roundRatio FP.Core.b64 (s != t) c d (q - r) := rfl
  rw [e2, if_neg hd] at e
  exact e
theorem fx_bd.div {a j : Nat} {x y : UInt64} (hx : fx_bd a x) (hy : fx_lb j y) (hk : a + j + 1 ≤ 1024) : fx_bd (a + j + 1) (FP.ddiv x y) := by
  obtain ⟨s, c, q, h1, h2⟩ := hx
  obtain ⟨t, d, r, g1, g2, g3⟩ := hy
  have f1 := fx_c h1
  have hd : 0 < d := Nat.lt_of_lt_of_le (by decide) g2
  refine fx_rr (m := a + j) hd ?_ hk (fx_vdiv h1 g1 (by omega))
  refine FP.Core.below_mono (a := 1) (by omega) ?_
  unfold FP.Core.Below
  show c * 2 ^ 0 < d * 2 ^ 1
  omega
theorem fx_nn.mul {x : UInt64} {a : Nat} (hx : fx_bd a x) (hk : a + a + 1 ≤ 1024) : fx_nn (FP.dmul x x) := by
  have hb := hx.mul hx hk
  obtain ⟨s, c, q, h1, h2⟩ := hx
  have e := fx_vmul h1 h1
  have e2 : (s != s) = false := by cases s <;> rfl
  rw [e2] at e
  exact fx_rs e hb
theorem fx_sgn {c d : Nat} {q r : Int} : FP.Core.sumSign false false (FP.Core.sumUnits false c q false d r (min q r)) = false := by
  have h : ¬ FP.Core.sumUnits false c q false d r (min q r) < 0 := by
    show ¬ ((FP.Core.inUnits c q (min q r) : Int) + (FP.Core.inUnits d r (min q r) : Int) < 0)
    omega
  unfold FP.Core.sumSign
  split
  · rfl
  · exact decide_eq_false h
theorem fx_nn.add {x y : UInt64} {a b : Nat} (hx : fx_nn x) (hy : fx_nn y) (bx : fx_bd a x) (bY : fx_bd b y) (hk : max a b + 2 ≤ 1024) : fx_nn (FP.dadd x y) := by
  have hb := bx.add bY hk
  obtain ⟨c, q, h1⟩ := hx
  obtain ⟨d, r, g1⟩ := hy
  have e := fx_vadd h1 g1
  rw [fx_sgn] at e
  exact fx_rs e hb
theorem fx_pl.add {x y : UInt64} {a b j : Nat} (hx : fx_pl j x) (hy : fx_nn y) (bx : fx_bd a x) (bY : fx_bd b y) (hk : max a b + 2 ≤ 1024) (hj : j ≤ 1022) : fx_pl j (FP.dadd x y) := by
  have hb := bx.add bY hk
  obtain ⟨c, q, h1, h2, h3⟩ := hx
  obtain ⟨d, r, g1⟩ := hy
  have e := fx_vadd h1 g1
  rw [fx_sgn] at e
  have hA : 2 ^ (52 + (q - min q r).toNat) ≤ (FP.Core.sumUnits false c q false d r (min q r)).natAbs := by
    have e1 : (FP.Core.sumUnits false c q false d r (min q r)).natAbs = FP.Core.inUnits c q (min q r) + FP.Core.inUnits d r (min q r) := by
      show ((FP.Core.inUnits c q (min q r) : Int) + (FP.Core.inUnits d r (min q r) : Int)).natAbs = _
      omega
    rw [e1, Nat.pow_add]
    have h9 : 2 ^ 52 * 2 ^ (q - min q r).toNat ≤ FP.Core.inUnits c q (min q r) := Nat.mul_le_mul_right _ h2
    omega
  refine fx_rl (Nat.lt_of_lt_of_le (Nat.two_pow_pos _) hA) (by decide) (fx_nb1 ?_ hA) hj e hb
  omega
theorem fx_nn.div {x y : UInt64} {a j : Nat} (hx : fx_nn x) (hy : fx_pl j y) (bx : fx_bd a x) (hk : a + j + 1 ≤ 1024) : fx_nn (FP.ddiv x y) := by
  have hb := bx.div hy.lb hk
  obtain ⟨c, q, h1⟩ := hx
  obtain ⟨d, r, g1, g2, g3⟩ := hy
  have e := fx_vdiv h1 g1 (by omega)
  exact fx_rs e hb
/-- the double 2 -/
abbrev fx_2 : UInt64 := 4611686018427387904
theorem fx_2v : FP.Core.val64 fx_2 = .fin false (2 ^ 52) (-51) := by decide +kernel
theorem fx_2l : fx_pl 0 fx_2 := ⟨_, _, fx_2v, by decide, by decide⟩
theorem fx_pl.half {x : UInt64} {a j : Nat} (hx : fx_pl j x) (bx : fx_bd a x) (hk : a + 1 ≤ 1024) (hj : j + 1 ≤ 1022) : fx_pl (j + 1) (FP.ddiv x fx_2) := by
  have hb := bx.div fx_2l.lb hk
  obtain ⟨c, q, h1, h2, h3⟩ := hx
  have e := fx_vdiv h1 fx_2v (by decide)
  refine fx_rl (j := j + 1) (by omega) (by decide) ?_ hj e hb
  intro hb2
  have hb3 := FP.Core.below_mono (b := 0) (by omega) hb2
  unfold FP.Core.Below at hb3
  have hb4 : c * 2 ^ 0 < 2 ^ 52 * 2 ^ 0 := hb3
  omega
theorem fx_0b : fx_bd 0 FP.dconst0 := ⟨_, _, _, FP.Core.val64_dconst0, by decide⟩
theorem fx_0n : fx_nn FP.dconst0 := ⟨_, _, FP.Core.val64_dconst0⟩
theorem fx_1b : fx_bd 1 FP.dconst1 := ⟨_, _, _, FP.Core.val64_dconst1, by decide⟩
theorem fx_1l : fx_pl 0 FP.dconst1 := ⟨_, _, FP.Core.val64_dconst1, by decide, by decide⟩
theorem fx_i {x : Int32} : fx_bd 33 (FP.i2d x) := by
  have e := FP.Core.val64_i2d x
  refine fx_rr (m := 32) (by decide) ?_ (by decide) e
  refine fx_b1 (w := 32) rfl ?_
  have h1 := x.toInt_lt
  have h2 := x.le_toInt
  omega
theorem fx_il {x : Int32} (h : x ≠ 0) : fx_lb 0 (FP.i2d x) := by
  have e := FP.Core.val64_i2d x
  have hb : fx_bd 33 (FP.i2d x) := fx_i
  have h0 : x.toInt ≠ 0 := fun q => h (Int32.toInt_inj.mp (by rw [q]; rfl))
  obtain ⟨c, q, h1, h2, h3⟩ := fx_rl (j := 0) (by omega) (by decide) (fx_nb1 (w := 0) (by omega) (by omega)) (by omega) e hb
  exact ⟨_, c, q, h1, h2, h3⟩
