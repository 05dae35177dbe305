theorem kx_clt {x y : Int} : compare x y = .lt ↔ x < y := by
  show compareOfLessAndEq x y = .lt ↔ _
  unfold compareOfLessAndEq
  split
  · rename_i h; exact ⟨fun _ => h, fun _ => rfl⟩
  · rename_i h
    split
    · exact ⟨fun q => by (cases q), fun q => absurd q h⟩
    · exact ⟨fun q => by (cases q), fun q => absurd q h⟩
theorem kx_cgt {x y : Int} : compare x y = .gt ↔ y < x := by
  show compareOfLessAndEq x y = .gt ↔ _
  unfold compareOfLessAndEq
  split
  · rename_i h; exact ⟨fun q => by (cases q), fun q => by omega⟩
  · rename_i h
    split
    · rename_i h2; exact ⟨fun q => by (cases q), fun q => by omega⟩
    · rename_i h2; exact ⟨fun _ => by omega, fun _ => rfl⟩
theorem fx_kv : FP.Core.val64 4517110426252607488 = .fin false (2 ^ 52) (-72) := by decide +kernel
/-- a double not below 2^-20 -/
theorem fx_lb1 {d : UInt64} {k : Nat} (hb : fx_bd k d) (h : FP.dcmp d 4517110426252607488 ≠ some .lt) : fx_lb 20 d := by
  obtain ⟨s, c, q, h1, -⟩ := hb
  obtain ⟨f1, f2, f3, f4⟩ := fx_c h1
  have h2 : FP.Core.order (FP.Core.val64 d) (FP.Core.val64 4517110426252607488) ≠ some .lt := h
  rw [h1, fx_kv] at h2
  have h3 : ¬ (FP.Core.signed s (FP.Core.inUnits c q (min q (-72))) < FP.Core.signed false (FP.Core.inUnits (2 ^ 52) (-72) (min q (-72)))) := fun g => h2 (congrArg some (kx_clt.mpr g))
  have h4 : ((2 ^ 52 * 2 ^ (-72 - min q (-72)).toNat : Nat) : Int) ≤ FP.Core.signed s (FP.Core.inUnits c q (min q (-72))) := Int.not_lt.mp h3
  have h5 : 2 ^ 52 * 2 ^ (-72 - min q (-72)).toNat ≤ FP.Core.inUnits c q (min q (-72)) := by
    cases s with
    | false =>
      have h6 : FP.Core.signed false (FP.Core.inUnits c q (min q (-72))) = (FP.Core.inUnits c q (min q (-72)) : Int) := rfl
      rw [h6] at h4
      exact Int.ofNat_le.mp h4
    | true =>
      have h6 : FP.Core.signed true (FP.Core.inUnits c q (min q (-72))) = -(FP.Core.inUnits c q (min q (-72)) : Int) := rfl
      rw [h6] at h4
      have h7 : 0 < 2 ^ 52 * 2 ^ (-72 - min q (-72)).toNat := Nat.mul_pos (by decide) (Nat.two_pow_pos _)
      omega
  have hq : -72 ≤ q := by
    refine Int.not_lt.mp fun hlt => ?_
    have e1 : min q (-72) = q := by omega
    rw [e1] at h5
    have e2 : FP.Core.inUnits c q q = c := by
      show c * 2 ^ (q - q).toNat = c
      rw [Int.sub_self]
      exact Nat.mul_one c
    rw [e2] at h5
    have h8 : 2 ^ 1 ≤ 2 ^ (-72 - q).toNat := Nat.pow_le_pow_right (by decide) (by omega)
    have h9 : 2 ^ 52 * 2 ^ 1 ≤ 2 ^ 52 * 2 ^ (-72 - q).toNat := Nat.mul_le_mul_left _ h8
    omega
  exact ⟨s, c, q, h1, by omega, by omega⟩
theorem fx_lb.ofneg {d : UInt64} {j : Nat} (h : fx_lb j (FP.dneg d)) {k : Nat} (hb : fx_bd k d) : fx_lb j d := by
  obtain ⟨s, c, q, h1, h2, h3⟩ := h
  obtain ⟨t, b, r, g1, -⟩ := hb
  have e := fx_vneg d
  rw [h1, g1] at e
  injection e with e1 e2 e3
  exact ⟨t, b, r, g1, by omega, by omega⟩
/-- a number between two bounds -/
theorem fx_abs {x hi lo : UInt64} {d : Nat} {r : Int} {m w : Nat} (hhi : FP.Core.val64 hi = .fin false d r) (hlo : FP.Core.val64 lo = .fin true d r) (hw : (w : Int) = (m : Int) - r) (hd : d ≤ 2 ^ w) (c1 : FP.dcmp x lo = some .gt ∨ FP.dcmp x lo = some .eq) (c2 : FP.dcmp x hi = some .lt ∨ FP.dcmp x hi = some .eq) : fx_bd (m + 1) x := by
  have c1 : FP.Core.order (FP.Core.val64 x) (FP.Core.val64 lo) = some .gt ∨ FP.Core.order (FP.Core.val64 x) (FP.Core.val64 lo) = some .eq := c1
  have c2 : FP.Core.order (FP.Core.val64 x) (FP.Core.val64 hi) = some .lt ∨ FP.Core.order (FP.Core.val64 x) (FP.Core.val64 hi) = some .eq := c2
  rw [hlo] at c1
  rw [hhi] at c2
  cases hx : FP.Core.val64 x with
  | nan =>
    rw [hx] at c1
    rcases c1 with c | c <;> cases c
  | inf s =>
    rw [hx] at c1 c2
    cases s with
    | false =>
      have e : FP.Core.order (.inf false) (.fin false d r) = some .gt := rfl
      rw [e] at c2
      rcases c2 with c | c <;> cases c
    | true =>
      have e : FP.Core.order (.inf true) (.fin true d r) = some .lt := rfl
      rw [e] at c1
      rcases c1 with c | c <;> cases c
  | fin s c q =>
    rw [hx] at c1 c2
    obtain ⟨f1, f2, f3, f4⟩ := fx_c hx
    refine ⟨s, c, q, hx, ?_⟩
    have a1 : ¬ (FP.Core.signed s (FP.Core.inUnits c q (min q r)) < FP.Core.signed true (FP.Core.inUnits d r (min q r))) := by
      intro g
      have g2 : FP.Core.order (.fin s c q) (.fin true d r) = some .lt := congrArg some (kx_clt.mpr g)
      rw [g2] at c1
      rcases c1 with c | c <;> cases c
    have a2 : ¬ (FP.Core.signed false (FP.Core.inUnits d r (min q r)) < FP.Core.signed s (FP.Core.inUnits c q (min q r))) := by
      intro g
      have g2 : FP.Core.order (.fin s c q) (.fin false d r) = some .gt := congrArg some (kx_cgt.mpr g)
      rw [g2] at c2
      rcases c2 with c | c <;> cases c
    have a3 : FP.Core.signed true (FP.Core.inUnits d r (min q r)) = -(FP.Core.inUnits d r (min q r) : Int) := rfl
    have a4 : FP.Core.signed false (FP.Core.inUnits d r (min q r)) = (FP.Core.inUnits d r (min q r) : Int) := rfl
    rw [a3] at a1
    rw [a4] at a2
    have a5 : FP.Core.inUnits c q (min q r) ≤ FP.Core.inUnits d r (min q r) := by
      have a6 := FP.Core.natAbs_signed s (FP.Core.inUnits c q (min q r))
      omega
    rcases f4 with f4 | f4
    · omega
    · have b1 : 2 ^ 52 * 2 ^ (q - min q r).toNat ≤ FP.Core.inUnits c q (min q r) := Nat.mul_le_mul_right _ f4
      have b2 : FP.Core.inUnits d r (min q r) ≤ 2 ^ w * 2 ^ (r - min q r).toNat := Nat.mul_le_mul_right _ hd
      rw [← Nat.pow_add] at b1 b2
      have b3 := Nat.le_trans b1 (Nat.le_trans a5 b2)
      have b4 := (Nat.pow_le_pow_iff_right (by decide : 1 < 2)).mp b3
      omega
theorem fx_w16 {x : UInt64} (h : kx_wi x 16 ≠ 0) : fx_bd 5 x := by
  unfold kx_wi at h
  split at h
  · rename_i c
    exact fx_abs (d := 2 ^ 52) (r := -48) (m := 4) (w := 52) (by decide +kernel) (by decide +kernel) (by decide) (by decide) c.1 c.2
  · exact absurd rfl h
theorem fx_w1000 {x : UInt64} (h : kx_wi x 1000 ≠ 0) : fx_bd 11 x := by
  unfold kx_wi at h
  split at h
  · rename_i c
    exact fx_abs (d := 1000 * 2 ^ 43) (r := -43) (m := 10) (w := 53) (by decide +kernel) (by decide +kernel) (by decide) (by decide) c.1 c.2
  · exact absurd rfl h
theorem kx_nb {x : Int32} (h : x = 0 ∨ x = 1) : narrow .boolean (.int x) = .int x := by
  rcases h with h | h <;> subst h <;> rfl
theorem kx_nz {x : Int32} (h : x = 0 ∨ x = 1) : vp_nar .boolean x = x := by
  rcases h with h | h <;> subst h <;> rfl
theorem kx_us {f : Nat → UInt64} {k : Nat} {x : UInt64} : vf_upd f k x k = x := if_pos rfl
theorem kx_un {f : Nat → UInt64} {j k : Nat} {x : UInt64} (h : j ≠ k) : vf_upd f k x j = f j := if_neg h
/-- FITTED -/
def kx_S2 (th : Nat → Int32) (f g : Nat → UInt64) (n : Nat) : UInt64 := kx_si th (fun j => FP.dmul (f j) (g j)) n
theorem kx_S2_t {th : Nat → Int32} {f g : Nat → UInt64} {i : Nat} (h : ¬ th i = 0) : kx_S2 th f g (i + 1) = FP.dadd (kx_S2 th f g i) (FP.dmul (f i) (g i)) := if_neg h
theorem kx_S2_f {th : Nat → Int32} {f g : Nat → UInt64} {i : Nat} (h : th i = 0) : kx_S2 th f g (i + 1) = kx_S2 th f g i := if_pos h
theorem kx_S2_bd {th : Nat → Int32} {f g : Nat → UInt64} {a b : Nat} (hf : ∀ j, fx_bd a (f j)) (hg : ∀ j, fx_bd b (g j)) (i : Nat) (h : a + b + 1 + 2 * i ≤ 1024) : fx_bd (a + b + 1 + 2 * i) (kx_S2 th f g i) := kx_si_bd (fun j => (hf j).mul (hg j) (by omega)) i h
theorem kx_S2_c {th ti : Nat → Int32} {f g f' g' : Nat → UInt64} {n : Nat} (ht : ∀ j, j < n → th j = ti j) (hf : ∀ j, j < n → th j ≠ 0 → f j = f' j) (hg : ∀ j, j < n → th j ≠ 0 → g j = g' j) : kx_S2 th f g n = kx_S2 ti f' g' n := kx_si_c n ht (fun j hj h0 => by rw [hf j hj h0, hg j hj h0])
def kx_det (th : Nat → Int32) (P Q : Nat → UInt64) (v : Nat) : UInt64 := FP.dsub (FP.dmul (kx_S2 th P P v) (kx_S2 th Q Q v)) (FP.dmul (kx_S2 th P Q v) (kx_S2 th P Q v))
def kx_sz (d : UInt64) : UInt64 := if FP.dcmp d FP.dconst0 = some .lt then FP.dneg d else d
def kx_ok (d : UInt64) : Prop := FP.dcmp (kx_sz d) 4517110426252607488 ≠ some .lt
theorem kx_ok_1 {d : UInt64} (h : FP.dcmp d FP.dconst0 = some .lt) : kx_ok d ↔ FP.dcmp (FP.dneg d) 4517110426252607488 ≠ some .lt := by
  unfold kx_ok kx_sz
  rw [if_pos h]
theorem kx_ok_2 {d : UInt64} (h : FP.dcmp d FP.dconst0 ≠ some .lt) : kx_ok d ↔ FP.dcmp d 4517110426252607488 ≠ some .lt := by
  unfold kx_ok kx_sz
  rw [if_neg h]
theorem kx_ok_lb {d : UInt64} {k : Nat} (hb : fx_bd k d) (h : kx_ok d) : fx_lb 20 d := by
  by_cases c : FP.dcmp d FP.dconst0 = some .lt
  · exact (fx_lb1 hb.neg ((kx_ok_1 c).mp h)).ofneg hb
  · exact fx_lb1 hb ((kx_ok_2 c).mp h)
def kx_cx (th : Nat → Int32) (P Q M : Nat → UInt64) (v : Nat) : UInt64 := FP.ddiv (FP.dsub (FP.dmul (kx_S2 th P M v) (kx_S2 th Q Q v)) (FP.dmul (kx_S2 th Q M v) (kx_S2 th P Q v))) (kx_det th P Q v)
def kx_cy (th : Nat → Int32) (P Q M : Nat → UInt64) (v : Nat) : UInt64 := FP.ddiv (FP.dsub (FP.dmul (kx_S2 th P P v) (kx_S2 th Q M v)) (FP.dmul (kx_S2 th P Q v) (kx_S2 th P M v))) (kx_det th P Q v)
theorem kx_det_bd {th : Nat → Int32} {P Q : Nat → UInt64} {v : Nat} (hP : ∀ j, fx_bd 5 (P j)) (hQ : ∀ j, fx_bd 5 (Q j)) (hv : v ≤ 8) : fx_bd 60 (kx_det th P Q v) := by
  have h1 := (kx_S2_bd (th := th) hP hP v (by omega)).mono (b := 27) (by omega)
  have h2 := (kx_S2_bd (th := th) hQ hQ v (by omega)).mono (b := 27) (by omega)
  have h3 := (kx_S2_bd (th := th) hP hQ v (by omega)).mono (b := 27) (by omega)
  exact ((h1.mul h2 (by omega)).sub (h3.mul h3 (by omega)) (by omega)).mono (by omega)
theorem kx_cx_bd {th : Nat → Int32} {P Q M : Nat → UInt64} {v : Nat} (hP : ∀ j, fx_bd 5 (P j)) (hQ : ∀ j, fx_bd 5 (Q j)) (hM : ∀ j, fx_bd 14 (M j)) (hv : v ≤ 8) (hk : kx_ok (kx_det th P Q v)) : fx_bd 90 (kx_cx th P Q M v) := by
  have h2 := (kx_S2_bd (th := th) hQ hQ v (by omega)).mono (b := 27) (by omega)
  have h3 := (kx_S2_bd (th := th) hP hQ v (by omega)).mono (b := 27) (by omega)
  have h4 := (kx_S2_bd (th := th) hP hM v (by omega)).mono (b := 36) (by omega)
  have h5 := (kx_S2_bd (th := th) hQ hM v (by omega)).mono (b := 36) (by omega)
  exact (((h4.mul h2 (by omega)).sub (h5.mul h3 (by omega)) (by omega)).div (kx_ok_lb (kx_det_bd hP hQ hv) hk) (by omega)).mono (by omega)
theorem kx_cy_bd {th : Nat → Int32} {P Q M : Nat → UInt64} {v : Nat} (hP : ∀ j, fx_bd 5 (P j)) (hQ : ∀ j, fx_bd 5 (Q j)) (hM : ∀ j, fx_bd 14 (M j)) (hv : v ≤ 8) (hk : kx_ok (kx_det th P Q v)) : fx_bd 90 (kx_cy th P Q M v) := by
  have h1 := (kx_S2_bd (th := th) hP hP v (by omega)).mono (b := 27) (by omega)
  have h3 := (kx_S2_bd (th := th) hP hQ v (by omega)).mono (b := 27) (by omega)
  have h4 := (kx_S2_bd (th := th) hP hM v (by omega)).mono (b := 36) (by omega)
  have h5 := (kx_S2_bd (th := th) hQ hM v (by omega)).mono (b := 36) (by omega)
  exact (((h1.mul h5 (by omega)).sub (h3.mul h4 (by omega)) (by omega)).div (kx_ok_lb (kx_det_bd hP hQ hv) hk) (by omega)).mono (by omega)
def kx_fit (th : Nat → Int32) (P Q : Nat → UInt64) (v : Nat) : Prop := 2 ≤ kx_cn th v ∧ kx_ok (kx_det th P Q v)
def kx_rad (th : Nat → Int32) (H N : Nat → UInt64) (v : Nat) : UInt64 := FP.ddiv (kx_si th (fun j => FP.ddiv (H j) (N j)) v) (FP.i2d (nI (kx_cn th v)))
theorem kx_rad_bd {th : Nat → Int32} {H N : Nat → UInt64} {v : Nat} (hH : ∀ j, fx_bd 14 (H j)) (hN : ∀ j, j < v → fx_pl 61 (N j)) (hv : v ≤ 8) (hc : 2 ≤ kx_cn th v) : fx_bd 95 (kx_rad th H N v) := by
  have hle := kx_cn_le (th := th) v
  exact ((kx_si_bn (K := 76) (n := v) (fun j hj => (hH j).div (hN j hj).lb (by omega)) v (by omega) (by omega)).div (fx_il (nI_ne0 (by omega) (by omega))) (by omega)).mono (by omega)
def kx_res (th : Nat → Int32) (P Q M : Nat → UInt64) (x y : UInt64) (v : Nat) : UInt64 := kx_si th (fun j => kx_sqe (M j) (P j) (Q j) x y) v
theorem kx_res_bd {th : Nat → Int32} {P Q M : Nat → UInt64} {x y : UInt64} {v : Nat} (hP : ∀ j, fx_bd 5 (P j)) (hQ : ∀ j, fx_bd 5 (Q j)) (hM : ∀ j, fx_bd 14 (M j)) (hx : fx_bd 90 x) (hy : fx_bd 90 y) (hv : v ≤ 8) : fx_bd 220 (kx_res th P Q M x y v) := (kx_si_bd (K := 201) (fun j => kx_sqe_bd (hM j) (hP j) (hQ j) hx hy) v (by omega)).mono (by omega)
/-- the nearest fitted ones, as places -/
theorem kx_bef_s (F : Nat → Int32) : ∀ t, (kx_bef F t = -1 ∧ ∀ j, j < t → F j = 0) ∨ ∃ a, a < t ∧ kx_bef F t = nI a ∧ F a ≠ 0
  | 0 => Or.inl ⟨rfl, fun j h => absurd h (Nat.not_lt_zero j)⟩
  | t + 1 => by
    by_cases c : F t = 0
    · have e : kx_bef F (t + 1) = kx_bef F t := if_pos c
      rcases kx_bef_s F t with ⟨h1, h2⟩ | ⟨a, h1, h2, h3⟩
      · refine Or.inl ⟨e.trans h1, fun j hj => ?_⟩
        rcases Nat.lt_succ_iff_lt_or_eq.mp hj with h | h
        · exact h2 j h
        · rw [h]; exact c
      · exact Or.inr ⟨a, by omega, e.trans h2, h3⟩
    · exact Or.inr ⟨t, by omega, if_neg c, c⟩
theorem kx_beh_s (F : Nat → Int32) (n : Nat) : ∀ k, k ≤ n → (kx_beh F n k = -1 ∧ ∀ j, n - k ≤ j → j < n → F j = 0) ∨ ∃ b, n - k ≤ b ∧ b < n ∧ kx_beh F n k = nI b ∧ F b ≠ 0
  | 0, _ => Or.inl ⟨rfl, fun j h h2 => absurd h2 (by omega)⟩
  | k + 1, hk => by
    by_cases c : F (n - (k + 1)) = 0
    · have e : kx_beh F n (k + 1) = kx_beh F n k := if_pos c
      rcases kx_beh_s F n k (by omega) with ⟨h1, h2⟩ | ⟨b, h0, h1, h2, h3⟩
      · refine Or.inl ⟨e.trans h1, fun j hj hn => ?_⟩
        by_cases g : j = n - (k + 1)
        · rw [g]; exact c
        · exact h2 j (by omega) hn
      · exact Or.inr ⟨b, by omega, h1, e.trans h2, h3⟩
    · exact Or.inr ⟨n - (k + 1), by omega, by omega, if_neg c, c⟩
def kx_sa (F : Nat → Int32) (n i : Nat) : Nat := (if kx_bef F i = -1 then kx_beh F n (n - (i + 1)) else kx_bef F i).toNatClampNeg
def kx_sb (F : Nat → Int32) (n i : Nat) : Nat := (if kx_beh F n (n - (i + 1)) = -1 then kx_bef F i else kx_beh F n (n - (i + 1))).toNatClampNeg
theorem kx_nm1 {a : Nat} (h : a < 2 ^ 31) : nI a ≠ -1 := by
  intro q
  have h1 := nI_toInt h
  rw [q] at h1
  have h2 : (-1 : Int32).toInt = -1 := by decide
  rw [h2] at h1
  omega
/-- which two places a slice is mended by -/
def kx_sel (bf bh : Int32) (i a b n : Nat) : Prop := (bf = nI a ∧ bh = nI b ∧ a < i ∧ i < b ∧ b < n) ∨ (bf = -1 ∧ bh = nI b ∧ a = b ∧ i < b ∧ b < n) ∨ (bf = nI a ∧ bh = -1 ∧ a = b ∧ a < i ∧ i < n)
theorem kx_sel_of {F : Nat → Int32} {n i : Nat} (hn : n ≤ 16) (hi : i < n) (h0 : F i = 0) (he : ∃ j, j < n ∧ F j ≠ 0) : kx_sel (kx_bef F i) (kx_beh F n (n - (i + 1))) i (kx_sa F n i) (kx_sb F n i) n ∧ F (kx_sa F n i) ≠ 0 ∧ F (kx_sb F n i) ≠ 0 := by
  unfold kx_sel kx_sa kx_sb
  rcases kx_bef_s F i with ⟨h1, h2⟩ | ⟨a, h1, h2, h3⟩
  · rcases kx_beh_s F n (n - (i + 1)) (by omega) with ⟨g1, g2⟩ | ⟨b, g0, g1, g2, g3⟩
    · obtain ⟨j, hj, hF⟩ := he
      exfalso
      rcases Nat.lt_trichotomy j i with q | q | q
      · exact hF (h2 j q)
      · rw [q] at hF; exact hF h0
      · exact hF (g2 j (by omega) hj)
    · rw [if_pos h1, g2, if_neg (kx_nm1 (by omega)), nI_clamp (by omega)]
      exact ⟨Or.inr (Or.inl ⟨h1, rfl, rfl, by omega, g1⟩), g3, g3⟩
  · rcases kx_beh_s F n (n - (i + 1)) (by omega) with ⟨g1, g2⟩ | ⟨b, g0, g1, g2, g3⟩
    · rw [if_pos g1, h2, if_neg (kx_nm1 (by omega)), nI_clamp (by omega)]
      exact ⟨Or.inr (Or.inr ⟨rfl, g1, rfl, h1, hi⟩), h3, h3⟩
    · rw [g2, h2, if_neg (kx_nm1 (by omega)), if_neg (kx_nm1 (by omega)), nI_clamp (by omega), nI_clamp (by omega)]
      exact ⟨Or.inl ⟨rfl, rfl, h1, by omega, g1⟩, h3, g3⟩
theorem kx_sel_ab {bf bh : Int32} {i a b n : Nat} (h : kx_sel bf bh i a b n) : (a = b ∨ (a < i ∧ i < b)) ∧ a < n ∧ b < n := by
  rcases h with h | h | h <;> omega
/-- the arrays when the first i slices are mended -/
def kx_mp (F : Nat → Int32) (f : Nat → UInt64) (n i : Nat) : Nat → UInt64 := fun j => if j < i ∧ F j = 0 then kx_btw f j (kx_sa F n j) (kx_sb F n j) else f j
def kx_ep (F : Nat → Int32) (f : Nat → UInt64) (i : Nat) : Nat → UInt64 := fun j => if j < i ∧ F j = 0 then FP.dconst0 else f j
theorem kx_mp_0 {F : Nat → Int32} {f : Nat → UInt64} {n : Nat} : kx_mp F f n 0 = f := funext fun j => if_neg (by omega)
theorem kx_ep_0 {F : Nat → Int32} {f : Nat → UInt64} : kx_ep F f 0 = f := funext fun j => if_neg (by omega)
theorem kx_mp_F {F : Nat → Int32} {f : Nat → UInt64} {n i j : Nat} (h : F j ≠ 0) : kx_mp F f n i j = f j := if_neg (fun q => h q.2)
theorem kx_mp_f {F : Nat → Int32} {f : Nat → UInt64} {n i : Nat} (h : F i ≠ 0) : kx_mp F f n i = kx_mp F f n (i + 1) := by
  funext j
  unfold kx_mp
  by_cases c : j < i ∧ F j = 0
  · rw [if_pos c, if_pos ⟨by omega, c.2⟩]
  · rw [if_neg c, if_neg (fun q => c ⟨by
      have h2 := q.1
      rcases Nat.lt_succ_iff_lt_or_eq.mp h2 with g | g
      · exact g
      · rw [g] at q; exact absurd q.2 h, q.2⟩)]
theorem kx_ep_f {F : Nat → Int32} {f : Nat → UInt64} {i : Nat} (h : F i ≠ 0) : kx_ep F f i = kx_ep F f (i + 1) := by
  funext j
  unfold kx_ep
  by_cases c : j < i ∧ F j = 0
  · rw [if_pos c, if_pos ⟨by omega, c.2⟩]
  · rw [if_neg c, if_neg (fun q => c ⟨by
      have h2 := q.1
      rcases Nat.lt_succ_iff_lt_or_eq.mp h2 with g | g
      · exact g
      · rw [g] at q; exact absurd q.2 h, q.2⟩)]
theorem kx_mp_t {F : Nat → Int32} {f : Nat → UInt64} {n i : Nat} (h : F i = 0) (ha : F (kx_sa F n i) ≠ 0) (hb : F (kx_sb F n i) ≠ 0) : vf_upd (kx_mp F f n i) i (kx_btw (kx_mp F f n i) i (kx_sa F n i) (kx_sb F n i)) = kx_mp F f n (i + 1) := by
  have e : kx_btw (kx_mp F f n i) i (kx_sa F n i) (kx_sb F n i) = kx_btw f i (kx_sa F n i) (kx_sb F n i) := by
    unfold kx_btw
    rw [kx_mp_F ha, kx_mp_F hb]
  rw [e]
  funext j
  by_cases c : j = i
  · rw [c, kx_us]
    exact (if_pos ⟨by omega, h⟩).symm
  · rw [kx_un c]
    unfold kx_mp
    by_cases c2 : j < i ∧ F j = 0
    · rw [if_pos c2, if_pos ⟨by omega, c2.2⟩]
    · rw [if_neg c2, if_neg (fun q => c2 ⟨by omega, q.2⟩)]
theorem kx_ep_t {F : Nat → Int32} {f : Nat → UInt64} {i : Nat} (h : F i = 0) : vf_upd (kx_ep F f i) i FP.dconst0 = kx_ep F f (i + 1) := by
  funext j
  by_cases c : j = i
  · rw [c, kx_us]
    exact (if_pos ⟨by omega, h⟩).symm
  · rw [kx_un c]
    unfold kx_ep
    by_cases c2 : j < i ∧ F j = 0
    · rw [if_pos c2, if_pos ⟨by omega, c2.2⟩]
    · rw [if_neg c2, if_neg (fun q => c2 ⟨by omega, q.2⟩)]
theorem kx_mp_bd {F : Nat → Int32} {f : Nat → UInt64} {n i K L : Nat} (h : ∀ j, fx_bd K (f j)) (hF : ∀ j, j < n → F j ≠ 0 → fx_bd L (f j)) (hn : n ≤ 16) (he : ∃ j, j < n ∧ F j ≠ 0) (hL : L + 39 ≤ K) (hL2 : L ≤ 900) (hi : i ≤ n) : ∀ j, fx_bd K (kx_mp F f n i j) := by
  intro j
  unfold kx_mp
  split
  · rename_i c
    obtain ⟨h1, h2, h3⟩ := kx_sel_of hn (by omega) c.2 he
    obtain ⟨g1, g2, g3⟩ := kx_sel_ab h1
    exact (kx_btw_bd (hF _ g2 h2) (hF _ g3 h3) g1 (by omega) (by omega)).mono hL
  · exact h j
theorem kx_ep_bd {F : Nat → Int32} {f : Nat → UInt64} {i K : Nat} (h : ∀ j, fx_bd K (f j)) : ∀ j, fx_bd K (kx_ep F f i j) := by
  intro j
  unfold kx_ep
  split
  · exact fx_0b.mono (by omega)
  · exact h j
