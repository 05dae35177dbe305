theorem kx_dec (x : Int32) : x + Int32.ofInt (-1) = x - 1 := by
  rw [Int32.sub_eq_add_neg]
  rfl
theorem kx_tap_bd {R : Nat → UInt64} {n : Nat} (h : ∀ j, fx_bd 140 (R j)) (hn1 : 1 ≤ n) (hn : n < 2 ^ 31) : fx_bd 150 (kx_tap R n) := by
  unfold kx_tap
  split
  · exact fx_0b.mono (by omega)
  · exact (((h 0).sub (h (n - 1)) (by omega)).div (fx_il (nI_ne0 (by omega) (by omega))) (by omega)).mono (by omega)
theorem kx_str_bd {f : Nat → UInt64} {n i : Nat} (h : ∀ j, fx_bd 130 (f j)) (hn : 2 ≤ n) (hn2 : n < 2 ^ 31) : fx_bd 169 (kx_str f n i) := kx_ln_bd (h 0) (h (n - 1)) (nI_ne0 (by omega) (by omega)) (by omega)
theorem kx_beh_t {F : Nat → Int32} {n k i : Nat} (h : n - (k + 1) = i) (c : ¬ F i = 0) : kx_beh F n (k + 1) = nI i := by
  subst h
  exact if_neg c
theorem kx_beh_f {F : Nat → Int32} {n k i : Nat} (h : n - (k + 1) = i) (c : F i = 0) : kx_beh F n (k + 1) = kx_beh F n k := by
  subst h
  exact if_pos c
theorem kx_si_bn {th : Nat → Int32} {g : Nat → UInt64} {K n : Nat} (h : ∀ j, j < n → fx_bd K (g j)) : ∀ i, i ≤ n → K + 2 * i ≤ 1024 → fx_bd (K + 2 * i) (kx_si th g i)
  | 0, _, _ => fx_0b.mono (by omega)
  | i + 1, hn, hi => by
    by_cases c : th i = 0
    · rw [kx_si_f c]
      exact (kx_si_bn h i (by omega) (by omega)).mono (by omega)
    · rw [kx_si_t c]
      exact ((kx_si_bn h i (by omega) (by omega)).add (h i (by omega)) (by omega)).mono (by omega)
/-- what a shadow's middle is off -/
def kx_err (m p q x y : UInt64) : UInt64 := FP.dsub (FP.dsub m (FP.dmul p x)) (FP.dmul q y)
def kx_sqe (m p q x y : UInt64) : UInt64 := FP.dmul (kx_err m p q x y) (kx_err m p q x y)
theorem kx_sqe_bd {m p q x y : UInt64} (hm : fx_bd 14 m) (hp : fx_bd 5 p) (hq : fx_bd 5 q) (hx : fx_bd 90 x) (hy : fx_bd 90 y) : fx_bd 201 (kx_sqe m p q x y) := by
  have h1 := (hm.sub (hp.mul hx (by omega)) (by omega)).sub (hq.mul hy (by omega)) (by omega)
  exact (h1.mul h1 (by omega)).mono (by omega)
/-- mended numbers -/
def kx_btw (f : Nat → UInt64) (i a b : Nat) : UInt64 := if a = b then f a else kx_ln (f a) (f b) (nI (i - a)) (nI (b - a))
theorem kx_btw_bd {f : Nat → UInt64} {i a b K : Nat} (ha : fx_bd K (f a)) (hb : fx_bd K (f b)) (hab : a = b ∨ (a < i ∧ i < b)) (h : b < 2 ^ 31) (hK : K + 100 ≤ 1024) : fx_bd (K + 39) (kx_btw f i a b) := by
  unfold kx_btw
  split
  · exact ha.mono (by omega)
  · exact kx_ln_bd ha hb (nI_ne0 (by omega) (by omega)) hK
/-- the whole numbers from -40 on -/
def kx_z (k : Nat) : Int32 := nI k - 40
theorem kx_z_1 (k : Nat) : kx_z k + 1 = kx_z (k + 1) := by
  unfold kx_z
  rw [nI_succ, Int32.sub_eq_add_neg, Int32.sub_eq_add_neg, Int32.add_assoc, Int32.add_assoc, Int32.add_comm 1]
theorem kx_z_gt {k : Nat} (h : k ≤ 81) : 40 < kx_z k ↔ 81 ≤ k := by
  have e : (kx_z k).toInt = (k : Int) - 40 := pk_sub_toInt (a := k) (b := 40) (by omega) (by omega)
  rw [Int32.lt_iff_toInt_lt, e]
  have e2 : (40 : Int32).toInt = 40 := by decide
  rw [e2]
  omega
def kx_c2 (g : Nat → Nat → Int32) : Nat → Nat
  | 0 => 0
  | i + 1 => kx_c2 g i + kx_cn (g i) 81
theorem kx_c2_c {f g : Nat → Nat → Int32} (h : ∀ a b, f a b = g a b) (n : Nat) : kx_c2 f n = kx_c2 g n := by
  have e : f = g := funext fun a => funext fun b => h a b
  rw [e]
/-- TURNED -/
def kx_qx (KX KY : Nat → UInt64) (t : Int32) (i : Nat) : UInt64 := if t = 0 then KX i else if t = 1 then FP.dneg (KY i) else if t = 2 then FP.dneg (KX i) else KY i
def kx_qy (KX KY : Nat → UInt64) (t : Int32) (i : Nat) : UInt64 := if t = 0 then KY i else if t = 1 then KX i else if t = 2 then FP.dneg (KY i) else FP.dneg (KX i)
theorem kx_qx_bd {KX KY : Nat → UInt64} {t : Int32} {i : Nat} (hx : ∀ j, fx_bd 130 (KX j)) (hy : ∀ j, fx_bd 130 (KY j)) : fx_bd 130 (kx_qx KX KY t i) := by
  unfold kx_qx
  split
  · exact hx i
  · split
    · exact (hy i).neg
    · split
      · exact (hx i).neg
      · exact hy i
theorem kx_qy_bd {KX KY : Nat → UInt64} {t : Int32} {i : Nat} (hx : ∀ j, fx_bd 130 (KX j)) (hy : ∀ j, fx_bd 130 (KY j)) : fx_bd 130 (kx_qy KX KY t i) := by
  unfold kx_qy
  split
  · exact hy i
  · split
    · exact hx i
    · split
      · exact (hy i).neg
      · exact (hx i).neg
theorem kx_d2_bd {x y u w : UInt64} {a b : Nat} (hx : fx_bd a x) (hy : fx_bd a y) (hu : fx_bd b u) (hw : fx_bd b w) (h : 2 * max a b + 10 ≤ 1024 := by omega) : fx_bd (2 * max a b + 7) (kx_d2 x y u w) := by
  have h1 := hx.sub hu (by omega)
  have h2 := hy.sub hw (by omega)
  exact ((h1.mul h1 (by omega)).add (h2.mul h2 (by omega)) (by omega)).mono (by omega)
def kx_dst (X Y KX KY : Nat → UInt64) (n : Nat) (t : Int32) : UInt64 := kx_sum (fun i => kx_d2 (X i) (Y i) (kx_qx KX KY t i) (kx_qy KX KY t i)) n
/-- MATCH -/
def kx_nr (f : Int32 → UInt64) : Nat → Int32
  | 0 => 0
  | k + 1 => if FP.dcmp (f (nI (k + 1))) (f (kx_nr f k)) = some .lt then nI (k + 1) else kx_nr f k
theorem kx_nr_t {f : Int32 → UInt64} {k : Nat} (h : FP.dcmp (f (nI (k + 1))) (f (kx_nr f k)) = some .lt) : kx_nr f (k + 1) = nI (k + 1) := if_pos h
theorem kx_nr_f {f : Int32 → UInt64} {k : Nat} (h : ¬ FP.dcmp (f (nI (k + 1))) (f (kx_nr f k)) = some .lt) : kx_nr f (k + 1) = kx_nr f k := if_neg h
/-- a number of -m .. m; the nearest of 1 .. m -/
def kx_wi (x : UInt64) (m : Int32) : Int32 := if (FP.dcmp x (FP.i2d (-m)) = some .gt ∨ FP.dcmp x (FP.i2d (-m)) = some .eq) ∧ (FP.dcmp x (FP.i2d m) = some .lt ∨ FP.dcmp x (FP.i2d m) = some .eq) then 1 else 0
def kx_ne (x m : Int32) : Int32 := if 1 < (if m < x then m else x) then (if m < x then m else x) else 1
/-- rules -/
def kx_hd (X Y R : Nat → UInt64) (n : Nat) (md kd : Int32) (lm : UInt64) : Int32 :=
  if kd = 0 then (if FP.dcmp (kx_swp X Y n) lm = some .lt ∨ FP.dcmp (kx_swp X Y n) lm = some .eq then 1 else 0)
  else if kd = 1 then (if FP.dcmp (kx_tap R n) lm = some .lt ∨ FP.dcmp (kx_tap R n) lm = some .eq then 1 else 0)
  else if kd = 2 then (if FP.dcmp (R (n - 1)) lm = some .gt ∨ FP.dcmp (R (n - 1)) lm = some .eq then 1 else 0)
  else if kd = 3 then (if FP.dcmp (kx_sum (fun j => kx_area (R j)) n) lm = some .gt ∨ FP.dcmp (kx_sum (fun j => kx_area (R j)) n) lm = some .eq then 1 else 0)
  else (if FP.dcmp (FP.i2d md) lm = some .lt ∨ FP.dcmp (FP.i2d md) lm = some .eq then 1 else 0)
def kx_cl (g : Nat → Int32) (C : Nat → Int32) (n : Nat) : Nat → Int32
  | 0 => -1
  | k + 1 => if g (n - (k + 1)) = 0 then kx_cl g C n k else C (n - (k + 1))
theorem kx_cl_t {g C : Nat → Int32} {n k i : Nat} (h : n - (k + 1) = i) (c : ¬ g i = 0) : kx_cl g C n (k + 1) = C i := by
  subst h
  exact if_neg c
theorem kx_cl_f {g C : Nat → Int32} {n k i : Nat} (h : n - (k + 1) = i) (c : g i = 0) : kx_cl g C n (k + 1) = kx_cl g C n k := by
  subst h
  exact if_pos c
