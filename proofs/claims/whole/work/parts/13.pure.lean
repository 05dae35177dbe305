/-! the numbers that both sides reckon -/
theorem fx_2b : fx_bd 2 fx_2 := ⟨_, _, _, fx_2v, by decide⟩
theorem fx_k4614254477589872640 : fx_bd 2 4614254477589872640 := ⟨false, 7072058789855232, -51, by decide +kernel, by decide⟩
theorem fx_bd.upd {K : Nat} {f : Nat → UInt64} {j : Nat} {x : UInt64} (h : ∀ i, fx_bd K (f i)) (hx : fx_bd K x) : ∀ i, fx_bd K (vf_upd f j x i) := by
  intro i
  unfold vf_upd
  split
  · exact hx
  · exact h i
theorem kx_ix {i j n v : Nat} (hi : i < n) (hj : j < v) : i * v + j < n * v := by
  calc i * v + j < i * v + v := Nat.add_lt_add_left hj _
    _ = (i + 1) * v := (Nat.succ_mul i v).symm
    _ ≤ n * v := Nat.mul_le_mul_right v hi
theorem kx_nv {n v : Nat} (hn : n ≤ 16) (hv : v ≤ 8) : n * v < 2 ^ 31 := Nat.lt_of_le_of_lt (Nat.mul_le_mul hn hv) (by decide)
/-- ROOT -/
def kx_rs (w : UInt64) : Nat → UInt64
  | 0 => FP.ddiv (FP.dadd w FP.dconst1) fx_2
  | i + 1 => FP.ddiv (FP.dadd (kx_rs w i) (FP.ddiv w (kx_rs w i))) fx_2
def kx_root (w : UInt64) : UInt64 := kx_rs w 60
theorem kx_rs_ok {w : UInt64} (hn : fx_nn w) (hb : fx_bd 14 w) : ∀ i, i ≤ 60 → fx_bd (17 + 3 * i) (kx_rs w i) ∧ fx_pl (1 + i) (kx_rs w i)
  | 0, _ => by
    have h1 := (hb.add fx_1b (by omega))
    have h2 : fx_pl 0 (FP.dadd w FP.dconst1) := by
      have e : FP.dadd w FP.dconst1 = FP.dadd FP.dconst1 w := FP.Core.dadd_comm _ _
      rw [e]
      exact fx_1l.add hn fx_1b hb (by omega) (by omega)
    exact ⟨h1.div fx_2l.lb (by omega), h2.half h1 (by omega) (by omega)⟩
  | i + 1, hi => by
    obtain ⟨h1, h2⟩ := kx_rs_ok hn hb i (by omega)
    have h3 := hb.div h2.lb (by omega)
    have h4 := h1.add h3 (by omega)
    have h5 := hn.div h2 hb (by omega)
    have h6 := h2.add h5 h1 h3 (by omega) (by omega)
    have h7 := h6.half h4 (by omega) (by omega)
    refine ⟨(h4.div fx_2l.lb (by omega)).mono (by omega), h7.mono (by omega)⟩
theorem kx_root_bd {w : UInt64} (hn : fx_nn w) (hb : fx_bd 14 w) : fx_bd 200 (kx_root w) := ((kx_rs_ok hn hb 60 (by omega)).1).mono (by omega)
theorem kx_root_pl {w : UInt64} (hn : fx_nn w) (hb : fx_bd 14 w) : fx_pl 61 (kx_root w) := (kx_rs_ok hn hb 60 (by omega)).2
/-- a direction's square -/
def kx_sq (p q : UInt64) : UInt64 := FP.dadd (FP.dmul p p) (FP.dmul q q)
theorem kx_sq_bd {p q : UInt64} (hp : fx_bd 5 p) (hq : fx_bd 5 q) : fx_bd 14 (kx_sq p q) := ((hp.mul hp (by omega)).add (hq.mul hq (by omega)) (by omega)).mono (by omega)
theorem kx_sq_nn {p q : UInt64} (hp : fx_bd 5 p) (hq : fx_bd 5 q) : fx_nn (kx_sq p q) := (fx_nn.mul hp (by omega)).add (fx_nn.mul hq (by omega)) (hp.mul hp (by omega)) (hq.mul hq (by omega)) (by omega)
/-- sums -/
def kx_sum (g : Nat → UInt64) : Nat → UInt64
  | 0 => FP.dconst0
  | i + 1 => FP.dadd (kx_sum g i) (g i)
theorem kx_sum_bd {g : Nat → UInt64} {K : Nat} (h : ∀ j, fx_bd K (g j)) : ∀ i, K + 2 * i ≤ 1024 → fx_bd (K + 2 * i) (kx_sum g i)
  | 0, _ => fx_0b.mono (by omega)
  | i + 1, hi => ((kx_sum_bd h i (by omega)).add (h i) (by omega)).mono (by omega)
theorem kx_sum_c {f g : Nat → UInt64} : ∀ n, (∀ j, j < n → f j = g j) → kx_sum f n = kx_sum g n
  | 0, _ => rfl
  | n + 1, h => by
    show FP.dadd (kx_sum f n) (f n) = FP.dadd (kx_sum g n) (g n)
    rw [kx_sum_c n (fun j hj => h j (by omega)), h n (by omega)]
def kx_si (th : Nat → Int32) (g : Nat → UInt64) : Nat → UInt64
  | 0 => FP.dconst0
  | i + 1 => if th i = 0 then kx_si th g i else FP.dadd (kx_si th g i) (g i)
theorem kx_si_t {th : Nat → Int32} {g : Nat → UInt64} {i : Nat} (h : ¬ th i = 0) : kx_si th g (i + 1) = FP.dadd (kx_si th g i) (g i) := if_neg h
theorem kx_si_f {th : Nat → Int32} {g : Nat → UInt64} {i : Nat} (h : th i = 0) : kx_si th g (i + 1) = kx_si th g i := if_pos h
theorem kx_si_bd {th : Nat → Int32} {g : Nat → UInt64} {K : Nat} (h : ∀ j, fx_bd K (g j)) : ∀ i, K + 2 * i ≤ 1024 → fx_bd (K + 2 * i) (kx_si th g i)
  | 0, _ => fx_0b.mono (by omega)
  | i + 1, hi => by
    by_cases c : th i = 0
    · rw [kx_si_f c]
      exact (kx_si_bd h i (by omega)).mono (by omega)
    · rw [kx_si_t c]
      exact ((kx_si_bd h i (by omega)).add (h i) (by omega)).mono (by omega)
theorem kx_si_c {th ti : Nat → Int32} {f g : Nat → UInt64} : ∀ n, (∀ j, j < n → th j = ti j) → (∀ j, j < n → th j ≠ 0 → f j = g j) → kx_si th f n = kx_si ti g n
  | 0, _, _ => rfl
  | n + 1, ht, h => by
    have e := kx_si_c n (fun j hj => ht j (by omega)) (fun j hj => h j (by omega))
    by_cases c : th n = 0
    · rw [kx_si_f c, kx_si_f (by rw [← ht n (by omega)]; exact c), e]
    · rw [kx_si_t c, kx_si_t (by rw [← ht n (by omega)]; exact c), e, h n (by omega) c]
def kx_cn (th : Nat → Int32) : Nat → Nat
  | 0 => 0
  | i + 1 => if th i = 0 then kx_cn th i else kx_cn th i + 1
theorem kx_cn_t {th : Nat → Int32} {i : Nat} (h : ¬ th i = 0) : kx_cn th (i + 1) = kx_cn th i + 1 := if_neg h
theorem kx_cn_f {th : Nat → Int32} {i : Nat} (h : th i = 0) : kx_cn th (i + 1) = kx_cn th i := if_pos h
theorem kx_cn_le {th : Nat → Int32} : ∀ i, kx_cn th i ≤ i
  | 0 => Nat.le_refl 0
  | i + 1 => by
    have h := kx_cn_le (th := th) i
    by_cases c : th i = 0
    · rw [kx_cn_f c]; omega
    · rw [kx_cn_t c]; omega
theorem kx_cn_c {th ti : Nat → Int32} : ∀ n, (∀ j, j < n → th j = ti j) → kx_cn th n = kx_cn ti n
  | 0, _ => rfl
  | n + 1, ht => by
    have e := kx_cn_c n (fun j hj => ht j (by omega))
    by_cases c : th n = 0
    · rw [kx_cn_f c, kx_cn_f (by rw [← ht n (by omega)]; exact c), e]
    · rw [kx_cn_t c, kx_cn_t (by rw [← ht n (by omega)]; exact c), e]
/-- AREA, INSIDE -/
def kx_area (r : UInt64) : UInt64 := FP.dmul (FP.dmul 4614254477589872640 r) r
theorem kx_area_bd {r : UInt64} (h : fx_bd 140 r) : fx_bd 290 (kx_area r) := ((fx_k4614254477589872640.mul h (by omega)).mul h (by omega)).mono (by omega)
def kx_d2 (x y u w : UInt64) : UInt64 := FP.dadd (FP.dmul (FP.dsub x u) (FP.dsub x u)) (FP.dmul (FP.dsub y w) (FP.dsub y w))
def kx_cov (cx cy r x y : UInt64) : Int32 := if (FP.dcmp (kx_d2 x y cx cy) (FP.dmul r r) = some .lt ∨ FP.dcmp (kx_d2 x y cx cy) (FP.dmul r r) = some .eq) then 1 else 0
theorem kx_cov_01 {cx cy r x y : UInt64} : kx_cov cx cy r x y = 0 ∨ kx_cov cx cy r x y = 1 := by
  unfold kx_cov
  split
  · exact Or.inr rfl
  · exact Or.inl rfl
/-- a place on the line from a to b -/
def kx_ln (fa fb : UInt64) (x y : Int32) : UInt64 := FP.dadd fa (FP.ddiv (FP.dmul (FP.dsub fb fa) (FP.i2d x)) (FP.i2d y))
theorem kx_ln_bd {fa fb : UInt64} {x y : Int32} {K : Nat} (ha : fx_bd K fa) (hb : fx_bd K fb) (hy : y ≠ 0) (hK : K + 100 ≤ 1024) : fx_bd (K + 39) (kx_ln fa fb x y) := (ha.add ((((hb.sub ha (by omega)).mul (fx_i (x := x)) (by omega)).div (fx_il hy) (by omega))) (by omega)).mono (by omega)
/-- TAPER, SWEEP -/
def kx_tap (R : Nat → UInt64) (n : Nat) : UInt64 := if n = 1 then FP.dconst0 else FP.ddiv (FP.dsub (R 0) (R (n - 1))) (FP.i2d (nI (n - 1)))
def kx_str (f : Nat → UInt64) (n i : Nat) : UInt64 := kx_ln (f 0) (f (n - 1)) (nI i) (nI (n - 1))
def kx_bend (X Y : Nat → UInt64) (n i : Nat) : UInt64 := kx_d2 (X i) (Y i) (kx_str X n i) (kx_str Y n i)
def kx_max (g : Nat → UInt64) : Nat → UInt64
  | 0 => FP.dconst0
  | i + 1 => if FP.dcmp (g i) (kx_max g i) = some .gt then g i else kx_max g i
theorem kx_max_t {g : Nat → UInt64} {i : Nat} (h : FP.dcmp (g i) (kx_max g i) = some .gt) : kx_max g (i + 1) = g i := if_pos h
theorem kx_max_f {g : Nat → UInt64} {i : Nat} (h : ¬ FP.dcmp (g i) (kx_max g i) = some .gt) : kx_max g (i + 1) = kx_max g i := if_neg h
def kx_swp (X Y : Nat → UInt64) (n : Nat) : UInt64 := if n = 1 then FP.dconst0 else kx_max (kx_bend X Y n) n
/-- the nearest fitted ones -/
def kx_bef (F : Nat → Int32) : Nat → Int32
  | 0 => -1
  | t + 1 => if F t = 0 then kx_bef F t else nI t
def kx_beh (F : Nat → Int32) (n : Nat) : Nat → Int32
  | 0 => -1
  | k + 1 => if F (n - (k + 1)) = 0 then kx_beh F n k else nI (n - (k + 1))
