/-! what is thrown, by the calls' own words -/
def kc_aim (no w1 w2 : Int32) (p q : UInt64) : Int32 := if no = 0 then (if w1 = 0 then 2 else if w2 = 0 then 2 else if FP.dcmp p FP.dconst0 ≠ some .eq then 0 else if FP.dcmp q FP.dconst0 ≠ some .eq then 0 else 2) else 1
def kc_sha (a b w1 w2 : Int32) (f t : UInt64) : Int32 := if ¬ a = 0 then 1 else if b = 0 then (if w1 = 0 then 2 else if w2 = 0 then 2 else if FP.dcmp t f ≠ some .lt then 0 else 2) else 1
def kc_lif (a b : Int32) : Int32 := if ¬ a = 0 then 1 else if b = 0 then 0 else 1
def kc_shp (a w h : Int32) : Int32 := if ¬ a = 0 then 1 else if w < 0 then 1 else if w ≤ 4 then (if h = 0 then 2 else 0) else 1
def kc_fit (a h : Int32) : Int32 := if a = 0 then (if h = 0 then 2 else 0) else 1
def kc_ins (a w1 w2 h : Int32) : Int32 := if a = 0 then (if w1 = 0 then 2 else if ¬ w2 = 0 then (if h = 0 then 3 else 0) else 2) else 1
def kc_h (h : Int32) : Int32 := if h = 0 then 1 else 0
def kc_rul (kd cl : Int32) (ru : Nat) : Int32 := if kd < 0 then 1 else if 4 < kd then 1 else if cl < 0 then 1 else if cl ≤ 100 then (if ¬ ru = 6 then 0 else 2) else 1
def kc_apa (t h kp : Int32) : Int32 := if t < 0 then 1 else if t ≤ 3 then (if h = 0 then 2 else if kp = 0 then 2 else 0) else 1
def kc_mat (h kp : Int32) : Int32 := if h = 0 then 1 else if kp = 0 then 1 else 0
def kc_law (x u m : Int64) : Int32 := if x < 0 then 1 else if 1000000000 < x then 1 else if u < 1 then 1 else if 1000000 < u then 1 else if 0 ≤ m then 0 else 1
def kc_lv (x u m : Int64) : Int64 := if m ≤ x / u * u then x / u * u else 0
/-- a shape's parts, of the reference -/
def km_val (sh : Nat → UInt64) (i : Nat) (w : Int32) : UInt64 := if w = 4 then kx_area (sh (4 * i + 2)) else sh (4 * i + w.toNatClampNeg)
theorem kx_w4 {w : Int32} (h0 : ¬ w < 0) (h4 : w ≤ 4) : ∃ j, j ≤ 4 ∧ w = nI j := nI_of2 (M := 4) (n := 4) (by decide) h0 h4
theorem kx_u1 {u : Int64} (h : ¬ u < 1) : ¬ u = 0 := fun q => h (by rw [q]; decide)
