/-! the class's slices -/
def kq_fit (th : Nat → Int32) (ps qs : Nat → UInt64) (v : Nat) (i : Nat) : Prop := kx_fit (fun j => th (i * v + j)) ps qs v
def kq_cx (th : Nat → Int32) (ps qs mi : Nat → UInt64) (v i : Nat) : UInt64 := kx_cx (fun j => th (i * v + j)) ps qs (fun j => mi (i * v + j)) v
def kq_cy (th : Nat → Int32) (ps qs mi : Nat → UInt64) (v i : Nat) : UInt64 := kx_cy (fun j => th (i * v + j)) ps qs (fun j => mi (i * v + j)) v
def kq_cr (th : Nat → Int32) (ha ln : Nat → UInt64) (v i : Nat) : UInt64 := kx_rad (fun j => th (i * v + j)) (fun j => ha (i * v + j)) ln v
def kq_ce (th : Nat → Int32) (ps qs mi : Nat → UInt64) (v i : Nat) : UInt64 := kx_res (fun j => th (i * v + j)) ps qs (fun j => mi (i * v + j)) (kq_cx th ps qs mi v i) (kq_cy th ps qs mi v i) v
theorem kq_bd {th : Nat → Int32} {ps qs mi ha ln : Nat → UInt64} {v i : Nat} (hp : ∀ j, fx_bd 5 (ps j)) (hq : ∀ j, fx_bd 5 (qs j)) (hm : ∀ j, fx_bd 14 (mi j)) (hh : ∀ j, fx_bd 14 (ha j)) (hl : ∀ j, j < v → fx_pl 61 (ln j)) (hv : v ≤ 8) (hk : kq_fit th ps qs v i) : fx_bd 90 (kq_cx th ps qs mi v i) ∧ fx_bd 90 (kq_cy th ps qs mi v i) ∧ fx_bd 95 (kq_cr th ha ln v i) ∧ fx_bd 220 (kq_ce th ps qs mi v i) := by
  have h1 : fx_bd 90 (kq_cx th ps qs mi v i) := kx_cx_bd hp hq (fun j => hm _) hv hk.2
  have h2 : fx_bd 90 (kq_cy th ps qs mi v i) := kx_cy_bd hp hq (fun j => hm _) hv hk.2
  exact ⟨h1, h2, kx_rad_bd (fun j => hh _) hl hv hk.1, kx_res_bd hp hq (fun j => hm _) h1 h2 hv⟩
theorem kq_hF {th : Nat → Int32} {ps qs mi ha ln : Nat → UInt64} {v n : Nat} {F : Nat → Int32} {X Y R E : Nat → UInt64} (hp : ∀ j, fx_bd 5 (ps j)) (hq : ∀ j, fx_bd 5 (qs j)) (hm : ∀ j, fx_bd 14 (mi j)) (hh : ∀ j, fx_bd 14 (ha j)) (hl : ∀ j, j < v → fx_pl 61 (ln j)) (hv : v ≤ 8)
    (hi : kx_inv n (kq_fit th ps qs v) (kq_cx th ps qs mi v) (kq_cy th ps qs mi v) (kq_cr th ha ln v) (kq_ce th ps qs mi v) F X Y R E) :
    ∀ j, j < n → F j ≠ 0 → fx_bd 90 (X j) ∧ fx_bd 90 (Y j) ∧ fx_bd 95 (R j) := by
  intro j hj h0
  have hk : kq_fit th ps qs v j := Classical.byContradiction (fun q => h0 ((hi j hj).2 q))
  obtain ⟨-, a1, a2, a3, -⟩ := (hi j hj).1 hk
  obtain ⟨c1, c2, c3, -⟩ := kq_bd hp hq hm hh hl hv hk
  rw [a1, a2, a3]
  exact ⟨c1, c2, c3⟩
