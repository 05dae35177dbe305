/-! how the class and the reference belong together -/
theorem kz_aim {a b d : Int32} {x y : UInt64} (h : kc_aim a b d x y = 0) : a = 0 ∧ ¬ b = 0 ∧ ¬ d = 0 := by
  unfold kc_aim at h
  by_cases h1 : a = 0
  · rw [if_pos h1] at h
    by_cases h2 : b = 0
    · rw [if_pos h2] at h; exact absurd h (by decide)
    · rw [if_neg h2] at h
      by_cases h3 : d = 0
      · rw [if_pos h3] at h; exact absurd h (by decide)
      · exact ⟨h1, h2, h3⟩
  · rw [if_neg h1] at h; exact absurd h (by decide)
theorem kz_sha {a b d f : Int32} {x y : UInt64} (h : kc_sha a b d f x y = 0) : a = 0 ∧ b = 0 ∧ ¬ d = 0 ∧ ¬ f = 0 := by
  unfold kc_sha at h
  by_cases h0 : a = 0
  · rw [if_neg (fun q => q h0)] at h
    by_cases h1 : b = 0
    · rw [if_pos h1] at h
      by_cases h2 : d = 0
      · rw [if_pos h2] at h; exact absurd h (by decide)
      · rw [if_neg h2] at h
        by_cases h3 : f = 0
        · rw [if_pos h3] at h; exact absurd h (by decide)
        · exact ⟨h0, h1, h2, h3⟩
    · rw [if_neg h1] at h; exact absurd h (by decide)
  · rw [if_pos h0] at h; exact absurd h (by decide)
theorem kz_lif {a b : Int32} (h : kc_lif a b = 0) : a = 0 ∧ b = 0 := by
  unfold kc_lif at h
  by_cases h0 : a = 0
  · rw [if_neg (fun q => q h0)] at h
    by_cases h1 : b = 0
    · exact ⟨h0, h1⟩
    · rw [if_neg h1] at h; exact absurd h (by decide)
  · rw [if_pos h0] at h; exact absurd h (by decide)
theorem kz_shp {a w d : Int32} (h : kc_shp a w d = 0) : a = 0 ∧ ¬ w < 0 ∧ w ≤ 4 ∧ ¬ d = 0 := by
  unfold kc_shp at h
  by_cases h0 : a = 0
  · rw [if_neg (fun q => q h0)] at h
    by_cases h1 : w < 0
    · rw [if_pos h1] at h; exact absurd h (by decide)
    · rw [if_neg h1] at h
      by_cases h2 : w ≤ 4
      · rw [if_pos h2] at h
        by_cases h3 : d = 0
        · rw [if_pos h3] at h; exact absurd h (by decide)
        · exact ⟨h0, h1, h2, h3⟩
      · rw [if_neg h2] at h; exact absurd h (by decide)
  · rw [if_pos h0] at h; exact absurd h (by decide)
theorem kz_fit {a d : Int32} (h : kc_fit a d = 0) : a = 0 ∧ ¬ d = 0 := by
  unfold kc_fit at h
  by_cases h0 : a = 0
  · rw [if_pos h0] at h
    by_cases h3 : d = 0
    · rw [if_pos h3] at h; exact absurd h (by decide)
    · exact ⟨h0, h3⟩
  · rw [if_neg h0] at h; exact absurd h (by decide)
theorem kz_ins {a b d f : Int32} (h : kc_ins a b d f = 0) : a = 0 ∧ ¬ f = 0 := by
  unfold kc_ins at h
  by_cases h0 : a = 0
  · rw [if_pos h0] at h
    by_cases h1 : b = 0
    · rw [if_pos h1] at h; exact absurd h (by decide)
    · rw [if_neg h1] at h
      by_cases h2 : d = 0
      · rw [if_neg (fun q => q h2)] at h; exact absurd h (by decide)
      · rw [if_pos h2] at h
        by_cases h3 : f = 0
        · rw [if_pos h3] at h; exact absurd h (by decide)
        · exact ⟨h0, h3⟩
  · rw [if_neg h0] at h; exact absurd h (by decide)
theorem kz_h {d : Int32} (h : kc_h d = 0) : ¬ d = 0 := by
  intro q; unfold kc_h at h; rw [if_pos q] at h; exact absurd h (by decide)
theorem kz_apa {a d f : Int32} (h : kc_apa a d f = 0) : ¬ d = 0 := by
  intro q
  unfold kc_apa at h
  rw [if_pos q] at h
  by_cases h0 : a < 0
  · rw [if_pos h0] at h; exact absurd h (by decide)
  · rw [if_neg h0] at h
    by_cases h1 : a ≤ 3
    · rw [if_pos h1] at h; exact absurd h (by decide)
    · rw [if_neg h1] at h; exact absurd h (by decide)
theorem kz_mat {d f : Int32} (h : kc_mat d f = 0) : ¬ d = 0 := by
  intro q; unfold kc_mat at h; rw [if_pos q] at h; exact absurd h (by decide)
theorem kz_rul {a b : Int32} {n : Nat} (h : kc_rul a b n = 0) : ¬ n = 6 := by
  intro q
  unfold kc_rul at h
  rw [show (if ¬ n = 6 then (0 : Int32) else 2) = 2 from if_neg (fun z => z q)] at h
  by_cases h0 : a < 0
  · rw [if_pos h0] at h; exact absurd h (by decide)
  · rw [if_neg h0] at h
    by_cases h1 : 4 < a
    · rw [if_pos h1] at h; exact absurd h (by decide)
    · rw [if_neg h1] at h
      by_cases h2 : b < 0
      · rw [if_pos h2] at h; exact absurd h (by decide)
      · rw [if_neg h2] at h
        by_cases h3 : b ≤ 100
        · rw [if_pos h3] at h; exact absurd h (by decide)
        · rw [if_neg h3] at h; exact absurd h (by decide)
theorem kx_noJ {n : Nat} {a : Int32} (hn : n ≤ 16) (h : kx_no n a = 0) : a.toNatClampNeg < n := by
  obtain ⟨i, hi, e⟩ := kx_no_0 (by omega) h
  rw [e, nI_clamp (by omega)]; exact hi
theorem kx_ij {v i j i2 j2 : Nat} (hj : j < v) (hj2 : j2 < v) (h : i * v + j = i2 * v + j2) : i = i2 ∧ j = j2 := by
  have key : ∀ {a b : Nat}, a < b → a * v + v ≤ b * v := fun {a b} hab => by
    have := Nat.mul_le_mul_right v (show a + 1 ≤ b from hab)
    rw [Nat.succ_mul] at this; exact this
  rcases Nat.lt_trichotomy i i2 with h1 | h1 | h1
  · have := key h1; omega
  · subst h1; exact ⟨rfl, by omega⟩
  · have := key h1; omega
def kR_a (n v : Nat) (P Q Ln : Nat → UInt64) (Th : Nat → Int32) (Mi Ha ps qs : Nat → UInt64) (th : Nat → Int32) (fr to : Nat → UInt64) : Prop :=
  (∀ j, j < v → P j = ps j ∧ Q j = qs j ∧ Ln j = kx_root (kx_sq (ps j) (qs j))) ∧ (∀ i j, i < n → j < v → Th (i * v + j) = th (8 * i + j) ∧ (th (8 * i + j) ≠ 0 → Mi (i * v + j) = kx_mm fr to (8 * i + j) ∧ Ha (i * v + j) = kx_hh fr to (8 * i + j))) ∧ ∀ j, Th j = 0 ∨ Th j = 1
def kR_s (n : Nat) (X Y R E : Nat → UInt64) (F : Nat → Int32) (md sh0 kn : Int32) (ft : Nat) (fd : Nat → Int32) (sh : Nat → UInt64) : Prop :=
  sh0 = kx_hs kn ft ∧ (∀ j, j < n → F j = 0 ∨ F j = 1) ∧ ft ≤ n ∧ (¬ sh0 = 0 → (∀ j, j < n → X j = sh (4 * j) ∧ Y j = sh (4 * j + 1) ∧ R j = sh (4 * j + 2) ∧ E j = sh (4 * j + 3) ∧ F j = fd j) ∧ md = nI (n - ft))
def kR_k (n : Nat) (KX KY kx ky : Nat → UInt64) (kt kp : Int32) : Prop := (∀ j, j < n → KX j = kx j ∧ KY j = ky j) ∧ kt = kp
def kR_r (Ki : Nat → Int32) (Li : Nat → UInt64) (Cl : Nat → Int32) (cnt : Nat) (ki : Nat → Int32) (li : Nat → UInt64) (cl : Nat → Int32) (ru : Nat) : Prop := Ki = ki ∧ Li = li ∧ Cl = cl ∧ cnt = ru ∧ cnt ≤ 6
def kB_a (v : Nat) (P Q Ln Mi Ha ps qs fr to : Nat → UInt64) : Prop := (∀ j, fx_bd 5 (P j)) ∧ (∀ j, fx_bd 5 (Q j)) ∧ (∀ j, fx_bd 200 (Ln j)) ∧ (∀ j, fx_bd 14 (Mi j)) ∧ (∀ j, fx_bd 14 (Ha j)) ∧ (∀ j, j < v → fx_pl 61 (Ln j)) ∧ (∀ j, fx_bd 5 (ps j)) ∧ (∀ j, fx_bd 5 (qs j)) ∧ (∀ j, fx_bd 11 (fr j)) ∧ (∀ j, fx_bd 11 (to j))
def kB_s (X Y R E sh : Nat → UInt64) : Prop := (∀ j, fx_bd 130 (X j)) ∧ (∀ j, fx_bd 130 (Y j)) ∧ (∀ j, fx_bd 140 (R j)) ∧ (∀ j, fx_bd 220 (E j)) ∧ (∀ j, fx_bd 220 (sh j))
def kB_k (KX KY kx ky : Nat → UInt64) : Prop := (∀ j, fx_bd 130 (KX j)) ∧ (∀ j, fx_bd 130 (KY j)) ∧ (∀ j, fx_bd 130 (kx j)) ∧ (∀ j, fx_bd 130 (ky j))
section
variable {n v : Nat} {P Q Ln : Nat → UInt64} {Th : Nat → Int32} {Mi Ha ps qs : Nat → UInt64} {th : Nat → Int32} {fr to : Nat → UInt64} {X Y R E : Nat → UInt64} {F : Nat → Int32} {md sh0 kn : Int32} {ft : Nat} {fd : Nat → Int32} {sh : Nat → UInt64}
variable {KX KY kx ky : Nat → UInt64} {kt kp : Int32} {Ki : Nat → Int32} {Li : Nat → UInt64} {Cl : Nat → Int32} {cnt : Nat} {ki : Nat → Int32} {li : Nat → UInt64} {cl : Nat → Int32} {ru : Nat} {tw : Int32}
theorem kS_off (h : kR_s n X Y R E F md sh0 kn ft fd sh) : kR_s n X Y R E F md 0 0 ft fd sh := ⟨rfl, h.2.1, h.2.2.1, fun q => absurd rfl q⟩
theorem kL_aim {r a9 : Int32} {p9 q9 : UInt64} {u : (Nat → UInt64) × (Nat → UInt64) × (Nat → UInt64) × Int32} {w : Int32 × (Nat → UInt64) × (Nat → UInt64) × Int32}
    (h1 : r = (kc_aim (kx_no v a9) (kx_wi p9 16) (kx_wi q9 16) p9 q9) ∧ (((kc_aim (kx_no v a9) (kx_wi p9 16) (kx_wi q9 16) p9 q9) = 0 ∧ u = (vf_upd P a9.toNatClampNeg p9, vf_upd Q a9.toNatClampNeg q9, vf_upd Ln a9.toNatClampNeg (kx_root (kx_sq p9 q9)), 0)) ∨ ((kc_aim (kx_no v a9) (kx_wi p9 16) (kx_wi q9 16) p9 q9) ≠ 0 ∧ u = (P, Q, Ln, sh0))))
    (h2 : w.1 = (kc_aim (kx_no v a9) (kx_wi p9 16) (kx_wi q9 16) p9 q9) ∧ (((kc_aim (kx_no v a9) (kx_wi p9 16) (kx_wi q9 16) p9 q9) = 0 ∧ w.2 = (vf_upd ps a9.toNatClampNeg p9, vf_upd qs a9.toNatClampNeg q9, 0)) ∨ ((kc_aim (kx_no v a9) (kx_wi p9 16) (kx_wi q9 16) p9 q9) ≠ 0 ∧ w.2 = (ps, qs, kn))))
    (hv : v ≤ 8) (hRa : kR_a n v P Q Ln Th Mi Ha ps qs th fr to) (hRs : kR_s n X Y R E F md sh0 kn ft fd sh) (hBa : kB_a v P Q Ln Mi Ha ps qs fr to) :
    w.1 = r ∧ kR_a n v u.1 u.2.1 u.2.2.1 Th Mi Ha w.2.1 w.2.2.1 th fr to ∧ kR_s n X Y R E F md u.2.2.2 w.2.2.2 ft fd sh ∧ kB_a v u.1 u.2.1 u.2.2.1 Mi Ha w.2.1 w.2.2.1 fr to := by
  refine ⟨h2.1.trans h1.1.symm, ?_⟩
  rcases h1.2 with ⟨c, e1⟩ | ⟨c, e1⟩ <;> rcases h2.2 with ⟨c2, e2⟩ | ⟨c2, e2⟩
  · rw [e1, e2]
    obtain ⟨z1, z2, z3⟩ := kz_aim c
    have b1 := fx_w16 z2
    have b2 := fx_w16 z3
    obtain ⟨a1, a2, a3, a4, a5, a6, a7, a8, a9', a10⟩ := hBa
    refine ⟨⟨fun j hj => ?_, hRa.2⟩, kS_off hRs, fx_bd.upd a1 b1, fx_bd.upd a2 b2, fx_bd.upd a3 (kx_root_bd (kx_sq_nn b1 b2) (kx_sq_bd b1 b2)), a4, a5, fun j hj => ?_, fx_bd.upd a7 b1, fx_bd.upd a8 b2, a9', a10⟩
    · by_cases hk : j = a9.toNatClampNeg
      · subst hk
        dsimp only
        rw [kx_us, kx_us, kx_us, kx_us, kx_us]
        exact ⟨rfl, rfl, rfl⟩
      · dsimp only
        rw [kx_un hk, kx_un hk, kx_un hk, kx_un hk, kx_un hk]
        exact hRa.1 j hj
    · by_cases hk : j = a9.toNatClampNeg
      · subst hk
        dsimp only
        rw [kx_us]
        exact kx_root_pl (kx_sq_nn b1 b2) (kx_sq_bd b1 b2)
      · dsimp only
        rw [kx_un hk]
        exact a6 j hj
  · exact absurd c c2
  · exact absurd c2 c
  · rw [e1, e2]; exact ⟨hRa, hRs, hBa⟩
theorem kL_shadow {r a9 b9 : Int32} {f9 t9 : UInt64} {u : (Nat → Int32) × (Nat → UInt64) × (Nat → UInt64) × Int32} {w : Int32 × (Nat → Int32) × (Nat → UInt64) × (Nat → UInt64) × Int32}
    (h1 : r = (kc_sha (kx_no n a9) (kx_no v b9) (kx_wi f9 1000) (kx_wi t9 1000) f9 t9) ∧ (((kc_sha (kx_no n a9) (kx_no v b9) (kx_wi f9 1000) (kx_wi t9 1000) f9 t9) = 0 ∧ u = (upd Th (a9.toNatClampNeg * v + b9.toNatClampNeg) 1, vf_upd Mi (a9.toNatClampNeg * v + b9.toNatClampNeg) (FP.ddiv (FP.dadd f9 t9) fx_2), vf_upd Ha (a9.toNatClampNeg * v + b9.toNatClampNeg) (FP.ddiv (FP.dsub t9 f9) fx_2), 0)) ∨ ((kc_sha (kx_no n a9) (kx_no v b9) (kx_wi f9 1000) (kx_wi t9 1000) f9 t9) ≠ 0 ∧ u = (Th, Mi, Ha, sh0))))
    (h2 : w.1 = (kc_sha (kx_no n a9) (kx_no v b9) (kx_wi f9 1000) (kx_wi t9 1000) f9 t9) ∧ (((kc_sha (kx_no n a9) (kx_no v b9) (kx_wi f9 1000) (kx_wi t9 1000) f9 t9) = 0 ∧ w.2 = (upd th (8 * a9.toNatClampNeg + b9.toNatClampNeg) 1, vf_upd fr (8 * a9.toNatClampNeg + b9.toNatClampNeg) f9, vf_upd to (8 * a9.toNatClampNeg + b9.toNatClampNeg) t9, 0)) ∨ ((kc_sha (kx_no n a9) (kx_no v b9) (kx_wi f9 1000) (kx_wi t9 1000) f9 t9) ≠ 0 ∧ w.2 = (th, fr, to, kn))))
    (hn : n ≤ 16) (hv : v ≤ 8) (hRa : kR_a n v P Q Ln Th Mi Ha ps qs th fr to) (hRs : kR_s n X Y R E F md sh0 kn ft fd sh) (hBa : kB_a v P Q Ln Mi Ha ps qs fr to) :
    w.1 = r ∧ kR_a n v P Q Ln u.1 u.2.1 u.2.2.1 ps qs w.2.1 w.2.2.1 w.2.2.2.1 ∧ kR_s n X Y R E F md u.2.2.2 w.2.2.2.2 ft fd sh ∧ kB_a v P Q Ln u.2.1 u.2.2.1 ps qs w.2.2.1 w.2.2.2.1 := by
  refine ⟨h2.1.trans h1.1.symm, ?_⟩
  rcases h1.2 with ⟨c, e1⟩ | ⟨c, e1⟩ <;> rcases h2.2 with ⟨c2, e2⟩ | ⟨c2, e2⟩
  · rw [e1, e2]
    obtain ⟨z1, z2, z3, z4⟩ := kz_sha c
    have b1 := fx_w1000 z3
    have b2 := fx_w1000 z4
    have k1 := kx_noJ hn z1
    have k2 := kx_noJ (Nat.le_trans hv (by decide)) z2
    obtain ⟨a1, a2, a3, a4, a5, a6, a7, a8, a9', a10⟩ := hBa
    refine ⟨⟨hRa.1, fun i j hi hj => ?_, fun j => ?_⟩, kS_off hRs, a1, a2, a3, fx_bd.upd a4 (kx_mid_bd b1 b2), fx_bd.upd a5 (kx_hlf_bd b1 b2), a6, a7, a8, fx_bd.upd a9' b1, fx_bd.upd a10 b2⟩
    · by_cases hk : i = a9.toNatClampNeg ∧ j = b9.toNatClampNeg
      · obtain ⟨rfl, rfl⟩ := hk
        dsimp only
        unfold kx_mm kx_hh
        rw [kx_uI, kx_uI, kx_us, kx_us, kx_us, kx_us]
        exact ⟨rfl, fun _ => ⟨rfl, rfl⟩⟩
      · have n1 : i * v + j ≠ a9.toNatClampNeg * v + b9.toNatClampNeg := fun q => hk (kx_ij hj k2 q)
        have n2 : 8 * i + j ≠ 8 * a9.toNatClampNeg + b9.toNatClampNeg := fun q => hk (by omega)
        dsimp only
        unfold kx_mm kx_hh
        rw [pk_un n1, pk_un n2, kx_un n1, kx_un n1, kx_un n2, kx_un n2]
        exact hRa.2.1 i j hi hj
    · by_cases hk : j = a9.toNatClampNeg * v + b9.toNatClampNeg
      · subst hk; dsimp only; rw [kx_uI]; exact Or.inr rfl
      · dsimp only; rw [pk_un hk]; exact hRa.2.2 j
  · exact absurd c c2
  · exact absurd c2 c
  · rw [e1, e2]; exact ⟨hRa, hRs, hBa⟩
theorem kL_lift {r r2 a9 b9 : Int32} {o : Nat → Int64} {u : (Nat → Int32) × Int32 × (Nat → Int64)} {w : Int32 × (Nat → Int32) × Int32}
    (h1 : r = (kc_lif (kx_no n a9) (kx_no v b9)) ∧ (((kc_lif (kx_no n a9) (kx_no v b9)) = 0 ∧ u = (upd Th (a9.toNatClampNeg * v + b9.toNatClampNeg) 0, (if Th (a9.toNatClampNeg * v + b9.toNatClampNeg) = 0 then sh0 else 0), vp_updL o 0 (if Th (a9.toNatClampNeg * v + b9.toNatClampNeg) = 0 then 0 else 1 : Int64))) ∨ ((kc_lif (kx_no n a9) (kx_no v b9)) ≠ 0 ∧ u = (Th, sh0, o))))
    (h2 : w.1 = (kc_lif (kx_no n a9) (kx_no v b9)) ∧ (((kc_lif (kx_no n a9) (kx_no v b9)) = 0 ∧ th (8 * a9.toNatClampNeg + b9.toNatClampNeg) ≠ 0 ∧ r2 = 1 ∧ w.2 = (upd th (8 * a9.toNatClampNeg + b9.toNatClampNeg) 0, 0)) ∨ ((kc_lif (kx_no n a9) (kx_no v b9)) = 0 ∧ th (8 * a9.toNatClampNeg + b9.toNatClampNeg) = 0 ∧ r2 = 0 ∧ w.2 = (th, kn)) ∨ ((kc_lif (kx_no n a9) (kx_no v b9)) ≠ 0 ∧ r2 = 0 ∧ w.2 = (th, kn))))
    (hn : n ≤ 16) (hv : v ≤ 8) (hRa : kR_a n v P Q Ln Th Mi Ha ps qs th fr to) (hRs : kR_s n X Y R E F md sh0 kn ft fd sh) :
    w.1 = r ∧ (r = 0 → u.2.2 0 = (if r2 = 0 then 0 else 1)) ∧ kR_a n v P Q Ln u.1 Mi Ha ps qs w.2.1 fr to ∧ kR_s n X Y R E F md u.2.1 w.2.2 ft fd sh := by
  refine ⟨h2.1.trans h1.1.symm, ?_⟩
  have z01 : ∀ j, upd Th (a9.toNatClampNeg * v + b9.toNatClampNeg) 0 j = 0 ∨ upd Th (a9.toNatClampNeg * v + b9.toNatClampNeg) 0 j = 1 := fun j => by
    by_cases hk : j = a9.toNatClampNeg * v + b9.toNatClampNeg
    · subst hk; rw [kx_uI]; exact Or.inl rfl
    · rw [pk_un hk]; exact hRa.2.2 j
  rcases h1.2 with ⟨c, e1⟩ | ⟨c, e1⟩ <;> rcases h2.2 with ⟨c2, c3, e3, e2⟩ | ⟨c2, c3, e3, e2⟩ | ⟨c2, e3, e2⟩
  · obtain ⟨z1, z2⟩ := kz_lif c
    have k1 := kx_noJ hn z1
    have k2 := kx_noJ (Nat.le_trans hv (by decide)) z2
    have e9 := (hRa.2.1 _ _ k1 k2).1
    have t0 : ¬ Th (a9.toNatClampNeg * v + b9.toNatClampNeg) = 0 := by rw [e9]; exact c3
    rw [if_neg t0, if_neg t0] at e1
    rw [e1, e2, e3]
    refine ⟨fun _ => rfl, ⟨hRa.1, fun i j hi hj => ?_, z01⟩, kS_off hRs⟩
    by_cases hk : i = a9.toNatClampNeg ∧ j = b9.toNatClampNeg
    · obtain ⟨rfl, rfl⟩ := hk
      dsimp only
      rw [kx_uI, kx_uI]
      exact ⟨rfl, fun q => absurd rfl q⟩
    · have n1 : i * v + j ≠ a9.toNatClampNeg * v + b9.toNatClampNeg := fun q => hk (kx_ij hj k2 q)
      have n2 : 8 * i + j ≠ 8 * a9.toNatClampNeg + b9.toNatClampNeg := fun q => hk (by omega)
      dsimp only
      rw [pk_un n1, pk_un n2]
      exact hRa.2.1 i j hi hj
  · obtain ⟨z1, z2⟩ := kz_lif c
    have k1 := kx_noJ hn z1
    have k2 := kx_noJ (Nat.le_trans hv (by decide)) z2
    have e9 := (hRa.2.1 _ _ k1 k2).1
    have t0 : Th (a9.toNatClampNeg * v + b9.toNatClampNeg) = 0 := by rw [e9]; exact c3
    rw [if_pos t0, if_pos t0] at e1
    rw [e1, e2, e3]
    refine ⟨fun _ => rfl, ⟨hRa.1, fun i j hi hj => ?_, z01⟩, hRs⟩
    by_cases hk : i * v + j = a9.toNatClampNeg * v + b9.toNatClampNeg
    · obtain ⟨rfl, rfl⟩ := kx_ij hj k2 hk
      dsimp only
      rw [kx_uI, c3]
      exact ⟨rfl, fun q => absurd rfl q⟩
    · dsimp only
      rw [pk_un hk]
      exact hRa.2.1 i j hi hj
  · exact absurd c c2
  · exact absurd c2 c
  · exact absurd c2 c
  · rw [e1, e2]; exact ⟨fun q => absurd (h1.1.symm.trans q) c, hRa, hRs⟩
theorem kL_shape {r a9 w9 : Int32} {r2 : UInt64} {o u : Nat → UInt64} {w : Int32}
    (h1 : r = (kc_shp (kx_no n a9) w9 sh0) ∧ (((kc_shp (kx_no n a9) w9 sh0) = 0 ∧ u = vf_upd o 0 (kq_val X Y R E a9.toNatClampNeg w9)) ∨ ((kc_shp (kx_no n a9) w9 sh0) ≠ 0 ∧ u = o)))
    (h2 : w = (kc_shp (kx_no n a9) w9 (kx_hs kn ft)) ∧ ((kc_shp (kx_no n a9) w9 (kx_hs kn ft)) = 0 → r2 = km_val sh a9.toNatClampNeg w9)) (hn : n ≤ 16) (hRs : kR_s n X Y R E F md sh0 kn ft fd sh) : w = r ∧ (r = 0 → u 0 = r2) := by
  have e0 := hRs.1
  rw [← e0] at h2
  refine ⟨h2.1.trans h1.1.symm, fun q => ?_⟩
  have c := h1.1.symm.trans q
  rcases h1.2 with ⟨_, e1⟩ | ⟨c', e1⟩
  · rw [e1, h2.2 c, kx_us]
    obtain ⟨z1, z2, z3, z4⟩ := kz_shp c
    have k1 := kx_noJ hn z1
    obtain ⟨x1, x2, x3, x4, -⟩ := (hRs.2.2.2 z4).1 _ k1
    obtain ⟨j, hj, ej⟩ := kx_w4 z2 z3
    unfold kq_val km_val
    rw [x1, x2, x3, x4]
    rcases (show j = 0 ∨ j = 1 ∨ j = 2 ∨ j = 3 ∨ j = 4 from by omega) with rfl | rfl | rfl | rfl | rfl <;> rw [ej] <;> rfl
  · exact absurd c c'
theorem kL_fitted {r r2 a9 : Int32} {o u : Nat → Int64} {w : Int32}
    (h1 : r = (kc_fit (kx_no n a9) sh0) ∧ (((kc_fit (kx_no n a9) sh0) = 0 ∧ u = vp_updL o 0 (if F a9.toNatClampNeg = 0 then 0 else 1 : Int64)) ∨ ((kc_fit (kx_no n a9) sh0) ≠ 0 ∧ u = o)))
    (h2 : w = (kc_fit (kx_no n a9) (kx_hs kn ft)) ∧ ((kc_fit (kx_no n a9) (kx_hs kn ft)) = 0 → r2 = (if fd a9.toNatClampNeg = 0 then 0 else 1))) (hn : n ≤ 16) (hRs : kR_s n X Y R E F md sh0 kn ft fd sh) : w = r ∧ (r = 0 → u 0 = (if r2 = 0 then 0 else 1)) := by
  have e0 := hRs.1
  rw [← e0] at h2
  refine ⟨h2.1.trans h1.1.symm, fun q => ?_⟩
  have c := h1.1.symm.trans q
  rcases h1.2 with ⟨_, e1⟩ | ⟨c', e1⟩
  · obtain ⟨z1, z4⟩ := kz_fit c
    obtain ⟨-, -, -, -, x5⟩ := (hRs.2.2.2 z4).1 _ (kx_noJ hn z1)
    rw [e1, h2.2 c, x5]
    show (if fd a9.toNatClampNeg = 0 then 0 else 1 : Int64) = _
    by_cases k : fd a9.toNatClampNeg = 0
    · rw [if_pos k, if_pos k]; rfl
    · rw [if_neg k, if_neg k]; rfl
  · exact absurd c c'
theorem kL_inside {r r2 a9 : Int32} {x9 y9 : UInt64} {o u : Nat → Int64} {w : Int32}
    (h1 : r = (kc_ins (kx_no n a9) (kx_wi x9 1000) (kx_wi y9 1000) sh0) ∧ (((kc_ins (kx_no n a9) (kx_wi x9 1000) (kx_wi y9 1000) sh0) = 0 ∧ u = vp_updL o 0 (if kx_cov (X a9.toNatClampNeg) (Y a9.toNatClampNeg) (R a9.toNatClampNeg) x9 y9 = 0 then 0 else 1 : Int64)) ∨ ((kc_ins (kx_no n a9) (kx_wi x9 1000) (kx_wi y9 1000) sh0) ≠ 0 ∧ u = o)))
    (h2 : w = (kc_ins (kx_no n a9) (kx_wi x9 1000) (kx_wi y9 1000) (kx_hs kn ft)) ∧ ((kc_ins (kx_no n a9) (kx_wi x9 1000) (kx_wi y9 1000) (kx_hs kn ft)) = 0 → r2 = kx_cov (sh (4 * a9.toNatClampNeg)) (sh (4 * a9.toNatClampNeg + 1)) (sh (4 * a9.toNatClampNeg + 2)) x9 y9)) (hn : n ≤ 16) (hRs : kR_s n X Y R E F md sh0 kn ft fd sh) : w = r ∧ (r = 0 → u 0 = (if r2 = 0 then 0 else 1)) := by
  have e0 := hRs.1
  rw [← e0] at h2
  refine ⟨h2.1.trans h1.1.symm, fun q => ?_⟩
  have c := h1.1.symm.trans q
  rcases h1.2 with ⟨_, e1⟩ | ⟨c', e1⟩
  · obtain ⟨z1, z4⟩ := kz_ins c
    obtain ⟨x1, x2, x3, -, -⟩ := (hRs.2.2.2 z4).1 _ (kx_noJ hn z1)
    rw [e1, h2.2 c, x1, x2, x3]
    rfl
  · exact absurd c c'
theorem kL_wholes {r r2 a9 : Int32} {o u : Nat → Int64} {w : Int32}
    (h1 : r = (kc_fit (kx_no n a9) sh0) ∧ (((kc_fit (kx_no n a9) sh0) = 0 ∧ u = vp_updL o 0 (nI (kx_c2 (fun a b => kx_cov (X a9.toNatClampNeg) (Y a9.toNatClampNeg) (R a9.toNatClampNeg) (FP.i2d (kx_z a)) (FP.i2d (kx_z b))) 81)).toInt64) ∨ ((kc_fit (kx_no n a9) sh0) ≠ 0 ∧ u = o)))
    (h2 : w = (kc_fit (kx_no n a9) (kx_hs kn ft)) ∧ ((kc_fit (kx_no n a9) (kx_hs kn ft)) = 0 → r2 = nI (kx_c2 (fun a b => kx_cov (sh (4 * a9.toNatClampNeg)) (sh (4 * a9.toNatClampNeg + 1)) (sh (4 * a9.toNatClampNeg + 2)) (FP.i2d (kx_z a)) (FP.i2d (kx_z b))) 81))) (hn : n ≤ 16) (hRs : kR_s n X Y R E F md sh0 kn ft fd sh) : w = r ∧ (r = 0 → u 0 = r2.toInt64) := by
  have e0 := hRs.1
  rw [← e0] at h2
  refine ⟨h2.1.trans h1.1.symm, fun q => ?_⟩
  have c := h1.1.symm.trans q
  rcases h1.2 with ⟨_, e1⟩ | ⟨c', e1⟩
  · obtain ⟨z1, z4⟩ := kz_fit c
    obtain ⟨x1, x2, x3, -, -⟩ := (hRs.2.2.2 z4).1 _ (kx_noJ hn z1)
    rw [e1, h2.2 c, x1, x2, x3]
    rfl
  · exact absurd c c'
theorem kL_volume {r : Int32} {r2 : UInt64} {o u : Nat → UInt64} {w : Int32}
    (h1 : r = (kc_h sh0) ∧ (((kc_h sh0) = 0 ∧ u = vf_upd o 0 (kx_sum (fun j => kx_area (R j)) n)) ∨ ((kc_h sh0) ≠ 0 ∧ u = o)))
    (h2 : w = (kc_h (kx_hs kn ft)) ∧ ((kc_h (kx_hs kn ft)) = 0 → r2 = kx_sum (fun j => kx_area (sh (4 * j + 2))) n)) (hRs : kR_s n X Y R E F md sh0 kn ft fd sh) : w = r ∧ (r = 0 → u 0 = r2) := by
  have e0 := hRs.1
  rw [← e0] at h2
  refine ⟨h2.1.trans h1.1.symm, fun q => ?_⟩
  have c := h1.1.symm.trans q
  rcases h1.2 with ⟨_, e1⟩ | ⟨c', e1⟩
  · rw [e1, h2.2 c, kx_us]
    exact kx_sum_c n (fun j hj => by rw [((hRs.2.2.2 (kz_h c)).1 j hj).2.2.1])
  · exact absurd c c'
theorem kL_taper {r : Int32} {r2 : UInt64} {o u : Nat → UInt64} {w : Int32}
    (h1 : r = (kc_h sh0) ∧ (((kc_h sh0) = 0 ∧ u = vf_upd o 0 (kx_tap R n)) ∨ ((kc_h sh0) ≠ 0 ∧ u = o)))
    (h2 : w = (kc_h (kx_hs kn ft)) ∧ ((kc_h (kx_hs kn ft)) = 0 → r2 = kx_tap (fun j => sh (4 * j + 2)) n)) (hn1 : 1 ≤ n) (hRs : kR_s n X Y R E F md sh0 kn ft fd sh) : w = r ∧ (r = 0 → u 0 = r2) := by
  have e0 := hRs.1
  rw [← e0] at h2
  refine ⟨h2.1.trans h1.1.symm, fun q => ?_⟩
  have c := h1.1.symm.trans q
  rcases h1.2 with ⟨_, e1⟩ | ⟨c', e1⟩
  · rw [e1, h2.2 c, kx_us]
    have hx := (hRs.2.2.2 (kz_h c)).1
    unfold kx_tap
    rw [(hx 0 (by omega)).2.2.1, (hx (n - 1) (by omega)).2.2.1]
  · exact absurd c c'
theorem kx_max_c {f g : Nat → UInt64} : ∀ n, (∀ j, j < n → f j = g j) → kx_max f n = kx_max g n
  | 0, _ => rfl
  | n + 1, h => by
    show (if FP.dcmp (f n) (kx_max f n) = some .gt then f n else kx_max f n) = (if FP.dcmp (g n) (kx_max g n) = some .gt then g n else kx_max g n)
    rw [kx_max_c n (fun j hj => h j (by omega)), h n (by omega)]
theorem kx_swp_c {X Y X2 Y2 : Nat → UInt64} {n : Nat} (hn1 : 1 ≤ n) (hx : ∀ j, j < n → X j = X2 j) (hy : ∀ j, j < n → Y j = Y2 j) : kx_swp X Y n = kx_swp X2 Y2 n := by
  unfold kx_swp
  by_cases h : n = 1
  · rw [if_pos h, if_pos h]
  · rw [if_neg h, if_neg h]
    refine kx_max_c n (fun j hj => ?_)
    unfold kx_bend kx_str
    rw [hx j hj, hy j hj, hx 0 (by omega), hy 0 (by omega), hx (n - 1) (by omega), hy (n - 1) (by omega)]
theorem kL_sweep {r : Int32} {r2 : UInt64} {o u : Nat → UInt64} {w : Int32}
    (h1 : r = (kc_h sh0) ∧ (((kc_h sh0) = 0 ∧ u = vf_upd o 0 (kx_swp X Y n)) ∨ ((kc_h sh0) ≠ 0 ∧ u = o)))
    (h2 : w = (kc_h (kx_hs kn ft)) ∧ ((kc_h (kx_hs kn ft)) = 0 → r2 = kx_swp (fun j => sh (4 * j)) (fun j => sh (4 * j + 1)) n)) (hn1 : 1 ≤ n) (hRs : kR_s n X Y R E F md sh0 kn ft fd sh) : w = r ∧ (r = 0 → u 0 = r2) := by
  have e0 := hRs.1
  rw [← e0] at h2
  refine ⟨h2.1.trans h1.1.symm, fun q => ?_⟩
  have c := h1.1.symm.trans q
  rcases h1.2 with ⟨_, e1⟩ | ⟨c', e1⟩
  · rw [e1, h2.2 c, kx_us]
    have hx := (hRs.2.2.2 (kz_h c)).1
    exact kx_swp_c hn1 (fun j hj => (hx j hj).1) (fun j hj => (hx j hj).2.1)
  · exact absurd c c'
end
