/-! the reference's slices -/
def km_fit (th : Nat → Int32) (ps qs : Nat → UInt64) (v : Nat) (i : Nat) : Prop := kx_fit (fun j => th (8 * i + j)) ps qs v
def km_cx (th : Nat → Int32) (ps qs fr to : Nat → UInt64) (v i : Nat) : UInt64 := kx_cx (fun j => th (8 * i + j)) ps qs (fun j => kx_mm fr to (8 * i + j)) v
def km_cy (th : Nat → Int32) (ps qs fr to : Nat → UInt64) (v i : Nat) : UInt64 := kx_cy (fun j => th (8 * i + j)) ps qs (fun j => kx_mm fr to (8 * i + j)) v
def km_cr (th : Nat → Int32) (ps qs fr to : Nat → UInt64) (v i : Nat) : UInt64 := kx_rad (fun j => th (8 * i + j)) (fun j => kx_hh fr to (8 * i + j)) (fun j => kx_root (kx_sq (ps j) (qs j))) v
def km_ce (th : Nat → Int32) (ps qs fr to : Nat → UInt64) (v i : Nat) : UInt64 := kx_res (fun j => th (8 * i + j)) ps qs (fun j => kx_mm fr to (8 * i + j)) (km_cx th ps qs fr to v i) (km_cy th ps qs fr to v i) v
theorem km_bd {th : Nat → Int32} {ps qs fr to : Nat → UInt64} {v i : Nat} (hp : ∀ j, fx_bd 5 (ps j)) (hq : ∀ j, fx_bd 5 (qs j)) (hf : ∀ j, fx_bd 11 (fr j)) (ht : ∀ j, fx_bd 11 (to j)) (hv : v ≤ 8) (hk : km_fit th ps qs v i) : fx_bd 90 (km_cx th ps qs fr to v i) ∧ fx_bd 90 (km_cy th ps qs fr to v i) ∧ fx_bd 95 (km_cr th ps qs fr to v i) ∧ fx_bd 220 (km_ce th ps qs fr to v i) := by
  have hm : ∀ j, fx_bd 14 (kx_mm fr to (8 * i + j)) := fun j => kx_mid_bd (hf _) (ht _)
  have h1 : fx_bd 90 (km_cx th ps qs fr to v i) := kx_cx_bd hp hq hm hv hk.2
  have h2 : fx_bd 90 (km_cy th ps qs fr to v i) := kx_cy_bd hp hq hm hv hk.2
  exact ⟨h1, h2, kx_rad_bd (fun j => kx_hlf_bd (hf _) (ht _)) (fun j _ => kx_root_pl (kx_sq_nn (hp j) (hq j)) (kx_sq_bd (hp j) (hq j))) hv hk.1, kx_res_bd hp hq hm h1 h2 hv⟩
theorem km_hF {th : Nat → Int32} {ps qs fr to : Nat → UInt64} {v n i : Nat} {F : Nat → Int32} {sh s2 : Nat → UInt64} (hp : ∀ j, fx_bd 5 (ps j)) (hq : ∀ j, fx_bd 5 (qs j)) (hf : ∀ j, fx_bd 11 (fr j)) (ht : ∀ j, fx_bd 11 (to j)) (hv : v ≤ 8)
    (hi : kx_inv n (km_fit th ps qs v) (km_cx th ps qs fr to v) (km_cy th ps qs fr to v) (km_cr th ps qs fr to v) (km_ce th ps qs fr to v) F (fun j => sh (4 * j)) (fun j => sh (4 * j + 1)) (fun j => sh (4 * j + 2)) (fun j => sh (4 * j + 3)))
    (hm : kx_minv i n F (fun j => sh (4 * j)) (fun j => sh (4 * j + 1)) (fun j => sh (4 * j + 2)) (fun j => sh (4 * j + 3)) (fun j => s2 (4 * j)) (fun j => s2 (4 * j + 1)) (fun j => s2 (4 * j + 2)) (fun j => s2 (4 * j + 3))) :
    ∀ j, j < n → F j ≠ 0 → fx_bd 95 (s2 (4 * j)) ∧ fx_bd 95 (s2 (4 * j + 1)) ∧ fx_bd 95 (s2 (4 * j + 2)) := by
  intro j hj h0
  have hk : km_fit th ps qs v j := Classical.byContradiction (fun q => h0 ((hi j hj).2 q))
  obtain ⟨-, a1, a2, a3, -⟩ := (hi j hj).1 hk
  obtain ⟨b1, b2, b3, -⟩ := (hm j hj).1 h0
  obtain ⟨c1, c2, c3, -⟩ := km_bd hp hq hf ht hv hk
  dsimp only at a1 a2 a3 b1 b2 b3
  rw [b1, b2, b3, a1, a2, a3]
  exact ⟨c1.mono (by omega), c2.mono (by omega), c3⟩
theorem km_sel {F : Nat → Int32} {n i : Nat} (hn : n ≤ 16) (hi : i < n) (h0 : F i = 0) (he : ∃ j, j < n ∧ F j ≠ 0) : n ≤ 16 ∧ ((kx_sa F n i = kx_sb F n i ∨ (kx_sa F n i < i ∧ i < kx_sb F n i)) ∧ kx_sa F n i < n ∧ kx_sb F n i < n) ∧ F (kx_sa F n i) ≠ 0 ∧ F (kx_sb F n i) ≠ 0 := by
  obtain ⟨h1, h2, h3⟩ := kx_sel_of hn hi h0 he
  exact ⟨hn, kx_sel_ab h1, h2, h3⟩
theorem km_btw_bd {F : Nat → Int32} {n i : Nat} {f : Nat → UInt64} (h : n ≤ 16 ∧ ((kx_sa F n i = kx_sb F n i ∨ (kx_sa F n i < i ∧ i < kx_sb F n i)) ∧ kx_sa F n i < n ∧ kx_sb F n i < n) ∧ F (kx_sa F n i) ≠ 0 ∧ F (kx_sb F n i) ≠ 0) (ha : fx_bd 95 (f (kx_sa F n i))) (hb : fx_bd 95 (f (kx_sb F n i))) : fx_bd 220 (kx_btw f i (kx_sa F n i) (kx_sb F n i)) := (kx_btw_bd ha hb h.2.1.1 (by omega) (by omega)).mono (by omega)
section
variable {p : Program} {l : Launch} {e : Env} {R : Room} {s : State} {m : MethodId} {args : Array Value} {below : List Frame} {meth : Method} {c : Code} {H : Heap} {locs : List Loc} {cells slots : Nat} {Q : State → Prop}
variable {cc : ByteArray} {pc : Nat} {ls : Array Slot} {rest : List Value}
theorem kx_lv {x y : Int64} : (0 ≤ lg_cmp x y ↔ y ≤ x) ∧ (lg_cmp x y ≤ 0 ↔ x ≤ y) ∧ (lg_cmp x y < 0 ↔ x < y) ∧ (0 < lg_cmp x y ↔ y < x) ∧ (lg_cmp x y = 0 ↔ x = y) := by
  unfold lg_cmp
  have e1 := @Int64.lt_iff_toInt_lt x y
  have e2 := @Int64.lt_iff_toInt_lt y x
  have e3 := @Int64.le_iff_toInt_le x y
  have e4 := @Int64.le_iff_toInt_le y x
  have e5 := @Int64.toInt_inj x y
  by_cases c1 : x > y
  · rw [if_pos c1]
    have c1' : y.toInt < x.toInt := e2.mp c1
    refine ⟨⟨fun _ => e4.mpr (by omega), fun _ => by decide⟩, ⟨fun q => absurd q (by decide), fun q => absurd (e3.mp q) (by omega)⟩, ⟨fun q => absurd q (by decide), fun q => absurd (e1.mp q) (by omega)⟩, ⟨fun _ => c1, fun _ => by decide⟩, ⟨fun q => absurd q (by decide), fun q => absurd (e5.mpr q) (by omega)⟩⟩
  · rw [if_neg c1]
    have c1' : ¬ y.toInt < x.toInt := fun q => c1 (e2.mpr q)
    by_cases c2 : x = y
    · rw [if_pos c2]
      have c2' := e5.mpr c2
      refine ⟨⟨fun _ => e4.mpr (by omega), fun _ => by decide⟩, ⟨fun q => e3.mpr (by omega), fun q => by decide⟩, ⟨fun q => absurd q (by decide), fun q => absurd (e1.mp q) (by omega)⟩, ⟨fun q => absurd q (by decide), fun q => absurd q c1⟩, ⟨fun q => c2, fun q => rfl⟩⟩
    · rw [if_neg c2]
      have c2' : ¬ x.toInt = y.toInt := fun q => c2 (e5.mp q)
      refine ⟨⟨fun q => absurd q (by decide), fun q => absurd (e4.mp q) (by omega)⟩, ⟨fun q => e3.mpr (by omega), fun q => by decide⟩, ⟨fun q => e1.mpr (by omega), fun q => by decide⟩, ⟨fun q => absurd q (by decide), fun q => absurd q c1⟩, ⟨fun q => absurd q (by decide), fun q => absurd q c2⟩⟩
theorem kx_lge (hx : p.tables.exec = Jvm.exec) (hb : c.code = cc) {x y : Int64} {off : Int} {tgt : Nat} (hdg : decode cc pc = .ok (.ifCond .ge off, 3)) (ht : (pc : Int) + off = (tgt : Int)) (kt : y ≤ x → W p l e R s m args below meth c H locs cells slots Q (F0 m tgt ls rest)) (kf : ¬ y ≤ x → W p l e R s m args below meth c H locs cells slots Q (F0 m (pc + 3) ls rest)) : W p l e R s m args below meth c H locs cells slots Q (F0 m pc ls (.int (lg_cmp x y) :: rest)) := lv_if_ge hx hb hdg ht (fun h => kt (kx_lv.1.mp h)) (fun h => kf (fun q => h (kx_lv.1.mpr q)))
theorem kx_lle (hx : p.tables.exec = Jvm.exec) (hb : c.code = cc) {x y : Int64} {off : Int} {tgt : Nat} (hdg : decode cc pc = .ok (.ifCond .le off, 3)) (ht : (pc : Int) + off = (tgt : Int)) (kt : x ≤ y → W p l e R s m args below meth c H locs cells slots Q (F0 m tgt ls rest)) (kf : ¬ x ≤ y → W p l e R s m args below meth c H locs cells slots Q (F0 m (pc + 3) ls rest)) : W p l e R s m args below meth c H locs cells slots Q (F0 m pc ls (.int (lg_cmp x y) :: rest)) := lv_if_le hx hb hdg ht (fun h => kt (kx_lv.2.1.mp h)) (fun h => kf (fun q => h (kx_lv.2.1.mpr q)))
theorem kx_llt (hx : p.tables.exec = Jvm.exec) (hb : c.code = cc) {x y : Int64} {off : Int} {tgt : Nat} (hdg : decode cc pc = .ok (.ifCond .lt off, 3)) (ht : (pc : Int) + off = (tgt : Int)) (kt : x < y → W p l e R s m args below meth c H locs cells slots Q (F0 m tgt ls rest)) (kf : ¬ x < y → W p l e R s m args below meth c H locs cells slots Q (F0 m (pc + 3) ls rest)) : W p l e R s m args below meth c H locs cells slots Q (F0 m pc ls (.int (lg_cmp x y) :: rest)) := lv_if_lt hx hb hdg ht (fun h => kt (kx_lv.2.2.1.mp h)) (fun h => kf (fun q => h (kx_lv.2.2.1.mpr q)))
theorem kx_lgt (hx : p.tables.exec = Jvm.exec) (hb : c.code = cc) {x y : Int64} {off : Int} {tgt : Nat} (hdg : decode cc pc = .ok (.ifCond .gt off, 3)) (ht : (pc : Int) + off = (tgt : Int)) (kt : y < x → W p l e R s m args below meth c H locs cells slots Q (F0 m tgt ls rest)) (kf : ¬ y < x → W p l e R s m args below meth c H locs cells slots Q (F0 m (pc + 3) ls rest)) : W p l e R s m args below meth c H locs cells slots Q (F0 m pc ls (.int (lg_cmp x y) :: rest)) := lv_if_gt hx hb hdg ht (fun h => kt (kx_lv.2.2.2.1.mp h)) (fun h => kf (fun q => h (kx_lv.2.2.2.1.mpr q)))
theorem kx_leq (hx : p.tables.exec = Jvm.exec) (hb : c.code = cc) {x y : Int64} {off : Int} {tgt : Nat} (hdg : decode cc pc = .ok (.ifCond .eq off, 3)) (ht : (pc : Int) + off = (tgt : Int)) (kt : x = y → W p l e R s m args below meth c H locs cells slots Q (F0 m tgt ls rest)) (kf : ¬ x = y → W p l e R s m args below meth c H locs cells slots Q (F0 m (pc + 3) ls rest)) : W p l e R s m args below meth c H locs cells slots Q (F0 m pc ls (.int (lg_cmp x y) :: rest)) := lv_if_eq hx hb hdg ht (fun h => kt (kx_lv.2.2.2.2.mp h)) (fun h => kf (fun q => h (kx_lv.2.2.2.2.mpr q)))
end
