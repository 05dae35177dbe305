/-! what a run leaves -/
def kx_inv (i : Nat) (fit : Nat → Prop) (cx cy cr ce : Nat → UInt64) (F : Nat → Int32) (X Y R E : Nat → UInt64) : Prop := ∀ j, j < i → (fit j → F j = 1 ∧ X j = cx j ∧ Y j = cy j ∧ R j = cr j ∧ E j = ce j) ∧ (¬ fit j → F j = 0)
def kx_minv (i n : Nat) (F : Nat → Int32) (X Y R E X2 Y2 R2 E2 : Nat → UInt64) : Prop := ∀ j, j < n → (F j ≠ 0 → X2 j = X j ∧ Y2 j = Y j ∧ R2 j = R j ∧ E2 j = E j) ∧ (j < i → F j = 0 → X2 j = kx_btw X j (kx_sa F n j) (kx_sb F n j) ∧ Y2 j = kx_btw Y j (kx_sa F n j) (kx_sb F n j) ∧ R2 j = kx_btw R j (kx_sa F n j) (kx_sb F n j) ∧ E2 j = FP.dconst0)
def kx_fin (n : Nat) (fit : Nat → Prop) (cx cy cr ce : Nat → UInt64) (F : Nat → Int32) (X Y R E : Nat → UInt64) (cnt : Nat) : Prop := cnt = kx_cn F n ∧ ∀ i, i < n → (fit i → F i = 1 ∧ X i = cx i ∧ Y i = cy i ∧ R i = cr i ∧ E i = ce i) ∧ (¬ fit i → F i = 0 ∧ (0 < cnt → X i = kx_btw cx i (kx_sa F n i) (kx_sb F n i) ∧ Y i = kx_btw cy i (kx_sa F n i) (kx_sb F n i) ∧ R i = kx_btw cr i (kx_sa F n i) (kx_sb F n i) ∧ E i = FP.dconst0))
theorem kx_btw_c {f h : Nat → UInt64} {i a b : Nat} (ha : f a = h a) (hb : f b = h b) : kx_btw f i a b = kx_btw h i a b := by
  unfold kx_btw
  rw [ha, hb]
theorem kx_cn_p {F : Nat → Int32} : ∀ {n : Nat}, 0 < kx_cn F n → ∃ j, j < n ∧ F j ≠ 0
  | 0, h => absurd h (Nat.lt_irrefl 0)
  | n + 1, h => by
    by_cases c : F n = 0
    · rw [kx_cn_f c] at h
      obtain ⟨j, h1, h2⟩ := kx_cn_p h
      exact ⟨j, by omega, h2⟩
    · exact ⟨n, by omega, c⟩
theorem kx_cn_q {F : Nat → Int32} : ∀ {n j : Nat}, j < n → F j ≠ 0 → 0 < kx_cn F n
  | 0, j, h, _ => absurd h (Nat.not_lt_zero j)
  | n + 1, j, h, hF => by
    by_cases c : F n = 0
    · rw [kx_cn_f c]
      refine kx_cn_q (j := j) ?_ hF
      rcases Nat.lt_succ_iff_lt_or_eq.mp h with g | g
      · exact g
      · rw [g] at hF; exact absurd c hF
    · rw [kx_cn_t c]
      omega
theorem kx_uI {F : Nat → Int32} {k : Nat} {x : Int32} : upd F k x k = x := pk_us
theorem kx_cn_u {F : Nat → Int32} {i : Nat} {x : Int32} : kx_cn (upd F i x) i = kx_cn F i := kx_cn_c i (fun j hj => pk_un (by omega))
theorem kx_cn_u1 {F : Nat → Int32} {i : Nat} : kx_cn F i + 1 = kx_cn (upd F i 1) (i + 1) := by
  rw [kx_cn_t (th := upd F i 1) (by rw [kx_uI]; decide), kx_cn_u]
theorem kx_cn_u0 {F : Nat → Int32} {i : Nat} : kx_cn F i = kx_cn (upd F i 0) (i + 1) := by
  rw [kx_cn_f (th := upd F i 0) kx_uI, kx_cn_u]
section
variable {i n : Nat} {fit : Nat → Prop} {cx cy cr ce : Nat → UInt64} {F : Nat → Int32} {X Y R E : Nat → UInt64}
theorem kx_inv_0 : kx_inv 0 fit cx cy cr ce F X Y R E := fun j h => absurd h (Nat.not_lt_zero j)
theorem kx_inv_s {F' : Nat → Int32} {X' Y' R' E' : Nat → UInt64} (h : kx_inv i fit cx cy cr ce F X Y R E) (ho : ∀ j, j < i → F' j = F j ∧ X' j = X j ∧ Y' j = Y j ∧ R' j = R j ∧ E' j = E j) (ht : fit i → F' i = 1 ∧ X' i = cx i ∧ Y' i = cy i ∧ R' i = cr i ∧ E' i = ce i) (hf : ¬ fit i → F' i = 0) : kx_inv (i + 1) fit cx cy cr ce F' X' Y' R' E' := by
  intro j hj
  rcases Nat.lt_succ_iff_lt_or_eq.mp hj with g | g
  · obtain ⟨o1, o2, o3, o4, o5⟩ := ho j g
    rw [o1, o2, o3, o4, o5]
    exact h j g
  · subst g
    exact ⟨ht, hf⟩
theorem kx_inv_ct (h : kx_inv i fit cx cy cr ce F X Y R E) (hi : fit i) : kx_inv (i + 1) fit cx cy cr ce (upd F i 1) (vf_upd X i (cx i)) (vf_upd Y i (cy i)) (vf_upd R i (cr i)) (vf_upd E i (ce i)) :=
  kx_inv_s h (fun j hj => ⟨pk_un (by omega), kx_un (by omega), kx_un (by omega), kx_un (by omega), kx_un (by omega)⟩) (fun _ => ⟨kx_uI, kx_us, kx_us, kx_us, kx_us⟩) (fun q => absurd hi q)
theorem kx_inv_cf (h : kx_inv i fit cx cy cr ce F X Y R E) (hi : ¬ fit i) : kx_inv (i + 1) fit cx cy cr ce (upd F i 0) X Y R E :=
  kx_inv_s h (fun j hj => ⟨pk_un (by omega), rfl, rfl, rfl, rfl⟩) (fun q => absurd q hi) (fun _ => kx_uI)
theorem kx_inv_mt {sh : Nat → UInt64} (h : kx_inv i fit cx cy cr ce F (fun j => sh (4 * j)) (fun j => sh (4 * j + 1)) (fun j => sh (4 * j + 2)) (fun j => sh (4 * j + 3))) (hi : fit i) : kx_inv (i + 1) fit cx cy cr ce (upd F i 1) (fun j => kx_st sh i (cx i) (cy i) (cr i) (ce i) (4 * j)) (fun j => kx_st sh i (cx i) (cy i) (cr i) (ce i) (4 * j + 1)) (fun j => kx_st sh i (cx i) (cy i) (cr i) (ce i) (4 * j + 2)) (fun j => kx_st sh i (cx i) (cy i) (cr i) (ce i) (4 * j + 3)) :=
  kx_inv_s h (fun j hj => ⟨pk_un (by omega), kx_st_o (by omega), kx_st_o (by omega), kx_st_o (by omega), kx_st_o (by omega)⟩) (fun _ => ⟨kx_uI, kx_st_0, kx_st_1, kx_st_2, kx_st_3⟩) (fun q => absurd hi q)
theorem kx_minv_0 : kx_minv 0 n F X Y R E X Y R E := fun j _ => ⟨fun _ => ⟨rfl, rfl, rfl, rfl⟩, fun h => absurd h (Nat.not_lt_zero j)⟩
theorem kx_minv_f {X2 Y2 R2 E2 : Nat → UInt64} (h : kx_minv i n F X Y R E X2 Y2 R2 E2) (hi : F i ≠ 0) : kx_minv (i + 1) n F X Y R E X2 Y2 R2 E2 := by
  intro j hj
  refine ⟨(h j hj).1, fun h1 h0 => ?_⟩
  rcases Nat.lt_succ_iff_lt_or_eq.mp h1 with g | g
  · exact (h j hj).2 g h0
  · subst g
    exact absurd h0 hi
theorem kx_minv_m {sh s2 : Nat → UInt64} (h : kx_minv i n F (fun j => sh (4 * j)) (fun j => sh (4 * j + 1)) (fun j => sh (4 * j + 2)) (fun j => sh (4 * j + 3)) (fun j => s2 (4 * j)) (fun j => s2 (4 * j + 1)) (fun j => s2 (4 * j + 2)) (fun j => s2 (4 * j + 3))) (hn : n ≤ 16) (hi : i < n) (h0 : F i = 0) (he : ∃ j, j < n ∧ F j ≠ 0)
    {x y r : UInt64} (ex : x = kx_btw (fun j => s2 (4 * j)) i (kx_sa F n i) (kx_sb F n i)) (ey : y = kx_btw (fun j => s2 (4 * j + 1)) i (kx_sa F n i) (kx_sb F n i)) (er : r = kx_btw (fun j => s2 (4 * j + 2)) i (kx_sa F n i) (kx_sb F n i)) :
    kx_minv (i + 1) n F (fun j => sh (4 * j)) (fun j => sh (4 * j + 1)) (fun j => sh (4 * j + 2)) (fun j => sh (4 * j + 3)) (fun j => kx_st s2 i x y r FP.dconst0 (4 * j)) (fun j => kx_st s2 i x y r FP.dconst0 (4 * j + 1)) (fun j => kx_st s2 i x y r FP.dconst0 (4 * j + 2)) (fun j => kx_st s2 i x y r FP.dconst0 (4 * j + 3)) := by
  obtain ⟨hs, ha, hb⟩ := kx_sel_of hn hi h0 he
  obtain ⟨hab, la, lb⟩ := kx_sel_ab hs
  have fa := (h _ la).1 ha
  have fb := (h _ lb).1 hb
  intro j hj
  by_cases c : j = i
  · subst c
    refine ⟨fun q => absurd h0 q, fun _ _ => ⟨?_, ?_, ?_, kx_st_3⟩⟩
    · show kx_st s2 j x y r FP.dconst0 (4 * j) = _
      rw [kx_st_0, ex]
      exact kx_btw_c fa.1 fb.1
    · show kx_st s2 j x y r FP.dconst0 (4 * j + 1) = _
      rw [kx_st_1, ey]
      exact kx_btw_c fa.2.1 fb.2.1
    · show kx_st s2 j x y r FP.dconst0 (4 * j + 2) = _
      rw [kx_st_2, er]
      exact kx_btw_c fa.2.2.1 fb.2.2.1
  · dsimp only
    rw [kx_st_o (by omega), kx_st_o (by omega), kx_st_o (by omega), kx_st_o (by omega)]
    exact ⟨(h j hj).1, fun h1 h2 => (h j hj).2 (by omega) h2⟩
theorem kx_minv_c (hn : n ≤ 16) : kx_minv n n F X Y R E (kx_mp F X n n) (kx_mp F Y n n) (kx_mp F R n n) (kx_ep F E n) := by
  intro j hj
  refine ⟨fun h => ⟨kx_mp_F h, kx_mp_F h, kx_mp_F h, if_neg (fun q => h q.2)⟩, fun h1 h0 => ⟨if_pos ⟨h1, h0⟩, if_pos ⟨h1, h0⟩, if_pos ⟨h1, h0⟩, if_pos ⟨h1, h0⟩⟩⟩
theorem kx_fin_of {X2 Y2 R2 E2 : Nat → UInt64} {cnt : Nat} (hn : n ≤ 16) (hi : kx_inv n fit cx cy cr ce F X Y R E) (hc : cnt = kx_cn F n) (hm : 0 < cnt → kx_minv n n F X Y R E X2 Y2 R2 E2) : kx_fin n fit cx cy cr ce F X2 Y2 R2 E2 cnt := by
  refine ⟨hc, fun i hi2 => ⟨fun hf => ?_, fun hf => ?_⟩⟩
  · obtain ⟨h1, h2, h3, h4, h5⟩ := (hi i hi2).1 hf
    have hne : F i ≠ 0 := by rw [h1]; decide
    have hp : 0 < cnt := by rw [hc]; exact kx_cn_q hi2 hne
    obtain ⟨g1, g2, g3, g4⟩ := (hm hp i hi2).1 hne
    exact ⟨h1, g1.trans h2, g2.trans h3, g3.trans h4, g4.trans h5⟩
  · have h0 := (hi i hi2).2 hf
    refine ⟨h0, fun hp => ?_⟩
    have he : ∃ j, j < n ∧ F j ≠ 0 := kx_cn_p (by rw [← hc]; exact hp)
    obtain ⟨hs, ha, hb⟩ := kx_sel_of hn hi2 h0 he
    obtain ⟨hab, la, lb⟩ := kx_sel_ab hs
    obtain ⟨g1, g2, g3, g4⟩ := (hm hp i hi2).2 hi2 h0
    have fa : fit (kx_sa F n i) := Classical.byContradiction (fun q => ha ((hi _ la).2 q))
    have fb : fit (kx_sb F n i) := Classical.byContradiction (fun q => hb ((hi _ lb).2 q))
    obtain ⟨-, a2, a3, a4, -⟩ := (hi _ la).1 fa
    obtain ⟨-, b2, b3, b4, -⟩ := (hi _ lb).1 fb
    exact ⟨g1.trans (kx_btw_c a2 b2), g2.trans (kx_btw_c a3 b3), g3.trans (kx_btw_c a4 b4), g4⟩
end
theorem kx_bef_c {F F' : Nat → Int32} : ∀ t, (∀ j, j < t → F j = F' j) → kx_bef F t = kx_bef F' t
  | 0, _ => rfl
  | t + 1, h => by
    unfold kx_bef
    rw [h t (by omega), kx_bef_c t (fun j hj => h j (by omega))]
theorem kx_beh_c {F F' : Nat → Int32} {n : Nat} (h : ∀ j, j < n → F j = F' j) : ∀ k, k ≤ n → kx_beh F n k = kx_beh F' n k
  | 0, _ => rfl
  | k + 1, hk => by
    unfold kx_beh
    rw [h (n - (k + 1)) (by omega), kx_beh_c h k (by omega)]
theorem kx_sa_c {F F' : Nat → Int32} {n i : Nat} (h : ∀ j, j < n → F j = F' j) (hi : i < n) : kx_sa F n i = kx_sa F' n i := by
  unfold kx_sa
  rw [kx_bef_c i (fun j hj => h j (by omega)), kx_beh_c h _ (by omega)]
theorem kx_sb_c {F F' : Nat → Int32} {n i : Nat} (h : ∀ j, j < n → F j = F' j) (hi : i < n) : kx_sb F n i = kx_sb F' n i := by
  unfold kx_sb
  rw [kx_bef_c i (fun j hj => h j (by omega)), kx_beh_c h _ (by omega)]
/-- two runs of one kind leave the same -/
theorem kx_fin_u {n : Nat} {fit fit' : Nat → Prop} {cx cy cr ce cx' cy' cr' ce' : Nat → UInt64} {F F' : Nat → Int32} {X Y R E X' Y' R' E' : Nat → UInt64} {cnt cnt' : Nat} (hn : n ≤ 16) (h : kx_fin n fit cx cy cr ce F X Y R E cnt) (h' : kx_fin n fit' cx' cy' cr' ce' F' X' Y' R' E' cnt') (hf : ∀ i, i < n → (fit i ↔ fit' i)) (hc : ∀ i, i < n → fit i → cx i = cx' i ∧ cy i = cy' i ∧ cr i = cr' i ∧ ce i = ce' i) : cnt = cnt' ∧ (∀ i, i < n → F i = F' i) ∧ (0 < cnt → ∀ i, i < n → X i = X' i ∧ Y i = Y' i ∧ R i = R' i ∧ E i = E' i) := by
  have hF : ∀ i, i < n → F i = F' i := by
    intro i hi
    by_cases c : fit i
    · rw [((h.2 i hi).1 c).1, ((h'.2 i hi).1 ((hf i hi).mp c)).1]
    · rw [((h.2 i hi).2 c).1, ((h'.2 i hi).2 (fun q => c ((hf i hi).mpr q))).1]
  have hcn : cnt = cnt' := by rw [h.1, h'.1, kx_cn_c n hF]
  refine ⟨hcn, hF, fun hp i hi => ?_⟩
  by_cases c : fit i
  · obtain ⟨-, a1, a2, a3, a4⟩ := (h.2 i hi).1 c
    obtain ⟨-, b1, b2, b3, b4⟩ := (h'.2 i hi).1 ((hf i hi).mp c)
    obtain ⟨c1, c2, c3, c4⟩ := hc i hi c
    exact ⟨by rw [a1, b1, c1], by rw [a2, b2, c2], by rw [a3, b3, c3], by rw [a4, b4, c4]⟩
  · obtain ⟨f0, a⟩ := (h.2 i hi).2 c
    obtain ⟨f0', b⟩ := (h'.2 i hi).2 (fun q => c ((hf i hi).mpr q))
    obtain ⟨a1, a2, a3, a4⟩ := a hp
    obtain ⟨b1, b2, b3, b4⟩ := b (by rw [← hcn]; exact hp)
    have he : ∃ j, j < n ∧ F j ≠ 0 := kx_cn_p (by rw [← h.1]; exact hp)
    obtain ⟨hs, ha, hb⟩ := kx_sel_of hn hi f0 he
    obtain ⟨hab, la, lb⟩ := kx_sel_ab hs
    have fa : fit (kx_sa F n i) := Classical.byContradiction (fun q => ha ((h.2 _ la).2 q).1)
    have fb : fit (kx_sb F n i) := Classical.byContradiction (fun q => hb ((h.2 _ lb).2 q).1)
    have ca := hc _ la fa
    have cb := hc _ lb fb
    rw [a1, a2, a3, a4, b1, b2, b3, b4, ← kx_sa_c hF hi, ← kx_sb_c hF hi]
    exact ⟨kx_btw_c ca.1 cb.1, kx_btw_c ca.2.1 cb.2.1, kx_btw_c ca.2.2.1 cb.2.2.1, rfl⟩
