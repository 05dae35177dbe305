theorem kx_backN {D : va_G} {cl : List vw_C} {A0 : Nat → Prop} {ws wc wa wb : va_W} {H H1 : Heap} (hP : va_P D cl ws H) (hD : va_D A0 ws) (isC : List Nat) (hC : isC.map (fun i => ws[i]?) = wc.map some) (hn : va_nd isC = true) (hl : isC.length = wa.length)
    (hk : ∀ q : Nat, q < H.size → ¬ va_A wc H.size q → H1[q]? = H[q]?) (hF : ∀ q, va_A wc H.size q → A0 q) (hP1 : va_P D cl (wa ++ wb) H1) (hD1 : va_D (va_A wc H.size) (wa ++ wb)) : va_P D cl (kx_rep ws isC wa ++ wb) H1 ∧ va_D A0 (kx_rep ws isC wa ++ wb) := by
  have ga : ∀ (k : Nat) (q : Nat × va_E), wa[k]? = some q → (wa ++ wb)[k]? = some q := fun k q h => by
    rw [List.getElem?_append_left (List.getElem?_eq_some_iff.mp h).1]
    exact h
  have gb : ∀ (k : Nat) (q : Nat × va_E), wb[k]? = some q → (wa ++ wb)[wa.length + k]? = some q := fun k q h => by
    rw [List.getElem?_append_right (by omega), show wa.length + k - wa.length = k from by omega]
    exact h
  have hPa : va_P D cl wa H1 := fun k q h => hP1 k q (ga k q h)
  have hDa : va_D (va_A wc H.size) wa := ⟨fun i j x y hx hy e => hD1.1 i j x y (ga i x hx) (ga j y hy) e, fun k q h => hD1.2 k q (ga k q h)⟩
  have hDb : va_D A0 wb := ⟨fun i j x y hx hy e => by
    have := hD1.1 _ _ x y (gb i x hx) (gb j y hy) e
    omega, fun k q h => hF q.1 (hD1.2 _ q (gb k q h))⟩
  obtain ⟨b1, b2⟩ := kx_back hP hD isC hC hn hl hk hF hPa hDa
  refine ⟨va_P.app b1 (fun k q h => hP1 _ q (gb k q h)), va_D.app b2 hDb (fun i j x y hx hy e => ?_)⟩
  have at' : ∀ (k : Nat) (q : Nat × va_E), wc[k]? = some q → ∃ i, isC[k]? = some i ∧ ws[i]? = some q := by
    intro k q hq
    have h1 : (isC.map (fun i => ws[i]?))[k]? = some (some q) := by rw [hC, List.getElem?_map, hq]; rfl
    rw [List.getElem?_map] at h1
    cases hi : isC[k]? with
    | none => rw [hi] at h1; cases h1
    | some i => rw [hi] at h1; exact ⟨i, rfl, Option.some.inj h1⟩
  rcases kx_rep_get isC wa ws hl hn i x hx with ⟨a, a1, a2⟩ | ⟨a1, a2⟩
  · have hlt := (List.getElem?_eq_some_iff.mp a2).1
    have := hD1.1 _ _ x y (ga a x a2) (gb j y hy) e
    omega
  · have hm := hD1.2 _ y (gb j y hy)
    rw [← e] at hm
    have hlt := (hP i x a2).lt
    rcases hm with ⟨k2, e2, h2⟩ | h2
    · obtain ⟨j2, h3, h4⟩ := at' k2 (x.1, e2) h2
      have hij := hD.1 i j2 x (x.1, e2) a2 h4 rfl
      subst hij
      exact a1 (List.mem_of_getElem? h3)
    · omega
section
variable {p : Program} {l : Launch} {e : Env} {R : Room} {s : State} {m : MethodId} {args : Array Value} {below : List Frame} {meth : Method} {c : Code} {H : Heap} {locs : List Loc} {cells slots : Nat} {Q : State → Prop}
variable {cc : ByteArray} {pc : Nat} {ls : Array Slot} {rest st0 : List Value} {G : kx_G} {ws wc : va_W} {A0 : Nat → Prop} {H0 : Heap} {a : Array Value} {mc ms : Nat}
/-- a constructor: the object's cell anew, and the cells that it made -/
theorem kx_mvN {S : Type} {post : S → Prop} {w1 wa wb : S → va_W} (hr : va_Run p l e R s m args below meth c H locs cells slots mc ms (F0 m pc ls st0) rest (va_Qv post (kx_B G (va_A wc H.size) w1) (va_A wc H.size) a) (va_A wc H.size)) (hP : va_P G.1 vwCl ws H) (hD : va_D A0 ws) (hS : va_S A0 H0 H locs) (hA : ∀ q, H0.size ≤ q → A0 q) (isC : List Nat) (hC : isC.map (fun i => ws[i]?) = wc.map some) (hn : va_nd isC = true) (hw : ∀ u, w1 u = wa u ++ wb u) (hl : ∀ u, isC.length = (wa u).length)
    (kk : ∀ (u : S) (H1 : Heap) (locs1 : List Loc), post u → va_P G.1 vwCl (kx_rep ws isC (wa u) ++ wb u) H1 → va_D A0 (kx_rep ws isC (wa u) ++ wb u) → va_S A0 H0 H1 locs1 → W p l e R s m args below meth c H1 locs1 (cells + mc) (slots + ms) Q (F0 m (pc + 3) ls rest)) : W p l e R s m args below meth c H locs cells slots Q (F0 m pc ls st0) := by
  have hF := va_free hD hS hA isC hC
  refine va_callv hr hS (fun q _ h => hF q h) hF (fun u t H1 locs1 ht hvm hw2 hB hz hk hS1 => ?_)
  obtain ⟨g1, g2⟩ := hB
  rw [ht, hw u] at g1
  rw [hw u] at g2
  obtain ⟨b1, b2⟩ := kx_backN hP hD isC hC hn (hl u) hk hF g1 g2
  exact kk u H1 locs1 hw2 b1 b2 hS1
end
theorem kx_ne_a {x m : Int32} (h : ¬ 1 ≤ x) (hm : 1 < m) : kx_ne x m = 1 := by
  unfold kx_ne
  have h1 : ¬ 1 < (if m < x then m else x) := by
    rw [if_neg (by
      rw [Int32.lt_iff_toInt_lt] at *
      rw [Int32.le_iff_toInt_le] at h
      omega)]
    rw [Int32.lt_iff_toInt_lt]
    rw [Int32.le_iff_toInt_le] at h
    omega
  rw [if_neg h1]
theorem kx_ne_b {x m : Int32} (h : 1 ≤ x) (h2 : ¬ x ≤ m) (hm : 1 < m) : kx_ne x m = m := by
  unfold kx_ne
  have h1 : m < x := by
    rw [Int32.lt_iff_toInt_lt]
    rw [Int32.le_iff_toInt_le] at h2
    omega
  rw [if_pos h1, if_pos hm]
theorem kx_ne_c {x m : Int32} (h : 1 ≤ x) (h2 : x ≤ m) : kx_ne x m = x := by
  unfold kx_ne
  have h1 : ¬ m < x := by
    rw [Int32.lt_iff_toInt_lt]
    rw [Int32.le_iff_toInt_le] at h2
    omega
  rw [if_neg h1]
  by_cases c : 1 < x
  · rw [if_pos c]
  · rw [if_neg c]
    rw [Int32.lt_iff_toInt_lt] at c
    rw [Int32.le_iff_toInt_le] at h
    exact Int32.toInt_inj.mp (by omega)
theorem kx_ne_n {x m : Int32} {k : Nat} (hm : 1 < m) (hk : m = nI k) (hk2 : k < 2 ^ 31) : ∃ n, 1 ≤ n ∧ n ≤ k ∧ kx_ne x m = nI n := by
  have e1 : (1 : Int32).toInt = 1 := by decide
  have e2 : m.toInt = k := by rw [hk]; exact nI_toInt hk2
  rw [Int32.lt_iff_toInt_lt] at hm
  by_cases c1 : 1 ≤ x
  · by_cases c2 : x ≤ m
    · rw [kx_ne_c c1 c2]
      obtain ⟨j, h1, h2⟩ := nI_of (x := x) (by
        intro q
        rw [Int32.lt_iff_toInt_lt] at q
        rw [Int32.le_iff_toInt_le] at c1
        have e0 : (0 : Int32).toInt = 0 := by decide
        omega)
      refine ⟨j, ?_, ?_, h2⟩
      · rw [Int32.le_iff_toInt_le, h2, nI_toInt h1] at c1
        omega
      · rw [Int32.le_iff_toInt_le, h2, nI_toInt h1] at c2
        omega
    · rw [kx_ne_b c1 c2 (Int32.lt_iff_toInt_lt.mpr hm)]
      exact ⟨k, by omega, Nat.le_refl k, hk⟩
  · rw [kx_ne_a c1 (Int32.lt_iff_toInt_lt.mpr hm)]
    exact ⟨1, Nat.le_refl 1, by omega, rfl⟩
