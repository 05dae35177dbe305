/-! calls whose end is a world written out -/
def kx_cvr (a b : List Nat) : Nat → Bool
  | 0 => true
  | n + 1 => (a.contains n || b.contains n) && kx_cvr a b n
theorem kx_cvr_of {a b : List Nat} : ∀ {n : Nat}, kx_cvr a b n = true → ∀ k, k < n → k ∈ a ∨ k ∈ b
  | 0, _, k, hk => absurd hk (Nat.not_lt_zero k)
  | n + 1, h, k, hk => by
    simp only [kx_cvr, Bool.and_eq_true, Bool.or_eq_true, List.contains_iff_mem] at h
    rcases Nat.lt_succ_iff_lt_or_eq.mp hk with h1 | h1
    · exact kx_cvr_of h.2 k h1
    · subst h1; exact h.1
theorem kx_get2 {isC isR : List Nat} {ws w1 w2 wr : va_W} (h1 : isC.map (fun i => w2[i]?) = w1.map some) (h2 : isR.map (fun i => w2[i]?) = wr.map some) (h2' : isR.map (fun i => ws[i]?) = wr.map some) (h3 : kx_cvr isC isR w2.length = true) : ∀ (k : Nat) (q : Nat × va_E), w2[k]? = some q → (∃ j : Nat, isC[j]? = some k ∧ w1[j]? = some q) ∨ (k ∉ isC ∧ ws[k]? = some q) := by
  intro k q hq
  have hk : k < w2.length := (List.getElem?_eq_some_iff.mp hq).1
  by_cases hc : k ∈ isC
  · obtain ⟨j, hj⟩ := List.mem_iff_getElem?.mp hc
    refine Or.inl ⟨j, hj, ?_⟩
    have h4 : (isC.map (fun i => w2[i]?))[j]? = some (w2[k]?) := by rw [List.getElem?_map, hj]; rfl
    rw [h1, List.getElem?_map, hq] at h4
    cases h5 : w1[j]? with
    | none => rw [h5] at h4; cases h4
    | some x => rw [h5] at h4; exact Option.some.inj h4
  · refine Or.inr ⟨hc, ?_⟩
    have hr := (kx_cvr_of h3 k hk).resolve_left hc
    have := List.map_inj_left.mp (h2.trans h2'.symm) k hr
    rw [← this]; exact hq
theorem kx_backG {D : va_G} {cl : List vw_C} {A0 : Nat → Prop} {ws wc w1 w2 : va_W} {H H1 : Heap} (hP : va_P D cl ws H) (hD : va_D A0 ws) (isC : List Nat) (hC : isC.map (fun i => ws[i]?) = wc.map some) (get : ∀ (k : Nat) (q : Nat × va_E), w2[k]? = some q → (∃ j : Nat, isC[j]? = some k ∧ w1[j]? = some q) ∨ (k ∉ isC ∧ ws[k]? = some q))
    (hk : ∀ q : Nat, q < H.size → ¬ va_A wc H.size q → H1[q]? = H[q]?) (hF : ∀ q, va_A wc H.size q → A0 q) (hP1 : va_P D cl w1 H1) (hD1 : va_D (va_A wc H.size) w1) : va_P D cl w2 H1 ∧ va_D A0 w2 := by
  have at' : ∀ (k : Nat) (q : Nat × va_E), wc[k]? = some q → ∃ i, isC[k]? = some i ∧ ws[i]? = some q := by
    intro k q hq
    have h1 : (isC.map (fun i => ws[i]?))[k]? = some (some q) := by rw [hC, List.getElem?_map, hq]; rfl
    rw [List.getElem?_map] at h1
    cases hi : isC[k]? with
    | none => rw [hi] at h1; cases h1
    | some i => rw [hi] at h1; exact ⟨i, rfl, Option.some.inj h1⟩
  have apart : ∀ (k : Nat) (q : Nat × va_E), k ∉ isC → ws[k]? = some q → q.1 < H.size ∧ ¬ va_A wc H.size q.1 := by
    intro k q hk h2
    have hlt := (hP k q h2).lt
    refine ⟨hlt, fun h => ?_⟩
    rcases h with ⟨k2, e, h⟩ | h
    · obtain ⟨j, h3, h4⟩ := at' k2 (q.1, e) h
      have hij := hD.1 k j q (q.1, e) h2 h4 rfl
      subst hij
      exact hk (List.mem_of_getElem? h3)
    · omega
  refine ⟨fun k q hq => ?_, fun i j x y hx hy hxy => ?_, fun k q hq => ?_⟩
  · rcases get k q hq with ⟨j, -, h2⟩ | ⟨h1, h2⟩
    · exact hP1 j q h2
    · obtain ⟨g1, g2⟩ := apart k q h1 h2
      exact (hP k q h2).kept (hk q.1 g1 g2)
  · rcases get i x hx with ⟨a, a1, a2⟩ | ⟨a1, a2⟩ <;> rcases get j y hy with ⟨b, b1, b2⟩ | ⟨b1, b2⟩
    · have hab := hD1.1 a b x y a2 b2 hxy
      subst hab
      exact Option.some.inj (a1.symm.trans b1)
    · exact absurd (hD1.2 a x a2) (by rw [hxy]; exact (apart j y b1 b2).2)
    · exact absurd (hD1.2 b y b2) (by rw [← hxy]; exact (apart i x a1 a2).2)
    · exact hD.1 i j x y a2 b2 hxy
  · rcases get k q hq with ⟨j, -, h2⟩ | ⟨-, h2⟩
    · exact hF q.1 (hD1.2 j q h2)
    · exact hD.2 k q h2
section
variable {p : Program} {l : Launch} {e : Env} {R : Room} {s : State} {m : MethodId} {args : Array Value} {below : List Frame} {meth : Method} {c : Code} {H : Heap} {locs : List Loc} {cells slots : Nat} {Q : State → Prop}
variable {cc : ByteArray} {pc : Nat} {ls : Array Slot} {rest st0 : List Value} {G : kx_G} {ws wc : va_W} {A0 : Nat → Prop} {H0 : Heap} {a : Array Value} {mc ms : Nat} {free : Addr → Prop} {PX : String → Prop}
theorem kw_mi {S : Type} {post : Int32 → S → Prop} {w1 : S → va_W} (w2 : S → va_W) (hr : va_Run p l e R s m args below meth c H locs cells slots mc ms (F0 m pc ls st0) rest (va_Qi post (kx_B G (va_A wc H.size) w1) (va_A wc H.size) a) (va_A wc H.size)) (hP : va_P G.1 vwCl ws H) (hD : va_D A0 ws) (hS : va_S A0 H0 H locs) (hA : ∀ q, H0.size ≤ q → A0 q) (isC isR : List Nat) (hC : isC.map (fun i => ws[i]?) = wc.map some) (h1 : ∀ u, isC.map (fun i => (w2 u)[i]?) = (w1 u).map some) (wr : va_W) (h2 : ∀ u, isR.map (fun i => (w2 u)[i]?) = wr.map some) (h2' : isR.map (fun i => ws[i]?) = wr.map some) (h3 : ∀ u, kx_cvr isC isR (w2 u).length = true)
    (kk : ∀ (r : Int32) (u : S) (H1 : Heap) (locs1 : List Loc), post r u → va_P G.1 vwCl (w2 u) H1 → va_D A0 (w2 u) → va_S A0 H0 H1 locs1 → W p l e R s m args below meth c H1 locs1 (cells + mc) (slots + ms) Q (F0 m (pc + 3) ls (.int r :: rest))) : W p l e R s m args below meth c H locs cells slots Q (F0 m pc ls st0) := by
  have hF := va_free hD hS hA isC hC
  refine va_calli hr hS (fun q _ h => hF q h) hF (fun r u t H1 locs1 ht hvm hw hB hz hk hS1 => ?_)
  obtain ⟨g1, g2⟩ := hB
  rw [ht] at g1
  obtain ⟨hP1, hD1⟩ := kx_backG hP hD isC hC (kx_get2 (h1 u) (h2 u) h2' (h3 u)) hk hF g1 g2
  exact kk r u H1 locs1 hw hP1 hD1 hS1
theorem kx_zmi {S : Type} {post : Int32 → S → Prop} {w1 : S → va_W} (w2 : S → va_W) (hr : vx_Run p l e R s m args below meth c H locs cells slots mc ms (F0 m pc ls st0) rest (va_Qi post (kx_B G (va_A wc H.size) w1) (va_A wc H.size) a) (vx_X (fun _ : Unit => True) (fun E _ _ => PX E) kx_F) (va_A wc H.size)) (hP : va_P G.1 vwCl ws H) (hD : va_D A0 ws) (hS : va_S A0 H0 H locs) (hA : ∀ q, H0.size ≤ q → A0 q) (isC isR : List Nat) (hC : isC.map (fun i => ws[i]?) = wc.map some) (h1 : ∀ u, isC.map (fun i => (w2 u)[i]?) = (w1 u).map some) (wr : va_W) (h2 : ∀ u, isR.map (fun i => (w2 u)[i]?) = wr.map some) (h2' : isR.map (fun i => ws[i]?) = wr.map some) (h3 : ∀ u, kx_cvr isC isR (w2 u).length = true)
    (kx : ∀ (E : String) (ce : Cell) (q9 : Addr) (H1 : Heap) (locs1 : List Loc), PX E → va_P G.1 vwCl ws H1 → va_S A0 H0 H1 locs1 → H1[q9]? = some ce → ce.vm = .none → s.vm.findClass E = some ce.cls → vx_W p l e R s m args below meth c H1 locs1 (cells + mc) (slots + ms) Q (F0 m pc ls rest) q9)
    (kk : ∀ (r : Int32) (u : S) (H1 : Heap) (locs1 : List Loc), post r u → va_P G.1 vwCl (w2 u) H1 → va_D A0 (w2 u) → va_S A0 H0 H1 locs1 → W p l e R s m args below meth c H1 locs1 (cells + mc) (slots + ms) Q (F0 m (pc + 3) ls (.int r :: rest))) : W p l e R s m args below meth c H locs cells slots Q (F0 m pc ls st0) := by
  have hF := va_free hD hS hA isC hC
  refine vx_calli hr hS (fun q _ h => hF q h) hF (fun _ _ h => h.elim) (fun E ce q9 u t H1 locs1 _ _ _ hb _ hk hS1 h1 h2 h3 => kx E ce q9 H1 locs1 hb (kx_keep hP hk) hS1 h1 h2 h3) (fun r u t H1 locs1 ht hvm hw hB hz hk hS1 => ?_)
  obtain ⟨g1, g2⟩ := hB
  rw [ht] at g1
  obtain ⟨hP1, hD1⟩ := kx_backG hP hD isC hC (kx_get2 (h1 u) (h2 u) h2' (h3 u)) hk hF g1 g2
  exact kk r u H1 locs1 hw hP1 hD1 hS1
theorem kw_md {S : Type} {post : UInt64 → S → Prop} {w1 : S → va_W} (w2 : S → va_W) (hr : va_Run p l e R s m args below meth c H locs cells slots mc ms (F0 m pc ls st0) rest (va_Qd post (kx_B G (va_A wc H.size) w1) (va_A wc H.size) a) (va_A wc H.size)) (hP : va_P G.1 vwCl ws H) (hD : va_D A0 ws) (hS : va_S A0 H0 H locs) (hA : ∀ q, H0.size ≤ q → A0 q) (isC isR : List Nat) (hC : isC.map (fun i => ws[i]?) = wc.map some) (h1 : ∀ u, isC.map (fun i => (w2 u)[i]?) = (w1 u).map some) (wr : va_W) (h2 : ∀ u, isR.map (fun i => (w2 u)[i]?) = wr.map some) (h2' : isR.map (fun i => ws[i]?) = wr.map some) (h3 : ∀ u, kx_cvr isC isR (w2 u).length = true)
    (kk : ∀ (r : UInt64) (u : S) (H1 : Heap) (locs1 : List Loc), post r u → va_P G.1 vwCl (w2 u) H1 → va_D A0 (w2 u) → va_S A0 H0 H1 locs1 → W p l e R s m args below meth c H1 locs1 (cells + mc) (slots + ms) Q (F0 m (pc + 3) ls (.double r :: rest))) : W p l e R s m args below meth c H locs cells slots Q (F0 m pc ls st0) := by
  have hF := va_free hD hS hA isC hC
  refine va_calld hr hS (fun q _ h => hF q h) hF (fun r u t H1 locs1 ht hvm hw hB hz hk hS1 => ?_)
  obtain ⟨g1, g2⟩ := hB
  rw [ht] at g1
  obtain ⟨hP1, hD1⟩ := kx_backG hP hD isC hC (kx_get2 (h1 u) (h2 u) h2' (h3 u)) hk hF g1 g2
  exact kk r u H1 locs1 hw hP1 hD1 hS1
theorem kw_ml {S : Type} {post : Int64 → S → Prop} {w1 : S → va_W} (w2 : S → va_W) (hr : va_Run p l e R s m args below meth c H locs cells slots mc ms (F0 m pc ls st0) rest (va_Ql post (kx_B G (va_A wc H.size) w1) (va_A wc H.size) a) (va_A wc H.size)) (hP : va_P G.1 vwCl ws H) (hD : va_D A0 ws) (hS : va_S A0 H0 H locs) (hA : ∀ q, H0.size ≤ q → A0 q) (isC isR : List Nat) (hC : isC.map (fun i => ws[i]?) = wc.map some) (h1 : ∀ u, isC.map (fun i => (w2 u)[i]?) = (w1 u).map some) (wr : va_W) (h2 : ∀ u, isR.map (fun i => (w2 u)[i]?) = wr.map some) (h2' : isR.map (fun i => ws[i]?) = wr.map some) (h3 : ∀ u, kx_cvr isC isR (w2 u).length = true)
    (kk : ∀ (r : Int64) (u : S) (H1 : Heap) (locs1 : List Loc), post r u → va_P G.1 vwCl (w2 u) H1 → va_D A0 (w2 u) → va_S A0 H0 H1 locs1 → W p l e R s m args below meth c H1 locs1 (cells + mc) (slots + ms) Q (F0 m (pc + 3) ls (.long r :: rest))) : W p l e R s m args below meth c H locs cells slots Q (F0 m pc ls st0) := by
  have hF := va_free hD hS hA isC hC
  refine va_calll hr hS (fun q _ h => hF q h) hF (fun r u t H1 locs1 ht hvm hw hB hz hk hS1 => ?_)
  obtain ⟨g1, g2⟩ := hB
  rw [ht] at g1
  obtain ⟨hP1, hD1⟩ := kx_backG hP hD isC hC (kx_get2 (h1 u) (h2 u) h2' (h3 u)) hk hF g1 g2
  exact kk r u H1 locs1 hw hP1 hD1 hS1
theorem kw_mv {S : Type} {post : S → Prop} {w1 : S → va_W} (w2 : S → va_W) (hr : va_Run p l e R s m args below meth c H locs cells slots mc ms (F0 m pc ls st0) rest (va_Qv post (kx_B G (va_A wc H.size) w1) (va_A wc H.size) a) (va_A wc H.size)) (hP : va_P G.1 vwCl ws H) (hD : va_D A0 ws) (hS : va_S A0 H0 H locs) (hA : ∀ q, H0.size ≤ q → A0 q) (isC isR : List Nat) (hC : isC.map (fun i => ws[i]?) = wc.map some) (h1 : ∀ u, isC.map (fun i => (w2 u)[i]?) = (w1 u).map some) (wr : va_W) (h2 : ∀ u, isR.map (fun i => (w2 u)[i]?) = wr.map some) (h2' : isR.map (fun i => ws[i]?) = wr.map some) (h3 : ∀ u, kx_cvr isC isR (w2 u).length = true)
    (kk : ∀ (u : S) (H1 : Heap) (locs1 : List Loc), post u → va_P G.1 vwCl (w2 u) H1 → va_D A0 (w2 u) → va_S A0 H0 H1 locs1 → W p l e R s m args below meth c H1 locs1 (cells + mc) (slots + ms) Q (F0 m (pc + 3) ls (rest))) : W p l e R s m args below meth c H locs cells slots Q (F0 m pc ls st0) := by
  have hF := va_free hD hS hA isC hC
  refine va_callv hr hS (fun q _ h => hF q h) hF (fun u t H1 locs1 ht hvm hw hB hz hk hS1 => ?_)
  obtain ⟨g1, g2⟩ := hB
  rw [ht] at g1
  obtain ⟨hP1, hD1⟩ := kx_backG hP hD isC hC (kx_get2 (h1 u) (h2 u) h2' (h3 u)) hk hF g1 g2
  exact kk u H1 locs1 hw hP1 hD1 hS1
theorem kx_zmv {S : Type} {post : S → Prop} {w1 : S → va_W} (w2 : S → va_W) (hr : vx_Run p l e R s m args below meth c H locs cells slots mc ms (F0 m pc ls st0) rest (va_Qv post (kx_B G (va_A wc H.size) w1) (va_A wc H.size) a) (vx_X (fun _ : Unit => True) (fun E _ _ => PX E) kx_F) (va_A wc H.size)) (hP : va_P G.1 vwCl ws H) (hD : va_D A0 ws) (hS : va_S A0 H0 H locs) (hA : ∀ q, H0.size ≤ q → A0 q) (isC isR : List Nat) (hC : isC.map (fun i => ws[i]?) = wc.map some) (h1 : ∀ u, isC.map (fun i => (w2 u)[i]?) = (w1 u).map some) (wr : va_W) (h2 : ∀ u, isR.map (fun i => (w2 u)[i]?) = wr.map some) (h2' : isR.map (fun i => ws[i]?) = wr.map some) (h3 : ∀ u, kx_cvr isC isR (w2 u).length = true)
    (kx : ∀ (E : String) (ce : Cell) (q9 : Addr) (H1 : Heap) (locs1 : List Loc), PX E → va_P G.1 vwCl ws H1 → va_S A0 H0 H1 locs1 → H1[q9]? = some ce → ce.vm = .none → s.vm.findClass E = some ce.cls → vx_W p l e R s m args below meth c H1 locs1 (cells + mc) (slots + ms) Q (F0 m pc ls rest) q9)
    (kk : ∀ (u : S) (H1 : Heap) (locs1 : List Loc), post u → va_P G.1 vwCl (w2 u) H1 → va_D A0 (w2 u) → va_S A0 H0 H1 locs1 → W p l e R s m args below meth c H1 locs1 (cells + mc) (slots + ms) Q (F0 m (pc + 3) ls (rest))) : W p l e R s m args below meth c H locs cells slots Q (F0 m pc ls st0) := by
  have hF := va_free hD hS hA isC hC
  refine vx_callv hr hS (fun q _ h => hF q h) hF (fun _ _ h => h.elim) (fun E ce q9 u t H1 locs1 _ _ _ hb _ hk hS1 h1 h2 h3 => kx E ce q9 H1 locs1 hb (kx_keep hP hk) hS1 h1 h2 h3) (fun u t H1 locs1 ht hvm hw hB hz hk hS1 => ?_)
  obtain ⟨g1, g2⟩ := hB
  rw [ht] at g1
  obtain ⟨hP1, hD1⟩ := kx_backG hP hD isC hC (kx_get2 (h1 u) (h2 u) h2' (h3 u)) hk hF g1 g2
  exact kk u H1 locs1 hw hP1 hD1 hS1
end
