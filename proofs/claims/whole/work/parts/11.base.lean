/-! what every contract of this claim speaks of: the tables' facts, worlds, calls -/
abbrev kx_G : Type := va_G × ClassId × ClassId × ClassId × ClassId
abbrev kx_ty (G : kx_G) : List (ClassId × FieldType) := [(G.2.1, .int), (G.2.2.1, .double), (G.2.2.2.1, .boolean), (G.2.2.2.2, .long)]
abbrev kx_aI (G : kx_G) (n : Nat) (f : Nat → Int32) : va_E := .inl (G.2.1, n, .inl f)
abbrev kx_aD (G : kx_G) (n : Nat) (f : Nat → UInt64) : va_E := .inl (G.2.2.1, n, .inr (.inr (.inr (.inl f))))
abbrev kx_aZ (G : kx_G) (n : Nat) (f : Nat → Int32) : va_E := .inl (G.2.2.2.1, n, .inl f)
abbrev kx_aJ (G : kx_G) (n : Nat) (f : Nat → Int64) : va_E := .inl (G.2.2.2.2, n, .inr (.inl f))
/-- the words of nest mates -/
def kx_nw : List Cond := [.fieldLinkNest RX4 113 "StemShapes$Stem" "x" "[D" "StemShapes", .fieldLinkNest RX4 117 "StemShapes$Stem" "y" "[D" "StemShapes", .fieldLinkNest RX4 120 "StemShapes$Stem" "radius" "[D" "StemShapes", .fieldLinkNest RX4 123 "StemShapes$Stem" "residual" "[D" "StemShapes", .fieldLinkNest RX4 203 "StemShapes$Kept" "isThere" "Z" "StemShapes", .fieldLinkNest RX4 91 "StemShapes$Stem" "isFitted" "[Z" "StemShapes", .fieldLinkNest RX4 99 "StemShapes$Stem" "mended" "I" "StemShapes", .fieldLinkNest RX0 18 "StemShapes$Stem" "x" "[D" "StemShapes", .fieldLinkNest RX0 21 "StemShapes$Stem" "y" "[D" "StemShapes", .fieldLinkNest RX1 45 "StemShapes$Stem" "mended" "I" "StemShapes", .fieldLinkNest RX2 53 "StemShapes$Stem" "radius" "[D" "StemShapes", .fieldLinkNest RX2 62 "StemShapes$Stem" "residual" "[D" "StemShapes", .fieldLinkNest RX2 65 "StemShapes$Stem" "x" "[D" "StemShapes", .fieldLinkNest RX2 68 "StemShapes$Stem" "y" "[D" "StemShapes", .methodLinkNest RX4 47 yX1_init "StemShapes", .methodLinkNest RX2 33 yX4_root "StemShapes"]
def kx_isN : Cond → Bool
  | .fieldLinkNest .. => true
  | .methodLinkNest .. => true
  | _ => false
theorem kx_nw_ok : kx_nw.all kx_isN = true := by decide
def kx_T (G : kx_G) (U : State) : Prop := va_K G.1 vwCl (kx_ty G) U ∧ ∀ w ∈ kx_nw, va_Nw w U
theorem kx_T.warm {G : kx_G} {s U : State} (hW : s.WarmedH U.vm) (h : kx_T G s) : kx_T G U := by
  refine ⟨va_K.moved hW.alike h.1, fun w hw => ?_⟩
  have h1 := List.all_eq_true.mp kx_nw_ok w hw
  have h2 := h.2 w hw
  clear hw
  cases w <;> first | exact va_Nw.warmF hW h2 | exact va_Nw.warmM hW h2 | cases h1
theorem kx_T.same {G : kx_G} {u U : State} (hv : u.vm = U.vm) (h : kx_T G u) : kx_T G U := by
  refine ⟨va_K.moved (by rw [hv]; exact Vm.Alike.refl _) h.1, fun w hw => ?_⟩
  have h1 := List.all_eq_true.mp kx_nw_ok w hw
  have h2 := h.2 w hw
  clear hw
  cases w <;> first | exact va_Nw.same rfl hv h2 | cases h1
theorem kx_T.nest {G : kx_G} {s : State} {args : Array Value} (h : kx_T G s) (w : Cond) (hw : w ∈ kx_nw) : w.before args s = true := by
  have h1 := List.all_eq_true.mp kx_nw_ok w hw
  have h2 := h.2 w hw
  clear hw
  cases w <;> first | exact va_Nw.use rfl h2 | cases h1
/-- a start of a method that only reads -/
def kx_PR (G : kx_G) (av : List Value) (ws : va_W) : Array Value → State → Prop := va_Pc av (fun U => va_P G.1 vwCl ws U.heap ∧ kx_T G U)
theorem kx_PRb {G : kx_G} {av : List Value} {ws : va_W} : FrameBlind (kx_PR G av ws) := fun a U g mk q => ⟨q.1, q.2.1, kx_T.same (u := U) (U := U.calling g mk a) rfl q.2.2⟩
/-- a start of a method that writes -/
def kx_PM (G : kx_G) (av : List Value) (sz : Nat) (ws : va_W) : Array Value → State → Prop := va_Pc av (fun U => U.heap.size = sz ∧ va_P G.1 vwCl ws U.heap ∧ kx_T G U ∧ va_D (fun _ => True) ws)
theorem kx_PMb {G : kx_G} {av : List Value} {sz : Nat} {ws : va_W} : FrameBlind (kx_PM G av sz ws) := fun a U g mk q => ⟨q.1, q.2.1, q.2.2.1, kx_T.same (u := U) (U := U.calling g mk a) rfl q.2.2.2.1, q.2.2.2.2⟩
def kx_B (G : kx_G) (A : Nat → Prop) {S : Type} (w : S → va_W) : S → State → Prop := fun u t => va_P G.1 vwCl (w u) t.heap ∧ va_D A (w u)
theorem kx_pr {G : kx_G} {s : State} {H : Heap} {ws wc : va_W} {av : List Value} (hT : kx_T G s) (hP : va_P G.1 vwCl ws H) (is : List Nat) (h : is.filterMap (fun i => ws[i]?) = wc) : ∀ U : State, U.heap = H → s.WarmedH U.vm → kx_PR G av wc av.toArray U := fun U hU hW => ⟨rfl, by rw [hU]; exact hP.sub is h, hT.warm hW⟩
theorem kx_pm {G : kx_G} {s : State} {H : Heap} {ws wc : va_W} {av : List Value} {A : Nat → Prop} (hT : kx_T G s) (hP : va_P G.1 vwCl ws H) (hD : va_D A ws) (is : List Nat) (h : is.filterMap (fun i => ws[i]?) = wc) (hn : va_nd is = true) (h2 : is.map (fun i => ws[i]?) = wc.map some) : ∀ U : State, U.heap = H → s.WarmedH U.vm → kx_PM G av H.size wc av.toArray U := fun U hU hW => ⟨rfl, by rw [hU], by rw [hU]; exact hP.sub is h, hT.warm hW, (hD.sub is hn h2).weaken (fun _ _ _ _ => trivial)⟩
/-- some cells of a world put anew -/
def kx_rp : List Nat → va_W → va_W → va_W
  | [], _, ws => ws
  | i :: is, w1, ws => match w1 with
    | [] => ws
    | w :: w1 => kx_rp is w1 (ws.set i w)
abbrev kx_rep (ws : va_W) (is : List Nat) (w1 : va_W) : va_W := kx_rp is w1 ws
theorem kx_rep_get : ∀ (is : List Nat) (w1 ws : va_W), is.length = w1.length → va_nd is = true → ∀ (k : Nat) (q : Nat × va_E), (kx_rep ws is w1)[k]? = some q → (∃ j : Nat, is[j]? = some k ∧ w1[j]? = some q) ∨ (k ∉ is ∧ ws[k]? = some q)
  | [], _, _, _, _, _, _, h => Or.inr ⟨List.not_mem_nil, h⟩
  | _ :: _, [], _, hl, _, _, _, _ => by cases hl
  | i :: is, w :: w1, ws, hl, hn, k, q, h => by
    simp only [va_nd, Bool.and_eq_true, decide_eq_true_eq] at hn
    rcases kx_rep_get is w1 (ws.set i w) (Nat.succ.inj hl) hn.2 k q h with ⟨j, h1, h2⟩ | ⟨h1, h2⟩
    · exact Or.inl ⟨j + 1, h1, h2⟩
    · by_cases hk : k = i
      · subst hk
        refine Or.inl ⟨0, rfl, ?_⟩
        rw [List.getElem?_set] at h2
        split at h2
        · split at h2
          · exact h2
          · cases h2
        · rename_i hne; exact absurd rfl hne
      · refine Or.inr ⟨fun hm => (List.mem_cons.mp hm).elim hk h1, ?_⟩
        rw [List.getElem?_set_ne (fun e => hk e.symm)] at h2
        exact h2
theorem kx_back {D : va_G} {cl : List vw_C} {A0 : Nat → Prop} {ws wc w1 : va_W} {H H1 : Heap} (hP : va_P D cl ws H) (hD : va_D A0 ws) (isC : List Nat) (hC : isC.map (fun i => ws[i]?) = wc.map some) (hn : va_nd isC = true) (hl : isC.length = w1.length)
    (hk : ∀ q : Nat, q < H.size → ¬ va_A wc H.size q → H1[q]? = H[q]?) (hF : ∀ q, va_A wc H.size q → A0 q) (hP1 : va_P D cl w1 H1) (hD1 : va_D (va_A wc H.size) w1) : va_P D cl (kx_rep ws isC w1) H1 ∧ va_D A0 (kx_rep ws isC w1) := by
  have at' : ∀ (k : Nat) (q : Nat × va_E), wc[k]? = some q → ∃ i, isC[k]? = some i ∧ ws[i]? = some q := by
    intro k q hq
    have h1 : (isC.map (fun i => ws[i]?))[k]? = some (some q) := by rw [hC, List.getElem?_map, hq]; rfl
    rw [List.getElem?_map] at h1
    cases hi : isC[k]? with
    | none => rw [hi] at h1; cases h1
    | some i => rw [hi] at h1; exact ⟨i, rfl, Option.some.inj h1⟩
  have apart : ∀ (k : Nat) (q : Nat × va_E), k ∉ isC → ws[k]? = some q → q.1 < H.size ∧ ¬ va_A wc H.size q.1 := by
    intro k q hk h2
    have hlt := (hP k q h2).lt
    refine ⟨hlt, fun h => ?_⟩
    rcases h with ⟨k2, e, h⟩ | h
    · obtain ⟨j, h3, h4⟩ := at' k2 (q.1, e) h
      have hij := hD.1 k j q (q.1, e) h2 h4 rfl
      subst hij
      exact hk (List.mem_of_getElem? h3)
    · omega
  have get := kx_rep_get isC w1 ws hl hn
  refine ⟨fun k q hq => ?_, fun i j x y hx hy hxy => ?_, fun k q hq => ?_⟩
  · rcases get k q hq with ⟨j, -, h2⟩ | ⟨h1, h2⟩
    · exact hP1 j q h2
    · obtain ⟨g1, g2⟩ := apart k q h1 h2
      exact (hP k q h2).kept (hk q.1 g1 g2)
  · rcases get i x hx with ⟨a, a1, a2⟩ | ⟨a1, a2⟩ <;> rcases get j y hy with ⟨b, b1, b2⟩ | ⟨b1, b2⟩
    · have hab := hD1.1 a b x y a2 b2 hxy
      subst hab
      exact Option.some.inj (a1.symm.trans b1)
    · exact absurd (hD1.2 a x a2) (by rw [hxy]; exact (apart j y b1 b2).2)
    · exact absurd (hD1.2 b y b2) (by rw [← hxy]; exact (apart i x a1 a2).2)
    · exact hD.1 i j x y a2 b2 hxy
  · rcases get k q hq with ⟨j, -, h2⟩ | ⟨-, h2⟩
    · exact hF q.1 (hD1.2 j q h2)
    · exact hD.2 k q h2
section KX
variable {p : Program} {l : Launch} {e : Env} {R : Room} {s : State} {m : MethodId} {args : Array Value} {below : List Frame} {meth : Method} {c : Code} {H : Heap} {locs : List Loc} {cells slots : Nat} {Q : State → Prop}
variable {cc : ByteArray} {pc : Nat} {ls : Array Slot} {rest st0 : List Value} {G : kx_G} {ws wc : va_W} {A0 : Nat → Prop} {H0 : Heap} {a : Array Value} {mc ms : Nat}
theorem kx_ei {x y : Int32} (h : x = y) (k : W p l e R s m args below meth c H locs cells slots Q (F0 m pc ls (.int y :: rest))) : W p l e R s m args below meth c H locs cells slots Q (F0 m pc ls (.int x :: rest)) := by
  rw [h]
  exact k
theorem kx_ed {x y : UInt64} (h : x = y) (k : W p l e R s m args below meth c H locs cells slots Q (F0 m pc ls (.double y :: rest))) : W p l e R s m args below meth c H locs cells slots Q (F0 m pc ls (.double x :: rest)) := by
  rw [h]
  exact k
theorem kx_el {x y : Int64} (h : x = y) (k : W p l e R s m args below meth c H locs cells slots Q (F0 m pc ls (.long y :: rest))) : W p l e R s m args below meth c H locs cells slots Q (F0 m pc ls (.long x :: rest)) := by
  rw [h]
  exact k
theorem kx_dald (hx : p.tables.exec = Jvm.exec) (hb : c.code = cc) (hT : kx_T G s) (hP : va_P G.1 vwCl ws H) (q0 : Nat) {b n : Nat} {f : Nat → UInt64} (ha : ws[q0]? = some (b, kx_aD G n f)) (j : Nat) (hj : j < n) (hn : n < 2 ^ 31) (hdg : decode cc pc = .ok (.daload, 1))
    (kk : W p l e R s m args below meth c H locs cells slots Q (F0 m (pc + 1) ls (.double (f j) :: rest))) : W p l e R s m args below meth c H locs cells slots Q (F0 m pc ls (.int (nI j) :: .ref b :: rest)) :=
  va_dald hx hb hT.1 hP q0 1 ha rfl (vp_in_nI hj hn) hdg (by rw [nI_clamp (Nat.lt_trans hj hn)]; exact kk)
theorem kx_iald (hx : p.tables.exec = Jvm.exec) (hb : c.code = cc) (hT : kx_T G s) (hP : va_P G.1 vwCl ws H) (q0 : Nat) {b n : Nat} {f : Nat → Int32} (ha : ws[q0]? = some (b, kx_aI G n f)) (j : Nat) (hj : j < n) (hn : n < 2 ^ 31) (hdg : decode cc pc = .ok (.iaload, 1))
    (kk : W p l e R s m args below meth c H locs cells slots Q (F0 m (pc + 1) ls (.int (f j) :: rest))) : W p l e R s m args below meth c H locs cells slots Q (F0 m pc ls (.int (nI j) :: .ref b :: rest)) :=
  va_iald hx hb hT.1 hP q0 0 ha rfl (vp_in_nI hj hn) hdg (by rw [nI_clamp (Nat.lt_trans hj hn)]; exact kk)
theorem kx_zald (hx : p.tables.exec = Jvm.exec) (hb : c.code = cc) (hT : kx_T G s) (hP : va_P G.1 vwCl ws H) (q0 : Nat) {b n : Nat} {f : Nat → Int32} (ha : ws[q0]? = some (b, kx_aZ G n f)) (j : Nat) (hj : j < n) (hn : n < 2 ^ 31) (hdg : decode cc pc = .ok (.baload, 1))
    (kk : W p l e R s m args below meth c H locs cells slots Q (F0 m (pc + 1) ls (.int (f j) :: rest))) : W p l e R s m args below meth c H locs cells slots Q (F0 m pc ls (.int (nI j) :: .ref b :: rest)) :=
  va_zald hx hb hT.1 hP q0 2 ha rfl (vp_in_nI hj hn) hdg (by rw [nI_clamp (Nat.lt_trans hj hn)]; exact kk)
theorem kx_dast (hx : p.tables.exec = Jvm.exec) (hb : c.code = cc) (hT : kx_T G s) (hP : va_P G.1 vwCl ws H) (hD : va_D A0 ws) (hS : va_S A0 H0 H locs) (q0 : Nat) {b n : Nat} {f : Nat → UInt64} (ha : ws[q0]? = some (b, kx_aD G n f)) (j : Nat) {x : UInt64} (hj : j < n) (hn : n < 2 ^ 31) (hdg : decode cc pc = .ok (.dastore, 1))
    (kk : ∀ (H1 : Heap) (locs1 : List Loc), va_P G.1 vwCl (ws.set q0 (b, kx_aD G n (vf_upd f j x))) H1 → va_D A0 (ws.set q0 (b, kx_aD G n (vf_upd f j x))) → va_S A0 H0 H1 locs1 → W p l e R s m args below meth c H1 locs1 cells slots Q (F0 m (pc + 1) ls rest)) : W p l e R s m args below meth c H locs cells slots Q (F0 m pc ls (.double x :: .int (nI j) :: .ref b :: rest)) :=
  va_dast hx hb hT.1 hP hD hS q0 1 ha rfl (vp_in_nI hj hn) hdg (by rw [nI_clamp (Nat.lt_trans hj hn)]; exact kk)
theorem kx_iast (hx : p.tables.exec = Jvm.exec) (hb : c.code = cc) (hT : kx_T G s) (hP : va_P G.1 vwCl ws H) (hD : va_D A0 ws) (hS : va_S A0 H0 H locs) (q0 : Nat) {b n : Nat} {f : Nat → Int32} (ha : ws[q0]? = some (b, kx_aI G n f)) (j : Nat) {x : Int32} (hj : j < n) (hn : n < 2 ^ 31) (hdg : decode cc pc = .ok (.iastore, 1))
    (kk : ∀ (H1 : Heap) (locs1 : List Loc), va_P G.1 vwCl (ws.set q0 (b, kx_aI G n (upd f j x))) H1 → va_D A0 (ws.set q0 (b, kx_aI G n (upd f j x))) → va_S A0 H0 H1 locs1 → W p l e R s m args below meth c H1 locs1 cells slots Q (F0 m (pc + 1) ls rest)) : W p l e R s m args below meth c H locs cells slots Q (F0 m pc ls (.int x :: .int (nI j) :: .ref b :: rest)) :=
  va_iast hx hb hT.1 hP hD hS q0 0 ha rfl (vp_in_nI hj hn) hdg (by rw [nI_clamp (Nat.lt_trans hj hn)]; exact kk)
theorem kx_zast (hx : p.tables.exec = Jvm.exec) (hb : c.code = cc) (hT : kx_T G s) (hP : va_P G.1 vwCl ws H) (hD : va_D A0 ws) (hS : va_S A0 H0 H locs) (q0 : Nat) {b n : Nat} {f : Nat → Int32} (ha : ws[q0]? = some (b, kx_aZ G n f)) (j : Nat) {x : Int32} (hz : vp_nar .boolean x = x) (hj : j < n) (hn : n < 2 ^ 31) (hdg : decode cc pc = .ok (.bastore, 1))
    (kk : ∀ (H1 : Heap) (locs1 : List Loc), va_P G.1 vwCl (ws.set q0 (b, kx_aZ G n (upd f j x))) H1 → va_D A0 (ws.set q0 (b, kx_aZ G n (upd f j x))) → va_S A0 H0 H1 locs1 → W p l e R s m args below meth c H1 locs1 cells slots Q (F0 m (pc + 1) ls rest)) : W p l e R s m args below meth c H locs cells slots Q (F0 m pc ls (.int x :: .int (nI j) :: .ref b :: rest)) :=
  va_zast hx hb hT.1 hP hD hS q0 2 ha rfl (vp_in_nI hj hn) hdg (by rw [nI_clamp (Nat.lt_trans hj hn), hz]; exact kk)
theorem kx_newD (hx : p.tables.exec = Jvm.exec) (hb : c.code = cc) (harr : (Cond.arrayClass .double).before args s = true) (hT : kx_T G s) (hP : va_P G.1 vwCl ws H) (hD : va_D A0 ws) (hS : va_S A0 H0 H locs) (hA : ∀ q, H0.size ≤ q → A0 q) (N : Nat) (hN : N < 65536) (hcells : cells + 1 ≤ R.cells) (hslots : slots + N ≤ R.slots) (hdg : decode cc pc = .ok (.newarray .double, 2))
    (kk : ∀ (q : Nat) (H1 : Heap), va_P G.1 vwCl (ws ++ [(q, kx_aD G N (fun _ => 0))]) H1 → va_D A0 (ws ++ [(q, kx_aD G N (fun _ => 0))]) → va_S A0 H0 H1 locs → W p l e R s m args below meth c H1 locs (cells + 1) (slots + N) Q (F0 m (pc + 2) ls (.ref q :: rest))) : W p l e R s m args below meth c H locs cells slots Q (F0 m pc ls (.int (nI N) :: rest)) := by
  refine va_newa (atype := .double) (ty := .double) (a0 := (N, .inr (.inr (.inr (.inl (fun _ => 0)))))) hx hb harr rfl hT.1 hP hD hS hA (fun _ => rfl) (nI_pos (by omega)) (nI_clamp (by omega)) (by show N * 8 ≤ _; omega) hcells hslots hdg (fun q cA H1 hK1 hP1 hD1 hS1 => ?_)
  have e1 := (hK1.2 4 _ rfl).2
  have e2 := (hT.1.2 1 _ rfl).2
  have e3 : cA = G.2.2.1 := Option.some.inj (e1.symm.trans e2)
  subst e3
  exact kk q H1 hP1 hD1 hS1
theorem kx_newI (hx : p.tables.exec = Jvm.exec) (hb : c.code = cc) (harr : (Cond.arrayClass .int).before args s = true) (hT : kx_T G s) (hP : va_P G.1 vwCl ws H) (hD : va_D A0 ws) (hS : va_S A0 H0 H locs) (hA : ∀ q, H0.size ≤ q → A0 q) (N : Nat) (hN : N < 65536) (hcells : cells + 1 ≤ R.cells) (hslots : slots + N ≤ R.slots) (hdg : decode cc pc = .ok (.newarray .int, 2))
    (kk : ∀ (q : Nat) (H1 : Heap), va_P G.1 vwCl (ws ++ [(q, kx_aI G N (fun _ => 0))]) H1 → va_D A0 (ws ++ [(q, kx_aI G N (fun _ => 0))]) → va_S A0 H0 H1 locs → W p l e R s m args below meth c H1 locs (cells + 1) (slots + N) Q (F0 m (pc + 2) ls (.ref q :: rest))) : W p l e R s m args below meth c H locs cells slots Q (F0 m pc ls (.int (nI N) :: rest)) := by
  refine va_newa (atype := .int) (ty := .int) (a0 := (N, .inl (fun _ => 0))) hx hb harr rfl hT.1 hP hD hS hA (fun _ => rfl) (nI_pos (by omega)) (nI_clamp (by omega)) (by show N * 4 ≤ _; omega) hcells hslots hdg (fun q cA H1 hK1 hP1 hD1 hS1 => ?_)
  have e1 := (hK1.2 4 _ rfl).2
  have e2 := (hT.1.2 0 _ rfl).2
  have e3 : cA = G.2.1 := Option.some.inj (e1.symm.trans e2)
  subst e3
  exact kk q H1 hP1 hD1 hS1
theorem kx_newZ (hx : p.tables.exec = Jvm.exec) (hb : c.code = cc) (harr : (Cond.arrayClass .boolean).before args s = true) (hT : kx_T G s) (hP : va_P G.1 vwCl ws H) (hD : va_D A0 ws) (hS : va_S A0 H0 H locs) (hA : ∀ q, H0.size ≤ q → A0 q) (N : Nat) (hN : N < 65536) (hcells : cells + 1 ≤ R.cells) (hslots : slots + N ≤ R.slots) (hdg : decode cc pc = .ok (.newarray .boolean, 2))
    (kk : ∀ (q : Nat) (H1 : Heap), va_P G.1 vwCl (ws ++ [(q, kx_aZ G N (fun _ => 0))]) H1 → va_D A0 (ws ++ [(q, kx_aZ G N (fun _ => 0))]) → va_S A0 H0 H1 locs → W p l e R s m args below meth c H1 locs (cells + 1) (slots + N) Q (F0 m (pc + 2) ls (.ref q :: rest))) : W p l e R s m args below meth c H locs cells slots Q (F0 m pc ls (.int (nI N) :: rest)) := by
  refine va_newa (atype := .boolean) (ty := .boolean) (a0 := (N, .inl (fun _ => 0))) hx hb harr rfl hT.1 hP hD hS hA (fun _ => rfl) (nI_pos (by omega)) (nI_clamp (by omega)) (by show N * 1 ≤ _; omega) hcells hslots hdg (fun q cA H1 hK1 hP1 hD1 hS1 => ?_)
  have e1 := (hK1.2 4 _ rfl).2
  have e2 := (hT.1.2 2 _ rfl).2
  have e3 : cA = G.2.2.2.1 := Option.some.inj (e1.symm.trans e2)
  subst e3
  exact kk q H1 hP1 hD1 hS1
theorem kx_newJ (hx : p.tables.exec = Jvm.exec) (hb : c.code = cc) (harr : (Cond.arrayClass .long).before args s = true) (hT : kx_T G s) (hP : va_P G.1 vwCl ws H) (hD : va_D A0 ws) (hS : va_S A0 H0 H locs) (hA : ∀ q, H0.size ≤ q → A0 q) (N : Nat) (hN : N < 65536) (hcells : cells + 1 ≤ R.cells) (hslots : slots + N ≤ R.slots) (hdg : decode cc pc = .ok (.newarray .long, 2))
    (kk : ∀ (q : Nat) (H1 : Heap), va_P G.1 vwCl (ws ++ [(q, kx_aJ G N (fun _ => 0))]) H1 → va_D A0 (ws ++ [(q, kx_aJ G N (fun _ => 0))]) → va_S A0 H0 H1 locs → W p l e R s m args below meth c H1 locs (cells + 1) (slots + N) Q (F0 m (pc + 2) ls (.ref q :: rest))) : W p l e R s m args below meth c H locs cells slots Q (F0 m pc ls (.int (nI N) :: rest)) := by
  refine va_newa (atype := .long) (ty := .long) (a0 := (N, .inr (.inl (fun _ => 0)))) hx hb harr rfl hT.1 hP hD hS hA (fun _ => rfl) (nI_pos (by omega)) (nI_clamp (by omega)) (by show N * 8 ≤ _; omega) hcells hslots hdg (fun q cA H1 hK1 hP1 hD1 hS1 => ?_)
  have e1 := (hK1.2 4 _ rfl).2
  have e2 := (hT.1.2 3 _ rfl).2
  have e3 : cA = G.2.2.2.2 := Option.some.inj (e1.symm.trans e2)
  subst e3
  exact kk q H1 hP1 hD1 hS1
theorem kx_mi {S : Type} {post : Int32 → S → Prop} {w1 : S → va_W} (hr : va_Run p l e R s m args below meth c H locs cells slots mc ms (F0 m pc ls st0) rest (va_Qi post (kx_B G (va_A wc H.size) w1) (va_A wc H.size) a) (va_A wc H.size)) (hP : va_P G.1 vwCl ws H) (hD : va_D A0 ws) (hS : va_S A0 H0 H locs) (hA : ∀ q, H0.size ≤ q → A0 q) (isC : List Nat) (hC : isC.map (fun i => ws[i]?) = wc.map some) (hn : va_nd isC = true) (hl : ∀ u, isC.length = (w1 u).length)
    (kk : ∀ (r : Int32) (u : S) (H1 : Heap) (locs1 : List Loc), post r u → va_P G.1 vwCl (kx_rep ws isC (w1 u)) H1 → va_D A0 (kx_rep ws isC (w1 u)) → va_S A0 H0 H1 locs1 → W p l e R s m args below meth c H1 locs1 (cells + mc) (slots + ms) Q (F0 m (pc + 3) ls (.int r :: rest))) : W p l e R s m args below meth c H locs cells slots Q (F0 m pc ls st0) := by
  have hF := va_free hD hS hA isC hC
  refine va_calli hr hS (fun q _ h => hF q h) hF (fun r u t H1 locs1 ht hvm hw hB hz hk hS1 => ?_)
  obtain ⟨g1, g2⟩ := hB
  rw [ht] at g1
  obtain ⟨b1, b2⟩ := kx_back hP hD isC hC hn (hl u) hk hF g1 g2
  exact kk r u H1 locs1 hw b1 b2 hS1
theorem kx_ml {S : Type} {post : Int64 → S → Prop} {w1 : S → va_W} (hr : va_Run p l e R s m args below meth c H locs cells slots mc ms (F0 m pc ls st0) rest (va_Ql post (kx_B G (va_A wc H.size) w1) (va_A wc H.size) a) (va_A wc H.size)) (hP : va_P G.1 vwCl ws H) (hD : va_D A0 ws) (hS : va_S A0 H0 H locs) (hA : ∀ q, H0.size ≤ q → A0 q) (isC : List Nat) (hC : isC.map (fun i => ws[i]?) = wc.map some) (hn : va_nd isC = true) (hl : ∀ u, isC.length = (w1 u).length)
    (kk : ∀ (r : Int64) (u : S) (H1 : Heap) (locs1 : List Loc), post r u → va_P G.1 vwCl (kx_rep ws isC (w1 u)) H1 → va_D A0 (kx_rep ws isC (w1 u)) → va_S A0 H0 H1 locs1 → W p l e R s m args below meth c H1 locs1 (cells + mc) (slots + ms) Q (F0 m (pc + 3) ls (.long r :: rest))) : W p l e R s m args below meth c H locs cells slots Q (F0 m pc ls st0) := by
  have hF := va_free hD hS hA isC hC
  refine va_calll hr hS (fun q _ h => hF q h) hF (fun r u t H1 locs1 ht hvm hw hB hz hk hS1 => ?_)
  obtain ⟨g1, g2⟩ := hB
  rw [ht] at g1
  obtain ⟨b1, b2⟩ := kx_back hP hD isC hC hn (hl u) hk hF g1 g2
  exact kk r u H1 locs1 hw b1 b2 hS1
theorem kx_md {S : Type} {post : UInt64 → S → Prop} {w1 : S → va_W} (hr : va_Run p l e R s m args below meth c H locs cells slots mc ms (F0 m pc ls st0) rest (va_Qd post (kx_B G (va_A wc H.size) w1) (va_A wc H.size) a) (va_A wc H.size)) (hP : va_P G.1 vwCl ws H) (hD : va_D A0 ws) (hS : va_S A0 H0 H locs) (hA : ∀ q, H0.size ≤ q → A0 q) (isC : List Nat) (hC : isC.map (fun i => ws[i]?) = wc.map some) (hn : va_nd isC = true) (hl : ∀ u, isC.length = (w1 u).length)
    (kk : ∀ (r : UInt64) (u : S) (H1 : Heap) (locs1 : List Loc), post r u → va_P G.1 vwCl (kx_rep ws isC (w1 u)) H1 → va_D A0 (kx_rep ws isC (w1 u)) → va_S A0 H0 H1 locs1 → W p l e R s m args below meth c H1 locs1 (cells + mc) (slots + ms) Q (F0 m (pc + 3) ls (.double r :: rest))) : W p l e R s m args below meth c H locs cells slots Q (F0 m pc ls st0) := by
  have hF := va_free hD hS hA isC hC
  refine va_calld hr hS (fun q _ h => hF q h) hF (fun r u t H1 locs1 ht hvm hw hB hz hk hS1 => ?_)
  obtain ⟨g1, g2⟩ := hB
  rw [ht] at g1
  obtain ⟨b1, b2⟩ := kx_back hP hD isC hC hn (hl u) hk hF g1 g2
  exact kk r u H1 locs1 hw b1 b2 hS1
theorem kx_mv {S : Type} {post : S → Prop} {w1 : S → va_W} (hr : va_Run p l e R s m args below meth c H locs cells slots mc ms (F0 m pc ls st0) rest (va_Qv post (kx_B G (va_A wc H.size) w1) (va_A wc H.size) a) (va_A wc H.size)) (hP : va_P G.1 vwCl ws H) (hD : va_D A0 ws) (hS : va_S A0 H0 H locs) (hA : ∀ q, H0.size ≤ q → A0 q) (isC : List Nat) (hC : isC.map (fun i => ws[i]?) = wc.map some) (hn : va_nd isC = true) (hl : ∀ u, isC.length = (w1 u).length)
    (kk : ∀ (u : S) (H1 : Heap) (locs1 : List Loc), post u → va_P G.1 vwCl (kx_rep ws isC (w1 u)) H1 → va_D A0 (kx_rep ws isC (w1 u)) → va_S A0 H0 H1 locs1 → W p l e R s m args below meth c H1 locs1 (cells + mc) (slots + ms) Q (F0 m (pc + 3) ls rest)) : W p l e R s m args below meth c H locs cells slots Q (F0 m pc ls st0) := by
  have hF := va_free hD hS hA isC hC
  refine va_callv hr hS (fun q _ h => hF q h) hF (fun u t H1 locs1 ht hvm hw hB hz hk hS1 => ?_)
  obtain ⟨g1, g2⟩ := hB
  rw [ht] at g1
  obtain ⟨b1, b2⟩ := kx_back hP hD isC hC hn (hl u) hk hF g1 g2
  exact kk u H1 locs1 hw b1 b2 hS1
end KX
