/-! the law's own methods: calls of methods that throw, and catching -/
def kx_nc : List (String × String) := [(kx_A2, RJx00060), (kx_A3, RJx00060), (kx_A3, kx_A2)]
def kx_cw : List String := [RJx00060, kx_A2, kx_A3]
def kx_lw : List Cond := [.classLink RL 13 RJx00060, .classLink RL 15 kx_A2, .classLink RL 29 kx_A3]
theorem kx_lw_all : kx_lw.all (fun w => kx_okx w && w.onTables) = true := by decide +kernel
theorem kx_lw_ok {w : Cond} (h : w ∈ kx_lw) : kx_okx w = true ∧ w.onTables = true := by
  have h3 := List.all_eq_true.mp kx_lw_all w h
  simp only [Bool.and_eq_true] at h3
  exact h3
def kx_TY (G : kx_G) (U : State) : Prop := kx_TX G U ∧ (∀ q ∈ kx_nc, va_Nc q.1 q.2 U) ∧ (∀ E ∈ kx_cw, va_Nw (.castable E E) U) ∧ ∀ w ∈ kx_lw, va_Nw w U
theorem kx_TY.warm {G : kx_G} {s U : State} (hW : s.WarmedH U.vm) (h : kx_TY G s) : kx_TY G U := by
  refine ⟨h.1.warm hW, fun q hq => va_Nc.moved hW.alike (h.2.1 q hq), fun E hE => va_Nw.warmC hW (h.2.2.1 E hE), fun w hw => ?_⟩
  have h1 := (kx_lw_ok hw).1
  have h2 := h.2.2.2 w hw
  clear hw
  cases w <;> first | exact va_Nw.warmD hW h2 | exact va_Nw.warmC hW h2 | exact word_at hW (good_of_word h1) h2
theorem kx_TY.same {G : kx_G} {u U : State} (hv : u.vm = U.vm) (h : kx_TY G u) : kx_TY G U := ⟨h.1.same hv, fun q hq => va_Nc.moved (by rw [hv]; exact Vm.Alike.refl _) (h.2.1 q hq), fun E hE => va_Nw.same rfl hv (h.2.2.1 E hE), fun w hw => va_Nw.same (kx_lw_ok hw).2 hv (h.2.2.2 w hw)⟩
theorem kx_TY.link {G : kx_G} {s : State} {args : Array Value} (h : kx_TY G s) (w : Cond) (hw : w ∈ kx_lw) : w.before args s = true := va_Nw.use (kx_lw_ok hw).2 (h.2.2.2 w hw)
theorem kx_TY.cast {G : kx_G} {s : State} {args : Array Value} (h : kx_TY G s) {E : String} (hE : E ∈ kx_cw) : (Cond.castable E E).before args s = true := va_Nw.use rfl (h.2.2.1 E hE)
/-- a start of one of the law's methods that catch -/
def kx_PL (G : kx_G) (av : List Value) (sz : Nat) (ws : va_W) : Array Value → State → Prop := va_Pc av (fun U => U.heap.size = sz ∧ va_P G.1 vwCl ws U.heap ∧ kx_TY G U ∧ va_D (fun _ => True) ws ∧ kx_ZZ (va_A ws sz) U U.heap)
theorem kx_PLb {G : kx_G} {av : List Value} {sz : Nat} {ws : va_W} : FrameBlind (kx_PL G av sz ws) := fun a U g mk q => ⟨q.1, q.2.1, q.2.2.1, kx_TY.same (u := U) (U := U.calling g mk a) rfl q.2.2.2.1, q.2.2.2.2.1, kx_ZZ.moved (u := U) (U := U.calling g mk a) (Vm.Alike.refl U.vm) q.2.2.2.2.2⟩
theorem kx_pl {G : kx_G} {s : State} {H : Heap} {locs : List Loc} {ws wc : va_W} {av : List Value} {A : Nat → Prop} (hT : kx_TY G s) (hZ : kx_ZZ A s s.heap) (hS : va_S A s.heap H locs) (hA : ∀ q, s.heap.size ≤ q → A q) (hP : va_P G.1 vwCl ws H) (hD : va_D A ws) (is : List Nat) (h : is.filterMap (fun i => ws[i]?) = wc) (hn : va_nd is = true) (h2 : is.map (fun i => ws[i]?) = wc.map some) : ∀ U : State, U.heap = H → s.WarmedH U.vm → kx_PL G av H.size wc av.toArray U := fun U hU hW => ⟨rfl, by rw [hU], by rw [hU]; exact hP.sub is h, hT.warm hW, (hD.sub is hn h2).weaken (fun _ _ _ _ => trivial), by rw [hU]; exact ((hZ.kept hS.2.1).narrow (va_free hD hS hA is h2)).moved hW.alike⟩
section
variable {p : Program} {l : Launch} {e : Env} {R : Room} {s : State} {m : MethodId} {args : Array Value} {below : List Frame} {meth : Method} {c : Code} {H : Heap} {locs : List Loc} {cells slots : Nat} {Q : State → Prop}
variable {cc : ByteArray} {pc : Nat} {ls : Array Slot} {rest st0 : List Value} {G : kx_G} {ws wc : va_W} {A0 : Nat → Prop} {H0 : Heap} {a : Array Value} {mc ms : Nat} {free : Addr → Prop} {PX : String → Prop}
theorem kx_lald (hx : p.tables.exec = Jvm.exec) (hb : c.code = cc) (hT : kx_T G s) (hP : va_P G.1 vwCl ws H) (q0 : Nat) {b n : Nat} {f : Nat → Int64} (ha : ws[q0]? = some (b, kx_aJ G n f)) (j : Nat) (hj : j < n) (hn : n < 2 ^ 31) (hdg : decode cc pc = .ok (.laload, 1))
    (kk : W p l e R s m args below meth c H locs cells slots Q (F0 m (pc + 1) ls (.long (f j) :: rest))) : W p l e R s m args below meth c H locs cells slots Q (F0 m pc ls (.int (nI j) :: .ref b :: rest)) :=
  va_lald hx hb hT.1 hP q0 3 ha rfl (vp_in_nI hj hn) hdg (by rw [nI_clamp (Nat.lt_trans hj hn)]; exact kk)
theorem kx_last (hx : p.tables.exec = Jvm.exec) (hb : c.code = cc) (hT : kx_T G s) (hP : va_P G.1 vwCl ws H) (hD : va_D A0 ws) (hS : va_S A0 H0 H locs) (q0 : Nat) {b n : Nat} {f : Nat → Int64} (ha : ws[q0]? = some (b, kx_aJ G n f)) (j : Nat) {x : Int64} (hj : j < n) (hn : n < 2 ^ 31) (hdg : decode cc pc = .ok (.lastore, 1))
    (kk : ∀ (H1 : Heap) (locs1 : List Loc), va_P G.1 vwCl (ws.set q0 (b, kx_aJ G n (vp_updL f j x))) H1 → va_D A0 (ws.set q0 (b, kx_aJ G n (vp_updL f j x))) → va_S A0 H0 H1 locs1 → W p l e R s m args below meth c H1 locs1 cells slots Q (F0 m (pc + 1) ls rest)) : W p l e R s m args below meth c H locs cells slots Q (F0 m pc ls (.long x :: .int (nI j) :: .ref b :: rest)) :=
  va_last hx hb hT.1 hP hD hS q0 3 ha rfl (vp_in_nI hj hn) hdg (by rw [nI_clamp (Nat.lt_trans hj hn)]; exact kk)
theorem kx_xi {post : Int32 → Unit → Prop} (hr : vx_Run p l e R s m args below meth c H locs cells slots mc ms (F0 m pc ls st0) rest (va_Qi post (fun _ _ => True) kx_F a) (vx_X (fun _ : Unit => True) (fun E _ _ => PX E) kx_F) kx_F) (hP : va_P G.1 vwCl ws H) (hS : va_S A0 H0 H locs)
    (kx : ∀ (E : String) (ce : Cell) (q9 : Addr) (H1 : Heap) (locs1 : List Loc), PX E → va_P G.1 vwCl ws H1 → va_S A0 H0 H1 locs1 → H1[q9]? = some ce → ce.vm = .none → s.vm.findClass E = some ce.cls → vx_W p l e R s m args below meth c H1 locs1 (cells + mc) (slots + ms) Q (F0 m pc ls rest) q9)
    (kk : ∀ (r : Int32) (H1 : Heap) (locs1 : List Loc), post r () → va_P G.1 vwCl ws H1 → va_S A0 H0 H1 locs1 → W p l e R s m args below meth c H1 locs1 (cells + mc) (slots + ms) Q (F0 m (pc + 3) ls (.int r :: rest))) : W p l e R s m args below meth c H locs cells slots Q (F0 m pc ls st0) :=
  vx_calli hr hS (fun _ _ h => h.elim) (fun _ h => h.elim) (fun _ _ h => h.elim) (fun E ce q9 u t H1 locs1 _ _ _ hb _ hk hS1 h1 h2 h3 => kx E ce q9 H1 locs1 hb (kx_keep hP hk) hS1 h1 h2 h3) (fun r u t H1 locs1 _ _ hp _ _ hk hS1 => kk r H1 locs1 hp (kx_keep hP hk) hS1)
theorem kx_xd {post : UInt64 → Unit → Prop} (hr : vx_Run p l e R s m args below meth c H locs cells slots mc ms (F0 m pc ls st0) rest (va_Qd post (fun _ _ => True) kx_F a) (vx_X (fun _ : Unit => True) (fun E _ _ => PX E) kx_F) kx_F) (hP : va_P G.1 vwCl ws H) (hS : va_S A0 H0 H locs)
    (kx : ∀ (E : String) (ce : Cell) (q9 : Addr) (H1 : Heap) (locs1 : List Loc), PX E → va_P G.1 vwCl ws H1 → va_S A0 H0 H1 locs1 → H1[q9]? = some ce → ce.vm = .none → s.vm.findClass E = some ce.cls → vx_W p l e R s m args below meth c H1 locs1 (cells + mc) (slots + ms) Q (F0 m pc ls rest) q9)
    (kk : ∀ (r : UInt64) (H1 : Heap) (locs1 : List Loc), post r () → va_P G.1 vwCl ws H1 → va_S A0 H0 H1 locs1 → W p l e R s m args below meth c H1 locs1 (cells + mc) (slots + ms) Q (F0 m (pc + 3) ls (.double r :: rest))) : W p l e R s m args below meth c H locs cells slots Q (F0 m pc ls st0) :=
  vx_calld hr hS (fun _ _ h => h.elim) (fun _ h => h.elim) (fun _ _ h => h.elim) (fun E ce q9 u t H1 locs1 _ _ _ hb _ hk hS1 h1 h2 h3 => kx E ce q9 H1 locs1 hb (kx_keep hP hk) hS1 h1 h2 h3) (fun r u t H1 locs1 _ _ hp _ _ hk hS1 => kk r H1 locs1 hp (kx_keep hP hk) hS1)
theorem kx_xl {post : Int64 → Unit → Prop} (hr : vx_Run p l e R s m args below meth c H locs cells slots mc ms (F0 m pc ls st0) rest (va_Ql post (fun _ _ => True) kx_F a) (vx_X (fun _ : Unit => True) (fun E _ _ => PX E) kx_F) kx_F) (hP : va_P G.1 vwCl ws H) (hS : va_S A0 H0 H locs)
    (kx : ∀ (E : String) (ce : Cell) (q9 : Addr) (H1 : Heap) (locs1 : List Loc), PX E → va_P G.1 vwCl ws H1 → va_S A0 H0 H1 locs1 → H1[q9]? = some ce → ce.vm = .none → s.vm.findClass E = some ce.cls → vx_W p l e R s m args below meth c H1 locs1 (cells + mc) (slots + ms) Q (F0 m pc ls rest) q9)
    (kk : ∀ (r : Int64) (H1 : Heap) (locs1 : List Loc), post r () → va_P G.1 vwCl ws H1 → va_S A0 H0 H1 locs1 → W p l e R s m args below meth c H1 locs1 (cells + mc) (slots + ms) Q (F0 m (pc + 3) ls (.long r :: rest))) : W p l e R s m args below meth c H locs cells slots Q (F0 m pc ls st0) :=
  vx_calll hr hS (fun _ _ h => h.elim) (fun _ h => h.elim) (fun _ _ h => h.elim) (fun E ce q9 u t H1 locs1 _ _ _ hb _ hk hS1 h1 h2 h3 => kx E ce q9 H1 locs1 hb (kx_keep hP hk) hS1 h1 h2 h3) (fun r u t H1 locs1 _ _ hp _ _ hk hS1 => kk r H1 locs1 hp (kx_keep hP hk) hS1)
theorem kx_ymi {S : Type} {post : Int32 → S → Prop} {w1 : S → va_W} (hr : vx_Run p l e R s m args below meth c H locs cells slots mc ms (F0 m pc ls st0) rest (va_Qi post (kx_B G (va_A wc H.size) w1) (va_A wc H.size) a) (vx_X (fun _ : Unit => True) (fun E _ _ => PX E) kx_F) (va_A wc H.size)) (hP : va_P G.1 vwCl ws H) (hD : va_D A0 ws) (hS : va_S A0 H0 H locs) (hA : ∀ q, H0.size ≤ q → A0 q) (isC : List Nat) (hC : isC.map (fun i => ws[i]?) = wc.map some) (hn : va_nd isC = true) (hl : ∀ u, isC.length = (w1 u).length)
    (kx : ∀ (E : String) (ce : Cell) (q9 : Addr) (H1 : Heap) (locs1 : List Loc), PX E → va_P G.1 vwCl ws H1 → va_S A0 H0 H1 locs1 → H1[q9]? = some ce → ce.vm = .none → s.vm.findClass E = some ce.cls → vx_W p l e R s m args below meth c H1 locs1 (cells + mc) (slots + ms) Q (F0 m pc ls rest) q9)
    (kk : ∀ (r : Int32) (u : S) (H1 : Heap) (locs1 : List Loc), post r u → va_P G.1 vwCl (kx_rep ws isC (w1 u)) H1 → va_D A0 (kx_rep ws isC (w1 u)) → va_S A0 H0 H1 locs1 → W p l e R s m args below meth c H1 locs1 (cells + mc) (slots + ms) Q (F0 m (pc + 3) ls (.int r :: rest))) : W p l e R s m args below meth c H locs cells slots Q (F0 m pc ls st0) := by
  have hF := va_free hD hS hA isC hC
  refine vx_calli hr hS (fun q _ h => hF q h) hF (fun _ _ h => h.elim) (fun E ce q9 u t H1 locs1 _ _ _ hb _ hk hS1 h1 h2 h3 => kx E ce q9 H1 locs1 hb (kx_keep hP hk) hS1 h1 h2 h3) (fun r u t H1 locs1 ht hvm hw hB hz hk hS1 => ?_)
  obtain ⟨g1, g2⟩ := hB
  rw [ht] at g1
  obtain ⟨hP1, hD1⟩ := kx_back hP hD isC hC hn (hl u) hk hF g1 g2
  exact kk r u H1 locs1 hw hP1 hD1 hS1
theorem kx_ymv {S : Type} {post : S → Prop} {w1 : S → va_W} (hr : vx_Run p l e R s m args below meth c H locs cells slots mc ms (F0 m pc ls st0) rest (va_Qv post (kx_B G (va_A wc H.size) w1) (va_A wc H.size) a) (vx_X (fun _ : Unit => True) (fun E _ _ => PX E) kx_F) (va_A wc H.size)) (hP : va_P G.1 vwCl ws H) (hD : va_D A0 ws) (hS : va_S A0 H0 H locs) (hA : ∀ q, H0.size ≤ q → A0 q) (isC : List Nat) (hC : isC.map (fun i => ws[i]?) = wc.map some) (hn : va_nd isC = true) (hl : ∀ u, isC.length = (w1 u).length)
    (kx : ∀ (E : String) (ce : Cell) (q9 : Addr) (H1 : Heap) (locs1 : List Loc), PX E → va_P G.1 vwCl ws H1 → va_S A0 H0 H1 locs1 → H1[q9]? = some ce → ce.vm = .none → s.vm.findClass E = some ce.cls → vx_W p l e R s m args below meth c H1 locs1 (cells + mc) (slots + ms) Q (F0 m pc ls rest) q9)
    (kk : ∀ (u : S) (H1 : Heap) (locs1 : List Loc), post u → va_P G.1 vwCl (kx_rep ws isC (w1 u)) H1 → va_D A0 (kx_rep ws isC (w1 u)) → va_S A0 H0 H1 locs1 → W p l e R s m args below meth c H1 locs1 (cells + mc) (slots + ms) Q (F0 m (pc + 3) ls rest)) : W p l e R s m args below meth c H locs cells slots Q (F0 m pc ls st0) := by
  have hF := va_free hD hS hA isC hC
  refine vx_callv hr hS (fun q _ h => hF q h) hF (fun _ _ h => h.elim) (fun E ce q9 u t H1 locs1 _ _ _ hb _ hk hS1 h1 h2 h3 => kx E ce q9 H1 locs1 hb (kx_keep hP hk) hS1 h1 h2 h3) (fun u t H1 locs1 ht hvm hw hB hz hk hS1 => ?_)
  obtain ⟨g1, g2⟩ := hB
  rw [ht] at g1
  obtain ⟨hP1, hD1⟩ := kx_back hP hD isC hC hn (hl u) hk hF g1 g2
  exact kk u H1 locs1 hw hP1 hD1 hS1
/-- an exception of the class E comes to its row -/
theorem kx_cat {E : String} {ce : Cell} {q : Addr} {hh : List (Nat × Nat × Nat × Nat)} (hown : s.vm.findClass RL = some m.cls) (htb : c.exceptionTable.toList = tableOf hh) (hTY : kx_TY G s) (pre suf : List (Nat × Nat × Nat × Nat)) (k : Nat × Nat × Nat × Nat) (hs : hh = pre ++ k :: suf)
    (hp : ∀ z ∈ pre, z.2.2.2 ≠ 0 ∧ ∃ nm : String, (Cond.classLink RL z.2.2.2 nm).before args s = true ∧ (E, nm) ∈ kx_nc) (hk : covers ⟨k.1, k.2.1, k.2.2.1, k.2.2.2⟩ pc = true) (h0 : k.2.2.2 ≠ 0) (hlink : (Cond.classLink RL k.2.2.2 E).before args s = true) (hE : E ∈ kx_cw)
    (hcell : H[q]? = some ce) (hv : ce.vm = .none) (hcl : s.vm.findClass E = some ce.cls) (kk : W p l e R s m args below meth c H locs cells slots Q (F0 m k.2.2.1 ls [.ref q])) : vx_W p l e R s m args below meth c H locs cells slots Q (F0 m pc ls rest) q := by
  refine vx_catch (name := E) hown (tableOf pre) ⟨k.1, k.2.1, k.2.2.1, k.2.2.2⟩ (tableOf suf) (by rw [htb, hs]; unfold tableOf; rw [List.map_append, List.map_cons]) (fun z hz => ?_) hk h0 hlink (hTY.cast hE) hcell hv hcl kk
  obtain ⟨z0, hz0, rfl⟩ := List.mem_map.mp hz
  obtain ⟨h1, nm, h2, h3⟩ := hp z0 hz0
  exact Or.inr ⟨h1, nm, h2, hTY.2.1 (E, nm) h3⟩
end
theorem kr_aim {a b d : Int32} {x y : UInt64} : kc_aim a b d x y = 0 ∨ kc_aim a b d x y = 1 ∨ kc_aim a b d x y = 2 := by
  unfold kc_aim
  repeat' split
  all_goals decide
theorem kr_sha {a b d f : Int32} {x y : UInt64} : kc_sha a b d f x y = 0 ∨ kc_sha a b d f x y = 1 ∨ kc_sha a b d f x y = 2 := by
  unfold kc_sha
  repeat' split
  all_goals decide
theorem kr_lif {a b : Int32} : kc_lif a b = 0 ∨ kc_lif a b = 1 := by
  unfold kc_lif
  repeat' split
  all_goals decide
theorem kr_shp {a b d : Int32} : kc_shp a b d = 0 ∨ kc_shp a b d = 1 ∨ kc_shp a b d = 2 := by
  unfold kc_shp
  repeat' split
  all_goals decide
theorem kr_fit {a b : Int32} : kc_fit a b = 0 ∨ kc_fit a b = 1 ∨ kc_fit a b = 2 := by
  unfold kc_fit
  repeat' split
  all_goals decide
theorem kr_ins {a b d f : Int32} : kc_ins a b d f = 0 ∨ kc_ins a b d f = 1 ∨ kc_ins a b d f = 2 ∨ kc_ins a b d f = 3 := by
  unfold kc_ins
  repeat' split
  all_goals decide
theorem kr_h {a : Int32} : kc_h a = 0 ∨ kc_h a = 1 := by
  unfold kc_h
  repeat' split
  all_goals decide
theorem kr_rul {a b : Int32} {n : Nat} : kc_rul a b n = 0 ∨ kc_rul a b n = 1 ∨ kc_rul a b n = 2 := by
  unfold kc_rul
  repeat' split
  all_goals decide
theorem kr_apa {a b d : Int32} : kc_apa a b d = 0 ∨ kc_apa a b d = 1 ∨ kc_apa a b d = 2 := by
  unfold kc_apa
  repeat' split
  all_goals decide
theorem kr_mat {a b : Int32} : kc_mat a b = 0 ∨ kc_mat a b = 1 := by
  unfold kc_mat
  repeat' split
  all_goals decide
theorem kr_law {a b d : Int64} : kc_law a b d = 0 ∨ kc_law a b d = 1 := by
  unfold kc_law
  repeat' split
  all_goals decide
