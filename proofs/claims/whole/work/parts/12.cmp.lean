/-! comparing doubles and branching -/
section KC
variable {p : Program} {l : Launch} {e : Env} {R : Room} {s : State} {m : MethodId} {args : Array Value} {below : List Frame} {meth : Method} {c : Code} {H : Heap} {locs : List Loc} {cells slots : Nat} {Q : State → Prop}
variable {cc : ByteArray} {pc : Nat} {ls : Array Slot} {rest : List Value}
theorem kx_v0 {o : Option Ordering} : (0 ≤ Op.cmpValue o .g ↔ o ≠ some .lt) ∧ (0 < Op.cmpValue o .g ↔ ¬ (o = some .lt ∨ o = some .eq)) ∧ (Op.cmpValue o .l ≤ 0 ↔ o ≠ some .gt) ∧ (Op.cmpValue o .l < 0 ↔ ¬ (o = some .gt ∨ o = some .eq)) ∧ (Op.cmpValue o .l = 0 ↔ o = some .eq) := by
  rcases o with _ | o
  · decide
  · cases o <;> decide
/-- x < y: dcmpg, ifge -/
theorem kx_dlt (hx : p.tables.exec = Jvm.exec) (hb : c.code = cc) {x y : UInt64} {off : Int} {tgt : Nat} (hd1 : decode cc pc = .ok (.dcmp .g, 1)) (hd2 : decode cc (pc + 1) = .ok (.ifCond .ge off, 3)) (ht : ((pc + 1 : Nat) : Int) + off = (tgt : Int))
    (kt : FP.dcmp x y ≠ some .lt → W p l e R s m args below meth c H locs cells slots Q (F0 m tgt ls rest)) (kf : FP.dcmp x y = some .lt → W p l e R s m args below meth c H locs cells slots Q (F0 m (pc + 1 + 3) ls rest)) : W p l e R s m args below meth c H locs cells slots Q (F0 m pc ls (.double y :: .double x :: rest)) :=
  lv_dcmp hx hb hd1 (lv_if_ge hx hb hd2 ht (fun h => kt (kx_v0.1.mp h)) (fun h => kf (Classical.not_not.mp (fun q => h (kx_v0.1.mpr q)))))
/-- x ≤ y: dcmpg, ifgt -/
theorem kx_dle (hx : p.tables.exec = Jvm.exec) (hb : c.code = cc) {x y : UInt64} {off : Int} {tgt : Nat} (hd1 : decode cc pc = .ok (.dcmp .g, 1)) (hd2 : decode cc (pc + 1) = .ok (.ifCond .gt off, 3)) (ht : ((pc + 1 : Nat) : Int) + off = (tgt : Int))
    (kt : ¬ (FP.dcmp x y = some .lt ∨ FP.dcmp x y = some .eq) → W p l e R s m args below meth c H locs cells slots Q (F0 m tgt ls rest)) (kf : (FP.dcmp x y = some .lt ∨ FP.dcmp x y = some .eq) → W p l e R s m args below meth c H locs cells slots Q (F0 m (pc + 1 + 3) ls rest)) : W p l e R s m args below meth c H locs cells slots Q (F0 m pc ls (.double y :: .double x :: rest)) :=
  lv_dcmp hx hb hd1 (lv_if_gt hx hb hd2 ht (fun h => kt (kx_v0.2.1.mp h)) (fun h => kf (Classical.not_not.mp (fun q => h (kx_v0.2.1.mpr q)))))
/-- x > y: dcmpl, ifle -/
theorem kx_dgt (hx : p.tables.exec = Jvm.exec) (hb : c.code = cc) {x y : UInt64} {off : Int} {tgt : Nat} (hd1 : decode cc pc = .ok (.dcmp .l, 1)) (hd2 : decode cc (pc + 1) = .ok (.ifCond .le off, 3)) (ht : ((pc + 1 : Nat) : Int) + off = (tgt : Int))
    (kt : FP.dcmp x y ≠ some .gt → W p l e R s m args below meth c H locs cells slots Q (F0 m tgt ls rest)) (kf : FP.dcmp x y = some .gt → W p l e R s m args below meth c H locs cells slots Q (F0 m (pc + 1 + 3) ls rest)) : W p l e R s m args below meth c H locs cells slots Q (F0 m pc ls (.double y :: .double x :: rest)) :=
  lv_dcmp hx hb hd1 (lv_if_le hx hb hd2 ht (fun h => kt (kx_v0.2.2.1.mp h)) (fun h => kf (Classical.not_not.mp (fun q => h (kx_v0.2.2.1.mpr q)))))
/-- x ≥ y: dcmpl, iflt -/
theorem kx_dge (hx : p.tables.exec = Jvm.exec) (hb : c.code = cc) {x y : UInt64} {off : Int} {tgt : Nat} (hd1 : decode cc pc = .ok (.dcmp .l, 1)) (hd2 : decode cc (pc + 1) = .ok (.ifCond .lt off, 3)) (ht : ((pc + 1 : Nat) : Int) + off = (tgt : Int))
    (kt : ¬ (FP.dcmp x y = some .gt ∨ FP.dcmp x y = some .eq) → W p l e R s m args below meth c H locs cells slots Q (F0 m tgt ls rest)) (kf : (FP.dcmp x y = some .gt ∨ FP.dcmp x y = some .eq) → W p l e R s m args below meth c H locs cells slots Q (F0 m (pc + 1 + 3) ls rest)) : W p l e R s m args below meth c H locs cells slots Q (F0 m pc ls (.double y :: .double x :: rest)) :=
  lv_dcmp hx hb hd1 (lv_if_lt hx hb hd2 ht (fun h => kt (kx_v0.2.2.2.1.mp h)) (fun h => kf (Classical.not_not.mp (fun q => h (kx_v0.2.2.2.1.mpr q)))))
/-- x == y: dcmpl, ifne -/
theorem kx_deq (hx : p.tables.exec = Jvm.exec) (hb : c.code = cc) {x y : UInt64} {off : Int} {tgt : Nat} (hd1 : decode cc pc = .ok (.dcmp .l, 1)) (hd2 : decode cc (pc + 1) = .ok (.ifCond .ne off, 3)) (ht : ((pc + 1 : Nat) : Int) + off = (tgt : Int))
    (kt : FP.dcmp x y ≠ some .eq → W p l e R s m args below meth c H locs cells slots Q (F0 m tgt ls rest)) (kf : FP.dcmp x y = some .eq → W p l e R s m args below meth c H locs cells slots Q (F0 m (pc + 1 + 3) ls rest)) : W p l e R s m args below meth c H locs cells slots Q (F0 m pc ls (.double y :: .double x :: rest)) :=
  lv_dcmp hx hb hd1 (lv_if_ne hx hb hd2 ht (fun h => kt (fun q => h (kx_v0.2.2.2.2.mpr q))) (fun h => kf (kx_v0.2.2.2.2.mp h)))
/-- x != y: dcmpl, ifeq -/
theorem kx_dne (hx : p.tables.exec = Jvm.exec) (hb : c.code = cc) {x y : UInt64} {off : Int} {tgt : Nat} (hd1 : decode cc pc = .ok (.dcmp .l, 1)) (hd2 : decode cc (pc + 1) = .ok (.ifCond .eq off, 3)) (ht : ((pc + 1 : Nat) : Int) + off = (tgt : Int))
    (kt : FP.dcmp x y = some .eq → W p l e R s m args below meth c H locs cells slots Q (F0 m tgt ls rest)) (kf : FP.dcmp x y ≠ some .eq → W p l e R s m args below meth c H locs cells slots Q (F0 m (pc + 1 + 3) ls rest)) : W p l e R s m args below meth c H locs cells slots Q (F0 m pc ls (.double y :: .double x :: rest)) :=
  lv_dcmp hx hb hd1 (lv_if_eq hx hb hd2 ht (fun h => kt (kx_v0.2.2.2.2.mp h)) (fun h => kf (fun q => h (kx_v0.2.2.2.2.mpr q))))
end KC
