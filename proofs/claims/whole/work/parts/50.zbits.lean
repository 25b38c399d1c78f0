/-! rows of bits -/
section ZB
variable {p : Program} {l : Launch} {e : Env} {R : Room} {s : State} {m : MethodId} {args : Array Value} {below : List Frame} {meth : Method} {c : Code} {H : Heap} {locs : List Loc} {cells slots : Nat} {Q : State → Prop} {cc : ByteArray} {pc : Nat} {ls : Array Slot} {rest : List Value}
theorem z_lshl (hx : p.tables.exec = Jvm.exec) (hb : c.code = cc) {x y : Int} (hdg : decode cc pc = .ok (.lshl, 1))
    (k : W p l e R s m args below meth c H locs cells slots Q (F0 m (pc + 1) ls (vL (lshlZ x y) :: rest))) : W p l e R s m args below meth c H locs cells slots Q (F0 m pc ls (vI y :: vL x :: rest)) := lv_lshl (v := zL (lshlZ x y)) hx hb hdg (zL_self _).symm k
theorem z_lshr (hx : p.tables.exec = Jvm.exec) (hb : c.code = cc) {x y : Int} (hdg : decode cc pc = .ok (.lshr, 1))
    (k : W p l e R s m args below meth c H locs cells slots Q (F0 m (pc + 1) ls (vL (lshrZ x y) :: rest))) : W p l e R s m args below meth c H locs cells slots Q (F0 m pc ls (vI y :: vL x :: rest)) := lv_lshr (v := zL (lshrZ x y)) hx hb hdg (zL_self _).symm k
theorem z_land (hx : p.tables.exec = Jvm.exec) (hb : c.code = cc) {x y : Int} (hdg : decode cc pc = .ok (.land, 1))
    (k : W p l e R s m args below meth c H locs cells slots Q (F0 m (pc + 1) ls (vL (landZ x y) :: rest))) : W p l e R s m args below meth c H locs cells slots Q (F0 m pc ls (vL y :: vL x :: rest)) := lv_land hx hb hdg (by rw [show zL x &&& zL y = zL (landZ x y) from (zL_self _).symm]; exact k)
theorem z_lor (hx : p.tables.exec = Jvm.exec) (hb : c.code = cc) {x y : Int} (hdg : decode cc pc = .ok (.lor, 1))
    (k : W p l e R s m args below meth c H locs cells slots Q (F0 m (pc + 1) ls (vL (lorZ x y) :: rest))) : W p l e R s m args below meth c H locs cells slots Q (F0 m pc ls (vL y :: vL x :: rest)) := lv_lor hx hb hdg (by rw [show zL x ||| zL y = zL (lorZ x y) from (zL_self _).symm]; exact k)
end ZB
theorem flZ_in {f : Int → Int} {v n j : Int} (h : 0 ≤ j ∧ j < n) : flZ f v n j = v := if_pos h
