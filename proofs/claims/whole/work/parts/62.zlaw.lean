/-! rows of the law's walk: the script, comparisons of equals -/
section ZLAW
variable {p : Program} {l : Launch} {e : Env} {R : Room} {s : State} {m : MethodId} {args : Array Value} {below : List Frame} {meth : Method} {c : Code} {H : Heap} {locs : List Loc} {cells slots : Nat} {Q : State → Prop} {cc : ByteArray} {pc : Nat} {ls : Array Slot} {rest : List Value} {A : Nat → Prop} {H0 : Heap}
def scZ (xs : Nat → Int32) (i : Int) : Int := (xs (Int.toNat i)).toInt
theorem sc_r (xs : Nat → Int32) (i : Int) : -2147483648 ≤ scZ xs i ∧ scZ xs i < 2147483648 := ⟨Int32.le_toInt _, Int32.toInt_lt _⟩
theorem sc_v (xs : Nat → Int32) (i : Int) : xs (Int.toNat i) = zI (scZ xs i) := (Int32.ofInt_toInt _).symm
theorem z_sld (hx : p.tables.exec = Jvm.exec) (hb : c.code = cc) {b L : Nat} {xs : Nat → Int32} (hX : va_X b L xs s H0) (hbl : b < H0.size) (hbA : ¬ A b) (hS : va_S A H0 H locs) {i : Int} (hin : 0 ≤ i ∧ i < L) (hL : L < 2147483648) (hdg : decode cc pc = .ok (.iaload, 1))
    (kk : W p l e R s m args below meth c H locs cells slots Q (F0 m (pc + 1) ls (vI (scZ xs i) :: rest))) : W p l e R s m args below meth c H locs cells slots Q (F0 m pc ls (vI i :: .ref b :: rest)) := by
  refine va_sld hx hb hX hbl hbA hS (zI_in hin hL) hdg ?_
  have q : (((zI i).toNatClampNeg : Nat) : Int) = i := zI_cl ⟨hin.1, by omega⟩
  rw [show (zI i).toNatClampNeg = Int.toNat i by omega, sc_v xs i]
  exact kk
theorem z_icmpS (hx : p.tables.exec = Jvm.exec) (hb : c.code = cc) {x y : Int} {off : Int} {tgt : Nat} (hdg : decode cc pc = .ok (.if_icmp .eq off, 3)) (ht : (pc : Int) + off = (tgt : Int)) (h : x = y)
    (kt : W p l e R s m args below meth c H locs cells slots Q (F0 m tgt ls rest)) : W p l e R s m args below meth c H locs cells slots Q (F0 m pc ls (vI y :: vI x :: rest)) := by
  subst h
  exact lv_icmp_eq hx hb hdg ht (fun _ => kt) (fun q => absurd rfl q)
theorem z_lcmpS (hx : p.tables.exec = Jvm.exec) (hb : c.code = cc) {x y : Int} {off : Int} {tgt : Nat} (hdg : decode cc pc = .ok (.lcmp, 1)) (hdg2 : decode cc (pc + 1) = .ok (.ifCond .eq off, 3)) (ht : ((pc + 1 : Nat) : Int) + off = (tgt : Int)) (h : x = y)
    (kt : W p l e R s m args below meth c H locs cells slots Q (F0 m tgt ls rest)) : W p l e R s m args below meth c H locs cells slots Q (F0 m pc ls (vL y :: vL x :: rest)) := by
  subst h
  have e : zL x = zL (zL x).toInt := (Int64.ofInt_toInt _).symm
  rw [show (vL x : Value) = vL (zL x).toInt from congrArg Value.long e]
  exact z_lcmp_eq hx hb hdg hdg2 ht ⟨Int64.le_toInt _, Int64.toInt_lt _⟩ ⟨Int64.le_toInt _, Int64.toInt_lt _⟩ (fun _ => kt) (fun q => absurd rfl q)
end ZLAW
