/-! Rows over numbers: an int cell or operand is zI z, a long one zL z, of a mathematical whole number z; indices are whole numbers too. -/
def zI (z : Int) : Int32 := Int32.ofInt z
def zL (z : Int) : Int64 := Int64.ofInt z
abbrev vI (z : Int) : Value := .int (zI z)
abbrev vL (z : Int) : Value := .long (zL z)
def pI (P : Prop) [Decidable P] : Int := if P then 1 else 0
theorem pI_t {P : Prop} [Decidable P] (h : P) : pI P = 1 := if_pos h
theorem pI_f {P : Prop} [Decidable P] (h : ¬ P) : pI P = 0 := if_neg h
theorem pI_rng (P : Prop) [Decidable P] : 0 ≤ pI P ∧ pI P ≤ 1 := by unfold pI; split <;> decide
theorem zI_toInt {z : Int} (h : -2147483648 ≤ z ∧ z < 2147483648) : (zI z).toInt = z := Int32.toInt_ofInt_of_le h.1 h.2
theorem zL_toInt {z : Int} (h : -9223372036854775808 ≤ z ∧ z < 9223372036854775808) : (zL z).toInt = z := Int64.toInt_ofInt_of_le h.1 h.2
theorem zI_self (x : Int32) : zI x.toInt = x := Int32.ofInt_toInt x
theorem zL_self (x : Int64) : zL x.toInt = x := Int64.ofInt_toInt x
theorem zI_rng (x : Int32) : -2147483648 ≤ x.toInt ∧ x.toInt < 2147483648 := ⟨Int32.le_toInt x, Int32.toInt_lt x⟩
theorem zI_add (a b : Int) : zI a + zI b = zI (a + b) := (Int32.ofInt_add a b).symm
theorem zI_sub (a b : Int) : zI a - zI b = zI (a - b) := (Int32.ofInt_sub a b).symm
theorem zI_mul (a b : Int) : zI a * zI b = zI (a * b) := (Int32.ofInt_mul a b).symm
theorem zI_neg (a : Int) : -zI a = zI (-a) := (Int32.ofInt_neg a).symm
theorem zL_add (a b : Int) : zL a + zL b = zL (a + b) := (Int64.ofInt_add a b).symm
theorem zL_sub (a b : Int) : zL a - zL b = zL (a - b) := (Int64.ofInt_sub a b).symm
theorem zL_mul (a b : Int) : zL a * zL b = zL (a * b) := (Int64.ofInt_mul a b).symm
theorem zL_neg (a : Int) : -zL a = zL (-a) := (Int64.ofInt_neg a).symm
theorem zI_lt {a b : Int} (ha : -2147483648 ≤ a ∧ a < 2147483648) (hb : -2147483648 ≤ b ∧ b < 2147483648) : zI a < zI b ↔ a < b := by
  rw [Int32.lt_iff_toInt_lt, zI_toInt ha, zI_toInt hb]
theorem zI_le {a b : Int} (ha : -2147483648 ≤ a ∧ a < 2147483648) (hb : -2147483648 ≤ b ∧ b < 2147483648) : zI a ≤ zI b ↔ a ≤ b := by
  rw [Int32.le_iff_toInt_le, zI_toInt ha, zI_toInt hb]
theorem zI_eq {a b : Int} (ha : -2147483648 ≤ a ∧ a < 2147483648) (hb : -2147483648 ≤ b ∧ b < 2147483648) : zI a = zI b ↔ a = b := by
  constructor
  · intro h
    have := congrArg Int32.toInt h
    rwa [zI_toInt ha, zI_toInt hb] at this
  · rintro rfl; rfl
theorem zL_lt {a b : Int} (ha : -9223372036854775808 ≤ a ∧ a < 9223372036854775808) (hb : -9223372036854775808 ≤ b ∧ b < 9223372036854775808) : zL a < zL b ↔ a < b := by
  rw [Int64.lt_iff_toInt_lt, zL_toInt ha, zL_toInt hb]
theorem zL_eq {a b : Int} (ha : -9223372036854775808 ≤ a ∧ a < 9223372036854775808) (hb : -9223372036854775808 ≤ b ∧ b < 9223372036854775808) : zL a = zL b ↔ a = b := by
  constructor
  · intro h
    have := congrArg Int64.toInt h
    rwa [zL_toInt ha, zL_toInt hb] at this
  · rintro rfl; rfl
theorem z_tdiv_rng {x y M : Int} (hx : -M ≤ x ∧ x ≤ M) (hM : 0 ≤ M) (hy : 0 < y) : -M ≤ x.tdiv y ∧ x.tdiv y ≤ M := by
  have h0 : ∀ w : Int, 0 ≤ w → w.tdiv y ≤ w ∧ 0 ≤ w.tdiv y := fun w hw => by
    rw [Int.tdiv_eq_ediv_of_nonneg hw]
    exact ⟨Int.ediv_le_self _ hw, Int.ediv_nonneg hw (Int.le_of_lt hy)⟩
  rcases Int.le_total 0 x with h | h
  · have := h0 x h; omega
  · have h1 := h0 (-x) (by omega)
    rw [Int.neg_tdiv] at h1
    omega
theorem zI_tdiv {x y : Int} (hx : -2147483648 ≤ x ∧ x < 2147483648) (hy : 0 < y ∧ y < 2147483648) : zI x / zI y = zI (x.tdiv y) := by
  have h1 := z_tdiv_rng (M := 2147483648) (x := x) ⟨hx.1, by omega⟩ (by decide) hy.1
  have h2 : x.tdiv y < 2147483648 := by
    rcases Int.le_total 0 x with h | h
    · have := Int.ediv_le_self y h
      rw [Int.tdiv_eq_ediv_of_nonneg h]; omega
    · have := Int.tdiv_nonneg (a := -x) (b := y) (by omega) (by omega)
      rw [Int.neg_tdiv] at this; omega
  apply Int32.toInt_inj.mp
  rw [Int32.toInt_div, zI_toInt hx, zI_toInt ⟨by omega, hy.2⟩, zI_toInt ⟨h1.1, h2⟩]
  exact Int.bmod_eq_of_le (by omega) (by omega)
theorem zL_tdiv {x y : Int} (hx : -9223372036854775808 ≤ x ∧ x < 9223372036854775808) (hy : 0 < y ∧ y < 9223372036854775808) : zL x / zL y = zL (x.tdiv y) := by
  have h1 := z_tdiv_rng (M := 9223372036854775808) (x := x) ⟨hx.1, by omega⟩ (by decide) hy.1
  have h2 : x.tdiv y < 9223372036854775808 := by
    rcases Int.le_total 0 x with h | h
    · have := Int.ediv_le_self y h
      rw [Int.tdiv_eq_ediv_of_nonneg h]; omega
    · have := Int.tdiv_nonneg (a := -x) (b := y) (by omega) (by omega)
      rw [Int.neg_tdiv] at this; omega
  apply Int64.toInt_inj.mp
  rw [Int64.toInt_div, zL_toInt hx, zL_toInt ⟨by omega, hy.2⟩, zL_toInt ⟨h1.1, h2⟩]
  exact Int.bmod_eq_of_le (by omega) (by omega)
theorem zI_tmod {x y : Int} (hx : -2147483648 ≤ x ∧ x < 2147483648) (hy : 0 < y ∧ y < 2147483648) : zI x - zI x / zI y * zI y = zI (x.tmod y) := by
  rw [zI_tdiv hx hy, zI_mul, zI_sub, Int.tmod_def, Int.mul_comm]
theorem zL_tmod {x y : Int} (hx : -9223372036854775808 ≤ x ∧ x < 9223372036854775808) (hy : 0 < y ∧ y < 9223372036854775808) : zL x - zL x / zL y * zL y = zL (x.tmod y) := by
  rw [zL_tdiv hx hy, zL_mul, zL_sub, Int.tmod_def, Int.mul_comm]
theorem zI_toL {x : Int} (hx : -2147483648 ≤ x ∧ x < 2147483648) : (zI x).toInt64 = zL x := by
  apply Int64.toInt_inj.mp
  rw [Int32.toInt_toInt64, zI_toInt hx, zL_toInt ⟨by omega, by omega⟩]
theorem zL_toI (x : Int) : (zL x).toInt32 = zI x := Int64.toInt32_ofInt
theorem zI_in {k : Int} {n : Nat} (h : 0 ≤ k ∧ k < n) (hn : n < 2147483648) : vp_in (zI k) n := by
  rw [vp_in_iff, zI_toInt ⟨by omega, by omega⟩]
  exact h
theorem zI_cl {k : Int} (h : 0 ≤ k ∧ k < 2147483648) : (((zI k).toNatClampNeg : Nat) : Int) = k := by
  rw [Int32.toNatClampNeg, zI_toInt ⟨by omega, h.2⟩]
  omega
/-- contents of a row, by whole numbers -/
def aI (f : Int → Int) : Nat → Int32 := fun j => zI (f j)
def aL (f : Int → Int) : Nat → Int64 := fun j => zL (f j)
def uZ (f : Int → Int) (k x : Int) : Int → Int := fun j => if j = k then x else f j
theorem uZ_s (f : Int → Int) (k x : Int) : uZ f k x k = x := if_pos rfl
theorem uZ_n {f : Int → Int} {k x j : Int} (h : j ≠ k) : uZ f k x j = f j := if_neg h
theorem aI_at (f : Int → Int) {k : Int} (h : 0 ≤ k ∧ k < 2147483648) : aI f (zI k).toNatClampNeg = zI (f k) := by
  unfold aI; rw [zI_cl h]
theorem aL_at (f : Int → Int) {k : Int} (h : 0 ≤ k ∧ k < 2147483648) : aL f (zI k).toNatClampNeg = zL (f k) := by
  unfold aL; rw [zI_cl h]
theorem aI_up (f : Int → Int) {k : Int} (x : Int) (h : 0 ≤ k ∧ k < 2147483648) : upd (aI f) (zI k).toNatClampNeg (zI x) = aI (uZ f k x) := by
  funext j
  have h1 := zI_cl h
  unfold upd aI uZ
  by_cases hj : j = (zI k).toNatClampNeg
  · rw [if_pos hj, if_pos (by rw [hj]; exact h1)]
  · rw [if_neg hj, if_neg (by intro h2; apply hj; omega)]
theorem aL_up (f : Int → Int) {k : Int} (x : Int) (h : 0 ≤ k ∧ k < 2147483648) : vp_updL (aL f) (zI k).toNatClampNeg (zL x) = aL (uZ f k x) := by
  funext j
  have h1 := zI_cl h
  unfold vp_updL aL uZ
  by_cases hj : j = (zI k).toNatClampNeg
  · rw [if_pos hj, if_pos (by rw [hj]; exact h1)]
  · rw [if_neg hj, if_neg (by intro h2; apply hj; omega)]
theorem zc_rng (x y : Int) : True := trivial
section ZK
variable {p : Program} {l : Launch} {e : Env} {R : Room} {s : State} {m : MethodId} {args : Array Value} {below : List Frame} {meth : Method} {c : Code} {H : Heap} {locs : List Loc} {cells slots : Nat} {Q : State → Prop} {cc : ByteArray} {pc : Nat} {ls : Array Slot} {rest : List Value}
theorem z_iconst (hx : p.tables.exec = Jvm.exec) (hb : c.code = cc) {n : Int} (hdg : decode cc pc = .ok (.iconst n, 1))
    (k : W p l e R s m args below meth c H locs cells slots Q (F0 m (pc + 1) ls (vI n :: rest))) : W p l e R s m args below meth c H locs cells slots Q (F0 m pc ls (rest)) := lv_iconst hx hb hdg rfl k
theorem z_bipush (hx : p.tables.exec = Jvm.exec) (hb : c.code = cc) {n : Int} (hdg : decode cc pc = .ok (.bipush n, 2)) (hv : (Int8.ofInt n).toInt32 = zI n)
    (k : W p l e R s m args below meth c H locs cells slots Q (F0 m (pc + 2) ls (vI n :: rest))) : W p l e R s m args below meth c H locs cells slots Q (F0 m pc ls (rest)) := lv_bipush hx hb hdg hv k
theorem z_sipush (hx : p.tables.exec = Jvm.exec) (hb : c.code = cc) {n : Int} (hdg : decode cc pc = .ok (.sipush n, 3)) (hv : (Int16.ofInt n).toInt32 = zI n)
    (k : W p l e R s m args below meth c H locs cells slots Q (F0 m (pc + 3) ls (vI n :: rest))) : W p l e R s m args below meth c H locs cells slots Q (F0 m pc ls (rest)) := lv_sipush hx hb hdg hv k
theorem z_lconst (hx : p.tables.exec = Jvm.exec) (hb : c.code = cc) {n : Fin 2} {z : Int} (hdg : decode cc pc = .ok (.lconst n, 1)) (hv : Int64.ofNat (n : Nat) = zL z)
    (k : W p l e R s m args below meth c H locs cells slots Q (F0 m (pc + 1) ls (vL z :: rest))) : W p l e R s m args below meth c H locs cells slots Q (F0 m pc ls (rest)) := lv_lconst hx hb hdg hv k
theorem z_iadd (hx : p.tables.exec = Jvm.exec) (hb : c.code = cc) {x y : Int} (hdg : decode cc pc = .ok (.iadd, 1))
    (k : W p l e R s m args below meth c H locs cells slots Q (F0 m (pc + 1) ls (vI (x + y) :: rest))) : W p l e R s m args below meth c H locs cells slots Q (F0 m pc ls (vI y :: vI x :: rest)) := lv_iadd hx hb hdg (by rw [zI_add]; exact k)
theorem z_ladd (hx : p.tables.exec = Jvm.exec) (hb : c.code = cc) {x y : Int} (hdg : decode cc pc = .ok (.ladd, 1))
    (k : W p l e R s m args below meth c H locs cells slots Q (F0 m (pc + 1) ls (vL (x + y) :: rest))) : W p l e R s m args below meth c H locs cells slots Q (F0 m pc ls (vL y :: vL x :: rest)) := lv_ladd hx hb hdg (by rw [zL_add]; exact k)
theorem z_isub (hx : p.tables.exec = Jvm.exec) (hb : c.code = cc) {x y : Int} (hdg : decode cc pc = .ok (.isub, 1))
    (k : W p l e R s m args below meth c H locs cells slots Q (F0 m (pc + 1) ls (vI (x - y) :: rest))) : W p l e R s m args below meth c H locs cells slots Q (F0 m pc ls (vI y :: vI x :: rest)) := lv_isub hx hb hdg (by rw [zI_sub]; exact k)
theorem z_lsub (hx : p.tables.exec = Jvm.exec) (hb : c.code = cc) {x y : Int} (hdg : decode cc pc = .ok (.lsub, 1))
    (k : W p l e R s m args below meth c H locs cells slots Q (F0 m (pc + 1) ls (vL (x - y) :: rest))) : W p l e R s m args below meth c H locs cells slots Q (F0 m pc ls (vL y :: vL x :: rest)) := lv_lsub hx hb hdg (by rw [zL_sub]; exact k)
theorem z_imul (hx : p.tables.exec = Jvm.exec) (hb : c.code = cc) {x y : Int} (hdg : decode cc pc = .ok (.imul, 1))
    (k : W p l e R s m args below meth c H locs cells slots Q (F0 m (pc + 1) ls (vI (x * y) :: rest))) : W p l e R s m args below meth c H locs cells slots Q (F0 m pc ls (vI y :: vI x :: rest)) := lv_imul hx hb hdg (by rw [zI_mul]; exact k)
theorem z_lmul (hx : p.tables.exec = Jvm.exec) (hb : c.code = cc) {x y : Int} (hdg : decode cc pc = .ok (.lmul, 1))
    (k : W p l e R s m args below meth c H locs cells slots Q (F0 m (pc + 1) ls (vL (x * y) :: rest))) : W p l e R s m args below meth c H locs cells slots Q (F0 m pc ls (vL y :: vL x :: rest)) := lv_lmul hx hb hdg (by rw [zL_mul]; exact k)
theorem z_ineg (hx : p.tables.exec = Jvm.exec) (hb : c.code = cc) {x : Int} (hdg : decode cc pc = .ok (.ineg, 1))
    (k : W p l e R s m args below meth c H locs cells slots Q (F0 m (pc + 1) ls (vI (-x) :: rest))) : W p l e R s m args below meth c H locs cells slots Q (F0 m pc ls (vI x :: rest)) := lv_ineg hx hb hdg (by rw [zI_neg]; exact k)
theorem z_lneg (hx : p.tables.exec = Jvm.exec) (hb : c.code = cc) {x : Int} (hdg : decode cc pc = .ok (.lneg, 1))
    (k : W p l e R s m args below meth c H locs cells slots Q (F0 m (pc + 1) ls (vL (-x) :: rest))) : W p l e R s m args below meth c H locs cells slots Q (F0 m pc ls (vL x :: rest)) := lv_lneg hx hb hdg (by rw [zL_neg]; exact k)
theorem z_idiv (hx : p.tables.exec = Jvm.exec) (hb : c.code = cc) {x y : Int} (hdg : decode cc pc = .ok (.idiv, 1)) (hxr : -2147483648 ≤ x ∧ x < 2147483648) (hy : 0 < y ∧ y < 2147483648)
    (k : W p l e R s m args below meth c H locs cells slots Q (F0 m (pc + 1) ls (vI (x.tdiv y) :: rest))) : W p l e R s m args below meth c H locs cells slots Q (F0 m pc ls (vI y :: vI x :: rest)) := lv_idiv hx hb hdg (by intro h; have h2 := congrArg Int32.toInt h; rw [zI_toInt ⟨by omega, hy.2⟩] at h2; have h3 : (0 : Int32).toInt = 0 := rfl; omega) (by rw [zI_tdiv hxr hy]; exact k)
theorem z_irem (hx : p.tables.exec = Jvm.exec) (hb : c.code = cc) {x y : Int} (hdg : decode cc pc = .ok (.irem, 1)) (hxr : -2147483648 ≤ x ∧ x < 2147483648) (hy : 0 < y ∧ y < 2147483648)
    (k : W p l e R s m args below meth c H locs cells slots Q (F0 m (pc + 1) ls (vI (x.tmod y) :: rest))) : W p l e R s m args below meth c H locs cells slots Q (F0 m pc ls (vI y :: vI x :: rest)) := lv_irem hx hb hdg (by intro h; have h2 := congrArg Int32.toInt h; rw [zI_toInt ⟨by omega, hy.2⟩] at h2; have h3 : (0 : Int32).toInt = 0 := rfl; omega) (by rw [zI_tmod hxr hy]; exact k)
theorem z_ldiv (hx : p.tables.exec = Jvm.exec) (hb : c.code = cc) {x y : Int} (hdg : decode cc pc = .ok (.ldiv, 1)) (hxr : -9223372036854775808 ≤ x ∧ x < 9223372036854775808) (hy : 0 < y ∧ y < 9223372036854775808)
    (k : W p l e R s m args below meth c H locs cells slots Q (F0 m (pc + 1) ls (vL (x.tdiv y) :: rest))) : W p l e R s m args below meth c H locs cells slots Q (F0 m pc ls (vL y :: vL x :: rest)) := lv_ldiv hx hb hdg (by intro h; have h2 := congrArg Int64.toInt h; rw [zL_toInt ⟨by omega, hy.2⟩] at h2; have h3 : (0 : Int64).toInt = 0 := rfl; omega) (by rw [zL_tdiv hxr hy]; exact k)
theorem z_lrem (hx : p.tables.exec = Jvm.exec) (hb : c.code = cc) {x y : Int} (hdg : decode cc pc = .ok (.lrem, 1)) (hxr : -9223372036854775808 ≤ x ∧ x < 9223372036854775808) (hy : 0 < y ∧ y < 9223372036854775808)
    (k : W p l e R s m args below meth c H locs cells slots Q (F0 m (pc + 1) ls (vL (x.tmod y) :: rest))) : W p l e R s m args below meth c H locs cells slots Q (F0 m pc ls (vL y :: vL x :: rest)) := lv_lrem hx hb hdg (by intro h; have h2 := congrArg Int64.toInt h; rw [zL_toInt ⟨by omega, hy.2⟩] at h2; have h3 : (0 : Int64).toInt = 0 := rfl; omega) (by rw [zL_tmod hxr hy]; exact k)
theorem z_i2l (hx : p.tables.exec = Jvm.exec) (hb : c.code = cc) {x : Int} (hdg : decode cc pc = .ok (.i2l, 1)) (hxr : -2147483648 ≤ x ∧ x < 2147483648)
    (k : W p l e R s m args below meth c H locs cells slots Q (F0 m (pc + 1) ls (vL x :: rest))) : W p l e R s m args below meth c H locs cells slots Q (F0 m pc ls (vI x :: rest)) := lv_i2l hx hb hdg (zI_toL hxr) k
theorem z_l2i (hx : p.tables.exec = Jvm.exec) (hb : c.code = cc) {x : Int} (hdg : decode cc pc = .ok (.l2i, 1))
    (k : W p l e R s m args below meth c H locs cells slots Q (F0 m (pc + 1) ls (vI x :: rest))) : W p l e R s m args below meth c H locs cells slots Q (F0 m pc ls (vL x :: rest)) := lv_l2i hx hb hdg (zL_toI x) k
theorem z_icmp_eq (hx : p.tables.exec = Jvm.exec) (hb : c.code = cc) {x y : Int} {off : Int} {tgt : Nat} (hdg : decode cc pc = .ok (.if_icmp .eq off, 3)) (ht : (pc : Int) + off = (tgt : Int)) (hxr : -2147483648 ≤ x ∧ x < 2147483648) (hyr : -2147483648 ≤ y ∧ y < 2147483648)
    (kt : x = y → W p l e R s m args below meth c H locs cells slots Q (F0 m tgt ls rest)) (kf : x ≠ y → W p l e R s m args below meth c H locs cells slots Q (F0 m (pc + 3) ls rest)) : W p l e R s m args below meth c H locs cells slots Q (F0 m pc ls (vI y :: vI x :: rest)) := by
  refine lv_icmp_eq hx hb hdg ht (fun h => kt ?_) (fun h => kf ?_)
  · exact (zI_eq hxr hyr).mp h
  · exact fun z => h ((zI_eq hxr hyr).mpr z)
theorem z_if_eq (hx : p.tables.exec = Jvm.exec) (hb : c.code = cc) {x : Int} {off : Int} {tgt : Nat} (hdg : decode cc pc = .ok (.ifCond .eq off, 3)) (ht : (pc : Int) + off = (tgt : Int)) (hxr : -2147483648 ≤ x ∧ x < 2147483648)
    (kt : x = 0 → W p l e R s m args below meth c H locs cells slots Q (F0 m tgt ls rest)) (kf : x ≠ 0 → W p l e R s m args below meth c H locs cells slots Q (F0 m (pc + 3) ls rest)) : W p l e R s m args below meth c H locs cells slots Q (F0 m pc ls (vI x :: rest)) := by
  have hyr : -2147483648 ≤ (0 : Int) ∧ (0 : Int) < 2147483648 := by decide
  have e0 : (0 : Int32) = zI 0 := rfl
  refine lv_if_eq hx hb hdg ht (fun h => kt ?_) (fun h => kf ?_) <;> rw [e0] at h
  · exact (zI_eq hxr hyr).mp h
  · exact fun z => h ((zI_eq hxr hyr).mpr z)
theorem z_icmp_ne (hx : p.tables.exec = Jvm.exec) (hb : c.code = cc) {x y : Int} {off : Int} {tgt : Nat} (hdg : decode cc pc = .ok (.if_icmp .ne off, 3)) (ht : (pc : Int) + off = (tgt : Int)) (hxr : -2147483648 ≤ x ∧ x < 2147483648) (hyr : -2147483648 ≤ y ∧ y < 2147483648)
    (kt : x ≠ y → W p l e R s m args below meth c H locs cells slots Q (F0 m tgt ls rest)) (kf : x = y → W p l e R s m args below meth c H locs cells slots Q (F0 m (pc + 3) ls rest)) : W p l e R s m args below meth c H locs cells slots Q (F0 m pc ls (vI y :: vI x :: rest)) := by
  refine lv_icmp_ne hx hb hdg ht (fun h => kt ?_) (fun h => kf ?_)
  · exact fun z => h ((zI_eq hxr hyr).mpr z)
  · first | exact (zI_eq hxr hyr).mp h | exact (zI_eq hxr hyr).mp (Decidable.not_not.mp h)
theorem z_if_ne (hx : p.tables.exec = Jvm.exec) (hb : c.code = cc) {x : Int} {off : Int} {tgt : Nat} (hdg : decode cc pc = .ok (.ifCond .ne off, 3)) (ht : (pc : Int) + off = (tgt : Int)) (hxr : -2147483648 ≤ x ∧ x < 2147483648)
    (kt : x ≠ 0 → W p l e R s m args below meth c H locs cells slots Q (F0 m tgt ls rest)) (kf : x = 0 → W p l e R s m args below meth c H locs cells slots Q (F0 m (pc + 3) ls rest)) : W p l e R s m args below meth c H locs cells slots Q (F0 m pc ls (vI x :: rest)) := by
  have hyr : -2147483648 ≤ (0 : Int) ∧ (0 : Int) < 2147483648 := by decide
  have e0 : (0 : Int32) = zI 0 := rfl
  refine lv_if_ne hx hb hdg ht (fun h => kt ?_) (fun h => kf ?_) <;> rw [e0] at h
  · exact fun z => h ((zI_eq hxr hyr).mpr z)
  · first | exact (zI_eq hxr hyr).mp h | exact (zI_eq hxr hyr).mp (Decidable.not_not.mp h)
theorem z_icmp_lt (hx : p.tables.exec = Jvm.exec) (hb : c.code = cc) {x y : Int} {off : Int} {tgt : Nat} (hdg : decode cc pc = .ok (.if_icmp .lt off, 3)) (ht : (pc : Int) + off = (tgt : Int)) (hxr : -2147483648 ≤ x ∧ x < 2147483648) (hyr : -2147483648 ≤ y ∧ y < 2147483648)
    (kt : x < y → W p l e R s m args below meth c H locs cells slots Q (F0 m tgt ls rest)) (kf : y ≤ x → W p l e R s m args below meth c H locs cells slots Q (F0 m (pc + 3) ls rest)) : W p l e R s m args below meth c H locs cells slots Q (F0 m pc ls (vI y :: vI x :: rest)) := by
  refine lv_icmp_lt hx hb hdg ht (fun h => kt ?_) (fun h => kf ?_)
  · exact (zI_lt hxr hyr).mp h
  · have := mt (zI_lt hxr hyr).mpr h; omega
theorem z_if_lt (hx : p.tables.exec = Jvm.exec) (hb : c.code = cc) {x : Int} {off : Int} {tgt : Nat} (hdg : decode cc pc = .ok (.ifCond .lt off, 3)) (ht : (pc : Int) + off = (tgt : Int)) (hxr : -2147483648 ≤ x ∧ x < 2147483648)
    (kt : x < 0 → W p l e R s m args below meth c H locs cells slots Q (F0 m tgt ls rest)) (kf : 0 ≤ x → W p l e R s m args below meth c H locs cells slots Q (F0 m (pc + 3) ls rest)) : W p l e R s m args below meth c H locs cells slots Q (F0 m pc ls (vI x :: rest)) := by
  have hyr : -2147483648 ≤ (0 : Int) ∧ (0 : Int) < 2147483648 := by decide
  have e0 : (0 : Int32) = zI 0 := rfl
  refine lv_if_lt hx hb hdg ht (fun h => kt ?_) (fun h => kf ?_) <;> rw [e0] at h
  · exact (zI_lt hxr hyr).mp h
  · have := mt (zI_lt hxr hyr).mpr h; omega
theorem z_icmp_ge (hx : p.tables.exec = Jvm.exec) (hb : c.code = cc) {x y : Int} {off : Int} {tgt : Nat} (hdg : decode cc pc = .ok (.if_icmp .ge off, 3)) (ht : (pc : Int) + off = (tgt : Int)) (hxr : -2147483648 ≤ x ∧ x < 2147483648) (hyr : -2147483648 ≤ y ∧ y < 2147483648)
    (kt : y ≤ x → W p l e R s m args below meth c H locs cells slots Q (F0 m tgt ls rest)) (kf : x < y → W p l e R s m args below meth c H locs cells slots Q (F0 m (pc + 3) ls rest)) : W p l e R s m args below meth c H locs cells slots Q (F0 m pc ls (vI y :: vI x :: rest)) := by
  refine lv_icmp_ge hx hb hdg ht (fun h => kt ?_) (fun h => kf ?_)
  · first | exact (zI_le hyr hxr).mp h | (have := mt (zI_lt hxr hyr).mpr h; omega)
  · first | (have := mt (zI_le hyr hxr).mpr h; omega) | (have := (zI_lt hxr hyr).mp (Decidable.not_not.mp h); omega)
theorem z_if_ge (hx : p.tables.exec = Jvm.exec) (hb : c.code = cc) {x : Int} {off : Int} {tgt : Nat} (hdg : decode cc pc = .ok (.ifCond .ge off, 3)) (ht : (pc : Int) + off = (tgt : Int)) (hxr : -2147483648 ≤ x ∧ x < 2147483648)
    (kt : 0 ≤ x → W p l e R s m args below meth c H locs cells slots Q (F0 m tgt ls rest)) (kf : x < 0 → W p l e R s m args below meth c H locs cells slots Q (F0 m (pc + 3) ls rest)) : W p l e R s m args below meth c H locs cells slots Q (F0 m pc ls (vI x :: rest)) := by
  have hyr : -2147483648 ≤ (0 : Int) ∧ (0 : Int) < 2147483648 := by decide
  have e0 : (0 : Int32) = zI 0 := rfl
  refine lv_if_ge hx hb hdg ht (fun h => kt ?_) (fun h => kf ?_) <;> rw [e0] at h
  · first | exact (zI_le hyr hxr).mp h | (have := mt (zI_lt hxr hyr).mpr h; omega)
  · first | (have := mt (zI_le hyr hxr).mpr h; omega) | (have := (zI_lt hxr hyr).mp (Decidable.not_not.mp h); omega)
theorem z_icmp_gt (hx : p.tables.exec = Jvm.exec) (hb : c.code = cc) {x y : Int} {off : Int} {tgt : Nat} (hdg : decode cc pc = .ok (.if_icmp .gt off, 3)) (ht : (pc : Int) + off = (tgt : Int)) (hxr : -2147483648 ≤ x ∧ x < 2147483648) (hyr : -2147483648 ≤ y ∧ y < 2147483648)
    (kt : y < x → W p l e R s m args below meth c H locs cells slots Q (F0 m tgt ls rest)) (kf : x ≤ y → W p l e R s m args below meth c H locs cells slots Q (F0 m (pc + 3) ls rest)) : W p l e R s m args below meth c H locs cells slots Q (F0 m pc ls (vI y :: vI x :: rest)) := by
  refine lv_icmp_gt hx hb hdg ht (fun h => kt ?_) (fun h => kf ?_)
  · first | exact (zI_lt hyr hxr).mp h | (have := mt (zI_le hxr hyr).mpr h; omega)
  · first | (have := mt (zI_lt hyr hxr).mpr h; omega) | (have := (zI_le hxr hyr).mp (Decidable.not_not.mp h); omega)
theorem z_if_gt (hx : p.tables.exec = Jvm.exec) (hb : c.code = cc) {x : Int} {off : Int} {tgt : Nat} (hdg : decode cc pc = .ok (.ifCond .gt off, 3)) (ht : (pc : Int) + off = (tgt : Int)) (hxr : -2147483648 ≤ x ∧ x < 2147483648)
    (kt : 0 < x → W p l e R s m args below meth c H locs cells slots Q (F0 m tgt ls rest)) (kf : x ≤ 0 → W p l e R s m args below meth c H locs cells slots Q (F0 m (pc + 3) ls rest)) : W p l e R s m args below meth c H locs cells slots Q (F0 m pc ls (vI x :: rest)) := by
  have hyr : -2147483648 ≤ (0 : Int) ∧ (0 : Int) < 2147483648 := by decide
  have e0 : (0 : Int32) = zI 0 := rfl
  refine lv_if_gt hx hb hdg ht (fun h => kt ?_) (fun h => kf ?_) <;> rw [e0] at h
  · first | exact (zI_lt hyr hxr).mp h | (have := mt (zI_le hxr hyr).mpr h; omega)
  · first | (have := mt (zI_lt hyr hxr).mpr h; omega) | (have := (zI_le hxr hyr).mp (Decidable.not_not.mp h); omega)
theorem z_icmp_le (hx : p.tables.exec = Jvm.exec) (hb : c.code = cc) {x y : Int} {off : Int} {tgt : Nat} (hdg : decode cc pc = .ok (.if_icmp .le off, 3)) (ht : (pc : Int) + off = (tgt : Int)) (hxr : -2147483648 ≤ x ∧ x < 2147483648) (hyr : -2147483648 ≤ y ∧ y < 2147483648)
    (kt : x ≤ y → W p l e R s m args below meth c H locs cells slots Q (F0 m tgt ls rest)) (kf : y < x → W p l e R s m args below meth c H locs cells slots Q (F0 m (pc + 3) ls rest)) : W p l e R s m args below meth c H locs cells slots Q (F0 m pc ls (vI y :: vI x :: rest)) := by
  refine lv_icmp_le hx hb hdg ht (fun h => kt ?_) (fun h => kf ?_)
  · exact (zI_le hxr hyr).mp h
  · have := mt (zI_le hxr hyr).mpr h; omega
theorem z_if_le (hx : p.tables.exec = Jvm.exec) (hb : c.code = cc) {x : Int} {off : Int} {tgt : Nat} (hdg : decode cc pc = .ok (.ifCond .le off, 3)) (ht : (pc : Int) + off = (tgt : Int)) (hxr : -2147483648 ≤ x ∧ x < 2147483648)
    (kt : x ≤ 0 → W p l e R s m args below meth c H locs cells slots Q (F0 m tgt ls rest)) (kf : 0 < x → W p l e R s m args below meth c H locs cells slots Q (F0 m (pc + 3) ls rest)) : W p l e R s m args below meth c H locs cells slots Q (F0 m pc ls (vI x :: rest)) := by
  have hyr : -2147483648 ≤ (0 : Int) ∧ (0 : Int) < 2147483648 := by decide
  have e0 : (0 : Int32) = zI 0 := rfl
  refine lv_if_le hx hb hdg ht (fun h => kt ?_) (fun h => kf ?_) <;> rw [e0] at h
  · exact (zI_le hxr hyr).mp h
  · have := mt (zI_le hxr hyr).mpr h; omega
theorem z_ifp_eq (hx : p.tables.exec = Jvm.exec) (hb : c.code = cc) {P : Prop} [Decidable P] {off : Int} {tgt : Nat} (hdg : decode cc pc = .ok (.ifCond .eq off, 3)) (ht : (pc : Int) + off = (tgt : Int))
    (kt : ¬ P → W p l e R s m args below meth c H locs cells slots Q (F0 m tgt ls rest)) (kf : P → W p l e R s m args below meth c H locs cells slots Q (F0 m (pc + 3) ls rest)) : W p l e R s m args below meth c H locs cells slots Q (F0 m pc ls (vI (pI P) :: rest)) := by
  have hr := pI_rng P
  refine z_if_eq hx hb hdg ht (by omega) (fun h => kt ?_) (fun h => kf ?_)
  · intro hP; rw [pI_t hP] at h; exact absurd h (by decide)
  · rcases Decidable.em P with hP | hP
    · exact hP
    · exact absurd (pI_f hP) h
theorem z_ifp_ne (hx : p.tables.exec = Jvm.exec) (hb : c.code = cc) {P : Prop} [Decidable P] {off : Int} {tgt : Nat} (hdg : decode cc pc = .ok (.ifCond .ne off, 3)) (ht : (pc : Int) + off = (tgt : Int))
    (kt : P → W p l e R s m args below meth c H locs cells slots Q (F0 m tgt ls rest)) (kf : ¬ P → W p l e R s m args below meth c H locs cells slots Q (F0 m (pc + 3) ls rest)) : W p l e R s m args below meth c H locs cells slots Q (F0 m pc ls (vI (pI P) :: rest)) := by
  have hr := pI_rng P
  refine z_if_ne hx hb hdg ht (by omega) (fun h => kt ?_) (fun h => kf ?_)
  · rcases Decidable.em P with hP | hP
    · exact hP
    · exact absurd (pI_f hP) h
  · intro hP; rw [pI_t hP] at h; exact absurd h (by decide)
theorem lg_cmp_z {x y : Int} (hxr : -9223372036854775808 ≤ x ∧ x < 9223372036854775808) (hyr : -9223372036854775808 ≤ y ∧ y < 9223372036854775808) : lg_cmp (zL x) (zL y) = zI (if y < x then 1 else if x < y then -1 else 0) := by
  unfold lg_cmp
  rcases Int.lt_trichotomy x y with h | h | h
  · have h1 : ¬ zL y < zL x := mt (zL_lt hyr hxr).mp (by omega)
    have h2 : zL x < zL y := (zL_lt hxr hyr).mpr h
    rw [if_neg (show ¬ y < x by omega), if_pos h]
    simp [h1, h2, Int64.ne_of_lt h2]
    try rfl
  · subst h
    rw [if_neg (show ¬ x < x by omega), if_neg (show ¬ x < x by omega)]
    have h1 : ¬ zL x < zL x := mt (zL_lt hxr hxr).mp (by omega)
    simp [h1]
    try rfl
  · have h1 : zL y < zL x := (zL_lt hyr hxr).mpr h
    rw [if_pos h]
    simp [h1]
    try rfl
theorem z_lcmp_eq (hx : p.tables.exec = Jvm.exec) (hb : c.code = cc) {x y : Int} {off : Int} {tgt : Nat} (hdg : decode cc pc = .ok (.lcmp, 1)) (hdg2 : decode cc (pc + 1) = .ok (.ifCond .eq off, 3)) (ht : ((pc + 1 : Nat) : Int) + off = (tgt : Int)) (hxr : -9223372036854775808 ≤ x ∧ x < 9223372036854775808) (hyr : -9223372036854775808 ≤ y ∧ y < 9223372036854775808)
    (kt : x = y → W p l e R s m args below meth c H locs cells slots Q (F0 m tgt ls rest)) (kf : x ≠ y → W p l e R s m args below meth c H locs cells slots Q (F0 m (pc + 1 + 3) ls rest)) : W p l e R s m args below meth c H locs cells slots Q (F0 m pc ls (vL y :: vL x :: rest)) := by
  refine W.lcmp hx hb hdg ?_
  rw [lg_cmp_z hxr hyr]
  refine z_if_eq hx hb hdg2 ht (by split <;> (try split) <;> decide) (fun h => kt ?_) (fun h => kf ?_)
  all_goals (split at h <;> (try split at h) <;> omega)
theorem z_lcmp_ne (hx : p.tables.exec = Jvm.exec) (hb : c.code = cc) {x y : Int} {off : Int} {tgt : Nat} (hdg : decode cc pc = .ok (.lcmp, 1)) (hdg2 : decode cc (pc + 1) = .ok (.ifCond .ne off, 3)) (ht : ((pc + 1 : Nat) : Int) + off = (tgt : Int)) (hxr : -9223372036854775808 ≤ x ∧ x < 9223372036854775808) (hyr : -9223372036854775808 ≤ y ∧ y < 9223372036854775808)
    (kt : x ≠ y → W p l e R s m args below meth c H locs cells slots Q (F0 m tgt ls rest)) (kf : x = y → W p l e R s m args below meth c H locs cells slots Q (F0 m (pc + 1 + 3) ls rest)) : W p l e R s m args below meth c H locs cells slots Q (F0 m pc ls (vL y :: vL x :: rest)) := by
  refine W.lcmp hx hb hdg ?_
  rw [lg_cmp_z hxr hyr]
  refine z_if_ne hx hb hdg2 ht (by split <;> (try split) <;> decide) (fun h => kt ?_) (fun h => kf ?_)
  all_goals (split at h <;> (try split at h) <;> omega)
theorem z_lcmp_lt (hx : p.tables.exec = Jvm.exec) (hb : c.code = cc) {x y : Int} {off : Int} {tgt : Nat} (hdg : decode cc pc = .ok (.lcmp, 1)) (hdg2 : decode cc (pc + 1) = .ok (.ifCond .lt off, 3)) (ht : ((pc + 1 : Nat) : Int) + off = (tgt : Int)) (hxr : -9223372036854775808 ≤ x ∧ x < 9223372036854775808) (hyr : -9223372036854775808 ≤ y ∧ y < 9223372036854775808)
    (kt : x < y → W p l e R s m args below meth c H locs cells slots Q (F0 m tgt ls rest)) (kf : y ≤ x → W p l e R s m args below meth c H locs cells slots Q (F0 m (pc + 1 + 3) ls rest)) : W p l e R s m args below meth c H locs cells slots Q (F0 m pc ls (vL y :: vL x :: rest)) := by
  refine W.lcmp hx hb hdg ?_
  rw [lg_cmp_z hxr hyr]
  refine z_if_lt hx hb hdg2 ht (by split <;> (try split) <;> decide) (fun h => kt ?_) (fun h => kf ?_)
  all_goals (split at h <;> (try split at h) <;> omega)
theorem z_lcmp_ge (hx : p.tables.exec = Jvm.exec) (hb : c.code = cc) {x y : Int} {off : Int} {tgt : Nat} (hdg : decode cc pc = .ok (.lcmp, 1)) (hdg2 : decode cc (pc + 1) = .ok (.ifCond .ge off, 3)) (ht : ((pc + 1 : Nat) : Int) + off = (tgt : Int)) (hxr : -9223372036854775808 ≤ x ∧ x < 9223372036854775808) (hyr : -9223372036854775808 ≤ y ∧ y < 9223372036854775808)
    (kt : y ≤ x → W p l e R s m args below meth c H locs cells slots Q (F0 m tgt ls rest)) (kf : x < y → W p l e R s m args below meth c H locs cells slots Q (F0 m (pc + 1 + 3) ls rest)) : W p l e R s m args below meth c H locs cells slots Q (F0 m pc ls (vL y :: vL x :: rest)) := by
  refine W.lcmp hx hb hdg ?_
  rw [lg_cmp_z hxr hyr]
  refine z_if_ge hx hb hdg2 ht (by split <;> (try split) <;> decide) (fun h => kt ?_) (fun h => kf ?_)
  all_goals (split at h <;> (try split at h) <;> omega)
theorem z_lcmp_gt (hx : p.tables.exec = Jvm.exec) (hb : c.code = cc) {x y : Int} {off : Int} {tgt : Nat} (hdg : decode cc pc = .ok (.lcmp, 1)) (hdg2 : decode cc (pc + 1) = .ok (.ifCond .gt off, 3)) (ht : ((pc + 1 : Nat) : Int) + off = (tgt : Int)) (hxr : -9223372036854775808 ≤ x ∧ x < 9223372036854775808) (hyr : -9223372036854775808 ≤ y ∧ y < 9223372036854775808)
    (kt : y < x → W p l e R s m args below meth c H locs cells slots Q (F0 m tgt ls rest)) (kf : x ≤ y → W p l e R s m args below meth c H locs cells slots Q (F0 m (pc + 1 + 3) ls rest)) : W p l e R s m args below meth c H locs cells slots Q (F0 m pc ls (vL y :: vL x :: rest)) := by
  refine W.lcmp hx hb hdg ?_
  rw [lg_cmp_z hxr hyr]
  refine z_if_gt hx hb hdg2 ht (by split <;> (try split) <;> decide) (fun h => kt ?_) (fun h => kf ?_)
  all_goals (split at h <;> (try split at h) <;> omega)
theorem z_lcmp_le (hx : p.tables.exec = Jvm.exec) (hb : c.code = cc) {x y : Int} {off : Int} {tgt : Nat} (hdg : decode cc pc = .ok (.lcmp, 1)) (hdg2 : decode cc (pc + 1) = .ok (.ifCond .le off, 3)) (ht : ((pc + 1 : Nat) : Int) + off = (tgt : Int)) (hxr : -9223372036854775808 ≤ x ∧ x < 9223372036854775808) (hyr : -9223372036854775808 ≤ y ∧ y < 9223372036854775808)
    (kt : x ≤ y → W p l e R s m args below meth c H locs cells slots Q (F0 m tgt ls rest)) (kf : y < x → W p l e R s m args below meth c H locs cells slots Q (F0 m (pc + 1 + 3) ls rest)) : W p l e R s m args below meth c H locs cells slots Q (F0 m pc ls (vL y :: vL x :: rest)) := by
  refine W.lcmp hx hb hdg ?_
  rw [lg_cmp_z hxr hyr]
  refine z_if_le hx hb hdg2 ht (by split <;> (try split) <;> decide) (fun h => kt ?_) (fun h => kf ?_)
  all_goals (split at h <;> (try split at h) <;> omega)
end ZK
