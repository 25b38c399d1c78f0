/-! floats: no result here is a NaN -/
def okD : FP.Core.Datum → Prop
  | .nan => False
  | .inf _ => True
  | .fin _ c q => c < 16777216 ∧ q ≤ 104
def fNn (x : UInt32) : Prop := x.toNat % 2147483648 ≤ 2139095040
def fFi (x : UInt32) : Prop := x.toNat % 2147483648 < 2139095040
theorem fFi.n {x : UInt32} (h : fFi x) : fNn x := Nat.le_of_lt h
theorem fNn.v {x : UInt32} (h : fNn x) : vf_n32 x := by
  unfold vf_n32
  rw [UInt32.le_iff_toNat_le, UInt32.toNat_and]
  show x.toNat &&& 2147483647 ≤ 2139095040
  rw [show (2147483647 : Nat) = 2 ^ 31 - 1 by decide, Nat.and_two_pow_sub_one_eq_mod]
  exact h
section FC
theorem b32_t : FP.Core.b32.tails = 8388608 := by decide
theorem b32_e : FP.Core.b32.exps = 256 := by decide
theorem b32_q : FP.Core.b32.qmin = -149 := by decide
theorem b32_Q : FP.Core.b32.qmax = 104 := by decide
theorem enc_n {d : FP.Core.Datum} (h : okD d) : FP.Core.encode FP.Core.b32 d < 4294967296 ∧ FP.Core.encode FP.Core.b32 d % 2147483648 ≤ 2139095040 := by
  cases d with
  | nan => exact h.elim
  | inf s =>
    show FP.Core.assemble FP.Core.b32 s (FP.Core.b32.exps - 1) 0 < _ ∧ FP.Core.assemble FP.Core.b32 s (FP.Core.b32.exps - 1) 0 % _ ≤ _
    unfold FP.Core.assemble; rw [b32_t, b32_e]
    cases s <;> decide
  | fin s c q =>
    obtain ⟨h1, h2⟩ := h
    show (if c < FP.Core.b32.tails then FP.Core.assemble FP.Core.b32 s 0 c else FP.Core.assemble FP.Core.b32 s ((q - FP.Core.b32.qmin).toNat + 1) (c - FP.Core.b32.tails)) < _ ∧ (if c < FP.Core.b32.tails then FP.Core.assemble FP.Core.b32 s 0 c else FP.Core.assemble FP.Core.b32 s ((q - FP.Core.b32.qmin).toNat + 1) (c - FP.Core.b32.tails)) % _ ≤ _
    unfold FP.Core.assemble
    rw [b32_t, b32_e, b32_q]
    cases s
    · rw [show (false : Bool).toNat = 0 from rfl]
      split <;> omega
    · rw [show (true : Bool).toNat = 1 from rfl]
      split <;> omega
theorem enc_f {s : Bool} {c : Nat} {q : Int} (h : okD (.fin s c q)) : FP.Core.encode FP.Core.b32 (.fin s c q) < 4294967296 ∧ FP.Core.encode FP.Core.b32 (.fin s c q) % 2147483648 < 2139095040 := by
  obtain ⟨h1, h2⟩ := h
  show (if c < FP.Core.b32.tails then FP.Core.assemble FP.Core.b32 s 0 c else FP.Core.assemble FP.Core.b32 s ((q - FP.Core.b32.qmin).toNat + 1) (c - FP.Core.b32.tails)) < _ ∧ (if c < FP.Core.b32.tails then FP.Core.assemble FP.Core.b32 s 0 c else FP.Core.assemble FP.Core.b32 s ((q - FP.Core.b32.qmin).toNat + 1) (c - FP.Core.b32.tails)) % _ < _
  unfold FP.Core.assemble
  rw [b32_t, b32_e, b32_q]
  cases s
  · rw [show (false : Bool).toNat = 0 from rfl]
    split <;> omega
  · rw [show (true : Bool).toNat = 1 from rfl]
    split <;> omega
theorem of_n {n : Nat} (h : n < 4294967296 ∧ n % 2147483648 ≤ 2139095040) : fNn (UInt32.ofNat n) := by
  unfold fNn
  rw [UInt32.toNat_ofNat', Nat.mod_eq_of_lt h.1]; exact h.2
theorem of_f {n : Nat} (h : n < 4294967296 ∧ n % 2147483648 < 2139095040) : fFi (UInt32.ofNat n) := by
  unfold fFi
  rw [UInt32.toNat_ofNat', Nat.mod_eq_of_lt h.1]; exact h.2
theorem dec_n {x : UInt32} (h : fNn x) : FP.Core.decode FP.Core.b32 x.toNat ≠ .nan := by
  unfold fNn at h
  unfold FP.Core.decode FP.Core.fieldE FP.Core.fieldT
  rw [b32_t, b32_e]
  split
  · split
    · exact fun e => FP.Core.Datum.noConfusion e
    · omega
  · split <;> exact fun e => FP.Core.Datum.noConfusion e
theorem dec_f {x : UInt32} (h : fFi x) : ∃ s c q, FP.Core.decode FP.Core.b32 x.toNat = .fin s c q := by
  unfold fFi at h
  unfold FP.Core.decode
  by_cases e1 : FP.Core.fieldE FP.Core.b32 x.toNat = FP.Core.b32.exps - 1
  · exfalso
    unfold FP.Core.fieldE at e1
    rw [b32_t, b32_e] at e1
    omega
  · rw [if_neg e1]
    by_cases e2 : FP.Core.fieldE FP.Core.b32 x.toNat = 0
    · rw [if_pos e2]; exact ⟨_, _, _, rfl⟩
    · rw [if_neg e2]; exact ⟨_, _, _, rfl⟩
theorem bound_ok {s : Bool} {c : Nat} {q : Int} (h : c < 16777216) : okD (FP.Core.bound FP.Core.b32 s c q) := by
  unfold FP.Core.bound
  rw [b32_Q]
  split
  · exact ⟨h, by assumption⟩
  · trivial
theorem settle_ok {s : Bool} {c : Nat} {q : Int} : okD (FP.Core.settle FP.Core.b32 s c q) := by
  unfold FP.Core.settle
  split
  · exact bound_ok (by assumption)
  · exact bound_ok (by rw [b32_t]; decide)
theorem ratio_ok {s : Bool} {a b : Nat} {e : Int} : okD (FP.Core.roundRatio FP.Core.b32 s a b e) := by
  unfold FP.Core.roundRatio
  split
  · exact ⟨by decide, by rw [b32_q]; decide⟩
  · exact settle_ok
theorem round_ok {d : FP.Core.Datum} (h : d ≠ .nan) : okD (FP.Core.round FP.Core.b32 d) := by
  cases d with
  | nan => exact absurd rfl h
  | inf s => trivial
  | fin s c q => exact ratio_ok
theorem lead_le {a : Nat} : FP.Core.leading a 1 ≤ a.log2 := by
  unfold FP.Core.leading
  simp only []
  split <;> (rw [show Nat.log2 1 = 0 by decide]; omega)
theorem round_int {s : Bool} {c : Nat} (h : c < 2 ^ 64) : ∃ c' q', FP.Core.round FP.Core.b32 (.fin s c 0) = .fin s c' q' := by
  show ∃ c' q', FP.Core.roundRatio FP.Core.b32 s c 1 0 = .fin s c' q'
  unfold FP.Core.roundRatio
  split
  · exact ⟨_, _, rfl⟩
  · rename_i hc
    have l1 : c.log2 < 64 := (Nat.log2_lt hc).2 h
    have l2 := lead_le (a := c)
    unfold FP.Core.roundAt FP.Core.settle
    have hq : FP.Core.quantum FP.Core.b32 c 1 0 ≤ 40 := by
      unfold FP.Core.quantum
      rw [b32_q]
      have : ((FP.Core.b32.p : Nat) : Int) = 24 := by decide
      omega
    generalize FP.Core.quantum FP.Core.b32 c 1 0 = q at hq
    generalize FP.Core.nearest (FP.Core.unitsNum c 0 q) (FP.Core.unitsDen 1 0 q) = k
    unfold FP.Core.bound
    rw [b32_Q, if_pos (show q ≤ 104 by omega), if_pos (show q + 1 ≤ 104 by omega)]
    split
    · exact ⟨_, _, rfl⟩
    · exact ⟨_, _, rfl⟩
theorem fin_of_int {i : Int} (h : i.natAbs < 2 ^ 64) : fFi (UInt32.ofNat (FP.Core.fromInt FP.Core.b32 i)) := by
  unfold FP.Core.fromInt FP.Core.ofInt
  obtain ⟨c, q, e⟩ := round_int (s := decide (i < 0)) h
  have ok : okD (FP.Core.round FP.Core.b32 (.fin (decide (i < 0)) i.natAbs 0)) := round_ok (fun z => FP.Core.Datum.noConfusion z)
  rw [e] at ok ⊢
  exact of_f (enc_f ok)
theorem i2f_fi (v : Int32) : fFi (FP.i2f v) := by
  have h1 := Int32.le_toInt v
  have h2 := Int32.toInt_lt v
  exact fin_of_int (i := v.toInt) (by omega)
theorem l2f_fi (v : Int64) : fFi (FP.l2f v) := by
  have h1 := Int64.le_toInt v
  have h2 := Int64.toInt_lt v
  exact fin_of_int (i := v.toInt) (by omega)
theorem fmul_ff {x y : UInt32} (hx : fFi x) (hy : fFi y) : fNn (FP.fmul x y) := by
  obtain ⟨s, c, q, e⟩ := dec_f hx
  obtain ⟨t, d, r, g⟩ := dec_f hy
  refine of_n (enc_n (round_ok ?_))
  show FP.Core.exactProduct (FP.Core.decode FP.Core.b32 x.toNat) (FP.Core.decode FP.Core.b32 y.toNat) ≠ _
  rw [e, g]
  exact fun z => FP.Core.Datum.noConfusion z
theorem fmul_nc {x y : UInt32} (hx : fNn x) {t : Bool} {d : Nat} {r : Int} (hy : FP.Core.decode FP.Core.b32 y.toNat = .fin t d r) (hd : d ≠ 0) : fNn (FP.fmul x y) := by
  have h := dec_n hx
  refine of_n (enc_n (round_ok ?_))
  show FP.Core.exactProduct (FP.Core.decode FP.Core.b32 x.toNat) (FP.Core.decode FP.Core.b32 y.toNat) ≠ _
  rw [hy]
  cases e : FP.Core.decode FP.Core.b32 x.toNat with
  | nan => exact absurd e h
  | inf s => show (if d = 0 then FP.Core.Datum.nan else _) ≠ _; rw [if_neg hd]; exact fun z => FP.Core.Datum.noConfusion z
  | fin s c q => exact fun z => FP.Core.Datum.noConfusion z
theorem fsub_nf {x y : UInt32} (hx : fNn x) (hy : fFi y) : fNn (FP.fsub x y) := by
  have h := dec_n hx
  obtain ⟨t, d, r, g⟩ := dec_f hy
  refine of_n (enc_n (round_ok ?_))
  show FP.Core.exactSum (FP.Core.decode FP.Core.b32 x.toNat) (FP.Core.negate (FP.Core.decode FP.Core.b32 y.toNat)) ≠ _
  rw [g]
  cases e : FP.Core.decode FP.Core.b32 x.toNat with
  | nan => exact absurd e h
  | inf s => exact fun z => FP.Core.Datum.noConfusion z
  | fin s c q => exact fun z => FP.Core.Datum.noConfusion z
theorem fsub_fn {x y : UInt32} (hx : fFi x) (hy : fNn y) : fNn (FP.fsub x y) := by
  have h := dec_n hy
  obtain ⟨t, d, r, g⟩ := dec_f hx
  refine of_n (enc_n (round_ok ?_))
  show FP.Core.exactSum (FP.Core.decode FP.Core.b32 x.toNat) (FP.Core.negate (FP.Core.decode FP.Core.b32 y.toNat)) ≠ _
  rw [g]
  cases e : FP.Core.decode FP.Core.b32 y.toNat with
  | nan => exact absurd e h
  | inf s => exact fun z => FP.Core.Datum.noConfusion z
  | fin s c q => exact fun z => FP.Core.Datum.noConfusion z
theorem fdiv_nc {x y : UInt32} (hx : fNn x) {t : Bool} {d : Nat} {r : Int} (hy : FP.Core.decode FP.Core.b32 y.toNat = .fin t d r) (hd : d ≠ 0) : fNn (FP.fdiv x y) := by
  have h := dec_n hx
  refine of_n (enc_n ?_)
  show okD (FP.Core.quotient FP.Core.b32 (FP.Core.decode FP.Core.b32 x.toNat) (FP.Core.decode FP.Core.b32 y.toNat))
  rw [hy]
  cases e : FP.Core.decode FP.Core.b32 x.toNat with
  | nan => exact absurd e h
  | inf s => trivial
  | fin s c q => show okD (if d = 0 then _ else _); rw [if_neg hd]; exact ratio_ok
end FC
/-- the plane's turn -/
def absZ (x : Int) : Int := if x < 0 then -x else x
abbrev m9Z (a : Int) : UInt32 := FP.i2f (zI (a * (180 - a)))
def s9Z (a : Int) : UInt32 := FP.fdiv (FP.fmul 1082130432 (m9Z a)) (FP.fsub 1193161728 (m9Z a))
theorem s9_fin : ∀ a : Fin 91, (FP.fdiv (FP.fmul 1082130432 (m9Z ((a : Nat) : Int))) (FP.fsub 1193161728 (m9Z ((a : Nat) : Int)))).toNat % 2147483648 < 2139095040 ∧ (FP.fmul 1082130432 (m9Z ((a : Nat) : Int))).toNat % 2147483648 ≤ 2139095040 ∧ (FP.fsub 1193161728 (m9Z ((a : Nat) : Int))).toNat % 2147483648 ≤ 2139095040 := by decide +kernel
theorem s9_f {a : Int} (h : 0 ≤ a ∧ a ≤ 90) : fFi (s9Z a) ∧ fNn (FP.fmul 1082130432 (m9Z a)) ∧ fNn (FP.fsub 1193161728 (m9Z a)) := by
  have q := s9_fin ⟨Int.toNat a, by omega⟩
  have e : (((⟨Int.toNat a, by omega⟩ : Fin 91) : Nat) : Int) = a := by show ((Int.toNat a : Nat) : Int) = a; omega
  rw [e] at q
  exact q
def t9Z (a n : Int) : UInt32 := FP.fmul (FP.fmul (s9Z a) (FP.i2f (zI n))) 1048576000
theorem t9_f {a n : Int} (h : 0 ≤ a ∧ a ≤ 90) : fNn (FP.fmul (s9Z a) (FP.i2f (zI n))) ∧ fNn (t9Z a n) := by
  have h1 : fNn (FP.fmul (s9Z a) (FP.i2f (zI n))) := fmul_ff (s9_f h).1 (i2f_fi _)
  exact ⟨h1, fmul_nc h1 (t := false) (d := 8388608) (r := -25) (by decide +kernel) (by decide)⟩
def trZ (la n : Int) : UInt32 := if la < 0 then FP.fsub 0 (t9Z (absZ la) n) else t9Z (absZ la) n
theorem f0_fi : fFi 0 := by unfold fFi; decide
theorem tr_f {la n : Int} (h : -90 ≤ la ∧ la ≤ 90) : fNn (t9Z (absZ la) n) ∧ fNn (FP.fsub 0 (t9Z (absZ la) n)) ∧ fNn (trZ la n) := by
  have h1 := (t9_f (a := absZ la) (n := n) (by unfold absZ; split <;> omega)).2
  have h2 := fsub_fn f0_fi h1
  refine ⟨h1, h2, ?_⟩
  unfold trZ
  split
  · exact h2
  · exact h1
def ms0Z (la : Int) (h : UInt32) : UInt32 := FP.fsub (FP.fmul (trZ la 60) 1120403456) h
def fltZ (x y : UInt32) : Prop := (Op.cmpValue (FP.fcmp x y) .g).toInt < 0
noncomputable def fifZ {α : Type} (P : Prop) (a b : α) : α := @ite α P (Classical.propDecidable P) a b
noncomputable def msZ (la : Int) (h : UInt32) : UInt32 := fifZ (fltZ (ms0Z la h) 0) (FP.fsub 0 (ms0Z la h)) (ms0Z la h)
theorem ms_f {la : Int} {h : UInt32} (hl : -90 ≤ la ∧ la ≤ 90) (hh : fFi h) : fNn (FP.fmul (trZ la 60) 1120403456) ∧ fNn (ms0Z la h) ∧ fNn (FP.fsub 0 (ms0Z la h)) := by
  have h1 : fNn (FP.fmul (trZ la 60) 1120403456) := fmul_nc (tr_f hl).2.2 (t := false) (d := 13107200) (r := -17) (by decide +kernel) (by decide)
  have h2 := fsub_nf h1 hh
  exact ⟨h1, h2, fsub_fn f0_fi h2⟩
noncomputable def nlZ (h : UInt32) : Nat → Int × UInt32
  | 0 => (-90, msZ (-90) h)
  | n + 1 => fifZ (fltZ (msZ (-89 + (n : Int)) h) (nlZ h n).2) (-89 + (n : Int), msZ (-89 + (n : Int)) h) (nlZ h n)
theorem nl_y {h : UInt32} {k : Int} (hk : -89 ≤ k) (q : fltZ (msZ k h) (nlZ h (Int.toNat (k + 89))).2) : nlZ h (Int.toNat (k + 1 + 89)) = (k, msZ k h) := by
  rw [show Int.toNat (k + 1 + 89) = Int.toNat (k + 89) + 1 by omega]
  show fifZ (fltZ (msZ (-89 + ((Int.toNat (k + 89) : Nat) : Int)) h) _) _ _ = _
  rw [show -89 + ((Int.toNat (k + 89) : Nat) : Int) = k by omega]
  unfold fifZ; exact if_pos q
theorem nl_n {h : UInt32} {k : Int} (hk : -89 ≤ k) (q : ¬ fltZ (msZ k h) (nlZ h (Int.toNat (k + 89))).2) : nlZ h (Int.toNat (k + 1 + 89)) = nlZ h (Int.toNat (k + 89)) := by
  rw [show Int.toNat (k + 1 + 89) = Int.toNat (k + 89) + 1 by omega]
  show fifZ (fltZ (msZ (-89 + ((Int.toNat (k + 89) : Nat) : Int)) h) _) _ _ = _
  rw [show -89 + ((Int.toNat (k + 89) : Nat) : Int) = k by omega]
  unfold fifZ; exact if_neg q
theorem fif_y {α : Type} {P : Prop} {a b : α} (h : P) : fifZ P a b = a := if_pos h
theorem fif_n {α : Type} {P : Prop} {a b : α} (h : ¬ P) : fifZ P a b = b := if_neg h
/-- the energy's share -/
def cNz (d : Jvm.FP.Core.Datum) : Bool := match d with
  | .fin _ c _ => c != 0
  | _ => false
theorem sh_fin : ∀ a : Fin 9, a = 0 ∨ cNz (Jvm.FP.Core.decode Jvm.FP.Core.b32 (FP.i2f (zI ((a : Nat) : Int))).toNat) = true := by decide +kernel
theorem sh_f {x : UInt32} (hx : fNn x) {n : Int} (h : 1 ≤ n ∧ n ≤ 8) : fNn (FP.fdiv x (FP.i2f (zI n))) := by
  have q := (sh_fin ⟨Int.toNat n, by omega⟩).resolve_left (fun z => by have := congrArg Fin.val z; have e2 : Int.toNat n = 0 := this; omega)
  have e : (((⟨Int.toNat n, by omega⟩ : Fin 9) : Nat) : Int) = n := by show ((Int.toNat n : Nat) : Int) = n; omega
  rw [e] at q
  cases g : Jvm.FP.Core.decode Jvm.FP.Core.b32 (FP.i2f (zI n)).toNat with
  | nan => rw [g] at q; exact Bool.noConfusion q
  | inf s => rw [g] at q; exact Bool.noConfusion q
  | fin s c r =>
    rw [g] at q
    exact fdiv_nc hx g (bne_iff_ne.1 q)
/-! comparing floats -/
section ZF
variable {p : Program} {l : Launch} {e : Env} {R : Room} {s : State} {m : MethodId} {args : Array Value} {below : List Frame} {meth : Method} {c : Code} {H : Heap} {locs : List Loc} {cells slots : Nat} {Q : State → Prop} {cc : ByteArray} {pc : Nat} {ls : Array Slot} {rest : List Value}
theorem z_fcmpge (hx : p.tables.exec = Jvm.exec) (hb : c.code = cc) {x y : UInt32} {off : Int} {tgt : Nat} (hdg : decode cc pc = .ok (.fcmp .g, 1)) (hdg2 : decode cc (pc + 1) = .ok (.ifCond .ge off, 3)) (ht : ((pc + 1 : Nat) : Int) + off = (tgt : Int))
    (kt : ¬ fltZ x y → W p l e R s m args below meth c H locs cells slots Q (F0 m tgt ls rest)) (kf : fltZ x y → W p l e R s m args below meth c H locs cells slots Q (F0 m (pc + 1 + 3) ls rest)) : W p l e R s m args below meth c H locs cells slots Q (F0 m pc ls (.float y :: .float x :: rest)) := by
  refine lv_fcmp hx hb hdg ?_
  rw [← zI_self (Op.cmpValue (FP.fcmp x y) .g)]
  refine z_if_ge hx hb hdg2 ht (zI_rng _) (fun h => kt ?_) (fun h => kf ?_)
  · unfold fltZ; omega
  · unfold fltZ; omega
end ZF
