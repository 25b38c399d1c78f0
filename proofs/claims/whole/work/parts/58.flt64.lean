/-! doubles: a float that is no NaN, made a double, is none, and equals itself -/
def okE : FP.Core.Datum → Prop
  | .nan => False
  | .inf _ => True
  | .fin _ c q => c < 9007199254740992 ∧ q ≤ 971
def dNn (x : UInt64) : Prop := x.toNat % 9223372036854775808 ≤ 9218868437227405312
theorem dNn.v {x : UInt64} (h : dNn x) : vf_n64 x := by
  unfold vf_n64
  rw [UInt64.le_iff_toNat_le, UInt64.toNat_and]
  show x.toNat &&& 9223372036854775807 ≤ 9218868437227405312
  rw [show (9223372036854775807 : Nat) = 2 ^ 63 - 1 by decide, Nat.and_two_pow_sub_one_eq_mod]
  exact h
section FD
theorem b64_t : FP.Core.b64.tails = 4503599627370496 := by decide
theorem b64_e : FP.Core.b64.exps = 2048 := by decide
theorem b64_q : FP.Core.b64.qmin = -1074 := by decide
theorem b64_Q : FP.Core.b64.qmax = 971 := by decide
theorem enc64_n {d : FP.Core.Datum} (h : okE d) : FP.Core.encode FP.Core.b64 d < 18446744073709551616 ∧ FP.Core.encode FP.Core.b64 d % 9223372036854775808 ≤ 9218868437227405312 := by
  cases d with
  | nan => exact h.elim
  | inf s =>
    show FP.Core.assemble FP.Core.b64 s (FP.Core.b64.exps - 1) 0 < _ ∧ FP.Core.assemble FP.Core.b64 s (FP.Core.b64.exps - 1) 0 % _ ≤ _
    unfold FP.Core.assemble; rw [b64_t, b64_e]
    cases s <;> decide
  | fin s c q =>
    obtain ⟨h1, h2⟩ := h
    show (if c < FP.Core.b64.tails then FP.Core.assemble FP.Core.b64 s 0 c else FP.Core.assemble FP.Core.b64 s ((q - FP.Core.b64.qmin).toNat + 1) (c - FP.Core.b64.tails)) < _ ∧ (if c < FP.Core.b64.tails then FP.Core.assemble FP.Core.b64 s 0 c else FP.Core.assemble FP.Core.b64 s ((q - FP.Core.b64.qmin).toNat + 1) (c - FP.Core.b64.tails)) % _ ≤ _
    unfold FP.Core.assemble
    rw [b64_t, b64_e, b64_q]
    cases s
    · rw [show (false : Bool).toNat = 0 from rfl]
      split <;> omega
    · rw [show (true : Bool).toNat = 1 from rfl]
      split <;> omega
theorem of_n64 {n : Nat} (h : n < 18446744073709551616 ∧ n % 9223372036854775808 ≤ 9218868437227405312) : dNn (UInt64.ofNat n) := by
  unfold dNn
  rw [UInt64.toNat_ofNat', Nat.mod_eq_of_lt h.1]; exact h.2
theorem dec64_n {x : UInt64} (h : dNn x) : FP.Core.decode FP.Core.b64 x.toNat ≠ .nan := by
  unfold dNn at h
  unfold FP.Core.decode FP.Core.fieldE FP.Core.fieldT
  rw [b64_t, b64_e]
  split
  · split
    · exact fun e => FP.Core.Datum.noConfusion e
    · omega
  · split <;> exact fun e => FP.Core.Datum.noConfusion e
theorem bound64_ok {s : Bool} {c : Nat} {q : Int} (h : c < 9007199254740992) : okE (FP.Core.bound FP.Core.b64 s c q) := by
  unfold FP.Core.bound
  rw [b64_Q]
  split
  · exact ⟨h, by assumption⟩
  · trivial
theorem settle64_ok {s : Bool} {c : Nat} {q : Int} : okE (FP.Core.settle FP.Core.b64 s c q) := by
  unfold FP.Core.settle
  split
  · exact bound64_ok (by assumption)
  · exact bound64_ok (by rw [b64_t]; decide)
theorem ratio64_ok {s : Bool} {a b : Nat} {e : Int} : okE (FP.Core.roundRatio FP.Core.b64 s a b e) := by
  unfold FP.Core.roundRatio
  split
  · exact ⟨by decide, by rw [b64_q]; decide⟩
  · exact settle64_ok
theorem round64_ok {d : FP.Core.Datum} (h : d ≠ .nan) : okE (FP.Core.round FP.Core.b64 d) := by
  cases d with
  | nan => exact absurd rfl h
  | inf s => trivial
  | fin s c q => exact ratio64_ok
theorem f2d_nn {x : UInt32} (h : fNn x) : dNn (FP.f2d x) := by
  have hn : FP.Core.fIsNaN x = false := by
    show decide (FP.Core.decode FP.Core.b32 x.toNat = .nan) = false
    exact decide_eq_false (dec_n h)
  have e : FP.f2d x = FP.Core.f2d x := by
    show (if FP.Core.fIsNaN x then _ else _) = _
    rw [hn]; rfl
  rw [e]
  show dNn (UInt64.ofNat (FP.Core.encode FP.Core.b64 (FP.Core.round FP.Core.b64 (FP.Core.decode FP.Core.b32 x.toNat))))
  exact of_n64 (enc64_n (round64_ok (dec_n h)))
theorem f2d_ok {x : UInt32} (h : fNn x) : vf_n64 (FP.f2d x) := (f2d_nn h).v
theorem cmp_self (i : Int) : compare i i = Ordering.eq := by
  show (if i < i then Ordering.lt else if i = i then Ordering.eq else Ordering.gt) = _
  rw [if_neg (Int.lt_irrefl i), if_pos rfl]
theorem dcmp_self {y : UInt64} (h : dNn y) : FP.dcmp y y = some .eq := by
  have q := dec64_n h
  show FP.Core.order (FP.Core.decode FP.Core.b64 y.toNat) (FP.Core.decode FP.Core.b64 y.toNat) = _
  cases e : FP.Core.decode FP.Core.b64 y.toNat with
  | nan => exact absurd e q
  | inf s => show some (compare (FP.Core.signed s 1) (FP.Core.signed s 1)) = _; rw [cmp_self]
  | fin s c r => show some (compare _ _) = _; rw [cmp_self]
theorem dcv_self {x : UInt32} (h : fNn x) (op : CmpOp) : Op.cmpValue (FP.dcmp (FP.f2d x) (FP.f2d x)) op = zI 0 := by
  rw [dcmp_self (f2d_nn h)]; rfl
theorem tr_n {la n : Int} (h : -90 ≤ la ∧ la ≤ 90) : fNn (trZ la n) := (tr_f h).2.2
end FD
