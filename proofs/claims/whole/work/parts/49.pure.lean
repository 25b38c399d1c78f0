/-! rounds of the driven one, and bits of longs -/
def lshlZ (x y : Int) : Int := (zL x <<< ((zI y).toInt64 &&& 63)).toInt
def lshrZ (x y : Int) : Int := (zL x >>> ((zI y).toInt64 &&& 63)).toInt
def landZ (x y : Int) : Int := (zL x &&& zL y).toInt
def lorZ (x y : Int) : Int := (zL x ||| zL y).toInt
theorem landZ_rng (x y : Int) : -9223372036854775808 ≤ landZ x y ∧ landZ x y < 9223372036854775808 := ⟨Int64.le_toInt _, Int64.toInt_lt _⟩
abbrev bitZ (f : Int → Int) (x : Int) : Prop := landZ (lshrZ (f (x / 64)) (x % 64)) 1 = 1
theorem sh_ct : ∀ i : Fin 64, (((zI ((i : Nat) : Int)).toInt64 &&& 63).toBitVec.smod 64#64).toNat = (i : Nat) := by decide
theorem sh_ct2 {i : Int} (h : 0 ≤ i ∧ i < 64) : (((zI i).toInt64 &&& 63).toBitVec.smod 64#64).toNat = Int.toNat i := by
  have := sh_ct ⟨Int.toNat i, by omega⟩
  rw [show (((⟨Int.toNat i, by omega⟩ : Fin 64) : Nat) : Int) = i by show ((Int.toNat i : Nat) : Int) = i; omega] at this
  exact this
theorem bv_one (x : BitVec 64) : x &&& 1#64 = 1#64 ↔ x.getLsbD 0 = true := by
  rw [BitVec.and_one_eq_setWidth_ofBool_getLsbD]
  cases x.getLsbD 0 <;> decide
theorem bit_w {w i : Int} (h : 0 ≤ i ∧ i < 64) : landZ (lshrZ w i) 1 = 1 ↔ (zL w).toBitVec.getLsbD (Int.toNat i) = true := by
  have e1 : landZ (lshrZ w i) 1 = 1 ↔ (zL (lshrZ w i) &&& zL 1) = zL 1 := by
    constructor
    · intro z
      have := congrArg zL z
      unfold landZ at this
      rw [zL_self] at this
      exact this
    · intro z
      unfold landZ
      rw [z]; rfl
  rw [e1]
  unfold lshrZ
  rw [zL_self, ← Int64.toBitVec_inj, Int64.toBitVec_and, Int64.toBitVec_shiftRight, BitVec.sshiftRight_eq']
  rw [show (zL 1).toBitVec = 1#64 from rfl, bv_one, BitVec.getLsbD_sshiftRight]
  rw [show ((64 : BitVec 64)) = 64#64 from rfl, sh_ct2 h]
  rw [Nat.add_zero, if_pos (show Int.toNat i < 64 by omega)]
  simp
theorem bit_or {w i j : Int} (h : 0 ≤ i ∧ i < 64) (hj : 0 ≤ j ∧ j < 64) : landZ (lshrZ (lorZ w (lshlZ 1 j)) i) 1 = 1 ↔ (landZ (lshrZ w i) 1 = 1 ∨ i = j) := by
  rw [bit_w h, bit_w h]
  unfold lorZ lshlZ
  rw [zL_self, zL_self, Int64.toBitVec_or, Int64.toBitVec_shiftLeft, BitVec.shiftLeft_eq', show ((64 : BitVec 64)) = 64#64 from rfl, sh_ct2 hj, BitVec.getLsbD_or, BitVec.getLsbD_shiftLeft, show (zL 1).toBitVec = 1#64 from rfl, BitVec.getLsbD_one]
  rw [Bool.or_eq_true]
  refine or_congr Iff.rfl ?_
  simp only [Bool.and_eq_true, decide_eq_true_eq, Bool.not_eq_true', decide_eq_false_iff_not]
  omega
theorem bit_set {f : Int → Int} {x y : Int} (hx : 0 ≤ x ∧ x < 4096) (hy : 0 ≤ y ∧ y < 4096) : bitZ (uZ f (y / 64) (lorZ (f (y / 64)) (lshlZ 1 (y % 64)))) x ↔ (bitZ f x ∨ x = y) := by
  unfold bitZ
  by_cases e : x / 64 = y / 64
  · rw [e, uZ_s, bit_or (by omega) (by omega)]
    refine or_congr Iff.rfl ?_
    omega
  · rw [uZ_n e]
    refine ⟨Or.inl, fun h => h.resolve_right (fun z => e (by rw [z]))⟩
theorem bit_0 {f : Int → Int} {x : Int} (h : f (x / 64) = 0) : ¬ bitZ f x := by
  unfold bitZ
  rw [h, bit_w (by omega)]
  rw [show (zL 0).toBitVec = 0#64 from rfl, BitVec.getLsbD_zero]
  decide
/-- rounds -/
theorem mv_un {k s : Int} (hs : 0 ≤ s ∧ s < 4096) : unZ k (mvZ k s) = s := by
  obtain ⟨a, b, -, -⟩ := mvZ_parts k s
  unfold unZ
  rw [a, b]
  generalize hq : kikZ (s / 64) k = q
  have e1 : ((s / 64 + (s % 64 + q) % 64) % 64 - (s % 64 + q) % 64) % 64 = s / 64 := by omega
  rw [e1, hq]
  omega
theorem mv_inj {k a b : Int} (ha : 0 ≤ a ∧ a < 4096) (hb : 0 ≤ b ∧ b < 4096) (h : mvZ k a = mvZ k b) : a = b := by
  rw [← mv_un (k := k) ha, ← mv_un (k := k) hb, h]
theorem mv_it {k s : Int} (hs : 0 ≤ s ∧ s < 4096) : ∀ n, 0 ≤ itZ (mvZ k) n s ∧ itZ (mvZ k) n s < 4096 := itZ_in (fun x => (mvZ_parts k x).2.2) hs
theorem it_add {α : Type} (f : α → α) (x : α) (b : Nat) : ∀ a, itZ f (a + b) x = itZ f a (itZ f b x)
  | 0 => by rw [Nat.zero_add]; rfl
  | a + 1 => by rw [show a + 1 + b = (a + b) + 1 by omega]; show f (itZ f (a + b) x) = f (itZ f a (itZ f b x)); rw [it_add f x b a]
theorem it_back {k s : Int} (hs : 0 ≤ s ∧ s < 4096) : ∀ (a d : Nat), itZ (mvZ k) a s = itZ (mvZ k) (a + d) s → itZ (mvZ k) d s = s
  | 0, d, h => by rw [Nat.zero_add] at h; exact h.symm
  | a + 1, d, h => by
    refine it_back hs a d ?_
    rw [show a + 1 + d = (a + d) + 1 by omega] at h
    exact mv_inj (mv_it hs _) (mv_it hs _) h
noncomputable def cyZ (k s : Int) : Int := ((repT (fun n => itZ (mvZ k) n s) : Nat) : Int)
theorem cy_rep {k s : Int} (hs : 0 ≤ s ∧ s < 4096) {T : Nat} (hT : 0 < T) (h : itZ (mvZ k) T s = s) (hno : ∀ n, 0 < n → n < T → itZ (mvZ k) n s ≠ s) : cyZ k s = T := by
  have r : repZ (fun n => itZ (mvZ k) n s) T 0 := by
    refine ⟨hT, h.symm, fun a b ab bT e => ?_⟩
    refine hno (b - a) (by omega) (by omega) (it_back hs a (b - a) ?_)
    rw [show a + (b - a) = b by omega]; exact e
  unfold cyZ
  rw [(repZ_of r).1]
theorem cy_le {k s : Int} (hs : 0 ≤ s ∧ s < 4096) {T : Nat} (hno : ∀ n, 0 < n → n < T → itZ (mvZ k) n s ≠ s) : T ≤ 4096 := by
  refine z_holes 4096 T (fun n => Int.toNat (itZ (mvZ k) n s)) (fun i hi => ?_) (fun i j ij jT e => ?_)
  · have := mv_it (k := k) hs i
    show Int.toNat (itZ (mvZ k) i s) < 4096
    omega
  · have a := mv_it (k := k) hs i
    have b := mv_it (k := k) hs j
    have e2 : Int.toNat (itZ (mvZ k) i s) = Int.toNat (itZ (mvZ k) j s) := e
    refine hno (j - i) (by omega) (by omega) (it_back hs i (j - i) ?_)
    rw [show i + (j - i) = j by omega]; omega
theorem cy_is {k s : Int} (hs : 0 ≤ s ∧ s < 4096) : ∃ T, 0 < T ∧ T ≤ 4096 ∧ itZ (mvZ k) T s = s ∧ ∀ n, 0 < n → n < T → itZ (mvZ k) n s ≠ s := by
  apply Classical.byContradiction
  intro z
  have : ∀ T, T ≤ 4097 → ∀ n, 0 < n → n < T → itZ (mvZ k) n s ≠ s := by
    intro T
    induction T with
    | zero => intro _ n _ h; omega
    | succ T ih =>
      intro hT n h1 h2 e
      by_cases q : n < T
      · exact ih (by omega) n h1 q e
      · have : n = T := by omega
        subst this
        exact z ⟨n, h1, by omega, e, ih (by omega)⟩
  have := cy_le hs (this 4097 (by omega))
  omega
theorem cy_rng {k s : Int} (hs : 0 ≤ s ∧ s < 4096) : 1 ≤ cyZ k s ∧ cyZ k s ≤ 4096 := by
  obtain ⟨T, a, b, c, d⟩ := cy_is (k := k) hs
  rw [cy_rep hs a c d]
  omega
theorem it_mul {k s : Int} {T : Nat} (h : itZ (mvZ k) T s = s) : ∀ m, itZ (mvZ k) (T * m) s = s
  | 0 => rfl
  | m + 1 => by rw [show T * (m + 1) = T * m + T by rw [Nat.mul_add, Nat.mul_one], it_add, h, it_mul h m]
theorem it_mod {k s : Int} {T : Nat} (h : itZ (mvZ k) T s = s) (n : Nat) : itZ (mvZ k) n s = itZ (mvZ k) (n % T) s := by
  conv => lhs; rw [show n = n % T + T * (n / T) from (Nat.mod_add_div n T).symm]
  rw [it_add, it_mul h]
/-- on one round -/
def onR (k s x : Int) : Prop := ∃ n, x = itZ (mvZ k) n s
theorem onR_lt {k s x : Int} {T : Nat} (hT : 0 < T) (h : itZ (mvZ k) T s = s) : onR k s x ↔ ∃ n, n < T ∧ x = itZ (mvZ k) n s :=
  ⟨fun ⟨n, e⟩ => ⟨n % T, Nat.mod_lt _ hT, e.trans (it_mod h n)⟩, fun ⟨n, _, e⟩ => ⟨n, e⟩⟩
/-- a round leads back to its start -/
theorem it_home {k s : Int} (hs : 0 ≤ s ∧ s < 4096) (t : Nat) : ∃ m, itZ (mvZ k) m (itZ (mvZ k) t s) = s := by
  obtain ⟨T, a, b, c, d⟩ := cy_is (k := k) hs
  refine ⟨T * t - t, ?_⟩
  rw [← it_add, show T * t - t + t = T * t by have : 1 * t ≤ T * t := Nat.mul_le_mul_right t a; omega, it_mul c]
theorem clo_it {k : Int} {f : Int → Int} (hc : ∀ x, 0 ≤ x → x < 4096 → f x = 1 → f (mvZ k x) = 1) {x : Int} (hx : 0 ≤ x ∧ x < 4096) (h : f x = 1) : ∀ n, f (itZ (mvZ k) n x) = 1
  | 0 => h
  | n + 1 => hc _ (mv_it hx n).1 (mv_it hx n).2 (clo_it hc hx h n)
/-- what is met of a round, t of it done -/
def mtI (k s : Int) (f g : Int → Int) (t : Nat) : Prop :=
  (∀ x, 0 ≤ x → x < 4096 → (g x = 0 ∨ g x = 1) ∧ (g x = 1 ↔ f x = 1 ∨ ∃ n, n < t ∧ x = itZ (mvZ k) n s)) ∧ (∀ n, 0 < n → n < t → itZ (mvZ k) n s ≠ s) ∧ (0 < t → f s ≠ 1)
theorem mt_0 {k s : Int} {f : Int → Int} (h : ∀ x, 0 ≤ x → x < 4096 → f x = 0 ∨ f x = 1) : mtI k s f f 0 :=
  ⟨fun x a b => ⟨h x a b, ⟨Or.inl, fun z => z.elim id (fun ⟨n, q, _⟩ => absurd q (Nat.not_lt_zero n))⟩⟩, fun n a b => by omega, fun z => by omega⟩
theorem mt_s {k s : Int} (hs : 0 ≤ s ∧ s < 4096) {f g : Int → Int} {t : Nat} (h : mtI k s f g t) (hn : g (itZ (mvZ k) t s) ≠ 1) : mtI k s f (uZ g (itZ (mvZ k) t s) 1) (t + 1) := by
  obtain ⟨h1, h2, h3⟩ := h
  have ht := mv_it (k := k) hs t
  have hno : ¬ (f (itZ (mvZ k) t s) = 1 ∨ ∃ n, n < t ∧ itZ (mvZ k) t s = itZ (mvZ k) n s) := fun z => hn ((h1 _ ht.1 ht.2).2.2 z)
  refine ⟨fun x a b => ?_, fun n a b e => ?_, fun _ z => ?_⟩
  · by_cases e : x = itZ (mvZ k) t s
    · rw [e, uZ_s]
      exact ⟨Or.inr rfl, fun _ => Or.inr ⟨t, by omega, rfl⟩, fun _ => rfl⟩
    · rw [uZ_n e]
      refine ⟨(h1 x a b).1, (h1 x a b).2.trans ⟨fun z => z.imp id (fun ⟨n, q, r⟩ => ⟨n, by omega, r⟩), fun z => z.imp id (fun ⟨n, q, r⟩ => ⟨n, ?_, r⟩)⟩⟩
      rcases Nat.lt_or_ge n t with y | y
      · exact y
      · exact absurd (by rw [r, show n = t by omega]) e
  · rcases Nat.lt_or_ge n t with y | y
    · exact h2 n a y e
    · have : n = t := by omega
      subst this
      exact hno (Or.inr ⟨0, a, e⟩)
  · rcases Nat.eq_zero_or_pos t with y | y
    · subst y; exact hno (Or.inl z)
    · exact h3 y z
theorem mt_end {k s : Int} (hs : 0 ≤ s ∧ s < 4096) {f g : Int → Int} {t : Nat} (hc : ∀ x, 0 ≤ x → x < 4096 → f x = 1 → f (mvZ k x) = 1) (h : mtI k s f g t) (hy : g (itZ (mvZ k) t s) = 1) :
    (t : Int) = (if f s = 1 then 0 else cyZ k s) ∧ ∀ x, 0 ≤ x → x < 4096 → (g x = 0 ∨ g x = 1) ∧ (g x = 1 ↔ f x = 1 ∨ onR k s x) := by
  obtain ⟨h1, h2, h3⟩ := h
  have ht := mv_it (k := k) hs t
  have hyes := (h1 _ ht.1 ht.2).2.1 hy
  rcases Nat.eq_zero_or_pos t with y | y
  · subst y
    have hf : f s = 1 := by
      rcases hyes with z | ⟨n, z, _⟩
      · exact z
      · omega
    rw [if_pos hf]
    refine ⟨rfl, fun x a b => ⟨(h1 x a b).1, (h1 x a b).2.trans ⟨fun z => z.elim Or.inl (fun ⟨n, q, _⟩ => absurd q (Nat.not_lt_zero n)), fun z => z.elim Or.inl (fun ⟨n, e⟩ => Or.inl ?_)⟩⟩⟩
    rw [e]; exact clo_it hc hs hf n
  · have hf := h3 y
    have hno : f (itZ (mvZ k) t s) ≠ 1 := fun z => by
      obtain ⟨m, e⟩ := it_home (k := k) hs t
      have := clo_it hc ht z m
      rw [e] at this
      exact hf this
    obtain ⟨n, n1, n2⟩ := hyes.resolve_left hno
    have e0 : itZ (mvZ k) (t - n) s = s := it_back hs n (t - n) (by rw [show n + (t - n) = t by omega]; exact n2.symm)
    have en : n = 0 := by
      rcases Nat.eq_zero_or_pos n with q | q
      · exact q
      · exact absurd e0 (h2 (t - n) (by omega) (by omega))
    subst en
    rw [Nat.sub_zero] at e0
    rw [if_neg hf, cy_rep hs y e0 h2]
    refine ⟨rfl, fun x a b => ⟨(h1 x a b).1, (h1 x a b).2.trans ?_⟩⟩
    rw [onR_lt y e0]
theorem mt_le {k s : Int} (hs : 0 ≤ s ∧ s < 4096) {f g : Int → Int} {t : Nat} (h : mtI k s f g t) : t ≤ 4096 := cy_le hs h.2.1
/-- what is seen of a round by bits, t of it done -/
def bsI (k s : Int) (f g : Int → Int) (t : Nat) : Prop :=
  (∀ x, 0 ≤ x → x < 4096 → (bitZ g x ↔ bitZ f x ∨ ∃ n, n < t ∧ x = itZ (mvZ k) n s)) ∧ (∀ n, 0 < n → n ≤ t → itZ (mvZ k) n s ≠ s)
theorem bs_0 {k s : Int} {f : Int → Int} : bsI k s f f 0 :=
  ⟨fun x a b => ⟨Or.inl, fun z => z.elim id (fun ⟨n, q, _⟩ => absurd q (Nat.not_lt_zero n))⟩, fun n a b => by omega⟩
theorem bs_s {k s : Int} (hs : 0 ≤ s ∧ s < 4096) {f g : Int → Int} {t : Nat} (h : bsI k s f g t) {y : Int} (hy : y = itZ (mvZ k) t s) :
    ∀ x, 0 ≤ x → x < 4096 → (bitZ (uZ g (y / 64) (lorZ (g (y / 64)) (lshlZ 1 (y % 64)))) x ↔ bitZ f x ∨ ∃ n, n < t + 1 ∧ x = itZ (mvZ k) n s) := by
  intro x a b
  have ht := mv_it (k := k) hs t
  rw [bit_set ⟨a, b⟩ (by rw [hy]; exact ht), h.1 x a b, hy]
  constructor
  · rintro ((z | ⟨n, q, r⟩) | z)
    · exact Or.inl z
    · exact Or.inr ⟨n, by omega, r⟩
    · exact Or.inr ⟨t, by omega, z⟩
  · rintro (z | ⟨n, q, r⟩)
    · exact Or.inl (Or.inl z)
    · rcases Nat.lt_or_ge n t with y | y
      · exact Or.inl (Or.inr ⟨n, y, r⟩)
      · exact Or.inr (by rw [r, show n = t by omega])
theorem bs_go {k s : Int} {f g g' : Int → Int} {t : Nat} (h : bsI k s f g t) (hb : ∀ x, 0 ≤ x → x < 4096 → (bitZ g' x ↔ bitZ f x ∨ ∃ n, n < t + 1 ∧ x = itZ (mvZ k) n s)) (hn : itZ (mvZ k) (t + 1) s ≠ s) : bsI k s f g' (t + 1) :=
  ⟨hb, fun n a b => by
    rcases Nat.lt_or_ge n (t + 1) with y | y
    · exact h.2 n a (by omega)
    · rw [show n = t + 1 by omega]; exact hn⟩
theorem bs_end {k s : Int} (hs : 0 ≤ s ∧ s < 4096) {f g g' : Int → Int} {t : Nat} (h : bsI k s f g t) (hb : ∀ x, 0 ≤ x → x < 4096 → (bitZ g' x ↔ bitZ f x ∨ ∃ n, n < t + 1 ∧ x = itZ (mvZ k) n s)) (hn : itZ (mvZ k) (t + 1) s = s) :
    cyZ k s = ((t + 1 : Nat) : Int) ∧ ∀ x, 0 ≤ x → x < 4096 → (bitZ g' x ↔ bitZ f x ∨ onR k s x) := by
  refine ⟨cy_rep hs (by omega) hn (fun n a b => h.2 n a (by omega)), fun x a b => ?_⟩
  rw [hb x a b, onR_lt (by omega) hn]
theorem bs_le {k s : Int} (hs : 0 ≤ s ∧ s < 4096) {f g : Int → Int} {t : Nat} (h : bsI k s f g t) : t + 1 ≤ 4096 := cy_le (k := k) hs (fun n a b => h.2 n a (by omega))
/-- visited from the first states -/
def viZ (k s x : Int) : Prop := ∃ s', 0 ≤ s' ∧ s' < s ∧ onR k s' x
theorem vi_0 {k x : Int} : ¬ viZ k 0 x := fun ⟨s', a, b, _⟩ => by omega
theorem vi_s {k s x : Int} (hs : 0 ≤ s) : viZ k (s + 1) x ↔ viZ k s x ∨ onR k s x := by
  constructor
  · rintro ⟨s', a, b, c⟩
    by_cases e : s' = s
    · subst e; exact Or.inr c
    · exact Or.inl ⟨s', a, by omega, c⟩
  · rintro (⟨s', a, b, c⟩ | z)
    · exact ⟨s', a, by omega, c⟩
    · exact ⟨s, hs, by omega, z⟩
theorem vi_mv {k s x : Int} (h : viZ k s x) : viZ k s (mvZ k x) := by
  obtain ⟨s', a, b, n, e⟩ := h
  exact ⟨s', a, b, n + 1, by rw [e]; rfl⟩
/-- a state already on an earlier round brings nothing new -/
theorem vi_on {k s x : Int} (h : viZ k s s) (hx : onR k s x) : viZ k s x := by
  obtain ⟨s', a, b, n, e⟩ := h
  obtain ⟨m, e2⟩ := hx
  exact ⟨s', a, b, m + n, by rw [it_add, ← e]; exact e2⟩
noncomputable def rdZ (k len s : Int) : Int := @ite _ (viZ k s s) (Classical.propDecidable _) 0 (pI (len = -1 ∨ cyZ k s = len))
theorem rd_y {k len s : Int} (h : viZ k s s) : rdZ k len s = 0 := by unfold rdZ; exact if_pos h
theorem rd_n {k len s : Int} (h : ¬ viZ k s s) : rdZ k len s = pI (len = -1 ∨ cyZ k s = len) := by unfold rdZ; exact if_neg h
