/-! the survey, as plain functions -/
def difZ (st : Int → Int) : Nat → Bool
  | 0 => true
  | k + 1 => difZ st k && (decide (k = 0) || decide (st k ≠ st ((k : Int) - 1)))
theorem difZ_1 (st : Int → Int) : difZ st (Int.toNat 1) = true := rfl
theorem difZ_s {st : Int → Int} {k : Int} (hk : 1 ≤ k) : difZ st (Int.toNat (k + 1)) = (difZ st (Int.toNat k) && decide (st k ≠ st (k - 1))) := by
  rw [show Int.toNat (k + 1) = Int.toNat k + 1 by omega]
  show (difZ st (Int.toNat k) && (decide (Int.toNat k = 0) || decide (st ((Int.toNat k : Nat) : Int) ≠ st (((Int.toNat k : Nat) : Int) - 1)))) = _
  rw [show ((Int.toNat k : Nat) : Int) = k by omega, decide_eq_false (show ¬ Int.toNat k = 0 by omega), Bool.false_or]
theorem difZ_no {st : Int → Int} : ∀ {n k : Nat}, k ≤ n → difZ st k = false → difZ st n = false
  | 0, k, h, e => by rw [show k = 0 by omega] at e; exact e
  | n + 1, k, h, e => by
    rcases Nat.lt_or_ge n k with q | q
    · rw [show k = n + 1 by omega] at e; exact e
    · show (difZ st n && _) = false
      rw [difZ_no q e]; rfl
/-- readings as they may be -/
def rdOK (n : Int) (st hr vl : Int → Int) : Prop := (0 ≤ n ∧ n ≤ 12) ∧ (∀ j, 0 ≤ j → j < 12 → (0 ≤ st j ∧ st j ≤ 9) ∧ (0 ≤ hr j ∧ hr j ≤ 10000) ∧ (-1000000 ≤ vl j ∧ vl j ≤ 1000000)) ∧ ∀ i j, 0 ≤ i → i < j → j < n → hr i < hr j
/-- a value, the drift taken out -/
def wvZ (n : Int) (hr vl : Int → Int) (r : Int) : Int := vl r - (vl (n - 1) - vl 0) * (hr r - hr 0) / (hr (n - 1) - hr 0)
theorem wvZ_0 (n : Int) (hr vl : Int → Int) : wvZ n hr vl 0 = vl 0 := by
  unfold wvZ; rw [Int.sub_self, Int.mul_zero, Int.zero_ediv, Int.sub_zero]
theorem wvZ_m {n : Int} {st hr vl : Int → Int} (h : rdOK n st hr vl) (h3 : 3 ≤ n) {r : Int} (hr0 : 0 ≤ r ∧ r < n) :
    (1 ≤ hr (n - 1) - hr 0 ∧ hr (n - 1) - hr 0 ≤ 10000) ∧ (0 ≤ hr r - hr 0 ∧ hr r - hr 0 ≤ hr (n - 1) - hr 0) ∧ (-20000000000 ≤ (vl (n - 1) - vl 0) * (hr r - hr 0) ∧ (vl (n - 1) - vl 0) * (hr r - hr 0) ≤ 20000000000) ∧ (-3000001 ≤ wvZ n hr vl r ∧ wvZ n hr vl r ≤ 3000001) := by
  obtain ⟨hn, hv, hi⟩ := h
  have a0 := hv 0 (by omega) (by omega)
  have a1 := hv (n - 1) (by omega) (by omega)
  have a2 := hv r (by omega) (by omega)
  have b1 := hi 0 (n - 1) (by omega) (by omega) (by omega)
  have b2 : hr 0 ≤ hr r := by
    rcases Int.lt_or_le 0 r with q | q
    · have := hi 0 r (by omega) q hr0.2; omega
    · have : r = 0 := by omega
      rw [this]; omega
  have b3 : hr r ≤ hr (n - 1) := by
    rcases Int.lt_or_le r (n - 1) with q | q
    · have := hi r (n - 1) hr0.1 q (by omega); omega
    · have : r = n - 1 := by omega
      rw [this]; omega
  have hd : -2000000 ≤ vl (n - 1) - vl 0 ∧ vl (n - 1) - vl 0 ≤ 2000000 := by omega
  have m0 : (vl (n - 1) - vl 0) * (hr r - hr 0) = (hr r - hr 0) * (vl (n - 1) - vl 0) := Int.mul_comm _ _
  have m1 := z_mulr (a := hr r - hr 0) (A := 10000) (by omega) hd
  have m2 := z_mulr (a := hr r - hr 0) (A := hr (n - 1) - hr 0) (by omega) hd
  refine ⟨by omega, by omega, by omega, ?_⟩
  have m3 : (vl (n - 1) - vl 0) * (hr r - hr 0) / (hr (n - 1) - hr 0) ≤ 2000000 := by
    refine Int.ediv_le_of_le_mul (by omega) ?_
    have e : 2000000 * (hr (n - 1) - hr 0) = (hr (n - 1) - hr 0) * 2000000 := Int.mul_comm _ _
    omega
  have m4 : -2000000 ≤ (vl (n - 1) - vl 0) * (hr r - hr 0) / (hr (n - 1) - hr 0) := by
    rw [Int.le_ediv_iff_mul_le (by omega)]
    have e : -2000000 * (hr (n - 1) - hr 0) = -((hr (n - 1) - hr 0) * 2000000) := by rw [Int.neg_mul, Int.mul_comm]
    omega
  unfold wvZ
  omega
/-- the ties told by the first readings -/
def tlT (n : Int) (st hr vl : Int → Int) (T : Int → Int) : Nat → Int → Int
  | 0 => T
  | k + 1 => uZ (uZ (tlT n st hr vl T k) (st k * 10 + st ((k : Int) + 1)) (wvZ n hr vl ((k : Int) + 1) - wvZ n hr vl k)) (st ((k : Int) + 1) * 10 + st k) (-(wvZ n hr vl ((k : Int) + 1) - wvZ n hr vl k))
def tlB (st : Int → Int) (T : Int → Int) : Nat → Int → Int
  | 0 => T
  | k + 1 => uZ (uZ (tlB st T k) (st k * 10 + st ((k : Int) + 1)) 1) (st ((k : Int) + 1) * 10 + st k) 1
theorem tlT_s (n : Int) (st hr vl T : Int → Int) {k : Int} (hk : 1 ≤ k) : tlT n st hr vl T (Int.toNat (k + 1 - 1)) = uZ (uZ (tlT n st hr vl T (Int.toNat (k - 1))) (st (k - 1) * 10 + st k) (wvZ n hr vl k - wvZ n hr vl (k - 1))) (st k * 10 + st (k - 1)) (-(wvZ n hr vl k - wvZ n hr vl (k - 1))) := by
  rw [show Int.toNat (k + 1 - 1) = Int.toNat (k - 1) + 1 by omega]
  show uZ (uZ (tlT n st hr vl T (Int.toNat (k - 1))) (st ((Int.toNat (k - 1) : Nat) : Int) * 10 + st (((Int.toNat (k - 1) : Nat) : Int) + 1)) _) _ _ = _
  rw [show ((Int.toNat (k - 1) : Nat) : Int) = k - 1 by omega, show k - 1 + 1 = k by omega]
theorem tlB_s (st T : Int → Int) {k : Int} (hk : 1 ≤ k) : tlB st T (Int.toNat (k + 1 - 1)) = uZ (uZ (tlB st T (Int.toNat (k - 1))) (st (k - 1) * 10 + st k) 1) (st k * 10 + st (k - 1)) 1 := by
  rw [show Int.toNat (k + 1 - 1) = Int.toNat (k - 1) + 1 by omega]
  show uZ (uZ (tlB st T (Int.toNat (k - 1))) (st ((Int.toNat (k - 1) : Nat) : Int) * 10 + st (((Int.toNat (k - 1) : Nat) : Int) + 1)) 1) _ 1 = _
  rw [show ((Int.toNat (k - 1) : Nat) : Int) = k - 1 by omega, show k - 1 + 1 = k by omega]
/-- ties as they may be -/
def tyOK (B T : Int → Int) : Prop := (∀ j, 0 ≤ j → j < 100 → (B j = 0 ∨ B j = 1) ∧ (-7000000 ≤ T j ∧ T j ≤ 7000000))
theorem tyOK_put {B T : Int → Int} {a b d : Int} (h : tyOK B T) (hd : -7000000 ≤ d ∧ d ≤ 7000000) : tyOK (uZ (uZ B a 1) b 1) (uZ (uZ T a d) b (-d)) := by
  intro j j1 j2
  have q := h j j1 j2
  by_cases e : j = b
  · rw [e, uZ_s, uZ_s]; omega
  · rw [uZ_n e, uZ_n e]
    by_cases e2 : j = a
    · rw [e2, uZ_s, uZ_s]; omega
    · rw [uZ_n e2, uZ_n e2]; exact q
/-- the pairs with a tie -/
def tpZ (B : Int → Int) : Int := smZ (fun a => smZ (fun b => if a < b then pI (B (a * 10 + b) = 1) else 0) 10) 10
def anyZ (p : Int → Bool) : Nat → Bool
  | 0 => false
  | n + 1 => anyZ p n || p n
theorem anyZ_s (p : Int → Bool) {b : Int} (hb : 0 ≤ b) : anyZ p (Int.toNat (b + 1)) = (anyZ p (Int.toNat b) || p b) := by
  rw [show Int.toNat (b + 1) = Int.toNat b + 1 by omega]
  show (anyZ p (Int.toNat b) || p ((Int.toNat b : Nat) : Int)) = _
  rw [show ((Int.toNat b : Nat) : Int) = b by omega]
/-- a layer more: from the stations of the first b that are so far -/
def lstZ (B st : Int → Int) (far : Int) (b : Nat) : Int → Int := fun k => if st k ≠ -1 then st k else if anyZ (fun c => decide (B (c * 10 + k) = 1 ∧ st c = far)) b = true then far + 1 else -1
/-- how far each station is, up to some layers -/
def lyZ (B : Int → Int) (dat : Int) : Nat → Int → Int
  | 0 => fun k => if k = dat then 0 else -1
  | f + 1 => lstZ B (lyZ B dat f) f 10
def rbZ (B st : Int → Int) (a v : Int) (n : Int) : Int → Int := fun k => if 0 ≤ k ∧ k < n ∧ st k = -1 ∧ B (a * 10 + k) = 1 then v else st k
theorem lyZ_rng (B : Int → Int) (dat : Int) : ∀ (f : Nat) (k : Int), -1 ≤ lyZ B dat f k ∧ lyZ B dat f k ≤ f
  | 0, k => by show -1 ≤ (if k = dat then (0 : Int) else -1) ∧ (if k = dat then (0 : Int) else -1) ≤ ((0 : Nat) : Int); split <;> omega
  | f + 1, k => by
    have ih := lyZ_rng B dat f k
    show -1 ≤ lstZ B (lyZ B dat f) f 10 k ∧ lstZ B (lyZ B dat f) f 10 k ≤ ((f + 1 : Nat) : Int)
    unfold lstZ
    split
    · omega
    · split <;> omega
/-- one station's turn in a layer -/
theorem lst_turn {B st g : Int → Int} {far b : Int} (hb : 0 ≤ b) (hf : 0 ≤ far) (hg : ∀ k, 0 ≤ k → k < 10 → g k = lstZ B st far (Int.toNat b) k) :
    (st b = far → ∀ k, 0 ≤ k → k < 10 → rbZ B g b (far + 1) 10 k = lstZ B st far (Int.toNat (b + 1)) k) ∧ (st b ≠ far → ∀ k, 0 ≤ k → k < 10 → g k = lstZ B st far (Int.toNat (b + 1)) k) := by
  refine ⟨fun e k k1 k2 => ?_, fun e k k1 k2 => ?_⟩
  · have hgk := hg k k1 k2
    unfold lstZ at hgk ⊢
    rw [anyZ_s _ hb]
    by_cases q : st k = -1
    · rw [if_neg (show ¬ st k ≠ -1 by omega)] at hgk ⊢
      by_cases q2 : anyZ (fun c => decide (B (c * 10 + k) = 1 ∧ st c = far)) (Int.toNat b) = true
      · rw [if_pos q2] at hgk
        rw [q2, Bool.true_or, if_pos rfl]
        unfold rbZ
        rw [if_neg (by omega)]; exact hgk
      · rw [if_neg q2] at hgk
        have q3 : anyZ (fun c => decide (B (c * 10 + k) = 1 ∧ st c = far)) (Int.toNat b) = false := by
          cases h : anyZ (fun c => decide (B (c * 10 + k) = 1 ∧ st c = far)) (Int.toNat b) with
          | false => rfl
          | true => exact absurd h q2
        rw [q3, Bool.false_or]
        unfold rbZ
        by_cases q4 : B (b * 10 + k) = 1
        · rw [if_pos ⟨k1, k2, hgk, q4⟩, if_pos (decide_eq_true ⟨q4, e⟩)]
        · rw [if_neg (fun h => q4 h.2.2.2), if_neg (fun h => q4 (of_decide_eq_true h).1)]; exact hgk
    · rw [if_pos q] at hgk ⊢
      unfold rbZ
      rw [if_neg (by omega)]; exact hgk
  · rw [hg k k1 k2]
    unfold lstZ
    rw [anyZ_s _ hb]
    have q5 : decide (B (b * 10 + k) = 1 ∧ st b = far) = false := decide_eq_false (fun h => e h.2)
    rw [q5, Bool.or_false]
theorem lst_at {B st g : Int → Int} {far b : Int} {n : Nat} (hf : 0 ≤ far) (hb : 0 ≤ b ∧ b < 10) (hg : ∀ k, 0 ≤ k → k < 10 → g k = lstZ B st far n k) : g b = far ↔ st b = far := by
  rw [hg b hb.1 hb.2]
  unfold lstZ
  by_cases q : st b = -1
  · rw [if_neg (by omega)]
    split <;> omega
  · rw [if_pos q]
/-- the lowest station so far beside another -/
def lwZ (B st : Int → Int) (k far : Int) : Nat → Int → Int
  | 0, _ => k
  | n + 1, b => if st b = far ∧ B (b * 10 + k) = 1 then b else lwZ B st k far n (b + 1)
theorem lwZ_y {B st : Int → Int} {k far b : Int} (hb : 0 ≤ b ∧ b < 10) (h : st b = far ∧ B (b * 10 + k) = 1) : lwZ B st k far (Int.toNat (10 - b)) b = b := by
  rw [show Int.toNat (10 - b) = Int.toNat (9 - b) + 1 by omega]; exact if_pos h
theorem lwZ_n {B st : Int → Int} {k far b : Int} (hb : 0 ≤ b ∧ b < 10) (h : ¬ (st b = far ∧ B (b * 10 + k) = 1)) : lwZ B st k far (Int.toNat (10 - b)) b = lwZ B st k far (Int.toNat (10 - (b + 1))) (b + 1) := by
  rw [show Int.toNat (10 - b) = Int.toNat (10 - (b + 1)) + 1 by omega]; exact if_neg h
theorem lwZ_rng {B st : Int → Int} {k far : Int} (hk : 0 ≤ k ∧ k < 10) : ∀ (n : Nat) (b : Int), 0 ≤ b → b + n ≤ 10 → 0 ≤ lwZ B st k far n b ∧ lwZ B st k far n b < 10
  | 0, b, _, _ => hk
  | n + 1, b, h1, h2 => by
    show 0 ≤ (if _ then b else _) ∧ (if _ then b else _) < 10
    split
    · omega
    · exact lwZ_rng hk n (b + 1) (by omega) (by omega)
/-- the way back to the datum -/
def crZ (B T st : Int → Int) : Nat → Int → Int → Int
  | 0, _, s => s
  | f + 1, k, s => crZ B T st f (lwZ B st k f 10 0) (s + T (lwZ B st k f 10 0 * 10 + k))
theorem crZ_s {B T st : Int → Int} {f k s : Int} (hf : 0 < f) : crZ B T st (Int.toNat f) k s = crZ B T st (Int.toNat (f + -1)) (lwZ B st k (f - 1) 10 0) (s + T (lwZ B st k (f - 1) 10 0 * 10 + k)) := by
  rw [show Int.toNat f = Int.toNat (f + -1) + 1 by omega]
  show crZ B T st (Int.toNat (f + -1)) (lwZ B st k ((Int.toNat (f + -1) : Nat) : Int) 10 0) _ = _
  rw [show ((Int.toNat (f + -1) : Nat) : Int) = f - 1 by omega]
theorem tp_z (B : Int → Int) (a : Int) : ∀ n : Nat, (n : Int) ≤ a + 1 → smZ (fun b => if a < b then pI (B (a * 10 + b) = 1) else 0) n = 0
  | 0, _ => rfl
  | n + 1, h => by
    show smZ (fun b => if a < b then pI (B (a * 10 + b) = 1) else 0) n + (if a < (n : Int) then pI (B (a * 10 + n) = 1) else 0) = 0
    rw [tp_z B a n (by omega), if_neg (by omega)]; rfl
theorem tp_0 {B : Int → Int} {a : Int} (ha : 0 ≤ a := by omega) : smZ (fun b => if a < b then pI (B (a * 10 + b) = 1) else 0) (Int.toNat (a + 1)) = 0 := tp_z B a _ (by omega)
theorem rbZ_0 (B st : Int → Int) (a v : Int) : rbZ B st a v 0 = st := by
  funext k; unfold rbZ; rw [if_neg (by omega)]
theorem rbZ_at (B st : Int → Int) (a v k : Int) : rbZ B st a v k k = st k := by unfold rbZ; rw [if_neg (by omega)]
theorem rbZ_y {B st : Int → Int} {a v k : Int} (hk : 0 ≤ k) (h : st k = -1) (h2 : B (a * 10 + k) = 1) : uZ (rbZ B st a v k) k v = rbZ B st a v (k + 1) := by
  funext j
  by_cases e : j = k
  · rw [e, uZ_s]; unfold rbZ; rw [if_pos ⟨hk, by omega, h, h2⟩]
  · rw [uZ_n e]; unfold rbZ
    by_cases q : 0 ≤ j ∧ j < k ∧ st j = -1 ∧ B (a * 10 + j) = 1
    · rw [if_pos q, if_pos ⟨q.1, by omega, q.2.2⟩]
    · rw [if_neg q, if_neg (fun h => q ⟨h.1, by omega, h.2.2⟩)]
theorem rbZ_n {B st : Int → Int} {a v k : Int} (hk : 0 ≤ k) (h : ¬ (st k = -1 ∧ B (a * 10 + k) = 1)) : rbZ B st a v k = rbZ B st a v (k + 1) := by
  funext j
  unfold rbZ
  by_cases q : 0 ≤ j ∧ j < k ∧ st j = -1 ∧ B (a * 10 + j) = 1
  · rw [if_pos q, if_pos ⟨q.1, by omega, q.2.2⟩]
  · rw [if_neg q, if_neg (fun h2 => by
      by_cases e : j = k
      · subst e; exact h h2.2.2
      · exact q ⟨h2.1, by omega, h2.2.2⟩)]
theorem ly_init (f B : Int → Int) (dat : Int) (hd : 0 ≤ dat ∧ dat ≤ 9) : ∀ k : Int, 0 ≤ k → k < 10 → uZ (flZ f (-1) 10) dat 0 k = lyZ B dat (Int.toNat 0) k := by
  intro k k1 k2
  show _ = if k = dat then (0 : Int) else -1
  by_cases e : k = dat
  · rw [if_pos e, e, uZ_s]
  · rw [if_neg e, uZ_n e]; unfold flZ; rw [if_pos ⟨k1, k2⟩]
theorem lst_none (B st : Int → Int) (far k : Int) : lstZ B st far (Int.toNat 0) k = st k := by
  unfold lstZ
  by_cases q : st k = -1
  · rw [if_neg (by omega)]; exact (if_neg (show ¬ (false = true) by decide)).trans q.symm
  · rw [if_pos q]
theorem rbZ_rng {B q : Int → Int} {a v : Int} (h : ∀ j : Int, 0 ≤ j → j < 10 → -1 ≤ q j ∧ q j ≤ 9) (hv : -1 ≤ v ∧ v ≤ 9) : ∀ j : Int, 0 ≤ j → j < 10 → -1 ≤ rbZ B q a v 10 j ∧ rbZ B q a v 10 j ≤ 9 := by
  intro j a1 a2
  unfold rbZ
  split
  · exact hv
  · exact h j a1 a2
