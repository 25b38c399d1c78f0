/-! What the class and the reference compute, as plain functions of whole numbers. -/
def itZ {α : Type} (f : α → α) : Nat → α → α
  | 0, x => x
  | n + 1, x => f (itZ f n x)
theorem itZ_s {α : Type} (f : α → α) (n : Nat) (x : α) : itZ f (n + 1) x = f (itZ f n x) := rfl
theorem itZ_toNat {α : Type} (f : α → α) {i : Int} (h : 0 ≤ i) (x : α) : itZ f (i + 1).toNat x = f (itZ f i.toNat x) := by
  rw [show (i + 1).toNat = i.toNat + 1 by omega]; rfl
/-- the pull of a phase -/
def pullZ (d : Int) : Int := if d < 250 then d else if d < 750 then 500 - d else d - 1000
theorem pullZ_rng {d : Int} (h : 0 ≤ d ∧ d < 1000) : -250 ≤ pullZ d ∧ pullZ d ≤ 250 := by unfold pullZ; split <;> (try split) <;> omega
/-- a tick, its turns not taken off -/
def goZ (w c d : Int) : Int := d + w - c * pullZ d / 100
theorem z_mulr {a b A B : Int} (h1 : 0 ≤ a ∧ a ≤ A) (h2 : -B ≤ b ∧ b ≤ B) : -(A * B) ≤ a * b ∧ a * b ≤ A * B := by
  have hB : 0 ≤ B := by omega
  constructor
  · have h3 : a * -B ≤ a * b := Int.mul_le_mul_of_nonneg_left h2.1 h1.1
    have h4 : a * B ≤ A * B := Int.mul_le_mul_of_nonneg_right h1.2 hB
    rw [Int.mul_neg] at h3
    omega
  · have h3 : a * b ≤ a * B := Int.mul_le_mul_of_nonneg_left h2.2 h1.1
    have h4 : a * B ≤ A * B := Int.mul_le_mul_of_nonneg_right h1.2 hB
    omega
theorem goZ_rng {w c d : Int} (hw : 0 ≤ w ∧ w < 1000) (hc : 0 ≤ c ∧ c ≤ 300) (hd : 0 ≤ d ∧ d < 1000) : (-75000 ≤ c * pullZ d ∧ c * pullZ d ≤ 75000) ∧ -750 ≤ goZ w c d ∧ goZ w c d < 2750 := by
  have h1 := z_mulr hc (pullZ_rng hd)
  unfold goZ
  omega
/-- the phase behind a tick -/
def phZ (w c d : Int) : Int := goZ w c d % 1000
theorem phZ_rng (w c d : Int) : 0 ≤ phZ w c d ∧ phZ w c d < 1000 := by unfold phZ; omega
/-- a row of values comes to one met before: F j = F T, all ahead of T apart -/
def repZ (F : Nat → Int) (T j : Nat) : Prop := j < T ∧ F j = F T ∧ ∀ a b, a < b → b < T → F a ≠ F b
theorem repZ_one {F : Nat → Int} {T j T' j' : Nat} (h : repZ F T j) (h' : repZ F T' j') : T = T' ∧ j = j' := by
  obtain ⟨a1, a2, a3⟩ := h
  obtain ⟨b1, b2, b3⟩ := h'
  have e : T = T' := by
    rcases Nat.lt_trichotomy T T' with q | q | q
    · exact absurd a2 (b3 j T a1 q)
    · exact q
    · exact absurd b2 (a3 j' T' b1 q)
  subst e
  refine ⟨rfl, ?_⟩
  rcases Nat.lt_trichotomy j j' with q | q | q
  · exact absurd (a2.trans b2.symm) (a3 j j' q b1)
  · exact q
  · exact absurd (b2.trans a2.symm) (a3 j' j q a1)
noncomputable def repT (F : Nat → Int) : Nat := Classical.epsilon (fun T => ∃ j, repZ F T j)
noncomputable def repJ (F : Nat → Int) : Nat := Classical.epsilon (fun j => repZ F (repT F) j)
theorem repZ_of {F : Nat → Int} {T j : Nat} (h : repZ F T j) : repT F = T ∧ repJ F = j := by
  have h1 : ∃ j, repZ F (repT F) j := Classical.epsilon_spec (p := fun T => ∃ j, repZ F T j) ⟨T, j, h⟩
  have h2 : repZ F (repT F) (repJ F) := Classical.epsilon_spec (p := fun j => repZ F (repT F) j) h1
  have h3 := repZ_one h2 h
  exact h3
/-- no more different values than places -/
theorem z_holes : ∀ (m n : Nat) (f : Nat → Nat), (∀ i, i < n → f i < m) → (∀ i j, i < j → j < n → f i ≠ f j) → n ≤ m
  | 0, n, f, h, _ => by
    rcases Nat.eq_zero_or_pos n with q | q
    · omega
    · exact absurd (h 0 q) (Nat.not_lt_zero _)
  | m + 1, n, f, h, h2 => by
    rcases Nat.eq_zero_or_pos n with q | q
    · omega
    · -- drop the last, swap the value m by the last one's
      have ih := z_holes m (n - 1) (fun i => if f i = m then f (n - 1) else f i) (fun i hi => by
        have a := h i (by omega)
        have b := h (n - 1) (by omega)
        have c := h2 i (n - 1) hi (by omega)
        show (if f i = m then f (n - 1) else f i) < m
        split <;> omega) (fun i j hij hj => by
        have a := h2 i j hij (by omega)
        have b := h2 i (n - 1) (by omega) (by omega)
        have c := h2 j (n - 1) hj (by omega)
        show (if f i = m then f (n - 1) else f i) ≠ (if f j = m then f (n - 1) else f j)
        split <;> split <;> omega)
      omega
/-- the phases, the turns -/
def phS (w c d : Int) (k : Nat) : Int := itZ (phZ w c) k d
theorem phS_0 (w c d : Int) : phS w c d 0 = d := rfl
theorem phS_s (w c d : Int) (k : Nat) : phS w c d (k + 1) = goZ w c (phS w c d k) % 1000 := rfl
theorem phS_rng {w c d : Int} (hd : 0 ≤ d ∧ d < 1000) : ∀ k, 0 ≤ phS w c d k ∧ phS w c d k < 1000
  | 0 => hd
  | k + 1 => phZ_rng w c _
def gZ (w c d : Int) : Nat → Int
  | 0 => 0
  | k + 1 => gZ w c d k + goZ w c (phS w c d k) / 1000
theorem gZ_rng {w c d : Int} (hw : 0 ≤ w ∧ w < 1000) (hc : 0 ≤ c ∧ c ≤ 300) (hd : 0 ≤ d ∧ d < 1000) : ∀ k : Nat, -(k : Int) ≤ gZ w c d k ∧ gZ w c d k ≤ 2 * k
  | 0 => by simp [gZ]
  | k + 1 => by
    have h1 := gZ_rng hw hc hd k
    have h2 := (goZ_rng hw hc (phS_rng (w := w) (c := c) hd k)).2
    show -((k + 1 : Nat) : Int) ≤ gZ w c d k + goZ w c (phS w c d k) / 1000 ∧ gZ w c d k + goZ w c (phS w c d k) / 1000 ≤ 2 * ((k + 1 : Nat) : Int)
    omega
/-- a search's rows: which phases it has seen, when, and behind how many turns -/
def skI (w c d s : Int) (t : Nat) (sI tA tN : Int → Int) : Prop :=
  (∀ a b, a < b → b < t → phS w c d a ≠ phS w c d b) ∧ (∀ x, 0 ≤ x → x < 1000 → 0 ≤ sI x ∧ sI x ≤ s) ∧
  (∀ x, 0 ≤ x → x < 1000 → sI x = s → ∃ a : Nat, a < t ∧ phS w c d a = x ∧ tA x = a ∧ tN x = gZ w c d a) ∧ ∀ a, a < t → sI (phS w c d a) = s
theorem skI_0 {w c d s : Int} {sI tA tN : Int → Int} (h : ∀ x, 0 ≤ x → x < 1000 → 0 ≤ sI x ∧ sI x ≤ s) : skI w c d (s + 1) 0 sI tA tN :=
  ⟨fun a b _ h2 => absurd h2 (Nat.not_lt_zero _), fun x h1 h2 => by have := h x h1 h2; omega, fun x h1 h2 h3 => by have := h x h1 h2; omega, fun a h2 => absurd h2 (Nat.not_lt_zero _)⟩
theorem skI_step {w c d s : Int} {t : Nat} {sI tA tN : Int → Int} (hs : 0 ≤ s) (h : skI w c d s t sI tA tN) (hn : sI (phS w c d t) ≠ s) :
    skI w c d s (t + 1) (uZ sI (phS w c d t) s) (uZ tA (phS w c d t) t) (uZ tN (phS w c d t) (gZ w c d t)) := by
  obtain ⟨h1, h2, h3, h4⟩ := h
  refine ⟨fun a b ha hb => ?_, fun x a b => ?_, fun x a b hx => ?_, fun a ha => ?_⟩
  · rcases Nat.lt_or_ge b t with q | q
    · exact h1 a b ha q
    · have : b = t := by omega
      subst this
      intro e
      exact hn (by rw [← e]; exact h4 a ha)
  · by_cases e : x = phS w c d t
    · rw [e, uZ_s]; omega
    · rw [uZ_n e]; exact h2 x a b
  · by_cases e : x = phS w c d t
    · exact ⟨t, by omega, e.symm, by rw [e, uZ_s], by rw [e, uZ_s]⟩
    · rw [uZ_n e] at hx
      obtain ⟨k, k1, k2, k3, k4⟩ := h3 x a b hx
      exact ⟨k, by omega, k2, by rw [uZ_n e]; exact k3, by rw [uZ_n e]; exact k4⟩
  · by_cases e : phS w c d a = phS w c d t
    · rw [e, uZ_s]
    · rw [uZ_n e]
      have : a ≠ t := fun z => e (by rw [z])
      exact h4 a (by omega)
theorem skI_hit {w c d s : Int} {t : Nat} {sI tA tN : Int → Int} (hd : 0 ≤ d ∧ d < 1000) (h : skI w c d s t sI tA tN) (hn : sI (phS w c d t) = s) :
    tA (phS w c d t) = repJ (phS w c d) ∧ tN (phS w c d t) = gZ w c d (repJ (phS w c d)) ∧ t = repT (phS w c d) := by
  obtain ⟨h1, h2, h3, h4⟩ := h
  have hr := phS_rng (w := w) (c := c) hd t
  obtain ⟨k, k1, k2, k3, k4⟩ := h3 _ hr.1 hr.2 hn
  obtain ⟨e1, e2⟩ := repZ_of (F := phS w c d) (T := t) (j := k) ⟨k1, k2, h1⟩
  exact ⟨by rw [k3, e2], by rw [k4, e2], e1.symm⟩
theorem skI_end {w c d s : Int} {t : Nat} {sI tA tN : Int → Int} (hd : 0 ≤ d ∧ d < 1000) (h : skI w c d s t sI tA tN) : t ≤ 1000 := by
  refine z_holes 1000 t (fun k => (phS w c d k).toNat) (fun i _ => ?_) (fun i j hij hj => ?_)
  · have := phS_rng (w := w) (c := c) hd i
    show (phS w c d i).toNat < 1000
    omega
  · have a := phS_rng (w := w) (c := c) hd i
    have b := phS_rng (w := w) (c := c) hd j
    have := h.1 i j hij hj
    show (phS w c d i).toNat ≠ (phS w c d j).toNat
    omega
theorem rep_le {w c d : Int} (hd : 0 ≤ d ∧ d < 1000) : repJ (phS w c d) < repT (phS w c d) ∧ repT (phS w c d) ≤ 1000 := by
  have hex : ∃ T j, repZ (phS w c d) T j := by
    have key : ∀ n : Nat, (∃ T j, repZ (phS w c d) T j) ∨ ∀ a b, a < b → b < n → phS w c d a ≠ phS w c d b := by
      intro n
      induction n with
      | zero => exact Or.inr (fun a b _ h => absurd h (Nat.not_lt_zero _))
      | succ n ih =>
        rcases ih with h | h
        · exact Or.inl h
        · by_cases q : ∃ j, j < n ∧ phS w c d j = phS w c d n
          · obtain ⟨j, j1, j2⟩ := q
            exact Or.inl ⟨n, j, j1, j2, h⟩
          · refine Or.inr (fun a b ha hb => ?_)
            rcases Nat.lt_or_ge b n with z | z
            · exact h a b ha z
            · have : b = n := by omega
              subst this
              exact fun e => q ⟨a, ha, e⟩
    rcases key 1001 with h | h
    · exact h
    · exfalso
      have := z_holes 1000 1001 (fun k => (phS w c d k).toNat) (fun i _ => by
        have := phS_rng (w := w) (c := c) hd i
        show (phS w c d i).toNat < 1000
        omega) (fun i j hij hj => by
        have a := phS_rng (w := w) (c := c) hd i
        have b := phS_rng (w := w) (c := c) hd j
        have := h i j hij hj
        show (phS w c d i).toNat ≠ (phS w c d j).toNat
        omega)
      omega
  obtain ⟨T, j, h⟩ := hex
  obtain ⟨e1, e2⟩ := repZ_of h
  rw [e1, e2]
  refine ⟨h.1, ?_⟩
  refine z_holes 1000 T (fun k => (phS w c d k).toNat) (fun i _ => ?_) (fun i j hij hj => ?_)
  · have := phS_rng (w := w) (c := c) hd i
    show (phS w c d i).toNat < 1000
    omega
  · have a := phS_rng (w := w) (c := c) hd i
    have b := phS_rng (w := w) (c := c) hd j
    have := h.2.2 i j hij hj
    show (phS w c d i).toNat ≠ (phS w c d j).toNat
    omega
/-- a round's period, turns, lead -/
noncomputable def perZ (w c d : Int) : Int := (repT (phS w c d) : Int) - repJ (phS w c d)
noncomputable def trnZ (w c d : Int) : Int := gZ w c d (repT (phS w c d)) - gZ w c d (repJ (phS w c d))
noncomputable def ledZ (w c d : Int) : Int := repJ (phS w c d)
theorem rnd_rng {w c d : Int} (hw : 0 ≤ w ∧ w < 1000) (hc : 0 ≤ c ∧ c ≤ 300) (hd : 0 ≤ d ∧ d < 1000) : (1 ≤ perZ w c d ∧ perZ w c d ≤ 1000) ∧ (-3000 ≤ trnZ w c d ∧ trnZ w c d ≤ 3000) ∧ 0 ≤ ledZ w c d ∧ ledZ w c d < 1000 := by
  have h1 := rep_le (w := w) (c := c) hd
  have h2 := gZ_rng hw hc hd (repT (phS w c d))
  have h3 := gZ_rng hw hc hd (repJ (phS w c d))
  unfold perZ trnZ ledZ
  omega
/-- a sum over the first n -/
def smZ (f : Int → Int) : Nat → Int
  | 0 => 0
  | n + 1 => smZ f n + f n
theorem smZ_toNat (f : Int → Int) {i : Int} (h : 0 ≤ i) : smZ f (i + 1).toNat = smZ f i.toNat + f i := by
  rw [show (i + 1).toNat = i.toNat + 1 by omega]
  show smZ f i.toNat + f (i.toNat : Int) = _
  rw [show ((i.toNat : Nat) : Int) = i by omega]
theorem smZ_cong {f g : Int → Int} : ∀ {n : Nat}, (∀ k : Int, 0 ≤ k → k < n → f k = g k) → smZ f n = smZ g n
  | 0, _ => rfl
  | n + 1, h => by
    show smZ f n + f n = smZ g n + g n
    rw [smZ_cong (fun k h1 h2 => h k h1 (by omega)), h n (by omega) (by omega)]
theorem smZ_rng {f : Int → Int} {lo hi : Int} (h : ∀ k, lo ≤ f k ∧ f k ≤ hi) : ∀ n : Nat, n * lo ≤ smZ f n ∧ smZ f n ≤ n * hi
  | 0 => by simp [smZ]
  | n + 1 => by
    have h1 := smZ_rng h n
    have h2 := h n
    show ((n + 1 : Nat) : Int) * lo ≤ smZ f n + f n ∧ smZ f n + f n ≤ ((n + 1 : Nat) : Int) * hi
    rw [Int.natCast_add, Int.add_mul, Int.add_mul]
    simp only [Int.natCast_one, Int.one_mul]
    omega
theorem sm01 {f : Int → Int} (h : ∀ k, 0 ≤ f k ∧ f k ≤ 1) (n : Nat) : 0 ≤ smZ f n ∧ smZ f n ≤ n := by
  have := smZ_rng (lo := 0) (hi := 1) h n
  omega
/-- whether a detuning locks so -/
noncomputable def lkZ (c turns period w : Int) : Int := pI (trnZ w c 0 * period = turns * perZ w c 0)
/-! clocks -/
def ckOK (str arc chk adj : Int → Int) (ht pr : Int) : Prop :=
  (∀ j, 0 ≤ j → j < 10 → (0 ≤ str j ∧ str j ≤ 19) ∧ (0 ≤ arc j ∧ arc j ≤ 200) ∧ (chk j = 0 ∨ chk j = 1) ∧ (-1000000 ≤ adj j ∧ adj j ≤ 1000000)) ∧ (-20 ≤ ht ∧ ht ≤ 50) ∧ (900 ≤ pr ∧ pr ≤ 1100)
def rateZ (str arc chk adj : Int → Int) (ht pr k : Int) : Int :=
  adj k - ((432 * str k) * (ht - 20) / 10 + (if chk k = 0 then (54 * arc k) * arc k / 10 else 0)) - 12 * (pr - 1013)
theorem rateZ_m {str arc chk adj : Int → Int} {ht pr k : Int} (h : ckOK str arc chk adj ht pr) (hk : 0 ≤ k ∧ k < 10) :
    (-328320 ≤ (432 * str k) * (ht - 20) ∧ (432 * str k) * (ht - 20) ≤ 328320) ∧ (-2160000 ≤ (54 * arc k) * arc k ∧ (54 * arc k) * arc k ≤ 2160000) ∧ (0 ≤ (54 * arc k) * arc k) ∧ (-2000000 ≤ rateZ str arc chk adj ht pr k ∧ rateZ str arc chk adj ht pr k ≤ 2000000) := by
  obtain ⟨h1, h2, h3⟩ := h
  obtain ⟨a1, a2, a3, a4⟩ := h1 k hk.1 hk.2
  have m1 := z_mulr (a := 432 * str k) (A := 8208) (b := ht - 20) (B := 40) (by omega) (by omega)
  have m2 := z_mulr (a := 54 * arc k) (A := 10800) (b := arc k) (B := 200) (by omega) (by omega)
  have m3 : 0 ≤ (54 * arc k) * arc k := Int.mul_nonneg (by omega) a2.1
  refine ⟨by omega, by omega, m3, ?_⟩
  unfold rateZ
  split <;> omega
/-- where x is put among the first k of f, from behind -/
def posZ (f : Int → Int) (x : Int) : Nat → Nat
  | 0 => 0
  | k + 1 => if x < f k then posZ f x k else k + 1
def insZ (f : Int → Int) (x : Int) (k : Nat) : Int → Int := fun j => if j < posZ f x k then f j else if j = posZ f x k then x else f (j - 1)
/-- the first k of off, in order -/
def srtZ (off : Int → Int) : Nat → Int → Int
  | 0 => fun _ => 0
  | k + 1 => insZ (srtZ off k) (off k) k
theorem posZ_le (f : Int → Int) (x : Int) : ∀ k, posZ f x k ≤ k
  | 0 => Nat.le_refl 0
  | k + 1 => by
    have := posZ_le f x k
    unfold posZ
    split <;> omega
theorem so_step {off q : Int → Int} {k a : Int} (h1 : 0 ≤ a ∧ a ≤ k) (h2 : ∀ j, 0 ≤ j → j < a → q j = srtZ off (Int.toNat k) j) (h3 : ∀ j, a < j → j ≤ k → q j = srtZ off (Int.toNat k) (j - 1))
    (h4 : posZ (srtZ off (Int.toNat k)) (off k) (Int.toNat k) = posZ (srtZ off (Int.toNat k)) (off k) (Int.toNat a)) (hE : a ≤ 0 ∨ q (a - 1) ≤ off k) :
    ∀ j, 0 ≤ j → j < k + 1 → uZ q a (off k) j = srtZ off (Int.toNat (k + 1)) j := by
  have hp : posZ (srtZ off (Int.toNat k)) (off k) (Int.toNat a) = Int.toNat a := by
    cases e : Int.toNat a with
    | zero => rfl
    | succ b =>
      unfold posZ
      have e2 := h2 (a - 1) (by omega) (by omega)
      have e3 : ((b : Nat) : Int) = a - 1 := by omega
      rw [if_neg (by rw [e3, ← e2]; omega)]
  rw [hp] at h4
  intro j j1 j2
  rw [show Int.toNat (k + 1) = Int.toNat k + 1 by omega]
  show _ = insZ (srtZ off (Int.toNat k)) (off ((Int.toNat k : Nat) : Int)) (Int.toNat k) j
  rw [show ((Int.toNat k : Nat) : Int) = k by omega]
  unfold insZ
  rw [h4, show ((Int.toNat a : Nat) : Int) = a by omega]
  rcases Int.lt_trichotomy j a with z | z | z
  · rw [if_pos z, uZ_n (by omega)]; exact h2 j j1 z
  · rw [if_neg (by omega), if_pos z, z, uZ_s]
  · rw [if_neg (by omega), if_neg (by omega), uZ_n (by omega)]; exact h3 j z (by omega)
theorem bd_uZ {f : Int → Int} {k x lo hi n : Int} (h : ∀ j, 0 ≤ j → j < n → lo ≤ f j ∧ f j ≤ hi) (hx : lo ≤ x ∧ x ≤ hi) : ∀ j, 0 ≤ j → j < n → lo ≤ uZ f k x j ∧ uZ f k x j ≤ hi := by
  intro j a b
  by_cases e : j = k
  · rw [e, uZ_s]; exact hx
  · rw [uZ_n e]; exact h j a b
theorem srtZ_rng {off : Int → Int} {B : Int} (hB : 0 ≤ B) : ∀ {n : Nat}, (∀ j : Int, 0 ≤ j → j < n → -B ≤ off j ∧ off j ≤ B) → ∀ j : Int, 0 ≤ j → j < n → -B ≤ srtZ off n j ∧ srtZ off n j ≤ B
  | 0, _, j, a, b => by omega
  | n + 1, h, j, a, b => by
    have ih := srtZ_rng hB (n := n) (fun j a b => h j a (by omega))
    have hp := posZ_le (srtZ off n) (off n) n
    show -B ≤ insZ (srtZ off n) (off n) n j ∧ insZ (srtZ off n) (off n) n j ≤ B
    unfold insZ
    split
    · exact ih j a (by omega)
    · split
      · exact h n (by omega) (by omega)
      · exact ih (j - 1) (by omega) (by omega)
def midZ (off : Int → Int) (n : Int) : Int := (srtZ off (Int.toNat n) ((n - 1) / 2) + srtZ off (Int.toNat n) (n / 2)) / 2
theorem z_td2 {x : Int} (h : -1 ≤ x) : (0 ≤ x ∧ Int.tdiv x 2 = x / 2) ∨ (x = -1 ∧ Int.tdiv x 2 = 0) := by
  rcases Int.lt_or_le x 0 with q | q
  · have : x = -1 := by omega
    subst this
    exact Or.inr ⟨rfl, rfl⟩
  · exact Or.inl ⟨q, Int.tdiv_eq_ediv_of_nonneg q⟩
/-- days gone by -/
def goN (rt : Int → Int) (d k : Int) (off : Int → Int) : Int → Int := fun j => if 0 ≤ j ∧ j < k then off j + rt j * d else off j
theorem goN_0 (rt : Int → Int) (d : Int) (off : Int → Int) : goN rt d 0 off = off := by
  funext j; unfold goN; rw [if_neg (by omega)]
theorem goN_at (rt : Int → Int) (d : Int) (off : Int → Int) (k : Int) : goN rt d k off k = off k := by unfold goN; rw [if_neg (by omega)]
theorem goN_s (rt : Int → Int) (d : Int) (off : Int → Int) {k : Int} (hk : 0 ≤ k) : uZ (goN rt d k off) k (goN rt d k off k + rt k * d) = goN rt d (k + 1) off := by
  funext j
  by_cases e : j = k
  · rw [e, uZ_s, goN_at]; unfold goN; rw [if_pos (by omega)]
  · rw [uZ_n e]; unfold goN
    by_cases q : 0 ≤ j ∧ j < k
    · rw [if_pos q, if_pos (by omega)]
    · rw [if_neg q, if_neg (by omega)]
def nearZ (x t : Int) : Int := pI (-500 ≤ x - t ∧ x - t ≤ 500)
/-! beats -/
def tgZ (p q t : Int) : Nat → Int → Int
  | 0, _ => -1
  | n + 1, k => if (k * p) % q ≤ t ∨ q - (k * p) % q ≤ t then k else tgZ p q t n (k + 1)
theorem tgZ_y {p q t k : Int} (hk : 1 ≤ k ∧ k ≤ 5000) (h : (k * p) % q ≤ t ∨ q - (k * p) % q ≤ t) : tgZ p q t (Int.toNat (5001 - k)) k = k := by
  rw [show Int.toNat (5001 - k) = Int.toNat (5000 - k) + 1 by omega]
  exact if_pos h
theorem tgZ_n {p q t k : Int} (hk : 1 ≤ k ∧ k ≤ 5000) (h : ¬ ((k * p) % q ≤ t ∨ q - (k * p) % q ≤ t)) : tgZ p q t (Int.toNat (5001 - k)) k = tgZ p q t (Int.toNat (5001 - (k + 1))) (k + 1) := by
  rw [show Int.toNat (5001 - k) = Int.toNat (5001 - (k + 1)) + 1 by omega]
  exact if_neg h
theorem z_mod_of {x q r m : Int} (h : x = q * m + r) (hr : 0 ≤ r ∧ r < q) : x % q = r := by
  rw [h, Int.mul_add_emod_self_left]
  exact Int.emod_eq_of_lt hr.1 hr.2
/-! the driven one -/
def shkZ (x : Int) : Int := if x < 32 then x * (32 - x) / 8 else -((x - 32) * (64 - x) / 8)
theorem shkZ_rng {x : Int} (h : 0 ≤ x ∧ x < 64) : (x < 32 → -1024 ≤ x * (32 - x) ∧ x * (32 - x) ≤ 1024) ∧ (32 ≤ x → -1024 ≤ (x - 32) * (64 - x) ∧ (x - 32) * (64 - x) ≤ 1024) ∧ -128 ≤ shkZ x ∧ shkZ x ≤ 128 := by
  have h1 : x < 32 → -1024 ≤ x * (32 - x) ∧ x * (32 - x) ≤ 1024 := fun q => by
    have := z_mulr (a := x) (A := 32) (b := 32 - x) (B := 32) (by omega) (by omega)
    omega
  have h2 : 32 ≤ x → -1024 ≤ (x - 32) * (64 - x) ∧ (x - 32) * (64 - x) ≤ 1024 := fun q => by
    have := z_mulr (a := x - 32) (A := 32) (b := 64 - x) (B := 32) (by omega) (by omega)
    omega
  refine ⟨h1, h2, ?_⟩
  unfold shkZ
  split
  · have := h1 (by assumption); omega
  · have := h2 (by omega); omega
def kikZ (pl k : Int) : Int := k * shkZ pl / 16
theorem kikZ_rng {pl k : Int} (h : 0 ≤ pl ∧ pl < 64) (hk : 0 ≤ k ∧ k ≤ 200) : (-25600 ≤ k * shkZ pl ∧ k * shkZ pl ≤ 25600) ∧ -1600 ≤ kikZ pl k ∧ kikZ pl k ≤ 1600 := by
  have h1 := (shkZ_rng h).2.2
  have h2 := z_mulr hk h1
  unfold kikZ
  omega
def mvZ (k st : Int) : Int := 64 * ((st / 64 + (st % 64 + kikZ (st / 64) k) % 64) % 64) + (st % 64 + kikZ (st / 64) k) % 64
def unZ (k st : Int) : Int := 64 * ((st / 64 - st % 64) % 64) + (st % 64 - kikZ ((st / 64 - st % 64) % 64) k) % 64
theorem mvZ_parts (k st : Int) : mvZ k st / 64 = (st / 64 + (st % 64 + kikZ (st / 64) k) % 64) % 64 ∧ mvZ k st % 64 = (st % 64 + kikZ (st / 64) k) % 64 ∧ 0 ≤ mvZ k st ∧ mvZ k st < 4096 := by
  unfold mvZ; omega
theorem unZ_parts (k st : Int) : unZ k st / 64 = (st / 64 - st % 64) % 64 ∧ unZ k st % 64 = (st % 64 - kikZ ((st / 64 - st % 64) % 64) k) % 64 ∧ 0 ≤ unZ k st ∧ unZ k st < 4096 := by
  unfold unZ; omega
theorem itZ_in {f : Int → Int} (hf : ∀ x, 0 ≤ f x ∧ f x < 4096) {x : Int} (hx : 0 ≤ x ∧ x < 4096) : ∀ n, 0 ≤ itZ f n x ∧ itZ f n x < 4096
  | 0 => hx
  | n + 1 => hf _
def apZ (a b : Int) : Int := if (b - a) % 64 ≤ 32 then (b - a) % 64 else 64 - (b - a) % 64
/-! the chain -/
def gnZ (n k c : Int) (f : Int → Int) (b : Int) : Int := c * ((if 0 < b then f (b - 1) - f b else 0) + (if b + 1 < n then f (b + 1) - f b else 0)) / 16 - k * f b / 16
def flZ (f : Int → Int) (v n : Int) : Int → Int := fun j => if 0 ≤ j ∧ j < n then v else f j
theorem flZ_s (f : Int → Int) (v : Int) {i : Int} (h : 0 ≤ i) : uZ (flZ f v i) i v = flZ f v (i + 1) := by
  funext j
  by_cases e : j = i
  · rw [e, uZ_s]; unfold flZ; rw [if_pos (by omega)]
  · rw [uZ_n e]; unfold flZ
    by_cases q : 0 ≤ j ∧ j < i
    · rw [if_pos q, if_pos (by omega)]
    · rw [if_neg q, if_neg (by omega)]
theorem flZ_0 (f : Int → Int) (v : Int) : flZ f v 0 = f := by funext j; unfold flZ; rw [if_neg (by omega)]
def bnd (f : Int → Int) (n M : Int) : Prop := ∀ j, 0 ≤ j → j < n → -M ≤ f j ∧ f j ≤ M
theorem gnZ_m {n k c M : Int} {f : Int → Int} {b : Int} (hn : n ≤ 8) (hb : 0 ≤ b ∧ b < n) (hk : 0 ≤ k ∧ k ≤ 15) (hc : 0 ≤ c ∧ c ≤ 15) (hM : 0 ≤ M ∧ M ≤ 2000000) (hf : bnd f n M) :
    (∀ x, -(4 * M) ≤ x → x ≤ 4 * M → -(60 * M) ≤ c * x ∧ c * x ≤ 60 * M) ∧ (-(15 * M) ≤ k * f b ∧ k * f b ≤ 15 * M) ∧ (-(5 * M + 2) ≤ gnZ n k c f b ∧ gnZ n k c f b ≤ 5 * M + 2) := by
  have h1 : ∀ x, -(4 * M) ≤ x → x ≤ 4 * M → -(60 * M) ≤ c * x ∧ c * x ≤ 60 * M := fun x a b => by
    have := z_mulr (a := c) (A := 15) (b := x) (B := 4 * M) hc ⟨a, b⟩
    omega
  have h2 := z_mulr (a := k) (A := 15) hk (hf b hb.1 hb.2)
  refine ⟨h1, h2, ?_⟩
  unfold gnZ
  have f0 := hf b hb.1 hb.2
  have key : -(4 * M) ≤ ((if 0 < b then f (b - 1) - f b else 0) + (if b + 1 < n then f (b + 1) - f b else 0)) ∧ ((if 0 < b then f (b - 1) - f b else 0) + (if b + 1 < n then f (b + 1) - f b else 0)) ≤ 4 * M := by
    by_cases q1 : 0 < b
    · have f1 := hf (b - 1) (by omega) (by omega)
      by_cases q2 : b + 1 < n
      · have f2 := hf (b + 1) (by omega) (by omega)
        rw [if_pos q1, if_pos q2]; omega
      · rw [if_pos q1, if_neg q2]; omega
    · by_cases q2 : b + 1 < n
      · have f2 := hf (b + 1) (by omega) (by omega)
        rw [if_neg q1, if_pos q2]; omega
      · rw [if_neg q1, if_neg q2]; omega
  have := h1 _ key.1 key.2
  omega
/-- a step's speeds ahead of the push, places, speeds -/
def sp0Z (n k c air : Int) (pl sp : Int → Int) (b : Int) : Int := (sp b + gnZ n k c pl b) - Int.tdiv ((sp b + gnZ n k c pl b) * air) 100
def pl1Z (n k c air : Int) (pl sp : Int → Int) (b : Int) : Int := pl b + sp0Z n k c air pl sp b
def sp1Z (n k c air push : Int) (pl sp : Int → Int) (b : Int) : Int := if b = 0 ∧ pl 0 < 0 ∧ 0 ≤ pl1Z n k c air pl sp 0 then sp0Z n k c air pl sp b + push else sp0Z n k c air pl sp b
def plbZ (pl sp : Int → Int) (b : Int) : Int := pl b - sp b
def spbZ (n k c : Int) (pl sp : Int → Int) (b : Int) : Int := sp b - gnZ n k c (plbZ pl sp) b
def okZ (P S : Int → Int) : Nat → Bool
  | 0 => true
  | n + 1 => okZ P S n && decide (-1000000 ≤ P n ∧ P n ≤ 1000000 ∧ -1000000 ≤ S n ∧ S n ≤ 1000000)
theorem okZ_cong {P S P' S' : Int → Int} : ∀ {n : Nat}, (∀ j : Int, 0 ≤ j → j < n → P j = P' j ∧ S j = S' j) → okZ P S n = okZ P' S' n
  | 0, _ => rfl
  | n + 1, h => by
    show (okZ P S n && _) = (okZ P' S' n && _)
    rw [okZ_cong (fun j a b => h j a (by omega)), (h n (by omega) (by omega)).1, (h n (by omega) (by omega)).2]
theorem okZ_at {P S : Int → Int} : ∀ {n : Nat}, okZ P S n = true → ∀ j : Int, 0 ≤ j → j < n → -1000000 ≤ P j ∧ P j ≤ 1000000 ∧ -1000000 ≤ S j ∧ S j ≤ 1000000
  | 0, _, j, a, b => by omega
  | n + 1, h, j, a, b => by
    have h1 : (okZ P S n && decide (-1000000 ≤ P n ∧ P n ≤ 1000000 ∧ -1000000 ≤ S n ∧ S n ≤ 1000000)) = true := h
    rw [Bool.and_eq_true, decide_eq_true_eq] at h1
    rcases Int.lt_or_le j n with q | q
    · exact okZ_at h1.1 j a q
    · have : j = n := by omega
      subst this
      exact h1.2
theorem okZ_no {P S : Int → Int} : ∀ {n : Nat} {j : Int}, 0 ≤ j → j < n → ¬ (-1000000 ≤ P j ∧ P j ≤ 1000000 ∧ -1000000 ≤ S j ∧ S j ≤ 1000000) → okZ P S n = false := fun {n j} a b h => by
  cases e : okZ P S n with
  | false => rfl
  | true => exact absurd (okZ_at e j a b) h
theorem okZ_s {P S : Int → Int} {b : Int} (hb : 0 ≤ b) (h : okZ P S (Int.toNat b) = true) (h2 : -1000000 ≤ P b ∧ P b ≤ 1000000 ∧ -1000000 ≤ S b ∧ S b ≤ 1000000) : okZ P S (Int.toNat (b + 1)) = true := by
  rw [show Int.toNat (b + 1) = Int.toNat b + 1 by omega]
  show (okZ P S (Int.toNat b) && _) = true
  rw [h, Bool.true_and, decide_eq_true_eq, show ((Int.toNat b : Nat) : Int) = b by omega]
  exact h2
/-- many steps, as many as are done: how many, places, speeds -/
def rnZ (n : Int) (P S : (Int → Int) → (Int → Int) → Int → Int) : Nat → Int → (Int → Int) → (Int → Int) → Int × (Int → Int) × (Int → Int)
  | 0, d, pl, sp => (d, pl, sp)
  | m + 1, d, pl, sp => if okZ (P pl sp) (S pl sp) (Int.toNat n) = true then rnZ n P S m (d + 1) (cZ0 (P pl sp) pl n) (cZ0 (S pl sp) sp n) else (d, pl, sp)
def enZ (n k c : Int) (pl sp : Int → Int) : Int := 16 * smZ (fun b => sp b * sp b) (Int.toNat n) + k * smZ (fun b => pl b * pl b) (Int.toNat n) + c * smZ (fun b => if 0 < b then (pl b - pl (b - 1)) * (pl b - pl (b - 1)) else 0) (Int.toNat n)
theorem z_tmr (x : Int) : -100 < Int.tmod x 100 ∧ Int.tmod x 100 < 100 := by
  rcases Int.lt_or_le x 0 with q | q
  · have := z_fm (y := 100) (by decide) q
    omega
  · rw [Int.tmod_eq_emod_of_nonneg q]; omega
theorem sp1_rng {n k c air : Int} {pl sp : Int → Int} (hn : 1 ≤ n ∧ n ≤ 8) (hk : 0 ≤ k ∧ k ≤ 15) (hc : 0 ≤ c ∧ c ≤ 15) (ha : 0 ≤ air ∧ air ≤ 100) (hp : bnd pl n 1000000) (hs : bnd sp n 1000000) {b : Int} (hb : 0 ≤ b ∧ b < n := by omega) :
    (-6000002 ≤ sp b + gnZ n k c pl b ∧ sp b + gnZ n k c pl b ≤ 6000002) ∧ (-13000000 ≤ sp0Z n k c air pl sp b ∧ sp0Z n k c air pl sp b ≤ 13000000) ∧ (-14000000 ≤ pl1Z n k c air pl sp b ∧ pl1Z n k c air pl sp b ≤ 14000000) := by
  obtain ⟨g1, g2, g3⟩ := gnZ_m (M := 1000000) hn.2 hb hk hc (by decide) hp
  have f0 := hp b hb.1 hb.2
  have f1 := hs b hb.1 hb.2
  have h1 : -6000002 ≤ sp b + gnZ n k c pl b ∧ sp b + gnZ n k c pl b ≤ 6000002 := by omega
  have m1 := z_mulr ha h1
  have m2 : (sp b + gnZ n k c pl b) * air = air * (sp b + gnZ n k c pl b) := Int.mul_comm _ _
  have m3 := z_tdiv_rng (x := (sp b + gnZ n k c pl b) * air) (y := 100) (M := 600000200) (by omega) (by decide) (by decide)
  have m4 : -6000002 ≤ Int.tdiv ((sp b + gnZ n k c pl b) * air) 100 ∧ Int.tdiv ((sp b + gnZ n k c pl b) * air) 100 ≤ 6000002 := by
    have e := Int.mul_tdiv_add_tmod ((sp b + gnZ n k c pl b) * air) 100
    have l1 := z_tmr ((sp b + gnZ n k c pl b) * air)
    omega
  refine ⟨h1, ?_⟩
  unfold pl1Z sp0Z
  omega
theorem gnZ_cong {n k c : Int} {f g : Int → Int} (h : ∀ j : Int, 0 ≤ j → j < n → f j = g j) {b : Int} (hb : 0 ≤ b ∧ b < n) : gnZ n k c f b = gnZ n k c g b := by
  unfold gnZ
  by_cases q1 : 0 < b
  · by_cases q2 : b + 1 < n
    · rw [if_pos q1, if_pos q1, if_pos q2, if_pos q2, h b hb.1 hb.2, h (b - 1) (by omega) (by omega), h (b + 1) (by omega) (by omega)]
    · rw [if_pos q1, if_pos q1, if_neg q2, if_neg q2, h b hb.1 hb.2, h (b - 1) (by omega) (by omega)]
  · by_cases q2 : b + 1 < n
    · rw [if_neg q1, if_neg q1, if_pos q2, if_pos q2, h b hb.1 hb.2, h (b + 1) (by omega) (by omega)]
    · rw [if_neg q1, if_neg q1, if_neg q2, if_neg q2, h b hb.1 hb.2]
theorem cZ0_cong {f f' g : Int → Int} {n : Int} (h : ∀ j, 0 ≤ j → j < n → f j = f' j) : cZ0 f g n = cZ0 f' g n := by
  funext j
  unfold cZ0
  by_cases q : 0 ≤ j ∧ j < n
  · rw [if_pos q, if_pos q, h j q.1 q.2]
  · rw [if_neg q, if_neg q]
def ppZ (bk n k c air : Int) (pl sp : Int → Int) : Int → Int := if bk = 0 then pl1Z n k c air pl sp else plbZ pl sp
def psZ (bk n k c air push : Int) (pl sp : Int → Int) : Int → Int := if bk = 0 then sp1Z n k c air push pl sp else spbZ n k c pl sp
theorem pp_rng {bk n k c air push : Int} {pl sp : Int → Int} (hn : 1 ≤ n ∧ n ≤ 8) (hk : 0 ≤ k ∧ k ≤ 15) (hc : 0 ≤ c ∧ c ≤ 15) (ha : 0 ≤ air ∧ air ≤ 100) (hu : -1000 ≤ push ∧ push ≤ 1000) (hp : bnd pl n 1000000) (hs : bnd sp n 1000000) :
    bnd (ppZ bk n k c air pl sp) n 20000000 ∧ bnd (psZ bk n k c air push pl sp) n 20000000 := by
  have hb2 : bnd (plbZ pl sp) n 2000000 := fun j a b => by
    have f0 := hp j a b
    have f1 := hs j a b
    unfold plbZ; omega
  refine ⟨fun j a b => ?_, fun j a b => ?_⟩
  · unfold ppZ
    split
    · have := (sp1_rng hn hk hc ha hp hs (b := j) ⟨a, b⟩).2.2; omega
    · have := hb2 j a b; omega
  · unfold psZ
    split
    · have h1 := (sp1_rng hn hk hc ha hp hs (b := j) ⟨a, b⟩).2.1
      unfold sp1Z
      split <;> omega
    · have f1 := hs j a b
      have h1 := (gnZ_m (M := 2000000) hn.2 (b := j) ⟨a, b⟩ hk hc (by decide) hb2).2.2
      unfold spbZ; omega
theorem bnd_cong {f g : Int → Int} {n M : Int} (h : ∀ j, 0 ≤ j → j < n → f j = g j) (hg : bnd g n M) : bnd f n M := fun j a b => by rw [h j a b]; exact hg j a b
theorem rn_step {n p d : Int} {P S : (Int → Int) → (Int → Int) → Int → Int} {pl sp nP nS : Int → Int} (hd : d < p) (hn : 0 ≤ n) (h : ∀ j, 0 ≤ j → j < n → nP j = P pl sp j ∧ nS j = S pl sp j) (hok : okZ nP nS (Int.toNat n) = true) :
    rnZ n P S (Int.toNat (p - d)) d pl sp = rnZ n P S (Int.toNat (p - (d + 1))) (d + 1) (cZ0 nP pl n) (cZ0 nS sp n) := by
  rw [show Int.toNat (p - d) = Int.toNat (p - (d + 1)) + 1 by omega]
  show (if _ then _ else _) = _
  rw [okZ_cong (P' := P pl sp) (S' := S pl sp) (fun j a b => h j a (by omega))] at hok
  rw [if_pos hok, cZ0_cong (fun j a b => (h j a b).1), cZ0_cong (fun j a b => (h j a b).2)]
theorem rn_stop {n p d : Int} {P S : (Int → Int) → (Int → Int) → Int → Int} {pl sp nP nS : Int → Int} (hd : d < p) (hn : 0 ≤ n) (h : ∀ j, 0 ≤ j → j < n → nP j = P pl sp j ∧ nS j = S pl sp j) (hok : ¬ okZ nP nS (Int.toNat n) = true) :
    rnZ n P S (Int.toNat (p - d)) d pl sp = (d, pl, sp) := by
  rw [show Int.toNat (p - d) = Int.toNat (p - (d + 1)) + 1 by omega]
  show (if _ then _ else _) = _
  rw [okZ_cong (P' := P pl sp) (S' := S pl sp) (fun j a b => h j a (by omega))] at hok
  rw [if_neg hok]
theorem ok_bnd {nP nS pl sp : Int → Int} {n : Int} (hn : 0 ≤ n) (hok : okZ nP nS (Int.toNat n) = true) : bnd (cZ0 nP pl n) n 1000000 ∧ bnd (cZ0 nS sp n) n 1000000 := by
  have h := okZ_at hok
  refine ⟨fun j a b => ?_, fun j a b => ?_⟩ <;> (rw [cZ0_in ⟨a, b⟩]; have := h j a (by omega); omega)
