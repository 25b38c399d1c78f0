/-! What the class and the reference compute, as plain functions of whole numbers. -/
def itZ {α : Type} (f : α → α) : Nat → α → α
  | 0, x => x
  | n + 1, x => f (itZ f n x)
theorem itZ_s {α : Type} (f : α → α) (n : Nat) (x : α) : itZ f (n + 1) x = f (itZ f n x) := rfl
theorem itZ_toNat {α : Type} (f : α → α) {i : Int} (h : 0 ≤ i) (x : α) : itZ f (i + 1).toNat x = f (itZ f i.toNat x) := by
  rw [show (i + 1).toNat = i.toNat + 1 by omega]; rfl
/-- the pull of a phase -/
def pullZ (d : Int) : Int := if d < 250 then d else if d < 750 then 500 - d else d - 1000
theorem pullZ_rng {d : Int} (h : 0 ≤ d ∧ d < 1000) : -250 ≤ pullZ d ∧ pullZ d ≤ 250 := by unfold pullZ; split <;> (try split) <;> omega
/-- a tick, its turns not taken off -/
def goZ (w c d : Int) : Int := d + w - c * pullZ d / 100
theorem z_mulr {a b A B : Int} (h1 : 0 ≤ a ∧ a ≤ A) (h2 : -B ≤ b ∧ b ≤ B) : -(A * B) ≤ a * b ∧ a * b ≤ A * B := by
  have hB : 0 ≤ B := by omega
  constructor
  · have h3 : a * -B ≤ a * b := Int.mul_le_mul_of_nonneg_left h2.1 h1.1
    have h4 : a * B ≤ A * B := Int.mul_le_mul_of_nonneg_right h1.2 hB
    rw [Int.mul_neg] at h3
    omega
  · have h3 : a * b ≤ a * B := Int.mul_le_mul_of_nonneg_left h2.2 h1.1
    have h4 : a * B ≤ A * B := Int.mul_le_mul_of_nonneg_right h1.2 hB
    omega
theorem goZ_rng {w c d : Int} (hw : 0 ≤ w ∧ w < 1000) (hc : 0 ≤ c ∧ c ≤ 300) (hd : 0 ≤ d ∧ d < 1000) : (-75000 ≤ c * pullZ d ∧ c * pullZ d ≤ 75000) ∧ -750 ≤ goZ w c d ∧ goZ w c d < 2750 := by
  have h1 := z_mulr hc (pullZ_rng hd)
  unfold goZ
  omega
/-- the phase behind a tick -/
def phZ (w c d : Int) : Int := goZ w c d % 1000
theorem phZ_rng (w c d : Int) : 0 ≤ phZ w c d ∧ phZ w c d < 1000 := by unfold phZ; omega
/-- a row of values comes to one met before: F j = F T, all ahead of T apart -/
def repZ (F : Nat → Int) (T j : Nat) : Prop := j < T ∧ F j = F T ∧ ∀ a b, a < b → b < T → F a ≠ F b
theorem repZ_one {F : Nat → Int} {T j T' j' : Nat} (h : repZ F T j) (h' : repZ F T' j') : T = T' ∧ j = j' := by
  obtain ⟨a1, a2, a3⟩ := h
  obtain ⟨b1, b2, b3⟩ := h'
  have e : T = T' := by
    rcases Nat.lt_trichotomy T T' with q | q | q
    · exact absurd a2 (b3 j T a1 q)
    · exact q
    · exact absurd b2 (a3 j' T' b1 q)
  subst e
  refine ⟨rfl, ?_⟩
  rcases Nat.lt_trichotomy j j' with q | q | q
  · exact absurd (a2.trans b2.symm) (a3 j j' q b1)
  · exact q
  · exact absurd (b2.trans a2.symm) (a3 j' j q a1)
noncomputable def repT (F : Nat → Int) : Nat := Classical.epsilon (fun T => ∃ j, repZ F T j)
noncomputable def repJ (F : Nat → Int) : Nat := Classical.epsilon (fun j => repZ F (repT F) j)
theorem repZ_of {F : Nat → Int} {T j : Nat} (h : repZ F T j) : repT F = T ∧ repJ F = j := by
  have h1 : ∃ j, repZ F (repT F) j := Classical.epsilon_spec (p := fun T => ∃ j, repZ F T j) ⟨T, j, h⟩
  have h2 : repZ F (repT F) (repJ F) := Classical.epsilon_spec (p := fun j => repZ F (repT F) j) h1
  have h3 := repZ_one h2 h
  exact h3
/-- no more different values than places -/
theorem z_holes : ∀ (m n : Nat) (f : Nat → Nat), (∀ i, i < n → f i < m) → (∀ i j, i < j → j < n → f i ≠ f j) → n ≤ m
  | 0, n, f, h, _ => by
    rcases Nat.eq_zero_or_pos n with q | q
    · omega
    · exact absurd (h 0 q) (Nat.not_lt_zero _)
  | m + 1, n, f, h, h2 => by
    rcases Nat.eq_zero_or_pos n with q | q
    · omega
    · -- drop the last, swap the value m by the last one's
      have ih := z_holes m (n - 1) (fun i => if f i = m then f (n - 1) else f i) (fun i hi => by
        have a := h i (by omega)
        have b := h (n - 1) (by omega)
        have c := h2 i (n - 1) hi (by omega)
        show (if f i = m then f (n - 1) else f i) < m
        split <;> omega) (fun i j hij hj => by
        have a := h2 i j hij (by omega)
        have b := h2 i (n - 1) (by omega) (by omega)
        have c := h2 j (n - 1) hj (by omega)
        show (if f i = m then f (n - 1) else f i) ≠ (if f j = m then f (n - 1) else f j)
        split <;> split <;> omega)
      omega
/-- the phases, the turns -/
def phS (w c d : Int) (k : Nat) : Int := itZ (phZ w c) k d
theorem phS_0 (w c d : Int) : phS w c d 0 = d := rfl
theorem phS_s (w c d : Int) (k : Nat) : phS w c d (k + 1) = goZ w c (phS w c d k) % 1000 := rfl
theorem phS_rng {w c d : Int} (hd : 0 ≤ d ∧ d < 1000) : ∀ k, 0 ≤ phS w c d k ∧ phS w c d k < 1000
  | 0 => hd
  | k + 1 => phZ_rng w c _
def gZ (w c d : Int) : Nat → Int
  | 0 => 0
  | k + 1 => gZ w c d k + goZ w c (phS w c d k) / 1000
theorem gZ_rng {w c d : Int} (hw : 0 ≤ w ∧ w < 1000) (hc : 0 ≤ c ∧ c ≤ 300) (hd : 0 ≤ d ∧ d < 1000) : ∀ k : Nat, -(k : Int) ≤ gZ w c d k ∧ gZ w c d k ≤ 2 * k
  | 0 => by simp [gZ]
  | k + 1 => by
    have h1 := gZ_rng hw hc hd k
    have h2 := (goZ_rng hw hc (phS_rng (w := w) (c := c) hd k)).2
    show -((k + 1 : Nat) : Int) ≤ gZ w c d k + goZ w c (phS w c d k) / 1000 ∧ gZ w c d k + goZ w c (phS w c d k) / 1000 ≤ 2 * ((k + 1 : Nat) : Int)
    omega
/-- a search's rows: which phases it has seen, when, and behind how many turns -/
def skI (w c d s : Int) (t : Nat) (sI tA tN : Int → Int) : Prop :=
  (∀ a b, a < b → b < t → phS w c d a ≠ phS w c d b) ∧ (∀ x, 0 ≤ x → x < 1000 → 0 ≤ sI x ∧ sI x ≤ s) ∧
  (∀ x, 0 ≤ x → x < 1000 → sI x = s → ∃ a : Nat, a < t ∧ phS w c d a = x ∧ tA x = a ∧ tN x = gZ w c d a) ∧ ∀ a, a < t → sI (phS w c d a) = s
theorem skI_0 {w c d s : Int} {sI tA tN : Int → Int} (h : ∀ x, 0 ≤ x → x < 1000 → 0 ≤ sI x ∧ sI x ≤ s) : skI w c d (s + 1) 0 sI tA tN :=
  ⟨fun a b _ h2 => absurd h2 (Nat.not_lt_zero _), fun x h1 h2 => by have := h x h1 h2; omega, fun x h1 h2 h3 => by have := h x h1 h2; omega, fun a h2 => absurd h2 (Nat.not_lt_zero _)⟩
theorem skI_step {w c d s : Int} {t : Nat} {sI tA tN : Int → Int} (hs : 0 ≤ s) (h : skI w c d s t sI tA tN) (hn : sI (phS w c d t) ≠ s) :
    skI w c d s (t + 1) (uZ sI (phS w c d t) s) (uZ tA (phS w c d t) t) (uZ tN (phS w c d t) (gZ w c d t)) := by
  obtain ⟨h1, h2, h3, h4⟩ := h
  refine ⟨fun a b ha hb => ?_, fun x a b => ?_, fun x a b hx => ?_, fun a ha => ?_⟩
  · rcases Nat.lt_or_ge b t with q | q
    · exact h1 a b ha q
    · have : b = t := by omega
      subst this
      intro e
      exact hn (by rw [← e]; exact h4 a ha)
  · by_cases e : x = phS w c d t
    · rw [e, uZ_s]; omega
    · rw [uZ_n e]; exact h2 x a b
  · by_cases e : x = phS w c d t
    · exact ⟨t, by omega, e.symm, by rw [e, uZ_s], by rw [e, uZ_s]⟩
    · rw [uZ_n e] at hx
      obtain ⟨k, k1, k2, k3, k4⟩ := h3 x a b hx
      exact ⟨k, by omega, k2, by rw [uZ_n e]; exact k3, by rw [uZ_n e]; exact k4⟩
  · by_cases e : phS w c d a = phS w c d t
    · rw [e, uZ_s]
    · rw [uZ_n e]
      have : a ≠ t := fun z => e (by rw [z])
      exact h4 a (by omega)
theorem skI_hit {w c d s : Int} {t : Nat} {sI tA tN : Int → Int} (hd : 0 ≤ d ∧ d < 1000) (h : skI w c d s t sI tA tN) (hn : sI (phS w c d t) = s) :
    tA (phS w c d t) = repJ (phS w c d) ∧ tN (phS w c d t) = gZ w c d (repJ (phS w c d)) ∧ t = repT (phS w c d) := by
  obtain ⟨h1, h2, h3, h4⟩ := h
  have hr := phS_rng (w := w) (c := c) hd t
  obtain ⟨k, k1, k2, k3, k4⟩ := h3 _ hr.1 hr.2 hn
  obtain ⟨e1, e2⟩ := repZ_of (F := phS w c d) (T := t) (j := k) ⟨k1, k2, h1⟩
  exact ⟨by rw [k3, e2], by rw [k4, e2], e1.symm⟩
theorem skI_end {w c d s : Int} {t : Nat} {sI tA tN : Int → Int} (hd : 0 ≤ d ∧ d < 1000) (h : skI w c d s t sI tA tN) : t ≤ 1000 := by
  refine z_holes 1000 t (fun k => (phS w c d k).toNat) (fun i _ => ?_) (fun i j hij hj => ?_)
  · have := phS_rng (w := w) (c := c) hd i
    show (phS w c d i).toNat < 1000
    omega
  · have a := phS_rng (w := w) (c := c) hd i
    have b := phS_rng (w := w) (c := c) hd j
    have := h.1 i j hij hj
    show (phS w c d i).toNat ≠ (phS w c d j).toNat
    omega
theorem rep_le {w c d : Int} (hd : 0 ≤ d ∧ d < 1000) : repJ (phS w c d) < repT (phS w c d) ∧ repT (phS w c d) ≤ 1000 := by
  have hex : ∃ T j, repZ (phS w c d) T j := by
    have key : ∀ n : Nat, (∃ T j, repZ (phS w c d) T j) ∨ ∀ a b, a < b → b < n → phS w c d a ≠ phS w c d b := by
      intro n
      induction n with
      | zero => exact Or.inr (fun a b _ h => absurd h (Nat.not_lt_zero _))
      | succ n ih =>
        rcases ih with h | h
        · exact Or.inl h
        · by_cases q : ∃ j, j < n ∧ phS w c d j = phS w c d n
          · obtain ⟨j, j1, j2⟩ := q
            exact Or.inl ⟨n, j, j1, j2, h⟩
          · refine Or.inr (fun a b ha hb => ?_)
            rcases Nat.lt_or_ge b n with z | z
            · exact h a b ha z
            · have : b = n := by omega
              subst this
              exact fun e => q ⟨a, ha, e⟩
    rcases key 1001 with h | h
    · exact h
    · exfalso
      have := z_holes 1000 1001 (fun k => (phS w c d k).toNat) (fun i _ => by
        have := phS_rng (w := w) (c := c) hd i
        show (phS w c d i).toNat < 1000
        omega) (fun i j hij hj => by
        have a := phS_rng (w := w) (c := c) hd i
        have b := phS_rng (w := w) (c := c) hd j
        have := h i j hij hj
        show (phS w c d i).toNat ≠ (phS w c d j).toNat
        omega)
      omega
  obtain ⟨T, j, h⟩ := hex
  obtain ⟨e1, e2⟩ := repZ_of h
  rw [e1, e2]
  refine ⟨h.1, ?_⟩
  refine z_holes 1000 T (fun k => (phS w c d k).toNat) (fun i _ => ?_) (fun i j hij hj => ?_)
  · have := phS_rng (w := w) (c := c) hd i
    show (phS w c d i).toNat < 1000
    omega
  · have a := phS_rng (w := w) (c := c) hd i
    have b := phS_rng (w := w) (c := c) hd j
    have := h.2.2 i j hij hj
    show (phS w c d i).toNat ≠ (phS w c d j).toNat
    omega
/-- a round's period, turns, lead -/
noncomputable def perZ (w c d : Int) : Int := (repT (phS w c d) : Int) - repJ (phS w c d)
noncomputable def trnZ (w c d : Int) : Int := gZ w c d (repT (phS w c d)) - gZ w c d (repJ (phS w c d))
noncomputable def ledZ (w c d : Int) : Int := repJ (phS w c d)
theorem rnd_rng {w c d : Int} (hw : 0 ≤ w ∧ w < 1000) (hc : 0 ≤ c ∧ c ≤ 300) (hd : 0 ≤ d ∧ d < 1000) : (1 ≤ perZ w c d ∧ perZ w c d ≤ 1000) ∧ (-3000 ≤ trnZ w c d ∧ trnZ w c d ≤ 3000) ∧ 0 ≤ ledZ w c d ∧ ledZ w c d < 1000 := by
  have h1 := rep_le (w := w) (c := c) hd
  have h2 := gZ_rng hw hc hd (repT (phS w c d))
  have h3 := gZ_rng hw hc hd (repJ (phS w c d))
  unfold perZ trnZ ledZ
  omega
/-- a sum over the first n -/
def smZ (f : Int → Int) : Nat → Int
  | 0 => 0
  | n + 1 => smZ f n + f n
theorem smZ_toNat (f : Int → Int) {i : Int} (h : 0 ≤ i) : smZ f (i + 1).toNat = smZ f i.toNat + f i := by
  rw [show (i + 1).toNat = i.toNat + 1 by omega]
  show smZ f i.toNat + f (i.toNat : Int) = _
  rw [show ((i.toNat : Nat) : Int) = i by omega]
theorem smZ_cong {f g : Int → Int} : ∀ {n : Nat}, (∀ k : Int, 0 ≤ k → k < n → f k = g k) → smZ f n = smZ g n
  | 0, _ => rfl
  | n + 1, h => by
    show smZ f n + f n = smZ g n + g n
    rw [smZ_cong (fun k h1 h2 => h k h1 (by omega)), h n (by omega) (by omega)]
theorem smZ_rng {f : Int → Int} {lo hi : Int} (h : ∀ k, lo ≤ f k ∧ f k ≤ hi) : ∀ n : Nat, n * lo ≤ smZ f n ∧ smZ f n ≤ n * hi
  | 0 => by simp [smZ]
  | n + 1 => by
    have h1 := smZ_rng h n
    have h2 := h n
    show ((n + 1 : Nat) : Int) * lo ≤ smZ f n + f n ∧ smZ f n + f n ≤ ((n + 1 : Nat) : Int) * hi
    rw [Int.natCast_add, Int.add_mul, Int.add_mul]
    simp only [Int.natCast_one, Int.one_mul]
    omega
theorem sm01 {f : Int → Int} (h : ∀ k, 0 ≤ f k ∧ f k ≤ 1) (n : Nat) : 0 ≤ smZ f n ∧ smZ f n ≤ n := by
  have := smZ_rng (lo := 0) (hi := 1) h n
  omega
/-- whether a detuning locks so -/
noncomputable def lkZ (c turns period w : Int) : Int := pI (trnZ w c 0 * period = turns * perZ w c 0)
/-! clocks -/
def ckOK (str arc chk adj : Int → Int) (ht pr : Int) : Prop :=
  (∀ j, 0 ≤ j → j < 10 → (0 ≤ str j ∧ str j ≤ 19) ∧ (0 ≤ arc j ∧ arc j ≤ 200) ∧ (chk j = 0 ∨ chk j = 1) ∧ (-1000000 ≤ adj j ∧ adj j ≤ 1000000)) ∧ (-20 ≤ ht ∧ ht ≤ 50) ∧ (900 ≤ pr ∧ pr ≤ 1100)
def rateZ (str arc chk adj : Int → Int) (ht pr k : Int) : Int :=
  adj k - ((432 * str k) * (ht - 20) / 10 + (if chk k = 0 then (54 * arc k) * arc k / 10 else 0)) - 12 * (pr - 1013)
theorem rateZ_m {str arc chk adj : Int → Int} {ht pr k : Int} (h : ckOK str arc chk adj ht pr) (hk : 0 ≤ k ∧ k < 10) :
    (-328320 ≤ (432 * str k) * (ht - 20) ∧ (432 * str k) * (ht - 20) ≤ 328320) ∧ (-2160000 ≤ (54 * arc k) * arc k ∧ (54 * arc k) * arc k ≤ 2160000) ∧ (0 ≤ (54 * arc k) * arc k) ∧ (-2000000 ≤ rateZ str arc chk adj ht pr k ∧ rateZ str arc chk adj ht pr k ≤ 2000000) := by
  obtain ⟨h1, h2, h3⟩ := h
  obtain ⟨a1, a2, a3, a4⟩ := h1 k hk.1 hk.2
  have m1 := z_mulr (a := 432 * str k) (A := 8208) (b := ht - 20) (B := 40) (by omega) (by omega)
  have m2 := z_mulr (a := 54 * arc k) (A := 10800) (b := arc k) (B := 200) (by omega) (by omega)
  have m3 : 0 ≤ (54 * arc k) * arc k := Int.mul_nonneg (by omega) a2.1
  refine ⟨by omega, by omega, m3, ?_⟩
  unfold rateZ
  split <;> omega
/-- where x is put among the first k of f, from behind -/
def posZ (f : Int → Int) (x : Int) : Nat → Nat
  | 0 => 0
  | k + 1 => if x < f k then posZ f x k else k + 1
def insZ (f : Int → Int) (x : Int) (k : Nat) : Int → Int := fun j => if j < posZ f x k then f j else if j = posZ f x k then x else f (j - 1)
/-- the first k of off, in order -/
def srtZ (off : Int → Int) : Nat → Int → Int
  | 0 => fun _ => 0
  | k + 1 => insZ (srtZ off k) (off k) k
theorem posZ_le (f : Int → Int) (x : Int) : ∀ k, posZ f x k ≤ k
  | 0 => Nat.le_refl 0
  | k + 1 => by
    have := posZ_le f x k
    unfold posZ
    split <;> omega
theorem so_step {off q : Int → Int} {k a : Int} (h1 : 0 ≤ a ∧ a ≤ k) (h2 : ∀ j, 0 ≤ j → j < a → q j = srtZ off (Int.toNat k) j) (h3 : ∀ j, a < j → j ≤ k → q j = srtZ off (Int.toNat k) (j - 1))
    (h4 : posZ (srtZ off (Int.toNat k)) (off k) (Int.toNat k) = posZ (srtZ off (Int.toNat k)) (off k) (Int.toNat a)) (hE : a ≤ 0 ∨ q (a - 1) ≤ off k) :
    ∀ j, 0 ≤ j → j < k + 1 → uZ q a (off k) j = srtZ off (Int.toNat (k + 1)) j := by
  have hp : posZ (srtZ off (Int.toNat k)) (off k) (Int.toNat a) = Int.toNat a := by
    cases e : Int.toNat a with
    | zero => rfl
    | succ b =>
      unfold posZ
      have e2 := h2 (a - 1) (by omega) (by omega)
      have e3 : ((b : Nat) : Int) = a - 1 := by omega
      rw [if_neg (by rw [e3, ← e2]; omega)]
  rw [hp] at h4
  intro j j1 j2
  rw [show Int.toNat (k + 1) = Int.toNat k + 1 by omega]
  show _ = insZ (srtZ off (Int.toNat k)) (off ((Int.toNat k : Nat) : Int)) (Int.toNat k) j
  rw [show ((Int.toNat k : Nat) : Int) = k by omega]
  unfold insZ
  rw [h4, show ((Int.toNat a : Nat) : Int) = a by omega]
  rcases Int.lt_trichotomy j a with z | z | z
  · rw [if_pos z, uZ_n (by omega)]; exact h2 j j1 z
  · rw [if_neg (by omega), if_pos z, z, uZ_s]
  · rw [if_neg (by omega), if_neg (by omega), uZ_n (by omega)]; exact h3 j z (by omega)
theorem bd_uZ {f : Int → Int} {k x lo hi n : Int} (h : ∀ j, 0 ≤ j → j < n → lo ≤ f j ∧ f j ≤ hi) (hx : lo ≤ x ∧ x ≤ hi) : ∀ j, 0 ≤ j → j < n → lo ≤ uZ f k x j ∧ uZ f k x j ≤ hi := by
  intro j a b
  by_cases e : j = k
  · rw [e, uZ_s]; exact hx
  · rw [uZ_n e]; exact h j a b
theorem srtZ_rng {off : Int → Int} {B : Int} (hB : 0 ≤ B) : ∀ {n : Nat}, (∀ j : Int, 0 ≤ j → j < n → -B ≤ off j ∧ off j ≤ B) → ∀ j : Int, 0 ≤ j → j < n → -B ≤ srtZ off n j ∧ srtZ off n j ≤ B
  | 0, _, j, a, b => by omega
  | n + 1, h, j, a, b => by
    have ih := srtZ_rng hB (n := n) (fun j a b => h j a (by omega))
    have hp := posZ_le (srtZ off n) (off n) n
    show -B ≤ insZ (srtZ off n) (off n) n j ∧ insZ (srtZ off n) (off n) n j ≤ B
    unfold insZ
    split
    · exact ih j a (by omega)
    · split
      · exact h n (by omega) (by omega)
      · exact ih (j - 1) (by omega) (by omega)
def midZ (off : Int → Int) (n : Int) : Int := (srtZ off (Int.toNat n) ((n - 1) / 2) + srtZ off (Int.toNat n) (n / 2)) / 2
theorem z_td2 {x : Int} (h : -1 ≤ x) : (0 ≤ x ∧ Int.tdiv x 2 = x / 2) ∨ (x = -1 ∧ Int.tdiv x 2 = 0) := by
  rcases Int.lt_or_le x 0 with q | q
  · have : x = -1 := by omega
    subst this
    exact Or.inr ⟨rfl, rfl⟩
  · exact Or.inl ⟨q, Int.tdiv_eq_ediv_of_nonneg q⟩
/-- days gone by -/
def goN (rt : Int → Int) (d k : Int) (off : Int → Int) : Int → Int := fun j => if 0 ≤ j ∧ j < k then off j + rt j * d else off j
theorem goN_0 (rt : Int → Int) (d : Int) (off : Int → Int) : goN rt d 0 off = off := by
  funext j; unfold goN; rw [if_neg (by omega)]
theorem goN_at (rt : Int → Int) (d : Int) (off : Int → Int) (k : Int) : goN rt d k off k = off k := by unfold goN; rw [if_neg (by omega)]
theorem goN_s (rt : Int → Int) (d : Int) (off : Int → Int) {k : Int} (hk : 0 ≤ k) : uZ (goN rt d k off) k (goN rt d k off k + rt k * d) = goN rt d (k + 1) off := by
  funext j
  by_cases e : j = k
  · rw [e, uZ_s, goN_at]; unfold goN; rw [if_pos (by omega)]
  · rw [uZ_n e]; unfold goN
    by_cases q : 0 ≤ j ∧ j < k
    · rw [if_pos q, if_pos (by omega)]
    · rw [if_neg q, if_neg (by omega)]
def nearZ (x t : Int) : Int := pI (-500 ≤ x - t ∧ x - t ≤ 500)
