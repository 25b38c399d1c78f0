/-! gravity, as the reference finds it -/
theorem any_of (p : Int → Bool) : ∀ {n : Nat} {c : Int}, 0 ≤ c → c < n → p c = true → anyZ p n = true
  | 0, c, a, b, _ => by omega
  | n + 1, c, a, b, h => by
    show (anyZ p n || p n) = true
    rcases Int.lt_or_le c n with q | q
    · rw [any_of p a q h, Bool.true_or]
    · rw [show (n : Int) = c by omega, h, Bool.or_true]
theorem any_no (p : Int → Bool) : ∀ {n : Nat}, (∀ c : Int, 0 ≤ c → c < n → p c = false) → anyZ p n = false
  | 0, _ => rfl
  | n + 1, h => by
    show (anyZ p n || p n) = false
    rw [any_no p (fun c a b => h c a (by omega)), h n (by omega) (by omega)]; rfl
theorem ly_hit {B : Int → Int} {dat : Int} {f : Nat} {k c : Int} (h : lyZ B dat f k = -1) (hc : 0 ≤ c ∧ c ≤ 9) (h2 : lyZ B dat f c = f ∧ B (c * 10 + k) = 1) : lyZ B dat (f + 1) k = f + 1 := by
  show lstZ B (lyZ B dat f) f 10 k = f + 1
  unfold lstZ
  rw [if_neg (show ¬ lyZ B dat f k ≠ -1 by omega), if_pos (any_of _ hc.1 (show c < ((10 : Nat) : Int) by omega) (decide_eq_true ⟨h2.2, h2.1⟩))]
theorem ly_miss {B : Int → Int} {dat : Int} {f : Nat} {k : Int} (h : lyZ B dat f k ≠ -1 ∨ ∀ c, 0 ≤ c → c ≤ 9 → ¬ (lyZ B dat f c = f ∧ B (c * 10 + k) = 1)) : lyZ B dat (f + 1) k = lyZ B dat f k := by
  show lstZ B (lyZ B dat f) f 10 k = _
  unfold lstZ
  by_cases q : lyZ B dat f k = -1
  · have h2 : ∀ c, 0 ≤ c → c ≤ 9 → ¬ (lyZ B dat f c = f ∧ B (c * 10 + k) = 1) := by
      rcases h with z | z
      · exact absurd q z
      · exact z
    rw [if_neg (show ¬ lyZ B dat f k ≠ -1 by omega), any_no _ (fun c a b => decide_eq_false (fun z => h2 c a (by omega) ⟨z.2, z.1⟩)), q]
    exact if_neg (by decide)
  · rw [if_pos q]
/-- a layer more leaves those that are met as they are -/
theorem ly_keep {B : Int → Int} {dat : Int} {f : Nat} {k : Int} (h : lyZ B dat f k ≠ -1) : lyZ B dat (f + 1) k = lyZ B dat f k := ly_miss (Or.inl h)
theorem ly_new {B : Int → Int} {dat : Int} {f : Nat} {k : Int} (h : lyZ B dat f k = -1) : lyZ B dat (f + 1) k = -1 ∨ lyZ B dat (f + 1) k = f + 1 := by
  show lstZ B (lyZ B dat f) f 10 k = -1 ∨ lstZ B (lyZ B dat f) f 10 k = f + 1
  unfold lstZ
  rw [if_neg (show ¬ lyZ B dat f k ≠ -1 by omega)]
  split
  · exact Or.inr rfl
  · exact Or.inl rfl
theorem ly_at {B : Int → Int} {dat : Int} {f : Nat} {k : Int} : lyZ B dat (f + 1) k = f ↔ lyZ B dat f k = f := by
  by_cases q : lyZ B dat f k = -1
  · rcases ly_new q with z | z
    · omega
    · omega
  · rw [ly_keep q]
def gyZ (B T : Int → Int) (dat dv : Int) : Nat → Int → Int
  | 0 => fun _ => dv
  | f + 1 => fun k => if lyZ B dat f k = -1 ∧ lyZ B dat (f + 1) k = f + 1 then gyZ B T dat dv f (lwZ B (lyZ B dat f) k f 10 0) + T (lwZ B (lyZ B dat f) k f 10 0 * 10 + k) else gyZ B T dat dv f k
theorem gy_keep {B T : Int → Int} {dat dv : Int} {f : Nat} {k : Int} (h : lyZ B dat f k ≠ -1) : gyZ B T dat dv (f + 1) k = gyZ B T dat dv f k := by
  show (if _ then _ else _) = _
  rw [if_neg (fun z => h z.1)]
def wkI (B T : Int → Int) (dat dv : Int) (f : Nat) (k : Int) (s q : Int → Int) : Prop :=
  ∀ j, 0 ≤ j → j < 10 → (s j = if j < k then lyZ B dat (f + 1) j else lyZ B dat f j) ∧ (q j = if j < k then gyZ B T dat dv (f + 1) j else gyZ B T dat dv f j)
def wbI (B T : Int → Int) (dat dv : Int) (f : Nat) (k b : Int) (s q : Int → Int) : Prop :=
  (∀ j, 0 ≤ j → j < 10 → j ≠ k → (s j = if j < k then lyZ B dat (f + 1) j else lyZ B dat f j) ∧ (q j = if j < k then gyZ B T dat dv (f + 1) j else gyZ B T dat dv f j)) ∧
  ((s k = f + 1 ∧ lyZ B dat f k = -1 ∧ (∃ c, b < c ∧ c ≤ 9 ∧ lyZ B dat f c = f ∧ B (c * 10 + k) = 1) ∧ q k = gyZ B T dat dv f (lwZ B (lyZ B dat f) k f (Int.toNat (9 - b)) (b + 1)) + T (lwZ B (lyZ B dat f) k f (Int.toNat (9 - b)) (b + 1) * 10 + k)) ∨
   (s k = lyZ B dat f k ∧ q k = gyZ B T dat dv f k ∧ (lyZ B dat f k ≠ -1 ∨ ∀ c, b < c → c ≤ 9 → ¬ (lyZ B dat f c = f ∧ B (c * 10 + k) = 1))))
theorem wk_b {B T : Int → Int} {dat dv : Int} {f : Nat} {k : Int} {s q : Int → Int} (hk : 0 ≤ k ∧ k < 10) (h : wkI B T dat dv f k s q) : wbI B T dat dv f k 9 s q := by
  refine ⟨fun j a b _ => h j a b, Or.inr ?_⟩
  obtain ⟨h1, h2⟩ := h k hk.1 hk.2
  rw [if_neg (by omega)] at h1 h2
  exact ⟨h1, h2, Or.inr (fun c a b => by omega)⟩
theorem wb_at {B T : Int → Int} {dat dv : Int} {f : Nat} {k b b' : Int} {s q : Int → Int} (h : wbI B T dat dv f k b' s q) (hb : 0 ≤ b ∧ b < 10) (hne : b ≠ k) : (s b = f ↔ lyZ B dat f b = f) ∧ (s b = f → q b = gyZ B T dat dv f b) := by
  obtain ⟨h1, h2⟩ := h.1 b hb.1 hb.2 hne
  by_cases z : b < k
  · rw [if_pos z] at h1 h2
    rw [h1, h2]
    refine ⟨ly_at, fun y => gy_keep ?_⟩
    have := ly_at.1 y
    omega
  · rw [if_neg z] at h1 h2
    rw [h1, h2]
    exact ⟨Iff.rfl, fun _ => rfl⟩
theorem wb_hit {B T : Int → Int} {dat dv : Int} {f : Nat} {k b b' : Int} {s q : Int → Int} (h : wbI B T dat dv f k b' s q) (hb : 0 ≤ b ∧ b < 10) (hk : lyZ B dat f k = -1) : s b = f ↔ lyZ B dat f b = f := by
  by_cases z : b = k
  · rw [z, hk]
    rcases h.2 with y | y
    · omega
    · omega
  · exact (wb_at h hb z).1
theorem lw_n {B st : Int → Int} {k f b : Int} (hb : 0 ≤ b ∧ b < 10) (h : ¬ (st b = f ∧ B (b * 10 + k) = 1)) : lwZ B st k f (Int.toNat (9 - (b - 1))) (b - 1 + 1) = lwZ B st k f (Int.toNat (9 - b)) (b + 1) := by
  rw [show 9 - (b - 1) = 10 - b by omega, show b - 1 + 1 = b by omega, show 9 - b = 10 - (b + 1) by omega]; exact lwZ_n hb h
theorem lw_y {B st : Int → Int} {k f b : Int} (hb : 0 ≤ b ∧ b < 10) (h : st b = f ∧ B (b * 10 + k) = 1) : lwZ B st k f (Int.toNat (9 - (b - 1))) (b - 1 + 1) = b := by
  rw [show 9 - (b - 1) = 10 - b by omega, show b - 1 + 1 = b by omega]; exact lwZ_y hb h
theorem wb_no {B T : Int → Int} {dat dv : Int} {f : Nat} {k b : Int} {s q : Int → Int} (hb : 0 ≤ b ∧ b < 10) (h : wbI B T dat dv f k b s q) (hn : ¬ (B (b * 10 + k) = 1 ∧ s b = f ∧ (s k = -1 ∨ s k = f + 1))) : wbI B T dat dv f k (b - 1) s q := by
  refine ⟨h.1, ?_⟩
  rcases h.2 with ⟨a1, a2, ⟨c, c1, c2, c3⟩, a4⟩ | ⟨a1, a2, a3⟩
  · have hm : ¬ (lyZ B dat f b = f ∧ B (b * 10 + k) = 1) := fun z => hn ⟨z.2, (wb_hit h hb a2).2 z.1, Or.inr a1⟩
    refine Or.inl ⟨a1, a2, ⟨c, by omega, c2, c3⟩, ?_⟩
    rw [lw_n hb hm]; exact a4
  · refine Or.inr ⟨a1, a2, ?_⟩
    by_cases z : lyZ B dat f k = -1
    · refine Or.inr (fun c c1 c2 y => ?_)
      by_cases e : c = b
      · subst e
        exact hn ⟨y.2, (wb_hit h hb z).2 y.1, Or.inl (by omega)⟩
      · rcases a3 with x | x
        · exact x z
        · exact x c (by omega) c2 y
    · exact Or.inl z
theorem wb_yes {B T : Int → Int} {dat dv : Int} {f : Nat} {k b : Int} {s q : Int → Int} (hb : 0 ≤ b ∧ b < 10) (h : wbI B T dat dv f k b s q) (h1 : B (b * 10 + k) = 1) (h2 : s b = f) (h3 : s k = -1 ∨ s k = f + 1) {x y : Int} (hx : x = f + 1) (hy : y = T (b * 10 + k)) : wbI B T dat dv f k (b - 1) (uZ s k x) (uZ q k (q b + y)) := by
  rw [hx, hy]
  have hne : b ≠ k := fun e => by subst e; omega
  have hk : lyZ B dat f k = -1 := by
    rcases h.2 with y | y
    · exact y.2.1
    · have r := lyZ_rng B dat f k
      omega
  obtain ⟨g1, g2⟩ := wb_at h hb hne
  have g3 := g1.1 h2
  refine ⟨fun j j1 j2 j3 => ?_, Or.inl ⟨uZ_s _ _ _, hk, ⟨b, by omega, by omega, g3, h1⟩, ?_⟩⟩
  · rw [uZ_n j3, uZ_n j3]; exact h.1 j j1 j2 j3
  · rw [uZ_s, lw_y hb ⟨g3, h1⟩, g2 h2]
theorem b_wk {B T : Int → Int} {dat dv : Int} {f : Nat} {k : Int} {s q : Int → Int} (hk : 0 ≤ k ∧ k < 10) (h : wbI B T dat dv f k (-1) s q) : wkI B T dat dv f (k + 1) s q := by
  intro j j1 j2
  by_cases e : j = k
  · subst e
    rw [if_pos (show j < j + 1 by omega), if_pos (show j < j + 1 by omega)]
    rcases h.2 with ⟨a1, a2, ⟨c, c1, c2, c3⟩, a4⟩ | ⟨a1, a2, a3⟩
    · have r := ly_hit a2 ⟨by omega, c2⟩ c3
      refine ⟨a1.trans r.symm, a4.trans ?_⟩
      show _ = if _ then _ else _
      rw [if_pos ⟨a2, r⟩]; rfl
    · have r : lyZ B dat (f + 1) j = lyZ B dat f j := ly_miss (a3.imp id (fun x c c1 c2 => x c (by omega) c2))
      refine ⟨a1.trans r.symm, a2.trans ?_⟩
      show _ = if _ then _ else _
      have r2 := lyZ_rng B dat f j
      rw [if_neg (fun z => by omega)]
  · obtain ⟨h1, h2⟩ := h.1 j j1 j2 e
    rw [h1, h2]
    by_cases z : j < k
    · rw [if_pos z, if_pos z, if_pos (by omega), if_pos (by omega)]; exact ⟨rfl, rfl⟩
    · rw [if_neg z, if_neg z, if_neg (by omega), if_neg (by omega)]; exact ⟨rfl, rfl⟩
theorem wk_far {B T : Int → Int} {dat dv : Int} {f : Nat} {k : Int} {s q : Int → Int} (hk : 10 ≤ k) (h : wkI B T dat dv f k s q) : wkI B T dat dv (f + 1) 0 s q := by
  intro j j1 j2
  obtain ⟨h1, h2⟩ := h j j1 j2
  rw [if_pos (by omega)] at h1 h2
  rw [if_neg (by omega), if_neg (by omega)]
  exact ⟨h1, h2⟩
theorem wk_rng {B T : Int → Int} {dat dv : Int} {f : Nat} {k b : Int} {s q : Int → Int} (h : wbI B T dat dv f k b s q) {j : Int} (h0 : 0 ≤ j ∧ j < 10) : -1 ≤ s j ∧ s j ≤ f + 1 := by
  by_cases e : j = k
  · subst e
    have r := lyZ_rng B dat f j
    rcases h.2 with y | y <;> omega
  · have h1 := (h.1 j h0.1 h0.2 e).1
    have r1 := lyZ_rng B dat f j
    have r2 := lyZ_rng B dat (f + 1) j
    rw [h1]
    split <;> omega
/-- the found way's sum is the class's -/
theorem ly_up {B : Int → Int} {dat : Int} {f : Nat} {k : Int} (h : lyZ B dat f k ≠ -1) : ∀ n, lyZ B dat (f + n) k = lyZ B dat f k
  | 0 => rfl
  | n + 1 => by
    have ih := ly_up h n
    have : lyZ B dat (f + n) k ≠ -1 := by omega
    exact (ly_keep this).trans ih
theorem gy_up {B T : Int → Int} {dat dv : Int} {f : Nat} {k : Int} (h : lyZ B dat f k ≠ -1) : ∀ n, gyZ B T dat dv (f + n) k = gyZ B T dat dv f k
  | 0 => rfl
  | n + 1 => by
    have ih := gy_up (T := T) (dv := dv) h n
    have : lyZ B dat (f + n) k ≠ -1 := by have := ly_up h n; omega
    exact (gy_keep this).trans ih
/-- that k is f off tells what the layer f + 1 did -/
theorem ly_was {B : Int → Int} {dat : Int} {k : Int} : ∀ (n f : Nat), lyZ B dat n k = f → f ≤ n ∧ lyZ B dat f k = f ∧ ∀ g, g < f → lyZ B dat g k = -1
  | 0, f, h => by
    have r := lyZ_rng B dat 0 k
    have e : f = 0 := by omega
    subst e
    exact ⟨by omega, h, fun g hg => by omega⟩
  | n + 1, f, h => by
    by_cases q : lyZ B dat n k = -1
    · rcases ly_new q with z | z
      · omega
      · have e : f = n + 1 := by omega
        subst e
        refine ⟨by omega, h, fun g hg => ?_⟩
        by_cases y : lyZ B dat g k = -1
        · exact y
        · have := ly_up y (n - g)
          rw [show g + (n - g) = n by omega] at this
          omega
    · rw [ly_keep q] at h
      obtain ⟨a, b, c⟩ := ly_was n f h
      exact ⟨by omega, b, c⟩
theorem lw_cong {B st st' : Int → Int} {k f : Int} (h : ∀ c, 0 ≤ c → c < 10 → (st c = f ↔ st' c = f)) : ∀ (n : Nat) (b : Int), 0 ≤ b → b + n ≤ 10 → lwZ B st k f n b = lwZ B st' k f n b
  | 0, _, _, _ => rfl
  | n + 1, b, h1, h2 => by
    show (if _ then _ else _) = (if _ then _ else _)
    rw [lw_cong h n (b + 1) (by omega) (by omega)]
    have e := h b h1 (by omega)
    by_cases z : st b = f ∧ B (b * 10 + k) = 1
    · rw [if_pos z, if_pos ⟨e.1 z.1, z.2⟩]
    · rw [if_neg z, if_neg (fun y => z ⟨e.2 y.1, y.2⟩)]
theorem lw_hit {B st : Int → Int} {k f : Int} : ∀ (n : Nat) (b c : Int), b ≤ c → c < b + n → (st c = f ∧ B (c * 10 + k) = 1) → st (lwZ B st k f n b) = f ∧ B (lwZ B st k f n b * 10 + k) = 1
  | 0, b, c, h1, h2, _ => by omega
  | n + 1, b, c, h1, h2, h3 => by
    by_cases z : st b = f ∧ B (b * 10 + k) = 1
    · rw [show lwZ B st k f (n + 1) b = b from if_pos z]; exact z
    · rw [show lwZ B st k f (n + 1) b = lwZ B st k f n (b + 1) from if_neg z]
      by_cases e : c = b
      · subst e; exact absurd h3 z
      · exact lw_hit n (b + 1) c (by omega) (by omega) h3
theorem cr_gy {B T : Int → Int} {dat dv : Int} {st : Int → Int} (hst : ∀ j, 0 ≤ j → j < 10 → st j = lyZ B dat 9 j) : ∀ (f : Nat) (k s : Int), 0 ≤ k → k < 10 → lyZ B dat 9 k = f → crZ B T st f k s = s + (gyZ B T dat dv 9 k - dv)
  | 0, k, s, k1, k2, h => by
    obtain ⟨a, b, c⟩ := ly_was 9 0 h
    have : gyZ B T dat dv (0 + 9) k = gyZ B T dat dv 0 k := gy_up (by omega) 9
    rw [show gyZ B T dat dv 9 k = gyZ B T dat dv 0 k from this]
    show s = s + (dv - dv)
    omega
  | f + 1, k, s, k1, k2, h => by
    obtain ⟨a, b, c⟩ := ly_was 9 (f + 1) h
    have cf := c f (by omega)
    have hat : ∀ j, 0 ≤ j → j < 10 → (st j = f ↔ lyZ B dat f j = f) := fun j j1 j2 => by
      rw [hst j j1 j2]
      refine ⟨fun z => (ly_was 9 f z).2.1, fun z => ?_⟩
      have := ly_up (f := f) (k := j) (B := B) (dat := dat) (by omega) (9 - f)
      rw [show f + (9 - f) = 9 by omega] at this
      omega
    have elw : lwZ B st k f 10 0 = lwZ B (lyZ B dat f) k f 10 0 := lw_cong hat 10 0 (by omega) (by omega)
    have rlw := lwZ_rng (B := B) (st := lyZ B dat f) (k := k) (far := f) ⟨k1, k2⟩ 10 0 (by omega) (by omega)
    have ⟨c9, e1, e2, e3⟩ : ∃ c, 0 ≤ c ∧ c ≤ 9 ∧ (lyZ B dat f c = f ∧ B (c * 10 + k) = 1) := by
      apply Classical.byContradiction
      intro z
      have := ly_miss (B := B) (dat := dat) (f := f) (k := k) (Or.inr (fun c a b y => z ⟨c, a, b, y⟩))
      have b2 : lyZ B dat (f + 1) k = (f : Int) + 1 := b
      omega
    have hl := (lw_hit (B := B) (st := lyZ B dat f) (k := k) (f := f) 10 0 c9 e1 (by omega) e3).1
    have h9 : lyZ B dat 9 (lwZ B (lyZ B dat f) k f 10 0) = f := by
      have := ly_up (f := f) (k := lwZ B (lyZ B dat f) k f 10 0) (B := B) (dat := dat) (by omega) (9 - f)
      rw [show f + (9 - f) = 9 by omega] at this
      omega
    have ih := cr_gy (T := T) (dv := dv) hst f (lwZ B (lyZ B dat f) k f 10 0) (s + T (lwZ B (lyZ B dat f) k f 10 0 * 10 + k)) rlw.1 rlw.2 h9
    show crZ B T st f (lwZ B st k f 10 0) (s + T (lwZ B st k f 10 0 * 10 + k)) = _
    rw [elw, ih]
    have g1 : gyZ B T dat dv 9 k = gyZ B T dat dv (f + 1) k := by
      have := gy_up (T := T) (dv := dv) (f := f + 1) (k := k) (B := B) (dat := dat) (by omega) (9 - (f + 1))
      rw [show f + 1 + (9 - (f + 1)) = 9 by omega] at this
      exact this
    have g2 : gyZ B T dat dv 9 (lwZ B (lyZ B dat f) k f 10 0) = gyZ B T dat dv f (lwZ B (lyZ B dat f) k f 10 0) := by
      have := gy_up (T := T) (dv := dv) (f := f) (k := lwZ B (lyZ B dat f) k f 10 0) (B := B) (dat := dat) (by omega) (9 - f)
      rw [show f + (9 - f) = 9 by omega] at this
      exact this
    have g3 : gyZ B T dat dv (f + 1) k = gyZ B T dat dv f (lwZ B (lyZ B dat f) k f 10 0) + T (lwZ B (lyZ B dat f) k f 10 0 * 10 + k) := if_pos ⟨cf, b⟩
    rw [g1, g2, g3]
    omega
