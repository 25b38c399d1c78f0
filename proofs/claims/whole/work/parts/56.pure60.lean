/-! the law's invariant, in four bundles -/
abbrev Bdz (i : Int) : Int := 1000000000 + 20000000000 * i
def iK (i ht pr n : Int) (str arc chk adj rods offs so1 so2 : Int → Int) : Prop :=
  (0 ≤ n ∧ n ≤ 10) ∧ ckOK str arc chk adj ht pr ∧ ckOK (fun j => stZ (rods j)) arc chk adj ht pr ∧ (∀ j : Int, 0 ≤ j → j < 10 → 0 ≤ rods j ∧ rods j ≤ 3) ∧ (∀ j : Int, 0 ≤ j → j < n → str j = stZ (rods j)) ∧
  (∀ j : Int, 0 ≤ j → j < 10 → -(Bdz i) ≤ offs j ∧ offs j ≤ Bdz i) ∧ (∀ j : Int, 0 ≤ j → j < 10 → -(Bdz i) ≤ so1 j ∧ so1 j ≤ Bdz i) ∧ (∀ j : Int, 0 ≤ j → j < 10 → -(Bdz i) ≤ so2 j ∧ so2 j ≤ Bdz i)
def iB (i sr as9 : Int) (se ask : Int → Int) : Prop :=
  (0 ≤ sr ∧ sr ≤ 200 * i) ∧ (0 ≤ as9 ∧ as9 ≤ 200 * i) ∧ (∀ x : Int, 0 ≤ x → x < 1000 → 0 ≤ se x ∧ se x ≤ sr) ∧ (∀ x : Int, 0 ≤ x → x < 1000 → 0 ≤ ask x ∧ ask x ≤ as9)
def syB (B : Int → Int) : Prop := ∀ a b : Int, 0 ≤ a → a < 10 → 0 ≤ b → b < 10 → B (a * 10 + b) = B (b * 10 + a) ∧ B (a * 10 + a) = 0
def iV (n dst dvl : Int) (st hr vl ties tied : Int → Int) : Prop := rdOK n st hr vl ∧ tyOK tied ties ∧ syB tied ∧ (0 ≤ dst ∧ dst ≤ 9) ∧ (-1000000 ≤ dvl ∧ dvl ≤ 1000000)
def iO (n k c air push : Int) (pl sp : Int → Int) : Prop := (1 ≤ n ∧ n ≤ 8) ∧ (0 ≤ k ∧ k ≤ 15) ∧ (0 ≤ c ∧ c ≤ 15) ∧ bnd pl n 1000000 ∧ bnd sp n 1000000 ∧ (0 ≤ air ∧ air ≤ 100) ∧ (-1000 ≤ push ∧ push ≤ 1000)
theorem bd_up {f : Int → Int} {i : Int} (hi : 0 ≤ i) (h : ∀ j : Int, 0 ≤ j → j < 10 → -(Bdz i) ≤ f j ∧ f j ≤ Bdz i) : ∀ j : Int, 0 ≤ j → j < 10 → -(Bdz (i + 5)) ≤ f j ∧ f j ≤ Bdz (i + 5) := fun j a b => by
  have q := h j a b
  unfold Bdz at q ⊢
  omega
theorem iK_up {i ht pr n : Int} {str arc chk adj rods offs so1 so2 : Int → Int} (hi : 0 ≤ i) (h : iK i ht pr n str arc chk adj rods offs so1 so2) : iK (i + 5) ht pr n str arc chk adj rods offs so1 so2 := by
  obtain ⟨h1, h2, h3, h4, h5, h6, h7, h8⟩ := h
  exact ⟨h1, h2, h3, h4, h5, bd_up hi h6, bd_up hi h7, bd_up hi h8⟩
theorem iB_up {i sr as9 : Int} {se ask : Int → Int} (hi : 0 ≤ i) (h : iB i sr as9 se ask) : iB (i + 5) sr as9 se ask := by
  obtain ⟨h1, h2, h3, h4⟩ := h
  exact ⟨by omega, by omega, h3, h4⟩
theorem iK_heat {i ht pr n p : Int} {str arc chk adj rods offs so1 so2 : Int → Int} (h : iK i ht pr n str arc chk adj rods offs so1 so2) (hp : -20 ≤ p ∧ p ≤ 50) : iK i p pr n str arc chk adj rods offs so1 so2 := by
  obtain ⟨h1, h2, h3, h4⟩ := h
  exact ⟨h1, ⟨h2.1, hp, h2.2.2⟩, ⟨h3.1, hp, h3.2.2⟩, h4⟩
theorem iK_pres {i ht pr n p : Int} {str arc chk adj rods offs so1 so2 : Int → Int} (h : iK i ht pr n str arc chk adj rods offs so1 so2) (hp : 900 ≤ p ∧ p ≤ 1100) : iK i ht p n str arc chk adj rods offs so1 so2 := by
  obtain ⟨h1, h2, h3, h4⟩ := h
  exact ⟨h1, ⟨h2.1, h2.2.1, hp⟩, ⟨h3.1, h3.2.1, hp⟩, h4⟩
theorem stZ_rng (r : Int) : 0 ≤ stZ r ∧ stZ r ≤ 19 := by unfold stZ; split <;> (try split) <;> (try split) <;> omega
theorem iK_clock {i ht pr n r a k d : Int} {str arc chk adj rods offs so1 so2 : Int → Int} (h : iK i ht pr n str arc chk adj rods offs so1 so2) (hr : 0 ≤ r ∧ r ≤ 3) (ha : 0 ≤ a ∧ a ≤ 200) (hk : k = 0 ∨ k = 1) (hd : -1000000 ≤ d ∧ d ≤ 1000000) (hn : n ≠ 10) :
    iK i ht pr (n + 1) (uZ str n (stZ r)) (uZ arc n a) (uZ chk n k) (uZ adj n d) (uZ rods n r) offs so1 so2 := by
  obtain ⟨h1, h2, h3, h4, h5, h6⟩ := h
  have q := stZ_rng r
  refine ⟨by omega, ⟨fun j a b => ?_, h2.2⟩, ⟨fun j a b => ?_, h3.2⟩, fun j a b => ?_, fun j a b => ?_, h6⟩
  · have w := h2.1 j a b
    by_cases e : j = n
    · rw [e, uZ_s, uZ_s, uZ_s, uZ_s]; exact ⟨q, ha, hk, hd⟩
    · rw [uZ_n e, uZ_n e, uZ_n e, uZ_n e]; exact w
  · have w := h3.1 j a b
    by_cases e : j = n
    · rw [e, uZ_s, uZ_s, uZ_s]; exact ⟨stZ_rng _, ha, hk, hd⟩
    · rw [uZ_n e, uZ_n e, uZ_n e]; exact ⟨stZ_rng _, w.2⟩
  · by_cases e : j = n
    · rw [e, uZ_s]; exact hr
    · rw [uZ_n e]; exact h4 j a b
  · by_cases e : j = n
    · rw [e, uZ_s, uZ_s]
    · rw [uZ_n e, uZ_n e]; exact h5 j a (by omega)
theorem iK_reg {i ht pr n k a d : Int} {str arc chk adj rods offs so1 so2 : Int → Int} (h : iK i ht pr n str arc chk adj rods offs so1 so2) (ha : 0 ≤ a ∧ a ≤ 200) (hd : -1000000 ≤ d ∧ d ≤ 1000000) : iK i ht pr n str (uZ arc k a) chk (uZ adj k d) rods offs so1 so2 := by
  obtain ⟨h1, h2, h3, h4⟩ := h
  exact ⟨h1, ck_reg h2 ha hd, ck_reg h3 ha hd, h4⟩
theorem iK_set {i ht pr n k x : Int} {str arc chk adj rods offs so1 so2 : Int → Int} (hi : 0 ≤ i) (h : iK i ht pr n str arc chk adj rods offs so1 so2) (hx : -1000000000 ≤ x ∧ x ≤ 1000000000) : iK i ht pr n str arc chk adj rods (uZ offs k x) so1 so2 := by
  obtain ⟨h1, h2, h3, h4, h5, h6, h7⟩ := h
  refine ⟨h1, h2, h3, h4, h5, fun j a b => ?_, h7⟩
  by_cases e : j = k
  · rw [e, uZ_s]; unfold Bdz; omega
  · rw [uZ_n e]; exact h6 j a b
theorem iK_days {i ht pr n d : Int} {str arc chk adj rods offs so1 so2 : Int → Int} (hi : 0 ≤ i) (h : iK i ht pr n str arc chk adj rods offs so1 so2) (hd : 1 ≤ d ∧ d ≤ 10000) : iK (i + 5) ht pr n str arc chk adj rods (goN (rateZ (fun j => stZ (rods j)) arc chk adj ht pr) d n offs) so1 so2 := by
  have h0 := iK_up hi h
  obtain ⟨h1, h2, h3, h4, h5, h6, h7⟩ := h
  obtain ⟨g1, g2, g3, g4, g5, g6, g7⟩ := h0
  refine ⟨g1, g2, g3, g4, g5, fun j a b => ?_, g7⟩
  have q := h6 j a b
  have w := (rateZ_m h3 ⟨a, b⟩).2.2.2
  have m := z_mulr (a := d) (A := 10000) (b := rateZ (fun j => stZ (rods j)) arc chk adj ht pr j) (B := 2000000) (by omega) w
  have mc : rateZ (fun j => stZ (rods j)) arc chk adj ht pr j * d = d * rateZ (fun j => stZ (rods j)) arc chk adj ht pr j := Int.mul_comm _ _
  unfold goN
  unfold Bdz at q ⊢
  split <;> omega
theorem rate_eq {str rods arc chk adj : Int → Int} {ht pr k : Int} (h : str k = stZ (rods k)) : rateZ str arc chk adj ht pr k = rateZ (fun j => stZ (rods j)) arc chk adj ht pr k := by
  unfold rateZ; rw [h]
theorem goN_cong {r r' : Int → Int} {d n : Int} {off : Int → Int} (h : ∀ j, 0 ≤ j → j < n → r j = r' j) : goN r d n off = goN r' d n off := by
  funext j
  unfold goN
  by_cases q : 0 ≤ j ∧ j < n
  · rw [if_pos q, if_pos q, h j q.1 q.2]
  · rw [if_neg q, if_neg q]
theorem iK_so {i ht pr n : Int} {str arc chk adj rods offs so1 so2 g1 g2 : Int → Int} (h : iK i ht pr n str arc chk adj rods offs so1 so2) (h1 : ∀ j : Int, 0 ≤ j → j < 10 → -(Bdz i) ≤ g1 j ∧ g1 j ≤ Bdz i) (h2 : ∀ j : Int, 0 ≤ j → j < 10 → -(Bdz i) ≤ g2 j ∧ g2 j ≤ Bdz i) : iK i ht pr n str arc chk adj rods offs g1 g2 := by
  obtain ⟨a1, a2, a3, a4, a5, a6, a7⟩ := h
  exact ⟨a1, a2, a3, a4, a5, a6, h1, h2⟩
/-- gravity -/
theorem iV_datum {n dst dvl a b : Int} {st hr vl ties tied : Int → Int} (h : iV n dst dvl st hr vl ties tied) (ha : 0 ≤ a ∧ a ≤ 9) (hb : -1000000 ≤ b ∧ b ≤ 1000000) : iV n a b st hr vl ties tied := by
  obtain ⟨h1, h2, h3, h4⟩ := h
  exact ⟨h1, h2, h3, ha, hb⟩
theorem iV_zero {n dst dvl : Int} {st hr vl ties tied : Int → Int} (h : iV n dst dvl st hr vl ties tied) : iV 0 dst dvl st hr vl ties tied := by
  obtain ⟨h1, h2⟩ := h
  exact ⟨⟨by omega, h1.2.1, fun i j a b c => by omega⟩, h2⟩
theorem iV_read {n dst dvl s h v : Int} {st hr vl ties tied : Int → Int} (hI : iV n dst dvl st hr vl ties tied) (hs : 0 ≤ s ∧ s ≤ 9) (hh : 0 ≤ h ∧ h ≤ 10000) (hv : -1000000 ≤ v ∧ v ≤ 1000000) (hl : n = 0 ∨ hr (n - 1) < h) (hn : n ≠ 12) : iV (n + 1) dst dvl (uZ st n s) (uZ hr n h) (uZ vl n v) ties tied := by
  obtain ⟨h1, h2⟩ := hI
  obtain ⟨a1, a2, a3⟩ := h1
  refine ⟨⟨by omega, fun j a b => ?_, fun i j a b c => ?_⟩, h2⟩
  · by_cases e : j = n
    · rw [e, uZ_s, uZ_s, uZ_s]; exact ⟨hs, hh, hv⟩
    · rw [uZ_n e, uZ_n e, uZ_n e]; exact a2 j a b
  · by_cases e : j = n
    · rw [e, uZ_s, uZ_n (by omega)]
      rcases Int.lt_or_le i (n - 1) with q | q
      · have := a3 i (n - 1) a q (by omega); omega
      · have e2 : i = n - 1 := by omega
        rw [e2]; omega
    · rw [uZ_n e, uZ_n (by omega)]; exact a3 i j a b (by omega)
theorem ty_tell {n : Int} {st hr vl T B : Int → Int} (h : rdOK n st hr vl) (h3 : 3 ≤ n) (hty : tyOK B T) : ∀ k : Nat, (k : Int) ≤ n - 1 → tyOK (tlB st B k) (tlT n st hr vl T k)
  | 0, _ => hty
  | k + 1, hk => by
    have ih := ty_tell h h3 hty k (by omega)
    have w1 := (wvZ_m h h3 (r := k) (by omega)).2.2.2
    have w2 := (wvZ_m h h3 (r := (k : Int) + 1) (by omega)).2.2.2
    exact tyOK_put ih (by omega)
theorem difZ_at {st : Int → Int} : ∀ {n : Nat}, difZ st n = true → ∀ k : Nat, 1 ≤ k → k < n → st k ≠ st ((k : Int) - 1)
  | 0, _, k, _, b => by omega
  | n + 1, h, k, a, b => by
    have h1 : (difZ st n && (decide (n = 0) || decide (st n ≠ st ((n : Int) - 1)))) = true := h
    rw [Bool.and_eq_true, Bool.or_eq_true, decide_eq_true_eq, decide_eq_true_eq] at h1
    rcases Nat.lt_or_ge k n with q | q
    · exact difZ_at h1.1 k a q
    · have e : k = n := by omega
      subst e
      exact h1.2.resolve_left (by omega)
theorem sy_put {B : Int → Int} {a b : Int} (h : syB B) (ha : 0 ≤ a ∧ a ≤ 9) (hb : 0 ≤ b ∧ b ≤ 9) (hne : a ≠ b) : syB (uZ (uZ B (a * 10 + b) 1) (b * 10 + a) 1) := by
  intro x y x0 x1 y0 y1
  have q := h x y x0 x1 y0 y1
  unfold uZ
  constructor
  · by_cases e1 : x * 10 + y = b * 10 + a
    · rw [if_pos e1]
      by_cases e2 : y * 10 + x = b * 10 + a
      · rw [if_pos e2]
      · rw [if_neg e2, if_pos (by omega)]
    · rw [if_neg e1]
      by_cases e2 : x * 10 + y = a * 10 + b
      · rw [if_pos e2, if_pos (by omega)]
      · rw [if_neg e2, if_neg (by omega), if_neg (by omega)]; exact q.1
  · rw [if_neg (by omega), if_neg (by omega)]; exact q.2
theorem sy_tell {n : Int} {st hr vl B : Int → Int} (h : rdOK n st hr vl) (hd : difZ st (Int.toNat n) = true) (hs : syB B) : ∀ k : Nat, (k : Int) ≤ n - 1 → syB (tlB st B k)
  | 0, _ => hs
  | k + 1, hk => by
    have ih := sy_tell h hd hs k (by omega)
    have a1 := h.1
    have w1 := (h.2.1 k (by omega) (by omega)).1
    have w2 := (h.2.1 ((k : Int) + 1) (by omega) (by omega)).1
    have w3 := difZ_at hd (k + 1) (by omega) (by omega)
    rw [show (((k + 1 : Nat) : Int)) - 1 = k by omega, show ((k + 1 : Nat) : Int) = (k : Int) + 1 by omega] at w3
    exact sy_put ih w1 w2 (fun z => w3 z.symm)
theorem iV_close {n dst dvl : Int} {st hr vl ties tied : Int → Int} (h : iV n dst dvl st hr vl ties tied) (h3 : 3 ≤ n) (hd : difZ st (Int.toNat n) = true) : iV 0 dst dvl st hr vl (tlT n st hr vl ties (Int.toNat (n - 1))) (tlB st tied (Int.toNat (n - 1))) := by
  obtain ⟨h1, h2, h4, h5⟩ := h
  exact ⟨⟨by omega, h1.2.1, fun i j a b c => by omega⟩, ty_tell h1 h3 h2 _ (by omega), sy_tell h1 hd h4 _ (by omega), h5⟩
/-- the chain -/
theorem iO_chain {n k c air push a b d : Int} {pl sp : Int → Int} (h : iO n k c air push pl sp) (ha : 1 ≤ a ∧ a ≤ 8) (hb : 0 ≤ b ∧ b ≤ 15) (hd : 0 ≤ d ∧ d ≤ 15) : iO a b d air push (flZ pl 0 8) (flZ sp 0 8) := by
  obtain ⟨h1, h2, h3, h4, h5, h6⟩ := h
  refine ⟨ha, hb, hd, fun j x y => ?_, fun j x y => ?_, h6⟩
  · rw [flZ_in ⟨x, by omega⟩]; omega
  · rw [flZ_in ⟨x, by omega⟩]; omega
theorem bnd_put {f : Int → Int} {n k x : Int} (h : bnd f n 1000000) (hx : -100000 ≤ x ∧ x ≤ 100000) : bnd (uZ f k x) n 1000000 := fun j a b => by
  by_cases e : j = k
  · rw [e, uZ_s]; omega
  · rw [uZ_n e]; exact h j a b
theorem iO_pull {n k c air push i x y : Int} {pl sp : Int → Int} (h : iO n k c air push pl sp) (hx : -100000 ≤ x ∧ x ≤ 100000) (hy : -100000 ≤ y ∧ y ≤ 100000) : iO n k c air push (uZ pl i x) (uZ sp i y) := by
  obtain ⟨h1, h2, h3, h4, h5, h6⟩ := h
  exact ⟨h1, h2, h3, bnd_put h4 hx, bnd_put h5 hy, h6⟩
theorem iO_drive {n k c air push a b : Int} {pl sp : Int → Int} (h : iO n k c air push pl sp) (ha : 0 ≤ a ∧ a ≤ 100) (hb : -1000 ≤ b ∧ b ≤ 1000) : iO n k c a b pl sp := by
  obtain ⟨h1, h2, h3, h4, h5, h6⟩ := h
  exact ⟨h1, h2, h3, h4, h5, ha, hb⟩
theorem rn_all {n : Int} {P S : (Int → Int) → (Int → Int) → Int → Int} (hn : 0 ≤ n) : ∀ (m : Nat) (d : Int) (pl sp : Int → Int), bnd pl n 1000000 → bnd sp n 1000000 → bnd (rnZ n P S m d pl sp).2.1 n 1000000 ∧ bnd (rnZ n P S m d pl sp).2.2 n 1000000
  | 0, d, pl, sp, h1, h2 => ⟨h1, h2⟩
  | m + 1, d, pl, sp, h1, h2 => by
    show bnd (if okZ (P pl sp) (S pl sp) (Int.toNat n) = true then rnZ n P S m (d + 1) (cZ0 (P pl sp) pl n) (cZ0 (S pl sp) sp n) else (d, pl, sp)).2.1 n 1000000 ∧ bnd (if okZ (P pl sp) (S pl sp) (Int.toNat n) = true then rnZ n P S m (d + 1) (cZ0 (P pl sp) pl n) (cZ0 (S pl sp) sp n) else (d, pl, sp)).2.2 n 1000000
    by_cases q : okZ (P pl sp) (S pl sp) (Int.toNat n) = true
    · rw [if_pos q]
      have w := rn_bnd (pl := pl) (sp := sp) hn q
      rw [if_pos q, if_pos q] at w
      exact rn_all hn m _ _ _ w.1 w.2
    · rw [if_neg q]; exact ⟨h1, h2⟩
theorem iO_steps {n k c air push : Int} {pl sp : Int → Int} {P S : (Int → Int) → (Int → Int) → Int → Int} {m : Nat} {d : Int} (h : iO n k c air push pl sp) : iO n k c air push (rnZ n P S m d pl sp).2.1 (rnZ n P S m d pl sp).2.2 := by
  obtain ⟨h1, h2, h3, h4, h5, h6⟩ := h
  have w := rn_all (P := P) (S := S) (show 0 ≤ n by omega) m d pl sp h4 h5
  exact ⟨h1, h2, h3, w.1, w.2, h6⟩
/-- pairs -/
theorem sm_add {f g : Int → Int} : ∀ n : Nat, smZ (fun k => f k + g k) n = smZ f n + smZ g n
  | 0 => rfl
  | n + 1 => by
    show smZ (fun k => f k + g k) n + (f n + g n) = smZ f n + f n + (smZ g n + g n)
    rw [sm_add n]; omega
theorem sm_app {f : Int → Int} (m : Nat) : ∀ n : Nat, smZ f (m + n) = smZ f m + smZ (fun j => f ((m : Int) + j)) n
  | 0 => by show smZ f m = smZ f m + 0; omega
  | n + 1 => by
    show smZ f (m + n) + f ((m + n : Nat) : Int) = smZ f m + (smZ (fun j => f ((m : Int) + j)) n + f ((m : Int) + (n : Int)))
    rw [sm_app m n, show ((m + n : Nat) : Int) = (m : Int) + (n : Int) by omega]; omega
theorem sm_rows {f : Int → Int} : ∀ m : Nat, smZ f (m * 10) = smZ (fun a => smZ (fun b => f (a * 10 + b)) 10) m
  | 0 => by rw [Nat.zero_mul]; rfl
  | m + 1 => by
    rw [show (m + 1) * 10 = m * 10 + 10 by omega, sm_app, sm_rows m]
    show _ = smZ (fun a => smZ (fun b => f (a * 10 + b)) 10) m + smZ (fun b => f ((m : Int) * 10 + b)) 10
    rw [show ((m * 10 : Nat) : Int) = (m : Int) * 10 by omega]
theorem sm_0 {f : Int → Int} : ∀ {n : Nat}, (∀ k : Int, 0 ≤ k → k < n → f k = 0) → smZ f n = 0
  | 0, _ => rfl
  | n + 1, h => by
    show smZ f n + f n = 0
    rw [sm_0 (fun k a b => h k a (by omega)), h n (by omega) (by omega)]; rfl
theorem sm_tri {g : Int → Int → Int} (hs : ∀ a b : Int, 0 ≤ a → a < 10 → 0 ≤ b → b < 10 → g a b = g b a ∧ g a a = 0) : ∀ n : Nat, n ≤ 10 → smZ (fun a => smZ (fun b => g a b) n) n = 2 * smZ (fun a => smZ (fun b => if a < b then g a b else 0) n) n
  | 0, _ => rfl
  | n + 1, hn => by
    have ih := sm_tri hs n (by omega)
    show smZ (fun a => smZ (fun b => g a b) n + g a n) n + (smZ (fun b => g n b) n + g n n) = 2 * (smZ (fun a => smZ (fun b => if a < b then g a b else 0) n + (if a < (n : Int) then g a n else 0)) n + (smZ (fun b => if (n : Int) < b then g n b else 0) n + (if (n : Int) < (n : Int) then g n n else 0)))
    rw [sm_add, sm_add, if_neg (Int.lt_irrefl _), (hs n n (by omega) (by omega) (by omega) (by omega)).2]
    have e1 : smZ (fun b => g n b) n = smZ (fun a => g a n) n := smZ_cong (fun k a b => (hs n k (by omega) (by omega) a (by omega)).1)
    have e2 : smZ (fun b => if (n : Int) < b then g n b else 0) n = 0 := sm_0 (fun k a b => if_neg (by omega))
    have e3 : smZ (fun a => if a < (n : Int) then g a n else 0) n = smZ (fun a => g a n) n := smZ_cong (fun k a b => if_pos (by omega))
    rw [e1, e2, e3, ih]; omega
theorem tp_half {B : Int → Int} (h : syB B) : tpZ B = smZ (fun j => pI (B j = 1)) 100 / 2 := by
  have e := sm_rows (f := fun j => pI (B j = 1)) 10
  have t := sm_tri (g := fun a b => pI (B (a * 10 + b) = 1)) (fun a b a0 a1 b0 b1 => ⟨by
    show pI (B (a * 10 + b) = 1) = pI (B (b * 10 + a) = 1)
    rw [(h a b a0 a1 b0 b1).1], pI_f (by rw [(h a b a0 a1 b0 b1).2]; decide)⟩) 10 (Nat.le_refl 10)
  have e2 : smZ (fun j => pI (B j = 1)) 100 = 2 * tpZ B := e.trans t
  rw [e2]; omega
theorem th1 {C : Prop} [Decidable C] (h : (if C then (0 : Int) else 1) = 0) : C := by
  by_cases q : C
  · exact q
  · rw [if_neg q] at h; exact absurd h (by decide)
