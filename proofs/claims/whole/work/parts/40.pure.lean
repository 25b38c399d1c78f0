/-! the reference's own helpers -/
theorem z_fl {x y : Int} (hy : 0 < y) : (Int.tmod x y < 0 → Int.tdiv x y - 1 = x / y) ∧ (0 ≤ Int.tmod x y → Int.tdiv x y = x / y) := by
  rcases Int.lt_or_le x 0 with q | q
  · obtain ⟨g1, g2, g3, g4⟩ := z_fd hy q
    have e := Int.mul_tdiv_add_tmod x y
    have e2 : y * Int.tdiv x y = Int.tdiv x y * y := Int.mul_comm _ _
    obtain ⟨m1, m2, -, -⟩ := z_fm hy q
    refine ⟨fun h => g4 (by omega), fun h => g3 (by omega)⟩
  · have h1 : Int.tmod x y = x % y := Int.tmod_eq_emod_of_nonneg q
    have h2 := Int.emod_nonneg x (show y ≠ 0 by omega)
    refine ⟨fun h => by omega, fun _ => Int.tdiv_eq_ediv_of_nonneg q⟩
theorem z_rs {x y : Int} (hy : 0 < y) : (Int.tmod x y < 0 → Int.tmod x y + y = x % y) ∧ (0 ≤ Int.tmod x y → Int.tmod x y = x % y) ∧ -y < Int.tmod x y ∧ Int.tmod x y < y := by
  rcases Int.lt_or_le x 0 with q | q
  · obtain ⟨m1, m2, m3, m4⟩ := z_fm hy q
    refine ⟨fun h => m4 (by omega), fun h => m3 (by omega), by omega, by omega⟩
  · have h1 : Int.tmod x y = x % y := Int.tmod_eq_emod_of_nonneg q
    have h2 := Int.emod_nonneg x (show y ≠ 0 by omega)
    have h3 := Int.emod_lt_of_pos x hy
    refine ⟨fun h => by omega, fun _ => h1, by omega, by omega⟩
def stZ (r : Int) : Int := if r = 0 then 11 else if r = 1 then 19 else if r = 2 then 5 else 1
theorem ck_reg {str arc chk adj : Int → Int} {ht pr k a d : Int} (h : ckOK str arc chk adj ht pr) (ha : 0 ≤ a ∧ a ≤ 200) (hd : -1000000 ≤ d ∧ d ≤ 1000000) : ckOK str (uZ arc k a) chk (uZ adj k d) ht pr := by
  refine ⟨fun j j1 j2 => ?_, h.2⟩
  obtain ⟨a1, a2, a3, a4⟩ := h.1 j j1 j2
  by_cases e : j = k
  · rw [e, uZ_s, uZ_s, ← e]; exact ⟨a1, ha, a3, hd⟩
  · rw [uZ_n e, uZ_n e]; exact ⟨a1, a2, a3, a4⟩
theorem cl_fl {P : Prop} [Decidable P] (h : pI P ≠ 0) : P := by
  rcases Decidable.em P with q | q
  · exact q
  · exact absurd (pI_f q) h
theorem cl_no {P : Prop} [Decidable P] {x : Int} (h : x = pI P) (h0 : x = 0) : ¬ P := fun q => by rw [h, pI_t q] at h0; exact absurd h0 (by decide)
def apM (a b : Int) : Int := if 32 < (a - b) % 64 then 64 - (a - b) % 64 else (a - b) % 64
theorem apM_eq (a b : Int) : apM a b = apZ a b := by
  unfold apM apZ
  split <;> split <;> omega
theorem cZ0_0 (f g : Int → Int) : cZ0 f g 0 = g := by funext j; unfold cZ0; rw [if_neg (by omega)]
theorem cZ0_s (f g : Int → Int) {b : Int} (hb : 0 ≤ b) : uZ (cZ0 f g b) b (f b) = cZ0 f g (b + 1) := by
  funext j
  by_cases e : j = b
  · rw [e, uZ_s, cZ0_in ⟨hb, by omega⟩]
  · rw [uZ_n e]; unfold cZ0
    by_cases q : 0 ≤ j ∧ j < b
    · rw [if_pos q, if_pos (by omega)]
    · rw [if_neg q, if_neg (by omega)]
theorem cZ0_back (f g h : Int → Int) (n : Int) (e : ∀ j, 0 ≤ j → j < n → h j = g j) : cZ0 h (cZ0 f g n) n = g := by
  funext j
  unfold cZ0
  by_cases q : 0 ≤ j ∧ j < n
  · rw [if_pos q]; exact e j q.1 q.2
  · rw [if_neg q, if_neg q]
theorem cZ0_u {f f' g : Int → Int} {n x : Int} (hn : 0 < n) (h0 : f' 0 = x) (h : ∀ j, 0 < j → j < n → f' j = f j) : uZ (cZ0 f g n) 0 x = cZ0 f' g n := by
  funext j
  by_cases e : j = 0
  · rw [e, uZ_s, cZ0_in ⟨by omega, hn⟩, h0]
  · rw [uZ_n e]; unfold cZ0
    by_cases q : 0 ≤ j ∧ j < n
    · rw [if_pos q, if_pos q]; exact (h j (by omega) q.2).symm
    · rw [if_neg q, if_neg q]
