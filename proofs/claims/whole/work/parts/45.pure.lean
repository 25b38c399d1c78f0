/-! the reference's chain -/
theorem ppZ0 (n k c air : Int) (pl sp : Int → Int) : ppZ 0 n k c air pl sp = pl1Z n k c air pl sp := by unfold ppZ; exact if_pos rfl
theorem psZ0 (n k c air push : Int) (pl sp : Int → Int) : psZ 0 n k c air push pl sp = sp1Z n k c air push pl sp := by unfold psZ; exact if_pos rfl
theorem ppZ1 (n k c air : Int) (pl sp : Int → Int) : ppZ 1 n k c air pl sp = plbZ pl sp := by unfold ppZ; exact if_neg (by decide)
theorem psZ1 (n k c air push : Int) (pl sp : Int → Int) : psZ 1 n k c air push pl sp = spbZ n k c pl sp := by unfold psZ; exact if_neg (by decide)
theorem okZ_st {P S : Int → Int} {b : Int} (hb : 0 ≤ b) : okZ P S (Int.toNat (b + 1)) = (okZ P S (Int.toNat b) && decide (-1000000 ≤ P b ∧ P b ≤ 1000000 ∧ -1000000 ≤ S b ∧ S b ≤ 1000000)) := by
  rw [show Int.toNat (b + 1) = Int.toNat b + 1 by omega]
  show (okZ P S (Int.toNat b) && decide (-1000000 ≤ P (Int.toNat b : Nat) ∧ _)) = _
  rw [show ((Int.toNat b : Nat) : Int) = b by omega]
theorem ok_st1 {P S : Int → Int} {b fl : Int} (hb : 0 ≤ b) (h : fl = pI (okZ P S (Int.toNat b) = true)) (hf : fl ≠ 0) (h2 : -1000000 ≤ P b ∧ P b ≤ 1000000 ∧ -1000000 ≤ S b ∧ S b ≤ 1000000) : (1 : Int) = pI (okZ P S (Int.toNat (b + 1)) = true) := by
  have h3 : okZ P S (Int.toNat b) = true := cl_fl (fun z => hf (h.trans z))
  exact (pI_t (okZ_s hb h3 h2)).symm
theorem ok_st0 {P S : Int → Int} {b fl : Int} (hb : 0 ≤ b) (h : fl = pI (okZ P S (Int.toNat b) = true)) (hn : fl = 0 ∨ ¬ (-1000000 ≤ P b ∧ P b ≤ 1000000 ∧ -1000000 ≤ S b ∧ S b ≤ 1000000)) : (0 : Int) = pI (okZ P S (Int.toNat (b + 1)) = true) := by
  refine (pI_f fun q => ?_).symm
  rw [okZ_st hb, Bool.and_eq_true, decide_eq_true_eq] at q
  rcases hn with z | z
  · exact cl_no h z q.1
  · exact z q.2
theorem isd {c c' : Bool} {F P pl w : Int → Int} {n : Int} (hF : F = cZ0 P pl n) (hc : c = c') : (if c = true then F else cZ0 (cZ0 pl w n) F n) = if c' = true then cZ0 P pl n else pl := by
  rw [hc, hF]
  split
  · rfl
  · exact cZ0_back _ _ _ _ (fun j a b => cZ0_in ⟨a, b⟩)
theorem sp1_y {n k c air push : Int} {pl sp G : Int → Int} (hn : 0 < n) (hG : G = cZ0 (sp0Z n k c air pl sp) sp n) (h1 : pl 0 < 0) (h2 : 0 ≤ pl1Z n k c air pl sp 0) : uZ G 0 (G 0 + push) = cZ0 (sp1Z n k c air push pl sp) sp n := by
  rw [hG]
  refine cZ0_u hn ?_ (fun j a b => ?_)
  · unfold sp1Z; rw [if_pos ⟨rfl, h1, h2⟩, cZ0_in ⟨by omega, hn⟩]
  · unfold sp1Z; rw [if_neg (fun q => by omega)]
theorem sp1_n {n k c air push : Int} {pl sp G : Int → Int} (hn : 0 < n) (hG : G = cZ0 (sp0Z n k c air pl sp) sp n) (h1 : ¬ (pl 0 < 0 ∧ 0 ≤ pl1Z n k c air pl sp 0)) : uZ G 0 (G 0 + 0) = cZ0 (sp1Z n k c air push pl sp) sp n := by
  rw [hG]
  refine cZ0_u hn ?_ (fun j a b => ?_)
  · unfold sp1Z; rw [if_neg (fun q => h1 q.2), cZ0_in ⟨by omega, hn⟩, Int.add_zero]
  · unfold sp1Z; rw [if_neg (fun q => by omega)]
theorem enZ_s {n k c : Int} {pl sp : Int → Int} (hn : 0 ≤ n) {d : Int} (hd : d = if 0 < n then pl n - pl (n - 1) else 0) : enZ (n + 1) k c pl sp = enZ n k c pl sp + (16 * sp n * sp n + k * pl n * pl n) + c * d * d := by
  unfold enZ
  rw [smZ_toNat _ hn, smZ_toNat _ hn, smZ_toNat _ hn, Int.mul_add, Int.mul_add, Int.mul_add, Int.mul_assoc, Int.mul_assoc, Int.mul_assoc]
  have e : (if 0 < n then (pl n - pl (n - 1)) * (pl n - pl (n - 1)) else 0) = d * d := by
    rw [hd]; split
    · rfl
    · rfl
  rw [e]
  omega
theorem enZ_0 (k c : Int) (pl sp : Int → Int) : enZ 0 k c pl sp = 0 := by
  unfold enZ
  show 16 * 0 + k * 0 + c * 0 = (0 : Int)
  rw [Int.mul_zero, Int.mul_zero, Int.mul_zero]; rfl
theorem rn_go {n p d : Int} {P S : (Int → Int) → (Int → Int) → Int → Int} {pl sp : Int → Int} (hd : d < p) (hn : 0 ≤ n) (hok : okZ (P pl sp) (S pl sp) (Int.toNat n) = true) :
    rnZ n P S (Int.toNat (p - d)) d pl sp = rnZ n P S (Int.toNat (p - (d + 1))) (d + 1) (if okZ (P pl sp) (S pl sp) (Int.toNat n) = true then cZ0 (P pl sp) pl n else pl) (if okZ (P pl sp) (S pl sp) (Int.toNat n) = true then cZ0 (S pl sp) sp n else sp) := by
  rw [if_pos hok, if_pos hok]
  exact rn_step hd hn (fun j a b => ⟨rfl, rfl⟩) hok
theorem rn_halt {n p d : Int} {P S : (Int → Int) → (Int → Int) → Int → Int} {pl sp : Int → Int} (hd : d < p) (hn : 0 ≤ n) (hok : ¬ okZ (P pl sp) (S pl sp) (Int.toNat n) = true) :
    rnZ n P S (Int.toNat (p - d)) d pl sp = (d, (if okZ (P pl sp) (S pl sp) (Int.toNat n) = true then cZ0 (P pl sp) pl n else pl), (if okZ (P pl sp) (S pl sp) (Int.toNat n) = true then cZ0 (S pl sp) sp n else sp)) := by
  rw [if_neg hok, if_neg hok]
  exact rn_stop hd hn (fun j a b => ⟨rfl, rfl⟩) hok
theorem rn_bnd {n : Int} {P S pl sp : Int → Int} (hn : 0 ≤ n) (hok : okZ P S (Int.toNat n) = true) : bnd (if okZ P S (Int.toNat n) = true then cZ0 P pl n else pl) n 1000000 ∧ bnd (if okZ P S (Int.toNat n) = true then cZ0 S sp n else sp) n 1000000 := by
  rw [if_pos hok, if_pos hok]
  exact ok_bnd hn hok
