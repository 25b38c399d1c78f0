set_option maxHeartbeats 4000000 in
set_option maxRecDepth 100000 in
theorem m_X7_isOutside (l : Launch) (D : va_G) (cI cJ cZ cD : ClassId) (sz : Nat) (p0 : Int) (p1 : Int) (p2 : Int) (h0 : -2147483648 ≤ p0 ∧ p0 < 2147483648) (h1 : -2147483648 ≤ p1 ∧ p1 < 2147483648) (h2 : -2147483648 ≤ p2 ∧ p2 < 2147483648) : Met l yX7_isOutside wsX7_isOutside ({ frames := 0, cells := 0, slots := 0, locals := 0 } : Room) (va_Pc [vI p0, vI p1, vI p2] (fun _ => True)) (zQr (some (vI (pI (p0 < p1 ∨ p2 < p0))))) 0 0 (fun _ => False) := by
  refine Met.ofW (cc := cX7_isOutside) (maxL := 3) (ret := (some .boolean)) (by decide) rfl ?_
  intro p e s m args below meth c s₁ B hml hv
  obtain ⟨rfl, -⟩ := hv
  have hx := B.exec
  have hb := B.bytes
  have hr := B.returns
  have hts := atoms_spec (ws := wsX7_isOutside) B.pre
  have hown : s.vm.findClass RX7 = some m.cls := findClass_of_methodNamed B.named
  have hlocks := B.notSynchronized
  have hl := lv_entry ([vI p0, vI p1, vI p2]) (n := 3) (Nat.le_of_ble_eq_true rfl)
  rw [lg_entry_eq]
  generalize (lg_sl ([vI p0, vI p1, vI p2]) ++ List.replicate (3 - (lg_sl ([vI p0, vI p1, vI p2])).length) Slot.unset).toArray = ls at hl ⊢
  have hl : lv_has ls 3 [(0, vI p0), (1, vI p1), (2, vI p2)] := hl
  refine lv_iload_n (pc := 0) hx hb dX7_isOutside_0 rfl (lv_at hl 0 rfl) ?_
  refine lv_iload_n (pc := 1) hx hb dX7_isOutside_1 rfl (lv_at hl 1 rfl) ?_
  refine z_icmp_lt (pc := 2) (tgt := 10) hx hb dX7_isOutside_2 (by decide) (by omega) (by omega) (fun c_1 => ?_) (fun c_1 => ?_)
  · have hc_2t := c_1
    refine z_iconst (pc := 10) hx hb dX7_isOutside_10 ?_
    refine lv_goto (pc := 11) (tgt := 15) hx hb dX7_isOutside_11 (by decide) ?_
    have hv : (1) = (pI (p0 < p1 ∨ p2 < p0)) := by first | rfl | exact (pI_t (by omega)).symm | exact (pI_f (by omega)).symm | omega
    exact W.zret (pc := 15) (v := zI 1) hx hb hr (z_narB (by first | exact z_pI01 _ | omega | decide)) (fun t ht hW => ⟨congrArg (fun z => Outcome.returned (some (vI z))) hv, ht⟩) (fun q h => absurd h List.not_mem_nil) dX7_isOutside_15
  · have hc_2f := c_1
    refine lv_iload_n (pc := 5) hx hb dX7_isOutside_5 rfl (lv_at hl 0 rfl) ?_
    refine lv_iload_n (pc := 6) hx hb dX7_isOutside_6 rfl (lv_at hl 2 rfl) ?_
    refine z_icmp_le (pc := 7) (tgt := 14) hx hb dX7_isOutside_7 (by decide) (by omega) (by omega) (fun c_2 => ?_) (fun c_2 => ?_)
    · have hc_7t := c_2
      refine z_iconst (pc := 14) hx hb dX7_isOutside_14 ?_
      have hv : (0) = (pI (p0 < p1 ∨ p2 < p0)) := by first | rfl | exact (pI_t (by omega)).symm | exact (pI_f (by omega)).symm | omega
      exact W.zret (pc := 15) (v := zI 0) hx hb hr (z_narB (by first | exact z_pI01 _ | omega | decide)) (fun t ht hW => ⟨congrArg (fun z => Outcome.returned (some (vI z))) hv, ht⟩) (fun q h => absurd h List.not_mem_nil) dX7_isOutside_15
    · have hc_7f := c_2
      refine z_iconst (pc := 10) hx hb dX7_isOutside_10 ?_
      refine lv_goto (pc := 11) (tgt := 15) hx hb dX7_isOutside_11 (by decide) ?_
      have hv : (1) = (pI (p0 < p1 ∨ p2 < p0)) := by first | rfl | exact (pI_t (by omega)).symm | exact (pI_f (by omega)).symm | omega
      exact W.zret (pc := 15) (v := zI 1) hx hb hr (z_narB (by first | exact z_pI01 _ | omega | decide)) (fun t ht hW => ⟨congrArg (fun z => Outcome.returned (some (vI z))) hv, ht⟩) (fun q h => absurd h List.not_mem_nil) dX7_isOutside_15

set_option maxHeartbeats 4000000 in
set_option maxRecDepth 100000 in
theorem m_X1_byRemainders (l : Launch) (D : va_G) (cI cJ cZ cD : ClassId) (sz : Nat) (p0 : Int) (p1 : Int) (p2 : Int) (h0 : 1 ≤ p0 ∧ p0 ≤ 2000000) (h1 : 1 ≤ p1 ∧ p1 ≤ 2000000) (h2 : 0 ≤ p2 ∧ p2 ≤ 1000000) : Met l yX1_byRemainders wsX1_byRemainders ({ frames := 0, cells := 0, slots := 0, locals := 0 } : Room) (va_Pc [vI p0, vI p1, vI p2] (fun _ => True)) (zQr (some (vI (tgZ p0 p1 p2 5000 1)))) 0 0 (fun _ => False) := by
  refine Met.ofW (cc := cX1_byRemainders) (maxL := 6) (ret := (some .int)) (by decide) rfl ?_
  intro p e s m args below meth c s₁ B hml hv
  obtain ⟨rfl, -⟩ := hv
  have hx := B.exec
  have hb := B.bytes
  have hr := B.returns
  have hts := atoms_spec (ws := wsX1_byRemainders) B.pre
  have hown : s.vm.findClass RX1 = some m.cls := findClass_of_methodNamed B.named
  have hlocks := B.notSynchronized
  have hl := lv_entry ([vI p0, vI p1, vI p2]) (n := 6) (Nat.le_of_ble_eq_true rfl)
  rw [lg_entry_eq]
  generalize (lg_sl ([vI p0, vI p1, vI p2]) ++ List.replicate (6 - (lg_sl ([vI p0, vI p1, vI p2])).length) Slot.unset).toArray = ls at hl ⊢
  have hl : lv_has ls 6 [(0, vI p0), (1, vI p1), (2, vI p2)] := hl
  refine z_iconst (pc := 0) hx hb dX1_byRemainders_0 ?_
  refine lv_istore_n (lv' := [(3, vI 1), (0, vI p0), (1, vI p1), (2, vI p2)]) (pc := 1) hx hb dX1_byRemainders_1 rfl hl (by decide) rfl (fun ls hl => ?_)
  have LP_2 : ∀ (nfu : Nat) (k : Int) (i1 : 1 ≤ k ∧ k ≤ 5001) (i2 : tgZ p0 p1 p2 5000 1 = tgZ p0 p1 p2 (Int.toNat (5001 - k)) k) (hme : 5001 - k + 1 < (nfu : Int)) (ls : Array Slot) (hl : lv_has ls 6 [(3, vI k), (0, vI p0), (1, vI p1), (2, vI p2)]), W p l e (headSpec wsX1_byRemainders ({ frames := 0, cells := 0, slots := 0, locals := 0 } : Room)).room s m ([vI p0, vI p1, vI p2] : List Value).toArray below meth c s.heap [] 0 0 (MQ below (zQr (some (vI (tgZ p0 p1 p2 5000 1)))) ([vI p0, vI p1, vI p2] : List Value).toArray s 0 0 (fun _ => False)) (F0 m 2 ls []) := by
    intro nfu
    induction nfu with
    | zero =>
      intro k i1 i2 hme ls hl
      exact absurd hme (by omega)
    | succ nfu ih_2 =>
      intro k i1 i2 hme ls hl
      refine lv_iload_n (pc := 2) hx hb dX1_byRemainders_2 rfl (lv_at hl 0 rfl) ?_
      refine z_sipush (pc := 3) hx hb dX1_byRemainders_3 (by decide) ?_
      refine z_icmp_gt (pc := 6) (tgt := 46) hx hb dX1_byRemainders_6 (by decide) (by omega) (by decide) (fun c_1 => ?_) (fun c_1 => ?_)
      · have hc_6t := c_1
        refine z_iconst (pc := 46) hx hb dX1_byRemainders_46 ?_
        have hv : (-1) = (tgZ p0 p1 p2 5000 1) := by rw [i2, show k = 5001 by omega]; rfl
        exact W.iret (pc := 47) (v := zI (-1)) hx hb hr (fun t ht hW => ⟨congrArg (fun z => Outcome.returned (some (vI z))) hv, ht⟩) (fun q h => absurd h List.not_mem_nil) dX1_byRemainders_47
      · have hc_6f := c_1
        refine lv_iload_n (pc := 9) hx hb dX1_byRemainders_9 rfl (lv_at hl 0 rfl) ?_
        refine z_i2l (pc := 10) hx hb dX1_byRemainders_10 (by omega) ?_
        refine lv_iload_n (pc := 11) hx hb dX1_byRemainders_11 rfl (lv_at hl 1 rfl) ?_
        refine z_i2l (pc := 12) hx hb dX1_byRemainders_12 (by omega) ?_
        have m1 := z_mulr (a := k) (A := 5000) (b := p0) (B := 2000000) (by omega) (by omega)
        have m2 : 0 ≤ k * p0 := Int.mul_nonneg (by omega) (by omega)
        refine z_lmul (pc := 13) hx hb dX1_byRemainders_13 ?_
        refine lv_iload_n (pc := 14) hx hb dX1_byRemainders_14 rfl (lv_at hl 2 rfl) ?_
        refine z_i2l (pc := 15) hx hb dX1_byRemainders_15 (by omega) ?_
        refine z_lrem (pc := 16) hx hb dX1_byRemainders_16 (by omega) (by omega) ?_
        refine lv_lstore (lv' := [(4, vL (Int.tmod (k * p0) p1)), (3, vI k), (0, vI p0), (1, vI p1), (2, vI p2)]) (pc := 17) hx hb dX1_byRemainders_17 hl (by decide) rfl (fun ls hl => ?_)
        have e2 : Int.tmod (k * p0) p1 = (k * p0) % p1 := Int.tmod_eq_emod_of_nonneg m2
        have m3 := Int.emod_nonneg (k * p0) (show p1 ≠ 0 by omega)
        have m4 := Int.emod_lt_of_pos (k * p0) (show 0 < p1 by omega)
        refine lv_lload (pc := 19) hx hb dX1_byRemainders_19 (lv_at hl 0 rfl) ?_
        refine lv_iload_n (pc := 21) hx hb dX1_byRemainders_21 rfl (lv_at hl 4 rfl) ?_
        refine z_i2l (pc := 22) hx hb dX1_byRemainders_22 (by omega) ?_
        refine z_lcmp_le (pc := 23) (tgt := 38) hx hb dX1_byRemainders_23 dX1_byRemainders_24 (by decide) (by omega) (by omega) (fun c_2 => ?_) (fun c_2 => ?_)
        · have hc_23t := c_2
          refine lv_iload_n (pc := 38) hx hb dX1_byRemainders_38 rfl (lv_at hl 1 rfl) ?_
          have hv : (k) = (tgZ p0 p1 p2 5000 1) := by rw [i2]; exact (tgZ_y (by omega) (by rw [← e2]; omega)).symm
          exact W.iret (pc := 39) (v := zI k) hx hb hr (fun t ht hW => ⟨congrArg (fun z => Outcome.returned (some (vI z))) hv, ht⟩) (fun q h => absurd h List.not_mem_nil) dX1_byRemainders_39
        · have hc_23f := c_2
          refine lv_iload_n (pc := 27) hx hb dX1_byRemainders_27 rfl (lv_at hl 3 rfl) ?_
          refine z_i2l (pc := 28) hx hb dX1_byRemainders_28 (by omega) ?_
          refine lv_lload (pc := 29) hx hb dX1_byRemainders_29 (lv_at hl 0 rfl) ?_
          refine z_lsub (pc := 31) hx hb dX1_byRemainders_31 ?_
          refine lv_iload_n (pc := 32) hx hb dX1_byRemainders_32 rfl (lv_at hl 4 rfl) ?_
          refine z_i2l (pc := 33) hx hb dX1_byRemainders_33 (by omega) ?_
          refine z_lcmp_gt (pc := 34) (tgt := 40) hx hb dX1_byRemainders_34 dX1_byRemainders_35 (by decide) (by omega) (by omega) (fun c_3 => ?_) (fun c_3 => ?_)
          · have hc_34t := c_3
            refine lv_iinc (v := zI (k + 1)) (lv' := [(3, vI (k + 1)), (4, vL (Int.tmod (k * p0) p1)), (0, vI p0), (1, vI p1), (2, vI p2)]) (pc := 40) hx hb dX1_byRemainders_40 hl (k := 1) rfl (zI_add _ _) (by decide) rfl (fun ls hl => ?_)
            refine lv_goto (pc := 43) (tgt := 2) hx hb dX1_byRemainders_43 (by decide) ?_
            exact ih_2 (k + 1) (by omega) (by rw [i2]; exact tgZ_n (by omega) (by rw [← e2]; omega)) (by omega) _ (lv_sub hl [0, 2, 3, 4] rfl)
          · have hc_34f := c_3
            refine lv_iload_n (pc := 38) hx hb dX1_byRemainders_38 rfl (lv_at hl 1 rfl) ?_
            have hv : (k) = (tgZ p0 p1 p2 5000 1) := by rw [i2]; exact (tgZ_y (by omega) (by rw [← e2]; omega)).symm
            exact W.iret (pc := 39) (v := zI k) hx hb hr (fun t ht hW => ⟨congrArg (fun z => Outcome.returned (some (vI z))) hv, ht⟩) (fun q h => absurd h List.not_mem_nil) dX1_byRemainders_39
  exact LP_2 (Int.toNat ((5001 - 1 + 1) + 1)) 1 (by omega) (by rfl) (by omega) _ (lv_sub hl [0, 1, 2, 3] rfl)

set_option maxHeartbeats 4000000 in
set_option maxRecDepth 100000 in
theorem m_X1_byCounting (l : Launch) (D : va_G) (cI cJ cZ cD : ClassId) (sz : Nat) (p0 : Int) (p1 : Int) (p2 : Int) (h0 : 100000 ≤ p0 ∧ p0 ≤ 2000000) (h1 : 100000 ≤ p1 ∧ p1 ≤ 2000000) (h2 : 0 ≤ p2 ∧ p2 ≤ 1000000) : Met l yX1_byCounting wsX1_byCounting ({ frames := 0, cells := 0, slots := 0, locals := 0 } : Room) (va_Pc [vI p0, vI p1, vI p2] (fun _ => True)) (zQr (some (vI (tgZ p0 p1 p2 5000 1)))) 0 0 (fun _ => False) := by
  refine Met.ofW (cc := cX1_byCounting) (maxL := 9) (ret := (some .int)) (by decide) rfl ?_
  intro p e s m args below meth c s₁ B hml hv
  obtain ⟨rfl, -⟩ := hv
  have hx := B.exec
  have hb := B.bytes
  have hr := B.returns
  have hts := atoms_spec (ws := wsX1_byCounting) B.pre
  have hown : s.vm.findClass RX1 = some m.cls := findClass_of_methodNamed B.named
  have hlocks := B.notSynchronized
  have ck_11 := hts (.constant RX1 11 (100000)) (by decide +kernel)
  have hl := lv_entry ([vI p0, vI p1, vI p2]) (n := 9) (Nat.le_of_ble_eq_true rfl)
  rw [lg_entry_eq]
  generalize (lg_sl ([vI p0, vI p1, vI p2]) ++ List.replicate (9 - (lg_sl ([vI p0, vI p1, vI p2])).length) Slot.unset).toArray = ls at hl ⊢
  have hl : lv_has ls 9 [(0, vI p0), (1, vI p1), (2, vI p2)] := hl
  refine z_lconst (pc := 0) hx hb (z := 0) dX1_byCounting_0 (by decide) ?_
  refine lv_lstore_n (lv' := [(3, vL 0), (0, vI p0), (1, vI p1), (2, vI p2)]) (pc := 1) hx hb dX1_byCounting_1 rfl hl (by decide) rfl (fun ls hl => ?_)
  refine z_lconst (pc := 2) hx hb (z := 0) dX1_byCounting_2 (by decide) ?_
  refine lv_lstore (lv' := [(5, vL 0), (3, vL 0), (0, vI p0), (1, vI p1), (2, vI p2)]) (pc := 3) hx hb dX1_byCounting_3 hl (by decide) rfl (fun ls hl => ?_)
  refine z_iconst (pc := 5) hx hb dX1_byCounting_5 ?_
  refine lv_istore (lv' := [(7, vI 0), (5, vL 0), (3, vL 0), (0, vI p0), (1, vI p1), (2, vI p2)]) (pc := 6) hx hb dX1_byCounting_6 hl (by decide) rfl (fun ls hl => ?_)
  refine z_iconst (pc := 8) hx hb dX1_byCounting_8 ?_
  refine lv_istore (lv' := [(8, vI 1), (7, vI 0), (5, vL 0), (3, vL 0), (0, vI p0), (1, vI p1), (2, vI p2)]) (pc := 9) hx hb dX1_byCounting_9 hl (by decide) rfl (fun ls hl => ?_)
  have LP_11 : ∀ (nfu : Nat) (k : Int) (fs : Int) (sd : Int) (m_ : Int) (i1 : 1 ≤ k ∧ k ≤ 5001) (i2 : tgZ p0 p1 p2 5000 1 = tgZ p0 p1 p2 (Int.toNat (5001 - k)) k) (i3 : fs = (k - 1) * p0) (i4 : 0 ≤ m_ ∧ m_ ≤ 100000) (i5 : sd = p1 * m_) (i6 : 0 ≤ sd ∧ sd ≤ fs) (hme : 5001 - k + 1 < (nfu : Int)) (ls : Array Slot) (hl : lv_has ls 9 [(8, vI k), (7, vI m_), (5, vL sd), (3, vL fs), (0, vI p0), (1, vI p1), (2, vI p2)]), W p l e (headSpec wsX1_byCounting ({ frames := 0, cells := 0, slots := 0, locals := 0 } : Room)).room s m ([vI p0, vI p1, vI p2] : List Value).toArray below meth c s.heap [] 0 0 (MQ below (zQr (some (vI (tgZ p0 p1 p2 5000 1)))) ([vI p0, vI p1, vI p2] : List Value).toArray s 0 0 (fun _ => False)) (F0 m 11 ls []) := by
    intro nfu
    induction nfu with
    | zero =>
      intro k fs sd m_ i1 i2 i3 i4 i5 i6 hme ls hl
      exact absurd hme (by omega)
    | succ nfu ih_11 =>
      intro k fs sd m_ i1 i2 i3 i4 i5 i6 hme ls hl
      refine lv_iload (pc := 11) hx hb dX1_byCounting_11 (lv_at hl 0 rfl) ?_
      refine z_sipush (pc := 13) hx hb dX1_byCounting_13 (by decide) ?_
      refine z_icmp_gt (pc := 16) (tgt := 86) hx hb dX1_byCounting_16 (by decide) (by omega) (by decide) (fun c_1 => ?_) (fun c_1 => ?_)
      · have hc_16t := c_1
        refine z_iconst (pc := 86) hx hb dX1_byCounting_86 ?_
        have hv : (-1) = (tgZ p0 p1 p2 5000 1) := by rw [i2, show k = 5001 by omega]; rfl
        exact W.iret (pc := 87) (v := zI (-1)) hx hb hr (fun t ht hW => ⟨congrArg (fun z => Outcome.returned (some (vI z))) hv, ht⟩) (fun q h => absurd h List.not_mem_nil) dX1_byCounting_87
      · have hc_16f := c_1
        have m1 := z_mulr (a := k) (A := 5000) (b := p0) (B := 2000000) (by omega) (by omega)
        have e1 : fs + p0 = k * p0 := by rw [i3, Int.sub_mul, Int.one_mul]; omega
        refine lv_lload_n (pc := 19) hx hb dX1_byCounting_19 rfl (lv_at hl 3 rfl) ?_
        refine lv_iload_n (pc := 20) hx hb dX1_byCounting_20 rfl (lv_at hl 4 rfl) ?_
        refine z_i2l (pc := 21) hx hb dX1_byCounting_21 (by omega) ?_
        refine z_ladd (pc := 22) hx hb dX1_byCounting_22 ?_
        refine lv_lstore_n (lv' := [(3, vL (fs + p0)), (8, vI k), (7, vI m_), (5, vL sd), (0, vI p0), (1, vI p1), (2, vI p2)]) (pc := 23) hx hb dX1_byCounting_23 rfl hl (by decide) rfl (fun ls hl => ?_)
        have LP_24 : ∀ (nfu : Nat) (sd2 : Int) (m2_ : Int) (j2 : 0 ≤ m2_ ∧ m2_ ≤ 100000) (j3 : sd2 = p1 * m2_) (j6 : 0 ≤ sd2 ∧ sd2 ≤ fs + p0) (hme : 100000 - m2_ + 1 < (nfu : Int)) (ls : Array Slot) (hl : lv_has ls 9 [(3, vL (fs + p0)), (8, vI k), (7, vI m2_), (5, vL sd2), (0, vI p0), (1, vI p1), (2, vI p2)]), W p l e (headSpec wsX1_byCounting ({ frames := 0, cells := 0, slots := 0, locals := 0 } : Room)).room s m ([vI p0, vI p1, vI p2] : List Value).toArray below meth c s.heap [] 0 0 (MQ below (zQr (some (vI (tgZ p0 p1 p2 5000 1)))) ([vI p0, vI p1, vI p2] : List Value).toArray s 0 0 (fun _ => False)) (F0 m 24 ls []) := by
          intro nfu
          induction nfu with
          | zero =>
            intro sd2 m2_ j2 j3 j6 hme ls hl
            exact absurd hme (by omega)
          | succ nfu ih_24 =>
            intro sd2 m2_ j2 j3 j6 hme ls hl
            
            refine lv_lload (pc := 24) hx hb dX1_byCounting_24 (lv_at hl 3 rfl) ?_
            refine lv_iload_n (pc := 26) hx hb dX1_byCounting_26 rfl (lv_at hl 5 rfl) ?_
            refine z_i2l (pc := 27) hx hb dX1_byCounting_27 (by omega) ?_
            refine z_ladd (pc := 28) hx hb dX1_byCounting_28 ?_
            refine lv_lload_n (pc := 29) hx hb dX1_byCounting_29 rfl (lv_at hl 0 rfl) ?_
            refine z_lcmp_gt (pc := 30) (tgt := 54) hx hb dX1_byCounting_30 dX1_byCounting_31 (by decide) (by omega) (by omega) (fun c_2 => ?_) (fun c_2 => ?_)
            · have hc_30t := c_2
              have hq : fs + p0 < sd2 + p1 := by first | exact hc_30t | (exfalso; have m5 : 100000 * 100000 ≤ p1 * m2_ := Int.mul_le_mul (by omega) (by omega) (by decide) (by omega); omega)
              have e2 : (k * p0) % p1 = fs + p0 - sd2 := z_mod_of (m := m2_) (by omega) (by omega)
              refine lv_lload_n (pc := 54) hx hb dX1_byCounting_54 rfl (lv_at hl 0 rfl) ?_
              refine lv_lload (pc := 55) hx hb dX1_byCounting_55 (lv_at hl 3 rfl) ?_
              refine z_lsub (pc := 57) hx hb dX1_byCounting_57 ?_
              refine lv_iload_n (pc := 58) hx hb dX1_byCounting_58 rfl (lv_at hl 6 rfl) ?_
              refine z_i2l (pc := 59) hx hb dX1_byCounting_59 (by omega) ?_
              refine z_lcmp_le (pc := 60) (tgt := 77) hx hb dX1_byCounting_60 dX1_byCounting_61 (by decide) (by omega) (by omega) (fun c_3 => ?_) (fun c_3 => ?_)
              · have hc_60t := c_3
                refine lv_iload (pc := 77) hx hb dX1_byCounting_77 (lv_at hl 1 rfl) ?_
                have hv : (k) = (tgZ p0 p1 p2 5000 1) := by rw [i2]; exact (tgZ_y (by omega) (by rw [e2]; omega)).symm
                exact W.iret (pc := 79) (v := zI k) hx hb hr (fun t ht hW => ⟨congrArg (fun z => Outcome.returned (some (vI z))) hv, ht⟩) (fun q h => absurd h List.not_mem_nil) dX1_byCounting_79
              · have hc_60f := c_3
                refine lv_lload (pc := 64) hx hb dX1_byCounting_64 (lv_at hl 3 rfl) ?_
                refine lv_iload_n (pc := 66) hx hb dX1_byCounting_66 rfl (lv_at hl 5 rfl) ?_
                refine z_i2l (pc := 67) hx hb dX1_byCounting_67 (by omega) ?_
                refine z_ladd (pc := 68) hx hb dX1_byCounting_68 ?_
                refine lv_lload_n (pc := 69) hx hb dX1_byCounting_69 rfl (lv_at hl 0 rfl) ?_
                refine z_lsub (pc := 70) hx hb dX1_byCounting_70 ?_
                refine lv_iload_n (pc := 71) hx hb dX1_byCounting_71 rfl (lv_at hl 6 rfl) ?_
                refine z_i2l (pc := 72) hx hb dX1_byCounting_72 (by omega) ?_
                refine z_lcmp_gt (pc := 73) (tgt := 80) hx hb dX1_byCounting_73 dX1_byCounting_74 (by decide) (by omega) (by omega) (fun c_4 => ?_) (fun c_4 => ?_)
                · have hc_73t := c_4
                  refine lv_iinc (v := zI (k + 1)) (lv' := [(8, vI (k + 1)), (3, vL (fs + p0)), (7, vI m2_), (5, vL sd2), (0, vI p0), (1, vI p1), (2, vI p2)]) (pc := 80) hx hb dX1_byCounting_80 hl (k := 1) rfl (zI_add _ _) (by decide) rfl (fun ls hl => ?_)
                  refine lv_goto (pc := 83) (tgt := 11) hx hb dX1_byCounting_83 (by decide) ?_
                  exact ih_11 (k + 1) (fs + p0) sd2 m2_ (by omega) (by rw [i2]; exact tgZ_n (by omega) (by rw [e2]; omega)) (by rw [show k + 1 - 1 = k by omega]; exact e1) (by omega) (j3) (by omega) (by omega) _ (lv_sub hl [0, 2, 3, 1, 4, 5, 6] rfl)
                · have hc_73f := c_4
                  refine lv_iload (pc := 77) hx hb dX1_byCounting_77 (lv_at hl 1 rfl) ?_
                  have hv : (k) = (tgZ p0 p1 p2 5000 1) := by rw [i2]; exact (tgZ_y (by omega) (by rw [e2]; omega)).symm
                  exact W.iret (pc := 79) (v := zI k) hx hb hr (fun t ht hW => ⟨congrArg (fun z => Outcome.returned (some (vI z))) hv, ht⟩) (fun q h => absurd h List.not_mem_nil) dX1_byCounting_79
            · have hc_30f := c_2
              refine lv_iload (pc := 34) hx hb dX1_byCounting_34 (lv_at hl 2 rfl) ?_
              refine lv_ldc (pc := 36) hx hb hown ck_11 dX1_byCounting_36 ?_
              refine z_topI (z := 100000) (by decide) ?_
              refine z_icmp_ge (pc := 38) (tgt := 54) hx hb dX1_byCounting_38 (by decide) (by omega) (by decide) (fun c_5 => ?_) (fun c_5 => ?_)
              · have hc_38t := c_5
                have hq : fs + p0 < sd2 + p1 := by first | exact hc_30t | (exfalso; have m5 : 100000 * 100000 ≤ p1 * m2_ := Int.mul_le_mul (by omega) (by omega) (by decide) (by omega); omega)
                have e2 : (k * p0) % p1 = fs + p0 - sd2 := z_mod_of (m := m2_) (by omega) (by omega)
                refine lv_lload_n (pc := 54) hx hb dX1_byCounting_54 rfl (lv_at hl 0 rfl) ?_
                refine lv_lload (pc := 55) hx hb dX1_byCounting_55 (lv_at hl 3 rfl) ?_
                refine z_lsub (pc := 57) hx hb dX1_byCounting_57 ?_
                refine lv_iload_n (pc := 58) hx hb dX1_byCounting_58 rfl (lv_at hl 6 rfl) ?_
                refine z_i2l (pc := 59) hx hb dX1_byCounting_59 (by omega) ?_
                refine z_lcmp_le (pc := 60) (tgt := 77) hx hb dX1_byCounting_60 dX1_byCounting_61 (by decide) (by omega) (by omega) (fun c_6 => ?_) (fun c_6 => ?_)
                · have hc_60t := c_6
                  refine lv_iload (pc := 77) hx hb dX1_byCounting_77 (lv_at hl 1 rfl) ?_
                  have hv : (k) = (tgZ p0 p1 p2 5000 1) := by rw [i2]; exact (tgZ_y (by omega) (by rw [e2]; omega)).symm
                  exact W.iret (pc := 79) (v := zI k) hx hb hr (fun t ht hW => ⟨congrArg (fun z => Outcome.returned (some (vI z))) hv, ht⟩) (fun q h => absurd h List.not_mem_nil) dX1_byCounting_79
                · have hc_60f := c_6
                  refine lv_lload (pc := 64) hx hb dX1_byCounting_64 (lv_at hl 3 rfl) ?_
                  refine lv_iload_n (pc := 66) hx hb dX1_byCounting_66 rfl (lv_at hl 5 rfl) ?_
                  refine z_i2l (pc := 67) hx hb dX1_byCounting_67 (by omega) ?_
                  refine z_ladd (pc := 68) hx hb dX1_byCounting_68 ?_
                  refine lv_lload_n (pc := 69) hx hb dX1_byCounting_69 rfl (lv_at hl 0 rfl) ?_
                  refine z_lsub (pc := 70) hx hb dX1_byCounting_70 ?_
                  refine lv_iload_n (pc := 71) hx hb dX1_byCounting_71 rfl (lv_at hl 6 rfl) ?_
                  refine z_i2l (pc := 72) hx hb dX1_byCounting_72 (by omega) ?_
                  refine z_lcmp_gt (pc := 73) (tgt := 80) hx hb dX1_byCounting_73 dX1_byCounting_74 (by decide) (by omega) (by omega) (fun c_7 => ?_) (fun c_7 => ?_)
                  · have hc_73t := c_7
                    refine lv_iinc (v := zI (k + 1)) (lv' := [(8, vI (k + 1)), (3, vL (fs + p0)), (7, vI m2_), (5, vL sd2), (0, vI p0), (1, vI p1), (2, vI p2)]) (pc := 80) hx hb dX1_byCounting_80 hl (k := 1) rfl (zI_add _ _) (by decide) rfl (fun ls hl => ?_)
                    refine lv_goto (pc := 83) (tgt := 11) hx hb dX1_byCounting_83 (by decide) ?_
                    exact ih_11 (k + 1) (fs + p0) sd2 m2_ (by omega) (by rw [i2]; exact tgZ_n (by omega) (by rw [e2]; omega)) (by rw [show k + 1 - 1 = k by omega]; exact e1) (by omega) (j3) (by omega) (by omega) _ (lv_sub hl [0, 2, 3, 1, 4, 5, 6] rfl)
                  · have hc_73f := c_7
                    refine lv_iload (pc := 77) hx hb dX1_byCounting_77 (lv_at hl 1 rfl) ?_
                    have hv : (k) = (tgZ p0 p1 p2 5000 1) := by rw [i2]; exact (tgZ_y (by omega) (by rw [e2]; omega)).symm
                    exact W.iret (pc := 79) (v := zI k) hx hb hr (fun t ht hW => ⟨congrArg (fun z => Outcome.returned (some (vI z))) hv, ht⟩) (fun q h => absurd h List.not_mem_nil) dX1_byCounting_79
              · have hc_38f := c_5
                refine lv_lload (pc := 41) hx hb dX1_byCounting_41 (lv_at hl 3 rfl) ?_
                refine lv_iload_n (pc := 43) hx hb dX1_byCounting_43 rfl (lv_at hl 5 rfl) ?_
                refine z_i2l (pc := 44) hx hb dX1_byCounting_44 (by omega) ?_
                refine z_ladd (pc := 45) hx hb dX1_byCounting_45 ?_
                refine lv_lstore (lv' := [(5, vL (sd2 + p1)), (3, vL (fs + p0)), (8, vI k), (7, vI m2_), (0, vI p0), (1, vI p1), (2, vI p2)]) (pc := 46) hx hb dX1_byCounting_46 hl (by decide) rfl (fun ls hl => ?_)
                refine lv_iinc (v := zI (m2_ + 1)) (lv' := [(7, vI (m2_ + 1)), (5, vL (sd2 + p1)), (3, vL (fs + p0)), (8, vI k), (0, vI p0), (1, vI p1), (2, vI p2)]) (pc := 48) hx hb dX1_byCounting_48 hl (k := 3) rfl (zI_add _ _) (by decide) rfl (fun ls hl => ?_)
                refine lv_goto (pc := 51) (tgt := 24) hx hb dX1_byCounting_51 (by decide) ?_
                exact ih_24 (sd2 + p1) (m2_ + 1) (by omega) (by rw [Int.mul_add, Int.mul_one, ← j3]) (by omega) (by omega) _ (lv_sub hl [2, 3, 0, 1, 4, 5, 6] rfl)
        exact LP_24 (Int.toNat ((100000 - m_ + 1) + 1)) sd m_ (by omega) (i5) (by omega) (by omega) _ (lv_sub hl [0, 1, 2, 3, 4, 5, 6] rfl)
  exact LP_11 (Int.toNat ((5001 - 1 + 1) + 1)) 1 0 0 0 (by omega) (by rfl) (by omega) (by omega) (by rw [Int.mul_zero]) (by omega) (by omega) _ (lv_sub hl [0, 1, 2, 3, 4, 5, 6] rfl)

set_option maxHeartbeats 4000000 in
set_option maxRecDepth 100000 in
theorem m_X6_state (l : Launch) (D : va_G) (cI cJ cZ cD : ClassId) (sz : Nat) (p0 : Int) (p1 : Int) : Met l yX6_state wsX6_state ({ frames := 0, cells := 0, slots := 0, locals := 0 } : Room) (va_Pc [vI p0, vI p1] (fun _ => True)) (zQr (some (vI (64 * p0 + p1)))) 0 0 (fun _ => False) := by
  refine Met.ofW (cc := cX6_state) (maxL := 2) (ret := (some .int)) (by decide) rfl ?_
  intro p e s m args below meth c s₁ B hml hv
  obtain ⟨rfl, -⟩ := hv
  have hx := B.exec
  have hb := B.bytes
  have hr := B.returns
  have hts := atoms_spec (ws := wsX6_state) B.pre
  have hown : s.vm.findClass RX6 = some m.cls := findClass_of_methodNamed B.named
  have hlocks := B.notSynchronized
  have hl := lv_entry ([vI p0, vI p1]) (n := 2) (Nat.le_of_ble_eq_true rfl)
  rw [lg_entry_eq]
  generalize (lg_sl ([vI p0, vI p1]) ++ List.replicate (2 - (lg_sl ([vI p0, vI p1])).length) Slot.unset).toArray = ls at hl ⊢
  have hl : lv_has ls 2 [(0, vI p0), (1, vI p1)] := hl
  refine z_bipush (pc := 0) hx hb dX6_state_0 (by decide) ?_
  refine lv_iload_n (pc := 2) hx hb dX6_state_2 rfl (lv_at hl 0 rfl) ?_
  refine z_imul (pc := 3) hx hb dX6_state_3 ?_
  refine lv_iload_n (pc := 4) hx hb dX6_state_4 rfl (lv_at hl 1 rfl) ?_
  refine z_iadd (pc := 5) hx hb dX6_state_5 ?_
  have hv : ((64 * p0) + p1) = (64 * p0 + p1) := by first | rfl | omega
  exact W.iret (pc := 6) (v := zI ((64 * p0) + p1)) hx hb hr (fun t ht hW => ⟨congrArg (fun z => Outcome.returned (some (vI z))) hv, ht⟩) (fun q h => absurd h List.not_mem_nil) dX6_state_6

set_option maxHeartbeats 4000000 in
set_option maxRecDepth 100000 in
theorem m_X6_wrap (l : Launch) (D : va_G) (cI cJ cZ cD : ClassId) (sz : Nat) (p0 : Int) (h0 : -2147483648 ≤ p0 ∧ p0 < 2147483648) : Met l yX6_wrap wsX6_wrap ({ frames := 1, cells := 0, slots := 0, locals := 22 } : Room) (va_Pc [vI p0] (fun _ => True)) (zQr (some (vI (p0 % 64)))) 0 0 (fun _ => False) := by
  refine Met.ofW (cc := cX6_wrap) (maxL := 1) (ret := (some .int)) (by decide) rfl ?_
  intro p e s m args below meth c s₁ B hml hv
  obtain ⟨rfl, -⟩ := hv
  have hx := B.exec
  have hb := B.bytes
  have hr := B.returns
  have hts := atoms_spec (ws := wsX6_wrap) B.pre
  have hown : s.vm.findClass RX6 = some m.cls := findClass_of_methodNamed B.named
  have hlocks := B.notSynchronized
  have hl := lv_entry ([vI p0]) (n := 1) (Nat.le_of_ble_eq_true rfl)
  rw [lg_entry_eq]
  generalize (lg_sl ([vI p0]) ++ List.replicate (1 - (lg_sl ([vI p0])).length) Slot.unset).toArray = ls at hl ⊢
  have hl : lv_has ls 1 [(0, vI p0)] := hl
  refine lv_iload_n (pc := 0) hx hb dX6_wrap_0 rfl (lv_at hl 0 rfl) ?_
  refine z_bipush (pc := 1) hx hb dX6_wrap_1 (by decide) ?_
  refine z_callR (pc := 3) (va_runS (As := [vI p0, vI 64]) (rest := []) ⟨hx, hb, hml, hown, hts⟩ (m_J9_floorMod_7cf53 l D cI cJ cZ cD 0  p0 64 (by omega) (by omega)) (va_cwS 2 hts gX6_wrap_J9_floorMod_7cf53 rfl rfl rfl (by decide +kernel) ⟨Nat.le_of_ble_eq_true rfl, Nat.le_of_ble_eq_true rfl⟩) ⟨fun a U g mk q => q, fun U hU hW => ⟨rfl, trivial⟩⟩ rfl rfl hl.1 rfl (lv_room (Nat.le_of_ble_eq_true rfl)) dX6_wrap_3 ⟨Nat.zero_le _, Nat.zero_le _⟩) ?_
  have hv : (p0 % 64) = (p0 % 64) := rfl
  exact W.iret (pc := 6) (v := zI (p0 % 64)) hx hb hr (fun t ht hW => ⟨congrArg (fun z => Outcome.returned (some (vI z))) hv, ht⟩) (fun q h => absurd h List.not_mem_nil) dX6_wrap_6

set_option maxHeartbeats 4000000 in
set_option maxRecDepth 100000 in
theorem m_X6_shake (l : Launch) (D : va_G) (cI cJ cZ cD : ClassId) (sz : Nat) (p0 : Int) (h0 : 0 ≤ p0 ∧ p0 < 64) : Met l yX6_shake wsX6_shake ({ frames := 1, cells := 0, slots := 0, locals := 22 } : Room) (va_Pc [vI p0] (fun _ => True)) (zQr (some (vI (shkZ p0)))) 0 0 (fun _ => False) := by
  refine Met.ofW (cc := cX6_shake) (maxL := 1) (ret := (some .int)) (by decide) rfl ?_
  intro p e s m args below meth c s₁ B hml hv
  obtain ⟨rfl, -⟩ := hv
  have hx := B.exec
  have hb := B.bytes
  have hr := B.returns
  have hts := atoms_spec (ws := wsX6_shake) B.pre
  have hown : s.vm.findClass RX6 = some m.cls := findClass_of_methodNamed B.named
  have hlocks := B.notSynchronized
  have hl := lv_entry ([vI p0]) (n := 1) (Nat.le_of_ble_eq_true rfl)
  rw [lg_entry_eq]
  generalize (lg_sl ([vI p0]) ++ List.replicate (1 - (lg_sl ([vI p0])).length) Slot.unset).toArray = ls at hl ⊢
  have hl : lv_has ls 1 [(0, vI p0)] := hl
  obtain ⟨s1, s2, -⟩ := shkZ_rng h0
  refine lv_iload_n (pc := 0) hx hb dX6_shake_0 rfl (lv_at hl 0 rfl) ?_
  refine z_bipush (pc := 1) hx hb dX6_shake_1 (by decide) ?_
  
  refine z_icmp_ge (pc := 3) (tgt := 18) hx hb dX6_shake_3 (by decide) (by omega) (by decide) (fun c_1 => ?_) (fun c_1 => ?_)
  · have hc_3t := c_1
    refine lv_iload_n (pc := 18) hx hb dX6_shake_18 rfl (lv_at hl 0 rfl) ?_
    refine z_bipush (pc := 19) hx hb dX6_shake_19 (by decide) ?_
    refine z_isub (pc := 21) hx hb dX6_shake_21 ?_
    refine z_bipush (pc := 22) hx hb dX6_shake_22 (by decide) ?_
    refine lv_iload_n (pc := 24) hx hb dX6_shake_24 rfl (lv_at hl 0 rfl) ?_
    refine z_isub (pc := 25) hx hb dX6_shake_25 ?_
    refine z_imul (pc := 26) hx hb dX6_shake_26 ?_
    refine z_bipush (pc := 27) hx hb dX6_shake_27 (by decide) ?_
    have s3 := s2 hc_3t
    refine z_callR (pc := 29) (va_runS (As := [vI ((p0 - 32) * (64 - p0)), vI 8]) (rest := []) ⟨hx, hb, hml, hown, hts⟩ (m_J9_floorDiv_7cf53 l D cI cJ cZ cD 0  ((p0 - 32) * (64 - p0)) 8 (by omega) (by omega)) (va_cwS 2 hts gX6_shake_J9_floorDiv_7cf53 rfl rfl rfl (by decide +kernel) ⟨Nat.le_of_ble_eq_true rfl, Nat.le_of_ble_eq_true rfl⟩) ⟨fun a U g mk q => q, fun U hU hW => ⟨rfl, trivial⟩⟩ rfl rfl hl.1 rfl (lv_room (Nat.le_of_ble_eq_true rfl)) dX6_shake_29 ⟨Nat.zero_le _, Nat.zero_le _⟩) ?_
    refine z_ineg (pc := 32) hx hb dX6_shake_32 ?_
    have hv : (-(((p0 - 32) * (64 - p0)) / 8)) = (shkZ p0) := by unfold shkZ; rw [if_neg (by omega)]
    exact W.iret (pc := 33) (v := zI (-(((p0 - 32) * (64 - p0)) / 8))) hx hb hr (fun t ht hW => ⟨congrArg (fun z => Outcome.returned (some (vI z))) hv, ht⟩) (fun q h => absurd h List.not_mem_nil) dX6_shake_33
  · have hc_3f := c_1
    refine lv_iload_n (pc := 6) hx hb dX6_shake_6 rfl (lv_at hl 0 rfl) ?_
    refine z_bipush (pc := 7) hx hb dX6_shake_7 (by decide) ?_
    refine lv_iload_n (pc := 9) hx hb dX6_shake_9 rfl (lv_at hl 0 rfl) ?_
    refine z_isub (pc := 10) hx hb dX6_shake_10 ?_
    refine z_imul (pc := 11) hx hb dX6_shake_11 ?_
    refine z_bipush (pc := 12) hx hb dX6_shake_12 (by decide) ?_
    have s3 := s1 hc_3f
    refine z_callR (pc := 14) (va_runS (As := [vI (p0 * (32 - p0)), vI 8]) (rest := []) ⟨hx, hb, hml, hown, hts⟩ (m_J9_floorDiv_7cf53 l D cI cJ cZ cD 0  (p0 * (32 - p0)) 8 (by omega) (by omega)) (va_cwS 2 hts gX6_shake_J9_floorDiv_7cf53 rfl rfl rfl (by decide +kernel) ⟨Nat.le_of_ble_eq_true rfl, Nat.le_of_ble_eq_true rfl⟩) ⟨fun a U g mk q => q, fun U hU hW => ⟨rfl, trivial⟩⟩ rfl rfl hl.1 rfl (lv_room (Nat.le_of_ble_eq_true rfl)) dX6_shake_14 ⟨Nat.zero_le _, Nat.zero_le _⟩) ?_
    have hv : ((p0 * (32 - p0)) / 8) = (shkZ p0) := by unfold shkZ; rw [if_pos hc_3f]
    exact W.iret (pc := 17) (v := zI ((p0 * (32 - p0)) / 8)) hx hb hr (fun t ht hW => ⟨congrArg (fun z => Outcome.returned (some (vI z))) hv, ht⟩) (fun q h => absurd h List.not_mem_nil) dX6_shake_17

set_option maxHeartbeats 4000000 in
set_option maxRecDepth 100000 in
theorem m_X6_kick (l : Launch) (D : va_G) (cI cJ cZ cD : ClassId) (sz : Nat) (p0 : Int) (p1 : Int) (h0 : 0 ≤ p0 ∧ p0 < 64) (h1 : 0 ≤ p1 ∧ p1 ≤ 200) : Met l yX6_kick wsX6_kick ({ frames := 2, cells := 0, slots := 0, locals := 42 } : Room) (va_Pc [vI p0, vI p1] (fun _ => True)) (zQr (some (vI (kikZ p0 p1)))) 0 0 (fun _ => False) := by
  refine Met.ofW (cc := cX6_kick) (maxL := 2) (ret := (some .int)) (by decide) rfl ?_
  intro p e s m args below meth c s₁ B hml hv
  obtain ⟨rfl, -⟩ := hv
  have hx := B.exec
  have hb := B.bytes
  have hr := B.returns
  have hts := atoms_spec (ws := wsX6_kick) B.pre
  have hown : s.vm.findClass RX6 = some m.cls := findClass_of_methodNamed B.named
  have hlocks := B.notSynchronized
  have hl := lv_entry ([vI p0, vI p1]) (n := 2) (Nat.le_of_ble_eq_true rfl)
  rw [lg_entry_eq]
  generalize (lg_sl ([vI p0, vI p1]) ++ List.replicate (2 - (lg_sl ([vI p0, vI p1])).length) Slot.unset).toArray = ls at hl ⊢
  have hl : lv_has ls 2 [(0, vI p0), (1, vI p1)] := hl
  have g1 := kikZ_rng h0 h1
  refine lv_iload_n (pc := 0) hx hb dX6_kick_0 rfl (lv_at hl 1 rfl) ?_
  refine lv_iload_n (pc := 1) hx hb dX6_kick_1 rfl (lv_at hl 0 rfl) ?_
  refine z_callR (pc := 2) (va_runS (As := [vI p0]) (rest := [vI p1]) ⟨hx, hb, hml, hown, hts⟩ (m_X6_shake l D cI cJ cZ cD 0  p0 (by omega)) (va_cwS 1 hts gX6_kick_X6_shake rfl rfl rfl (by decide +kernel) ⟨Nat.le_of_ble_eq_true rfl, Nat.le_of_ble_eq_true rfl⟩) ⟨fun a U g mk q => q, fun U hU hW => ⟨rfl, trivial⟩⟩ rfl rfl hl.1 rfl (lv_room (Nat.le_of_ble_eq_true rfl)) dX6_kick_2 ⟨Nat.zero_le _, Nat.zero_le _⟩) ?_
  refine z_imul (pc := 5) hx hb dX6_kick_5 ?_
  refine z_bipush (pc := 6) hx hb dX6_kick_6 (by decide) ?_
  refine z_callR (pc := 8) (va_runS (As := [vI (p1 * (shkZ p0)), vI 16]) (rest := []) ⟨hx, hb, hml, hown, hts⟩ (m_J9_floorDiv_7cf53 l D cI cJ cZ cD 0  (p1 * (shkZ p0)) 16 (by omega) (by omega)) (va_cwS 2 hts gX6_kick_J9_floorDiv_7cf53 rfl rfl rfl (by decide +kernel) ⟨Nat.le_of_ble_eq_true rfl, Nat.le_of_ble_eq_true rfl⟩) ⟨fun a U g mk q => q, fun U hU hW => ⟨rfl, trivial⟩⟩ rfl rfl hl.1 rfl (lv_room (Nat.le_of_ble_eq_true rfl)) dX6_kick_8 ⟨Nat.zero_le _, Nat.zero_le _⟩) ?_
  have hv : ((p1 * (shkZ p0)) / 16) = (kikZ p0 p1) := by rfl
  exact W.iret (pc := 11) (v := zI ((p1 * (shkZ p0)) / 16)) hx hb hr (fun t ht hW => ⟨congrArg (fun z => Outcome.returned (some (vI z))) hv, ht⟩) (fun q h => absurd h List.not_mem_nil) dX6_kick_11

set_option maxHeartbeats 4000000 in
set_option maxRecDepth 100000 in
theorem m_X6_moved (l : Launch) (D : va_G) (cI cJ cZ cD : ClassId) (sz : Nat) (p0 : Int) (p1 : Int) (p2 : Int) (h0 : 0 ≤ p0 ∧ p0 < 4096) (h1 : 0 ≤ p1 ∧ p1 ≤ 200) (h2 : 0 ≤ p2 ∧ p2 ≤ 10000) : Met l yX6_moved wsX6_moved ({ frames := 3, cells := 0, slots := 0, locals := 63 } : Room) (va_Pc [vI p0, vI p1, vI p2] (fun _ => True)) (zQr (some (vI (itZ (mvZ p1) (Int.toNat p2) p0)))) 0 0 (fun _ => False) := by
  refine Met.ofW (cc := cX6_moved) (maxL := 6) (ret := (some .int)) (by decide) rfl ?_
  intro p e s m args below meth c s₁ B hml hv
  obtain ⟨rfl, -⟩ := hv
  have hx := B.exec
  have hb := B.bytes
  have hr := B.returns
  have hts := atoms_spec (ws := wsX6_moved) B.pre
  have hown : s.vm.findClass RX6 = some m.cls := findClass_of_methodNamed B.named
  have hlocks := B.notSynchronized
  have hl := lv_entry ([vI p0, vI p1, vI p2]) (n := 6) (Nat.le_of_ble_eq_true rfl)
  rw [lg_entry_eq]
  generalize (lg_sl ([vI p0, vI p1, vI p2]) ++ List.replicate (6 - (lg_sl ([vI p0, vI p1, vI p2])).length) Slot.unset).toArray = ls at hl ⊢
  have hl : lv_has ls 6 [(0, vI p0), (1, vI p1), (2, vI p2)] := hl
  refine lv_iload_n (pc := 0) hx hb dX6_moved_0 rfl (lv_at hl 0 rfl) ?_
  refine z_bipush (pc := 1) hx hb dX6_moved_1 (by decide) ?_
  refine z_idiv (pc := 3) hx hb dX6_moved_3 (by omega) (by decide) ?_
  refine lv_istore_n (lv' := [(3, vI (Int.tdiv p0 64)), (0, vI p0), (1, vI p1), (2, vI p2)]) (pc := 4) hx hb dX6_moved_4 rfl hl (by decide) rfl (fun ls hl => ?_)
  refine lv_iload_n (pc := 5) hx hb dX6_moved_5 rfl (lv_at hl 1 rfl) ?_
  refine z_bipush (pc := 6) hx hb dX6_moved_6 (by decide) ?_
  refine z_irem (pc := 8) hx hb dX6_moved_8 (by omega) (by decide) ?_
  refine lv_istore (lv' := [(4, vI (Int.tmod p0 64)), (3, vI (Int.tdiv p0 64)), (0, vI p0), (1, vI p1), (2, vI p2)]) (pc := 9) hx hb dX6_moved_9 hl (by decide) rfl (fun ls hl => ?_)
  refine z_iconst (pc := 11) hx hb dX6_moved_11 ?_
  refine lv_istore (lv' := [(5, vI 0), (4, vI (Int.tmod p0 64)), (3, vI (Int.tdiv p0 64)), (0, vI p0), (1, vI p1), (2, vI p2)]) (pc := 12) hx hb dX6_moved_12 hl (by decide) rfl (fun ls hl => ?_)
  have LP_14 : ∀ (nfu : Nat) (pl : Int) (sp : Int) (i : Int) (i1 : 0 ≤ i ∧ i ≤ p2) (i2 : pl = itZ (mvZ p1) (Int.toNat i) p0 / 64) (i3 : sp = itZ (mvZ p1) (Int.toNat i) p0 % 64) (i4 : 0 ≤ pl ∧ pl < 64) (i5 : 0 ≤ sp ∧ sp < 64) (hme : p2 - i + 1 < (nfu : Int)) (ls : Array Slot) (hl : lv_has ls 6 [(5, vI i), (4, vI sp), (3, vI pl), (0, vI p0), (1, vI p1), (2, vI p2)]), W p l e (headSpec wsX6_moved ({ frames := 3, cells := 0, slots := 0, locals := 63 } : Room)).room s m ([vI p0, vI p1, vI p2] : List Value).toArray below meth c s.heap [] 0 0 (MQ below (zQr (some (vI (itZ (mvZ p1) (Int.toNat p2) p0)))) ([vI p0, vI p1, vI p2] : List Value).toArray s 0 0 (fun _ => False)) (F0 m 14 ls []) := by
    intro nfu
    induction nfu with
    | zero =>
      intro pl sp i i1 i2 i3 i4 i5 hme ls hl
      exact absurd hme (by omega)
    | succ nfu ih_14 =>
      intro pl sp i i1 i2 i3 i4 i5 hme ls hl
      refine lv_iload (pc := 14) hx hb dX6_moved_14 (lv_at hl 0 rfl) ?_
      refine lv_iload_n (pc := 16) hx hb dX6_moved_16 rfl (lv_at hl 5 rfl) ?_
      refine z_icmp_ge (pc := 17) (tgt := 47) hx hb dX6_moved_17 (by decide) (by omega) (by omega) (fun c_1 => ?_) (fun c_1 => ?_)
      · have hc_17t := c_1
        refine lv_iload_n (pc := 47) hx hb dX6_moved_47 rfl (lv_at hl 2 rfl) ?_
        refine lv_iload (pc := 48) hx hb dX6_moved_48 (lv_at hl 1 rfl) ?_
        refine z_callR (pc := 50) (va_runS (As := [vI pl, vI sp]) (rest := []) ⟨hx, hb, hml, hown, hts⟩ (m_X6_state l D cI cJ cZ cD 0  pl sp ) (va_cwS 2 hts gX6_moved_X6_state rfl rfl rfl (by decide +kernel) ⟨Nat.le_of_ble_eq_true rfl, Nat.le_of_ble_eq_true rfl⟩) ⟨fun a U g mk q => q, fun U hU hW => ⟨rfl, trivial⟩⟩ rfl rfl hl.1 rfl (lv_room (Nat.le_of_ble_eq_true rfl)) dX6_moved_50 ⟨Nat.zero_le _, Nat.zero_le _⟩) ?_
        have hv : (64 * pl + sp) = (itZ (mvZ p1) (Int.toNat p2) p0) := by rw [i2, i3, show i = p2 by omega]; omega
        exact W.iret (pc := 53) (v := zI (64 * pl + sp)) hx hb hr (fun t ht hW => ⟨congrArg (fun z => Outcome.returned (some (vI z))) hv, ht⟩) (fun q h => absurd h List.not_mem_nil) dX6_moved_53
      · have hc_17f := c_1
        refine lv_iload (pc := 20) hx hb dX6_moved_20 (lv_at hl 1 rfl) ?_
        refine lv_iload_n (pc := 22) hx hb dX6_moved_22 rfl (lv_at hl 2 rfl) ?_
        refine lv_iload_n (pc := 23) hx hb dX6_moved_23 rfl (lv_at hl 4 rfl) ?_
        have g1 := (kikZ_rng i4 h1).2
        refine z_callR (pc := 24) (va_runS (As := [vI pl, vI p1]) (rest := [vI sp]) ⟨hx, hb, hml, hown, hts⟩ (m_X6_kick l D cI cJ cZ cD 0  pl p1 (by omega) (by omega)) (va_cwS 2 hts gX6_moved_X6_kick rfl rfl rfl (by decide +kernel) ⟨Nat.le_of_ble_eq_true rfl, Nat.le_of_ble_eq_true rfl⟩) ⟨fun a U g mk q => q, fun U hU hW => ⟨rfl, trivial⟩⟩ rfl rfl hl.1 rfl (lv_room (Nat.le_of_ble_eq_true rfl)) dX6_moved_24 ⟨Nat.zero_le _, Nat.zero_le _⟩) ?_
        refine z_iadd (pc := 27) hx hb dX6_moved_27 ?_
        refine z_callR (pc := 28) (va_runS (As := [vI (sp + (kikZ pl p1))]) (rest := []) ⟨hx, hb, hml, hown, hts⟩ (m_X6_wrap l D cI cJ cZ cD 0  (sp + (kikZ pl p1)) (by omega)) (va_cwS 1 hts gX6_moved_X6_wrap rfl rfl rfl (by decide +kernel) ⟨Nat.le_of_ble_eq_true rfl, Nat.le_of_ble_eq_true rfl⟩) ⟨fun a U g mk q => q, fun U hU hW => ⟨rfl, trivial⟩⟩ rfl rfl hl.1 rfl (lv_room (Nat.le_of_ble_eq_true rfl)) dX6_moved_28 ⟨Nat.zero_le _, Nat.zero_le _⟩) ?_
        refine lv_istore (lv' := [(4, vI ((sp + (kikZ pl p1)) % 64)), (5, vI i), (3, vI pl), (0, vI p0), (1, vI p1), (2, vI p2)]) (pc := 31) hx hb dX6_moved_31 hl (by decide) rfl (fun ls hl => ?_)
        refine lv_iload_n (pc := 33) hx hb dX6_moved_33 rfl (lv_at hl 2 rfl) ?_
        refine lv_iload (pc := 34) hx hb dX6_moved_34 (lv_at hl 0 rfl) ?_
        refine z_iadd (pc := 36) hx hb dX6_moved_36 ?_
        refine z_callR (pc := 37) (va_runS (As := [vI (pl + ((sp + (kikZ pl p1)) % 64))]) (rest := []) ⟨hx, hb, hml, hown, hts⟩ (m_X6_wrap l D cI cJ cZ cD 0  (pl + ((sp + (kikZ pl p1)) % 64)) (by omega)) (va_cwS 1 hts gX6_moved_X6_wrap rfl rfl rfl (by decide +kernel) ⟨Nat.le_of_ble_eq_true rfl, Nat.le_of_ble_eq_true rfl⟩) ⟨fun a U g mk q => q, fun U hU hW => ⟨rfl, trivial⟩⟩ rfl rfl hl.1 rfl (lv_room (Nat.le_of_ble_eq_true rfl)) dX6_moved_37 ⟨Nat.zero_le _, Nat.zero_le _⟩) ?_
        refine lv_istore_n (lv' := [(3, vI ((pl + ((sp + (kikZ pl p1)) % 64)) % 64)), (4, vI ((sp + (kikZ pl p1)) % 64)), (5, vI i), (0, vI p0), (1, vI p1), (2, vI p2)]) (pc := 40) hx hb dX6_moved_40 rfl hl (by decide) rfl (fun ls hl => ?_)
        refine lv_iinc (v := zI (i + 1)) (lv' := [(5, vI (i + 1)), (3, vI ((pl + ((sp + (kikZ pl p1)) % 64)) % 64)), (4, vI ((sp + (kikZ pl p1)) % 64)), (0, vI p0), (1, vI p1), (2, vI p2)]) (pc := 41) hx hb dX6_moved_41 hl (k := 2) rfl (zI_add _ _) (by decide) rfl (fun ls hl => ?_)
        refine lv_goto (pc := 44) (tgt := 14) hx hb dX6_moved_44 (by decide) ?_
        have q := mvZ_parts p1 (itZ (mvZ p1) (Int.toNat i) p0)
        rw [← i2, ← i3] at q
        exact ih_14 ((pl + ((sp + (kikZ pl p1)) % 64)) % 64) ((sp + (kikZ pl p1)) % 64) (i + 1) (by omega) (by rw [itZ_toNat _ i1.1]; exact q.1.symm) (by rw [itZ_toNat _ i1.1]; exact q.2.1.symm) (by omega) (by omega) (by omega) _ (lv_sub hl [0, 2, 1, 3, 4, 5] rfl)
  have t1 : Int.tdiv p0 64 = p0 / 64 := Int.tdiv_eq_ediv_of_nonneg h0.1
  have t2 : Int.tmod p0 64 = p0 % 64 := Int.tmod_eq_emod_of_nonneg h0.1
  exact LP_14 (Int.toNat ((p2 - 0 + 1) + 1)) (Int.tdiv p0 64) (Int.tmod p0 64) 0 (by omega) (t1) (t2) (by omega) (by omega) (by omega) _ (lv_sub hl [0, 1, 2, 3, 4, 5] rfl)

set_option maxHeartbeats 4000000 in
set_option maxRecDepth 100000 in
theorem m_X6_undone (l : Launch) (D : va_G) (cI cJ cZ cD : ClassId) (sz : Nat) (p0 : Int) (p1 : Int) (p2 : Int) (h0 : 0 ≤ p0 ∧ p0 < 4096) (h1 : 0 ≤ p1 ∧ p1 ≤ 200) (h2 : 0 ≤ p2 ∧ p2 ≤ 10000) : Met l yX6_undone wsX6_undone ({ frames := 3, cells := 0, slots := 0, locals := 63 } : Room) (va_Pc [vI p0, vI p1, vI p2] (fun _ => True)) (zQr (some (vI (itZ (unZ p1) (Int.toNat p2) p0)))) 0 0 (fun _ => False) := by
  refine Met.ofW (cc := cX6_undone) (maxL := 6) (ret := (some .int)) (by decide) rfl ?_
  intro p e s m args below meth c s₁ B hml hv
  obtain ⟨rfl, -⟩ := hv
  have hx := B.exec
  have hb := B.bytes
  have hr := B.returns
  have hts := atoms_spec (ws := wsX6_undone) B.pre
  have hown : s.vm.findClass RX6 = some m.cls := findClass_of_methodNamed B.named
  have hlocks := B.notSynchronized
  have hl := lv_entry ([vI p0, vI p1, vI p2]) (n := 6) (Nat.le_of_ble_eq_true rfl)
  rw [lg_entry_eq]
  generalize (lg_sl ([vI p0, vI p1, vI p2]) ++ List.replicate (6 - (lg_sl ([vI p0, vI p1, vI p2])).length) Slot.unset).toArray = ls at hl ⊢
  have hl : lv_has ls 6 [(0, vI p0), (1, vI p1), (2, vI p2)] := hl
  refine lv_iload_n (pc := 0) hx hb dX6_undone_0 rfl (lv_at hl 0 rfl) ?_
  refine z_bipush (pc := 1) hx hb dX6_undone_1 (by decide) ?_
  refine z_idiv (pc := 3) hx hb dX6_undone_3 (by omega) (by decide) ?_
  refine lv_istore_n (lv' := [(3, vI (Int.tdiv p0 64)), (0, vI p0), (1, vI p1), (2, vI p2)]) (pc := 4) hx hb dX6_undone_4 rfl hl (by decide) rfl (fun ls hl => ?_)
  refine lv_iload_n (pc := 5) hx hb dX6_undone_5 rfl (lv_at hl 1 rfl) ?_
  refine z_bipush (pc := 6) hx hb dX6_undone_6 (by decide) ?_
  refine z_irem (pc := 8) hx hb dX6_undone_8 (by omega) (by decide) ?_
  refine lv_istore (lv' := [(4, vI (Int.tmod p0 64)), (3, vI (Int.tdiv p0 64)), (0, vI p0), (1, vI p1), (2, vI p2)]) (pc := 9) hx hb dX6_undone_9 hl (by decide) rfl (fun ls hl => ?_)
  refine z_iconst (pc := 11) hx hb dX6_undone_11 ?_
  refine lv_istore (lv' := [(5, vI 0), (4, vI (Int.tmod p0 64)), (3, vI (Int.tdiv p0 64)), (0, vI p0), (1, vI p1), (2, vI p2)]) (pc := 12) hx hb dX6_undone_12 hl (by decide) rfl (fun ls hl => ?_)
  have LP_14 : ∀ (nfu : Nat) (pl : Int) (sp : Int) (i : Int) (i1 : 0 ≤ i ∧ i ≤ p2) (i2 : pl = itZ (unZ p1) (Int.toNat i) p0 / 64) (i3 : sp = itZ (unZ p1) (Int.toNat i) p0 % 64) (i4 : 0 ≤ pl ∧ pl < 64) (i5 : 0 ≤ sp ∧ sp < 64) (hme : p2 - i + 1 < (nfu : Int)) (ls : Array Slot) (hl : lv_has ls 6 [(5, vI i), (4, vI sp), (3, vI pl), (0, vI p0), (1, vI p1), (2, vI p2)]), W p l e (headSpec wsX6_undone ({ frames := 3, cells := 0, slots := 0, locals := 63 } : Room)).room s m ([vI p0, vI p1, vI p2] : List Value).toArray below meth c s.heap [] 0 0 (MQ below (zQr (some (vI (itZ (unZ p1) (Int.toNat p2) p0)))) ([vI p0, vI p1, vI p2] : List Value).toArray s 0 0 (fun _ => False)) (F0 m 14 ls []) := by
    intro nfu
    induction nfu with
    | zero =>
      intro pl sp i i1 i2 i3 i4 i5 hme ls hl
      exact absurd hme (by omega)
    | succ nfu ih_14 =>
      intro pl sp i i1 i2 i3 i4 i5 hme ls hl
      refine lv_iload (pc := 14) hx hb dX6_undone_14 (lv_at hl 0 rfl) ?_
      refine lv_iload_n (pc := 16) hx hb dX6_undone_16 rfl (lv_at hl 5 rfl) ?_
      refine z_icmp_ge (pc := 17) (tgt := 47) hx hb dX6_undone_17 (by decide) (by omega) (by omega) (fun c_1 => ?_) (fun c_1 => ?_)
      · have hc_17t := c_1
        refine lv_iload_n (pc := 47) hx hb dX6_undone_47 rfl (lv_at hl 2 rfl) ?_
        refine lv_iload (pc := 48) hx hb dX6_undone_48 (lv_at hl 1 rfl) ?_
        refine z_callR (pc := 50) (va_runS (As := [vI pl, vI sp]) (rest := []) ⟨hx, hb, hml, hown, hts⟩ (m_X6_state l D cI cJ cZ cD 0  pl sp ) (va_cwS 2 hts gX6_undone_X6_state rfl rfl rfl (by decide +kernel) ⟨Nat.le_of_ble_eq_true rfl, Nat.le_of_ble_eq_true rfl⟩) ⟨fun a U g mk q => q, fun U hU hW => ⟨rfl, trivial⟩⟩ rfl rfl hl.1 rfl (lv_room (Nat.le_of_ble_eq_true rfl)) dX6_undone_50 ⟨Nat.zero_le _, Nat.zero_le _⟩) ?_
        have hv : (64 * pl + sp) = (itZ (unZ p1) (Int.toNat p2) p0) := by rw [i2, i3, show i = p2 by omega]; omega
        exact W.iret (pc := 53) (v := zI (64 * pl + sp)) hx hb hr (fun t ht hW => ⟨congrArg (fun z => Outcome.returned (some (vI z))) hv, ht⟩) (fun q h => absurd h List.not_mem_nil) dX6_undone_53
      · have hc_17f := c_1
        refine lv_iload_n (pc := 20) hx hb dX6_undone_20 rfl (lv_at hl 2 rfl) ?_
        refine lv_iload (pc := 21) hx hb dX6_undone_21 (lv_at hl 1 rfl) ?_
        refine z_isub (pc := 23) hx hb dX6_undone_23 ?_
        refine z_callR (pc := 24) (va_runS (As := [vI (pl - sp)]) (rest := []) ⟨hx, hb, hml, hown, hts⟩ (m_X6_wrap l D cI cJ cZ cD 0  (pl - sp) (by omega)) (va_cwS 1 hts gX6_undone_X6_wrap rfl rfl rfl (by decide +kernel) ⟨Nat.le_of_ble_eq_true rfl, Nat.le_of_ble_eq_true rfl⟩) ⟨fun a U g mk q => q, fun U hU hW => ⟨rfl, trivial⟩⟩ rfl rfl hl.1 rfl (lv_room (Nat.le_of_ble_eq_true rfl)) dX6_undone_24 ⟨Nat.zero_le _, Nat.zero_le _⟩) ?_
        refine lv_istore_n (lv' := [(3, vI ((pl - sp) % 64)), (5, vI i), (4, vI sp), (0, vI p0), (1, vI p1), (2, vI p2)]) (pc := 27) hx hb dX6_undone_27 rfl hl (by decide) rfl (fun ls hl => ?_)
        refine lv_iload (pc := 28) hx hb dX6_undone_28 (lv_at hl 2 rfl) ?_
        refine lv_iload_n (pc := 30) hx hb dX6_undone_30 rfl (lv_at hl 0 rfl) ?_
        refine lv_iload_n (pc := 31) hx hb dX6_undone_31 rfl (lv_at hl 4 rfl) ?_
        have g1 := (kikZ_rng (pl := (pl - sp) % 64) (by omega) h1).2
        refine z_callR (pc := 32) (va_runS (As := [vI ((pl - sp) % 64), vI p1]) (rest := [vI sp]) ⟨hx, hb, hml, hown, hts⟩ (m_X6_kick l D cI cJ cZ cD 0  ((pl - sp) % 64) p1 (by omega) (by omega)) (va_cwS 2 hts gX6_undone_X6_kick rfl rfl rfl (by decide +kernel) ⟨Nat.le_of_ble_eq_true rfl, Nat.le_of_ble_eq_true rfl⟩) ⟨fun a U g mk q => q, fun U hU hW => ⟨rfl, trivial⟩⟩ rfl rfl hl.1 rfl (lv_room (Nat.le_of_ble_eq_true rfl)) dX6_undone_32 ⟨Nat.zero_le _, Nat.zero_le _⟩) ?_
        refine z_isub (pc := 35) hx hb dX6_undone_35 ?_
        refine z_callR (pc := 36) (va_runS (As := [vI (sp - (kikZ ((pl - sp) % 64) p1))]) (rest := []) ⟨hx, hb, hml, hown, hts⟩ (m_X6_wrap l D cI cJ cZ cD 0  (sp - (kikZ ((pl - sp) % 64) p1)) (by omega)) (va_cwS 1 hts gX6_undone_X6_wrap rfl rfl rfl (by decide +kernel) ⟨Nat.le_of_ble_eq_true rfl, Nat.le_of_ble_eq_true rfl⟩) ⟨fun a U g mk q => q, fun U hU hW => ⟨rfl, trivial⟩⟩ rfl rfl hl.1 rfl (lv_room (Nat.le_of_ble_eq_true rfl)) dX6_undone_36 ⟨Nat.zero_le _, Nat.zero_le _⟩) ?_
        refine lv_istore (lv' := [(4, vI ((sp - (kikZ ((pl - sp) % 64) p1)) % 64)), (3, vI ((pl - sp) % 64)), (5, vI i), (0, vI p0), (1, vI p1), (2, vI p2)]) (pc := 39) hx hb dX6_undone_39 hl (by decide) rfl (fun ls hl => ?_)
        refine lv_iinc (v := zI (i + 1)) (lv' := [(5, vI (i + 1)), (4, vI ((sp - (kikZ ((pl - sp) % 64) p1)) % 64)), (3, vI ((pl - sp) % 64)), (0, vI p0), (1, vI p1), (2, vI p2)]) (pc := 41) hx hb dX6_undone_41 hl (k := 2) rfl (zI_add _ _) (by decide) rfl (fun ls hl => ?_)
        refine lv_goto (pc := 44) (tgt := 14) hx hb dX6_undone_44 (by decide) ?_
        have q := unZ_parts p1 (itZ (unZ p1) (Int.toNat i) p0)
        rw [← i2, ← i3] at q
        exact ih_14 ((pl - sp) % 64) ((sp - (kikZ ((pl - sp) % 64) p1)) % 64) (i + 1) (by omega) (by rw [itZ_toNat _ i1.1]; exact q.1.symm) (by rw [itZ_toNat _ i1.1]; exact q.2.1.symm) (by omega) (by omega) (by omega) _ (lv_sub hl [0, 1, 2, 3, 4, 5] rfl)
  have t1 : Int.tdiv p0 64 = p0 / 64 := Int.tdiv_eq_ediv_of_nonneg h0.1
  have t2 : Int.tmod p0 64 = p0 % 64 := Int.tmod_eq_emod_of_nonneg h0.1
  exact LP_14 (Int.toNat ((p2 - 0 + 1) + 1)) (Int.tdiv p0 64) (Int.tmod p0 64) 0 (by omega) (t1) (t2) (by omega) (by omega) (by omega) _ (lv_sub hl [0, 1, 2, 3, 4, 5] rfl)

set_option maxHeartbeats 4000000 in
set_option maxRecDepth 100000 in
theorem m_X6_shorterWay (l : Launch) (D : va_G) (cI cJ cZ cD : ClassId) (sz : Nat) (p0 : Int) (p1 : Int) (h0 : 0 ≤ p0 ∧ p0 < 64) (h1 : 0 ≤ p1 ∧ p1 < 64) : Met l yX6_shorterWay wsX6_shorterWay ({ frames := 2, cells := 0, slots := 0, locals := 42 } : Room) (va_Pc [vI p0, vI p1] (fun _ => True)) (zQr (some (vI (apZ p0 p1)))) 0 0 (fun _ => False) := by
  refine Met.ofW (cc := cX6_shorterWay) (maxL := 3) (ret := (some .int)) (by decide) rfl ?_
  intro p e s m args below meth c s₁ B hml hv
  obtain ⟨rfl, -⟩ := hv
  have hx := B.exec
  have hb := B.bytes
  have hr := B.returns
  have hts := atoms_spec (ws := wsX6_shorterWay) B.pre
  have hown : s.vm.findClass RX6 = some m.cls := findClass_of_methodNamed B.named
  have hlocks := B.notSynchronized
  have hl := lv_entry ([vI p0, vI p1]) (n := 3) (Nat.le_of_ble_eq_true rfl)
  rw [lg_entry_eq]
  generalize (lg_sl ([vI p0, vI p1]) ++ List.replicate (3 - (lg_sl ([vI p0, vI p1])).length) Slot.unset).toArray = ls at hl ⊢
  have hl : lv_has ls 3 [(0, vI p0), (1, vI p1)] := hl
  refine lv_iload_n (pc := 0) hx hb dX6_shorterWay_0 rfl (lv_at hl 1 rfl) ?_
  refine lv_iload_n (pc := 1) hx hb dX6_shorterWay_1 rfl (lv_at hl 0 rfl) ?_
  refine z_isub (pc := 2) hx hb dX6_shorterWay_2 ?_
  refine z_callR (pc := 3) (va_runS (As := [vI (p1 - p0)]) (rest := []) ⟨hx, hb, hml, hown, hts⟩ (m_X6_wrap l D cI cJ cZ cD 0  (p1 - p0) (by omega)) (va_cwS 1 hts gX6_shorterWay_X6_wrap rfl rfl rfl (by decide +kernel) ⟨Nat.le_of_ble_eq_true rfl, Nat.le_of_ble_eq_true rfl⟩) ⟨fun a U g mk q => q, fun U hU hW => ⟨rfl, trivial⟩⟩ rfl rfl hl.1 rfl (lv_room (Nat.le_of_ble_eq_true rfl)) dX6_shorterWay_3 ⟨Nat.zero_le _, Nat.zero_le _⟩) ?_
  refine lv_istore_n (lv' := [(2, vI ((p1 - p0) % 64)), (0, vI p0), (1, vI p1)]) (pc := 6) hx hb dX6_shorterWay_6 rfl hl (by decide) rfl (fun ls hl => ?_)
  refine lv_iload_n (pc := 7) hx hb dX6_shorterWay_7 rfl (lv_at hl 0 rfl) ?_
  refine z_bipush (pc := 8) hx hb dX6_shorterWay_8 (by decide) ?_
  refine lv_iload_n (pc := 10) hx hb dX6_shorterWay_10 rfl (lv_at hl 0 rfl) ?_
  refine z_isub (pc := 11) hx hb dX6_shorterWay_11 ?_
  refine va_mmin (pc := 12) hx hb (hml.trans hl.1.symm) hown (hts (.methodLink RX6 57 Lib.Math.min.name) (by decide +kernel)) (hts (.static Lib.Math.min.name) (by decide +kernel)) (hts (.initialized "java/lang/Math") (by decide +kernel)) (hts (.code Lib.Math.min.name Lib.Math.min.code 2 (some .int)) (by decide +kernel)) (Nat.le_of_ble_eq_true rfl) (Nat.le_of_ble_eq_true rfl) (Nat.le_of_ble_eq_true rfl) (Nat.le_of_ble_eq_true rfl) dX6_shorterWay_12 ?_
  rw [z_min (by omega) (by omega)]
  have hv : (if (64 - ((p1 - p0) % 64)) < ((p1 - p0) % 64) then (64 - ((p1 - p0) % 64)) else ((p1 - p0) % 64)) = (apZ p0 p1) := by unfold apZ; split <;> split <;> omega
  exact W.iret (pc := 15) (v := zI (if (64 - ((p1 - p0) % 64)) < ((p1 - p0) % 64) then (64 - ((p1 - p0) % 64)) else ((p1 - p0) % 64))) hx hb hr (fun t ht hW => ⟨congrArg (fun z => Outcome.returned (some (vI z))) hv, ht⟩) (fun q h => absurd h List.not_mem_nil) dX6_shorterWay_15

set_option maxHeartbeats 4000000 in
set_option maxRecDepth 100000 in
theorem m_X6_apart (l : Launch) (D : va_G) (cI cJ cZ cD : ClassId) (sz : Nat) (p0 : Int) (p1 : Int) (h0 : 0 ≤ p0 ∧ p0 < 4096) (h1 : 0 ≤ p1 ∧ p1 < 4096) : Met l yX6_apart wsX6_apart ({ frames := 3, cells := 0, slots := 0, locals := 64 } : Room) (va_Pc [vI p0, vI p1] (fun _ => True)) (zQr (some (vI (apZ (p0 / 64) (p1 / 64) + apZ (p0 % 64) (p1 % 64))))) 0 0 (fun _ => False) := by
  refine Met.ofW (cc := cX6_apart) (maxL := 2) (ret := (some .int)) (by decide) rfl ?_
  intro p e s m args below meth c s₁ B hml hv
  obtain ⟨rfl, -⟩ := hv
  have hx := B.exec
  have hb := B.bytes
  have hr := B.returns
  have hts := atoms_spec (ws := wsX6_apart) B.pre
  have hown : s.vm.findClass RX6 = some m.cls := findClass_of_methodNamed B.named
  have hlocks := B.notSynchronized
  have hl := lv_entry ([vI p0, vI p1]) (n := 2) (Nat.le_of_ble_eq_true rfl)
  rw [lg_entry_eq]
  generalize (lg_sl ([vI p0, vI p1]) ++ List.replicate (2 - (lg_sl ([vI p0, vI p1])).length) Slot.unset).toArray = ls at hl ⊢
  have hl : lv_has ls 2 [(0, vI p0), (1, vI p1)] := hl
  have t1 : Int.tdiv p0 64 = p0 / 64 := Int.tdiv_eq_ediv_of_nonneg h0.1
  have t2 : Int.tmod p0 64 = p0 % 64 := Int.tmod_eq_emod_of_nonneg h0.1
  have t3 : Int.tdiv p1 64 = p1 / 64 := Int.tdiv_eq_ediv_of_nonneg h1.1
  have t4 : Int.tmod p1 64 = p1 % 64 := Int.tmod_eq_emod_of_nonneg h1.1
  refine lv_iload_n (pc := 0) hx hb dX6_apart_0 rfl (lv_at hl 0 rfl) ?_
  refine z_bipush (pc := 1) hx hb dX6_apart_1 (by decide) ?_
  refine z_idiv (pc := 3) hx hb dX6_apart_3 (by omega) (by decide) ?_
  refine lv_iload_n (pc := 4) hx hb dX6_apart_4 rfl (lv_at hl 1 rfl) ?_
  refine z_bipush (pc := 5) hx hb dX6_apart_5 (by decide) ?_
  refine z_idiv (pc := 7) hx hb dX6_apart_7 (by omega) (by decide) ?_
  refine z_callR (pc := 8) (va_runS (As := [vI (Int.tdiv p0 64), vI (Int.tdiv p1 64)]) (rest := []) ⟨hx, hb, hml, hown, hts⟩ (m_X6_shorterWay l D cI cJ cZ cD 0  (Int.tdiv p0 64) (Int.tdiv p1 64) (by omega) (by omega)) (va_cwS 2 hts gX6_apart_X6_shorterWay rfl rfl rfl (by decide +kernel) ⟨Nat.le_of_ble_eq_true rfl, Nat.le_of_ble_eq_true rfl⟩) ⟨fun a U g mk q => q, fun U hU hW => ⟨rfl, trivial⟩⟩ rfl rfl hl.1 rfl (lv_room (Nat.le_of_ble_eq_true rfl)) dX6_apart_8 ⟨Nat.zero_le _, Nat.zero_le _⟩) ?_
  refine lv_iload_n (pc := 11) hx hb dX6_apart_11 rfl (lv_at hl 0 rfl) ?_
  refine z_bipush (pc := 12) hx hb dX6_apart_12 (by decide) ?_
  refine z_irem (pc := 14) hx hb dX6_apart_14 (by omega) (by decide) ?_
  refine lv_iload_n (pc := 15) hx hb dX6_apart_15 rfl (lv_at hl 1 rfl) ?_
  refine z_bipush (pc := 16) hx hb dX6_apart_16 (by decide) ?_
  refine z_irem (pc := 18) hx hb dX6_apart_18 (by omega) (by decide) ?_
  refine z_callR (pc := 19) (va_runS (As := [vI (Int.tmod p0 64), vI (Int.tmod p1 64)]) (rest := [vI (apZ (Int.tdiv p0 64) (Int.tdiv p1 64))]) ⟨hx, hb, hml, hown, hts⟩ (m_X6_shorterWay l D cI cJ cZ cD 0  (Int.tmod p0 64) (Int.tmod p1 64) (by omega) (by omega)) (va_cwS 2 hts gX6_apart_X6_shorterWay rfl rfl rfl (by decide +kernel) ⟨Nat.le_of_ble_eq_true rfl, Nat.le_of_ble_eq_true rfl⟩) ⟨fun a U g mk q => q, fun U hU hW => ⟨rfl, trivial⟩⟩ rfl rfl hl.1 rfl (lv_room (Nat.le_of_ble_eq_true rfl)) dX6_apart_19 ⟨Nat.zero_le _, Nat.zero_le _⟩) ?_
  refine z_iadd (pc := 22) hx hb dX6_apart_22 ?_
  have hv : ((apZ (Int.tdiv p0 64) (Int.tdiv p1 64)) + (apZ (Int.tmod p0 64) (Int.tmod p1 64))) = (apZ (p0 / 64) (p1 / 64) + apZ (p0 % 64) (p1 % 64)) := by rw [t1, t2, t3, t4]
  exact W.iret (pc := 23) (v := zI ((apZ (Int.tdiv p0 64) (Int.tdiv p1 64)) + (apZ (Int.tmod p0 64) (Int.tmod p1 64)))) hx hb hr (fun t ht hW => ⟨congrArg (fun z => Outcome.returned (some (vI z))) hv, ht⟩) (fun q h => absurd h List.not_mem_nil) dX6_apart_23

set_option maxHeartbeats 4000000 in
set_option maxRecDepth 100000 in
theorem m_J7_fill_53178 (l : Launch) (D : va_G) (cI cJ cZ cD : ClassId) (sz : Nat) (f0 : Int → Int) (nn : Nat) (p0 : Nat) (p1 : Int) (hn : nn < 100000) : Met l yJ7_fill_53178 wsJ7_fill_53178 ({ frames := 0, cells := 0, slots := 0, locals := 0 } : Room) (zPc D (TY cI cJ cZ cD) sz [.ref p0, vI p1] [(p0, .inl (cI, nn, .inl (aI f0)))]) (va_Qv (fun (u : Unit) => match u with | _ => True) (zB D (va_A [(p0, .inl (cI, nn, .inl (aI f0)))] sz) (fun (u : Unit) => match u with | _ => [(p0, .inl (cI, nn, .inl (aI (flZ f0 p1 nn))))])) (va_A [(p0, .inl (cI, nn, .inl (aI f0)))] sz)) 0 0 (va_A [(p0, .inl (cI, nn, .inl (aI f0)))] sz) := by
  refine va_MetF (cc := cJ7_fill_53178) (maxL := 4) (ret := none) (by decide +kernel) rfl ?_
  intro p e s m args below meth c s₁ B hml hv
  obtain ⟨rfl, hsz, hP, hK, hD0, hN⟩ := hv
  have hx := B.exec
  have hb := B.bytes
  have hr := B.returns
  have hts := atoms_spec (ws := wsJ7_fill_53178) B.pre
  have hown : s.vm.findClass RJ7 = some m.cls := findClass_of_methodNamed B.named
  have hlocks := B.notSynchronized
  subst hsz
  have hD := hD0.self (sz := s.heap.size)
  generalize hAe : va_A [(p0, .inl (cI, nn, .inl (aI f0)))] s.heap.size = A at hD ⊢
  have hA : ∀ q : Nat, s.heap.size ≤ q → A q := fun q h => by rw [← hAe]; exact Or.inr h
  have hS : va_S A s.heap s.heap [] := va_S.rf
  have hP : va_P D vwCl [(p0, .inl (cI, nn, .inl (aI f0)))] s.heap := hP
  have hl := lv_entry ([.ref p0, vI p1]) (n := 4) (Nat.le_of_ble_eq_true rfl)
  rw [lg_entry_eq]
  generalize (lg_sl ([.ref p0, vI p1]) ++ List.replicate (4 - (lg_sl ([.ref p0, vI p1])).length) Slot.unset).toArray = ls at hl ⊢
  have hl : lv_has ls 4 [(0, .ref p0), (1, vI p1)] := hl
  refine z_iconst (pc := 0) hx hb dJ7_fill_53178_0 ?_
  refine lv_istore_n (lv' := [(2, vI 0), (0, .ref p0), (1, vI p1)]) (pc := 1) hx hb dJ7_fill_53178_1 rfl hl (by decide) rfl (fun ls hl => ?_)
  refine lv_aload_n (pc := 2) hx hb dJ7_fill_53178_2 rfl (lv_at hl 1 rfl) ?_
  refine z_alen (pc := 3) hx hb hK hP 0 0 rfl rfl dJ7_fill_53178_3 ?_
  refine z_topI (z := nn) rfl ?_
  refine lv_istore_n (lv' := [(3, vI nn), (2, vI 0), (0, .ref p0), (1, vI p1)]) (pc := 4) hx hb dJ7_fill_53178_4 rfl hl (by decide) rfl (fun ls hl => ?_)
  have LP_5 : ∀ (nfu : Nat) (i : Int) (f : Int → Int) (i1 : 0 ≤ i ∧ i ≤ nn) (i2 : f = flZ f0 p1 i) (hme : (nn : Int) - i + 1 < (nfu : Int)) (H : Heap) (locs : List Loc) (hP : va_P D vwCl [(p0, .inl (cI, nn, .inl (aI f)))] H) (hD : va_D A [(p0, .inl (cI, nn, .inl (aI f)))]) (hS : va_S A s.heap H locs) (ls : Array Slot) (hl : lv_has ls 4 [(3, vI nn), (2, vI i), (0, .ref p0), (1, vI p1)]), W p l e (headSpec wsJ7_fill_53178 ({ frames := 0, cells := 0, slots := 0, locals := 0 } : Room)).room s m ([.ref p0, vI p1] : List Value).toArray below meth c H locs 0 0 (MQ below (va_Qv (fun (u : Unit) => match u with | _ => True) (zB D A (fun (u : Unit) => match u with | _ => [(p0, .inl (cI, nn, .inl (aI (flZ f0 p1 nn))))])) A) ([.ref p0, vI p1] : List Value).toArray s 0 0 A) (F0 m 5 ls []) := by
    intro nfu
    induction nfu with
    | zero =>
      intro i f i1 i2 hme H locs hP hD hS ls hl
      exact absurd hme (by omega)
    | succ nfu ih_5 =>
      intro i f i1 i2 hme H locs hP hD hS ls hl
      refine lv_iload_n (pc := 5) hx hb dJ7_fill_53178_5 rfl (lv_at hl 1 rfl) ?_
      refine lv_iload_n (pc := 6) hx hb dJ7_fill_53178_6 rfl (lv_at hl 0 rfl) ?_
      refine z_icmp_ge (pc := 7) (tgt := 20) hx hb dJ7_fill_53178_7 (by decide) (by omega) (by omega) (fun c_1 => ?_) (fun c_1 => ?_)
      · have hc_7t := c_1
        have he_0 : (f) = (flZ f0 p1 nn) := by rw [i2, show i = nn by omega]
        rw [he_0] at hP hD
        have hP9 := hP.sub (ws' := [(p0, .inl (cI, nn, .inl (aI (flZ f0 p1 nn))))]) [0] rfl
        have hD9 := hD.sub (ws' := [(p0, .inl (cI, nn, .inl (aI (flZ f0 p1 nn))))]) [0] (by decide) rfl
        exact W.vret (pc := 20) hx hb hr (fun t ht hW => ⟨⟨(), rfl, trivial, by rw [ht]; exact hP9, hD9⟩, hS.F ht⟩) hS.2.2 dJ7_fill_53178_20
      · have hc_7f := c_1
        refine lv_aload_n (pc := 10) hx hb dJ7_fill_53178_10 rfl (lv_at hl 2 rfl) ?_
        refine lv_iload_n (pc := 11) hx hb dJ7_fill_53178_11 rfl (lv_at hl 1 rfl) ?_
        refine lv_iload_n (pc := 12) hx hb dJ7_fill_53178_12 rfl (lv_at hl 3 rfl) ?_
        refine z_iast (pc := 13) hx hb hK hP hD hS 0 0 (by omega) rfl rfl (by first | decide | omega) dJ7_fill_53178_13 (fun H locs hP hD hS => ?_)
        have hP : va_P D vwCl [(p0, .inl (cI, nn, .inl (aI (uZ f i p1))))] H := hP
        have hD : va_D A [(p0, .inl (cI, nn, .inl (aI (uZ f i p1))))] := hD
        refine lv_iinc (v := zI (i + 1)) (lv' := [(2, vI (i + 1)), (3, vI nn), (0, .ref p0), (1, vI p1)]) (pc := 14) hx hb dJ7_fill_53178_14 hl (k := 1) rfl (zI_add _ _) (by decide) rfl (fun ls hl => ?_)
        refine lv_goto (pc := 17) (tgt := 5) hx hb dJ7_fill_53178_17 (by decide) ?_
        exact ih_5 (i + 1) (uZ f i p1) (by omega) (by rw [i2]; exact flZ_s _ _ i1.1) (by omega) _ _ (hP.sub [0] rfl) (hD.sub [0] (by decide) rfl) hS _ (lv_sub hl [1, 0, 2, 3] rfl)
  exact LP_5 (Int.toNat (((nn : Int) - 0 + 1) + 1)) 0 f0 (by omega) ((flZ_0 _ _).symm) (by omega) _ _ (hP.sub [0] rfl) (hD.sub [0] (by decide) rfl) hS _ (lv_sub hl [0, 1, 2, 3] rfl)

set_option maxHeartbeats 4000000 in
set_option maxRecDepth 100000 in
theorem m_X2_number (l : Launch) (D : va_G) (cI cJ cZ cD : ClassId) (sz : Nat) (oA : Nat) (o_places : Nat) (o_speeds : Nat) (o_nextPlaces : Nat) (o_nextSpeeds : Nat) (o_bobCount : Int) (o_weight : Int) (o_spring : Int) (o_nowAir : Int) (o_nowPush : Int) : Met l yX2_number wsX2_number ({ frames := 0, cells := 0, slots := 0, locals := 0 } : Room) (zPc D (TY cI cJ cZ cD) sz [.ref oA] [(oA, .inr (1, [.ref o_places, .ref o_speeds, .ref o_nextPlaces, .ref o_nextSpeeds, vI o_bobCount, vI o_weight, vI o_spring, vI o_nowAir, vI o_nowPush]))]) (zQr (some (vI o_bobCount))) 0 0 (fun _ => False) := by
  refine Met.ofW (cc := cX2_number) (maxL := 1) (ret := (some .int)) (by decide) rfl ?_
  intro p e s m args below meth c s₁ B hml hv
  obtain ⟨rfl, hsz, hP, hK, hD0, hN⟩ := hv
  have hx := B.exec
  have hb := B.bytes
  have hr := B.returns
  have hts := atoms_spec (ws := wsX2_number) B.pre
  have hown : s.vm.findClass RX2 = some m.cls := findClass_of_methodNamed B.named
  have hlocks := B.notSynchronized
  have hD := hD0
  subst hsz
  have hP : va_P D vwCl [(oA, .inr (1, [.ref o_places, .ref o_speeds, .ref o_nextPlaces, .ref o_nextSpeeds, vI o_bobCount, vI o_weight, vI o_spring, vI o_nowAir, vI o_nowPush]))] s.heap := hP
  have fl_24 := hts (.fieldLink RX2 24 "PendulumHall$Bobs" "bobCount" "I") (by decide +kernel)
  have in_X2 : ∀ w ∈ wsX20, w ∈ wsX2_number := by decide +kernel
  have hl := lv_entry ([.ref oA]) (n := 1) (Nat.le_of_ble_eq_true rfl)
  rw [lg_entry_eq]
  generalize (lg_sl ([.ref oA]) ++ List.replicate (1 - (lg_sl ([.ref oA])).length) Slot.unset).toArray = ls at hl ⊢
  have hl : lv_has ls 1 [(0, .ref oA)] := hl
  refine lv_aload_n (pc := 0) hx hb dX2_number_0 rfl (lv_at hl 0 rfl) ?_
  refine va_get (pc := 1) (D := D) (ci := 1) (v := vI o_bobCount) (C := RX2) (T := TX2) (N := 9) hx hb hts in_X2 hown hK hP 0 rfl rfl 4 (by decide) fl_24 (fun _ h9 => h9) rfl dX2_number_1 ?_
  have hv : (o_bobCount) = (o_bobCount) := rfl
  exact W.iret (pc := 4) (v := zI o_bobCount) hx hb hr (fun t ht hW => ⟨congrArg (fun z => Outcome.returned (some (vI z))) hv, ht⟩) (fun q h => absurd h List.not_mem_nil) dX2_number_4

set_option maxHeartbeats 4000000 in
set_option maxRecDepth 100000 in
theorem m_X2_has (l : Launch) (D : va_G) (cI cJ cZ cD : ClassId) (sz : Nat) (oA : Nat) (o_places : Nat) (o_speeds : Nat) (o_nextPlaces : Nat) (o_nextSpeeds : Nat) (o_bobCount : Int) (o_weight : Int) (o_spring : Int) (o_nowAir : Int) (o_nowPush : Int) (p0 : Int) (h0 : -2147483648 ≤ p0 ∧ p0 < 2147483648) (hn : 1 ≤ o_bobCount ∧ o_bobCount ≤ 8) : Met l yX2_has wsX2_has ({ frames := 0, cells := 0, slots := 0, locals := 0 } : Room) (zPc D (TY cI cJ cZ cD) sz [.ref oA, vI p0] [(oA, .inr (1, [.ref o_places, .ref o_speeds, .ref o_nextPlaces, .ref o_nextSpeeds, vI o_bobCount, vI o_weight, vI o_spring, vI o_nowAir, vI o_nowPush]))]) (zQr (some (vI (pI (0 ≤ p0 ∧ p0 < o_bobCount))))) 0 0 (fun _ => False) := by
  refine Met.ofW (cc := cX2_has) (maxL := 2) (ret := (some .boolean)) (by decide) rfl ?_
  intro p e s m args below meth c s₁ B hml hv
  obtain ⟨rfl, hsz, hP, hK, hD0, hN⟩ := hv
  have hx := B.exec
  have hb := B.bytes
  have hr := B.returns
  have hts := atoms_spec (ws := wsX2_has) B.pre
  have hown : s.vm.findClass RX2 = some m.cls := findClass_of_methodNamed B.named
  have hlocks := B.notSynchronized
  have hD := hD0
  subst hsz
  have hP : va_P D vwCl [(oA, .inr (1, [.ref o_places, .ref o_speeds, .ref o_nextPlaces, .ref o_nextSpeeds, vI o_bobCount, vI o_weight, vI o_spring, vI o_nowAir, vI o_nowPush]))] s.heap := hP
  have fl_24 := hts (.fieldLink RX2 24 "PendulumHall$Bobs" "bobCount" "I") (by decide +kernel)
  have in_X2 : ∀ w ∈ wsX20, w ∈ wsX2_has := by decide +kernel
  have hl := lv_entry ([.ref oA, vI p0]) (n := 2) (Nat.le_of_ble_eq_true rfl)
  rw [lg_entry_eq]
  generalize (lg_sl ([.ref oA, vI p0]) ++ List.replicate (2 - (lg_sl ([.ref oA, vI p0])).length) Slot.unset).toArray = ls at hl ⊢
  have hl : lv_has ls 2 [(0, .ref oA), (1, vI p0)] := hl
  refine lv_iload_n (pc := 0) hx hb dX2_has_0 rfl (lv_at hl 1 rfl) ?_
  refine z_if_lt (pc := 1) (tgt := 16) hx hb dX2_has_1 (by decide) (by omega) (fun c_1 => ?_) (fun c_1 => ?_)
  · have hc_1t := c_1
    refine z_iconst (pc := 16) hx hb dX2_has_16 ?_
    have hv : (0) = (pI (0 ≤ p0 ∧ p0 < o_bobCount)) := by first | rfl | exact (pI_t (by omega)).symm | exact (pI_f (by omega)).symm | omega
    exact W.zret (pc := 17) (v := zI 0) hx hb hr (z_narB (by first | exact z_pI01 _ | omega | decide)) (fun t ht hW => ⟨congrArg (fun z => Outcome.returned (some (vI z))) hv, ht⟩) (fun q h => absurd h List.not_mem_nil) dX2_has_17
  · have hc_1f := c_1
    refine lv_iload_n (pc := 4) hx hb dX2_has_4 rfl (lv_at hl 1 rfl) ?_
    refine lv_aload_n (pc := 5) hx hb dX2_has_5 rfl (lv_at hl 0 rfl) ?_
    refine va_get (pc := 6) (D := D) (ci := 1) (v := vI o_bobCount) (C := RX2) (T := TX2) (N := 9) hx hb hts in_X2 hown hK hP 0 rfl rfl 4 (by decide) fl_24 (fun _ h9 => h9) rfl dX2_has_6 ?_
    refine z_icmp_ge (pc := 9) (tgt := 16) hx hb dX2_has_9 (by decide) (by omega) (by omega) (fun c_2 => ?_) (fun c_2 => ?_)
    · have hc_9t := c_2
      refine z_iconst (pc := 16) hx hb dX2_has_16 ?_
      have hv : (0) = (pI (0 ≤ p0 ∧ p0 < o_bobCount)) := by first | rfl | exact (pI_t (by omega)).symm | exact (pI_f (by omega)).symm | omega
      exact W.zret (pc := 17) (v := zI 0) hx hb hr (z_narB (by first | exact z_pI01 _ | omega | decide)) (fun t ht hW => ⟨congrArg (fun z => Outcome.returned (some (vI z))) hv, ht⟩) (fun q h => absurd h List.not_mem_nil) dX2_has_17
    · have hc_9f := c_2
      refine z_iconst (pc := 12) hx hb dX2_has_12 ?_
      refine lv_goto (pc := 13) (tgt := 17) hx hb dX2_has_13 (by decide) ?_
      have hv : (1) = (pI (0 ≤ p0 ∧ p0 < o_bobCount)) := by first | rfl | exact (pI_t (by omega)).symm | exact (pI_f (by omega)).symm | omega
      exact W.zret (pc := 17) (v := zI 1) hx hb hr (z_narB (by first | exact z_pI01 _ | omega | decide)) (fun t ht hW => ⟨congrArg (fun z => Outcome.returned (some (vI z))) hv, ht⟩) (fun q h => absurd h List.not_mem_nil) dX2_has_17

set_option maxHeartbeats 4000000 in
set_option maxRecDepth 100000 in
theorem m_X2_hang (l : Launch) (D : va_G) (cI cJ cZ cD : ClassId) (sz : Nat) (oA : Nat) (o_places : Nat) (o_speeds : Nat) (o_nextPlaces : Nat) (o_nextSpeeds : Nat) (o_bobCount : Int) (o_weight : Int) (o_spring : Int) (o_nowAir : Int) (o_nowPush : Int) (o_places_c : Int → Int) (o_speeds_c : Int → Int) (p0 : Int) (p1 : Int) (p2 : Int) : Met l yX2_hang wsX2_hang ({ frames := 1, cells := 0, slots := 0, locals := 23 } : Room) (zPc D (TY cI cJ cZ cD) sz [.ref oA, vI p0, vI p1, vI p2] [(oA, .inr (1, [.ref o_places, .ref o_speeds, .ref o_nextPlaces, .ref o_nextSpeeds, vI o_bobCount, vI o_weight, vI o_spring, vI o_nowAir, vI o_nowPush])), (o_places, .inl (cI, 8, .inl (aI o_places_c))), (o_speeds, .inl (cI, 8, .inl (aI o_speeds_c)))]) (va_Qi (fun (r : Int32) (u : Unit) => match u with | _ => r = zI o_bobCount ∧ (True)) (zB D (va_A [(oA, .inr (1, [.ref o_places, .ref o_speeds, .ref o_nextPlaces, .ref o_nextSpeeds, vI o_bobCount, vI o_weight, vI o_spring, vI o_nowAir, vI o_nowPush])), (o_places, .inl (cI, 8, .inl (aI o_places_c))), (o_speeds, .inl (cI, 8, .inl (aI o_speeds_c)))] sz) (fun (u : Unit) => match u with | _ => [(oA, .inr (1, [.ref o_places, .ref o_speeds, .ref o_nextPlaces, .ref o_nextSpeeds, vI p0, vI p1, vI p2, vI o_nowAir, vI o_nowPush])), (o_places, .inl (cI, 8, .inl (aI (flZ o_places_c 0 8)))), (o_speeds, .inl (cI, 8, .inl (aI (flZ o_speeds_c 0 8))))])) (va_A [(oA, .inr (1, [.ref o_places, .ref o_speeds, .ref o_nextPlaces, .ref o_nextSpeeds, vI o_bobCount, vI o_weight, vI o_spring, vI o_nowAir, vI o_nowPush])), (o_places, .inl (cI, 8, .inl (aI o_places_c))), (o_speeds, .inl (cI, 8, .inl (aI o_speeds_c)))] sz)) 0 0 (va_A [(oA, .inr (1, [.ref o_places, .ref o_speeds, .ref o_nextPlaces, .ref o_nextSpeeds, vI o_bobCount, vI o_weight, vI o_spring, vI o_nowAir, vI o_nowPush])), (o_places, .inl (cI, 8, .inl (aI o_places_c))), (o_speeds, .inl (cI, 8, .inl (aI o_speeds_c)))] sz) := by
  refine Met.ofW (cc := cX2_hang) (maxL := 5) (ret := (some .int)) (by decide) rfl ?_
  intro p e s m args below meth c s₁ B hml hv
  obtain ⟨rfl, hsz, hP, hK, hD0, hN⟩ := hv
  have hx := B.exec
  have hb := B.bytes
  have hr := B.returns
  have hts := atoms_spec (ws := wsX2_hang) B.pre
  have hown : s.vm.findClass RX2 = some m.cls := findClass_of_methodNamed B.named
  have hlocks := B.notSynchronized
  subst hsz
  have hD := hD0.self (sz := s.heap.size)
  generalize hAe : va_A [(oA, .inr (1, [.ref o_places, .ref o_speeds, .ref o_nextPlaces, .ref o_nextSpeeds, vI o_bobCount, vI o_weight, vI o_spring, vI o_nowAir, vI o_nowPush])), (o_places, .inl (cI, 8, .inl (aI o_places_c))), (o_speeds, .inl (cI, 8, .inl (aI o_speeds_c)))] s.heap.size = A at hD ⊢
  have hA : ∀ q : Nat, s.heap.size ≤ q → A q := fun q h => by rw [← hAe]; exact Or.inr h
  have hS : va_S A s.heap s.heap [] := va_S.rf
  have hP : va_P D vwCl [(oA, .inr (1, [.ref o_places, .ref o_speeds, .ref o_nextPlaces, .ref o_nextSpeeds, vI o_bobCount, vI o_weight, vI o_spring, vI o_nowAir, vI o_nowPush])), (o_places, .inl (cI, 8, .inl (aI o_places_c))), (o_speeds, .inl (cI, 8, .inl (aI o_speeds_c)))] s.heap := hP
  have fl_11 := hts (.fieldLink RX2 11 "PendulumHall$Bobs" "places" "[I") (by decide +kernel)
  have fl_15 := hts (.fieldLink RX2 15 "PendulumHall$Bobs" "speeds" "[I") (by decide +kernel)
  have fl_24 := hts (.fieldLink RX2 24 "PendulumHall$Bobs" "bobCount" "I") (by decide +kernel)
  have fl_28 := hts (.fieldLink RX2 28 "PendulumHall$Bobs" "weight" "I") (by decide +kernel)
  have fl_31 := hts (.fieldLink RX2 31 "PendulumHall$Bobs" "spring" "I") (by decide +kernel)
  have in_X2 : ∀ w ∈ wsX20, w ∈ wsX2_hang := by decide +kernel
  have hl := lv_entry ([.ref oA, vI p0, vI p1, vI p2]) (n := 5) (Nat.le_of_ble_eq_true rfl)
  rw [lg_entry_eq]
  generalize (lg_sl ([.ref oA, vI p0, vI p1, vI p2]) ++ List.replicate (5 - (lg_sl ([.ref oA, vI p0, vI p1, vI p2])).length) Slot.unset).toArray = ls at hl ⊢
  have hl : lv_has ls 5 [(0, .ref oA), (1, vI p0), (2, vI p1), (3, vI p2)] := hl
  refine lv_aload_n (pc := 0) hx hb dX2_hang_0 rfl (lv_at hl 0 rfl) ?_
  refine va_get (pc := 1) (D := D) (ci := 1) (v := vI o_bobCount) (C := RX2) (T := TX2) (N := 9) hx hb hts in_X2 hown hK hP 0 rfl rfl 4 (by decide) fl_24 (fun _ h9 => h9) rfl dX2_hang_1 ?_
  refine lv_istore (lv' := [(4, vI o_bobCount), (0, .ref oA), (1, vI p0), (2, vI p1), (3, vI p2)]) (pc := 4) hx hb dX2_hang_4 hl (by decide) rfl (fun ls hl => ?_)
  refine lv_aload_n (pc := 6) hx hb dX2_hang_6 rfl (lv_at hl 1 rfl) ?_
  refine lv_iload_n (pc := 7) hx hb dX2_hang_7 rfl (lv_at hl 2 rfl) ?_
  refine va_put (pc := 8) (D := D) (ci := 1) (v := vI p0) (ty := .int) (C := RX2) (T := TX2) (N := 9) hx hb hts in_X2 tyX2 tyX2_ok nmX2 hown hK hP hD hS 0 rfl rfl 4 (by decide) fl_24 (fun _ h9 => h9) rfl (by decide +kernel) rfl rfl (Nat.le_of_ble_eq_true rfl) dX2_hang_8 (fun H locs hP hD hS => ?_)
  have hP : va_P D vwCl [(oA, .inr (1, [.ref o_places, .ref o_speeds, .ref o_nextPlaces, .ref o_nextSpeeds, vI p0, vI o_weight, vI o_spring, vI o_nowAir, vI o_nowPush])), (o_places, .inl (cI, 8, .inl (aI o_places_c))), (o_speeds, .inl (cI, 8, .inl (aI o_speeds_c)))] H := hP
  have hD : va_D A [(oA, .inr (1, [.ref o_places, .ref o_speeds, .ref o_nextPlaces, .ref o_nextSpeeds, vI p0, vI o_weight, vI o_spring, vI o_nowAir, vI o_nowPush])), (o_places, .inl (cI, 8, .inl (aI o_places_c))), (o_speeds, .inl (cI, 8, .inl (aI o_speeds_c)))] := hD
  refine lv_aload_n (pc := 11) hx hb dX2_hang_11 rfl (lv_at hl 1 rfl) ?_
  refine lv_iload_n (pc := 12) hx hb dX2_hang_12 rfl (lv_at hl 3 rfl) ?_
  refine va_put (pc := 13) (D := D) (ci := 1) (v := vI p1) (ty := .int) (C := RX2) (T := TX2) (N := 9) hx hb hts in_X2 tyX2 tyX2_ok nmX2 hown hK hP hD hS 0 rfl rfl 5 (by decide) fl_28 (fun _ h9 => h9) rfl (by decide +kernel) rfl rfl (Nat.le_of_ble_eq_true rfl) dX2_hang_13 (fun H locs hP hD hS => ?_)
  have hP : va_P D vwCl [(oA, .inr (1, [.ref o_places, .ref o_speeds, .ref o_nextPlaces, .ref o_nextSpeeds, vI p0, vI p1, vI o_spring, vI o_nowAir, vI o_nowPush])), (o_places, .inl (cI, 8, .inl (aI o_places_c))), (o_speeds, .inl (cI, 8, .inl (aI o_speeds_c)))] H := hP
  have hD : va_D A [(oA, .inr (1, [.ref o_places, .ref o_speeds, .ref o_nextPlaces, .ref o_nextSpeeds, vI p0, vI p1, vI o_spring, vI o_nowAir, vI o_nowPush])), (o_places, .inl (cI, 8, .inl (aI o_places_c))), (o_speeds, .inl (cI, 8, .inl (aI o_speeds_c)))] := hD
  refine lv_aload_n (pc := 16) hx hb dX2_hang_16 rfl (lv_at hl 1 rfl) ?_
  refine lv_iload_n (pc := 17) hx hb dX2_hang_17 rfl (lv_at hl 4 rfl) ?_
  refine va_put (pc := 18) (D := D) (ci := 1) (v := vI p2) (ty := .int) (C := RX2) (T := TX2) (N := 9) hx hb hts in_X2 tyX2 tyX2_ok nmX2 hown hK hP hD hS 0 rfl rfl 6 (by decide) fl_31 (fun _ h9 => h9) rfl (by decide +kernel) rfl rfl (Nat.le_of_ble_eq_true rfl) dX2_hang_18 (fun H locs hP hD hS => ?_)
  have hP : va_P D vwCl [(oA, .inr (1, [.ref o_places, .ref o_speeds, .ref o_nextPlaces, .ref o_nextSpeeds, vI p0, vI p1, vI p2, vI o_nowAir, vI o_nowPush])), (o_places, .inl (cI, 8, .inl (aI o_places_c))), (o_speeds, .inl (cI, 8, .inl (aI o_speeds_c)))] H := hP
  have hD : va_D A [(oA, .inr (1, [.ref o_places, .ref o_speeds, .ref o_nextPlaces, .ref o_nextSpeeds, vI p0, vI p1, vI p2, vI o_nowAir, vI o_nowPush])), (o_places, .inl (cI, 8, .inl (aI o_places_c))), (o_speeds, .inl (cI, 8, .inl (aI o_speeds_c)))] := hD
  refine lv_aload_n (pc := 21) hx hb dX2_hang_21 rfl (lv_at hl 1 rfl) ?_
  refine va_get (pc := 22) (D := D) (ci := 1) (v := .ref o_places) (C := RX2) (T := TX2) (N := 9) hx hb hts in_X2 hown hK hP 0 rfl rfl 0 (by decide) fl_11 (fun _ h9 => h9) rfl dX2_hang_22 ?_
  refine z_iconst (pc := 25) hx hb dX2_hang_25 ?_
  have hPc := hP.sub (ws' := [(o_places, .inl (cI, 8, .inl (aI o_places_c)))]) [1] rfl
  have hDc := hD.sub (ws' := [(o_places, .inl (cI, 8, .inl (aI o_places_c)))]) [1] (by decide) rfl
  refine z_callWv (pc := 26) (wc := [(o_places, .inl (cI, 8, .inl (aI o_places_c)))]) hP hD hS hA [1] [0, 2] [(oA, .inr (1, [.ref o_places, .ref o_speeds, .ref o_nextPlaces, .ref o_nextSpeeds, vI p0, vI p1, vI p2, vI o_nowAir, vI o_nowPush])), (o_speeds, .inl (cI, 8, .inl (aI o_speeds_c)))] rfl rfl (by decide) (by decide) (va_runS (As := [.ref o_places, vI 0]) (rest := []) ⟨hx, hb, hml, hown, hts⟩ (m_J7_fill_53178 l D cI cJ cZ cD H.size o_places_c 8 o_places 0 (by decide)) (va_cwS 2 hts gX2_hang_J7_fill_53178 rfl rfl rfl (by decide +kernel) ⟨Nat.le_of_ble_eq_true rfl, Nat.le_of_ble_eq_true rfl⟩) ⟨z_blind, z_pre hPc hK hDc rfl rfl hN⟩ rfl rfl hl.1 rfl (lv_room (Nat.le_of_ble_eq_true rfl)) dX2_hang_26 ⟨Nat.zero_le _, Nat.zero_le _⟩) (fun u H locs hw hP hD hS => ?_)
  have hw_1 := hw
  have hP : va_P D vwCl [(oA, .inr (1, [.ref o_places, .ref o_speeds, .ref o_nextPlaces, .ref o_nextSpeeds, vI p0, vI p1, vI p2, vI o_nowAir, vI o_nowPush])), (o_speeds, .inl (cI, 8, .inl (aI o_speeds_c))), (o_places, .inl (cI, 8, .inl (aI (flZ o_places_c 0 8))))] H := hP
  have hD : va_D A [(oA, .inr (1, [.ref o_places, .ref o_speeds, .ref o_nextPlaces, .ref o_nextSpeeds, vI p0, vI p1, vI p2, vI o_nowAir, vI o_nowPush])), (o_speeds, .inl (cI, 8, .inl (aI o_speeds_c))), (o_places, .inl (cI, 8, .inl (aI (flZ o_places_c 0 8))))] := hD
  refine lv_aload_n (pc := 29) hx hb dX2_hang_29 rfl (lv_at hl 1 rfl) ?_
  refine va_get (pc := 30) (D := D) (ci := 1) (v := .ref o_speeds) (C := RX2) (T := TX2) (N := 9) hx hb hts in_X2 hown hK hP 0 rfl rfl 1 (by decide) fl_15 (fun _ h9 => h9) rfl dX2_hang_30 ?_
  refine z_iconst (pc := 33) hx hb dX2_hang_33 ?_
  have hPc := hP.sub (ws' := [(o_speeds, .inl (cI, 8, .inl (aI o_speeds_c)))]) [1] rfl
  have hDc := hD.sub (ws' := [(o_speeds, .inl (cI, 8, .inl (aI o_speeds_c)))]) [1] (by decide) rfl
  refine z_callWv (pc := 34) (wc := [(o_speeds, .inl (cI, 8, .inl (aI o_speeds_c)))]) hP hD hS hA [1] [0, 2] [(oA, .inr (1, [.ref o_places, .ref o_speeds, .ref o_nextPlaces, .ref o_nextSpeeds, vI p0, vI p1, vI p2, vI o_nowAir, vI o_nowPush])), (o_places, .inl (cI, 8, .inl (aI (flZ o_places_c 0 8))))] rfl rfl (by decide) (by decide) (va_runS (As := [.ref o_speeds, vI 0]) (rest := []) ⟨hx, hb, hml, hown, hts⟩ (m_J7_fill_53178 l D cI cJ cZ cD H.size o_speeds_c 8 o_speeds 0 (by decide)) (va_cwS 2 hts gX2_hang_J7_fill_53178 rfl rfl rfl (by decide +kernel) ⟨Nat.le_of_ble_eq_true rfl, Nat.le_of_ble_eq_true rfl⟩) ⟨z_blind, z_pre hPc hK hDc rfl rfl hN⟩ rfl rfl hl.1 rfl (lv_room (Nat.le_of_ble_eq_true rfl)) dX2_hang_34 ⟨Nat.zero_le _, Nat.zero_le _⟩) (fun u H locs hw hP hD hS => ?_)
  have hw_2 := hw
  have hP : va_P D vwCl [(oA, .inr (1, [.ref o_places, .ref o_speeds, .ref o_nextPlaces, .ref o_nextSpeeds, vI p0, vI p1, vI p2, vI o_nowAir, vI o_nowPush])), (o_places, .inl (cI, 8, .inl (aI (flZ o_places_c 0 8)))), (o_speeds, .inl (cI, 8, .inl (aI (flZ o_speeds_c 0 8))))] H := hP
  have hD : va_D A [(oA, .inr (1, [.ref o_places, .ref o_speeds, .ref o_nextPlaces, .ref o_nextSpeeds, vI p0, vI p1, vI p2, vI o_nowAir, vI o_nowPush])), (o_places, .inl (cI, 8, .inl (aI (flZ o_places_c 0 8)))), (o_speeds, .inl (cI, 8, .inl (aI (flZ o_speeds_c 0 8))))] := hD
  refine lv_iload (pc := 37) hx hb dX2_hang_37 (lv_at hl 0 rfl) ?_
  have hP9 := hP.sub (ws' := [(oA, .inr (1, [.ref o_places, .ref o_speeds, .ref o_nextPlaces, .ref o_nextSpeeds, vI p0, vI p1, vI p2, vI o_nowAir, vI o_nowPush])), (o_places, .inl (cI, 8, .inl (aI (flZ o_places_c 0 8)))), (o_speeds, .inl (cI, 8, .inl (aI (flZ o_speeds_c 0 8))))]) [0, 1, 2] rfl
  have hD9 := hD.sub (ws' := [(oA, .inr (1, [.ref o_places, .ref o_speeds, .ref o_nextPlaces, .ref o_nextSpeeds, vI p0, vI p1, vI p2, vI o_nowAir, vI o_nowPush])), (o_places, .inl (cI, 8, .inl (aI (flZ o_places_c 0 8)))), (o_speeds, .inl (cI, 8, .inl (aI (flZ o_speeds_c 0 8))))]) [0, 1, 2] (by decide) rfl
  have hv : (o_bobCount) = (o_bobCount) := by rfl
  exact W.iret (pc := 39) (v := zI o_bobCount) hx hb hr (fun t ht hW => ⟨⟨zI o_bobCount, (), rfl, ⟨congrArg zI hv, trivial⟩, by rw [ht]; exact hP9, hD9⟩, hS.F ht⟩) hS.2.2 dX2_hang_39

set_option maxHeartbeats 4000000 in
set_option maxRecDepth 100000 in
theorem m_X2_put (l : Launch) (D : va_G) (cI cJ cZ cD : ClassId) (sz : Nat) (oA : Nat) (o_places : Nat) (o_speeds : Nat) (o_nextPlaces : Nat) (o_nextSpeeds : Nat) (o_bobCount : Int) (o_weight : Int) (o_spring : Int) (o_nowAir : Int) (o_nowPush : Int) (o_places_c : Int → Int) (o_speeds_c : Int → Int) (p0 : Int) (p1 : Int) (p2 : Int) (hi : 0 ≤ p0 ∧ p0 < 8) : Met l yX2_put wsX2_put ({ frames := 0, cells := 0, slots := 0, locals := 0 } : Room) (zPc D (TY cI cJ cZ cD) sz [.ref oA, vI p0, vI p1, vI p2] [(oA, .inr (1, [.ref o_places, .ref o_speeds, .ref o_nextPlaces, .ref o_nextSpeeds, vI o_bobCount, vI o_weight, vI o_spring, vI o_nowAir, vI o_nowPush])), (o_places, .inl (cI, 8, .inl (aI o_places_c))), (o_speeds, .inl (cI, 8, .inl (aI o_speeds_c)))]) (va_Qv (fun (u : Unit) => match u with | _ => True) (zB D (va_A [(oA, .inr (1, [.ref o_places, .ref o_speeds, .ref o_nextPlaces, .ref o_nextSpeeds, vI o_bobCount, vI o_weight, vI o_spring, vI o_nowAir, vI o_nowPush])), (o_places, .inl (cI, 8, .inl (aI o_places_c))), (o_speeds, .inl (cI, 8, .inl (aI o_speeds_c)))] sz) (fun (u : Unit) => match u with | _ => [(oA, .inr (1, [.ref o_places, .ref o_speeds, .ref o_nextPlaces, .ref o_nextSpeeds, vI o_bobCount, vI o_weight, vI o_spring, vI o_nowAir, vI o_nowPush])), (o_places, .inl (cI, 8, .inl (aI (uZ o_places_c p0 p1)))), (o_speeds, .inl (cI, 8, .inl (aI (uZ o_speeds_c p0 p2))))])) (va_A [(oA, .inr (1, [.ref o_places, .ref o_speeds, .ref o_nextPlaces, .ref o_nextSpeeds, vI o_bobCount, vI o_weight, vI o_spring, vI o_nowAir, vI o_nowPush])), (o_places, .inl (cI, 8, .inl (aI o_places_c))), (o_speeds, .inl (cI, 8, .inl (aI o_speeds_c)))] sz)) 0 0 (va_A [(oA, .inr (1, [.ref o_places, .ref o_speeds, .ref o_nextPlaces, .ref o_nextSpeeds, vI o_bobCount, vI o_weight, vI o_spring, vI o_nowAir, vI o_nowPush])), (o_places, .inl (cI, 8, .inl (aI o_places_c))), (o_speeds, .inl (cI, 8, .inl (aI o_speeds_c)))] sz) := by
  refine Met.ofW (cc := cX2_put) (maxL := 4) (ret := none) (by decide) rfl ?_
  intro p e s m args below meth c s₁ B hml hv
  obtain ⟨rfl, hsz, hP, hK, hD0, hN⟩ := hv
  have hx := B.exec
  have hb := B.bytes
  have hr := B.returns
  have hts := atoms_spec (ws := wsX2_put) B.pre
  have hown : s.vm.findClass RX2 = some m.cls := findClass_of_methodNamed B.named
  have hlocks := B.notSynchronized
  subst hsz
  have hD := hD0.self (sz := s.heap.size)
  generalize hAe : va_A [(oA, .inr (1, [.ref o_places, .ref o_speeds, .ref o_nextPlaces, .ref o_nextSpeeds, vI o_bobCount, vI o_weight, vI o_spring, vI o_nowAir, vI o_nowPush])), (o_places, .inl (cI, 8, .inl (aI o_places_c))), (o_speeds, .inl (cI, 8, .inl (aI o_speeds_c)))] s.heap.size = A at hD ⊢
  have hA : ∀ q : Nat, s.heap.size ≤ q → A q := fun q h => by rw [← hAe]; exact Or.inr h
  have hS : va_S A s.heap s.heap [] := va_S.rf
  have hP : va_P D vwCl [(oA, .inr (1, [.ref o_places, .ref o_speeds, .ref o_nextPlaces, .ref o_nextSpeeds, vI o_bobCount, vI o_weight, vI o_spring, vI o_nowAir, vI o_nowPush])), (o_places, .inl (cI, 8, .inl (aI o_places_c))), (o_speeds, .inl (cI, 8, .inl (aI o_speeds_c)))] s.heap := hP
  have fl_11 := hts (.fieldLink RX2 11 "PendulumHall$Bobs" "places" "[I") (by decide +kernel)
  have fl_15 := hts (.fieldLink RX2 15 "PendulumHall$Bobs" "speeds" "[I") (by decide +kernel)
  have in_X2 : ∀ w ∈ wsX20, w ∈ wsX2_put := by decide +kernel
  have hl := lv_entry ([.ref oA, vI p0, vI p1, vI p2]) (n := 4) (Nat.le_of_ble_eq_true rfl)
  rw [lg_entry_eq]
  generalize (lg_sl ([.ref oA, vI p0, vI p1, vI p2]) ++ List.replicate (4 - (lg_sl ([.ref oA, vI p0, vI p1, vI p2])).length) Slot.unset).toArray = ls at hl ⊢
  have hl : lv_has ls 4 [(0, .ref oA), (1, vI p0), (2, vI p1), (3, vI p2)] := hl
  refine lv_aload_n (pc := 0) hx hb dX2_put_0 rfl (lv_at hl 0 rfl) ?_
  refine va_get (pc := 1) (D := D) (ci := 1) (v := .ref o_places) (C := RX2) (T := TX2) (N := 9) hx hb hts in_X2 hown hK hP 0 rfl rfl 0 (by decide) fl_11 (fun _ h9 => h9) rfl dX2_put_1 ?_
  refine lv_iload_n (pc := 4) hx hb dX2_put_4 rfl (lv_at hl 1 rfl) ?_
  refine lv_iload_n (pc := 5) hx hb dX2_put_5 rfl (lv_at hl 2 rfl) ?_
  refine z_iast (pc := 6) hx hb hK hP hD hS 1 0 (by omega) rfl rfl (by first | decide | omega) dX2_put_6 (fun H locs hP hD hS => ?_)
  have hP : va_P D vwCl [(oA, .inr (1, [.ref o_places, .ref o_speeds, .ref o_nextPlaces, .ref o_nextSpeeds, vI o_bobCount, vI o_weight, vI o_spring, vI o_nowAir, vI o_nowPush])), (o_places, .inl (cI, 8, .inl (aI (uZ o_places_c p0 p1)))), (o_speeds, .inl (cI, 8, .inl (aI o_speeds_c)))] H := hP
  have hD : va_D A [(oA, .inr (1, [.ref o_places, .ref o_speeds, .ref o_nextPlaces, .ref o_nextSpeeds, vI o_bobCount, vI o_weight, vI o_spring, vI o_nowAir, vI o_nowPush])), (o_places, .inl (cI, 8, .inl (aI (uZ o_places_c p0 p1)))), (o_speeds, .inl (cI, 8, .inl (aI o_speeds_c)))] := hD
  refine lv_aload_n (pc := 7) hx hb dX2_put_7 rfl (lv_at hl 0 rfl) ?_
  refine va_get (pc := 8) (D := D) (ci := 1) (v := .ref o_speeds) (C := RX2) (T := TX2) (N := 9) hx hb hts in_X2 hown hK hP 0 rfl rfl 1 (by decide) fl_15 (fun _ h9 => h9) rfl dX2_put_8 ?_
  refine lv_iload_n (pc := 11) hx hb dX2_put_11 rfl (lv_at hl 1 rfl) ?_
  refine lv_iload_n (pc := 12) hx hb dX2_put_12 rfl (lv_at hl 3 rfl) ?_
  refine z_iast (pc := 13) hx hb hK hP hD hS 2 0 (by omega) rfl rfl (by first | decide | omega) dX2_put_13 (fun H locs hP hD hS => ?_)
  have hP : va_P D vwCl [(oA, .inr (1, [.ref o_places, .ref o_speeds, .ref o_nextPlaces, .ref o_nextSpeeds, vI o_bobCount, vI o_weight, vI o_spring, vI o_nowAir, vI o_nowPush])), (o_places, .inl (cI, 8, .inl (aI (uZ o_places_c p0 p1)))), (o_speeds, .inl (cI, 8, .inl (aI (uZ o_speeds_c p0 p2))))] H := hP
  have hD : va_D A [(oA, .inr (1, [.ref o_places, .ref o_speeds, .ref o_nextPlaces, .ref o_nextSpeeds, vI o_bobCount, vI o_weight, vI o_spring, vI o_nowAir, vI o_nowPush])), (o_places, .inl (cI, 8, .inl (aI (uZ o_places_c p0 p1)))), (o_speeds, .inl (cI, 8, .inl (aI (uZ o_speeds_c p0 p2))))] := hD
  have hP9 := hP.sub (ws' := [(oA, .inr (1, [.ref o_places, .ref o_speeds, .ref o_nextPlaces, .ref o_nextSpeeds, vI o_bobCount, vI o_weight, vI o_spring, vI o_nowAir, vI o_nowPush])), (o_places, .inl (cI, 8, .inl (aI (uZ o_places_c p0 p1)))), (o_speeds, .inl (cI, 8, .inl (aI (uZ o_speeds_c p0 p2))))]) [0, 1, 2] rfl
  have hD9 := hD.sub (ws' := [(oA, .inr (1, [.ref o_places, .ref o_speeds, .ref o_nextPlaces, .ref o_nextSpeeds, vI o_bobCount, vI o_weight, vI o_spring, vI o_nowAir, vI o_nowPush])), (o_places, .inl (cI, 8, .inl (aI (uZ o_places_c p0 p1)))), (o_speeds, .inl (cI, 8, .inl (aI (uZ o_speeds_c p0 p2))))]) [0, 1, 2] (by decide) rfl
  exact W.vret (pc := 14) hx hb hr (fun t ht hW => ⟨⟨(), rfl, trivial, by rw [ht]; exact hP9, hD9⟩, hS.F ht⟩) hS.2.2 dX2_put_14

set_option maxHeartbeats 4000000 in
set_option maxRecDepth 100000 in
theorem m_X2_setDrive (l : Launch) (D : va_G) (cI cJ cZ cD : ClassId) (sz : Nat) (oA : Nat) (o_places : Nat) (o_speeds : Nat) (o_nextPlaces : Nat) (o_nextSpeeds : Nat) (o_bobCount : Int) (o_weight : Int) (o_spring : Int) (o_nowAir : Int) (o_nowPush : Int) (p0 : Int) (p1 : Int) : Met l yX2_setDrive wsX2_setDrive ({ frames := 0, cells := 0, slots := 0, locals := 0 } : Room) (zPc D (TY cI cJ cZ cD) sz [.ref oA, vI p0, vI p1] [(oA, .inr (1, [.ref o_places, .ref o_speeds, .ref o_nextPlaces, .ref o_nextSpeeds, vI o_bobCount, vI o_weight, vI o_spring, vI o_nowAir, vI o_nowPush]))]) (va_Qv (fun (u : Unit) => match u with | _ => True) (zB D (va_A [(oA, .inr (1, [.ref o_places, .ref o_speeds, .ref o_nextPlaces, .ref o_nextSpeeds, vI o_bobCount, vI o_weight, vI o_spring, vI o_nowAir, vI o_nowPush]))] sz) (fun (u : Unit) => match u with | _ => [(oA, .inr (1, [.ref o_places, .ref o_speeds, .ref o_nextPlaces, .ref o_nextSpeeds, vI o_bobCount, vI o_weight, vI o_spring, vI p0, vI p1]))])) (va_A [(oA, .inr (1, [.ref o_places, .ref o_speeds, .ref o_nextPlaces, .ref o_nextSpeeds, vI o_bobCount, vI o_weight, vI o_spring, vI o_nowAir, vI o_nowPush]))] sz)) 0 0 (va_A [(oA, .inr (1, [.ref o_places, .ref o_speeds, .ref o_nextPlaces, .ref o_nextSpeeds, vI o_bobCount, vI o_weight, vI o_spring, vI o_nowAir, vI o_nowPush]))] sz) := by
  refine Met.ofW (cc := cX2_setDrive) (maxL := 3) (ret := none) (by decide) rfl ?_
  intro p e s m args below meth c s₁ B hml hv
  obtain ⟨rfl, hsz, hP, hK, hD0, hN⟩ := hv
  have hx := B.exec
  have hb := B.bytes
  have hr := B.returns
  have hts := atoms_spec (ws := wsX2_setDrive) B.pre
  have hown : s.vm.findClass RX2 = some m.cls := findClass_of_methodNamed B.named
  have hlocks := B.notSynchronized
  subst hsz
  have hD := hD0.self (sz := s.heap.size)
  generalize hAe : va_A [(oA, .inr (1, [.ref o_places, .ref o_speeds, .ref o_nextPlaces, .ref o_nextSpeeds, vI o_bobCount, vI o_weight, vI o_spring, vI o_nowAir, vI o_nowPush]))] s.heap.size = A at hD ⊢
  have hA : ∀ q : Nat, s.heap.size ≤ q → A q := fun q h => by rw [← hAe]; exact Or.inr h
  have hS : va_S A s.heap s.heap [] := va_S.rf
  have hP : va_P D vwCl [(oA, .inr (1, [.ref o_places, .ref o_speeds, .ref o_nextPlaces, .ref o_nextSpeeds, vI o_bobCount, vI o_weight, vI o_spring, vI o_nowAir, vI o_nowPush]))] s.heap := hP
  have fl_40 := hts (.fieldLink RX2 40 "PendulumHall$Bobs" "nowAir" "I") (by decide +kernel)
  have fl_43 := hts (.fieldLink RX2 43 "PendulumHall$Bobs" "nowPush" "I") (by decide +kernel)
  have in_X2 : ∀ w ∈ wsX20, w ∈ wsX2_setDrive := by decide +kernel
  have hl := lv_entry ([.ref oA, vI p0, vI p1]) (n := 3) (Nat.le_of_ble_eq_true rfl)
  rw [lg_entry_eq]
  generalize (lg_sl ([.ref oA, vI p0, vI p1]) ++ List.replicate (3 - (lg_sl ([.ref oA, vI p0, vI p1])).length) Slot.unset).toArray = ls at hl ⊢
  have hl : lv_has ls 3 [(0, .ref oA), (1, vI p0), (2, vI p1)] := hl
  refine lv_aload_n (pc := 0) hx hb dX2_setDrive_0 rfl (lv_at hl 0 rfl) ?_
  refine lv_iload_n (pc := 1) hx hb dX2_setDrive_1 rfl (lv_at hl 1 rfl) ?_
  refine va_put (pc := 2) (D := D) (ci := 1) (v := vI p0) (ty := .int) (C := RX2) (T := TX2) (N := 9) hx hb hts in_X2 tyX2 tyX2_ok nmX2 hown hK hP hD hS 0 rfl rfl 7 (by decide) fl_40 (fun _ h9 => h9) rfl (by decide +kernel) rfl rfl (Nat.le_of_ble_eq_true rfl) dX2_setDrive_2 (fun H locs hP hD hS => ?_)
  have hP : va_P D vwCl [(oA, .inr (1, [.ref o_places, .ref o_speeds, .ref o_nextPlaces, .ref o_nextSpeeds, vI o_bobCount, vI o_weight, vI o_spring, vI p0, vI o_nowPush]))] H := hP
  have hD : va_D A [(oA, .inr (1, [.ref o_places, .ref o_speeds, .ref o_nextPlaces, .ref o_nextSpeeds, vI o_bobCount, vI o_weight, vI o_spring, vI p0, vI o_nowPush]))] := hD
  refine lv_aload_n (pc := 5) hx hb dX2_setDrive_5 rfl (lv_at hl 0 rfl) ?_
  refine lv_iload_n (pc := 6) hx hb dX2_setDrive_6 rfl (lv_at hl 2 rfl) ?_
  refine va_put (pc := 7) (D := D) (ci := 1) (v := vI p1) (ty := .int) (C := RX2) (T := TX2) (N := 9) hx hb hts in_X2 tyX2 tyX2_ok nmX2 hown hK hP hD hS 0 rfl rfl 8 (by decide) fl_43 (fun _ h9 => h9) rfl (by decide +kernel) rfl rfl (Nat.le_of_ble_eq_true rfl) dX2_setDrive_7 (fun H locs hP hD hS => ?_)
  have hP : va_P D vwCl [(oA, .inr (1, [.ref o_places, .ref o_speeds, .ref o_nextPlaces, .ref o_nextSpeeds, vI o_bobCount, vI o_weight, vI o_spring, vI p0, vI p1]))] H := hP
  have hD : va_D A [(oA, .inr (1, [.ref o_places, .ref o_speeds, .ref o_nextPlaces, .ref o_nextSpeeds, vI o_bobCount, vI o_weight, vI o_spring, vI p0, vI p1]))] := hD
  have hP9 := hP.sub (ws' := [(oA, .inr (1, [.ref o_places, .ref o_speeds, .ref o_nextPlaces, .ref o_nextSpeeds, vI o_bobCount, vI o_weight, vI o_spring, vI p0, vI p1]))]) [0] rfl
  have hD9 := hD.sub (ws' := [(oA, .inr (1, [.ref o_places, .ref o_speeds, .ref o_nextPlaces, .ref o_nextSpeeds, vI o_bobCount, vI o_weight, vI o_spring, vI p0, vI p1]))]) [0] (by decide) rfl
  exact W.vret (pc := 10) hx hb hr (fun t ht hW => ⟨⟨(), rfl, trivial, by rw [ht]; exact hP9, hD9⟩, hS.F ht⟩) hS.2.2 dX2_setDrive_10

set_option maxHeartbeats 4000000 in
set_option maxRecDepth 100000 in
theorem m_X2_isDriven (l : Launch) (D : va_G) (cI cJ cZ cD : ClassId) (sz : Nat) (oA : Nat) (o_places : Nat) (o_speeds : Nat) (o_nextPlaces : Nat) (o_nextSpeeds : Nat) (o_bobCount : Int) (o_weight : Int) (o_spring : Int) (o_nowAir : Int) (o_nowPush : Int) (h0 : -2147483648 ≤ o_nowAir ∧ o_nowAir < 2147483648) (h1 : -2147483648 ≤ o_nowPush ∧ o_nowPush < 2147483648) : Met l yX2_isDriven wsX2_isDriven ({ frames := 0, cells := 0, slots := 0, locals := 0 } : Room) (zPc D (TY cI cJ cZ cD) sz [.ref oA] [(oA, .inr (1, [.ref o_places, .ref o_speeds, .ref o_nextPlaces, .ref o_nextSpeeds, vI o_bobCount, vI o_weight, vI o_spring, vI o_nowAir, vI o_nowPush]))]) (zQr (some (vI (pI (o_nowAir ≠ 0 ∨ o_nowPush ≠ 0))))) 0 0 (fun _ => False) := by
  refine Met.ofW (cc := cX2_isDriven) (maxL := 1) (ret := (some .boolean)) (by decide) rfl ?_
  intro p e s m args below meth c s₁ B hml hv
  obtain ⟨rfl, hsz, hP, hK, hD0, hN⟩ := hv
  have hx := B.exec
  have hb := B.bytes
  have hr := B.returns
  have hts := atoms_spec (ws := wsX2_isDriven) B.pre
  have hown : s.vm.findClass RX2 = some m.cls := findClass_of_methodNamed B.named
  have hlocks := B.notSynchronized
  have hD := hD0
  subst hsz
  have hP : va_P D vwCl [(oA, .inr (1, [.ref o_places, .ref o_speeds, .ref o_nextPlaces, .ref o_nextSpeeds, vI o_bobCount, vI o_weight, vI o_spring, vI o_nowAir, vI o_nowPush]))] s.heap := hP
  have fl_40 := hts (.fieldLink RX2 40 "PendulumHall$Bobs" "nowAir" "I") (by decide +kernel)
  have fl_43 := hts (.fieldLink RX2 43 "PendulumHall$Bobs" "nowPush" "I") (by decide +kernel)
  have in_X2 : ∀ w ∈ wsX20, w ∈ wsX2_isDriven := by decide +kernel
  have hl := lv_entry ([.ref oA]) (n := 1) (Nat.le_of_ble_eq_true rfl)
  rw [lg_entry_eq]
  generalize (lg_sl ([.ref oA]) ++ List.replicate (1 - (lg_sl ([.ref oA])).length) Slot.unset).toArray = ls at hl ⊢
  have hl : lv_has ls 1 [(0, .ref oA)] := hl
  refine lv_aload_n (pc := 0) hx hb dX2_isDriven_0 rfl (lv_at hl 0 rfl) ?_
  refine va_get (pc := 1) (D := D) (ci := 1) (v := vI o_nowAir) (C := RX2) (T := TX2) (N := 9) hx hb hts in_X2 hown hK hP 0 rfl rfl 7 (by decide) fl_40 (fun _ h9 => h9) rfl dX2_isDriven_1 ?_
  refine z_if_ne (pc := 4) (tgt := 14) hx hb dX2_isDriven_4 (by decide) (by omega) (fun c_1 => ?_) (fun c_1 => ?_)
  · have hc_4t := c_1
    refine z_iconst (pc := 14) hx hb dX2_isDriven_14 ?_
    refine lv_goto (pc := 15) (tgt := 19) hx hb dX2_isDriven_15 (by decide) ?_
    have hv : (1) = (pI (o_nowAir ≠ 0 ∨ o_nowPush ≠ 0)) := by first | rfl | exact (pI_t (by omega)).symm | exact (pI_f (by omega)).symm | omega
    exact W.zret (pc := 19) (v := zI 1) hx hb hr (z_narB (by first | exact z_pI01 _ | omega | decide)) (fun t ht hW => ⟨congrArg (fun z => Outcome.returned (some (vI z))) hv, ht⟩) (fun q h => absurd h List.not_mem_nil) dX2_isDriven_19
  · have hc_4f := c_1
    refine lv_aload_n (pc := 7) hx hb dX2_isDriven_7 rfl (lv_at hl 0 rfl) ?_
    refine va_get (pc := 8) (D := D) (ci := 1) (v := vI o_nowPush) (C := RX2) (T := TX2) (N := 9) hx hb hts in_X2 hown hK hP 0 rfl rfl 8 (by decide) fl_43 (fun _ h9 => h9) rfl dX2_isDriven_8 ?_
    refine z_if_eq (pc := 11) (tgt := 18) hx hb dX2_isDriven_11 (by decide) (by omega) (fun c_2 => ?_) (fun c_2 => ?_)
    · have hc_11t := c_2
      refine z_iconst (pc := 18) hx hb dX2_isDriven_18 ?_
      have hv : (0) = (pI (o_nowAir ≠ 0 ∨ o_nowPush ≠ 0)) := by first | rfl | exact (pI_t (by omega)).symm | exact (pI_f (by omega)).symm | omega
      exact W.zret (pc := 19) (v := zI 0) hx hb hr (z_narB (by first | exact z_pI01 _ | omega | decide)) (fun t ht hW => ⟨congrArg (fun z => Outcome.returned (some (vI z))) hv, ht⟩) (fun q h => absurd h List.not_mem_nil) dX2_isDriven_19
    · have hc_11f := c_2
      refine z_iconst (pc := 14) hx hb dX2_isDriven_14 ?_
      refine lv_goto (pc := 15) (tgt := 19) hx hb dX2_isDriven_15 (by decide) ?_
      have hv : (1) = (pI (o_nowAir ≠ 0 ∨ o_nowPush ≠ 0)) := by first | rfl | exact (pI_t (by omega)).symm | exact (pI_f (by omega)).symm | omega
      exact W.zret (pc := 19) (v := zI 1) hx hb hr (z_narB (by first | exact z_pI01 _ | omega | decide)) (fun t ht hW => ⟨congrArg (fun z => Outcome.returned (some (vI z))) hv, ht⟩) (fun q h => absurd h List.not_mem_nil) dX2_isDriven_19

set_option maxHeartbeats 4000000 in
set_option maxRecDepth 100000 in
theorem m_X2_placeOf (l : Launch) (D : va_G) (cI cJ cZ cD : ClassId) (sz : Nat) (oA : Nat) (o_places : Nat) (o_speeds : Nat) (o_nextPlaces : Nat) (o_nextSpeeds : Nat) (o_bobCount : Int) (o_weight : Int) (o_spring : Int) (o_nowAir : Int) (o_nowPush : Int) (o_places_c : Int → Int) (p0 : Int) (hi : 0 ≤ p0 ∧ p0 < 8) : Met l yX2_placeOf wsX2_placeOf ({ frames := 0, cells := 0, slots := 0, locals := 0 } : Room) (zPc D (TY cI cJ cZ cD) sz [.ref oA, vI p0] [(oA, .inr (1, [.ref o_places, .ref o_speeds, .ref o_nextPlaces, .ref o_nextSpeeds, vI o_bobCount, vI o_weight, vI o_spring, vI o_nowAir, vI o_nowPush])), (o_places, .inl (cI, 8, .inl (aI o_places_c)))]) (zQr (some (vI (o_places_c p0)))) 0 0 (fun _ => False) := by
  refine Met.ofW (cc := cX2_placeOf) (maxL := 2) (ret := (some .int)) (by decide) rfl ?_
  intro p e s m args below meth c s₁ B hml hv
  obtain ⟨rfl, hsz, hP, hK, hD0, hN⟩ := hv
  have hx := B.exec
  have hb := B.bytes
  have hr := B.returns
  have hts := atoms_spec (ws := wsX2_placeOf) B.pre
  have hown : s.vm.findClass RX2 = some m.cls := findClass_of_methodNamed B.named
  have hlocks := B.notSynchronized
  have hD := hD0
  subst hsz
  have hP : va_P D vwCl [(oA, .inr (1, [.ref o_places, .ref o_speeds, .ref o_nextPlaces, .ref o_nextSpeeds, vI o_bobCount, vI o_weight, vI o_spring, vI o_nowAir, vI o_nowPush])), (o_places, .inl (cI, 8, .inl (aI o_places_c)))] s.heap := hP
  have fl_11 := hts (.fieldLink RX2 11 "PendulumHall$Bobs" "places" "[I") (by decide +kernel)
  have in_X2 : ∀ w ∈ wsX20, w ∈ wsX2_placeOf := by decide +kernel
  have hl := lv_entry ([.ref oA, vI p0]) (n := 2) (Nat.le_of_ble_eq_true rfl)
  rw [lg_entry_eq]
  generalize (lg_sl ([.ref oA, vI p0]) ++ List.replicate (2 - (lg_sl ([.ref oA, vI p0])).length) Slot.unset).toArray = ls at hl ⊢
  have hl : lv_has ls 2 [(0, .ref oA), (1, vI p0)] := hl
  refine lv_aload_n (pc := 0) hx hb dX2_placeOf_0 rfl (lv_at hl 0 rfl) ?_
  refine va_get (pc := 1) (D := D) (ci := 1) (v := .ref o_places) (C := RX2) (T := TX2) (N := 9) hx hb hts in_X2 hown hK hP 0 rfl rfl 0 (by decide) fl_11 (fun _ h9 => h9) rfl dX2_placeOf_1 ?_
  refine lv_iload_n (pc := 4) hx hb dX2_placeOf_4 rfl (lv_at hl 1 rfl) ?_
  refine z_iald (pc := 5) hx hb hK hP 1 0 (by omega) rfl rfl (by first | decide | omega) dX2_placeOf_5 ?_
  have hv : (o_places_c p0) = (o_places_c p0) := rfl
  exact W.iret (pc := 6) (v := zI (o_places_c p0)) hx hb hr (fun t ht hW => ⟨congrArg (fun z => Outcome.returned (some (vI z))) hv, ht⟩) (fun q h => absurd h List.not_mem_nil) dX2_placeOf_6

set_option maxHeartbeats 4000000 in
set_option maxRecDepth 100000 in
theorem m_X2_speedOf (l : Launch) (D : va_G) (cI cJ cZ cD : ClassId) (sz : Nat) (oA : Nat) (o_places : Nat) (o_speeds : Nat) (o_nextPlaces : Nat) (o_nextSpeeds : Nat) (o_bobCount : Int) (o_weight : Int) (o_spring : Int) (o_nowAir : Int) (o_nowPush : Int) (o_speeds_c : Int → Int) (p0 : Int) (hi : 0 ≤ p0 ∧ p0 < 8) : Met l yX2_speedOf wsX2_speedOf ({ frames := 0, cells := 0, slots := 0, locals := 0 } : Room) (zPc D (TY cI cJ cZ cD) sz [.ref oA, vI p0] [(oA, .inr (1, [.ref o_places, .ref o_speeds, .ref o_nextPlaces, .ref o_nextSpeeds, vI o_bobCount, vI o_weight, vI o_spring, vI o_nowAir, vI o_nowPush])), (o_speeds, .inl (cI, 8, .inl (aI o_speeds_c)))]) (zQr (some (vI (o_speeds_c p0)))) 0 0 (fun _ => False) := by
  refine Met.ofW (cc := cX2_speedOf) (maxL := 2) (ret := (some .int)) (by decide) rfl ?_
  intro p e s m args below meth c s₁ B hml hv
  obtain ⟨rfl, hsz, hP, hK, hD0, hN⟩ := hv
  have hx := B.exec
  have hb := B.bytes
  have hr := B.returns
  have hts := atoms_spec (ws := wsX2_speedOf) B.pre
  have hown : s.vm.findClass RX2 = some m.cls := findClass_of_methodNamed B.named
  have hlocks := B.notSynchronized
  have hD := hD0
  subst hsz
  have hP : va_P D vwCl [(oA, .inr (1, [.ref o_places, .ref o_speeds, .ref o_nextPlaces, .ref o_nextSpeeds, vI o_bobCount, vI o_weight, vI o_spring, vI o_nowAir, vI o_nowPush])), (o_speeds, .inl (cI, 8, .inl (aI o_speeds_c)))] s.heap := hP
  have fl_15 := hts (.fieldLink RX2 15 "PendulumHall$Bobs" "speeds" "[I") (by decide +kernel)
  have in_X2 : ∀ w ∈ wsX20, w ∈ wsX2_speedOf := by decide +kernel
  have hl := lv_entry ([.ref oA, vI p0]) (n := 2) (Nat.le_of_ble_eq_true rfl)
  rw [lg_entry_eq]
  generalize (lg_sl ([.ref oA, vI p0]) ++ List.replicate (2 - (lg_sl ([.ref oA, vI p0])).length) Slot.unset).toArray = ls at hl ⊢
  have hl : lv_has ls 2 [(0, .ref oA), (1, vI p0)] := hl
  refine lv_aload_n (pc := 0) hx hb dX2_speedOf_0 rfl (lv_at hl 0 rfl) ?_
  refine va_get (pc := 1) (D := D) (ci := 1) (v := .ref o_speeds) (C := RX2) (T := TX2) (N := 9) hx hb hts in_X2 hown hK hP 0 rfl rfl 1 (by decide) fl_15 (fun _ h9 => h9) rfl dX2_speedOf_1 ?_
  refine lv_iload_n (pc := 4) hx hb dX2_speedOf_4 rfl (lv_at hl 1 rfl) ?_
  refine z_iald (pc := 5) hx hb hK hP 1 0 (by omega) rfl rfl (by first | decide | omega) dX2_speedOf_5 ?_
  have hv : (o_speeds_c p0) = (o_speeds_c p0) := rfl
  exact W.iret (pc := 6) (v := zI (o_speeds_c p0)) hx hb hr (fun t ht hW => ⟨congrArg (fun z => Outcome.returned (some (vI z))) hv, ht⟩) (fun q h => absurd h List.not_mem_nil) dX2_speedOf_6

set_option maxHeartbeats 4000000 in
set_option maxRecDepth 100000 in
theorem m_X2_gainAt (l : Launch) (D : va_G) (cI cJ cZ cD : ClassId) (sz : Nat) (oA : Nat) (o_places : Nat) (o_speeds : Nat) (o_nextPlaces : Nat) (o_nextSpeeds : Nat) (o_bobCount : Int) (o_weight : Int) (o_spring : Int) (o_nowAir : Int) (o_nowPush : Int) (p0_c : Int → Int) (M : Int) (p0 : Nat) (p1 : Int) (hn : 1 ≤ o_bobCount ∧ o_bobCount ≤ 8) (hk : 0 ≤ o_weight ∧ o_weight ≤ 15) (hc : 0 ≤ o_spring ∧ o_spring ≤ 15) (hbi : 0 ≤ p1 ∧ p1 < o_bobCount) (hM : 0 ≤ M ∧ M ≤ 2000000) (hf : bnd p0_c o_bobCount M) : Met l yX2_gainAt wsX2_gainAt ({ frames := 1, cells := 0, slots := 0, locals := 22 } : Room) (zPc D (TY cI cJ cZ cD) sz [.ref oA, .ref p0, vI p1] [(oA, .inr (1, [.ref o_places, .ref o_speeds, .ref o_nextPlaces, .ref o_nextSpeeds, vI o_bobCount, vI o_weight, vI o_spring, vI o_nowAir, vI o_nowPush])), (p0, .inl (cI, 8, .inl (aI p0_c)))]) (zQr (some (vI (gnZ o_bobCount o_weight o_spring p0_c p1)))) 0 0 (fun _ => False) := by
  refine Met.ofW (cc := cX2_gainAt) (maxL := 4) (ret := (some .int)) (by decide) rfl ?_
  intro p e s m args below meth c s₁ B hml hv
  obtain ⟨rfl, hsz, hP, hK, hD0, hN⟩ := hv
  have hx := B.exec
  have hb := B.bytes
  have hr := B.returns
  have hts := atoms_spec (ws := wsX2_gainAt) B.pre
  have hown : s.vm.findClass RX2 = some m.cls := findClass_of_methodNamed B.named
  have hlocks := B.notSynchronized
  have hD := hD0
  subst hsz
  have hP : va_P D vwCl [(oA, .inr (1, [.ref o_places, .ref o_speeds, .ref o_nextPlaces, .ref o_nextSpeeds, vI o_bobCount, vI o_weight, vI o_spring, vI o_nowAir, vI o_nowPush])), (p0, .inl (cI, 8, .inl (aI p0_c)))] s.heap := hP
  have fl_24 := hts (.fieldLink RX2 24 "PendulumHall$Bobs" "bobCount" "I") (by decide +kernel)
  have fl_28 := hts (.fieldLink RX2 28 "PendulumHall$Bobs" "weight" "I") (by decide +kernel)
  have fl_31 := hts (.fieldLink RX2 31 "PendulumHall$Bobs" "spring" "I") (by decide +kernel)
  have in_X2 : ∀ w ∈ wsX20, w ∈ wsX2_gainAt := by decide +kernel
  have hl := lv_entry ([.ref oA, .ref p0, vI p1]) (n := 4) (Nat.le_of_ble_eq_true rfl)
  rw [lg_entry_eq]
  generalize (lg_sl ([.ref oA, .ref p0, vI p1]) ++ List.replicate (4 - (lg_sl ([.ref oA, .ref p0, vI p1])).length) Slot.unset).toArray = ls at hl ⊢
  have hl : lv_has ls 4 [(0, .ref oA), (1, .ref p0), (2, vI p1)] := hl
  obtain ⟨g1, g2, g3⟩ := gnZ_m hn.2 hbi hk hc hM hf
  have f0 := hf p1 hbi.1 hbi.2
  refine z_iconst (pc := 0) hx hb dX2_gainAt_0 ?_
  refine lv_istore_n (lv' := [(3, vI 0), (0, .ref oA), (1, .ref p0), (2, vI p1)]) (pc := 1) hx hb dX2_gainAt_1 rfl hl (by decide) rfl (fun ls hl => ?_)
  refine lv_iload_n (pc := 2) hx hb dX2_gainAt_2 rfl (lv_at hl 3 rfl) ?_
  refine z_if_le (pc := 3) (tgt := 18) hx hb dX2_gainAt_3 (by decide) (by omega) (fun c_1 => ?_) (fun c_1 => ?_)
  · have hc_3t := c_1
    refine lv_iload_n (pc := 18) hx hb dX2_gainAt_18 rfl (lv_at hl 3 rfl) ?_
    refine z_iconst (pc := 19) hx hb dX2_gainAt_19 ?_
    refine z_iadd (pc := 20) hx hb dX2_gainAt_20 ?_
    refine lv_aload_n (pc := 21) hx hb dX2_gainAt_21 rfl (lv_at hl 1 rfl) ?_
    refine va_get (pc := 22) (D := D) (ci := 1) (v := vI o_bobCount) (C := RX2) (T := TX2) (N := 9) hx hb hts in_X2 hown hK hP 0 rfl rfl 4 (by decide) fl_24 (fun _ h9 => h9) rfl dX2_gainAt_22 ?_
    refine z_icmp_ge (pc := 25) (tgt := 40) hx hb dX2_gainAt_25 (by decide) (by omega) (by omega) (fun c_2 => ?_) (fun c_2 => ?_)
    · have hc_25t := c_2
      refine lv_aload_n (pc := 40) hx hb dX2_gainAt_40 rfl (lv_at hl 1 rfl) ?_
      refine va_get (pc := 41) (D := D) (ci := 1) (v := vI o_spring) (C := RX2) (T := TX2) (N := 9) hx hb hts in_X2 hown hK hP 0 rfl rfl 6 (by decide) fl_31 (fun _ h9 => h9) rfl dX2_gainAt_41 ?_
      refine lv_iload_n (pc := 44) hx hb dX2_gainAt_44 rfl (lv_at hl 0 rfl) ?_
      refine z_imul (pc := 45) hx hb dX2_gainAt_45 ?_
      refine z_bipush (pc := 46) hx hb dX2_gainAt_46 (by decide) ?_
      have g4 := g1 0 (by omega) (by omega)
      refine z_callR (pc := 48) (va_runS (As := [vI (o_spring * 0), vI 16]) (rest := []) ⟨hx, hb, hml, hown, hts⟩ (m_J9_floorDiv_7cf53 l D cI cJ cZ cD 0  (o_spring * 0) 16 (by omega) (by omega)) (va_cwS 2 hts gX2_gainAt_J9_floorDiv_7cf53 rfl rfl rfl (by decide +kernel) ⟨Nat.le_of_ble_eq_true rfl, Nat.le_of_ble_eq_true rfl⟩) ⟨fun a U g mk q => q, fun U hU hW => ⟨rfl, trivial⟩⟩ rfl rfl hl.1 rfl (lv_room (Nat.le_of_ble_eq_true rfl)) dX2_gainAt_48 ⟨Nat.zero_le _, Nat.zero_le _⟩) ?_
      refine lv_aload_n (pc := 51) hx hb dX2_gainAt_51 rfl (lv_at hl 1 rfl) ?_
      refine va_get (pc := 52) (D := D) (ci := 1) (v := vI o_weight) (C := RX2) (T := TX2) (N := 9) hx hb hts in_X2 hown hK hP 0 rfl rfl 5 (by decide) fl_28 (fun _ h9 => h9) rfl dX2_gainAt_52 ?_
      refine lv_aload_n (pc := 55) hx hb dX2_gainAt_55 rfl (lv_at hl 2 rfl) ?_
      refine lv_iload_n (pc := 56) hx hb dX2_gainAt_56 rfl (lv_at hl 3 rfl) ?_
      refine z_iald (pc := 57) hx hb hK hP 1 0 (by omega) rfl rfl (by first | decide | omega) dX2_gainAt_57 ?_
      refine z_imul (pc := 58) hx hb dX2_gainAt_58 ?_
      refine z_bipush (pc := 59) hx hb dX2_gainAt_59 (by decide) ?_
      refine z_callR (pc := 61) (va_runS (As := [vI (o_weight * (p0_c p1)), vI 16]) (rest := [vI ((o_spring * 0) / 16)]) ⟨hx, hb, hml, hown, hts⟩ (m_J9_floorDiv_7cf53 l D cI cJ cZ cD 0  (o_weight * (p0_c p1)) 16 (by omega) (by omega)) (va_cwS 2 hts gX2_gainAt_J9_floorDiv_7cf53 rfl rfl rfl (by decide +kernel) ⟨Nat.le_of_ble_eq_true rfl, Nat.le_of_ble_eq_true rfl⟩) ⟨fun a U g mk q => q, fun U hU hW => ⟨rfl, trivial⟩⟩ rfl rfl hl.1 rfl (lv_room (Nat.le_of_ble_eq_true rfl)) dX2_gainAt_61 ⟨Nat.zero_le _, Nat.zero_le _⟩) ?_
      refine z_isub (pc := 64) hx hb dX2_gainAt_64 ?_
      have hv : (((o_spring * 0) / 16) - ((o_weight * (p0_c p1)) / 16)) = (gnZ o_bobCount o_weight o_spring p0_c p1) := by unfold gnZ; first | (rw [if_pos hc_3f, if_pos hc_25f, Int.zero_add]) | (rw [if_pos hc_3f, if_neg (by omega), Int.zero_add, Int.add_zero]) | (rw [if_neg (by omega), if_pos hc_25f]) | (rw [if_neg (by omega), if_neg (by omega), Int.add_zero])
      exact W.iret (pc := 65) (v := zI (((o_spring * 0) / 16) - ((o_weight * (p0_c p1)) / 16))) hx hb hr (fun t ht hW => ⟨congrArg (fun z => Outcome.returned (some (vI z))) hv, ht⟩) (fun q h => absurd h List.not_mem_nil) dX2_gainAt_65
    · have hc_25f := c_2
      have f2 := hf (p1 + 1) (by omega) (by omega)
      refine lv_iload_n (pc := 28) hx hb dX2_gainAt_28 rfl (lv_at hl 0 rfl) ?_
      refine lv_aload_n (pc := 29) hx hb dX2_gainAt_29 rfl (lv_at hl 2 rfl) ?_
      refine lv_iload_n (pc := 30) hx hb dX2_gainAt_30 rfl (lv_at hl 3 rfl) ?_
      refine z_iconst (pc := 31) hx hb dX2_gainAt_31 ?_
      refine z_iadd (pc := 32) hx hb dX2_gainAt_32 ?_
      refine z_iald (pc := 33) hx hb hK hP 1 0 (by omega) rfl rfl (by first | decide | omega) dX2_gainAt_33 ?_
      refine lv_aload_n (pc := 34) hx hb dX2_gainAt_34 rfl (lv_at hl 2 rfl) ?_
      refine lv_iload_n (pc := 35) hx hb dX2_gainAt_35 rfl (lv_at hl 3 rfl) ?_
      refine z_iald (pc := 36) hx hb hK hP 1 0 (by omega) rfl rfl (by first | decide | omega) dX2_gainAt_36 ?_
      refine z_isub (pc := 37) hx hb dX2_gainAt_37 ?_
      refine z_iadd (pc := 38) hx hb dX2_gainAt_38 ?_
      refine lv_istore_n (lv' := [(3, vI (0 + ((p0_c (p1 + 1)) - (p0_c p1)))), (0, .ref oA), (1, .ref p0), (2, vI p1)]) (pc := 39) hx hb dX2_gainAt_39 rfl hl (by decide) rfl (fun ls hl => ?_)
      refine lv_aload_n (pc := 40) hx hb dX2_gainAt_40 rfl (lv_at hl 1 rfl) ?_
      refine va_get (pc := 41) (D := D) (ci := 1) (v := vI o_spring) (C := RX2) (T := TX2) (N := 9) hx hb hts in_X2 hown hK hP 0 rfl rfl 6 (by decide) fl_31 (fun _ h9 => h9) rfl dX2_gainAt_41 ?_
      refine lv_iload_n (pc := 44) hx hb dX2_gainAt_44 rfl (lv_at hl 0 rfl) ?_
      refine z_imul (pc := 45) hx hb dX2_gainAt_45 ?_
      refine z_bipush (pc := 46) hx hb dX2_gainAt_46 (by decide) ?_
      have g4 := g1 (0 + ((p0_c (p1 + 1)) - (p0_c p1))) (by omega) (by omega)
      refine z_callR (pc := 48) (va_runS (As := [vI (o_spring * (0 + ((p0_c (p1 + 1)) - (p0_c p1)))), vI 16]) (rest := []) ⟨hx, hb, hml, hown, hts⟩ (m_J9_floorDiv_7cf53 l D cI cJ cZ cD 0  (o_spring * (0 + ((p0_c (p1 + 1)) - (p0_c p1)))) 16 (by omega) (by omega)) (va_cwS 2 hts gX2_gainAt_J9_floorDiv_7cf53 rfl rfl rfl (by decide +kernel) ⟨Nat.le_of_ble_eq_true rfl, Nat.le_of_ble_eq_true rfl⟩) ⟨fun a U g mk q => q, fun U hU hW => ⟨rfl, trivial⟩⟩ rfl rfl hl.1 rfl (lv_room (Nat.le_of_ble_eq_true rfl)) dX2_gainAt_48 ⟨Nat.zero_le _, Nat.zero_le _⟩) ?_
      refine lv_aload_n (pc := 51) hx hb dX2_gainAt_51 rfl (lv_at hl 1 rfl) ?_
      refine va_get (pc := 52) (D := D) (ci := 1) (v := vI o_weight) (C := RX2) (T := TX2) (N := 9) hx hb hts in_X2 hown hK hP 0 rfl rfl 5 (by decide) fl_28 (fun _ h9 => h9) rfl dX2_gainAt_52 ?_
      refine lv_aload_n (pc := 55) hx hb dX2_gainAt_55 rfl (lv_at hl 2 rfl) ?_
      refine lv_iload_n (pc := 56) hx hb dX2_gainAt_56 rfl (lv_at hl 3 rfl) ?_
      refine z_iald (pc := 57) hx hb hK hP 1 0 (by omega) rfl rfl (by first | decide | omega) dX2_gainAt_57 ?_
      refine z_imul (pc := 58) hx hb dX2_gainAt_58 ?_
      refine z_bipush (pc := 59) hx hb dX2_gainAt_59 (by decide) ?_
      refine z_callR (pc := 61) (va_runS (As := [vI (o_weight * (p0_c p1)), vI 16]) (rest := [vI ((o_spring * (0 + ((p0_c (p1 + 1)) - (p0_c p1)))) / 16)]) ⟨hx, hb, hml, hown, hts⟩ (m_J9_floorDiv_7cf53 l D cI cJ cZ cD 0  (o_weight * (p0_c p1)) 16 (by omega) (by omega)) (va_cwS 2 hts gX2_gainAt_J9_floorDiv_7cf53 rfl rfl rfl (by decide +kernel) ⟨Nat.le_of_ble_eq_true rfl, Nat.le_of_ble_eq_true rfl⟩) ⟨fun a U g mk q => q, fun U hU hW => ⟨rfl, trivial⟩⟩ rfl rfl hl.1 rfl (lv_room (Nat.le_of_ble_eq_true rfl)) dX2_gainAt_61 ⟨Nat.zero_le _, Nat.zero_le _⟩) ?_
      refine z_isub (pc := 64) hx hb dX2_gainAt_64 ?_
      have hv : (((o_spring * (0 + ((p0_c (p1 + 1)) - (p0_c p1)))) / 16) - ((o_weight * (p0_c p1)) / 16)) = (gnZ o_bobCount o_weight o_spring p0_c p1) := by unfold gnZ; first | (rw [if_pos hc_3f, if_pos hc_25f, Int.zero_add]) | (rw [if_pos hc_3f, if_neg (by omega), Int.zero_add, Int.add_zero]) | (rw [if_neg (by omega), if_pos hc_25f]) | (rw [if_neg (by omega), if_neg (by omega), Int.add_zero])
      exact W.iret (pc := 65) (v := zI (((o_spring * (0 + ((p0_c (p1 + 1)) - (p0_c p1)))) / 16) - ((o_weight * (p0_c p1)) / 16))) hx hb hr (fun t ht hW => ⟨congrArg (fun z => Outcome.returned (some (vI z))) hv, ht⟩) (fun q h => absurd h List.not_mem_nil) dX2_gainAt_65
  · have hc_3f := c_1
    have f1 := hf (p1 - 1) (by omega) (by omega)
    refine lv_iload_n (pc := 6) hx hb dX2_gainAt_6 rfl (lv_at hl 0 rfl) ?_
    refine lv_aload_n (pc := 7) hx hb dX2_gainAt_7 rfl (lv_at hl 2 rfl) ?_
    refine lv_iload_n (pc := 8) hx hb dX2_gainAt_8 rfl (lv_at hl 3 rfl) ?_
    refine z_iconst (pc := 9) hx hb dX2_gainAt_9 ?_
    refine z_isub (pc := 10) hx hb dX2_gainAt_10 ?_
    refine z_iald (pc := 11) hx hb hK hP 1 0 (by omega) rfl rfl (by first | decide | omega) dX2_gainAt_11 ?_
    refine lv_aload_n (pc := 12) hx hb dX2_gainAt_12 rfl (lv_at hl 2 rfl) ?_
    refine lv_iload_n (pc := 13) hx hb dX2_gainAt_13 rfl (lv_at hl 3 rfl) ?_
    refine z_iald (pc := 14) hx hb hK hP 1 0 (by omega) rfl rfl (by first | decide | omega) dX2_gainAt_14 ?_
    refine z_isub (pc := 15) hx hb dX2_gainAt_15 ?_
    refine z_iadd (pc := 16) hx hb dX2_gainAt_16 ?_
    refine lv_istore_n (lv' := [(3, vI (0 + ((p0_c (p1 - 1)) - (p0_c p1)))), (0, .ref oA), (1, .ref p0), (2, vI p1)]) (pc := 17) hx hb dX2_gainAt_17 rfl hl (by decide) rfl (fun ls hl => ?_)
    refine lv_iload_n (pc := 18) hx hb dX2_gainAt_18 rfl (lv_at hl 3 rfl) ?_
    refine z_iconst (pc := 19) hx hb dX2_gainAt_19 ?_
    refine z_iadd (pc := 20) hx hb dX2_gainAt_20 ?_
    refine lv_aload_n (pc := 21) hx hb dX2_gainAt_21 rfl (lv_at hl 1 rfl) ?_
    refine va_get (pc := 22) (D := D) (ci := 1) (v := vI o_bobCount) (C := RX2) (T := TX2) (N := 9) hx hb hts in_X2 hown hK hP 0 rfl rfl 4 (by decide) fl_24 (fun _ h9 => h9) rfl dX2_gainAt_22 ?_
    refine z_icmp_ge (pc := 25) (tgt := 40) hx hb dX2_gainAt_25 (by decide) (by omega) (by omega) (fun c_3 => ?_) (fun c_3 => ?_)
    · have hc_25t := c_3
      refine lv_aload_n (pc := 40) hx hb dX2_gainAt_40 rfl (lv_at hl 1 rfl) ?_
      refine va_get (pc := 41) (D := D) (ci := 1) (v := vI o_spring) (C := RX2) (T := TX2) (N := 9) hx hb hts in_X2 hown hK hP 0 rfl rfl 6 (by decide) fl_31 (fun _ h9 => h9) rfl dX2_gainAt_41 ?_
      refine lv_iload_n (pc := 44) hx hb dX2_gainAt_44 rfl (lv_at hl 0 rfl) ?_
      refine z_imul (pc := 45) hx hb dX2_gainAt_45 ?_
      refine z_bipush (pc := 46) hx hb dX2_gainAt_46 (by decide) ?_
      have g4 := g1 (0 + ((p0_c (p1 - 1)) - (p0_c p1))) (by omega) (by omega)
      refine z_callR (pc := 48) (va_runS (As := [vI (o_spring * (0 + ((p0_c (p1 - 1)) - (p0_c p1)))), vI 16]) (rest := []) ⟨hx, hb, hml, hown, hts⟩ (m_J9_floorDiv_7cf53 l D cI cJ cZ cD 0  (o_spring * (0 + ((p0_c (p1 - 1)) - (p0_c p1)))) 16 (by omega) (by omega)) (va_cwS 2 hts gX2_gainAt_J9_floorDiv_7cf53 rfl rfl rfl (by decide +kernel) ⟨Nat.le_of_ble_eq_true rfl, Nat.le_of_ble_eq_true rfl⟩) ⟨fun a U g mk q => q, fun U hU hW => ⟨rfl, trivial⟩⟩ rfl rfl hl.1 rfl (lv_room (Nat.le_of_ble_eq_true rfl)) dX2_gainAt_48 ⟨Nat.zero_le _, Nat.zero_le _⟩) ?_
      refine lv_aload_n (pc := 51) hx hb dX2_gainAt_51 rfl (lv_at hl 1 rfl) ?_
      refine va_get (pc := 52) (D := D) (ci := 1) (v := vI o_weight) (C := RX2) (T := TX2) (N := 9) hx hb hts in_X2 hown hK hP 0 rfl rfl 5 (by decide) fl_28 (fun _ h9 => h9) rfl dX2_gainAt_52 ?_
      refine lv_aload_n (pc := 55) hx hb dX2_gainAt_55 rfl (lv_at hl 2 rfl) ?_
      refine lv_iload_n (pc := 56) hx hb dX2_gainAt_56 rfl (lv_at hl 3 rfl) ?_
      refine z_iald (pc := 57) hx hb hK hP 1 0 (by omega) rfl rfl (by first | decide | omega) dX2_gainAt_57 ?_
      refine z_imul (pc := 58) hx hb dX2_gainAt_58 ?_
      refine z_bipush (pc := 59) hx hb dX2_gainAt_59 (by decide) ?_
      refine z_callR (pc := 61) (va_runS (As := [vI (o_weight * (p0_c p1)), vI 16]) (rest := [vI ((o_spring * (0 + ((p0_c (p1 - 1)) - (p0_c p1)))) / 16)]) ⟨hx, hb, hml, hown, hts⟩ (m_J9_floorDiv_7cf53 l D cI cJ cZ cD 0  (o_weight * (p0_c p1)) 16 (by omega) (by omega)) (va_cwS 2 hts gX2_gainAt_J9_floorDiv_7cf53 rfl rfl rfl (by decide +kernel) ⟨Nat.le_of_ble_eq_true rfl, Nat.le_of_ble_eq_true rfl⟩) ⟨fun a U g mk q => q, fun U hU hW => ⟨rfl, trivial⟩⟩ rfl rfl hl.1 rfl (lv_room (Nat.le_of_ble_eq_true rfl)) dX2_gainAt_61 ⟨Nat.zero_le _, Nat.zero_le _⟩) ?_
      refine z_isub (pc := 64) hx hb dX2_gainAt_64 ?_
      have hv : (((o_spring * (0 + ((p0_c (p1 - 1)) - (p0_c p1)))) / 16) - ((o_weight * (p0_c p1)) / 16)) = (gnZ o_bobCount o_weight o_spring p0_c p1) := by unfold gnZ; first | (rw [if_pos hc_3f, if_pos hc_25f, Int.zero_add]) | (rw [if_pos hc_3f, if_neg (by omega), Int.zero_add, Int.add_zero]) | (rw [if_neg (by omega), if_pos hc_25f]) | (rw [if_neg (by omega), if_neg (by omega), Int.add_zero])
      exact W.iret (pc := 65) (v := zI (((o_spring * (0 + ((p0_c (p1 - 1)) - (p0_c p1)))) / 16) - ((o_weight * (p0_c p1)) / 16))) hx hb hr (fun t ht hW => ⟨congrArg (fun z => Outcome.returned (some (vI z))) hv, ht⟩) (fun q h => absurd h List.not_mem_nil) dX2_gainAt_65
    · have hc_25f := c_3
      have f2 := hf (p1 + 1) (by omega) (by omega)
      refine lv_iload_n (pc := 28) hx hb dX2_gainAt_28 rfl (lv_at hl 0 rfl) ?_
      refine lv_aload_n (pc := 29) hx hb dX2_gainAt_29 rfl (lv_at hl 2 rfl) ?_
      refine lv_iload_n (pc := 30) hx hb dX2_gainAt_30 rfl (lv_at hl 3 rfl) ?_
      refine z_iconst (pc := 31) hx hb dX2_gainAt_31 ?_
      refine z_iadd (pc := 32) hx hb dX2_gainAt_32 ?_
      refine z_iald (pc := 33) hx hb hK hP 1 0 (by omega) rfl rfl (by first | decide | omega) dX2_gainAt_33 ?_
      refine lv_aload_n (pc := 34) hx hb dX2_gainAt_34 rfl (lv_at hl 2 rfl) ?_
      refine lv_iload_n (pc := 35) hx hb dX2_gainAt_35 rfl (lv_at hl 3 rfl) ?_
      refine z_iald (pc := 36) hx hb hK hP 1 0 (by omega) rfl rfl (by first | decide | omega) dX2_gainAt_36 ?_
      refine z_isub (pc := 37) hx hb dX2_gainAt_37 ?_
      refine z_iadd (pc := 38) hx hb dX2_gainAt_38 ?_
      refine lv_istore_n (lv' := [(3, vI ((0 + ((p0_c (p1 - 1)) - (p0_c p1))) + ((p0_c (p1 + 1)) - (p0_c p1)))), (0, .ref oA), (1, .ref p0), (2, vI p1)]) (pc := 39) hx hb dX2_gainAt_39 rfl hl (by decide) rfl (fun ls hl => ?_)
      refine lv_aload_n (pc := 40) hx hb dX2_gainAt_40 rfl (lv_at hl 1 rfl) ?_
      refine va_get (pc := 41) (D := D) (ci := 1) (v := vI o_spring) (C := RX2) (T := TX2) (N := 9) hx hb hts in_X2 hown hK hP 0 rfl rfl 6 (by decide) fl_31 (fun _ h9 => h9) rfl dX2_gainAt_41 ?_
      refine lv_iload_n (pc := 44) hx hb dX2_gainAt_44 rfl (lv_at hl 0 rfl) ?_
      refine z_imul (pc := 45) hx hb dX2_gainAt_45 ?_
      refine z_bipush (pc := 46) hx hb dX2_gainAt_46 (by decide) ?_
      have g4 := g1 ((0 + ((p0_c (p1 - 1)) - (p0_c p1))) + ((p0_c (p1 + 1)) - (p0_c p1))) (by omega) (by omega)
      refine z_callR (pc := 48) (va_runS (As := [vI (o_spring * ((0 + ((p0_c (p1 - 1)) - (p0_c p1))) + ((p0_c (p1 + 1)) - (p0_c p1)))), vI 16]) (rest := []) ⟨hx, hb, hml, hown, hts⟩ (m_J9_floorDiv_7cf53 l D cI cJ cZ cD 0  (o_spring * ((0 + ((p0_c (p1 - 1)) - (p0_c p1))) + ((p0_c (p1 + 1)) - (p0_c p1)))) 16 (by omega) (by omega)) (va_cwS 2 hts gX2_gainAt_J9_floorDiv_7cf53 rfl rfl rfl (by decide +kernel) ⟨Nat.le_of_ble_eq_true rfl, Nat.le_of_ble_eq_true rfl⟩) ⟨fun a U g mk q => q, fun U hU hW => ⟨rfl, trivial⟩⟩ rfl rfl hl.1 rfl (lv_room (Nat.le_of_ble_eq_true rfl)) dX2_gainAt_48 ⟨Nat.zero_le _, Nat.zero_le _⟩) ?_
      refine lv_aload_n (pc := 51) hx hb dX2_gainAt_51 rfl (lv_at hl 1 rfl) ?_
      refine va_get (pc := 52) (D := D) (ci := 1) (v := vI o_weight) (C := RX2) (T := TX2) (N := 9) hx hb hts in_X2 hown hK hP 0 rfl rfl 5 (by decide) fl_28 (fun _ h9 => h9) rfl dX2_gainAt_52 ?_
      refine lv_aload_n (pc := 55) hx hb dX2_gainAt_55 rfl (lv_at hl 2 rfl) ?_
      refine lv_iload_n (pc := 56) hx hb dX2_gainAt_56 rfl (lv_at hl 3 rfl) ?_
      refine z_iald (pc := 57) hx hb hK hP 1 0 (by omega) rfl rfl (by first | decide | omega) dX2_gainAt_57 ?_
      refine z_imul (pc := 58) hx hb dX2_gainAt_58 ?_
      refine z_bipush (pc := 59) hx hb dX2_gainAt_59 (by decide) ?_
      refine z_callR (pc := 61) (va_runS (As := [vI (o_weight * (p0_c p1)), vI 16]) (rest := [vI ((o_spring * ((0 + ((p0_c (p1 - 1)) - (p0_c p1))) + ((p0_c (p1 + 1)) - (p0_c p1)))) / 16)]) ⟨hx, hb, hml, hown, hts⟩ (m_J9_floorDiv_7cf53 l D cI cJ cZ cD 0  (o_weight * (p0_c p1)) 16 (by omega) (by omega)) (va_cwS 2 hts gX2_gainAt_J9_floorDiv_7cf53 rfl rfl rfl (by decide +kernel) ⟨Nat.le_of_ble_eq_true rfl, Nat.le_of_ble_eq_true rfl⟩) ⟨fun a U g mk q => q, fun U hU hW => ⟨rfl, trivial⟩⟩ rfl rfl hl.1 rfl (lv_room (Nat.le_of_ble_eq_true rfl)) dX2_gainAt_61 ⟨Nat.zero_le _, Nat.zero_le _⟩) ?_
      refine z_isub (pc := 64) hx hb dX2_gainAt_64 ?_
      have hv : (((o_spring * ((0 + ((p0_c (p1 - 1)) - (p0_c p1))) + ((p0_c (p1 + 1)) - (p0_c p1)))) / 16) - ((o_weight * (p0_c p1)) / 16)) = (gnZ o_bobCount o_weight o_spring p0_c p1) := by unfold gnZ; first | (rw [if_pos hc_3f, if_pos hc_25f, Int.zero_add]) | (rw [if_pos hc_3f, if_neg (by omega), Int.zero_add, Int.add_zero]) | (rw [if_neg (by omega), if_pos hc_25f]) | (rw [if_neg (by omega), if_neg (by omega), Int.add_zero])
      exact W.iret (pc := 65) (v := zI (((o_spring * ((0 + ((p0_c (p1 - 1)) - (p0_c p1))) + ((p0_c (p1 + 1)) - (p0_c p1)))) / 16) - ((o_weight * (p0_c p1)) / 16))) hx hb hr (fun t ht hW => ⟨congrArg (fun z => Outcome.returned (some (vI z))) hv, ht⟩) (fun q h => absurd h List.not_mem_nil) dX2_gainAt_65

set_option maxHeartbeats 4000000 in
set_option maxRecDepth 100000 in
theorem m_X2_planStep (l : Launch) (D : va_G) (cI cJ cZ cD : ClassId) (sz : Nat) (oA : Nat) (o_places : Nat) (o_speeds : Nat) (o_nextPlaces : Nat) (o_nextSpeeds : Nat) (o_bobCount : Int) (o_weight : Int) (o_spring : Int) (o_nowAir : Int) (o_nowPush : Int) (o_places_c : Int → Int) (o_speeds_c : Int → Int) (o_nextPlaces_c : Int → Int) (o_nextSpeeds_c : Int → Int) (hn : 1 ≤ o_bobCount ∧ o_bobCount ≤ 8) (hk : 0 ≤ o_weight ∧ o_weight ≤ 15) (hc : 0 ≤ o_spring ∧ o_spring ≤ 15) (hp : bnd o_places_c o_bobCount 1000000) (hs : bnd o_speeds_c o_bobCount 1000000) (ha : 0 ≤ o_nowAir ∧ o_nowAir ≤ 100) : Met l yX2_planStep wsX2_planStep ({ frames := 2, cells := 0, slots := 0, locals := 45 } : Room) (zPc D (TY cI cJ cZ cD) sz [.ref oA] [(oA, .inr (1, [.ref o_places, .ref o_speeds, .ref o_nextPlaces, .ref o_nextSpeeds, vI o_bobCount, vI o_weight, vI o_spring, vI o_nowAir, vI o_nowPush])), (o_places, .inl (cI, 8, .inl (aI o_places_c))), (o_speeds, .inl (cI, 8, .inl (aI o_speeds_c))), (o_nextPlaces, .inl (cI, 8, .inl (aI o_nextPlaces_c))), (o_nextSpeeds, .inl (cI, 8, .inl (aI o_nextSpeeds_c)))]) (va_Qv (fun (u : (Int → Int) × (Int → Int)) => match u with | (nP, nS) => ∀ j : Int, 0 ≤ j → j < o_bobCount → nP j = pl1Z o_bobCount o_weight o_spring o_nowAir o_places_c o_speeds_c j ∧ nS j = sp1Z o_bobCount o_weight o_spring o_nowAir o_nowPush o_places_c o_speeds_c j) (zB D (va_A [(oA, .inr (1, [.ref o_places, .ref o_speeds, .ref o_nextPlaces, .ref o_nextSpeeds, vI o_bobCount, vI o_weight, vI o_spring, vI o_nowAir, vI o_nowPush])), (o_places, .inl (cI, 8, .inl (aI o_places_c))), (o_speeds, .inl (cI, 8, .inl (aI o_speeds_c))), (o_nextPlaces, .inl (cI, 8, .inl (aI o_nextPlaces_c))), (o_nextSpeeds, .inl (cI, 8, .inl (aI o_nextSpeeds_c)))] sz) (fun (u : (Int → Int) × (Int → Int)) => match u with | (nP, nS) => [(oA, .inr (1, [.ref o_places, .ref o_speeds, .ref o_nextPlaces, .ref o_nextSpeeds, vI o_bobCount, vI o_weight, vI o_spring, vI o_nowAir, vI o_nowPush])), (o_places, .inl (cI, 8, .inl (aI o_places_c))), (o_speeds, .inl (cI, 8, .inl (aI o_speeds_c))), (o_nextPlaces, .inl (cI, 8, .inl (aI nP))), (o_nextSpeeds, .inl (cI, 8, .inl (aI nS)))])) (va_A [(oA, .inr (1, [.ref o_places, .ref o_speeds, .ref o_nextPlaces, .ref o_nextSpeeds, vI o_bobCount, vI o_weight, vI o_spring, vI o_nowAir, vI o_nowPush])), (o_places, .inl (cI, 8, .inl (aI o_places_c))), (o_speeds, .inl (cI, 8, .inl (aI o_speeds_c))), (o_nextPlaces, .inl (cI, 8, .inl (aI o_nextPlaces_c))), (o_nextSpeeds, .inl (cI, 8, .inl (aI o_nextSpeeds_c)))] sz)) 0 0 (va_A [(oA, .inr (1, [.ref o_places, .ref o_speeds, .ref o_nextPlaces, .ref o_nextSpeeds, vI o_bobCount, vI o_weight, vI o_spring, vI o_nowAir, vI o_nowPush])), (o_places, .inl (cI, 8, .inl (aI o_places_c))), (o_speeds, .inl (cI, 8, .inl (aI o_speeds_c))), (o_nextPlaces, .inl (cI, 8, .inl (aI o_nextPlaces_c))), (o_nextSpeeds, .inl (cI, 8, .inl (aI o_nextSpeeds_c)))] sz) := by
  refine Met.ofW (cc := cX2_planStep) (maxL := 3) (ret := none) (by decide) rfl ?_
  intro p e s m args below meth c s₁ B hml hv
  obtain ⟨rfl, hsz, hP, hK, hD0, hN⟩ := hv
  have hx := B.exec
  have hb := B.bytes
  have hr := B.returns
  have hts := atoms_spec (ws := wsX2_planStep) B.pre
  have hown : s.vm.findClass RX2 = some m.cls := findClass_of_methodNamed B.named
  have hlocks := B.notSynchronized
  subst hsz
  have hD := hD0.self (sz := s.heap.size)
  generalize hAe : va_A [(oA, .inr (1, [.ref o_places, .ref o_speeds, .ref o_nextPlaces, .ref o_nextSpeeds, vI o_bobCount, vI o_weight, vI o_spring, vI o_nowAir, vI o_nowPush])), (o_places, .inl (cI, 8, .inl (aI o_places_c))), (o_speeds, .inl (cI, 8, .inl (aI o_speeds_c))), (o_nextPlaces, .inl (cI, 8, .inl (aI o_nextPlaces_c))), (o_nextSpeeds, .inl (cI, 8, .inl (aI o_nextSpeeds_c)))] s.heap.size = A at hD ⊢
  have hA : ∀ q : Nat, s.heap.size ≤ q → A q := fun q h => by rw [← hAe]; exact Or.inr h
  have hS : va_S A s.heap s.heap [] := va_S.rf
  have hP : va_P D vwCl [(oA, .inr (1, [.ref o_places, .ref o_speeds, .ref o_nextPlaces, .ref o_nextSpeeds, vI o_bobCount, vI o_weight, vI o_spring, vI o_nowAir, vI o_nowPush])), (o_places, .inl (cI, 8, .inl (aI o_places_c))), (o_speeds, .inl (cI, 8, .inl (aI o_speeds_c))), (o_nextPlaces, .inl (cI, 8, .inl (aI o_nextPlaces_c))), (o_nextSpeeds, .inl (cI, 8, .inl (aI o_nextSpeeds_c)))] s.heap := hP
  have fl_11 := hts (.fieldLink RX2 11 "PendulumHall$Bobs" "places" "[I") (by decide +kernel)
  have fl_15 := hts (.fieldLink RX2 15 "PendulumHall$Bobs" "speeds" "[I") (by decide +kernel)
  have fl_18 := hts (.fieldLink RX2 18 "PendulumHall$Bobs" "nextPlaces" "[I") (by decide +kernel)
  have fl_21 := hts (.fieldLink RX2 21 "PendulumHall$Bobs" "nextSpeeds" "[I") (by decide +kernel)
  have fl_24 := hts (.fieldLink RX2 24 "PendulumHall$Bobs" "bobCount" "I") (by decide +kernel)
  have fl_40 := hts (.fieldLink RX2 40 "PendulumHall$Bobs" "nowAir" "I") (by decide +kernel)
  have fl_43 := hts (.fieldLink RX2 43 "PendulumHall$Bobs" "nowPush" "I") (by decide +kernel)
  have in_X2 : ∀ w ∈ wsX20, w ∈ wsX2_planStep := by decide +kernel
  have hl := lv_entry ([.ref oA]) (n := 3) (Nat.le_of_ble_eq_true rfl)
  rw [lg_entry_eq]
  generalize (lg_sl ([.ref oA]) ++ List.replicate (3 - (lg_sl ([.ref oA])).length) Slot.unset).toArray = ls at hl ⊢
  have hl : lv_has ls 3 [(0, .ref oA)] := hl
  refine z_iconst (pc := 0) hx hb dX2_planStep_0 ?_
  refine lv_istore_n (lv' := [(1, vI 0), (0, .ref oA)]) (pc := 1) hx hb dX2_planStep_1 rfl hl (by decide) rfl (fun ls hl => ?_)
  have LP_2 : ∀ (nfu : Nat) (b : Int) (nP : Int → Int) (nS : Int → Int) (i1 : 0 ≤ b ∧ b ≤ o_bobCount) (i2 : ∀ j : Int, 0 ≤ j → j < b → nP j = pl1Z o_bobCount o_weight o_spring o_nowAir o_places_c o_speeds_c j) (i3 : ∀ j : Int, 0 ≤ j → j < b → nS j = sp0Z o_bobCount o_weight o_spring o_nowAir o_places_c o_speeds_c j) (hme : o_bobCount - b + 1 < (nfu : Int)) (H : Heap) (locs : List Loc) (hP : va_P D vwCl [(oA, .inr (1, [.ref o_places, .ref o_speeds, .ref o_nextPlaces, .ref o_nextSpeeds, vI o_bobCount, vI o_weight, vI o_spring, vI o_nowAir, vI o_nowPush])), (o_places, .inl (cI, 8, .inl (aI o_places_c))), (o_speeds, .inl (cI, 8, .inl (aI o_speeds_c))), (o_nextPlaces, .inl (cI, 8, .inl (aI nP))), (o_nextSpeeds, .inl (cI, 8, .inl (aI nS)))] H) (hD : va_D A [(oA, .inr (1, [.ref o_places, .ref o_speeds, .ref o_nextPlaces, .ref o_nextSpeeds, vI o_bobCount, vI o_weight, vI o_spring, vI o_nowAir, vI o_nowPush])), (o_places, .inl (cI, 8, .inl (aI o_places_c))), (o_speeds, .inl (cI, 8, .inl (aI o_speeds_c))), (o_nextPlaces, .inl (cI, 8, .inl (aI nP))), (o_nextSpeeds, .inl (cI, 8, .inl (aI nS)))]) (hS : va_S A s.heap H locs) (ls : Array Slot) (hl : lv_has ls 3 [(1, vI b), (0, .ref oA)]), W p l e (headSpec wsX2_planStep ({ frames := 2, cells := 0, slots := 0, locals := 45 } : Room)).room s m ([.ref oA] : List Value).toArray below meth c H locs 0 0 (MQ below (va_Qv (fun (u : (Int → Int) × (Int → Int)) => match u with | (nP, nS) => ∀ j : Int, 0 ≤ j → j < o_bobCount → nP j = pl1Z o_bobCount o_weight o_spring o_nowAir o_places_c o_speeds_c j ∧ nS j = sp1Z o_bobCount o_weight o_spring o_nowAir o_nowPush o_places_c o_speeds_c j) (zB D A (fun (u : (Int → Int) × (Int → Int)) => match u with | (nP, nS) => [(oA, .inr (1, [.ref o_places, .ref o_speeds, .ref o_nextPlaces, .ref o_nextSpeeds, vI o_bobCount, vI o_weight, vI o_spring, vI o_nowAir, vI o_nowPush])), (o_places, .inl (cI, 8, .inl (aI o_places_c))), (o_speeds, .inl (cI, 8, .inl (aI o_speeds_c))), (o_nextPlaces, .inl (cI, 8, .inl (aI nP))), (o_nextSpeeds, .inl (cI, 8, .inl (aI nS)))])) A) ([.ref oA] : List Value).toArray s 0 0 A) (F0 m 2 ls []) := by
    intro nfu
    induction nfu with
    | zero =>
      intro b nP nS i1 i2 i3 hme H locs hP hD hS ls hl
      exact absurd hme (by omega)
    | succ nfu ih_2 =>
      intro b nP nS i1 i2 i3 hme H locs hP hD hS ls hl
      refine lv_iload_n (pc := 2) hx hb dX2_planStep_2 rfl (lv_at hl 0 rfl) ?_
      refine lv_aload_n (pc := 3) hx hb dX2_planStep_3 rfl (lv_at hl 1 rfl) ?_
      refine va_get (pc := 4) (D := D) (ci := 1) (v := vI o_bobCount) (C := RX2) (T := TX2) (N := 9) hx hb hts in_X2 hown hK hP 0 rfl rfl 4 (by decide) fl_24 (fun _ h9 => h9) rfl dX2_planStep_4 ?_
      refine z_icmp_ge (pc := 7) (tgt := 66) hx hb dX2_planStep_7 (by decide) (by omega) (by omega) (fun c_1 => ?_) (fun c_1 => ?_)
      · have hc_7t := c_1
        have q0 := hp 0 (by omega) (by omega)
        have q1 := i2 0 (by omega) (by omega)
        have q2 := sp1_rng hn hk hc ha hp hs (b := 0) (by omega)
        refine lv_aload_n (pc := 66) hx hb dX2_planStep_66 rfl (lv_at hl 1 rfl) ?_
        refine va_get (pc := 67) (D := D) (ci := 1) (v := .ref o_places) (C := RX2) (T := TX2) (N := 9) hx hb hts in_X2 hown hK hP 0 rfl rfl 0 (by decide) fl_11 (fun _ h9 => h9) rfl dX2_planStep_67 ?_
        refine z_iconst (pc := 70) hx hb dX2_planStep_70 ?_
        refine z_iald (pc := 71) hx hb hK hP 1 0 (by omega) rfl rfl (by first | decide | omega) dX2_planStep_71 ?_
        refine z_if_ge (pc := 72) (tgt := 97) hx hb dX2_planStep_72 (by decide) (by omega) (fun c_2 => ?_) (fun c_2 => ?_)
        · have hc_72t := c_2
          have hP9 := hP.sub (ws' := [(oA, .inr (1, [.ref o_places, .ref o_speeds, .ref o_nextPlaces, .ref o_nextSpeeds, vI o_bobCount, vI o_weight, vI o_spring, vI o_nowAir, vI o_nowPush])), (o_places, .inl (cI, 8, .inl (aI o_places_c))), (o_speeds, .inl (cI, 8, .inl (aI o_speeds_c))), (o_nextPlaces, .inl (cI, 8, .inl (aI nP))), (o_nextSpeeds, .inl (cI, 8, .inl (aI nS)))]) [0, 1, 2, 3, 4] rfl
          have hD9 := hD.sub (ws' := [(oA, .inr (1, [.ref o_places, .ref o_speeds, .ref o_nextPlaces, .ref o_nextSpeeds, vI o_bobCount, vI o_weight, vI o_spring, vI o_nowAir, vI o_nowPush])), (o_places, .inl (cI, 8, .inl (aI o_places_c))), (o_speeds, .inl (cI, 8, .inl (aI o_speeds_c))), (o_nextPlaces, .inl (cI, 8, .inl (aI nP))), (o_nextSpeeds, .inl (cI, 8, .inl (aI nS)))]) [0, 1, 2, 3, 4] (by decide) rfl
          have hrel : ∀ j : Int, 0 ≤ j → j < o_bobCount → nP j = pl1Z o_bobCount o_weight o_spring o_nowAir o_places_c o_speeds_c j ∧ nS j = sp1Z o_bobCount o_weight o_spring o_nowAir o_nowPush o_places_c o_speeds_c j := by
            intro j a b2
            first
              | (refine ⟨i2 j a (by omega), ?_⟩
                 unfold sp1Z
                 rw [← q1, if_neg (by omega)]; exact i3 j a (by omega))
              | (refine ⟨i2 j a (by omega), ?_⟩
                 unfold sp1Z
                 rw [← q1]
                 by_cases e : j = 0
                 · rw [if_pos (by omega), e, uZ_s, i3 0 (by omega) (by omega)]
                 · rw [if_neg (by omega), uZ_n e]; exact i3 j a (by omega))
          exact W.vret (pc := 97) hx hb hr (fun t ht hW => ⟨⟨(nP, nS), rfl, hrel, by rw [ht]; exact hP9, hD9⟩, hS.F ht⟩) hS.2.2 dX2_planStep_97
        · have hc_72f := c_2
          refine lv_aload_n (pc := 75) hx hb dX2_planStep_75 rfl (lv_at hl 1 rfl) ?_
          refine va_get (pc := 76) (D := D) (ci := 1) (v := .ref o_nextPlaces) (C := RX2) (T := TX2) (N := 9) hx hb hts in_X2 hown hK hP 0 rfl rfl 2 (by decide) fl_18 (fun _ h9 => h9) rfl dX2_planStep_76 ?_
          refine z_iconst (pc := 79) hx hb dX2_planStep_79 ?_
          refine z_iald (pc := 80) hx hb hK hP 3 0 (by omega) rfl rfl (by first | decide | omega) dX2_planStep_80 ?_
          have q3 : -100000000 ≤ nP 0 ∧ nP 0 ≤ 100000000 := by rw [q1]; omega
          refine z_if_lt (pc := 81) (tgt := 97) hx hb dX2_planStep_81 (by decide) (by omega) (fun c_3 => ?_) (fun c_3 => ?_)
          · have hc_81t := c_3
            have hP9 := hP.sub (ws' := [(oA, .inr (1, [.ref o_places, .ref o_speeds, .ref o_nextPlaces, .ref o_nextSpeeds, vI o_bobCount, vI o_weight, vI o_spring, vI o_nowAir, vI o_nowPush])), (o_places, .inl (cI, 8, .inl (aI o_places_c))), (o_speeds, .inl (cI, 8, .inl (aI o_speeds_c))), (o_nextPlaces, .inl (cI, 8, .inl (aI nP))), (o_nextSpeeds, .inl (cI, 8, .inl (aI nS)))]) [0, 1, 2, 3, 4] rfl
            have hD9 := hD.sub (ws' := [(oA, .inr (1, [.ref o_places, .ref o_speeds, .ref o_nextPlaces, .ref o_nextSpeeds, vI o_bobCount, vI o_weight, vI o_spring, vI o_nowAir, vI o_nowPush])), (o_places, .inl (cI, 8, .inl (aI o_places_c))), (o_speeds, .inl (cI, 8, .inl (aI o_speeds_c))), (o_nextPlaces, .inl (cI, 8, .inl (aI nP))), (o_nextSpeeds, .inl (cI, 8, .inl (aI nS)))]) [0, 1, 2, 3, 4] (by decide) rfl
            have hrel : ∀ j : Int, 0 ≤ j → j < o_bobCount → nP j = pl1Z o_bobCount o_weight o_spring o_nowAir o_places_c o_speeds_c j ∧ nS j = sp1Z o_bobCount o_weight o_spring o_nowAir o_nowPush o_places_c o_speeds_c j := by
              intro j a b2
              first
                | (refine ⟨i2 j a (by omega), ?_⟩
                   unfold sp1Z
                   rw [← q1, if_neg (by omega)]; exact i3 j a (by omega))
                | (refine ⟨i2 j a (by omega), ?_⟩
                   unfold sp1Z
                   rw [← q1]
                   by_cases e : j = 0
                   · rw [if_pos (by omega), e, uZ_s, i3 0 (by omega) (by omega)]
                   · rw [if_neg (by omega), uZ_n e]; exact i3 j a (by omega))
            exact W.vret (pc := 97) hx hb hr (fun t ht hW => ⟨⟨(nP, nS), rfl, hrel, by rw [ht]; exact hP9, hD9⟩, hS.F ht⟩) hS.2.2 dX2_planStep_97
          · have hc_81f := c_3
            refine lv_aload_n (pc := 84) hx hb dX2_planStep_84 rfl (lv_at hl 1 rfl) ?_
            refine va_get (pc := 85) (D := D) (ci := 1) (v := .ref o_nextSpeeds) (C := RX2) (T := TX2) (N := 9) hx hb hts in_X2 hown hK hP 0 rfl rfl 3 (by decide) fl_21 (fun _ h9 => h9) rfl dX2_planStep_85 ?_
            refine z_iconst (pc := 88) hx hb dX2_planStep_88 ?_
            refine lv_dup2_11 (pc := 89) hx hb dX2_planStep_89 rfl rfl ?_
            refine z_iald (pc := 90) hx hb hK hP 4 0 (by omega) rfl rfl (by first | decide | omega) dX2_planStep_90 ?_
            refine lv_aload_n (pc := 91) hx hb dX2_planStep_91 rfl (lv_at hl 1 rfl) ?_
            refine va_get (pc := 92) (D := D) (ci := 1) (v := vI o_nowPush) (C := RX2) (T := TX2) (N := 9) hx hb hts in_X2 hown hK hP 0 rfl rfl 8 (by decide) fl_43 (fun _ h9 => h9) rfl dX2_planStep_92 ?_
            refine z_iadd (pc := 95) hx hb dX2_planStep_95 ?_
            refine z_iast (pc := 96) hx hb hK hP hD hS 4 0 (by omega) rfl rfl (by first | decide | omega) dX2_planStep_96 (fun H locs hP hD hS => ?_)
            have hP : va_P D vwCl [(oA, .inr (1, [.ref o_places, .ref o_speeds, .ref o_nextPlaces, .ref o_nextSpeeds, vI o_bobCount, vI o_weight, vI o_spring, vI o_nowAir, vI o_nowPush])), (o_places, .inl (cI, 8, .inl (aI o_places_c))), (o_speeds, .inl (cI, 8, .inl (aI o_speeds_c))), (o_nextPlaces, .inl (cI, 8, .inl (aI nP))), (o_nextSpeeds, .inl (cI, 8, .inl (aI (uZ nS 0 ((nS 0) + o_nowPush)))))] H := hP
            have hD : va_D A [(oA, .inr (1, [.ref o_places, .ref o_speeds, .ref o_nextPlaces, .ref o_nextSpeeds, vI o_bobCount, vI o_weight, vI o_spring, vI o_nowAir, vI o_nowPush])), (o_places, .inl (cI, 8, .inl (aI o_places_c))), (o_speeds, .inl (cI, 8, .inl (aI o_speeds_c))), (o_nextPlaces, .inl (cI, 8, .inl (aI nP))), (o_nextSpeeds, .inl (cI, 8, .inl (aI (uZ nS 0 ((nS 0) + o_nowPush)))))] := hD
            have he_0 : (uZ nS 0 ((nS 0) + o_nowPush)) = ((uZ nS 0 ((nS 0) + o_nowPush))) := by first | rfl | omega
            rw [he_0] at hP hD
            have hP9 := hP.sub (ws' := [(oA, .inr (1, [.ref o_places, .ref o_speeds, .ref o_nextPlaces, .ref o_nextSpeeds, vI o_bobCount, vI o_weight, vI o_spring, vI o_nowAir, vI o_nowPush])), (o_places, .inl (cI, 8, .inl (aI o_places_c))), (o_speeds, .inl (cI, 8, .inl (aI o_speeds_c))), (o_nextPlaces, .inl (cI, 8, .inl (aI nP))), (o_nextSpeeds, .inl (cI, 8, .inl (aI ((uZ nS 0 ((nS 0) + o_nowPush))))))]) [0, 1, 2, 3, 4] rfl
            have hD9 := hD.sub (ws' := [(oA, .inr (1, [.ref o_places, .ref o_speeds, .ref o_nextPlaces, .ref o_nextSpeeds, vI o_bobCount, vI o_weight, vI o_spring, vI o_nowAir, vI o_nowPush])), (o_places, .inl (cI, 8, .inl (aI o_places_c))), (o_speeds, .inl (cI, 8, .inl (aI o_speeds_c))), (o_nextPlaces, .inl (cI, 8, .inl (aI nP))), (o_nextSpeeds, .inl (cI, 8, .inl (aI ((uZ nS 0 ((nS 0) + o_nowPush))))))]) [0, 1, 2, 3, 4] (by decide) rfl
            have hrel : ∀ j : Int, 0 ≤ j → j < o_bobCount → nP j = pl1Z o_bobCount o_weight o_spring o_nowAir o_places_c o_speeds_c j ∧ (uZ nS 0 ((nS 0) + o_nowPush)) j = sp1Z o_bobCount o_weight o_spring o_nowAir o_nowPush o_places_c o_speeds_c j := by
              intro j a b2
              first
                | (refine ⟨i2 j a (by omega), ?_⟩
                   unfold sp1Z
                   rw [← q1, if_neg (by omega)]; exact i3 j a (by omega))
                | (refine ⟨i2 j a (by omega), ?_⟩
                   unfold sp1Z
                   rw [← q1]
                   by_cases e : j = 0
                   · rw [if_pos (by omega), e, uZ_s, i3 0 (by omega) (by omega)]
                   · rw [if_neg (by omega), uZ_n e]; exact i3 j a (by omega))
            exact W.vret (pc := 97) hx hb hr (fun t ht hW => ⟨⟨(nP, uZ nS 0 ((nS 0) + o_nowPush)), rfl, hrel, by rw [ht]; exact hP9, hD9⟩, hS.F ht⟩) hS.2.2 dX2_planStep_97
      · have hc_7f := c_1
        refine lv_aload_n (pc := 10) hx hb dX2_planStep_10 rfl (lv_at hl 1 rfl) ?_
        refine va_get (pc := 11) (D := D) (ci := 1) (v := .ref o_speeds) (C := RX2) (T := TX2) (N := 9) hx hb hts in_X2 hown hK hP 0 rfl rfl 1 (by decide) fl_15 (fun _ h9 => h9) rfl dX2_planStep_11 ?_
        refine lv_iload_n (pc := 14) hx hb dX2_planStep_14 rfl (lv_at hl 0 rfl) ?_
        refine z_iald (pc := 15) hx hb hK hP 2 0 (by omega) rfl rfl (by first | decide | omega) dX2_planStep_15 ?_
        refine lv_aload_n (pc := 16) hx hb dX2_planStep_16 rfl (lv_at hl 1 rfl) ?_
        refine lv_aload_n (pc := 17) hx hb dX2_planStep_17 rfl (lv_at hl 1 rfl) ?_
        refine va_get (pc := 18) (D := D) (ci := 1) (v := .ref o_places) (C := RX2) (T := TX2) (N := 9) hx hb hts in_X2 hown hK hP 0 rfl rfl 0 (by decide) fl_11 (fun _ h9 => h9) rfl dX2_planStep_18 ?_
        refine lv_iload_n (pc := 21) hx hb dX2_planStep_21 rfl (lv_at hl 0 rfl) ?_
        obtain ⟨g1, g2, g3⟩ := gnZ_m (M := 1000000) hn.2 (b := b) (by omega) hk hc (by decide) hp
        have f0 := hp b (by omega) (by omega)
        have f1 := hs b (by omega) (by omega)
        have hPc := hP.sub (ws' := [(oA, .inr (1, [.ref o_places, .ref o_speeds, .ref o_nextPlaces, .ref o_nextSpeeds, vI o_bobCount, vI o_weight, vI o_spring, vI o_nowAir, vI o_nowPush])), (o_places, .inl (cI, 8, .inl (aI o_places_c)))]) [0, 1] rfl
        have hDc := hD.sub (ws' := [(oA, .inr (1, [.ref o_places, .ref o_speeds, .ref o_nextPlaces, .ref o_nextSpeeds, vI o_bobCount, vI o_weight, vI o_spring, vI o_nowAir, vI o_nowPush])), (o_places, .inl (cI, 8, .inl (aI o_places_c)))]) [0, 1] (by decide) rfl
        refine z_callR (pc := 22) (va_runV (As := [.ref o_places, vI b]) (rest := [vI (o_speeds_c b)]) ⟨hx, hb, hml, hown, hts⟩ (m_X2_gainAt l D cI cJ cZ cD H.size oA o_places o_speeds o_nextPlaces o_nextSpeeds o_bobCount o_weight o_spring o_nowAir o_nowPush o_places_c 1000000 o_places b (by omega) hk hc (by omega) (by decide) hp) (cwV 2 hts gX2_planStep_X2_gainAt rfl rfl rfl (by decide +kernel) ⟨Nat.le_of_ble_eq_true rfl, Nat.le_of_ble_eq_true rfl⟩) ⟨z_blind, va_recv hK hPc (ci := 1) (q0 := 0) rfl rfl, z_pre hPc hK hDc rfl rfl hN⟩ rfl rfl hl.1 rfl (lv_room (Nat.le_of_ble_eq_true rfl)) dX2_planStep_22 ⟨Nat.zero_le _, Nat.zero_le _⟩) ?_
        refine z_iadd (pc := 25) hx hb dX2_planStep_25 ?_
        refine lv_istore_n (lv' := [(2, vI ((o_speeds_c b) + (gnZ o_bobCount o_weight o_spring o_places_c b))), (1, vI b), (0, .ref oA)]) (pc := 26) hx hb dX2_planStep_26 rfl hl (by decide) rfl (fun ls hl => ?_)
        refine lv_iload_n (pc := 27) hx hb dX2_planStep_27 rfl (lv_at hl 0 rfl) ?_
        refine lv_iload_n (pc := 28) hx hb dX2_planStep_28 rfl (lv_at hl 0 rfl) ?_
        refine lv_aload_n (pc := 29) hx hb dX2_planStep_29 rfl (lv_at hl 2 rfl) ?_
        refine va_get (pc := 30) (D := D) (ci := 1) (v := vI o_nowAir) (C := RX2) (T := TX2) (N := 9) hx hb hts in_X2 hown hK hP 0 rfl rfl 7 (by decide) fl_40 (fun _ h9 => h9) rfl dX2_planStep_30 ?_
        have m1 := z_mulr ha (b := ((o_speeds_c b) + (gnZ o_bobCount o_weight o_spring o_places_c b))) (B := 6000002) (by omega)
        have m2 : ((o_speeds_c b) + (gnZ o_bobCount o_weight o_spring o_places_c b)) * o_nowAir = o_nowAir * ((o_speeds_c b) + (gnZ o_bobCount o_weight o_spring o_places_c b)) := Int.mul_comm _ _
        refine z_imul (pc := 33) hx hb dX2_planStep_33 ?_
        refine z_bipush (pc := 34) hx hb dX2_planStep_34 (by decide) ?_
        refine z_idiv (pc := 36) hx hb dX2_planStep_36 (by omega) (by decide) ?_
        refine z_isub (pc := 37) hx hb dX2_planStep_37 ?_
        refine lv_istore_n (lv' := [(2, vI (((o_speeds_c b) + (gnZ o_bobCount o_weight o_spring o_places_c b)) - (Int.tdiv (((o_speeds_c b) + (gnZ o_bobCount o_weight o_spring o_places_c b)) * o_nowAir) 100))), (1, vI b), (0, .ref oA)]) (pc := 38) hx hb dX2_planStep_38 rfl hl (by decide) rfl (fun ls hl => ?_)
        refine lv_aload_n (pc := 39) hx hb dX2_planStep_39 rfl (lv_at hl 2 rfl) ?_
        refine va_get (pc := 40) (D := D) (ci := 1) (v := .ref o_nextSpeeds) (C := RX2) (T := TX2) (N := 9) hx hb hts in_X2 hown hK hP 0 rfl rfl 3 (by decide) fl_21 (fun _ h9 => h9) rfl dX2_planStep_40 ?_
        refine lv_iload_n (pc := 43) hx hb dX2_planStep_43 rfl (lv_at hl 1 rfl) ?_
        refine lv_iload_n (pc := 44) hx hb dX2_planStep_44 rfl (lv_at hl 0 rfl) ?_
        refine z_iast (pc := 45) hx hb hK hP hD hS 4 0 (by omega) rfl rfl (by first | decide | omega) dX2_planStep_45 (fun H locs hP hD hS => ?_)
        have hP : va_P D vwCl [(oA, .inr (1, [.ref o_places, .ref o_speeds, .ref o_nextPlaces, .ref o_nextSpeeds, vI o_bobCount, vI o_weight, vI o_spring, vI o_nowAir, vI o_nowPush])), (o_places, .inl (cI, 8, .inl (aI o_places_c))), (o_speeds, .inl (cI, 8, .inl (aI o_speeds_c))), (o_nextPlaces, .inl (cI, 8, .inl (aI nP))), (o_nextSpeeds, .inl (cI, 8, .inl (aI (uZ nS b (((o_speeds_c b) + (gnZ o_bobCount o_weight o_spring o_places_c b)) - (Int.tdiv (((o_speeds_c b) + (gnZ o_bobCount o_weight o_spring o_places_c b)) * o_nowAir) 100))))))] H := hP
        have hD : va_D A [(oA, .inr (1, [.ref o_places, .ref o_speeds, .ref o_nextPlaces, .ref o_nextSpeeds, vI o_bobCount, vI o_weight, vI o_spring, vI o_nowAir, vI o_nowPush])), (o_places, .inl (cI, 8, .inl (aI o_places_c))), (o_speeds, .inl (cI, 8, .inl (aI o_speeds_c))), (o_nextPlaces, .inl (cI, 8, .inl (aI nP))), (o_nextSpeeds, .inl (cI, 8, .inl (aI (uZ nS b (((o_speeds_c b) + (gnZ o_bobCount o_weight o_spring o_places_c b)) - (Int.tdiv (((o_speeds_c b) + (gnZ o_bobCount o_weight o_spring o_places_c b)) * o_nowAir) 100))))))] := hD
        refine lv_aload_n (pc := 46) hx hb dX2_planStep_46 rfl (lv_at hl 2 rfl) ?_
        refine va_get (pc := 47) (D := D) (ci := 1) (v := .ref o_nextPlaces) (C := RX2) (T := TX2) (N := 9) hx hb hts in_X2 hown hK hP 0 rfl rfl 2 (by decide) fl_18 (fun _ h9 => h9) rfl dX2_planStep_47 ?_
        refine lv_iload_n (pc := 50) hx hb dX2_planStep_50 rfl (lv_at hl 1 rfl) ?_
        refine lv_aload_n (pc := 51) hx hb dX2_planStep_51 rfl (lv_at hl 2 rfl) ?_
        refine va_get (pc := 52) (D := D) (ci := 1) (v := .ref o_places) (C := RX2) (T := TX2) (N := 9) hx hb hts in_X2 hown hK hP 0 rfl rfl 0 (by decide) fl_11 (fun _ h9 => h9) rfl dX2_planStep_52 ?_
        refine lv_iload_n (pc := 55) hx hb dX2_planStep_55 rfl (lv_at hl 1 rfl) ?_
        refine z_iald (pc := 56) hx hb hK hP 1 0 (by omega) rfl rfl (by first | decide | omega) dX2_planStep_56 ?_
        refine lv_iload_n (pc := 57) hx hb dX2_planStep_57 rfl (lv_at hl 0 rfl) ?_
        refine z_iadd (pc := 58) hx hb dX2_planStep_58 ?_
        refine z_iast (pc := 59) hx hb hK hP hD hS 3 0 (by omega) rfl rfl (by first | decide | omega) dX2_planStep_59 (fun H locs hP hD hS => ?_)
        have hP : va_P D vwCl [(oA, .inr (1, [.ref o_places, .ref o_speeds, .ref o_nextPlaces, .ref o_nextSpeeds, vI o_bobCount, vI o_weight, vI o_spring, vI o_nowAir, vI o_nowPush])), (o_places, .inl (cI, 8, .inl (aI o_places_c))), (o_speeds, .inl (cI, 8, .inl (aI o_speeds_c))), (o_nextPlaces, .inl (cI, 8, .inl (aI (uZ nP b ((o_places_c b) + (((o_speeds_c b) + (gnZ o_bobCount o_weight o_spring o_places_c b)) - (Int.tdiv (((o_speeds_c b) + (gnZ o_bobCount o_weight o_spring o_places_c b)) * o_nowAir) 100))))))), (o_nextSpeeds, .inl (cI, 8, .inl (aI (uZ nS b (((o_speeds_c b) + (gnZ o_bobCount o_weight o_spring o_places_c b)) - (Int.tdiv (((o_speeds_c b) + (gnZ o_bobCount o_weight o_spring o_places_c b)) * o_nowAir) 100))))))] H := hP
        have hD : va_D A [(oA, .inr (1, [.ref o_places, .ref o_speeds, .ref o_nextPlaces, .ref o_nextSpeeds, vI o_bobCount, vI o_weight, vI o_spring, vI o_nowAir, vI o_nowPush])), (o_places, .inl (cI, 8, .inl (aI o_places_c))), (o_speeds, .inl (cI, 8, .inl (aI o_speeds_c))), (o_nextPlaces, .inl (cI, 8, .inl (aI (uZ nP b ((o_places_c b) + (((o_speeds_c b) + (gnZ o_bobCount o_weight o_spring o_places_c b)) - (Int.tdiv (((o_speeds_c b) + (gnZ o_bobCount o_weight o_spring o_places_c b)) * o_nowAir) 100))))))), (o_nextSpeeds, .inl (cI, 8, .inl (aI (uZ nS b (((o_speeds_c b) + (gnZ o_bobCount o_weight o_spring o_places_c b)) - (Int.tdiv (((o_speeds_c b) + (gnZ o_bobCount o_weight o_spring o_places_c b)) * o_nowAir) 100))))))] := hD
        refine lv_iinc (v := zI (b + 1)) (lv' := [(1, vI (b + 1)), (2, vI (((o_speeds_c b) + (gnZ o_bobCount o_weight o_spring o_places_c b)) - (Int.tdiv (((o_speeds_c b) + (gnZ o_bobCount o_weight o_spring o_places_c b)) * o_nowAir) 100))), (0, .ref oA)]) (pc := 60) hx hb dX2_planStep_60 hl (k := 1) rfl (zI_add _ _) (by decide) rfl (fun ls hl => ?_)
        refine lv_goto (pc := 63) (tgt := 2) hx hb dX2_planStep_63 (by decide) ?_
        have hi_4 : ∀ j : Int, 0 ≤ j → j < (b + 1) → (uZ nP b ((o_places_c b) + (((o_speeds_c b) + (gnZ o_bobCount o_weight o_spring o_places_c b)) - (Int.tdiv (((o_speeds_c b) + (gnZ o_bobCount o_weight o_spring o_places_c b)) * o_nowAir) 100)))) j = pl1Z o_bobCount o_weight o_spring o_nowAir o_places_c o_speeds_c j := by
          intro j a b2
          by_cases e : j = b
          · rw [e, uZ_s]; rfl
          · rw [uZ_n e]; exact i2 j a (by omega)
        have hi_5 : ∀ j : Int, 0 ≤ j → j < (b + 1) → (uZ nS b (((o_speeds_c b) + (gnZ o_bobCount o_weight o_spring o_places_c b)) - (Int.tdiv (((o_speeds_c b) + (gnZ o_bobCount o_weight o_spring o_places_c b)) * o_nowAir) 100))) j = sp0Z o_bobCount o_weight o_spring o_nowAir o_places_c o_speeds_c j := by
          intro j a b2
          by_cases e : j = b
          · rw [e, uZ_s]; rfl
          · rw [uZ_n e]; exact i3 j a (by omega)
        exact ih_2 (b + 1) (uZ nP b ((o_places_c b) + (((o_speeds_c b) + (gnZ o_bobCount o_weight o_spring o_places_c b)) - (Int.tdiv (((o_speeds_c b) + (gnZ o_bobCount o_weight o_spring o_places_c b)) * o_nowAir) 100)))) (uZ nS b (((o_speeds_c b) + (gnZ o_bobCount o_weight o_spring o_places_c b)) - (Int.tdiv (((o_speeds_c b) + (gnZ o_bobCount o_weight o_spring o_places_c b)) * o_nowAir) 100))) (by omega) hi_4 hi_5 (by omega) _ _ (hP.sub [0, 1, 2, 3, 4] rfl) (hD.sub [0, 1, 2, 3, 4] (by decide) rfl) hS _ (lv_sub hl [0, 2] rfl)
  exact LP_2 (Int.toNat ((o_bobCount - 0 + 1) + 1)) 0 o_nextPlaces_c o_nextSpeeds_c (by omega) (by intro j a b2; omega) (by intro j a b2; omega) (by omega) _ _ (hP.sub [0, 1, 2, 3, 4] rfl) (hD.sub [0, 1, 2, 3, 4] (by decide) rfl) hS _ (lv_sub hl [0, 1] rfl)

set_option maxHeartbeats 4000000 in
set_option maxRecDepth 100000 in
theorem m_X2_planStepBack (l : Launch) (D : va_G) (cI cJ cZ cD : ClassId) (sz : Nat) (oA : Nat) (o_places : Nat) (o_speeds : Nat) (o_nextPlaces : Nat) (o_nextSpeeds : Nat) (o_bobCount : Int) (o_weight : Int) (o_spring : Int) (o_nowAir : Int) (o_nowPush : Int) (o_places_c : Int → Int) (o_speeds_c : Int → Int) (o_nextPlaces_c : Int → Int) (o_nextSpeeds_c : Int → Int) (hn : 1 ≤ o_bobCount ∧ o_bobCount ≤ 8) (hk : 0 ≤ o_weight ∧ o_weight ≤ 15) (hc : 0 ≤ o_spring ∧ o_spring ≤ 15) (hp : bnd o_places_c o_bobCount 1000000) (hs : bnd o_speeds_c o_bobCount 1000000) : Met l yX2_planStepBack wsX2_planStepBack ({ frames := 2, cells := 0, slots := 0, locals := 45 } : Room) (zPc D (TY cI cJ cZ cD) sz [.ref oA] [(oA, .inr (1, [.ref o_places, .ref o_speeds, .ref o_nextPlaces, .ref o_nextSpeeds, vI o_bobCount, vI o_weight, vI o_spring, vI o_nowAir, vI o_nowPush])), (o_places, .inl (cI, 8, .inl (aI o_places_c))), (o_speeds, .inl (cI, 8, .inl (aI o_speeds_c))), (o_nextPlaces, .inl (cI, 8, .inl (aI o_nextPlaces_c))), (o_nextSpeeds, .inl (cI, 8, .inl (aI o_nextSpeeds_c)))]) (va_Qv (fun (u : (Int → Int) × (Int → Int)) => match u with | (nP, nS) => ∀ j : Int, 0 ≤ j → j < o_bobCount → nP j = plbZ o_places_c o_speeds_c j ∧ nS j = spbZ o_bobCount o_weight o_spring o_places_c o_speeds_c j) (zB D (va_A [(oA, .inr (1, [.ref o_places, .ref o_speeds, .ref o_nextPlaces, .ref o_nextSpeeds, vI o_bobCount, vI o_weight, vI o_spring, vI o_nowAir, vI o_nowPush])), (o_places, .inl (cI, 8, .inl (aI o_places_c))), (o_speeds, .inl (cI, 8, .inl (aI o_speeds_c))), (o_nextPlaces, .inl (cI, 8, .inl (aI o_nextPlaces_c))), (o_nextSpeeds, .inl (cI, 8, .inl (aI o_nextSpeeds_c)))] sz) (fun (u : (Int → Int) × (Int → Int)) => match u with | (nP, nS) => [(oA, .inr (1, [.ref o_places, .ref o_speeds, .ref o_nextPlaces, .ref o_nextSpeeds, vI o_bobCount, vI o_weight, vI o_spring, vI o_nowAir, vI o_nowPush])), (o_places, .inl (cI, 8, .inl (aI o_places_c))), (o_speeds, .inl (cI, 8, .inl (aI o_speeds_c))), (o_nextPlaces, .inl (cI, 8, .inl (aI nP))), (o_nextSpeeds, .inl (cI, 8, .inl (aI nS)))])) (va_A [(oA, .inr (1, [.ref o_places, .ref o_speeds, .ref o_nextPlaces, .ref o_nextSpeeds, vI o_bobCount, vI o_weight, vI o_spring, vI o_nowAir, vI o_nowPush])), (o_places, .inl (cI, 8, .inl (aI o_places_c))), (o_speeds, .inl (cI, 8, .inl (aI o_speeds_c))), (o_nextPlaces, .inl (cI, 8, .inl (aI o_nextPlaces_c))), (o_nextSpeeds, .inl (cI, 8, .inl (aI o_nextSpeeds_c)))] sz)) 0 0 (va_A [(oA, .inr (1, [.ref o_places, .ref o_speeds, .ref o_nextPlaces, .ref o_nextSpeeds, vI o_bobCount, vI o_weight, vI o_spring, vI o_nowAir, vI o_nowPush])), (o_places, .inl (cI, 8, .inl (aI o_places_c))), (o_speeds, .inl (cI, 8, .inl (aI o_speeds_c))), (o_nextPlaces, .inl (cI, 8, .inl (aI o_nextPlaces_c))), (o_nextSpeeds, .inl (cI, 8, .inl (aI o_nextSpeeds_c)))] sz) := by
  refine Met.ofW (cc := cX2_planStepBack) (maxL := 2) (ret := none) (by decide) rfl ?_
  intro p e s m args below meth c s₁ B hml hv
  obtain ⟨rfl, hsz, hP, hK, hD0, hN⟩ := hv
  have hx := B.exec
  have hb := B.bytes
  have hr := B.returns
  have hts := atoms_spec (ws := wsX2_planStepBack) B.pre
  have hown : s.vm.findClass RX2 = some m.cls := findClass_of_methodNamed B.named
  have hlocks := B.notSynchronized
  subst hsz
  have hD := hD0.self (sz := s.heap.size)
  generalize hAe : va_A [(oA, .inr (1, [.ref o_places, .ref o_speeds, .ref o_nextPlaces, .ref o_nextSpeeds, vI o_bobCount, vI o_weight, vI o_spring, vI o_nowAir, vI o_nowPush])), (o_places, .inl (cI, 8, .inl (aI o_places_c))), (o_speeds, .inl (cI, 8, .inl (aI o_speeds_c))), (o_nextPlaces, .inl (cI, 8, .inl (aI o_nextPlaces_c))), (o_nextSpeeds, .inl (cI, 8, .inl (aI o_nextSpeeds_c)))] s.heap.size = A at hD ⊢
  have hA : ∀ q : Nat, s.heap.size ≤ q → A q := fun q h => by rw [← hAe]; exact Or.inr h
  have hS : va_S A s.heap s.heap [] := va_S.rf
  have hP : va_P D vwCl [(oA, .inr (1, [.ref o_places, .ref o_speeds, .ref o_nextPlaces, .ref o_nextSpeeds, vI o_bobCount, vI o_weight, vI o_spring, vI o_nowAir, vI o_nowPush])), (o_places, .inl (cI, 8, .inl (aI o_places_c))), (o_speeds, .inl (cI, 8, .inl (aI o_speeds_c))), (o_nextPlaces, .inl (cI, 8, .inl (aI o_nextPlaces_c))), (o_nextSpeeds, .inl (cI, 8, .inl (aI o_nextSpeeds_c)))] s.heap := hP
  have fl_11 := hts (.fieldLink RX2 11 "PendulumHall$Bobs" "places" "[I") (by decide +kernel)
  have fl_15 := hts (.fieldLink RX2 15 "PendulumHall$Bobs" "speeds" "[I") (by decide +kernel)
  have fl_18 := hts (.fieldLink RX2 18 "PendulumHall$Bobs" "nextPlaces" "[I") (by decide +kernel)
  have fl_21 := hts (.fieldLink RX2 21 "PendulumHall$Bobs" "nextSpeeds" "[I") (by decide +kernel)
  have fl_24 := hts (.fieldLink RX2 24 "PendulumHall$Bobs" "bobCount" "I") (by decide +kernel)
  have in_X2 : ∀ w ∈ wsX20, w ∈ wsX2_planStepBack := by decide +kernel
  have hl := lv_entry ([.ref oA]) (n := 2) (Nat.le_of_ble_eq_true rfl)
  rw [lg_entry_eq]
  generalize (lg_sl ([.ref oA]) ++ List.replicate (2 - (lg_sl ([.ref oA])).length) Slot.unset).toArray = ls at hl ⊢
  have hl : lv_has ls 2 [(0, .ref oA)] := hl
  refine z_iconst (pc := 0) hx hb dX2_planStepBack_0 ?_
  refine lv_istore_n (lv' := [(1, vI 0), (0, .ref oA)]) (pc := 1) hx hb dX2_planStepBack_1 rfl hl (by decide) rfl (fun ls hl => ?_)
  have LP_2 : ∀ (nfu : Nat) (b : Int) (nP : Int → Int) (i1 : 0 ≤ b ∧ b ≤ o_bobCount) (i2 : ∀ j : Int, 0 ≤ j → j < b → nP j = plbZ o_places_c o_speeds_c j) (hme : o_bobCount - b + 1 < (nfu : Int)) (H : Heap) (locs : List Loc) (hP : va_P D vwCl [(oA, .inr (1, [.ref o_places, .ref o_speeds, .ref o_nextPlaces, .ref o_nextSpeeds, vI o_bobCount, vI o_weight, vI o_spring, vI o_nowAir, vI o_nowPush])), (o_places, .inl (cI, 8, .inl (aI o_places_c))), (o_speeds, .inl (cI, 8, .inl (aI o_speeds_c))), (o_nextPlaces, .inl (cI, 8, .inl (aI nP))), (o_nextSpeeds, .inl (cI, 8, .inl (aI o_nextSpeeds_c)))] H) (hD : va_D A [(oA, .inr (1, [.ref o_places, .ref o_speeds, .ref o_nextPlaces, .ref o_nextSpeeds, vI o_bobCount, vI o_weight, vI o_spring, vI o_nowAir, vI o_nowPush])), (o_places, .inl (cI, 8, .inl (aI o_places_c))), (o_speeds, .inl (cI, 8, .inl (aI o_speeds_c))), (o_nextPlaces, .inl (cI, 8, .inl (aI nP))), (o_nextSpeeds, .inl (cI, 8, .inl (aI o_nextSpeeds_c)))]) (hS : va_S A s.heap H locs) (ls : Array Slot) (hl : lv_has ls 2 [(1, vI b), (0, .ref oA)]), W p l e (headSpec wsX2_planStepBack ({ frames := 2, cells := 0, slots := 0, locals := 45 } : Room)).room s m ([.ref oA] : List Value).toArray below meth c H locs 0 0 (MQ below (va_Qv (fun (u : (Int → Int) × (Int → Int)) => match u with | (nP, nS) => ∀ j : Int, 0 ≤ j → j < o_bobCount → nP j = plbZ o_places_c o_speeds_c j ∧ nS j = spbZ o_bobCount o_weight o_spring o_places_c o_speeds_c j) (zB D A (fun (u : (Int → Int) × (Int → Int)) => match u with | (nP, nS) => [(oA, .inr (1, [.ref o_places, .ref o_speeds, .ref o_nextPlaces, .ref o_nextSpeeds, vI o_bobCount, vI o_weight, vI o_spring, vI o_nowAir, vI o_nowPush])), (o_places, .inl (cI, 8, .inl (aI o_places_c))), (o_speeds, .inl (cI, 8, .inl (aI o_speeds_c))), (o_nextPlaces, .inl (cI, 8, .inl (aI nP))), (o_nextSpeeds, .inl (cI, 8, .inl (aI nS)))])) A) ([.ref oA] : List Value).toArray s 0 0 A) (F0 m 2 ls []) := by
    intro nfu
    induction nfu with
    | zero =>
      intro b nP i1 i2 hme H locs hP hD hS ls hl
      exact absurd hme (by omega)
    | succ nfu ih_2 =>
      intro b nP i1 i2 hme H locs hP hD hS ls hl
      refine lv_iload_n (pc := 2) hx hb dX2_planStepBack_2 rfl (lv_at hl 0 rfl) ?_
      refine lv_aload_n (pc := 3) hx hb dX2_planStepBack_3 rfl (lv_at hl 1 rfl) ?_
      refine va_get (pc := 4) (D := D) (ci := 1) (v := vI o_bobCount) (C := RX2) (T := TX2) (N := 9) hx hb hts in_X2 hown hK hP 0 rfl rfl 4 (by decide) fl_24 (fun _ h9 => h9) rfl dX2_planStepBack_4 ?_
      refine z_icmp_ge (pc := 7) (tgt := 35) hx hb dX2_planStepBack_7 (by decide) (by omega) (by omega) (fun c_1 => ?_) (fun c_1 => ?_)
      · have hc_7t := c_1
        have hnP : ∀ j : Int, 0 ≤ j → j < o_bobCount → nP j = plbZ o_places_c o_speeds_c j := fun j a b2 => i2 j a (by omega)
        have hbP : bnd nP o_bobCount 2000000 := fun j a b2 => by
          have f0 := hp j a b2
          have f1 := hs j a b2
          rw [hnP j a b2]; unfold plbZ; omega
        refine z_iconst (pc := 35) hx hb dX2_planStepBack_35 ?_
        refine lv_istore_n (lv' := [(1, vI 0), (0, .ref oA)]) (pc := 36) hx hb dX2_planStepBack_36 rfl hl (by decide) rfl (fun ls hl => ?_)
        have LP_37 : ∀ (nfu : Nat) (b : Int) (nS : Int → Int) (j1 : 0 ≤ b ∧ b ≤ o_bobCount) (j3 : ∀ j : Int, 0 ≤ j → j < b → nS j = spbZ o_bobCount o_weight o_spring o_places_c o_speeds_c j) (hme : o_bobCount - b + 1 < (nfu : Int)) (H : Heap) (locs : List Loc) (hP : va_P D vwCl [(oA, .inr (1, [.ref o_places, .ref o_speeds, .ref o_nextPlaces, .ref o_nextSpeeds, vI o_bobCount, vI o_weight, vI o_spring, vI o_nowAir, vI o_nowPush])), (o_places, .inl (cI, 8, .inl (aI o_places_c))), (o_speeds, .inl (cI, 8, .inl (aI o_speeds_c))), (o_nextPlaces, .inl (cI, 8, .inl (aI nP))), (o_nextSpeeds, .inl (cI, 8, .inl (aI nS)))] H) (hD : va_D A [(oA, .inr (1, [.ref o_places, .ref o_speeds, .ref o_nextPlaces, .ref o_nextSpeeds, vI o_bobCount, vI o_weight, vI o_spring, vI o_nowAir, vI o_nowPush])), (o_places, .inl (cI, 8, .inl (aI o_places_c))), (o_speeds, .inl (cI, 8, .inl (aI o_speeds_c))), (o_nextPlaces, .inl (cI, 8, .inl (aI nP))), (o_nextSpeeds, .inl (cI, 8, .inl (aI nS)))]) (hS : va_S A s.heap H locs) (ls : Array Slot) (hl : lv_has ls 2 [(1, vI b), (0, .ref oA)]), W p l e (headSpec wsX2_planStepBack ({ frames := 2, cells := 0, slots := 0, locals := 45 } : Room)).room s m ([.ref oA] : List Value).toArray below meth c H locs 0 0 (MQ below (va_Qv (fun (u : (Int → Int) × (Int → Int)) => match u with | (nP, nS) => ∀ j : Int, 0 ≤ j → j < o_bobCount → nP j = plbZ o_places_c o_speeds_c j ∧ nS j = spbZ o_bobCount o_weight o_spring o_places_c o_speeds_c j) (zB D A (fun (u : (Int → Int) × (Int → Int)) => match u with | (nP, nS) => [(oA, .inr (1, [.ref o_places, .ref o_speeds, .ref o_nextPlaces, .ref o_nextSpeeds, vI o_bobCount, vI o_weight, vI o_spring, vI o_nowAir, vI o_nowPush])), (o_places, .inl (cI, 8, .inl (aI o_places_c))), (o_speeds, .inl (cI, 8, .inl (aI o_speeds_c))), (o_nextPlaces, .inl (cI, 8, .inl (aI nP))), (o_nextSpeeds, .inl (cI, 8, .inl (aI nS)))])) A) ([.ref oA] : List Value).toArray s 0 0 A) (F0 m 37 ls []) := by
          intro nfu
          induction nfu with
          | zero =>
            intro b nS j1 j3 hme H locs hP hD hS ls hl
            exact absurd hme (by omega)
          | succ nfu ih_37 =>
            intro b nS j1 j3 hme H locs hP hD hS ls hl
            refine lv_iload_n (pc := 37) hx hb dX2_planStepBack_37 rfl (lv_at hl 0 rfl) ?_
            refine lv_aload_n (pc := 38) hx hb dX2_planStepBack_38 rfl (lv_at hl 1 rfl) ?_
            refine va_get (pc := 39) (D := D) (ci := 1) (v := vI o_bobCount) (C := RX2) (T := TX2) (N := 9) hx hb hts in_X2 hown hK hP 0 rfl rfl 4 (by decide) fl_24 (fun _ h9 => h9) rfl dX2_planStepBack_39 ?_
            refine z_icmp_ge (pc := 42) (tgt := 73) hx hb dX2_planStepBack_42 (by decide) (by omega) (by omega) (fun c_2 => ?_) (fun c_2 => ?_)
            · have hc_42t := c_2
              have hP9 := hP.sub (ws' := [(oA, .inr (1, [.ref o_places, .ref o_speeds, .ref o_nextPlaces, .ref o_nextSpeeds, vI o_bobCount, vI o_weight, vI o_spring, vI o_nowAir, vI o_nowPush])), (o_places, .inl (cI, 8, .inl (aI o_places_c))), (o_speeds, .inl (cI, 8, .inl (aI o_speeds_c))), (o_nextPlaces, .inl (cI, 8, .inl (aI nP))), (o_nextSpeeds, .inl (cI, 8, .inl (aI nS)))]) [0, 1, 2, 3, 4] rfl
              have hD9 := hD.sub (ws' := [(oA, .inr (1, [.ref o_places, .ref o_speeds, .ref o_nextPlaces, .ref o_nextSpeeds, vI o_bobCount, vI o_weight, vI o_spring, vI o_nowAir, vI o_nowPush])), (o_places, .inl (cI, 8, .inl (aI o_places_c))), (o_speeds, .inl (cI, 8, .inl (aI o_speeds_c))), (o_nextPlaces, .inl (cI, 8, .inl (aI nP))), (o_nextSpeeds, .inl (cI, 8, .inl (aI nS)))]) [0, 1, 2, 3, 4] (by decide) rfl
              have hrel : ∀ j : Int, 0 ≤ j → j < o_bobCount → nP j = plbZ o_places_c o_speeds_c j ∧ nS j = spbZ o_bobCount o_weight o_spring o_places_c o_speeds_c j := by
                intro j a b2
                exact ⟨hnP j a b2, j3 j a (by omega)⟩
              exact W.vret (pc := 73) hx hb hr (fun t ht hW => ⟨⟨(nP, nS), rfl, hrel, by rw [ht]; exact hP9, hD9⟩, hS.F ht⟩) hS.2.2 dX2_planStepBack_73
            · have hc_42f := c_2
              refine lv_aload_n (pc := 45) hx hb dX2_planStepBack_45 rfl (lv_at hl 1 rfl) ?_
              refine va_get (pc := 46) (D := D) (ci := 1) (v := .ref o_nextSpeeds) (C := RX2) (T := TX2) (N := 9) hx hb hts in_X2 hown hK hP 0 rfl rfl 3 (by decide) fl_21 (fun _ h9 => h9) rfl dX2_planStepBack_46 ?_
              refine lv_iload_n (pc := 49) hx hb dX2_planStepBack_49 rfl (lv_at hl 0 rfl) ?_
              refine lv_aload_n (pc := 50) hx hb dX2_planStepBack_50 rfl (lv_at hl 1 rfl) ?_
              refine va_get (pc := 51) (D := D) (ci := 1) (v := .ref o_speeds) (C := RX2) (T := TX2) (N := 9) hx hb hts in_X2 hown hK hP 0 rfl rfl 1 (by decide) fl_15 (fun _ h9 => h9) rfl dX2_planStepBack_51 ?_
              refine lv_iload_n (pc := 54) hx hb dX2_planStepBack_54 rfl (lv_at hl 0 rfl) ?_
              refine z_iald (pc := 55) hx hb hK hP 2 0 (by omega) rfl rfl (by first | decide | omega) dX2_planStepBack_55 ?_
              refine lv_aload_n (pc := 56) hx hb dX2_planStepBack_56 rfl (lv_at hl 1 rfl) ?_
              refine lv_aload_n (pc := 57) hx hb dX2_planStepBack_57 rfl (lv_at hl 1 rfl) ?_
              refine va_get (pc := 58) (D := D) (ci := 1) (v := .ref o_nextPlaces) (C := RX2) (T := TX2) (N := 9) hx hb hts in_X2 hown hK hP 0 rfl rfl 2 (by decide) fl_18 (fun _ h9 => h9) rfl dX2_planStepBack_58 ?_
              refine lv_iload_n (pc := 61) hx hb dX2_planStepBack_61 rfl (lv_at hl 0 rfl) ?_
              have hPc := hP.sub (ws' := [(oA, .inr (1, [.ref o_places, .ref o_speeds, .ref o_nextPlaces, .ref o_nextSpeeds, vI o_bobCount, vI o_weight, vI o_spring, vI o_nowAir, vI o_nowPush])), (o_nextPlaces, .inl (cI, 8, .inl (aI nP)))]) [0, 3] rfl
              have hDc := hD.sub (ws' := [(oA, .inr (1, [.ref o_places, .ref o_speeds, .ref o_nextPlaces, .ref o_nextSpeeds, vI o_bobCount, vI o_weight, vI o_spring, vI o_nowAir, vI o_nowPush])), (o_nextPlaces, .inl (cI, 8, .inl (aI nP)))]) [0, 3] (by decide) rfl
              refine z_callR (pc := 62) (va_runV (As := [.ref o_nextPlaces, vI b]) (rest := [vI (o_speeds_c b), vI b, .ref o_nextSpeeds]) ⟨hx, hb, hml, hown, hts⟩ (m_X2_gainAt l D cI cJ cZ cD H.size oA o_places o_speeds o_nextPlaces o_nextSpeeds o_bobCount o_weight o_spring o_nowAir o_nowPush nP 2000000 o_nextPlaces b (by omega) hk hc (by omega) (by decide) hbP) (cwV 2 hts gX2_planStepBack_X2_gainAt rfl rfl rfl (by decide +kernel) ⟨Nat.le_of_ble_eq_true rfl, Nat.le_of_ble_eq_true rfl⟩) ⟨z_blind, va_recv hK hPc (ci := 1) (q0 := 0) rfl rfl, z_pre hPc hK hDc rfl rfl hN⟩ rfl rfl hl.1 rfl (lv_room (Nat.le_of_ble_eq_true rfl)) dX2_planStepBack_62 ⟨Nat.zero_le _, Nat.zero_le _⟩) ?_
              refine z_isub (pc := 65) hx hb dX2_planStepBack_65 ?_
              refine z_iast (pc := 66) hx hb hK hP hD hS 4 0 (by omega) rfl rfl (by first | decide | omega) dX2_planStepBack_66 (fun H locs hP hD hS => ?_)
              have hP : va_P D vwCl [(oA, .inr (1, [.ref o_places, .ref o_speeds, .ref o_nextPlaces, .ref o_nextSpeeds, vI o_bobCount, vI o_weight, vI o_spring, vI o_nowAir, vI o_nowPush])), (o_places, .inl (cI, 8, .inl (aI o_places_c))), (o_speeds, .inl (cI, 8, .inl (aI o_speeds_c))), (o_nextPlaces, .inl (cI, 8, .inl (aI nP))), (o_nextSpeeds, .inl (cI, 8, .inl (aI (uZ nS b ((o_speeds_c b) - (gnZ o_bobCount o_weight o_spring nP b))))))] H := hP
              have hD : va_D A [(oA, .inr (1, [.ref o_places, .ref o_speeds, .ref o_nextPlaces, .ref o_nextSpeeds, vI o_bobCount, vI o_weight, vI o_spring, vI o_nowAir, vI o_nowPush])), (o_places, .inl (cI, 8, .inl (aI o_places_c))), (o_speeds, .inl (cI, 8, .inl (aI o_speeds_c))), (o_nextPlaces, .inl (cI, 8, .inl (aI nP))), (o_nextSpeeds, .inl (cI, 8, .inl (aI (uZ nS b ((o_speeds_c b) - (gnZ o_bobCount o_weight o_spring nP b))))))] := hD
              refine lv_iinc (v := zI (b + 1)) (lv' := [(1, vI (b + 1)), (0, .ref oA)]) (pc := 67) hx hb dX2_planStepBack_67 hl (k := 0) rfl (zI_add _ _) (by decide) rfl (fun ls hl => ?_)
              refine lv_goto (pc := 70) (tgt := 37) hx hb dX2_planStepBack_70 (by decide) ?_
              have hi_3 : ∀ j : Int, 0 ≤ j → j < (b + 1) → (uZ nS b ((o_speeds_c b) - (gnZ o_bobCount o_weight o_spring nP b))) j = spbZ o_bobCount o_weight o_spring o_places_c o_speeds_c j := by
                intro j a b2
                by_cases e : j = b
                · rw [e, uZ_s]; unfold spbZ; rw [← gnZ_cong hnP (by omega)]
                · rw [uZ_n e]; exact j3 j a (by omega)
              exact ih_37 (b + 1) (uZ nS b ((o_speeds_c b) - (gnZ o_bobCount o_weight o_spring nP b))) (by omega) hi_3 (by omega) _ _ (hP.sub [0, 1, 2, 3, 4] rfl) (hD.sub [0, 1, 2, 3, 4] (by decide) rfl) hS _ (lv_sub hl [0, 1] rfl)
        exact LP_37 (Int.toNat ((o_bobCount - 0 + 1) + 1)) 0 o_nextSpeeds_c (by omega) (by intro j a b2; omega) (by omega) _ _ (hP.sub [0, 1, 2, 3, 4] rfl) (hD.sub [0, 1, 2, 3, 4] (by decide) rfl) hS _ (lv_sub hl [0, 1] rfl)
      · have hc_7f := c_1
        refine lv_aload_n (pc := 10) hx hb dX2_planStepBack_10 rfl (lv_at hl 1 rfl) ?_
        refine va_get (pc := 11) (D := D) (ci := 1) (v := .ref o_nextPlaces) (C := RX2) (T := TX2) (N := 9) hx hb hts in_X2 hown hK hP 0 rfl rfl 2 (by decide) fl_18 (fun _ h9 => h9) rfl dX2_planStepBack_11 ?_
        refine lv_iload_n (pc := 14) hx hb dX2_planStepBack_14 rfl (lv_at hl 0 rfl) ?_
        refine lv_aload_n (pc := 15) hx hb dX2_planStepBack_15 rfl (lv_at hl 1 rfl) ?_
        refine va_get (pc := 16) (D := D) (ci := 1) (v := .ref o_places) (C := RX2) (T := TX2) (N := 9) hx hb hts in_X2 hown hK hP 0 rfl rfl 0 (by decide) fl_11 (fun _ h9 => h9) rfl dX2_planStepBack_16 ?_
        refine lv_iload_n (pc := 19) hx hb dX2_planStepBack_19 rfl (lv_at hl 0 rfl) ?_
        refine z_iald (pc := 20) hx hb hK hP 1 0 (by omega) rfl rfl (by first | decide | omega) dX2_planStepBack_20 ?_
        refine lv_aload_n (pc := 21) hx hb dX2_planStepBack_21 rfl (lv_at hl 1 rfl) ?_
        refine va_get (pc := 22) (D := D) (ci := 1) (v := .ref o_speeds) (C := RX2) (T := TX2) (N := 9) hx hb hts in_X2 hown hK hP 0 rfl rfl 1 (by decide) fl_15 (fun _ h9 => h9) rfl dX2_planStepBack_22 ?_
        refine lv_iload_n (pc := 25) hx hb dX2_planStepBack_25 rfl (lv_at hl 0 rfl) ?_
        refine z_iald (pc := 26) hx hb hK hP 2 0 (by omega) rfl rfl (by first | decide | omega) dX2_planStepBack_26 ?_
        refine z_isub (pc := 27) hx hb dX2_planStepBack_27 ?_
        refine z_iast (pc := 28) hx hb hK hP hD hS 3 0 (by omega) rfl rfl (by first | decide | omega) dX2_planStepBack_28 (fun H locs hP hD hS => ?_)
        have hP : va_P D vwCl [(oA, .inr (1, [.ref o_places, .ref o_speeds, .ref o_nextPlaces, .ref o_nextSpeeds, vI o_bobCount, vI o_weight, vI o_spring, vI o_nowAir, vI o_nowPush])), (o_places, .inl (cI, 8, .inl (aI o_places_c))), (o_speeds, .inl (cI, 8, .inl (aI o_speeds_c))), (o_nextPlaces, .inl (cI, 8, .inl (aI (uZ nP b ((o_places_c b) - (o_speeds_c b)))))), (o_nextSpeeds, .inl (cI, 8, .inl (aI o_nextSpeeds_c)))] H := hP
        have hD : va_D A [(oA, .inr (1, [.ref o_places, .ref o_speeds, .ref o_nextPlaces, .ref o_nextSpeeds, vI o_bobCount, vI o_weight, vI o_spring, vI o_nowAir, vI o_nowPush])), (o_places, .inl (cI, 8, .inl (aI o_places_c))), (o_speeds, .inl (cI, 8, .inl (aI o_speeds_c))), (o_nextPlaces, .inl (cI, 8, .inl (aI (uZ nP b ((o_places_c b) - (o_speeds_c b)))))), (o_nextSpeeds, .inl (cI, 8, .inl (aI o_nextSpeeds_c)))] := hD
        refine lv_iinc (v := zI (b + 1)) (lv' := [(1, vI (b + 1)), (0, .ref oA)]) (pc := 29) hx hb dX2_planStepBack_29 hl (k := 0) rfl (zI_add _ _) (by decide) rfl (fun ls hl => ?_)
        refine lv_goto (pc := 32) (tgt := 2) hx hb dX2_planStepBack_32 (by decide) ?_
        have hi_4 : ∀ j : Int, 0 ≤ j → j < (b + 1) → (uZ nP b ((o_places_c b) - (o_speeds_c b))) j = plbZ o_places_c o_speeds_c j := by
          intro j a b2
          by_cases e : j = b
          · rw [e, uZ_s]; rfl
          · rw [uZ_n e]; exact i2 j a (by omega)
        exact ih_2 (b + 1) (uZ nP b ((o_places_c b) - (o_speeds_c b))) (by omega) hi_4 (by omega) _ _ (hP.sub [0, 1, 2, 3, 4] rfl) (hD.sub [0, 1, 2, 3, 4] (by decide) rfl) hS _ (lv_sub hl [0, 1] rfl)
  exact LP_2 (Int.toNat ((o_bobCount - 0 + 1) + 1)) 0 o_nextPlaces_c (by omega) (by intro j a b2; omega) (by omega) _ _ (hP.sub [0, 1, 2, 3, 4] rfl) (hD.sub [0, 1, 2, 3, 4] (by decide) rfl) hS _ (lv_sub hl [0, 1] rfl)

set_option maxHeartbeats 4000000 in
set_option maxRecDepth 100000 in
theorem m_X2_isPlanWithin (l : Launch) (D : va_G) (cI cJ cZ cD : ClassId) (sz : Nat) (oA : Nat) (o_places : Nat) (o_speeds : Nat) (o_nextPlaces : Nat) (o_nextSpeeds : Nat) (o_bobCount : Int) (o_weight : Int) (o_spring : Int) (o_nowAir : Int) (o_nowPush : Int) (o_nextPlaces_c : Int → Int) (o_nextSpeeds_c : Int → Int) (M : Int) (hn : 1 ≤ o_bobCount ∧ o_bobCount ≤ 8) (hM : 0 ≤ M ∧ M ≤ 100000000) (hP1 : bnd o_nextPlaces_c o_bobCount M) (hS1 : bnd o_nextSpeeds_c o_bobCount M) : Met l yX2_isPlanWithin wsX2_isPlanWithin ({ frames := 1, cells := 0, slots := 0, locals := 22 } : Room) (zPc D (TY cI cJ cZ cD) sz [.ref oA] [(oA, .inr (1, [.ref o_places, .ref o_speeds, .ref o_nextPlaces, .ref o_nextSpeeds, vI o_bobCount, vI o_weight, vI o_spring, vI o_nowAir, vI o_nowPush])), (o_nextPlaces, .inl (cI, 8, .inl (aI o_nextPlaces_c))), (o_nextSpeeds, .inl (cI, 8, .inl (aI o_nextSpeeds_c)))]) (zQr (some (vI (pI (okZ o_nextPlaces_c o_nextSpeeds_c (Int.toNat o_bobCount) = true))))) 0 0 (fun _ => False) := by
  refine Met.ofW (cc := cX2_isPlanWithin) (maxL := 2) (ret := (some .boolean)) (by decide) rfl ?_
  intro p e s m args below meth c s₁ B hml hv
  obtain ⟨rfl, hsz, hP, hK, hD0, hN⟩ := hv
  have hx := B.exec
  have hb := B.bytes
  have hr := B.returns
  have hts := atoms_spec (ws := wsX2_isPlanWithin) B.pre
  have hown : s.vm.findClass RX2 = some m.cls := findClass_of_methodNamed B.named
  have hlocks := B.notSynchronized
  have hD := hD0
  subst hsz
  have hP : va_P D vwCl [(oA, .inr (1, [.ref o_places, .ref o_speeds, .ref o_nextPlaces, .ref o_nextSpeeds, vI o_bobCount, vI o_weight, vI o_spring, vI o_nowAir, vI o_nowPush])), (o_nextPlaces, .inl (cI, 8, .inl (aI o_nextPlaces_c))), (o_nextSpeeds, .inl (cI, 8, .inl (aI o_nextSpeeds_c)))] s.heap := hP
  have fl_18 := hts (.fieldLink RX2 18 "PendulumHall$Bobs" "nextPlaces" "[I") (by decide +kernel)
  have fl_21 := hts (.fieldLink RX2 21 "PendulumHall$Bobs" "nextSpeeds" "[I") (by decide +kernel)
  have fl_24 := hts (.fieldLink RX2 24 "PendulumHall$Bobs" "bobCount" "I") (by decide +kernel)
  have ck_69 := hts (.constant RX2 69 (-1000000)) (by decide +kernel)
  have ck_70 := hts (.constant RX2 70 (1000000)) (by decide +kernel)
  have in_X2 : ∀ w ∈ wsX20, w ∈ wsX2_isPlanWithin := by decide +kernel
  have hl := lv_entry ([.ref oA]) (n := 2) (Nat.le_of_ble_eq_true rfl)
  rw [lg_entry_eq]
  generalize (lg_sl ([.ref oA]) ++ List.replicate (2 - (lg_sl ([.ref oA])).length) Slot.unset).toArray = ls at hl ⊢
  have hl : lv_has ls 2 [(0, .ref oA)] := hl
  refine z_iconst (pc := 0) hx hb dX2_isPlanWithin_0 ?_
  refine lv_istore_n (lv' := [(1, vI 0), (0, .ref oA)]) (pc := 1) hx hb dX2_isPlanWithin_1 rfl hl (by decide) rfl (fun ls hl => ?_)
  have LP_2 : ∀ (nfu : Nat) (b : Int) (i1 : 0 ≤ b ∧ b ≤ o_bobCount) (i2 : okZ o_nextPlaces_c o_nextSpeeds_c (Int.toNat b) = true) (hme : o_bobCount - b + 1 < (nfu : Int)) (ls : Array Slot) (hl : lv_has ls 2 [(1, vI b), (0, .ref oA)]), W p l e (headSpec wsX2_isPlanWithin ({ frames := 1, cells := 0, slots := 0, locals := 22 } : Room)).room s m ([.ref oA] : List Value).toArray below meth c s.heap [] 0 0 (MQ below (zQr (some (vI (pI (okZ o_nextPlaces_c o_nextSpeeds_c (Int.toNat o_bobCount) = true))))) ([.ref oA] : List Value).toArray s 0 0 (fun _ => False)) (F0 m 2 ls []) := by
    intro nfu
    induction nfu with
    | zero =>
      intro b i1 i2 hme ls hl
      exact absurd hme (by omega)
    | succ nfu ih_2 =>
      intro b i1 i2 hme ls hl
      refine lv_iload_n (pc := 2) hx hb dX2_isPlanWithin_2 rfl (lv_at hl 0 rfl) ?_
      refine lv_aload_n (pc := 3) hx hb dX2_isPlanWithin_3 rfl (lv_at hl 1 rfl) ?_
      refine va_get (pc := 4) (D := D) (ci := 1) (v := vI o_bobCount) (C := RX2) (T := TX2) (N := 9) hx hb hts in_X2 hown hK hP 0 rfl rfl 4 (by decide) fl_24 (fun _ h9 => h9) rfl dX2_isPlanWithin_4 ?_
      refine z_icmp_ge (pc := 7) (tgt := 50) hx hb dX2_isPlanWithin_7 (by decide) (by omega) (by omega) (fun c_1 => ?_) (fun c_1 => ?_)
      · have hc_7t := c_1
        refine z_iconst (pc := 50) hx hb dX2_isPlanWithin_50 ?_
        have hv : (1) = (pI (okZ o_nextPlaces_c o_nextSpeeds_c (Int.toNat o_bobCount) = true)) := by exact (pI_t (by rw [← show b = o_bobCount by omega]; exact i2)).symm
        exact W.zret (pc := 51) (v := zI 1) hx hb hr (z_narB (by first | exact z_pI01 _ | omega | decide)) (fun t ht hW => ⟨congrArg (fun z => Outcome.returned (some (vI z))) hv, ht⟩) (fun q h => absurd h List.not_mem_nil) dX2_isPlanWithin_51
      · have hc_7f := c_1
        have f0 := hP1 b (by omega) (by omega)
        have f1 := hS1 b (by omega) (by omega)
        refine lv_aload_n (pc := 10) hx hb dX2_isPlanWithin_10 rfl (lv_at hl 1 rfl) ?_
        refine va_get (pc := 11) (D := D) (ci := 1) (v := .ref o_nextPlaces) (C := RX2) (T := TX2) (N := 9) hx hb hts in_X2 hown hK hP 0 rfl rfl 2 (by decide) fl_18 (fun _ h9 => h9) rfl dX2_isPlanWithin_11 ?_
        refine lv_iload_n (pc := 14) hx hb dX2_isPlanWithin_14 rfl (lv_at hl 0 rfl) ?_
        refine z_iald (pc := 15) hx hb hK hP 1 0 (by omega) rfl rfl (by first | decide | omega) dX2_isPlanWithin_15 ?_
        refine lv_ldc (pc := 16) hx hb hown ck_69 dX2_isPlanWithin_16 ?_
        refine z_topI (z := -1000000) (by decide) ?_
        refine lv_ldc (pc := 18) hx hb hown ck_70 dX2_isPlanWithin_18 ?_
        refine z_topI (z := 1000000) (by decide) ?_
        refine z_callR (pc := 20) (va_runSN (As := [vI (o_nextPlaces_c b), vI (-1000000), vI 1000000]) (rest := []) ⟨hx, hb, hml, hown, hts⟩ (m_X7_isOutside l D cI cJ cZ cD 0  (o_nextPlaces_c b) (-1000000) 1000000 (by omega) (by omega) (by omega)) ⟨va_cnB 3 hts gX2_isPlanWithin_X7_isOutside_n71 rfl rfl rfl hN (hts (.initialized RX7) (by decide +kernel)) (by decide +kernel) ⟨Nat.le_of_ble_eq_true rfl, Nat.le_of_ble_eq_true rfl⟩, hts (.static yX7_isOutside) (by decide +kernel), trivial⟩ ⟨fun a U g mk q => q, fun U hU hW => ⟨rfl, trivial⟩⟩ rfl rfl hl.1 rfl (lv_room (Nat.le_of_ble_eq_true rfl)) dX2_isPlanWithin_20 ⟨Nat.zero_le _, Nat.zero_le _⟩) ?_
        refine z_ifp_ne (pc := 23) (tgt := 42) hx hb dX2_isPlanWithin_23 (by decide) (fun c_2 => ?_) (fun c_2 => ?_)
        · have hc_23t := c_2
          refine z_iconst (pc := 42) hx hb dX2_isPlanWithin_42 ?_
          have hv : (0) = (pI (okZ o_nextPlaces_c o_nextSpeeds_c (Int.toNat o_bobCount) = true)) := by exact (pI_f (by rw [okZ_no (j := b) (by omega) (by omega) (by omega)]; decide)).symm
          exact W.zret (pc := 43) (v := zI 0) hx hb hr (z_narB (by first | exact z_pI01 _ | omega | decide)) (fun t ht hW => ⟨congrArg (fun z => Outcome.returned (some (vI z))) hv, ht⟩) (fun q h => absurd h List.not_mem_nil) dX2_isPlanWithin_43
        · have hc_23f := c_2
          refine lv_aload_n (pc := 26) hx hb dX2_isPlanWithin_26 rfl (lv_at hl 1 rfl) ?_
          refine va_get (pc := 27) (D := D) (ci := 1) (v := .ref o_nextSpeeds) (C := RX2) (T := TX2) (N := 9) hx hb hts in_X2 hown hK hP 0 rfl rfl 3 (by decide) fl_21 (fun _ h9 => h9) rfl dX2_isPlanWithin_27 ?_
          refine lv_iload_n (pc := 30) hx hb dX2_isPlanWithin_30 rfl (lv_at hl 0 rfl) ?_
          refine z_iald (pc := 31) hx hb hK hP 2 0 (by omega) rfl rfl (by first | decide | omega) dX2_isPlanWithin_31 ?_
          refine lv_ldc (pc := 32) hx hb hown ck_69 dX2_isPlanWithin_32 ?_
          refine z_topI (z := -1000000) (by decide) ?_
          refine lv_ldc (pc := 34) hx hb hown ck_70 dX2_isPlanWithin_34 ?_
          refine z_topI (z := 1000000) (by decide) ?_
          refine z_callR (pc := 36) (va_runSN (As := [vI (o_nextSpeeds_c b), vI (-1000000), vI 1000000]) (rest := []) ⟨hx, hb, hml, hown, hts⟩ (m_X7_isOutside l D cI cJ cZ cD 0  (o_nextSpeeds_c b) (-1000000) 1000000 (by omega) (by omega) (by omega)) ⟨va_cnB 3 hts gX2_isPlanWithin_X7_isOutside_n71 rfl rfl rfl hN (hts (.initialized RX7) (by decide +kernel)) (by decide +kernel) ⟨Nat.le_of_ble_eq_true rfl, Nat.le_of_ble_eq_true rfl⟩, hts (.static yX7_isOutside) (by decide +kernel), trivial⟩ ⟨fun a U g mk q => q, fun U hU hW => ⟨rfl, trivial⟩⟩ rfl rfl hl.1 rfl (lv_room (Nat.le_of_ble_eq_true rfl)) dX2_isPlanWithin_36 ⟨Nat.zero_le _, Nat.zero_le _⟩) ?_
          refine z_ifp_eq (pc := 39) (tgt := 44) hx hb dX2_isPlanWithin_39 (by decide) (fun c_3 => ?_) (fun c_3 => ?_)
          · have hc_39t := c_3
            refine lv_iinc (v := zI (b + 1)) (lv' := [(1, vI (b + 1)), (0, .ref oA)]) (pc := 44) hx hb dX2_isPlanWithin_44 hl (k := 0) rfl (zI_add _ _) (by decide) rfl (fun ls hl => ?_)
            refine lv_goto (pc := 47) (tgt := 2) hx hb dX2_isPlanWithin_47 (by decide) ?_
            exact ih_2 (b + 1) (by omega) (okZ_s i1.1 i2 (by omega)) (by omega) _ (lv_sub hl [0, 1] rfl)
          · have hc_39f := c_3
            refine z_iconst (pc := 42) hx hb dX2_isPlanWithin_42 ?_
            have hv : (0) = (pI (okZ o_nextPlaces_c o_nextSpeeds_c (Int.toNat o_bobCount) = true)) := by exact (pI_f (by rw [okZ_no (j := b) (by omega) (by omega) (by omega)]; decide)).symm
            exact W.zret (pc := 43) (v := zI 0) hx hb hr (z_narB (by first | exact z_pI01 _ | omega | decide)) (fun t ht hW => ⟨congrArg (fun z => Outcome.returned (some (vI z))) hv, ht⟩) (fun q h => absurd h List.not_mem_nil) dX2_isPlanWithin_43
  exact LP_2 (Int.toNat ((o_bobCount - 0 + 1) + 1)) 0 (by omega) (by rfl) (by omega) _ (lv_sub hl [0, 1] rfl)

set_option maxHeartbeats 4000000 in
set_option maxRecDepth 100000 in
theorem m_X2_takePlan (l : Launch) (D : va_G) (cI cJ cZ cD : ClassId) (sz : Nat) (oA : Nat) (o_places : Nat) (o_speeds : Nat) (o_nextPlaces : Nat) (o_nextSpeeds : Nat) (o_bobCount : Int) (o_weight : Int) (o_spring : Int) (o_nowAir : Int) (o_nowPush : Int) (o_places_c : Int → Int) (o_speeds_c : Int → Int) (o_nextPlaces_c : Int → Int) (o_nextSpeeds_c : Int → Int) (hn : 1 ≤ o_bobCount ∧ o_bobCount ≤ 8) : Met l yX2_takePlan wsX2_takePlan ({ frames := 1, cells := 0, slots := 0, locals := 60 } : Room) (zPc D (TY cI cJ cZ cD) sz [.ref oA] [(oA, .inr (1, [.ref o_places, .ref o_speeds, .ref o_nextPlaces, .ref o_nextSpeeds, vI o_bobCount, vI o_weight, vI o_spring, vI o_nowAir, vI o_nowPush])), (o_places, .inl (cI, 8, .inl (aI o_places_c))), (o_speeds, .inl (cI, 8, .inl (aI o_speeds_c))), (o_nextPlaces, .inl (cI, 8, .inl (aI o_nextPlaces_c))), (o_nextSpeeds, .inl (cI, 8, .inl (aI o_nextSpeeds_c)))]) (va_Qv (fun (u : Unit) => match u with | _ => True) (zB D (va_A [(oA, .inr (1, [.ref o_places, .ref o_speeds, .ref o_nextPlaces, .ref o_nextSpeeds, vI o_bobCount, vI o_weight, vI o_spring, vI o_nowAir, vI o_nowPush])), (o_places, .inl (cI, 8, .inl (aI o_places_c))), (o_speeds, .inl (cI, 8, .inl (aI o_speeds_c))), (o_nextPlaces, .inl (cI, 8, .inl (aI o_nextPlaces_c))), (o_nextSpeeds, .inl (cI, 8, .inl (aI o_nextSpeeds_c)))] sz) (fun (u : Unit) => match u with | _ => [(oA, .inr (1, [.ref o_places, .ref o_speeds, .ref o_nextPlaces, .ref o_nextSpeeds, vI o_bobCount, vI o_weight, vI o_spring, vI o_nowAir, vI o_nowPush])), (o_places, .inl (cI, 8, .inl (aI (cZ0 o_nextPlaces_c o_places_c o_bobCount)))), (o_speeds, .inl (cI, 8, .inl (aI (cZ0 o_nextSpeeds_c o_speeds_c o_bobCount)))), (o_nextPlaces, .inl (cI, 8, .inl (aI o_nextPlaces_c))), (o_nextSpeeds, .inl (cI, 8, .inl (aI o_nextSpeeds_c)))])) (va_A [(oA, .inr (1, [.ref o_places, .ref o_speeds, .ref o_nextPlaces, .ref o_nextSpeeds, vI o_bobCount, vI o_weight, vI o_spring, vI o_nowAir, vI o_nowPush])), (o_places, .inl (cI, 8, .inl (aI o_places_c))), (o_speeds, .inl (cI, 8, .inl (aI o_speeds_c))), (o_nextPlaces, .inl (cI, 8, .inl (aI o_nextPlaces_c))), (o_nextSpeeds, .inl (cI, 8, .inl (aI o_nextSpeeds_c)))] sz)) 0 0 (va_A [(oA, .inr (1, [.ref o_places, .ref o_speeds, .ref o_nextPlaces, .ref o_nextSpeeds, vI o_bobCount, vI o_weight, vI o_spring, vI o_nowAir, vI o_nowPush])), (o_places, .inl (cI, 8, .inl (aI o_places_c))), (o_speeds, .inl (cI, 8, .inl (aI o_speeds_c))), (o_nextPlaces, .inl (cI, 8, .inl (aI o_nextPlaces_c))), (o_nextSpeeds, .inl (cI, 8, .inl (aI o_nextSpeeds_c)))] sz) := by
  refine Met.ofW (cc := cX2_takePlan) (maxL := 1) (ret := none) (by decide) rfl ?_
  intro p e s m args below meth c s₁ B hml hv
  obtain ⟨rfl, hsz, hP, hK, hD0, hN⟩ := hv
  have hx := B.exec
  have hb := B.bytes
  have hr := B.returns
  have hts := atoms_spec (ws := wsX2_takePlan) B.pre
  have hown : s.vm.findClass RX2 = some m.cls := findClass_of_methodNamed B.named
  have hlocks := B.notSynchronized
  subst hsz
  have hD := hD0.self (sz := s.heap.size)
  generalize hAe : va_A [(oA, .inr (1, [.ref o_places, .ref o_speeds, .ref o_nextPlaces, .ref o_nextSpeeds, vI o_bobCount, vI o_weight, vI o_spring, vI o_nowAir, vI o_nowPush])), (o_places, .inl (cI, 8, .inl (aI o_places_c))), (o_speeds, .inl (cI, 8, .inl (aI o_speeds_c))), (o_nextPlaces, .inl (cI, 8, .inl (aI o_nextPlaces_c))), (o_nextSpeeds, .inl (cI, 8, .inl (aI o_nextSpeeds_c)))] s.heap.size = A at hD ⊢
  have hA : ∀ q : Nat, s.heap.size ≤ q → A q := fun q h => by rw [← hAe]; exact Or.inr h
  have hS : va_S A s.heap s.heap [] := va_S.rf
  have hP : va_P D vwCl [(oA, .inr (1, [.ref o_places, .ref o_speeds, .ref o_nextPlaces, .ref o_nextSpeeds, vI o_bobCount, vI o_weight, vI o_spring, vI o_nowAir, vI o_nowPush])), (o_places, .inl (cI, 8, .inl (aI o_places_c))), (o_speeds, .inl (cI, 8, .inl (aI o_speeds_c))), (o_nextPlaces, .inl (cI, 8, .inl (aI o_nextPlaces_c))), (o_nextSpeeds, .inl (cI, 8, .inl (aI o_nextSpeeds_c)))] s.heap := hP
  have fl_11 := hts (.fieldLink RX2 11 "PendulumHall$Bobs" "places" "[I") (by decide +kernel)
  have fl_15 := hts (.fieldLink RX2 15 "PendulumHall$Bobs" "speeds" "[I") (by decide +kernel)
  have fl_18 := hts (.fieldLink RX2 18 "PendulumHall$Bobs" "nextPlaces" "[I") (by decide +kernel)
  have fl_21 := hts (.fieldLink RX2 21 "PendulumHall$Bobs" "nextSpeeds" "[I") (by decide +kernel)
  have fl_24 := hts (.fieldLink RX2 24 "PendulumHall$Bobs" "bobCount" "I") (by decide +kernel)
  have in_X2 : ∀ w ∈ wsX20, w ∈ wsX2_takePlan := by decide +kernel
  have hl := lv_entry ([.ref oA]) (n := 1) (Nat.le_of_ble_eq_true rfl)
  rw [lg_entry_eq]
  generalize (lg_sl ([.ref oA]) ++ List.replicate (1 - (lg_sl ([.ref oA])).length) Slot.unset).toArray = ls at hl ⊢
  have hl : lv_has ls 1 [(0, .ref oA)] := hl
  refine lv_aload_n (pc := 0) hx hb dX2_takePlan_0 rfl (lv_at hl 0 rfl) ?_
  refine va_get (pc := 1) (D := D) (ci := 1) (v := .ref o_nextPlaces) (C := RX2) (T := TX2) (N := 9) hx hb hts in_X2 hown hK hP 0 rfl rfl 2 (by decide) fl_18 (fun _ h9 => h9) rfl dX2_takePlan_1 ?_
  refine z_iconst (pc := 4) hx hb dX2_takePlan_4 ?_
  refine lv_aload_n (pc := 5) hx hb dX2_takePlan_5 rfl (lv_at hl 0 rfl) ?_
  refine va_get (pc := 6) (D := D) (ci := 1) (v := .ref o_places) (C := RX2) (T := TX2) (N := 9) hx hb hts in_X2 hown hK hP 0 rfl rfl 0 (by decide) fl_11 (fun _ h9 => h9) rfl dX2_takePlan_6 ?_
  refine z_iconst (pc := 9) hx hb dX2_takePlan_9 ?_
  refine lv_aload_n (pc := 10) hx hb dX2_takePlan_10 rfl (lv_at hl 0 rfl) ?_
  refine va_get (pc := 11) (D := D) (ci := 1) (v := vI o_bobCount) (C := RX2) (T := TX2) (N := 9) hx hb hts in_X2 hown hK hP 0 rfl rfl 4 (by decide) fl_24 (fun _ h9 => h9) rfl dX2_takePlan_11 ?_
  refine z_copyi (pc := 14) hx hb (hml.trans hl.1.symm) hown (hts (.methodLink RX2 75 arraycopyName) (by decide +kernel)) (hts (.native arraycopyName) (by decide +kernel)) (hts (.static arraycopyName) (by decide +kernel)) (hts (.initialized "java/lang/System") (by decide +kernel)) hK hP hD hS 3 1 rfl rfl rfl (by omega) (by omega) (Nat.le_of_ble_eq_true rfl) (Nat.le_of_ble_eq_true rfl) dX2_takePlan_14 (fun H locs hP hD hS => ?_)
  have hP : va_P D vwCl [(oA, .inr (1, [.ref o_places, .ref o_speeds, .ref o_nextPlaces, .ref o_nextSpeeds, vI o_bobCount, vI o_weight, vI o_spring, vI o_nowAir, vI o_nowPush])), (o_places, .inl (cI, 8, .inl (aI (cZ0 o_nextPlaces_c o_places_c o_bobCount)))), (o_speeds, .inl (cI, 8, .inl (aI o_speeds_c))), (o_nextPlaces, .inl (cI, 8, .inl (aI o_nextPlaces_c))), (o_nextSpeeds, .inl (cI, 8, .inl (aI o_nextSpeeds_c)))] H := hP
  have hD : va_D A [(oA, .inr (1, [.ref o_places, .ref o_speeds, .ref o_nextPlaces, .ref o_nextSpeeds, vI o_bobCount, vI o_weight, vI o_spring, vI o_nowAir, vI o_nowPush])), (o_places, .inl (cI, 8, .inl (aI (cZ0 o_nextPlaces_c o_places_c o_bobCount)))), (o_speeds, .inl (cI, 8, .inl (aI o_speeds_c))), (o_nextPlaces, .inl (cI, 8, .inl (aI o_nextPlaces_c))), (o_nextSpeeds, .inl (cI, 8, .inl (aI o_nextSpeeds_c)))] := hD
  refine lv_aload_n (pc := 17) hx hb dX2_takePlan_17 rfl (lv_at hl 0 rfl) ?_
  refine va_get (pc := 18) (D := D) (ci := 1) (v := .ref o_nextSpeeds) (C := RX2) (T := TX2) (N := 9) hx hb hts in_X2 hown hK hP 0 rfl rfl 3 (by decide) fl_21 (fun _ h9 => h9) rfl dX2_takePlan_18 ?_
  refine z_iconst (pc := 21) hx hb dX2_takePlan_21 ?_
  refine lv_aload_n (pc := 22) hx hb dX2_takePlan_22 rfl (lv_at hl 0 rfl) ?_
  refine va_get (pc := 23) (D := D) (ci := 1) (v := .ref o_speeds) (C := RX2) (T := TX2) (N := 9) hx hb hts in_X2 hown hK hP 0 rfl rfl 1 (by decide) fl_15 (fun _ h9 => h9) rfl dX2_takePlan_23 ?_
  refine z_iconst (pc := 26) hx hb dX2_takePlan_26 ?_
  refine lv_aload_n (pc := 27) hx hb dX2_takePlan_27 rfl (lv_at hl 0 rfl) ?_
  refine va_get (pc := 28) (D := D) (ci := 1) (v := vI o_bobCount) (C := RX2) (T := TX2) (N := 9) hx hb hts in_X2 hown hK hP 0 rfl rfl 4 (by decide) fl_24 (fun _ h9 => h9) rfl dX2_takePlan_28 ?_
  refine z_copyi (pc := 31) hx hb (hml.trans hl.1.symm) hown (hts (.methodLink RX2 75 arraycopyName) (by decide +kernel)) (hts (.native arraycopyName) (by decide +kernel)) (hts (.static arraycopyName) (by decide +kernel)) (hts (.initialized "java/lang/System") (by decide +kernel)) hK hP hD hS 4 2 rfl rfl rfl (by omega) (by omega) (Nat.le_of_ble_eq_true rfl) (Nat.le_of_ble_eq_true rfl) dX2_takePlan_31 (fun H locs hP hD hS => ?_)
  have hP : va_P D vwCl [(oA, .inr (1, [.ref o_places, .ref o_speeds, .ref o_nextPlaces, .ref o_nextSpeeds, vI o_bobCount, vI o_weight, vI o_spring, vI o_nowAir, vI o_nowPush])), (o_places, .inl (cI, 8, .inl (aI (cZ0 o_nextPlaces_c o_places_c o_bobCount)))), (o_speeds, .inl (cI, 8, .inl (aI (cZ0 o_nextSpeeds_c o_speeds_c o_bobCount)))), (o_nextPlaces, .inl (cI, 8, .inl (aI o_nextPlaces_c))), (o_nextSpeeds, .inl (cI, 8, .inl (aI o_nextSpeeds_c)))] H := hP
  have hD : va_D A [(oA, .inr (1, [.ref o_places, .ref o_speeds, .ref o_nextPlaces, .ref o_nextSpeeds, vI o_bobCount, vI o_weight, vI o_spring, vI o_nowAir, vI o_nowPush])), (o_places, .inl (cI, 8, .inl (aI (cZ0 o_nextPlaces_c o_places_c o_bobCount)))), (o_speeds, .inl (cI, 8, .inl (aI (cZ0 o_nextSpeeds_c o_speeds_c o_bobCount)))), (o_nextPlaces, .inl (cI, 8, .inl (aI o_nextPlaces_c))), (o_nextSpeeds, .inl (cI, 8, .inl (aI o_nextSpeeds_c)))] := hD
  have hP9 := hP.sub (ws' := [(oA, .inr (1, [.ref o_places, .ref o_speeds, .ref o_nextPlaces, .ref o_nextSpeeds, vI o_bobCount, vI o_weight, vI o_spring, vI o_nowAir, vI o_nowPush])), (o_places, .inl (cI, 8, .inl (aI (cZ0 o_nextPlaces_c o_places_c o_bobCount)))), (o_speeds, .inl (cI, 8, .inl (aI (cZ0 o_nextSpeeds_c o_speeds_c o_bobCount)))), (o_nextPlaces, .inl (cI, 8, .inl (aI o_nextPlaces_c))), (o_nextSpeeds, .inl (cI, 8, .inl (aI o_nextSpeeds_c)))]) [0, 1, 2, 3, 4] rfl
  have hD9 := hD.sub (ws' := [(oA, .inr (1, [.ref o_places, .ref o_speeds, .ref o_nextPlaces, .ref o_nextSpeeds, vI o_bobCount, vI o_weight, vI o_spring, vI o_nowAir, vI o_nowPush])), (o_places, .inl (cI, 8, .inl (aI (cZ0 o_nextPlaces_c o_places_c o_bobCount)))), (o_speeds, .inl (cI, 8, .inl (aI (cZ0 o_nextSpeeds_c o_speeds_c o_bobCount)))), (o_nextPlaces, .inl (cI, 8, .inl (aI o_nextPlaces_c))), (o_nextSpeeds, .inl (cI, 8, .inl (aI o_nextSpeeds_c)))]) [0, 1, 2, 3, 4] (by decide) rfl
  exact W.vret (pc := 34) hx hb hr (fun t ht hW => ⟨⟨(), rfl, trivial, by rw [ht]; exact hP9, hD9⟩, hS.F ht⟩) hS.2.2 dX2_takePlan_34

set_option maxHeartbeats 4000000 in
set_option maxRecDepth 100000 in
theorem m_X2_square (l : Launch) (D : va_G) (cI cJ cZ cD : ClassId) (sz : Nat) (p0 : Int) : Met l yX2_square wsX2_square ({ frames := 0, cells := 0, slots := 0, locals := 0 } : Room) (va_Pc [vL p0] (fun _ => True)) (zQr (some (vL (p0 * p0)))) 0 0 (fun _ => False) := by
  refine Met.ofW (cc := cX2_square) (maxL := 2) (ret := (some .long)) (by decide) rfl ?_
  intro p e s m args below meth c s₁ B hml hv
  obtain ⟨rfl, -⟩ := hv
  have hx := B.exec
  have hb := B.bytes
  have hr := B.returns
  have hts := atoms_spec (ws := wsX2_square) B.pre
  have hown : s.vm.findClass RX2 = some m.cls := findClass_of_methodNamed B.named
  have hlocks := B.notSynchronized
  have hl := lv_entry ([vL p0]) (n := 2) (Nat.le_of_ble_eq_true rfl)
  rw [lg_entry_eq]
  generalize (lg_sl ([vL p0]) ++ List.replicate (2 - (lg_sl ([vL p0])).length) Slot.unset).toArray = ls at hl ⊢
  have hl : lv_has ls 2 [(0, vL p0)] := hl
  refine lv_lload_n (pc := 0) hx hb dX2_square_0 rfl (lv_at hl 0 rfl) ?_
  refine lv_lload_n (pc := 1) hx hb dX2_square_1 rfl (lv_at hl 0 rfl) ?_
  refine z_lmul (pc := 2) hx hb dX2_square_2 ?_
  have hv : (p0 * p0) = (p0 * p0) := rfl
  exact W.lret (pc := 3) (v := zL (p0 * p0)) hx hb hr (fun t ht hW => ⟨congrArg (fun z => Outcome.returned (some (vL z))) hv, ht⟩) (fun q h => absurd h List.not_mem_nil) dX2_square_3

set_option maxHeartbeats 4000000 in
set_option maxRecDepth 100000 in
theorem m_X2_totalEnergy (l : Launch) (D : va_G) (cI cJ cZ cD : ClassId) (sz : Nat) (oA : Nat) (o_places : Nat) (o_speeds : Nat) (o_nextPlaces : Nat) (o_nextSpeeds : Nat) (o_bobCount : Int) (o_weight : Int) (o_spring : Int) (o_nowAir : Int) (o_nowPush : Int) (o_places_c : Int → Int) (o_speeds_c : Int → Int) (hn : 1 ≤ o_bobCount ∧ o_bobCount ≤ 8) (hk : 0 ≤ o_weight ∧ o_weight ≤ 15) (hc : 0 ≤ o_spring ∧ o_spring ≤ 15) (hp : bnd o_places_c o_bobCount 1000000) (hs : bnd o_speeds_c o_bobCount 1000000) : Met l yX2_totalEnergy wsX2_totalEnergy ({ frames := 1, cells := 0, slots := 0, locals := 21 } : Room) (zPc D (TY cI cJ cZ cD) sz [.ref oA] [(oA, .inr (1, [.ref o_places, .ref o_speeds, .ref o_nextPlaces, .ref o_nextSpeeds, vI o_bobCount, vI o_weight, vI o_spring, vI o_nowAir, vI o_nowPush])), (o_places, .inl (cI, 8, .inl (aI o_places_c))), (o_speeds, .inl (cI, 8, .inl (aI o_speeds_c)))]) (zQr (some (vL (enZ o_bobCount o_weight o_spring o_places_c o_speeds_c)))) 0 0 (fun _ => False) := by
  refine Met.ofW (cc := cX2_totalEnergy) (maxL := 8) (ret := (some .long)) (by decide) rfl ?_
  intro p e s m args below meth c s₁ B hml hv
  obtain ⟨rfl, hsz, hP, hK, hD0, hN⟩ := hv
  have hx := B.exec
  have hb := B.bytes
  have hr := B.returns
  have hts := atoms_spec (ws := wsX2_totalEnergy) B.pre
  have hown : s.vm.findClass RX2 = some m.cls := findClass_of_methodNamed B.named
  have hlocks := B.notSynchronized
  have hD := hD0
  subst hsz
  have hP : va_P D vwCl [(oA, .inr (1, [.ref o_places, .ref o_speeds, .ref o_nextPlaces, .ref o_nextSpeeds, vI o_bobCount, vI o_weight, vI o_spring, vI o_nowAir, vI o_nowPush])), (o_places, .inl (cI, 8, .inl (aI o_places_c))), (o_speeds, .inl (cI, 8, .inl (aI o_speeds_c)))] s.heap := hP
  have fl_11 := hts (.fieldLink RX2 11 "PendulumHall$Bobs" "places" "[I") (by decide +kernel)
  have fl_15 := hts (.fieldLink RX2 15 "PendulumHall$Bobs" "speeds" "[I") (by decide +kernel)
  have fl_24 := hts (.fieldLink RX2 24 "PendulumHall$Bobs" "bobCount" "I") (by decide +kernel)
  have fl_28 := hts (.fieldLink RX2 28 "PendulumHall$Bobs" "weight" "I") (by decide +kernel)
  have fl_31 := hts (.fieldLink RX2 31 "PendulumHall$Bobs" "spring" "I") (by decide +kernel)
  have cl_85 := hts (.constantLong RX2 85 (16)) (by decide +kernel)
  have in_X2 : ∀ w ∈ wsX20, w ∈ wsX2_totalEnergy := by decide +kernel
  have hl := lv_entry ([.ref oA]) (n := 8) (Nat.le_of_ble_eq_true rfl)
  rw [lg_entry_eq]
  generalize (lg_sl ([.ref oA]) ++ List.replicate (8 - (lg_sl ([.ref oA])).length) Slot.unset).toArray = ls at hl ⊢
  have hl : lv_has ls 8 [(0, .ref oA)] := hl
  refine z_lconst (pc := 0) hx hb (z := 0) dX2_totalEnergy_0 (by decide) ?_
  refine lv_lstore_n (lv' := [(1, vL 0), (0, .ref oA)]) (pc := 1) hx hb dX2_totalEnergy_1 rfl hl (by decide) rfl (fun ls hl => ?_)
  refine z_lconst (pc := 2) hx hb (z := 0) dX2_totalEnergy_2 (by decide) ?_
  refine lv_lstore_n (lv' := [(3, vL 0), (1, vL 0), (0, .ref oA)]) (pc := 3) hx hb dX2_totalEnergy_3 rfl hl (by decide) rfl (fun ls hl => ?_)
  refine z_lconst (pc := 4) hx hb (z := 0) dX2_totalEnergy_4 (by decide) ?_
  refine lv_lstore (lv' := [(5, vL 0), (3, vL 0), (1, vL 0), (0, .ref oA)]) (pc := 5) hx hb dX2_totalEnergy_5 hl (by decide) rfl (fun ls hl => ?_)
  refine z_iconst (pc := 7) hx hb dX2_totalEnergy_7 ?_
  refine lv_istore (lv' := [(7, vI 0), (5, vL 0), (3, vL 0), (1, vL 0), (0, .ref oA)]) (pc := 8) hx hb dX2_totalEnergy_8 hl (by decide) rfl (fun ls hl => ?_)
  have LP_10 : ∀ (nfu : Nat) (b : Int) (mo : Int) (li : Int) (sn : Int) (i1 : 0 ≤ b ∧ b ≤ o_bobCount) (i2 : mo = smZ (fun b => o_speeds_c b * o_speeds_c b) (Int.toNat b)) (i3 : li = smZ (fun b => o_places_c b * o_places_c b) (Int.toNat b)) (i4 : sn = smZ (fun b => if 0 < b then (o_places_c b - o_places_c (b - 1)) * (o_places_c b - o_places_c (b - 1)) else 0) (Int.toNat b)) (hme : o_bobCount - b + 1 < (nfu : Int)) (ls : Array Slot) (hl : lv_has ls 8 [(7, vI b), (5, vL sn), (3, vL li), (1, vL mo), (0, .ref oA)]), W p l e (headSpec wsX2_totalEnergy ({ frames := 1, cells := 0, slots := 0, locals := 21 } : Room)).room s m ([.ref oA] : List Value).toArray below meth c s.heap [] 0 0 (MQ below (zQr (some (vL (enZ o_bobCount o_weight o_spring o_places_c o_speeds_c)))) ([.ref oA] : List Value).toArray s 0 0 (fun _ => False)) (F0 m 10 ls []) := by
    intro nfu
    induction nfu with
    | zero =>
      intro b mo li sn i1 i2 i3 i4 hme ls hl
      exact absurd hme (by omega)
    | succ nfu ih_10 =>
      intro b mo li sn i1 i2 i3 i4 hme ls hl
      refine lv_iload (pc := 10) hx hb dX2_totalEnergy_10 (lv_at hl 0 rfl) ?_
      refine lv_aload_n (pc := 12) hx hb dX2_totalEnergy_12 rfl (lv_at hl 4 rfl) ?_
      refine va_get (pc := 13) (D := D) (ci := 1) (v := vI o_bobCount) (C := RX2) (T := TX2) (N := 9) hx hb hts in_X2 hown hK hP 0 rfl rfl 4 (by decide) fl_24 (fun _ h9 => h9) rfl dX2_totalEnergy_13 ?_
      refine z_icmp_ge (pc := 16) (tgt := 84) hx hb dX2_totalEnergy_16 (by decide) (by omega) (by omega) (fun c_1 => ?_) (fun c_1 => ?_)
      · have hc_16t := c_1
        refine lv_ldc2 (pc := 84) hx hb hown cl_85 dX2_totalEnergy_84 ?_
        refine z_topL (z := 16) (by decide) ?_
        refine lv_lload_n (pc := 87) hx hb dX2_totalEnergy_87 rfl (lv_at hl 3 rfl) ?_
        refine z_lmul (pc := 88) hx hb dX2_totalEnergy_88 ?_
        refine lv_aload_n (pc := 89) hx hb dX2_totalEnergy_89 rfl (lv_at hl 4 rfl) ?_
        refine va_get (pc := 90) (D := D) (ci := 1) (v := vI o_weight) (C := RX2) (T := TX2) (N := 9) hx hb hts in_X2 hown hK hP 0 rfl rfl 5 (by decide) fl_28 (fun _ h9 => h9) rfl dX2_totalEnergy_90 ?_
        refine z_i2l (pc := 93) hx hb dX2_totalEnergy_93 (by omega) ?_
        refine lv_lload_n (pc := 94) hx hb dX2_totalEnergy_94 rfl (lv_at hl 2 rfl) ?_
        refine z_lmul (pc := 95) hx hb dX2_totalEnergy_95 ?_
        refine z_ladd (pc := 96) hx hb dX2_totalEnergy_96 ?_
        refine lv_aload_n (pc := 97) hx hb dX2_totalEnergy_97 rfl (lv_at hl 4 rfl) ?_
        refine va_get (pc := 98) (D := D) (ci := 1) (v := vI o_spring) (C := RX2) (T := TX2) (N := 9) hx hb hts in_X2 hown hK hP 0 rfl rfl 6 (by decide) fl_31 (fun _ h9 => h9) rfl dX2_totalEnergy_98 ?_
        refine z_i2l (pc := 101) hx hb dX2_totalEnergy_101 (by omega) ?_
        refine lv_lload (pc := 102) hx hb dX2_totalEnergy_102 (lv_at hl 1 rfl) ?_
        refine z_lmul (pc := 104) hx hb dX2_totalEnergy_104 ?_
        refine z_ladd (pc := 105) hx hb dX2_totalEnergy_105 ?_
        have hv : (((16 * mo) + (o_weight * li)) + (o_spring * sn)) = (enZ o_bobCount o_weight o_spring o_places_c o_speeds_c) := by unfold enZ; rw [i2, i3, i4, show b = o_bobCount by omega]
        exact W.lret (pc := 106) (v := zL (((16 * mo) + (o_weight * li)) + (o_spring * sn))) hx hb hr (fun t ht hW => ⟨congrArg (fun z => Outcome.returned (some (vL z))) hv, ht⟩) (fun q h => absurd h List.not_mem_nil) dX2_totalEnergy_106
      · have hc_16f := c_1
        have f0 := hs b (by omega) (by omega)
        have f1 := hp b (by omega) (by omega)
        refine lv_lload_n (pc := 19) hx hb dX2_totalEnergy_19 rfl (lv_at hl 3 rfl) ?_
        refine lv_aload_n (pc := 20) hx hb dX2_totalEnergy_20 rfl (lv_at hl 4 rfl) ?_
        refine va_get (pc := 21) (D := D) (ci := 1) (v := .ref o_speeds) (C := RX2) (T := TX2) (N := 9) hx hb hts in_X2 hown hK hP 0 rfl rfl 1 (by decide) fl_15 (fun _ h9 => h9) rfl dX2_totalEnergy_21 ?_
        refine lv_iload (pc := 24) hx hb dX2_totalEnergy_24 (lv_at hl 0 rfl) ?_
        refine z_iald (pc := 26) hx hb hK hP 2 0 (by omega) rfl rfl (by first | decide | omega) dX2_totalEnergy_26 ?_
        refine z_i2l (pc := 27) hx hb dX2_totalEnergy_27 (by omega) ?_
        refine z_callR (pc := 28) (va_runS (As := [vL (o_speeds_c b)]) (rest := [vL mo]) ⟨hx, hb, hml, hown, hts⟩ (m_X2_square l D cI cJ cZ cD 0  (o_speeds_c b) ) (va_cwS 1 hts gX2_totalEnergy_X2_square rfl rfl rfl (by decide +kernel) ⟨Nat.le_of_ble_eq_true rfl, Nat.le_of_ble_eq_true rfl⟩) ⟨fun a U g mk q => q, fun U hU hW => ⟨rfl, trivial⟩⟩ rfl rfl hl.1 rfl (lv_room (Nat.le_of_ble_eq_true rfl)) dX2_totalEnergy_28 ⟨Nat.zero_le _, Nat.zero_le _⟩) ?_
        refine z_ladd (pc := 31) hx hb dX2_totalEnergy_31 ?_
        refine lv_lstore_n (lv' := [(1, vL (mo + ((o_speeds_c b) * (o_speeds_c b)))), (7, vI b), (5, vL sn), (3, vL li), (0, .ref oA)]) (pc := 32) hx hb dX2_totalEnergy_32 rfl hl (by decide) rfl (fun ls hl => ?_)
        refine lv_lload_n (pc := 33) hx hb dX2_totalEnergy_33 rfl (lv_at hl 3 rfl) ?_
        refine lv_aload_n (pc := 34) hx hb dX2_totalEnergy_34 rfl (lv_at hl 4 rfl) ?_
        refine va_get (pc := 35) (D := D) (ci := 1) (v := .ref o_places) (C := RX2) (T := TX2) (N := 9) hx hb hts in_X2 hown hK hP 0 rfl rfl 0 (by decide) fl_11 (fun _ h9 => h9) rfl dX2_totalEnergy_35 ?_
        refine lv_iload (pc := 38) hx hb dX2_totalEnergy_38 (lv_at hl 1 rfl) ?_
        refine z_iald (pc := 40) hx hb hK hP 1 0 (by omega) rfl rfl (by first | decide | omega) dX2_totalEnergy_40 ?_
        refine z_i2l (pc := 41) hx hb dX2_totalEnergy_41 (by omega) ?_
        refine z_callR (pc := 42) (va_runS (As := [vL (o_places_c b)]) (rest := [vL li]) ⟨hx, hb, hml, hown, hts⟩ (m_X2_square l D cI cJ cZ cD 0  (o_places_c b) ) (va_cwS 1 hts gX2_totalEnergy_X2_square rfl rfl rfl (by decide +kernel) ⟨Nat.le_of_ble_eq_true rfl, Nat.le_of_ble_eq_true rfl⟩) ⟨fun a U g mk q => q, fun U hU hW => ⟨rfl, trivial⟩⟩ rfl rfl hl.1 rfl (lv_room (Nat.le_of_ble_eq_true rfl)) dX2_totalEnergy_42 ⟨Nat.zero_le _, Nat.zero_le _⟩) ?_
        refine z_ladd (pc := 45) hx hb dX2_totalEnergy_45 ?_
        refine lv_lstore_n (lv' := [(3, vL (li + ((o_places_c b) * (o_places_c b)))), (1, vL (mo + ((o_speeds_c b) * (o_speeds_c b)))), (7, vI b), (5, vL sn), (0, .ref oA)]) (pc := 46) hx hb dX2_totalEnergy_46 rfl hl (by decide) rfl (fun ls hl => ?_)
        refine lv_iload (pc := 47) hx hb dX2_totalEnergy_47 (lv_at hl 2 rfl) ?_
        refine z_if_le (pc := 49) (tgt := 78) hx hb dX2_totalEnergy_49 (by decide) (by omega) (fun c_2 => ?_) (fun c_2 => ?_)
        · have hc_49t := c_2
          refine lv_iinc (v := zI (b + 1)) (lv' := [(7, vI (b + 1)), (3, vL (li + ((o_places_c b) * (o_places_c b)))), (1, vL (mo + ((o_speeds_c b) * (o_speeds_c b)))), (5, vL sn), (0, .ref oA)]) (pc := 78) hx hb dX2_totalEnergy_78 hl (k := 2) rfl (zI_add _ _) (by decide) rfl (fun ls hl => ?_)
          refine lv_goto (pc := 81) (tgt := 10) hx hb dX2_totalEnergy_81 (by decide) ?_
          exact ih_10 (b + 1) (mo + ((o_speeds_c b) * (o_speeds_c b))) (li + ((o_places_c b) * (o_places_c b))) sn (by omega) (by rw [smZ_toNat _ i1.1, ← i2]) (by rw [smZ_toNat _ i1.1, ← i3]) (by first | (rw [smZ_toNat _ i1.1, ← i4, if_pos hc_49f]; done) | (rw [smZ_toNat _ i1.1, ← i4, if_neg (by omega), Int.add_zero])) (by omega) _ (lv_sub hl [0, 3, 1, 2, 4] rfl)
        · have hc_49f := c_2
          have f2 := hp (b - 1) (by omega) (by omega)
          refine lv_lload (pc := 52) hx hb dX2_totalEnergy_52 (lv_at hl 3 rfl) ?_
          refine lv_aload_n (pc := 54) hx hb dX2_totalEnergy_54 rfl (lv_at hl 4 rfl) ?_
          refine va_get (pc := 55) (D := D) (ci := 1) (v := .ref o_places) (C := RX2) (T := TX2) (N := 9) hx hb hts in_X2 hown hK hP 0 rfl rfl 0 (by decide) fl_11 (fun _ h9 => h9) rfl dX2_totalEnergy_55 ?_
          refine lv_iload (pc := 58) hx hb dX2_totalEnergy_58 (lv_at hl 2 rfl) ?_
          refine z_iald (pc := 60) hx hb hK hP 1 0 (by omega) rfl rfl (by first | decide | omega) dX2_totalEnergy_60 ?_
          refine lv_aload_n (pc := 61) hx hb dX2_totalEnergy_61 rfl (lv_at hl 4 rfl) ?_
          refine va_get (pc := 62) (D := D) (ci := 1) (v := .ref o_places) (C := RX2) (T := TX2) (N := 9) hx hb hts in_X2 hown hK hP 0 rfl rfl 0 (by decide) fl_11 (fun _ h9 => h9) rfl dX2_totalEnergy_62 ?_
          refine lv_iload (pc := 65) hx hb dX2_totalEnergy_65 (lv_at hl 2 rfl) ?_
          refine z_iconst (pc := 67) hx hb dX2_totalEnergy_67 ?_
          refine z_isub (pc := 68) hx hb dX2_totalEnergy_68 ?_
          refine z_iald (pc := 69) hx hb hK hP 1 0 (by omega) rfl rfl (by first | decide | omega) dX2_totalEnergy_69 ?_
          refine z_isub (pc := 70) hx hb dX2_totalEnergy_70 ?_
          refine z_i2l (pc := 71) hx hb dX2_totalEnergy_71 (by omega) ?_
          refine z_callR (pc := 72) (va_runS (As := [vL ((o_places_c b) - (o_places_c (b - 1)))]) (rest := [vL sn]) ⟨hx, hb, hml, hown, hts⟩ (m_X2_square l D cI cJ cZ cD 0  ((o_places_c b) - (o_places_c (b - 1))) ) (va_cwS 1 hts gX2_totalEnergy_X2_square rfl rfl rfl (by decide +kernel) ⟨Nat.le_of_ble_eq_true rfl, Nat.le_of_ble_eq_true rfl⟩) ⟨fun a U g mk q => q, fun U hU hW => ⟨rfl, trivial⟩⟩ rfl rfl hl.1 rfl (lv_room (Nat.le_of_ble_eq_true rfl)) dX2_totalEnergy_72 ⟨Nat.zero_le _, Nat.zero_le _⟩) ?_
          refine z_ladd (pc := 75) hx hb dX2_totalEnergy_75 ?_
          refine lv_lstore (lv' := [(5, vL (sn + (((o_places_c b) - (o_places_c (b - 1))) * ((o_places_c b) - (o_places_c (b - 1)))))), (3, vL (li + ((o_places_c b) * (o_places_c b)))), (1, vL (mo + ((o_speeds_c b) * (o_speeds_c b)))), (7, vI b), (0, .ref oA)]) (pc := 76) hx hb dX2_totalEnergy_76 hl (by decide) rfl (fun ls hl => ?_)
          refine lv_iinc (v := zI (b + 1)) (lv' := [(7, vI (b + 1)), (5, vL (sn + (((o_places_c b) - (o_places_c (b - 1))) * ((o_places_c b) - (o_places_c (b - 1)))))), (3, vL (li + ((o_places_c b) * (o_places_c b)))), (1, vL (mo + ((o_speeds_c b) * (o_speeds_c b)))), (0, .ref oA)]) (pc := 78) hx hb dX2_totalEnergy_78 hl (k := 3) rfl (zI_add _ _) (by decide) rfl (fun ls hl => ?_)
          refine lv_goto (pc := 81) (tgt := 10) hx hb dX2_totalEnergy_81 (by decide) ?_
          exact ih_10 (b + 1) (mo + ((o_speeds_c b) * (o_speeds_c b))) (li + ((o_places_c b) * (o_places_c b))) (sn + (((o_places_c b) - (o_places_c (b - 1))) * ((o_places_c b) - (o_places_c (b - 1))))) (by omega) (by rw [smZ_toNat _ i1.1, ← i2]) (by rw [smZ_toNat _ i1.1, ← i3]) (by first | (rw [smZ_toNat _ i1.1, ← i4, if_pos hc_49f]; done) | (rw [smZ_toNat _ i1.1, ← i4, if_neg (by omega), Int.add_zero])) (by omega) _ (lv_sub hl [0, 1, 2, 3, 4] rfl)
  exact LP_10 (Int.toNat ((o_bobCount - 0 + 1) + 1)) 0 0 0 0 (by omega) (by rfl) (by rfl) (by rfl) (by omega) _ (lv_sub hl [0, 1, 2, 3, 4] rfl)
