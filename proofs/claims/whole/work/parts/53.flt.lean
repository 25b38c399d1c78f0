set_option maxHeartbeats 4000000 in
set_option maxRecDepth 100000 in
theorem m_X4_turn (l : Launch) (D : va_G) (cI cJ cZ cD : ClassId) (sz : Nat) (p0 : Int) (p1 : Int) (h0 : -90 ≤ p0 ∧ p0 ≤ 90) : Met l yX4_turn wsX4_turn ({ frames := 0, cells := 0, slots := 0, locals := 0 } : Room) (va_Pc [vI p0, vI p1] (fun _ => True)) (zQr (some (.float (trZ p0 p1)))) 0 0 (fun _ => False) := by
  refine Met.ofW (cc := cX4_turn) (maxL := 6) (ret := (some .float)) (by decide) rfl ?_
  intro p e s m args below meth c s₁ B hml hv
  obtain ⟨rfl, -⟩ := hv
  have hx := B.exec
  have hb := B.bytes
  have hr := B.returns
  have hts := atoms_spec (ws := wsX4_turn) B.pre
  have hown : s.vm.findClass RX4 = some m.cls := findClass_of_methodNamed B.named
  have hlocks := B.notSynchronized
  have cf_7 := hts (.constantFloat RX4 7 (1082130432)) (by decide +kernel)
  have cf_8 := hts (.constantFloat RX4 8 (1193161728)) (by decide +kernel)
  have cf_9 := hts (.constantFloat RX4 9 (1048576000)) (by decide +kernel)
  have hl := lv_entry ([vI p0, vI p1]) (n := 6) (Nat.le_of_ble_eq_true rfl)
  rw [lg_entry_eq]
  generalize (lg_sl ([vI p0, vI p1]) ++ List.replicate (6 - (lg_sl ([vI p0, vI p1])).length) Slot.unset).toArray = ls at hl ⊢
  have hl : lv_has ls 6 [(0, vI p0), (1, vI p1)] := hl
  refine lv_iload_n (pc := 0) hx hb dX4_turn_0 rfl (lv_at hl 0 rfl) ?_
  refine z_if_ge (pc := 1) (tgt := 9) hx hb dX4_turn_1 (by decide) (by omega) (fun c_1 => ?_) (fun c_1 => ?_)
  · have hc_1t := c_1
    refine lv_iload_n (pc := 9) hx hb dX4_turn_9 rfl (lv_at hl 0 rfl) ?_
    refine lv_istore_n (lv' := [(2, vI p0), (0, vI p0), (1, vI p1)]) (pc := 10) hx hb dX4_turn_10 rfl hl (by decide) rfl (fun ls hl => ?_)
    have ea : p0 = absZ p0 := by unfold absZ; first | (rw [if_pos (by omega)]; done) | (rw [if_neg (by omega)]; done)
    have hs := s9_f (a := absZ p0) (by rw [← ea]; omega)
    have ht := t9_f (a := absZ p0) (n := p1) (by rw [← ea]; omega)
    have hq := tr_f (la := p0) (n := p1) h0
    rw [← ea] at hs ht hq
    refine lv_iload_n (pc := 11) hx hb dX4_turn_11 rfl (lv_at hl 0 rfl) ?_
    refine z_sipush (pc := 12) hx hb dX4_turn_12 (by decide) ?_
    refine lv_iload_n (pc := 15) hx hb dX4_turn_15 rfl (lv_at hl 0 rfl) ?_
    refine z_isub (pc := 16) hx hb dX4_turn_16 ?_
    refine z_imul (pc := 17) hx hb dX4_turn_17 ?_
    refine lv_i2f (pc := 18) hx hb dX4_turn_18 ?_
    refine lv_fstore_n (lv' := [(3, .float (FP.i2f (zI (p0 * (180 - p0))))), (2, vI p0), (0, vI p0), (1, vI p1)]) (pc := 19) hx hb dX4_turn_19 rfl hl (by decide) rfl (fun ls hl => ?_)
    refine lv_ldcf (pc := 20) hx hb hown cf_7 dX4_turn_20 ?_
    refine lv_fload_n (pc := 22) hx hb dX4_turn_22 rfl (lv_at hl 0 rfl) ?_
    refine lv_fmul (pc := 23) hx hb dX4_turn_23 (hs.2.1.v) ?_
    refine lv_ldcf (pc := 24) hx hb hown cf_8 dX4_turn_24 ?_
    refine lv_fload_n (pc := 26) hx hb dX4_turn_26 rfl (lv_at hl 0 rfl) ?_
    refine lv_fsub (pc := 27) hx hb dX4_turn_27 (hs.2.2.v) ?_
    refine lv_fdiv (pc := 28) hx hb dX4_turn_28 (hs.1.n.v) ?_
    refine lv_fstore (lv' := [(4, .float (FP.fdiv (FP.fmul 1082130432 (FP.i2f (zI (p0 * (180 - p0))))) (FP.fsub 1193161728 (FP.i2f (zI (p0 * (180 - p0))))))), (3, .float (FP.i2f (zI (p0 * (180 - p0))))), (2, vI p0), (0, vI p0), (1, vI p1)]) (pc := 29) hx hb dX4_turn_29 hl (by decide) rfl (fun ls hl => ?_)
    refine lv_fload (pc := 31) hx hb dX4_turn_31 (lv_at hl 0 rfl) ?_
    refine lv_iload_n (pc := 33) hx hb dX4_turn_33 rfl (lv_at hl 4 rfl) ?_
    refine lv_i2f (pc := 34) hx hb dX4_turn_34 ?_
    refine lv_fmul (pc := 35) hx hb dX4_turn_35 (ht.1.v) ?_
    refine lv_ldcf (pc := 36) hx hb hown cf_9 dX4_turn_36 ?_
    refine lv_fmul (pc := 38) hx hb dX4_turn_38 (ht.2.v) ?_
    refine lv_fstore (lv' := [(5, .float (FP.fmul (FP.fmul (FP.fdiv (FP.fmul 1082130432 (FP.i2f (zI (p0 * (180 - p0))))) (FP.fsub 1193161728 (FP.i2f (zI (p0 * (180 - p0)))))) (FP.i2f (zI p1))) 1048576000)), (4, .float (FP.fdiv (FP.fmul 1082130432 (FP.i2f (zI (p0 * (180 - p0))))) (FP.fsub 1193161728 (FP.i2f (zI (p0 * (180 - p0))))))), (3, .float (FP.i2f (zI (p0 * (180 - p0))))), (2, vI p0), (0, vI p0), (1, vI p1)]) (pc := 39) hx hb dX4_turn_39 hl (by decide) rfl (fun ls hl => ?_)
    refine lv_iload_n (pc := 41) hx hb dX4_turn_41 rfl (lv_at hl 4 rfl) ?_
    refine z_if_ge (pc := 42) (tgt := 52) hx hb dX4_turn_42 (by decide) (by omega) (fun c_2 => ?_) (fun c_2 => ?_)
    · have hc_42t := c_2
      refine lv_fload (pc := 52) hx hb dX4_turn_52 (lv_at hl 0 rfl) ?_
      have hv : (FP.fmul (FP.fmul (FP.fdiv (FP.fmul 1082130432 (FP.i2f (zI (p0 * (180 - p0))))) (FP.fsub 1193161728 (FP.i2f (zI (p0 * (180 - p0)))))) (FP.i2f (zI p1))) 1048576000) = (trZ p0 p1) := by unfold trZ; first | (rw [if_pos (by omega), ← ea]; rfl) | (rw [if_neg (by omega), ← ea]; rfl)
      exact W.fret (pc := 54) (v := (FP.fmul (FP.fmul (FP.fdiv (FP.fmul 1082130432 (FP.i2f (zI (p0 * (180 - p0))))) (FP.fsub 1193161728 (FP.i2f (zI (p0 * (180 - p0)))))) (FP.i2f (zI p1))) 1048576000)) hx hb hr (fun t ht hW => ⟨congrArg (fun z => Outcome.returned (some (.float z))) hv, ht⟩) (fun q h => absurd h List.not_mem_nil) dX4_turn_54
    · have hc_42f := c_2
      refine lv_fconst0 (pc := 45) hx hb dX4_turn_45 ?_
      refine lv_fload (pc := 46) hx hb dX4_turn_46 (lv_at hl 0 rfl) ?_
      refine lv_fsub (pc := 48) hx hb dX4_turn_48 (hq.2.1.v) ?_
      refine lv_goto (pc := 49) (tgt := 54) hx hb dX4_turn_49 (by decide) ?_
      have hv : (FP.fsub 0 (FP.fmul (FP.fmul (FP.fdiv (FP.fmul 1082130432 (FP.i2f (zI (p0 * (180 - p0))))) (FP.fsub 1193161728 (FP.i2f (zI (p0 * (180 - p0)))))) (FP.i2f (zI p1))) 1048576000)) = (trZ p0 p1) := by unfold trZ; first | (rw [if_pos (by omega), ← ea]; rfl) | (rw [if_neg (by omega), ← ea]; rfl)
      exact W.fret (pc := 54) (v := (FP.fsub 0 (FP.fmul (FP.fmul (FP.fdiv (FP.fmul 1082130432 (FP.i2f (zI (p0 * (180 - p0))))) (FP.fsub 1193161728 (FP.i2f (zI (p0 * (180 - p0)))))) (FP.i2f (zI p1))) 1048576000))) hx hb hr (fun t ht hW => ⟨congrArg (fun z => Outcome.returned (some (.float z))) hv, ht⟩) (fun q h => absurd h List.not_mem_nil) dX4_turn_54
  · have hc_1f := c_1
    refine lv_iload_n (pc := 4) hx hb dX4_turn_4 rfl (lv_at hl 0 rfl) ?_
    refine z_ineg (pc := 5) hx hb dX4_turn_5 ?_
    refine lv_goto (pc := 6) (tgt := 10) hx hb dX4_turn_6 (by decide) ?_
    refine lv_istore_n (lv' := [(2, vI (-p0)), (0, vI p0), (1, vI p1)]) (pc := 10) hx hb dX4_turn_10 rfl hl (by decide) rfl (fun ls hl => ?_)
    have ea : (-p0) = absZ p0 := by unfold absZ; first | (rw [if_pos (by omega)]; done) | (rw [if_neg (by omega)]; done)
    have hs := s9_f (a := absZ p0) (by rw [← ea]; omega)
    have ht := t9_f (a := absZ p0) (n := p1) (by rw [← ea]; omega)
    have hq := tr_f (la := p0) (n := p1) h0
    rw [← ea] at hs ht hq
    refine lv_iload_n (pc := 11) hx hb dX4_turn_11 rfl (lv_at hl 0 rfl) ?_
    refine z_sipush (pc := 12) hx hb dX4_turn_12 (by decide) ?_
    refine lv_iload_n (pc := 15) hx hb dX4_turn_15 rfl (lv_at hl 0 rfl) ?_
    refine z_isub (pc := 16) hx hb dX4_turn_16 ?_
    refine z_imul (pc := 17) hx hb dX4_turn_17 ?_
    refine lv_i2f (pc := 18) hx hb dX4_turn_18 ?_
    refine lv_fstore_n (lv' := [(3, .float (FP.i2f (zI ((-p0) * (180 - (-p0)))))), (2, vI (-p0)), (0, vI p0), (1, vI p1)]) (pc := 19) hx hb dX4_turn_19 rfl hl (by decide) rfl (fun ls hl => ?_)
    refine lv_ldcf (pc := 20) hx hb hown cf_7 dX4_turn_20 ?_
    refine lv_fload_n (pc := 22) hx hb dX4_turn_22 rfl (lv_at hl 0 rfl) ?_
    refine lv_fmul (pc := 23) hx hb dX4_turn_23 (hs.2.1.v) ?_
    refine lv_ldcf (pc := 24) hx hb hown cf_8 dX4_turn_24 ?_
    refine lv_fload_n (pc := 26) hx hb dX4_turn_26 rfl (lv_at hl 0 rfl) ?_
    refine lv_fsub (pc := 27) hx hb dX4_turn_27 (hs.2.2.v) ?_
    refine lv_fdiv (pc := 28) hx hb dX4_turn_28 (hs.1.n.v) ?_
    refine lv_fstore (lv' := [(4, .float (FP.fdiv (FP.fmul 1082130432 (FP.i2f (zI ((-p0) * (180 - (-p0)))))) (FP.fsub 1193161728 (FP.i2f (zI ((-p0) * (180 - (-p0)))))))), (3, .float (FP.i2f (zI ((-p0) * (180 - (-p0)))))), (2, vI (-p0)), (0, vI p0), (1, vI p1)]) (pc := 29) hx hb dX4_turn_29 hl (by decide) rfl (fun ls hl => ?_)
    refine lv_fload (pc := 31) hx hb dX4_turn_31 (lv_at hl 0 rfl) ?_
    refine lv_iload_n (pc := 33) hx hb dX4_turn_33 rfl (lv_at hl 4 rfl) ?_
    refine lv_i2f (pc := 34) hx hb dX4_turn_34 ?_
    refine lv_fmul (pc := 35) hx hb dX4_turn_35 (ht.1.v) ?_
    refine lv_ldcf (pc := 36) hx hb hown cf_9 dX4_turn_36 ?_
    refine lv_fmul (pc := 38) hx hb dX4_turn_38 (ht.2.v) ?_
    refine lv_fstore (lv' := [(5, .float (FP.fmul (FP.fmul (FP.fdiv (FP.fmul 1082130432 (FP.i2f (zI ((-p0) * (180 - (-p0)))))) (FP.fsub 1193161728 (FP.i2f (zI ((-p0) * (180 - (-p0))))))) (FP.i2f (zI p1))) 1048576000)), (4, .float (FP.fdiv (FP.fmul 1082130432 (FP.i2f (zI ((-p0) * (180 - (-p0)))))) (FP.fsub 1193161728 (FP.i2f (zI ((-p0) * (180 - (-p0)))))))), (3, .float (FP.i2f (zI ((-p0) * (180 - (-p0)))))), (2, vI (-p0)), (0, vI p0), (1, vI p1)]) (pc := 39) hx hb dX4_turn_39 hl (by decide) rfl (fun ls hl => ?_)
    refine lv_iload_n (pc := 41) hx hb dX4_turn_41 rfl (lv_at hl 4 rfl) ?_
    refine z_if_ge (pc := 42) (tgt := 52) hx hb dX4_turn_42 (by decide) (by omega) (fun c_3 => ?_) (fun c_3 => ?_)
    · have hc_42t := c_3
      refine lv_fload (pc := 52) hx hb dX4_turn_52 (lv_at hl 0 rfl) ?_
      have hv : (FP.fmul (FP.fmul (FP.fdiv (FP.fmul 1082130432 (FP.i2f (zI ((-p0) * (180 - (-p0)))))) (FP.fsub 1193161728 (FP.i2f (zI ((-p0) * (180 - (-p0))))))) (FP.i2f (zI p1))) 1048576000) = (trZ p0 p1) := by unfold trZ; first | (rw [if_pos (by omega), ← ea]; rfl) | (rw [if_neg (by omega), ← ea]; rfl)
      exact W.fret (pc := 54) (v := (FP.fmul (FP.fmul (FP.fdiv (FP.fmul 1082130432 (FP.i2f (zI ((-p0) * (180 - (-p0)))))) (FP.fsub 1193161728 (FP.i2f (zI ((-p0) * (180 - (-p0))))))) (FP.i2f (zI p1))) 1048576000)) hx hb hr (fun t ht hW => ⟨congrArg (fun z => Outcome.returned (some (.float z))) hv, ht⟩) (fun q h => absurd h List.not_mem_nil) dX4_turn_54
    · have hc_42f := c_3
      refine lv_fconst0 (pc := 45) hx hb dX4_turn_45 ?_
      refine lv_fload (pc := 46) hx hb dX4_turn_46 (lv_at hl 0 rfl) ?_
      refine lv_fsub (pc := 48) hx hb dX4_turn_48 (hq.2.1.v) ?_
      refine lv_goto (pc := 49) (tgt := 54) hx hb dX4_turn_49 (by decide) ?_
      have hv : (FP.fsub 0 (FP.fmul (FP.fmul (FP.fdiv (FP.fmul 1082130432 (FP.i2f (zI ((-p0) * (180 - (-p0)))))) (FP.fsub 1193161728 (FP.i2f (zI ((-p0) * (180 - (-p0))))))) (FP.i2f (zI p1))) 1048576000)) = (trZ p0 p1) := by unfold trZ; first | (rw [if_pos (by omega), ← ea]; rfl) | (rw [if_neg (by omega), ← ea]; rfl)
      exact W.fret (pc := 54) (v := (FP.fsub 0 (FP.fmul (FP.fmul (FP.fdiv (FP.fmul 1082130432 (FP.i2f (zI ((-p0) * (180 - (-p0)))))) (FP.fsub 1193161728 (FP.i2f (zI ((-p0) * (180 - (-p0))))))) (FP.i2f (zI p1))) 1048576000))) hx hb hr (fun t ht hW => ⟨congrArg (fun z => Outcome.returned (some (.float z))) hv, ht⟩) (fun q h => absurd h List.not_mem_nil) dX4_turn_54

set_option maxHeartbeats 4000000 in
set_option maxRecDepth 100000 in
theorem m_X8_turnedAt (l : Launch) (D : va_G) (cI cJ cZ cD : ClassId) (sz : Nat) (p0 : Int) (p1 : Int) (h0 : -90 ≤ p0 ∧ p0 ≤ 90) : Met l yX8_turnedAt wsX8_turnedAt ({ frames := 0, cells := 0, slots := 0, locals := 0 } : Room) (va_Pc [vI p0, vI p1] (fun _ => True)) (zQr (some (.float (trZ p0 p1)))) 0 0 (fun _ => False) := by
  refine Met.ofW (cc := cX8_turnedAt) (maxL := 6) (ret := (some .float)) (by decide) rfl ?_
  intro p e s m args below meth c s₁ B hml hv
  obtain ⟨rfl, -⟩ := hv
  have hx := B.exec
  have hb := B.bytes
  have hr := B.returns
  have hts := atoms_spec (ws := wsX8_turnedAt) B.pre
  have hown : s.vm.findClass RX8 = some m.cls := findClass_of_methodNamed B.named
  have hlocks := B.notSynchronized
  have cf_200 := hts (.constantFloat RX8 200 (1082130432)) (by decide +kernel)
  have cf_201 := hts (.constantFloat RX8 201 (1193161728)) (by decide +kernel)
  have cf_202 := hts (.constantFloat RX8 202 (1048576000)) (by decide +kernel)
  have hl := lv_entry ([vI p0, vI p1]) (n := 6) (Nat.le_of_ble_eq_true rfl)
  rw [lg_entry_eq]
  generalize (lg_sl ([vI p0, vI p1]) ++ List.replicate (6 - (lg_sl ([vI p0, vI p1])).length) Slot.unset).toArray = ls at hl ⊢
  have hl : lv_has ls 6 [(0, vI p0), (1, vI p1)] := hl
  refine lv_iload_n (pc := 0) hx hb dX8_turnedAt_0 rfl (lv_at hl 0 rfl) ?_
  refine z_if_ge (pc := 1) (tgt := 9) hx hb dX8_turnedAt_1 (by decide) (by omega) (fun c_1 => ?_) (fun c_1 => ?_)
  · have hc_1t := c_1
    refine lv_iload_n (pc := 9) hx hb dX8_turnedAt_9 rfl (lv_at hl 0 rfl) ?_
    refine lv_istore_n (lv' := [(2, vI p0), (0, vI p0), (1, vI p1)]) (pc := 10) hx hb dX8_turnedAt_10 rfl hl (by decide) rfl (fun ls hl => ?_)
    have ea : p0 = absZ p0 := by unfold absZ; first | (rw [if_pos (by omega)]; done) | (rw [if_neg (by omega)]; done)
    have hs := s9_f (a := absZ p0) (by rw [← ea]; omega)
    have ht := t9_f (a := absZ p0) (n := p1) (by rw [← ea]; omega)
    have hq := tr_f (la := p0) (n := p1) h0
    rw [← ea] at hs ht hq
    refine lv_iload_n (pc := 11) hx hb dX8_turnedAt_11 rfl (lv_at hl 0 rfl) ?_
    refine z_sipush (pc := 12) hx hb dX8_turnedAt_12 (by decide) ?_
    refine lv_iload_n (pc := 15) hx hb dX8_turnedAt_15 rfl (lv_at hl 0 rfl) ?_
    refine z_isub (pc := 16) hx hb dX8_turnedAt_16 ?_
    refine z_imul (pc := 17) hx hb dX8_turnedAt_17 ?_
    refine lv_istore_n (lv' := [(3, vI (p0 * (180 - p0))), (2, vI p0), (0, vI p0), (1, vI p1)]) (pc := 18) hx hb dX8_turnedAt_18 rfl hl (by decide) rfl (fun ls hl => ?_)
    refine lv_ldcf (pc := 19) hx hb hown cf_200 dX8_turnedAt_19 ?_
    refine lv_iload_n (pc := 21) hx hb dX8_turnedAt_21 rfl (lv_at hl 0 rfl) ?_
    refine lv_i2f (pc := 22) hx hb dX8_turnedAt_22 ?_
    refine lv_fmul (pc := 23) hx hb dX8_turnedAt_23 (hs.2.1.v) ?_
    refine lv_ldcf (pc := 24) hx hb hown cf_201 dX8_turnedAt_24 ?_
    refine lv_iload_n (pc := 26) hx hb dX8_turnedAt_26 rfl (lv_at hl 0 rfl) ?_
    refine lv_i2f (pc := 27) hx hb dX8_turnedAt_27 ?_
    refine lv_fsub (pc := 28) hx hb dX8_turnedAt_28 (hs.2.2.v) ?_
    refine lv_fdiv (pc := 29) hx hb dX8_turnedAt_29 (hs.1.n.v) ?_
    refine lv_fstore (lv' := [(4, .float (FP.fdiv (FP.fmul 1082130432 (FP.i2f (zI (p0 * (180 - p0))))) (FP.fsub 1193161728 (FP.i2f (zI (p0 * (180 - p0))))))), (3, vI (p0 * (180 - p0))), (2, vI p0), (0, vI p0), (1, vI p1)]) (pc := 30) hx hb dX8_turnedAt_30 hl (by decide) rfl (fun ls hl => ?_)
    refine lv_fload (pc := 32) hx hb dX8_turnedAt_32 (lv_at hl 0 rfl) ?_
    refine lv_iload_n (pc := 34) hx hb dX8_turnedAt_34 rfl (lv_at hl 4 rfl) ?_
    refine lv_i2f (pc := 35) hx hb dX8_turnedAt_35 ?_
    refine lv_fmul (pc := 36) hx hb dX8_turnedAt_36 (ht.1.v) ?_
    refine lv_ldcf (pc := 37) hx hb hown cf_202 dX8_turnedAt_37 ?_
    refine lv_fmul (pc := 39) hx hb dX8_turnedAt_39 (ht.2.v) ?_
    refine lv_fstore (lv' := [(5, .float (FP.fmul (FP.fmul (FP.fdiv (FP.fmul 1082130432 (FP.i2f (zI (p0 * (180 - p0))))) (FP.fsub 1193161728 (FP.i2f (zI (p0 * (180 - p0)))))) (FP.i2f (zI p1))) 1048576000)), (4, .float (FP.fdiv (FP.fmul 1082130432 (FP.i2f (zI (p0 * (180 - p0))))) (FP.fsub 1193161728 (FP.i2f (zI (p0 * (180 - p0))))))), (3, vI (p0 * (180 - p0))), (2, vI p0), (0, vI p0), (1, vI p1)]) (pc := 40) hx hb dX8_turnedAt_40 hl (by decide) rfl (fun ls hl => ?_)
    refine lv_iload_n (pc := 42) hx hb dX8_turnedAt_42 rfl (lv_at hl 4 rfl) ?_
    refine z_if_ge (pc := 43) (tgt := 53) hx hb dX8_turnedAt_43 (by decide) (by omega) (fun c_2 => ?_) (fun c_2 => ?_)
    · have hc_43t := c_2
      refine lv_fload (pc := 53) hx hb dX8_turnedAt_53 (lv_at hl 0 rfl) ?_
      have hv : (FP.fmul (FP.fmul (FP.fdiv (FP.fmul 1082130432 (FP.i2f (zI (p0 * (180 - p0))))) (FP.fsub 1193161728 (FP.i2f (zI (p0 * (180 - p0)))))) (FP.i2f (zI p1))) 1048576000) = (trZ p0 p1) := by unfold trZ; first | (rw [if_pos (by omega), ← ea]; rfl) | (rw [if_neg (by omega), ← ea]; rfl)
      exact W.fret (pc := 55) (v := (FP.fmul (FP.fmul (FP.fdiv (FP.fmul 1082130432 (FP.i2f (zI (p0 * (180 - p0))))) (FP.fsub 1193161728 (FP.i2f (zI (p0 * (180 - p0)))))) (FP.i2f (zI p1))) 1048576000)) hx hb hr (fun t ht hW => ⟨congrArg (fun z => Outcome.returned (some (.float z))) hv, ht⟩) (fun q h => absurd h List.not_mem_nil) dX8_turnedAt_55
    · have hc_43f := c_2
      refine lv_fconst0 (pc := 46) hx hb dX8_turnedAt_46 ?_
      refine lv_fload (pc := 47) hx hb dX8_turnedAt_47 (lv_at hl 0 rfl) ?_
      refine lv_fsub (pc := 49) hx hb dX8_turnedAt_49 (hq.2.1.v) ?_
      refine lv_goto (pc := 50) (tgt := 55) hx hb dX8_turnedAt_50 (by decide) ?_
      have hv : (FP.fsub 0 (FP.fmul (FP.fmul (FP.fdiv (FP.fmul 1082130432 (FP.i2f (zI (p0 * (180 - p0))))) (FP.fsub 1193161728 (FP.i2f (zI (p0 * (180 - p0)))))) (FP.i2f (zI p1))) 1048576000)) = (trZ p0 p1) := by unfold trZ; first | (rw [if_pos (by omega), ← ea]; rfl) | (rw [if_neg (by omega), ← ea]; rfl)
      exact W.fret (pc := 55) (v := (FP.fsub 0 (FP.fmul (FP.fmul (FP.fdiv (FP.fmul 1082130432 (FP.i2f (zI (p0 * (180 - p0))))) (FP.fsub 1193161728 (FP.i2f (zI (p0 * (180 - p0)))))) (FP.i2f (zI p1))) 1048576000))) hx hb hr (fun t ht hW => ⟨congrArg (fun z => Outcome.returned (some (.float z))) hv, ht⟩) (fun q h => absurd h List.not_mem_nil) dX8_turnedAt_55
  · have hc_1f := c_1
    refine lv_iload_n (pc := 4) hx hb dX8_turnedAt_4 rfl (lv_at hl 0 rfl) ?_
    refine z_ineg (pc := 5) hx hb dX8_turnedAt_5 ?_
    refine lv_goto (pc := 6) (tgt := 10) hx hb dX8_turnedAt_6 (by decide) ?_
    refine lv_istore_n (lv' := [(2, vI (-p0)), (0, vI p0), (1, vI p1)]) (pc := 10) hx hb dX8_turnedAt_10 rfl hl (by decide) rfl (fun ls hl => ?_)
    have ea : (-p0) = absZ p0 := by unfold absZ; first | (rw [if_pos (by omega)]; done) | (rw [if_neg (by omega)]; done)
    have hs := s9_f (a := absZ p0) (by rw [← ea]; omega)
    have ht := t9_f (a := absZ p0) (n := p1) (by rw [← ea]; omega)
    have hq := tr_f (la := p0) (n := p1) h0
    rw [← ea] at hs ht hq
    refine lv_iload_n (pc := 11) hx hb dX8_turnedAt_11 rfl (lv_at hl 0 rfl) ?_
    refine z_sipush (pc := 12) hx hb dX8_turnedAt_12 (by decide) ?_
    refine lv_iload_n (pc := 15) hx hb dX8_turnedAt_15 rfl (lv_at hl 0 rfl) ?_
    refine z_isub (pc := 16) hx hb dX8_turnedAt_16 ?_
    refine z_imul (pc := 17) hx hb dX8_turnedAt_17 ?_
    refine lv_istore_n (lv' := [(3, vI ((-p0) * (180 - (-p0)))), (2, vI (-p0)), (0, vI p0), (1, vI p1)]) (pc := 18) hx hb dX8_turnedAt_18 rfl hl (by decide) rfl (fun ls hl => ?_)
    refine lv_ldcf (pc := 19) hx hb hown cf_200 dX8_turnedAt_19 ?_
    refine lv_iload_n (pc := 21) hx hb dX8_turnedAt_21 rfl (lv_at hl 0 rfl) ?_
    refine lv_i2f (pc := 22) hx hb dX8_turnedAt_22 ?_
    refine lv_fmul (pc := 23) hx hb dX8_turnedAt_23 (hs.2.1.v) ?_
    refine lv_ldcf (pc := 24) hx hb hown cf_201 dX8_turnedAt_24 ?_
    refine lv_iload_n (pc := 26) hx hb dX8_turnedAt_26 rfl (lv_at hl 0 rfl) ?_
    refine lv_i2f (pc := 27) hx hb dX8_turnedAt_27 ?_
    refine lv_fsub (pc := 28) hx hb dX8_turnedAt_28 (hs.2.2.v) ?_
    refine lv_fdiv (pc := 29) hx hb dX8_turnedAt_29 (hs.1.n.v) ?_
    refine lv_fstore (lv' := [(4, .float (FP.fdiv (FP.fmul 1082130432 (FP.i2f (zI ((-p0) * (180 - (-p0)))))) (FP.fsub 1193161728 (FP.i2f (zI ((-p0) * (180 - (-p0)))))))), (3, vI ((-p0) * (180 - (-p0)))), (2, vI (-p0)), (0, vI p0), (1, vI p1)]) (pc := 30) hx hb dX8_turnedAt_30 hl (by decide) rfl (fun ls hl => ?_)
    refine lv_fload (pc := 32) hx hb dX8_turnedAt_32 (lv_at hl 0 rfl) ?_
    refine lv_iload_n (pc := 34) hx hb dX8_turnedAt_34 rfl (lv_at hl 4 rfl) ?_
    refine lv_i2f (pc := 35) hx hb dX8_turnedAt_35 ?_
    refine lv_fmul (pc := 36) hx hb dX8_turnedAt_36 (ht.1.v) ?_
    refine lv_ldcf (pc := 37) hx hb hown cf_202 dX8_turnedAt_37 ?_
    refine lv_fmul (pc := 39) hx hb dX8_turnedAt_39 (ht.2.v) ?_
    refine lv_fstore (lv' := [(5, .float (FP.fmul (FP.fmul (FP.fdiv (FP.fmul 1082130432 (FP.i2f (zI ((-p0) * (180 - (-p0)))))) (FP.fsub 1193161728 (FP.i2f (zI ((-p0) * (180 - (-p0))))))) (FP.i2f (zI p1))) 1048576000)), (4, .float (FP.fdiv (FP.fmul 1082130432 (FP.i2f (zI ((-p0) * (180 - (-p0)))))) (FP.fsub 1193161728 (FP.i2f (zI ((-p0) * (180 - (-p0)))))))), (3, vI ((-p0) * (180 - (-p0)))), (2, vI (-p0)), (0, vI p0), (1, vI p1)]) (pc := 40) hx hb dX8_turnedAt_40 hl (by decide) rfl (fun ls hl => ?_)
    refine lv_iload_n (pc := 42) hx hb dX8_turnedAt_42 rfl (lv_at hl 4 rfl) ?_
    refine z_if_ge (pc := 43) (tgt := 53) hx hb dX8_turnedAt_43 (by decide) (by omega) (fun c_3 => ?_) (fun c_3 => ?_)
    · have hc_43t := c_3
      refine lv_fload (pc := 53) hx hb dX8_turnedAt_53 (lv_at hl 0 rfl) ?_
      have hv : (FP.fmul (FP.fmul (FP.fdiv (FP.fmul 1082130432 (FP.i2f (zI ((-p0) * (180 - (-p0)))))) (FP.fsub 1193161728 (FP.i2f (zI ((-p0) * (180 - (-p0))))))) (FP.i2f (zI p1))) 1048576000) = (trZ p0 p1) := by unfold trZ; first | (rw [if_pos (by omega), ← ea]; rfl) | (rw [if_neg (by omega), ← ea]; rfl)
      exact W.fret (pc := 55) (v := (FP.fmul (FP.fmul (FP.fdiv (FP.fmul 1082130432 (FP.i2f (zI ((-p0) * (180 - (-p0)))))) (FP.fsub 1193161728 (FP.i2f (zI ((-p0) * (180 - (-p0))))))) (FP.i2f (zI p1))) 1048576000)) hx hb hr (fun t ht hW => ⟨congrArg (fun z => Outcome.returned (some (.float z))) hv, ht⟩) (fun q h => absurd h List.not_mem_nil) dX8_turnedAt_55
    · have hc_43f := c_3
      refine lv_fconst0 (pc := 46) hx hb dX8_turnedAt_46 ?_
      refine lv_fload (pc := 47) hx hb dX8_turnedAt_47 (lv_at hl 0 rfl) ?_
      refine lv_fsub (pc := 49) hx hb dX8_turnedAt_49 (hq.2.1.v) ?_
      refine lv_goto (pc := 50) (tgt := 55) hx hb dX8_turnedAt_50 (by decide) ?_
      have hv : (FP.fsub 0 (FP.fmul (FP.fmul (FP.fdiv (FP.fmul 1082130432 (FP.i2f (zI ((-p0) * (180 - (-p0)))))) (FP.fsub 1193161728 (FP.i2f (zI ((-p0) * (180 - (-p0))))))) (FP.i2f (zI p1))) 1048576000)) = (trZ p0 p1) := by unfold trZ; first | (rw [if_pos (by omega), ← ea]; rfl) | (rw [if_neg (by omega), ← ea]; rfl)
      exact W.fret (pc := 55) (v := (FP.fsub 0 (FP.fmul (FP.fmul (FP.fdiv (FP.fmul 1082130432 (FP.i2f (zI ((-p0) * (180 - (-p0)))))) (FP.fsub 1193161728 (FP.i2f (zI ((-p0) * (180 - (-p0))))))) (FP.i2f (zI p1))) 1048576000))) hx hb hr (fun t ht hW => ⟨congrArg (fun z => Outcome.returned (some (.float z))) hv, ht⟩) (fun q h => absurd h List.not_mem_nil) dX8_turnedAt_55

set_option maxHeartbeats 4000000 in
set_option maxRecDepth 100000 in
theorem m_X4_missAt (l : Launch) (D : va_G) (cI cJ cZ cD : ClassId) (sz : Nat) (p0 : Int) (p1 : UInt32) (h0 : -90 ≤ p0 ∧ p0 ≤ 90) (hf : fFi p1) : Met l yX4_missAt wsX4_missAt ({ frames := 1, cells := 0, slots := 0, locals := 25 } : Room) (va_Pc [vI p0, .float p1] (fun _ => True)) (zQr (some (.float (msZ p0 p1)))) 0 0 (fun _ => False) := by
  refine Met.ofW (cc := cX4_missAt) (maxL := 3) (ret := (some .float)) (by decide) rfl ?_
  intro p e s m args below meth c s₁ B hml hv
  obtain ⟨rfl, -⟩ := hv
  have hx := B.exec
  have hb := B.bytes
  have hr := B.returns
  have hts := atoms_spec (ws := wsX4_missAt) B.pre
  have hown : s.vm.findClass RX4 = some m.cls := findClass_of_methodNamed B.named
  have hlocks := B.notSynchronized
  have cf_20 := hts (.constantFloat RX4 20 (1120403456)) (by decide +kernel)
  have hl := lv_entry ([vI p0, .float p1]) (n := 3) (Nat.le_of_ble_eq_true rfl)
  rw [lg_entry_eq]
  generalize (lg_sl ([vI p0, .float p1]) ++ List.replicate (3 - (lg_sl ([vI p0, .float p1])).length) Slot.unset).toArray = ls at hl ⊢
  have hl : lv_has ls 3 [(0, vI p0), (1, .float p1)] := hl
  have hm := ms_f h0 hf
  refine lv_iload_n (pc := 0) hx hb dX4_missAt_0 rfl (lv_at hl 0 rfl) ?_
  refine z_bipush (pc := 1) hx hb dX4_missAt_1 (by decide) ?_
  refine z_callR (pc := 3) (va_runS (As := [vI p0, vI 60]) (rest := []) ⟨hx, hb, hml, hown, hts⟩ (m_X4_turn l D cI cJ cZ cD 0  p0 60 h0) (va_cwS 2 hts gX4_missAt_X4_turn rfl rfl rfl (by decide +kernel) ⟨Nat.le_of_ble_eq_true rfl, Nat.le_of_ble_eq_true rfl⟩) ⟨fun a U g mk q => q, fun U hU hW => ⟨rfl, trivial⟩⟩ rfl rfl hl.1 rfl (lv_room (Nat.le_of_ble_eq_true rfl)) dX4_missAt_3 ⟨Nat.zero_le _, Nat.zero_le _⟩) ?_
  refine lv_ldcf (pc := 6) hx hb hown cf_20 dX4_missAt_6 ?_
  refine lv_fmul (pc := 8) hx hb dX4_missAt_8 (hm.1.v) ?_
  refine lv_fload_n (pc := 9) hx hb dX4_missAt_9 rfl (lv_at hl 1 rfl) ?_
  refine lv_fsub (pc := 10) hx hb dX4_missAt_10 (hm.2.1.v) ?_
  refine lv_fstore_n (lv' := [(2, .float (FP.fsub (FP.fmul (trZ p0 60) 1120403456) p1)), (0, vI p0), (1, .float p1)]) (pc := 11) hx hb dX4_missAt_11 rfl hl (by decide) rfl (fun ls hl => ?_)
  refine lv_fload_n (pc := 12) hx hb dX4_missAt_12 rfl (lv_at hl 0 rfl) ?_
  refine lv_fconst0 (pc := 13) hx hb dX4_missAt_13 ?_
  refine z_fcmpge (pc := 14) (tgt := 24) hx hb dX4_missAt_14 dX4_missAt_15 (by decide) (fun c_1 => ?_) (fun c_1 => ?_)
  · have hc_14t := c_1
    refine lv_fload_n (pc := 24) hx hb dX4_missAt_24 rfl (lv_at hl 0 rfl) ?_
    have hv : (FP.fsub (FP.fmul (trZ p0 60) 1120403456) p1) = (msZ p0 p1) := by unfold msZ; first | exact (fif_y hc_14f).symm | exact (fif_n hc_14t).symm
    exact W.fret (pc := 25) (v := (FP.fsub (FP.fmul (trZ p0 60) 1120403456) p1)) hx hb hr (fun t ht hW => ⟨congrArg (fun z => Outcome.returned (some (.float z))) hv, ht⟩) (fun q h => absurd h List.not_mem_nil) dX4_missAt_25
  · have hc_14f := c_1
    refine lv_fconst0 (pc := 18) hx hb dX4_missAt_18 ?_
    refine lv_fload_n (pc := 19) hx hb dX4_missAt_19 rfl (lv_at hl 0 rfl) ?_
    refine lv_fsub (pc := 20) hx hb dX4_missAt_20 (hm.2.2.v) ?_
    refine lv_goto (pc := 21) (tgt := 25) hx hb dX4_missAt_21 (by decide) ?_
    have hv : (FP.fsub 0 (FP.fsub (FP.fmul (trZ p0 60) 1120403456) p1)) = (msZ p0 p1) := by unfold msZ; first | exact (fif_y hc_14f).symm | exact (fif_n hc_14t).symm
    exact W.fret (pc := 25) (v := (FP.fsub 0 (FP.fsub (FP.fmul (trZ p0 60) 1120403456) p1))) hx hb hr (fun t ht hW => ⟨congrArg (fun z => Outcome.returned (some (.float z))) hv, ht⟩) (fun q h => absurd h List.not_mem_nil) dX4_missAt_25

set_option maxHeartbeats 4000000 in
set_option maxRecDepth 100000 in
theorem m_X4_nearestLatitude (l : Launch) (D : va_G) (cI cJ cZ cD : ClassId) (sz : Nat) (p0 : UInt32) (hf : fFi p0) : Met l yX4_nearestLatitude wsX4_nearestLatitude ({ frames := 2, cells := 0, slots := 0, locals := 47 } : Room) (va_Pc [.float p0] (fun _ => True)) (zQr (some (vI ((nlZ p0 180).1)))) 0 0 (fun _ => False) := by
  refine Met.ofW (cc := cX4_nearestLatitude) (maxL := 5) (ret := (some .int)) (by decide) rfl ?_
  intro p e s m args below meth c s₁ B hml hv
  obtain ⟨rfl, -⟩ := hv
  have hx := B.exec
  have hb := B.bytes
  have hr := B.returns
  have hts := atoms_spec (ws := wsX4_nearestLatitude) B.pre
  have hown : s.vm.findClass RX4 = some m.cls := findClass_of_methodNamed B.named
  have hlocks := B.notSynchronized
  have hl := lv_entry ([.float p0]) (n := 5) (Nat.le_of_ble_eq_true rfl)
  rw [lg_entry_eq]
  generalize (lg_sl ([.float p0]) ++ List.replicate (5 - (lg_sl ([.float p0])).length) Slot.unset).toArray = ls at hl ⊢
  have hl : lv_has ls 5 [(0, .float p0)] := hl
  refine z_bipush (pc := 0) hx hb dX4_nearestLatitude_0 (by decide) ?_
  refine lv_istore_n (lv' := [(1, vI (-90)), (0, .float p0)]) (pc := 2) hx hb dX4_nearestLatitude_2 rfl hl (by decide) rfl (fun ls hl => ?_)
  refine z_bipush (pc := 3) hx hb dX4_nearestLatitude_3 (by decide) ?_
  refine lv_fload_n (pc := 5) hx hb dX4_nearestLatitude_5 rfl (lv_at hl 1 rfl) ?_
  refine z_callR (pc := 6) (va_runS (As := [vI (-90), .float p0]) (rest := []) ⟨hx, hb, hml, hown, hts⟩ (m_X4_missAt l D cI cJ cZ cD 0  (-90) p0 (by omega) hf) (va_cwS 2 hts gX4_nearestLatitude_X4_missAt rfl rfl rfl (by decide +kernel) ⟨Nat.le_of_ble_eq_true rfl, Nat.le_of_ble_eq_true rfl⟩) ⟨fun a U g mk q => q, fun U hU hW => ⟨rfl, trivial⟩⟩ rfl rfl hl.1 rfl (lv_room (Nat.le_of_ble_eq_true rfl)) dX4_nearestLatitude_6 ⟨Nat.zero_le _, Nat.zero_le _⟩) ?_
  refine lv_fstore_n (lv' := [(2, .float (msZ (-90) p0)), (1, vI (-90)), (0, .float p0)]) (pc := 9) hx hb dX4_nearestLatitude_9 rfl hl (by decide) rfl (fun ls hl => ?_)
  refine z_bipush (pc := 10) hx hb dX4_nearestLatitude_10 (by decide) ?_
  refine lv_istore_n (lv' := [(3, vI (-89)), (2, .float (msZ (-90) p0)), (1, vI (-90)), (0, .float p0)]) (pc := 12) hx hb dX4_nearestLatitude_12 rfl hl (by decide) rfl (fun ls hl => ?_)
  have LP_13 : ∀ (nfu : Nat) (k : Int) (nr : Int) (ls9 : UInt32) (i1 : -89 ≤ k ∧ k ≤ 91) (i2 : nlZ p0 (Int.toNat (k + 89)) = (nr, ls9)) (hme : 91 - k + 1 < (nfu : Int)) (ls : Array Slot) (hl : lv_has ls 5 [(3, vI k), (2, .float ls9), (1, vI nr), (0, .float p0)]), W p l e (headSpec wsX4_nearestLatitude ({ frames := 2, cells := 0, slots := 0, locals := 47 } : Room)).room s m ([.float p0] : List Value).toArray below meth c s.heap [] 0 0 (MQ below (zQr (some (vI ((nlZ p0 180).1)))) ([.float p0] : List Value).toArray s 0 0 (fun _ => False)) (F0 m 13 ls []) := by
    intro nfu
    induction nfu with
    | zero =>
      intro k nr ls9 i1 i2 hme ls hl
      exact absurd hme (by omega)
    | succ nfu ih_13 =>
      intro k nr ls9 i1 i2 hme ls hl
      refine lv_iload_n (pc := 13) hx hb dX4_nearestLatitude_13 rfl (lv_at hl 0 rfl) ?_
      refine z_bipush (pc := 14) hx hb dX4_nearestLatitude_14 (by decide) ?_
      refine z_icmp_gt (pc := 16) (tgt := 44) hx hb dX4_nearestLatitude_16 (by decide) (by omega) (by decide) (fun c_1 => ?_) (fun c_1 => ?_)
      · have hc_16t := c_1
        refine lv_iload_n (pc := 44) hx hb dX4_nearestLatitude_44 rfl (lv_at hl 2 rfl) ?_
        have hv : (nr : Int) = ((nlZ p0 180).1) := by
          have e9 : nlZ p0 180 = (nr, ls9) := by rw [← i2, show Int.toNat (k + 89) = 180 by omega]
          rw [e9]
        exact W.iret (pc := 45) (v := zI nr) hx hb hr (fun t ht hW => ⟨congrArg (fun z => Outcome.returned (some (vI z))) hv, ht⟩) (fun q h => absurd h List.not_mem_nil) dX4_nearestLatitude_45
      · have hc_16f := c_1
        refine lv_iload_n (pc := 19) hx hb dX4_nearestLatitude_19 rfl (lv_at hl 0 rfl) ?_
        refine lv_fload_n (pc := 20) hx hb dX4_nearestLatitude_20 rfl (lv_at hl 3 rfl) ?_
        refine z_callR (pc := 21) (va_runS (As := [vI k, .float p0]) (rest := []) ⟨hx, hb, hml, hown, hts⟩ (m_X4_missAt l D cI cJ cZ cD 0  k p0 (by omega) hf) (va_cwS 2 hts gX4_nearestLatitude_X4_missAt rfl rfl rfl (by decide +kernel) ⟨Nat.le_of_ble_eq_true rfl, Nat.le_of_ble_eq_true rfl⟩) ⟨fun a U g mk q => q, fun U hU hW => ⟨rfl, trivial⟩⟩ rfl rfl hl.1 rfl (lv_room (Nat.le_of_ble_eq_true rfl)) dX4_nearestLatitude_21 ⟨Nat.zero_le _, Nat.zero_le _⟩) ?_
        refine lv_fstore (lv' := [(4, .float (msZ k p0)), (3, vI k), (2, .float ls9), (1, vI nr), (0, .float p0)]) (pc := 24) hx hb dX4_nearestLatitude_24 hl (by decide) rfl (fun ls hl => ?_)
        refine lv_fload (pc := 26) hx hb dX4_nearestLatitude_26 (lv_at hl 0 rfl) ?_
        refine lv_fload_n (pc := 28) hx hb dX4_nearestLatitude_28 rfl (lv_at hl 2 rfl) ?_
        refine z_fcmpge (pc := 29) (tgt := 38) hx hb dX4_nearestLatitude_29 dX4_nearestLatitude_30 (by decide) (fun c_2 => ?_) (fun c_2 => ?_)
        · have hc_29t := c_2
          refine lv_iinc (v := zI (k + 1)) (lv' := [(3, vI (k + 1)), (4, .float (msZ k p0)), (2, .float ls9), (1, vI nr), (0, .float p0)]) (pc := 38) hx hb dX4_nearestLatitude_38 hl (k := 1) rfl (zI_add _ _) (by decide) rfl (fun ls hl => ?_)
          refine lv_goto (pc := 41) (tgt := 13) hx hb dX4_nearestLatitude_41 (by decide) ?_
          exact ih_13 (k + 1) nr ls9 (by omega) (by first | exact nl_y i1.1 (by rw [i2]; exact hc_29f) | exact (nl_n i1.1 (by rw [i2]; exact hc_29t)).trans i2) (by omega) _ (lv_sub hl [0, 2, 3, 4] rfl)
        · have hc_29f := c_2
          refine lv_fload (pc := 33) hx hb dX4_nearestLatitude_33 (lv_at hl 0 rfl) ?_
          refine lv_fstore_n (lv' := [(2, .float (msZ k p0)), (4, .float (msZ k p0)), (3, vI k), (1, vI nr), (0, .float p0)]) (pc := 35) hx hb dX4_nearestLatitude_35 rfl hl (by decide) rfl (fun ls hl => ?_)
          refine lv_iload_n (pc := 36) hx hb dX4_nearestLatitude_36 rfl (lv_at hl 2 rfl) ?_
          refine lv_istore_n (lv' := [(1, vI k), (2, .float (msZ k p0)), (4, .float (msZ k p0)), (3, vI k), (0, .float p0)]) (pc := 37) hx hb dX4_nearestLatitude_37 rfl hl (by decide) rfl (fun ls hl => ?_)
          refine lv_iinc (v := zI (k + 1)) (lv' := [(3, vI (k + 1)), (1, vI k), (2, .float (msZ k p0)), (4, .float (msZ k p0)), (0, .float p0)]) (pc := 38) hx hb dX4_nearestLatitude_38 hl (k := 3) rfl (zI_add _ _) (by decide) rfl (fun ls hl => ?_)
          refine lv_goto (pc := 41) (tgt := 13) hx hb dX4_nearestLatitude_41 (by decide) ?_
          exact ih_13 (k + 1) k (msZ k p0) (by omega) (by first | exact nl_y i1.1 (by rw [i2]; exact hc_29f) | exact (nl_n i1.1 (by rw [i2]; exact hc_29t)).trans i2) (by omega) _ (lv_sub hl [0, 2, 1, 4] rfl)
  exact LP_13 (Int.toNat ((91 - (-89) + 1) + 1)) (-89) (-90) (msZ (-90) p0) (by omega) (by rfl) (by omega) _ (lv_sub hl [0, 1, 2, 3] rfl)

set_option maxHeartbeats 4000000 in
set_option maxRecDepth 100000 in
theorem m_X8_turned (l : Launch) (D : va_G) (cI cJ cZ cD : ClassId) (sz : Nat) (mA : Nat) (m_thrown : Int) (m_heat : Int) (m_pressure : Int) (m_allDays : Int) (m_clocks : Int) (m_rods : Nat) (m_arcs : Nat) (m_haveCheeks : Nat) (m_adjustments : Nat) (m_offs : Nat) (m_sorted : Nat) (m_asking : Int) (m_askedBy : Nat) (m_metAt : Nat) (m_turnsAt : Nat) (m_period : Int) (m_turns : Int) (m_ahead : Int) (m_datum : Int) (m_datumValue : Int) (m_readings : Int) (m_stations : Nat) (m_hours : Nat) (m_values : Nat) (m_areTied : Nat) (m_ties : Nat) (m_steps : Nat) (m_gravities : Nat) (m_met : Nat) (m_bobs : Int) (m_weight : Int) (m_spring : Int) (m_air : Int) (m_push : Int) (m_places : Nat) (m_speeds : Nat) (m_wasPlace : Nat) (m_wasSpeed : Nat) (p0 : Int) (p1 : Int) (hrp0 : -2147483648 ≤ p0 ∧ p0 < 2147483648) (hrp1 : -2147483648 ≤ p1 ∧ p1 < 2147483648) : Met l yX8_turned wsX8_turned ({ frames := 1, cells := 0, slots := 0, locals := 25 } : Room) (zPc D (TY cI cJ cZ cD) sz [.ref mA, vI p0, vI p1] [(mA, .inr (6, vI m_thrown :: vI m_heat :: vI m_pressure :: vL m_allDays :: vI m_clocks :: .ref m_rods :: .ref m_arcs :: .ref m_haveCheeks :: .ref m_adjustments :: .ref m_offs :: .ref m_sorted :: vI m_asking :: .ref m_askedBy :: .ref m_metAt :: .ref m_turnsAt :: vI m_period :: vI m_turns :: vI m_ahead :: vI m_datum :: vI m_datumValue :: vI m_readings :: .ref m_stations :: .ref m_hours :: .ref m_values :: .ref m_areTied :: .ref m_ties :: .ref m_steps :: .ref m_gravities :: .ref m_met :: vI m_bobs :: vI m_weight :: vI m_spring :: vI m_air :: vI m_push :: .ref m_places :: .ref m_speeds :: .ref m_wasPlace :: .ref m_wasSpeed :: []))]) (va_Qf (fun (r : UInt32) (u : Unit) => match u with | _ => r = (if (-90 ≤ p0 ∧ p0 ≤ 90) ∧ (0 ≤ p1 ∧ p1 ≤ 100000) then trZ p0 p1 else 0) ∧ (True)) (zB D (va_A [(mA, .inr (6, vI m_thrown :: vI m_heat :: vI m_pressure :: vL m_allDays :: vI m_clocks :: .ref m_rods :: .ref m_arcs :: .ref m_haveCheeks :: .ref m_adjustments :: .ref m_offs :: .ref m_sorted :: vI m_asking :: .ref m_askedBy :: .ref m_metAt :: .ref m_turnsAt :: vI m_period :: vI m_turns :: vI m_ahead :: vI m_datum :: vI m_datumValue :: vI m_readings :: .ref m_stations :: .ref m_hours :: .ref m_values :: .ref m_areTied :: .ref m_ties :: .ref m_steps :: .ref m_gravities :: .ref m_met :: vI m_bobs :: vI m_weight :: vI m_spring :: vI m_air :: vI m_push :: .ref m_places :: .ref m_speeds :: .ref m_wasPlace :: .ref m_wasSpeed :: []))] sz) (fun (u : Unit) => match u with | _ => [(mA, .inr (6, vI (if (-90 ≤ p0 ∧ p0 ≤ 90) ∧ (0 ≤ p1 ∧ p1 ≤ 100000) then 0 else 1) :: vI m_heat :: vI m_pressure :: vL m_allDays :: vI m_clocks :: .ref m_rods :: .ref m_arcs :: .ref m_haveCheeks :: .ref m_adjustments :: .ref m_offs :: .ref m_sorted :: vI m_asking :: .ref m_askedBy :: .ref m_metAt :: .ref m_turnsAt :: vI m_period :: vI m_turns :: vI m_ahead :: vI m_datum :: vI m_datumValue :: vI m_readings :: .ref m_stations :: .ref m_hours :: .ref m_values :: .ref m_areTied :: .ref m_ties :: .ref m_steps :: .ref m_gravities :: .ref m_met :: vI m_bobs :: vI m_weight :: vI m_spring :: vI m_air :: vI m_push :: .ref m_places :: .ref m_speeds :: .ref m_wasPlace :: .ref m_wasSpeed :: []))])) (va_A [(mA, .inr (6, vI m_thrown :: vI m_heat :: vI m_pressure :: vL m_allDays :: vI m_clocks :: .ref m_rods :: .ref m_arcs :: .ref m_haveCheeks :: .ref m_adjustments :: .ref m_offs :: .ref m_sorted :: vI m_asking :: .ref m_askedBy :: .ref m_metAt :: .ref m_turnsAt :: vI m_period :: vI m_turns :: vI m_ahead :: vI m_datum :: vI m_datumValue :: vI m_readings :: .ref m_stations :: .ref m_hours :: .ref m_values :: .ref m_areTied :: .ref m_ties :: .ref m_steps :: .ref m_gravities :: .ref m_met :: vI m_bobs :: vI m_weight :: vI m_spring :: vI m_air :: vI m_push :: .ref m_places :: .ref m_speeds :: .ref m_wasPlace :: .ref m_wasSpeed :: []))] sz)) 0 0 (va_A [(mA, .inr (6, vI m_thrown :: vI m_heat :: vI m_pressure :: vL m_allDays :: vI m_clocks :: .ref m_rods :: .ref m_arcs :: .ref m_haveCheeks :: .ref m_adjustments :: .ref m_offs :: .ref m_sorted :: vI m_asking :: .ref m_askedBy :: .ref m_metAt :: .ref m_turnsAt :: vI m_period :: vI m_turns :: vI m_ahead :: vI m_datum :: vI m_datumValue :: vI m_readings :: .ref m_stations :: .ref m_hours :: .ref m_values :: .ref m_areTied :: .ref m_ties :: .ref m_steps :: .ref m_gravities :: .ref m_met :: vI m_bobs :: vI m_weight :: vI m_spring :: vI m_air :: vI m_push :: .ref m_places :: .ref m_speeds :: .ref m_wasPlace :: .ref m_wasSpeed :: []))] sz) := by
  refine Met.ofW (cc := cX8_turned) (maxL := 3) (ret := (some .float)) (by decide) rfl ?_
  intro p e s m args below meth c s₁ B hml hv
  obtain ⟨rfl, hsz, hP, hK, hD0, hN⟩ := hv
  have hx := B.exec
  have hb := B.bytes
  have hr := B.returns
  have hts := atoms_spec (ws := wsX8_turned) B.pre
  have hown : s.vm.findClass RX8 = some m.cls := findClass_of_methodNamed B.named
  have hlocks := B.notSynchronized
  subst hsz
  have hD := hD0.self (sz := s.heap.size)
  generalize hAe : va_A [(mA, .inr (6, vI m_thrown :: vI m_heat :: vI m_pressure :: vL m_allDays :: vI m_clocks :: .ref m_rods :: .ref m_arcs :: .ref m_haveCheeks :: .ref m_adjustments :: .ref m_offs :: .ref m_sorted :: vI m_asking :: .ref m_askedBy :: .ref m_metAt :: .ref m_turnsAt :: vI m_period :: vI m_turns :: vI m_ahead :: vI m_datum :: vI m_datumValue :: vI m_readings :: .ref m_stations :: .ref m_hours :: .ref m_values :: .ref m_areTied :: .ref m_ties :: .ref m_steps :: .ref m_gravities :: .ref m_met :: vI m_bobs :: vI m_weight :: vI m_spring :: vI m_air :: vI m_push :: .ref m_places :: .ref m_speeds :: .ref m_wasPlace :: .ref m_wasSpeed :: []))] s.heap.size = A at hD ⊢
  have hA : ∀ q : Nat, s.heap.size ≤ q → A q := fun q h => by rw [← hAe]; exact Or.inr h
  have hS : va_S A s.heap s.heap [] := va_S.rf
  have hP : va_P D vwCl [(mA, .inr (6, vI m_thrown :: vI m_heat :: vI m_pressure :: vL m_allDays :: vI m_clocks :: .ref m_rods :: .ref m_arcs :: .ref m_haveCheeks :: .ref m_adjustments :: .ref m_offs :: .ref m_sorted :: vI m_asking :: .ref m_askedBy :: .ref m_metAt :: .ref m_turnsAt :: vI m_period :: vI m_turns :: vI m_ahead :: vI m_datum :: vI m_datumValue :: vI m_readings :: .ref m_stations :: .ref m_hours :: .ref m_values :: .ref m_areTied :: .ref m_ties :: .ref m_steps :: .ref m_gravities :: .ref m_met :: vI m_bobs :: vI m_weight :: vI m_spring :: vI m_air :: vI m_push :: .ref m_places :: .ref m_speeds :: .ref m_wasPlace :: .ref m_wasSpeed :: []))] s.heap := hP
  have fl_85 := hts (.fieldLink RX8 85 "PendulumHallModel" "thrown" "I") (by decide +kernel)
  have ck_177 := hts (.constant RX8 177 (100000)) (by decide +kernel)
  have in_X8 : ∀ w ∈ wsX80, w ∈ wsX8_turned := by decide +kernel
  have hl := lv_entry ([.ref mA, vI p0, vI p1]) (n := 3) (Nat.le_of_ble_eq_true rfl)
  rw [lg_entry_eq]
  generalize (lg_sl ([.ref mA, vI p0, vI p1]) ++ List.replicate (3 - (lg_sl ([.ref mA, vI p0, vI p1])).length) Slot.unset).toArray = ls at hl ⊢
  have hl : lv_has ls 3 [(0, .ref mA), (1, vI p0), (2, vI p1)] := hl
  refine lv_aload_n (pc := 0) hx hb dX8_turned_0 rfl (lv_at hl 0 rfl) ?_
  refine lv_iload_n (pc := 1) hx hb dX8_turned_1 rfl (lv_at hl 1 rfl) ?_
  refine z_bipush (pc := 2) hx hb dX8_turned_2 (by decide) ?_
  refine z_bipush (pc := 4) hx hb dX8_turned_4 (by decide) ?_
  refine z_callR (pc := 6) (va_runS (As := [vI p0, vI (-90), vI 90]) (rest := [.ref mA]) ⟨hx, hb, hml, hown, hts⟩ (m_X8_isIn l D cI cJ cZ cD 0  p0 (-90) 90 (by omega) (by omega) (by omega)) (va_cwS 3 hts gX8_turned_X8_isIn rfl rfl rfl (by decide +kernel) ⟨Nat.le_of_ble_eq_true rfl, Nat.le_of_ble_eq_true rfl⟩) ⟨fun a U g mk q => q, fun U hU hW => ⟨rfl, trivial⟩⟩ rfl rfl hl.1 rfl (lv_room (Nat.le_of_ble_eq_true rfl)) dX8_turned_6 ⟨Nat.zero_le _, Nat.zero_le _⟩) ?_
  refine z_ifp_eq (pc := 9) (tgt := 26) hx hb dX8_turned_9 (by decide) (fun c_1 => ?_) (fun c_1 => ?_)
  · have hc_9t := c_1
    refine z_iconst (pc := 26) hx hb dX8_turned_26 ?_
    refine va_put (pc := 27) (D := D) (ci := 6) (v := vI 1) (ty := .int) (C := RX8) (T := TX8) (N := 38) hx hb hts in_X8 tyX8 tyX8_ok nmX8 hown hK hP hD hS 0 rfl rfl 0 (by decide) fl_85 (fun _ h9 => h9) rfl (by decide +kernel) rfl rfl (Nat.le_of_ble_eq_true rfl) dX8_turned_27 (fun H locs hP hD hS => ?_)
    have hP : va_P D vwCl [(mA, .inr (6, vI 1 :: vI m_heat :: vI m_pressure :: vL m_allDays :: vI m_clocks :: .ref m_rods :: .ref m_arcs :: .ref m_haveCheeks :: .ref m_adjustments :: .ref m_offs :: .ref m_sorted :: vI m_asking :: .ref m_askedBy :: .ref m_metAt :: .ref m_turnsAt :: vI m_period :: vI m_turns :: vI m_ahead :: vI m_datum :: vI m_datumValue :: vI m_readings :: .ref m_stations :: .ref m_hours :: .ref m_values :: .ref m_areTied :: .ref m_ties :: .ref m_steps :: .ref m_gravities :: .ref m_met :: vI m_bobs :: vI m_weight :: vI m_spring :: vI m_air :: vI m_push :: .ref m_places :: .ref m_speeds :: .ref m_wasPlace :: .ref m_wasSpeed :: []))] H := hP
    have hD : va_D A [(mA, .inr (6, vI 1 :: vI m_heat :: vI m_pressure :: vL m_allDays :: vI m_clocks :: .ref m_rods :: .ref m_arcs :: .ref m_haveCheeks :: .ref m_adjustments :: .ref m_offs :: .ref m_sorted :: vI m_asking :: .ref m_askedBy :: .ref m_metAt :: .ref m_turnsAt :: vI m_period :: vI m_turns :: vI m_ahead :: vI m_datum :: vI m_datumValue :: vI m_readings :: .ref m_stations :: .ref m_hours :: .ref m_values :: .ref m_areTied :: .ref m_ties :: .ref m_steps :: .ref m_gravities :: .ref m_met :: vI m_bobs :: vI m_weight :: vI m_spring :: vI m_air :: vI m_push :: .ref m_places :: .ref m_speeds :: .ref m_wasPlace :: .ref m_wasSpeed :: []))] := hD
    refine lv_aload_n (pc := 30) hx hb dX8_turned_30 rfl (lv_at hl 0 rfl) ?_
    refine va_get (pc := 31) (D := D) (ci := 6) (v := vI 1) (C := RX8) (T := TX8) (N := 38) hx hb hts in_X8 hown hK hP 0 rfl rfl 0 (by decide) fl_85 (fun _ h9 => h9) rfl dX8_turned_31 ?_
    refine z_if_le (pc := 34) (tgt := 41) hx hb dX8_turned_34 (by decide) (by decide) (fun c_2 => ?_) (fun c_2 => ?_)
    · exact absurd c_2 (by decide)
    · have hc_34f := c_2
      refine lv_fconst0 (pc := 37) hx hb dX8_turned_37 ?_
      refine lv_goto (pc := 38) (tgt := 46) hx hb dX8_turned_38 (by decide) ?_
      have he_0 : (1 : Int) = (if (-90 ≤ p0 ∧ p0 ≤ 90) ∧ (0 ≤ p1 ∧ p1 ≤ 100000) then 0 else 1) := by first | rfl | omega | (rw [if_pos (by omega)]; omega) | (rw [if_pos (by omega)]; done) | (rw [if_neg (by omega)]; done) | (rw [if_neg (by omega), if_pos (by omega)]; done) | (rw [if_neg (by omega), if_neg (by omega)]; done) | (rw [if_neg (by omega), if_neg (by omega), if_pos (by omega)]; done) | (rw [if_neg (by omega), if_neg (by omega), if_neg (by omega)]; done)
      have hP : va_P D vwCl [(mA, .inr (6, vI (if (-90 ≤ p0 ∧ p0 ≤ 90) ∧ (0 ≤ p1 ∧ p1 ≤ 100000) then 0 else 1) :: vI m_heat :: vI m_pressure :: vL m_allDays :: vI m_clocks :: .ref m_rods :: .ref m_arcs :: .ref m_haveCheeks :: .ref m_adjustments :: .ref m_offs :: .ref m_sorted :: vI m_asking :: .ref m_askedBy :: .ref m_metAt :: .ref m_turnsAt :: vI m_period :: vI m_turns :: vI m_ahead :: vI m_datum :: vI m_datumValue :: vI m_readings :: .ref m_stations :: .ref m_hours :: .ref m_values :: .ref m_areTied :: .ref m_ties :: .ref m_steps :: .ref m_gravities :: .ref m_met :: vI m_bobs :: vI m_weight :: vI m_spring :: vI m_air :: vI m_push :: .ref m_places :: .ref m_speeds :: .ref m_wasPlace :: .ref m_wasSpeed :: []))] H := by rw [← he_0]; exact hP
      have hD : va_D A [(mA, .inr (6, vI (if (-90 ≤ p0 ∧ p0 ≤ 90) ∧ (0 ≤ p1 ∧ p1 ≤ 100000) then 0 else 1) :: vI m_heat :: vI m_pressure :: vL m_allDays :: vI m_clocks :: .ref m_rods :: .ref m_arcs :: .ref m_haveCheeks :: .ref m_adjustments :: .ref m_offs :: .ref m_sorted :: vI m_asking :: .ref m_askedBy :: .ref m_metAt :: .ref m_turnsAt :: vI m_period :: vI m_turns :: vI m_ahead :: vI m_datum :: vI m_datumValue :: vI m_readings :: .ref m_stations :: .ref m_hours :: .ref m_values :: .ref m_areTied :: .ref m_ties :: .ref m_steps :: .ref m_gravities :: .ref m_met :: vI m_bobs :: vI m_weight :: vI m_spring :: vI m_air :: vI m_push :: .ref m_places :: .ref m_speeds :: .ref m_wasPlace :: .ref m_wasSpeed :: []))] := by rw [← he_0]; exact hD
      have hP9 := hP.sub (ws' := [(mA, .inr (6, vI (if (-90 ≤ p0 ∧ p0 ≤ 90) ∧ (0 ≤ p1 ∧ p1 ≤ 100000) then 0 else 1) :: vI m_heat :: vI m_pressure :: vL m_allDays :: vI m_clocks :: .ref m_rods :: .ref m_arcs :: .ref m_haveCheeks :: .ref m_adjustments :: .ref m_offs :: .ref m_sorted :: vI m_asking :: .ref m_askedBy :: .ref m_metAt :: .ref m_turnsAt :: vI m_period :: vI m_turns :: vI m_ahead :: vI m_datum :: vI m_datumValue :: vI m_readings :: .ref m_stations :: .ref m_hours :: .ref m_values :: .ref m_areTied :: .ref m_ties :: .ref m_steps :: .ref m_gravities :: .ref m_met :: vI m_bobs :: vI m_weight :: vI m_spring :: vI m_air :: vI m_push :: .ref m_places :: .ref m_speeds :: .ref m_wasPlace :: .ref m_wasSpeed :: []))]) [0] rfl
      have hD9 := hD.sub (ws' := [(mA, .inr (6, vI (if (-90 ≤ p0 ∧ p0 ≤ 90) ∧ (0 ≤ p1 ∧ p1 ≤ 100000) then 0 else 1) :: vI m_heat :: vI m_pressure :: vL m_allDays :: vI m_clocks :: .ref m_rods :: .ref m_arcs :: .ref m_haveCheeks :: .ref m_adjustments :: .ref m_offs :: .ref m_sorted :: vI m_asking :: .ref m_askedBy :: .ref m_metAt :: .ref m_turnsAt :: vI m_period :: vI m_turns :: vI m_ahead :: vI m_datum :: vI m_datumValue :: vI m_readings :: .ref m_stations :: .ref m_hours :: .ref m_values :: .ref m_areTied :: .ref m_ties :: .ref m_steps :: .ref m_gravities :: .ref m_met :: vI m_bobs :: vI m_weight :: vI m_spring :: vI m_air :: vI m_push :: .ref m_places :: .ref m_speeds :: .ref m_wasPlace :: .ref m_wasSpeed :: []))]) [0] (by decide) rfl
      have hv : (0) = (if (-90 ≤ p0 ∧ p0 ≤ 90) ∧ (0 ≤ p1 ∧ p1 ≤ 100000) then trZ p0 p1 else 0) := by first | (rw [if_pos (by omega)]; done) | (rw [if_neg (by omega)]; done)
      exact W.fret (pc := 46) (v := 0) hx hb hr (fun t ht hW => ⟨⟨0, (), rfl, ⟨hv, trivial⟩, by rw [ht]; exact hP9, hD9⟩, hS.F ht⟩) hS.2.2 dX8_turned_46
  · have hc_9f := c_1
    refine lv_iload_n (pc := 12) hx hb dX8_turned_12 rfl (lv_at hl 2 rfl) ?_
    refine z_iconst (pc := 13) hx hb dX8_turned_13 ?_
    refine lv_ldc (pc := 14) hx hb hown ck_177 dX8_turned_14 ?_
    refine z_topI (z := 100000) (by decide) ?_
    refine z_callR (pc := 16) (va_runS (As := [vI p1, vI 0, vI 100000]) (rest := [.ref mA]) ⟨hx, hb, hml, hown, hts⟩ (m_X8_isIn l D cI cJ cZ cD 0  p1 0 100000 (by omega) (by omega) (by omega)) (va_cwS 3 hts gX8_turned_X8_isIn rfl rfl rfl (by decide +kernel) ⟨Nat.le_of_ble_eq_true rfl, Nat.le_of_ble_eq_true rfl⟩) ⟨fun a U g mk q => q, fun U hU hW => ⟨rfl, trivial⟩⟩ rfl rfl hl.1 rfl (lv_room (Nat.le_of_ble_eq_true rfl)) dX8_turned_16 ⟨Nat.zero_le _, Nat.zero_le _⟩) ?_
    refine z_ifp_eq (pc := 19) (tgt := 26) hx hb dX8_turned_19 (by decide) (fun c_3 => ?_) (fun c_3 => ?_)
    · have hc_19t := c_3
      refine z_iconst (pc := 26) hx hb dX8_turned_26 ?_
      refine va_put (pc := 27) (D := D) (ci := 6) (v := vI 1) (ty := .int) (C := RX8) (T := TX8) (N := 38) hx hb hts in_X8 tyX8 tyX8_ok nmX8 hown hK hP hD hS 0 rfl rfl 0 (by decide) fl_85 (fun _ h9 => h9) rfl (by decide +kernel) rfl rfl (Nat.le_of_ble_eq_true rfl) dX8_turned_27 (fun H locs hP hD hS => ?_)
      have hP : va_P D vwCl [(mA, .inr (6, vI 1 :: vI m_heat :: vI m_pressure :: vL m_allDays :: vI m_clocks :: .ref m_rods :: .ref m_arcs :: .ref m_haveCheeks :: .ref m_adjustments :: .ref m_offs :: .ref m_sorted :: vI m_asking :: .ref m_askedBy :: .ref m_metAt :: .ref m_turnsAt :: vI m_period :: vI m_turns :: vI m_ahead :: vI m_datum :: vI m_datumValue :: vI m_readings :: .ref m_stations :: .ref m_hours :: .ref m_values :: .ref m_areTied :: .ref m_ties :: .ref m_steps :: .ref m_gravities :: .ref m_met :: vI m_bobs :: vI m_weight :: vI m_spring :: vI m_air :: vI m_push :: .ref m_places :: .ref m_speeds :: .ref m_wasPlace :: .ref m_wasSpeed :: []))] H := hP
      have hD : va_D A [(mA, .inr (6, vI 1 :: vI m_heat :: vI m_pressure :: vL m_allDays :: vI m_clocks :: .ref m_rods :: .ref m_arcs :: .ref m_haveCheeks :: .ref m_adjustments :: .ref m_offs :: .ref m_sorted :: vI m_asking :: .ref m_askedBy :: .ref m_metAt :: .ref m_turnsAt :: vI m_period :: vI m_turns :: vI m_ahead :: vI m_datum :: vI m_datumValue :: vI m_readings :: .ref m_stations :: .ref m_hours :: .ref m_values :: .ref m_areTied :: .ref m_ties :: .ref m_steps :: .ref m_gravities :: .ref m_met :: vI m_bobs :: vI m_weight :: vI m_spring :: vI m_air :: vI m_push :: .ref m_places :: .ref m_speeds :: .ref m_wasPlace :: .ref m_wasSpeed :: []))] := hD
      refine lv_aload_n (pc := 30) hx hb dX8_turned_30 rfl (lv_at hl 0 rfl) ?_
      refine va_get (pc := 31) (D := D) (ci := 6) (v := vI 1) (C := RX8) (T := TX8) (N := 38) hx hb hts in_X8 hown hK hP 0 rfl rfl 0 (by decide) fl_85 (fun _ h9 => h9) rfl dX8_turned_31 ?_
      refine z_if_le (pc := 34) (tgt := 41) hx hb dX8_turned_34 (by decide) (by decide) (fun c_4 => ?_) (fun c_4 => ?_)
      · exact absurd c_4 (by decide)
      · have hc_34f := c_4
        refine lv_fconst0 (pc := 37) hx hb dX8_turned_37 ?_
        refine lv_goto (pc := 38) (tgt := 46) hx hb dX8_turned_38 (by decide) ?_
        have he_0 : (1 : Int) = (if (-90 ≤ p0 ∧ p0 ≤ 90) ∧ (0 ≤ p1 ∧ p1 ≤ 100000) then 0 else 1) := by first | rfl | omega | (rw [if_pos (by omega)]; omega) | (rw [if_pos (by omega)]; done) | (rw [if_neg (by omega)]; done) | (rw [if_neg (by omega), if_pos (by omega)]; done) | (rw [if_neg (by omega), if_neg (by omega)]; done) | (rw [if_neg (by omega), if_neg (by omega), if_pos (by omega)]; done) | (rw [if_neg (by omega), if_neg (by omega), if_neg (by omega)]; done)
        have hP : va_P D vwCl [(mA, .inr (6, vI (if (-90 ≤ p0 ∧ p0 ≤ 90) ∧ (0 ≤ p1 ∧ p1 ≤ 100000) then 0 else 1) :: vI m_heat :: vI m_pressure :: vL m_allDays :: vI m_clocks :: .ref m_rods :: .ref m_arcs :: .ref m_haveCheeks :: .ref m_adjustments :: .ref m_offs :: .ref m_sorted :: vI m_asking :: .ref m_askedBy :: .ref m_metAt :: .ref m_turnsAt :: vI m_period :: vI m_turns :: vI m_ahead :: vI m_datum :: vI m_datumValue :: vI m_readings :: .ref m_stations :: .ref m_hours :: .ref m_values :: .ref m_areTied :: .ref m_ties :: .ref m_steps :: .ref m_gravities :: .ref m_met :: vI m_bobs :: vI m_weight :: vI m_spring :: vI m_air :: vI m_push :: .ref m_places :: .ref m_speeds :: .ref m_wasPlace :: .ref m_wasSpeed :: []))] H := by rw [← he_0]; exact hP
        have hD : va_D A [(mA, .inr (6, vI (if (-90 ≤ p0 ∧ p0 ≤ 90) ∧ (0 ≤ p1 ∧ p1 ≤ 100000) then 0 else 1) :: vI m_heat :: vI m_pressure :: vL m_allDays :: vI m_clocks :: .ref m_rods :: .ref m_arcs :: .ref m_haveCheeks :: .ref m_adjustments :: .ref m_offs :: .ref m_sorted :: vI m_asking :: .ref m_askedBy :: .ref m_metAt :: .ref m_turnsAt :: vI m_period :: vI m_turns :: vI m_ahead :: vI m_datum :: vI m_datumValue :: vI m_readings :: .ref m_stations :: .ref m_hours :: .ref m_values :: .ref m_areTied :: .ref m_ties :: .ref m_steps :: .ref m_gravities :: .ref m_met :: vI m_bobs :: vI m_weight :: vI m_spring :: vI m_air :: vI m_push :: .ref m_places :: .ref m_speeds :: .ref m_wasPlace :: .ref m_wasSpeed :: []))] := by rw [← he_0]; exact hD
        have hP9 := hP.sub (ws' := [(mA, .inr (6, vI (if (-90 ≤ p0 ∧ p0 ≤ 90) ∧ (0 ≤ p1 ∧ p1 ≤ 100000) then 0 else 1) :: vI m_heat :: vI m_pressure :: vL m_allDays :: vI m_clocks :: .ref m_rods :: .ref m_arcs :: .ref m_haveCheeks :: .ref m_adjustments :: .ref m_offs :: .ref m_sorted :: vI m_asking :: .ref m_askedBy :: .ref m_metAt :: .ref m_turnsAt :: vI m_period :: vI m_turns :: vI m_ahead :: vI m_datum :: vI m_datumValue :: vI m_readings :: .ref m_stations :: .ref m_hours :: .ref m_values :: .ref m_areTied :: .ref m_ties :: .ref m_steps :: .ref m_gravities :: .ref m_met :: vI m_bobs :: vI m_weight :: vI m_spring :: vI m_air :: vI m_push :: .ref m_places :: .ref m_speeds :: .ref m_wasPlace :: .ref m_wasSpeed :: []))]) [0] rfl
        have hD9 := hD.sub (ws' := [(mA, .inr (6, vI (if (-90 ≤ p0 ∧ p0 ≤ 90) ∧ (0 ≤ p1 ∧ p1 ≤ 100000) then 0 else 1) :: vI m_heat :: vI m_pressure :: vL m_allDays :: vI m_clocks :: .ref m_rods :: .ref m_arcs :: .ref m_haveCheeks :: .ref m_adjustments :: .ref m_offs :: .ref m_sorted :: vI m_asking :: .ref m_askedBy :: .ref m_metAt :: .ref m_turnsAt :: vI m_period :: vI m_turns :: vI m_ahead :: vI m_datum :: vI m_datumValue :: vI m_readings :: .ref m_stations :: .ref m_hours :: .ref m_values :: .ref m_areTied :: .ref m_ties :: .ref m_steps :: .ref m_gravities :: .ref m_met :: vI m_bobs :: vI m_weight :: vI m_spring :: vI m_air :: vI m_push :: .ref m_places :: .ref m_speeds :: .ref m_wasPlace :: .ref m_wasSpeed :: []))]) [0] (by decide) rfl
        have hv : (0) = (if (-90 ≤ p0 ∧ p0 ≤ 90) ∧ (0 ≤ p1 ∧ p1 ≤ 100000) then trZ p0 p1 else 0) := by first | (rw [if_pos (by omega)]; done) | (rw [if_neg (by omega)]; done)
        exact W.fret (pc := 46) (v := 0) hx hb hr (fun t ht hW => ⟨⟨0, (), rfl, ⟨hv, trivial⟩, by rw [ht]; exact hP9, hD9⟩, hS.F ht⟩) hS.2.2 dX8_turned_46
    · have hc_19f := c_3
      refine z_iconst (pc := 22) hx hb dX8_turned_22 ?_
      refine lv_goto (pc := 23) (tgt := 27) hx hb dX8_turned_23 (by decide) ?_
      refine va_put (pc := 27) (D := D) (ci := 6) (v := vI 0) (ty := .int) (C := RX8) (T := TX8) (N := 38) hx hb hts in_X8 tyX8 tyX8_ok nmX8 hown hK hP hD hS 0 rfl rfl 0 (by decide) fl_85 (fun _ h9 => h9) rfl (by decide +kernel) rfl rfl (Nat.le_of_ble_eq_true rfl) dX8_turned_27 (fun H locs hP hD hS => ?_)
      have hP : va_P D vwCl [(mA, .inr (6, vI 0 :: vI m_heat :: vI m_pressure :: vL m_allDays :: vI m_clocks :: .ref m_rods :: .ref m_arcs :: .ref m_haveCheeks :: .ref m_adjustments :: .ref m_offs :: .ref m_sorted :: vI m_asking :: .ref m_askedBy :: .ref m_metAt :: .ref m_turnsAt :: vI m_period :: vI m_turns :: vI m_ahead :: vI m_datum :: vI m_datumValue :: vI m_readings :: .ref m_stations :: .ref m_hours :: .ref m_values :: .ref m_areTied :: .ref m_ties :: .ref m_steps :: .ref m_gravities :: .ref m_met :: vI m_bobs :: vI m_weight :: vI m_spring :: vI m_air :: vI m_push :: .ref m_places :: .ref m_speeds :: .ref m_wasPlace :: .ref m_wasSpeed :: []))] H := hP
      have hD : va_D A [(mA, .inr (6, vI 0 :: vI m_heat :: vI m_pressure :: vL m_allDays :: vI m_clocks :: .ref m_rods :: .ref m_arcs :: .ref m_haveCheeks :: .ref m_adjustments :: .ref m_offs :: .ref m_sorted :: vI m_asking :: .ref m_askedBy :: .ref m_metAt :: .ref m_turnsAt :: vI m_period :: vI m_turns :: vI m_ahead :: vI m_datum :: vI m_datumValue :: vI m_readings :: .ref m_stations :: .ref m_hours :: .ref m_values :: .ref m_areTied :: .ref m_ties :: .ref m_steps :: .ref m_gravities :: .ref m_met :: vI m_bobs :: vI m_weight :: vI m_spring :: vI m_air :: vI m_push :: .ref m_places :: .ref m_speeds :: .ref m_wasPlace :: .ref m_wasSpeed :: []))] := hD
      refine lv_aload_n (pc := 30) hx hb dX8_turned_30 rfl (lv_at hl 0 rfl) ?_
      refine va_get (pc := 31) (D := D) (ci := 6) (v := vI 0) (C := RX8) (T := TX8) (N := 38) hx hb hts in_X8 hown hK hP 0 rfl rfl 0 (by decide) fl_85 (fun _ h9 => h9) rfl dX8_turned_31 ?_
      refine z_if_le (pc := 34) (tgt := 41) hx hb dX8_turned_34 (by decide) (by decide) (fun c_5 => ?_) (fun c_5 => ?_)
      · have hc_34t := c_5
        refine lv_iload_n (pc := 41) hx hb dX8_turned_41 rfl (lv_at hl 1 rfl) ?_
        refine lv_iload_n (pc := 42) hx hb dX8_turned_42 rfl (lv_at hl 2 rfl) ?_
        refine z_callR (pc := 43) (va_runS (As := [vI p0, vI p1]) (rest := []) ⟨hx, hb, hml, hown, hts⟩ (m_X8_turnedAt l D cI cJ cZ cD 0  p0 p1 (by omega)) (va_cwS 2 hts gX8_turned_X8_turnedAt rfl rfl rfl (by decide +kernel) ⟨Nat.le_of_ble_eq_true rfl, Nat.le_of_ble_eq_true rfl⟩) ⟨fun a U g mk q => q, fun U hU hW => ⟨rfl, trivial⟩⟩ rfl rfl hl.1 rfl (lv_room (Nat.le_of_ble_eq_true rfl)) dX8_turned_43 ⟨Nat.zero_le _, Nat.zero_le _⟩) ?_
        have he_0 : (0 : Int) = (if (-90 ≤ p0 ∧ p0 ≤ 90) ∧ (0 ≤ p1 ∧ p1 ≤ 100000) then 0 else 1) := by first | rfl | omega | (rw [if_pos (by omega)]; omega) | (rw [if_pos (by omega)]; done) | (rw [if_neg (by omega)]; done) | (rw [if_neg (by omega), if_pos (by omega)]; done) | (rw [if_neg (by omega), if_neg (by omega)]; done) | (rw [if_neg (by omega), if_neg (by omega), if_pos (by omega)]; done) | (rw [if_neg (by omega), if_neg (by omega), if_neg (by omega)]; done)
        have hP : va_P D vwCl [(mA, .inr (6, vI (if (-90 ≤ p0 ∧ p0 ≤ 90) ∧ (0 ≤ p1 ∧ p1 ≤ 100000) then 0 else 1) :: vI m_heat :: vI m_pressure :: vL m_allDays :: vI m_clocks :: .ref m_rods :: .ref m_arcs :: .ref m_haveCheeks :: .ref m_adjustments :: .ref m_offs :: .ref m_sorted :: vI m_asking :: .ref m_askedBy :: .ref m_metAt :: .ref m_turnsAt :: vI m_period :: vI m_turns :: vI m_ahead :: vI m_datum :: vI m_datumValue :: vI m_readings :: .ref m_stations :: .ref m_hours :: .ref m_values :: .ref m_areTied :: .ref m_ties :: .ref m_steps :: .ref m_gravities :: .ref m_met :: vI m_bobs :: vI m_weight :: vI m_spring :: vI m_air :: vI m_push :: .ref m_places :: .ref m_speeds :: .ref m_wasPlace :: .ref m_wasSpeed :: []))] H := by rw [← he_0]; exact hP
        have hD : va_D A [(mA, .inr (6, vI (if (-90 ≤ p0 ∧ p0 ≤ 90) ∧ (0 ≤ p1 ∧ p1 ≤ 100000) then 0 else 1) :: vI m_heat :: vI m_pressure :: vL m_allDays :: vI m_clocks :: .ref m_rods :: .ref m_arcs :: .ref m_haveCheeks :: .ref m_adjustments :: .ref m_offs :: .ref m_sorted :: vI m_asking :: .ref m_askedBy :: .ref m_metAt :: .ref m_turnsAt :: vI m_period :: vI m_turns :: vI m_ahead :: vI m_datum :: vI m_datumValue :: vI m_readings :: .ref m_stations :: .ref m_hours :: .ref m_values :: .ref m_areTied :: .ref m_ties :: .ref m_steps :: .ref m_gravities :: .ref m_met :: vI m_bobs :: vI m_weight :: vI m_spring :: vI m_air :: vI m_push :: .ref m_places :: .ref m_speeds :: .ref m_wasPlace :: .ref m_wasSpeed :: []))] := by rw [← he_0]; exact hD
        have hP9 := hP.sub (ws' := [(mA, .inr (6, vI (if (-90 ≤ p0 ∧ p0 ≤ 90) ∧ (0 ≤ p1 ∧ p1 ≤ 100000) then 0 else 1) :: vI m_heat :: vI m_pressure :: vL m_allDays :: vI m_clocks :: .ref m_rods :: .ref m_arcs :: .ref m_haveCheeks :: .ref m_adjustments :: .ref m_offs :: .ref m_sorted :: vI m_asking :: .ref m_askedBy :: .ref m_metAt :: .ref m_turnsAt :: vI m_period :: vI m_turns :: vI m_ahead :: vI m_datum :: vI m_datumValue :: vI m_readings :: .ref m_stations :: .ref m_hours :: .ref m_values :: .ref m_areTied :: .ref m_ties :: .ref m_steps :: .ref m_gravities :: .ref m_met :: vI m_bobs :: vI m_weight :: vI m_spring :: vI m_air :: vI m_push :: .ref m_places :: .ref m_speeds :: .ref m_wasPlace :: .ref m_wasSpeed :: []))]) [0] rfl
        have hD9 := hD.sub (ws' := [(mA, .inr (6, vI (if (-90 ≤ p0 ∧ p0 ≤ 90) ∧ (0 ≤ p1 ∧ p1 ≤ 100000) then 0 else 1) :: vI m_heat :: vI m_pressure :: vL m_allDays :: vI m_clocks :: .ref m_rods :: .ref m_arcs :: .ref m_haveCheeks :: .ref m_adjustments :: .ref m_offs :: .ref m_sorted :: vI m_asking :: .ref m_askedBy :: .ref m_metAt :: .ref m_turnsAt :: vI m_period :: vI m_turns :: vI m_ahead :: vI m_datum :: vI m_datumValue :: vI m_readings :: .ref m_stations :: .ref m_hours :: .ref m_values :: .ref m_areTied :: .ref m_ties :: .ref m_steps :: .ref m_gravities :: .ref m_met :: vI m_bobs :: vI m_weight :: vI m_spring :: vI m_air :: vI m_push :: .ref m_places :: .ref m_speeds :: .ref m_wasPlace :: .ref m_wasSpeed :: []))]) [0] (by decide) rfl
        have hv : (trZ p0 p1) = (if (-90 ≤ p0 ∧ p0 ≤ 90) ∧ (0 ≤ p1 ∧ p1 ≤ 100000) then trZ p0 p1 else 0) := by first | (rw [if_pos (by omega)]; done) | (rw [if_neg (by omega)]; done)
        exact W.fret (pc := 46) (v := (trZ p0 p1)) hx hb hr (fun t ht hW => ⟨⟨trZ p0 p1, (), rfl, ⟨hv, trivial⟩, by rw [ht]; exact hP9, hD9⟩, hS.F ht⟩) hS.2.2 dX8_turned_46
      · exact absurd c_5 (by decide)

set_option maxHeartbeats 4000000 in
set_option maxRecDepth 100000 in
theorem m_X8_latitude (l : Launch) (D : va_G) (cI cJ cZ cD : ClassId) (sz : Nat) (mA : Nat) (m_thrown : Int) (m_heat : Int) (m_pressure : Int) (m_allDays : Int) (m_clocks : Int) (m_rods : Nat) (m_arcs : Nat) (m_haveCheeks : Nat) (m_adjustments : Nat) (m_offs : Nat) (m_sorted : Nat) (m_asking : Int) (m_askedBy : Nat) (m_metAt : Nat) (m_turnsAt : Nat) (m_period : Int) (m_turns : Int) (m_ahead : Int) (m_datum : Int) (m_datumValue : Int) (m_readings : Int) (m_stations : Nat) (m_hours : Nat) (m_values : Nat) (m_areTied : Nat) (m_ties : Nat) (m_steps : Nat) (m_gravities : Nat) (m_met : Nat) (m_bobs : Int) (m_weight : Int) (m_spring : Int) (m_air : Int) (m_push : Int) (m_places : Nat) (m_speeds : Nat) (m_wasPlace : Nat) (m_wasSpeed : Nat) (p0 : Int) (hrp0 : -2147483648 ≤ p0 ∧ p0 < 2147483648) : Met l yX8_latitude wsX8_latitude ({ frames := 1, cells := 0, slots := 0, locals := 25 } : Room) (zPc D (TY cI cJ cZ cD) sz [.ref mA, vI p0] [(mA, .inr (6, vI m_thrown :: vI m_heat :: vI m_pressure :: vL m_allDays :: vI m_clocks :: .ref m_rods :: .ref m_arcs :: .ref m_haveCheeks :: .ref m_adjustments :: .ref m_offs :: .ref m_sorted :: vI m_asking :: .ref m_askedBy :: .ref m_metAt :: .ref m_turnsAt :: vI m_period :: vI m_turns :: vI m_ahead :: vI m_datum :: vI m_datumValue :: vI m_readings :: .ref m_stations :: .ref m_hours :: .ref m_values :: .ref m_areTied :: .ref m_ties :: .ref m_steps :: .ref m_gravities :: .ref m_met :: vI m_bobs :: vI m_weight :: vI m_spring :: vI m_air :: vI m_push :: .ref m_places :: .ref m_speeds :: .ref m_wasPlace :: .ref m_wasSpeed :: []))]) (va_Qi (fun (r : Int32) (u : Unit) => match u with | _ => r = zI (if -2000 ≤ p0 ∧ p0 ≤ 2000 then (nlZ (FP.i2f (zI p0)) 180).1 else 0) ∧ (True)) (zB D (va_A [(mA, .inr (6, vI m_thrown :: vI m_heat :: vI m_pressure :: vL m_allDays :: vI m_clocks :: .ref m_rods :: .ref m_arcs :: .ref m_haveCheeks :: .ref m_adjustments :: .ref m_offs :: .ref m_sorted :: vI m_asking :: .ref m_askedBy :: .ref m_metAt :: .ref m_turnsAt :: vI m_period :: vI m_turns :: vI m_ahead :: vI m_datum :: vI m_datumValue :: vI m_readings :: .ref m_stations :: .ref m_hours :: .ref m_values :: .ref m_areTied :: .ref m_ties :: .ref m_steps :: .ref m_gravities :: .ref m_met :: vI m_bobs :: vI m_weight :: vI m_spring :: vI m_air :: vI m_push :: .ref m_places :: .ref m_speeds :: .ref m_wasPlace :: .ref m_wasSpeed :: []))] sz) (fun (u : Unit) => match u with | _ => [(mA, .inr (6, vI (if -2000 ≤ p0 ∧ p0 ≤ 2000 then 0 else 1) :: vI m_heat :: vI m_pressure :: vL m_allDays :: vI m_clocks :: .ref m_rods :: .ref m_arcs :: .ref m_haveCheeks :: .ref m_adjustments :: .ref m_offs :: .ref m_sorted :: vI m_asking :: .ref m_askedBy :: .ref m_metAt :: .ref m_turnsAt :: vI m_period :: vI m_turns :: vI m_ahead :: vI m_datum :: vI m_datumValue :: vI m_readings :: .ref m_stations :: .ref m_hours :: .ref m_values :: .ref m_areTied :: .ref m_ties :: .ref m_steps :: .ref m_gravities :: .ref m_met :: vI m_bobs :: vI m_weight :: vI m_spring :: vI m_air :: vI m_push :: .ref m_places :: .ref m_speeds :: .ref m_wasPlace :: .ref m_wasSpeed :: []))])) (va_A [(mA, .inr (6, vI m_thrown :: vI m_heat :: vI m_pressure :: vL m_allDays :: vI m_clocks :: .ref m_rods :: .ref m_arcs :: .ref m_haveCheeks :: .ref m_adjustments :: .ref m_offs :: .ref m_sorted :: vI m_asking :: .ref m_askedBy :: .ref m_metAt :: .ref m_turnsAt :: vI m_period :: vI m_turns :: vI m_ahead :: vI m_datum :: vI m_datumValue :: vI m_readings :: .ref m_stations :: .ref m_hours :: .ref m_values :: .ref m_areTied :: .ref m_ties :: .ref m_steps :: .ref m_gravities :: .ref m_met :: vI m_bobs :: vI m_weight :: vI m_spring :: vI m_air :: vI m_push :: .ref m_places :: .ref m_speeds :: .ref m_wasPlace :: .ref m_wasSpeed :: []))] sz)) 0 0 (va_A [(mA, .inr (6, vI m_thrown :: vI m_heat :: vI m_pressure :: vL m_allDays :: vI m_clocks :: .ref m_rods :: .ref m_arcs :: .ref m_haveCheeks :: .ref m_adjustments :: .ref m_offs :: .ref m_sorted :: vI m_asking :: .ref m_askedBy :: .ref m_metAt :: .ref m_turnsAt :: vI m_period :: vI m_turns :: vI m_ahead :: vI m_datum :: vI m_datumValue :: vI m_readings :: .ref m_stations :: .ref m_hours :: .ref m_values :: .ref m_areTied :: .ref m_ties :: .ref m_steps :: .ref m_gravities :: .ref m_met :: vI m_bobs :: vI m_weight :: vI m_spring :: vI m_air :: vI m_push :: .ref m_places :: .ref m_speeds :: .ref m_wasPlace :: .ref m_wasSpeed :: []))] sz) := by
  refine Met.ofW (cc := cX8_latitude) (maxL := 6) (ret := (some .int)) (by decide) rfl ?_
  intro p e s m args below meth c s₁ B hml hv
  obtain ⟨rfl, hsz, hP, hK, hD0, hN⟩ := hv
  have hx := B.exec
  have hb := B.bytes
  have hr := B.returns
  have hts := atoms_spec (ws := wsX8_latitude) B.pre
  have hown : s.vm.findClass RX8 = some m.cls := findClass_of_methodNamed B.named
  have hlocks := B.notSynchronized
  subst hsz
  have hD := hD0.self (sz := s.heap.size)
  generalize hAe : va_A [(mA, .inr (6, vI m_thrown :: vI m_heat :: vI m_pressure :: vL m_allDays :: vI m_clocks :: .ref m_rods :: .ref m_arcs :: .ref m_haveCheeks :: .ref m_adjustments :: .ref m_offs :: .ref m_sorted :: vI m_asking :: .ref m_askedBy :: .ref m_metAt :: .ref m_turnsAt :: vI m_period :: vI m_turns :: vI m_ahead :: vI m_datum :: vI m_datumValue :: vI m_readings :: .ref m_stations :: .ref m_hours :: .ref m_values :: .ref m_areTied :: .ref m_ties :: .ref m_steps :: .ref m_gravities :: .ref m_met :: vI m_bobs :: vI m_weight :: vI m_spring :: vI m_air :: vI m_push :: .ref m_places :: .ref m_speeds :: .ref m_wasPlace :: .ref m_wasSpeed :: []))] s.heap.size = A at hD ⊢
  have hA : ∀ q : Nat, s.heap.size ≤ q → A q := fun q h => by rw [← hAe]; exact Or.inr h
  have hS : va_S A s.heap s.heap [] := va_S.rf
  have hP : va_P D vwCl [(mA, .inr (6, vI m_thrown :: vI m_heat :: vI m_pressure :: vL m_allDays :: vI m_clocks :: .ref m_rods :: .ref m_arcs :: .ref m_haveCheeks :: .ref m_adjustments :: .ref m_offs :: .ref m_sorted :: vI m_asking :: .ref m_askedBy :: .ref m_metAt :: .ref m_turnsAt :: vI m_period :: vI m_turns :: vI m_ahead :: vI m_datum :: vI m_datumValue :: vI m_readings :: .ref m_stations :: .ref m_hours :: .ref m_values :: .ref m_areTied :: .ref m_ties :: .ref m_steps :: .ref m_gravities :: .ref m_met :: vI m_bobs :: vI m_weight :: vI m_spring :: vI m_air :: vI m_push :: .ref m_places :: .ref m_speeds :: .ref m_wasPlace :: .ref m_wasSpeed :: []))] s.heap := hP
  have fl_85 := hts (.fieldLink RX8 85 "PendulumHallModel" "thrown" "I") (by decide +kernel)
  have cf_207 := hts (.constantFloat RX8 207 (1120403456)) (by decide +kernel)
  have in_X8 : ∀ w ∈ wsX80, w ∈ wsX8_latitude := by decide +kernel
  have hl := lv_entry ([.ref mA, vI p0]) (n := 6) (Nat.le_of_ble_eq_true rfl)
  rw [lg_entry_eq]
  generalize (lg_sl ([.ref mA, vI p0]) ++ List.replicate (6 - (lg_sl ([.ref mA, vI p0])).length) Slot.unset).toArray = ls at hl ⊢
  have hl : lv_has ls 6 [(0, .ref mA), (1, vI p0)] := hl
  refine lv_aload_n (pc := 0) hx hb dX8_latitude_0 rfl (lv_at hl 0 rfl) ?_
  refine lv_iload_n (pc := 1) hx hb dX8_latitude_1 rfl (lv_at hl 1 rfl) ?_
  refine z_sipush (pc := 2) hx hb dX8_latitude_2 (by decide) ?_
  refine z_sipush (pc := 5) hx hb dX8_latitude_5 (by decide) ?_
  refine z_callR (pc := 8) (va_runS (As := [vI p0, vI (-2000), vI 2000]) (rest := [.ref mA]) ⟨hx, hb, hml, hown, hts⟩ (m_X8_isIn l D cI cJ cZ cD 0  p0 (-2000) 2000 (by omega) (by omega) (by omega)) (va_cwS 3 hts gX8_latitude_X8_isIn rfl rfl rfl (by decide +kernel) ⟨Nat.le_of_ble_eq_true rfl, Nat.le_of_ble_eq_true rfl⟩) ⟨fun a U g mk q => q, fun U hU hW => ⟨rfl, trivial⟩⟩ rfl rfl hl.1 rfl (lv_room (Nat.le_of_ble_eq_true rfl)) dX8_latitude_8 ⟨Nat.zero_le _, Nat.zero_le _⟩) ?_
  refine z_ifp_eq (pc := 11) (tgt := 18) hx hb dX8_latitude_11 (by decide) (fun c_1 => ?_) (fun c_1 => ?_)
  · have hc_11t := c_1
    refine z_iconst (pc := 18) hx hb dX8_latitude_18 ?_
    refine va_put (pc := 19) (D := D) (ci := 6) (v := vI 1) (ty := .int) (C := RX8) (T := TX8) (N := 38) hx hb hts in_X8 tyX8 tyX8_ok nmX8 hown hK hP hD hS 0 rfl rfl 0 (by decide) fl_85 (fun _ h9 => h9) rfl (by decide +kernel) rfl rfl (Nat.le_of_ble_eq_true rfl) dX8_latitude_19 (fun H locs hP hD hS => ?_)
    have hP : va_P D vwCl [(mA, .inr (6, vI 1 :: vI m_heat :: vI m_pressure :: vL m_allDays :: vI m_clocks :: .ref m_rods :: .ref m_arcs :: .ref m_haveCheeks :: .ref m_adjustments :: .ref m_offs :: .ref m_sorted :: vI m_asking :: .ref m_askedBy :: .ref m_metAt :: .ref m_turnsAt :: vI m_period :: vI m_turns :: vI m_ahead :: vI m_datum :: vI m_datumValue :: vI m_readings :: .ref m_stations :: .ref m_hours :: .ref m_values :: .ref m_areTied :: .ref m_ties :: .ref m_steps :: .ref m_gravities :: .ref m_met :: vI m_bobs :: vI m_weight :: vI m_spring :: vI m_air :: vI m_push :: .ref m_places :: .ref m_speeds :: .ref m_wasPlace :: .ref m_wasSpeed :: []))] H := hP
    have hD : va_D A [(mA, .inr (6, vI 1 :: vI m_heat :: vI m_pressure :: vL m_allDays :: vI m_clocks :: .ref m_rods :: .ref m_arcs :: .ref m_haveCheeks :: .ref m_adjustments :: .ref m_offs :: .ref m_sorted :: vI m_asking :: .ref m_askedBy :: .ref m_metAt :: .ref m_turnsAt :: vI m_period :: vI m_turns :: vI m_ahead :: vI m_datum :: vI m_datumValue :: vI m_readings :: .ref m_stations :: .ref m_hours :: .ref m_values :: .ref m_areTied :: .ref m_ties :: .ref m_steps :: .ref m_gravities :: .ref m_met :: vI m_bobs :: vI m_weight :: vI m_spring :: vI m_air :: vI m_push :: .ref m_places :: .ref m_speeds :: .ref m_wasPlace :: .ref m_wasSpeed :: []))] := hD
    refine z_bipush (pc := 22) hx hb dX8_latitude_22 (by decide) ?_
    refine lv_istore_n (lv' := [(2, vI (-90)), (0, .ref mA), (1, vI p0)]) (pc := 24) hx hb dX8_latitude_24 rfl hl (by decide) rfl (fun ls hl => ?_)
    refine lv_fconst0 (pc := 25) hx hb dX8_latitude_25 ?_
    refine lv_fstore_n (lv' := [(3, .float 0), (2, vI (-90)), (0, .ref mA), (1, vI p0)]) (pc := 26) hx hb dX8_latitude_26 rfl hl (by decide) rfl (fun ls hl => ?_)
    refine z_bipush (pc := 27) hx hb dX8_latitude_27 (by decide) ?_
    refine lv_istore (lv' := [(4, vI (-90)), (3, .float 0), (2, vI (-90)), (0, .ref mA), (1, vI p0)]) (pc := 29) hx hb dX8_latitude_29 hl (by decide) rfl (fun ls hl => ?_)
    refine lv_iload (pc := 31) hx hb dX8_latitude_31 (lv_at hl 0 rfl) ?_
    refine z_bipush (pc := 33) hx hb dX8_latitude_33 (by decide) ?_
    refine z_icmp_gt (pc := 35) (tgt := 126) hx hb dX8_latitude_35 (by decide) (by decide) (by decide) (fun c_2 => ?_) (fun c_2 => ?_)
    · exact absurd c_2 (by decide)
    · have hc_35f := c_2
      refine lv_aload_n (pc := 38) hx hb dX8_latitude_38 rfl (lv_at hl 3 rfl) ?_
      refine va_get (pc := 39) (D := D) (ci := 6) (v := vI 1) (C := RX8) (T := TX8) (N := 38) hx hb hts in_X8 hown hK hP 0 rfl rfl 0 (by decide) fl_85 (fun _ h9 => h9) rfl dX8_latitude_39 ?_
      refine z_if_ne (pc := 42) (tgt := 126) hx hb dX8_latitude_42 (by decide) (by decide) (fun c_3 => ?_) (fun c_3 => ?_)
      · have hc_42t := c_3
        refine lv_aload_n (pc := 126) hx hb dX8_latitude_126 rfl (lv_at hl 3 rfl) ?_
        refine va_get (pc := 127) (D := D) (ci := 6) (v := vI 1) (C := RX8) (T := TX8) (N := 38) hx hb hts in_X8 hown hK hP 0 rfl rfl 0 (by decide) fl_85 (fun _ h9 => h9) rfl dX8_latitude_127 ?_
        refine z_if_le (pc := 130) (tgt := 137) hx hb dX8_latitude_130 (by decide) (by decide) (fun c_4 => ?_) (fun c_4 => ?_)
        · exact absurd c_4 (by decide)
        · have hc_130f := c_4
          refine z_iconst (pc := 133) hx hb dX8_latitude_133 ?_
          refine lv_goto (pc := 134) (tgt := 138) hx hb dX8_latitude_134 (by decide) ?_
          have he_0 : (1 : Int) = (if -2000 ≤ p0 ∧ p0 ≤ 2000 then 0 else 1) := by first | rfl | omega | (rw [if_pos (by omega)]; omega) | (rw [if_pos (by omega)]; done) | (rw [if_neg (by omega)]; done) | (rw [if_neg (by omega), if_pos (by omega)]; done) | (rw [if_neg (by omega), if_neg (by omega)]; done) | (rw [if_neg (by omega), if_neg (by omega), if_pos (by omega)]; done) | (rw [if_neg (by omega), if_neg (by omega), if_neg (by omega)]; done)
          have hP : va_P D vwCl [(mA, .inr (6, vI (if -2000 ≤ p0 ∧ p0 ≤ 2000 then 0 else 1) :: vI m_heat :: vI m_pressure :: vL m_allDays :: vI m_clocks :: .ref m_rods :: .ref m_arcs :: .ref m_haveCheeks :: .ref m_adjustments :: .ref m_offs :: .ref m_sorted :: vI m_asking :: .ref m_askedBy :: .ref m_metAt :: .ref m_turnsAt :: vI m_period :: vI m_turns :: vI m_ahead :: vI m_datum :: vI m_datumValue :: vI m_readings :: .ref m_stations :: .ref m_hours :: .ref m_values :: .ref m_areTied :: .ref m_ties :: .ref m_steps :: .ref m_gravities :: .ref m_met :: vI m_bobs :: vI m_weight :: vI m_spring :: vI m_air :: vI m_push :: .ref m_places :: .ref m_speeds :: .ref m_wasPlace :: .ref m_wasSpeed :: []))] H := by rw [← he_0]; exact hP
          have hD : va_D A [(mA, .inr (6, vI (if -2000 ≤ p0 ∧ p0 ≤ 2000 then 0 else 1) :: vI m_heat :: vI m_pressure :: vL m_allDays :: vI m_clocks :: .ref m_rods :: .ref m_arcs :: .ref m_haveCheeks :: .ref m_adjustments :: .ref m_offs :: .ref m_sorted :: vI m_asking :: .ref m_askedBy :: .ref m_metAt :: .ref m_turnsAt :: vI m_period :: vI m_turns :: vI m_ahead :: vI m_datum :: vI m_datumValue :: vI m_readings :: .ref m_stations :: .ref m_hours :: .ref m_values :: .ref m_areTied :: .ref m_ties :: .ref m_steps :: .ref m_gravities :: .ref m_met :: vI m_bobs :: vI m_weight :: vI m_spring :: vI m_air :: vI m_push :: .ref m_places :: .ref m_speeds :: .ref m_wasPlace :: .ref m_wasSpeed :: []))] := by rw [← he_0]; exact hD
          have hP9 := hP.sub (ws' := [(mA, .inr (6, vI (if -2000 ≤ p0 ∧ p0 ≤ 2000 then 0 else 1) :: vI m_heat :: vI m_pressure :: vL m_allDays :: vI m_clocks :: .ref m_rods :: .ref m_arcs :: .ref m_haveCheeks :: .ref m_adjustments :: .ref m_offs :: .ref m_sorted :: vI m_asking :: .ref m_askedBy :: .ref m_metAt :: .ref m_turnsAt :: vI m_period :: vI m_turns :: vI m_ahead :: vI m_datum :: vI m_datumValue :: vI m_readings :: .ref m_stations :: .ref m_hours :: .ref m_values :: .ref m_areTied :: .ref m_ties :: .ref m_steps :: .ref m_gravities :: .ref m_met :: vI m_bobs :: vI m_weight :: vI m_spring :: vI m_air :: vI m_push :: .ref m_places :: .ref m_speeds :: .ref m_wasPlace :: .ref m_wasSpeed :: []))]) [0] rfl
          have hD9 := hD.sub (ws' := [(mA, .inr (6, vI (if -2000 ≤ p0 ∧ p0 ≤ 2000 then 0 else 1) :: vI m_heat :: vI m_pressure :: vL m_allDays :: vI m_clocks :: .ref m_rods :: .ref m_arcs :: .ref m_haveCheeks :: .ref m_adjustments :: .ref m_offs :: .ref m_sorted :: vI m_asking :: .ref m_askedBy :: .ref m_metAt :: .ref m_turnsAt :: vI m_period :: vI m_turns :: vI m_ahead :: vI m_datum :: vI m_datumValue :: vI m_readings :: .ref m_stations :: .ref m_hours :: .ref m_values :: .ref m_areTied :: .ref m_ties :: .ref m_steps :: .ref m_gravities :: .ref m_met :: vI m_bobs :: vI m_weight :: vI m_spring :: vI m_air :: vI m_push :: .ref m_places :: .ref m_speeds :: .ref m_wasPlace :: .ref m_wasSpeed :: []))]) [0] (by decide) rfl
          have hv : (0 : Int) = (if -2000 ≤ p0 ∧ p0 ≤ 2000 then (nlZ (FP.i2f (zI p0)) 180).1 else 0) := by
            first
              | (rw [if_neg (by omega)]; done)
              | (have q := (i2.resolve_left (fun z => by omega)).2
                 rw [show Int.toNat (k + 89) = 180 by omega] at q
                 rw [if_pos (by omega), q])
              | omega
          exact W.iret (pc := 138) (v := zI 0) hx hb hr (fun t ht hW => ⟨⟨zI 0, (), rfl, ⟨congrArg zI hv, trivial⟩, by rw [ht]; exact hP9, hD9⟩, hS.F ht⟩) hS.2.2 dX8_latitude_138
      · exact absurd c_3 (by decide)
  · have hc_11f := c_1
    refine z_iconst (pc := 14) hx hb dX8_latitude_14 ?_
    refine lv_goto (pc := 15) (tgt := 19) hx hb dX8_latitude_15 (by decide) ?_
    refine va_put (pc := 19) (D := D) (ci := 6) (v := vI 0) (ty := .int) (C := RX8) (T := TX8) (N := 38) hx hb hts in_X8 tyX8 tyX8_ok nmX8 hown hK hP hD hS 0 rfl rfl 0 (by decide) fl_85 (fun _ h9 => h9) rfl (by decide +kernel) rfl rfl (Nat.le_of_ble_eq_true rfl) dX8_latitude_19 (fun H locs hP hD hS => ?_)
    have hP : va_P D vwCl [(mA, .inr (6, vI 0 :: vI m_heat :: vI m_pressure :: vL m_allDays :: vI m_clocks :: .ref m_rods :: .ref m_arcs :: .ref m_haveCheeks :: .ref m_adjustments :: .ref m_offs :: .ref m_sorted :: vI m_asking :: .ref m_askedBy :: .ref m_metAt :: .ref m_turnsAt :: vI m_period :: vI m_turns :: vI m_ahead :: vI m_datum :: vI m_datumValue :: vI m_readings :: .ref m_stations :: .ref m_hours :: .ref m_values :: .ref m_areTied :: .ref m_ties :: .ref m_steps :: .ref m_gravities :: .ref m_met :: vI m_bobs :: vI m_weight :: vI m_spring :: vI m_air :: vI m_push :: .ref m_places :: .ref m_speeds :: .ref m_wasPlace :: .ref m_wasSpeed :: []))] H := hP
    have hD : va_D A [(mA, .inr (6, vI 0 :: vI m_heat :: vI m_pressure :: vL m_allDays :: vI m_clocks :: .ref m_rods :: .ref m_arcs :: .ref m_haveCheeks :: .ref m_adjustments :: .ref m_offs :: .ref m_sorted :: vI m_asking :: .ref m_askedBy :: .ref m_metAt :: .ref m_turnsAt :: vI m_period :: vI m_turns :: vI m_ahead :: vI m_datum :: vI m_datumValue :: vI m_readings :: .ref m_stations :: .ref m_hours :: .ref m_values :: .ref m_areTied :: .ref m_ties :: .ref m_steps :: .ref m_gravities :: .ref m_met :: vI m_bobs :: vI m_weight :: vI m_spring :: vI m_air :: vI m_push :: .ref m_places :: .ref m_speeds :: .ref m_wasPlace :: .ref m_wasSpeed :: []))] := hD
    refine z_bipush (pc := 22) hx hb dX8_latitude_22 (by decide) ?_
    refine lv_istore_n (lv' := [(2, vI (-90)), (0, .ref mA), (1, vI p0)]) (pc := 24) hx hb dX8_latitude_24 rfl hl (by decide) rfl (fun ls hl => ?_)
    refine lv_fconst0 (pc := 25) hx hb dX8_latitude_25 ?_
    refine lv_fstore_n (lv' := [(3, .float 0), (2, vI (-90)), (0, .ref mA), (1, vI p0)]) (pc := 26) hx hb dX8_latitude_26 rfl hl (by decide) rfl (fun ls hl => ?_)
    refine z_bipush (pc := 27) hx hb dX8_latitude_27 (by decide) ?_
    refine lv_istore (lv' := [(4, vI (-90)), (3, .float 0), (2, vI (-90)), (0, .ref mA), (1, vI p0)]) (pc := 29) hx hb dX8_latitude_29 hl (by decide) rfl (fun ls hl => ?_)
    have LP_31 : ∀ (nfu : Nat) (k : Int) (nr : Int) (ls9 : UInt32) (i1 : -90 ≤ k ∧ k ≤ 91) (i2 : k = -90 ∨ (-89 ≤ k ∧ nlZ (FP.i2f (zI p0)) (Int.toNat (k + 89)) = (nr, ls9))) (hme : 91 - k + 1 < (nfu : Int)) (H : Heap) (locs : List Loc) (hP : va_P D vwCl [(mA, .inr (6, vI 0 :: vI m_heat :: vI m_pressure :: vL m_allDays :: vI m_clocks :: .ref m_rods :: .ref m_arcs :: .ref m_haveCheeks :: .ref m_adjustments :: .ref m_offs :: .ref m_sorted :: vI m_asking :: .ref m_askedBy :: .ref m_metAt :: .ref m_turnsAt :: vI m_period :: vI m_turns :: vI m_ahead :: vI m_datum :: vI m_datumValue :: vI m_readings :: .ref m_stations :: .ref m_hours :: .ref m_values :: .ref m_areTied :: .ref m_ties :: .ref m_steps :: .ref m_gravities :: .ref m_met :: vI m_bobs :: vI m_weight :: vI m_spring :: vI m_air :: vI m_push :: .ref m_places :: .ref m_speeds :: .ref m_wasPlace :: .ref m_wasSpeed :: []))] H) (hD : va_D A [(mA, .inr (6, vI 0 :: vI m_heat :: vI m_pressure :: vL m_allDays :: vI m_clocks :: .ref m_rods :: .ref m_arcs :: .ref m_haveCheeks :: .ref m_adjustments :: .ref m_offs :: .ref m_sorted :: vI m_asking :: .ref m_askedBy :: .ref m_metAt :: .ref m_turnsAt :: vI m_period :: vI m_turns :: vI m_ahead :: vI m_datum :: vI m_datumValue :: vI m_readings :: .ref m_stations :: .ref m_hours :: .ref m_values :: .ref m_areTied :: .ref m_ties :: .ref m_steps :: .ref m_gravities :: .ref m_met :: vI m_bobs :: vI m_weight :: vI m_spring :: vI m_air :: vI m_push :: .ref m_places :: .ref m_speeds :: .ref m_wasPlace :: .ref m_wasSpeed :: []))]) (hS : va_S A s.heap H locs) (ls : Array Slot) (hl : lv_has ls 6 [(4, vI k), (3, .float ls9), (2, vI nr), (0, .ref mA), (1, vI p0)]), W p l e (headSpec wsX8_latitude ({ frames := 1, cells := 0, slots := 0, locals := 25 } : Room)).room s m ([.ref mA, vI p0] : List Value).toArray below meth c H locs 0 0 (MQ below (va_Qi (fun (r : Int32) (u : Unit) => match u with | _ => r = zI (if -2000 ≤ p0 ∧ p0 ≤ 2000 then (nlZ (FP.i2f (zI p0)) 180).1 else 0) ∧ (True)) (zB D A (fun (u : Unit) => match u with | _ => [(mA, .inr (6, vI (if -2000 ≤ p0 ∧ p0 ≤ 2000 then 0 else 1) :: vI m_heat :: vI m_pressure :: vL m_allDays :: vI m_clocks :: .ref m_rods :: .ref m_arcs :: .ref m_haveCheeks :: .ref m_adjustments :: .ref m_offs :: .ref m_sorted :: vI m_asking :: .ref m_askedBy :: .ref m_metAt :: .ref m_turnsAt :: vI m_period :: vI m_turns :: vI m_ahead :: vI m_datum :: vI m_datumValue :: vI m_readings :: .ref m_stations :: .ref m_hours :: .ref m_values :: .ref m_areTied :: .ref m_ties :: .ref m_steps :: .ref m_gravities :: .ref m_met :: vI m_bobs :: vI m_weight :: vI m_spring :: vI m_air :: vI m_push :: .ref m_places :: .ref m_speeds :: .ref m_wasPlace :: .ref m_wasSpeed :: []))])) A) ([.ref mA, vI p0] : List Value).toArray s 0 0 A) (F0 m 31 ls []) := by
      intro nfu
      induction nfu with
      | zero =>
        intro k nr ls9 i1 i2 hme H locs hP hD hS ls hl
        exact absurd hme (by omega)
      | succ nfu ih_31 =>
        intro k nr ls9 i1 i2 hme H locs hP hD hS ls hl
        refine lv_iload (pc := 31) hx hb dX8_latitude_31 (lv_at hl 0 rfl) ?_
        refine z_bipush (pc := 33) hx hb dX8_latitude_33 (by decide) ?_
        refine z_icmp_gt (pc := 35) (tgt := 126) hx hb dX8_latitude_35 (by decide) (by omega) (by decide) (fun c_5 => ?_) (fun c_5 => ?_)
        · have hc_35t := c_5
          refine lv_aload_n (pc := 126) hx hb dX8_latitude_126 rfl (lv_at hl 3 rfl) ?_
          refine va_get (pc := 127) (D := D) (ci := 6) (v := vI 0) (C := RX8) (T := TX8) (N := 38) hx hb hts in_X8 hown hK hP 0 rfl rfl 0 (by decide) fl_85 (fun _ h9 => h9) rfl dX8_latitude_127 ?_
          refine z_if_le (pc := 130) (tgt := 137) hx hb dX8_latitude_130 (by decide) (by decide) (fun c_6 => ?_) (fun c_6 => ?_)
          · have hc_130t := c_6
            refine lv_iload_n (pc := 137) hx hb dX8_latitude_137 rfl (lv_at hl 2 rfl) ?_
            have he_0 : (0 : Int) = (if -2000 ≤ p0 ∧ p0 ≤ 2000 then 0 else 1) := by first | rfl | omega | (rw [if_pos (by omega)]; omega) | (rw [if_pos (by omega)]; done) | (rw [if_neg (by omega)]; done) | (rw [if_neg (by omega), if_pos (by omega)]; done) | (rw [if_neg (by omega), if_neg (by omega)]; done) | (rw [if_neg (by omega), if_neg (by omega), if_pos (by omega)]; done) | (rw [if_neg (by omega), if_neg (by omega), if_neg (by omega)]; done)
            have hP : va_P D vwCl [(mA, .inr (6, vI (if -2000 ≤ p0 ∧ p0 ≤ 2000 then 0 else 1) :: vI m_heat :: vI m_pressure :: vL m_allDays :: vI m_clocks :: .ref m_rods :: .ref m_arcs :: .ref m_haveCheeks :: .ref m_adjustments :: .ref m_offs :: .ref m_sorted :: vI m_asking :: .ref m_askedBy :: .ref m_metAt :: .ref m_turnsAt :: vI m_period :: vI m_turns :: vI m_ahead :: vI m_datum :: vI m_datumValue :: vI m_readings :: .ref m_stations :: .ref m_hours :: .ref m_values :: .ref m_areTied :: .ref m_ties :: .ref m_steps :: .ref m_gravities :: .ref m_met :: vI m_bobs :: vI m_weight :: vI m_spring :: vI m_air :: vI m_push :: .ref m_places :: .ref m_speeds :: .ref m_wasPlace :: .ref m_wasSpeed :: []))] H := by rw [← he_0]; exact hP
            have hD : va_D A [(mA, .inr (6, vI (if -2000 ≤ p0 ∧ p0 ≤ 2000 then 0 else 1) :: vI m_heat :: vI m_pressure :: vL m_allDays :: vI m_clocks :: .ref m_rods :: .ref m_arcs :: .ref m_haveCheeks :: .ref m_adjustments :: .ref m_offs :: .ref m_sorted :: vI m_asking :: .ref m_askedBy :: .ref m_metAt :: .ref m_turnsAt :: vI m_period :: vI m_turns :: vI m_ahead :: vI m_datum :: vI m_datumValue :: vI m_readings :: .ref m_stations :: .ref m_hours :: .ref m_values :: .ref m_areTied :: .ref m_ties :: .ref m_steps :: .ref m_gravities :: .ref m_met :: vI m_bobs :: vI m_weight :: vI m_spring :: vI m_air :: vI m_push :: .ref m_places :: .ref m_speeds :: .ref m_wasPlace :: .ref m_wasSpeed :: []))] := by rw [← he_0]; exact hD
            have hP9 := hP.sub (ws' := [(mA, .inr (6, vI (if -2000 ≤ p0 ∧ p0 ≤ 2000 then 0 else 1) :: vI m_heat :: vI m_pressure :: vL m_allDays :: vI m_clocks :: .ref m_rods :: .ref m_arcs :: .ref m_haveCheeks :: .ref m_adjustments :: .ref m_offs :: .ref m_sorted :: vI m_asking :: .ref m_askedBy :: .ref m_metAt :: .ref m_turnsAt :: vI m_period :: vI m_turns :: vI m_ahead :: vI m_datum :: vI m_datumValue :: vI m_readings :: .ref m_stations :: .ref m_hours :: .ref m_values :: .ref m_areTied :: .ref m_ties :: .ref m_steps :: .ref m_gravities :: .ref m_met :: vI m_bobs :: vI m_weight :: vI m_spring :: vI m_air :: vI m_push :: .ref m_places :: .ref m_speeds :: .ref m_wasPlace :: .ref m_wasSpeed :: []))]) [0] rfl
            have hD9 := hD.sub (ws' := [(mA, .inr (6, vI (if -2000 ≤ p0 ∧ p0 ≤ 2000 then 0 else 1) :: vI m_heat :: vI m_pressure :: vL m_allDays :: vI m_clocks :: .ref m_rods :: .ref m_arcs :: .ref m_haveCheeks :: .ref m_adjustments :: .ref m_offs :: .ref m_sorted :: vI m_asking :: .ref m_askedBy :: .ref m_metAt :: .ref m_turnsAt :: vI m_period :: vI m_turns :: vI m_ahead :: vI m_datum :: vI m_datumValue :: vI m_readings :: .ref m_stations :: .ref m_hours :: .ref m_values :: .ref m_areTied :: .ref m_ties :: .ref m_steps :: .ref m_gravities :: .ref m_met :: vI m_bobs :: vI m_weight :: vI m_spring :: vI m_air :: vI m_push :: .ref m_places :: .ref m_speeds :: .ref m_wasPlace :: .ref m_wasSpeed :: []))]) [0] (by decide) rfl
            have hv : (nr : Int) = (if -2000 ≤ p0 ∧ p0 ≤ 2000 then (nlZ (FP.i2f (zI p0)) 180).1 else 0) := by
              first
                | (rw [if_neg (by omega)]; done)
                | (have q := (i2.resolve_left (fun z => by omega)).2
                   rw [show Int.toNat (k + 89) = 180 by omega] at q
                   rw [if_pos (by omega), q])
                | omega
            exact W.iret (pc := 138) (v := zI nr) hx hb hr (fun t ht hW => ⟨⟨zI nr, (), rfl, ⟨congrArg zI hv, trivial⟩, by rw [ht]; exact hP9, hD9⟩, hS.F ht⟩) hS.2.2 dX8_latitude_138
          · exact absurd c_6 (by decide)
        · have hc_35f := c_5
          refine lv_aload_n (pc := 38) hx hb dX8_latitude_38 rfl (lv_at hl 3 rfl) ?_
          refine va_get (pc := 39) (D := D) (ci := 6) (v := vI 0) (C := RX8) (T := TX8) (N := 38) hx hb hts in_X8 hown hK hP 0 rfl rfl 0 (by decide) fl_85 (fun _ h9 => h9) rfl dX8_latitude_39 ?_
          refine z_if_ne (pc := 42) (tgt := 126) hx hb dX8_latitude_42 (by decide) (by decide) (fun c_7 => ?_) (fun c_7 => ?_)
          · exact absurd c_7 (by decide)
          · have hc_42f := c_7
            have hm := ms_f (la := k) (h := (FP.i2f (zI p0))) ⟨by omega, by omega⟩ (i2f_fi _)
            refine lv_iload (pc := 45) hx hb dX8_latitude_45 (lv_at hl 0 rfl) ?_
            refine z_bipush (pc := 47) hx hb dX8_latitude_47 (by decide) ?_
            refine z_callR (pc := 49) (va_runS (As := [vI k, vI 60]) (rest := []) ⟨hx, hb, hml, hown, hts⟩ (m_X8_turnedAt l D cI cJ cZ cD 0  k 60 (by omega)) (va_cwS 2 hts gX8_latitude_X8_turnedAt rfl rfl rfl (by decide +kernel) ⟨Nat.le_of_ble_eq_true rfl, Nat.le_of_ble_eq_true rfl⟩) ⟨fun a U g mk q => q, fun U hU hW => ⟨rfl, trivial⟩⟩ rfl rfl hl.1 rfl (lv_room (Nat.le_of_ble_eq_true rfl)) dX8_latitude_49 ⟨Nat.zero_le _, Nat.zero_le _⟩) ?_
            refine lv_ldcf (pc := 52) hx hb hown cf_207 dX8_latitude_52 ?_
            refine lv_fmul (pc := 54) hx hb dX8_latitude_54 (hm.1.v) ?_
            refine lv_iload_n (pc := 55) hx hb dX8_latitude_55 rfl (lv_at hl 4 rfl) ?_
            refine lv_i2f (pc := 56) hx hb dX8_latitude_56 ?_
            refine lv_fsub (pc := 57) hx hb dX8_latitude_57 (hm.2.1.v) ?_
            refine lv_fstore (lv' := [(5, .float (FP.fsub (FP.fmul (trZ k 60) 1120403456) (FP.i2f (zI p0)))), (4, vI k), (3, .float ls9), (2, vI nr), (0, .ref mA), (1, vI p0)]) (pc := 58) hx hb dX8_latitude_58 hl (by decide) rfl (fun ls hl => ?_)
            refine lv_fload (pc := 60) hx hb dX8_latitude_60 (lv_at hl 0 rfl) ?_
            refine lv_fconst0 (pc := 62) hx hb dX8_latitude_62 ?_
            refine z_fcmpge (pc := 63) (tgt := 74) hx hb dX8_latitude_63 dX8_latitude_64 (by decide) (fun c_8 => ?_) (fun c_8 => ?_)
            · have hc_63t := c_8
              refine lv_fload (pc := 74) hx hb dX8_latitude_74 (lv_at hl 0 rfl) ?_
              refine lv_fstore (lv' := [(5, .float (FP.fsub (FP.fmul (trZ k 60) 1120403456) (FP.i2f (zI p0)))), (4, vI k), (3, .float ls9), (2, vI nr), (0, .ref mA), (1, vI p0)]) (pc := 76) hx hb dX8_latitude_76 hl (by decide) rfl (fun ls hl => ?_)
              have em : (FP.fsub (FP.fmul (trZ k 60) 1120403456) (FP.i2f (zI p0))) = msZ k (FP.i2f (zI p0)) := by unfold msZ; first | exact (fif_y hc_63f).symm | exact (fif_n hc_63t).symm
              refine lv_iload (pc := 78) hx hb dX8_latitude_78 (lv_at hl 1 rfl) ?_
              refine z_bipush (pc := 80) hx hb dX8_latitude_80 (by decide) ?_
              refine z_icmp_eq (pc := 82) (tgt := 92) hx hb dX8_latitude_82 (by decide) (by omega) (by decide) (fun c_9 => ?_) (fun c_9 => ?_)
              · have hc_82t := c_9
                refine lv_iload (pc := 92) hx hb dX8_latitude_92 (lv_at hl 1 rfl) ?_
                refine lv_goto (pc := 94) (tgt := 98) hx hb dX8_latitude_94 (by decide) ?_
                refine lv_istore_n (lv' := [(2, vI k), (5, .float (FP.fsub (FP.fmul (trZ k 60) 1120403456) (FP.i2f (zI p0)))), (4, vI k), (3, .float ls9), (0, .ref mA), (1, vI p0)]) (pc := 98) hx hb dX8_latitude_98 rfl hl (by decide) rfl (fun ls hl => ?_)
                refine lv_iload (pc := 99) hx hb dX8_latitude_99 (lv_at hl 2 rfl) ?_
                refine z_bipush (pc := 101) hx hb dX8_latitude_101 (by decide) ?_
                refine z_icmp_eq (pc := 103) (tgt := 113) hx hb dX8_latitude_103 (by decide) (by omega) (by decide) (fun c_10 => ?_) (fun c_10 => ?_)
                · have hc_103t := c_10
                  refine lv_fload (pc := 113) hx hb dX8_latitude_113 (lv_at hl 1 rfl) ?_
                  refine lv_goto (pc := 115) (tgt := 119) hx hb dX8_latitude_115 (by decide) ?_
                  refine lv_fstore_n (lv' := [(3, .float (FP.fsub (FP.fmul (trZ k 60) 1120403456) (FP.i2f (zI p0)))), (2, vI k), (5, .float (FP.fsub (FP.fmul (trZ k 60) 1120403456) (FP.i2f (zI p0)))), (4, vI k), (0, .ref mA), (1, vI p0)]) (pc := 119) hx hb dX8_latitude_119 rfl hl (by decide) rfl (fun ls hl => ?_)
                  refine lv_iinc (v := zI (k + 1)) (lv' := [(4, vI (k + 1)), (3, .float (FP.fsub (FP.fmul (trZ k 60) 1120403456) (FP.i2f (zI p0)))), (2, vI k), (5, .float (FP.fsub (FP.fmul (trZ k 60) 1120403456) (FP.i2f (zI p0)))), (0, .ref mA), (1, vI p0)]) (pc := 120) hx hb dX8_latitude_120 hl (k := 3) rfl (zI_add _ _) (by decide) rfl (fun ls hl => ?_)
                  refine lv_goto (pc := 123) (tgt := 31) hx hb dX8_latitude_123 (by decide) ?_
                  have hi_11 : (k + 1) = -90 ∨ (-89 ≤ (k + 1) ∧ nlZ (FP.i2f (zI p0)) (Int.toNat ((k + 1) + 89)) = (k, (FP.fsub (FP.fmul (trZ k 60) 1120403456) (FP.i2f (zI p0))))) := by
                    refine Or.inr ⟨by omega, ?_⟩
                    first
                      | (rw [em, show k = -90 by omega]; rfl)
                      | (have q := (i2.resolve_left (fun z => by omega)).2
                         rw [em]; exact nl_y (by omega) (by rw [q, ← em]; exact hc_88f))
                      | (have q := (i2.resolve_left (fun z => by omega)).2
                         exact (nl_n (by omega) (by rw [q, ← em]; exact hc_88t)).trans q)
                      | exact absurd hc_88f hc_109t
                      | exact absurd hc_109f hc_88t
                      | (exfalso; omega)
                  exact ih_31 (k + 1) k (FP.fsub (FP.fmul (trZ k 60) 1120403456) (FP.i2f (zI p0))) (by omega) hi_11 (by omega) _ _ (hP.sub [0] rfl) (hD.sub [0] (by decide) rfl) hS _ (lv_sub hl [0, 1, 2, 4, 5] rfl)
                · have hc_103f := c_10
                  refine lv_fload (pc := 106) hx hb dX8_latitude_106 (lv_at hl 1 rfl) ?_
                  refine lv_fload_n (pc := 108) hx hb dX8_latitude_108 rfl (lv_at hl 3 rfl) ?_
                  refine z_fcmpge (pc := 109) (tgt := 118) hx hb dX8_latitude_109 dX8_latitude_110 (by decide) (fun c_12 => ?_) (fun c_12 => ?_)
                  · have hc_109t := c_12
                    refine lv_fload_n (pc := 118) hx hb dX8_latitude_118 rfl (lv_at hl 3 rfl) ?_
                    refine lv_fstore_n (lv' := [(3, .float ls9), (2, vI k), (5, .float (FP.fsub (FP.fmul (trZ k 60) 1120403456) (FP.i2f (zI p0)))), (4, vI k), (0, .ref mA), (1, vI p0)]) (pc := 119) hx hb dX8_latitude_119 rfl hl (by decide) rfl (fun ls hl => ?_)
                    refine lv_iinc (v := zI (k + 1)) (lv' := [(4, vI (k + 1)), (3, .float ls9), (2, vI k), (5, .float (FP.fsub (FP.fmul (trZ k 60) 1120403456) (FP.i2f (zI p0)))), (0, .ref mA), (1, vI p0)]) (pc := 120) hx hb dX8_latitude_120 hl (k := 3) rfl (zI_add _ _) (by decide) rfl (fun ls hl => ?_)
                    refine lv_goto (pc := 123) (tgt := 31) hx hb dX8_latitude_123 (by decide) ?_
                    have hi_13 : (k + 1) = -90 ∨ (-89 ≤ (k + 1) ∧ nlZ (FP.i2f (zI p0)) (Int.toNat ((k + 1) + 89)) = (k, ls9)) := by
                      refine Or.inr ⟨by omega, ?_⟩
                      first
                        | (rw [em, show k = -90 by omega]; rfl)
                        | (have q := (i2.resolve_left (fun z => by omega)).2
                           rw [em]; exact nl_y (by omega) (by rw [q, ← em]; exact hc_88f))
                        | (have q := (i2.resolve_left (fun z => by omega)).2
                           exact (nl_n (by omega) (by rw [q, ← em]; exact hc_88t)).trans q)
                        | exact absurd hc_88f hc_109t
                        | exact absurd hc_109f hc_88t
                        | (exfalso; omega)
                    exact ih_31 (k + 1) k ls9 (by omega) hi_13 (by omega) _ _ (hP.sub [0] rfl) (hD.sub [0] (by decide) rfl) hS _ (lv_sub hl [0, 1, 2, 4, 5] rfl)
                  · have hc_109f := c_12
                    refine lv_fload (pc := 113) hx hb dX8_latitude_113 (lv_at hl 1 rfl) ?_
                    refine lv_goto (pc := 115) (tgt := 119) hx hb dX8_latitude_115 (by decide) ?_
                    refine lv_fstore_n (lv' := [(3, .float (FP.fsub (FP.fmul (trZ k 60) 1120403456) (FP.i2f (zI p0)))), (2, vI k), (5, .float (FP.fsub (FP.fmul (trZ k 60) 1120403456) (FP.i2f (zI p0)))), (4, vI k), (0, .ref mA), (1, vI p0)]) (pc := 119) hx hb dX8_latitude_119 rfl hl (by decide) rfl (fun ls hl => ?_)
                    refine lv_iinc (v := zI (k + 1)) (lv' := [(4, vI (k + 1)), (3, .float (FP.fsub (FP.fmul (trZ k 60) 1120403456) (FP.i2f (zI p0)))), (2, vI k), (5, .float (FP.fsub (FP.fmul (trZ k 60) 1120403456) (FP.i2f (zI p0)))), (0, .ref mA), (1, vI p0)]) (pc := 120) hx hb dX8_latitude_120 hl (k := 3) rfl (zI_add _ _) (by decide) rfl (fun ls hl => ?_)
                    refine lv_goto (pc := 123) (tgt := 31) hx hb dX8_latitude_123 (by decide) ?_
                    have hi_14 : (k + 1) = -90 ∨ (-89 ≤ (k + 1) ∧ nlZ (FP.i2f (zI p0)) (Int.toNat ((k + 1) + 89)) = (k, (FP.fsub (FP.fmul (trZ k 60) 1120403456) (FP.i2f (zI p0))))) := by
                      refine Or.inr ⟨by omega, ?_⟩
                      first
                        | (rw [em, show k = -90 by omega]; rfl)
                        | (have q := (i2.resolve_left (fun z => by omega)).2
                           rw [em]; exact nl_y (by omega) (by rw [q, ← em]; exact hc_88f))
                        | (have q := (i2.resolve_left (fun z => by omega)).2
                           exact (nl_n (by omega) (by rw [q, ← em]; exact hc_88t)).trans q)
                        | exact absurd hc_88f hc_109t
                        | exact absurd hc_109f hc_88t
                        | (exfalso; omega)
                    exact ih_31 (k + 1) k (FP.fsub (FP.fmul (trZ k 60) 1120403456) (FP.i2f (zI p0))) (by omega) hi_14 (by omega) _ _ (hP.sub [0] rfl) (hD.sub [0] (by decide) rfl) hS _ (lv_sub hl [0, 1, 2, 4, 5] rfl)
              · have hc_82f := c_9
                refine lv_fload (pc := 85) hx hb dX8_latitude_85 (lv_at hl 0 rfl) ?_
                refine lv_fload_n (pc := 87) hx hb dX8_latitude_87 rfl (lv_at hl 2 rfl) ?_
                refine z_fcmpge (pc := 88) (tgt := 97) hx hb dX8_latitude_88 dX8_latitude_89 (by decide) (fun c_15 => ?_) (fun c_15 => ?_)
                · have hc_88t := c_15
                  refine lv_iload_n (pc := 97) hx hb dX8_latitude_97 rfl (lv_at hl 3 rfl) ?_
                  refine lv_istore_n (lv' := [(2, vI nr), (5, .float (FP.fsub (FP.fmul (trZ k 60) 1120403456) (FP.i2f (zI p0)))), (4, vI k), (3, .float ls9), (0, .ref mA), (1, vI p0)]) (pc := 98) hx hb dX8_latitude_98 rfl hl (by decide) rfl (fun ls hl => ?_)
                  refine lv_iload (pc := 99) hx hb dX8_latitude_99 (lv_at hl 2 rfl) ?_
                  refine z_bipush (pc := 101) hx hb dX8_latitude_101 (by decide) ?_
                  refine z_icmp_eq (pc := 103) (tgt := 113) hx hb dX8_latitude_103 (by decide) (by omega) (by decide) (fun c_16 => ?_) (fun c_16 => ?_)
                  · have hc_103t := c_16
                    refine lv_fload (pc := 113) hx hb dX8_latitude_113 (lv_at hl 1 rfl) ?_
                    refine lv_goto (pc := 115) (tgt := 119) hx hb dX8_latitude_115 (by decide) ?_
                    refine lv_fstore_n (lv' := [(3, .float (FP.fsub (FP.fmul (trZ k 60) 1120403456) (FP.i2f (zI p0)))), (2, vI nr), (5, .float (FP.fsub (FP.fmul (trZ k 60) 1120403456) (FP.i2f (zI p0)))), (4, vI k), (0, .ref mA), (1, vI p0)]) (pc := 119) hx hb dX8_latitude_119 rfl hl (by decide) rfl (fun ls hl => ?_)
                    refine lv_iinc (v := zI (k + 1)) (lv' := [(4, vI (k + 1)), (3, .float (FP.fsub (FP.fmul (trZ k 60) 1120403456) (FP.i2f (zI p0)))), (2, vI nr), (5, .float (FP.fsub (FP.fmul (trZ k 60) 1120403456) (FP.i2f (zI p0)))), (0, .ref mA), (1, vI p0)]) (pc := 120) hx hb dX8_latitude_120 hl (k := 3) rfl (zI_add _ _) (by decide) rfl (fun ls hl => ?_)
                    refine lv_goto (pc := 123) (tgt := 31) hx hb dX8_latitude_123 (by decide) ?_
                    have hi_17 : (k + 1) = -90 ∨ (-89 ≤ (k + 1) ∧ nlZ (FP.i2f (zI p0)) (Int.toNat ((k + 1) + 89)) = (nr, (FP.fsub (FP.fmul (trZ k 60) 1120403456) (FP.i2f (zI p0))))) := by
                      refine Or.inr ⟨by omega, ?_⟩
                      first
                        | (rw [em, show k = -90 by omega]; rfl)
                        | (have q := (i2.resolve_left (fun z => by omega)).2
                           rw [em]; exact nl_y (by omega) (by rw [q, ← em]; exact hc_88f))
                        | (have q := (i2.resolve_left (fun z => by omega)).2
                           exact (nl_n (by omega) (by rw [q, ← em]; exact hc_88t)).trans q)
                        | exact absurd hc_88f hc_109t
                        | exact absurd hc_109f hc_88t
                        | (exfalso; omega)
                    exact ih_31 (k + 1) nr (FP.fsub (FP.fmul (trZ k 60) 1120403456) (FP.i2f (zI p0))) (by omega) hi_17 (by omega) _ _ (hP.sub [0] rfl) (hD.sub [0] (by decide) rfl) hS _ (lv_sub hl [0, 1, 2, 4, 5] rfl)
                  · have hc_103f := c_16
                    refine lv_fload (pc := 106) hx hb dX8_latitude_106 (lv_at hl 1 rfl) ?_
                    refine lv_fload_n (pc := 108) hx hb dX8_latitude_108 rfl (lv_at hl 3 rfl) ?_
                    refine z_fcmpge (pc := 109) (tgt := 118) hx hb dX8_latitude_109 dX8_latitude_110 (by decide) (fun c_18 => ?_) (fun c_18 => ?_)
                    · have hc_109t := c_18
                      refine lv_fload_n (pc := 118) hx hb dX8_latitude_118 rfl (lv_at hl 3 rfl) ?_
                      refine lv_fstore_n (lv' := [(3, .float ls9), (2, vI nr), (5, .float (FP.fsub (FP.fmul (trZ k 60) 1120403456) (FP.i2f (zI p0)))), (4, vI k), (0, .ref mA), (1, vI p0)]) (pc := 119) hx hb dX8_latitude_119 rfl hl (by decide) rfl (fun ls hl => ?_)
                      refine lv_iinc (v := zI (k + 1)) (lv' := [(4, vI (k + 1)), (3, .float ls9), (2, vI nr), (5, .float (FP.fsub (FP.fmul (trZ k 60) 1120403456) (FP.i2f (zI p0)))), (0, .ref mA), (1, vI p0)]) (pc := 120) hx hb dX8_latitude_120 hl (k := 3) rfl (zI_add _ _) (by decide) rfl (fun ls hl => ?_)
                      refine lv_goto (pc := 123) (tgt := 31) hx hb dX8_latitude_123 (by decide) ?_
                      have hi_19 : (k + 1) = -90 ∨ (-89 ≤ (k + 1) ∧ nlZ (FP.i2f (zI p0)) (Int.toNat ((k + 1) + 89)) = (nr, ls9)) := by
                        refine Or.inr ⟨by omega, ?_⟩
                        first
                          | (rw [em, show k = -90 by omega]; rfl)
                          | (have q := (i2.resolve_left (fun z => by omega)).2
                             rw [em]; exact nl_y (by omega) (by rw [q, ← em]; exact hc_88f))
                          | (have q := (i2.resolve_left (fun z => by omega)).2
                             exact (nl_n (by omega) (by rw [q, ← em]; exact hc_88t)).trans q)
                          | exact absurd hc_88f hc_109t
                          | exact absurd hc_109f hc_88t
                          | (exfalso; omega)
                      exact ih_31 (k + 1) nr ls9 (by omega) hi_19 (by omega) _ _ (hP.sub [0] rfl) (hD.sub [0] (by decide) rfl) hS _ (lv_sub hl [0, 1, 2, 4, 5] rfl)
                    · have hc_109f := c_18
                      refine lv_fload (pc := 113) hx hb dX8_latitude_113 (lv_at hl 1 rfl) ?_
                      refine lv_goto (pc := 115) (tgt := 119) hx hb dX8_latitude_115 (by decide) ?_
                      refine lv_fstore_n (lv' := [(3, .float (FP.fsub (FP.fmul (trZ k 60) 1120403456) (FP.i2f (zI p0)))), (2, vI nr), (5, .float (FP.fsub (FP.fmul (trZ k 60) 1120403456) (FP.i2f (zI p0)))), (4, vI k), (0, .ref mA), (1, vI p0)]) (pc := 119) hx hb dX8_latitude_119 rfl hl (by decide) rfl (fun ls hl => ?_)
                      refine lv_iinc (v := zI (k + 1)) (lv' := [(4, vI (k + 1)), (3, .float (FP.fsub (FP.fmul (trZ k 60) 1120403456) (FP.i2f (zI p0)))), (2, vI nr), (5, .float (FP.fsub (FP.fmul (trZ k 60) 1120403456) (FP.i2f (zI p0)))), (0, .ref mA), (1, vI p0)]) (pc := 120) hx hb dX8_latitude_120 hl (k := 3) rfl (zI_add _ _) (by decide) rfl (fun ls hl => ?_)
                      refine lv_goto (pc := 123) (tgt := 31) hx hb dX8_latitude_123 (by decide) ?_
                      have hi_20 : (k + 1) = -90 ∨ (-89 ≤ (k + 1) ∧ nlZ (FP.i2f (zI p0)) (Int.toNat ((k + 1) + 89)) = (nr, (FP.fsub (FP.fmul (trZ k 60) 1120403456) (FP.i2f (zI p0))))) := by
                        refine Or.inr ⟨by omega, ?_⟩
                        first
                          | (rw [em, show k = -90 by omega]; rfl)
                          | (have q := (i2.resolve_left (fun z => by omega)).2
                             rw [em]; exact nl_y (by omega) (by rw [q, ← em]; exact hc_88f))
                          | (have q := (i2.resolve_left (fun z => by omega)).2
                             exact (nl_n (by omega) (by rw [q, ← em]; exact hc_88t)).trans q)
                          | exact absurd hc_88f hc_109t
                          | exact absurd hc_109f hc_88t
                          | (exfalso; omega)
                      exact ih_31 (k + 1) nr (FP.fsub (FP.fmul (trZ k 60) 1120403456) (FP.i2f (zI p0))) (by omega) hi_20 (by omega) _ _ (hP.sub [0] rfl) (hD.sub [0] (by decide) rfl) hS _ (lv_sub hl [0, 1, 2, 4, 5] rfl)
                · have hc_88f := c_15
                  refine lv_iload (pc := 92) hx hb dX8_latitude_92 (lv_at hl 1 rfl) ?_
                  refine lv_goto (pc := 94) (tgt := 98) hx hb dX8_latitude_94 (by decide) ?_
                  refine lv_istore_n (lv' := [(2, vI k), (5, .float (FP.fsub (FP.fmul (trZ k 60) 1120403456) (FP.i2f (zI p0)))), (4, vI k), (3, .float ls9), (0, .ref mA), (1, vI p0)]) (pc := 98) hx hb dX8_latitude_98 rfl hl (by decide) rfl (fun ls hl => ?_)
                  refine lv_iload (pc := 99) hx hb dX8_latitude_99 (lv_at hl 2 rfl) ?_
                  refine z_bipush (pc := 101) hx hb dX8_latitude_101 (by decide) ?_
                  refine z_icmp_eq (pc := 103) (tgt := 113) hx hb dX8_latitude_103 (by decide) (by omega) (by decide) (fun c_21 => ?_) (fun c_21 => ?_)
                  · have hc_103t := c_21
                    refine lv_fload (pc := 113) hx hb dX8_latitude_113 (lv_at hl 1 rfl) ?_
                    refine lv_goto (pc := 115) (tgt := 119) hx hb dX8_latitude_115 (by decide) ?_
                    refine lv_fstore_n (lv' := [(3, .float (FP.fsub (FP.fmul (trZ k 60) 1120403456) (FP.i2f (zI p0)))), (2, vI k), (5, .float (FP.fsub (FP.fmul (trZ k 60) 1120403456) (FP.i2f (zI p0)))), (4, vI k), (0, .ref mA), (1, vI p0)]) (pc := 119) hx hb dX8_latitude_119 rfl hl (by decide) rfl (fun ls hl => ?_)
                    refine lv_iinc (v := zI (k + 1)) (lv' := [(4, vI (k + 1)), (3, .float (FP.fsub (FP.fmul (trZ k 60) 1120403456) (FP.i2f (zI p0)))), (2, vI k), (5, .float (FP.fsub (FP.fmul (trZ k 60) 1120403456) (FP.i2f (zI p0)))), (0, .ref mA), (1, vI p0)]) (pc := 120) hx hb dX8_latitude_120 hl (k := 3) rfl (zI_add _ _) (by decide) rfl (fun ls hl => ?_)
                    refine lv_goto (pc := 123) (tgt := 31) hx hb dX8_latitude_123 (by decide) ?_
                    have hi_22 : (k + 1) = -90 ∨ (-89 ≤ (k + 1) ∧ nlZ (FP.i2f (zI p0)) (Int.toNat ((k + 1) + 89)) = (k, (FP.fsub (FP.fmul (trZ k 60) 1120403456) (FP.i2f (zI p0))))) := by
                      refine Or.inr ⟨by omega, ?_⟩
                      first
                        | (rw [em, show k = -90 by omega]; rfl)
                        | (have q := (i2.resolve_left (fun z => by omega)).2
                           rw [em]; exact nl_y (by omega) (by rw [q, ← em]; exact hc_88f))
                        | (have q := (i2.resolve_left (fun z => by omega)).2
                           exact (nl_n (by omega) (by rw [q, ← em]; exact hc_88t)).trans q)
                        | exact absurd hc_88f hc_109t
                        | exact absurd hc_109f hc_88t
                        | (exfalso; omega)
                    exact ih_31 (k + 1) k (FP.fsub (FP.fmul (trZ k 60) 1120403456) (FP.i2f (zI p0))) (by omega) hi_22 (by omega) _ _ (hP.sub [0] rfl) (hD.sub [0] (by decide) rfl) hS _ (lv_sub hl [0, 1, 2, 4, 5] rfl)
                  · have hc_103f := c_21
                    refine lv_fload (pc := 106) hx hb dX8_latitude_106 (lv_at hl 1 rfl) ?_
                    refine lv_fload_n (pc := 108) hx hb dX8_latitude_108 rfl (lv_at hl 3 rfl) ?_
                    refine z_fcmpge (pc := 109) (tgt := 118) hx hb dX8_latitude_109 dX8_latitude_110 (by decide) (fun c_23 => ?_) (fun c_23 => ?_)
                    · have hc_109t := c_23
                      refine lv_fload_n (pc := 118) hx hb dX8_latitude_118 rfl (lv_at hl 3 rfl) ?_
                      refine lv_fstore_n (lv' := [(3, .float ls9), (2, vI k), (5, .float (FP.fsub (FP.fmul (trZ k 60) 1120403456) (FP.i2f (zI p0)))), (4, vI k), (0, .ref mA), (1, vI p0)]) (pc := 119) hx hb dX8_latitude_119 rfl hl (by decide) rfl (fun ls hl => ?_)
                      refine lv_iinc (v := zI (k + 1)) (lv' := [(4, vI (k + 1)), (3, .float ls9), (2, vI k), (5, .float (FP.fsub (FP.fmul (trZ k 60) 1120403456) (FP.i2f (zI p0)))), (0, .ref mA), (1, vI p0)]) (pc := 120) hx hb dX8_latitude_120 hl (k := 3) rfl (zI_add _ _) (by decide) rfl (fun ls hl => ?_)
                      refine lv_goto (pc := 123) (tgt := 31) hx hb dX8_latitude_123 (by decide) ?_
                      have hi_24 : (k + 1) = -90 ∨ (-89 ≤ (k + 1) ∧ nlZ (FP.i2f (zI p0)) (Int.toNat ((k + 1) + 89)) = (k, ls9)) := by
                        refine Or.inr ⟨by omega, ?_⟩
                        first
                          | (rw [em, show k = -90 by omega]; rfl)
                          | (have q := (i2.resolve_left (fun z => by omega)).2
                             rw [em]; exact nl_y (by omega) (by rw [q, ← em]; exact hc_88f))
                          | (have q := (i2.resolve_left (fun z => by omega)).2
                             exact (nl_n (by omega) (by rw [q, ← em]; exact hc_88t)).trans q)
                          | exact absurd hc_88f hc_109t
                          | exact absurd hc_109f hc_88t
                          | (exfalso; omega)
                      exact ih_31 (k + 1) k ls9 (by omega) hi_24 (by omega) _ _ (hP.sub [0] rfl) (hD.sub [0] (by decide) rfl) hS _ (lv_sub hl [0, 1, 2, 4, 5] rfl)
                    · have hc_109f := c_23
                      refine lv_fload (pc := 113) hx hb dX8_latitude_113 (lv_at hl 1 rfl) ?_
                      refine lv_goto (pc := 115) (tgt := 119) hx hb dX8_latitude_115 (by decide) ?_
                      refine lv_fstore_n (lv' := [(3, .float (FP.fsub (FP.fmul (trZ k 60) 1120403456) (FP.i2f (zI p0)))), (2, vI k), (5, .float (FP.fsub (FP.fmul (trZ k 60) 1120403456) (FP.i2f (zI p0)))), (4, vI k), (0, .ref mA), (1, vI p0)]) (pc := 119) hx hb dX8_latitude_119 rfl hl (by decide) rfl (fun ls hl => ?_)
                      refine lv_iinc (v := zI (k + 1)) (lv' := [(4, vI (k + 1)), (3, .float (FP.fsub (FP.fmul (trZ k 60) 1120403456) (FP.i2f (zI p0)))), (2, vI k), (5, .float (FP.fsub (FP.fmul (trZ k 60) 1120403456) (FP.i2f (zI p0)))), (0, .ref mA), (1, vI p0)]) (pc := 120) hx hb dX8_latitude_120 hl (k := 3) rfl (zI_add _ _) (by decide) rfl (fun ls hl => ?_)
                      refine lv_goto (pc := 123) (tgt := 31) hx hb dX8_latitude_123 (by decide) ?_
                      have hi_25 : (k + 1) = -90 ∨ (-89 ≤ (k + 1) ∧ nlZ (FP.i2f (zI p0)) (Int.toNat ((k + 1) + 89)) = (k, (FP.fsub (FP.fmul (trZ k 60) 1120403456) (FP.i2f (zI p0))))) := by
                        refine Or.inr ⟨by omega, ?_⟩
                        first
                          | (rw [em, show k = -90 by omega]; rfl)
                          | (have q := (i2.resolve_left (fun z => by omega)).2
                             rw [em]; exact nl_y (by omega) (by rw [q, ← em]; exact hc_88f))
                          | (have q := (i2.resolve_left (fun z => by omega)).2
                             exact (nl_n (by omega) (by rw [q, ← em]; exact hc_88t)).trans q)
                          | exact absurd hc_88f hc_109t
                          | exact absurd hc_109f hc_88t
                          | (exfalso; omega)
                      exact ih_31 (k + 1) k (FP.fsub (FP.fmul (trZ k 60) 1120403456) (FP.i2f (zI p0))) (by omega) hi_25 (by omega) _ _ (hP.sub [0] rfl) (hD.sub [0] (by decide) rfl) hS _ (lv_sub hl [0, 1, 2, 4, 5] rfl)
            · have hc_63f := c_8
              refine lv_fconst0 (pc := 67) hx hb dX8_latitude_67 ?_
              refine lv_fload (pc := 68) hx hb dX8_latitude_68 (lv_at hl 0 rfl) ?_
              refine lv_fsub (pc := 70) hx hb dX8_latitude_70 (hm.2.2.v) ?_
              refine lv_goto (pc := 71) (tgt := 76) hx hb dX8_latitude_71 (by decide) ?_
              refine lv_fstore (lv' := [(5, .float (FP.fsub 0 (FP.fsub (FP.fmul (trZ k 60) 1120403456) (FP.i2f (zI p0))))), (4, vI k), (3, .float ls9), (2, vI nr), (0, .ref mA), (1, vI p0)]) (pc := 76) hx hb dX8_latitude_76 hl (by decide) rfl (fun ls hl => ?_)
              have em : (FP.fsub 0 (FP.fsub (FP.fmul (trZ k 60) 1120403456) (FP.i2f (zI p0)))) = msZ k (FP.i2f (zI p0)) := by unfold msZ; first | exact (fif_y hc_63f).symm | exact (fif_n hc_63t).symm
              refine lv_iload (pc := 78) hx hb dX8_latitude_78 (lv_at hl 1 rfl) ?_
              refine z_bipush (pc := 80) hx hb dX8_latitude_80 (by decide) ?_
              refine z_icmp_eq (pc := 82) (tgt := 92) hx hb dX8_latitude_82 (by decide) (by omega) (by decide) (fun c_26 => ?_) (fun c_26 => ?_)
              · have hc_82t := c_26
                refine lv_iload (pc := 92) hx hb dX8_latitude_92 (lv_at hl 1 rfl) ?_
                refine lv_goto (pc := 94) (tgt := 98) hx hb dX8_latitude_94 (by decide) ?_
                refine lv_istore_n (lv' := [(2, vI k), (5, .float (FP.fsub 0 (FP.fsub (FP.fmul (trZ k 60) 1120403456) (FP.i2f (zI p0))))), (4, vI k), (3, .float ls9), (0, .ref mA), (1, vI p0)]) (pc := 98) hx hb dX8_latitude_98 rfl hl (by decide) rfl (fun ls hl => ?_)
                refine lv_iload (pc := 99) hx hb dX8_latitude_99 (lv_at hl 2 rfl) ?_
                refine z_bipush (pc := 101) hx hb dX8_latitude_101 (by decide) ?_
                refine z_icmp_eq (pc := 103) (tgt := 113) hx hb dX8_latitude_103 (by decide) (by omega) (by decide) (fun c_27 => ?_) (fun c_27 => ?_)
                · have hc_103t := c_27
                  refine lv_fload (pc := 113) hx hb dX8_latitude_113 (lv_at hl 1 rfl) ?_
                  refine lv_goto (pc := 115) (tgt := 119) hx hb dX8_latitude_115 (by decide) ?_
                  refine lv_fstore_n (lv' := [(3, .float (FP.fsub 0 (FP.fsub (FP.fmul (trZ k 60) 1120403456) (FP.i2f (zI p0))))), (2, vI k), (5, .float (FP.fsub 0 (FP.fsub (FP.fmul (trZ k 60) 1120403456) (FP.i2f (zI p0))))), (4, vI k), (0, .ref mA), (1, vI p0)]) (pc := 119) hx hb dX8_latitude_119 rfl hl (by decide) rfl (fun ls hl => ?_)
                  refine lv_iinc (v := zI (k + 1)) (lv' := [(4, vI (k + 1)), (3, .float (FP.fsub 0 (FP.fsub (FP.fmul (trZ k 60) 1120403456) (FP.i2f (zI p0))))), (2, vI k), (5, .float (FP.fsub 0 (FP.fsub (FP.fmul (trZ k 60) 1120403456) (FP.i2f (zI p0))))), (0, .ref mA), (1, vI p0)]) (pc := 120) hx hb dX8_latitude_120 hl (k := 3) rfl (zI_add _ _) (by decide) rfl (fun ls hl => ?_)
                  refine lv_goto (pc := 123) (tgt := 31) hx hb dX8_latitude_123 (by decide) ?_
                  have hi_28 : (k + 1) = -90 ∨ (-89 ≤ (k + 1) ∧ nlZ (FP.i2f (zI p0)) (Int.toNat ((k + 1) + 89)) = (k, (FP.fsub 0 (FP.fsub (FP.fmul (trZ k 60) 1120403456) (FP.i2f (zI p0)))))) := by
                    refine Or.inr ⟨by omega, ?_⟩
                    first
                      | (rw [em, show k = -90 by omega]; rfl)
                      | (have q := (i2.resolve_left (fun z => by omega)).2
                         rw [em]; exact nl_y (by omega) (by rw [q, ← em]; exact hc_88f))
                      | (have q := (i2.resolve_left (fun z => by omega)).2
                         exact (nl_n (by omega) (by rw [q, ← em]; exact hc_88t)).trans q)
                      | exact absurd hc_88f hc_109t
                      | exact absurd hc_109f hc_88t
                      | (exfalso; omega)
                  exact ih_31 (k + 1) k (FP.fsub 0 (FP.fsub (FP.fmul (trZ k 60) 1120403456) (FP.i2f (zI p0)))) (by omega) hi_28 (by omega) _ _ (hP.sub [0] rfl) (hD.sub [0] (by decide) rfl) hS _ (lv_sub hl [0, 1, 2, 4, 5] rfl)
                · have hc_103f := c_27
                  refine lv_fload (pc := 106) hx hb dX8_latitude_106 (lv_at hl 1 rfl) ?_
                  refine lv_fload_n (pc := 108) hx hb dX8_latitude_108 rfl (lv_at hl 3 rfl) ?_
                  refine z_fcmpge (pc := 109) (tgt := 118) hx hb dX8_latitude_109 dX8_latitude_110 (by decide) (fun c_29 => ?_) (fun c_29 => ?_)
                  · have hc_109t := c_29
                    refine lv_fload_n (pc := 118) hx hb dX8_latitude_118 rfl (lv_at hl 3 rfl) ?_
                    refine lv_fstore_n (lv' := [(3, .float ls9), (2, vI k), (5, .float (FP.fsub 0 (FP.fsub (FP.fmul (trZ k 60) 1120403456) (FP.i2f (zI p0))))), (4, vI k), (0, .ref mA), (1, vI p0)]) (pc := 119) hx hb dX8_latitude_119 rfl hl (by decide) rfl (fun ls hl => ?_)
                    refine lv_iinc (v := zI (k + 1)) (lv' := [(4, vI (k + 1)), (3, .float ls9), (2, vI k), (5, .float (FP.fsub 0 (FP.fsub (FP.fmul (trZ k 60) 1120403456) (FP.i2f (zI p0))))), (0, .ref mA), (1, vI p0)]) (pc := 120) hx hb dX8_latitude_120 hl (k := 3) rfl (zI_add _ _) (by decide) rfl (fun ls hl => ?_)
                    refine lv_goto (pc := 123) (tgt := 31) hx hb dX8_latitude_123 (by decide) ?_
                    have hi_30 : (k + 1) = -90 ∨ (-89 ≤ (k + 1) ∧ nlZ (FP.i2f (zI p0)) (Int.toNat ((k + 1) + 89)) = (k, ls9)) := by
                      refine Or.inr ⟨by omega, ?_⟩
                      first
                        | (rw [em, show k = -90 by omega]; rfl)
                        | (have q := (i2.resolve_left (fun z => by omega)).2
                           rw [em]; exact nl_y (by omega) (by rw [q, ← em]; exact hc_88f))
                        | (have q := (i2.resolve_left (fun z => by omega)).2
                           exact (nl_n (by omega) (by rw [q, ← em]; exact hc_88t)).trans q)
                        | exact absurd hc_88f hc_109t
                        | exact absurd hc_109f hc_88t
                        | (exfalso; omega)
                    exact ih_31 (k + 1) k ls9 (by omega) hi_30 (by omega) _ _ (hP.sub [0] rfl) (hD.sub [0] (by decide) rfl) hS _ (lv_sub hl [0, 1, 2, 4, 5] rfl)
                  · have hc_109f := c_29
                    refine lv_fload (pc := 113) hx hb dX8_latitude_113 (lv_at hl 1 rfl) ?_
                    refine lv_goto (pc := 115) (tgt := 119) hx hb dX8_latitude_115 (by decide) ?_
                    refine lv_fstore_n (lv' := [(3, .float (FP.fsub 0 (FP.fsub (FP.fmul (trZ k 60) 1120403456) (FP.i2f (zI p0))))), (2, vI k), (5, .float (FP.fsub 0 (FP.fsub (FP.fmul (trZ k 60) 1120403456) (FP.i2f (zI p0))))), (4, vI k), (0, .ref mA), (1, vI p0)]) (pc := 119) hx hb dX8_latitude_119 rfl hl (by decide) rfl (fun ls hl => ?_)
                    refine lv_iinc (v := zI (k + 1)) (lv' := [(4, vI (k + 1)), (3, .float (FP.fsub 0 (FP.fsub (FP.fmul (trZ k 60) 1120403456) (FP.i2f (zI p0))))), (2, vI k), (5, .float (FP.fsub 0 (FP.fsub (FP.fmul (trZ k 60) 1120403456) (FP.i2f (zI p0))))), (0, .ref mA), (1, vI p0)]) (pc := 120) hx hb dX8_latitude_120 hl (k := 3) rfl (zI_add _ _) (by decide) rfl (fun ls hl => ?_)
                    refine lv_goto (pc := 123) (tgt := 31) hx hb dX8_latitude_123 (by decide) ?_
                    have hi_31 : (k + 1) = -90 ∨ (-89 ≤ (k + 1) ∧ nlZ (FP.i2f (zI p0)) (Int.toNat ((k + 1) + 89)) = (k, (FP.fsub 0 (FP.fsub (FP.fmul (trZ k 60) 1120403456) (FP.i2f (zI p0)))))) := by
                      refine Or.inr ⟨by omega, ?_⟩
                      first
                        | (rw [em, show k = -90 by omega]; rfl)
                        | (have q := (i2.resolve_left (fun z => by omega)).2
                           rw [em]; exact nl_y (by omega) (by rw [q, ← em]; exact hc_88f))
                        | (have q := (i2.resolve_left (fun z => by omega)).2
                           exact (nl_n (by omega) (by rw [q, ← em]; exact hc_88t)).trans q)
                        | exact absurd hc_88f hc_109t
                        | exact absurd hc_109f hc_88t
                        | (exfalso; omega)
                    exact ih_31 (k + 1) k (FP.fsub 0 (FP.fsub (FP.fmul (trZ k 60) 1120403456) (FP.i2f (zI p0)))) (by omega) hi_31 (by omega) _ _ (hP.sub [0] rfl) (hD.sub [0] (by decide) rfl) hS _ (lv_sub hl [0, 1, 2, 4, 5] rfl)
              · have hc_82f := c_26
                refine lv_fload (pc := 85) hx hb dX8_latitude_85 (lv_at hl 0 rfl) ?_
                refine lv_fload_n (pc := 87) hx hb dX8_latitude_87 rfl (lv_at hl 2 rfl) ?_
                refine z_fcmpge (pc := 88) (tgt := 97) hx hb dX8_latitude_88 dX8_latitude_89 (by decide) (fun c_32 => ?_) (fun c_32 => ?_)
                · have hc_88t := c_32
                  refine lv_iload_n (pc := 97) hx hb dX8_latitude_97 rfl (lv_at hl 3 rfl) ?_
                  refine lv_istore_n (lv' := [(2, vI nr), (5, .float (FP.fsub 0 (FP.fsub (FP.fmul (trZ k 60) 1120403456) (FP.i2f (zI p0))))), (4, vI k), (3, .float ls9), (0, .ref mA), (1, vI p0)]) (pc := 98) hx hb dX8_latitude_98 rfl hl (by decide) rfl (fun ls hl => ?_)
                  refine lv_iload (pc := 99) hx hb dX8_latitude_99 (lv_at hl 2 rfl) ?_
                  refine z_bipush (pc := 101) hx hb dX8_latitude_101 (by decide) ?_
                  refine z_icmp_eq (pc := 103) (tgt := 113) hx hb dX8_latitude_103 (by decide) (by omega) (by decide) (fun c_33 => ?_) (fun c_33 => ?_)
                  · have hc_103t := c_33
                    refine lv_fload (pc := 113) hx hb dX8_latitude_113 (lv_at hl 1 rfl) ?_
                    refine lv_goto (pc := 115) (tgt := 119) hx hb dX8_latitude_115 (by decide) ?_
                    refine lv_fstore_n (lv' := [(3, .float (FP.fsub 0 (FP.fsub (FP.fmul (trZ k 60) 1120403456) (FP.i2f (zI p0))))), (2, vI nr), (5, .float (FP.fsub 0 (FP.fsub (FP.fmul (trZ k 60) 1120403456) (FP.i2f (zI p0))))), (4, vI k), (0, .ref mA), (1, vI p0)]) (pc := 119) hx hb dX8_latitude_119 rfl hl (by decide) rfl (fun ls hl => ?_)
                    refine lv_iinc (v := zI (k + 1)) (lv' := [(4, vI (k + 1)), (3, .float (FP.fsub 0 (FP.fsub (FP.fmul (trZ k 60) 1120403456) (FP.i2f (zI p0))))), (2, vI nr), (5, .float (FP.fsub 0 (FP.fsub (FP.fmul (trZ k 60) 1120403456) (FP.i2f (zI p0))))), (0, .ref mA), (1, vI p0)]) (pc := 120) hx hb dX8_latitude_120 hl (k := 3) rfl (zI_add _ _) (by decide) rfl (fun ls hl => ?_)
                    refine lv_goto (pc := 123) (tgt := 31) hx hb dX8_latitude_123 (by decide) ?_
                    have hi_34 : (k + 1) = -90 ∨ (-89 ≤ (k + 1) ∧ nlZ (FP.i2f (zI p0)) (Int.toNat ((k + 1) + 89)) = (nr, (FP.fsub 0 (FP.fsub (FP.fmul (trZ k 60) 1120403456) (FP.i2f (zI p0)))))) := by
                      refine Or.inr ⟨by omega, ?_⟩
                      first
                        | (rw [em, show k = -90 by omega]; rfl)
                        | (have q := (i2.resolve_left (fun z => by omega)).2
                           rw [em]; exact nl_y (by omega) (by rw [q, ← em]; exact hc_88f))
                        | (have q := (i2.resolve_left (fun z => by omega)).2
                           exact (nl_n (by omega) (by rw [q, ← em]; exact hc_88t)).trans q)
                        | exact absurd hc_88f hc_109t
                        | exact absurd hc_109f hc_88t
                        | (exfalso; omega)
                    exact ih_31 (k + 1) nr (FP.fsub 0 (FP.fsub (FP.fmul (trZ k 60) 1120403456) (FP.i2f (zI p0)))) (by omega) hi_34 (by omega) _ _ (hP.sub [0] rfl) (hD.sub [0] (by decide) rfl) hS _ (lv_sub hl [0, 1, 2, 4, 5] rfl)
                  · have hc_103f := c_33
                    refine lv_fload (pc := 106) hx hb dX8_latitude_106 (lv_at hl 1 rfl) ?_
                    refine lv_fload_n (pc := 108) hx hb dX8_latitude_108 rfl (lv_at hl 3 rfl) ?_
                    refine z_fcmpge (pc := 109) (tgt := 118) hx hb dX8_latitude_109 dX8_latitude_110 (by decide) (fun c_35 => ?_) (fun c_35 => ?_)
                    · have hc_109t := c_35
                      refine lv_fload_n (pc := 118) hx hb dX8_latitude_118 rfl (lv_at hl 3 rfl) ?_
                      refine lv_fstore_n (lv' := [(3, .float ls9), (2, vI nr), (5, .float (FP.fsub 0 (FP.fsub (FP.fmul (trZ k 60) 1120403456) (FP.i2f (zI p0))))), (4, vI k), (0, .ref mA), (1, vI p0)]) (pc := 119) hx hb dX8_latitude_119 rfl hl (by decide) rfl (fun ls hl => ?_)
                      refine lv_iinc (v := zI (k + 1)) (lv' := [(4, vI (k + 1)), (3, .float ls9), (2, vI nr), (5, .float (FP.fsub 0 (FP.fsub (FP.fmul (trZ k 60) 1120403456) (FP.i2f (zI p0))))), (0, .ref mA), (1, vI p0)]) (pc := 120) hx hb dX8_latitude_120 hl (k := 3) rfl (zI_add _ _) (by decide) rfl (fun ls hl => ?_)
                      refine lv_goto (pc := 123) (tgt := 31) hx hb dX8_latitude_123 (by decide) ?_
                      have hi_36 : (k + 1) = -90 ∨ (-89 ≤ (k + 1) ∧ nlZ (FP.i2f (zI p0)) (Int.toNat ((k + 1) + 89)) = (nr, ls9)) := by
                        refine Or.inr ⟨by omega, ?_⟩
                        first
                          | (rw [em, show k = -90 by omega]; rfl)
                          | (have q := (i2.resolve_left (fun z => by omega)).2
                             rw [em]; exact nl_y (by omega) (by rw [q, ← em]; exact hc_88f))
                          | (have q := (i2.resolve_left (fun z => by omega)).2
                             exact (nl_n (by omega) (by rw [q, ← em]; exact hc_88t)).trans q)
                          | exact absurd hc_88f hc_109t
                          | exact absurd hc_109f hc_88t
                          | (exfalso; omega)
                      exact ih_31 (k + 1) nr ls9 (by omega) hi_36 (by omega) _ _ (hP.sub [0] rfl) (hD.sub [0] (by decide) rfl) hS _ (lv_sub hl [0, 1, 2, 4, 5] rfl)
                    · have hc_109f := c_35
                      refine lv_fload (pc := 113) hx hb dX8_latitude_113 (lv_at hl 1 rfl) ?_
                      refine lv_goto (pc := 115) (tgt := 119) hx hb dX8_latitude_115 (by decide) ?_
                      refine lv_fstore_n (lv' := [(3, .float (FP.fsub 0 (FP.fsub (FP.fmul (trZ k 60) 1120403456) (FP.i2f (zI p0))))), (2, vI nr), (5, .float (FP.fsub 0 (FP.fsub (FP.fmul (trZ k 60) 1120403456) (FP.i2f (zI p0))))), (4, vI k), (0, .ref mA), (1, vI p0)]) (pc := 119) hx hb dX8_latitude_119 rfl hl (by decide) rfl (fun ls hl => ?_)
                      refine lv_iinc (v := zI (k + 1)) (lv' := [(4, vI (k + 1)), (3, .float (FP.fsub 0 (FP.fsub (FP.fmul (trZ k 60) 1120403456) (FP.i2f (zI p0))))), (2, vI nr), (5, .float (FP.fsub 0 (FP.fsub (FP.fmul (trZ k 60) 1120403456) (FP.i2f (zI p0))))), (0, .ref mA), (1, vI p0)]) (pc := 120) hx hb dX8_latitude_120 hl (k := 3) rfl (zI_add _ _) (by decide) rfl (fun ls hl => ?_)
                      refine lv_goto (pc := 123) (tgt := 31) hx hb dX8_latitude_123 (by decide) ?_
                      have hi_37 : (k + 1) = -90 ∨ (-89 ≤ (k + 1) ∧ nlZ (FP.i2f (zI p0)) (Int.toNat ((k + 1) + 89)) = (nr, (FP.fsub 0 (FP.fsub (FP.fmul (trZ k 60) 1120403456) (FP.i2f (zI p0)))))) := by
                        refine Or.inr ⟨by omega, ?_⟩
                        first
                          | (rw [em, show k = -90 by omega]; rfl)
                          | (have q := (i2.resolve_left (fun z => by omega)).2
                             rw [em]; exact nl_y (by omega) (by rw [q, ← em]; exact hc_88f))
                          | (have q := (i2.resolve_left (fun z => by omega)).2
                             exact (nl_n (by omega) (by rw [q, ← em]; exact hc_88t)).trans q)
                          | exact absurd hc_88f hc_109t
                          | exact absurd hc_109f hc_88t
                          | (exfalso; omega)
                      exact ih_31 (k + 1) nr (FP.fsub 0 (FP.fsub (FP.fmul (trZ k 60) 1120403456) (FP.i2f (zI p0)))) (by omega) hi_37 (by omega) _ _ (hP.sub [0] rfl) (hD.sub [0] (by decide) rfl) hS _ (lv_sub hl [0, 1, 2, 4, 5] rfl)
                · have hc_88f := c_32
                  refine lv_iload (pc := 92) hx hb dX8_latitude_92 (lv_at hl 1 rfl) ?_
                  refine lv_goto (pc := 94) (tgt := 98) hx hb dX8_latitude_94 (by decide) ?_
                  refine lv_istore_n (lv' := [(2, vI k), (5, .float (FP.fsub 0 (FP.fsub (FP.fmul (trZ k 60) 1120403456) (FP.i2f (zI p0))))), (4, vI k), (3, .float ls9), (0, .ref mA), (1, vI p0)]) (pc := 98) hx hb dX8_latitude_98 rfl hl (by decide) rfl (fun ls hl => ?_)
                  refine lv_iload (pc := 99) hx hb dX8_latitude_99 (lv_at hl 2 rfl) ?_
                  refine z_bipush (pc := 101) hx hb dX8_latitude_101 (by decide) ?_
                  refine z_icmp_eq (pc := 103) (tgt := 113) hx hb dX8_latitude_103 (by decide) (by omega) (by decide) (fun c_38 => ?_) (fun c_38 => ?_)
                  · have hc_103t := c_38
                    refine lv_fload (pc := 113) hx hb dX8_latitude_113 (lv_at hl 1 rfl) ?_
                    refine lv_goto (pc := 115) (tgt := 119) hx hb dX8_latitude_115 (by decide) ?_
                    refine lv_fstore_n (lv' := [(3, .float (FP.fsub 0 (FP.fsub (FP.fmul (trZ k 60) 1120403456) (FP.i2f (zI p0))))), (2, vI k), (5, .float (FP.fsub 0 (FP.fsub (FP.fmul (trZ k 60) 1120403456) (FP.i2f (zI p0))))), (4, vI k), (0, .ref mA), (1, vI p0)]) (pc := 119) hx hb dX8_latitude_119 rfl hl (by decide) rfl (fun ls hl => ?_)
                    refine lv_iinc (v := zI (k + 1)) (lv' := [(4, vI (k + 1)), (3, .float (FP.fsub 0 (FP.fsub (FP.fmul (trZ k 60) 1120403456) (FP.i2f (zI p0))))), (2, vI k), (5, .float (FP.fsub 0 (FP.fsub (FP.fmul (trZ k 60) 1120403456) (FP.i2f (zI p0))))), (0, .ref mA), (1, vI p0)]) (pc := 120) hx hb dX8_latitude_120 hl (k := 3) rfl (zI_add _ _) (by decide) rfl (fun ls hl => ?_)
                    refine lv_goto (pc := 123) (tgt := 31) hx hb dX8_latitude_123 (by decide) ?_
                    have hi_39 : (k + 1) = -90 ∨ (-89 ≤ (k + 1) ∧ nlZ (FP.i2f (zI p0)) (Int.toNat ((k + 1) + 89)) = (k, (FP.fsub 0 (FP.fsub (FP.fmul (trZ k 60) 1120403456) (FP.i2f (zI p0)))))) := by
                      refine Or.inr ⟨by omega, ?_⟩
                      first
                        | (rw [em, show k = -90 by omega]; rfl)
                        | (have q := (i2.resolve_left (fun z => by omega)).2
                           rw [em]; exact nl_y (by omega) (by rw [q, ← em]; exact hc_88f))
                        | (have q := (i2.resolve_left (fun z => by omega)).2
                           exact (nl_n (by omega) (by rw [q, ← em]; exact hc_88t)).trans q)
                        | exact absurd hc_88f hc_109t
                        | exact absurd hc_109f hc_88t
                        | (exfalso; omega)
                    exact ih_31 (k + 1) k (FP.fsub 0 (FP.fsub (FP.fmul (trZ k 60) 1120403456) (FP.i2f (zI p0)))) (by omega) hi_39 (by omega) _ _ (hP.sub [0] rfl) (hD.sub [0] (by decide) rfl) hS _ (lv_sub hl [0, 1, 2, 4, 5] rfl)
                  · have hc_103f := c_38
                    refine lv_fload (pc := 106) hx hb dX8_latitude_106 (lv_at hl 1 rfl) ?_
                    refine lv_fload_n (pc := 108) hx hb dX8_latitude_108 rfl (lv_at hl 3 rfl) ?_
                    refine z_fcmpge (pc := 109) (tgt := 118) hx hb dX8_latitude_109 dX8_latitude_110 (by decide) (fun c_40 => ?_) (fun c_40 => ?_)
                    · have hc_109t := c_40
                      refine lv_fload_n (pc := 118) hx hb dX8_latitude_118 rfl (lv_at hl 3 rfl) ?_
                      refine lv_fstore_n (lv' := [(3, .float ls9), (2, vI k), (5, .float (FP.fsub 0 (FP.fsub (FP.fmul (trZ k 60) 1120403456) (FP.i2f (zI p0))))), (4, vI k), (0, .ref mA), (1, vI p0)]) (pc := 119) hx hb dX8_latitude_119 rfl hl (by decide) rfl (fun ls hl => ?_)
                      refine lv_iinc (v := zI (k + 1)) (lv' := [(4, vI (k + 1)), (3, .float ls9), (2, vI k), (5, .float (FP.fsub 0 (FP.fsub (FP.fmul (trZ k 60) 1120403456) (FP.i2f (zI p0))))), (0, .ref mA), (1, vI p0)]) (pc := 120) hx hb dX8_latitude_120 hl (k := 3) rfl (zI_add _ _) (by decide) rfl (fun ls hl => ?_)
                      refine lv_goto (pc := 123) (tgt := 31) hx hb dX8_latitude_123 (by decide) ?_
                      have hi_41 : (k + 1) = -90 ∨ (-89 ≤ (k + 1) ∧ nlZ (FP.i2f (zI p0)) (Int.toNat ((k + 1) + 89)) = (k, ls9)) := by
                        refine Or.inr ⟨by omega, ?_⟩
                        first
                          | (rw [em, show k = -90 by omega]; rfl)
                          | (have q := (i2.resolve_left (fun z => by omega)).2
                             rw [em]; exact nl_y (by omega) (by rw [q, ← em]; exact hc_88f))
                          | (have q := (i2.resolve_left (fun z => by omega)).2
                             exact (nl_n (by omega) (by rw [q, ← em]; exact hc_88t)).trans q)
                          | exact absurd hc_88f hc_109t
                          | exact absurd hc_109f hc_88t
                          | (exfalso; omega)
                      exact ih_31 (k + 1) k ls9 (by omega) hi_41 (by omega) _ _ (hP.sub [0] rfl) (hD.sub [0] (by decide) rfl) hS _ (lv_sub hl [0, 1, 2, 4, 5] rfl)
                    · have hc_109f := c_40
                      refine lv_fload (pc := 113) hx hb dX8_latitude_113 (lv_at hl 1 rfl) ?_
                      refine lv_goto (pc := 115) (tgt := 119) hx hb dX8_latitude_115 (by decide) ?_
                      refine lv_fstore_n (lv' := [(3, .float (FP.fsub 0 (FP.fsub (FP.fmul (trZ k 60) 1120403456) (FP.i2f (zI p0))))), (2, vI k), (5, .float (FP.fsub 0 (FP.fsub (FP.fmul (trZ k 60) 1120403456) (FP.i2f (zI p0))))), (4, vI k), (0, .ref mA), (1, vI p0)]) (pc := 119) hx hb dX8_latitude_119 rfl hl (by decide) rfl (fun ls hl => ?_)
                      refine lv_iinc (v := zI (k + 1)) (lv' := [(4, vI (k + 1)), (3, .float (FP.fsub 0 (FP.fsub (FP.fmul (trZ k 60) 1120403456) (FP.i2f (zI p0))))), (2, vI k), (5, .float (FP.fsub 0 (FP.fsub (FP.fmul (trZ k 60) 1120403456) (FP.i2f (zI p0))))), (0, .ref mA), (1, vI p0)]) (pc := 120) hx hb dX8_latitude_120 hl (k := 3) rfl (zI_add _ _) (by decide) rfl (fun ls hl => ?_)
                      refine lv_goto (pc := 123) (tgt := 31) hx hb dX8_latitude_123 (by decide) ?_
                      have hi_42 : (k + 1) = -90 ∨ (-89 ≤ (k + 1) ∧ nlZ (FP.i2f (zI p0)) (Int.toNat ((k + 1) + 89)) = (k, (FP.fsub 0 (FP.fsub (FP.fmul (trZ k 60) 1120403456) (FP.i2f (zI p0)))))) := by
                        refine Or.inr ⟨by omega, ?_⟩
                        first
                          | (rw [em, show k = -90 by omega]; rfl)
                          | (have q := (i2.resolve_left (fun z => by omega)).2
                             rw [em]; exact nl_y (by omega) (by rw [q, ← em]; exact hc_88f))
                          | (have q := (i2.resolve_left (fun z => by omega)).2
                             exact (nl_n (by omega) (by rw [q, ← em]; exact hc_88t)).trans q)
                          | exact absurd hc_88f hc_109t
                          | exact absurd hc_109f hc_88t
                          | (exfalso; omega)
                      exact ih_31 (k + 1) k (FP.fsub 0 (FP.fsub (FP.fmul (trZ k 60) 1120403456) (FP.i2f (zI p0)))) (by omega) hi_42 (by omega) _ _ (hP.sub [0] rfl) (hD.sub [0] (by decide) rfl) hS _ (lv_sub hl [0, 1, 2, 4, 5] rfl)
    exact LP_31 (Int.toNat ((91 - (-90) + 1) + 1)) (-90) (-90) 0 (by omega) (Or.inl rfl) (by omega) _ _ (hP.sub [0] rfl) (hD.sub [0] (by decide) rfl) hS _ (lv_sub hl [0, 1, 2, 3, 4] rfl)

set_option maxHeartbeats 4000000 in
set_option maxRecDepth 100000 in
theorem m_X8_share (l : Launch) (D : va_G) (cI cJ cZ cD : ClassId) (sz : Nat) (mA : Nat) (m_thrown : Int) (m_heat : Int) (m_pressure : Int) (m_allDays : Int) (m_clocks : Int) (m_rods : Nat) (m_arcs : Nat) (m_haveCheeks : Nat) (m_adjustments : Nat) (m_offs : Nat) (m_sorted : Nat) (m_asking : Int) (m_askedBy : Nat) (m_metAt : Nat) (m_turnsAt : Nat) (m_period : Int) (m_turns : Int) (m_ahead : Int) (m_datum : Int) (m_datumValue : Int) (m_readings : Int) (m_stations : Nat) (m_hours : Nat) (m_values : Nat) (m_areTied : Nat) (m_ties : Nat) (m_steps : Nat) (m_gravities : Nat) (m_met : Nat) (m_bobs : Int) (m_weight : Int) (m_spring : Int) (m_air : Int) (m_push : Int) (m_places : Nat) (m_speeds : Nat) (m_wasPlace : Nat) (m_wasSpeed : Nat) (m_places_c : Int → Int) (m_speeds_c : Int → Int) (hn : 1 ≤ m_bobs ∧ m_bobs ≤ 8) (hk : 0 ≤ m_weight ∧ m_weight ≤ 15) (hc : 0 ≤ m_spring ∧ m_spring ≤ 15) (hp : bnd m_places_c m_bobs 1000000) (hs : bnd m_speeds_c m_bobs 1000000) : Met l yX8_share wsX8_share ({ frames := 1, cells := 0, slots := 0, locals := 25 } : Room) (zPc D (TY cI cJ cZ cD) sz [.ref mA] [(mA, .inr (6, vI m_thrown :: vI m_heat :: vI m_pressure :: vL m_allDays :: vI m_clocks :: .ref m_rods :: .ref m_arcs :: .ref m_haveCheeks :: .ref m_adjustments :: .ref m_offs :: .ref m_sorted :: vI m_asking :: .ref m_askedBy :: .ref m_metAt :: .ref m_turnsAt :: vI m_period :: vI m_turns :: vI m_ahead :: vI m_datum :: vI m_datumValue :: vI m_readings :: .ref m_stations :: .ref m_hours :: .ref m_values :: .ref m_areTied :: .ref m_ties :: .ref m_steps :: .ref m_gravities :: .ref m_met :: vI m_bobs :: vI m_weight :: vI m_spring :: vI m_air :: vI m_push :: .ref m_places :: .ref m_speeds :: .ref m_wasPlace :: .ref m_wasSpeed :: [])), (m_places, .inl (cI, 8, .inl (aI m_places_c))), (m_speeds, .inl (cI, 8, .inl (aI m_speeds_c)))]) (va_Qf (fun (r : UInt32) (u : Unit) => match u with | _ => r = (FP.fdiv (FP.l2f (zL (enZ m_bobs m_weight m_spring m_places_c m_speeds_c))) (FP.i2f (zI m_bobs))) ∧ (True)) (zB D (va_A [(mA, .inr (6, vI m_thrown :: vI m_heat :: vI m_pressure :: vL m_allDays :: vI m_clocks :: .ref m_rods :: .ref m_arcs :: .ref m_haveCheeks :: .ref m_adjustments :: .ref m_offs :: .ref m_sorted :: vI m_asking :: .ref m_askedBy :: .ref m_metAt :: .ref m_turnsAt :: vI m_period :: vI m_turns :: vI m_ahead :: vI m_datum :: vI m_datumValue :: vI m_readings :: .ref m_stations :: .ref m_hours :: .ref m_values :: .ref m_areTied :: .ref m_ties :: .ref m_steps :: .ref m_gravities :: .ref m_met :: vI m_bobs :: vI m_weight :: vI m_spring :: vI m_air :: vI m_push :: .ref m_places :: .ref m_speeds :: .ref m_wasPlace :: .ref m_wasSpeed :: [])), (m_places, .inl (cI, 8, .inl (aI m_places_c))), (m_speeds, .inl (cI, 8, .inl (aI m_speeds_c)))] sz) (fun (u : Unit) => match u with | _ => [(mA, .inr (6, vI 0 :: vI m_heat :: vI m_pressure :: vL m_allDays :: vI m_clocks :: .ref m_rods :: .ref m_arcs :: .ref m_haveCheeks :: .ref m_adjustments :: .ref m_offs :: .ref m_sorted :: vI m_asking :: .ref m_askedBy :: .ref m_metAt :: .ref m_turnsAt :: vI m_period :: vI m_turns :: vI m_ahead :: vI m_datum :: vI m_datumValue :: vI m_readings :: .ref m_stations :: .ref m_hours :: .ref m_values :: .ref m_areTied :: .ref m_ties :: .ref m_steps :: .ref m_gravities :: .ref m_met :: vI m_bobs :: vI m_weight :: vI m_spring :: vI m_air :: vI m_push :: .ref m_places :: .ref m_speeds :: .ref m_wasPlace :: .ref m_wasSpeed :: [])), (m_places, .inl (cI, 8, .inl (aI m_places_c))), (m_speeds, .inl (cI, 8, .inl (aI m_speeds_c)))])) (va_A [(mA, .inr (6, vI m_thrown :: vI m_heat :: vI m_pressure :: vL m_allDays :: vI m_clocks :: .ref m_rods :: .ref m_arcs :: .ref m_haveCheeks :: .ref m_adjustments :: .ref m_offs :: .ref m_sorted :: vI m_asking :: .ref m_askedBy :: .ref m_metAt :: .ref m_turnsAt :: vI m_period :: vI m_turns :: vI m_ahead :: vI m_datum :: vI m_datumValue :: vI m_readings :: .ref m_stations :: .ref m_hours :: .ref m_values :: .ref m_areTied :: .ref m_ties :: .ref m_steps :: .ref m_gravities :: .ref m_met :: vI m_bobs :: vI m_weight :: vI m_spring :: vI m_air :: vI m_push :: .ref m_places :: .ref m_speeds :: .ref m_wasPlace :: .ref m_wasSpeed :: [])), (m_places, .inl (cI, 8, .inl (aI m_places_c))), (m_speeds, .inl (cI, 8, .inl (aI m_speeds_c)))] sz)) 0 0 (va_A [(mA, .inr (6, vI m_thrown :: vI m_heat :: vI m_pressure :: vL m_allDays :: vI m_clocks :: .ref m_rods :: .ref m_arcs :: .ref m_haveCheeks :: .ref m_adjustments :: .ref m_offs :: .ref m_sorted :: vI m_asking :: .ref m_askedBy :: .ref m_metAt :: .ref m_turnsAt :: vI m_period :: vI m_turns :: vI m_ahead :: vI m_datum :: vI m_datumValue :: vI m_readings :: .ref m_stations :: .ref m_hours :: .ref m_values :: .ref m_areTied :: .ref m_ties :: .ref m_steps :: .ref m_gravities :: .ref m_met :: vI m_bobs :: vI m_weight :: vI m_spring :: vI m_air :: vI m_push :: .ref m_places :: .ref m_speeds :: .ref m_wasPlace :: .ref m_wasSpeed :: [])), (m_places, .inl (cI, 8, .inl (aI m_places_c))), (m_speeds, .inl (cI, 8, .inl (aI m_speeds_c)))] sz) := by
  refine Met.ofW (cc := cX8_share) (maxL := 1) (ret := (some .float)) (by decide) rfl ?_
  intro p e s m args below meth c s₁ B hml hv
  obtain ⟨rfl, hsz, hP, hK, hD0, hN⟩ := hv
  have hx := B.exec
  have hb := B.bytes
  have hr := B.returns
  have hts := atoms_spec (ws := wsX8_share) B.pre
  have hown : s.vm.findClass RX8 = some m.cls := findClass_of_methodNamed B.named
  have hlocks := B.notSynchronized
  subst hsz
  have hD := hD0.self (sz := s.heap.size)
  generalize hAe : va_A [(mA, .inr (6, vI m_thrown :: vI m_heat :: vI m_pressure :: vL m_allDays :: vI m_clocks :: .ref m_rods :: .ref m_arcs :: .ref m_haveCheeks :: .ref m_adjustments :: .ref m_offs :: .ref m_sorted :: vI m_asking :: .ref m_askedBy :: .ref m_metAt :: .ref m_turnsAt :: vI m_period :: vI m_turns :: vI m_ahead :: vI m_datum :: vI m_datumValue :: vI m_readings :: .ref m_stations :: .ref m_hours :: .ref m_values :: .ref m_areTied :: .ref m_ties :: .ref m_steps :: .ref m_gravities :: .ref m_met :: vI m_bobs :: vI m_weight :: vI m_spring :: vI m_air :: vI m_push :: .ref m_places :: .ref m_speeds :: .ref m_wasPlace :: .ref m_wasSpeed :: [])), (m_places, .inl (cI, 8, .inl (aI m_places_c))), (m_speeds, .inl (cI, 8, .inl (aI m_speeds_c)))] s.heap.size = A at hD ⊢
  have hA : ∀ q : Nat, s.heap.size ≤ q → A q := fun q h => by rw [← hAe]; exact Or.inr h
  have hS : va_S A s.heap s.heap [] := va_S.rf
  have hP : va_P D vwCl [(mA, .inr (6, vI m_thrown :: vI m_heat :: vI m_pressure :: vL m_allDays :: vI m_clocks :: .ref m_rods :: .ref m_arcs :: .ref m_haveCheeks :: .ref m_adjustments :: .ref m_offs :: .ref m_sorted :: vI m_asking :: .ref m_askedBy :: .ref m_metAt :: .ref m_turnsAt :: vI m_period :: vI m_turns :: vI m_ahead :: vI m_datum :: vI m_datumValue :: vI m_readings :: .ref m_stations :: .ref m_hours :: .ref m_values :: .ref m_areTied :: .ref m_ties :: .ref m_steps :: .ref m_gravities :: .ref m_met :: vI m_bobs :: vI m_weight :: vI m_spring :: vI m_air :: vI m_push :: .ref m_places :: .ref m_speeds :: .ref m_wasPlace :: .ref m_wasSpeed :: [])), (m_places, .inl (cI, 8, .inl (aI m_places_c))), (m_speeds, .inl (cI, 8, .inl (aI m_speeds_c)))] s.heap := hP
  have fl_70 := hts (.fieldLink RX8 70 "PendulumHallModel" "bobs" "I") (by decide +kernel)
  have fl_85 := hts (.fieldLink RX8 85 "PendulumHallModel" "thrown" "I") (by decide +kernel)
  have in_X8 : ∀ w ∈ wsX80, w ∈ wsX8_share := by decide +kernel
  have hl := lv_entry ([.ref mA]) (n := 1) (Nat.le_of_ble_eq_true rfl)
  rw [lg_entry_eq]
  generalize (lg_sl ([.ref mA]) ++ List.replicate (1 - (lg_sl ([.ref mA])).length) Slot.unset).toArray = ls at hl ⊢
  have hl : lv_has ls 1 [(0, .ref mA)] := hl
  refine lv_aload_n (pc := 0) hx hb dX8_share_0 rfl (lv_at hl 0 rfl) ?_
  refine z_iconst (pc := 1) hx hb dX8_share_1 ?_
  refine va_put (pc := 2) (D := D) (ci := 6) (v := vI 0) (ty := .int) (C := RX8) (T := TX8) (N := 38) hx hb hts in_X8 tyX8 tyX8_ok nmX8 hown hK hP hD hS 0 rfl rfl 0 (by decide) fl_85 (fun _ h9 => h9) rfl (by decide +kernel) rfl rfl (Nat.le_of_ble_eq_true rfl) dX8_share_2 (fun H locs hP hD hS => ?_)
  have hP : va_P D vwCl [(mA, .inr (6, vI 0 :: vI m_heat :: vI m_pressure :: vL m_allDays :: vI m_clocks :: .ref m_rods :: .ref m_arcs :: .ref m_haveCheeks :: .ref m_adjustments :: .ref m_offs :: .ref m_sorted :: vI m_asking :: .ref m_askedBy :: .ref m_metAt :: .ref m_turnsAt :: vI m_period :: vI m_turns :: vI m_ahead :: vI m_datum :: vI m_datumValue :: vI m_readings :: .ref m_stations :: .ref m_hours :: .ref m_values :: .ref m_areTied :: .ref m_ties :: .ref m_steps :: .ref m_gravities :: .ref m_met :: vI m_bobs :: vI m_weight :: vI m_spring :: vI m_air :: vI m_push :: .ref m_places :: .ref m_speeds :: .ref m_wasPlace :: .ref m_wasSpeed :: [])), (m_places, .inl (cI, 8, .inl (aI m_places_c))), (m_speeds, .inl (cI, 8, .inl (aI m_speeds_c)))] H := hP
  have hD : va_D A [(mA, .inr (6, vI 0 :: vI m_heat :: vI m_pressure :: vL m_allDays :: vI m_clocks :: .ref m_rods :: .ref m_arcs :: .ref m_haveCheeks :: .ref m_adjustments :: .ref m_offs :: .ref m_sorted :: vI m_asking :: .ref m_askedBy :: .ref m_metAt :: .ref m_turnsAt :: vI m_period :: vI m_turns :: vI m_ahead :: vI m_datum :: vI m_datumValue :: vI m_readings :: .ref m_stations :: .ref m_hours :: .ref m_values :: .ref m_areTied :: .ref m_ties :: .ref m_steps :: .ref m_gravities :: .ref m_met :: vI m_bobs :: vI m_weight :: vI m_spring :: vI m_air :: vI m_push :: .ref m_places :: .ref m_speeds :: .ref m_wasPlace :: .ref m_wasSpeed :: [])), (m_places, .inl (cI, 8, .inl (aI m_places_c))), (m_speeds, .inl (cI, 8, .inl (aI m_speeds_c)))] := hD
  refine lv_aload_n (pc := 5) hx hb dX8_share_5 rfl (lv_at hl 0 rfl) ?_
  have hPc := hP.sub (ws' := [(mA, .inr (6, vI 0 :: vI m_heat :: vI m_pressure :: vL m_allDays :: vI m_clocks :: .ref m_rods :: .ref m_arcs :: .ref m_haveCheeks :: .ref m_adjustments :: .ref m_offs :: .ref m_sorted :: vI m_asking :: .ref m_askedBy :: .ref m_metAt :: .ref m_turnsAt :: vI m_period :: vI m_turns :: vI m_ahead :: vI m_datum :: vI m_datumValue :: vI m_readings :: .ref m_stations :: .ref m_hours :: .ref m_values :: .ref m_areTied :: .ref m_ties :: .ref m_steps :: .ref m_gravities :: .ref m_met :: vI m_bobs :: vI m_weight :: vI m_spring :: vI m_air :: vI m_push :: .ref m_places :: .ref m_speeds :: .ref m_wasPlace :: .ref m_wasSpeed :: [])), (m_places, .inl (cI, 8, .inl (aI m_places_c))), (m_speeds, .inl (cI, 8, .inl (aI m_speeds_c)))]) [0, 1, 2] rfl
  have hDc := hD.sub (ws' := [(mA, .inr (6, vI 0 :: vI m_heat :: vI m_pressure :: vL m_allDays :: vI m_clocks :: .ref m_rods :: .ref m_arcs :: .ref m_haveCheeks :: .ref m_adjustments :: .ref m_offs :: .ref m_sorted :: vI m_asking :: .ref m_askedBy :: .ref m_metAt :: .ref m_turnsAt :: vI m_period :: vI m_turns :: vI m_ahead :: vI m_datum :: vI m_datumValue :: vI m_readings :: .ref m_stations :: .ref m_hours :: .ref m_values :: .ref m_areTied :: .ref m_ties :: .ref m_steps :: .ref m_gravities :: .ref m_met :: vI m_bobs :: vI m_weight :: vI m_spring :: vI m_air :: vI m_push :: .ref m_places :: .ref m_speeds :: .ref m_wasPlace :: .ref m_wasSpeed :: [])), (m_places, .inl (cI, 8, .inl (aI m_places_c))), (m_speeds, .inl (cI, 8, .inl (aI m_speeds_c)))]) [0, 1, 2] (by decide) rfl
  refine z_callR (pc := 6) (va_runV (As := []) (rest := []) ⟨hx, hb, hml, hown, hts⟩ (m_X8_energyNow l D cI cJ cZ cD H.size mA 0 m_heat m_pressure m_allDays m_clocks m_rods m_arcs m_haveCheeks m_adjustments m_offs m_sorted m_asking m_askedBy m_metAt m_turnsAt m_period m_turns m_ahead m_datum m_datumValue m_readings m_stations m_hours m_values m_areTied m_ties m_steps m_gravities m_met m_bobs m_weight m_spring m_air m_push m_places m_speeds m_wasPlace m_wasSpeed m_places_c m_speeds_c  hn hk hc hp hs) (cwV 0 hts gX8_share_X8_energyNow rfl rfl rfl (by decide +kernel) ⟨Nat.le_of_ble_eq_true rfl, Nat.le_of_ble_eq_true rfl⟩) ⟨z_blind, va_recv hK hPc (ci := 6) (q0 := 0) rfl rfl, z_pre hPc hK hDc rfl rfl hN⟩ rfl rfl hl.1 rfl (lv_room (Nat.le_of_ble_eq_true rfl)) dX8_share_6 ⟨Nat.zero_le _, Nat.zero_le _⟩) ?_
  refine lv_l2f (pc := 9) hx hb dX8_share_9 ?_
  refine lv_aload_n (pc := 10) hx hb dX8_share_10 rfl (lv_at hl 0 rfl) ?_
  refine va_get (pc := 11) (D := D) (ci := 6) (v := vI m_bobs) (C := RX8) (T := TX8) (N := 38) hx hb hts in_X8 hown hK hP 0 rfl rfl 29 (by decide) fl_70 (fun _ h9 => h9) rfl dX8_share_11 ?_
  refine lv_i2f (pc := 14) hx hb dX8_share_14 ?_
  refine lv_fdiv (pc := 15) hx hb dX8_share_15 ((sh_f (l2f_fi _).n hn).v) ?_
  have hP9 := hP.sub (ws' := [(mA, .inr (6, vI 0 :: vI m_heat :: vI m_pressure :: vL m_allDays :: vI m_clocks :: .ref m_rods :: .ref m_arcs :: .ref m_haveCheeks :: .ref m_adjustments :: .ref m_offs :: .ref m_sorted :: vI m_asking :: .ref m_askedBy :: .ref m_metAt :: .ref m_turnsAt :: vI m_period :: vI m_turns :: vI m_ahead :: vI m_datum :: vI m_datumValue :: vI m_readings :: .ref m_stations :: .ref m_hours :: .ref m_values :: .ref m_areTied :: .ref m_ties :: .ref m_steps :: .ref m_gravities :: .ref m_met :: vI m_bobs :: vI m_weight :: vI m_spring :: vI m_air :: vI m_push :: .ref m_places :: .ref m_speeds :: .ref m_wasPlace :: .ref m_wasSpeed :: [])), (m_places, .inl (cI, 8, .inl (aI m_places_c))), (m_speeds, .inl (cI, 8, .inl (aI m_speeds_c)))]) [0, 1, 2] rfl
  have hD9 := hD.sub (ws' := [(mA, .inr (6, vI 0 :: vI m_heat :: vI m_pressure :: vL m_allDays :: vI m_clocks :: .ref m_rods :: .ref m_arcs :: .ref m_haveCheeks :: .ref m_adjustments :: .ref m_offs :: .ref m_sorted :: vI m_asking :: .ref m_askedBy :: .ref m_metAt :: .ref m_turnsAt :: vI m_period :: vI m_turns :: vI m_ahead :: vI m_datum :: vI m_datumValue :: vI m_readings :: .ref m_stations :: .ref m_hours :: .ref m_values :: .ref m_areTied :: .ref m_ties :: .ref m_steps :: .ref m_gravities :: .ref m_met :: vI m_bobs :: vI m_weight :: vI m_spring :: vI m_air :: vI m_push :: .ref m_places :: .ref m_speeds :: .ref m_wasPlace :: .ref m_wasSpeed :: [])), (m_places, .inl (cI, 8, .inl (aI m_places_c))), (m_speeds, .inl (cI, 8, .inl (aI m_speeds_c)))]) [0, 1, 2] (by decide) rfl
  have hv : (FP.fdiv (FP.l2f (zL (enZ m_bobs m_weight m_spring m_places_c m_speeds_c))) (FP.i2f (zI m_bobs))) = (FP.fdiv (FP.l2f (zL (enZ m_bobs m_weight m_spring m_places_c m_speeds_c))) (FP.i2f (zI m_bobs))) := by rfl
  exact W.fret (pc := 16) (v := (FP.fdiv (FP.l2f (zL (enZ m_bobs m_weight m_spring m_places_c m_speeds_c))) (FP.i2f (zI m_bobs)))) hx hb hr (fun t ht hW => ⟨⟨FP.fdiv (FP.l2f (zL (enZ m_bobs m_weight m_spring m_places_c m_speeds_c))) (FP.i2f (zI m_bobs)), (), rfl, ⟨hv, trivial⟩, by rw [ht]; exact hP9, hD9⟩, hS.F ht⟩) hS.2.2 dX8_share_16

set_option maxHeartbeats 4000000 in
set_option maxRecDepth 100000 in
theorem m_X8_count (l : Launch) (D : va_G) (cI cJ cZ cD : ClassId) (sz : Nat) (mA : Nat) (m_thrown : Int) (m_heat : Int) (m_pressure : Int) (m_allDays : Int) (m_clocks : Int) (m_rods : Nat) (m_arcs : Nat) (m_haveCheeks : Nat) (m_adjustments : Nat) (m_offs : Nat) (m_sorted : Nat) (m_asking : Int) (m_askedBy : Nat) (m_metAt : Nat) (m_turnsAt : Nat) (m_period : Int) (m_turns : Int) (m_ahead : Int) (m_datum : Int) (m_datumValue : Int) (m_readings : Int) (m_stations : Nat) (m_hours : Nat) (m_values : Nat) (m_areTied : Nat) (m_ties : Nat) (m_steps : Nat) (m_gravities : Nat) (m_met : Nat) (m_bobs : Int) (m_weight : Int) (m_spring : Int) (m_air : Int) (m_push : Int) (m_places : Nat) (m_speeds : Nat) (m_wasPlace : Nat) (m_wasSpeed : Nat) (m_offs_c : Int → Int) (m_sorted_c : Int → Int) (m_ties_c : Int → Int) (m_areTied_c : Int → Int) (m_steps_c : Int → Int) (m_gravities_c : Int → Int) (Bd : Int) (p0 : Int) (hrp0 : -2147483648 ≤ p0 ∧ p0 < 2147483648) (hn : 0 ≤ m_clocks ∧ m_clocks ≤ 10) (hB : 0 ≤ Bd ∧ Bd ≤ 1000000000000000000) (ho : ∀ j : Int, 0 ≤ j → j < 10 → -Bd ≤ m_offs_c j ∧ m_offs_c j ≤ Bd) (hso : ∀ j : Int, 0 ≤ j → j < 10 → -Bd ≤ m_sorted_c j ∧ m_sorted_c j ≤ Bd) (hty : tyOK m_areTied_c m_ties_c) (hds : 0 ≤ m_datum ∧ m_datum ≤ 9) (hdv : -1000000 ≤ m_datumValue ∧ m_datumValue ≤ 1000000) : Met l yX8_count wsX8_count ({ frames := 4, cells := 0, slots := 0, locals := 90 } : Room) (zPc D (TY cI cJ cZ cD) sz [.ref mA, vI p0] [(mA, .inr (6, vI m_thrown :: vI m_heat :: vI m_pressure :: vL m_allDays :: vI m_clocks :: .ref m_rods :: .ref m_arcs :: .ref m_haveCheeks :: .ref m_adjustments :: .ref m_offs :: .ref m_sorted :: vI m_asking :: .ref m_askedBy :: .ref m_metAt :: .ref m_turnsAt :: vI m_period :: vI m_turns :: vI m_ahead :: vI m_datum :: vI m_datumValue :: vI m_readings :: .ref m_stations :: .ref m_hours :: .ref m_values :: .ref m_areTied :: .ref m_ties :: .ref m_steps :: .ref m_gravities :: .ref m_met :: vI m_bobs :: vI m_weight :: vI m_spring :: vI m_air :: vI m_push :: .ref m_places :: .ref m_speeds :: .ref m_wasPlace :: .ref m_wasSpeed :: [])), (m_offs, .inl (cJ, 10, .inr (.inl (aL m_offs_c)))), (m_sorted, .inl (cJ, 10, .inr (.inl (aL m_sorted_c)))), (m_ties, .inl (cI, 100, .inl (aI m_ties_c))), (m_areTied, .inl (cZ, 100, .inl (aI m_areTied_c))), (m_steps, .inl (cI, 10, .inl (aI m_steps_c))), (m_gravities, .inl (cJ, 10, .inr (.inl (aL m_gravities_c))))]) (va_Qi (fun (r : Int32) (u : (Int → Int) × (Int → Int) × (Int → Int)) => match u with | (g, q1, q2) => r = zI (if 0 ≤ p0 ∧ p0 ≤ 5 then (if p0 = 0 then m_clocks else if p0 = 1 then smZ (fun j => nearZ (m_offs_c j) (midZ m_offs_c m_clocks)) (Int.toNat m_clocks) else if p0 = 2 then m_readings else if p0 = 3 then smZ (fun j => pI (m_areTied_c j = 1)) 100 / 2 else if p0 = 4 then smZ (fun k => pI (lyZ m_areTied_c m_datum 9 k ≠ -1)) 10 else m_bobs) else 0) ∧ (∀ j : Int, 0 ≤ j → j < 10 → -Bd ≤ g j ∧ g j ≤ Bd)) (zB D (va_A [(mA, .inr (6, vI m_thrown :: vI m_heat :: vI m_pressure :: vL m_allDays :: vI m_clocks :: .ref m_rods :: .ref m_arcs :: .ref m_haveCheeks :: .ref m_adjustments :: .ref m_offs :: .ref m_sorted :: vI m_asking :: .ref m_askedBy :: .ref m_metAt :: .ref m_turnsAt :: vI m_period :: vI m_turns :: vI m_ahead :: vI m_datum :: vI m_datumValue :: vI m_readings :: .ref m_stations :: .ref m_hours :: .ref m_values :: .ref m_areTied :: .ref m_ties :: .ref m_steps :: .ref m_gravities :: .ref m_met :: vI m_bobs :: vI m_weight :: vI m_spring :: vI m_air :: vI m_push :: .ref m_places :: .ref m_speeds :: .ref m_wasPlace :: .ref m_wasSpeed :: [])), (m_offs, .inl (cJ, 10, .inr (.inl (aL m_offs_c)))), (m_sorted, .inl (cJ, 10, .inr (.inl (aL m_sorted_c)))), (m_ties, .inl (cI, 100, .inl (aI m_ties_c))), (m_areTied, .inl (cZ, 100, .inl (aI m_areTied_c))), (m_steps, .inl (cI, 10, .inl (aI m_steps_c))), (m_gravities, .inl (cJ, 10, .inr (.inl (aL m_gravities_c))))] sz) (fun (u : (Int → Int) × (Int → Int) × (Int → Int)) => match u with | (g, q1, q2) => [(mA, .inr (6, vI (if 0 ≤ p0 ∧ p0 ≤ 5 then 0 else 1) :: vI m_heat :: vI m_pressure :: vL m_allDays :: vI m_clocks :: .ref m_rods :: .ref m_arcs :: .ref m_haveCheeks :: .ref m_adjustments :: .ref m_offs :: .ref m_sorted :: vI m_asking :: .ref m_askedBy :: .ref m_metAt :: .ref m_turnsAt :: vI m_period :: vI m_turns :: vI m_ahead :: vI m_datum :: vI m_datumValue :: vI m_readings :: .ref m_stations :: .ref m_hours :: .ref m_values :: .ref m_areTied :: .ref m_ties :: .ref m_steps :: .ref m_gravities :: .ref m_met :: vI m_bobs :: vI m_weight :: vI m_spring :: vI m_air :: vI m_push :: .ref m_places :: .ref m_speeds :: .ref m_wasPlace :: .ref m_wasSpeed :: [])), (m_offs, .inl (cJ, 10, .inr (.inl (aL m_offs_c)))), (m_sorted, .inl (cJ, 10, .inr (.inl (aL g)))), (m_ties, .inl (cI, 100, .inl (aI m_ties_c))), (m_areTied, .inl (cZ, 100, .inl (aI m_areTied_c))), (m_steps, .inl (cI, 10, .inl (aI q1))), (m_gravities, .inl (cJ, 10, .inr (.inl (aL q2))))])) (va_A [(mA, .inr (6, vI m_thrown :: vI m_heat :: vI m_pressure :: vL m_allDays :: vI m_clocks :: .ref m_rods :: .ref m_arcs :: .ref m_haveCheeks :: .ref m_adjustments :: .ref m_offs :: .ref m_sorted :: vI m_asking :: .ref m_askedBy :: .ref m_metAt :: .ref m_turnsAt :: vI m_period :: vI m_turns :: vI m_ahead :: vI m_datum :: vI m_datumValue :: vI m_readings :: .ref m_stations :: .ref m_hours :: .ref m_values :: .ref m_areTied :: .ref m_ties :: .ref m_steps :: .ref m_gravities :: .ref m_met :: vI m_bobs :: vI m_weight :: vI m_spring :: vI m_air :: vI m_push :: .ref m_places :: .ref m_speeds :: .ref m_wasPlace :: .ref m_wasSpeed :: [])), (m_offs, .inl (cJ, 10, .inr (.inl (aL m_offs_c)))), (m_sorted, .inl (cJ, 10, .inr (.inl (aL m_sorted_c)))), (m_ties, .inl (cI, 100, .inl (aI m_ties_c))), (m_areTied, .inl (cZ, 100, .inl (aI m_areTied_c))), (m_steps, .inl (cI, 10, .inl (aI m_steps_c))), (m_gravities, .inl (cJ, 10, .inr (.inl (aL m_gravities_c))))] sz)) 0 0 (va_A [(mA, .inr (6, vI m_thrown :: vI m_heat :: vI m_pressure :: vL m_allDays :: vI m_clocks :: .ref m_rods :: .ref m_arcs :: .ref m_haveCheeks :: .ref m_adjustments :: .ref m_offs :: .ref m_sorted :: vI m_asking :: .ref m_askedBy :: .ref m_metAt :: .ref m_turnsAt :: vI m_period :: vI m_turns :: vI m_ahead :: vI m_datum :: vI m_datumValue :: vI m_readings :: .ref m_stations :: .ref m_hours :: .ref m_values :: .ref m_areTied :: .ref m_ties :: .ref m_steps :: .ref m_gravities :: .ref m_met :: vI m_bobs :: vI m_weight :: vI m_spring :: vI m_air :: vI m_push :: .ref m_places :: .ref m_speeds :: .ref m_wasPlace :: .ref m_wasSpeed :: [])), (m_offs, .inl (cJ, 10, .inr (.inl (aL m_offs_c)))), (m_sorted, .inl (cJ, 10, .inr (.inl (aL m_sorted_c)))), (m_ties, .inl (cI, 100, .inl (aI m_ties_c))), (m_areTied, .inl (cZ, 100, .inl (aI m_areTied_c))), (m_steps, .inl (cI, 10, .inl (aI m_steps_c))), (m_gravities, .inl (cJ, 10, .inr (.inl (aL m_gravities_c))))] sz) := by
  refine Met.ofW (cc := cX8_count) (maxL := 2) (ret := (some .int)) (by decide) rfl ?_
  intro p e s m args below meth c s₁ B hml hv
  obtain ⟨rfl, hsz, hP, hK, hD0, hN⟩ := hv
  have hx := B.exec
  have hb := B.bytes
  have hr := B.returns
  have hts := atoms_spec (ws := wsX8_count) B.pre
  have hown : s.vm.findClass RX8 = some m.cls := findClass_of_methodNamed B.named
  have hlocks := B.notSynchronized
  subst hsz
  have hD := hD0.self (sz := s.heap.size)
  generalize hAe : va_A [(mA, .inr (6, vI m_thrown :: vI m_heat :: vI m_pressure :: vL m_allDays :: vI m_clocks :: .ref m_rods :: .ref m_arcs :: .ref m_haveCheeks :: .ref m_adjustments :: .ref m_offs :: .ref m_sorted :: vI m_asking :: .ref m_askedBy :: .ref m_metAt :: .ref m_turnsAt :: vI m_period :: vI m_turns :: vI m_ahead :: vI m_datum :: vI m_datumValue :: vI m_readings :: .ref m_stations :: .ref m_hours :: .ref m_values :: .ref m_areTied :: .ref m_ties :: .ref m_steps :: .ref m_gravities :: .ref m_met :: vI m_bobs :: vI m_weight :: vI m_spring :: vI m_air :: vI m_push :: .ref m_places :: .ref m_speeds :: .ref m_wasPlace :: .ref m_wasSpeed :: [])), (m_offs, .inl (cJ, 10, .inr (.inl (aL m_offs_c)))), (m_sorted, .inl (cJ, 10, .inr (.inl (aL m_sorted_c)))), (m_ties, .inl (cI, 100, .inl (aI m_ties_c))), (m_areTied, .inl (cZ, 100, .inl (aI m_areTied_c))), (m_steps, .inl (cI, 10, .inl (aI m_steps_c))), (m_gravities, .inl (cJ, 10, .inr (.inl (aL m_gravities_c))))] s.heap.size = A at hD ⊢
  have hA : ∀ q : Nat, s.heap.size ≤ q → A q := fun q h => by rw [← hAe]; exact Or.inr h
  have hS : va_S A s.heap s.heap [] := va_S.rf
  have hP : va_P D vwCl [(mA, .inr (6, vI m_thrown :: vI m_heat :: vI m_pressure :: vL m_allDays :: vI m_clocks :: .ref m_rods :: .ref m_arcs :: .ref m_haveCheeks :: .ref m_adjustments :: .ref m_offs :: .ref m_sorted :: vI m_asking :: .ref m_askedBy :: .ref m_metAt :: .ref m_turnsAt :: vI m_period :: vI m_turns :: vI m_ahead :: vI m_datum :: vI m_datumValue :: vI m_readings :: .ref m_stations :: .ref m_hours :: .ref m_values :: .ref m_areTied :: .ref m_ties :: .ref m_steps :: .ref m_gravities :: .ref m_met :: vI m_bobs :: vI m_weight :: vI m_spring :: vI m_air :: vI m_push :: .ref m_places :: .ref m_speeds :: .ref m_wasPlace :: .ref m_wasSpeed :: [])), (m_offs, .inl (cJ, 10, .inr (.inl (aL m_offs_c)))), (m_sorted, .inl (cJ, 10, .inr (.inl (aL m_sorted_c)))), (m_ties, .inl (cI, 100, .inl (aI m_ties_c))), (m_areTied, .inl (cZ, 100, .inl (aI m_areTied_c))), (m_steps, .inl (cI, 10, .inl (aI m_steps_c))), (m_gravities, .inl (cJ, 10, .inr (.inl (aL m_gravities_c))))] s.heap := hP
  have fl_187 := hts (.fieldLink RX8 187 "PendulumHallModel" "readings" "I") (by decide +kernel)
  have fl_70 := hts (.fieldLink RX8 70 "PendulumHallModel" "bobs" "I") (by decide +kernel)
  have fl_85 := hts (.fieldLink RX8 85 "PendulumHallModel" "thrown" "I") (by decide +kernel)
  have fl_88 := hts (.fieldLink RX8 88 "PendulumHallModel" "clocks" "I") (by decide +kernel)
  have in_X8 : ∀ w ∈ wsX80, w ∈ wsX8_count := by decide +kernel
  have hl := lv_entry ([.ref mA, vI p0]) (n := 2) (Nat.le_of_ble_eq_true rfl)
  rw [lg_entry_eq]
  generalize (lg_sl ([.ref mA, vI p0]) ++ List.replicate (2 - (lg_sl ([.ref mA, vI p0])).length) Slot.unset).toArray = ls at hl ⊢
  have hl : lv_has ls 2 [(0, .ref mA), (1, vI p0)] := hl
  refine lv_aload_n (pc := 0) hx hb dX8_count_0 rfl (lv_at hl 0 rfl) ?_
  refine lv_iload_n (pc := 1) hx hb dX8_count_1 rfl (lv_at hl 1 rfl) ?_
  refine z_iconst (pc := 2) hx hb dX8_count_2 ?_
  refine z_iconst (pc := 3) hx hb dX8_count_3 ?_
  refine z_callR (pc := 4) (va_runS (As := [vI p0, vI 0, vI 5]) (rest := [.ref mA]) ⟨hx, hb, hml, hown, hts⟩ (m_X8_isIn l D cI cJ cZ cD 0  p0 0 5 (by omega) (by omega) (by omega)) (va_cwS 3 hts gX8_count_X8_isIn rfl rfl rfl (by decide +kernel) ⟨Nat.le_of_ble_eq_true rfl, Nat.le_of_ble_eq_true rfl⟩) ⟨fun a U g mk q => q, fun U hU hW => ⟨rfl, trivial⟩⟩ rfl rfl hl.1 rfl (lv_room (Nat.le_of_ble_eq_true rfl)) dX8_count_4 ⟨Nat.zero_le _, Nat.zero_le _⟩) ?_
  refine z_ifp_eq (pc := 7) (tgt := 14) hx hb dX8_count_7 (by decide) (fun c_1 => ?_) (fun c_1 => ?_)
  · have hc_7t := c_1
    refine z_iconst (pc := 14) hx hb dX8_count_14 ?_
    refine va_put (pc := 15) (D := D) (ci := 6) (v := vI 1) (ty := .int) (C := RX8) (T := TX8) (N := 38) hx hb hts in_X8 tyX8 tyX8_ok nmX8 hown hK hP hD hS 0 rfl rfl 0 (by decide) fl_85 (fun _ h9 => h9) rfl (by decide +kernel) rfl rfl (Nat.le_of_ble_eq_true rfl) dX8_count_15 (fun H locs hP hD hS => ?_)
    have hP : va_P D vwCl [(mA, .inr (6, vI 1 :: vI m_heat :: vI m_pressure :: vL m_allDays :: vI m_clocks :: .ref m_rods :: .ref m_arcs :: .ref m_haveCheeks :: .ref m_adjustments :: .ref m_offs :: .ref m_sorted :: vI m_asking :: .ref m_askedBy :: .ref m_metAt :: .ref m_turnsAt :: vI m_period :: vI m_turns :: vI m_ahead :: vI m_datum :: vI m_datumValue :: vI m_readings :: .ref m_stations :: .ref m_hours :: .ref m_values :: .ref m_areTied :: .ref m_ties :: .ref m_steps :: .ref m_gravities :: .ref m_met :: vI m_bobs :: vI m_weight :: vI m_spring :: vI m_air :: vI m_push :: .ref m_places :: .ref m_speeds :: .ref m_wasPlace :: .ref m_wasSpeed :: [])), (m_offs, .inl (cJ, 10, .inr (.inl (aL m_offs_c)))), (m_sorted, .inl (cJ, 10, .inr (.inl (aL m_sorted_c)))), (m_ties, .inl (cI, 100, .inl (aI m_ties_c))), (m_areTied, .inl (cZ, 100, .inl (aI m_areTied_c))), (m_steps, .inl (cI, 10, .inl (aI m_steps_c))), (m_gravities, .inl (cJ, 10, .inr (.inl (aL m_gravities_c))))] H := hP
    have hD : va_D A [(mA, .inr (6, vI 1 :: vI m_heat :: vI m_pressure :: vL m_allDays :: vI m_clocks :: .ref m_rods :: .ref m_arcs :: .ref m_haveCheeks :: .ref m_adjustments :: .ref m_offs :: .ref m_sorted :: vI m_asking :: .ref m_askedBy :: .ref m_metAt :: .ref m_turnsAt :: vI m_period :: vI m_turns :: vI m_ahead :: vI m_datum :: vI m_datumValue :: vI m_readings :: .ref m_stations :: .ref m_hours :: .ref m_values :: .ref m_areTied :: .ref m_ties :: .ref m_steps :: .ref m_gravities :: .ref m_met :: vI m_bobs :: vI m_weight :: vI m_spring :: vI m_air :: vI m_push :: .ref m_places :: .ref m_speeds :: .ref m_wasPlace :: .ref m_wasSpeed :: [])), (m_offs, .inl (cJ, 10, .inr (.inl (aL m_offs_c)))), (m_sorted, .inl (cJ, 10, .inr (.inl (aL m_sorted_c)))), (m_ties, .inl (cI, 100, .inl (aI m_ties_c))), (m_areTied, .inl (cZ, 100, .inl (aI m_areTied_c))), (m_steps, .inl (cI, 10, .inl (aI m_steps_c))), (m_gravities, .inl (cJ, 10, .inr (.inl (aL m_gravities_c))))] := hD
    refine lv_aload_n (pc := 18) hx hb dX8_count_18 rfl (lv_at hl 0 rfl) ?_
    refine va_get (pc := 19) (D := D) (ci := 6) (v := vI 1) (C := RX8) (T := TX8) (N := 38) hx hb hts in_X8 hown hK hP 0 rfl rfl 0 (by decide) fl_85 (fun _ h9 => h9) rfl dX8_count_19 ?_
    refine z_if_le (pc := 22) (tgt := 27) hx hb dX8_count_22 (by decide) (by decide) (fun c_2 => ?_) (fun c_2 => ?_)
    · exact absurd c_2 (by decide)
    · have hc_22f := c_2
      refine z_iconst (pc := 25) hx hb dX8_count_25 ?_
      have he_0 : (1 : Int) = (if 0 ≤ p0 ∧ p0 ≤ 5 then 0 else 1) := by first | rfl | omega | (rw [if_pos (by omega)]; omega) | (rw [if_pos (by omega)]; done) | (rw [if_neg (by omega)]; done) | (rw [if_neg (by omega), if_pos (by omega)]; done) | (rw [if_neg (by omega), if_neg (by omega)]; done) | (rw [if_neg (by omega), if_neg (by omega), if_pos (by omega)]; done) | (rw [if_neg (by omega), if_neg (by omega), if_neg (by omega)]; done)
      have hP : va_P D vwCl [(mA, .inr (6, vI (if 0 ≤ p0 ∧ p0 ≤ 5 then 0 else 1) :: vI m_heat :: vI m_pressure :: vL m_allDays :: vI m_clocks :: .ref m_rods :: .ref m_arcs :: .ref m_haveCheeks :: .ref m_adjustments :: .ref m_offs :: .ref m_sorted :: vI m_asking :: .ref m_askedBy :: .ref m_metAt :: .ref m_turnsAt :: vI m_period :: vI m_turns :: vI m_ahead :: vI m_datum :: vI m_datumValue :: vI m_readings :: .ref m_stations :: .ref m_hours :: .ref m_values :: .ref m_areTied :: .ref m_ties :: .ref m_steps :: .ref m_gravities :: .ref m_met :: vI m_bobs :: vI m_weight :: vI m_spring :: vI m_air :: vI m_push :: .ref m_places :: .ref m_speeds :: .ref m_wasPlace :: .ref m_wasSpeed :: [])), (m_offs, .inl (cJ, 10, .inr (.inl (aL m_offs_c)))), (m_sorted, .inl (cJ, 10, .inr (.inl (aL m_sorted_c)))), (m_ties, .inl (cI, 100, .inl (aI m_ties_c))), (m_areTied, .inl (cZ, 100, .inl (aI m_areTied_c))), (m_steps, .inl (cI, 10, .inl (aI m_steps_c))), (m_gravities, .inl (cJ, 10, .inr (.inl (aL m_gravities_c))))] H := by rw [← he_0]; exact hP
      have hD : va_D A [(mA, .inr (6, vI (if 0 ≤ p0 ∧ p0 ≤ 5 then 0 else 1) :: vI m_heat :: vI m_pressure :: vL m_allDays :: vI m_clocks :: .ref m_rods :: .ref m_arcs :: .ref m_haveCheeks :: .ref m_adjustments :: .ref m_offs :: .ref m_sorted :: vI m_asking :: .ref m_askedBy :: .ref m_metAt :: .ref m_turnsAt :: vI m_period :: vI m_turns :: vI m_ahead :: vI m_datum :: vI m_datumValue :: vI m_readings :: .ref m_stations :: .ref m_hours :: .ref m_values :: .ref m_areTied :: .ref m_ties :: .ref m_steps :: .ref m_gravities :: .ref m_met :: vI m_bobs :: vI m_weight :: vI m_spring :: vI m_air :: vI m_push :: .ref m_places :: .ref m_speeds :: .ref m_wasPlace :: .ref m_wasSpeed :: [])), (m_offs, .inl (cJ, 10, .inr (.inl (aL m_offs_c)))), (m_sorted, .inl (cJ, 10, .inr (.inl (aL m_sorted_c)))), (m_ties, .inl (cI, 100, .inl (aI m_ties_c))), (m_areTied, .inl (cZ, 100, .inl (aI m_areTied_c))), (m_steps, .inl (cI, 10, .inl (aI m_steps_c))), (m_gravities, .inl (cJ, 10, .inr (.inl (aL m_gravities_c))))] := by rw [← he_0]; exact hD
      have hP9 := hP.sub (ws' := [(mA, .inr (6, vI (if 0 ≤ p0 ∧ p0 ≤ 5 then 0 else 1) :: vI m_heat :: vI m_pressure :: vL m_allDays :: vI m_clocks :: .ref m_rods :: .ref m_arcs :: .ref m_haveCheeks :: .ref m_adjustments :: .ref m_offs :: .ref m_sorted :: vI m_asking :: .ref m_askedBy :: .ref m_metAt :: .ref m_turnsAt :: vI m_period :: vI m_turns :: vI m_ahead :: vI m_datum :: vI m_datumValue :: vI m_readings :: .ref m_stations :: .ref m_hours :: .ref m_values :: .ref m_areTied :: .ref m_ties :: .ref m_steps :: .ref m_gravities :: .ref m_met :: vI m_bobs :: vI m_weight :: vI m_spring :: vI m_air :: vI m_push :: .ref m_places :: .ref m_speeds :: .ref m_wasPlace :: .ref m_wasSpeed :: [])), (m_offs, .inl (cJ, 10, .inr (.inl (aL m_offs_c)))), (m_sorted, .inl (cJ, 10, .inr (.inl (aL m_sorted_c)))), (m_ties, .inl (cI, 100, .inl (aI m_ties_c))), (m_areTied, .inl (cZ, 100, .inl (aI m_areTied_c))), (m_steps, .inl (cI, 10, .inl (aI m_steps_c))), (m_gravities, .inl (cJ, 10, .inr (.inl (aL m_gravities_c))))]) [0, 1, 2, 3, 4, 5, 6] rfl
      have hD9 := hD.sub (ws' := [(mA, .inr (6, vI (if 0 ≤ p0 ∧ p0 ≤ 5 then 0 else 1) :: vI m_heat :: vI m_pressure :: vL m_allDays :: vI m_clocks :: .ref m_rods :: .ref m_arcs :: .ref m_haveCheeks :: .ref m_adjustments :: .ref m_offs :: .ref m_sorted :: vI m_asking :: .ref m_askedBy :: .ref m_metAt :: .ref m_turnsAt :: vI m_period :: vI m_turns :: vI m_ahead :: vI m_datum :: vI m_datumValue :: vI m_readings :: .ref m_stations :: .ref m_hours :: .ref m_values :: .ref m_areTied :: .ref m_ties :: .ref m_steps :: .ref m_gravities :: .ref m_met :: vI m_bobs :: vI m_weight :: vI m_spring :: vI m_air :: vI m_push :: .ref m_places :: .ref m_speeds :: .ref m_wasPlace :: .ref m_wasSpeed :: [])), (m_offs, .inl (cJ, 10, .inr (.inl (aL m_offs_c)))), (m_sorted, .inl (cJ, 10, .inr (.inl (aL m_sorted_c)))), (m_ties, .inl (cI, 100, .inl (aI m_ties_c))), (m_areTied, .inl (cZ, 100, .inl (aI m_areTied_c))), (m_steps, .inl (cI, 10, .inl (aI m_steps_c))), (m_gravities, .inl (cJ, 10, .inr (.inl (aL m_gravities_c))))]) [0, 1, 2, 3, 4, 5, 6] (by decide) rfl
      have hrel : ∀ j : Int, 0 ≤ j → j < 10 → -Bd ≤ m_sorted_c j ∧ m_sorted_c j ≤ Bd := by first | exact hml | exact hso
      have hv : (0 : Int) = (if 0 ≤ p0 ∧ p0 ≤ 5 then (if p0 = 0 then m_clocks else if p0 = 1 then smZ (fun j => nearZ (m_offs_c j) (midZ m_offs_c m_clocks)) (Int.toNat m_clocks) else if p0 = 2 then m_readings else if p0 = 3 then smZ (fun j => pI (m_areTied_c j = 1)) 100 / 2 else if p0 = 4 then smZ (fun k => pI (lyZ m_areTied_c m_datum 9 k ≠ -1)) 10 else m_bobs) else 0) := by first | rfl | (rw [if_neg (by omega)]; done) | (rw [if_pos (by omega), if_pos (by omega)]; done) | (rw [if_pos (by omega), if_neg (by omega), if_pos (by omega)]; done) | (rw [if_pos (by omega), if_neg (by omega), if_neg (by omega), if_pos (by omega)]; done) | (rw [if_pos (by omega), if_neg (by omega), if_neg (by omega), if_neg (by omega), if_pos (by omega)]; done) | (rw [if_pos (by omega), if_neg (by omega), if_neg (by omega), if_neg (by omega), if_neg (by omega), if_pos (by omega)]; done) | (rw [if_pos (by omega), if_neg (by omega), if_neg (by omega), if_neg (by omega), if_neg (by omega), if_neg (by omega)]; done)
      exact W.iret (pc := 26) (v := zI 0) hx hb hr (fun t ht hW => ⟨⟨zI 0, (m_sorted_c, m_steps_c, m_gravities_c), rfl, ⟨congrArg zI hv, hrel⟩, by rw [ht]; exact hP9, hD9⟩, hS.F ht⟩) hS.2.2 dX8_count_26
  · have hc_7f := c_1
    refine z_iconst (pc := 10) hx hb dX8_count_10 ?_
    refine lv_goto (pc := 11) (tgt := 15) hx hb dX8_count_11 (by decide) ?_
    refine va_put (pc := 15) (D := D) (ci := 6) (v := vI 0) (ty := .int) (C := RX8) (T := TX8) (N := 38) hx hb hts in_X8 tyX8 tyX8_ok nmX8 hown hK hP hD hS 0 rfl rfl 0 (by decide) fl_85 (fun _ h9 => h9) rfl (by decide +kernel) rfl rfl (Nat.le_of_ble_eq_true rfl) dX8_count_15 (fun H locs hP hD hS => ?_)
    have hP : va_P D vwCl [(mA, .inr (6, vI 0 :: vI m_heat :: vI m_pressure :: vL m_allDays :: vI m_clocks :: .ref m_rods :: .ref m_arcs :: .ref m_haveCheeks :: .ref m_adjustments :: .ref m_offs :: .ref m_sorted :: vI m_asking :: .ref m_askedBy :: .ref m_metAt :: .ref m_turnsAt :: vI m_period :: vI m_turns :: vI m_ahead :: vI m_datum :: vI m_datumValue :: vI m_readings :: .ref m_stations :: .ref m_hours :: .ref m_values :: .ref m_areTied :: .ref m_ties :: .ref m_steps :: .ref m_gravities :: .ref m_met :: vI m_bobs :: vI m_weight :: vI m_spring :: vI m_air :: vI m_push :: .ref m_places :: .ref m_speeds :: .ref m_wasPlace :: .ref m_wasSpeed :: [])), (m_offs, .inl (cJ, 10, .inr (.inl (aL m_offs_c)))), (m_sorted, .inl (cJ, 10, .inr (.inl (aL m_sorted_c)))), (m_ties, .inl (cI, 100, .inl (aI m_ties_c))), (m_areTied, .inl (cZ, 100, .inl (aI m_areTied_c))), (m_steps, .inl (cI, 10, .inl (aI m_steps_c))), (m_gravities, .inl (cJ, 10, .inr (.inl (aL m_gravities_c))))] H := hP
    have hD : va_D A [(mA, .inr (6, vI 0 :: vI m_heat :: vI m_pressure :: vL m_allDays :: vI m_clocks :: .ref m_rods :: .ref m_arcs :: .ref m_haveCheeks :: .ref m_adjustments :: .ref m_offs :: .ref m_sorted :: vI m_asking :: .ref m_askedBy :: .ref m_metAt :: .ref m_turnsAt :: vI m_period :: vI m_turns :: vI m_ahead :: vI m_datum :: vI m_datumValue :: vI m_readings :: .ref m_stations :: .ref m_hours :: .ref m_values :: .ref m_areTied :: .ref m_ties :: .ref m_steps :: .ref m_gravities :: .ref m_met :: vI m_bobs :: vI m_weight :: vI m_spring :: vI m_air :: vI m_push :: .ref m_places :: .ref m_speeds :: .ref m_wasPlace :: .ref m_wasSpeed :: [])), (m_offs, .inl (cJ, 10, .inr (.inl (aL m_offs_c)))), (m_sorted, .inl (cJ, 10, .inr (.inl (aL m_sorted_c)))), (m_ties, .inl (cI, 100, .inl (aI m_ties_c))), (m_areTied, .inl (cZ, 100, .inl (aI m_areTied_c))), (m_steps, .inl (cI, 10, .inl (aI m_steps_c))), (m_gravities, .inl (cJ, 10, .inr (.inl (aL m_gravities_c))))] := hD
    refine lv_aload_n (pc := 18) hx hb dX8_count_18 rfl (lv_at hl 0 rfl) ?_
    refine va_get (pc := 19) (D := D) (ci := 6) (v := vI 0) (C := RX8) (T := TX8) (N := 38) hx hb hts in_X8 hown hK hP 0 rfl rfl 0 (by decide) fl_85 (fun _ h9 => h9) rfl dX8_count_19 ?_
    refine z_if_le (pc := 22) (tgt := 27) hx hb dX8_count_22 (by decide) (by decide) (fun c_3 => ?_) (fun c_3 => ?_)
    · have hc_22t := c_3
      refine lv_iload_n (pc := 27) hx hb dX8_count_27 rfl (lv_at hl 1 rfl) ?_
      rcases Decidable.em (p0 = 0) with hc_28e0 | hc_28n0
      · refine lv_tableIn (pc := 28) (off := 36) (tgt := 64) hx hb dX8_count_28 (by rw [zI_toInt (by omega)]; omega) (by rw [zI_toInt (by omega)]; omega) (by rw [zI_toInt (by omega), hc_28e0]; rfl) (by decide) ?_
        refine lv_aload_n (pc := 64) hx hb dX8_count_64 rfl (lv_at hl 0 rfl) ?_
        refine va_get (pc := 65) (D := D) (ci := 6) (v := vI m_clocks) (C := RX8) (T := TX8) (N := 38) hx hb hts in_X8 hown hK hP 0 rfl rfl 4 (by decide) fl_88 (fun _ h9 => h9) rfl dX8_count_65 ?_
        have he_0 : (0 : Int) = (if 0 ≤ p0 ∧ p0 ≤ 5 then 0 else 1) := by first | rfl | omega | (rw [if_pos (by omega)]; omega) | (rw [if_pos (by omega)]; done) | (rw [if_neg (by omega)]; done) | (rw [if_neg (by omega), if_pos (by omega)]; done) | (rw [if_neg (by omega), if_neg (by omega)]; done) | (rw [if_neg (by omega), if_neg (by omega), if_pos (by omega)]; done) | (rw [if_neg (by omega), if_neg (by omega), if_neg (by omega)]; done)
        have hP : va_P D vwCl [(mA, .inr (6, vI (if 0 ≤ p0 ∧ p0 ≤ 5 then 0 else 1) :: vI m_heat :: vI m_pressure :: vL m_allDays :: vI m_clocks :: .ref m_rods :: .ref m_arcs :: .ref m_haveCheeks :: .ref m_adjustments :: .ref m_offs :: .ref m_sorted :: vI m_asking :: .ref m_askedBy :: .ref m_metAt :: .ref m_turnsAt :: vI m_period :: vI m_turns :: vI m_ahead :: vI m_datum :: vI m_datumValue :: vI m_readings :: .ref m_stations :: .ref m_hours :: .ref m_values :: .ref m_areTied :: .ref m_ties :: .ref m_steps :: .ref m_gravities :: .ref m_met :: vI m_bobs :: vI m_weight :: vI m_spring :: vI m_air :: vI m_push :: .ref m_places :: .ref m_speeds :: .ref m_wasPlace :: .ref m_wasSpeed :: [])), (m_offs, .inl (cJ, 10, .inr (.inl (aL m_offs_c)))), (m_sorted, .inl (cJ, 10, .inr (.inl (aL m_sorted_c)))), (m_ties, .inl (cI, 100, .inl (aI m_ties_c))), (m_areTied, .inl (cZ, 100, .inl (aI m_areTied_c))), (m_steps, .inl (cI, 10, .inl (aI m_steps_c))), (m_gravities, .inl (cJ, 10, .inr (.inl (aL m_gravities_c))))] H := by rw [← he_0]; exact hP
        have hD : va_D A [(mA, .inr (6, vI (if 0 ≤ p0 ∧ p0 ≤ 5 then 0 else 1) :: vI m_heat :: vI m_pressure :: vL m_allDays :: vI m_clocks :: .ref m_rods :: .ref m_arcs :: .ref m_haveCheeks :: .ref m_adjustments :: .ref m_offs :: .ref m_sorted :: vI m_asking :: .ref m_askedBy :: .ref m_metAt :: .ref m_turnsAt :: vI m_period :: vI m_turns :: vI m_ahead :: vI m_datum :: vI m_datumValue :: vI m_readings :: .ref m_stations :: .ref m_hours :: .ref m_values :: .ref m_areTied :: .ref m_ties :: .ref m_steps :: .ref m_gravities :: .ref m_met :: vI m_bobs :: vI m_weight :: vI m_spring :: vI m_air :: vI m_push :: .ref m_places :: .ref m_speeds :: .ref m_wasPlace :: .ref m_wasSpeed :: [])), (m_offs, .inl (cJ, 10, .inr (.inl (aL m_offs_c)))), (m_sorted, .inl (cJ, 10, .inr (.inl (aL m_sorted_c)))), (m_ties, .inl (cI, 100, .inl (aI m_ties_c))), (m_areTied, .inl (cZ, 100, .inl (aI m_areTied_c))), (m_steps, .inl (cI, 10, .inl (aI m_steps_c))), (m_gravities, .inl (cJ, 10, .inr (.inl (aL m_gravities_c))))] := by rw [← he_0]; exact hD
        have hP9 := hP.sub (ws' := [(mA, .inr (6, vI (if 0 ≤ p0 ∧ p0 ≤ 5 then 0 else 1) :: vI m_heat :: vI m_pressure :: vL m_allDays :: vI m_clocks :: .ref m_rods :: .ref m_arcs :: .ref m_haveCheeks :: .ref m_adjustments :: .ref m_offs :: .ref m_sorted :: vI m_asking :: .ref m_askedBy :: .ref m_metAt :: .ref m_turnsAt :: vI m_period :: vI m_turns :: vI m_ahead :: vI m_datum :: vI m_datumValue :: vI m_readings :: .ref m_stations :: .ref m_hours :: .ref m_values :: .ref m_areTied :: .ref m_ties :: .ref m_steps :: .ref m_gravities :: .ref m_met :: vI m_bobs :: vI m_weight :: vI m_spring :: vI m_air :: vI m_push :: .ref m_places :: .ref m_speeds :: .ref m_wasPlace :: .ref m_wasSpeed :: [])), (m_offs, .inl (cJ, 10, .inr (.inl (aL m_offs_c)))), (m_sorted, .inl (cJ, 10, .inr (.inl (aL m_sorted_c)))), (m_ties, .inl (cI, 100, .inl (aI m_ties_c))), (m_areTied, .inl (cZ, 100, .inl (aI m_areTied_c))), (m_steps, .inl (cI, 10, .inl (aI m_steps_c))), (m_gravities, .inl (cJ, 10, .inr (.inl (aL m_gravities_c))))]) [0, 1, 2, 3, 4, 5, 6] rfl
        have hD9 := hD.sub (ws' := [(mA, .inr (6, vI (if 0 ≤ p0 ∧ p0 ≤ 5 then 0 else 1) :: vI m_heat :: vI m_pressure :: vL m_allDays :: vI m_clocks :: .ref m_rods :: .ref m_arcs :: .ref m_haveCheeks :: .ref m_adjustments :: .ref m_offs :: .ref m_sorted :: vI m_asking :: .ref m_askedBy :: .ref m_metAt :: .ref m_turnsAt :: vI m_period :: vI m_turns :: vI m_ahead :: vI m_datum :: vI m_datumValue :: vI m_readings :: .ref m_stations :: .ref m_hours :: .ref m_values :: .ref m_areTied :: .ref m_ties :: .ref m_steps :: .ref m_gravities :: .ref m_met :: vI m_bobs :: vI m_weight :: vI m_spring :: vI m_air :: vI m_push :: .ref m_places :: .ref m_speeds :: .ref m_wasPlace :: .ref m_wasSpeed :: [])), (m_offs, .inl (cJ, 10, .inr (.inl (aL m_offs_c)))), (m_sorted, .inl (cJ, 10, .inr (.inl (aL m_sorted_c)))), (m_ties, .inl (cI, 100, .inl (aI m_ties_c))), (m_areTied, .inl (cZ, 100, .inl (aI m_areTied_c))), (m_steps, .inl (cI, 10, .inl (aI m_steps_c))), (m_gravities, .inl (cJ, 10, .inr (.inl (aL m_gravities_c))))]) [0, 1, 2, 3, 4, 5, 6] (by decide) rfl
        have hrel : ∀ j : Int, 0 ≤ j → j < 10 → -Bd ≤ m_sorted_c j ∧ m_sorted_c j ≤ Bd := by first | exact hml | exact hso
        have hv : (m_clocks : Int) = (if 0 ≤ p0 ∧ p0 ≤ 5 then (if p0 = 0 then m_clocks else if p0 = 1 then smZ (fun j => nearZ (m_offs_c j) (midZ m_offs_c m_clocks)) (Int.toNat m_clocks) else if p0 = 2 then m_readings else if p0 = 3 then smZ (fun j => pI (m_areTied_c j = 1)) 100 / 2 else if p0 = 4 then smZ (fun k => pI (lyZ m_areTied_c m_datum 9 k ≠ -1)) 10 else m_bobs) else 0) := by first | rfl | (rw [if_neg (by omega)]; done) | (rw [if_pos (by omega), if_pos (by omega)]; done) | (rw [if_pos (by omega), if_neg (by omega), if_pos (by omega)]; done) | (rw [if_pos (by omega), if_neg (by omega), if_neg (by omega), if_pos (by omega)]; done) | (rw [if_pos (by omega), if_neg (by omega), if_neg (by omega), if_neg (by omega), if_pos (by omega)]; done) | (rw [if_pos (by omega), if_neg (by omega), if_neg (by omega), if_neg (by omega), if_neg (by omega), if_pos (by omega)]; done) | (rw [if_pos (by omega), if_neg (by omega), if_neg (by omega), if_neg (by omega), if_neg (by omega), if_neg (by omega)]; done)
        exact W.iret (pc := 68) (v := zI m_clocks) hx hb hr (fun t ht hW => ⟨⟨zI m_clocks, (m_sorted_c, m_steps_c, m_gravities_c), rfl, ⟨congrArg zI hv, hrel⟩, by rw [ht]; exact hP9, hD9⟩, hS.F ht⟩) hS.2.2 dX8_count_68
      rcases Decidable.em (p0 = 1) with hc_28e1 | hc_28n1
      · refine lv_tableIn (pc := 28) (off := 41) (tgt := 69) hx hb dX8_count_28 (by rw [zI_toInt (by omega)]; omega) (by rw [zI_toInt (by omega)]; omega) (by rw [zI_toInt (by omega), hc_28e1]; rfl) (by decide) ?_
        refine lv_aload_n (pc := 69) hx hb dX8_count_69 rfl (lv_at hl 0 rfl) ?_
        have hPc := hP.sub (ws' := [(mA, .inr (6, vI 0 :: vI m_heat :: vI m_pressure :: vL m_allDays :: vI m_clocks :: .ref m_rods :: .ref m_arcs :: .ref m_haveCheeks :: .ref m_adjustments :: .ref m_offs :: .ref m_sorted :: vI m_asking :: .ref m_askedBy :: .ref m_metAt :: .ref m_turnsAt :: vI m_period :: vI m_turns :: vI m_ahead :: vI m_datum :: vI m_datumValue :: vI m_readings :: .ref m_stations :: .ref m_hours :: .ref m_values :: .ref m_areTied :: .ref m_ties :: .ref m_steps :: .ref m_gravities :: .ref m_met :: vI m_bobs :: vI m_weight :: vI m_spring :: vI m_air :: vI m_push :: .ref m_places :: .ref m_speeds :: .ref m_wasPlace :: .ref m_wasSpeed :: [])), (m_offs, .inl (cJ, 10, .inr (.inl (aL m_offs_c)))), (m_sorted, .inl (cJ, 10, .inr (.inl (aL m_sorted_c))))]) [0, 1, 2] rfl
        have hDc := hD.sub (ws' := [(mA, .inr (6, vI 0 :: vI m_heat :: vI m_pressure :: vL m_allDays :: vI m_clocks :: .ref m_rods :: .ref m_arcs :: .ref m_haveCheeks :: .ref m_adjustments :: .ref m_offs :: .ref m_sorted :: vI m_asking :: .ref m_askedBy :: .ref m_metAt :: .ref m_turnsAt :: vI m_period :: vI m_turns :: vI m_ahead :: vI m_datum :: vI m_datumValue :: vI m_readings :: .ref m_stations :: .ref m_hours :: .ref m_values :: .ref m_areTied :: .ref m_ties :: .ref m_steps :: .ref m_gravities :: .ref m_met :: vI m_bobs :: vI m_weight :: vI m_spring :: vI m_air :: vI m_push :: .ref m_places :: .ref m_speeds :: .ref m_wasPlace :: .ref m_wasSpeed :: [])), (m_offs, .inl (cJ, 10, .inr (.inl (aL m_offs_c)))), (m_sorted, .inl (cJ, 10, .inr (.inl (aL m_sorted_c))))]) [0, 1, 2] (by decide) rfl
        refine z_callWi (pc := 70) (wc := [(mA, .inr (6, vI 0 :: vI m_heat :: vI m_pressure :: vL m_allDays :: vI m_clocks :: .ref m_rods :: .ref m_arcs :: .ref m_haveCheeks :: .ref m_adjustments :: .ref m_offs :: .ref m_sorted :: vI m_asking :: .ref m_askedBy :: .ref m_metAt :: .ref m_turnsAt :: vI m_period :: vI m_turns :: vI m_ahead :: vI m_datum :: vI m_datumValue :: vI m_readings :: .ref m_stations :: .ref m_hours :: .ref m_values :: .ref m_areTied :: .ref m_ties :: .ref m_steps :: .ref m_gravities :: .ref m_met :: vI m_bobs :: vI m_weight :: vI m_spring :: vI m_air :: vI m_push :: .ref m_places :: .ref m_speeds :: .ref m_wasPlace :: .ref m_wasSpeed :: [])), (m_offs, .inl (cJ, 10, .inr (.inl (aL m_offs_c)))), (m_sorted, .inl (cJ, 10, .inr (.inl (aL m_sorted_c))))]) hP hD hS hA [0, 1, 2] [3, 4, 5, 6] [(m_ties, .inl (cI, 100, .inl (aI m_ties_c))), (m_areTied, .inl (cZ, 100, .inl (aI m_areTied_c))), (m_steps, .inl (cI, 10, .inl (aI m_steps_c))), (m_gravities, .inl (cJ, 10, .inr (.inl (aL m_gravities_c))))] rfl rfl (by decide) (by decide) (va_runV (As := []) (rest := []) ⟨hx, hb, hml, hown, hts⟩ (m_X8_trusted l D cI cJ cZ cD H.size mA 0 m_heat m_pressure m_allDays m_clocks m_rods m_arcs m_haveCheeks m_adjustments m_offs m_sorted m_asking m_askedBy m_metAt m_turnsAt m_period m_turns m_ahead m_datum m_datumValue m_readings m_stations m_hours m_values m_areTied m_ties m_steps m_gravities m_met m_bobs m_weight m_spring m_air m_push m_places m_speeds m_wasPlace m_wasSpeed m_offs_c m_sorted_c Bd  (by omega) (by omega) ho hso) (cwV 0 hts gX8_count_X8_trusted rfl rfl rfl (by decide +kernel) ⟨Nat.le_of_ble_eq_true rfl, Nat.le_of_ble_eq_true rfl⟩) ⟨z_blind, va_recv hK hPc (ci := 6) (q0 := 0) rfl rfl, z_pre hPc hK hDc rfl rfl hN⟩ rfl rfl hl.1 rfl (lv_room (Nat.le_of_ble_eq_true rfl)) dX8_count_70 ⟨Nat.zero_le _, Nat.zero_le _⟩) (fun r u H locs hw hP hD hS => ?_)
        obtain ⟨u_4, rfl⟩ : ∃ z, z = u := ⟨_, rfl⟩
        obtain ⟨rfl, hw_5⟩ := hw
        have hw_5 : ∀ j : Int, 0 ≤ j → j < 10 → -Bd ≤ u_4 j ∧ u_4 j ≤ Bd := hw_5
        have hP : va_P D vwCl [(m_ties, .inl (cI, 100, .inl (aI m_ties_c))), (m_areTied, .inl (cZ, 100, .inl (aI m_areTied_c))), (m_steps, .inl (cI, 10, .inl (aI m_steps_c))), (m_gravities, .inl (cJ, 10, .inr (.inl (aL m_gravities_c)))), (mA, .inr (6, vI 0 :: vI m_heat :: vI m_pressure :: vL m_allDays :: vI m_clocks :: .ref m_rods :: .ref m_arcs :: .ref m_haveCheeks :: .ref m_adjustments :: .ref m_offs :: .ref m_sorted :: vI m_asking :: .ref m_askedBy :: .ref m_metAt :: .ref m_turnsAt :: vI m_period :: vI m_turns :: vI m_ahead :: vI m_datum :: vI m_datumValue :: vI m_readings :: .ref m_stations :: .ref m_hours :: .ref m_values :: .ref m_areTied :: .ref m_ties :: .ref m_steps :: .ref m_gravities :: .ref m_met :: vI m_bobs :: vI m_weight :: vI m_spring :: vI m_air :: vI m_push :: .ref m_places :: .ref m_speeds :: .ref m_wasPlace :: .ref m_wasSpeed :: [])), (m_offs, .inl (cJ, 10, .inr (.inl (aL m_offs_c)))), (m_sorted, .inl (cJ, 10, .inr (.inl (aL u_4))))] H := hP
        have hD : va_D A [(m_ties, .inl (cI, 100, .inl (aI m_ties_c))), (m_areTied, .inl (cZ, 100, .inl (aI m_areTied_c))), (m_steps, .inl (cI, 10, .inl (aI m_steps_c))), (m_gravities, .inl (cJ, 10, .inr (.inl (aL m_gravities_c)))), (mA, .inr (6, vI 0 :: vI m_heat :: vI m_pressure :: vL m_allDays :: vI m_clocks :: .ref m_rods :: .ref m_arcs :: .ref m_haveCheeks :: .ref m_adjustments :: .ref m_offs :: .ref m_sorted :: vI m_asking :: .ref m_askedBy :: .ref m_metAt :: .ref m_turnsAt :: vI m_period :: vI m_turns :: vI m_ahead :: vI m_datum :: vI m_datumValue :: vI m_readings :: .ref m_stations :: .ref m_hours :: .ref m_values :: .ref m_areTied :: .ref m_ties :: .ref m_steps :: .ref m_gravities :: .ref m_met :: vI m_bobs :: vI m_weight :: vI m_spring :: vI m_air :: vI m_push :: .ref m_places :: .ref m_speeds :: .ref m_wasPlace :: .ref m_wasSpeed :: [])), (m_offs, .inl (cJ, 10, .inr (.inl (aL m_offs_c)))), (m_sorted, .inl (cJ, 10, .inr (.inl (aL u_4))))] := hD
        have he_0 : (0 : Int) = (if 0 ≤ p0 ∧ p0 ≤ 5 then 0 else 1) := by first | rfl | omega | (rw [if_pos (by omega)]; omega) | (rw [if_pos (by omega)]; done) | (rw [if_neg (by omega)]; done) | (rw [if_neg (by omega), if_pos (by omega)]; done) | (rw [if_neg (by omega), if_neg (by omega)]; done) | (rw [if_neg (by omega), if_neg (by omega), if_pos (by omega)]; done) | (rw [if_neg (by omega), if_neg (by omega), if_neg (by omega)]; done)
        have hP : va_P D vwCl [(m_ties, .inl (cI, 100, .inl (aI m_ties_c))), (m_areTied, .inl (cZ, 100, .inl (aI m_areTied_c))), (m_steps, .inl (cI, 10, .inl (aI m_steps_c))), (m_gravities, .inl (cJ, 10, .inr (.inl (aL m_gravities_c)))), (mA, .inr (6, vI (if 0 ≤ p0 ∧ p0 ≤ 5 then 0 else 1) :: vI m_heat :: vI m_pressure :: vL m_allDays :: vI m_clocks :: .ref m_rods :: .ref m_arcs :: .ref m_haveCheeks :: .ref m_adjustments :: .ref m_offs :: .ref m_sorted :: vI m_asking :: .ref m_askedBy :: .ref m_metAt :: .ref m_turnsAt :: vI m_period :: vI m_turns :: vI m_ahead :: vI m_datum :: vI m_datumValue :: vI m_readings :: .ref m_stations :: .ref m_hours :: .ref m_values :: .ref m_areTied :: .ref m_ties :: .ref m_steps :: .ref m_gravities :: .ref m_met :: vI m_bobs :: vI m_weight :: vI m_spring :: vI m_air :: vI m_push :: .ref m_places :: .ref m_speeds :: .ref m_wasPlace :: .ref m_wasSpeed :: [])), (m_offs, .inl (cJ, 10, .inr (.inl (aL m_offs_c)))), (m_sorted, .inl (cJ, 10, .inr (.inl (aL u_4))))] H := by rw [← he_0]; exact hP
        have hD : va_D A [(m_ties, .inl (cI, 100, .inl (aI m_ties_c))), (m_areTied, .inl (cZ, 100, .inl (aI m_areTied_c))), (m_steps, .inl (cI, 10, .inl (aI m_steps_c))), (m_gravities, .inl (cJ, 10, .inr (.inl (aL m_gravities_c)))), (mA, .inr (6, vI (if 0 ≤ p0 ∧ p0 ≤ 5 then 0 else 1) :: vI m_heat :: vI m_pressure :: vL m_allDays :: vI m_clocks :: .ref m_rods :: .ref m_arcs :: .ref m_haveCheeks :: .ref m_adjustments :: .ref m_offs :: .ref m_sorted :: vI m_asking :: .ref m_askedBy :: .ref m_metAt :: .ref m_turnsAt :: vI m_period :: vI m_turns :: vI m_ahead :: vI m_datum :: vI m_datumValue :: vI m_readings :: .ref m_stations :: .ref m_hours :: .ref m_values :: .ref m_areTied :: .ref m_ties :: .ref m_steps :: .ref m_gravities :: .ref m_met :: vI m_bobs :: vI m_weight :: vI m_spring :: vI m_air :: vI m_push :: .ref m_places :: .ref m_speeds :: .ref m_wasPlace :: .ref m_wasSpeed :: [])), (m_offs, .inl (cJ, 10, .inr (.inl (aL m_offs_c)))), (m_sorted, .inl (cJ, 10, .inr (.inl (aL u_4))))] := by rw [← he_0]; exact hD
        have hP9 := hP.sub (ws' := [(mA, .inr (6, vI (if 0 ≤ p0 ∧ p0 ≤ 5 then 0 else 1) :: vI m_heat :: vI m_pressure :: vL m_allDays :: vI m_clocks :: .ref m_rods :: .ref m_arcs :: .ref m_haveCheeks :: .ref m_adjustments :: .ref m_offs :: .ref m_sorted :: vI m_asking :: .ref m_askedBy :: .ref m_metAt :: .ref m_turnsAt :: vI m_period :: vI m_turns :: vI m_ahead :: vI m_datum :: vI m_datumValue :: vI m_readings :: .ref m_stations :: .ref m_hours :: .ref m_values :: .ref m_areTied :: .ref m_ties :: .ref m_steps :: .ref m_gravities :: .ref m_met :: vI m_bobs :: vI m_weight :: vI m_spring :: vI m_air :: vI m_push :: .ref m_places :: .ref m_speeds :: .ref m_wasPlace :: .ref m_wasSpeed :: [])), (m_offs, .inl (cJ, 10, .inr (.inl (aL m_offs_c)))), (m_sorted, .inl (cJ, 10, .inr (.inl (aL u_4)))), (m_ties, .inl (cI, 100, .inl (aI m_ties_c))), (m_areTied, .inl (cZ, 100, .inl (aI m_areTied_c))), (m_steps, .inl (cI, 10, .inl (aI m_steps_c))), (m_gravities, .inl (cJ, 10, .inr (.inl (aL m_gravities_c))))]) [4, 5, 6, 0, 1, 2, 3] rfl
        have hD9 := hD.sub (ws' := [(mA, .inr (6, vI (if 0 ≤ p0 ∧ p0 ≤ 5 then 0 else 1) :: vI m_heat :: vI m_pressure :: vL m_allDays :: vI m_clocks :: .ref m_rods :: .ref m_arcs :: .ref m_haveCheeks :: .ref m_adjustments :: .ref m_offs :: .ref m_sorted :: vI m_asking :: .ref m_askedBy :: .ref m_metAt :: .ref m_turnsAt :: vI m_period :: vI m_turns :: vI m_ahead :: vI m_datum :: vI m_datumValue :: vI m_readings :: .ref m_stations :: .ref m_hours :: .ref m_values :: .ref m_areTied :: .ref m_ties :: .ref m_steps :: .ref m_gravities :: .ref m_met :: vI m_bobs :: vI m_weight :: vI m_spring :: vI m_air :: vI m_push :: .ref m_places :: .ref m_speeds :: .ref m_wasPlace :: .ref m_wasSpeed :: [])), (m_offs, .inl (cJ, 10, .inr (.inl (aL m_offs_c)))), (m_sorted, .inl (cJ, 10, .inr (.inl (aL u_4)))), (m_ties, .inl (cI, 100, .inl (aI m_ties_c))), (m_areTied, .inl (cZ, 100, .inl (aI m_areTied_c))), (m_steps, .inl (cI, 10, .inl (aI m_steps_c))), (m_gravities, .inl (cJ, 10, .inr (.inl (aL m_gravities_c))))]) [4, 5, 6, 0, 1, 2, 3] (by decide) rfl
        have hrel : ∀ j : Int, 0 ≤ j → j < 10 → -Bd ≤ u_4 j ∧ u_4 j ≤ Bd := by first | exact hw_5 | exact hso
        have hv : (smZ (fun j => nearZ (m_offs_c j) (midZ m_offs_c m_clocks)) (Int.toNat m_clocks) : Int) = (if 0 ≤ p0 ∧ p0 ≤ 5 then (if p0 = 0 then m_clocks else if p0 = 1 then smZ (fun j => nearZ (m_offs_c j) (midZ m_offs_c m_clocks)) (Int.toNat m_clocks) else if p0 = 2 then m_readings else if p0 = 3 then smZ (fun j => pI (m_areTied_c j = 1)) 100 / 2 else if p0 = 4 then smZ (fun k => pI (lyZ m_areTied_c m_datum 9 k ≠ -1)) 10 else m_bobs) else 0) := by first | rfl | (rw [if_neg (by omega)]; done) | (rw [if_pos (by omega), if_pos (by omega)]; done) | (rw [if_pos (by omega), if_neg (by omega), if_pos (by omega)]; done) | (rw [if_pos (by omega), if_neg (by omega), if_neg (by omega), if_pos (by omega)]; done) | (rw [if_pos (by omega), if_neg (by omega), if_neg (by omega), if_neg (by omega), if_pos (by omega)]; done) | (rw [if_pos (by omega), if_neg (by omega), if_neg (by omega), if_neg (by omega), if_neg (by omega), if_pos (by omega)]; done) | (rw [if_pos (by omega), if_neg (by omega), if_neg (by omega), if_neg (by omega), if_neg (by omega), if_neg (by omega)]; done)
        exact W.iret (pc := 73) (v := zI (smZ (fun j => nearZ (m_offs_c j) (midZ m_offs_c m_clocks)) (Int.toNat m_clocks))) hx hb hr (fun t ht hW => ⟨⟨zI (smZ (fun j => nearZ (m_offs_c j) (midZ m_offs_c m_clocks)) (Int.toNat m_clocks)), (u_4, m_steps_c, m_gravities_c), rfl, ⟨congrArg zI hv, hrel⟩, by rw [ht]; exact hP9, hD9⟩, hS.F ht⟩) hS.2.2 dX8_count_73
      rcases Decidable.em (p0 = 2) with hc_28e2 | hc_28n2
      · refine lv_tableIn (pc := 28) (off := 46) (tgt := 74) hx hb dX8_count_28 (by rw [zI_toInt (by omega)]; omega) (by rw [zI_toInt (by omega)]; omega) (by rw [zI_toInt (by omega), hc_28e2]; rfl) (by decide) ?_
        refine lv_aload_n (pc := 74) hx hb dX8_count_74 rfl (lv_at hl 0 rfl) ?_
        refine va_get (pc := 75) (D := D) (ci := 6) (v := vI m_readings) (C := RX8) (T := TX8) (N := 38) hx hb hts in_X8 hown hK hP 0 rfl rfl 20 (by decide) fl_187 (fun _ h9 => h9) rfl dX8_count_75 ?_
        have he_0 : (0 : Int) = (if 0 ≤ p0 ∧ p0 ≤ 5 then 0 else 1) := by first | rfl | omega | (rw [if_pos (by omega)]; omega) | (rw [if_pos (by omega)]; done) | (rw [if_neg (by omega)]; done) | (rw [if_neg (by omega), if_pos (by omega)]; done) | (rw [if_neg (by omega), if_neg (by omega)]; done) | (rw [if_neg (by omega), if_neg (by omega), if_pos (by omega)]; done) | (rw [if_neg (by omega), if_neg (by omega), if_neg (by omega)]; done)
        have hP : va_P D vwCl [(mA, .inr (6, vI (if 0 ≤ p0 ∧ p0 ≤ 5 then 0 else 1) :: vI m_heat :: vI m_pressure :: vL m_allDays :: vI m_clocks :: .ref m_rods :: .ref m_arcs :: .ref m_haveCheeks :: .ref m_adjustments :: .ref m_offs :: .ref m_sorted :: vI m_asking :: .ref m_askedBy :: .ref m_metAt :: .ref m_turnsAt :: vI m_period :: vI m_turns :: vI m_ahead :: vI m_datum :: vI m_datumValue :: vI m_readings :: .ref m_stations :: .ref m_hours :: .ref m_values :: .ref m_areTied :: .ref m_ties :: .ref m_steps :: .ref m_gravities :: .ref m_met :: vI m_bobs :: vI m_weight :: vI m_spring :: vI m_air :: vI m_push :: .ref m_places :: .ref m_speeds :: .ref m_wasPlace :: .ref m_wasSpeed :: [])), (m_offs, .inl (cJ, 10, .inr (.inl (aL m_offs_c)))), (m_sorted, .inl (cJ, 10, .inr (.inl (aL m_sorted_c)))), (m_ties, .inl (cI, 100, .inl (aI m_ties_c))), (m_areTied, .inl (cZ, 100, .inl (aI m_areTied_c))), (m_steps, .inl (cI, 10, .inl (aI m_steps_c))), (m_gravities, .inl (cJ, 10, .inr (.inl (aL m_gravities_c))))] H := by rw [← he_0]; exact hP
        have hD : va_D A [(mA, .inr (6, vI (if 0 ≤ p0 ∧ p0 ≤ 5 then 0 else 1) :: vI m_heat :: vI m_pressure :: vL m_allDays :: vI m_clocks :: .ref m_rods :: .ref m_arcs :: .ref m_haveCheeks :: .ref m_adjustments :: .ref m_offs :: .ref m_sorted :: vI m_asking :: .ref m_askedBy :: .ref m_metAt :: .ref m_turnsAt :: vI m_period :: vI m_turns :: vI m_ahead :: vI m_datum :: vI m_datumValue :: vI m_readings :: .ref m_stations :: .ref m_hours :: .ref m_values :: .ref m_areTied :: .ref m_ties :: .ref m_steps :: .ref m_gravities :: .ref m_met :: vI m_bobs :: vI m_weight :: vI m_spring :: vI m_air :: vI m_push :: .ref m_places :: .ref m_speeds :: .ref m_wasPlace :: .ref m_wasSpeed :: [])), (m_offs, .inl (cJ, 10, .inr (.inl (aL m_offs_c)))), (m_sorted, .inl (cJ, 10, .inr (.inl (aL m_sorted_c)))), (m_ties, .inl (cI, 100, .inl (aI m_ties_c))), (m_areTied, .inl (cZ, 100, .inl (aI m_areTied_c))), (m_steps, .inl (cI, 10, .inl (aI m_steps_c))), (m_gravities, .inl (cJ, 10, .inr (.inl (aL m_gravities_c))))] := by rw [← he_0]; exact hD
        have hP9 := hP.sub (ws' := [(mA, .inr (6, vI (if 0 ≤ p0 ∧ p0 ≤ 5 then 0 else 1) :: vI m_heat :: vI m_pressure :: vL m_allDays :: vI m_clocks :: .ref m_rods :: .ref m_arcs :: .ref m_haveCheeks :: .ref m_adjustments :: .ref m_offs :: .ref m_sorted :: vI m_asking :: .ref m_askedBy :: .ref m_metAt :: .ref m_turnsAt :: vI m_period :: vI m_turns :: vI m_ahead :: vI m_datum :: vI m_datumValue :: vI m_readings :: .ref m_stations :: .ref m_hours :: .ref m_values :: .ref m_areTied :: .ref m_ties :: .ref m_steps :: .ref m_gravities :: .ref m_met :: vI m_bobs :: vI m_weight :: vI m_spring :: vI m_air :: vI m_push :: .ref m_places :: .ref m_speeds :: .ref m_wasPlace :: .ref m_wasSpeed :: [])), (m_offs, .inl (cJ, 10, .inr (.inl (aL m_offs_c)))), (m_sorted, .inl (cJ, 10, .inr (.inl (aL m_sorted_c)))), (m_ties, .inl (cI, 100, .inl (aI m_ties_c))), (m_areTied, .inl (cZ, 100, .inl (aI m_areTied_c))), (m_steps, .inl (cI, 10, .inl (aI m_steps_c))), (m_gravities, .inl (cJ, 10, .inr (.inl (aL m_gravities_c))))]) [0, 1, 2, 3, 4, 5, 6] rfl
        have hD9 := hD.sub (ws' := [(mA, .inr (6, vI (if 0 ≤ p0 ∧ p0 ≤ 5 then 0 else 1) :: vI m_heat :: vI m_pressure :: vL m_allDays :: vI m_clocks :: .ref m_rods :: .ref m_arcs :: .ref m_haveCheeks :: .ref m_adjustments :: .ref m_offs :: .ref m_sorted :: vI m_asking :: .ref m_askedBy :: .ref m_metAt :: .ref m_turnsAt :: vI m_period :: vI m_turns :: vI m_ahead :: vI m_datum :: vI m_datumValue :: vI m_readings :: .ref m_stations :: .ref m_hours :: .ref m_values :: .ref m_areTied :: .ref m_ties :: .ref m_steps :: .ref m_gravities :: .ref m_met :: vI m_bobs :: vI m_weight :: vI m_spring :: vI m_air :: vI m_push :: .ref m_places :: .ref m_speeds :: .ref m_wasPlace :: .ref m_wasSpeed :: [])), (m_offs, .inl (cJ, 10, .inr (.inl (aL m_offs_c)))), (m_sorted, .inl (cJ, 10, .inr (.inl (aL m_sorted_c)))), (m_ties, .inl (cI, 100, .inl (aI m_ties_c))), (m_areTied, .inl (cZ, 100, .inl (aI m_areTied_c))), (m_steps, .inl (cI, 10, .inl (aI m_steps_c))), (m_gravities, .inl (cJ, 10, .inr (.inl (aL m_gravities_c))))]) [0, 1, 2, 3, 4, 5, 6] (by decide) rfl
        have hrel : ∀ j : Int, 0 ≤ j → j < 10 → -Bd ≤ m_sorted_c j ∧ m_sorted_c j ≤ Bd := by first | exact hml | exact hso
        have hv : (m_readings : Int) = (if 0 ≤ p0 ∧ p0 ≤ 5 then (if p0 = 0 then m_clocks else if p0 = 1 then smZ (fun j => nearZ (m_offs_c j) (midZ m_offs_c m_clocks)) (Int.toNat m_clocks) else if p0 = 2 then m_readings else if p0 = 3 then smZ (fun j => pI (m_areTied_c j = 1)) 100 / 2 else if p0 = 4 then smZ (fun k => pI (lyZ m_areTied_c m_datum 9 k ≠ -1)) 10 else m_bobs) else 0) := by first | rfl | (rw [if_neg (by omega)]; done) | (rw [if_pos (by omega), if_pos (by omega)]; done) | (rw [if_pos (by omega), if_neg (by omega), if_pos (by omega)]; done) | (rw [if_pos (by omega), if_neg (by omega), if_neg (by omega), if_pos (by omega)]; done) | (rw [if_pos (by omega), if_neg (by omega), if_neg (by omega), if_neg (by omega), if_pos (by omega)]; done) | (rw [if_pos (by omega), if_neg (by omega), if_neg (by omega), if_neg (by omega), if_neg (by omega), if_pos (by omega)]; done) | (rw [if_pos (by omega), if_neg (by omega), if_neg (by omega), if_neg (by omega), if_neg (by omega), if_neg (by omega)]; done)
        exact W.iret (pc := 78) (v := zI m_readings) hx hb hr (fun t ht hW => ⟨⟨zI m_readings, (m_sorted_c, m_steps_c, m_gravities_c), rfl, ⟨congrArg zI hv, hrel⟩, by rw [ht]; exact hP9, hD9⟩, hS.F ht⟩) hS.2.2 dX8_count_78
      rcases Decidable.em (p0 = 3) with hc_28e3 | hc_28n3
      · refine lv_tableIn (pc := 28) (off := 51) (tgt := 79) hx hb dX8_count_28 (by rw [zI_toInt (by omega)]; omega) (by rw [zI_toInt (by omega)]; omega) (by rw [zI_toInt (by omega), hc_28e3]; rfl) (by decide) ?_
        refine lv_aload_n (pc := 79) hx hb dX8_count_79 rfl (lv_at hl 0 rfl) ?_
        have hPc := hP.sub (ws' := [(mA, .inr (6, vI 0 :: vI m_heat :: vI m_pressure :: vL m_allDays :: vI m_clocks :: .ref m_rods :: .ref m_arcs :: .ref m_haveCheeks :: .ref m_adjustments :: .ref m_offs :: .ref m_sorted :: vI m_asking :: .ref m_askedBy :: .ref m_metAt :: .ref m_turnsAt :: vI m_period :: vI m_turns :: vI m_ahead :: vI m_datum :: vI m_datumValue :: vI m_readings :: .ref m_stations :: .ref m_hours :: .ref m_values :: .ref m_areTied :: .ref m_ties :: .ref m_steps :: .ref m_gravities :: .ref m_met :: vI m_bobs :: vI m_weight :: vI m_spring :: vI m_air :: vI m_push :: .ref m_places :: .ref m_speeds :: .ref m_wasPlace :: .ref m_wasSpeed :: [])), (m_areTied, .inl (cZ, 100, .inl (aI m_areTied_c)))]) [0, 4] rfl
        have hDc := hD.sub (ws' := [(mA, .inr (6, vI 0 :: vI m_heat :: vI m_pressure :: vL m_allDays :: vI m_clocks :: .ref m_rods :: .ref m_arcs :: .ref m_haveCheeks :: .ref m_adjustments :: .ref m_offs :: .ref m_sorted :: vI m_asking :: .ref m_askedBy :: .ref m_metAt :: .ref m_turnsAt :: vI m_period :: vI m_turns :: vI m_ahead :: vI m_datum :: vI m_datumValue :: vI m_readings :: .ref m_stations :: .ref m_hours :: .ref m_values :: .ref m_areTied :: .ref m_ties :: .ref m_steps :: .ref m_gravities :: .ref m_met :: vI m_bobs :: vI m_weight :: vI m_spring :: vI m_air :: vI m_push :: .ref m_places :: .ref m_speeds :: .ref m_wasPlace :: .ref m_wasSpeed :: [])), (m_areTied, .inl (cZ, 100, .inl (aI m_areTied_c)))]) [0, 4] (by decide) rfl
        refine z_callR (pc := 80) (va_runV (As := []) (rest := []) ⟨hx, hb, hml, hown, hts⟩ (m_X8_tied l D cI cJ cZ cD H.size mA 0 m_heat m_pressure m_allDays m_clocks m_rods m_arcs m_haveCheeks m_adjustments m_offs m_sorted m_asking m_askedBy m_metAt m_turnsAt m_period m_turns m_ahead m_datum m_datumValue m_readings m_stations m_hours m_values m_areTied m_ties m_steps m_gravities m_met m_bobs m_weight m_spring m_air m_push m_places m_speeds m_wasPlace m_wasSpeed m_areTied_c  (fun j a b => (hty j a b).1)) (cwV 0 hts gX8_count_X8_tied rfl rfl rfl (by decide +kernel) ⟨Nat.le_of_ble_eq_true rfl, Nat.le_of_ble_eq_true rfl⟩) ⟨z_blind, va_recv hK hPc (ci := 6) (q0 := 0) rfl rfl, z_pre hPc hK hDc rfl rfl hN⟩ rfl rfl hl.1 rfl (lv_room (Nat.le_of_ble_eq_true rfl)) dX8_count_80 ⟨Nat.zero_le _, Nat.zero_le _⟩) ?_
        have he_0 : (0 : Int) = (if 0 ≤ p0 ∧ p0 ≤ 5 then 0 else 1) := by first | rfl | omega | (rw [if_pos (by omega)]; omega) | (rw [if_pos (by omega)]; done) | (rw [if_neg (by omega)]; done) | (rw [if_neg (by omega), if_pos (by omega)]; done) | (rw [if_neg (by omega), if_neg (by omega)]; done) | (rw [if_neg (by omega), if_neg (by omega), if_pos (by omega)]; done) | (rw [if_neg (by omega), if_neg (by omega), if_neg (by omega)]; done)
        have hP : va_P D vwCl [(mA, .inr (6, vI (if 0 ≤ p0 ∧ p0 ≤ 5 then 0 else 1) :: vI m_heat :: vI m_pressure :: vL m_allDays :: vI m_clocks :: .ref m_rods :: .ref m_arcs :: .ref m_haveCheeks :: .ref m_adjustments :: .ref m_offs :: .ref m_sorted :: vI m_asking :: .ref m_askedBy :: .ref m_metAt :: .ref m_turnsAt :: vI m_period :: vI m_turns :: vI m_ahead :: vI m_datum :: vI m_datumValue :: vI m_readings :: .ref m_stations :: .ref m_hours :: .ref m_values :: .ref m_areTied :: .ref m_ties :: .ref m_steps :: .ref m_gravities :: .ref m_met :: vI m_bobs :: vI m_weight :: vI m_spring :: vI m_air :: vI m_push :: .ref m_places :: .ref m_speeds :: .ref m_wasPlace :: .ref m_wasSpeed :: [])), (m_offs, .inl (cJ, 10, .inr (.inl (aL m_offs_c)))), (m_sorted, .inl (cJ, 10, .inr (.inl (aL m_sorted_c)))), (m_ties, .inl (cI, 100, .inl (aI m_ties_c))), (m_areTied, .inl (cZ, 100, .inl (aI m_areTied_c))), (m_steps, .inl (cI, 10, .inl (aI m_steps_c))), (m_gravities, .inl (cJ, 10, .inr (.inl (aL m_gravities_c))))] H := by rw [← he_0]; exact hP
        have hD : va_D A [(mA, .inr (6, vI (if 0 ≤ p0 ∧ p0 ≤ 5 then 0 else 1) :: vI m_heat :: vI m_pressure :: vL m_allDays :: vI m_clocks :: .ref m_rods :: .ref m_arcs :: .ref m_haveCheeks :: .ref m_adjustments :: .ref m_offs :: .ref m_sorted :: vI m_asking :: .ref m_askedBy :: .ref m_metAt :: .ref m_turnsAt :: vI m_period :: vI m_turns :: vI m_ahead :: vI m_datum :: vI m_datumValue :: vI m_readings :: .ref m_stations :: .ref m_hours :: .ref m_values :: .ref m_areTied :: .ref m_ties :: .ref m_steps :: .ref m_gravities :: .ref m_met :: vI m_bobs :: vI m_weight :: vI m_spring :: vI m_air :: vI m_push :: .ref m_places :: .ref m_speeds :: .ref m_wasPlace :: .ref m_wasSpeed :: [])), (m_offs, .inl (cJ, 10, .inr (.inl (aL m_offs_c)))), (m_sorted, .inl (cJ, 10, .inr (.inl (aL m_sorted_c)))), (m_ties, .inl (cI, 100, .inl (aI m_ties_c))), (m_areTied, .inl (cZ, 100, .inl (aI m_areTied_c))), (m_steps, .inl (cI, 10, .inl (aI m_steps_c))), (m_gravities, .inl (cJ, 10, .inr (.inl (aL m_gravities_c))))] := by rw [← he_0]; exact hD
        have hP9 := hP.sub (ws' := [(mA, .inr (6, vI (if 0 ≤ p0 ∧ p0 ≤ 5 then 0 else 1) :: vI m_heat :: vI m_pressure :: vL m_allDays :: vI m_clocks :: .ref m_rods :: .ref m_arcs :: .ref m_haveCheeks :: .ref m_adjustments :: .ref m_offs :: .ref m_sorted :: vI m_asking :: .ref m_askedBy :: .ref m_metAt :: .ref m_turnsAt :: vI m_period :: vI m_turns :: vI m_ahead :: vI m_datum :: vI m_datumValue :: vI m_readings :: .ref m_stations :: .ref m_hours :: .ref m_values :: .ref m_areTied :: .ref m_ties :: .ref m_steps :: .ref m_gravities :: .ref m_met :: vI m_bobs :: vI m_weight :: vI m_spring :: vI m_air :: vI m_push :: .ref m_places :: .ref m_speeds :: .ref m_wasPlace :: .ref m_wasSpeed :: [])), (m_offs, .inl (cJ, 10, .inr (.inl (aL m_offs_c)))), (m_sorted, .inl (cJ, 10, .inr (.inl (aL m_sorted_c)))), (m_ties, .inl (cI, 100, .inl (aI m_ties_c))), (m_areTied, .inl (cZ, 100, .inl (aI m_areTied_c))), (m_steps, .inl (cI, 10, .inl (aI m_steps_c))), (m_gravities, .inl (cJ, 10, .inr (.inl (aL m_gravities_c))))]) [0, 1, 2, 3, 4, 5, 6] rfl
        have hD9 := hD.sub (ws' := [(mA, .inr (6, vI (if 0 ≤ p0 ∧ p0 ≤ 5 then 0 else 1) :: vI m_heat :: vI m_pressure :: vL m_allDays :: vI m_clocks :: .ref m_rods :: .ref m_arcs :: .ref m_haveCheeks :: .ref m_adjustments :: .ref m_offs :: .ref m_sorted :: vI m_asking :: .ref m_askedBy :: .ref m_metAt :: .ref m_turnsAt :: vI m_period :: vI m_turns :: vI m_ahead :: vI m_datum :: vI m_datumValue :: vI m_readings :: .ref m_stations :: .ref m_hours :: .ref m_values :: .ref m_areTied :: .ref m_ties :: .ref m_steps :: .ref m_gravities :: .ref m_met :: vI m_bobs :: vI m_weight :: vI m_spring :: vI m_air :: vI m_push :: .ref m_places :: .ref m_speeds :: .ref m_wasPlace :: .ref m_wasSpeed :: [])), (m_offs, .inl (cJ, 10, .inr (.inl (aL m_offs_c)))), (m_sorted, .inl (cJ, 10, .inr (.inl (aL m_sorted_c)))), (m_ties, .inl (cI, 100, .inl (aI m_ties_c))), (m_areTied, .inl (cZ, 100, .inl (aI m_areTied_c))), (m_steps, .inl (cI, 10, .inl (aI m_steps_c))), (m_gravities, .inl (cJ, 10, .inr (.inl (aL m_gravities_c))))]) [0, 1, 2, 3, 4, 5, 6] (by decide) rfl
        have hrel : ∀ j : Int, 0 ≤ j → j < 10 → -Bd ≤ m_sorted_c j ∧ m_sorted_c j ≤ Bd := by first | exact hml | exact hso
        have hv : (smZ (fun j => pI (m_areTied_c j = 1)) 100 / 2 : Int) = (if 0 ≤ p0 ∧ p0 ≤ 5 then (if p0 = 0 then m_clocks else if p0 = 1 then smZ (fun j => nearZ (m_offs_c j) (midZ m_offs_c m_clocks)) (Int.toNat m_clocks) else if p0 = 2 then m_readings else if p0 = 3 then smZ (fun j => pI (m_areTied_c j = 1)) 100 / 2 else if p0 = 4 then smZ (fun k => pI (lyZ m_areTied_c m_datum 9 k ≠ -1)) 10 else m_bobs) else 0) := by first | rfl | (rw [if_neg (by omega)]; done) | (rw [if_pos (by omega), if_pos (by omega)]; done) | (rw [if_pos (by omega), if_neg (by omega), if_pos (by omega)]; done) | (rw [if_pos (by omega), if_neg (by omega), if_neg (by omega), if_pos (by omega)]; done) | (rw [if_pos (by omega), if_neg (by omega), if_neg (by omega), if_neg (by omega), if_pos (by omega)]; done) | (rw [if_pos (by omega), if_neg (by omega), if_neg (by omega), if_neg (by omega), if_neg (by omega), if_pos (by omega)]; done) | (rw [if_pos (by omega), if_neg (by omega), if_neg (by omega), if_neg (by omega), if_neg (by omega), if_neg (by omega)]; done)
        exact W.iret (pc := 83) (v := zI (smZ (fun j => pI (m_areTied_c j = 1)) 100 / 2)) hx hb hr (fun t ht hW => ⟨⟨zI (smZ (fun j => pI (m_areTied_c j = 1)) 100 / 2), (m_sorted_c, m_steps_c, m_gravities_c), rfl, ⟨congrArg zI hv, hrel⟩, by rw [ht]; exact hP9, hD9⟩, hS.F ht⟩) hS.2.2 dX8_count_83
      rcases Decidable.em (p0 = 4) with hc_28e4 | hc_28n4
      · refine lv_tableIn (pc := 28) (off := 56) (tgt := 84) hx hb dX8_count_28 (by rw [zI_toInt (by omega)]; omega) (by rw [zI_toInt (by omega)]; omega) (by rw [zI_toInt (by omega), hc_28e4]; rfl) (by decide) ?_
        refine lv_aload_n (pc := 84) hx hb dX8_count_84 rfl (lv_at hl 0 rfl) ?_
        have hPc := hP.sub (ws' := [(mA, .inr (6, vI 0 :: vI m_heat :: vI m_pressure :: vL m_allDays :: vI m_clocks :: .ref m_rods :: .ref m_arcs :: .ref m_haveCheeks :: .ref m_adjustments :: .ref m_offs :: .ref m_sorted :: vI m_asking :: .ref m_askedBy :: .ref m_metAt :: .ref m_turnsAt :: vI m_period :: vI m_turns :: vI m_ahead :: vI m_datum :: vI m_datumValue :: vI m_readings :: .ref m_stations :: .ref m_hours :: .ref m_values :: .ref m_areTied :: .ref m_ties :: .ref m_steps :: .ref m_gravities :: .ref m_met :: vI m_bobs :: vI m_weight :: vI m_spring :: vI m_air :: vI m_push :: .ref m_places :: .ref m_speeds :: .ref m_wasPlace :: .ref m_wasSpeed :: [])), (m_ties, .inl (cI, 100, .inl (aI m_ties_c))), (m_areTied, .inl (cZ, 100, .inl (aI m_areTied_c))), (m_steps, .inl (cI, 10, .inl (aI m_steps_c))), (m_gravities, .inl (cJ, 10, .inr (.inl (aL m_gravities_c))))]) [0, 3, 4, 5, 6] rfl
        have hDc := hD.sub (ws' := [(mA, .inr (6, vI 0 :: vI m_heat :: vI m_pressure :: vL m_allDays :: vI m_clocks :: .ref m_rods :: .ref m_arcs :: .ref m_haveCheeks :: .ref m_adjustments :: .ref m_offs :: .ref m_sorted :: vI m_asking :: .ref m_askedBy :: .ref m_metAt :: .ref m_turnsAt :: vI m_period :: vI m_turns :: vI m_ahead :: vI m_datum :: vI m_datumValue :: vI m_readings :: .ref m_stations :: .ref m_hours :: .ref m_values :: .ref m_areTied :: .ref m_ties :: .ref m_steps :: .ref m_gravities :: .ref m_met :: vI m_bobs :: vI m_weight :: vI m_spring :: vI m_air :: vI m_push :: .ref m_places :: .ref m_speeds :: .ref m_wasPlace :: .ref m_wasSpeed :: [])), (m_ties, .inl (cI, 100, .inl (aI m_ties_c))), (m_areTied, .inl (cZ, 100, .inl (aI m_areTied_c))), (m_steps, .inl (cI, 10, .inl (aI m_steps_c))), (m_gravities, .inl (cJ, 10, .inr (.inl (aL m_gravities_c))))]) [0, 3, 4, 5, 6] (by decide) rfl
        refine z_callWi (pc := 85) (wc := [(mA, .inr (6, vI 0 :: vI m_heat :: vI m_pressure :: vL m_allDays :: vI m_clocks :: .ref m_rods :: .ref m_arcs :: .ref m_haveCheeks :: .ref m_adjustments :: .ref m_offs :: .ref m_sorted :: vI m_asking :: .ref m_askedBy :: .ref m_metAt :: .ref m_turnsAt :: vI m_period :: vI m_turns :: vI m_ahead :: vI m_datum :: vI m_datumValue :: vI m_readings :: .ref m_stations :: .ref m_hours :: .ref m_values :: .ref m_areTied :: .ref m_ties :: .ref m_steps :: .ref m_gravities :: .ref m_met :: vI m_bobs :: vI m_weight :: vI m_spring :: vI m_air :: vI m_push :: .ref m_places :: .ref m_speeds :: .ref m_wasPlace :: .ref m_wasSpeed :: [])), (m_ties, .inl (cI, 100, .inl (aI m_ties_c))), (m_areTied, .inl (cZ, 100, .inl (aI m_areTied_c))), (m_steps, .inl (cI, 10, .inl (aI m_steps_c))), (m_gravities, .inl (cJ, 10, .inr (.inl (aL m_gravities_c))))]) hP hD hS hA [0, 3, 4, 5, 6] [1, 2] [(m_offs, .inl (cJ, 10, .inr (.inl (aL m_offs_c)))), (m_sorted, .inl (cJ, 10, .inr (.inl (aL m_sorted_c))))] rfl rfl (by decide) (by decide) (va_runV (As := []) (rest := []) ⟨hx, hb, hml, hown, hts⟩ (m_X8_led l D cI cJ cZ cD H.size mA 0 m_heat m_pressure m_allDays m_clocks m_rods m_arcs m_haveCheeks m_adjustments m_offs m_sorted m_asking m_askedBy m_metAt m_turnsAt m_period m_turns m_ahead m_datum m_datumValue m_readings m_stations m_hours m_values m_areTied m_ties m_steps m_gravities m_met m_bobs m_weight m_spring m_air m_push m_places m_speeds m_wasPlace m_wasSpeed m_ties_c m_areTied_c m_steps_c m_gravities_c  hty hds hdv) (cwV 0 hts gX8_count_X8_led rfl rfl rfl (by decide +kernel) ⟨Nat.le_of_ble_eq_true rfl, Nat.le_of_ble_eq_true rfl⟩) ⟨z_blind, va_recv hK hPc (ci := 6) (q0 := 0) rfl rfl, z_pre hPc hK hDc rfl rfl hN⟩ rfl rfl hl.1 rfl (lv_room (Nat.le_of_ble_eq_true rfl)) dX8_count_85 ⟨Nat.zero_le _, Nat.zero_le _⟩) (fun r u H locs hw hP hD hS => ?_)
        obtain ⟨u_6, u_7⟩ := u
        obtain ⟨rfl, hw_8⟩ := hw
        have hw_8 : ∀ k : Int, 0 ≤ k → k < 10 → u_6 k = lyZ m_areTied_c m_datum 9 k ∧ u_7 k = gyZ m_areTied_c m_ties_c m_datum m_datumValue 9 k := hw_8
        have hP : va_P D vwCl [(m_offs, .inl (cJ, 10, .inr (.inl (aL m_offs_c)))), (m_sorted, .inl (cJ, 10, .inr (.inl (aL m_sorted_c)))), (mA, .inr (6, vI 0 :: vI m_heat :: vI m_pressure :: vL m_allDays :: vI m_clocks :: .ref m_rods :: .ref m_arcs :: .ref m_haveCheeks :: .ref m_adjustments :: .ref m_offs :: .ref m_sorted :: vI m_asking :: .ref m_askedBy :: .ref m_metAt :: .ref m_turnsAt :: vI m_period :: vI m_turns :: vI m_ahead :: vI m_datum :: vI m_datumValue :: vI m_readings :: .ref m_stations :: .ref m_hours :: .ref m_values :: .ref m_areTied :: .ref m_ties :: .ref m_steps :: .ref m_gravities :: .ref m_met :: vI m_bobs :: vI m_weight :: vI m_spring :: vI m_air :: vI m_push :: .ref m_places :: .ref m_speeds :: .ref m_wasPlace :: .ref m_wasSpeed :: [])), (m_ties, .inl (cI, 100, .inl (aI m_ties_c))), (m_areTied, .inl (cZ, 100, .inl (aI m_areTied_c))), (m_steps, .inl (cI, 10, .inl (aI u_6))), (m_gravities, .inl (cJ, 10, .inr (.inl (aL u_7))))] H := hP
        have hD : va_D A [(m_offs, .inl (cJ, 10, .inr (.inl (aL m_offs_c)))), (m_sorted, .inl (cJ, 10, .inr (.inl (aL m_sorted_c)))), (mA, .inr (6, vI 0 :: vI m_heat :: vI m_pressure :: vL m_allDays :: vI m_clocks :: .ref m_rods :: .ref m_arcs :: .ref m_haveCheeks :: .ref m_adjustments :: .ref m_offs :: .ref m_sorted :: vI m_asking :: .ref m_askedBy :: .ref m_metAt :: .ref m_turnsAt :: vI m_period :: vI m_turns :: vI m_ahead :: vI m_datum :: vI m_datumValue :: vI m_readings :: .ref m_stations :: .ref m_hours :: .ref m_values :: .ref m_areTied :: .ref m_ties :: .ref m_steps :: .ref m_gravities :: .ref m_met :: vI m_bobs :: vI m_weight :: vI m_spring :: vI m_air :: vI m_push :: .ref m_places :: .ref m_speeds :: .ref m_wasPlace :: .ref m_wasSpeed :: [])), (m_ties, .inl (cI, 100, .inl (aI m_ties_c))), (m_areTied, .inl (cZ, 100, .inl (aI m_areTied_c))), (m_steps, .inl (cI, 10, .inl (aI u_6))), (m_gravities, .inl (cJ, 10, .inr (.inl (aL u_7))))] := hD
        have he_0 : (0 : Int) = (if 0 ≤ p0 ∧ p0 ≤ 5 then 0 else 1) := by first | rfl | omega | (rw [if_pos (by omega)]; omega) | (rw [if_pos (by omega)]; done) | (rw [if_neg (by omega)]; done) | (rw [if_neg (by omega), if_pos (by omega)]; done) | (rw [if_neg (by omega), if_neg (by omega)]; done) | (rw [if_neg (by omega), if_neg (by omega), if_pos (by omega)]; done) | (rw [if_neg (by omega), if_neg (by omega), if_neg (by omega)]; done)
        have hP : va_P D vwCl [(m_offs, .inl (cJ, 10, .inr (.inl (aL m_offs_c)))), (m_sorted, .inl (cJ, 10, .inr (.inl (aL m_sorted_c)))), (mA, .inr (6, vI (if 0 ≤ p0 ∧ p0 ≤ 5 then 0 else 1) :: vI m_heat :: vI m_pressure :: vL m_allDays :: vI m_clocks :: .ref m_rods :: .ref m_arcs :: .ref m_haveCheeks :: .ref m_adjustments :: .ref m_offs :: .ref m_sorted :: vI m_asking :: .ref m_askedBy :: .ref m_metAt :: .ref m_turnsAt :: vI m_period :: vI m_turns :: vI m_ahead :: vI m_datum :: vI m_datumValue :: vI m_readings :: .ref m_stations :: .ref m_hours :: .ref m_values :: .ref m_areTied :: .ref m_ties :: .ref m_steps :: .ref m_gravities :: .ref m_met :: vI m_bobs :: vI m_weight :: vI m_spring :: vI m_air :: vI m_push :: .ref m_places :: .ref m_speeds :: .ref m_wasPlace :: .ref m_wasSpeed :: [])), (m_ties, .inl (cI, 100, .inl (aI m_ties_c))), (m_areTied, .inl (cZ, 100, .inl (aI m_areTied_c))), (m_steps, .inl (cI, 10, .inl (aI u_6))), (m_gravities, .inl (cJ, 10, .inr (.inl (aL u_7))))] H := by rw [← he_0]; exact hP
        have hD : va_D A [(m_offs, .inl (cJ, 10, .inr (.inl (aL m_offs_c)))), (m_sorted, .inl (cJ, 10, .inr (.inl (aL m_sorted_c)))), (mA, .inr (6, vI (if 0 ≤ p0 ∧ p0 ≤ 5 then 0 else 1) :: vI m_heat :: vI m_pressure :: vL m_allDays :: vI m_clocks :: .ref m_rods :: .ref m_arcs :: .ref m_haveCheeks :: .ref m_adjustments :: .ref m_offs :: .ref m_sorted :: vI m_asking :: .ref m_askedBy :: .ref m_metAt :: .ref m_turnsAt :: vI m_period :: vI m_turns :: vI m_ahead :: vI m_datum :: vI m_datumValue :: vI m_readings :: .ref m_stations :: .ref m_hours :: .ref m_values :: .ref m_areTied :: .ref m_ties :: .ref m_steps :: .ref m_gravities :: .ref m_met :: vI m_bobs :: vI m_weight :: vI m_spring :: vI m_air :: vI m_push :: .ref m_places :: .ref m_speeds :: .ref m_wasPlace :: .ref m_wasSpeed :: [])), (m_ties, .inl (cI, 100, .inl (aI m_ties_c))), (m_areTied, .inl (cZ, 100, .inl (aI m_areTied_c))), (m_steps, .inl (cI, 10, .inl (aI u_6))), (m_gravities, .inl (cJ, 10, .inr (.inl (aL u_7))))] := by rw [← he_0]; exact hD
        have hP9 := hP.sub (ws' := [(mA, .inr (6, vI (if 0 ≤ p0 ∧ p0 ≤ 5 then 0 else 1) :: vI m_heat :: vI m_pressure :: vL m_allDays :: vI m_clocks :: .ref m_rods :: .ref m_arcs :: .ref m_haveCheeks :: .ref m_adjustments :: .ref m_offs :: .ref m_sorted :: vI m_asking :: .ref m_askedBy :: .ref m_metAt :: .ref m_turnsAt :: vI m_period :: vI m_turns :: vI m_ahead :: vI m_datum :: vI m_datumValue :: vI m_readings :: .ref m_stations :: .ref m_hours :: .ref m_values :: .ref m_areTied :: .ref m_ties :: .ref m_steps :: .ref m_gravities :: .ref m_met :: vI m_bobs :: vI m_weight :: vI m_spring :: vI m_air :: vI m_push :: .ref m_places :: .ref m_speeds :: .ref m_wasPlace :: .ref m_wasSpeed :: [])), (m_offs, .inl (cJ, 10, .inr (.inl (aL m_offs_c)))), (m_sorted, .inl (cJ, 10, .inr (.inl (aL m_sorted_c)))), (m_ties, .inl (cI, 100, .inl (aI m_ties_c))), (m_areTied, .inl (cZ, 100, .inl (aI m_areTied_c))), (m_steps, .inl (cI, 10, .inl (aI u_6))), (m_gravities, .inl (cJ, 10, .inr (.inl (aL u_7))))]) [2, 0, 1, 3, 4, 5, 6] rfl
        have hD9 := hD.sub (ws' := [(mA, .inr (6, vI (if 0 ≤ p0 ∧ p0 ≤ 5 then 0 else 1) :: vI m_heat :: vI m_pressure :: vL m_allDays :: vI m_clocks :: .ref m_rods :: .ref m_arcs :: .ref m_haveCheeks :: .ref m_adjustments :: .ref m_offs :: .ref m_sorted :: vI m_asking :: .ref m_askedBy :: .ref m_metAt :: .ref m_turnsAt :: vI m_period :: vI m_turns :: vI m_ahead :: vI m_datum :: vI m_datumValue :: vI m_readings :: .ref m_stations :: .ref m_hours :: .ref m_values :: .ref m_areTied :: .ref m_ties :: .ref m_steps :: .ref m_gravities :: .ref m_met :: vI m_bobs :: vI m_weight :: vI m_spring :: vI m_air :: vI m_push :: .ref m_places :: .ref m_speeds :: .ref m_wasPlace :: .ref m_wasSpeed :: [])), (m_offs, .inl (cJ, 10, .inr (.inl (aL m_offs_c)))), (m_sorted, .inl (cJ, 10, .inr (.inl (aL m_sorted_c)))), (m_ties, .inl (cI, 100, .inl (aI m_ties_c))), (m_areTied, .inl (cZ, 100, .inl (aI m_areTied_c))), (m_steps, .inl (cI, 10, .inl (aI u_6))), (m_gravities, .inl (cJ, 10, .inr (.inl (aL u_7))))]) [2, 0, 1, 3, 4, 5, 6] (by decide) rfl
        have hrel : ∀ j : Int, 0 ≤ j → j < 10 → -Bd ≤ m_sorted_c j ∧ m_sorted_c j ≤ Bd := by first | exact hw_8 | exact hso
        have hv : (smZ (fun k => pI (lyZ m_areTied_c m_datum 9 k ≠ -1)) 10 : Int) = (if 0 ≤ p0 ∧ p0 ≤ 5 then (if p0 = 0 then m_clocks else if p0 = 1 then smZ (fun j => nearZ (m_offs_c j) (midZ m_offs_c m_clocks)) (Int.toNat m_clocks) else if p0 = 2 then m_readings else if p0 = 3 then smZ (fun j => pI (m_areTied_c j = 1)) 100 / 2 else if p0 = 4 then smZ (fun k => pI (lyZ m_areTied_c m_datum 9 k ≠ -1)) 10 else m_bobs) else 0) := by first | rfl | (rw [if_neg (by omega)]; done) | (rw [if_pos (by omega), if_pos (by omega)]; done) | (rw [if_pos (by omega), if_neg (by omega), if_pos (by omega)]; done) | (rw [if_pos (by omega), if_neg (by omega), if_neg (by omega), if_pos (by omega)]; done) | (rw [if_pos (by omega), if_neg (by omega), if_neg (by omega), if_neg (by omega), if_pos (by omega)]; done) | (rw [if_pos (by omega), if_neg (by omega), if_neg (by omega), if_neg (by omega), if_neg (by omega), if_pos (by omega)]; done) | (rw [if_pos (by omega), if_neg (by omega), if_neg (by omega), if_neg (by omega), if_neg (by omega), if_neg (by omega)]; done)
        exact W.iret (pc := 88) (v := zI (smZ (fun k => pI (lyZ m_areTied_c m_datum 9 k ≠ -1)) 10)) hx hb hr (fun t ht hW => ⟨⟨zI (smZ (fun k => pI (lyZ m_areTied_c m_datum 9 k ≠ -1)) 10), (m_sorted_c, u_6, u_7), rfl, ⟨congrArg zI hv, hrel⟩, by rw [ht]; exact hP9, hD9⟩, hS.F ht⟩) hS.2.2 dX8_count_88
      refine lv_tableOut (pc := 28) (tgt := 89) hx hb dX8_count_28 (by rw [zI_toInt (by omega)]; omega) (by decide) ?_
      refine lv_aload_n (pc := 89) hx hb dX8_count_89 rfl (lv_at hl 0 rfl) ?_
      refine va_get (pc := 90) (D := D) (ci := 6) (v := vI m_bobs) (C := RX8) (T := TX8) (N := 38) hx hb hts in_X8 hown hK hP 0 rfl rfl 29 (by decide) fl_70 (fun _ h9 => h9) rfl dX8_count_90 ?_
      have he_0 : (0 : Int) = (if 0 ≤ p0 ∧ p0 ≤ 5 then 0 else 1) := by first | rfl | omega | (rw [if_pos (by omega)]; omega) | (rw [if_pos (by omega)]; done) | (rw [if_neg (by omega)]; done) | (rw [if_neg (by omega), if_pos (by omega)]; done) | (rw [if_neg (by omega), if_neg (by omega)]; done) | (rw [if_neg (by omega), if_neg (by omega), if_pos (by omega)]; done) | (rw [if_neg (by omega), if_neg (by omega), if_neg (by omega)]; done)
      have hP : va_P D vwCl [(mA, .inr (6, vI (if 0 ≤ p0 ∧ p0 ≤ 5 then 0 else 1) :: vI m_heat :: vI m_pressure :: vL m_allDays :: vI m_clocks :: .ref m_rods :: .ref m_arcs :: .ref m_haveCheeks :: .ref m_adjustments :: .ref m_offs :: .ref m_sorted :: vI m_asking :: .ref m_askedBy :: .ref m_metAt :: .ref m_turnsAt :: vI m_period :: vI m_turns :: vI m_ahead :: vI m_datum :: vI m_datumValue :: vI m_readings :: .ref m_stations :: .ref m_hours :: .ref m_values :: .ref m_areTied :: .ref m_ties :: .ref m_steps :: .ref m_gravities :: .ref m_met :: vI m_bobs :: vI m_weight :: vI m_spring :: vI m_air :: vI m_push :: .ref m_places :: .ref m_speeds :: .ref m_wasPlace :: .ref m_wasSpeed :: [])), (m_offs, .inl (cJ, 10, .inr (.inl (aL m_offs_c)))), (m_sorted, .inl (cJ, 10, .inr (.inl (aL m_sorted_c)))), (m_ties, .inl (cI, 100, .inl (aI m_ties_c))), (m_areTied, .inl (cZ, 100, .inl (aI m_areTied_c))), (m_steps, .inl (cI, 10, .inl (aI m_steps_c))), (m_gravities, .inl (cJ, 10, .inr (.inl (aL m_gravities_c))))] H := by rw [← he_0]; exact hP
      have hD : va_D A [(mA, .inr (6, vI (if 0 ≤ p0 ∧ p0 ≤ 5 then 0 else 1) :: vI m_heat :: vI m_pressure :: vL m_allDays :: vI m_clocks :: .ref m_rods :: .ref m_arcs :: .ref m_haveCheeks :: .ref m_adjustments :: .ref m_offs :: .ref m_sorted :: vI m_asking :: .ref m_askedBy :: .ref m_metAt :: .ref m_turnsAt :: vI m_period :: vI m_turns :: vI m_ahead :: vI m_datum :: vI m_datumValue :: vI m_readings :: .ref m_stations :: .ref m_hours :: .ref m_values :: .ref m_areTied :: .ref m_ties :: .ref m_steps :: .ref m_gravities :: .ref m_met :: vI m_bobs :: vI m_weight :: vI m_spring :: vI m_air :: vI m_push :: .ref m_places :: .ref m_speeds :: .ref m_wasPlace :: .ref m_wasSpeed :: [])), (m_offs, .inl (cJ, 10, .inr (.inl (aL m_offs_c)))), (m_sorted, .inl (cJ, 10, .inr (.inl (aL m_sorted_c)))), (m_ties, .inl (cI, 100, .inl (aI m_ties_c))), (m_areTied, .inl (cZ, 100, .inl (aI m_areTied_c))), (m_steps, .inl (cI, 10, .inl (aI m_steps_c))), (m_gravities, .inl (cJ, 10, .inr (.inl (aL m_gravities_c))))] := by rw [← he_0]; exact hD
      have hP9 := hP.sub (ws' := [(mA, .inr (6, vI (if 0 ≤ p0 ∧ p0 ≤ 5 then 0 else 1) :: vI m_heat :: vI m_pressure :: vL m_allDays :: vI m_clocks :: .ref m_rods :: .ref m_arcs :: .ref m_haveCheeks :: .ref m_adjustments :: .ref m_offs :: .ref m_sorted :: vI m_asking :: .ref m_askedBy :: .ref m_metAt :: .ref m_turnsAt :: vI m_period :: vI m_turns :: vI m_ahead :: vI m_datum :: vI m_datumValue :: vI m_readings :: .ref m_stations :: .ref m_hours :: .ref m_values :: .ref m_areTied :: .ref m_ties :: .ref m_steps :: .ref m_gravities :: .ref m_met :: vI m_bobs :: vI m_weight :: vI m_spring :: vI m_air :: vI m_push :: .ref m_places :: .ref m_speeds :: .ref m_wasPlace :: .ref m_wasSpeed :: [])), (m_offs, .inl (cJ, 10, .inr (.inl (aL m_offs_c)))), (m_sorted, .inl (cJ, 10, .inr (.inl (aL m_sorted_c)))), (m_ties, .inl (cI, 100, .inl (aI m_ties_c))), (m_areTied, .inl (cZ, 100, .inl (aI m_areTied_c))), (m_steps, .inl (cI, 10, .inl (aI m_steps_c))), (m_gravities, .inl (cJ, 10, .inr (.inl (aL m_gravities_c))))]) [0, 1, 2, 3, 4, 5, 6] rfl
      have hD9 := hD.sub (ws' := [(mA, .inr (6, vI (if 0 ≤ p0 ∧ p0 ≤ 5 then 0 else 1) :: vI m_heat :: vI m_pressure :: vL m_allDays :: vI m_clocks :: .ref m_rods :: .ref m_arcs :: .ref m_haveCheeks :: .ref m_adjustments :: .ref m_offs :: .ref m_sorted :: vI m_asking :: .ref m_askedBy :: .ref m_metAt :: .ref m_turnsAt :: vI m_period :: vI m_turns :: vI m_ahead :: vI m_datum :: vI m_datumValue :: vI m_readings :: .ref m_stations :: .ref m_hours :: .ref m_values :: .ref m_areTied :: .ref m_ties :: .ref m_steps :: .ref m_gravities :: .ref m_met :: vI m_bobs :: vI m_weight :: vI m_spring :: vI m_air :: vI m_push :: .ref m_places :: .ref m_speeds :: .ref m_wasPlace :: .ref m_wasSpeed :: [])), (m_offs, .inl (cJ, 10, .inr (.inl (aL m_offs_c)))), (m_sorted, .inl (cJ, 10, .inr (.inl (aL m_sorted_c)))), (m_ties, .inl (cI, 100, .inl (aI m_ties_c))), (m_areTied, .inl (cZ, 100, .inl (aI m_areTied_c))), (m_steps, .inl (cI, 10, .inl (aI m_steps_c))), (m_gravities, .inl (cJ, 10, .inr (.inl (aL m_gravities_c))))]) [0, 1, 2, 3, 4, 5, 6] (by decide) rfl
      have hrel : ∀ j : Int, 0 ≤ j → j < 10 → -Bd ≤ m_sorted_c j ∧ m_sorted_c j ≤ Bd := by first | exact hml | exact hso
      have hv : (m_bobs : Int) = (if 0 ≤ p0 ∧ p0 ≤ 5 then (if p0 = 0 then m_clocks else if p0 = 1 then smZ (fun j => nearZ (m_offs_c j) (midZ m_offs_c m_clocks)) (Int.toNat m_clocks) else if p0 = 2 then m_readings else if p0 = 3 then smZ (fun j => pI (m_areTied_c j = 1)) 100 / 2 else if p0 = 4 then smZ (fun k => pI (lyZ m_areTied_c m_datum 9 k ≠ -1)) 10 else m_bobs) else 0) := by first | rfl | (rw [if_neg (by omega)]; done) | (rw [if_pos (by omega), if_pos (by omega)]; done) | (rw [if_pos (by omega), if_neg (by omega), if_pos (by omega)]; done) | (rw [if_pos (by omega), if_neg (by omega), if_neg (by omega), if_pos (by omega)]; done) | (rw [if_pos (by omega), if_neg (by omega), if_neg (by omega), if_neg (by omega), if_pos (by omega)]; done) | (rw [if_pos (by omega), if_neg (by omega), if_neg (by omega), if_neg (by omega), if_neg (by omega), if_pos (by omega)]; done) | (rw [if_pos (by omega), if_neg (by omega), if_neg (by omega), if_neg (by omega), if_neg (by omega), if_neg (by omega)]; done)
      exact W.iret (pc := 93) (v := zI m_bobs) hx hb hr (fun t ht hW => ⟨⟨zI m_bobs, (m_sorted_c, m_steps_c, m_gravities_c), rfl, ⟨congrArg zI hv, hrel⟩, by rw [ht]; exact hP9, hD9⟩, hS.F ht⟩) hS.2.2 dX8_count_93
    · exact absurd c_3 (by decide)
