set_option maxHeartbeats 4000000 in
set_option maxRecDepth 100000 in
theorem m_J9_floorDiv_7cf53 (l : Launch) (D : va_G) (cI cJ cZ cD : ClassId) (sz : Nat) (p0 : Int) (p1 : Int) (h0 : -2147483648 ≤ p0 ∧ p0 < 2147483648) (h1 : 0 < p1 ∧ p1 < 2147483648) : Met l yJ9_floorDiv_7cf53 wsJ9_floorDiv_7cf53 ({ frames := 0, cells := 0, slots := 0, locals := 0 } : Room) (va_Pc [vI p0, vI p1] (fun _ => True)) (zQr (some (vI (p0 / p1)))) 0 0 (fun _ => False) := by
  refine va_MetF (cc := cJ9_floorDiv_7cf53) (maxL := 3) (ret := (some .int)) (by decide +kernel) rfl ?_
  intro p e s m args below meth c s₁ B hml hv
  obtain ⟨rfl, -⟩ := hv
  have hx := B.exec
  have hb := B.bytes
  have hr := B.returns
  have hts := atoms_spec (ws := wsJ9_floorDiv_7cf53) B.pre
  have hown : s.vm.findClass RJ9 = some m.cls := findClass_of_methodNamed B.named
  have hlocks := B.notSynchronized
  have hl := lv_entry ([vI p0, vI p1]) (n := 3) (Nat.le_of_ble_eq_true rfl)
  rw [lg_entry_eq]
  generalize (lg_sl ([vI p0, vI p1]) ++ List.replicate (3 - (lg_sl ([vI p0, vI p1])).length) Slot.unset).toArray = ls at hl ⊢
  have hl : lv_has ls 3 [(0, vI p0), (1, vI p1)] := hl
  refine lv_iload_n (pc := 0) hx hb dJ9_floorDiv_7cf53_0 rfl (lv_at hl 0 rfl) ?_
  refine lv_iload_n (pc := 1) hx hb dJ9_floorDiv_7cf53_1 rfl (lv_at hl 1 rfl) ?_
  refine z_idiv (pc := 2) hx hb dJ9_floorDiv_7cf53_2 (by omega) (by omega) ?_
  refine lv_istore_n (lv' := [(2, vI (Int.tdiv p0 p1)), (0, vI p0), (1, vI p1)]) (pc := 3) hx hb dJ9_floorDiv_7cf53_3 rfl hl (by decide) rfl (fun ls hl => ?_)
  refine lv_iload_n (pc := 4) hx hb dJ9_floorDiv_7cf53_4 rfl (lv_at hl 1 rfl) ?_
  refine lv_iload_n (pc := 5) hx hb dJ9_floorDiv_7cf53_5 rfl (lv_at hl 2 rfl) ?_
  refine z_ixorge (pc := 6) (tgt := 21) hx hb dJ9_floorDiv_7cf53_6 dJ9_floorDiv_7cf53_7 (by decide) (by omega) (by omega) (fun c_1 => ?_) (fun c_1 => ?_)
  · have hc_6t := c_1
    refine lv_iload_n (pc := 21) hx hb dJ9_floorDiv_7cf53_21 rfl (lv_at hl 0 rfl) ?_
    have hv : (Int.tdiv p0 p1 : Int) = (p0 / p1) := by first | exact Int.tdiv_eq_ediv_of_nonneg hc_6t | exact g3 hc_14t
    exact W.iret (pc := 22) (v := zI (Int.tdiv p0 p1)) hx hb hr (fun t ht hW => ⟨congrArg (fun z => Outcome.returned (some (vI z))) hv, ht⟩) (fun q h => absurd h List.not_mem_nil) dJ9_floorDiv_7cf53_22
  · have hc_6f := c_1
    obtain ⟨g1, g2, g3, g4⟩ := z_fd h1.1 hc_6f
    refine lv_iload_n (pc := 10) hx hb dJ9_floorDiv_7cf53_10 rfl (lv_at hl 0 rfl) ?_
    refine lv_iload_n (pc := 11) hx hb dJ9_floorDiv_7cf53_11 rfl (lv_at hl 2 rfl) ?_
    refine z_imul (pc := 12) hx hb dJ9_floorDiv_7cf53_12 ?_
    refine lv_iload_n (pc := 13) hx hb dJ9_floorDiv_7cf53_13 rfl (lv_at hl 1 rfl) ?_
    refine z_icmp_eq (pc := 14) (tgt := 21) hx hb dJ9_floorDiv_7cf53_14 (by decide) (by omega) (by omega) (fun c_2 => ?_) (fun c_2 => ?_)
    · have hc_14t := c_2
      refine lv_iload_n (pc := 21) hx hb dJ9_floorDiv_7cf53_21 rfl (lv_at hl 0 rfl) ?_
      have hv : (Int.tdiv p0 p1 : Int) = (p0 / p1) := by first | exact Int.tdiv_eq_ediv_of_nonneg hc_6t | exact g3 hc_14t
      exact W.iret (pc := 22) (v := zI (Int.tdiv p0 p1)) hx hb hr (fun t ht hW => ⟨congrArg (fun z => Outcome.returned (some (vI z))) hv, ht⟩) (fun q h => absurd h List.not_mem_nil) dJ9_floorDiv_7cf53_22
    · have hc_14f := c_2
      refine lv_iload_n (pc := 17) hx hb dJ9_floorDiv_7cf53_17 rfl (lv_at hl 0 rfl) ?_
      refine z_iconst (pc := 18) hx hb dJ9_floorDiv_7cf53_18 ?_
      refine z_isub (pc := 19) hx hb dJ9_floorDiv_7cf53_19 ?_
      have hv : ((Int.tdiv p0 p1) - 1 : Int) = (p0 / p1) := by exact g4 hc_14f
      exact W.iret (pc := 20) (v := zI ((Int.tdiv p0 p1) - 1)) hx hb hr (fun t ht hW => ⟨congrArg (fun z => Outcome.returned (some (vI z))) hv, ht⟩) (fun q h => absurd h List.not_mem_nil) dJ9_floorDiv_7cf53_20

set_option maxHeartbeats 4000000 in
set_option maxRecDepth 100000 in
theorem m_J9_floorDiv_f86c9 (l : Launch) (D : va_G) (cI cJ cZ cD : ClassId) (sz : Nat) (p0 : Int) (p1 : Int) (h0 : -9223372036854775808 ≤ p0 ∧ p0 < 9223372036854775808) (h1 : 0 < p1 ∧ p1 < 9223372036854775808) : Met l yJ9_floorDiv_f86c9 wsJ9_floorDiv_f86c9 ({ frames := 0, cells := 0, slots := 0, locals := 0 } : Room) (va_Pc [vL p0, vL p1] (fun _ => True)) (zQr (some (vL (p0 / p1)))) 0 0 (fun _ => False) := by
  refine va_MetF (cc := cJ9_floorDiv_f86c9) (maxL := 6) (ret := (some .long)) (by decide +kernel) rfl ?_
  intro p e s m args below meth c s₁ B hml hv
  obtain ⟨rfl, -⟩ := hv
  have hx := B.exec
  have hb := B.bytes
  have hr := B.returns
  have hts := atoms_spec (ws := wsJ9_floorDiv_f86c9) B.pre
  have hown : s.vm.findClass RJ9 = some m.cls := findClass_of_methodNamed B.named
  have hlocks := B.notSynchronized
  have hl := lv_entry ([vL p0, vL p1]) (n := 6) (Nat.le_of_ble_eq_true rfl)
  rw [lg_entry_eq]
  generalize (lg_sl ([vL p0, vL p1]) ++ List.replicate (6 - (lg_sl ([vL p0, vL p1])).length) Slot.unset).toArray = ls at hl ⊢
  have hl : lv_has ls 6 [(0, vL p0), (2, vL p1)] := hl
  refine lv_lload_n (pc := 0) hx hb dJ9_floorDiv_f86c9_0 rfl (lv_at hl 0 rfl) ?_
  refine lv_lload_n (pc := 1) hx hb dJ9_floorDiv_f86c9_1 rfl (lv_at hl 1 rfl) ?_
  refine z_ldiv (pc := 2) hx hb dJ9_floorDiv_f86c9_2 (by omega) (by omega) ?_
  refine lv_lstore (lv' := [(4, vL (Int.tdiv p0 p1)), (0, vL p0), (2, vL p1)]) (pc := 3) hx hb dJ9_floorDiv_f86c9_3 hl (by decide) rfl (fun ls hl => ?_)
  refine lv_lload_n (pc := 5) hx hb dJ9_floorDiv_f86c9_5 rfl (lv_at hl 1 rfl) ?_
  refine lv_lload_n (pc := 6) hx hb dJ9_floorDiv_f86c9_6 rfl (lv_at hl 2 rfl) ?_
  refine z_lxorge (pc := 7) (tgt := 27) hx hb dJ9_floorDiv_f86c9_7 dJ9_floorDiv_f86c9_8 dJ9_floorDiv_f86c9_9 dJ9_floorDiv_f86c9_10 (by decide) (by omega) (by omega) (fun c_1 => ?_) (fun c_1 => ?_)
  · have hc_7t := c_1
    refine lv_lload (pc := 27) hx hb dJ9_floorDiv_f86c9_27 (lv_at hl 0 rfl) ?_
    have hv : (Int.tdiv p0 p1 : Int) = (p0 / p1) := by first | exact Int.tdiv_eq_ediv_of_nonneg hc_7t | exact g3 hc_18t
    exact W.lret (pc := 29) (v := zL (Int.tdiv p0 p1)) hx hb hr (fun t ht hW => ⟨congrArg (fun z => Outcome.returned (some (vL z))) hv, ht⟩) (fun q h => absurd h List.not_mem_nil) dJ9_floorDiv_f86c9_29
  · have hc_7f := c_1
    obtain ⟨g1, g2, g3, g4⟩ := z_fd h1.1 hc_7f
    refine lv_lload (pc := 13) hx hb dJ9_floorDiv_f86c9_13 (lv_at hl 0 rfl) ?_
    refine lv_lload_n (pc := 15) hx hb dJ9_floorDiv_f86c9_15 rfl (lv_at hl 2 rfl) ?_
    refine z_lmul (pc := 16) hx hb dJ9_floorDiv_f86c9_16 ?_
    refine lv_lload_n (pc := 17) hx hb dJ9_floorDiv_f86c9_17 rfl (lv_at hl 1 rfl) ?_
    refine z_lcmp_eq (pc := 18) (tgt := 27) hx hb dJ9_floorDiv_f86c9_18 dJ9_floorDiv_f86c9_19 (by decide) (by omega) (by omega) (fun c_2 => ?_) (fun c_2 => ?_)
    · have hc_18t := c_2
      refine lv_lload (pc := 27) hx hb dJ9_floorDiv_f86c9_27 (lv_at hl 0 rfl) ?_
      have hv : (Int.tdiv p0 p1 : Int) = (p0 / p1) := by first | exact Int.tdiv_eq_ediv_of_nonneg hc_7t | exact g3 hc_18t
      exact W.lret (pc := 29) (v := zL (Int.tdiv p0 p1)) hx hb hr (fun t ht hW => ⟨congrArg (fun z => Outcome.returned (some (vL z))) hv, ht⟩) (fun q h => absurd h List.not_mem_nil) dJ9_floorDiv_f86c9_29
    · have hc_18f := c_2
      refine lv_lload (pc := 22) hx hb dJ9_floorDiv_f86c9_22 (lv_at hl 0 rfl) ?_
      refine z_lconst (pc := 24) hx hb (z := 1) dJ9_floorDiv_f86c9_24 (by decide) ?_
      refine z_lsub (pc := 25) hx hb dJ9_floorDiv_f86c9_25 ?_
      have hv : ((Int.tdiv p0 p1) - 1 : Int) = (p0 / p1) := by exact g4 hc_18f
      exact W.lret (pc := 26) (v := zL ((Int.tdiv p0 p1) - 1)) hx hb hr (fun t ht hW => ⟨congrArg (fun z => Outcome.returned (some (vL z))) hv, ht⟩) (fun q h => absurd h List.not_mem_nil) dJ9_floorDiv_f86c9_26

set_option maxHeartbeats 4000000 in
set_option maxRecDepth 100000 in
theorem m_J9_floorMod_7cf53 (l : Launch) (D : va_G) (cI cJ cZ cD : ClassId) (sz : Nat) (p0 : Int) (p1 : Int) (h0 : -2147483648 ≤ p0 ∧ p0 < 2147483648) (h1 : 0 < p1 ∧ p1 < 2147483648) : Met l yJ9_floorMod_7cf53 wsJ9_floorMod_7cf53 ({ frames := 0, cells := 0, slots := 0, locals := 0 } : Room) (va_Pc [vI p0, vI p1] (fun _ => True)) (zQr (some (vI (p0 % p1)))) 0 0 (fun _ => False) := by
  refine va_MetF (cc := cJ9_floorMod_7cf53) (maxL := 3) (ret := (some .int)) (by decide +kernel) rfl ?_
  intro p e s m args below meth c s₁ B hml hv
  obtain ⟨rfl, -⟩ := hv
  have hx := B.exec
  have hb := B.bytes
  have hr := B.returns
  have hts := atoms_spec (ws := wsJ9_floorMod_7cf53) B.pre
  have hown : s.vm.findClass RJ9 = some m.cls := findClass_of_methodNamed B.named
  have hlocks := B.notSynchronized
  have hl := lv_entry ([vI p0, vI p1]) (n := 3) (Nat.le_of_ble_eq_true rfl)
  rw [lg_entry_eq]
  generalize (lg_sl ([vI p0, vI p1]) ++ List.replicate (3 - (lg_sl ([vI p0, vI p1])).length) Slot.unset).toArray = ls at hl ⊢
  have hl : lv_has ls 3 [(0, vI p0), (1, vI p1)] := hl
  refine lv_iload_n (pc := 0) hx hb dJ9_floorMod_7cf53_0 rfl (lv_at hl 0 rfl) ?_
  refine lv_iload_n (pc := 1) hx hb dJ9_floorMod_7cf53_1 rfl (lv_at hl 1 rfl) ?_
  refine z_irem (pc := 2) hx hb dJ9_floorMod_7cf53_2 (by omega) (by omega) ?_
  refine lv_istore_n (lv' := [(2, vI (Int.tmod p0 p1)), (0, vI p0), (1, vI p1)]) (pc := 3) hx hb dJ9_floorMod_7cf53_3 rfl hl (by decide) rfl (fun ls hl => ?_)
  refine lv_iload_n (pc := 4) hx hb dJ9_floorMod_7cf53_4 rfl (lv_at hl 1 rfl) ?_
  refine lv_iload_n (pc := 5) hx hb dJ9_floorMod_7cf53_5 rfl (lv_at hl 2 rfl) ?_
  refine z_ixorge (pc := 6) (tgt := 18) hx hb dJ9_floorMod_7cf53_6 dJ9_floorMod_7cf53_7 (by decide) (by omega) (by omega) (fun c_1 => ?_) (fun c_1 => ?_)
  · have hc_6t := c_1
    refine lv_iload_n (pc := 18) hx hb dJ9_floorMod_7cf53_18 rfl (lv_at hl 0 rfl) ?_
    have hv : (Int.tmod p0 p1 : Int) = (p0 % p1) := by first | exact Int.tmod_eq_emod_of_nonneg hc_6t | exact g3 hc_11t
    exact W.iret (pc := 19) (v := zI (Int.tmod p0 p1)) hx hb hr (fun t ht hW => ⟨congrArg (fun z => Outcome.returned (some (vI z))) hv, ht⟩) (fun q h => absurd h List.not_mem_nil) dJ9_floorMod_7cf53_19
  · have hc_6f := c_1
    obtain ⟨g1, g2, g3, g4⟩ := z_fm h1.1 hc_6f
    refine lv_iload_n (pc := 10) hx hb dJ9_floorMod_7cf53_10 rfl (lv_at hl 0 rfl) ?_
    refine z_if_eq (pc := 11) (tgt := 18) hx hb dJ9_floorMod_7cf53_11 (by decide) (by omega) (fun c_2 => ?_) (fun c_2 => ?_)
    · have hc_11t := c_2
      refine lv_iload_n (pc := 18) hx hb dJ9_floorMod_7cf53_18 rfl (lv_at hl 0 rfl) ?_
      have hv : (Int.tmod p0 p1 : Int) = (p0 % p1) := by first | exact Int.tmod_eq_emod_of_nonneg hc_6t | exact g3 hc_11t
      exact W.iret (pc := 19) (v := zI (Int.tmod p0 p1)) hx hb hr (fun t ht hW => ⟨congrArg (fun z => Outcome.returned (some (vI z))) hv, ht⟩) (fun q h => absurd h List.not_mem_nil) dJ9_floorMod_7cf53_19
    · have hc_11f := c_2
      refine lv_iload_n (pc := 14) hx hb dJ9_floorMod_7cf53_14 rfl (lv_at hl 0 rfl) ?_
      refine lv_iload_n (pc := 15) hx hb dJ9_floorMod_7cf53_15 rfl (lv_at hl 2 rfl) ?_
      refine z_iadd (pc := 16) hx hb dJ9_floorMod_7cf53_16 ?_
      have hv : ((Int.tmod p0 p1) + p1 : Int) = (p0 % p1) := by exact g4 hc_11f
      exact W.iret (pc := 17) (v := zI ((Int.tmod p0 p1) + p1)) hx hb hr (fun t ht hW => ⟨congrArg (fun z => Outcome.returned (some (vI z))) hv, ht⟩) (fun q h => absurd h List.not_mem_nil) dJ9_floorMod_7cf53_17

set_option maxHeartbeats 4000000 in
set_option maxRecDepth 100000 in
theorem m_X0_pullOf (l : Launch) (D : va_G) (cI cJ cZ cD : ClassId) (sz : Nat) (p0 : Int) (h0 : -2147483648 ≤ p0 ∧ p0 < 2147483648) : Met l yX0_pullOf wsX0_pullOf ({ frames := 0, cells := 0, slots := 0, locals := 0 } : Room) (va_Pc [vI p0] (fun _ => True)) (zQr (some (vI (pullZ p0)))) 0 0 (fun _ => False) := by
  refine Met.ofW (cc := cX0_pullOf) (maxL := 1) (ret := (some .int)) (by decide) rfl ?_
  intro p e s m args below meth c s₁ B hml hv
  obtain ⟨rfl, -⟩ := hv
  have hx := B.exec
  have hb := B.bytes
  have hr := B.returns
  have hts := atoms_spec (ws := wsX0_pullOf) B.pre
  have hown : s.vm.findClass RX0 = some m.cls := findClass_of_methodNamed B.named
  have hlocks := B.notSynchronized
  have hl := lv_entry ([vI p0]) (n := 1) (Nat.le_of_ble_eq_true rfl)
  rw [lg_entry_eq]
  generalize (lg_sl ([vI p0]) ++ List.replicate (1 - (lg_sl ([vI p0])).length) Slot.unset).toArray = ls at hl ⊢
  have hl : lv_has ls 1 [(0, vI p0)] := hl
  refine lv_iload_n (pc := 0) hx hb dX0_pullOf_0 rfl (lv_at hl 0 rfl) ?_
  refine z_sipush (pc := 1) hx hb dX0_pullOf_1 (by decide) ?_
  refine z_icmp_ge (pc := 4) (tgt := 9) hx hb dX0_pullOf_4 (by decide) (by omega) (by decide) (fun c_1 => ?_) (fun c_1 => ?_)
  · have hc_4t := c_1
    refine lv_iload_n (pc := 9) hx hb dX0_pullOf_9 rfl (lv_at hl 0 rfl) ?_
    refine z_sipush (pc := 10) hx hb dX0_pullOf_10 (by decide) ?_
    refine z_icmp_ge (pc := 13) (tgt := 24) hx hb dX0_pullOf_13 (by decide) (by omega) (by decide) (fun c_2 => ?_) (fun c_2 => ?_)
    · have hc_13t := c_2
      refine lv_iload_n (pc := 24) hx hb dX0_pullOf_24 rfl (lv_at hl 0 rfl) ?_
      refine z_sipush (pc := 25) hx hb dX0_pullOf_25 (by decide) ?_
      refine z_isub (pc := 28) hx hb dX0_pullOf_28 ?_
      have hv : (p0 - 1000 : Int) = (pullZ p0) := by unfold pullZ; split <;> (try split) <;> omega
      exact W.iret (pc := 29) (v := zI (p0 - 1000)) hx hb hr (fun t ht hW => ⟨congrArg (fun z => Outcome.returned (some (vI z))) hv, ht⟩) (fun q h => absurd h List.not_mem_nil) dX0_pullOf_29
    · have hc_13f := c_2
      refine z_sipush (pc := 16) hx hb dX0_pullOf_16 (by decide) ?_
      refine lv_iload_n (pc := 19) hx hb dX0_pullOf_19 rfl (lv_at hl 0 rfl) ?_
      refine z_isub (pc := 20) hx hb dX0_pullOf_20 ?_
      refine lv_goto (pc := 21) (tgt := 29) hx hb dX0_pullOf_21 (by decide) ?_
      have hv : (500 - p0 : Int) = (pullZ p0) := by unfold pullZ; split <;> (try split) <;> omega
      exact W.iret (pc := 29) (v := zI (500 - p0)) hx hb hr (fun t ht hW => ⟨congrArg (fun z => Outcome.returned (some (vI z))) hv, ht⟩) (fun q h => absurd h List.not_mem_nil) dX0_pullOf_29
  · have hc_4f := c_1
    refine lv_iload_n (pc := 7) hx hb dX0_pullOf_7 rfl (lv_at hl 0 rfl) ?_
    have hv : (p0 : Int) = (pullZ p0) := by unfold pullZ; split <;> (try split) <;> omega
    exact W.iret (pc := 8) (v := zI p0) hx hb hr (fun t ht hW => ⟨congrArg (fun z => Outcome.returned (some (vI z))) hv, ht⟩) (fun q h => absurd h List.not_mem_nil) dX0_pullOf_8

set_option maxHeartbeats 4000000 in
set_option maxRecDepth 100000 in
theorem m_X0_tick (l : Launch) (D : va_G) (cI cJ cZ cD : ClassId) (sz : Nat) (p0 : Int) (p1 : Int) (p2 : Int) (h0 : 0 ≤ p0 ∧ p0 < 1000) (h1 : 0 ≤ p1 ∧ p1 ≤ 300) (h2 : 0 ≤ p2 ∧ p2 < 1000) : Met l yX0_tick wsX0_tick ({ frames := 1, cells := 0, slots := 0, locals := 22 } : Room) (va_Pc [vI p0, vI p1, vI p2] (fun _ => True)) (zQr (some (vI (goZ p0 p1 p2)))) 0 0 (fun _ => False) := by
  refine Met.ofW (cc := cX0_tick) (maxL := 3) (ret := (some .int)) (by decide) rfl ?_
  intro p e s m args below meth c s₁ B hml hv
  obtain ⟨rfl, -⟩ := hv
  have hx := B.exec
  have hb := B.bytes
  have hr := B.returns
  have hts := atoms_spec (ws := wsX0_tick) B.pre
  have hown : s.vm.findClass RX0 = some m.cls := findClass_of_methodNamed B.named
  have hlocks := B.notSynchronized
  have hl := lv_entry ([vI p0, vI p1, vI p2]) (n := 3) (Nat.le_of_ble_eq_true rfl)
  rw [lg_entry_eq]
  generalize (lg_sl ([vI p0, vI p1, vI p2]) ++ List.replicate (3 - (lg_sl ([vI p0, vI p1, vI p2])).length) Slot.unset).toArray = ls at hl ⊢
  have hl : lv_has ls 3 [(0, vI p0), (1, vI p1), (2, vI p2)] := hl
  have hg := goZ_rng h0 h1 h2
  refine lv_iload_n (pc := 0) hx hb dX0_tick_0 rfl (lv_at hl 2 rfl) ?_
  refine lv_iload_n (pc := 1) hx hb dX0_tick_1 rfl (lv_at hl 0 rfl) ?_
  refine z_iadd (pc := 2) hx hb dX0_tick_2 ?_
  refine lv_iload_n (pc := 3) hx hb dX0_tick_3 rfl (lv_at hl 1 rfl) ?_
  refine lv_iload_n (pc := 4) hx hb dX0_tick_4 rfl (lv_at hl 2 rfl) ?_
  refine z_callR (pc := 5) (va_runS (As := [vI p2]) (rest := [vI p1, vI (p2 + p0)]) ⟨hx, hb, hml, hown, hts⟩ (m_X0_pullOf l D cI cJ cZ cD 0  p2 (by omega)) (va_cwS 1 hts gX0_tick_X0_pullOf rfl rfl rfl (by decide +kernel) ⟨Nat.le_of_ble_eq_true rfl, Nat.le_of_ble_eq_true rfl⟩) ⟨fun a U g mk q => q, fun U hU hW => ⟨rfl, trivial⟩⟩ rfl rfl hl.1 rfl (lv_room (Nat.le_of_ble_eq_true rfl)) dX0_tick_5 ⟨Nat.zero_le _, Nat.zero_le _⟩) ?_
  refine z_imul (pc := 8) hx hb dX0_tick_8 ?_
  refine z_bipush (pc := 9) hx hb dX0_tick_9 (by decide) ?_
  refine z_callR (pc := 11) (va_runS (As := [vI (p1 * (pullZ p2)), vI 100]) (rest := [vI (p2 + p0)]) ⟨hx, hb, hml, hown, hts⟩ (m_J9_floorDiv_7cf53 l D cI cJ cZ cD 0  (p1 * (pullZ p2)) 100 (by omega) (by omega)) (va_cwS 2 hts gX0_tick_J9_floorDiv_7cf53 rfl rfl rfl (by decide +kernel) ⟨Nat.le_of_ble_eq_true rfl, Nat.le_of_ble_eq_true rfl⟩) ⟨fun a U g mk q => q, fun U hU hW => ⟨rfl, trivial⟩⟩ rfl rfl hl.1 rfl (lv_room (Nat.le_of_ble_eq_true rfl)) dX0_tick_11 ⟨Nat.zero_le _, Nat.zero_le _⟩) ?_
  refine z_isub (pc := 14) hx hb dX0_tick_14 ?_
  have hv : ((p2 + p0) - ((p1 * (pullZ p2)) / 100) : Int) = (goZ p0 p1 p2) := by rfl
  exact W.iret (pc := 15) (v := zI ((p2 + p0) - ((p1 * (pullZ p2)) / 100))) hx hb hr (fun t ht hW => ⟨congrArg (fun z => Outcome.returned (some (vI z))) hv, ht⟩) (fun q h => absurd h List.not_mem_nil) dX0_tick_15
