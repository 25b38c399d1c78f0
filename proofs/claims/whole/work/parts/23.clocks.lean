set_option maxHeartbeats 4000000 in
set_option maxRecDepth 100000 in
theorem m_X3_number (l : Launch) (D : va_G) (cI cJ cZ cD : ClassId) (sz : Nat) (kA : Nat) (k_stretches : Nat) (k_arcs : Nat) (k_cheeks : Nat) (k_adjustments : Nat) (k_offs : Nat) (k_sorted : Nat) (k_clockCount : Int) (k_nowHeat : Int) (k_nowPressure : Int) (k_daysGone : Int) : Met l yX3_number wsX3_number ({ frames := 0, cells := 0, slots := 0, locals := 0 } : Room) (zPc D (TY cI cJ cZ cD) sz [.ref kA] [(kA, .inr (2, [.ref k_stretches, .ref k_arcs, .ref k_cheeks, .ref k_adjustments, .ref k_offs, .ref k_sorted, vI k_clockCount, vI k_nowHeat, vI k_nowPressure, vL k_daysGone]))]) (zQr (some (vI k_clockCount))) 0 0 (fun _ => False) := by
  refine Met.ofW (cc := cX3_number) (maxL := 1) (ret := (some .int)) (by decide) rfl ?_
  intro p e s m args below meth c s₁ B hml hv
  obtain ⟨rfl, hsz, hP, hK, hD0, hN⟩ := hv
  have hx := B.exec
  have hb := B.bytes
  have hr := B.returns
  have hts := atoms_spec (ws := wsX3_number) B.pre
  have hown : s.vm.findClass RX3 = some m.cls := findClass_of_methodNamed B.named
  have hlocks := B.notSynchronized
  have hD := hD0
  subst hsz
  have hP : va_P D vwCl [(kA, .inr (2, [.ref k_stretches, .ref k_arcs, .ref k_cheeks, .ref k_adjustments, .ref k_offs, .ref k_sorted, vI k_clockCount, vI k_nowHeat, vI k_nowPressure, vL k_daysGone]))] s.heap := hP
  have fl_37 := hts (.fieldLink RX3 37 "PendulumHall$Clocks" "clockCount" "I") (by decide +kernel)
  have in_X3 : ∀ w ∈ wsX30, w ∈ wsX3_number := by decide +kernel
  have hl := lv_entry ([.ref kA]) (n := 1) (Nat.le_of_ble_eq_true rfl)
  rw [lg_entry_eq]
  generalize (lg_sl ([.ref kA]) ++ List.replicate (1 - (lg_sl ([.ref kA])).length) Slot.unset).toArray = ls at hl ⊢
  have hl : lv_has ls 1 [(0, .ref kA)] := hl
  refine lv_aload_n (pc := 0) hx hb dX3_number_0 rfl (lv_at hl 0 rfl) ?_
  refine va_get (pc := 1) (D := D) (ci := 2) (v := vI k_clockCount) (C := RX3) (T := TX3) (N := 10) hx hb hts in_X3 hown hK hP 0 rfl rfl 6 (by decide) fl_37 (fun _ h9 => h9) rfl dX3_number_1 ?_
  have hv : (k_clockCount) = (k_clockCount) := rfl
  exact W.iret (pc := 4) (v := zI k_clockCount) hx hb hr (fun t ht hW => ⟨congrArg (fun z => Outcome.returned (some (vI z))) hv, ht⟩) (fun q h => absurd h List.not_mem_nil) dX3_number_4

set_option maxHeartbeats 4000000 in
set_option maxRecDepth 100000 in
theorem m_X3_has (l : Launch) (D : va_G) (cI cJ cZ cD : ClassId) (sz : Nat) (kA : Nat) (k_stretches : Nat) (k_arcs : Nat) (k_cheeks : Nat) (k_adjustments : Nat) (k_offs : Nat) (k_sorted : Nat) (k_clockCount : Int) (k_nowHeat : Int) (k_nowPressure : Int) (k_daysGone : Int) (p0 : Int) (h0 : -2147483648 ≤ p0 ∧ p0 < 2147483648) (hn : 0 ≤ k_clockCount ∧ k_clockCount ≤ 10) : Met l yX3_has wsX3_has ({ frames := 0, cells := 0, slots := 0, locals := 0 } : Room) (zPc D (TY cI cJ cZ cD) sz [.ref kA, vI p0] [(kA, .inr (2, [.ref k_stretches, .ref k_arcs, .ref k_cheeks, .ref k_adjustments, .ref k_offs, .ref k_sorted, vI k_clockCount, vI k_nowHeat, vI k_nowPressure, vL k_daysGone]))]) (zQr (some (vI (pI (0 ≤ p0 ∧ p0 < k_clockCount))))) 0 0 (fun _ => False) := by
  refine Met.ofW (cc := cX3_has) (maxL := 2) (ret := (some .boolean)) (by decide) rfl ?_
  intro p e s m args below meth c s₁ B hml hv
  obtain ⟨rfl, hsz, hP, hK, hD0, hN⟩ := hv
  have hx := B.exec
  have hb := B.bytes
  have hr := B.returns
  have hts := atoms_spec (ws := wsX3_has) B.pre
  have hown : s.vm.findClass RX3 = some m.cls := findClass_of_methodNamed B.named
  have hlocks := B.notSynchronized
  have hD := hD0
  subst hsz
  have hP : va_P D vwCl [(kA, .inr (2, [.ref k_stretches, .ref k_arcs, .ref k_cheeks, .ref k_adjustments, .ref k_offs, .ref k_sorted, vI k_clockCount, vI k_nowHeat, vI k_nowPressure, vL k_daysGone]))] s.heap := hP
  have fl_37 := hts (.fieldLink RX3 37 "PendulumHall$Clocks" "clockCount" "I") (by decide +kernel)
  have in_X3 : ∀ w ∈ wsX30, w ∈ wsX3_has := by decide +kernel
  have hl := lv_entry ([.ref kA, vI p0]) (n := 2) (Nat.le_of_ble_eq_true rfl)
  rw [lg_entry_eq]
  generalize (lg_sl ([.ref kA, vI p0]) ++ List.replicate (2 - (lg_sl ([.ref kA, vI p0])).length) Slot.unset).toArray = ls at hl ⊢
  have hl : lv_has ls 2 [(0, .ref kA), (1, vI p0)] := hl
  refine lv_iload_n (pc := 0) hx hb dX3_has_0 rfl (lv_at hl 1 rfl) ?_
  refine z_if_lt (pc := 1) (tgt := 16) hx hb dX3_has_1 (by decide) (by omega) (fun c_1 => ?_) (fun c_1 => ?_)
  · have hc_1t := c_1
    refine z_iconst (pc := 16) hx hb dX3_has_16 ?_
    have hv : (0) = (pI (0 ≤ p0 ∧ p0 < k_clockCount)) := by first | rfl | exact (pI_t (by omega)).symm | exact (pI_f (by omega)).symm | omega
    exact W.zret (pc := 17) (v := zI 0) hx hb hr (z_narB (by first | exact z_pI01 _ | omega | decide)) (fun t ht hW => ⟨congrArg (fun z => Outcome.returned (some (vI z))) hv, ht⟩) (fun q h => absurd h List.not_mem_nil) dX3_has_17
  · have hc_1f := c_1
    refine lv_iload_n (pc := 4) hx hb dX3_has_4 rfl (lv_at hl 1 rfl) ?_
    refine lv_aload_n (pc := 5) hx hb dX3_has_5 rfl (lv_at hl 0 rfl) ?_
    refine va_get (pc := 6) (D := D) (ci := 2) (v := vI k_clockCount) (C := RX3) (T := TX3) (N := 10) hx hb hts in_X3 hown hK hP 0 rfl rfl 6 (by decide) fl_37 (fun _ h9 => h9) rfl dX3_has_6 ?_
    refine z_icmp_ge (pc := 9) (tgt := 16) hx hb dX3_has_9 (by decide) (by omega) (by omega) (fun c_2 => ?_) (fun c_2 => ?_)
    · have hc_9t := c_2
      refine z_iconst (pc := 16) hx hb dX3_has_16 ?_
      have hv : (0) = (pI (0 ≤ p0 ∧ p0 < k_clockCount)) := by first | rfl | exact (pI_t (by omega)).symm | exact (pI_f (by omega)).symm | omega
      exact W.zret (pc := 17) (v := zI 0) hx hb hr (z_narB (by first | exact z_pI01 _ | omega | decide)) (fun t ht hW => ⟨congrArg (fun z => Outcome.returned (some (vI z))) hv, ht⟩) (fun q h => absurd h List.not_mem_nil) dX3_has_17
    · have hc_9f := c_2
      refine z_iconst (pc := 12) hx hb dX3_has_12 ?_
      refine lv_goto (pc := 13) (tgt := 17) hx hb dX3_has_13 (by decide) ?_
      have hv : (1) = (pI (0 ≤ p0 ∧ p0 < k_clockCount)) := by first | rfl | exact (pI_t (by omega)).symm | exact (pI_f (by omega)).symm | omega
      exact W.zret (pc := 17) (v := zI 1) hx hb hr (z_narB (by first | exact z_pI01 _ | omega | decide)) (fun t ht hW => ⟨congrArg (fun z => Outcome.returned (some (vI z))) hv, ht⟩) (fun q h => absurd h List.not_mem_nil) dX3_has_17

set_option maxHeartbeats 4000000 in
set_option maxRecDepth 100000 in
theorem m_X3_isFull (l : Launch) (D : va_G) (cI cJ cZ cD : ClassId) (sz : Nat) (kA : Nat) (k_stretches : Nat) (k_arcs : Nat) (k_cheeks : Nat) (k_adjustments : Nat) (k_offs : Nat) (k_sorted : Nat) (k_clockCount : Int) (k_nowHeat : Int) (k_nowPressure : Int) (k_daysGone : Int) (hn : 0 ≤ k_clockCount ∧ k_clockCount ≤ 10) : Met l yX3_isFull wsX3_isFull ({ frames := 0, cells := 0, slots := 0, locals := 0 } : Room) (zPc D (TY cI cJ cZ cD) sz [.ref kA] [(kA, .inr (2, [.ref k_stretches, .ref k_arcs, .ref k_cheeks, .ref k_adjustments, .ref k_offs, .ref k_sorted, vI k_clockCount, vI k_nowHeat, vI k_nowPressure, vL k_daysGone]))]) (zQr (some (vI (pI (k_clockCount = 10))))) 0 0 (fun _ => False) := by
  refine Met.ofW (cc := cX3_isFull) (maxL := 1) (ret := (some .boolean)) (by decide) rfl ?_
  intro p e s m args below meth c s₁ B hml hv
  obtain ⟨rfl, hsz, hP, hK, hD0, hN⟩ := hv
  have hx := B.exec
  have hb := B.bytes
  have hr := B.returns
  have hts := atoms_spec (ws := wsX3_isFull) B.pre
  have hown : s.vm.findClass RX3 = some m.cls := findClass_of_methodNamed B.named
  have hlocks := B.notSynchronized
  have hD := hD0
  subst hsz
  have hP : va_P D vwCl [(kA, .inr (2, [.ref k_stretches, .ref k_arcs, .ref k_cheeks, .ref k_adjustments, .ref k_offs, .ref k_sorted, vI k_clockCount, vI k_nowHeat, vI k_nowPressure, vL k_daysGone]))] s.heap := hP
  have fl_37 := hts (.fieldLink RX3 37 "PendulumHall$Clocks" "clockCount" "I") (by decide +kernel)
  have in_X3 : ∀ w ∈ wsX30, w ∈ wsX3_isFull := by decide +kernel
  have hl := lv_entry ([.ref kA]) (n := 1) (Nat.le_of_ble_eq_true rfl)
  rw [lg_entry_eq]
  generalize (lg_sl ([.ref kA]) ++ List.replicate (1 - (lg_sl ([.ref kA])).length) Slot.unset).toArray = ls at hl ⊢
  have hl : lv_has ls 1 [(0, .ref kA)] := hl
  refine lv_aload_n (pc := 0) hx hb dX3_isFull_0 rfl (lv_at hl 0 rfl) ?_
  refine va_get (pc := 1) (D := D) (ci := 2) (v := vI k_clockCount) (C := RX3) (T := TX3) (N := 10) hx hb hts in_X3 hown hK hP 0 rfl rfl 6 (by decide) fl_37 (fun _ h9 => h9) rfl dX3_isFull_1 ?_
  refine z_bipush (pc := 4) hx hb dX3_isFull_4 (by decide) ?_
  refine z_icmp_lt (pc := 6) (tgt := 13) hx hb dX3_isFull_6 (by decide) (by omega) (by decide) (fun c_1 => ?_) (fun c_1 => ?_)
  · have hc_6t := c_1
    refine z_iconst (pc := 13) hx hb dX3_isFull_13 ?_
    have hv : (0) = (pI (k_clockCount = 10)) := by first | rfl | exact (pI_t (by omega)).symm | exact (pI_f (by omega)).symm | omega
    exact W.zret (pc := 14) (v := zI 0) hx hb hr (z_narB (by first | exact z_pI01 _ | omega | decide)) (fun t ht hW => ⟨congrArg (fun z => Outcome.returned (some (vI z))) hv, ht⟩) (fun q h => absurd h List.not_mem_nil) dX3_isFull_14
  · have hc_6f := c_1
    refine z_iconst (pc := 9) hx hb dX3_isFull_9 ?_
    refine lv_goto (pc := 10) (tgt := 14) hx hb dX3_isFull_10 (by decide) ?_
    have hv : (1) = (pI (k_clockCount = 10)) := by first | rfl | exact (pI_t (by omega)).symm | exact (pI_f (by omega)).symm | omega
    exact W.zret (pc := 14) (v := zI 1) hx hb hr (z_narB (by first | exact z_pI01 _ | omega | decide)) (fun t ht hW => ⟨congrArg (fun z => Outcome.returned (some (vI z))) hv, ht⟩) (fun q h => absurd h List.not_mem_nil) dX3_isFull_14

set_option maxHeartbeats 4000000 in
set_option maxRecDepth 100000 in
theorem m_X3_swapHeat (l : Launch) (D : va_G) (cI cJ cZ cD : ClassId) (sz : Nat) (kA : Nat) (k_stretches : Nat) (k_arcs : Nat) (k_cheeks : Nat) (k_adjustments : Nat) (k_offs : Nat) (k_sorted : Nat) (k_clockCount : Int) (k_nowHeat : Int) (k_nowPressure : Int) (k_daysGone : Int) (p0 : Int) : Met l yX3_swapHeat wsX3_swapHeat ({ frames := 0, cells := 0, slots := 0, locals := 0 } : Room) (zPc D (TY cI cJ cZ cD) sz [.ref kA, vI p0] [(kA, .inr (2, [.ref k_stretches, .ref k_arcs, .ref k_cheeks, .ref k_adjustments, .ref k_offs, .ref k_sorted, vI k_clockCount, vI k_nowHeat, vI k_nowPressure, vL k_daysGone]))]) (va_Qi (fun (r : Int32) (u : Unit) => match u with | _ => r = zI k_nowHeat ∧ (True)) (zB D (va_A [(kA, .inr (2, [.ref k_stretches, .ref k_arcs, .ref k_cheeks, .ref k_adjustments, .ref k_offs, .ref k_sorted, vI k_clockCount, vI k_nowHeat, vI k_nowPressure, vL k_daysGone]))] sz) (fun (u : Unit) => match u with | _ => [(kA, .inr (2, [.ref k_stretches, .ref k_arcs, .ref k_cheeks, .ref k_adjustments, .ref k_offs, .ref k_sorted, vI k_clockCount, vI p0, vI k_nowPressure, vL k_daysGone]))])) (va_A [(kA, .inr (2, [.ref k_stretches, .ref k_arcs, .ref k_cheeks, .ref k_adjustments, .ref k_offs, .ref k_sorted, vI k_clockCount, vI k_nowHeat, vI k_nowPressure, vL k_daysGone]))] sz)) 0 0 (va_A [(kA, .inr (2, [.ref k_stretches, .ref k_arcs, .ref k_cheeks, .ref k_adjustments, .ref k_offs, .ref k_sorted, vI k_clockCount, vI k_nowHeat, vI k_nowPressure, vL k_daysGone]))] sz) := by
  refine Met.ofW (cc := cX3_swapHeat) (maxL := 3) (ret := (some .int)) (by decide) rfl ?_
  intro p e s m args below meth c s₁ B hml hv
  obtain ⟨rfl, hsz, hP, hK, hD0, hN⟩ := hv
  have hx := B.exec
  have hb := B.bytes
  have hr := B.returns
  have hts := atoms_spec (ws := wsX3_swapHeat) B.pre
  have hown : s.vm.findClass RX3 = some m.cls := findClass_of_methodNamed B.named
  have hlocks := B.notSynchronized
  subst hsz
  have hD := hD0.self (sz := s.heap.size)
  generalize hAe : va_A [(kA, .inr (2, [.ref k_stretches, .ref k_arcs, .ref k_cheeks, .ref k_adjustments, .ref k_offs, .ref k_sorted, vI k_clockCount, vI k_nowHeat, vI k_nowPressure, vL k_daysGone]))] s.heap.size = A at hD ⊢
  have hA : ∀ q : Nat, s.heap.size ≤ q → A q := fun q h => by rw [← hAe]; exact Or.inr h
  have hS : va_S A s.heap s.heap [] := va_S.rf
  have hP : va_P D vwCl [(kA, .inr (2, [.ref k_stretches, .ref k_arcs, .ref k_cheeks, .ref k_adjustments, .ref k_offs, .ref k_sorted, vI k_clockCount, vI k_nowHeat, vI k_nowPressure, vL k_daysGone]))] s.heap := hP
  have fl_30 := hts (.fieldLink RX3 30 "PendulumHall$Clocks" "nowHeat" "I") (by decide +kernel)
  have in_X3 : ∀ w ∈ wsX30, w ∈ wsX3_swapHeat := by decide +kernel
  have hl := lv_entry ([.ref kA, vI p0]) (n := 3) (Nat.le_of_ble_eq_true rfl)
  rw [lg_entry_eq]
  generalize (lg_sl ([.ref kA, vI p0]) ++ List.replicate (3 - (lg_sl ([.ref kA, vI p0])).length) Slot.unset).toArray = ls at hl ⊢
  have hl : lv_has ls 3 [(0, .ref kA), (1, vI p0)] := hl
  refine lv_aload_n (pc := 0) hx hb dX3_swapHeat_0 rfl (lv_at hl 0 rfl) ?_
  refine va_get (pc := 1) (D := D) (ci := 2) (v := vI k_nowHeat) (C := RX3) (T := TX3) (N := 10) hx hb hts in_X3 hown hK hP 0 rfl rfl 7 (by decide) fl_30 (fun _ h9 => h9) rfl dX3_swapHeat_1 ?_
  refine lv_istore_n (lv' := [(2, vI k_nowHeat), (0, .ref kA), (1, vI p0)]) (pc := 4) hx hb dX3_swapHeat_4 rfl hl (by decide) rfl (fun ls hl => ?_)
  refine lv_aload_n (pc := 5) hx hb dX3_swapHeat_5 rfl (lv_at hl 1 rfl) ?_
  refine lv_iload_n (pc := 6) hx hb dX3_swapHeat_6 rfl (lv_at hl 2 rfl) ?_
  refine va_put (pc := 7) (D := D) (ci := 2) (v := vI p0) (ty := .int) (C := RX3) (T := TX3) (N := 10) hx hb hts in_X3 tyX3 tyX3_ok nmX3 hown hK hP hD hS 0 rfl rfl 7 (by decide) fl_30 (fun _ h9 => h9) rfl (by decide +kernel) rfl rfl (Nat.le_of_ble_eq_true rfl) dX3_swapHeat_7 (fun H locs hP hD hS => ?_)
  have hP : va_P D vwCl [(kA, .inr (2, [.ref k_stretches, .ref k_arcs, .ref k_cheeks, .ref k_adjustments, .ref k_offs, .ref k_sorted, vI k_clockCount, vI p0, vI k_nowPressure, vL k_daysGone]))] H := hP
  have hD : va_D A [(kA, .inr (2, [.ref k_stretches, .ref k_arcs, .ref k_cheeks, .ref k_adjustments, .ref k_offs, .ref k_sorted, vI k_clockCount, vI p0, vI k_nowPressure, vL k_daysGone]))] := hD
  refine lv_iload_n (pc := 10) hx hb dX3_swapHeat_10 rfl (lv_at hl 0 rfl) ?_
  have hP9 := hP.sub (ws' := [(kA, .inr (2, [.ref k_stretches, .ref k_arcs, .ref k_cheeks, .ref k_adjustments, .ref k_offs, .ref k_sorted, vI k_clockCount, vI p0, vI k_nowPressure, vL k_daysGone]))]) [0] rfl
  have hD9 := hD.sub (ws' := [(kA, .inr (2, [.ref k_stretches, .ref k_arcs, .ref k_cheeks, .ref k_adjustments, .ref k_offs, .ref k_sorted, vI k_clockCount, vI p0, vI k_nowPressure, vL k_daysGone]))]) [0] (by decide) rfl
  have hv : (k_nowHeat) = (k_nowHeat) := by first | rfl | omega
  exact W.iret (pc := 11) (v := zI k_nowHeat) hx hb hr (fun t ht hW => ⟨⟨zI k_nowHeat, (), rfl, ⟨congrArg zI hv, trivial⟩, by rw [ht]; exact hP9, hD9⟩, hS.F ht⟩) hS.2.2 dX3_swapHeat_11

set_option maxHeartbeats 4000000 in
set_option maxRecDepth 100000 in
theorem m_X3_swapPressure (l : Launch) (D : va_G) (cI cJ cZ cD : ClassId) (sz : Nat) (kA : Nat) (k_stretches : Nat) (k_arcs : Nat) (k_cheeks : Nat) (k_adjustments : Nat) (k_offs : Nat) (k_sorted : Nat) (k_clockCount : Int) (k_nowHeat : Int) (k_nowPressure : Int) (k_daysGone : Int) (p0 : Int) : Met l yX3_swapPressure wsX3_swapPressure ({ frames := 0, cells := 0, slots := 0, locals := 0 } : Room) (zPc D (TY cI cJ cZ cD) sz [.ref kA, vI p0] [(kA, .inr (2, [.ref k_stretches, .ref k_arcs, .ref k_cheeks, .ref k_adjustments, .ref k_offs, .ref k_sorted, vI k_clockCount, vI k_nowHeat, vI k_nowPressure, vL k_daysGone]))]) (va_Qi (fun (r : Int32) (u : Unit) => match u with | _ => r = zI k_nowPressure ∧ (True)) (zB D (va_A [(kA, .inr (2, [.ref k_stretches, .ref k_arcs, .ref k_cheeks, .ref k_adjustments, .ref k_offs, .ref k_sorted, vI k_clockCount, vI k_nowHeat, vI k_nowPressure, vL k_daysGone]))] sz) (fun (u : Unit) => match u with | _ => [(kA, .inr (2, [.ref k_stretches, .ref k_arcs, .ref k_cheeks, .ref k_adjustments, .ref k_offs, .ref k_sorted, vI k_clockCount, vI k_nowHeat, vI p0, vL k_daysGone]))])) (va_A [(kA, .inr (2, [.ref k_stretches, .ref k_arcs, .ref k_cheeks, .ref k_adjustments, .ref k_offs, .ref k_sorted, vI k_clockCount, vI k_nowHeat, vI k_nowPressure, vL k_daysGone]))] sz)) 0 0 (va_A [(kA, .inr (2, [.ref k_stretches, .ref k_arcs, .ref k_cheeks, .ref k_adjustments, .ref k_offs, .ref k_sorted, vI k_clockCount, vI k_nowHeat, vI k_nowPressure, vL k_daysGone]))] sz) := by
  refine Met.ofW (cc := cX3_swapPressure) (maxL := 3) (ret := (some .int)) (by decide) rfl ?_
  intro p e s m args below meth c s₁ B hml hv
  obtain ⟨rfl, hsz, hP, hK, hD0, hN⟩ := hv
  have hx := B.exec
  have hb := B.bytes
  have hr := B.returns
  have hts := atoms_spec (ws := wsX3_swapPressure) B.pre
  have hown : s.vm.findClass RX3 = some m.cls := findClass_of_methodNamed B.named
  have hlocks := B.notSynchronized
  subst hsz
  have hD := hD0.self (sz := s.heap.size)
  generalize hAe : va_A [(kA, .inr (2, [.ref k_stretches, .ref k_arcs, .ref k_cheeks, .ref k_adjustments, .ref k_offs, .ref k_sorted, vI k_clockCount, vI k_nowHeat, vI k_nowPressure, vL k_daysGone]))] s.heap.size = A at hD ⊢
  have hA : ∀ q : Nat, s.heap.size ≤ q → A q := fun q h => by rw [← hAe]; exact Or.inr h
  have hS : va_S A s.heap s.heap [] := va_S.rf
  have hP : va_P D vwCl [(kA, .inr (2, [.ref k_stretches, .ref k_arcs, .ref k_cheeks, .ref k_adjustments, .ref k_offs, .ref k_sorted, vI k_clockCount, vI k_nowHeat, vI k_nowPressure, vL k_daysGone]))] s.heap := hP
  have fl_34 := hts (.fieldLink RX3 34 "PendulumHall$Clocks" "nowPressure" "I") (by decide +kernel)
  have in_X3 : ∀ w ∈ wsX30, w ∈ wsX3_swapPressure := by decide +kernel
  have hl := lv_entry ([.ref kA, vI p0]) (n := 3) (Nat.le_of_ble_eq_true rfl)
  rw [lg_entry_eq]
  generalize (lg_sl ([.ref kA, vI p0]) ++ List.replicate (3 - (lg_sl ([.ref kA, vI p0])).length) Slot.unset).toArray = ls at hl ⊢
  have hl : lv_has ls 3 [(0, .ref kA), (1, vI p0)] := hl
  refine lv_aload_n (pc := 0) hx hb dX3_swapPressure_0 rfl (lv_at hl 0 rfl) ?_
  refine va_get (pc := 1) (D := D) (ci := 2) (v := vI k_nowPressure) (C := RX3) (T := TX3) (N := 10) hx hb hts in_X3 hown hK hP 0 rfl rfl 8 (by decide) fl_34 (fun _ h9 => h9) rfl dX3_swapPressure_1 ?_
  refine lv_istore_n (lv' := [(2, vI k_nowPressure), (0, .ref kA), (1, vI p0)]) (pc := 4) hx hb dX3_swapPressure_4 rfl hl (by decide) rfl (fun ls hl => ?_)
  refine lv_aload_n (pc := 5) hx hb dX3_swapPressure_5 rfl (lv_at hl 1 rfl) ?_
  refine lv_iload_n (pc := 6) hx hb dX3_swapPressure_6 rfl (lv_at hl 2 rfl) ?_
  refine va_put (pc := 7) (D := D) (ci := 2) (v := vI p0) (ty := .int) (C := RX3) (T := TX3) (N := 10) hx hb hts in_X3 tyX3 tyX3_ok nmX3 hown hK hP hD hS 0 rfl rfl 8 (by decide) fl_34 (fun _ h9 => h9) rfl (by decide +kernel) rfl rfl (Nat.le_of_ble_eq_true rfl) dX3_swapPressure_7 (fun H locs hP hD hS => ?_)
  have hP : va_P D vwCl [(kA, .inr (2, [.ref k_stretches, .ref k_arcs, .ref k_cheeks, .ref k_adjustments, .ref k_offs, .ref k_sorted, vI k_clockCount, vI k_nowHeat, vI p0, vL k_daysGone]))] H := hP
  have hD : va_D A [(kA, .inr (2, [.ref k_stretches, .ref k_arcs, .ref k_cheeks, .ref k_adjustments, .ref k_offs, .ref k_sorted, vI k_clockCount, vI k_nowHeat, vI p0, vL k_daysGone]))] := hD
  refine lv_iload_n (pc := 10) hx hb dX3_swapPressure_10 rfl (lv_at hl 0 rfl) ?_
  have hP9 := hP.sub (ws' := [(kA, .inr (2, [.ref k_stretches, .ref k_arcs, .ref k_cheeks, .ref k_adjustments, .ref k_offs, .ref k_sorted, vI k_clockCount, vI k_nowHeat, vI p0, vL k_daysGone]))]) [0] rfl
  have hD9 := hD.sub (ws' := [(kA, .inr (2, [.ref k_stretches, .ref k_arcs, .ref k_cheeks, .ref k_adjustments, .ref k_offs, .ref k_sorted, vI k_clockCount, vI k_nowHeat, vI p0, vL k_daysGone]))]) [0] (by decide) rfl
  have hv : (k_nowPressure) = (k_nowPressure) := by first | rfl | omega
  exact W.iret (pc := 11) (v := zI k_nowPressure) hx hb hr (fun t ht hW => ⟨⟨zI k_nowPressure, (), rfl, ⟨congrArg zI hv, trivial⟩, by rw [ht]; exact hP9, hD9⟩, hS.F ht⟩) hS.2.2 dX3_swapPressure_11

set_option maxHeartbeats 4000000 in
set_option maxRecDepth 100000 in
theorem m_X3_adjust (l : Launch) (D : va_G) (cI cJ cZ cD : ClassId) (sz : Nat) (kA : Nat) (k_stretches : Nat) (k_arcs : Nat) (k_cheeks : Nat) (k_adjustments : Nat) (k_offs : Nat) (k_sorted : Nat) (k_clockCount : Int) (k_nowHeat : Int) (k_nowPressure : Int) (k_daysGone : Int) (k_arcs_c : Int → Int) (k_adjustments_c : Int → Int) (p0 : Int) (p1 : Int) (p2 : Int) (hi : 0 ≤ p0 ∧ p0 < 10) : Met l yX3_adjust wsX3_adjust ({ frames := 0, cells := 0, slots := 0, locals := 0 } : Room) (zPc D (TY cI cJ cZ cD) sz [.ref kA, vI p0, vI p1, vI p2] [(kA, .inr (2, [.ref k_stretches, .ref k_arcs, .ref k_cheeks, .ref k_adjustments, .ref k_offs, .ref k_sorted, vI k_clockCount, vI k_nowHeat, vI k_nowPressure, vL k_daysGone])), (k_arcs, .inl (cI, 10, .inl (aI k_arcs_c))), (k_adjustments, .inl (cI, 10, .inl (aI k_adjustments_c)))]) (va_Qv (fun (u : Unit) => match u with | _ => True) (zB D (va_A [(kA, .inr (2, [.ref k_stretches, .ref k_arcs, .ref k_cheeks, .ref k_adjustments, .ref k_offs, .ref k_sorted, vI k_clockCount, vI k_nowHeat, vI k_nowPressure, vL k_daysGone])), (k_arcs, .inl (cI, 10, .inl (aI k_arcs_c))), (k_adjustments, .inl (cI, 10, .inl (aI k_adjustments_c)))] sz) (fun (u : Unit) => match u with | _ => [(kA, .inr (2, [.ref k_stretches, .ref k_arcs, .ref k_cheeks, .ref k_adjustments, .ref k_offs, .ref k_sorted, vI k_clockCount, vI k_nowHeat, vI k_nowPressure, vL k_daysGone])), (k_arcs, .inl (cI, 10, .inl (aI (uZ k_arcs_c p0 p1)))), (k_adjustments, .inl (cI, 10, .inl (aI (uZ k_adjustments_c p0 p2))))])) (va_A [(kA, .inr (2, [.ref k_stretches, .ref k_arcs, .ref k_cheeks, .ref k_adjustments, .ref k_offs, .ref k_sorted, vI k_clockCount, vI k_nowHeat, vI k_nowPressure, vL k_daysGone])), (k_arcs, .inl (cI, 10, .inl (aI k_arcs_c))), (k_adjustments, .inl (cI, 10, .inl (aI k_adjustments_c)))] sz)) 0 0 (va_A [(kA, .inr (2, [.ref k_stretches, .ref k_arcs, .ref k_cheeks, .ref k_adjustments, .ref k_offs, .ref k_sorted, vI k_clockCount, vI k_nowHeat, vI k_nowPressure, vL k_daysGone])), (k_arcs, .inl (cI, 10, .inl (aI k_arcs_c))), (k_adjustments, .inl (cI, 10, .inl (aI k_adjustments_c)))] sz) := by
  refine Met.ofW (cc := cX3_adjust) (maxL := 4) (ret := none) (by decide) rfl ?_
  intro p e s m args below meth c s₁ B hml hv
  obtain ⟨rfl, hsz, hP, hK, hD0, hN⟩ := hv
  have hx := B.exec
  have hb := B.bytes
  have hr := B.returns
  have hts := atoms_spec (ws := wsX3_adjust) B.pre
  have hown : s.vm.findClass RX3 = some m.cls := findClass_of_methodNamed B.named
  have hlocks := B.notSynchronized
  subst hsz
  have hD := hD0.self (sz := s.heap.size)
  generalize hAe : va_A [(kA, .inr (2, [.ref k_stretches, .ref k_arcs, .ref k_cheeks, .ref k_adjustments, .ref k_offs, .ref k_sorted, vI k_clockCount, vI k_nowHeat, vI k_nowPressure, vL k_daysGone])), (k_arcs, .inl (cI, 10, .inl (aI k_arcs_c))), (k_adjustments, .inl (cI, 10, .inl (aI k_adjustments_c)))] s.heap.size = A at hD ⊢
  have hA : ∀ q : Nat, s.heap.size ≤ q → A q := fun q h => by rw [← hAe]; exact Or.inr h
  have hS : va_S A s.heap s.heap [] := va_S.rf
  have hP : va_P D vwCl [(kA, .inr (2, [.ref k_stretches, .ref k_arcs, .ref k_cheeks, .ref k_adjustments, .ref k_offs, .ref k_sorted, vI k_clockCount, vI k_nowHeat, vI k_nowPressure, vL k_daysGone])), (k_arcs, .inl (cI, 10, .inl (aI k_arcs_c))), (k_adjustments, .inl (cI, 10, .inl (aI k_adjustments_c)))] s.heap := hP
  have fl_13 := hts (.fieldLink RX3 13 "PendulumHall$Clocks" "arcs" "[I") (by decide +kernel)
  have fl_20 := hts (.fieldLink RX3 20 "PendulumHall$Clocks" "adjustments" "[I") (by decide +kernel)
  have in_X3 : ∀ w ∈ wsX30, w ∈ wsX3_adjust := by decide +kernel
  have hl := lv_entry ([.ref kA, vI p0, vI p1, vI p2]) (n := 4) (Nat.le_of_ble_eq_true rfl)
  rw [lg_entry_eq]
  generalize (lg_sl ([.ref kA, vI p0, vI p1, vI p2]) ++ List.replicate (4 - (lg_sl ([.ref kA, vI p0, vI p1, vI p2])).length) Slot.unset).toArray = ls at hl ⊢
  have hl : lv_has ls 4 [(0, .ref kA), (1, vI p0), (2, vI p1), (3, vI p2)] := hl
  refine lv_aload_n (pc := 0) hx hb dX3_adjust_0 rfl (lv_at hl 0 rfl) ?_
  refine va_get (pc := 1) (D := D) (ci := 2) (v := .ref k_arcs) (C := RX3) (T := TX3) (N := 10) hx hb hts in_X3 hown hK hP 0 rfl rfl 1 (by decide) fl_13 (fun _ h9 => h9) rfl dX3_adjust_1 ?_
  refine lv_iload_n (pc := 4) hx hb dX3_adjust_4 rfl (lv_at hl 1 rfl) ?_
  refine lv_iload_n (pc := 5) hx hb dX3_adjust_5 rfl (lv_at hl 2 rfl) ?_
  refine z_iast (pc := 6) hx hb hK hP hD hS 1 0 (by omega) rfl rfl (by first | decide | omega) dX3_adjust_6 (fun H locs hP hD hS => ?_)
  have hP : va_P D vwCl [(kA, .inr (2, [.ref k_stretches, .ref k_arcs, .ref k_cheeks, .ref k_adjustments, .ref k_offs, .ref k_sorted, vI k_clockCount, vI k_nowHeat, vI k_nowPressure, vL k_daysGone])), (k_arcs, .inl (cI, 10, .inl (aI (uZ k_arcs_c p0 p1)))), (k_adjustments, .inl (cI, 10, .inl (aI k_adjustments_c)))] H := hP
  have hD : va_D A [(kA, .inr (2, [.ref k_stretches, .ref k_arcs, .ref k_cheeks, .ref k_adjustments, .ref k_offs, .ref k_sorted, vI k_clockCount, vI k_nowHeat, vI k_nowPressure, vL k_daysGone])), (k_arcs, .inl (cI, 10, .inl (aI (uZ k_arcs_c p0 p1)))), (k_adjustments, .inl (cI, 10, .inl (aI k_adjustments_c)))] := hD
  refine lv_aload_n (pc := 7) hx hb dX3_adjust_7 rfl (lv_at hl 0 rfl) ?_
  refine va_get (pc := 8) (D := D) (ci := 2) (v := .ref k_adjustments) (C := RX3) (T := TX3) (N := 10) hx hb hts in_X3 hown hK hP 0 rfl rfl 3 (by decide) fl_20 (fun _ h9 => h9) rfl dX3_adjust_8 ?_
  refine lv_iload_n (pc := 11) hx hb dX3_adjust_11 rfl (lv_at hl 1 rfl) ?_
  refine lv_iload_n (pc := 12) hx hb dX3_adjust_12 rfl (lv_at hl 3 rfl) ?_
  refine z_iast (pc := 13) hx hb hK hP hD hS 2 0 (by omega) rfl rfl (by first | decide | omega) dX3_adjust_13 (fun H locs hP hD hS => ?_)
  have hP : va_P D vwCl [(kA, .inr (2, [.ref k_stretches, .ref k_arcs, .ref k_cheeks, .ref k_adjustments, .ref k_offs, .ref k_sorted, vI k_clockCount, vI k_nowHeat, vI k_nowPressure, vL k_daysGone])), (k_arcs, .inl (cI, 10, .inl (aI (uZ k_arcs_c p0 p1)))), (k_adjustments, .inl (cI, 10, .inl (aI (uZ k_adjustments_c p0 p2))))] H := hP
  have hD : va_D A [(kA, .inr (2, [.ref k_stretches, .ref k_arcs, .ref k_cheeks, .ref k_adjustments, .ref k_offs, .ref k_sorted, vI k_clockCount, vI k_nowHeat, vI k_nowPressure, vL k_daysGone])), (k_arcs, .inl (cI, 10, .inl (aI (uZ k_arcs_c p0 p1)))), (k_adjustments, .inl (cI, 10, .inl (aI (uZ k_adjustments_c p0 p2))))] := hD
  have hP9 := hP.sub (ws' := [(kA, .inr (2, [.ref k_stretches, .ref k_arcs, .ref k_cheeks, .ref k_adjustments, .ref k_offs, .ref k_sorted, vI k_clockCount, vI k_nowHeat, vI k_nowPressure, vL k_daysGone])), (k_arcs, .inl (cI, 10, .inl (aI (uZ k_arcs_c p0 p1)))), (k_adjustments, .inl (cI, 10, .inl (aI (uZ k_adjustments_c p0 p2))))]) [0, 1, 2] rfl
  have hD9 := hD.sub (ws' := [(kA, .inr (2, [.ref k_stretches, .ref k_arcs, .ref k_cheeks, .ref k_adjustments, .ref k_offs, .ref k_sorted, vI k_clockCount, vI k_nowHeat, vI k_nowPressure, vL k_daysGone])), (k_arcs, .inl (cI, 10, .inl (aI (uZ k_arcs_c p0 p1)))), (k_adjustments, .inl (cI, 10, .inl (aI (uZ k_adjustments_c p0 p2))))]) [0, 1, 2] (by decide) rfl
  exact W.vret (pc := 14) hx hb hr (fun t ht hW => ⟨⟨(), rfl, trivial, by rw [ht]; exact hP9, hD9⟩, hS.F ht⟩) hS.2.2 dX3_adjust_14

set_option maxHeartbeats 4000000 in
set_option maxRecDepth 100000 in
theorem m_X3_swapOff (l : Launch) (D : va_G) (cI cJ cZ cD : ClassId) (sz : Nat) (kA : Nat) (k_stretches : Nat) (k_arcs : Nat) (k_cheeks : Nat) (k_adjustments : Nat) (k_offs : Nat) (k_sorted : Nat) (k_clockCount : Int) (k_nowHeat : Int) (k_nowPressure : Int) (k_daysGone : Int) (k_offs_c : Int → Int) (p0 : Int) (p1 : Int) (hi : 0 ≤ p0 ∧ p0 < 10) (h1 : -2147483648 ≤ p1 ∧ p1 < 2147483648) : Met l yX3_swapOff wsX3_swapOff ({ frames := 0, cells := 0, slots := 0, locals := 0 } : Room) (zPc D (TY cI cJ cZ cD) sz [.ref kA, vI p0, vI p1] [(kA, .inr (2, [.ref k_stretches, .ref k_arcs, .ref k_cheeks, .ref k_adjustments, .ref k_offs, .ref k_sorted, vI k_clockCount, vI k_nowHeat, vI k_nowPressure, vL k_daysGone])), (k_offs, .inl (cJ, 10, .inr (.inl (aL k_offs_c))))]) (va_Ql (fun (r : Int64) (u : Unit) => match u with | _ => r = zL (k_offs_c p0) ∧ (True)) (zB D (va_A [(kA, .inr (2, [.ref k_stretches, .ref k_arcs, .ref k_cheeks, .ref k_adjustments, .ref k_offs, .ref k_sorted, vI k_clockCount, vI k_nowHeat, vI k_nowPressure, vL k_daysGone])), (k_offs, .inl (cJ, 10, .inr (.inl (aL k_offs_c))))] sz) (fun (u : Unit) => match u with | _ => [(kA, .inr (2, [.ref k_stretches, .ref k_arcs, .ref k_cheeks, .ref k_adjustments, .ref k_offs, .ref k_sorted, vI k_clockCount, vI k_nowHeat, vI k_nowPressure, vL k_daysGone])), (k_offs, .inl (cJ, 10, .inr (.inl (aL (uZ k_offs_c p0 p1)))))])) (va_A [(kA, .inr (2, [.ref k_stretches, .ref k_arcs, .ref k_cheeks, .ref k_adjustments, .ref k_offs, .ref k_sorted, vI k_clockCount, vI k_nowHeat, vI k_nowPressure, vL k_daysGone])), (k_offs, .inl (cJ, 10, .inr (.inl (aL k_offs_c))))] sz)) 0 0 (va_A [(kA, .inr (2, [.ref k_stretches, .ref k_arcs, .ref k_cheeks, .ref k_adjustments, .ref k_offs, .ref k_sorted, vI k_clockCount, vI k_nowHeat, vI k_nowPressure, vL k_daysGone])), (k_offs, .inl (cJ, 10, .inr (.inl (aL k_offs_c))))] sz) := by
  refine Met.ofW (cc := cX3_swapOff) (maxL := 5) (ret := (some .long)) (by decide) rfl ?_
  intro p e s m args below meth c s₁ B hml hv
  obtain ⟨rfl, hsz, hP, hK, hD0, hN⟩ := hv
  have hx := B.exec
  have hb := B.bytes
  have hr := B.returns
  have hts := atoms_spec (ws := wsX3_swapOff) B.pre
  have hown : s.vm.findClass RX3 = some m.cls := findClass_of_methodNamed B.named
  have hlocks := B.notSynchronized
  subst hsz
  have hD := hD0.self (sz := s.heap.size)
  generalize hAe : va_A [(kA, .inr (2, [.ref k_stretches, .ref k_arcs, .ref k_cheeks, .ref k_adjustments, .ref k_offs, .ref k_sorted, vI k_clockCount, vI k_nowHeat, vI k_nowPressure, vL k_daysGone])), (k_offs, .inl (cJ, 10, .inr (.inl (aL k_offs_c))))] s.heap.size = A at hD ⊢
  have hA : ∀ q : Nat, s.heap.size ≤ q → A q := fun q h => by rw [← hAe]; exact Or.inr h
  have hS : va_S A s.heap s.heap [] := va_S.rf
  have hP : va_P D vwCl [(kA, .inr (2, [.ref k_stretches, .ref k_arcs, .ref k_cheeks, .ref k_adjustments, .ref k_offs, .ref k_sorted, vI k_clockCount, vI k_nowHeat, vI k_nowPressure, vL k_daysGone])), (k_offs, .inl (cJ, 10, .inr (.inl (aL k_offs_c))))] s.heap := hP
  have fl_23 := hts (.fieldLink RX3 23 "PendulumHall$Clocks" "offs" "[J") (by decide +kernel)
  have in_X3 : ∀ w ∈ wsX30, w ∈ wsX3_swapOff := by decide +kernel
  have hl := lv_entry ([.ref kA, vI p0, vI p1]) (n := 5) (Nat.le_of_ble_eq_true rfl)
  rw [lg_entry_eq]
  generalize (lg_sl ([.ref kA, vI p0, vI p1]) ++ List.replicate (5 - (lg_sl ([.ref kA, vI p0, vI p1])).length) Slot.unset).toArray = ls at hl ⊢
  have hl : lv_has ls 5 [(0, .ref kA), (1, vI p0), (2, vI p1)] := hl
  refine lv_aload_n (pc := 0) hx hb dX3_swapOff_0 rfl (lv_at hl 0 rfl) ?_
  refine va_get (pc := 1) (D := D) (ci := 2) (v := .ref k_offs) (C := RX3) (T := TX3) (N := 10) hx hb hts in_X3 hown hK hP 0 rfl rfl 4 (by decide) fl_23 (fun _ h9 => h9) rfl dX3_swapOff_1 ?_
  refine lv_iload_n (pc := 4) hx hb dX3_swapOff_4 rfl (lv_at hl 1 rfl) ?_
  refine z_lald (pc := 5) hx hb hK hP 1 1 (by omega) rfl rfl (by first | decide | omega) dX3_swapOff_5 ?_
  refine lv_lstore_n (lv' := [(3, vL (k_offs_c p0)), (0, .ref kA), (1, vI p0), (2, vI p1)]) (pc := 6) hx hb dX3_swapOff_6 rfl hl (by decide) rfl (fun ls hl => ?_)
  refine lv_aload_n (pc := 7) hx hb dX3_swapOff_7 rfl (lv_at hl 1 rfl) ?_
  refine va_get (pc := 8) (D := D) (ci := 2) (v := .ref k_offs) (C := RX3) (T := TX3) (N := 10) hx hb hts in_X3 hown hK hP 0 rfl rfl 4 (by decide) fl_23 (fun _ h9 => h9) rfl dX3_swapOff_8 ?_
  refine lv_iload_n (pc := 11) hx hb dX3_swapOff_11 rfl (lv_at hl 2 rfl) ?_
  refine lv_iload_n (pc := 12) hx hb dX3_swapOff_12 rfl (lv_at hl 3 rfl) ?_
  refine z_i2l (pc := 13) hx hb dX3_swapOff_13 (by omega) ?_
  refine z_last (pc := 14) hx hb hK hP hD hS 1 1 (by omega) rfl rfl (by first | decide | omega) dX3_swapOff_14 (fun H locs hP hD hS => ?_)
  have hP : va_P D vwCl [(kA, .inr (2, [.ref k_stretches, .ref k_arcs, .ref k_cheeks, .ref k_adjustments, .ref k_offs, .ref k_sorted, vI k_clockCount, vI k_nowHeat, vI k_nowPressure, vL k_daysGone])), (k_offs, .inl (cJ, 10, .inr (.inl (aL (uZ k_offs_c p0 p1)))))] H := hP
  have hD : va_D A [(kA, .inr (2, [.ref k_stretches, .ref k_arcs, .ref k_cheeks, .ref k_adjustments, .ref k_offs, .ref k_sorted, vI k_clockCount, vI k_nowHeat, vI k_nowPressure, vL k_daysGone])), (k_offs, .inl (cJ, 10, .inr (.inl (aL (uZ k_offs_c p0 p1)))))] := hD
  refine lv_lload_n (pc := 15) hx hb dX3_swapOff_15 rfl (lv_at hl 0 rfl) ?_
  have hP9 := hP.sub (ws' := [(kA, .inr (2, [.ref k_stretches, .ref k_arcs, .ref k_cheeks, .ref k_adjustments, .ref k_offs, .ref k_sorted, vI k_clockCount, vI k_nowHeat, vI k_nowPressure, vL k_daysGone])), (k_offs, .inl (cJ, 10, .inr (.inl (aL (uZ k_offs_c p0 p1)))))]) [0, 1] rfl
  have hD9 := hD.sub (ws' := [(kA, .inr (2, [.ref k_stretches, .ref k_arcs, .ref k_cheeks, .ref k_adjustments, .ref k_offs, .ref k_sorted, vI k_clockCount, vI k_nowHeat, vI k_nowPressure, vL k_daysGone])), (k_offs, .inl (cJ, 10, .inr (.inl (aL (uZ k_offs_c p0 p1)))))]) [0, 1] (by decide) rfl
  have hv : (k_offs_c p0) = (k_offs_c p0) := by first | rfl | omega
  exact W.lret (pc := 16) (v := zL (k_offs_c p0)) hx hb hr (fun t ht hW => ⟨⟨zL (k_offs_c p0), (), rfl, ⟨congrArg zL hv, trivial⟩, by rw [ht]; exact hP9, hD9⟩, hS.F ht⟩) hS.2.2 dX3_swapOff_16

set_option maxHeartbeats 4000000 in
set_option maxRecDepth 100000 in
theorem m_X3_offOf (l : Launch) (D : va_G) (cI cJ cZ cD : ClassId) (sz : Nat) (kA : Nat) (k_stretches : Nat) (k_arcs : Nat) (k_cheeks : Nat) (k_adjustments : Nat) (k_offs : Nat) (k_sorted : Nat) (k_clockCount : Int) (k_nowHeat : Int) (k_nowPressure : Int) (k_daysGone : Int) (k_offs_c : Int → Int) (p0 : Int) (hi : 0 ≤ p0 ∧ p0 < 10) : Met l yX3_offOf wsX3_offOf ({ frames := 0, cells := 0, slots := 0, locals := 0 } : Room) (zPc D (TY cI cJ cZ cD) sz [.ref kA, vI p0] [(kA, .inr (2, [.ref k_stretches, .ref k_arcs, .ref k_cheeks, .ref k_adjustments, .ref k_offs, .ref k_sorted, vI k_clockCount, vI k_nowHeat, vI k_nowPressure, vL k_daysGone])), (k_offs, .inl (cJ, 10, .inr (.inl (aL k_offs_c))))]) (zQr (some (vL (k_offs_c p0)))) 0 0 (fun _ => False) := by
  refine Met.ofW (cc := cX3_offOf) (maxL := 2) (ret := (some .long)) (by decide) rfl ?_
  intro p e s m args below meth c s₁ B hml hv
  obtain ⟨rfl, hsz, hP, hK, hD0, hN⟩ := hv
  have hx := B.exec
  have hb := B.bytes
  have hr := B.returns
  have hts := atoms_spec (ws := wsX3_offOf) B.pre
  have hown : s.vm.findClass RX3 = some m.cls := findClass_of_methodNamed B.named
  have hlocks := B.notSynchronized
  have hD := hD0
  subst hsz
  have hP : va_P D vwCl [(kA, .inr (2, [.ref k_stretches, .ref k_arcs, .ref k_cheeks, .ref k_adjustments, .ref k_offs, .ref k_sorted, vI k_clockCount, vI k_nowHeat, vI k_nowPressure, vL k_daysGone])), (k_offs, .inl (cJ, 10, .inr (.inl (aL k_offs_c))))] s.heap := hP
  have fl_23 := hts (.fieldLink RX3 23 "PendulumHall$Clocks" "offs" "[J") (by decide +kernel)
  have in_X3 : ∀ w ∈ wsX30, w ∈ wsX3_offOf := by decide +kernel
  have hl := lv_entry ([.ref kA, vI p0]) (n := 2) (Nat.le_of_ble_eq_true rfl)
  rw [lg_entry_eq]
  generalize (lg_sl ([.ref kA, vI p0]) ++ List.replicate (2 - (lg_sl ([.ref kA, vI p0])).length) Slot.unset).toArray = ls at hl ⊢
  have hl : lv_has ls 2 [(0, .ref kA), (1, vI p0)] := hl
  refine lv_aload_n (pc := 0) hx hb dX3_offOf_0 rfl (lv_at hl 0 rfl) ?_
  refine va_get (pc := 1) (D := D) (ci := 2) (v := .ref k_offs) (C := RX3) (T := TX3) (N := 10) hx hb hts in_X3 hown hK hP 0 rfl rfl 4 (by decide) fl_23 (fun _ h9 => h9) rfl dX3_offOf_1 ?_
  refine lv_iload_n (pc := 4) hx hb dX3_offOf_4 rfl (lv_at hl 1 rfl) ?_
  refine z_lald (pc := 5) hx hb hK hP 1 1 (by omega) rfl rfl (by first | decide | omega) dX3_offOf_5 ?_
  have hv : (k_offs_c p0) = (k_offs_c p0) := rfl
  exact W.lret (pc := 6) (v := zL (k_offs_c p0)) hx hb hr (fun t ht hW => ⟨congrArg (fun z => Outcome.returned (some (vL z))) hv, ht⟩) (fun q h => absurd h List.not_mem_nil) dX3_offOf_6

set_option maxHeartbeats 4000000 in
set_option maxRecDepth 100000 in
theorem m_X3_rateOf (l : Launch) (D : va_G) (cI cJ cZ cD : ClassId) (sz : Nat) (kA : Nat) (k_stretches : Nat) (k_arcs : Nat) (k_cheeks : Nat) (k_adjustments : Nat) (k_offs : Nat) (k_sorted : Nat) (k_clockCount : Int) (k_nowHeat : Int) (k_nowPressure : Int) (k_daysGone : Int) (k_stretches_c : Int → Int) (k_arcs_c : Int → Int) (k_cheeks_c : Int → Int) (k_adjustments_c : Int → Int) (p0 : Int) (hi : 0 ≤ p0 ∧ p0 < 10) (hck : ckOK k_stretches_c k_arcs_c k_cheeks_c k_adjustments_c k_nowHeat k_nowPressure) : Met l yX3_rateOf wsX3_rateOf ({ frames := 1, cells := 0, slots := 0, locals := 22 } : Room) (zPc D (TY cI cJ cZ cD) sz [.ref kA, vI p0] [(kA, .inr (2, [.ref k_stretches, .ref k_arcs, .ref k_cheeks, .ref k_adjustments, .ref k_offs, .ref k_sorted, vI k_clockCount, vI k_nowHeat, vI k_nowPressure, vL k_daysGone])), (k_stretches, .inl (cI, 10, .inl (aI k_stretches_c))), (k_arcs, .inl (cI, 10, .inl (aI k_arcs_c))), (k_cheeks, .inl (cZ, 10, .inl (aI k_cheeks_c))), (k_adjustments, .inl (cI, 10, .inl (aI k_adjustments_c)))]) (zQr (some (vI (rateZ k_stretches_c k_arcs_c k_cheeks_c k_adjustments_c k_nowHeat k_nowPressure p0)))) 0 0 (fun _ => False) := by
  refine Met.ofW (cc := cX3_rateOf) (maxL := 3) (ret := (some .int)) (by decide) rfl ?_
  intro p e s m args below meth c s₁ B hml hv
  obtain ⟨rfl, hsz, hP, hK, hD0, hN⟩ := hv
  have hx := B.exec
  have hb := B.bytes
  have hr := B.returns
  have hts := atoms_spec (ws := wsX3_rateOf) B.pre
  have hown : s.vm.findClass RX3 = some m.cls := findClass_of_methodNamed B.named
  have hlocks := B.notSynchronized
  have hD := hD0
  subst hsz
  have hP : va_P D vwCl [(kA, .inr (2, [.ref k_stretches, .ref k_arcs, .ref k_cheeks, .ref k_adjustments, .ref k_offs, .ref k_sorted, vI k_clockCount, vI k_nowHeat, vI k_nowPressure, vL k_daysGone])), (k_stretches, .inl (cI, 10, .inl (aI k_stretches_c))), (k_arcs, .inl (cI, 10, .inl (aI k_arcs_c))), (k_cheeks, .inl (cZ, 10, .inl (aI k_cheeks_c))), (k_adjustments, .inl (cI, 10, .inl (aI k_adjustments_c)))] s.heap := hP
  have fl_13 := hts (.fieldLink RX3 13 "PendulumHall$Clocks" "arcs" "[I") (by decide +kernel)
  have fl_16 := hts (.fieldLink RX3 16 "PendulumHall$Clocks" "cheeks" "[Z") (by decide +kernel)
  have fl_20 := hts (.fieldLink RX3 20 "PendulumHall$Clocks" "adjustments" "[I") (by decide +kernel)
  have fl_30 := hts (.fieldLink RX3 30 "PendulumHall$Clocks" "nowHeat" "I") (by decide +kernel)
  have fl_34 := hts (.fieldLink RX3 34 "PendulumHall$Clocks" "nowPressure" "I") (by decide +kernel)
  have fl_9 := hts (.fieldLink RX3 9 "PendulumHall$Clocks" "stretches" "[I") (by decide +kernel)
  have in_X3 : ∀ w ∈ wsX30, w ∈ wsX3_rateOf := by decide +kernel
  have hl := lv_entry ([.ref kA, vI p0]) (n := 3) (Nat.le_of_ble_eq_true rfl)
  rw [lg_entry_eq]
  generalize (lg_sl ([.ref kA, vI p0]) ++ List.replicate (3 - (lg_sl ([.ref kA, vI p0])).length) Slot.unset).toArray = ls at hl ⊢
  have hl : lv_has ls 3 [(0, .ref kA), (1, vI p0)] := hl
  obtain ⟨hm1, hm2, hm3, hm4⟩ := rateZ_m hck hi
  have hc3 := (hck.1 p0 hi.1 hi.2).2.2.1
  refine z_sipush (pc := 0) hx hb dX3_rateOf_0 (by decide) ?_
  refine lv_aload_n (pc := 3) hx hb dX3_rateOf_3 rfl (lv_at hl 0 rfl) ?_
  refine va_get (pc := 4) (D := D) (ci := 2) (v := .ref k_stretches) (C := RX3) (T := TX3) (N := 10) hx hb hts in_X3 hown hK hP 0 rfl rfl 0 (by decide) fl_9 (fun _ h9 => h9) rfl dX3_rateOf_4 ?_
  refine lv_iload_n (pc := 7) hx hb dX3_rateOf_7 rfl (lv_at hl 1 rfl) ?_
  refine z_iald (pc := 8) hx hb hK hP 1 0 (by omega) rfl rfl (by first | decide | omega) dX3_rateOf_8 ?_
  refine z_imul (pc := 9) hx hb dX3_rateOf_9 ?_
  refine lv_aload_n (pc := 10) hx hb dX3_rateOf_10 rfl (lv_at hl 0 rfl) ?_
  refine va_get (pc := 11) (D := D) (ci := 2) (v := vI k_nowHeat) (C := RX3) (T := TX3) (N := 10) hx hb hts in_X3 hown hK hP 0 rfl rfl 7 (by decide) fl_30 (fun _ h9 => h9) rfl dX3_rateOf_11 ?_
  refine z_bipush (pc := 14) hx hb dX3_rateOf_14 (by decide) ?_
  refine z_isub (pc := 16) hx hb dX3_rateOf_16 ?_
  refine z_imul (pc := 17) hx hb dX3_rateOf_17 ?_
  refine z_bipush (pc := 18) hx hb dX3_rateOf_18 (by decide) ?_
  refine z_callR (pc := 20) (va_runS (As := [vI ((432 * (k_stretches_c p0)) * (k_nowHeat - 20)), vI 10]) (rest := []) ⟨hx, hb, hml, hown, hts⟩ (m_J9_floorDiv_7cf53 l D cI cJ cZ cD 0  ((432 * (k_stretches_c p0)) * (k_nowHeat - 20)) 10 (by omega) (by omega)) (va_cwS 2 hts gX3_rateOf_J9_floorDiv_7cf53 rfl rfl rfl (by decide +kernel) ⟨Nat.le_of_ble_eq_true rfl, Nat.le_of_ble_eq_true rfl⟩) ⟨fun a U g mk q => q, fun U hU hW => ⟨rfl, trivial⟩⟩ rfl rfl hl.1 rfl (lv_room (Nat.le_of_ble_eq_true rfl)) dX3_rateOf_20 ⟨Nat.zero_le _, Nat.zero_le _⟩) ?_
  refine lv_istore_n (lv' := [(2, vI (((432 * (k_stretches_c p0)) * (k_nowHeat - 20)) / 10)), (0, .ref kA), (1, vI p0)]) (pc := 23) hx hb dX3_rateOf_23 rfl hl (by decide) rfl (fun ls hl => ?_)
  refine lv_aload_n (pc := 24) hx hb dX3_rateOf_24 rfl (lv_at hl 1 rfl) ?_
  refine va_get (pc := 25) (D := D) (ci := 2) (v := .ref k_cheeks) (C := RX3) (T := TX3) (N := 10) hx hb hts in_X3 hown hK hP 0 rfl rfl 2 (by decide) fl_16 (fun _ h9 => h9) rfl dX3_rateOf_25 ?_
  refine lv_iload_n (pc := 28) hx hb dX3_rateOf_28 rfl (lv_at hl 2 rfl) ?_
  refine z_zald (pc := 29) hx hb hK hP 3 2 (by omega) rfl rfl (by first | decide | omega) dX3_rateOf_29 ?_
  refine z_if_ne (pc := 30) (tgt := 57) hx hb dX3_rateOf_30 (by decide) (by omega) (fun c_1 => ?_) (fun c_1 => ?_)
  · have hc_30t := c_1
    refine lv_aload_n (pc := 57) hx hb dX3_rateOf_57 rfl (lv_at hl 1 rfl) ?_
    refine va_get (pc := 58) (D := D) (ci := 2) (v := .ref k_adjustments) (C := RX3) (T := TX3) (N := 10) hx hb hts in_X3 hown hK hP 0 rfl rfl 3 (by decide) fl_20 (fun _ h9 => h9) rfl dX3_rateOf_58 ?_
    refine lv_iload_n (pc := 61) hx hb dX3_rateOf_61 rfl (lv_at hl 2 rfl) ?_
    refine z_iald (pc := 62) hx hb hK hP 4 0 (by omega) rfl rfl (by first | decide | omega) dX3_rateOf_62 ?_
    refine lv_iload_n (pc := 63) hx hb dX3_rateOf_63 rfl (lv_at hl 0 rfl) ?_
    refine z_isub (pc := 64) hx hb dX3_rateOf_64 ?_
    refine z_bipush (pc := 65) hx hb dX3_rateOf_65 (by decide) ?_
    refine lv_aload_n (pc := 67) hx hb dX3_rateOf_67 rfl (lv_at hl 1 rfl) ?_
    refine va_get (pc := 68) (D := D) (ci := 2) (v := vI k_nowPressure) (C := RX3) (T := TX3) (N := 10) hx hb hts in_X3 hown hK hP 0 rfl rfl 8 (by decide) fl_34 (fun _ h9 => h9) rfl dX3_rateOf_68 ?_
    refine z_sipush (pc := 71) hx hb dX3_rateOf_71 (by decide) ?_
    refine z_isub (pc := 74) hx hb dX3_rateOf_74 ?_
    refine z_imul (pc := 75) hx hb dX3_rateOf_75 ?_
    refine z_isub (pc := 76) hx hb dX3_rateOf_76 ?_
    have hv : (((k_adjustments_c p0) - (((432 * (k_stretches_c p0)) * (k_nowHeat - 20)) / 10)) - (12 * (k_nowPressure - 1013))) = (rateZ k_stretches_c k_arcs_c k_cheeks_c k_adjustments_c k_nowHeat k_nowPressure p0) := by unfold rateZ; first | (rw [if_pos hc_30f]; done) | (rw [if_neg hc_30t]; omega) | (rw [if_pos hc_30f])
    exact W.iret (pc := 77) (v := zI (((k_adjustments_c p0) - (((432 * (k_stretches_c p0)) * (k_nowHeat - 20)) / 10)) - (12 * (k_nowPressure - 1013)))) hx hb hr (fun t ht hW => ⟨congrArg (fun z => Outcome.returned (some (vI z))) hv, ht⟩) (fun q h => absurd h List.not_mem_nil) dX3_rateOf_77
  · have hc_30f := c_1
    refine lv_iload_n (pc := 33) hx hb dX3_rateOf_33 rfl (lv_at hl 0 rfl) ?_
    refine z_bipush (pc := 34) hx hb dX3_rateOf_34 (by decide) ?_
    refine lv_aload_n (pc := 36) hx hb dX3_rateOf_36 rfl (lv_at hl 1 rfl) ?_
    refine va_get (pc := 37) (D := D) (ci := 2) (v := .ref k_arcs) (C := RX3) (T := TX3) (N := 10) hx hb hts in_X3 hown hK hP 0 rfl rfl 1 (by decide) fl_13 (fun _ h9 => h9) rfl dX3_rateOf_37 ?_
    refine lv_iload_n (pc := 40) hx hb dX3_rateOf_40 rfl (lv_at hl 2 rfl) ?_
    refine z_iald (pc := 41) hx hb hK hP 2 0 (by omega) rfl rfl (by first | decide | omega) dX3_rateOf_41 ?_
    refine z_imul (pc := 42) hx hb dX3_rateOf_42 ?_
    refine lv_aload_n (pc := 43) hx hb dX3_rateOf_43 rfl (lv_at hl 1 rfl) ?_
    refine va_get (pc := 44) (D := D) (ci := 2) (v := .ref k_arcs) (C := RX3) (T := TX3) (N := 10) hx hb hts in_X3 hown hK hP 0 rfl rfl 1 (by decide) fl_13 (fun _ h9 => h9) rfl dX3_rateOf_44 ?_
    refine lv_iload_n (pc := 47) hx hb dX3_rateOf_47 rfl (lv_at hl 2 rfl) ?_
    refine z_iald (pc := 48) hx hb hK hP 2 0 (by omega) rfl rfl (by first | decide | omega) dX3_rateOf_48 ?_
    refine z_imul (pc := 49) hx hb dX3_rateOf_49 ?_
    refine z_bipush (pc := 50) hx hb dX3_rateOf_50 (by decide) ?_
    refine z_callR (pc := 52) (va_runS (As := [vI ((54 * (k_arcs_c p0)) * (k_arcs_c p0)), vI 10]) (rest := [vI (((432 * (k_stretches_c p0)) * (k_nowHeat - 20)) / 10)]) ⟨hx, hb, hml, hown, hts⟩ (m_J9_floorDiv_7cf53 l D cI cJ cZ cD 0  ((54 * (k_arcs_c p0)) * (k_arcs_c p0)) 10 (by omega) (by omega)) (va_cwS 2 hts gX3_rateOf_J9_floorDiv_7cf53 rfl rfl rfl (by decide +kernel) ⟨Nat.le_of_ble_eq_true rfl, Nat.le_of_ble_eq_true rfl⟩) ⟨fun a U g mk q => q, fun U hU hW => ⟨rfl, trivial⟩⟩ rfl rfl hl.1 rfl (lv_room (Nat.le_of_ble_eq_true rfl)) dX3_rateOf_52 ⟨Nat.zero_le _, Nat.zero_le _⟩) ?_
    refine z_iadd (pc := 55) hx hb dX3_rateOf_55 ?_
    refine lv_istore_n (lv' := [(2, vI ((((432 * (k_stretches_c p0)) * (k_nowHeat - 20)) / 10) + (((54 * (k_arcs_c p0)) * (k_arcs_c p0)) / 10))), (0, .ref kA), (1, vI p0)]) (pc := 56) hx hb dX3_rateOf_56 rfl hl (by decide) rfl (fun ls hl => ?_)
    refine lv_aload_n (pc := 57) hx hb dX3_rateOf_57 rfl (lv_at hl 1 rfl) ?_
    refine va_get (pc := 58) (D := D) (ci := 2) (v := .ref k_adjustments) (C := RX3) (T := TX3) (N := 10) hx hb hts in_X3 hown hK hP 0 rfl rfl 3 (by decide) fl_20 (fun _ h9 => h9) rfl dX3_rateOf_58 ?_
    refine lv_iload_n (pc := 61) hx hb dX3_rateOf_61 rfl (lv_at hl 2 rfl) ?_
    refine z_iald (pc := 62) hx hb hK hP 4 0 (by omega) rfl rfl (by first | decide | omega) dX3_rateOf_62 ?_
    refine lv_iload_n (pc := 63) hx hb dX3_rateOf_63 rfl (lv_at hl 0 rfl) ?_
    refine z_isub (pc := 64) hx hb dX3_rateOf_64 ?_
    refine z_bipush (pc := 65) hx hb dX3_rateOf_65 (by decide) ?_
    refine lv_aload_n (pc := 67) hx hb dX3_rateOf_67 rfl (lv_at hl 1 rfl) ?_
    refine va_get (pc := 68) (D := D) (ci := 2) (v := vI k_nowPressure) (C := RX3) (T := TX3) (N := 10) hx hb hts in_X3 hown hK hP 0 rfl rfl 8 (by decide) fl_34 (fun _ h9 => h9) rfl dX3_rateOf_68 ?_
    refine z_sipush (pc := 71) hx hb dX3_rateOf_71 (by decide) ?_
    refine z_isub (pc := 74) hx hb dX3_rateOf_74 ?_
    refine z_imul (pc := 75) hx hb dX3_rateOf_75 ?_
    refine z_isub (pc := 76) hx hb dX3_rateOf_76 ?_
    have hv : (((k_adjustments_c p0) - ((((432 * (k_stretches_c p0)) * (k_nowHeat - 20)) / 10) + (((54 * (k_arcs_c p0)) * (k_arcs_c p0)) / 10))) - (12 * (k_nowPressure - 1013))) = (rateZ k_stretches_c k_arcs_c k_cheeks_c k_adjustments_c k_nowHeat k_nowPressure p0) := by unfold rateZ; first | (rw [if_pos hc_30f]; done) | (rw [if_neg hc_30t]; omega) | (rw [if_pos hc_30f])
    exact W.iret (pc := 77) (v := zI (((k_adjustments_c p0) - ((((432 * (k_stretches_c p0)) * (k_nowHeat - 20)) / 10) + (((54 * (k_arcs_c p0)) * (k_arcs_c p0)) / 10))) - (12 * (k_nowPressure - 1013)))) hx hb hr (fun t ht hW => ⟨congrArg (fun z => Outcome.returned (some (vI z))) hv, ht⟩) (fun q h => absurd h List.not_mem_nil) dX3_rateOf_77

set_option maxHeartbeats 4000000 in
set_option maxRecDepth 100000 in
theorem m_X3_goOn (l : Launch) (D : va_G) (cI cJ cZ cD : ClassId) (sz : Nat) (kA : Nat) (k_stretches : Nat) (k_arcs : Nat) (k_cheeks : Nat) (k_adjustments : Nat) (k_offs : Nat) (k_sorted : Nat) (k_clockCount : Int) (k_nowHeat : Int) (k_nowPressure : Int) (k_daysGone : Int) (k_stretches_c : Int → Int) (k_arcs_c : Int → Int) (k_cheeks_c : Int → Int) (k_adjustments_c : Int → Int) (k_offs_c : Int → Int) (p0 : Int) (hn : 0 ≤ k_clockCount ∧ k_clockCount ≤ 10) (hck : ckOK k_stretches_c k_arcs_c k_cheeks_c k_adjustments_c k_nowHeat k_nowPressure) (h0 : 1 ≤ p0 ∧ p0 ≤ 10000) : Met l yX3_goOn wsX3_goOn ({ frames := 2, cells := 0, slots := 0, locals := 44 } : Room) (zPc D (TY cI cJ cZ cD) sz [.ref kA, vI p0] [(kA, .inr (2, [.ref k_stretches, .ref k_arcs, .ref k_cheeks, .ref k_adjustments, .ref k_offs, .ref k_sorted, vI k_clockCount, vI k_nowHeat, vI k_nowPressure, vL k_daysGone])), (k_stretches, .inl (cI, 10, .inl (aI k_stretches_c))), (k_arcs, .inl (cI, 10, .inl (aI k_arcs_c))), (k_cheeks, .inl (cZ, 10, .inl (aI k_cheeks_c))), (k_adjustments, .inl (cI, 10, .inl (aI k_adjustments_c))), (k_offs, .inl (cJ, 10, .inr (.inl (aL k_offs_c))))]) (va_Ql (fun (r : Int64) (u : Unit) => match u with | _ => r = zL (k_daysGone + p0) ∧ (True)) (zB D (va_A [(kA, .inr (2, [.ref k_stretches, .ref k_arcs, .ref k_cheeks, .ref k_adjustments, .ref k_offs, .ref k_sorted, vI k_clockCount, vI k_nowHeat, vI k_nowPressure, vL k_daysGone])), (k_stretches, .inl (cI, 10, .inl (aI k_stretches_c))), (k_arcs, .inl (cI, 10, .inl (aI k_arcs_c))), (k_cheeks, .inl (cZ, 10, .inl (aI k_cheeks_c))), (k_adjustments, .inl (cI, 10, .inl (aI k_adjustments_c))), (k_offs, .inl (cJ, 10, .inr (.inl (aL k_offs_c))))] sz) (fun (u : Unit) => match u with | _ => [(kA, .inr (2, [.ref k_stretches, .ref k_arcs, .ref k_cheeks, .ref k_adjustments, .ref k_offs, .ref k_sorted, vI k_clockCount, vI k_nowHeat, vI k_nowPressure, vL (k_daysGone + p0)])), (k_stretches, .inl (cI, 10, .inl (aI k_stretches_c))), (k_arcs, .inl (cI, 10, .inl (aI k_arcs_c))), (k_cheeks, .inl (cZ, 10, .inl (aI k_cheeks_c))), (k_adjustments, .inl (cI, 10, .inl (aI k_adjustments_c))), (k_offs, .inl (cJ, 10, .inr (.inl (aL (goN (rateZ k_stretches_c k_arcs_c k_cheeks_c k_adjustments_c k_nowHeat k_nowPressure) p0 k_clockCount k_offs_c)))))])) (va_A [(kA, .inr (2, [.ref k_stretches, .ref k_arcs, .ref k_cheeks, .ref k_adjustments, .ref k_offs, .ref k_sorted, vI k_clockCount, vI k_nowHeat, vI k_nowPressure, vL k_daysGone])), (k_stretches, .inl (cI, 10, .inl (aI k_stretches_c))), (k_arcs, .inl (cI, 10, .inl (aI k_arcs_c))), (k_cheeks, .inl (cZ, 10, .inl (aI k_cheeks_c))), (k_adjustments, .inl (cI, 10, .inl (aI k_adjustments_c))), (k_offs, .inl (cJ, 10, .inr (.inl (aL k_offs_c))))] sz)) 0 0 (va_A [(kA, .inr (2, [.ref k_stretches, .ref k_arcs, .ref k_cheeks, .ref k_adjustments, .ref k_offs, .ref k_sorted, vI k_clockCount, vI k_nowHeat, vI k_nowPressure, vL k_daysGone])), (k_stretches, .inl (cI, 10, .inl (aI k_stretches_c))), (k_arcs, .inl (cI, 10, .inl (aI k_arcs_c))), (k_cheeks, .inl (cZ, 10, .inl (aI k_cheeks_c))), (k_adjustments, .inl (cI, 10, .inl (aI k_adjustments_c))), (k_offs, .inl (cJ, 10, .inr (.inl (aL k_offs_c))))] sz) := by
  refine Met.ofW (cc := cX3_goOn) (maxL := 3) (ret := (some .long)) (by decide) rfl ?_
  intro p e s m args below meth c s₁ B hml hv
  obtain ⟨rfl, hsz, hP, hK, hD0, hN⟩ := hv
  have hx := B.exec
  have hb := B.bytes
  have hr := B.returns
  have hts := atoms_spec (ws := wsX3_goOn) B.pre
  have hown : s.vm.findClass RX3 = some m.cls := findClass_of_methodNamed B.named
  have hlocks := B.notSynchronized
  subst hsz
  have hD := hD0.self (sz := s.heap.size)
  generalize hAe : va_A [(kA, .inr (2, [.ref k_stretches, .ref k_arcs, .ref k_cheeks, .ref k_adjustments, .ref k_offs, .ref k_sorted, vI k_clockCount, vI k_nowHeat, vI k_nowPressure, vL k_daysGone])), (k_stretches, .inl (cI, 10, .inl (aI k_stretches_c))), (k_arcs, .inl (cI, 10, .inl (aI k_arcs_c))), (k_cheeks, .inl (cZ, 10, .inl (aI k_cheeks_c))), (k_adjustments, .inl (cI, 10, .inl (aI k_adjustments_c))), (k_offs, .inl (cJ, 10, .inr (.inl (aL k_offs_c))))] s.heap.size = A at hD ⊢
  have hA : ∀ q : Nat, s.heap.size ≤ q → A q := fun q h => by rw [← hAe]; exact Or.inr h
  have hS : va_S A s.heap s.heap [] := va_S.rf
  have hP : va_P D vwCl [(kA, .inr (2, [.ref k_stretches, .ref k_arcs, .ref k_cheeks, .ref k_adjustments, .ref k_offs, .ref k_sorted, vI k_clockCount, vI k_nowHeat, vI k_nowPressure, vL k_daysGone])), (k_stretches, .inl (cI, 10, .inl (aI k_stretches_c))), (k_arcs, .inl (cI, 10, .inl (aI k_arcs_c))), (k_cheeks, .inl (cZ, 10, .inl (aI k_cheeks_c))), (k_adjustments, .inl (cI, 10, .inl (aI k_adjustments_c))), (k_offs, .inl (cJ, 10, .inr (.inl (aL k_offs_c))))] s.heap := hP
  have fl_23 := hts (.fieldLink RX3 23 "PendulumHall$Clocks" "offs" "[J") (by decide +kernel)
  have fl_37 := hts (.fieldLink RX3 37 "PendulumHall$Clocks" "clockCount" "I") (by decide +kernel)
  have fl_53 := hts (.fieldLink RX3 53 "PendulumHall$Clocks" "daysGone" "J") (by decide +kernel)
  have in_X3 : ∀ w ∈ wsX30, w ∈ wsX3_goOn := by decide +kernel
  have hl := lv_entry ([.ref kA, vI p0]) (n := 3) (Nat.le_of_ble_eq_true rfl)
  rw [lg_entry_eq]
  generalize (lg_sl ([.ref kA, vI p0]) ++ List.replicate (3 - (lg_sl ([.ref kA, vI p0])).length) Slot.unset).toArray = ls at hl ⊢
  have hl : lv_has ls 3 [(0, .ref kA), (1, vI p0)] := hl
  refine z_iconst (pc := 0) hx hb dX3_goOn_0 ?_
  refine lv_istore_n (lv' := [(2, vI 0), (0, .ref kA), (1, vI p0)]) (pc := 1) hx hb dX3_goOn_1 rfl hl (by decide) rfl (fun ls hl => ?_)
  have LP_2 : ∀ (nfu : Nat) (k : Int) (f : Int → Int) (i1 : 0 ≤ k ∧ k ≤ k_clockCount) (i2 : f = goN (rateZ k_stretches_c k_arcs_c k_cheeks_c k_adjustments_c k_nowHeat k_nowPressure) p0 k k_offs_c) (hme : k_clockCount - k + 1 < (nfu : Int)) (H : Heap) (locs : List Loc) (hP : va_P D vwCl [(kA, .inr (2, [.ref k_stretches, .ref k_arcs, .ref k_cheeks, .ref k_adjustments, .ref k_offs, .ref k_sorted, vI k_clockCount, vI k_nowHeat, vI k_nowPressure, vL k_daysGone])), (k_stretches, .inl (cI, 10, .inl (aI k_stretches_c))), (k_arcs, .inl (cI, 10, .inl (aI k_arcs_c))), (k_cheeks, .inl (cZ, 10, .inl (aI k_cheeks_c))), (k_adjustments, .inl (cI, 10, .inl (aI k_adjustments_c))), (k_offs, .inl (cJ, 10, .inr (.inl (aL f))))] H) (hD : va_D A [(kA, .inr (2, [.ref k_stretches, .ref k_arcs, .ref k_cheeks, .ref k_adjustments, .ref k_offs, .ref k_sorted, vI k_clockCount, vI k_nowHeat, vI k_nowPressure, vL k_daysGone])), (k_stretches, .inl (cI, 10, .inl (aI k_stretches_c))), (k_arcs, .inl (cI, 10, .inl (aI k_arcs_c))), (k_cheeks, .inl (cZ, 10, .inl (aI k_cheeks_c))), (k_adjustments, .inl (cI, 10, .inl (aI k_adjustments_c))), (k_offs, .inl (cJ, 10, .inr (.inl (aL f))))]) (hS : va_S A s.heap H locs) (ls : Array Slot) (hl : lv_has ls 3 [(2, vI k), (0, .ref kA), (1, vI p0)]), W p l e (headSpec wsX3_goOn ({ frames := 2, cells := 0, slots := 0, locals := 44 } : Room)).room s m ([.ref kA, vI p0] : List Value).toArray below meth c H locs 0 0 (MQ below (va_Ql (fun (r : Int64) (u : Unit) => match u with | _ => r = zL (k_daysGone + p0) ∧ (True)) (zB D A (fun (u : Unit) => match u with | _ => [(kA, .inr (2, [.ref k_stretches, .ref k_arcs, .ref k_cheeks, .ref k_adjustments, .ref k_offs, .ref k_sorted, vI k_clockCount, vI k_nowHeat, vI k_nowPressure, vL (k_daysGone + p0)])), (k_stretches, .inl (cI, 10, .inl (aI k_stretches_c))), (k_arcs, .inl (cI, 10, .inl (aI k_arcs_c))), (k_cheeks, .inl (cZ, 10, .inl (aI k_cheeks_c))), (k_adjustments, .inl (cI, 10, .inl (aI k_adjustments_c))), (k_offs, .inl (cJ, 10, .inr (.inl (aL (goN (rateZ k_stretches_c k_arcs_c k_cheeks_c k_adjustments_c k_nowHeat k_nowPressure) p0 k_clockCount k_offs_c)))))])) A) ([.ref kA, vI p0] : List Value).toArray s 0 0 A) (F0 m 2 ls []) := by
    intro nfu
    induction nfu with
    | zero =>
      intro k f i1 i2 hme H locs hP hD hS ls hl
      exact absurd hme (by omega)
    | succ nfu ih_2 =>
      intro k f i1 i2 hme H locs hP hD hS ls hl
      refine lv_iload_n (pc := 2) hx hb dX3_goOn_2 rfl (lv_at hl 0 rfl) ?_
      refine lv_aload_n (pc := 3) hx hb dX3_goOn_3 rfl (lv_at hl 1 rfl) ?_
      refine va_get (pc := 4) (D := D) (ci := 2) (v := vI k_clockCount) (C := RX3) (T := TX3) (N := 10) hx hb hts in_X3 hown hK hP 0 rfl rfl 6 (by decide) fl_37 (fun _ h9 => h9) rfl dX3_goOn_4 ?_
      refine z_icmp_ge (pc := 7) (tgt := 34) hx hb dX3_goOn_7 (by decide) (by omega) (by omega) (fun c_1 => ?_) (fun c_1 => ?_)
      · have hc_7t := c_1
        refine lv_aload_n (pc := 34) hx hb dX3_goOn_34 rfl (lv_at hl 1 rfl) ?_
        refine lv_dup (pc := 35) hx hb dX3_goOn_35 rfl ?_
        refine va_get (pc := 36) (D := D) (ci := 2) (v := vL k_daysGone) (C := RX3) (T := TX3) (N := 10) hx hb hts in_X3 hown hK hP 0 rfl rfl 9 (by decide) fl_53 (fun _ h9 => h9) rfl dX3_goOn_36 ?_
        refine lv_iload_n (pc := 39) hx hb dX3_goOn_39 rfl (lv_at hl 2 rfl) ?_
        refine z_i2l (pc := 40) hx hb dX3_goOn_40 (by omega) ?_
        refine z_ladd (pc := 41) hx hb dX3_goOn_41 ?_
        refine va_put (pc := 42) (D := D) (ci := 2) (v := vL (k_daysGone + p0)) (ty := .long) (C := RX3) (T := TX3) (N := 10) hx hb hts in_X3 tyX3 tyX3_ok nmX3 hown hK hP hD hS 0 rfl rfl 9 (by decide) fl_53 (fun _ h9 => h9) rfl (by decide +kernel) rfl rfl (Nat.le_of_ble_eq_true rfl) dX3_goOn_42 (fun H locs hP hD hS => ?_)
        have hP : va_P D vwCl [(kA, .inr (2, [.ref k_stretches, .ref k_arcs, .ref k_cheeks, .ref k_adjustments, .ref k_offs, .ref k_sorted, vI k_clockCount, vI k_nowHeat, vI k_nowPressure, vL (k_daysGone + p0)])), (k_stretches, .inl (cI, 10, .inl (aI k_stretches_c))), (k_arcs, .inl (cI, 10, .inl (aI k_arcs_c))), (k_cheeks, .inl (cZ, 10, .inl (aI k_cheeks_c))), (k_adjustments, .inl (cI, 10, .inl (aI k_adjustments_c))), (k_offs, .inl (cJ, 10, .inr (.inl (aL f))))] H := hP
        have hD : va_D A [(kA, .inr (2, [.ref k_stretches, .ref k_arcs, .ref k_cheeks, .ref k_adjustments, .ref k_offs, .ref k_sorted, vI k_clockCount, vI k_nowHeat, vI k_nowPressure, vL (k_daysGone + p0)])), (k_stretches, .inl (cI, 10, .inl (aI k_stretches_c))), (k_arcs, .inl (cI, 10, .inl (aI k_arcs_c))), (k_cheeks, .inl (cZ, 10, .inl (aI k_cheeks_c))), (k_adjustments, .inl (cI, 10, .inl (aI k_adjustments_c))), (k_offs, .inl (cJ, 10, .inr (.inl (aL f))))] := hD
        refine lv_aload_n (pc := 45) hx hb dX3_goOn_45 rfl (lv_at hl 1 rfl) ?_
        refine va_get (pc := 46) (D := D) (ci := 2) (v := vL (k_daysGone + p0)) (C := RX3) (T := TX3) (N := 10) hx hb hts in_X3 hown hK hP 0 rfl rfl 9 (by decide) fl_53 (fun _ h9 => h9) rfl dX3_goOn_46 ?_
        have he_0 : (f) = (goN (rateZ k_stretches_c k_arcs_c k_cheeks_c k_adjustments_c k_nowHeat k_nowPressure) p0 k_clockCount k_offs_c) := by rw [i2, show k = k_clockCount by omega]
        rw [he_0] at hP hD
        have hP9 := hP.sub (ws' := [(kA, .inr (2, [.ref k_stretches, .ref k_arcs, .ref k_cheeks, .ref k_adjustments, .ref k_offs, .ref k_sorted, vI k_clockCount, vI k_nowHeat, vI k_nowPressure, vL (k_daysGone + p0)])), (k_stretches, .inl (cI, 10, .inl (aI k_stretches_c))), (k_arcs, .inl (cI, 10, .inl (aI k_arcs_c))), (k_cheeks, .inl (cZ, 10, .inl (aI k_cheeks_c))), (k_adjustments, .inl (cI, 10, .inl (aI k_adjustments_c))), (k_offs, .inl (cJ, 10, .inr (.inl (aL (goN (rateZ k_stretches_c k_arcs_c k_cheeks_c k_adjustments_c k_nowHeat k_nowPressure) p0 k_clockCount k_offs_c)))))]) [0, 1, 2, 3, 4, 5] rfl
        have hD9 := hD.sub (ws' := [(kA, .inr (2, [.ref k_stretches, .ref k_arcs, .ref k_cheeks, .ref k_adjustments, .ref k_offs, .ref k_sorted, vI k_clockCount, vI k_nowHeat, vI k_nowPressure, vL (k_daysGone + p0)])), (k_stretches, .inl (cI, 10, .inl (aI k_stretches_c))), (k_arcs, .inl (cI, 10, .inl (aI k_arcs_c))), (k_cheeks, .inl (cZ, 10, .inl (aI k_cheeks_c))), (k_adjustments, .inl (cI, 10, .inl (aI k_adjustments_c))), (k_offs, .inl (cJ, 10, .inr (.inl (aL (goN (rateZ k_stretches_c k_arcs_c k_cheeks_c k_adjustments_c k_nowHeat k_nowPressure) p0 k_clockCount k_offs_c)))))]) [0, 1, 2, 3, 4, 5] (by decide) rfl
        have hv : (k_daysGone + p0) = (k_daysGone + p0) := by first | rfl | omega
        exact W.lret (pc := 49) (v := zL (k_daysGone + p0)) hx hb hr (fun t ht hW => ⟨⟨zL (k_daysGone + p0), (), rfl, ⟨congrArg zL hv, trivial⟩, by rw [ht]; exact hP9, hD9⟩, hS.F ht⟩) hS.2.2 dX3_goOn_49
      · have hc_7f := c_1
        refine lv_aload_n (pc := 10) hx hb dX3_goOn_10 rfl (lv_at hl 1 rfl) ?_
        refine va_get (pc := 11) (D := D) (ci := 2) (v := .ref k_offs) (C := RX3) (T := TX3) (N := 10) hx hb hts in_X3 hown hK hP 0 rfl rfl 4 (by decide) fl_23 (fun _ h9 => h9) rfl dX3_goOn_11 ?_
        refine lv_iload_n (pc := 14) hx hb dX3_goOn_14 rfl (lv_at hl 0 rfl) ?_
        refine lv_dup2_11 (pc := 15) hx hb dX3_goOn_15 rfl rfl ?_
        refine z_lald (pc := 16) hx hb hK hP 5 1 (by omega) rfl rfl (by first | decide | omega) dX3_goOn_16 ?_
        refine lv_aload_n (pc := 17) hx hb dX3_goOn_17 rfl (lv_at hl 1 rfl) ?_
        refine lv_iload_n (pc := 18) hx hb dX3_goOn_18 rfl (lv_at hl 0 rfl) ?_
        have hPc := hP.sub (ws' := [(kA, .inr (2, [.ref k_stretches, .ref k_arcs, .ref k_cheeks, .ref k_adjustments, .ref k_offs, .ref k_sorted, vI k_clockCount, vI k_nowHeat, vI k_nowPressure, vL k_daysGone])), (k_stretches, .inl (cI, 10, .inl (aI k_stretches_c))), (k_arcs, .inl (cI, 10, .inl (aI k_arcs_c))), (k_cheeks, .inl (cZ, 10, .inl (aI k_cheeks_c))), (k_adjustments, .inl (cI, 10, .inl (aI k_adjustments_c)))]) [0, 1, 2, 3, 4] rfl
        have hDc := hD.sub (ws' := [(kA, .inr (2, [.ref k_stretches, .ref k_arcs, .ref k_cheeks, .ref k_adjustments, .ref k_offs, .ref k_sorted, vI k_clockCount, vI k_nowHeat, vI k_nowPressure, vL k_daysGone])), (k_stretches, .inl (cI, 10, .inl (aI k_stretches_c))), (k_arcs, .inl (cI, 10, .inl (aI k_arcs_c))), (k_cheeks, .inl (cZ, 10, .inl (aI k_cheeks_c))), (k_adjustments, .inl (cI, 10, .inl (aI k_adjustments_c)))]) [0, 1, 2, 3, 4] (by decide) rfl
        refine z_callR (pc := 19) (va_runV (As := [vI k]) (rest := [vL (f k), vI k, .ref k_offs]) ⟨hx, hb, hml, hown, hts⟩ (m_X3_rateOf l D cI cJ cZ cD H.size kA k_stretches k_arcs k_cheeks k_adjustments k_offs k_sorted k_clockCount k_nowHeat k_nowPressure k_daysGone k_stretches_c k_arcs_c k_cheeks_c k_adjustments_c k (by omega) hck) (cwV 1 hts gX3_goOn_X3_rateOf rfl rfl rfl (by decide +kernel) ⟨Nat.le_of_ble_eq_true rfl, Nat.le_of_ble_eq_true rfl⟩) ⟨z_blind, va_recv hK hPc (ci := 2) (q0 := 0) rfl rfl, z_pre hPc hK hDc rfl rfl hN⟩ rfl rfl hl.1 rfl (lv_room (Nat.le_of_ble_eq_true rfl)) dX3_goOn_19 ⟨Nat.zero_le _, Nat.zero_le _⟩) ?_
        obtain ⟨hm1, hm2, hm3, hm4⟩ := rateZ_m (k := k) hck (by omega)
        refine z_i2l (pc := 22) hx hb dX3_goOn_22 (by omega) ?_
        refine lv_iload_n (pc := 23) hx hb dX3_goOn_23 rfl (lv_at hl 2 rfl) ?_
        refine z_i2l (pc := 24) hx hb dX3_goOn_24 (by omega) ?_
        refine z_lmul (pc := 25) hx hb dX3_goOn_25 ?_
        refine z_ladd (pc := 26) hx hb dX3_goOn_26 ?_
        refine z_last (pc := 27) hx hb hK hP hD hS 5 1 (by omega) rfl rfl (by first | decide | omega) dX3_goOn_27 (fun H locs hP hD hS => ?_)
        have hP : va_P D vwCl [(kA, .inr (2, [.ref k_stretches, .ref k_arcs, .ref k_cheeks, .ref k_adjustments, .ref k_offs, .ref k_sorted, vI k_clockCount, vI k_nowHeat, vI k_nowPressure, vL k_daysGone])), (k_stretches, .inl (cI, 10, .inl (aI k_stretches_c))), (k_arcs, .inl (cI, 10, .inl (aI k_arcs_c))), (k_cheeks, .inl (cZ, 10, .inl (aI k_cheeks_c))), (k_adjustments, .inl (cI, 10, .inl (aI k_adjustments_c))), (k_offs, .inl (cJ, 10, .inr (.inl (aL (uZ f k ((f k) + ((rateZ k_stretches_c k_arcs_c k_cheeks_c k_adjustments_c k_nowHeat k_nowPressure k) * p0)))))))] H := hP
        have hD : va_D A [(kA, .inr (2, [.ref k_stretches, .ref k_arcs, .ref k_cheeks, .ref k_adjustments, .ref k_offs, .ref k_sorted, vI k_clockCount, vI k_nowHeat, vI k_nowPressure, vL k_daysGone])), (k_stretches, .inl (cI, 10, .inl (aI k_stretches_c))), (k_arcs, .inl (cI, 10, .inl (aI k_arcs_c))), (k_cheeks, .inl (cZ, 10, .inl (aI k_cheeks_c))), (k_adjustments, .inl (cI, 10, .inl (aI k_adjustments_c))), (k_offs, .inl (cJ, 10, .inr (.inl (aL (uZ f k ((f k) + ((rateZ k_stretches_c k_arcs_c k_cheeks_c k_adjustments_c k_nowHeat k_nowPressure k) * p0)))))))] := hD
        refine lv_iinc (v := zI (k + 1)) (lv' := [(2, vI (k + 1)), (0, .ref kA), (1, vI p0)]) (pc := 28) hx hb dX3_goOn_28 hl (k := 0) rfl (zI_add _ _) (by decide) rfl (fun ls hl => ?_)
        refine lv_goto (pc := 31) (tgt := 2) hx hb dX3_goOn_31 (by decide) ?_
        exact ih_2 (k + 1) (uZ f k ((f k) + ((rateZ k_stretches_c k_arcs_c k_cheeks_c k_adjustments_c k_nowHeat k_nowPressure k) * p0))) (by omega) (by rw [i2]; exact goN_s _ _ _ i1.1) (by omega) _ _ (hP.sub [0, 1, 2, 3, 4, 5] rfl) (hD.sub [0, 1, 2, 3, 4, 5] (by decide) rfl) hS _ (lv_sub hl [0, 1, 2] rfl)
  exact LP_2 (Int.toNat ((k_clockCount - 0 + 1) + 1)) 0 k_offs_c (by omega) ((goN_0 _ _ _).symm) (by omega) _ _ (hP.sub [0, 1, 2, 3, 4, 5] rfl) (hD.sub [0, 1, 2, 3, 4, 5] (by decide) rfl) hS _ (lv_sub hl [0, 1, 2] rfl)

set_option maxHeartbeats 4000000 in
set_option maxRecDepth 100000 in
theorem m_X3_sortOffs (l : Launch) (D : va_G) (cI cJ cZ cD : ClassId) (sz : Nat) (kA : Nat) (k_stretches : Nat) (k_arcs : Nat) (k_cheeks : Nat) (k_adjustments : Nat) (k_offs : Nat) (k_sorted : Nat) (k_clockCount : Int) (k_nowHeat : Int) (k_nowPressure : Int) (k_daysGone : Int) (k_offs_c : Int → Int) (k_sorted_c : Int → Int) (Bd : Int) (hn : 0 ≤ k_clockCount ∧ k_clockCount ≤ 10) (hB : 0 ≤ Bd ∧ Bd ≤ 1000000000000000000) (ho : ∀ j : Int, 0 ≤ j → j < 10 → -Bd ≤ k_offs_c j ∧ k_offs_c j ≤ Bd) (hso : ∀ j : Int, 0 ≤ j → j < 10 → -Bd ≤ k_sorted_c j ∧ k_sorted_c j ≤ Bd) : Met l yX3_sortOffs wsX3_sortOffs ({ frames := 0, cells := 0, slots := 0, locals := 0 } : Room) (zPc D (TY cI cJ cZ cD) sz [.ref kA] [(kA, .inr (2, [.ref k_stretches, .ref k_arcs, .ref k_cheeks, .ref k_adjustments, .ref k_offs, .ref k_sorted, vI k_clockCount, vI k_nowHeat, vI k_nowPressure, vL k_daysGone])), (k_offs, .inl (cJ, 10, .inr (.inl (aL k_offs_c)))), (k_sorted, .inl (cJ, 10, .inr (.inl (aL k_sorted_c))))]) (va_Qv (fun (u : (Int → Int)) => match u with | g => (∀ j : Int, 0 ≤ j → j < k_clockCount → g j = srtZ k_offs_c (Int.toNat k_clockCount) j) ∧ (∀ j : Int, 0 ≤ j → j < 10 → -Bd ≤ g j ∧ g j ≤ Bd)) (zB D (va_A [(kA, .inr (2, [.ref k_stretches, .ref k_arcs, .ref k_cheeks, .ref k_adjustments, .ref k_offs, .ref k_sorted, vI k_clockCount, vI k_nowHeat, vI k_nowPressure, vL k_daysGone])), (k_offs, .inl (cJ, 10, .inr (.inl (aL k_offs_c)))), (k_sorted, .inl (cJ, 10, .inr (.inl (aL k_sorted_c))))] sz) (fun (u : (Int → Int)) => match u with | g => [(kA, .inr (2, [.ref k_stretches, .ref k_arcs, .ref k_cheeks, .ref k_adjustments, .ref k_offs, .ref k_sorted, vI k_clockCount, vI k_nowHeat, vI k_nowPressure, vL k_daysGone])), (k_offs, .inl (cJ, 10, .inr (.inl (aL k_offs_c)))), (k_sorted, .inl (cJ, 10, .inr (.inl (aL g))))])) (va_A [(kA, .inr (2, [.ref k_stretches, .ref k_arcs, .ref k_cheeks, .ref k_adjustments, .ref k_offs, .ref k_sorted, vI k_clockCount, vI k_nowHeat, vI k_nowPressure, vL k_daysGone])), (k_offs, .inl (cJ, 10, .inr (.inl (aL k_offs_c)))), (k_sorted, .inl (cJ, 10, .inr (.inl (aL k_sorted_c))))] sz)) 0 0 (va_A [(kA, .inr (2, [.ref k_stretches, .ref k_arcs, .ref k_cheeks, .ref k_adjustments, .ref k_offs, .ref k_sorted, vI k_clockCount, vI k_nowHeat, vI k_nowPressure, vL k_daysGone])), (k_offs, .inl (cJ, 10, .inr (.inl (aL k_offs_c)))), (k_sorted, .inl (cJ, 10, .inr (.inl (aL k_sorted_c))))] sz) := by
  refine Met.ofW (cc := cX3_sortOffs) (maxL := 3) (ret := none) (by decide) rfl ?_
  intro p e s m args below meth c s₁ B hml hv
  obtain ⟨rfl, hsz, hP, hK, hD0, hN⟩ := hv
  have hx := B.exec
  have hb := B.bytes
  have hr := B.returns
  have hts := atoms_spec (ws := wsX3_sortOffs) B.pre
  have hown : s.vm.findClass RX3 = some m.cls := findClass_of_methodNamed B.named
  have hlocks := B.notSynchronized
  subst hsz
  have hD := hD0.self (sz := s.heap.size)
  generalize hAe : va_A [(kA, .inr (2, [.ref k_stretches, .ref k_arcs, .ref k_cheeks, .ref k_adjustments, .ref k_offs, .ref k_sorted, vI k_clockCount, vI k_nowHeat, vI k_nowPressure, vL k_daysGone])), (k_offs, .inl (cJ, 10, .inr (.inl (aL k_offs_c)))), (k_sorted, .inl (cJ, 10, .inr (.inl (aL k_sorted_c))))] s.heap.size = A at hD ⊢
  have hA : ∀ q : Nat, s.heap.size ≤ q → A q := fun q h => by rw [← hAe]; exact Or.inr h
  have hS : va_S A s.heap s.heap [] := va_S.rf
  have hP : va_P D vwCl [(kA, .inr (2, [.ref k_stretches, .ref k_arcs, .ref k_cheeks, .ref k_adjustments, .ref k_offs, .ref k_sorted, vI k_clockCount, vI k_nowHeat, vI k_nowPressure, vL k_daysGone])), (k_offs, .inl (cJ, 10, .inr (.inl (aL k_offs_c)))), (k_sorted, .inl (cJ, 10, .inr (.inl (aL k_sorted_c))))] s.heap := hP
  have fl_23 := hts (.fieldLink RX3 23 "PendulumHall$Clocks" "offs" "[J") (by decide +kernel)
  have fl_27 := hts (.fieldLink RX3 27 "PendulumHall$Clocks" "sorted" "[J") (by decide +kernel)
  have fl_37 := hts (.fieldLink RX3 37 "PendulumHall$Clocks" "clockCount" "I") (by decide +kernel)
  have in_X3 : ∀ w ∈ wsX30, w ∈ wsX3_sortOffs := by decide +kernel
  have hl := lv_entry ([.ref kA]) (n := 3) (Nat.le_of_ble_eq_true rfl)
  rw [lg_entry_eq]
  generalize (lg_sl ([.ref kA]) ++ List.replicate (3 - (lg_sl ([.ref kA])).length) Slot.unset).toArray = ls at hl ⊢
  have hl : lv_has ls 3 [(0, .ref kA)] := hl
  refine z_iconst (pc := 0) hx hb dX3_sortOffs_0 ?_
  refine lv_istore_n (lv' := [(1, vI 0), (0, .ref kA)]) (pc := 1) hx hb dX3_sortOffs_1 rfl hl (by decide) rfl (fun ls hl => ?_)
  have LP_2 : ∀ (nfu : Nat) (k : Int) (g : Int → Int) (i1 : 0 ≤ k ∧ k ≤ k_clockCount) (i2 : ∀ j : Int, 0 ≤ j → j < k → g j = srtZ k_offs_c (Int.toNat k) j) (i3 : ∀ j : Int, 0 ≤ j → j < 10 → -Bd ≤ g j ∧ g j ≤ Bd) (hme : k_clockCount - k + 1 < (nfu : Int)) (H : Heap) (locs : List Loc) (hP : va_P D vwCl [(kA, .inr (2, [.ref k_stretches, .ref k_arcs, .ref k_cheeks, .ref k_adjustments, .ref k_offs, .ref k_sorted, vI k_clockCount, vI k_nowHeat, vI k_nowPressure, vL k_daysGone])), (k_offs, .inl (cJ, 10, .inr (.inl (aL k_offs_c)))), (k_sorted, .inl (cJ, 10, .inr (.inl (aL g))))] H) (hD : va_D A [(kA, .inr (2, [.ref k_stretches, .ref k_arcs, .ref k_cheeks, .ref k_adjustments, .ref k_offs, .ref k_sorted, vI k_clockCount, vI k_nowHeat, vI k_nowPressure, vL k_daysGone])), (k_offs, .inl (cJ, 10, .inr (.inl (aL k_offs_c)))), (k_sorted, .inl (cJ, 10, .inr (.inl (aL g))))]) (hS : va_S A s.heap H locs) (ls : Array Slot) (hl : lv_has ls 3 [(1, vI k), (0, .ref kA)]), W p l e (headSpec wsX3_sortOffs ({ frames := 0, cells := 0, slots := 0, locals := 0 } : Room)).room s m ([.ref kA] : List Value).toArray below meth c H locs 0 0 (MQ below (va_Qv (fun (u : (Int → Int)) => match u with | g => (∀ j : Int, 0 ≤ j → j < k_clockCount → g j = srtZ k_offs_c (Int.toNat k_clockCount) j) ∧ (∀ j : Int, 0 ≤ j → j < 10 → -Bd ≤ g j ∧ g j ≤ Bd)) (zB D A (fun (u : (Int → Int)) => match u with | g => [(kA, .inr (2, [.ref k_stretches, .ref k_arcs, .ref k_cheeks, .ref k_adjustments, .ref k_offs, .ref k_sorted, vI k_clockCount, vI k_nowHeat, vI k_nowPressure, vL k_daysGone])), (k_offs, .inl (cJ, 10, .inr (.inl (aL k_offs_c)))), (k_sorted, .inl (cJ, 10, .inr (.inl (aL g))))])) A) ([.ref kA] : List Value).toArray s 0 0 A) (F0 m 2 ls []) := by
    intro nfu
    induction nfu with
    | zero =>
      intro k g i1 i2 i3 hme H locs hP hD hS ls hl
      exact absurd hme (by omega)
    | succ nfu ih_2 =>
      intro k g i1 i2 i3 hme H locs hP hD hS ls hl
      refine lv_iload_n (pc := 2) hx hb dX3_sortOffs_2 rfl (lv_at hl 0 rfl) ?_
      refine lv_aload_n (pc := 3) hx hb dX3_sortOffs_3 rfl (lv_at hl 1 rfl) ?_
      refine va_get (pc := 4) (D := D) (ci := 2) (v := vI k_clockCount) (C := RX3) (T := TX3) (N := 10) hx hb hts in_X3 hown hK hP 0 rfl rfl 6 (by decide) fl_37 (fun _ h9 => h9) rfl dX3_sortOffs_4 ?_
      refine z_icmp_ge (pc := 7) (tgt := 72) hx hb dX3_sortOffs_7 (by decide) (by omega) (by omega) (fun c_1 => ?_) (fun c_1 => ?_)
      · have hc_7t := c_1
        have hP9 := hP.sub (ws' := [(kA, .inr (2, [.ref k_stretches, .ref k_arcs, .ref k_cheeks, .ref k_adjustments, .ref k_offs, .ref k_sorted, vI k_clockCount, vI k_nowHeat, vI k_nowPressure, vL k_daysGone])), (k_offs, .inl (cJ, 10, .inr (.inl (aL k_offs_c)))), (k_sorted, .inl (cJ, 10, .inr (.inl (aL g))))]) [0, 1, 2] rfl
        have hD9 := hD.sub (ws' := [(kA, .inr (2, [.ref k_stretches, .ref k_arcs, .ref k_cheeks, .ref k_adjustments, .ref k_offs, .ref k_sorted, vI k_clockCount, vI k_nowHeat, vI k_nowPressure, vL k_daysGone])), (k_offs, .inl (cJ, 10, .inr (.inl (aL k_offs_c)))), (k_sorted, .inl (cJ, 10, .inr (.inl (aL g))))]) [0, 1, 2] (by decide) rfl
        have hrel : (∀ j : Int, 0 ≤ j → j < k_clockCount → g j = srtZ k_offs_c (Int.toNat k_clockCount) j) ∧ (∀ j : Int, 0 ≤ j → j < 10 → -Bd ≤ g j ∧ g j ≤ Bd) := by rw [show k_clockCount = k by omega]; exact ⟨i2, i3⟩
        exact W.vret (pc := 72) hx hb hr (fun t ht hW => ⟨⟨g, rfl, hrel, by rw [ht]; exact hP9, hD9⟩, hS.F ht⟩) hS.2.2 dX3_sortOffs_72
      · have hc_7f := c_1
        refine lv_iload_n (pc := 10) hx hb dX3_sortOffs_10 rfl (lv_at hl 0 rfl) ?_
        refine lv_istore_n (lv' := [(2, vI k), (1, vI k), (0, .ref kA)]) (pc := 11) hx hb dX3_sortOffs_11 rfl hl (by decide) rfl (fun ls hl => ?_)
        have LP_12 : ∀ (nfu : Nat) (at_ : Int) (q : Int → Int) (j1 : 0 ≤ at_ ∧ at_ ≤ k) (j2 : ∀ j : Int, 0 ≤ j → j < at_ → q j = srtZ k_offs_c (Int.toNat k) j) (j3 : ∀ j : Int, at_ < j → j ≤ k → q j = srtZ k_offs_c (Int.toNat k) (j - 1)) (j4 : posZ (srtZ k_offs_c (Int.toNat k)) (k_offs_c k) (Int.toNat k) = posZ (srtZ k_offs_c (Int.toNat k)) (k_offs_c k) (Int.toNat at_)) (j5 : ∀ j : Int, 0 ≤ j → j < 10 → -Bd ≤ q j ∧ q j ≤ Bd) (hme : at_ + 1 < (nfu : Int)) (H : Heap) (locs : List Loc) (hP : va_P D vwCl [(kA, .inr (2, [.ref k_stretches, .ref k_arcs, .ref k_cheeks, .ref k_adjustments, .ref k_offs, .ref k_sorted, vI k_clockCount, vI k_nowHeat, vI k_nowPressure, vL k_daysGone])), (k_offs, .inl (cJ, 10, .inr (.inl (aL k_offs_c)))), (k_sorted, .inl (cJ, 10, .inr (.inl (aL q))))] H) (hD : va_D A [(kA, .inr (2, [.ref k_stretches, .ref k_arcs, .ref k_cheeks, .ref k_adjustments, .ref k_offs, .ref k_sorted, vI k_clockCount, vI k_nowHeat, vI k_nowPressure, vL k_daysGone])), (k_offs, .inl (cJ, 10, .inr (.inl (aL k_offs_c)))), (k_sorted, .inl (cJ, 10, .inr (.inl (aL q))))]) (hS : va_S A s.heap H locs) (ls : Array Slot) (hl : lv_has ls 3 [(2, vI at_), (1, vI k), (0, .ref kA)]), W p l e (headSpec wsX3_sortOffs ({ frames := 0, cells := 0, slots := 0, locals := 0 } : Room)).room s m ([.ref kA] : List Value).toArray below meth c H locs 0 0 (MQ below (va_Qv (fun (u : (Int → Int)) => match u with | g => (∀ j : Int, 0 ≤ j → j < k_clockCount → g j = srtZ k_offs_c (Int.toNat k_clockCount) j) ∧ (∀ j : Int, 0 ≤ j → j < 10 → -Bd ≤ g j ∧ g j ≤ Bd)) (zB D A (fun (u : (Int → Int)) => match u with | g => [(kA, .inr (2, [.ref k_stretches, .ref k_arcs, .ref k_cheeks, .ref k_adjustments, .ref k_offs, .ref k_sorted, vI k_clockCount, vI k_nowHeat, vI k_nowPressure, vL k_daysGone])), (k_offs, .inl (cJ, 10, .inr (.inl (aL k_offs_c)))), (k_sorted, .inl (cJ, 10, .inr (.inl (aL g))))])) A) ([.ref kA] : List Value).toArray s 0 0 A) (F0 m 12 ls []) := by
          intro nfu
          induction nfu with
          | zero =>
            intro at_ q j1 j2 j3 j4 j5 hme H locs hP hD hS ls hl
            exact absurd hme (by omega)
          | succ nfu ih_12 =>
            intro at_ q j1 j2 j3 j4 j5 hme H locs hP hD hS ls hl
            refine lv_iload_n (pc := 12) hx hb dX3_sortOffs_12 rfl (lv_at hl 0 rfl) ?_
            refine z_if_le (pc := 13) (tgt := 54) hx hb dX3_sortOffs_13 (by decide) (by omega) (fun c_2 => ?_) (fun c_2 => ?_)
            · have hc_13t := c_2
              refine lv_aload_n (pc := 54) hx hb dX3_sortOffs_54 rfl (lv_at hl 2 rfl) ?_
              refine va_get (pc := 55) (D := D) (ci := 2) (v := .ref k_sorted) (C := RX3) (T := TX3) (N := 10) hx hb hts in_X3 hown hK hP 0 rfl rfl 5 (by decide) fl_27 (fun _ h9 => h9) rfl dX3_sortOffs_55 ?_
              refine lv_iload_n (pc := 58) hx hb dX3_sortOffs_58 rfl (lv_at hl 0 rfl) ?_
              refine lv_aload_n (pc := 59) hx hb dX3_sortOffs_59 rfl (lv_at hl 2 rfl) ?_
              refine va_get (pc := 60) (D := D) (ci := 2) (v := .ref k_offs) (C := RX3) (T := TX3) (N := 10) hx hb hts in_X3 hown hK hP 0 rfl rfl 4 (by decide) fl_23 (fun _ h9 => h9) rfl dX3_sortOffs_60 ?_
              refine lv_iload_n (pc := 63) hx hb dX3_sortOffs_63 rfl (lv_at hl 1 rfl) ?_
              refine z_lald (pc := 64) hx hb hK hP 1 1 (by omega) rfl rfl (by first | decide | omega) dX3_sortOffs_64 ?_
              refine z_last (pc := 65) hx hb hK hP hD hS 2 1 (by omega) rfl rfl (by first | decide | omega) dX3_sortOffs_65 (fun H locs hP hD hS => ?_)
              have hP : va_P D vwCl [(kA, .inr (2, [.ref k_stretches, .ref k_arcs, .ref k_cheeks, .ref k_adjustments, .ref k_offs, .ref k_sorted, vI k_clockCount, vI k_nowHeat, vI k_nowPressure, vL k_daysGone])), (k_offs, .inl (cJ, 10, .inr (.inl (aL k_offs_c)))), (k_sorted, .inl (cJ, 10, .inr (.inl (aL (uZ q at_ (k_offs_c k))))))] H := hP
              have hD : va_D A [(kA, .inr (2, [.ref k_stretches, .ref k_arcs, .ref k_cheeks, .ref k_adjustments, .ref k_offs, .ref k_sorted, vI k_clockCount, vI k_nowHeat, vI k_nowPressure, vL k_daysGone])), (k_offs, .inl (cJ, 10, .inr (.inl (aL k_offs_c)))), (k_sorted, .inl (cJ, 10, .inr (.inl (aL (uZ q at_ (k_offs_c k))))))] := hD
              refine lv_iinc (v := zI (k + 1)) (lv' := [(1, vI (k + 1)), (2, vI at_), (0, .ref kA)]) (pc := 66) hx hb dX3_sortOffs_66 hl (k := 1) rfl (zI_add _ _) (by decide) rfl (fun ls hl => ?_)
              refine lv_goto (pc := 69) (tgt := 2) hx hb dX3_sortOffs_69 (by decide) ?_
              have hE : at_ ≤ 0 ∨ q (at_ - 1) ≤ k_offs_c k := by first | exact Or.inl hc_13t | exact Or.inr hc_30t
              have a2 := ho k (by omega) (by omega)
              exact ih_2 (k + 1) (uZ q at_ (k_offs_c k)) (by omega) (so_step j1 j2 j3 j4 hE) (bd_uZ j5 a2) (by omega) _ _ (hP.sub [0, 1, 2] rfl) (hD.sub [0, 1, 2] (by decide) rfl) hS _ (lv_sub hl [0, 2] rfl)
            · have hc_13f := c_2
              refine lv_aload_n (pc := 16) hx hb dX3_sortOffs_16 rfl (lv_at hl 2 rfl) ?_
              refine va_get (pc := 17) (D := D) (ci := 2) (v := .ref k_sorted) (C := RX3) (T := TX3) (N := 10) hx hb hts in_X3 hown hK hP 0 rfl rfl 5 (by decide) fl_27 (fun _ h9 => h9) rfl dX3_sortOffs_17 ?_
              refine lv_iload_n (pc := 20) hx hb dX3_sortOffs_20 rfl (lv_at hl 0 rfl) ?_
              refine z_iconst (pc := 21) hx hb dX3_sortOffs_21 ?_
              refine z_isub (pc := 22) hx hb dX3_sortOffs_22 ?_
              refine z_lald (pc := 23) hx hb hK hP 2 1 (by omega) rfl rfl (by first | decide | omega) dX3_sortOffs_23 ?_
              refine lv_aload_n (pc := 24) hx hb dX3_sortOffs_24 rfl (lv_at hl 2 rfl) ?_
              refine va_get (pc := 25) (D := D) (ci := 2) (v := .ref k_offs) (C := RX3) (T := TX3) (N := 10) hx hb hts in_X3 hown hK hP 0 rfl rfl 4 (by decide) fl_23 (fun _ h9 => h9) rfl dX3_sortOffs_25 ?_
              refine lv_iload_n (pc := 28) hx hb dX3_sortOffs_28 rfl (lv_at hl 1 rfl) ?_
              refine z_lald (pc := 29) hx hb hK hP 1 1 (by omega) rfl rfl (by first | decide | omega) dX3_sortOffs_29 ?_
              have a1 := j5 (at_ - 1) (by omega) (by omega)
              have a2 := ho k (by omega) (by omega)
              refine z_lcmp_le (pc := 30) (tgt := 54) hx hb dX3_sortOffs_30 dX3_sortOffs_31 (by decide) (by omega) (by omega) (fun c_3 => ?_) (fun c_3 => ?_)
              · have hc_30t := c_3
                refine lv_aload_n (pc := 54) hx hb dX3_sortOffs_54 rfl (lv_at hl 2 rfl) ?_
                refine va_get (pc := 55) (D := D) (ci := 2) (v := .ref k_sorted) (C := RX3) (T := TX3) (N := 10) hx hb hts in_X3 hown hK hP 0 rfl rfl 5 (by decide) fl_27 (fun _ h9 => h9) rfl dX3_sortOffs_55 ?_
                refine lv_iload_n (pc := 58) hx hb dX3_sortOffs_58 rfl (lv_at hl 0 rfl) ?_
                refine lv_aload_n (pc := 59) hx hb dX3_sortOffs_59 rfl (lv_at hl 2 rfl) ?_
                refine va_get (pc := 60) (D := D) (ci := 2) (v := .ref k_offs) (C := RX3) (T := TX3) (N := 10) hx hb hts in_X3 hown hK hP 0 rfl rfl 4 (by decide) fl_23 (fun _ h9 => h9) rfl dX3_sortOffs_60 ?_
                refine lv_iload_n (pc := 63) hx hb dX3_sortOffs_63 rfl (lv_at hl 1 rfl) ?_
                refine z_lald (pc := 64) hx hb hK hP 1 1 (by omega) rfl rfl (by first | decide | omega) dX3_sortOffs_64 ?_
                refine z_last (pc := 65) hx hb hK hP hD hS 2 1 (by omega) rfl rfl (by first | decide | omega) dX3_sortOffs_65 (fun H locs hP hD hS => ?_)
                have hP : va_P D vwCl [(kA, .inr (2, [.ref k_stretches, .ref k_arcs, .ref k_cheeks, .ref k_adjustments, .ref k_offs, .ref k_sorted, vI k_clockCount, vI k_nowHeat, vI k_nowPressure, vL k_daysGone])), (k_offs, .inl (cJ, 10, .inr (.inl (aL k_offs_c)))), (k_sorted, .inl (cJ, 10, .inr (.inl (aL (uZ q at_ (k_offs_c k))))))] H := hP
                have hD : va_D A [(kA, .inr (2, [.ref k_stretches, .ref k_arcs, .ref k_cheeks, .ref k_adjustments, .ref k_offs, .ref k_sorted, vI k_clockCount, vI k_nowHeat, vI k_nowPressure, vL k_daysGone])), (k_offs, .inl (cJ, 10, .inr (.inl (aL k_offs_c)))), (k_sorted, .inl (cJ, 10, .inr (.inl (aL (uZ q at_ (k_offs_c k))))))] := hD
                refine lv_iinc (v := zI (k + 1)) (lv' := [(1, vI (k + 1)), (2, vI at_), (0, .ref kA)]) (pc := 66) hx hb dX3_sortOffs_66 hl (k := 1) rfl (zI_add _ _) (by decide) rfl (fun ls hl => ?_)
                refine lv_goto (pc := 69) (tgt := 2) hx hb dX3_sortOffs_69 (by decide) ?_
                have hE : at_ ≤ 0 ∨ q (at_ - 1) ≤ k_offs_c k := by first | exact Or.inl hc_13t | exact Or.inr hc_30t
                have a2 := ho k (by omega) (by omega)
                exact ih_2 (k + 1) (uZ q at_ (k_offs_c k)) (by omega) (so_step j1 j2 j3 j4 hE) (bd_uZ j5 a2) (by omega) _ _ (hP.sub [0, 1, 2] rfl) (hD.sub [0, 1, 2] (by decide) rfl) hS _ (lv_sub hl [0, 2] rfl)
              · have hc_30f := c_3
                refine lv_aload_n (pc := 34) hx hb dX3_sortOffs_34 rfl (lv_at hl 2 rfl) ?_
                refine va_get (pc := 35) (D := D) (ci := 2) (v := .ref k_sorted) (C := RX3) (T := TX3) (N := 10) hx hb hts in_X3 hown hK hP 0 rfl rfl 5 (by decide) fl_27 (fun _ h9 => h9) rfl dX3_sortOffs_35 ?_
                refine lv_iload_n (pc := 38) hx hb dX3_sortOffs_38 rfl (lv_at hl 0 rfl) ?_
                refine lv_aload_n (pc := 39) hx hb dX3_sortOffs_39 rfl (lv_at hl 2 rfl) ?_
                refine va_get (pc := 40) (D := D) (ci := 2) (v := .ref k_sorted) (C := RX3) (T := TX3) (N := 10) hx hb hts in_X3 hown hK hP 0 rfl rfl 5 (by decide) fl_27 (fun _ h9 => h9) rfl dX3_sortOffs_40 ?_
                refine lv_iload_n (pc := 43) hx hb dX3_sortOffs_43 rfl (lv_at hl 0 rfl) ?_
                refine z_iconst (pc := 44) hx hb dX3_sortOffs_44 ?_
                refine z_isub (pc := 45) hx hb dX3_sortOffs_45 ?_
                refine z_lald (pc := 46) hx hb hK hP 2 1 (by omega) rfl rfl (by first | decide | omega) dX3_sortOffs_46 ?_
                refine z_last (pc := 47) hx hb hK hP hD hS 2 1 (by omega) rfl rfl (by first | decide | omega) dX3_sortOffs_47 (fun H locs hP hD hS => ?_)
                have hP : va_P D vwCl [(kA, .inr (2, [.ref k_stretches, .ref k_arcs, .ref k_cheeks, .ref k_adjustments, .ref k_offs, .ref k_sorted, vI k_clockCount, vI k_nowHeat, vI k_nowPressure, vL k_daysGone])), (k_offs, .inl (cJ, 10, .inr (.inl (aL k_offs_c)))), (k_sorted, .inl (cJ, 10, .inr (.inl (aL (uZ q at_ (q (at_ - 1)))))))] H := hP
                have hD : va_D A [(kA, .inr (2, [.ref k_stretches, .ref k_arcs, .ref k_cheeks, .ref k_adjustments, .ref k_offs, .ref k_sorted, vI k_clockCount, vI k_nowHeat, vI k_nowPressure, vL k_daysGone])), (k_offs, .inl (cJ, 10, .inr (.inl (aL k_offs_c)))), (k_sorted, .inl (cJ, 10, .inr (.inl (aL (uZ q at_ (q (at_ - 1)))))))] := hD
                refine lv_iinc (v := zI (at_ + (-1))) (lv' := [(2, vI (at_ + (-1))), (1, vI k), (0, .ref kA)]) (pc := 48) hx hb dX3_sortOffs_48 hl (k := 0) rfl (zI_add _ _) (by decide) rfl (fun ls hl => ?_)
                refine lv_goto (pc := 51) (tgt := 12) hx hb dX3_sortOffs_51 (by decide) ?_
                have hi_4 : ∀ j : Int, (at_ + (-1)) < j → j ≤ k → (uZ q at_ (q (at_ - 1))) j = srtZ k_offs_c (Int.toNat k) (j - 1) := by
                  intro j a b
                  by_cases e : j = at_
                  · rw [e, uZ_s]; exact j2 (at_ - 1) (by omega) (by omega)
                  · rw [uZ_n e]; exact j3 j (by omega) b
                exact ih_12 (at_ + (-1)) (uZ q at_ (q (at_ - 1))) (by omega) (by intro j a b; rw [uZ_n (by omega)]; exact j2 j a (by omega)) hi_4 (by rw [j4, show Int.toNat at_ = Int.toNat (at_ + -1) + 1 by omega]; show (if _ then _ else _) = _; rw [show ((Int.toNat (at_ + -1) : Nat) : Int) = at_ - 1 by omega, ← j2 (at_ - 1) (by omega) (by omega), if_pos hc_30f]) (bd_uZ j5 a1) (by omega) _ _ (hP.sub [0, 1, 2] rfl) (hD.sub [0, 1, 2] (by decide) rfl) hS _ (lv_sub hl [0, 1, 2] rfl)
        exact LP_12 (Int.toNat ((k + 1) + 1)) k g (by omega) (i2) (by intro j a b; omega) (by rfl) (i3) (by omega) _ _ (hP.sub [0, 1, 2] rfl) (hD.sub [0, 1, 2] (by decide) rfl) hS _ (lv_sub hl [0, 1, 2] rfl)
  exact LP_2 (Int.toNat ((k_clockCount - 0 + 1) + 1)) 0 k_sorted_c (by omega) (by intro j a b; omega) (hso) (by omega) _ _ (hP.sub [0, 1, 2] rfl) (hD.sub [0, 1, 2] (by decide) rfl) hS _ (lv_sub hl [0, 1] rfl)

set_option maxHeartbeats 4000000 in
set_option maxRecDepth 100000 in
theorem m_X3_middle (l : Launch) (D : va_G) (cI cJ cZ cD : ClassId) (sz : Nat) (kA : Nat) (k_stretches : Nat) (k_arcs : Nat) (k_cheeks : Nat) (k_adjustments : Nat) (k_offs : Nat) (k_sorted : Nat) (k_clockCount : Int) (k_nowHeat : Int) (k_nowPressure : Int) (k_daysGone : Int) (k_offs_c : Int → Int) (k_sorted_c : Int → Int) (Bd : Int) (hn : 0 ≤ k_clockCount ∧ k_clockCount ≤ 10) (hB : 0 ≤ Bd ∧ Bd ≤ 1000000000000000000) (ho : ∀ j : Int, 0 ≤ j → j < 10 → -Bd ≤ k_offs_c j ∧ k_offs_c j ≤ Bd) (hso : ∀ j : Int, 0 ≤ j → j < 10 → -Bd ≤ k_sorted_c j ∧ k_sorted_c j ≤ Bd) : Met l yX3_middle wsX3_middle ({ frames := 1, cells := 0, slots := 0, locals := 25 } : Room) (zPc D (TY cI cJ cZ cD) sz [.ref kA] [(kA, .inr (2, [.ref k_stretches, .ref k_arcs, .ref k_cheeks, .ref k_adjustments, .ref k_offs, .ref k_sorted, vI k_clockCount, vI k_nowHeat, vI k_nowPressure, vL k_daysGone])), (k_offs, .inl (cJ, 10, .inr (.inl (aL k_offs_c)))), (k_sorted, .inl (cJ, 10, .inr (.inl (aL k_sorted_c))))]) (va_Ql (fun (r : Int64) (u : (Int → Int) × Int) => match u with | (g, mid) => r = zL mid ∧ ((0 < k_clockCount → mid = midZ k_offs_c k_clockCount) ∧ (-Bd ≤ mid ∧ mid ≤ Bd) ∧ (∀ j : Int, 0 ≤ j → j < 10 → -Bd ≤ g j ∧ g j ≤ Bd))) (zB D (va_A [(kA, .inr (2, [.ref k_stretches, .ref k_arcs, .ref k_cheeks, .ref k_adjustments, .ref k_offs, .ref k_sorted, vI k_clockCount, vI k_nowHeat, vI k_nowPressure, vL k_daysGone])), (k_offs, .inl (cJ, 10, .inr (.inl (aL k_offs_c)))), (k_sorted, .inl (cJ, 10, .inr (.inl (aL k_sorted_c))))] sz) (fun (u : (Int → Int) × Int) => match u with | (g, mid) => [(kA, .inr (2, [.ref k_stretches, .ref k_arcs, .ref k_cheeks, .ref k_adjustments, .ref k_offs, .ref k_sorted, vI k_clockCount, vI k_nowHeat, vI k_nowPressure, vL k_daysGone])), (k_offs, .inl (cJ, 10, .inr (.inl (aL k_offs_c)))), (k_sorted, .inl (cJ, 10, .inr (.inl (aL g))))])) (va_A [(kA, .inr (2, [.ref k_stretches, .ref k_arcs, .ref k_cheeks, .ref k_adjustments, .ref k_offs, .ref k_sorted, vI k_clockCount, vI k_nowHeat, vI k_nowPressure, vL k_daysGone])), (k_offs, .inl (cJ, 10, .inr (.inl (aL k_offs_c)))), (k_sorted, .inl (cJ, 10, .inr (.inl (aL k_sorted_c))))] sz)) 0 0 (va_A [(kA, .inr (2, [.ref k_stretches, .ref k_arcs, .ref k_cheeks, .ref k_adjustments, .ref k_offs, .ref k_sorted, vI k_clockCount, vI k_nowHeat, vI k_nowPressure, vL k_daysGone])), (k_offs, .inl (cJ, 10, .inr (.inl (aL k_offs_c)))), (k_sorted, .inl (cJ, 10, .inr (.inl (aL k_sorted_c))))] sz) := by
  refine Met.ofW (cc := cX3_middle) (maxL := 3) (ret := (some .long)) (by decide) rfl ?_
  intro p e s m args below meth c s₁ B hml hv
  obtain ⟨rfl, hsz, hP, hK, hD0, hN⟩ := hv
  have hx := B.exec
  have hb := B.bytes
  have hr := B.returns
  have hts := atoms_spec (ws := wsX3_middle) B.pre
  have hown : s.vm.findClass RX3 = some m.cls := findClass_of_methodNamed B.named
  have hlocks := B.notSynchronized
  subst hsz
  have hD := hD0.self (sz := s.heap.size)
  generalize hAe : va_A [(kA, .inr (2, [.ref k_stretches, .ref k_arcs, .ref k_cheeks, .ref k_adjustments, .ref k_offs, .ref k_sorted, vI k_clockCount, vI k_nowHeat, vI k_nowPressure, vL k_daysGone])), (k_offs, .inl (cJ, 10, .inr (.inl (aL k_offs_c)))), (k_sorted, .inl (cJ, 10, .inr (.inl (aL k_sorted_c))))] s.heap.size = A at hD ⊢
  have hA : ∀ q : Nat, s.heap.size ≤ q → A q := fun q h => by rw [← hAe]; exact Or.inr h
  have hS : va_S A s.heap s.heap [] := va_S.rf
  have hP : va_P D vwCl [(kA, .inr (2, [.ref k_stretches, .ref k_arcs, .ref k_cheeks, .ref k_adjustments, .ref k_offs, .ref k_sorted, vI k_clockCount, vI k_nowHeat, vI k_nowPressure, vL k_daysGone])), (k_offs, .inl (cJ, 10, .inr (.inl (aL k_offs_c)))), (k_sorted, .inl (cJ, 10, .inr (.inl (aL k_sorted_c))))] s.heap := hP
  have fl_27 := hts (.fieldLink RX3 27 "PendulumHall$Clocks" "sorted" "[J") (by decide +kernel)
  have fl_37 := hts (.fieldLink RX3 37 "PendulumHall$Clocks" "clockCount" "I") (by decide +kernel)
  have cl_60 := hts (.constantLong RX3 60 (2)) (by decide +kernel)
  have in_X3 : ∀ w ∈ wsX30, w ∈ wsX3_middle := by decide +kernel
  have hl := lv_entry ([.ref kA]) (n := 3) (Nat.le_of_ble_eq_true rfl)
  rw [lg_entry_eq]
  generalize (lg_sl ([.ref kA]) ++ List.replicate (3 - (lg_sl ([.ref kA])).length) Slot.unset).toArray = ls at hl ⊢
  have hl : lv_has ls 3 [(0, .ref kA)] := hl
  refine lv_aload_n (pc := 0) hx hb dX3_middle_0 rfl (lv_at hl 0 rfl) ?_
  have hPc := hP.sub (ws' := [(kA, .inr (2, [.ref k_stretches, .ref k_arcs, .ref k_cheeks, .ref k_adjustments, .ref k_offs, .ref k_sorted, vI k_clockCount, vI k_nowHeat, vI k_nowPressure, vL k_daysGone])), (k_offs, .inl (cJ, 10, .inr (.inl (aL k_offs_c)))), (k_sorted, .inl (cJ, 10, .inr (.inl (aL k_sorted_c))))]) [0, 1, 2] rfl
  have hDc := hD.sub (ws' := [(kA, .inr (2, [.ref k_stretches, .ref k_arcs, .ref k_cheeks, .ref k_adjustments, .ref k_offs, .ref k_sorted, vI k_clockCount, vI k_nowHeat, vI k_nowPressure, vL k_daysGone])), (k_offs, .inl (cJ, 10, .inr (.inl (aL k_offs_c)))), (k_sorted, .inl (cJ, 10, .inr (.inl (aL k_sorted_c))))]) [0, 1, 2] (by decide) rfl
  refine z_callWv (pc := 1) (wc := [(kA, .inr (2, [.ref k_stretches, .ref k_arcs, .ref k_cheeks, .ref k_adjustments, .ref k_offs, .ref k_sorted, vI k_clockCount, vI k_nowHeat, vI k_nowPressure, vL k_daysGone])), (k_offs, .inl (cJ, 10, .inr (.inl (aL k_offs_c)))), (k_sorted, .inl (cJ, 10, .inr (.inl (aL k_sorted_c))))]) hP hD hS hA [0, 1, 2] [] [] rfl rfl (by decide) (by decide) (va_runV (As := []) (rest := []) ⟨hx, hb, hml, hown, hts⟩ (m_X3_sortOffs l D cI cJ cZ cD s.heap.size kA k_stretches k_arcs k_cheeks k_adjustments k_offs k_sorted k_clockCount k_nowHeat k_nowPressure k_daysGone k_offs_c k_sorted_c Bd  (by omega) (by omega) ho hso) (cwV 0 hts gX3_middle_X3_sortOffs rfl rfl rfl (by decide +kernel) ⟨Nat.le_of_ble_eq_true rfl, Nat.le_of_ble_eq_true rfl⟩) ⟨z_blind, va_recv hK hPc (ci := 2) (q0 := 0) rfl rfl, z_pre hPc hK hDc rfl rfl hN⟩ rfl rfl hl.1 rfl (lv_room (Nat.le_of_ble_eq_true rfl)) dX3_middle_1 ⟨Nat.zero_le _, Nat.zero_le _⟩) (fun u H locs hw hP hD hS => ?_)
  obtain ⟨u_1, rfl⟩ : ∃ z, z = u := ⟨_, rfl⟩
  have hw_2 := hw
  have hw_2 : (∀ j : Int, 0 ≤ j → j < k_clockCount → u_1 j = srtZ k_offs_c (Int.toNat k_clockCount) j) ∧ (∀ j : Int, 0 ≤ j → j < 10 → -Bd ≤ u_1 j ∧ u_1 j ≤ Bd) := hw_2
  have hP : va_P D vwCl [(kA, .inr (2, [.ref k_stretches, .ref k_arcs, .ref k_cheeks, .ref k_adjustments, .ref k_offs, .ref k_sorted, vI k_clockCount, vI k_nowHeat, vI k_nowPressure, vL k_daysGone])), (k_offs, .inl (cJ, 10, .inr (.inl (aL k_offs_c)))), (k_sorted, .inl (cJ, 10, .inr (.inl (aL u_1))))] H := hP
  have hD : va_D A [(kA, .inr (2, [.ref k_stretches, .ref k_arcs, .ref k_cheeks, .ref k_adjustments, .ref k_offs, .ref k_sorted, vI k_clockCount, vI k_nowHeat, vI k_nowPressure, vL k_daysGone])), (k_offs, .inl (cJ, 10, .inr (.inl (aL k_offs_c)))), (k_sorted, .inl (cJ, 10, .inr (.inl (aL u_1))))] := hD
  obtain ⟨w1, w2⟩ := hw_2
  have t1 := z_td2 (x := k_clockCount - 1) (by omega)
  have t2 := z_td2 (x := k_clockCount) (by omega)
  refine lv_aload_n (pc := 4) hx hb dX3_middle_4 rfl (lv_at hl 0 rfl) ?_
  refine va_get (pc := 5) (D := D) (ci := 2) (v := vI k_clockCount) (C := RX3) (T := TX3) (N := 10) hx hb hts in_X3 hown hK hP 0 rfl rfl 6 (by decide) fl_37 (fun _ h9 => h9) rfl dX3_middle_5 ?_
  refine z_iconst (pc := 8) hx hb dX3_middle_8 ?_
  refine z_isub (pc := 9) hx hb dX3_middle_9 ?_
  refine z_iconst (pc := 10) hx hb dX3_middle_10 ?_
  refine z_idiv (pc := 11) hx hb dX3_middle_11 (by omega) (by decide) ?_
  refine lv_istore_n (lv' := [(1, vI (Int.tdiv (k_clockCount - 1) 2)), (0, .ref kA)]) (pc := 12) hx hb dX3_middle_12 rfl hl (by decide) rfl (fun ls hl => ?_)
  refine lv_aload_n (pc := 13) hx hb dX3_middle_13 rfl (lv_at hl 1 rfl) ?_
  refine va_get (pc := 14) (D := D) (ci := 2) (v := vI k_clockCount) (C := RX3) (T := TX3) (N := 10) hx hb hts in_X3 hown hK hP 0 rfl rfl 6 (by decide) fl_37 (fun _ h9 => h9) rfl dX3_middle_14 ?_
  refine z_iconst (pc := 17) hx hb dX3_middle_17 ?_
  refine z_idiv (pc := 18) hx hb dX3_middle_18 (by omega) (by decide) ?_
  refine lv_istore_n (lv' := [(2, vI (Int.tdiv k_clockCount 2)), (1, vI (Int.tdiv (k_clockCount - 1) 2)), (0, .ref kA)]) (pc := 19) hx hb dX3_middle_19 rfl hl (by decide) rfl (fun ls hl => ?_)
  refine lv_aload_n (pc := 20) hx hb dX3_middle_20 rfl (lv_at hl 2 rfl) ?_
  refine va_get (pc := 21) (D := D) (ci := 2) (v := .ref k_sorted) (C := RX3) (T := TX3) (N := 10) hx hb hts in_X3 hown hK hP 0 rfl rfl 5 (by decide) fl_27 (fun _ h9 => h9) rfl dX3_middle_21 ?_
  refine lv_iload_n (pc := 24) hx hb dX3_middle_24 rfl (lv_at hl 1 rfl) ?_
  refine z_lald (pc := 25) hx hb hK hP 2 1 (by omega) rfl rfl (by first | decide | omega) dX3_middle_25 ?_
  refine lv_aload_n (pc := 26) hx hb dX3_middle_26 rfl (lv_at hl 2 rfl) ?_
  refine va_get (pc := 27) (D := D) (ci := 2) (v := .ref k_sorted) (C := RX3) (T := TX3) (N := 10) hx hb hts in_X3 hown hK hP 0 rfl rfl 5 (by decide) fl_27 (fun _ h9 => h9) rfl dX3_middle_27 ?_
  refine lv_iload_n (pc := 30) hx hb dX3_middle_30 rfl (lv_at hl 0 rfl) ?_
  refine z_lald (pc := 31) hx hb hK hP 2 1 (by omega) rfl rfl (by first | decide | omega) dX3_middle_31 ?_
  have b1 := w2 (Int.tdiv (k_clockCount - 1) 2) (by omega) (by omega)
  have b2 := w2 (Int.tdiv k_clockCount 2) (by omega) (by omega)
  refine z_ladd (pc := 32) hx hb dX3_middle_32 ?_
  refine lv_ldc2 (pc := 33) hx hb hown cl_60 dX3_middle_33 ?_
  refine z_topL (z := 2) (by decide) ?_
  refine z_callR (pc := 36) (va_runS (As := [vL ((u_1 (Int.tdiv (k_clockCount - 1) 2)) + (u_1 (Int.tdiv k_clockCount 2))), vL 2]) (rest := []) ⟨hx, hb, hml, hown, hts⟩ (m_J9_floorDiv_f86c9 l D cI cJ cZ cD 0  ((u_1 (Int.tdiv (k_clockCount - 1) 2)) + (u_1 (Int.tdiv k_clockCount 2))) 2 (by omega) (by omega)) (va_cwS 2 hts gX3_middle_J9_floorDiv_f86c9 rfl rfl rfl (by decide +kernel) ⟨Nat.le_of_ble_eq_true rfl, Nat.le_of_ble_eq_true rfl⟩) ⟨fun a U g mk q => q, fun U hU hW => ⟨rfl, trivial⟩⟩ rfl rfl hl.1 rfl (lv_room (Nat.le_of_ble_eq_true rfl)) dX3_middle_36 ⟨Nat.zero_le _, Nat.zero_le _⟩) ?_
  have hP9 := hP.sub (ws' := [(kA, .inr (2, [.ref k_stretches, .ref k_arcs, .ref k_cheeks, .ref k_adjustments, .ref k_offs, .ref k_sorted, vI k_clockCount, vI k_nowHeat, vI k_nowPressure, vL k_daysGone])), (k_offs, .inl (cJ, 10, .inr (.inl (aL k_offs_c)))), (k_sorted, .inl (cJ, 10, .inr (.inl (aL u_1))))]) [0, 1, 2] rfl
  have hD9 := hD.sub (ws' := [(kA, .inr (2, [.ref k_stretches, .ref k_arcs, .ref k_cheeks, .ref k_adjustments, .ref k_offs, .ref k_sorted, vI k_clockCount, vI k_nowHeat, vI k_nowPressure, vL k_daysGone])), (k_offs, .inl (cJ, 10, .inr (.inl (aL k_offs_c)))), (k_sorted, .inl (cJ, 10, .inr (.inl (aL u_1))))]) [0, 1, 2] (by decide) rfl
  have hrel : (0 < k_clockCount → (((u_1 (Int.tdiv (k_clockCount - 1) 2)) + (u_1 (Int.tdiv k_clockCount 2))) / 2) = midZ k_offs_c k_clockCount) ∧ (-Bd ≤ (((u_1 (Int.tdiv (k_clockCount - 1) 2)) + (u_1 (Int.tdiv k_clockCount 2))) / 2) ∧ (((u_1 (Int.tdiv (k_clockCount - 1) 2)) + (u_1 (Int.tdiv k_clockCount 2))) / 2) ≤ Bd) ∧ (∀ j : Int, 0 ≤ j → j < 10 → -Bd ≤ u_1 j ∧ u_1 j ≤ Bd) := by
    refine ⟨fun hp => ?_, by omega, w2⟩
    unfold midZ
    rw [w1 _ (by omega) (by omega), w1 _ (by omega) (by omega), show Int.tdiv (k_clockCount - 1) 2 = (k_clockCount - 1) / 2 by omega, show Int.tdiv k_clockCount 2 = k_clockCount / 2 by omega]
  have hv : (((u_1 (Int.tdiv (k_clockCount - 1) 2)) + (u_1 (Int.tdiv k_clockCount 2))) / 2) = ((((u_1 (Int.tdiv (k_clockCount - 1) 2)) + (u_1 (Int.tdiv k_clockCount 2))) / 2)) := by first | rfl | omega
  exact W.lret (pc := 39) (v := zL (((u_1 (Int.tdiv (k_clockCount - 1) 2)) + (u_1 (Int.tdiv k_clockCount 2))) / 2)) hx hb hr (fun t ht hW => ⟨⟨zL (((u_1 (Int.tdiv (k_clockCount - 1) 2)) + (u_1 (Int.tdiv k_clockCount 2))) / 2), (u_1, ((u_1 (Int.tdiv (k_clockCount - 1) 2)) + (u_1 (Int.tdiv k_clockCount 2))) / 2), rfl, ⟨congrArg zL hv, hrel⟩, by rw [ht]; exact hP9, hD9⟩, hS.F ht⟩) hS.2.2 dX3_middle_39

set_option maxHeartbeats 4000000 in
set_option maxRecDepth 100000 in
theorem m_X3_isNear (l : Launch) (D : va_G) (cI cJ cZ cD : ClassId) (sz : Nat) (kA : Nat) (k_stretches : Nat) (k_arcs : Nat) (k_cheeks : Nat) (k_adjustments : Nat) (k_offs : Nat) (k_sorted : Nat) (k_clockCount : Int) (k_nowHeat : Int) (k_nowPressure : Int) (k_daysGone : Int) (k_offs_c : Int → Int) (Bd : Int) (p0 : Int) (p1 : Int) (hi : 0 ≤ p0 ∧ p0 < 10) (hB : 0 ≤ Bd ∧ Bd ≤ 1000000000000000000) (ho : ∀ j : Int, 0 ≤ j → j < 10 → -Bd ≤ k_offs_c j ∧ k_offs_c j ≤ Bd) (h1 : -Bd ≤ p1 ∧ p1 ≤ Bd) : Met l yX3_isNear wsX3_isNear ({ frames := 0, cells := 0, slots := 0, locals := 0 } : Room) (zPc D (TY cI cJ cZ cD) sz [.ref kA, vI p0, vL p1] [(kA, .inr (2, [.ref k_stretches, .ref k_arcs, .ref k_cheeks, .ref k_adjustments, .ref k_offs, .ref k_sorted, vI k_clockCount, vI k_nowHeat, vI k_nowPressure, vL k_daysGone])), (k_offs, .inl (cJ, 10, .inr (.inl (aL k_offs_c))))]) (zQr (some (vI (nearZ (k_offs_c p0) p1)))) 0 0 (fun _ => False) := by
  refine Met.ofW (cc := cX3_isNear) (maxL := 6) (ret := (some .boolean)) (by decide) rfl ?_
  intro p e s m args below meth c s₁ B hml hv
  obtain ⟨rfl, hsz, hP, hK, hD0, hN⟩ := hv
  have hx := B.exec
  have hb := B.bytes
  have hr := B.returns
  have hts := atoms_spec (ws := wsX3_isNear) B.pre
  have hown : s.vm.findClass RX3 = some m.cls := findClass_of_methodNamed B.named
  have hlocks := B.notSynchronized
  have hD := hD0
  subst hsz
  have hP : va_P D vwCl [(kA, .inr (2, [.ref k_stretches, .ref k_arcs, .ref k_cheeks, .ref k_adjustments, .ref k_offs, .ref k_sorted, vI k_clockCount, vI k_nowHeat, vI k_nowPressure, vL k_daysGone])), (k_offs, .inl (cJ, 10, .inr (.inl (aL k_offs_c))))] s.heap := hP
  have fl_23 := hts (.fieldLink RX3 23 "PendulumHall$Clocks" "offs" "[J") (by decide +kernel)
  have cl_65 := hts (.constantLong RX3 65 (-500)) (by decide +kernel)
  have cl_67 := hts (.constantLong RX3 67 (500)) (by decide +kernel)
  have in_X3 : ∀ w ∈ wsX30, w ∈ wsX3_isNear := by decide +kernel
  have hl := lv_entry ([.ref kA, vI p0, vL p1]) (n := 6) (Nat.le_of_ble_eq_true rfl)
  rw [lg_entry_eq]
  generalize (lg_sl ([.ref kA, vI p0, vL p1]) ++ List.replicate (6 - (lg_sl ([.ref kA, vI p0, vL p1])).length) Slot.unset).toArray = ls at hl ⊢
  have hl : lv_has ls 6 [(0, .ref kA), (1, vI p0), (2, vL p1)] := hl
  have a1 := ho p0 hi.1 hi.2
  refine lv_aload_n (pc := 0) hx hb dX3_isNear_0 rfl (lv_at hl 0 rfl) ?_
  refine va_get (pc := 1) (D := D) (ci := 2) (v := .ref k_offs) (C := RX3) (T := TX3) (N := 10) hx hb hts in_X3 hown hK hP 0 rfl rfl 4 (by decide) fl_23 (fun _ h9 => h9) rfl dX3_isNear_1 ?_
  refine lv_iload_n (pc := 4) hx hb dX3_isNear_4 rfl (lv_at hl 1 rfl) ?_
  refine z_lald (pc := 5) hx hb hK hP 1 1 (by omega) rfl rfl (by first | decide | omega) dX3_isNear_5 ?_
  refine lv_lload_n (pc := 6) hx hb dX3_isNear_6 rfl (lv_at hl 2 rfl) ?_
  refine z_lsub (pc := 7) hx hb dX3_isNear_7 ?_
  refine lv_lstore (lv' := [(4, vL ((k_offs_c p0) - p1)), (0, .ref kA), (1, vI p0), (2, vL p1)]) (pc := 8) hx hb dX3_isNear_8 hl (by decide) rfl (fun ls hl => ?_)
  refine lv_lload (pc := 10) hx hb dX3_isNear_10 (lv_at hl 0 rfl) ?_
  refine lv_ldc2 (pc := 12) hx hb hown cl_65 dX3_isNear_12 ?_
  refine z_topL (z := -500) (by decide) ?_
  refine z_lcmp_lt (pc := 15) (tgt := 32) hx hb dX3_isNear_15 dX3_isNear_16 (by decide) (by omega) (by decide) (fun c_1 => ?_) (fun c_1 => ?_)
  · have hc_15t := c_1
    refine z_iconst (pc := 32) hx hb dX3_isNear_32 ?_
    have hv : (0) = (nearZ (k_offs_c p0) p1) := by unfold nearZ; first | exact (pI_t (by omega)).symm | exact (pI_f (by omega)).symm
    exact W.zret (pc := 33) (v := zI 0) hx hb hr (z_narB (by first | exact z_pI01 _ | omega | decide)) (fun t ht hW => ⟨congrArg (fun z => Outcome.returned (some (vI z))) hv, ht⟩) (fun q h => absurd h List.not_mem_nil) dX3_isNear_33
  · have hc_15f := c_1
    refine lv_lload (pc := 19) hx hb dX3_isNear_19 (lv_at hl 0 rfl) ?_
    refine lv_ldc2 (pc := 21) hx hb hown cl_67 dX3_isNear_21 ?_
    refine z_topL (z := 500) (by decide) ?_
    refine z_lcmp_gt (pc := 24) (tgt := 32) hx hb dX3_isNear_24 dX3_isNear_25 (by decide) (by omega) (by decide) (fun c_2 => ?_) (fun c_2 => ?_)
    · have hc_24t := c_2
      refine z_iconst (pc := 32) hx hb dX3_isNear_32 ?_
      have hv : (0) = (nearZ (k_offs_c p0) p1) := by unfold nearZ; first | exact (pI_t (by omega)).symm | exact (pI_f (by omega)).symm
      exact W.zret (pc := 33) (v := zI 0) hx hb hr (z_narB (by first | exact z_pI01 _ | omega | decide)) (fun t ht hW => ⟨congrArg (fun z => Outcome.returned (some (vI z))) hv, ht⟩) (fun q h => absurd h List.not_mem_nil) dX3_isNear_33
    · have hc_24f := c_2
      refine z_iconst (pc := 28) hx hb dX3_isNear_28 ?_
      refine lv_goto (pc := 29) (tgt := 33) hx hb dX3_isNear_29 (by decide) ?_
      have hv : (1) = (nearZ (k_offs_c p0) p1) := by unfold nearZ; first | exact (pI_t (by omega)).symm | exact (pI_f (by omega)).symm
      exact W.zret (pc := 33) (v := zI 1) hx hb hr (z_narB (by first | exact z_pI01 _ | omega | decide)) (fun t ht hW => ⟨congrArg (fun z => Outcome.returned (some (vI z))) hv, ht⟩) (fun q h => absurd h List.not_mem_nil) dX3_isNear_33

set_option maxHeartbeats 4000000 in
set_option maxRecDepth 100000 in
theorem m_X3_countNear (l : Launch) (D : va_G) (cI cJ cZ cD : ClassId) (sz : Nat) (kA : Nat) (k_stretches : Nat) (k_arcs : Nat) (k_cheeks : Nat) (k_adjustments : Nat) (k_offs : Nat) (k_sorted : Nat) (k_clockCount : Int) (k_nowHeat : Int) (k_nowPressure : Int) (k_daysGone : Int) (k_offs_c : Int → Int) (k_sorted_c : Int → Int) (Bd : Int) (hn : 0 ≤ k_clockCount ∧ k_clockCount ≤ 10) (hB : 0 ≤ Bd ∧ Bd ≤ 1000000000000000000) (ho : ∀ j : Int, 0 ≤ j → j < 10 → -Bd ≤ k_offs_c j ∧ k_offs_c j ≤ Bd) (hso : ∀ j : Int, 0 ≤ j → j < 10 → -Bd ≤ k_sorted_c j ∧ k_sorted_c j ≤ Bd) : Met l yX3_countNear wsX3_countNear ({ frames := 2, cells := 0, slots := 0, locals := 47 } : Room) (zPc D (TY cI cJ cZ cD) sz [.ref kA] [(kA, .inr (2, [.ref k_stretches, .ref k_arcs, .ref k_cheeks, .ref k_adjustments, .ref k_offs, .ref k_sorted, vI k_clockCount, vI k_nowHeat, vI k_nowPressure, vL k_daysGone])), (k_offs, .inl (cJ, 10, .inr (.inl (aL k_offs_c)))), (k_sorted, .inl (cJ, 10, .inr (.inl (aL k_sorted_c))))]) (va_Qi (fun (r : Int32) (u : (Int → Int)) => match u with | g => r = zI (smZ (fun j => nearZ (k_offs_c j) (midZ k_offs_c k_clockCount)) (Int.toNat k_clockCount)) ∧ (∀ j : Int, 0 ≤ j → j < 10 → -Bd ≤ g j ∧ g j ≤ Bd)) (zB D (va_A [(kA, .inr (2, [.ref k_stretches, .ref k_arcs, .ref k_cheeks, .ref k_adjustments, .ref k_offs, .ref k_sorted, vI k_clockCount, vI k_nowHeat, vI k_nowPressure, vL k_daysGone])), (k_offs, .inl (cJ, 10, .inr (.inl (aL k_offs_c)))), (k_sorted, .inl (cJ, 10, .inr (.inl (aL k_sorted_c))))] sz) (fun (u : (Int → Int)) => match u with | g => [(kA, .inr (2, [.ref k_stretches, .ref k_arcs, .ref k_cheeks, .ref k_adjustments, .ref k_offs, .ref k_sorted, vI k_clockCount, vI k_nowHeat, vI k_nowPressure, vL k_daysGone])), (k_offs, .inl (cJ, 10, .inr (.inl (aL k_offs_c)))), (k_sorted, .inl (cJ, 10, .inr (.inl (aL g))))])) (va_A [(kA, .inr (2, [.ref k_stretches, .ref k_arcs, .ref k_cheeks, .ref k_adjustments, .ref k_offs, .ref k_sorted, vI k_clockCount, vI k_nowHeat, vI k_nowPressure, vL k_daysGone])), (k_offs, .inl (cJ, 10, .inr (.inl (aL k_offs_c)))), (k_sorted, .inl (cJ, 10, .inr (.inl (aL k_sorted_c))))] sz)) 0 0 (va_A [(kA, .inr (2, [.ref k_stretches, .ref k_arcs, .ref k_cheeks, .ref k_adjustments, .ref k_offs, .ref k_sorted, vI k_clockCount, vI k_nowHeat, vI k_nowPressure, vL k_daysGone])), (k_offs, .inl (cJ, 10, .inr (.inl (aL k_offs_c)))), (k_sorted, .inl (cJ, 10, .inr (.inl (aL k_sorted_c))))] sz) := by
  refine Met.ofW (cc := cX3_countNear) (maxL := 5) (ret := (some .int)) (by decide) rfl ?_
  intro p e s m args below meth c s₁ B hml hv
  obtain ⟨rfl, hsz, hP, hK, hD0, hN⟩ := hv
  have hx := B.exec
  have hb := B.bytes
  have hr := B.returns
  have hts := atoms_spec (ws := wsX3_countNear) B.pre
  have hown : s.vm.findClass RX3 = some m.cls := findClass_of_methodNamed B.named
  have hlocks := B.notSynchronized
  subst hsz
  have hD := hD0.self (sz := s.heap.size)
  generalize hAe : va_A [(kA, .inr (2, [.ref k_stretches, .ref k_arcs, .ref k_cheeks, .ref k_adjustments, .ref k_offs, .ref k_sorted, vI k_clockCount, vI k_nowHeat, vI k_nowPressure, vL k_daysGone])), (k_offs, .inl (cJ, 10, .inr (.inl (aL k_offs_c)))), (k_sorted, .inl (cJ, 10, .inr (.inl (aL k_sorted_c))))] s.heap.size = A at hD ⊢
  have hA : ∀ q : Nat, s.heap.size ≤ q → A q := fun q h => by rw [← hAe]; exact Or.inr h
  have hS : va_S A s.heap s.heap [] := va_S.rf
  have hP : va_P D vwCl [(kA, .inr (2, [.ref k_stretches, .ref k_arcs, .ref k_cheeks, .ref k_adjustments, .ref k_offs, .ref k_sorted, vI k_clockCount, vI k_nowHeat, vI k_nowPressure, vL k_daysGone])), (k_offs, .inl (cJ, 10, .inr (.inl (aL k_offs_c)))), (k_sorted, .inl (cJ, 10, .inr (.inl (aL k_sorted_c))))] s.heap := hP
  have fl_37 := hts (.fieldLink RX3 37 "PendulumHall$Clocks" "clockCount" "I") (by decide +kernel)
  have in_X3 : ∀ w ∈ wsX30, w ∈ wsX3_countNear := by decide +kernel
  have hl := lv_entry ([.ref kA]) (n := 5) (Nat.le_of_ble_eq_true rfl)
  rw [lg_entry_eq]
  generalize (lg_sl ([.ref kA]) ++ List.replicate (5 - (lg_sl ([.ref kA])).length) Slot.unset).toArray = ls at hl ⊢
  have hl : lv_has ls 5 [(0, .ref kA)] := hl
  refine lv_aload_n (pc := 0) hx hb dX3_countNear_0 rfl (lv_at hl 0 rfl) ?_
  have hPc := hP.sub (ws' := [(kA, .inr (2, [.ref k_stretches, .ref k_arcs, .ref k_cheeks, .ref k_adjustments, .ref k_offs, .ref k_sorted, vI k_clockCount, vI k_nowHeat, vI k_nowPressure, vL k_daysGone])), (k_offs, .inl (cJ, 10, .inr (.inl (aL k_offs_c)))), (k_sorted, .inl (cJ, 10, .inr (.inl (aL k_sorted_c))))]) [0, 1, 2] rfl
  have hDc := hD.sub (ws' := [(kA, .inr (2, [.ref k_stretches, .ref k_arcs, .ref k_cheeks, .ref k_adjustments, .ref k_offs, .ref k_sorted, vI k_clockCount, vI k_nowHeat, vI k_nowPressure, vL k_daysGone])), (k_offs, .inl (cJ, 10, .inr (.inl (aL k_offs_c)))), (k_sorted, .inl (cJ, 10, .inr (.inl (aL k_sorted_c))))]) [0, 1, 2] (by decide) rfl
  refine z_callWl (pc := 1) (wc := [(kA, .inr (2, [.ref k_stretches, .ref k_arcs, .ref k_cheeks, .ref k_adjustments, .ref k_offs, .ref k_sorted, vI k_clockCount, vI k_nowHeat, vI k_nowPressure, vL k_daysGone])), (k_offs, .inl (cJ, 10, .inr (.inl (aL k_offs_c)))), (k_sorted, .inl (cJ, 10, .inr (.inl (aL k_sorted_c))))]) hP hD hS hA [0, 1, 2] [] [] rfl rfl (by decide) (by decide) (va_runV (As := []) (rest := []) ⟨hx, hb, hml, hown, hts⟩ (m_X3_middle l D cI cJ cZ cD s.heap.size kA k_stretches k_arcs k_cheeks k_adjustments k_offs k_sorted k_clockCount k_nowHeat k_nowPressure k_daysGone k_offs_c k_sorted_c Bd  (by omega) (by omega) ho hso) (cwV 0 hts gX3_countNear_X3_middle rfl rfl rfl (by decide +kernel) ⟨Nat.le_of_ble_eq_true rfl, Nat.le_of_ble_eq_true rfl⟩) ⟨z_blind, va_recv hK hPc (ci := 2) (q0 := 0) rfl rfl, z_pre hPc hK hDc rfl rfl hN⟩ rfl rfl hl.1 rfl (lv_room (Nat.le_of_ble_eq_true rfl)) dX3_countNear_1 ⟨Nat.zero_le _, Nat.zero_le _⟩) (fun r u H locs hw hP hD hS => ?_)
  obtain ⟨u_1, u_2⟩ := u
  obtain ⟨rfl, hw_3⟩ := hw
  have hw_3 : (0 < k_clockCount → u_2 = midZ k_offs_c k_clockCount) ∧ (-Bd ≤ u_2 ∧ u_2 ≤ Bd) ∧ (∀ j : Int, 0 ≤ j → j < 10 → -Bd ≤ u_1 j ∧ u_1 j ≤ Bd) := hw_3
  have hP : va_P D vwCl [(kA, .inr (2, [.ref k_stretches, .ref k_arcs, .ref k_cheeks, .ref k_adjustments, .ref k_offs, .ref k_sorted, vI k_clockCount, vI k_nowHeat, vI k_nowPressure, vL k_daysGone])), (k_offs, .inl (cJ, 10, .inr (.inl (aL k_offs_c)))), (k_sorted, .inl (cJ, 10, .inr (.inl (aL u_1))))] H := hP
  have hD : va_D A [(kA, .inr (2, [.ref k_stretches, .ref k_arcs, .ref k_cheeks, .ref k_adjustments, .ref k_offs, .ref k_sorted, vI k_clockCount, vI k_nowHeat, vI k_nowPressure, vL k_daysGone])), (k_offs, .inl (cJ, 10, .inr (.inl (aL k_offs_c)))), (k_sorted, .inl (cJ, 10, .inr (.inl (aL u_1))))] := hD
  obtain ⟨w1, w2, w3⟩ := hw_3
  refine lv_lstore_n (lv' := [(1, vL u_2), (0, .ref kA)]) (pc := 4) hx hb dX3_countNear_4 rfl hl (by decide) rfl (fun ls hl => ?_)
  refine z_iconst (pc := 5) hx hb dX3_countNear_5 ?_
  refine lv_istore_n (lv' := [(3, vI 0), (1, vL u_2), (0, .ref kA)]) (pc := 6) hx hb dX3_countNear_6 rfl hl (by decide) rfl (fun ls hl => ?_)
  refine z_iconst (pc := 7) hx hb dX3_countNear_7 ?_
  refine lv_istore (lv' := [(4, vI 0), (3, vI 0), (1, vL u_2), (0, .ref kA)]) (pc := 8) hx hb dX3_countNear_8 hl (by decide) rfl (fun ls hl => ?_)
  have LP_10 : ∀ (nfu : Nat) (k : Int) (nr : Int) (i1 : 0 ≤ k ∧ k ≤ k_clockCount) (i2 : nr = smZ (fun j => nearZ (k_offs_c j) (midZ k_offs_c k_clockCount)) (Int.toNat k)) (hme : k_clockCount - k + 1 < (nfu : Int)) (H : Heap) (locs : List Loc) (hP : va_P D vwCl [(kA, .inr (2, [.ref k_stretches, .ref k_arcs, .ref k_cheeks, .ref k_adjustments, .ref k_offs, .ref k_sorted, vI k_clockCount, vI k_nowHeat, vI k_nowPressure, vL k_daysGone])), (k_offs, .inl (cJ, 10, .inr (.inl (aL k_offs_c)))), (k_sorted, .inl (cJ, 10, .inr (.inl (aL u_1))))] H) (hD : va_D A [(kA, .inr (2, [.ref k_stretches, .ref k_arcs, .ref k_cheeks, .ref k_adjustments, .ref k_offs, .ref k_sorted, vI k_clockCount, vI k_nowHeat, vI k_nowPressure, vL k_daysGone])), (k_offs, .inl (cJ, 10, .inr (.inl (aL k_offs_c)))), (k_sorted, .inl (cJ, 10, .inr (.inl (aL u_1))))]) (hS : va_S A s.heap H locs) (ls : Array Slot) (hl : lv_has ls 5 [(4, vI k), (3, vI nr), (1, vL u_2), (0, .ref kA)]), W p l e (headSpec wsX3_countNear ({ frames := 2, cells := 0, slots := 0, locals := 47 } : Room)).room s m ([.ref kA] : List Value).toArray below meth c H locs 0 0 (MQ below (va_Qi (fun (r : Int32) (u : (Int → Int)) => match u with | g => r = zI (smZ (fun j => nearZ (k_offs_c j) (midZ k_offs_c k_clockCount)) (Int.toNat k_clockCount)) ∧ (∀ j : Int, 0 ≤ j → j < 10 → -Bd ≤ g j ∧ g j ≤ Bd)) (zB D A (fun (u : (Int → Int)) => match u with | g => [(kA, .inr (2, [.ref k_stretches, .ref k_arcs, .ref k_cheeks, .ref k_adjustments, .ref k_offs, .ref k_sorted, vI k_clockCount, vI k_nowHeat, vI k_nowPressure, vL k_daysGone])), (k_offs, .inl (cJ, 10, .inr (.inl (aL k_offs_c)))), (k_sorted, .inl (cJ, 10, .inr (.inl (aL g))))])) A) ([.ref kA] : List Value).toArray s 0 0 A) (F0 m 10 ls []) := by
    intro nfu
    induction nfu with
    | zero =>
      intro k nr i1 i2 hme H locs hP hD hS ls hl
      exact absurd hme (by omega)
    | succ nfu ih_10 =>
      intro k nr i1 i2 hme H locs hP hD hS ls hl
      refine lv_iload (pc := 10) hx hb dX3_countNear_10 (lv_at hl 0 rfl) ?_
      refine lv_aload_n (pc := 12) hx hb dX3_countNear_12 rfl (lv_at hl 3 rfl) ?_
      refine va_get (pc := 13) (D := D) (ci := 2) (v := vI k_clockCount) (C := RX3) (T := TX3) (N := 10) hx hb hts in_X3 hown hK hP 0 rfl rfl 6 (by decide) fl_37 (fun _ h9 => h9) rfl dX3_countNear_13 ?_
      refine z_icmp_ge (pc := 16) (tgt := 38) hx hb dX3_countNear_16 (by decide) (by omega) (by omega) (fun c_4 => ?_) (fun c_4 => ?_)
      · have hc_16t := c_4
        refine lv_iload_n (pc := 38) hx hb dX3_countNear_38 rfl (lv_at hl 1 rfl) ?_
        have hP9 := hP.sub (ws' := [(kA, .inr (2, [.ref k_stretches, .ref k_arcs, .ref k_cheeks, .ref k_adjustments, .ref k_offs, .ref k_sorted, vI k_clockCount, vI k_nowHeat, vI k_nowPressure, vL k_daysGone])), (k_offs, .inl (cJ, 10, .inr (.inl (aL k_offs_c)))), (k_sorted, .inl (cJ, 10, .inr (.inl (aL u_1))))]) [0, 1, 2] rfl
        have hD9 := hD.sub (ws' := [(kA, .inr (2, [.ref k_stretches, .ref k_arcs, .ref k_cheeks, .ref k_adjustments, .ref k_offs, .ref k_sorted, vI k_clockCount, vI k_nowHeat, vI k_nowPressure, vL k_daysGone])), (k_offs, .inl (cJ, 10, .inr (.inl (aL k_offs_c)))), (k_sorted, .inl (cJ, 10, .inr (.inl (aL u_1))))]) [0, 1, 2] (by decide) rfl
        have hrel : ∀ j : Int, 0 ≤ j → j < 10 → -Bd ≤ u_1 j ∧ u_1 j ≤ Bd := by exact w3
        have hv : (nr) = (smZ (fun j => nearZ (k_offs_c j) (midZ k_offs_c k_clockCount)) (Int.toNat k_clockCount)) := by rw [i2, show k = k_clockCount by omega]
        exact W.iret (pc := 39) (v := zI nr) hx hb hr (fun t ht hW => ⟨⟨zI nr, u_1, rfl, ⟨congrArg zI hv, hrel⟩, by rw [ht]; exact hP9, hD9⟩, hS.F ht⟩) hS.2.2 dX3_countNear_39
      · have hc_16f := c_4
        refine lv_aload_n (pc := 19) hx hb dX3_countNear_19 rfl (lv_at hl 3 rfl) ?_
        refine lv_iload (pc := 20) hx hb dX3_countNear_20 (lv_at hl 0 rfl) ?_
        refine lv_lload_n (pc := 22) hx hb dX3_countNear_22 rfl (lv_at hl 2 rfl) ?_
        have hPc := hP.sub (ws' := [(kA, .inr (2, [.ref k_stretches, .ref k_arcs, .ref k_cheeks, .ref k_adjustments, .ref k_offs, .ref k_sorted, vI k_clockCount, vI k_nowHeat, vI k_nowPressure, vL k_daysGone])), (k_offs, .inl (cJ, 10, .inr (.inl (aL k_offs_c))))]) [0, 1] rfl
        have hDc := hD.sub (ws' := [(kA, .inr (2, [.ref k_stretches, .ref k_arcs, .ref k_cheeks, .ref k_adjustments, .ref k_offs, .ref k_sorted, vI k_clockCount, vI k_nowHeat, vI k_nowPressure, vL k_daysGone])), (k_offs, .inl (cJ, 10, .inr (.inl (aL k_offs_c))))]) [0, 1] (by decide) rfl
        refine z_callR (pc := 23) (va_runV (As := [vI k, vL u_2]) (rest := []) ⟨hx, hb, hml, hown, hts⟩ (m_X3_isNear l D cI cJ cZ cD H.size kA k_stretches k_arcs k_cheeks k_adjustments k_offs k_sorted k_clockCount k_nowHeat k_nowPressure k_daysGone k_offs_c Bd k u_2 (by omega) (by omega) ho (by omega)) (cwV 2 hts gX3_countNear_X3_isNear rfl rfl rfl (by decide +kernel) ⟨Nat.le_of_ble_eq_true rfl, Nat.le_of_ble_eq_true rfl⟩) ⟨z_blind, va_recv hK hPc (ci := 2) (q0 := 0) rfl rfl, z_pre hPc hK hDc rfl rfl hN⟩ rfl rfl hl.1 rfl (lv_room (Nat.le_of_ble_eq_true rfl)) dX3_countNear_23 ⟨Nat.zero_le _, Nat.zero_le _⟩) ?_
        have e1 : nearZ (k_offs_c k) u_2 = nearZ (k_offs_c k) (midZ k_offs_c k_clockCount) := by rw [w1 (by omega)]
        have e2 := pI_rng (-500 ≤ k_offs_c k - u_2 ∧ k_offs_c k - u_2 ≤ 500)
        have e3 : nearZ (k_offs_c k) u_2 = pI (-500 ≤ k_offs_c k - u_2 ∧ k_offs_c k - u_2 ≤ 500) := rfl
        refine z_if_eq (pc := 26) (tgt := 32) hx hb dX3_countNear_26 (by decide) (by omega) (fun c_5 => ?_) (fun c_5 => ?_)
        · have hc_26t := c_5
          refine lv_iinc (v := zI (k + 1)) (lv' := [(4, vI (k + 1)), (3, vI nr), (1, vL u_2), (0, .ref kA)]) (pc := 32) hx hb dX3_countNear_32 hl (k := 0) rfl (zI_add _ _) (by decide) rfl (fun ls hl => ?_)
          refine lv_goto (pc := 35) (tgt := 10) hx hb dX3_countNear_35 (by decide) ?_
          exact ih_10 (k + 1) nr (by omega) (by rw [smZ_toNat _ i1.1, ← i2, ← e1]; omega) (by omega) _ _ (hP.sub [0, 1, 2] rfl) (hD.sub [0, 1, 2] (by decide) rfl) hS _ (lv_sub hl [0, 1, 2, 3] rfl)
        · have hc_26f := c_5
          refine lv_iinc (v := zI (nr + 1)) (lv' := [(3, vI (nr + 1)), (4, vI k), (1, vL u_2), (0, .ref kA)]) (pc := 29) hx hb dX3_countNear_29 hl (k := 1) rfl (zI_add _ _) (by decide) rfl (fun ls hl => ?_)
          refine lv_iinc (v := zI (k + 1)) (lv' := [(4, vI (k + 1)), (3, vI (nr + 1)), (1, vL u_2), (0, .ref kA)]) (pc := 32) hx hb dX3_countNear_32 hl (k := 1) rfl (zI_add _ _) (by decide) rfl (fun ls hl => ?_)
          refine lv_goto (pc := 35) (tgt := 10) hx hb dX3_countNear_35 (by decide) ?_
          exact ih_10 (k + 1) (nr + 1) (by omega) (by rw [smZ_toNat _ i1.1, ← i2, ← e1]; omega) (by omega) _ _ (hP.sub [0, 1, 2] rfl) (hD.sub [0, 1, 2] (by decide) rfl) hS _ (lv_sub hl [0, 1, 2, 3] rfl)
  exact LP_10 (Int.toNat ((k_clockCount - 0 + 1) + 1)) 0 0 (by omega) (by rfl) (by omega) _ _ (hP.sub [0, 1, 2] rfl) (hD.sub [0, 1, 2] (by decide) rfl) hS _ (lv_sub hl [0, 1, 2, 3] rfl)
