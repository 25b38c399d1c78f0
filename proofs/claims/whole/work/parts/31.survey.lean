set_option maxHeartbeats 4000000 in
set_option maxRecDepth 100000 in
theorem m_X5_moveDatum (l : Launch) (D : va_G) (cI cJ cZ cD : ClassId) (sz : Nat) (vA : Nat) (v_stations : Nat) (v_hours : Nat) (v_values : Nat) (v_ties : Nat) (v_tied : Nat) (v_steps : Nat) (v_readings : Int) (v_datumStation : Int) (v_datumValue : Int) (p0 : Int) (p1 : Int) : Met l yX5_moveDatum wsX5_moveDatum ({ frames := 0, cells := 0, slots := 0, locals := 0 } : Room) (zPc D (TY cI cJ cZ cD) sz [.ref vA, vI p0, vI p1] [(vA, .inr (3, [.ref v_stations, .ref v_hours, .ref v_values, .ref v_ties, .ref v_tied, .ref v_steps, vI v_readings, vI v_datumStation, vI v_datumValue]))]) (va_Qv (fun (u : Unit) => match u with | _ => True) (zB D (va_A [(vA, .inr (3, [.ref v_stations, .ref v_hours, .ref v_values, .ref v_ties, .ref v_tied, .ref v_steps, vI v_readings, vI v_datumStation, vI v_datumValue]))] sz) (fun (u : Unit) => match u with | _ => [(vA, .inr (3, [.ref v_stations, .ref v_hours, .ref v_values, .ref v_ties, .ref v_tied, .ref v_steps, vI v_readings, vI p0, vI p1]))])) (va_A [(vA, .inr (3, [.ref v_stations, .ref v_hours, .ref v_values, .ref v_ties, .ref v_tied, .ref v_steps, vI v_readings, vI v_datumStation, vI v_datumValue]))] sz)) 0 0 (va_A [(vA, .inr (3, [.ref v_stations, .ref v_hours, .ref v_values, .ref v_ties, .ref v_tied, .ref v_steps, vI v_readings, vI v_datumStation, vI v_datumValue]))] sz) := by
  refine Met.ofW (cc := cX5_moveDatum) (maxL := 3) (ret := none) (by decide) rfl ?_
  intro p e s m args below meth c s₁ B hml hv
  obtain ⟨rfl, hsz, hP, hK, hD0, hN⟩ := hv
  have hx := B.exec
  have hb := B.bytes
  have hr := B.returns
  have hts := atoms_spec (ws := wsX5_moveDatum) B.pre
  have hown : s.vm.findClass RX5 = some m.cls := findClass_of_methodNamed B.named
  have hlocks := B.notSynchronized
  subst hsz
  have hD := hD0.self (sz := s.heap.size)
  generalize hAe : va_A [(vA, .inr (3, [.ref v_stations, .ref v_hours, .ref v_values, .ref v_ties, .ref v_tied, .ref v_steps, vI v_readings, vI v_datumStation, vI v_datumValue]))] s.heap.size = A at hD ⊢
  have hA : ∀ q : Nat, s.heap.size ≤ q → A q := fun q h => by rw [← hAe]; exact Or.inr h
  have hS : va_S A s.heap s.heap [] := va_S.rf
  have hP : va_P D vwCl [(vA, .inr (3, [.ref v_stations, .ref v_hours, .ref v_values, .ref v_ties, .ref v_tied, .ref v_steps, vI v_readings, vI v_datumStation, vI v_datumValue]))] s.heap := hP
  have fl_31 := hts (.fieldLink RX5 31 "PendulumHall$Survey" "datumStation" "I") (by decide +kernel)
  have fl_35 := hts (.fieldLink RX5 35 "PendulumHall$Survey" "datumValue" "I") (by decide +kernel)
  have in_X5 : ∀ w ∈ wsX50, w ∈ wsX5_moveDatum := by decide +kernel
  have hl := lv_entry ([.ref vA, vI p0, vI p1]) (n := 3) (Nat.le_of_ble_eq_true rfl)
  rw [lg_entry_eq]
  generalize (lg_sl ([.ref vA, vI p0, vI p1]) ++ List.replicate (3 - (lg_sl ([.ref vA, vI p0, vI p1])).length) Slot.unset).toArray = ls at hl ⊢
  have hl : lv_has ls 3 [(0, .ref vA), (1, vI p0), (2, vI p1)] := hl
  refine lv_aload_n (pc := 0) hx hb dX5_moveDatum_0 rfl (lv_at hl 0 rfl) ?_
  refine lv_iload_n (pc := 1) hx hb dX5_moveDatum_1 rfl (lv_at hl 1 rfl) ?_
  refine va_put (pc := 2) (D := D) (ci := 3) (v := vI p0) (ty := .int) (C := RX5) (T := TX5) (N := 9) hx hb hts in_X5 tyX5 tyX5_ok nmX5 hown hK hP hD hS 0 rfl rfl 7 (by decide) fl_31 (fun _ h9 => h9) rfl (by decide +kernel) rfl rfl (Nat.le_of_ble_eq_true rfl) dX5_moveDatum_2 (fun H locs hP hD hS => ?_)
  have hP : va_P D vwCl [(vA, .inr (3, [.ref v_stations, .ref v_hours, .ref v_values, .ref v_ties, .ref v_tied, .ref v_steps, vI v_readings, vI p0, vI v_datumValue]))] H := hP
  have hD : va_D A [(vA, .inr (3, [.ref v_stations, .ref v_hours, .ref v_values, .ref v_ties, .ref v_tied, .ref v_steps, vI v_readings, vI p0, vI v_datumValue]))] := hD
  refine lv_aload_n (pc := 5) hx hb dX5_moveDatum_5 rfl (lv_at hl 0 rfl) ?_
  refine lv_iload_n (pc := 6) hx hb dX5_moveDatum_6 rfl (lv_at hl 2 rfl) ?_
  refine va_put (pc := 7) (D := D) (ci := 3) (v := vI p1) (ty := .int) (C := RX5) (T := TX5) (N := 9) hx hb hts in_X5 tyX5 tyX5_ok nmX5 hown hK hP hD hS 0 rfl rfl 8 (by decide) fl_35 (fun _ h9 => h9) rfl (by decide +kernel) rfl rfl (Nat.le_of_ble_eq_true rfl) dX5_moveDatum_7 (fun H locs hP hD hS => ?_)
  have hP : va_P D vwCl [(vA, .inr (3, [.ref v_stations, .ref v_hours, .ref v_values, .ref v_ties, .ref v_tied, .ref v_steps, vI v_readings, vI p0, vI p1]))] H := hP
  have hD : va_D A [(vA, .inr (3, [.ref v_stations, .ref v_hours, .ref v_values, .ref v_ties, .ref v_tied, .ref v_steps, vI v_readings, vI p0, vI p1]))] := hD
  have hP9 := hP.sub (ws' := [(vA, .inr (3, [.ref v_stations, .ref v_hours, .ref v_values, .ref v_ties, .ref v_tied, .ref v_steps, vI v_readings, vI p0, vI p1]))]) [0] rfl
  have hD9 := hD.sub (ws' := [(vA, .inr (3, [.ref v_stations, .ref v_hours, .ref v_values, .ref v_ties, .ref v_tied, .ref v_steps, vI v_readings, vI p0, vI p1]))]) [0] (by decide) rfl
  exact W.vret (pc := 10) hx hb hr (fun t ht hW => ⟨⟨(), rfl, trivial, by rw [ht]; exact hP9, hD9⟩, hS.F ht⟩) hS.2.2 dX5_moveDatum_10

set_option maxHeartbeats 4000000 in
set_option maxRecDepth 100000 in
theorem m_X5_readingCount (l : Launch) (D : va_G) (cI cJ cZ cD : ClassId) (sz : Nat) (vA : Nat) (v_stations : Nat) (v_hours : Nat) (v_values : Nat) (v_ties : Nat) (v_tied : Nat) (v_steps : Nat) (v_readings : Int) (v_datumStation : Int) (v_datumValue : Int) : Met l yX5_readingCount wsX5_readingCount ({ frames := 0, cells := 0, slots := 0, locals := 0 } : Room) (zPc D (TY cI cJ cZ cD) sz [.ref vA] [(vA, .inr (3, [.ref v_stations, .ref v_hours, .ref v_values, .ref v_ties, .ref v_tied, .ref v_steps, vI v_readings, vI v_datumStation, vI v_datumValue]))]) (zQr (some (vI v_readings))) 0 0 (fun _ => False) := by
  refine Met.ofW (cc := cX5_readingCount) (maxL := 1) (ret := (some .int)) (by decide) rfl ?_
  intro p e s m args below meth c s₁ B hml hv
  obtain ⟨rfl, hsz, hP, hK, hD0, hN⟩ := hv
  have hx := B.exec
  have hb := B.bytes
  have hr := B.returns
  have hts := atoms_spec (ws := wsX5_readingCount) B.pre
  have hown : s.vm.findClass RX5 = some m.cls := findClass_of_methodNamed B.named
  have hlocks := B.notSynchronized
  have hD := hD0
  subst hsz
  have hP : va_P D vwCl [(vA, .inr (3, [.ref v_stations, .ref v_hours, .ref v_values, .ref v_ties, .ref v_tied, .ref v_steps, vI v_readings, vI v_datumStation, vI v_datumValue]))] s.heap := hP
  have fl_38 := hts (.fieldLink RX5 38 "PendulumHall$Survey" "readings" "I") (by decide +kernel)
  have in_X5 : ∀ w ∈ wsX50, w ∈ wsX5_readingCount := by decide +kernel
  have hl := lv_entry ([.ref vA]) (n := 1) (Nat.le_of_ble_eq_true rfl)
  rw [lg_entry_eq]
  generalize (lg_sl ([.ref vA]) ++ List.replicate (1 - (lg_sl ([.ref vA])).length) Slot.unset).toArray = ls at hl ⊢
  have hl : lv_has ls 1 [(0, .ref vA)] := hl
  refine lv_aload_n (pc := 0) hx hb dX5_readingCount_0 rfl (lv_at hl 0 rfl) ?_
  refine va_get (pc := 1) (D := D) (ci := 3) (v := vI v_readings) (C := RX5) (T := TX5) (N := 9) hx hb hts in_X5 hown hK hP 0 rfl rfl 6 (by decide) fl_38 (fun _ h9 => h9) rfl dX5_readingCount_1 ?_
  have hv : (v_readings) = (v_readings) := rfl
  exact W.iret (pc := 4) (v := zI v_readings) hx hb hr (fun t ht hW => ⟨congrArg (fun z => Outcome.returned (some (vI z))) hv, ht⟩) (fun q h => absurd h List.not_mem_nil) dX5_readingCount_4

set_option maxHeartbeats 4000000 in
set_option maxRecDepth 100000 in
theorem m_X5_isFull (l : Launch) (D : va_G) (cI cJ cZ cD : ClassId) (sz : Nat) (vA : Nat) (v_stations : Nat) (v_hours : Nat) (v_values : Nat) (v_ties : Nat) (v_tied : Nat) (v_steps : Nat) (v_readings : Int) (v_datumStation : Int) (v_datumValue : Int) (hn : 0 ≤ v_readings ∧ v_readings ≤ 12) : Met l yX5_isFull wsX5_isFull ({ frames := 0, cells := 0, slots := 0, locals := 0 } : Room) (zPc D (TY cI cJ cZ cD) sz [.ref vA] [(vA, .inr (3, [.ref v_stations, .ref v_hours, .ref v_values, .ref v_ties, .ref v_tied, .ref v_steps, vI v_readings, vI v_datumStation, vI v_datumValue]))]) (zQr (some (vI (pI (v_readings = 12))))) 0 0 (fun _ => False) := by
  refine Met.ofW (cc := cX5_isFull) (maxL := 1) (ret := (some .boolean)) (by decide) rfl ?_
  intro p e s m args below meth c s₁ B hml hv
  obtain ⟨rfl, hsz, hP, hK, hD0, hN⟩ := hv
  have hx := B.exec
  have hb := B.bytes
  have hr := B.returns
  have hts := atoms_spec (ws := wsX5_isFull) B.pre
  have hown : s.vm.findClass RX5 = some m.cls := findClass_of_methodNamed B.named
  have hlocks := B.notSynchronized
  have hD := hD0
  subst hsz
  have hP : va_P D vwCl [(vA, .inr (3, [.ref v_stations, .ref v_hours, .ref v_values, .ref v_ties, .ref v_tied, .ref v_steps, vI v_readings, vI v_datumStation, vI v_datumValue]))] s.heap := hP
  have fl_38 := hts (.fieldLink RX5 38 "PendulumHall$Survey" "readings" "I") (by decide +kernel)
  have in_X5 : ∀ w ∈ wsX50, w ∈ wsX5_isFull := by decide +kernel
  have hl := lv_entry ([.ref vA]) (n := 1) (Nat.le_of_ble_eq_true rfl)
  rw [lg_entry_eq]
  generalize (lg_sl ([.ref vA]) ++ List.replicate (1 - (lg_sl ([.ref vA])).length) Slot.unset).toArray = ls at hl ⊢
  have hl : lv_has ls 1 [(0, .ref vA)] := hl
  refine lv_aload_n (pc := 0) hx hb dX5_isFull_0 rfl (lv_at hl 0 rfl) ?_
  refine va_get (pc := 1) (D := D) (ci := 3) (v := vI v_readings) (C := RX5) (T := TX5) (N := 9) hx hb hts in_X5 hown hK hP 0 rfl rfl 6 (by decide) fl_38 (fun _ h9 => h9) rfl dX5_isFull_1 ?_
  refine z_bipush (pc := 4) hx hb dX5_isFull_4 (by decide) ?_
  refine z_icmp_lt (pc := 6) (tgt := 13) hx hb dX5_isFull_6 (by decide) (by omega) (by decide) (fun c_1 => ?_) (fun c_1 => ?_)
  · have hc_6t := c_1
    refine z_iconst (pc := 13) hx hb dX5_isFull_13 ?_
    have hv : (0) = (pI (v_readings = 12)) := by first | rfl | exact (pI_t (by omega)).symm | exact (pI_f (by omega)).symm | omega
    exact W.zret (pc := 14) (v := zI 0) hx hb hr (z_narB (by first | exact z_pI01 _ | omega | decide)) (fun t ht hW => ⟨congrArg (fun z => Outcome.returned (some (vI z))) hv, ht⟩) (fun q h => absurd h List.not_mem_nil) dX5_isFull_14
  · have hc_6f := c_1
    refine z_iconst (pc := 9) hx hb dX5_isFull_9 ?_
    refine lv_goto (pc := 10) (tgt := 14) hx hb dX5_isFull_10 (by decide) ?_
    have hv : (1) = (pI (v_readings = 12)) := by first | rfl | exact (pI_t (by omega)).symm | exact (pI_f (by omega)).symm | omega
    exact W.zret (pc := 14) (v := zI 1) hx hb hr (z_narB (by first | exact z_pI01 _ | omega | decide)) (fun t ht hW => ⟨congrArg (fun z => Outcome.returned (some (vI z))) hv, ht⟩) (fun q h => absurd h List.not_mem_nil) dX5_isFull_14

set_option maxHeartbeats 4000000 in
set_option maxRecDepth 100000 in
theorem m_X5_isLater (l : Launch) (D : va_G) (cI cJ cZ cD : ClassId) (sz : Nat) (vA : Nat) (v_stations : Nat) (v_hours : Nat) (v_values : Nat) (v_ties : Nat) (v_tied : Nat) (v_steps : Nat) (v_readings : Int) (v_datumStation : Int) (v_datumValue : Int) (v_hours_c : Int → Int) (p0 : Int) (hn : 0 ≤ v_readings ∧ v_readings ≤ 12) (h0 : -2147483648 ≤ p0 ∧ p0 < 2147483648) (hh : ∀ j : Int, 0 ≤ j → j < 12 → 0 ≤ v_hours_c j ∧ v_hours_c j ≤ 10000) : Met l yX5_isLater wsX5_isLater ({ frames := 0, cells := 0, slots := 0, locals := 0 } : Room) (zPc D (TY cI cJ cZ cD) sz [.ref vA, vI p0] [(vA, .inr (3, [.ref v_stations, .ref v_hours, .ref v_values, .ref v_ties, .ref v_tied, .ref v_steps, vI v_readings, vI v_datumStation, vI v_datumValue])), (v_hours, .inl (cI, 12, .inl (aI v_hours_c)))]) (zQr (some (vI (pI (v_readings = 0 ∨ v_hours_c (v_readings - 1) < p0))))) 0 0 (fun _ => False) := by
  refine Met.ofW (cc := cX5_isLater) (maxL := 2) (ret := (some .boolean)) (by decide) rfl ?_
  intro p e s m args below meth c s₁ B hml hv
  obtain ⟨rfl, hsz, hP, hK, hD0, hN⟩ := hv
  have hx := B.exec
  have hb := B.bytes
  have hr := B.returns
  have hts := atoms_spec (ws := wsX5_isLater) B.pre
  have hown : s.vm.findClass RX5 = some m.cls := findClass_of_methodNamed B.named
  have hlocks := B.notSynchronized
  have hD := hD0
  subst hsz
  have hP : va_P D vwCl [(vA, .inr (3, [.ref v_stations, .ref v_hours, .ref v_values, .ref v_ties, .ref v_tied, .ref v_steps, vI v_readings, vI v_datumStation, vI v_datumValue])), (v_hours, .inl (cI, 12, .inl (aI v_hours_c)))] s.heap := hP
  have fl_15 := hts (.fieldLink RX5 15 "PendulumHall$Survey" "hours" "[I") (by decide +kernel)
  have fl_38 := hts (.fieldLink RX5 38 "PendulumHall$Survey" "readings" "I") (by decide +kernel)
  have in_X5 : ∀ w ∈ wsX50, w ∈ wsX5_isLater := by decide +kernel
  have hl := lv_entry ([.ref vA, vI p0]) (n := 2) (Nat.le_of_ble_eq_true rfl)
  rw [lg_entry_eq]
  generalize (lg_sl ([.ref vA, vI p0]) ++ List.replicate (2 - (lg_sl ([.ref vA, vI p0])).length) Slot.unset).toArray = ls at hl ⊢
  have hl : lv_has ls 2 [(0, .ref vA), (1, vI p0)] := hl
  refine lv_aload_n (pc := 0) hx hb dX5_isLater_0 rfl (lv_at hl 0 rfl) ?_
  refine va_get (pc := 1) (D := D) (ci := 3) (v := vI v_readings) (C := RX5) (T := TX5) (N := 9) hx hb hts in_X5 hown hK hP 0 rfl rfl 6 (by decide) fl_38 (fun _ h9 => h9) rfl dX5_isLater_1 ?_
  refine z_if_eq (pc := 4) (tgt := 22) hx hb dX5_isLater_4 (by decide) (by omega) (fun c_1 => ?_) (fun c_1 => ?_)
  · have hc_4t := c_1
    refine z_iconst (pc := 22) hx hb dX5_isLater_22 ?_
    refine lv_goto (pc := 23) (tgt := 27) hx hb dX5_isLater_23 (by decide) ?_
    have hv : (1) = (pI (v_readings = 0 ∨ v_hours_c (v_readings - 1) < p0)) := by first | rfl | exact (pI_t (by omega)).symm | exact (pI_f (by omega)).symm | omega
    exact W.zret (pc := 27) (v := zI 1) hx hb hr (z_narB (by first | exact z_pI01 _ | omega | decide)) (fun t ht hW => ⟨congrArg (fun z => Outcome.returned (some (vI z))) hv, ht⟩) (fun q h => absurd h List.not_mem_nil) dX5_isLater_27
  · have hc_4f := c_1
    refine lv_iload_n (pc := 7) hx hb dX5_isLater_7 rfl (lv_at hl 1 rfl) ?_
    refine lv_aload_n (pc := 8) hx hb dX5_isLater_8 rfl (lv_at hl 0 rfl) ?_
    refine va_get (pc := 9) (D := D) (ci := 3) (v := .ref v_hours) (C := RX5) (T := TX5) (N := 9) hx hb hts in_X5 hown hK hP 0 rfl rfl 1 (by decide) fl_15 (fun _ h9 => h9) rfl dX5_isLater_9 ?_
    refine lv_aload_n (pc := 12) hx hb dX5_isLater_12 rfl (lv_at hl 0 rfl) ?_
    refine va_get (pc := 13) (D := D) (ci := 3) (v := vI v_readings) (C := RX5) (T := TX5) (N := 9) hx hb hts in_X5 hown hK hP 0 rfl rfl 6 (by decide) fl_38 (fun _ h9 => h9) rfl dX5_isLater_13 ?_
    refine z_iconst (pc := 16) hx hb dX5_isLater_16 ?_
    refine z_isub (pc := 17) hx hb dX5_isLater_17 ?_
    refine z_iald (pc := 18) hx hb hK hP 1 0 (by omega) rfl rfl (by first | decide | omega) dX5_isLater_18 ?_
    have f0 := hh (v_readings - 1) (by omega) (by omega)
    refine z_icmp_le (pc := 19) (tgt := 26) hx hb dX5_isLater_19 (by decide) (by omega) (by omega) (fun c_2 => ?_) (fun c_2 => ?_)
    · have hc_19t := c_2
      refine z_iconst (pc := 26) hx hb dX5_isLater_26 ?_
      have hv : (0) = (pI (v_readings = 0 ∨ v_hours_c (v_readings - 1) < p0)) := by first | rfl | exact (pI_t (by omega)).symm | exact (pI_f (by omega)).symm | omega
      exact W.zret (pc := 27) (v := zI 0) hx hb hr (z_narB (by first | exact z_pI01 _ | omega | decide)) (fun t ht hW => ⟨congrArg (fun z => Outcome.returned (some (vI z))) hv, ht⟩) (fun q h => absurd h List.not_mem_nil) dX5_isLater_27
    · have hc_19f := c_2
      refine z_iconst (pc := 22) hx hb dX5_isLater_22 ?_
      refine lv_goto (pc := 23) (tgt := 27) hx hb dX5_isLater_23 (by decide) ?_
      have hv : (1) = (pI (v_readings = 0 ∨ v_hours_c (v_readings - 1) < p0)) := by first | rfl | exact (pI_t (by omega)).symm | exact (pI_f (by omega)).symm | omega
      exact W.zret (pc := 27) (v := zI 1) hx hb hr (z_narB (by first | exact z_pI01 _ | omega | decide)) (fun t ht hW => ⟨congrArg (fun z => Outcome.returned (some (vI z))) hv, ht⟩) (fun q h => absurd h List.not_mem_nil) dX5_isLater_27

set_option maxHeartbeats 4000000 in
set_option maxRecDepth 100000 in
theorem m_X5_add (l : Launch) (D : va_G) (cI cJ cZ cD : ClassId) (sz : Nat) (vA : Nat) (v_stations : Nat) (v_hours : Nat) (v_values : Nat) (v_ties : Nat) (v_tied : Nat) (v_steps : Nat) (v_readings : Int) (v_datumStation : Int) (v_datumValue : Int) (v_stations_c : Int → Int) (v_hours_c : Int → Int) (v_values_c : Int → Int) (p0 : Int) (p1 : Int) (p2 : Int) (hn : 0 ≤ v_readings ∧ v_readings < 12) : Met l yX5_add wsX5_add ({ frames := 0, cells := 0, slots := 0, locals := 0 } : Room) (zPc D (TY cI cJ cZ cD) sz [.ref vA, vI p0, vI p1, vI p2] [(vA, .inr (3, [.ref v_stations, .ref v_hours, .ref v_values, .ref v_ties, .ref v_tied, .ref v_steps, vI v_readings, vI v_datumStation, vI v_datumValue])), (v_stations, .inl (cI, 12, .inl (aI v_stations_c))), (v_hours, .inl (cI, 12, .inl (aI v_hours_c))), (v_values, .inl (cI, 12, .inl (aI v_values_c)))]) (va_Qi (fun (r : Int32) (u : Unit) => match u with | _ => r = zI (v_readings + 1) ∧ (True)) (zB D (va_A [(vA, .inr (3, [.ref v_stations, .ref v_hours, .ref v_values, .ref v_ties, .ref v_tied, .ref v_steps, vI v_readings, vI v_datumStation, vI v_datumValue])), (v_stations, .inl (cI, 12, .inl (aI v_stations_c))), (v_hours, .inl (cI, 12, .inl (aI v_hours_c))), (v_values, .inl (cI, 12, .inl (aI v_values_c)))] sz) (fun (u : Unit) => match u with | _ => [(vA, .inr (3, [.ref v_stations, .ref v_hours, .ref v_values, .ref v_ties, .ref v_tied, .ref v_steps, vI (v_readings + 1), vI v_datumStation, vI v_datumValue])), (v_stations, .inl (cI, 12, .inl (aI (uZ v_stations_c v_readings p0)))), (v_hours, .inl (cI, 12, .inl (aI (uZ v_hours_c v_readings p1)))), (v_values, .inl (cI, 12, .inl (aI (uZ v_values_c v_readings p2))))])) (va_A [(vA, .inr (3, [.ref v_stations, .ref v_hours, .ref v_values, .ref v_ties, .ref v_tied, .ref v_steps, vI v_readings, vI v_datumStation, vI v_datumValue])), (v_stations, .inl (cI, 12, .inl (aI v_stations_c))), (v_hours, .inl (cI, 12, .inl (aI v_hours_c))), (v_values, .inl (cI, 12, .inl (aI v_values_c)))] sz)) 0 0 (va_A [(vA, .inr (3, [.ref v_stations, .ref v_hours, .ref v_values, .ref v_ties, .ref v_tied, .ref v_steps, vI v_readings, vI v_datumStation, vI v_datumValue])), (v_stations, .inl (cI, 12, .inl (aI v_stations_c))), (v_hours, .inl (cI, 12, .inl (aI v_hours_c))), (v_values, .inl (cI, 12, .inl (aI v_values_c)))] sz) := by
  refine Met.ofW (cc := cX5_add) (maxL := 4) (ret := (some .int)) (by decide) rfl ?_
  intro p e s m args below meth c s₁ B hml hv
  obtain ⟨rfl, hsz, hP, hK, hD0, hN⟩ := hv
  have hx := B.exec
  have hb := B.bytes
  have hr := B.returns
  have hts := atoms_spec (ws := wsX5_add) B.pre
  have hown : s.vm.findClass RX5 = some m.cls := findClass_of_methodNamed B.named
  have hlocks := B.notSynchronized
  subst hsz
  have hD := hD0.self (sz := s.heap.size)
  generalize hAe : va_A [(vA, .inr (3, [.ref v_stations, .ref v_hours, .ref v_values, .ref v_ties, .ref v_tied, .ref v_steps, vI v_readings, vI v_datumStation, vI v_datumValue])), (v_stations, .inl (cI, 12, .inl (aI v_stations_c))), (v_hours, .inl (cI, 12, .inl (aI v_hours_c))), (v_values, .inl (cI, 12, .inl (aI v_values_c)))] s.heap.size = A at hD ⊢
  have hA : ∀ q : Nat, s.heap.size ≤ q → A q := fun q h => by rw [← hAe]; exact Or.inr h
  have hS : va_S A s.heap s.heap [] := va_S.rf
  have hP : va_P D vwCl [(vA, .inr (3, [.ref v_stations, .ref v_hours, .ref v_values, .ref v_ties, .ref v_tied, .ref v_steps, vI v_readings, vI v_datumStation, vI v_datumValue])), (v_stations, .inl (cI, 12, .inl (aI v_stations_c))), (v_hours, .inl (cI, 12, .inl (aI v_hours_c))), (v_values, .inl (cI, 12, .inl (aI v_values_c)))] s.heap := hP
  have fl_11 := hts (.fieldLink RX5 11 "PendulumHall$Survey" "stations" "[I") (by decide +kernel)
  have fl_15 := hts (.fieldLink RX5 15 "PendulumHall$Survey" "hours" "[I") (by decide +kernel)
  have fl_18 := hts (.fieldLink RX5 18 "PendulumHall$Survey" "values" "[I") (by decide +kernel)
  have fl_38 := hts (.fieldLink RX5 38 "PendulumHall$Survey" "readings" "I") (by decide +kernel)
  have in_X5 : ∀ w ∈ wsX50, w ∈ wsX5_add := by decide +kernel
  have hl := lv_entry ([.ref vA, vI p0, vI p1, vI p2]) (n := 4) (Nat.le_of_ble_eq_true rfl)
  rw [lg_entry_eq]
  generalize (lg_sl ([.ref vA, vI p0, vI p1, vI p2]) ++ List.replicate (4 - (lg_sl ([.ref vA, vI p0, vI p1, vI p2])).length) Slot.unset).toArray = ls at hl ⊢
  have hl : lv_has ls 4 [(0, .ref vA), (1, vI p0), (2, vI p1), (3, vI p2)] := hl
  refine lv_aload_n (pc := 0) hx hb dX5_add_0 rfl (lv_at hl 0 rfl) ?_
  refine va_get (pc := 1) (D := D) (ci := 3) (v := .ref v_stations) (C := RX5) (T := TX5) (N := 9) hx hb hts in_X5 hown hK hP 0 rfl rfl 0 (by decide) fl_11 (fun _ h9 => h9) rfl dX5_add_1 ?_
  refine lv_aload_n (pc := 4) hx hb dX5_add_4 rfl (lv_at hl 0 rfl) ?_
  refine va_get (pc := 5) (D := D) (ci := 3) (v := vI v_readings) (C := RX5) (T := TX5) (N := 9) hx hb hts in_X5 hown hK hP 0 rfl rfl 6 (by decide) fl_38 (fun _ h9 => h9) rfl dX5_add_5 ?_
  refine lv_iload_n (pc := 8) hx hb dX5_add_8 rfl (lv_at hl 1 rfl) ?_
  refine z_iast (pc := 9) hx hb hK hP hD hS 1 0 (by omega) rfl rfl (by first | decide | omega) dX5_add_9 (fun H locs hP hD hS => ?_)
  have hP : va_P D vwCl [(vA, .inr (3, [.ref v_stations, .ref v_hours, .ref v_values, .ref v_ties, .ref v_tied, .ref v_steps, vI v_readings, vI v_datumStation, vI v_datumValue])), (v_stations, .inl (cI, 12, .inl (aI (uZ v_stations_c v_readings p0)))), (v_hours, .inl (cI, 12, .inl (aI v_hours_c))), (v_values, .inl (cI, 12, .inl (aI v_values_c)))] H := hP
  have hD : va_D A [(vA, .inr (3, [.ref v_stations, .ref v_hours, .ref v_values, .ref v_ties, .ref v_tied, .ref v_steps, vI v_readings, vI v_datumStation, vI v_datumValue])), (v_stations, .inl (cI, 12, .inl (aI (uZ v_stations_c v_readings p0)))), (v_hours, .inl (cI, 12, .inl (aI v_hours_c))), (v_values, .inl (cI, 12, .inl (aI v_values_c)))] := hD
  refine lv_aload_n (pc := 10) hx hb dX5_add_10 rfl (lv_at hl 0 rfl) ?_
  refine va_get (pc := 11) (D := D) (ci := 3) (v := .ref v_hours) (C := RX5) (T := TX5) (N := 9) hx hb hts in_X5 hown hK hP 0 rfl rfl 1 (by decide) fl_15 (fun _ h9 => h9) rfl dX5_add_11 ?_
  refine lv_aload_n (pc := 14) hx hb dX5_add_14 rfl (lv_at hl 0 rfl) ?_
  refine va_get (pc := 15) (D := D) (ci := 3) (v := vI v_readings) (C := RX5) (T := TX5) (N := 9) hx hb hts in_X5 hown hK hP 0 rfl rfl 6 (by decide) fl_38 (fun _ h9 => h9) rfl dX5_add_15 ?_
  refine lv_iload_n (pc := 18) hx hb dX5_add_18 rfl (lv_at hl 2 rfl) ?_
  refine z_iast (pc := 19) hx hb hK hP hD hS 2 0 (by omega) rfl rfl (by first | decide | omega) dX5_add_19 (fun H locs hP hD hS => ?_)
  have hP : va_P D vwCl [(vA, .inr (3, [.ref v_stations, .ref v_hours, .ref v_values, .ref v_ties, .ref v_tied, .ref v_steps, vI v_readings, vI v_datumStation, vI v_datumValue])), (v_stations, .inl (cI, 12, .inl (aI (uZ v_stations_c v_readings p0)))), (v_hours, .inl (cI, 12, .inl (aI (uZ v_hours_c v_readings p1)))), (v_values, .inl (cI, 12, .inl (aI v_values_c)))] H := hP
  have hD : va_D A [(vA, .inr (3, [.ref v_stations, .ref v_hours, .ref v_values, .ref v_ties, .ref v_tied, .ref v_steps, vI v_readings, vI v_datumStation, vI v_datumValue])), (v_stations, .inl (cI, 12, .inl (aI (uZ v_stations_c v_readings p0)))), (v_hours, .inl (cI, 12, .inl (aI (uZ v_hours_c v_readings p1)))), (v_values, .inl (cI, 12, .inl (aI v_values_c)))] := hD
  refine lv_aload_n (pc := 20) hx hb dX5_add_20 rfl (lv_at hl 0 rfl) ?_
  refine va_get (pc := 21) (D := D) (ci := 3) (v := .ref v_values) (C := RX5) (T := TX5) (N := 9) hx hb hts in_X5 hown hK hP 0 rfl rfl 2 (by decide) fl_18 (fun _ h9 => h9) rfl dX5_add_21 ?_
  refine lv_aload_n (pc := 24) hx hb dX5_add_24 rfl (lv_at hl 0 rfl) ?_
  refine va_get (pc := 25) (D := D) (ci := 3) (v := vI v_readings) (C := RX5) (T := TX5) (N := 9) hx hb hts in_X5 hown hK hP 0 rfl rfl 6 (by decide) fl_38 (fun _ h9 => h9) rfl dX5_add_25 ?_
  refine lv_iload_n (pc := 28) hx hb dX5_add_28 rfl (lv_at hl 3 rfl) ?_
  refine z_iast (pc := 29) hx hb hK hP hD hS 3 0 (by omega) rfl rfl (by first | decide | omega) dX5_add_29 (fun H locs hP hD hS => ?_)
  have hP : va_P D vwCl [(vA, .inr (3, [.ref v_stations, .ref v_hours, .ref v_values, .ref v_ties, .ref v_tied, .ref v_steps, vI v_readings, vI v_datumStation, vI v_datumValue])), (v_stations, .inl (cI, 12, .inl (aI (uZ v_stations_c v_readings p0)))), (v_hours, .inl (cI, 12, .inl (aI (uZ v_hours_c v_readings p1)))), (v_values, .inl (cI, 12, .inl (aI (uZ v_values_c v_readings p2))))] H := hP
  have hD : va_D A [(vA, .inr (3, [.ref v_stations, .ref v_hours, .ref v_values, .ref v_ties, .ref v_tied, .ref v_steps, vI v_readings, vI v_datumStation, vI v_datumValue])), (v_stations, .inl (cI, 12, .inl (aI (uZ v_stations_c v_readings p0)))), (v_hours, .inl (cI, 12, .inl (aI (uZ v_hours_c v_readings p1)))), (v_values, .inl (cI, 12, .inl (aI (uZ v_values_c v_readings p2))))] := hD
  refine lv_aload_n (pc := 30) hx hb dX5_add_30 rfl (lv_at hl 0 rfl) ?_
  refine lv_dup (pc := 31) hx hb dX5_add_31 rfl ?_
  refine va_get (pc := 32) (D := D) (ci := 3) (v := vI v_readings) (C := RX5) (T := TX5) (N := 9) hx hb hts in_X5 hown hK hP 0 rfl rfl 6 (by decide) fl_38 (fun _ h9 => h9) rfl dX5_add_32 ?_
  refine z_iconst (pc := 35) hx hb dX5_add_35 ?_
  refine z_iadd (pc := 36) hx hb dX5_add_36 ?_
  refine va_put (pc := 37) (D := D) (ci := 3) (v := vI (v_readings + 1)) (ty := .int) (C := RX5) (T := TX5) (N := 9) hx hb hts in_X5 tyX5 tyX5_ok nmX5 hown hK hP hD hS 0 rfl rfl 6 (by decide) fl_38 (fun _ h9 => h9) rfl (by decide +kernel) rfl rfl (Nat.le_of_ble_eq_true rfl) dX5_add_37 (fun H locs hP hD hS => ?_)
  have hP : va_P D vwCl [(vA, .inr (3, [.ref v_stations, .ref v_hours, .ref v_values, .ref v_ties, .ref v_tied, .ref v_steps, vI (v_readings + 1), vI v_datumStation, vI v_datumValue])), (v_stations, .inl (cI, 12, .inl (aI (uZ v_stations_c v_readings p0)))), (v_hours, .inl (cI, 12, .inl (aI (uZ v_hours_c v_readings p1)))), (v_values, .inl (cI, 12, .inl (aI (uZ v_values_c v_readings p2))))] H := hP
  have hD : va_D A [(vA, .inr (3, [.ref v_stations, .ref v_hours, .ref v_values, .ref v_ties, .ref v_tied, .ref v_steps, vI (v_readings + 1), vI v_datumStation, vI v_datumValue])), (v_stations, .inl (cI, 12, .inl (aI (uZ v_stations_c v_readings p0)))), (v_hours, .inl (cI, 12, .inl (aI (uZ v_hours_c v_readings p1)))), (v_values, .inl (cI, 12, .inl (aI (uZ v_values_c v_readings p2))))] := hD
  refine lv_aload_n (pc := 40) hx hb dX5_add_40 rfl (lv_at hl 0 rfl) ?_
  refine va_get (pc := 41) (D := D) (ci := 3) (v := vI (v_readings + 1)) (C := RX5) (T := TX5) (N := 9) hx hb hts in_X5 hown hK hP 0 rfl rfl 6 (by decide) fl_38 (fun _ h9 => h9) rfl dX5_add_41 ?_
  have hP9 := hP.sub (ws' := [(vA, .inr (3, [.ref v_stations, .ref v_hours, .ref v_values, .ref v_ties, .ref v_tied, .ref v_steps, vI (v_readings + 1), vI v_datumStation, vI v_datumValue])), (v_stations, .inl (cI, 12, .inl (aI (uZ v_stations_c v_readings p0)))), (v_hours, .inl (cI, 12, .inl (aI (uZ v_hours_c v_readings p1)))), (v_values, .inl (cI, 12, .inl (aI (uZ v_values_c v_readings p2))))]) [0, 1, 2, 3] rfl
  have hD9 := hD.sub (ws' := [(vA, .inr (3, [.ref v_stations, .ref v_hours, .ref v_values, .ref v_ties, .ref v_tied, .ref v_steps, vI (v_readings + 1), vI v_datumStation, vI v_datumValue])), (v_stations, .inl (cI, 12, .inl (aI (uZ v_stations_c v_readings p0)))), (v_hours, .inl (cI, 12, .inl (aI (uZ v_hours_c v_readings p1)))), (v_values, .inl (cI, 12, .inl (aI (uZ v_values_c v_readings p2))))]) [0, 1, 2, 3] (by decide) rfl
  have hv : (v_readings + 1) = (v_readings + 1) := by first | rfl | omega
  exact W.iret (pc := 44) (v := zI (v_readings + 1)) hx hb hr (fun t ht hW => ⟨⟨zI (v_readings + 1), (), rfl, ⟨congrArg zI hv, trivial⟩, by rw [ht]; exact hP9, hD9⟩, hS.F ht⟩) hS.2.2 dX5_add_44

set_option maxHeartbeats 4000000 in
set_option maxRecDepth 100000 in
theorem m_X5_dropReadings (l : Launch) (D : va_G) (cI cJ cZ cD : ClassId) (sz : Nat) (vA : Nat) (v_stations : Nat) (v_hours : Nat) (v_values : Nat) (v_ties : Nat) (v_tied : Nat) (v_steps : Nat) (v_readings : Int) (v_datumStation : Int) (v_datumValue : Int) : Met l yX5_dropReadings wsX5_dropReadings ({ frames := 0, cells := 0, slots := 0, locals := 0 } : Room) (zPc D (TY cI cJ cZ cD) sz [.ref vA] [(vA, .inr (3, [.ref v_stations, .ref v_hours, .ref v_values, .ref v_ties, .ref v_tied, .ref v_steps, vI v_readings, vI v_datumStation, vI v_datumValue]))]) (va_Qi (fun (r : Int32) (u : Unit) => match u with | _ => r = zI v_readings ∧ (True)) (zB D (va_A [(vA, .inr (3, [.ref v_stations, .ref v_hours, .ref v_values, .ref v_ties, .ref v_tied, .ref v_steps, vI v_readings, vI v_datumStation, vI v_datumValue]))] sz) (fun (u : Unit) => match u with | _ => [(vA, .inr (3, [.ref v_stations, .ref v_hours, .ref v_values, .ref v_ties, .ref v_tied, .ref v_steps, vI 0, vI v_datumStation, vI v_datumValue]))])) (va_A [(vA, .inr (3, [.ref v_stations, .ref v_hours, .ref v_values, .ref v_ties, .ref v_tied, .ref v_steps, vI v_readings, vI v_datumStation, vI v_datumValue]))] sz)) 0 0 (va_A [(vA, .inr (3, [.ref v_stations, .ref v_hours, .ref v_values, .ref v_ties, .ref v_tied, .ref v_steps, vI v_readings, vI v_datumStation, vI v_datumValue]))] sz) := by
  refine Met.ofW (cc := cX5_dropReadings) (maxL := 2) (ret := (some .int)) (by decide) rfl ?_
  intro p e s m args below meth c s₁ B hml hv
  obtain ⟨rfl, hsz, hP, hK, hD0, hN⟩ := hv
  have hx := B.exec
  have hb := B.bytes
  have hr := B.returns
  have hts := atoms_spec (ws := wsX5_dropReadings) B.pre
  have hown : s.vm.findClass RX5 = some m.cls := findClass_of_methodNamed B.named
  have hlocks := B.notSynchronized
  subst hsz
  have hD := hD0.self (sz := s.heap.size)
  generalize hAe : va_A [(vA, .inr (3, [.ref v_stations, .ref v_hours, .ref v_values, .ref v_ties, .ref v_tied, .ref v_steps, vI v_readings, vI v_datumStation, vI v_datumValue]))] s.heap.size = A at hD ⊢
  have hA : ∀ q : Nat, s.heap.size ≤ q → A q := fun q h => by rw [← hAe]; exact Or.inr h
  have hS : va_S A s.heap s.heap [] := va_S.rf
  have hP : va_P D vwCl [(vA, .inr (3, [.ref v_stations, .ref v_hours, .ref v_values, .ref v_ties, .ref v_tied, .ref v_steps, vI v_readings, vI v_datumStation, vI v_datumValue]))] s.heap := hP
  have fl_38 := hts (.fieldLink RX5 38 "PendulumHall$Survey" "readings" "I") (by decide +kernel)
  have in_X5 : ∀ w ∈ wsX50, w ∈ wsX5_dropReadings := by decide +kernel
  have hl := lv_entry ([.ref vA]) (n := 2) (Nat.le_of_ble_eq_true rfl)
  rw [lg_entry_eq]
  generalize (lg_sl ([.ref vA]) ++ List.replicate (2 - (lg_sl ([.ref vA])).length) Slot.unset).toArray = ls at hl ⊢
  have hl : lv_has ls 2 [(0, .ref vA)] := hl
  refine lv_aload_n (pc := 0) hx hb dX5_dropReadings_0 rfl (lv_at hl 0 rfl) ?_
  refine va_get (pc := 1) (D := D) (ci := 3) (v := vI v_readings) (C := RX5) (T := TX5) (N := 9) hx hb hts in_X5 hown hK hP 0 rfl rfl 6 (by decide) fl_38 (fun _ h9 => h9) rfl dX5_dropReadings_1 ?_
  refine lv_istore_n (lv' := [(1, vI v_readings), (0, .ref vA)]) (pc := 4) hx hb dX5_dropReadings_4 rfl hl (by decide) rfl (fun ls hl => ?_)
  refine lv_aload_n (pc := 5) hx hb dX5_dropReadings_5 rfl (lv_at hl 1 rfl) ?_
  refine z_iconst (pc := 6) hx hb dX5_dropReadings_6 ?_
  refine va_put (pc := 7) (D := D) (ci := 3) (v := vI 0) (ty := .int) (C := RX5) (T := TX5) (N := 9) hx hb hts in_X5 tyX5 tyX5_ok nmX5 hown hK hP hD hS 0 rfl rfl 6 (by decide) fl_38 (fun _ h9 => h9) rfl (by decide +kernel) rfl rfl (Nat.le_of_ble_eq_true rfl) dX5_dropReadings_7 (fun H locs hP hD hS => ?_)
  have hP : va_P D vwCl [(vA, .inr (3, [.ref v_stations, .ref v_hours, .ref v_values, .ref v_ties, .ref v_tied, .ref v_steps, vI 0, vI v_datumStation, vI v_datumValue]))] H := hP
  have hD : va_D A [(vA, .inr (3, [.ref v_stations, .ref v_hours, .ref v_values, .ref v_ties, .ref v_tied, .ref v_steps, vI 0, vI v_datumStation, vI v_datumValue]))] := hD
  refine lv_iload_n (pc := 10) hx hb dX5_dropReadings_10 rfl (lv_at hl 0 rfl) ?_
  have hP9 := hP.sub (ws' := [(vA, .inr (3, [.ref v_stations, .ref v_hours, .ref v_values, .ref v_ties, .ref v_tied, .ref v_steps, vI 0, vI v_datumStation, vI v_datumValue]))]) [0] rfl
  have hD9 := hD.sub (ws' := [(vA, .inr (3, [.ref v_stations, .ref v_hours, .ref v_values, .ref v_ties, .ref v_tied, .ref v_steps, vI 0, vI v_datumStation, vI v_datumValue]))]) [0] (by decide) rfl
  have hv : (v_readings) = (v_readings) := by first | rfl | omega
  exact W.iret (pc := 11) (v := zI v_readings) hx hb hr (fun t ht hW => ⟨⟨zI v_readings, (), rfl, ⟨congrArg zI hv, trivial⟩, by rw [ht]; exact hP9, hD9⟩, hS.F ht⟩) hS.2.2 dX5_dropReadings_11

set_option maxHeartbeats 4000000 in
set_option maxRecDepth 100000 in
theorem m_X5_canClose (l : Launch) (D : va_G) (cI cJ cZ cD : ClassId) (sz : Nat) (vA : Nat) (v_stations : Nat) (v_hours : Nat) (v_values : Nat) (v_ties : Nat) (v_tied : Nat) (v_steps : Nat) (v_readings : Int) (v_datumStation : Int) (v_datumValue : Int) (v_stations_c : Int → Int) (v_hours_c : Int → Int) (vl9 : Int → Int) (hrd : rdOK v_readings v_stations_c v_hours_c vl9) : Met l yX5_canClose wsX5_canClose ({ frames := 0, cells := 0, slots := 0, locals := 0 } : Room) (zPc D (TY cI cJ cZ cD) sz [.ref vA] [(vA, .inr (3, [.ref v_stations, .ref v_hours, .ref v_values, .ref v_ties, .ref v_tied, .ref v_steps, vI v_readings, vI v_datumStation, vI v_datumValue])), (v_stations, .inl (cI, 12, .inl (aI v_stations_c))), (v_hours, .inl (cI, 12, .inl (aI v_hours_c)))]) (zQr (some (vI (pI (3 ≤ v_readings ∧ v_stations_c (v_readings - 1) = v_stations_c 0 ∧ difZ v_stations_c (Int.toNat v_readings) = true))))) 0 0 (fun _ => False) := by
  refine Met.ofW (cc := cX5_canClose) (maxL := 2) (ret := (some .boolean)) (by decide) rfl ?_
  intro p e s m args below meth c s₁ B hml hv
  obtain ⟨rfl, hsz, hP, hK, hD0, hN⟩ := hv
  have hx := B.exec
  have hb := B.bytes
  have hr := B.returns
  have hts := atoms_spec (ws := wsX5_canClose) B.pre
  have hown : s.vm.findClass RX5 = some m.cls := findClass_of_methodNamed B.named
  have hlocks := B.notSynchronized
  have hD := hD0
  subst hsz
  have hP : va_P D vwCl [(vA, .inr (3, [.ref v_stations, .ref v_hours, .ref v_values, .ref v_ties, .ref v_tied, .ref v_steps, vI v_readings, vI v_datumStation, vI v_datumValue])), (v_stations, .inl (cI, 12, .inl (aI v_stations_c))), (v_hours, .inl (cI, 12, .inl (aI v_hours_c)))] s.heap := hP
  have fl_11 := hts (.fieldLink RX5 11 "PendulumHall$Survey" "stations" "[I") (by decide +kernel)
  have fl_15 := hts (.fieldLink RX5 15 "PendulumHall$Survey" "hours" "[I") (by decide +kernel)
  have fl_38 := hts (.fieldLink RX5 38 "PendulumHall$Survey" "readings" "I") (by decide +kernel)
  have in_X5 : ∀ w ∈ wsX50, w ∈ wsX5_canClose := by decide +kernel
  have hl := lv_entry ([.ref vA]) (n := 2) (Nat.le_of_ble_eq_true rfl)
  rw [lg_entry_eq]
  generalize (lg_sl ([.ref vA]) ++ List.replicate (2 - (lg_sl ([.ref vA])).length) Slot.unset).toArray = ls at hl ⊢
  have hl : lv_has ls 2 [(0, .ref vA)] := hl
  obtain ⟨hn, hv, hi⟩ := id hrd
  refine lv_aload_n (pc := 0) hx hb dX5_canClose_0 rfl (lv_at hl 0 rfl) ?_
  refine va_get (pc := 1) (D := D) (ci := 3) (v := vI v_readings) (C := RX5) (T := TX5) (N := 9) hx hb hts in_X5 hown hK hP 0 rfl rfl 6 (by decide) fl_38 (fun _ h9 => h9) rfl dX5_canClose_1 ?_
  refine z_iconst (pc := 4) hx hb dX5_canClose_4 ?_
  refine z_icmp_lt (pc := 5) (tgt := 48) hx hb dX5_canClose_5 (by decide) (by omega) (by decide) (fun c_1 => ?_) (fun c_1 => ?_)
  · have hc_5t := c_1
    refine z_iconst (pc := 48) hx hb dX5_canClose_48 ?_
    have hv : (0) = (pI (3 ≤ v_readings ∧ v_stations_c (v_readings - 1) = v_stations_c 0 ∧ difZ v_stations_c (Int.toNat v_readings) = true)) := by first | exact (pI_f (by omega)).symm | exact (pI_f (fun h => hc_25t h.2.1)).symm | exact (pI_f (fun h => by have := hrd.2.2 0 (v_readings - 1) (by omega) (by omega) (by omega); omega)).symm
    exact W.zret (pc := 49) (v := zI 0) hx hb hr (z_narB (by first | exact z_pI01 _ | omega | decide)) (fun t ht hW => ⟨congrArg (fun z => Outcome.returned (some (vI z))) hv, ht⟩) (fun q h => absurd h List.not_mem_nil) dX5_canClose_49
  · have hc_5f := c_1
    refine lv_aload_n (pc := 8) hx hb dX5_canClose_8 rfl (lv_at hl 0 rfl) ?_
    refine va_get (pc := 9) (D := D) (ci := 3) (v := .ref v_stations) (C := RX5) (T := TX5) (N := 9) hx hb hts in_X5 hown hK hP 0 rfl rfl 0 (by decide) fl_11 (fun _ h9 => h9) rfl dX5_canClose_9 ?_
    refine lv_aload_n (pc := 12) hx hb dX5_canClose_12 rfl (lv_at hl 0 rfl) ?_
    refine va_get (pc := 13) (D := D) (ci := 3) (v := vI v_readings) (C := RX5) (T := TX5) (N := 9) hx hb hts in_X5 hown hK hP 0 rfl rfl 6 (by decide) fl_38 (fun _ h9 => h9) rfl dX5_canClose_13 ?_
    refine z_iconst (pc := 16) hx hb dX5_canClose_16 ?_
    refine z_isub (pc := 17) hx hb dX5_canClose_17 ?_
    refine z_iald (pc := 18) hx hb hK hP 1 0 (by omega) rfl rfl (by first | decide | omega) dX5_canClose_18 ?_
    refine lv_aload_n (pc := 19) hx hb dX5_canClose_19 rfl (lv_at hl 0 rfl) ?_
    refine va_get (pc := 20) (D := D) (ci := 3) (v := .ref v_stations) (C := RX5) (T := TX5) (N := 9) hx hb hts in_X5 hown hK hP 0 rfl rfl 0 (by decide) fl_11 (fun _ h9 => h9) rfl dX5_canClose_20 ?_
    refine z_iconst (pc := 23) hx hb dX5_canClose_23 ?_
    refine z_iald (pc := 24) hx hb hK hP 1 0 (by omega) rfl rfl (by first | decide | omega) dX5_canClose_24 ?_
    have f0 := hv (v_readings - 1) (by omega) (by omega)
    have f1 := hv 0 (by omega) (by omega)
    refine z_icmp_ne (pc := 25) (tgt := 48) hx hb dX5_canClose_25 (by decide) (by omega) (by omega) (fun c_2 => ?_) (fun c_2 => ?_)
    · have hc_25t := c_2
      refine z_iconst (pc := 48) hx hb dX5_canClose_48 ?_
      have hv : (0) = (pI (3 ≤ v_readings ∧ v_stations_c (v_readings - 1) = v_stations_c 0 ∧ difZ v_stations_c (Int.toNat v_readings) = true)) := by first | exact (pI_f (by omega)).symm | exact (pI_f (fun h => hc_25t h.2.1)).symm | exact (pI_f (fun h => by have := hrd.2.2 0 (v_readings - 1) (by omega) (by omega) (by omega); omega)).symm
      exact W.zret (pc := 49) (v := zI 0) hx hb hr (z_narB (by first | exact z_pI01 _ | omega | decide)) (fun t ht hW => ⟨congrArg (fun z => Outcome.returned (some (vI z))) hv, ht⟩) (fun q h => absurd h List.not_mem_nil) dX5_canClose_49
    · have hc_25f := c_2
      refine lv_aload_n (pc := 28) hx hb dX5_canClose_28 rfl (lv_at hl 0 rfl) ?_
      refine va_get (pc := 29) (D := D) (ci := 3) (v := .ref v_hours) (C := RX5) (T := TX5) (N := 9) hx hb hts in_X5 hown hK hP 0 rfl rfl 1 (by decide) fl_15 (fun _ h9 => h9) rfl dX5_canClose_29 ?_
      refine lv_aload_n (pc := 32) hx hb dX5_canClose_32 rfl (lv_at hl 0 rfl) ?_
      refine va_get (pc := 33) (D := D) (ci := 3) (v := vI v_readings) (C := RX5) (T := TX5) (N := 9) hx hb hts in_X5 hown hK hP 0 rfl rfl 6 (by decide) fl_38 (fun _ h9 => h9) rfl dX5_canClose_33 ?_
      refine z_iconst (pc := 36) hx hb dX5_canClose_36 ?_
      refine z_isub (pc := 37) hx hb dX5_canClose_37 ?_
      refine z_iald (pc := 38) hx hb hK hP 2 0 (by omega) rfl rfl (by first | decide | omega) dX5_canClose_38 ?_
      refine lv_aload_n (pc := 39) hx hb dX5_canClose_39 rfl (lv_at hl 0 rfl) ?_
      refine va_get (pc := 40) (D := D) (ci := 3) (v := .ref v_hours) (C := RX5) (T := TX5) (N := 9) hx hb hts in_X5 hown hK hP 0 rfl rfl 1 (by decide) fl_15 (fun _ h9 => h9) rfl dX5_canClose_40 ?_
      refine z_iconst (pc := 43) hx hb dX5_canClose_43 ?_
      refine z_iald (pc := 44) hx hb hK hP 2 0 (by omega) rfl rfl (by first | decide | omega) dX5_canClose_44 ?_
      refine z_icmp_gt (pc := 45) (tgt := 50) hx hb dX5_canClose_45 (by decide) (by omega) (by omega) (fun c_3 => ?_) (fun c_3 => ?_)
      · have hc_45t := c_3
        refine z_iconst (pc := 50) hx hb dX5_canClose_50 ?_
        refine lv_istore_n (lv' := [(1, vI 1), (0, .ref vA)]) (pc := 51) hx hb dX5_canClose_51 rfl hl (by decide) rfl (fun ls hl => ?_)
        have LP_52 : ∀ (nfu : Nat) (k : Int) (i1 : 1 ≤ k ∧ k ≤ v_readings) (i2 : difZ v_stations_c (Int.toNat k) = true) (hme : v_readings - k + 1 < (nfu : Int)) (ls : Array Slot) (hl : lv_has ls 2 [(1, vI k), (0, .ref vA)]), W p l e (headSpec wsX5_canClose ({ frames := 0, cells := 0, slots := 0, locals := 0 } : Room)).room s m ([.ref vA] : List Value).toArray below meth c s.heap [] 0 0 (MQ below (zQr (some (vI (pI (3 ≤ v_readings ∧ v_stations_c (v_readings - 1) = v_stations_c 0 ∧ difZ v_stations_c (Int.toNat v_readings) = true))))) ([.ref vA] : List Value).toArray s 0 0 (fun _ => False)) (F0 m 52 ls []) := by
          intro nfu
          induction nfu with
          | zero =>
            intro k i1 i2 hme ls hl
            exact absurd hme (by omega)
          | succ nfu ih_52 =>
            intro k i1 i2 hme ls hl
            refine lv_iload_n (pc := 52) hx hb dX5_canClose_52 rfl (lv_at hl 0 rfl) ?_
            refine lv_aload_n (pc := 53) hx hb dX5_canClose_53 rfl (lv_at hl 1 rfl) ?_
            refine va_get (pc := 54) (D := D) (ci := 3) (v := vI v_readings) (C := RX5) (T := TX5) (N := 9) hx hb hts in_X5 hown hK hP 0 rfl rfl 6 (by decide) fl_38 (fun _ h9 => h9) rfl dX5_canClose_54 ?_
            refine z_icmp_ge (pc := 57) (tgt := 85) hx hb dX5_canClose_57 (by decide) (by omega) (by omega) (fun c_4 => ?_) (fun c_4 => ?_)
            · have hc_57t := c_4
              refine z_iconst (pc := 85) hx hb dX5_canClose_85 ?_
              have hv : (1) = (pI (3 ≤ v_readings ∧ v_stations_c (v_readings - 1) = v_stations_c 0 ∧ difZ v_stations_c (Int.toNat v_readings) = true)) := by exact (pI_t ⟨by omega, hc_25f, by rw [← show k = v_readings by omega]; exact i2⟩).symm
              exact W.zret (pc := 86) (v := zI 1) hx hb hr (z_narB (by first | exact z_pI01 _ | omega | decide)) (fun t ht hW => ⟨congrArg (fun z => Outcome.returned (some (vI z))) hv, ht⟩) (fun q h => absurd h List.not_mem_nil) dX5_canClose_86
            · have hc_57f := c_4
              refine lv_aload_n (pc := 60) hx hb dX5_canClose_60 rfl (lv_at hl 1 rfl) ?_
              refine va_get (pc := 61) (D := D) (ci := 3) (v := .ref v_stations) (C := RX5) (T := TX5) (N := 9) hx hb hts in_X5 hown hK hP 0 rfl rfl 0 (by decide) fl_11 (fun _ h9 => h9) rfl dX5_canClose_61 ?_
              refine lv_iload_n (pc := 64) hx hb dX5_canClose_64 rfl (lv_at hl 0 rfl) ?_
              refine z_iald (pc := 65) hx hb hK hP 1 0 (by omega) rfl rfl (by first | decide | omega) dX5_canClose_65 ?_
              refine lv_aload_n (pc := 66) hx hb dX5_canClose_66 rfl (lv_at hl 1 rfl) ?_
              refine va_get (pc := 67) (D := D) (ci := 3) (v := .ref v_stations) (C := RX5) (T := TX5) (N := 9) hx hb hts in_X5 hown hK hP 0 rfl rfl 0 (by decide) fl_11 (fun _ h9 => h9) rfl dX5_canClose_67 ?_
              refine lv_iload_n (pc := 70) hx hb dX5_canClose_70 rfl (lv_at hl 0 rfl) ?_
              refine z_iconst (pc := 71) hx hb dX5_canClose_71 ?_
              refine z_isub (pc := 72) hx hb dX5_canClose_72 ?_
              refine z_iald (pc := 73) hx hb hK hP 1 0 (by omega) rfl rfl (by first | decide | omega) dX5_canClose_73 ?_
              have f2 := hv k (by omega) (by omega)
              have f3 := hv (k - 1) (by omega) (by omega)
              refine z_icmp_ne (pc := 74) (tgt := 79) hx hb dX5_canClose_74 (by decide) (by omega) (by omega) (fun c_5 => ?_) (fun c_5 => ?_)
              · have hc_74t := c_5
                refine lv_iinc (v := zI (k + 1)) (lv' := [(1, vI (k + 1)), (0, .ref vA)]) (pc := 79) hx hb dX5_canClose_79 hl (k := 0) rfl (zI_add _ _) (by decide) rfl (fun ls hl => ?_)
                refine lv_goto (pc := 82) (tgt := 52) hx hb dX5_canClose_82 (by decide) ?_
                exact ih_52 (k + 1) (by omega) (by rw [difZ_s i1.1, i2, Bool.true_and]; exact decide_eq_true hc_74t) (by omega) _ (lv_sub hl [0, 1] rfl)
              · have hc_74f := c_5
                refine z_iconst (pc := 77) hx hb dX5_canClose_77 ?_
                have hv : (0) = (pI (3 ≤ v_readings ∧ v_stations_c (v_readings - 1) = v_stations_c 0 ∧ difZ v_stations_c (Int.toNat v_readings) = true)) := by exact (pI_f (fun h => by have q := difZ_no (st := v_stations_c) (n := Int.toNat v_readings) (k := Int.toNat (k + 1)) (by omega) (by rw [difZ_s i1.1, decide_eq_false (show ¬ v_stations_c k ≠ v_stations_c (k - 1) by omega), Bool.and_false]); rw [q] at h; exact absurd h.2.2 (by decide))).symm
                exact W.zret (pc := 78) (v := zI 0) hx hb hr (z_narB (by first | exact z_pI01 _ | omega | decide)) (fun t ht hW => ⟨congrArg (fun z => Outcome.returned (some (vI z))) hv, ht⟩) (fun q h => absurd h List.not_mem_nil) dX5_canClose_78
        exact LP_52 (Int.toNat ((v_readings - 1 + 1) + 1)) 1 (by omega) (by rfl) (by omega) _ (lv_sub hl [0, 1] rfl)
      · have hc_45f := c_3
        refine z_iconst (pc := 48) hx hb dX5_canClose_48 ?_
        have hv : (0) = (pI (3 ≤ v_readings ∧ v_stations_c (v_readings - 1) = v_stations_c 0 ∧ difZ v_stations_c (Int.toNat v_readings) = true)) := by first | exact (pI_f (by omega)).symm | exact (pI_f (fun h => hc_25t h.2.1)).symm | exact (pI_f (fun h => by have := hrd.2.2 0 (v_readings - 1) (by omega) (by omega) (by omega); omega)).symm
        exact W.zret (pc := 49) (v := zI 0) hx hb hr (z_narB (by first | exact z_pI01 _ | omega | decide)) (fun t ht hW => ⟨congrArg (fun z => Outcome.returned (some (vI z))) hv, ht⟩) (fun q h => absurd h List.not_mem_nil) dX5_canClose_49

set_option maxHeartbeats 4000000 in
set_option maxRecDepth 100000 in
theorem m_X5_way (l : Launch) (D : va_G) (cI cJ cZ cD : ClassId) (sz : Nat) (p0 : Int) (p1 : Int) : Met l yX5_way wsX5_way ({ frames := 0, cells := 0, slots := 0, locals := 0 } : Room) (va_Pc [vI p0, vI p1] (fun _ => True)) (zQr (some (vI (p0 * 10 + p1)))) 0 0 (fun _ => False) := by
  refine Met.ofW (cc := cX5_way) (maxL := 2) (ret := (some .int)) (by decide) rfl ?_
  intro p e s m args below meth c s₁ B hml hv
  obtain ⟨rfl, -⟩ := hv
  have hx := B.exec
  have hb := B.bytes
  have hr := B.returns
  have hts := atoms_spec (ws := wsX5_way) B.pre
  have hown : s.vm.findClass RX5 = some m.cls := findClass_of_methodNamed B.named
  have hlocks := B.notSynchronized
  have hl := lv_entry ([vI p0, vI p1]) (n := 2) (Nat.le_of_ble_eq_true rfl)
  rw [lg_entry_eq]
  generalize (lg_sl ([vI p0, vI p1]) ++ List.replicate (2 - (lg_sl ([vI p0, vI p1])).length) Slot.unset).toArray = ls at hl ⊢
  have hl : lv_has ls 2 [(0, vI p0), (1, vI p1)] := hl
  refine lv_iload_n (pc := 0) hx hb dX5_way_0 rfl (lv_at hl 0 rfl) ?_
  refine z_bipush (pc := 1) hx hb dX5_way_1 (by decide) ?_
  refine z_imul (pc := 3) hx hb dX5_way_3 ?_
  refine lv_iload_n (pc := 4) hx hb dX5_way_4 rfl (lv_at hl 1 rfl) ?_
  refine z_iadd (pc := 5) hx hb dX5_way_5 ?_
  have hv : ((p0 * 10) + p1) = (p0 * 10 + p1) := by first | rfl | omega
  exact W.iret (pc := 6) (v := zI ((p0 * 10) + p1)) hx hb hr (fun t ht hW => ⟨congrArg (fun z => Outcome.returned (some (vI z))) hv, ht⟩) (fun q h => absurd h List.not_mem_nil) dX5_way_6

set_option maxHeartbeats 4000000 in
set_option maxRecDepth 100000 in
theorem m_X5_driftBy (l : Launch) (D : va_G) (cI cJ cZ cD : ClassId) (sz : Nat) (p0 : Int) (p1 : Int) (p2 : Int) (h0 : -9000000000000000000 ≤ p0 * p1 ∧ p0 * p1 ≤ 9000000000000000000) (h2 : 1 ≤ p2 ∧ p2 ≤ 1000000) : Met l yX5_driftBy wsX5_driftBy ({ frames := 1, cells := 0, slots := 0, locals := 25 } : Room) (va_Pc [vL p0, vL p1, vL p2] (fun _ => True)) (zQr (some (vI (p0 * p1 / p2)))) 0 0 (fun _ => False) := by
  refine Met.ofW (cc := cX5_driftBy) (maxL := 6) (ret := (some .int)) (by decide) rfl ?_
  intro p e s m args below meth c s₁ B hml hv
  obtain ⟨rfl, -⟩ := hv
  have hx := B.exec
  have hb := B.bytes
  have hr := B.returns
  have hts := atoms_spec (ws := wsX5_driftBy) B.pre
  have hown : s.vm.findClass RX5 = some m.cls := findClass_of_methodNamed B.named
  have hlocks := B.notSynchronized
  have hl := lv_entry ([vL p0, vL p1, vL p2]) (n := 6) (Nat.le_of_ble_eq_true rfl)
  rw [lg_entry_eq]
  generalize (lg_sl ([vL p0, vL p1, vL p2]) ++ List.replicate (6 - (lg_sl ([vL p0, vL p1, vL p2])).length) Slot.unset).toArray = ls at hl ⊢
  have hl : lv_has ls 6 [(0, vL p0), (2, vL p1), (4, vL p2)] := hl
  refine lv_lload (pc := 0) hx hb dX5_driftBy_0 (lv_at hl 2 rfl) ?_
  refine z_lconst (pc := 2) hx hb (z := 1) dX5_driftBy_2 (by decide) ?_
  refine z_lcmp_ge (pc := 3) (tgt := 11) hx hb dX5_driftBy_3 dX5_driftBy_4 (by decide) (by omega) (by decide) (fun c_1 => ?_) (fun c_1 => ?_)
  · have hc_3t := c_1
    refine lv_lload_n (pc := 11) hx hb dX5_driftBy_11 rfl (lv_at hl 0 rfl) ?_
    refine lv_lload_n (pc := 12) hx hb dX5_driftBy_12 rfl (lv_at hl 1 rfl) ?_
    refine z_lmul (pc := 13) hx hb dX5_driftBy_13 ?_
    refine lv_lload (pc := 14) hx hb dX5_driftBy_14 (lv_at hl 2 rfl) ?_
    refine z_callR (pc := 16) (va_runS (As := [vL (p0 * p1), vL p2]) (rest := []) ⟨hx, hb, hml, hown, hts⟩ (m_J9_floorDiv_f86c9 l D cI cJ cZ cD 0  (p0 * p1) p2 (by omega) (by omega)) (va_cwS 2 hts gX5_driftBy_J9_floorDiv_f86c9 rfl rfl rfl (by decide +kernel) ⟨Nat.le_of_ble_eq_true rfl, Nat.le_of_ble_eq_true rfl⟩) ⟨fun a U g mk q => q, fun U hU hW => ⟨rfl, trivial⟩⟩ rfl rfl hl.1 rfl (lv_room (Nat.le_of_ble_eq_true rfl)) dX5_driftBy_16 ⟨Nat.zero_le _, Nat.zero_le _⟩) ?_
    refine z_l2i (pc := 19) hx hb dX5_driftBy_19 ?_
    have hv : ((p0 * p1) / p2) = (p0 * p1 / p2) := by first | rfl | omega
    exact W.iret (pc := 20) (v := zI ((p0 * p1) / p2)) hx hb hr (fun t ht hW => ⟨congrArg (fun z => Outcome.returned (some (vI z))) hv, ht⟩) (fun q h => absurd h List.not_mem_nil) dX5_driftBy_20
  · have hc_3f := c_1
    refine z_iconst (pc := 7) hx hb dX5_driftBy_7 ?_
    refine lv_goto (pc := 8) (tgt := 20) hx hb dX5_driftBy_8 (by decide) ?_
    have hv : (0) = (p0 * p1 / p2) := by first | rfl | omega
    exact W.iret (pc := 20) (v := zI 0) hx hb hr (fun t ht hW => ⟨congrArg (fun z => Outcome.returned (some (vI z))) hv, ht⟩) (fun q h => absurd h List.not_mem_nil) dX5_driftBy_20

set_option maxHeartbeats 4000000 in
set_option maxRecDepth 100000 in
theorem m_X5_putTie (l : Launch) (D : va_G) (cI cJ cZ cD : ClassId) (sz : Nat) (vA : Nat) (v_stations : Nat) (v_hours : Nat) (v_values : Nat) (v_ties : Nat) (v_tied : Nat) (v_steps : Nat) (v_readings : Int) (v_datumStation : Int) (v_datumValue : Int) (v_ties_c : Int → Int) (v_tied_c : Int → Int) (p0 : Int) (p1 : Int) (p2 : Int) (h0 : 0 ≤ p0 ∧ p0 < 10) (h1 : 0 ≤ p1 ∧ p1 < 10) : Met l yX5_putTie wsX5_putTie ({ frames := 1, cells := 0, slots := 0, locals := 21 } : Room) (zPc D (TY cI cJ cZ cD) sz [.ref vA, vI p0, vI p1, vI p2] [(vA, .inr (3, [.ref v_stations, .ref v_hours, .ref v_values, .ref v_ties, .ref v_tied, .ref v_steps, vI v_readings, vI v_datumStation, vI v_datumValue])), (v_ties, .inl (cI, 100, .inl (aI v_ties_c))), (v_tied, .inl (cZ, 100, .inl (aI v_tied_c)))]) (va_Qv (fun (u : Unit) => match u with | _ => True) (zB D (va_A [(vA, .inr (3, [.ref v_stations, .ref v_hours, .ref v_values, .ref v_ties, .ref v_tied, .ref v_steps, vI v_readings, vI v_datumStation, vI v_datumValue])), (v_ties, .inl (cI, 100, .inl (aI v_ties_c))), (v_tied, .inl (cZ, 100, .inl (aI v_tied_c)))] sz) (fun (u : Unit) => match u with | _ => [(vA, .inr (3, [.ref v_stations, .ref v_hours, .ref v_values, .ref v_ties, .ref v_tied, .ref v_steps, vI v_readings, vI v_datumStation, vI v_datumValue])), (v_ties, .inl (cI, 100, .inl (aI (uZ (uZ v_ties_c (p0 * 10 + p1) p2) (p1 * 10 + p0) (-p2))))), (v_tied, .inl (cZ, 100, .inl (aI (uZ (uZ v_tied_c (p0 * 10 + p1) 1) (p1 * 10 + p0) 1))))])) (va_A [(vA, .inr (3, [.ref v_stations, .ref v_hours, .ref v_values, .ref v_ties, .ref v_tied, .ref v_steps, vI v_readings, vI v_datumStation, vI v_datumValue])), (v_ties, .inl (cI, 100, .inl (aI v_ties_c))), (v_tied, .inl (cZ, 100, .inl (aI v_tied_c)))] sz)) 0 0 (va_A [(vA, .inr (3, [.ref v_stations, .ref v_hours, .ref v_values, .ref v_ties, .ref v_tied, .ref v_steps, vI v_readings, vI v_datumStation, vI v_datumValue])), (v_ties, .inl (cI, 100, .inl (aI v_ties_c))), (v_tied, .inl (cZ, 100, .inl (aI v_tied_c)))] sz) := by
  refine Met.ofW (cc := cX5_putTie) (maxL := 4) (ret := none) (by decide) rfl ?_
  intro p e s m args below meth c s₁ B hml hv
  obtain ⟨rfl, hsz, hP, hK, hD0, hN⟩ := hv
  have hx := B.exec
  have hb := B.bytes
  have hr := B.returns
  have hts := atoms_spec (ws := wsX5_putTie) B.pre
  have hown : s.vm.findClass RX5 = some m.cls := findClass_of_methodNamed B.named
  have hlocks := B.notSynchronized
  subst hsz
  have hD := hD0.self (sz := s.heap.size)
  generalize hAe : va_A [(vA, .inr (3, [.ref v_stations, .ref v_hours, .ref v_values, .ref v_ties, .ref v_tied, .ref v_steps, vI v_readings, vI v_datumStation, vI v_datumValue])), (v_ties, .inl (cI, 100, .inl (aI v_ties_c))), (v_tied, .inl (cZ, 100, .inl (aI v_tied_c)))] s.heap.size = A at hD ⊢
  have hA : ∀ q : Nat, s.heap.size ≤ q → A q := fun q h => by rw [← hAe]; exact Or.inr h
  have hS : va_S A s.heap s.heap [] := va_S.rf
  have hP : va_P D vwCl [(vA, .inr (3, [.ref v_stations, .ref v_hours, .ref v_values, .ref v_ties, .ref v_tied, .ref v_steps, vI v_readings, vI v_datumStation, vI v_datumValue])), (v_ties, .inl (cI, 100, .inl (aI v_ties_c))), (v_tied, .inl (cZ, 100, .inl (aI v_tied_c)))] s.heap := hP
  have fl_21 := hts (.fieldLink RX5 21 "PendulumHall$Survey" "ties" "[I") (by decide +kernel)
  have fl_24 := hts (.fieldLink RX5 24 "PendulumHall$Survey" "tied" "[Z") (by decide +kernel)
  have in_X5 : ∀ w ∈ wsX50, w ∈ wsX5_putTie := by decide +kernel
  have hl := lv_entry ([.ref vA, vI p0, vI p1, vI p2]) (n := 4) (Nat.le_of_ble_eq_true rfl)
  rw [lg_entry_eq]
  generalize (lg_sl ([.ref vA, vI p0, vI p1, vI p2]) ++ List.replicate (4 - (lg_sl ([.ref vA, vI p0, vI p1, vI p2])).length) Slot.unset).toArray = ls at hl ⊢
  have hl : lv_has ls 4 [(0, .ref vA), (1, vI p0), (2, vI p1), (3, vI p2)] := hl
  refine lv_aload_n (pc := 0) hx hb dX5_putTie_0 rfl (lv_at hl 0 rfl) ?_
  refine va_get (pc := 1) (D := D) (ci := 3) (v := .ref v_ties) (C := RX5) (T := TX5) (N := 9) hx hb hts in_X5 hown hK hP 0 rfl rfl 3 (by decide) fl_21 (fun _ h9 => h9) rfl dX5_putTie_1 ?_
  refine lv_iload_n (pc := 4) hx hb dX5_putTie_4 rfl (lv_at hl 1 rfl) ?_
  refine lv_iload_n (pc := 5) hx hb dX5_putTie_5 rfl (lv_at hl 2 rfl) ?_
  refine z_callR (pc := 6) (va_runS (As := [vI p0, vI p1]) (rest := [.ref v_ties]) ⟨hx, hb, hml, hown, hts⟩ (m_X5_way l D cI cJ cZ cD 0  p0 p1 ) (va_cwS 2 hts gX5_putTie_X5_way rfl rfl rfl (by decide +kernel) ⟨Nat.le_of_ble_eq_true rfl, Nat.le_of_ble_eq_true rfl⟩) ⟨fun a U g mk q => q, fun U hU hW => ⟨rfl, trivial⟩⟩ rfl rfl hl.1 rfl (lv_room (Nat.le_of_ble_eq_true rfl)) dX5_putTie_6 ⟨Nat.zero_le _, Nat.zero_le _⟩) ?_
  refine lv_iload_n (pc := 9) hx hb dX5_putTie_9 rfl (lv_at hl 3 rfl) ?_
  refine z_iast (pc := 10) hx hb hK hP hD hS 1 0 (by omega) rfl rfl (by first | decide | omega) dX5_putTie_10 (fun H locs hP hD hS => ?_)
  have hP : va_P D vwCl [(vA, .inr (3, [.ref v_stations, .ref v_hours, .ref v_values, .ref v_ties, .ref v_tied, .ref v_steps, vI v_readings, vI v_datumStation, vI v_datumValue])), (v_ties, .inl (cI, 100, .inl (aI (uZ v_ties_c (p0 * 10 + p1) p2)))), (v_tied, .inl (cZ, 100, .inl (aI v_tied_c)))] H := hP
  have hD : va_D A [(vA, .inr (3, [.ref v_stations, .ref v_hours, .ref v_values, .ref v_ties, .ref v_tied, .ref v_steps, vI v_readings, vI v_datumStation, vI v_datumValue])), (v_ties, .inl (cI, 100, .inl (aI (uZ v_ties_c (p0 * 10 + p1) p2)))), (v_tied, .inl (cZ, 100, .inl (aI v_tied_c)))] := hD
  refine lv_aload_n (pc := 11) hx hb dX5_putTie_11 rfl (lv_at hl 0 rfl) ?_
  refine va_get (pc := 12) (D := D) (ci := 3) (v := .ref v_ties) (C := RX5) (T := TX5) (N := 9) hx hb hts in_X5 hown hK hP 0 rfl rfl 3 (by decide) fl_21 (fun _ h9 => h9) rfl dX5_putTie_12 ?_
  refine lv_iload_n (pc := 15) hx hb dX5_putTie_15 rfl (lv_at hl 2 rfl) ?_
  refine lv_iload_n (pc := 16) hx hb dX5_putTie_16 rfl (lv_at hl 1 rfl) ?_
  refine z_callR (pc := 17) (va_runS (As := [vI p1, vI p0]) (rest := [.ref v_ties]) ⟨hx, hb, hml, hown, hts⟩ (m_X5_way l D cI cJ cZ cD 0  p1 p0 ) (va_cwS 2 hts gX5_putTie_X5_way rfl rfl rfl (by decide +kernel) ⟨Nat.le_of_ble_eq_true rfl, Nat.le_of_ble_eq_true rfl⟩) ⟨fun a U g mk q => q, fun U hU hW => ⟨rfl, trivial⟩⟩ rfl rfl hl.1 rfl (lv_room (Nat.le_of_ble_eq_true rfl)) dX5_putTie_17 ⟨Nat.zero_le _, Nat.zero_le _⟩) ?_
  refine lv_iload_n (pc := 20) hx hb dX5_putTie_20 rfl (lv_at hl 3 rfl) ?_
  refine z_ineg (pc := 21) hx hb dX5_putTie_21 ?_
  refine z_iast (pc := 22) hx hb hK hP hD hS 1 0 (by omega) rfl rfl (by first | decide | omega) dX5_putTie_22 (fun H locs hP hD hS => ?_)
  have hP : va_P D vwCl [(vA, .inr (3, [.ref v_stations, .ref v_hours, .ref v_values, .ref v_ties, .ref v_tied, .ref v_steps, vI v_readings, vI v_datumStation, vI v_datumValue])), (v_ties, .inl (cI, 100, .inl (aI (uZ (uZ v_ties_c (p0 * 10 + p1) p2) (p1 * 10 + p0) (-p2))))), (v_tied, .inl (cZ, 100, .inl (aI v_tied_c)))] H := hP
  have hD : va_D A [(vA, .inr (3, [.ref v_stations, .ref v_hours, .ref v_values, .ref v_ties, .ref v_tied, .ref v_steps, vI v_readings, vI v_datumStation, vI v_datumValue])), (v_ties, .inl (cI, 100, .inl (aI (uZ (uZ v_ties_c (p0 * 10 + p1) p2) (p1 * 10 + p0) (-p2))))), (v_tied, .inl (cZ, 100, .inl (aI v_tied_c)))] := hD
  refine lv_aload_n (pc := 23) hx hb dX5_putTie_23 rfl (lv_at hl 0 rfl) ?_
  refine va_get (pc := 24) (D := D) (ci := 3) (v := .ref v_tied) (C := RX5) (T := TX5) (N := 9) hx hb hts in_X5 hown hK hP 0 rfl rfl 4 (by decide) fl_24 (fun _ h9 => h9) rfl dX5_putTie_24 ?_
  refine lv_iload_n (pc := 27) hx hb dX5_putTie_27 rfl (lv_at hl 1 rfl) ?_
  refine lv_iload_n (pc := 28) hx hb dX5_putTie_28 rfl (lv_at hl 2 rfl) ?_
  refine z_callR (pc := 29) (va_runS (As := [vI p0, vI p1]) (rest := [.ref v_tied]) ⟨hx, hb, hml, hown, hts⟩ (m_X5_way l D cI cJ cZ cD 0  p0 p1 ) (va_cwS 2 hts gX5_putTie_X5_way rfl rfl rfl (by decide +kernel) ⟨Nat.le_of_ble_eq_true rfl, Nat.le_of_ble_eq_true rfl⟩) ⟨fun a U g mk q => q, fun U hU hW => ⟨rfl, trivial⟩⟩ rfl rfl hl.1 rfl (lv_room (Nat.le_of_ble_eq_true rfl)) dX5_putTie_29 ⟨Nat.zero_le _, Nat.zero_le _⟩) ?_
  refine z_iconst (pc := 32) hx hb dX5_putTie_32 ?_
  refine z_zast (pc := 33) hx hb hK hP hD hS 2 2 (by omega) (by first | omega | decide) rfl rfl (by first | decide | omega) dX5_putTie_33 (fun H locs hP hD hS => ?_)
  have hP : va_P D vwCl [(vA, .inr (3, [.ref v_stations, .ref v_hours, .ref v_values, .ref v_ties, .ref v_tied, .ref v_steps, vI v_readings, vI v_datumStation, vI v_datumValue])), (v_ties, .inl (cI, 100, .inl (aI (uZ (uZ v_ties_c (p0 * 10 + p1) p2) (p1 * 10 + p0) (-p2))))), (v_tied, .inl (cZ, 100, .inl (aI (uZ v_tied_c (p0 * 10 + p1) 1))))] H := hP
  have hD : va_D A [(vA, .inr (3, [.ref v_stations, .ref v_hours, .ref v_values, .ref v_ties, .ref v_tied, .ref v_steps, vI v_readings, vI v_datumStation, vI v_datumValue])), (v_ties, .inl (cI, 100, .inl (aI (uZ (uZ v_ties_c (p0 * 10 + p1) p2) (p1 * 10 + p0) (-p2))))), (v_tied, .inl (cZ, 100, .inl (aI (uZ v_tied_c (p0 * 10 + p1) 1))))] := hD
  refine lv_aload_n (pc := 34) hx hb dX5_putTie_34 rfl (lv_at hl 0 rfl) ?_
  refine va_get (pc := 35) (D := D) (ci := 3) (v := .ref v_tied) (C := RX5) (T := TX5) (N := 9) hx hb hts in_X5 hown hK hP 0 rfl rfl 4 (by decide) fl_24 (fun _ h9 => h9) rfl dX5_putTie_35 ?_
  refine lv_iload_n (pc := 38) hx hb dX5_putTie_38 rfl (lv_at hl 2 rfl) ?_
  refine lv_iload_n (pc := 39) hx hb dX5_putTie_39 rfl (lv_at hl 1 rfl) ?_
  refine z_callR (pc := 40) (va_runS (As := [vI p1, vI p0]) (rest := [.ref v_tied]) ⟨hx, hb, hml, hown, hts⟩ (m_X5_way l D cI cJ cZ cD 0  p1 p0 ) (va_cwS 2 hts gX5_putTie_X5_way rfl rfl rfl (by decide +kernel) ⟨Nat.le_of_ble_eq_true rfl, Nat.le_of_ble_eq_true rfl⟩) ⟨fun a U g mk q => q, fun U hU hW => ⟨rfl, trivial⟩⟩ rfl rfl hl.1 rfl (lv_room (Nat.le_of_ble_eq_true rfl)) dX5_putTie_40 ⟨Nat.zero_le _, Nat.zero_le _⟩) ?_
  refine z_iconst (pc := 43) hx hb dX5_putTie_43 ?_
  refine z_zast (pc := 44) hx hb hK hP hD hS 2 2 (by omega) (by first | omega | decide) rfl rfl (by first | decide | omega) dX5_putTie_44 (fun H locs hP hD hS => ?_)
  have hP : va_P D vwCl [(vA, .inr (3, [.ref v_stations, .ref v_hours, .ref v_values, .ref v_ties, .ref v_tied, .ref v_steps, vI v_readings, vI v_datumStation, vI v_datumValue])), (v_ties, .inl (cI, 100, .inl (aI (uZ (uZ v_ties_c (p0 * 10 + p1) p2) (p1 * 10 + p0) (-p2))))), (v_tied, .inl (cZ, 100, .inl (aI (uZ (uZ v_tied_c (p0 * 10 + p1) 1) (p1 * 10 + p0) 1))))] H := hP
  have hD : va_D A [(vA, .inr (3, [.ref v_stations, .ref v_hours, .ref v_values, .ref v_ties, .ref v_tied, .ref v_steps, vI v_readings, vI v_datumStation, vI v_datumValue])), (v_ties, .inl (cI, 100, .inl (aI (uZ (uZ v_ties_c (p0 * 10 + p1) p2) (p1 * 10 + p0) (-p2))))), (v_tied, .inl (cZ, 100, .inl (aI (uZ (uZ v_tied_c (p0 * 10 + p1) 1) (p1 * 10 + p0) 1))))] := hD
  have hP9 := hP.sub (ws' := [(vA, .inr (3, [.ref v_stations, .ref v_hours, .ref v_values, .ref v_ties, .ref v_tied, .ref v_steps, vI v_readings, vI v_datumStation, vI v_datumValue])), (v_ties, .inl (cI, 100, .inl (aI (uZ (uZ v_ties_c (p0 * 10 + p1) p2) (p1 * 10 + p0) (-p2))))), (v_tied, .inl (cZ, 100, .inl (aI (uZ (uZ v_tied_c (p0 * 10 + p1) 1) (p1 * 10 + p0) 1))))]) [0, 1, 2] rfl
  have hD9 := hD.sub (ws' := [(vA, .inr (3, [.ref v_stations, .ref v_hours, .ref v_values, .ref v_ties, .ref v_tied, .ref v_steps, vI v_readings, vI v_datumStation, vI v_datumValue])), (v_ties, .inl (cI, 100, .inl (aI (uZ (uZ v_ties_c (p0 * 10 + p1) p2) (p1 * 10 + p0) (-p2))))), (v_tied, .inl (cZ, 100, .inl (aI (uZ (uZ v_tied_c (p0 * 10 + p1) 1) (p1 * 10 + p0) 1))))]) [0, 1, 2] (by decide) rfl
  exact W.vret (pc := 45) hx hb hr (fun t ht hW => ⟨⟨(), rfl, trivial, by rw [ht]; exact hP9, hD9⟩, hS.F ht⟩) hS.2.2 dX5_putTie_45

set_option maxHeartbeats 4000000 in
set_option maxRecDepth 100000 in
theorem m_X5_isTied (l : Launch) (D : va_G) (cI cJ cZ cD : ClassId) (sz : Nat) (vA : Nat) (v_stations : Nat) (v_hours : Nat) (v_values : Nat) (v_ties : Nat) (v_tied : Nat) (v_steps : Nat) (v_readings : Int) (v_datumStation : Int) (v_datumValue : Int) (v_tied_c : Int → Int) (p0 : Int) (p1 : Int) (h0 : 0 ≤ p0 ∧ p0 < 10) (h1 : 0 ≤ p1 ∧ p1 < 10) (ht : ∀ j : Int, 0 ≤ j → j < 100 → v_tied_c j = 0 ∨ v_tied_c j = 1) : Met l yX5_isTied wsX5_isTied ({ frames := 1, cells := 0, slots := 0, locals := 21 } : Room) (zPc D (TY cI cJ cZ cD) sz [.ref vA, vI p0, vI p1] [(vA, .inr (3, [.ref v_stations, .ref v_hours, .ref v_values, .ref v_ties, .ref v_tied, .ref v_steps, vI v_readings, vI v_datumStation, vI v_datumValue])), (v_tied, .inl (cZ, 100, .inl (aI v_tied_c)))]) (zQr (some (vI (pI (v_tied_c (p0 * 10 + p1) = 1))))) 0 0 (fun _ => False) := by
  refine Met.ofW (cc := cX5_isTied) (maxL := 3) (ret := (some .boolean)) (by decide) rfl ?_
  intro p e s m args below meth c s₁ B hml hv
  obtain ⟨rfl, hsz, hP, hK, hD0, hN⟩ := hv
  have hx := B.exec
  have hb := B.bytes
  have hr := B.returns
  have hts := atoms_spec (ws := wsX5_isTied) B.pre
  have hown : s.vm.findClass RX5 = some m.cls := findClass_of_methodNamed B.named
  have hlocks := B.notSynchronized
  have hD := hD0
  subst hsz
  have hP : va_P D vwCl [(vA, .inr (3, [.ref v_stations, .ref v_hours, .ref v_values, .ref v_ties, .ref v_tied, .ref v_steps, vI v_readings, vI v_datumStation, vI v_datumValue])), (v_tied, .inl (cZ, 100, .inl (aI v_tied_c)))] s.heap := hP
  have fl_24 := hts (.fieldLink RX5 24 "PendulumHall$Survey" "tied" "[Z") (by decide +kernel)
  have in_X5 : ∀ w ∈ wsX50, w ∈ wsX5_isTied := by decide +kernel
  have hl := lv_entry ([.ref vA, vI p0, vI p1]) (n := 3) (Nat.le_of_ble_eq_true rfl)
  rw [lg_entry_eq]
  generalize (lg_sl ([.ref vA, vI p0, vI p1]) ++ List.replicate (3 - (lg_sl ([.ref vA, vI p0, vI p1])).length) Slot.unset).toArray = ls at hl ⊢
  have hl : lv_has ls 3 [(0, .ref vA), (1, vI p0), (2, vI p1)] := hl
  refine lv_aload_n (pc := 0) hx hb dX5_isTied_0 rfl (lv_at hl 0 rfl) ?_
  refine va_get (pc := 1) (D := D) (ci := 3) (v := .ref v_tied) (C := RX5) (T := TX5) (N := 9) hx hb hts in_X5 hown hK hP 0 rfl rfl 4 (by decide) fl_24 (fun _ h9 => h9) rfl dX5_isTied_1 ?_
  refine lv_iload_n (pc := 4) hx hb dX5_isTied_4 rfl (lv_at hl 1 rfl) ?_
  refine lv_iload_n (pc := 5) hx hb dX5_isTied_5 rfl (lv_at hl 2 rfl) ?_
  refine z_callR (pc := 6) (va_runS (As := [vI p0, vI p1]) (rest := [.ref v_tied]) ⟨hx, hb, hml, hown, hts⟩ (m_X5_way l D cI cJ cZ cD 0  p0 p1 ) (va_cwS 2 hts gX5_isTied_X5_way rfl rfl rfl (by decide +kernel) ⟨Nat.le_of_ble_eq_true rfl, Nat.le_of_ble_eq_true rfl⟩) ⟨fun a U g mk q => q, fun U hU hW => ⟨rfl, trivial⟩⟩ rfl rfl hl.1 rfl (lv_room (Nat.le_of_ble_eq_true rfl)) dX5_isTied_6 ⟨Nat.zero_le _, Nat.zero_le _⟩) ?_
  refine z_zald (pc := 9) hx hb hK hP 1 2 (by omega) rfl rfl (by first | decide | omega) dX5_isTied_9 ?_
  have f0 := ht (p0 * 10 + p1) (by omega) (by omega)
  have hv : (v_tied_c (p0 * 10 + p1)) = (pI (v_tied_c (p0 * 10 + p1) = 1)) := by
    rcases f0 with q | q
    · rw [q]; exact (pI_f (by omega)).symm
    · rw [q]; exact (pI_t rfl).symm
  exact W.zret (pc := 10) (v := zI (v_tied_c (p0 * 10 + p1))) hx hb hr (z_narB (by first | exact z_pI01 _ | omega | decide)) (fun t ht hW => ⟨congrArg (fun z => Outcome.returned (some (vI z))) hv, ht⟩) (fun q h => absurd h List.not_mem_nil) dX5_isTied_10

set_option maxHeartbeats 4000000 in
set_option maxRecDepth 100000 in
theorem m_X5_difference (l : Launch) (D : va_G) (cI cJ cZ cD : ClassId) (sz : Nat) (vA : Nat) (v_stations : Nat) (v_hours : Nat) (v_values : Nat) (v_ties : Nat) (v_tied : Nat) (v_steps : Nat) (v_readings : Int) (v_datumStation : Int) (v_datumValue : Int) (v_ties_c : Int → Int) (p0 : Int) (p1 : Int) (h0 : 0 ≤ p0 ∧ p0 < 10) (h1 : 0 ≤ p1 ∧ p1 < 10) : Met l yX5_difference wsX5_difference ({ frames := 1, cells := 0, slots := 0, locals := 21 } : Room) (zPc D (TY cI cJ cZ cD) sz [.ref vA, vI p0, vI p1] [(vA, .inr (3, [.ref v_stations, .ref v_hours, .ref v_values, .ref v_ties, .ref v_tied, .ref v_steps, vI v_readings, vI v_datumStation, vI v_datumValue])), (v_ties, .inl (cI, 100, .inl (aI v_ties_c)))]) (zQr (some (vI (v_ties_c (p0 * 10 + p1))))) 0 0 (fun _ => False) := by
  refine Met.ofW (cc := cX5_difference) (maxL := 3) (ret := (some .int)) (by decide) rfl ?_
  intro p e s m args below meth c s₁ B hml hv
  obtain ⟨rfl, hsz, hP, hK, hD0, hN⟩ := hv
  have hx := B.exec
  have hb := B.bytes
  have hr := B.returns
  have hts := atoms_spec (ws := wsX5_difference) B.pre
  have hown : s.vm.findClass RX5 = some m.cls := findClass_of_methodNamed B.named
  have hlocks := B.notSynchronized
  have hD := hD0
  subst hsz
  have hP : va_P D vwCl [(vA, .inr (3, [.ref v_stations, .ref v_hours, .ref v_values, .ref v_ties, .ref v_tied, .ref v_steps, vI v_readings, vI v_datumStation, vI v_datumValue])), (v_ties, .inl (cI, 100, .inl (aI v_ties_c)))] s.heap := hP
  have fl_21 := hts (.fieldLink RX5 21 "PendulumHall$Survey" "ties" "[I") (by decide +kernel)
  have in_X5 : ∀ w ∈ wsX50, w ∈ wsX5_difference := by decide +kernel
  have hl := lv_entry ([.ref vA, vI p0, vI p1]) (n := 3) (Nat.le_of_ble_eq_true rfl)
  rw [lg_entry_eq]
  generalize (lg_sl ([.ref vA, vI p0, vI p1]) ++ List.replicate (3 - (lg_sl ([.ref vA, vI p0, vI p1])).length) Slot.unset).toArray = ls at hl ⊢
  have hl : lv_has ls 3 [(0, .ref vA), (1, vI p0), (2, vI p1)] := hl
  refine lv_aload_n (pc := 0) hx hb dX5_difference_0 rfl (lv_at hl 0 rfl) ?_
  refine va_get (pc := 1) (D := D) (ci := 3) (v := .ref v_ties) (C := RX5) (T := TX5) (N := 9) hx hb hts in_X5 hown hK hP 0 rfl rfl 3 (by decide) fl_21 (fun _ h9 => h9) rfl dX5_difference_1 ?_
  refine lv_iload_n (pc := 4) hx hb dX5_difference_4 rfl (lv_at hl 1 rfl) ?_
  refine lv_iload_n (pc := 5) hx hb dX5_difference_5 rfl (lv_at hl 2 rfl) ?_
  refine z_callR (pc := 6) (va_runS (As := [vI p0, vI p1]) (rest := [.ref v_ties]) ⟨hx, hb, hml, hown, hts⟩ (m_X5_way l D cI cJ cZ cD 0  p0 p1 ) (va_cwS 2 hts gX5_difference_X5_way rfl rfl rfl (by decide +kernel) ⟨Nat.le_of_ble_eq_true rfl, Nat.le_of_ble_eq_true rfl⟩) ⟨fun a U g mk q => q, fun U hU hW => ⟨rfl, trivial⟩⟩ rfl rfl hl.1 rfl (lv_room (Nat.le_of_ble_eq_true rfl)) dX5_difference_6 ⟨Nat.zero_le _, Nat.zero_le _⟩) ?_
  refine z_iald (pc := 9) hx hb hK hP 1 0 (by omega) rfl rfl (by first | decide | omega) dX5_difference_9 ?_
  have hv : (v_ties_c (p0 * 10 + p1)) = (v_ties_c (p0 * 10 + p1)) := rfl
  exact W.iret (pc := 10) (v := zI (v_ties_c (p0 * 10 + p1))) hx hb hr (fun t ht hW => ⟨congrArg (fun z => Outcome.returned (some (vI z))) hv, ht⟩) (fun q h => absurd h List.not_mem_nil) dX5_difference_10

set_option maxHeartbeats 4000000 in
set_option maxRecDepth 100000 in
theorem m_X5_tellTies (l : Launch) (D : va_G) (cI cJ cZ cD : ClassId) (sz : Nat) (vA : Nat) (v_stations : Nat) (v_hours : Nat) (v_values : Nat) (v_ties : Nat) (v_tied : Nat) (v_steps : Nat) (v_readings : Int) (v_datumStation : Int) (v_datumValue : Int) (v_stations_c : Int → Int) (v_hours_c : Int → Int) (v_values_c : Int → Int) (v_ties_c : Int → Int) (v_tied_c : Int → Int) (hrd : rdOK v_readings v_stations_c v_hours_c v_values_c) (h3 : 3 ≤ v_readings) : Met l yX5_tellTies wsX5_tellTies ({ frames := 2, cells := 0, slots := 0, locals := 50 } : Room) (zPc D (TY cI cJ cZ cD) sz [.ref vA] [(vA, .inr (3, [.ref v_stations, .ref v_hours, .ref v_values, .ref v_ties, .ref v_tied, .ref v_steps, vI v_readings, vI v_datumStation, vI v_datumValue])), (v_stations, .inl (cI, 12, .inl (aI v_stations_c))), (v_hours, .inl (cI, 12, .inl (aI v_hours_c))), (v_values, .inl (cI, 12, .inl (aI v_values_c))), (v_ties, .inl (cI, 100, .inl (aI v_ties_c))), (v_tied, .inl (cZ, 100, .inl (aI v_tied_c)))]) (va_Qi (fun (r : Int32) (u : Unit) => match u with | _ => r = zI (v_readings - 1) ∧ (True)) (zB D (va_A [(vA, .inr (3, [.ref v_stations, .ref v_hours, .ref v_values, .ref v_ties, .ref v_tied, .ref v_steps, vI v_readings, vI v_datumStation, vI v_datumValue])), (v_stations, .inl (cI, 12, .inl (aI v_stations_c))), (v_hours, .inl (cI, 12, .inl (aI v_hours_c))), (v_values, .inl (cI, 12, .inl (aI v_values_c))), (v_ties, .inl (cI, 100, .inl (aI v_ties_c))), (v_tied, .inl (cZ, 100, .inl (aI v_tied_c)))] sz) (fun (u : Unit) => match u with | _ => [(vA, .inr (3, [.ref v_stations, .ref v_hours, .ref v_values, .ref v_ties, .ref v_tied, .ref v_steps, vI 0, vI v_datumStation, vI v_datumValue])), (v_stations, .inl (cI, 12, .inl (aI v_stations_c))), (v_hours, .inl (cI, 12, .inl (aI v_hours_c))), (v_values, .inl (cI, 12, .inl (aI v_values_c))), (v_ties, .inl (cI, 100, .inl (aI (tlT v_readings v_stations_c v_hours_c v_values_c v_ties_c (Int.toNat (v_readings - 1)))))), (v_tied, .inl (cZ, 100, .inl (aI (tlB v_stations_c v_tied_c (Int.toNat (v_readings - 1))))))])) (va_A [(vA, .inr (3, [.ref v_stations, .ref v_hours, .ref v_values, .ref v_ties, .ref v_tied, .ref v_steps, vI v_readings, vI v_datumStation, vI v_datumValue])), (v_stations, .inl (cI, 12, .inl (aI v_stations_c))), (v_hours, .inl (cI, 12, .inl (aI v_hours_c))), (v_values, .inl (cI, 12, .inl (aI v_values_c))), (v_ties, .inl (cI, 100, .inl (aI v_ties_c))), (v_tied, .inl (cZ, 100, .inl (aI v_tied_c)))] sz)) 0 0 (va_A [(vA, .inr (3, [.ref v_stations, .ref v_hours, .ref v_values, .ref v_ties, .ref v_tied, .ref v_steps, vI v_readings, vI v_datumStation, vI v_datumValue])), (v_stations, .inl (cI, 12, .inl (aI v_stations_c))), (v_hours, .inl (cI, 12, .inl (aI v_hours_c))), (v_values, .inl (cI, 12, .inl (aI v_values_c))), (v_ties, .inl (cI, 100, .inl (aI v_ties_c))), (v_tied, .inl (cZ, 100, .inl (aI v_tied_c)))] sz) := by
  refine Met.ofW (cc := cX5_tellTies) (maxL := 9) (ret := (some .int)) (by decide) rfl ?_
  intro p e s m args below meth c s₁ B hml hv
  obtain ⟨rfl, hsz, hP, hK, hD0, hN⟩ := hv
  have hx := B.exec
  have hb := B.bytes
  have hr := B.returns
  have hts := atoms_spec (ws := wsX5_tellTies) B.pre
  have hown : s.vm.findClass RX5 = some m.cls := findClass_of_methodNamed B.named
  have hlocks := B.notSynchronized
  subst hsz
  have hD := hD0.self (sz := s.heap.size)
  generalize hAe : va_A [(vA, .inr (3, [.ref v_stations, .ref v_hours, .ref v_values, .ref v_ties, .ref v_tied, .ref v_steps, vI v_readings, vI v_datumStation, vI v_datumValue])), (v_stations, .inl (cI, 12, .inl (aI v_stations_c))), (v_hours, .inl (cI, 12, .inl (aI v_hours_c))), (v_values, .inl (cI, 12, .inl (aI v_values_c))), (v_ties, .inl (cI, 100, .inl (aI v_ties_c))), (v_tied, .inl (cZ, 100, .inl (aI v_tied_c)))] s.heap.size = A at hD ⊢
  have hA : ∀ q : Nat, s.heap.size ≤ q → A q := fun q h => by rw [← hAe]; exact Or.inr h
  have hS : va_S A s.heap s.heap [] := va_S.rf
  have hP : va_P D vwCl [(vA, .inr (3, [.ref v_stations, .ref v_hours, .ref v_values, .ref v_ties, .ref v_tied, .ref v_steps, vI v_readings, vI v_datumStation, vI v_datumValue])), (v_stations, .inl (cI, 12, .inl (aI v_stations_c))), (v_hours, .inl (cI, 12, .inl (aI v_hours_c))), (v_values, .inl (cI, 12, .inl (aI v_values_c))), (v_ties, .inl (cI, 100, .inl (aI v_ties_c))), (v_tied, .inl (cZ, 100, .inl (aI v_tied_c)))] s.heap := hP
  have fl_11 := hts (.fieldLink RX5 11 "PendulumHall$Survey" "stations" "[I") (by decide +kernel)
  have fl_15 := hts (.fieldLink RX5 15 "PendulumHall$Survey" "hours" "[I") (by decide +kernel)
  have fl_18 := hts (.fieldLink RX5 18 "PendulumHall$Survey" "values" "[I") (by decide +kernel)
  have fl_38 := hts (.fieldLink RX5 38 "PendulumHall$Survey" "readings" "I") (by decide +kernel)
  have in_X5 : ∀ w ∈ wsX50, w ∈ wsX5_tellTies := by decide +kernel
  have hl := lv_entry ([.ref vA]) (n := 9) (Nat.le_of_ble_eq_true rfl)
  rw [lg_entry_eq]
  generalize (lg_sl ([.ref vA]) ++ List.replicate (9 - (lg_sl ([.ref vA])).length) Slot.unset).toArray = ls at hl ⊢
  have hl : lv_has ls 9 [(0, .ref vA)] := hl
  obtain ⟨hn, hv, hi⟩ := id hrd
  have f0 := hv (v_readings - 1) (by omega) (by omega)
  have f1 := hv 0 (by omega) (by omega)
  refine lv_aload_n (pc := 0) hx hb dX5_tellTies_0 rfl (lv_at hl 0 rfl) ?_
  refine va_get (pc := 1) (D := D) (ci := 3) (v := vI v_readings) (C := RX5) (T := TX5) (N := 9) hx hb hts in_X5 hown hK hP 0 rfl rfl 6 (by decide) fl_38 (fun _ h9 => h9) rfl dX5_tellTies_1 ?_
  refine z_iconst (pc := 4) hx hb dX5_tellTies_4 ?_
  refine z_isub (pc := 5) hx hb dX5_tellTies_5 ?_
  refine lv_istore_n (lv' := [(1, vI (v_readings - 1)), (0, .ref vA)]) (pc := 6) hx hb dX5_tellTies_6 rfl hl (by decide) rfl (fun ls hl => ?_)
  refine lv_aload_n (pc := 7) hx hb dX5_tellTies_7 rfl (lv_at hl 1 rfl) ?_
  refine va_get (pc := 8) (D := D) (ci := 3) (v := .ref v_values) (C := RX5) (T := TX5) (N := 9) hx hb hts in_X5 hown hK hP 0 rfl rfl 2 (by decide) fl_18 (fun _ h9 => h9) rfl dX5_tellTies_8 ?_
  refine lv_iload_n (pc := 11) hx hb dX5_tellTies_11 rfl (lv_at hl 0 rfl) ?_
  refine z_iald (pc := 12) hx hb hK hP 3 0 (by omega) rfl rfl (by first | decide | omega) dX5_tellTies_12 ?_
  refine z_i2l (pc := 13) hx hb dX5_tellTies_13 (by omega) ?_
  refine lv_aload_n (pc := 14) hx hb dX5_tellTies_14 rfl (lv_at hl 1 rfl) ?_
  refine va_get (pc := 15) (D := D) (ci := 3) (v := .ref v_values) (C := RX5) (T := TX5) (N := 9) hx hb hts in_X5 hown hK hP 0 rfl rfl 2 (by decide) fl_18 (fun _ h9 => h9) rfl dX5_tellTies_15 ?_
  refine z_iconst (pc := 18) hx hb dX5_tellTies_18 ?_
  refine z_iald (pc := 19) hx hb hK hP 3 0 (by omega) rfl rfl (by first | decide | omega) dX5_tellTies_19 ?_
  refine z_i2l (pc := 20) hx hb dX5_tellTies_20 (by omega) ?_
  refine z_lsub (pc := 21) hx hb dX5_tellTies_21 ?_
  refine lv_lstore_n (lv' := [(2, vL ((v_values_c (v_readings - 1)) - (v_values_c 0))), (1, vI (v_readings - 1)), (0, .ref vA)]) (pc := 22) hx hb dX5_tellTies_22 rfl hl (by decide) rfl (fun ls hl => ?_)
  refine lv_aload_n (pc := 23) hx hb dX5_tellTies_23 rfl (lv_at hl 2 rfl) ?_
  refine va_get (pc := 24) (D := D) (ci := 3) (v := .ref v_hours) (C := RX5) (T := TX5) (N := 9) hx hb hts in_X5 hown hK hP 0 rfl rfl 1 (by decide) fl_15 (fun _ h9 => h9) rfl dX5_tellTies_24 ?_
  refine lv_iload_n (pc := 27) hx hb dX5_tellTies_27 rfl (lv_at hl 1 rfl) ?_
  refine z_iald (pc := 28) hx hb hK hP 2 0 (by omega) rfl rfl (by first | decide | omega) dX5_tellTies_28 ?_
  refine z_i2l (pc := 29) hx hb dX5_tellTies_29 (by omega) ?_
  refine lv_aload_n (pc := 30) hx hb dX5_tellTies_30 rfl (lv_at hl 2 rfl) ?_
  refine va_get (pc := 31) (D := D) (ci := 3) (v := .ref v_hours) (C := RX5) (T := TX5) (N := 9) hx hb hts in_X5 hown hK hP 0 rfl rfl 1 (by decide) fl_15 (fun _ h9 => h9) rfl dX5_tellTies_31 ?_
  refine z_iconst (pc := 34) hx hb dX5_tellTies_34 ?_
  refine z_iald (pc := 35) hx hb hK hP 2 0 (by omega) rfl rfl (by first | decide | omega) dX5_tellTies_35 ?_
  refine z_i2l (pc := 36) hx hb dX5_tellTies_36 (by omega) ?_
  refine z_lsub (pc := 37) hx hb dX5_tellTies_37 ?_
  refine lv_lstore (lv' := [(4, vL ((v_hours_c (v_readings - 1)) - (v_hours_c 0))), (2, vL ((v_values_c (v_readings - 1)) - (v_values_c 0))), (1, vI (v_readings - 1)), (0, .ref vA)]) (pc := 38) hx hb dX5_tellTies_38 hl (by decide) rfl (fun ls hl => ?_)
  refine lv_aload_n (pc := 40) hx hb dX5_tellTies_40 rfl (lv_at hl 3 rfl) ?_
  refine va_get (pc := 41) (D := D) (ci := 3) (v := .ref v_values) (C := RX5) (T := TX5) (N := 9) hx hb hts in_X5 hown hK hP 0 rfl rfl 2 (by decide) fl_18 (fun _ h9 => h9) rfl dX5_tellTies_41 ?_
  refine z_iconst (pc := 44) hx hb dX5_tellTies_44 ?_
  refine z_iald (pc := 45) hx hb hK hP 3 0 (by omega) rfl rfl (by first | decide | omega) dX5_tellTies_45 ?_
  refine lv_istore (lv' := [(6, vI (v_values_c 0)), (4, vL ((v_hours_c (v_readings - 1)) - (v_hours_c 0))), (2, vL ((v_values_c (v_readings - 1)) - (v_values_c 0))), (1, vI (v_readings - 1)), (0, .ref vA)]) (pc := 46) hx hb dX5_tellTies_46 hl (by decide) rfl (fun ls hl => ?_)
  refine z_iconst (pc := 48) hx hb dX5_tellTies_48 ?_
  refine lv_istore (lv' := [(7, vI 1), (6, vI (v_values_c 0)), (4, vL ((v_hours_c (v_readings - 1)) - (v_hours_c 0))), (2, vL ((v_values_c (v_readings - 1)) - (v_values_c 0))), (1, vI (v_readings - 1)), (0, .ref vA)]) (pc := 49) hx hb dX5_tellTies_49 hl (by decide) rfl (fun ls hl => ?_)
  have LP_51 : ∀ (nfu : Nat) (k : Int) (fo : Int) (tt : Int → Int) (bb : Int → Int) (i1 : 1 ≤ k ∧ k ≤ v_readings) (i2 : fo = wvZ v_readings v_hours_c v_values_c (k - 1)) (i3 : tt = tlT v_readings v_stations_c v_hours_c v_values_c v_ties_c (Int.toNat (k - 1))) (i4 : bb = tlB v_stations_c v_tied_c (Int.toNat (k - 1))) (hme : v_readings - k + 1 < (nfu : Int)) (H : Heap) (locs : List Loc) (hP : va_P D vwCl [(vA, .inr (3, [.ref v_stations, .ref v_hours, .ref v_values, .ref v_ties, .ref v_tied, .ref v_steps, vI v_readings, vI v_datumStation, vI v_datumValue])), (v_stations, .inl (cI, 12, .inl (aI v_stations_c))), (v_hours, .inl (cI, 12, .inl (aI v_hours_c))), (v_values, .inl (cI, 12, .inl (aI v_values_c))), (v_ties, .inl (cI, 100, .inl (aI tt))), (v_tied, .inl (cZ, 100, .inl (aI bb)))] H) (hD : va_D A [(vA, .inr (3, [.ref v_stations, .ref v_hours, .ref v_values, .ref v_ties, .ref v_tied, .ref v_steps, vI v_readings, vI v_datumStation, vI v_datumValue])), (v_stations, .inl (cI, 12, .inl (aI v_stations_c))), (v_hours, .inl (cI, 12, .inl (aI v_hours_c))), (v_values, .inl (cI, 12, .inl (aI v_values_c))), (v_ties, .inl (cI, 100, .inl (aI tt))), (v_tied, .inl (cZ, 100, .inl (aI bb)))]) (hS : va_S A s.heap H locs) (ls : Array Slot) (hl : lv_has ls 9 [(7, vI k), (6, vI fo), (4, vL ((v_hours_c (v_readings - 1)) - (v_hours_c 0))), (2, vL ((v_values_c (v_readings - 1)) - (v_values_c 0))), (1, vI (v_readings - 1)), (0, .ref vA)]), W p l e (headSpec wsX5_tellTies ({ frames := 2, cells := 0, slots := 0, locals := 50 } : Room)).room s m ([.ref vA] : List Value).toArray below meth c H locs 0 0 (MQ below (va_Qi (fun (r : Int32) (u : Unit) => match u with | _ => r = zI (v_readings - 1) ∧ (True)) (zB D A (fun (u : Unit) => match u with | _ => [(vA, .inr (3, [.ref v_stations, .ref v_hours, .ref v_values, .ref v_ties, .ref v_tied, .ref v_steps, vI 0, vI v_datumStation, vI v_datumValue])), (v_stations, .inl (cI, 12, .inl (aI v_stations_c))), (v_hours, .inl (cI, 12, .inl (aI v_hours_c))), (v_values, .inl (cI, 12, .inl (aI v_values_c))), (v_ties, .inl (cI, 100, .inl (aI (tlT v_readings v_stations_c v_hours_c v_values_c v_ties_c (Int.toNat (v_readings - 1)))))), (v_tied, .inl (cZ, 100, .inl (aI (tlB v_stations_c v_tied_c (Int.toNat (v_readings - 1))))))])) A) ([.ref vA] : List Value).toArray s 0 0 A) (F0 m 51 ls []) := by
    intro nfu
    induction nfu with
    | zero =>
      intro k fo tt bb i1 i2 i3 i4 hme H locs hP hD hS ls hl
      exact absurd hme (by omega)
    | succ nfu ih_51 =>
      intro k fo tt bb i1 i2 i3 i4 hme H locs hP hD hS ls hl
      refine lv_iload (pc := 51) hx hb dX5_tellTies_51 (lv_at hl 0 rfl) ?_
      refine lv_iload_n (pc := 53) hx hb dX5_tellTies_53 rfl (lv_at hl 4 rfl) ?_
      refine z_icmp_gt (pc := 54) (tgt := 123) hx hb dX5_tellTies_54 (by decide) (by omega) (by omega) (fun c_1 => ?_) (fun c_1 => ?_)
      · have hc_54t := c_1
        refine lv_aload_n (pc := 123) hx hb dX5_tellTies_123 rfl (lv_at hl 5 rfl) ?_
        refine z_iconst (pc := 124) hx hb dX5_tellTies_124 ?_
        refine va_put (pc := 125) (D := D) (ci := 3) (v := vI 0) (ty := .int) (C := RX5) (T := TX5) (N := 9) hx hb hts in_X5 tyX5 tyX5_ok nmX5 hown hK hP hD hS 0 rfl rfl 6 (by decide) fl_38 (fun _ h9 => h9) rfl (by decide +kernel) rfl rfl (Nat.le_of_ble_eq_true rfl) dX5_tellTies_125 (fun H locs hP hD hS => ?_)
        have hP : va_P D vwCl [(vA, .inr (3, [.ref v_stations, .ref v_hours, .ref v_values, .ref v_ties, .ref v_tied, .ref v_steps, vI 0, vI v_datumStation, vI v_datumValue])), (v_stations, .inl (cI, 12, .inl (aI v_stations_c))), (v_hours, .inl (cI, 12, .inl (aI v_hours_c))), (v_values, .inl (cI, 12, .inl (aI v_values_c))), (v_ties, .inl (cI, 100, .inl (aI tt))), (v_tied, .inl (cZ, 100, .inl (aI bb)))] H := hP
        have hD : va_D A [(vA, .inr (3, [.ref v_stations, .ref v_hours, .ref v_values, .ref v_ties, .ref v_tied, .ref v_steps, vI 0, vI v_datumStation, vI v_datumValue])), (v_stations, .inl (cI, 12, .inl (aI v_stations_c))), (v_hours, .inl (cI, 12, .inl (aI v_hours_c))), (v_values, .inl (cI, 12, .inl (aI v_values_c))), (v_ties, .inl (cI, 100, .inl (aI tt))), (v_tied, .inl (cZ, 100, .inl (aI bb)))] := hD
        refine lv_iload_n (pc := 128) hx hb dX5_tellTies_128 rfl (lv_at hl 4 rfl) ?_
        have he_0 : (tt) = (tlT v_readings v_stations_c v_hours_c v_values_c v_ties_c (Int.toNat (v_readings - 1))) := by rw [i3, show k = v_readings by omega]
        rw [he_0] at hP hD
        have he_1 : (bb) = (tlB v_stations_c v_tied_c (Int.toNat (v_readings - 1))) := by rw [i4, show k = v_readings by omega]
        rw [he_1] at hP hD
        have hP9 := hP.sub (ws' := [(vA, .inr (3, [.ref v_stations, .ref v_hours, .ref v_values, .ref v_ties, .ref v_tied, .ref v_steps, vI 0, vI v_datumStation, vI v_datumValue])), (v_stations, .inl (cI, 12, .inl (aI v_stations_c))), (v_hours, .inl (cI, 12, .inl (aI v_hours_c))), (v_values, .inl (cI, 12, .inl (aI v_values_c))), (v_ties, .inl (cI, 100, .inl (aI (tlT v_readings v_stations_c v_hours_c v_values_c v_ties_c (Int.toNat (v_readings - 1)))))), (v_tied, .inl (cZ, 100, .inl (aI (tlB v_stations_c v_tied_c (Int.toNat (v_readings - 1))))))]) [0, 1, 2, 3, 4, 5] rfl
        have hD9 := hD.sub (ws' := [(vA, .inr (3, [.ref v_stations, .ref v_hours, .ref v_values, .ref v_ties, .ref v_tied, .ref v_steps, vI 0, vI v_datumStation, vI v_datumValue])), (v_stations, .inl (cI, 12, .inl (aI v_stations_c))), (v_hours, .inl (cI, 12, .inl (aI v_hours_c))), (v_values, .inl (cI, 12, .inl (aI v_values_c))), (v_ties, .inl (cI, 100, .inl (aI (tlT v_readings v_stations_c v_hours_c v_values_c v_ties_c (Int.toNat (v_readings - 1)))))), (v_tied, .inl (cZ, 100, .inl (aI (tlB v_stations_c v_tied_c (Int.toNat (v_readings - 1))))))]) [0, 1, 2, 3, 4, 5] (by decide) rfl
        have hv : (v_readings - 1) = (v_readings - 1) := by first | rfl | omega
        exact W.iret (pc := 129) (v := zI (v_readings - 1)) hx hb hr (fun t ht hW => ⟨⟨zI (v_readings - 1), (), rfl, ⟨congrArg zI hv, trivial⟩, by rw [ht]; exact hP9, hD9⟩, hS.F ht⟩) hS.2.2 dX5_tellTies_129
      · have hc_54f := c_1
        obtain ⟨w1, w2, w3, w4⟩ := wvZ_m hrd h3 (r := k) (by omega)
        have f2 := hv k (by omega) (by omega)
        have f3 := hv (k - 1) (by omega) (by omega)
        refine lv_aload_n (pc := 57) hx hb dX5_tellTies_57 rfl (lv_at hl 5 rfl) ?_
        refine va_get (pc := 58) (D := D) (ci := 3) (v := .ref v_values) (C := RX5) (T := TX5) (N := 9) hx hb hts in_X5 hown hK hP 0 rfl rfl 2 (by decide) fl_18 (fun _ h9 => h9) rfl dX5_tellTies_58 ?_
        refine lv_iload (pc := 61) hx hb dX5_tellTies_61 (lv_at hl 0 rfl) ?_
        refine z_iald (pc := 63) hx hb hK hP 3 0 (by omega) rfl rfl (by first | decide | omega) dX5_tellTies_63 ?_
        refine lv_lload_n (pc := 64) hx hb dX5_tellTies_64 rfl (lv_at hl 3 rfl) ?_
        refine lv_aload_n (pc := 65) hx hb dX5_tellTies_65 rfl (lv_at hl 5 rfl) ?_
        refine va_get (pc := 66) (D := D) (ci := 3) (v := .ref v_hours) (C := RX5) (T := TX5) (N := 9) hx hb hts in_X5 hown hK hP 0 rfl rfl 1 (by decide) fl_15 (fun _ h9 => h9) rfl dX5_tellTies_66 ?_
        refine lv_iload (pc := 69) hx hb dX5_tellTies_69 (lv_at hl 0 rfl) ?_
        refine z_iald (pc := 71) hx hb hK hP 2 0 (by omega) rfl rfl (by first | decide | omega) dX5_tellTies_71 ?_
        refine lv_aload_n (pc := 72) hx hb dX5_tellTies_72 rfl (lv_at hl 5 rfl) ?_
        refine va_get (pc := 73) (D := D) (ci := 3) (v := .ref v_hours) (C := RX5) (T := TX5) (N := 9) hx hb hts in_X5 hown hK hP 0 rfl rfl 1 (by decide) fl_15 (fun _ h9 => h9) rfl dX5_tellTies_73 ?_
        refine z_iconst (pc := 76) hx hb dX5_tellTies_76 ?_
        refine z_iald (pc := 77) hx hb hK hP 2 0 (by omega) rfl rfl (by first | decide | omega) dX5_tellTies_77 ?_
        refine z_isub (pc := 78) hx hb dX5_tellTies_78 ?_
        refine z_i2l (pc := 79) hx hb dX5_tellTies_79 (by omega) ?_
        refine lv_lload (pc := 80) hx hb dX5_tellTies_80 (lv_at hl 2 rfl) ?_
        refine z_callR (pc := 82) (va_runS (As := [vL ((v_values_c (v_readings - 1)) - (v_values_c 0)), vL ((v_hours_c k) - (v_hours_c 0)), vL ((v_hours_c (v_readings - 1)) - (v_hours_c 0))]) (rest := [vI (v_values_c k)]) ⟨hx, hb, hml, hown, hts⟩ (m_X5_driftBy l D cI cJ cZ cD 0  ((v_values_c (v_readings - 1)) - (v_values_c 0)) ((v_hours_c k) - (v_hours_c 0)) ((v_hours_c (v_readings - 1)) - (v_hours_c 0)) (by omega) (by omega)) (va_cwS 3 hts gX5_tellTies_X5_driftBy rfl rfl rfl (by decide +kernel) ⟨Nat.le_of_ble_eq_true rfl, Nat.le_of_ble_eq_true rfl⟩) ⟨fun a U g mk q => q, fun U hU hW => ⟨rfl, trivial⟩⟩ rfl rfl hl.1 rfl (lv_room (Nat.le_of_ble_eq_true rfl)) dX5_tellTies_82 ⟨Nat.zero_le _, Nat.zero_le _⟩) ?_
        refine z_isub (pc := 85) hx hb dX5_tellTies_85 ?_
        refine lv_istore (lv' := [(8, vI ((v_values_c k) - (((v_values_c (v_readings - 1)) - (v_values_c 0)) * ((v_hours_c k) - (v_hours_c 0)) / ((v_hours_c (v_readings - 1)) - (v_hours_c 0))))), (7, vI k), (6, vI fo), (4, vL ((v_hours_c (v_readings - 1)) - (v_hours_c 0))), (2, vL ((v_values_c (v_readings - 1)) - (v_values_c 0))), (1, vI (v_readings - 1)), (0, .ref vA)]) (pc := 86) hx hb dX5_tellTies_86 hl (by decide) rfl (fun ls hl => ?_)
        refine lv_aload_n (pc := 88) hx hb dX5_tellTies_88 rfl (lv_at hl 6 rfl) ?_
        refine lv_aload_n (pc := 89) hx hb dX5_tellTies_89 rfl (lv_at hl 6 rfl) ?_
        refine va_get (pc := 90) (D := D) (ci := 3) (v := .ref v_stations) (C := RX5) (T := TX5) (N := 9) hx hb hts in_X5 hown hK hP 0 rfl rfl 0 (by decide) fl_11 (fun _ h9 => h9) rfl dX5_tellTies_90 ?_
        refine lv_iload (pc := 93) hx hb dX5_tellTies_93 (lv_at hl 1 rfl) ?_
        refine z_iconst (pc := 95) hx hb dX5_tellTies_95 ?_
        refine z_isub (pc := 96) hx hb dX5_tellTies_96 ?_
        refine z_iald (pc := 97) hx hb hK hP 1 0 (by omega) rfl rfl (by first | decide | omega) dX5_tellTies_97 ?_
        refine lv_aload_n (pc := 98) hx hb dX5_tellTies_98 rfl (lv_at hl 6 rfl) ?_
        refine va_get (pc := 99) (D := D) (ci := 3) (v := .ref v_stations) (C := RX5) (T := TX5) (N := 9) hx hb hts in_X5 hown hK hP 0 rfl rfl 0 (by decide) fl_11 (fun _ h9 => h9) rfl dX5_tellTies_99 ?_
        refine lv_iload (pc := 102) hx hb dX5_tellTies_102 (lv_at hl 1 rfl) ?_
        refine z_iald (pc := 104) hx hb hK hP 1 0 (by omega) rfl rfl (by first | decide | omega) dX5_tellTies_104 ?_
        refine lv_iload (pc := 105) hx hb dX5_tellTies_105 (lv_at hl 0 rfl) ?_
        refine lv_iload (pc := 107) hx hb dX5_tellTies_107 (lv_at hl 2 rfl) ?_
        refine z_isub (pc := 109) hx hb dX5_tellTies_109 ?_
        have hPc := hP.sub (ws' := [(vA, .inr (3, [.ref v_stations, .ref v_hours, .ref v_values, .ref v_ties, .ref v_tied, .ref v_steps, vI v_readings, vI v_datumStation, vI v_datumValue])), (v_ties, .inl (cI, 100, .inl (aI tt))), (v_tied, .inl (cZ, 100, .inl (aI bb)))]) [0, 4, 5] rfl
        have hDc := hD.sub (ws' := [(vA, .inr (3, [.ref v_stations, .ref v_hours, .ref v_values, .ref v_ties, .ref v_tied, .ref v_steps, vI v_readings, vI v_datumStation, vI v_datumValue])), (v_ties, .inl (cI, 100, .inl (aI tt))), (v_tied, .inl (cZ, 100, .inl (aI bb)))]) [0, 4, 5] (by decide) rfl
        refine z_callWv (pc := 110) (wc := [(vA, .inr (3, [.ref v_stations, .ref v_hours, .ref v_values, .ref v_ties, .ref v_tied, .ref v_steps, vI v_readings, vI v_datumStation, vI v_datumValue])), (v_ties, .inl (cI, 100, .inl (aI tt))), (v_tied, .inl (cZ, 100, .inl (aI bb)))]) hP hD hS hA [0, 4, 5] [1, 2, 3] [(v_stations, .inl (cI, 12, .inl (aI v_stations_c))), (v_hours, .inl (cI, 12, .inl (aI v_hours_c))), (v_values, .inl (cI, 12, .inl (aI v_values_c)))] rfl rfl (by decide) (by decide) (va_runV (As := [vI (v_stations_c (k - 1)), vI (v_stations_c k), vI (((v_values_c k) - (((v_values_c (v_readings - 1)) - (v_values_c 0)) * ((v_hours_c k) - (v_hours_c 0)) / ((v_hours_c (v_readings - 1)) - (v_hours_c 0)))) - fo)]) (rest := []) ⟨hx, hb, hml, hown, hts⟩ (m_X5_putTie l D cI cJ cZ cD H.size vA v_stations v_hours v_values v_ties v_tied v_steps v_readings v_datumStation v_datumValue tt bb (v_stations_c (k - 1)) (v_stations_c k) (((v_values_c k) - (((v_values_c (v_readings - 1)) - (v_values_c 0)) * ((v_hours_c k) - (v_hours_c 0)) / ((v_hours_c (v_readings - 1)) - (v_hours_c 0)))) - fo) (by omega) (by omega)) (cwV 3 hts gX5_tellTies_X5_putTie rfl rfl rfl (by decide +kernel) ⟨Nat.le_of_ble_eq_true rfl, Nat.le_of_ble_eq_true rfl⟩) ⟨z_blind, va_recv hK hPc (ci := 3) (q0 := 0) rfl rfl, z_pre hPc hK hDc rfl rfl hN⟩ rfl rfl hl.1 rfl (lv_room (Nat.le_of_ble_eq_true rfl)) dX5_tellTies_110 ⟨Nat.zero_le _, Nat.zero_le _⟩) (fun u H locs hw hP hD hS => ?_)
        have hw_2 := hw
        have hP : va_P D vwCl [(v_stations, .inl (cI, 12, .inl (aI v_stations_c))), (v_hours, .inl (cI, 12, .inl (aI v_hours_c))), (v_values, .inl (cI, 12, .inl (aI v_values_c))), (vA, .inr (3, [.ref v_stations, .ref v_hours, .ref v_values, .ref v_ties, .ref v_tied, .ref v_steps, vI v_readings, vI v_datumStation, vI v_datumValue])), (v_ties, .inl (cI, 100, .inl (aI (uZ (uZ tt ((v_stations_c (k - 1)) * 10 + (v_stations_c k)) (((v_values_c k) - (((v_values_c (v_readings - 1)) - (v_values_c 0)) * ((v_hours_c k) - (v_hours_c 0)) / ((v_hours_c (v_readings - 1)) - (v_hours_c 0)))) - fo)) ((v_stations_c k) * 10 + (v_stations_c (k - 1))) (-(((v_values_c k) - (((v_values_c (v_readings - 1)) - (v_values_c 0)) * ((v_hours_c k) - (v_hours_c 0)) / ((v_hours_c (v_readings - 1)) - (v_hours_c 0)))) - fo)))))), (v_tied, .inl (cZ, 100, .inl (aI (uZ (uZ bb ((v_stations_c (k - 1)) * 10 + (v_stations_c k)) 1) ((v_stations_c k) * 10 + (v_stations_c (k - 1))) 1))))] H := hP
        have hD : va_D A [(v_stations, .inl (cI, 12, .inl (aI v_stations_c))), (v_hours, .inl (cI, 12, .inl (aI v_hours_c))), (v_values, .inl (cI, 12, .inl (aI v_values_c))), (vA, .inr (3, [.ref v_stations, .ref v_hours, .ref v_values, .ref v_ties, .ref v_tied, .ref v_steps, vI v_readings, vI v_datumStation, vI v_datumValue])), (v_ties, .inl (cI, 100, .inl (aI (uZ (uZ tt ((v_stations_c (k - 1)) * 10 + (v_stations_c k)) (((v_values_c k) - (((v_values_c (v_readings - 1)) - (v_values_c 0)) * ((v_hours_c k) - (v_hours_c 0)) / ((v_hours_c (v_readings - 1)) - (v_hours_c 0)))) - fo)) ((v_stations_c k) * 10 + (v_stations_c (k - 1))) (-(((v_values_c k) - (((v_values_c (v_readings - 1)) - (v_values_c 0)) * ((v_hours_c k) - (v_hours_c 0)) / ((v_hours_c (v_readings - 1)) - (v_hours_c 0)))) - fo)))))), (v_tied, .inl (cZ, 100, .inl (aI (uZ (uZ bb ((v_stations_c (k - 1)) * 10 + (v_stations_c k)) 1) ((v_stations_c k) * 10 + (v_stations_c (k - 1))) 1))))] := hD
        refine lv_iload (pc := 113) hx hb dX5_tellTies_113 (lv_at hl 0 rfl) ?_
        refine lv_istore (lv' := [(6, vI ((v_values_c k) - (((v_values_c (v_readings - 1)) - (v_values_c 0)) * ((v_hours_c k) - (v_hours_c 0)) / ((v_hours_c (v_readings - 1)) - (v_hours_c 0))))), (8, vI ((v_values_c k) - (((v_values_c (v_readings - 1)) - (v_values_c 0)) * ((v_hours_c k) - (v_hours_c 0)) / ((v_hours_c (v_readings - 1)) - (v_hours_c 0))))), (7, vI k), (4, vL ((v_hours_c (v_readings - 1)) - (v_hours_c 0))), (2, vL ((v_values_c (v_readings - 1)) - (v_values_c 0))), (1, vI (v_readings - 1)), (0, .ref vA)]) (pc := 115) hx hb dX5_tellTies_115 hl (by decide) rfl (fun ls hl => ?_)
        refine lv_iinc (v := zI (k + 1)) (lv' := [(7, vI (k + 1)), (6, vI ((v_values_c k) - (((v_values_c (v_readings - 1)) - (v_values_c 0)) * ((v_hours_c k) - (v_hours_c 0)) / ((v_hours_c (v_readings - 1)) - (v_hours_c 0))))), (8, vI ((v_values_c k) - (((v_values_c (v_readings - 1)) - (v_values_c 0)) * ((v_hours_c k) - (v_hours_c 0)) / ((v_hours_c (v_readings - 1)) - (v_hours_c 0))))), (4, vL ((v_hours_c (v_readings - 1)) - (v_hours_c 0))), (2, vL ((v_values_c (v_readings - 1)) - (v_values_c 0))), (1, vI (v_readings - 1)), (0, .ref vA)]) (pc := 117) hx hb dX5_tellTies_117 hl (k := 2) rfl (zI_add _ _) (by decide) rfl (fun ls hl => ?_)
        refine lv_goto (pc := 120) (tgt := 51) hx hb dX5_tellTies_120 (by decide) ?_
        exact ih_51 (k + 1) ((v_values_c k) - (((v_values_c (v_readings - 1)) - (v_values_c 0)) * ((v_hours_c k) - (v_hours_c 0)) / ((v_hours_c (v_readings - 1)) - (v_hours_c 0)))) (uZ (uZ tt ((v_stations_c (k - 1)) * 10 + (v_stations_c k)) (((v_values_c k) - (((v_values_c (v_readings - 1)) - (v_values_c 0)) * ((v_hours_c k) - (v_hours_c 0)) / ((v_hours_c (v_readings - 1)) - (v_hours_c 0)))) - fo)) ((v_stations_c k) * 10 + (v_stations_c (k - 1))) (-(((v_values_c k) - (((v_values_c (v_readings - 1)) - (v_values_c 0)) * ((v_hours_c k) - (v_hours_c 0)) / ((v_hours_c (v_readings - 1)) - (v_hours_c 0)))) - fo))) (uZ (uZ bb ((v_stations_c (k - 1)) * 10 + (v_stations_c k)) 1) ((v_stations_c k) * 10 + (v_stations_c (k - 1))) 1) (by omega) (by rw [show k + 1 - 1 = k by omega]; rfl) (by rw [tlT_s _ _ _ _ _ i1.1, i3, i2]; rfl) (by rw [tlB_s _ _ i1.1, i4]) (by omega) _ _ (hP.sub [3, 0, 1, 2, 4, 5] rfl) (hD.sub [3, 0, 1, 2, 4, 5] (by decide) rfl) hS _ (lv_sub hl [0, 1, 3, 4, 5, 6] rfl)
  exact LP_51 (Int.toNat ((v_readings - 1 + 1) + 1)) 1 (v_values_c 0) v_ties_c v_tied_c (by omega) ((wvZ_0 _ _ _).symm) (by rfl) (by rfl) (by omega) _ _ (hP.sub [0, 1, 2, 3, 4, 5] rfl) (hD.sub [0, 1, 2, 3, 4, 5] (by decide) rfl) hS _ (lv_sub hl [0, 1, 2, 3, 4, 5] rfl)

set_option maxHeartbeats 4000000 in
set_option maxRecDepth 100000 in
theorem m_X5_countTiedPairs (l : Launch) (D : va_G) (cI cJ cZ cD : ClassId) (sz : Nat) (vA : Nat) (v_stations : Nat) (v_hours : Nat) (v_values : Nat) (v_ties : Nat) (v_tied : Nat) (v_steps : Nat) (v_readings : Int) (v_datumStation : Int) (v_datumValue : Int) (v_tied_c : Int → Int) (ht : ∀ j : Int, 0 ≤ j → j < 100 → v_tied_c j = 0 ∨ v_tied_c j = 1) : Met l yX5_countTiedPairs wsX5_countTiedPairs ({ frames := 2, cells := 0, slots := 0, locals := 43 } : Room) (zPc D (TY cI cJ cZ cD) sz [.ref vA] [(vA, .inr (3, [.ref v_stations, .ref v_hours, .ref v_values, .ref v_ties, .ref v_tied, .ref v_steps, vI v_readings, vI v_datumStation, vI v_datumValue])), (v_tied, .inl (cZ, 100, .inl (aI v_tied_c)))]) (zQr (some (vI (tpZ v_tied_c)))) 0 0 (fun _ => False) := by
  refine Met.ofW (cc := cX5_countTiedPairs) (maxL := 4) (ret := (some .int)) (by decide) rfl ?_
  intro p e s m args below meth c s₁ B hml hv
  obtain ⟨rfl, hsz, hP, hK, hD0, hN⟩ := hv
  have hx := B.exec
  have hb := B.bytes
  have hr := B.returns
  have hts := atoms_spec (ws := wsX5_countTiedPairs) B.pre
  have hown : s.vm.findClass RX5 = some m.cls := findClass_of_methodNamed B.named
  have hlocks := B.notSynchronized
  have hD := hD0
  subst hsz
  have hP : va_P D vwCl [(vA, .inr (3, [.ref v_stations, .ref v_hours, .ref v_values, .ref v_ties, .ref v_tied, .ref v_steps, vI v_readings, vI v_datumStation, vI v_datumValue])), (v_tied, .inl (cZ, 100, .inl (aI v_tied_c)))] s.heap := hP
  have hl := lv_entry ([.ref vA]) (n := 4) (Nat.le_of_ble_eq_true rfl)
  rw [lg_entry_eq]
  generalize (lg_sl ([.ref vA]) ++ List.replicate (4 - (lg_sl ([.ref vA])).length) Slot.unset).toArray = ls at hl ⊢
  have hl : lv_has ls 4 [(0, .ref vA)] := hl
  refine z_iconst (pc := 0) hx hb dX5_countTiedPairs_0 ?_
  refine lv_istore_n (lv' := [(1, vI 0), (0, .ref vA)]) (pc := 1) hx hb dX5_countTiedPairs_1 rfl hl (by decide) rfl (fun ls hl => ?_)
  refine z_iconst (pc := 2) hx hb dX5_countTiedPairs_2 ?_
  refine lv_istore_n (lv' := [(2, vI 0), (1, vI 0), (0, .ref vA)]) (pc := 3) hx hb dX5_countTiedPairs_3 rfl hl (by decide) rfl (fun ls hl => ?_)
  have LP_4 : ∀ (nfu : Nat) (a : Int) (cn : Int) (i1 : 0 ≤ a ∧ a ≤ 10) (i2 : cn = smZ (fun a => smZ (fun b => if a < b then pI (v_tied_c (a * 10 + b) = 1) else 0) 10) (Int.toNat a)) (hme : 10 - a + 1 < (nfu : Int)) (ls : Array Slot) (hl : lv_has ls 4 [(2, vI a), (1, vI cn), (0, .ref vA)]), W p l e (headSpec wsX5_countTiedPairs ({ frames := 2, cells := 0, slots := 0, locals := 43 } : Room)).room s m ([.ref vA] : List Value).toArray below meth c s.heap [] 0 0 (MQ below (zQr (some (vI (tpZ v_tied_c)))) ([.ref vA] : List Value).toArray s 0 0 (fun _ => False)) (F0 m 4 ls []) := by
    intro nfu
    induction nfu with
    | zero =>
      intro a cn i1 i2 hme ls hl
      exact absurd hme (by omega)
    | succ nfu ih_4 =>
      intro a cn i1 i2 hme ls hl
      refine lv_iload_n (pc := 4) hx hb dX5_countTiedPairs_4 rfl (lv_at hl 0 rfl) ?_
      refine z_bipush (pc := 5) hx hb dX5_countTiedPairs_5 (by decide) ?_
      refine z_icmp_ge (pc := 7) (tgt := 44) hx hb dX5_countTiedPairs_7 (by decide) (by omega) (by decide) (fun c_1 => ?_) (fun c_1 => ?_)
      · have hc_7t := c_1
        refine lv_iload_n (pc := 44) hx hb dX5_countTiedPairs_44 rfl (lv_at hl 1 rfl) ?_
        have hv : (cn) = (tpZ v_tied_c) := by rw [i2, show a = 10 by omega]; rfl
        exact W.iret (pc := 45) (v := zI cn) hx hb hr (fun t ht hW => ⟨congrArg (fun z => Outcome.returned (some (vI z))) hv, ht⟩) (fun q h => absurd h List.not_mem_nil) dX5_countTiedPairs_45
      · have hc_7f := c_1
        refine lv_iload_n (pc := 10) hx hb dX5_countTiedPairs_10 rfl (lv_at hl 0 rfl) ?_
        refine z_iconst (pc := 11) hx hb dX5_countTiedPairs_11 ?_
        refine z_iadd (pc := 12) hx hb dX5_countTiedPairs_12 ?_
        refine lv_istore_n (lv' := [(3, vI (a + 1)), (2, vI a), (1, vI cn), (0, .ref vA)]) (pc := 13) hx hb dX5_countTiedPairs_13 rfl hl (by decide) rfl (fun ls hl => ?_)
        have LP_14 : ∀ (nfu : Nat) (b : Int) (cm : Int) (j1 : a + 1 ≤ b ∧ b ≤ 10) (j2 : cm = cn + smZ (fun b => if a < b then pI (v_tied_c (a * 10 + b) = 1) else 0) (Int.toNat (b))) (hme : 10 - b + 1 < (nfu : Int)) (ls : Array Slot) (hl : lv_has ls 4 [(3, vI b), (2, vI a), (1, vI cm), (0, .ref vA)]), W p l e (headSpec wsX5_countTiedPairs ({ frames := 2, cells := 0, slots := 0, locals := 43 } : Room)).room s m ([.ref vA] : List Value).toArray below meth c s.heap [] 0 0 (MQ below (zQr (some (vI (tpZ v_tied_c)))) ([.ref vA] : List Value).toArray s 0 0 (fun _ => False)) (F0 m 14 ls []) := by
          intro nfu
          induction nfu with
          | zero =>
            intro b cm j1 j2 hme ls hl
            exact absurd hme (by omega)
          | succ nfu ih_14 =>
            intro b cm j1 j2 hme ls hl
            refine lv_iload_n (pc := 14) hx hb dX5_countTiedPairs_14 rfl (lv_at hl 0 rfl) ?_
            refine z_bipush (pc := 15) hx hb dX5_countTiedPairs_15 (by decide) ?_
            refine z_icmp_ge (pc := 17) (tgt := 38) hx hb dX5_countTiedPairs_17 (by decide) (by omega) (by decide) (fun c_2 => ?_) (fun c_2 => ?_)
            · have hc_17t := c_2
              refine lv_iinc (v := zI (a + 1)) (lv' := [(2, vI (a + 1)), (3, vI b), (1, vI cm), (0, .ref vA)]) (pc := 38) hx hb dX5_countTiedPairs_38 hl (k := 1) rfl (zI_add _ _) (by decide) rfl (fun ls hl => ?_)
              refine lv_goto (pc := 41) (tgt := 4) hx hb dX5_countTiedPairs_41 (by decide) ?_
              exact ih_4 (a + 1) cm (by omega) (by rw [smZ_toNat _ i1.1, ← i2]; have q := j2; rw [show b = 10 by omega] at q; exact q) (by omega) _ (lv_sub hl [0, 2, 3] rfl)
            · have hc_17f := c_2
              refine lv_aload_n (pc := 20) hx hb dX5_countTiedPairs_20 rfl (lv_at hl 3 rfl) ?_
              refine lv_iload_n (pc := 21) hx hb dX5_countTiedPairs_21 rfl (lv_at hl 1 rfl) ?_
              refine lv_iload_n (pc := 22) hx hb dX5_countTiedPairs_22 rfl (lv_at hl 0 rfl) ?_
              have hPc := hP.sub (ws' := [(vA, .inr (3, [.ref v_stations, .ref v_hours, .ref v_values, .ref v_ties, .ref v_tied, .ref v_steps, vI v_readings, vI v_datumStation, vI v_datumValue])), (v_tied, .inl (cZ, 100, .inl (aI v_tied_c)))]) [0, 1] rfl
              have hDc := hD.sub (ws' := [(vA, .inr (3, [.ref v_stations, .ref v_hours, .ref v_values, .ref v_ties, .ref v_tied, .ref v_steps, vI v_readings, vI v_datumStation, vI v_datumValue])), (v_tied, .inl (cZ, 100, .inl (aI v_tied_c)))]) [0, 1] (by decide) rfl
              refine z_callR (pc := 23) (va_runV (As := [vI a, vI b]) (rest := []) ⟨hx, hb, hml, hown, hts⟩ (m_X5_isTied l D cI cJ cZ cD s.heap.size vA v_stations v_hours v_values v_ties v_tied v_steps v_readings v_datumStation v_datumValue v_tied_c a b (by omega) (by omega) ht) (cwV 2 hts gX5_countTiedPairs_X5_isTied rfl rfl rfl (by decide +kernel) ⟨Nat.le_of_ble_eq_true rfl, Nat.le_of_ble_eq_true rfl⟩) ⟨z_blind, va_recv hK hPc (ci := 3) (q0 := 0) rfl rfl, z_pre hPc hK hDc rfl rfl hN⟩ rfl rfl hl.1 rfl (lv_room (Nat.le_of_ble_eq_true rfl)) dX5_countTiedPairs_23 ⟨Nat.zero_le _, Nat.zero_le _⟩) ?_
              refine z_ifp_eq (pc := 26) (tgt := 32) hx hb dX5_countTiedPairs_26 (by decide) (fun c_3 => ?_) (fun c_3 => ?_)
              · have hc_26t := c_3
                refine lv_iinc (v := zI (b + 1)) (lv' := [(3, vI (b + 1)), (2, vI a), (1, vI cm), (0, .ref vA)]) (pc := 32) hx hb dX5_countTiedPairs_32 hl (k := 0) rfl (zI_add _ _) (by decide) rfl (fun ls hl => ?_)
                refine lv_goto (pc := 35) (tgt := 14) hx hb dX5_countTiedPairs_35 (by decide) ?_
                exact ih_14 (b + 1) cm (by omega) (by first | (rw [smZ_toNat _ (by omega), if_pos (by omega), pI_t hc_26f, j2]; omega) | (rw [smZ_toNat _ (by omega), if_pos (by omega), pI_f hc_26t, j2]; omega)) (by omega) _ (lv_sub hl [0, 1, 2, 3] rfl)
              · have hc_26f := c_3
                refine lv_iinc (v := zI (cm + 1)) (lv' := [(1, vI (cm + 1)), (3, vI b), (2, vI a), (0, .ref vA)]) (pc := 29) hx hb dX5_countTiedPairs_29 hl (k := 2) rfl (zI_add _ _) (by decide) rfl (fun ls hl => ?_)
                refine lv_iinc (v := zI (b + 1)) (lv' := [(3, vI (b + 1)), (1, vI (cm + 1)), (2, vI a), (0, .ref vA)]) (pc := 32) hx hb dX5_countTiedPairs_32 hl (k := 1) rfl (zI_add _ _) (by decide) rfl (fun ls hl => ?_)
                refine lv_goto (pc := 35) (tgt := 14) hx hb dX5_countTiedPairs_35 (by decide) ?_
                exact ih_14 (b + 1) (cm + 1) (by omega) (by first | (rw [smZ_toNat _ (by omega), if_pos (by omega), pI_t hc_26f, j2]; omega) | (rw [smZ_toNat _ (by omega), if_pos (by omega), pI_f hc_26t, j2]; omega)) (by omega) _ (lv_sub hl [0, 2, 1, 3] rfl)
        exact LP_14 (Int.toNat ((10 - (a + 1) + 1) + 1)) (a + 1) cn (by omega) (by rw [tp_0]; omega) (by omega) _ (lv_sub hl [0, 1, 2, 3] rfl)
  exact LP_4 (Int.toNat ((10 - 0 + 1) + 1)) 0 0 (by omega) (by rfl) (by omega) _ (lv_sub hl [0, 1, 2] rfl)

set_option maxHeartbeats 4000000 in
set_option maxRecDepth 100000 in
theorem m_X5_reachBeside (l : Launch) (D : va_G) (cI cJ cZ cD : ClassId) (sz : Nat) (vA : Nat) (v_stations : Nat) (v_hours : Nat) (v_values : Nat) (v_ties : Nat) (v_tied : Nat) (v_steps : Nat) (v_readings : Int) (v_datumStation : Int) (v_datumValue : Int) (v_tied_c : Int → Int) (v_steps_c : Int → Int) (p0 : Int) (p1 : Int) (h0 : 0 ≤ p0 ∧ p0 < 10) (h1 : 0 ≤ p1 ∧ p1 ≤ 9) (ht : ∀ j : Int, 0 ≤ j → j < 100 → v_tied_c j = 0 ∨ v_tied_c j = 1) (hsv : ∀ j : Int, 0 ≤ j → j < 10 → -1 ≤ v_steps_c j ∧ v_steps_c j ≤ 9) : Met l yX5_reachBeside wsX5_reachBeside ({ frames := 2, cells := 0, slots := 0, locals := 43 } : Room) (zPc D (TY cI cJ cZ cD) sz [.ref vA, vI p0, vI p1] [(vA, .inr (3, [.ref v_stations, .ref v_hours, .ref v_values, .ref v_ties, .ref v_tied, .ref v_steps, vI v_readings, vI v_datumStation, vI v_datumValue])), (v_tied, .inl (cZ, 100, .inl (aI v_tied_c))), (v_steps, .inl (cI, 10, .inl (aI v_steps_c)))]) (va_Qv (fun (u : Unit) => match u with | _ => True) (zB D (va_A [(vA, .inr (3, [.ref v_stations, .ref v_hours, .ref v_values, .ref v_ties, .ref v_tied, .ref v_steps, vI v_readings, vI v_datumStation, vI v_datumValue])), (v_tied, .inl (cZ, 100, .inl (aI v_tied_c))), (v_steps, .inl (cI, 10, .inl (aI v_steps_c)))] sz) (fun (u : Unit) => match u with | _ => [(vA, .inr (3, [.ref v_stations, .ref v_hours, .ref v_values, .ref v_ties, .ref v_tied, .ref v_steps, vI v_readings, vI v_datumStation, vI v_datumValue])), (v_tied, .inl (cZ, 100, .inl (aI v_tied_c))), (v_steps, .inl (cI, 10, .inl (aI (rbZ v_tied_c v_steps_c p0 p1 10))))])) (va_A [(vA, .inr (3, [.ref v_stations, .ref v_hours, .ref v_values, .ref v_ties, .ref v_tied, .ref v_steps, vI v_readings, vI v_datumStation, vI v_datumValue])), (v_tied, .inl (cZ, 100, .inl (aI v_tied_c))), (v_steps, .inl (cI, 10, .inl (aI v_steps_c)))] sz)) 0 0 (va_A [(vA, .inr (3, [.ref v_stations, .ref v_hours, .ref v_values, .ref v_ties, .ref v_tied, .ref v_steps, vI v_readings, vI v_datumStation, vI v_datumValue])), (v_tied, .inl (cZ, 100, .inl (aI v_tied_c))), (v_steps, .inl (cI, 10, .inl (aI v_steps_c)))] sz) := by
  refine Met.ofW (cc := cX5_reachBeside) (maxL := 4) (ret := none) (by decide) rfl ?_
  intro p e s m args below meth c s₁ B hml hv
  obtain ⟨rfl, hsz, hP, hK, hD0, hN⟩ := hv
  have hx := B.exec
  have hb := B.bytes
  have hr := B.returns
  have hts := atoms_spec (ws := wsX5_reachBeside) B.pre
  have hown : s.vm.findClass RX5 = some m.cls := findClass_of_methodNamed B.named
  have hlocks := B.notSynchronized
  subst hsz
  have hD := hD0.self (sz := s.heap.size)
  generalize hAe : va_A [(vA, .inr (3, [.ref v_stations, .ref v_hours, .ref v_values, .ref v_ties, .ref v_tied, .ref v_steps, vI v_readings, vI v_datumStation, vI v_datumValue])), (v_tied, .inl (cZ, 100, .inl (aI v_tied_c))), (v_steps, .inl (cI, 10, .inl (aI v_steps_c)))] s.heap.size = A at hD ⊢
  have hA : ∀ q : Nat, s.heap.size ≤ q → A q := fun q h => by rw [← hAe]; exact Or.inr h
  have hS : va_S A s.heap s.heap [] := va_S.rf
  have hP : va_P D vwCl [(vA, .inr (3, [.ref v_stations, .ref v_hours, .ref v_values, .ref v_ties, .ref v_tied, .ref v_steps, vI v_readings, vI v_datumStation, vI v_datumValue])), (v_tied, .inl (cZ, 100, .inl (aI v_tied_c))), (v_steps, .inl (cI, 10, .inl (aI v_steps_c)))] s.heap := hP
  have fl_28 := hts (.fieldLink RX5 28 "PendulumHall$Survey" "steps" "[I") (by decide +kernel)
  have in_X5 : ∀ w ∈ wsX50, w ∈ wsX5_reachBeside := by decide +kernel
  have hl := lv_entry ([.ref vA, vI p0, vI p1]) (n := 4) (Nat.le_of_ble_eq_true rfl)
  rw [lg_entry_eq]
  generalize (lg_sl ([.ref vA, vI p0, vI p1]) ++ List.replicate (4 - (lg_sl ([.ref vA, vI p0, vI p1])).length) Slot.unset).toArray = ls at hl ⊢
  have hl : lv_has ls 4 [(0, .ref vA), (1, vI p0), (2, vI p1)] := hl
  refine z_iconst (pc := 0) hx hb dX5_reachBeside_0 ?_
  refine lv_istore_n (lv' := [(3, vI 0), (0, .ref vA), (1, vI p0), (2, vI p1)]) (pc := 1) hx hb dX5_reachBeside_1 rfl hl (by decide) rfl (fun ls hl => ?_)
  have LP_2 : ∀ (nfu : Nat) (k : Int) (g : Int → Int) (i1 : 0 ≤ k ∧ k ≤ 10) (i2 : g = rbZ v_tied_c v_steps_c p0 p1 k) (hme : 10 - k + 1 < (nfu : Int)) (H : Heap) (locs : List Loc) (hP : va_P D vwCl [(vA, .inr (3, [.ref v_stations, .ref v_hours, .ref v_values, .ref v_ties, .ref v_tied, .ref v_steps, vI v_readings, vI v_datumStation, vI v_datumValue])), (v_tied, .inl (cZ, 100, .inl (aI v_tied_c))), (v_steps, .inl (cI, 10, .inl (aI g)))] H) (hD : va_D A [(vA, .inr (3, [.ref v_stations, .ref v_hours, .ref v_values, .ref v_ties, .ref v_tied, .ref v_steps, vI v_readings, vI v_datumStation, vI v_datumValue])), (v_tied, .inl (cZ, 100, .inl (aI v_tied_c))), (v_steps, .inl (cI, 10, .inl (aI g)))]) (hS : va_S A s.heap H locs) (ls : Array Slot) (hl : lv_has ls 4 [(3, vI k), (0, .ref vA), (1, vI p0), (2, vI p1)]), W p l e (headSpec wsX5_reachBeside ({ frames := 2, cells := 0, slots := 0, locals := 43 } : Room)).room s m ([.ref vA, vI p0, vI p1] : List Value).toArray below meth c H locs 0 0 (MQ below (va_Qv (fun (u : Unit) => match u with | _ => True) (zB D A (fun (u : Unit) => match u with | _ => [(vA, .inr (3, [.ref v_stations, .ref v_hours, .ref v_values, .ref v_ties, .ref v_tied, .ref v_steps, vI v_readings, vI v_datumStation, vI v_datumValue])), (v_tied, .inl (cZ, 100, .inl (aI v_tied_c))), (v_steps, .inl (cI, 10, .inl (aI (rbZ v_tied_c v_steps_c p0 p1 10))))])) A) ([.ref vA, vI p0, vI p1] : List Value).toArray s 0 0 A) (F0 m 2 ls []) := by
    intro nfu
    induction nfu with
    | zero =>
      intro k g i1 i2 hme H locs hP hD hS ls hl
      exact absurd hme (by omega)
    | succ nfu ih_2 =>
      intro k g i1 i2 hme H locs hP hD hS ls hl
      refine lv_iload_n (pc := 2) hx hb dX5_reachBeside_2 rfl (lv_at hl 0 rfl) ?_
      refine z_bipush (pc := 3) hx hb dX5_reachBeside_3 (by decide) ?_
      refine z_icmp_ge (pc := 5) (tgt := 40) hx hb dX5_reachBeside_5 (by decide) (by omega) (by decide) (fun c_1 => ?_) (fun c_1 => ?_)
      · have hc_5t := c_1
        have he_0 : (g) = (rbZ v_tied_c v_steps_c p0 p1 10) := by rw [i2, show k = 10 by omega]
        rw [he_0] at hP hD
        have hP9 := hP.sub (ws' := [(vA, .inr (3, [.ref v_stations, .ref v_hours, .ref v_values, .ref v_ties, .ref v_tied, .ref v_steps, vI v_readings, vI v_datumStation, vI v_datumValue])), (v_tied, .inl (cZ, 100, .inl (aI v_tied_c))), (v_steps, .inl (cI, 10, .inl (aI (rbZ v_tied_c v_steps_c p0 p1 10))))]) [0, 1, 2] rfl
        have hD9 := hD.sub (ws' := [(vA, .inr (3, [.ref v_stations, .ref v_hours, .ref v_values, .ref v_ties, .ref v_tied, .ref v_steps, vI v_readings, vI v_datumStation, vI v_datumValue])), (v_tied, .inl (cZ, 100, .inl (aI v_tied_c))), (v_steps, .inl (cI, 10, .inl (aI (rbZ v_tied_c v_steps_c p0 p1 10))))]) [0, 1, 2] (by decide) rfl
        exact W.vret (pc := 40) hx hb hr (fun t ht hW => ⟨⟨(), rfl, trivial, by rw [ht]; exact hP9, hD9⟩, hS.F ht⟩) hS.2.2 dX5_reachBeside_40
      · have hc_5f := c_1
        refine lv_aload_n (pc := 8) hx hb dX5_reachBeside_8 rfl (lv_at hl 1 rfl) ?_
        refine va_get (pc := 9) (D := D) (ci := 3) (v := .ref v_steps) (C := RX5) (T := TX5) (N := 9) hx hb hts in_X5 hown hK hP 0 rfl rfl 5 (by decide) fl_28 (fun _ h9 => h9) rfl dX5_reachBeside_9 ?_
        refine lv_iload_n (pc := 12) hx hb dX5_reachBeside_12 rfl (lv_at hl 0 rfl) ?_
        refine z_iald (pc := 13) hx hb hK hP 2 0 (by omega) rfl rfl (by first | decide | omega) dX5_reachBeside_13 ?_
        refine z_iconst (pc := 14) hx hb dX5_reachBeside_14 ?_
        have f0 := hsv k (by omega) (by omega)
        have f1 : g k = v_steps_c k := by rw [i2]; exact rbZ_at _ _ _ _ _
        rw [f1]
        refine z_icmp_ne (pc := 15) (tgt := 34) hx hb dX5_reachBeside_15 (by decide) (by omega) (by decide) (fun c_2 => ?_) (fun c_2 => ?_)
        · have hc_15t := c_2
          refine lv_iinc (v := zI (k + 1)) (lv' := [(3, vI (k + 1)), (0, .ref vA), (1, vI p0), (2, vI p1)]) (pc := 34) hx hb dX5_reachBeside_34 hl (k := 0) rfl (zI_add _ _) (by decide) rfl (fun ls hl => ?_)
          refine lv_goto (pc := 37) (tgt := 2) hx hb dX5_reachBeside_37 (by decide) ?_
          exact ih_2 (k + 1) g (by omega) (by rw [i2]; first | exact rbZ_y i1.1 f1 hc_24f | exact rbZ_n i1.1 (by omega) | exact rbZ_n i1.1 (fun h => hc_24t h.2)) (by omega) _ _ (hP.sub [0, 1, 2] rfl) (hD.sub [0, 1, 2] (by decide) rfl) hS _ (lv_sub hl [0, 1, 2, 3] rfl)
        · have hc_15f := c_2
          have f1 : v_steps_c k = -1 := hc_15f
          refine lv_aload_n (pc := 18) hx hb dX5_reachBeside_18 rfl (lv_at hl 1 rfl) ?_
          refine lv_iload_n (pc := 19) hx hb dX5_reachBeside_19 rfl (lv_at hl 2 rfl) ?_
          refine lv_iload_n (pc := 20) hx hb dX5_reachBeside_20 rfl (lv_at hl 0 rfl) ?_
          have hPc := hP.sub (ws' := [(vA, .inr (3, [.ref v_stations, .ref v_hours, .ref v_values, .ref v_ties, .ref v_tied, .ref v_steps, vI v_readings, vI v_datumStation, vI v_datumValue])), (v_tied, .inl (cZ, 100, .inl (aI v_tied_c)))]) [0, 1] rfl
          have hDc := hD.sub (ws' := [(vA, .inr (3, [.ref v_stations, .ref v_hours, .ref v_values, .ref v_ties, .ref v_tied, .ref v_steps, vI v_readings, vI v_datumStation, vI v_datumValue])), (v_tied, .inl (cZ, 100, .inl (aI v_tied_c)))]) [0, 1] (by decide) rfl
          refine z_callR (pc := 21) (va_runV (As := [vI p0, vI k]) (rest := []) ⟨hx, hb, hml, hown, hts⟩ (m_X5_isTied l D cI cJ cZ cD H.size vA v_stations v_hours v_values v_ties v_tied v_steps v_readings v_datumStation v_datumValue v_tied_c p0 k (by omega) (by omega) ht) (cwV 2 hts gX5_reachBeside_X5_isTied rfl rfl rfl (by decide +kernel) ⟨Nat.le_of_ble_eq_true rfl, Nat.le_of_ble_eq_true rfl⟩) ⟨z_blind, va_recv hK hPc (ci := 3) (q0 := 0) rfl rfl, z_pre hPc hK hDc rfl rfl hN⟩ rfl rfl hl.1 rfl (lv_room (Nat.le_of_ble_eq_true rfl)) dX5_reachBeside_21 ⟨Nat.zero_le _, Nat.zero_le _⟩) ?_
          refine z_ifp_eq (pc := 24) (tgt := 34) hx hb dX5_reachBeside_24 (by decide) (fun c_3 => ?_) (fun c_3 => ?_)
          · have hc_24t := c_3
            refine lv_iinc (v := zI (k + 1)) (lv' := [(3, vI (k + 1)), (0, .ref vA), (1, vI p0), (2, vI p1)]) (pc := 34) hx hb dX5_reachBeside_34 hl (k := 0) rfl (zI_add _ _) (by decide) rfl (fun ls hl => ?_)
            refine lv_goto (pc := 37) (tgt := 2) hx hb dX5_reachBeside_37 (by decide) ?_
            exact ih_2 (k + 1) g (by omega) (by rw [i2]; first | exact rbZ_y i1.1 f1 hc_24f | exact rbZ_n i1.1 (by omega) | exact rbZ_n i1.1 (fun h => hc_24t h.2)) (by omega) _ _ (hP.sub [0, 1, 2] rfl) (hD.sub [0, 1, 2] (by decide) rfl) hS _ (lv_sub hl [0, 1, 2, 3] rfl)
          · have hc_24f := c_3
            refine lv_aload_n (pc := 27) hx hb dX5_reachBeside_27 rfl (lv_at hl 1 rfl) ?_
            refine va_get (pc := 28) (D := D) (ci := 3) (v := .ref v_steps) (C := RX5) (T := TX5) (N := 9) hx hb hts in_X5 hown hK hP 0 rfl rfl 5 (by decide) fl_28 (fun _ h9 => h9) rfl dX5_reachBeside_28 ?_
            refine lv_iload_n (pc := 31) hx hb dX5_reachBeside_31 rfl (lv_at hl 0 rfl) ?_
            refine lv_iload_n (pc := 32) hx hb dX5_reachBeside_32 rfl (lv_at hl 3 rfl) ?_
            refine z_iast (pc := 33) hx hb hK hP hD hS 2 0 (by omega) rfl rfl (by first | decide | omega) dX5_reachBeside_33 (fun H locs hP hD hS => ?_)
            have hP : va_P D vwCl [(vA, .inr (3, [.ref v_stations, .ref v_hours, .ref v_values, .ref v_ties, .ref v_tied, .ref v_steps, vI v_readings, vI v_datumStation, vI v_datumValue])), (v_tied, .inl (cZ, 100, .inl (aI v_tied_c))), (v_steps, .inl (cI, 10, .inl (aI (uZ g k p1))))] H := hP
            have hD : va_D A [(vA, .inr (3, [.ref v_stations, .ref v_hours, .ref v_values, .ref v_ties, .ref v_tied, .ref v_steps, vI v_readings, vI v_datumStation, vI v_datumValue])), (v_tied, .inl (cZ, 100, .inl (aI v_tied_c))), (v_steps, .inl (cI, 10, .inl (aI (uZ g k p1))))] := hD
            refine lv_iinc (v := zI (k + 1)) (lv' := [(3, vI (k + 1)), (0, .ref vA), (1, vI p0), (2, vI p1)]) (pc := 34) hx hb dX5_reachBeside_34 hl (k := 0) rfl (zI_add _ _) (by decide) rfl (fun ls hl => ?_)
            refine lv_goto (pc := 37) (tgt := 2) hx hb dX5_reachBeside_37 (by decide) ?_
            exact ih_2 (k + 1) (uZ g k p1) (by omega) (by rw [i2]; first | exact rbZ_y i1.1 f1 hc_24f | exact rbZ_n i1.1 (by omega) | exact rbZ_n i1.1 (fun h => hc_24t h.2)) (by omega) _ _ (hP.sub [0, 1, 2] rfl) (hD.sub [0, 1, 2] (by decide) rfl) hS _ (lv_sub hl [0, 1, 2, 3] rfl)
  exact LP_2 (Int.toNat ((10 - 0 + 1) + 1)) 0 v_steps_c (by omega) ((rbZ_0 _ _ _ _).symm) (by omega) _ _ (hP.sub [0, 1, 2] rfl) (hD.sub [0, 1, 2] (by decide) rfl) hS _ (lv_sub hl [0, 1, 2, 3] rfl)

set_option maxHeartbeats 4000000 in
set_option maxRecDepth 100000 in
theorem m_X5_isReached (l : Launch) (D : va_G) (cI cJ cZ cD : ClassId) (sz : Nat) (vA : Nat) (v_stations : Nat) (v_hours : Nat) (v_values : Nat) (v_ties : Nat) (v_tied : Nat) (v_steps : Nat) (v_readings : Int) (v_datumStation : Int) (v_datumValue : Int) (v_steps_c : Int → Int) (p0 : Int) (h0 : 0 ≤ p0 ∧ p0 < 10) (hsv : ∀ j : Int, 0 ≤ j → j < 10 → -1 ≤ v_steps_c j ∧ v_steps_c j ≤ 9) : Met l yX5_isReached wsX5_isReached ({ frames := 0, cells := 0, slots := 0, locals := 0 } : Room) (zPc D (TY cI cJ cZ cD) sz [.ref vA, vI p0] [(vA, .inr (3, [.ref v_stations, .ref v_hours, .ref v_values, .ref v_ties, .ref v_tied, .ref v_steps, vI v_readings, vI v_datumStation, vI v_datumValue])), (v_steps, .inl (cI, 10, .inl (aI v_steps_c)))]) (zQr (some (vI (pI (v_steps_c p0 ≠ -1))))) 0 0 (fun _ => False) := by
  refine Met.ofW (cc := cX5_isReached) (maxL := 2) (ret := (some .boolean)) (by decide) rfl ?_
  intro p e s m args below meth c s₁ B hml hv
  obtain ⟨rfl, hsz, hP, hK, hD0, hN⟩ := hv
  have hx := B.exec
  have hb := B.bytes
  have hr := B.returns
  have hts := atoms_spec (ws := wsX5_isReached) B.pre
  have hown : s.vm.findClass RX5 = some m.cls := findClass_of_methodNamed B.named
  have hlocks := B.notSynchronized
  have hD := hD0
  subst hsz
  have hP : va_P D vwCl [(vA, .inr (3, [.ref v_stations, .ref v_hours, .ref v_values, .ref v_ties, .ref v_tied, .ref v_steps, vI v_readings, vI v_datumStation, vI v_datumValue])), (v_steps, .inl (cI, 10, .inl (aI v_steps_c)))] s.heap := hP
  have fl_28 := hts (.fieldLink RX5 28 "PendulumHall$Survey" "steps" "[I") (by decide +kernel)
  have in_X5 : ∀ w ∈ wsX50, w ∈ wsX5_isReached := by decide +kernel
  have hl := lv_entry ([.ref vA, vI p0]) (n := 2) (Nat.le_of_ble_eq_true rfl)
  rw [lg_entry_eq]
  generalize (lg_sl ([.ref vA, vI p0]) ++ List.replicate (2 - (lg_sl ([.ref vA, vI p0])).length) Slot.unset).toArray = ls at hl ⊢
  have hl : lv_has ls 2 [(0, .ref vA), (1, vI p0)] := hl
  refine lv_aload_n (pc := 0) hx hb dX5_isReached_0 rfl (lv_at hl 0 rfl) ?_
  refine va_get (pc := 1) (D := D) (ci := 3) (v := .ref v_steps) (C := RX5) (T := TX5) (N := 9) hx hb hts in_X5 hown hK hP 0 rfl rfl 5 (by decide) fl_28 (fun _ h9 => h9) rfl dX5_isReached_1 ?_
  refine lv_iload_n (pc := 4) hx hb dX5_isReached_4 rfl (lv_at hl 1 rfl) ?_
  refine z_iald (pc := 5) hx hb hK hP 1 0 (by omega) rfl rfl (by first | decide | omega) dX5_isReached_5 ?_
  refine z_iconst (pc := 6) hx hb dX5_isReached_6 ?_
  have f0 := hsv p0 h0.1 h0.2
  refine z_icmp_eq (pc := 7) (tgt := 14) hx hb dX5_isReached_7 (by decide) (by omega) (by decide) (fun c_1 => ?_) (fun c_1 => ?_)
  · have hc_7t := c_1
    refine z_iconst (pc := 14) hx hb dX5_isReached_14 ?_
    have hv : (0) = (pI (v_steps_c p0 ≠ -1)) := by first | rfl | exact (pI_t (by omega)).symm | exact (pI_f (by omega)).symm | omega
    exact W.zret (pc := 15) (v := zI 0) hx hb hr (z_narB (by first | exact z_pI01 _ | omega | decide)) (fun t ht hW => ⟨congrArg (fun z => Outcome.returned (some (vI z))) hv, ht⟩) (fun q h => absurd h List.not_mem_nil) dX5_isReached_15
  · have hc_7f := c_1
    refine z_iconst (pc := 10) hx hb dX5_isReached_10 ?_
    refine lv_goto (pc := 11) (tgt := 15) hx hb dX5_isReached_11 (by decide) ?_
    have hv : (1) = (pI (v_steps_c p0 ≠ -1)) := by first | rfl | exact (pI_t (by omega)).symm | exact (pI_f (by omega)).symm | omega
    exact W.zret (pc := 15) (v := zI 1) hx hb hr (z_narB (by first | exact z_pI01 _ | omega | decide)) (fun t ht hW => ⟨congrArg (fun z => Outcome.returned (some (vI z))) hv, ht⟩) (fun q h => absurd h List.not_mem_nil) dX5_isReached_15

set_option maxHeartbeats 4000000 in
set_option maxRecDepth 100000 in
theorem m_X5_countReached (l : Launch) (D : va_G) (cI cJ cZ cD : ClassId) (sz : Nat) (vA : Nat) (v_stations : Nat) (v_hours : Nat) (v_values : Nat) (v_ties : Nat) (v_tied : Nat) (v_steps : Nat) (v_readings : Int) (v_datumStation : Int) (v_datumValue : Int) (v_steps_c : Int → Int) (hsv : ∀ j : Int, 0 ≤ j → j < 10 → -1 ≤ v_steps_c j ∧ v_steps_c j ≤ 9) : Met l yX5_countReached wsX5_countReached ({ frames := 1, cells := 0, slots := 0, locals := 21 } : Room) (zPc D (TY cI cJ cZ cD) sz [.ref vA] [(vA, .inr (3, [.ref v_stations, .ref v_hours, .ref v_values, .ref v_ties, .ref v_tied, .ref v_steps, vI v_readings, vI v_datumStation, vI v_datumValue])), (v_steps, .inl (cI, 10, .inl (aI v_steps_c)))]) (zQr (some (vI (smZ (fun k => pI (v_steps_c k ≠ -1)) 10)))) 0 0 (fun _ => False) := by
  refine Met.ofW (cc := cX5_countReached) (maxL := 3) (ret := (some .int)) (by decide) rfl ?_
  intro p e s m args below meth c s₁ B hml hv
  obtain ⟨rfl, hsz, hP, hK, hD0, hN⟩ := hv
  have hx := B.exec
  have hb := B.bytes
  have hr := B.returns
  have hts := atoms_spec (ws := wsX5_countReached) B.pre
  have hown : s.vm.findClass RX5 = some m.cls := findClass_of_methodNamed B.named
  have hlocks := B.notSynchronized
  have hD := hD0
  subst hsz
  have hP : va_P D vwCl [(vA, .inr (3, [.ref v_stations, .ref v_hours, .ref v_values, .ref v_ties, .ref v_tied, .ref v_steps, vI v_readings, vI v_datumStation, vI v_datumValue])), (v_steps, .inl (cI, 10, .inl (aI v_steps_c)))] s.heap := hP
  have hl := lv_entry ([.ref vA]) (n := 3) (Nat.le_of_ble_eq_true rfl)
  rw [lg_entry_eq]
  generalize (lg_sl ([.ref vA]) ++ List.replicate (3 - (lg_sl ([.ref vA])).length) Slot.unset).toArray = ls at hl ⊢
  have hl : lv_has ls 3 [(0, .ref vA)] := hl
  refine z_iconst (pc := 0) hx hb dX5_countReached_0 ?_
  refine lv_istore_n (lv' := [(1, vI 0), (0, .ref vA)]) (pc := 1) hx hb dX5_countReached_1 rfl hl (by decide) rfl (fun ls hl => ?_)
  refine z_iconst (pc := 2) hx hb dX5_countReached_2 ?_
  refine lv_istore_n (lv' := [(2, vI 0), (1, vI 0), (0, .ref vA)]) (pc := 3) hx hb dX5_countReached_3 rfl hl (by decide) rfl (fun ls hl => ?_)
  have LP_4 : ∀ (nfu : Nat) (k : Int) (cn : Int) (i1 : 0 ≤ k ∧ k ≤ 10) (i2 : cn = smZ (fun k => pI (v_steps_c k ≠ -1)) (Int.toNat k)) (hme : 10 - k + 1 < (nfu : Int)) (ls : Array Slot) (hl : lv_has ls 3 [(2, vI k), (1, vI cn), (0, .ref vA)]), W p l e (headSpec wsX5_countReached ({ frames := 1, cells := 0, slots := 0, locals := 21 } : Room)).room s m ([.ref vA] : List Value).toArray below meth c s.heap [] 0 0 (MQ below (zQr (some (vI (smZ (fun k => pI (v_steps_c k ≠ -1)) 10)))) ([.ref vA] : List Value).toArray s 0 0 (fun _ => False)) (F0 m 4 ls []) := by
    intro nfu
    induction nfu with
    | zero =>
      intro k cn i1 i2 hme ls hl
      exact absurd hme (by omega)
    | succ nfu ih_4 =>
      intro k cn i1 i2 hme ls hl
      refine lv_iload_n (pc := 4) hx hb dX5_countReached_4 rfl (lv_at hl 0 rfl) ?_
      refine z_bipush (pc := 5) hx hb dX5_countReached_5 (by decide) ?_
      refine z_icmp_ge (pc := 7) (tgt := 27) hx hb dX5_countReached_7 (by decide) (by omega) (by decide) (fun c_1 => ?_) (fun c_1 => ?_)
      · have hc_7t := c_1
        refine lv_iload_n (pc := 27) hx hb dX5_countReached_27 rfl (lv_at hl 1 rfl) ?_
        have hv : (cn) = (smZ (fun k => pI (v_steps_c k ≠ -1)) 10) := by rw [i2, show k = 10 by omega]; rfl
        exact W.iret (pc := 28) (v := zI cn) hx hb hr (fun t ht hW => ⟨congrArg (fun z => Outcome.returned (some (vI z))) hv, ht⟩) (fun q h => absurd h List.not_mem_nil) dX5_countReached_28
      · have hc_7f := c_1
        refine lv_aload_n (pc := 10) hx hb dX5_countReached_10 rfl (lv_at hl 2 rfl) ?_
        refine lv_iload_n (pc := 11) hx hb dX5_countReached_11 rfl (lv_at hl 0 rfl) ?_
        have hPc := hP.sub (ws' := [(vA, .inr (3, [.ref v_stations, .ref v_hours, .ref v_values, .ref v_ties, .ref v_tied, .ref v_steps, vI v_readings, vI v_datumStation, vI v_datumValue])), (v_steps, .inl (cI, 10, .inl (aI v_steps_c)))]) [0, 1] rfl
        have hDc := hD.sub (ws' := [(vA, .inr (3, [.ref v_stations, .ref v_hours, .ref v_values, .ref v_ties, .ref v_tied, .ref v_steps, vI v_readings, vI v_datumStation, vI v_datumValue])), (v_steps, .inl (cI, 10, .inl (aI v_steps_c)))]) [0, 1] (by decide) rfl
        refine z_callR (pc := 12) (va_runV (As := [vI k]) (rest := []) ⟨hx, hb, hml, hown, hts⟩ (m_X5_isReached l D cI cJ cZ cD s.heap.size vA v_stations v_hours v_values v_ties v_tied v_steps v_readings v_datumStation v_datumValue v_steps_c k (by omega) hsv) (cwV 1 hts gX5_countReached_X5_isReached rfl rfl rfl (by decide +kernel) ⟨Nat.le_of_ble_eq_true rfl, Nat.le_of_ble_eq_true rfl⟩) ⟨z_blind, va_recv hK hPc (ci := 3) (q0 := 0) rfl rfl, z_pre hPc hK hDc rfl rfl hN⟩ rfl rfl hl.1 rfl (lv_room (Nat.le_of_ble_eq_true rfl)) dX5_countReached_12 ⟨Nat.zero_le _, Nat.zero_le _⟩) ?_
        refine z_ifp_eq (pc := 15) (tgt := 21) hx hb dX5_countReached_15 (by decide) (fun c_2 => ?_) (fun c_2 => ?_)
        · have hc_15t := c_2
          refine lv_iinc (v := zI (k + 1)) (lv' := [(2, vI (k + 1)), (1, vI cn), (0, .ref vA)]) (pc := 21) hx hb dX5_countReached_21 hl (k := 0) rfl (zI_add _ _) (by decide) rfl (fun ls hl => ?_)
          refine lv_goto (pc := 24) (tgt := 4) hx hb dX5_countReached_24 (by decide) ?_
          exact ih_4 (k + 1) cn (by omega) (by first | (rw [smZ_toNat _ i1.1, ← i2, pI_t hc_15f]) | (rw [smZ_toNat _ i1.1, ← i2, pI_f hc_15t]; omega)) (by omega) _ (lv_sub hl [0, 1, 2] rfl)
        · have hc_15f := c_2
          refine lv_iinc (v := zI (cn + 1)) (lv' := [(1, vI (cn + 1)), (2, vI k), (0, .ref vA)]) (pc := 18) hx hb dX5_countReached_18 hl (k := 1) rfl (zI_add _ _) (by decide) rfl (fun ls hl => ?_)
          refine lv_iinc (v := zI (k + 1)) (lv' := [(2, vI (k + 1)), (1, vI (cn + 1)), (0, .ref vA)]) (pc := 21) hx hb dX5_countReached_21 hl (k := 1) rfl (zI_add _ _) (by decide) rfl (fun ls hl => ?_)
          refine lv_goto (pc := 24) (tgt := 4) hx hb dX5_countReached_24 (by decide) ?_
          exact ih_4 (k + 1) (cn + 1) (by omega) (by first | (rw [smZ_toNat _ i1.1, ← i2, pI_t hc_15f]) | (rw [smZ_toNat _ i1.1, ← i2, pI_f hc_15t]; omega)) (by omega) _ (lv_sub hl [0, 1, 2] rfl)
  exact LP_4 (Int.toNat ((10 - 0 + 1) + 1)) 0 0 (by omega) (by rfl) (by omega) _ (lv_sub hl [0, 1, 2] rfl)

set_option maxHeartbeats 4000000 in
set_option maxRecDepth 100000 in
theorem m_X5_lowestBeside (l : Launch) (D : va_G) (cI cJ cZ cD : ClassId) (sz : Nat) (vA : Nat) (v_stations : Nat) (v_hours : Nat) (v_values : Nat) (v_ties : Nat) (v_tied : Nat) (v_steps : Nat) (v_readings : Int) (v_datumStation : Int) (v_datumValue : Int) (v_tied_c : Int → Int) (v_steps_c : Int → Int) (p0 : Int) (p1 : Int) (h0 : 0 ≤ p0 ∧ p0 < 10) (h1 : 0 ≤ p1 ∧ p1 ≤ 9) (ht : ∀ j : Int, 0 ≤ j → j < 100 → v_tied_c j = 0 ∨ v_tied_c j = 1) (hsv : ∀ j : Int, 0 ≤ j → j < 10 → -1 ≤ v_steps_c j ∧ v_steps_c j ≤ 9) : Met l yX5_lowestBeside wsX5_lowestBeside ({ frames := 2, cells := 0, slots := 0, locals := 43 } : Room) (zPc D (TY cI cJ cZ cD) sz [.ref vA, vI p0, vI p1] [(vA, .inr (3, [.ref v_stations, .ref v_hours, .ref v_values, .ref v_ties, .ref v_tied, .ref v_steps, vI v_readings, vI v_datumStation, vI v_datumValue])), (v_tied, .inl (cZ, 100, .inl (aI v_tied_c))), (v_steps, .inl (cI, 10, .inl (aI v_steps_c)))]) (zQr (some (vI (lwZ v_tied_c v_steps_c p0 p1 10 0)))) 0 0 (fun _ => False) := by
  refine Met.ofW (cc := cX5_lowestBeside) (maxL := 4) (ret := (some .int)) (by decide) rfl ?_
  intro p e s m args below meth c s₁ B hml hv
  obtain ⟨rfl, hsz, hP, hK, hD0, hN⟩ := hv
  have hx := B.exec
  have hb := B.bytes
  have hr := B.returns
  have hts := atoms_spec (ws := wsX5_lowestBeside) B.pre
  have hown : s.vm.findClass RX5 = some m.cls := findClass_of_methodNamed B.named
  have hlocks := B.notSynchronized
  have hD := hD0
  subst hsz
  have hP : va_P D vwCl [(vA, .inr (3, [.ref v_stations, .ref v_hours, .ref v_values, .ref v_ties, .ref v_tied, .ref v_steps, vI v_readings, vI v_datumStation, vI v_datumValue])), (v_tied, .inl (cZ, 100, .inl (aI v_tied_c))), (v_steps, .inl (cI, 10, .inl (aI v_steps_c)))] s.heap := hP
  have fl_28 := hts (.fieldLink RX5 28 "PendulumHall$Survey" "steps" "[I") (by decide +kernel)
  have in_X5 : ∀ w ∈ wsX50, w ∈ wsX5_lowestBeside := by decide +kernel
  have hl := lv_entry ([.ref vA, vI p0, vI p1]) (n := 4) (Nat.le_of_ble_eq_true rfl)
  rw [lg_entry_eq]
  generalize (lg_sl ([.ref vA, vI p0, vI p1]) ++ List.replicate (4 - (lg_sl ([.ref vA, vI p0, vI p1])).length) Slot.unset).toArray = ls at hl ⊢
  have hl : lv_has ls 4 [(0, .ref vA), (1, vI p0), (2, vI p1)] := hl
  refine z_iconst (pc := 0) hx hb dX5_lowestBeside_0 ?_
  refine lv_istore_n (lv' := [(3, vI 0), (0, .ref vA), (1, vI p0), (2, vI p1)]) (pc := 1) hx hb dX5_lowestBeside_1 rfl hl (by decide) rfl (fun ls hl => ?_)
  have LP_2 : ∀ (nfu : Nat) (b : Int) (i1 : 0 ≤ b ∧ b ≤ 10) (i2 : lwZ v_tied_c v_steps_c p0 p1 10 0 = lwZ v_tied_c v_steps_c p0 p1 (Int.toNat (10 - b)) b) (hme : 10 - b + 1 < (nfu : Int)) (ls : Array Slot) (hl : lv_has ls 4 [(3, vI b), (0, .ref vA), (1, vI p0), (2, vI p1)]), W p l e (headSpec wsX5_lowestBeside ({ frames := 2, cells := 0, slots := 0, locals := 43 } : Room)).room s m ([.ref vA, vI p0, vI p1] : List Value).toArray below meth c s.heap [] 0 0 (MQ below (zQr (some (vI (lwZ v_tied_c v_steps_c p0 p1 10 0)))) ([.ref vA, vI p0, vI p1] : List Value).toArray s 0 0 (fun _ => False)) (F0 m 2 ls []) := by
    intro nfu
    induction nfu with
    | zero =>
      intro b i1 i2 hme ls hl
      exact absurd hme (by omega)
    | succ nfu ih_2 =>
      intro b i1 i2 hme ls hl
      refine lv_iload_n (pc := 2) hx hb dX5_lowestBeside_2 rfl (lv_at hl 0 rfl) ?_
      refine z_bipush (pc := 3) hx hb dX5_lowestBeside_3 (by decide) ?_
      refine z_icmp_ge (pc := 5) (tgt := 35) hx hb dX5_lowestBeside_5 (by decide) (by omega) (by decide) (fun c_1 => ?_) (fun c_1 => ?_)
      · have hc_5t := c_1
        refine lv_iload_n (pc := 35) hx hb dX5_lowestBeside_35 rfl (lv_at hl 2 rfl) ?_
        have hv : (p0) = (lwZ v_tied_c v_steps_c p0 p1 10 0) := by rw [i2, show b = 10 by omega]; rfl
        exact W.iret (pc := 36) (v := zI p0) hx hb hr (fun t ht hW => ⟨congrArg (fun z => Outcome.returned (some (vI z))) hv, ht⟩) (fun q h => absurd h List.not_mem_nil) dX5_lowestBeside_36
      · have hc_5f := c_1
        refine lv_aload_n (pc := 8) hx hb dX5_lowestBeside_8 rfl (lv_at hl 1 rfl) ?_
        refine va_get (pc := 9) (D := D) (ci := 3) (v := .ref v_steps) (C := RX5) (T := TX5) (N := 9) hx hb hts in_X5 hown hK hP 0 rfl rfl 5 (by decide) fl_28 (fun _ h9 => h9) rfl dX5_lowestBeside_9 ?_
        refine lv_iload_n (pc := 12) hx hb dX5_lowestBeside_12 rfl (lv_at hl 0 rfl) ?_
        refine z_iald (pc := 13) hx hb hK hP 2 0 (by omega) rfl rfl (by first | decide | omega) dX5_lowestBeside_13 ?_
        refine lv_iload_n (pc := 14) hx hb dX5_lowestBeside_14 rfl (lv_at hl 3 rfl) ?_
        have f0 := hsv b (by omega) (by omega)
        refine z_icmp_ne (pc := 15) (tgt := 29) hx hb dX5_lowestBeside_15 (by decide) (by omega) (by omega) (fun c_2 => ?_) (fun c_2 => ?_)
        · have hc_15t := c_2
          refine lv_iinc (v := zI (b + 1)) (lv' := [(3, vI (b + 1)), (0, .ref vA), (1, vI p0), (2, vI p1)]) (pc := 29) hx hb dX5_lowestBeside_29 hl (k := 0) rfl (zI_add _ _) (by decide) rfl (fun ls hl => ?_)
          refine lv_goto (pc := 32) (tgt := 2) hx hb dX5_lowestBeside_32 (by decide) ?_
          exact ih_2 (b + 1) (by omega) (by rw [i2]; first | exact lwZ_n (by omega) (by omega) | exact lwZ_n (by omega) (fun h => hc_24t h.2)) (by omega) _ (lv_sub hl [0, 1, 2, 3] rfl)
        · have hc_15f := c_2
          refine lv_aload_n (pc := 18) hx hb dX5_lowestBeside_18 rfl (lv_at hl 1 rfl) ?_
          refine lv_iload_n (pc := 19) hx hb dX5_lowestBeside_19 rfl (lv_at hl 0 rfl) ?_
          refine lv_iload_n (pc := 20) hx hb dX5_lowestBeside_20 rfl (lv_at hl 2 rfl) ?_
          have hPc := hP.sub (ws' := [(vA, .inr (3, [.ref v_stations, .ref v_hours, .ref v_values, .ref v_ties, .ref v_tied, .ref v_steps, vI v_readings, vI v_datumStation, vI v_datumValue])), (v_tied, .inl (cZ, 100, .inl (aI v_tied_c)))]) [0, 1] rfl
          have hDc := hD.sub (ws' := [(vA, .inr (3, [.ref v_stations, .ref v_hours, .ref v_values, .ref v_ties, .ref v_tied, .ref v_steps, vI v_readings, vI v_datumStation, vI v_datumValue])), (v_tied, .inl (cZ, 100, .inl (aI v_tied_c)))]) [0, 1] (by decide) rfl
          refine z_callR (pc := 21) (va_runV (As := [vI b, vI p0]) (rest := []) ⟨hx, hb, hml, hown, hts⟩ (m_X5_isTied l D cI cJ cZ cD s.heap.size vA v_stations v_hours v_values v_ties v_tied v_steps v_readings v_datumStation v_datumValue v_tied_c b p0 (by omega) (by omega) ht) (cwV 2 hts gX5_lowestBeside_X5_isTied rfl rfl rfl (by decide +kernel) ⟨Nat.le_of_ble_eq_true rfl, Nat.le_of_ble_eq_true rfl⟩) ⟨z_blind, va_recv hK hPc (ci := 3) (q0 := 0) rfl rfl, z_pre hPc hK hDc rfl rfl hN⟩ rfl rfl hl.1 rfl (lv_room (Nat.le_of_ble_eq_true rfl)) dX5_lowestBeside_21 ⟨Nat.zero_le _, Nat.zero_le _⟩) ?_
          refine z_ifp_eq (pc := 24) (tgt := 29) hx hb dX5_lowestBeside_24 (by decide) (fun c_3 => ?_) (fun c_3 => ?_)
          · have hc_24t := c_3
            refine lv_iinc (v := zI (b + 1)) (lv' := [(3, vI (b + 1)), (0, .ref vA), (1, vI p0), (2, vI p1)]) (pc := 29) hx hb dX5_lowestBeside_29 hl (k := 0) rfl (zI_add _ _) (by decide) rfl (fun ls hl => ?_)
            refine lv_goto (pc := 32) (tgt := 2) hx hb dX5_lowestBeside_32 (by decide) ?_
            exact ih_2 (b + 1) (by omega) (by rw [i2]; first | exact lwZ_n (by omega) (by omega) | exact lwZ_n (by omega) (fun h => hc_24t h.2)) (by omega) _ (lv_sub hl [0, 1, 2, 3] rfl)
          · have hc_24f := c_3
            refine lv_iload_n (pc := 27) hx hb dX5_lowestBeside_27 rfl (lv_at hl 0 rfl) ?_
            have hv : (b) = (lwZ v_tied_c v_steps_c p0 p1 10 0) := by rw [i2]; exact (lwZ_y (by omega) ⟨hc_15f, hc_24f⟩).symm
            exact W.iret (pc := 28) (v := zI b) hx hb hr (fun t ht hW => ⟨congrArg (fun z => Outcome.returned (some (vI z))) hv, ht⟩) (fun q h => absurd h List.not_mem_nil) dX5_lowestBeside_28
  exact LP_2 (Int.toNat ((10 - 0 + 1) + 1)) 0 (by omega) (by rfl) (by omega) _ (lv_sub hl [0, 1, 2, 3] rfl)

set_option maxHeartbeats 4000000 in
set_option maxRecDepth 100000 in
theorem m_X5_carry (l : Launch) (D : va_G) (cI cJ cZ cD : ClassId) (sz : Nat) (vA : Nat) (v_stations : Nat) (v_hours : Nat) (v_values : Nat) (v_ties : Nat) (v_tied : Nat) (v_steps : Nat) (v_readings : Int) (v_datumStation : Int) (v_datumValue : Int) (v_ties_c : Int → Int) (v_tied_c : Int → Int) (v_steps_c : Int → Int) (p0 : Int) (h0 : 0 ≤ p0 ∧ p0 < 10) (hty : tyOK v_tied_c v_ties_c) (hsv : ∀ j : Int, 0 ≤ j → j < 10 → -1 ≤ v_steps_c j ∧ v_steps_c j ≤ 9) (hdv : -1000000 ≤ v_datumValue ∧ v_datumValue ≤ 1000000) (hs0 : 0 ≤ v_steps_c p0) : Met l yX5_carry wsX5_carry ({ frames := 3, cells := 0, slots := 0, locals := 66 } : Room) (zPc D (TY cI cJ cZ cD) sz [.ref vA, vI p0] [(vA, .inr (3, [.ref v_stations, .ref v_hours, .ref v_values, .ref v_ties, .ref v_tied, .ref v_steps, vI v_readings, vI v_datumStation, vI v_datumValue])), (v_ties, .inl (cI, 100, .inl (aI v_ties_c))), (v_tied, .inl (cZ, 100, .inl (aI v_tied_c))), (v_steps, .inl (cI, 10, .inl (aI v_steps_c)))]) (zQr (some (vL (crZ v_tied_c v_ties_c v_steps_c (Int.toNat (v_steps_c p0)) p0 v_datumValue)))) 0 0 (fun _ => False) := by
  refine Met.ofW (cc := cX5_carry) (maxL := 7) (ret := (some .long)) (by decide) rfl ?_
  intro p e s m args below meth c s₁ B hml hv
  obtain ⟨rfl, hsz, hP, hK, hD0, hN⟩ := hv
  have hx := B.exec
  have hb := B.bytes
  have hr := B.returns
  have hts := atoms_spec (ws := wsX5_carry) B.pre
  have hown : s.vm.findClass RX5 = some m.cls := findClass_of_methodNamed B.named
  have hlocks := B.notSynchronized
  have hD := hD0
  subst hsz
  have hP : va_P D vwCl [(vA, .inr (3, [.ref v_stations, .ref v_hours, .ref v_values, .ref v_ties, .ref v_tied, .ref v_steps, vI v_readings, vI v_datumStation, vI v_datumValue])), (v_ties, .inl (cI, 100, .inl (aI v_ties_c))), (v_tied, .inl (cZ, 100, .inl (aI v_tied_c))), (v_steps, .inl (cI, 10, .inl (aI v_steps_c)))] s.heap := hP
  have fl_28 := hts (.fieldLink RX5 28 "PendulumHall$Survey" "steps" "[I") (by decide +kernel)
  have fl_35 := hts (.fieldLink RX5 35 "PendulumHall$Survey" "datumValue" "I") (by decide +kernel)
  have in_X5 : ∀ w ∈ wsX50, w ∈ wsX5_carry := by decide +kernel
  have hl := lv_entry ([.ref vA, vI p0]) (n := 7) (Nat.le_of_ble_eq_true rfl)
  rw [lg_entry_eq]
  generalize (lg_sl ([.ref vA, vI p0]) ++ List.replicate (7 - (lg_sl ([.ref vA, vI p0])).length) Slot.unset).toArray = ls at hl ⊢
  have hl : lv_has ls 7 [(0, .ref vA), (1, vI p0)] := hl
  have ht : ∀ j : Int, 0 ≤ j → j < 100 → v_tied_c j = 0 ∨ v_tied_c j = 1 := fun j a b => (hty j a b).1
  refine lv_aload_n (pc := 0) hx hb dX5_carry_0 rfl (lv_at hl 0 rfl) ?_
  refine va_get (pc := 1) (D := D) (ci := 3) (v := vI v_datumValue) (C := RX5) (T := TX5) (N := 9) hx hb hts in_X5 hown hK hP 0 rfl rfl 8 (by decide) fl_35 (fun _ h9 => h9) rfl dX5_carry_1 ?_
  refine z_i2l (pc := 4) hx hb dX5_carry_4 (by omega) ?_
  refine lv_lstore_n (lv' := [(2, vL v_datumValue), (0, .ref vA), (1, vI p0)]) (pc := 5) hx hb dX5_carry_5 rfl hl (by decide) rfl (fun ls hl => ?_)
  refine lv_iload_n (pc := 6) hx hb dX5_carry_6 rfl (lv_at hl 2 rfl) ?_
  refine lv_istore (lv' := [(4, vI p0), (2, vL v_datumValue), (0, .ref vA), (1, vI p0)]) (pc := 7) hx hb dX5_carry_7 hl (by decide) rfl (fun ls hl => ?_)
  refine lv_aload_n (pc := 9) hx hb dX5_carry_9 rfl (lv_at hl 2 rfl) ?_
  refine va_get (pc := 10) (D := D) (ci := 3) (v := .ref v_steps) (C := RX5) (T := TX5) (N := 9) hx hb hts in_X5 hown hK hP 0 rfl rfl 5 (by decide) fl_28 (fun _ h9 => h9) rfl dX5_carry_10 ?_
  refine lv_iload_n (pc := 13) hx hb dX5_carry_13 rfl (lv_at hl 3 rfl) ?_
  refine z_iald (pc := 14) hx hb hK hP 3 0 (by omega) rfl rfl (by first | decide | omega) dX5_carry_14 ?_
  refine lv_istore (lv' := [(5, vI (v_steps_c p0)), (4, vI p0), (2, vL v_datumValue), (0, .ref vA), (1, vI p0)]) (pc := 15) hx hb dX5_carry_15 hl (by decide) rfl (fun ls hl => ?_)
  have LP_17 : ∀ (nfu : Nat) (sm : Int) (at_ : Int) (fa : Int) (i1 : 0 ≤ fa ∧ fa ≤ 9) (i2 : 0 ≤ at_ ∧ at_ < 10) (i3 : crZ v_tied_c v_ties_c v_steps_c (Int.toNat (v_steps_c p0)) p0 v_datumValue = crZ v_tied_c v_ties_c v_steps_c (Int.toNat fa) at_ sm) (hme : fa + 1 < (nfu : Int)) (ls : Array Slot) (hl : lv_has ls 7 [(5, vI fa), (4, vI at_), (2, vL sm), (0, .ref vA), (1, vI p0)]), W p l e (headSpec wsX5_carry ({ frames := 3, cells := 0, slots := 0, locals := 66 } : Room)).room s m ([.ref vA, vI p0] : List Value).toArray below meth c s.heap [] 0 0 (MQ below (zQr (some (vL (crZ v_tied_c v_ties_c v_steps_c (Int.toNat (v_steps_c p0)) p0 v_datumValue)))) ([.ref vA, vI p0] : List Value).toArray s 0 0 (fun _ => False)) (F0 m 17 ls []) := by
    intro nfu
    induction nfu with
    | zero =>
      intro sm at_ fa i1 i2 i3 hme ls hl
      exact absurd hme (by omega)
    | succ nfu ih_17 =>
      intro sm at_ fa i1 i2 i3 hme ls hl
      refine lv_iload (pc := 17) hx hb dX5_carry_17 (lv_at hl 0 rfl) ?_
      have q9 : -1 ≤ fa ∧ fa ≤ 9 := by omega
      refine z_if_le (pc := 19) (tgt := 56) hx hb dX5_carry_19 (by decide) (by omega) (fun c_1 => ?_) (fun c_1 => ?_)
      · have hc_19t := c_1
        refine lv_lload_n (pc := 56) hx hb dX5_carry_56 rfl (lv_at hl 2 rfl) ?_
        have hv : (sm) = (crZ v_tied_c v_ties_c v_steps_c (Int.toNat (v_steps_c p0)) p0 v_datumValue) := by rw [i3, show fa = 0 by omega]; rfl
        exact W.lret (pc := 57) (v := zL sm) hx hb hr (fun t ht hW => ⟨congrArg (fun z => Outcome.returned (some (vL z))) hv, ht⟩) (fun q h => absurd h List.not_mem_nil) dX5_carry_57
      · have hc_19f := c_1
        refine lv_aload_n (pc := 22) hx hb dX5_carry_22 rfl (lv_at hl 3 rfl) ?_
        refine lv_iload (pc := 23) hx hb dX5_carry_23 (lv_at hl 1 rfl) ?_
        refine lv_iload (pc := 25) hx hb dX5_carry_25 (lv_at hl 0 rfl) ?_
        refine z_iconst (pc := 27) hx hb dX5_carry_27 ?_
        refine z_isub (pc := 28) hx hb dX5_carry_28 ?_
        have hPc := hP.sub (ws' := [(vA, .inr (3, [.ref v_stations, .ref v_hours, .ref v_values, .ref v_ties, .ref v_tied, .ref v_steps, vI v_readings, vI v_datumStation, vI v_datumValue])), (v_tied, .inl (cZ, 100, .inl (aI v_tied_c))), (v_steps, .inl (cI, 10, .inl (aI v_steps_c)))]) [0, 2, 3] rfl
        have hDc := hD.sub (ws' := [(vA, .inr (3, [.ref v_stations, .ref v_hours, .ref v_values, .ref v_ties, .ref v_tied, .ref v_steps, vI v_readings, vI v_datumStation, vI v_datumValue])), (v_tied, .inl (cZ, 100, .inl (aI v_tied_c))), (v_steps, .inl (cI, 10, .inl (aI v_steps_c)))]) [0, 2, 3] (by decide) rfl
        refine z_callR (pc := 29) (va_runV (As := [vI at_, vI (fa - 1)]) (rest := []) ⟨hx, hb, hml, hown, hts⟩ (m_X5_lowestBeside l D cI cJ cZ cD s.heap.size vA v_stations v_hours v_values v_ties v_tied v_steps v_readings v_datumStation v_datumValue v_tied_c v_steps_c at_ (fa - 1) (by omega) (by omega) ht hsv) (cwV 2 hts gX5_carry_X5_lowestBeside rfl rfl rfl (by decide +kernel) ⟨Nat.le_of_ble_eq_true rfl, Nat.le_of_ble_eq_true rfl⟩) ⟨z_blind, va_recv hK hPc (ci := 3) (q0 := 0) rfl rfl, z_pre hPc hK hDc rfl rfl hN⟩ rfl rfl hl.1 rfl (lv_room (Nat.le_of_ble_eq_true rfl)) dX5_carry_29 ⟨Nat.zero_le _, Nat.zero_le _⟩) ?_
        have f0 := lwZ_rng (B := v_tied_c) (st := v_steps_c) (k := at_) (far := fa - 1) i2 10 0 (by omega) (by omega)
        refine lv_istore (lv' := [(6, vI (lwZ v_tied_c v_steps_c at_ (fa - 1) 10 0)), (5, vI fa), (4, vI at_), (2, vL sm), (0, .ref vA), (1, vI p0)]) (pc := 32) hx hb dX5_carry_32 hl (by decide) rfl (fun ls hl => ?_)
        refine lv_lload_n (pc := 34) hx hb dX5_carry_34 rfl (lv_at hl 3 rfl) ?_
        refine lv_aload_n (pc := 35) hx hb dX5_carry_35 rfl (lv_at hl 4 rfl) ?_
        refine lv_iload (pc := 36) hx hb dX5_carry_36 (lv_at hl 0 rfl) ?_
        refine lv_iload (pc := 38) hx hb dX5_carry_38 (lv_at hl 2 rfl) ?_
        have hPc := hP.sub (ws' := [(vA, .inr (3, [.ref v_stations, .ref v_hours, .ref v_values, .ref v_ties, .ref v_tied, .ref v_steps, vI v_readings, vI v_datumStation, vI v_datumValue])), (v_ties, .inl (cI, 100, .inl (aI v_ties_c)))]) [0, 1] rfl
        have hDc := hD.sub (ws' := [(vA, .inr (3, [.ref v_stations, .ref v_hours, .ref v_values, .ref v_ties, .ref v_tied, .ref v_steps, vI v_readings, vI v_datumStation, vI v_datumValue])), (v_ties, .inl (cI, 100, .inl (aI v_ties_c)))]) [0, 1] (by decide) rfl
        refine z_callR (pc := 40) (va_runV (As := [vI (lwZ v_tied_c v_steps_c at_ (fa - 1) 10 0), vI at_]) (rest := [vL sm]) ⟨hx, hb, hml, hown, hts⟩ (m_X5_difference l D cI cJ cZ cD s.heap.size vA v_stations v_hours v_values v_ties v_tied v_steps v_readings v_datumStation v_datumValue v_ties_c (lwZ v_tied_c v_steps_c at_ (fa - 1) 10 0) at_ (by omega) (by omega)) (cwV 2 hts gX5_carry_X5_difference rfl rfl rfl (by decide +kernel) ⟨Nat.le_of_ble_eq_true rfl, Nat.le_of_ble_eq_true rfl⟩) ⟨z_blind, va_recv hK hPc (ci := 3) (q0 := 0) rfl rfl, z_pre hPc hK hDc rfl rfl hN⟩ rfl rfl hl.1 rfl (lv_room (Nat.le_of_ble_eq_true rfl)) dX5_carry_40 ⟨Nat.zero_le _, Nat.zero_le _⟩) ?_
        have f1 := (hty (lwZ v_tied_c v_steps_c at_ (fa - 1) 10 0 * 10 + at_) (by omega) (by omega)).2
        refine z_i2l (pc := 43) hx hb dX5_carry_43 (by omega) ?_
        refine z_ladd (pc := 44) hx hb dX5_carry_44 ?_
        refine lv_lstore_n (lv' := [(2, vL (sm + (v_ties_c ((lwZ v_tied_c v_steps_c at_ (fa - 1) 10 0) * 10 + at_)))), (6, vI (lwZ v_tied_c v_steps_c at_ (fa - 1) 10 0)), (5, vI fa), (4, vI at_), (0, .ref vA), (1, vI p0)]) (pc := 45) hx hb dX5_carry_45 rfl hl (by decide) rfl (fun ls hl => ?_)
        refine lv_iload (pc := 46) hx hb dX5_carry_46 (lv_at hl 1 rfl) ?_
        refine lv_istore (lv' := [(4, vI (lwZ v_tied_c v_steps_c at_ (fa - 1) 10 0)), (2, vL (sm + (v_ties_c ((lwZ v_tied_c v_steps_c at_ (fa - 1) 10 0) * 10 + at_)))), (6, vI (lwZ v_tied_c v_steps_c at_ (fa - 1) 10 0)), (5, vI fa), (0, .ref vA), (1, vI p0)]) (pc := 48) hx hb dX5_carry_48 hl (by decide) rfl (fun ls hl => ?_)
        refine lv_iinc (v := zI (fa + (-1))) (lv' := [(5, vI (fa + (-1))), (4, vI (lwZ v_tied_c v_steps_c at_ (fa - 1) 10 0)), (2, vL (sm + (v_ties_c ((lwZ v_tied_c v_steps_c at_ (fa - 1) 10 0) * 10 + at_)))), (6, vI (lwZ v_tied_c v_steps_c at_ (fa - 1) 10 0)), (0, .ref vA), (1, vI p0)]) (pc := 50) hx hb dX5_carry_50 hl (k := 3) rfl (zI_add _ _) (by decide) rfl (fun ls hl => ?_)
        refine lv_goto (pc := 53) (tgt := 17) hx hb dX5_carry_53 (by decide) ?_
        exact ih_17 (sm + (v_ties_c ((lwZ v_tied_c v_steps_c at_ (fa - 1) 10 0) * 10 + at_))) (lwZ v_tied_c v_steps_c at_ (fa - 1) 10 0) (fa + (-1)) (by omega) (f0) (by rw [i3]; exact crZ_s hc_19f) (by omega) _ (lv_sub hl [0, 1, 2, 4, 5] rfl)
  exact LP_17 (Int.toNat (((v_steps_c p0) + 1) + 1)) v_datumValue p0 (v_steps_c p0) (by have q := hsv p0 h0.1 h0.2; omega) (h0) (by rfl) (by omega) _ (lv_sub hl [0, 1, 2, 3, 4] rfl)

set_option maxHeartbeats 4000000 in
set_option maxRecDepth 100000 in
theorem m_X5_countSteps (l : Launch) (D : va_G) (cI cJ cZ cD : ClassId) (sz : Nat) (vA : Nat) (v_stations : Nat) (v_hours : Nat) (v_values : Nat) (v_ties : Nat) (v_tied : Nat) (v_steps : Nat) (v_readings : Int) (v_datumStation : Int) (v_datumValue : Int) (v_tied_c : Int → Int) (v_steps_c : Int → Int) (ht : ∀ j : Int, 0 ≤ j → j < 100 → v_tied_c j = 0 ∨ v_tied_c j = 1) (hds : 0 ≤ v_datumStation ∧ v_datumStation ≤ 9) : Met l yX5_countSteps wsX5_countSteps ({ frames := 3, cells := 0, slots := 0, locals := 66 } : Room) (zPc D (TY cI cJ cZ cD) sz [.ref vA] [(vA, .inr (3, [.ref v_stations, .ref v_hours, .ref v_values, .ref v_ties, .ref v_tied, .ref v_steps, vI v_readings, vI v_datumStation, vI v_datumValue])), (v_tied, .inl (cZ, 100, .inl (aI v_tied_c))), (v_steps, .inl (cI, 10, .inl (aI v_steps_c)))]) (va_Qv (fun (u : (Int → Int)) => match u with | g => ∀ k : Int, 0 ≤ k → k < 10 → g k = lyZ v_tied_c v_datumStation 9 k) (zB D (va_A [(vA, .inr (3, [.ref v_stations, .ref v_hours, .ref v_values, .ref v_ties, .ref v_tied, .ref v_steps, vI v_readings, vI v_datumStation, vI v_datumValue])), (v_tied, .inl (cZ, 100, .inl (aI v_tied_c))), (v_steps, .inl (cI, 10, .inl (aI v_steps_c)))] sz) (fun (u : (Int → Int)) => match u with | g => [(vA, .inr (3, [.ref v_stations, .ref v_hours, .ref v_values, .ref v_ties, .ref v_tied, .ref v_steps, vI v_readings, vI v_datumStation, vI v_datumValue])), (v_tied, .inl (cZ, 100, .inl (aI v_tied_c))), (v_steps, .inl (cI, 10, .inl (aI g)))])) (va_A [(vA, .inr (3, [.ref v_stations, .ref v_hours, .ref v_values, .ref v_ties, .ref v_tied, .ref v_steps, vI v_readings, vI v_datumStation, vI v_datumValue])), (v_tied, .inl (cZ, 100, .inl (aI v_tied_c))), (v_steps, .inl (cI, 10, .inl (aI v_steps_c)))] sz)) 0 0 (va_A [(vA, .inr (3, [.ref v_stations, .ref v_hours, .ref v_values, .ref v_ties, .ref v_tied, .ref v_steps, vI v_readings, vI v_datumStation, vI v_datumValue])), (v_tied, .inl (cZ, 100, .inl (aI v_tied_c))), (v_steps, .inl (cI, 10, .inl (aI v_steps_c)))] sz) := by
  refine Met.ofW (cc := cX5_countSteps) (maxL := 3) (ret := none) (by decide) rfl ?_
  intro p e s m args below meth c s₁ B hml hv
  obtain ⟨rfl, hsz, hP, hK, hD0, hN⟩ := hv
  have hx := B.exec
  have hb := B.bytes
  have hr := B.returns
  have hts := atoms_spec (ws := wsX5_countSteps) B.pre
  have hown : s.vm.findClass RX5 = some m.cls := findClass_of_methodNamed B.named
  have hlocks := B.notSynchronized
  subst hsz
  have hD := hD0.self (sz := s.heap.size)
  generalize hAe : va_A [(vA, .inr (3, [.ref v_stations, .ref v_hours, .ref v_values, .ref v_ties, .ref v_tied, .ref v_steps, vI v_readings, vI v_datumStation, vI v_datumValue])), (v_tied, .inl (cZ, 100, .inl (aI v_tied_c))), (v_steps, .inl (cI, 10, .inl (aI v_steps_c)))] s.heap.size = A at hD ⊢
  have hA : ∀ q : Nat, s.heap.size ≤ q → A q := fun q h => by rw [← hAe]; exact Or.inr h
  have hS : va_S A s.heap s.heap [] := va_S.rf
  have hP : va_P D vwCl [(vA, .inr (3, [.ref v_stations, .ref v_hours, .ref v_values, .ref v_ties, .ref v_tied, .ref v_steps, vI v_readings, vI v_datumStation, vI v_datumValue])), (v_tied, .inl (cZ, 100, .inl (aI v_tied_c))), (v_steps, .inl (cI, 10, .inl (aI v_steps_c)))] s.heap := hP
  have fl_28 := hts (.fieldLink RX5 28 "PendulumHall$Survey" "steps" "[I") (by decide +kernel)
  have fl_31 := hts (.fieldLink RX5 31 "PendulumHall$Survey" "datumStation" "I") (by decide +kernel)
  have in_X5 : ∀ w ∈ wsX50, w ∈ wsX5_countSteps := by decide +kernel
  have hl := lv_entry ([.ref vA]) (n := 3) (Nat.le_of_ble_eq_true rfl)
  rw [lg_entry_eq]
  generalize (lg_sl ([.ref vA]) ++ List.replicate (3 - (lg_sl ([.ref vA])).length) Slot.unset).toArray = ls at hl ⊢
  have hl : lv_has ls 3 [(0, .ref vA)] := hl
  refine lv_aload_n (pc := 0) hx hb dX5_countSteps_0 rfl (lv_at hl 0 rfl) ?_
  refine va_get (pc := 1) (D := D) (ci := 3) (v := .ref v_steps) (C := RX5) (T := TX5) (N := 9) hx hb hts in_X5 hown hK hP 0 rfl rfl 5 (by decide) fl_28 (fun _ h9 => h9) rfl dX5_countSteps_1 ?_
  refine z_iconst (pc := 4) hx hb dX5_countSteps_4 ?_
  have hPc := hP.sub (ws' := [(v_steps, .inl (cI, 10, .inl (aI v_steps_c)))]) [2] rfl
  have hDc := hD.sub (ws' := [(v_steps, .inl (cI, 10, .inl (aI v_steps_c)))]) [2] (by decide) rfl
  refine z_callWv (pc := 5) (wc := [(v_steps, .inl (cI, 10, .inl (aI v_steps_c)))]) hP hD hS hA [2] [0, 1] [(vA, .inr (3, [.ref v_stations, .ref v_hours, .ref v_values, .ref v_ties, .ref v_tied, .ref v_steps, vI v_readings, vI v_datumStation, vI v_datumValue])), (v_tied, .inl (cZ, 100, .inl (aI v_tied_c)))] rfl rfl (by decide) (by decide) (va_runS (As := [.ref v_steps, vI (-1)]) (rest := []) ⟨hx, hb, hml, hown, hts⟩ (m_J7_fill_53178 l D cI cJ cZ cD s.heap.size v_steps_c 10 v_steps (-1) (by decide)) (va_cwS 2 hts gX5_countSteps_J7_fill_53178 rfl rfl rfl (by decide +kernel) ⟨Nat.le_of_ble_eq_true rfl, Nat.le_of_ble_eq_true rfl⟩) ⟨z_blind, z_pre hPc hK hDc rfl rfl hN⟩ rfl rfl hl.1 rfl (lv_room (Nat.le_of_ble_eq_true rfl)) dX5_countSteps_5 ⟨Nat.zero_le _, Nat.zero_le _⟩) (fun u H locs hw hP hD hS => ?_)
  have hw_1 := hw
  have hP : va_P D vwCl [(vA, .inr (3, [.ref v_stations, .ref v_hours, .ref v_values, .ref v_ties, .ref v_tied, .ref v_steps, vI v_readings, vI v_datumStation, vI v_datumValue])), (v_tied, .inl (cZ, 100, .inl (aI v_tied_c))), (v_steps, .inl (cI, 10, .inl (aI (flZ v_steps_c (-1) 10))))] H := hP
  have hD : va_D A [(vA, .inr (3, [.ref v_stations, .ref v_hours, .ref v_values, .ref v_ties, .ref v_tied, .ref v_steps, vI v_readings, vI v_datumStation, vI v_datumValue])), (v_tied, .inl (cZ, 100, .inl (aI v_tied_c))), (v_steps, .inl (cI, 10, .inl (aI (flZ v_steps_c (-1) 10))))] := hD
  refine lv_aload_n (pc := 8) hx hb dX5_countSteps_8 rfl (lv_at hl 0 rfl) ?_
  refine va_get (pc := 9) (D := D) (ci := 3) (v := .ref v_steps) (C := RX5) (T := TX5) (N := 9) hx hb hts in_X5 hown hK hP 0 rfl rfl 5 (by decide) fl_28 (fun _ h9 => h9) rfl dX5_countSteps_9 ?_
  refine lv_aload_n (pc := 12) hx hb dX5_countSteps_12 rfl (lv_at hl 0 rfl) ?_
  refine va_get (pc := 13) (D := D) (ci := 3) (v := vI v_datumStation) (C := RX5) (T := TX5) (N := 9) hx hb hts in_X5 hown hK hP 0 rfl rfl 7 (by decide) fl_31 (fun _ h9 => h9) rfl dX5_countSteps_13 ?_
  refine z_iconst (pc := 16) hx hb dX5_countSteps_16 ?_
  refine z_iast (pc := 17) hx hb hK hP hD hS 2 0 (by omega) rfl rfl (by first | decide | omega) dX5_countSteps_17 (fun H locs hP hD hS => ?_)
  have hP : va_P D vwCl [(vA, .inr (3, [.ref v_stations, .ref v_hours, .ref v_values, .ref v_ties, .ref v_tied, .ref v_steps, vI v_readings, vI v_datumStation, vI v_datumValue])), (v_tied, .inl (cZ, 100, .inl (aI v_tied_c))), (v_steps, .inl (cI, 10, .inl (aI (uZ (flZ v_steps_c (-1) 10) v_datumStation 0))))] H := hP
  have hD : va_D A [(vA, .inr (3, [.ref v_stations, .ref v_hours, .ref v_values, .ref v_ties, .ref v_tied, .ref v_steps, vI v_readings, vI v_datumStation, vI v_datumValue])), (v_tied, .inl (cZ, 100, .inl (aI v_tied_c))), (v_steps, .inl (cI, 10, .inl (aI (uZ (flZ v_steps_c (-1) 10) v_datumStation 0))))] := hD
  refine z_iconst (pc := 18) hx hb dX5_countSteps_18 ?_
  refine lv_istore_n (lv' := [(1, vI 0), (0, .ref vA)]) (pc := 19) hx hb dX5_countSteps_19 rfl hl (by decide) rfl (fun ls hl => ?_)
  have LP_20 : ∀ (nfu : Nat) (f : Int) (g : Int → Int) (i1 : 0 ≤ f ∧ f ≤ 9) (i2 : ∀ k : Int, 0 ≤ k → k < 10 → g k = lyZ v_tied_c v_datumStation (Int.toNat f) k) (hme : 9 - f + 1 < (nfu : Int)) (H : Heap) (locs : List Loc) (hP : va_P D vwCl [(vA, .inr (3, [.ref v_stations, .ref v_hours, .ref v_values, .ref v_ties, .ref v_tied, .ref v_steps, vI v_readings, vI v_datumStation, vI v_datumValue])), (v_tied, .inl (cZ, 100, .inl (aI v_tied_c))), (v_steps, .inl (cI, 10, .inl (aI g)))] H) (hD : va_D A [(vA, .inr (3, [.ref v_stations, .ref v_hours, .ref v_values, .ref v_ties, .ref v_tied, .ref v_steps, vI v_readings, vI v_datumStation, vI v_datumValue])), (v_tied, .inl (cZ, 100, .inl (aI v_tied_c))), (v_steps, .inl (cI, 10, .inl (aI g)))]) (hS : va_S A s.heap H locs) (ls : Array Slot) (hl : lv_has ls 3 [(1, vI f), (0, .ref vA)]), W p l e (headSpec wsX5_countSteps ({ frames := 3, cells := 0, slots := 0, locals := 66 } : Room)).room s m ([.ref vA] : List Value).toArray below meth c H locs 0 0 (MQ below (va_Qv (fun (u : (Int → Int)) => match u with | g => ∀ k : Int, 0 ≤ k → k < 10 → g k = lyZ v_tied_c v_datumStation 9 k) (zB D A (fun (u : (Int → Int)) => match u with | g => [(vA, .inr (3, [.ref v_stations, .ref v_hours, .ref v_values, .ref v_ties, .ref v_tied, .ref v_steps, vI v_readings, vI v_datumStation, vI v_datumValue])), (v_tied, .inl (cZ, 100, .inl (aI v_tied_c))), (v_steps, .inl (cI, 10, .inl (aI g)))])) A) ([.ref vA] : List Value).toArray s 0 0 A) (F0 m 20 ls []) := by
    intro nfu
    induction nfu with
    | zero =>
      intro f g i1 i2 hme H locs hP hD hS ls hl
      exact absurd hme (by omega)
    | succ nfu ih_20 =>
      intro f g i1 i2 hme H locs hP hD hS ls hl
      refine lv_iload_n (pc := 20) hx hb dX5_countSteps_20 rfl (lv_at hl 0 rfl) ?_
      refine z_bipush (pc := 21) hx hb dX5_countSteps_21 (by decide) ?_
      refine z_icmp_ge (pc := 23) (tgt := 64) hx hb dX5_countSteps_23 (by decide) (by omega) (by decide) (fun c_2 => ?_) (fun c_2 => ?_)
      · have hc_23t := c_2
        have hP9 := hP.sub (ws' := [(vA, .inr (3, [.ref v_stations, .ref v_hours, .ref v_values, .ref v_ties, .ref v_tied, .ref v_steps, vI v_readings, vI v_datumStation, vI v_datumValue])), (v_tied, .inl (cZ, 100, .inl (aI v_tied_c))), (v_steps, .inl (cI, 10, .inl (aI g)))]) [0, 1, 2] rfl
        have hD9 := hD.sub (ws' := [(vA, .inr (3, [.ref v_stations, .ref v_hours, .ref v_values, .ref v_ties, .ref v_tied, .ref v_steps, vI v_readings, vI v_datumStation, vI v_datumValue])), (v_tied, .inl (cZ, 100, .inl (aI v_tied_c))), (v_steps, .inl (cI, 10, .inl (aI g)))]) [0, 1, 2] (by decide) rfl
        have hrel : ∀ k : Int, 0 ≤ k → k < 10 → g k = lyZ v_tied_c v_datumStation 9 k := by intro k k1 k2; rw [i2 k k1 k2, show f = 9 by omega]; rfl
        exact W.vret (pc := 64) hx hb hr (fun t ht hW => ⟨⟨g, rfl, hrel, by rw [ht]; exact hP9, hD9⟩, hS.F ht⟩) hS.2.2 dX5_countSteps_64
      · have hc_23f := c_2
        refine z_iconst (pc := 26) hx hb dX5_countSteps_26 ?_
        refine lv_istore_n (lv' := [(2, vI 0), (1, vI f), (0, .ref vA)]) (pc := 27) hx hb dX5_countSteps_27 rfl hl (by decide) rfl (fun ls hl => ?_)
        have LP_28 : ∀ (nfu : Nat) (b : Int) (q : Int → Int) (j1 : 0 ≤ b ∧ b ≤ 10) (j2 : ∀ k : Int, 0 ≤ k → k < 10 → q k = lstZ v_tied_c (lyZ v_tied_c v_datumStation (Int.toNat f)) f (Int.toNat b) k) (j3 : ∀ j : Int, 0 ≤ j → j < 10 → -1 ≤ q j ∧ q j ≤ 9) (hme : 10 - b + 1 < (nfu : Int)) (H : Heap) (locs : List Loc) (hP : va_P D vwCl [(vA, .inr (3, [.ref v_stations, .ref v_hours, .ref v_values, .ref v_ties, .ref v_tied, .ref v_steps, vI v_readings, vI v_datumStation, vI v_datumValue])), (v_tied, .inl (cZ, 100, .inl (aI v_tied_c))), (v_steps, .inl (cI, 10, .inl (aI q)))] H) (hD : va_D A [(vA, .inr (3, [.ref v_stations, .ref v_hours, .ref v_values, .ref v_ties, .ref v_tied, .ref v_steps, vI v_readings, vI v_datumStation, vI v_datumValue])), (v_tied, .inl (cZ, 100, .inl (aI v_tied_c))), (v_steps, .inl (cI, 10, .inl (aI q)))]) (hS : va_S A s.heap H locs) (ls : Array Slot) (hl : lv_has ls 3 [(2, vI b), (1, vI f), (0, .ref vA)]), W p l e (headSpec wsX5_countSteps ({ frames := 3, cells := 0, slots := 0, locals := 66 } : Room)).room s m ([.ref vA] : List Value).toArray below meth c H locs 0 0 (MQ below (va_Qv (fun (u : (Int → Int)) => match u with | g => ∀ k : Int, 0 ≤ k → k < 10 → g k = lyZ v_tied_c v_datumStation 9 k) (zB D A (fun (u : (Int → Int)) => match u with | g => [(vA, .inr (3, [.ref v_stations, .ref v_hours, .ref v_values, .ref v_ties, .ref v_tied, .ref v_steps, vI v_readings, vI v_datumStation, vI v_datumValue])), (v_tied, .inl (cZ, 100, .inl (aI v_tied_c))), (v_steps, .inl (cI, 10, .inl (aI g)))])) A) ([.ref vA] : List Value).toArray s 0 0 A) (F0 m 28 ls []) := by
          intro nfu
          induction nfu with
          | zero =>
            intro b q j1 j2 j3 hme H locs hP hD hS ls hl
            exact absurd hme (by omega)
          | succ nfu ih_28 =>
            intro b q j1 j2 j3 hme H locs hP hD hS ls hl
            refine lv_iload_n (pc := 28) hx hb dX5_countSteps_28 rfl (lv_at hl 0 rfl) ?_
            refine z_bipush (pc := 29) hx hb dX5_countSteps_29 (by decide) ?_
            refine z_icmp_ge (pc := 31) (tgt := 58) hx hb dX5_countSteps_31 (by decide) (by omega) (by decide) (fun c_3 => ?_) (fun c_3 => ?_)
            · have hc_31t := c_3
              refine lv_iinc (v := zI (f + 1)) (lv' := [(1, vI (f + 1)), (2, vI b), (0, .ref vA)]) (pc := 58) hx hb dX5_countSteps_58 hl (k := 1) rfl (zI_add _ _) (by decide) rfl (fun ls hl => ?_)
              refine lv_goto (pc := 61) (tgt := 20) hx hb dX5_countSteps_61 (by decide) ?_
              exact ih_20 (f + 1) q (by omega) (by intro k k1 k2; rw [j2 k k1 k2, show b = 10 by omega, show Int.toNat (f + 1) = Int.toNat f + 1 by omega]; show _ = lstZ _ _ ((Int.toNat f : Nat) : Int) 10 k; rw [show ((Int.toNat f : Nat) : Int) = f by omega]; rfl) (by omega) _ _ (hP.sub [0, 1, 2] rfl) (hD.sub [0, 1, 2] (by decide) rfl) hS _ (lv_sub hl [0, 2] rfl)
            · have hc_31f := c_3
              refine lv_aload_n (pc := 34) hx hb dX5_countSteps_34 rfl (lv_at hl 2 rfl) ?_
              refine va_get (pc := 35) (D := D) (ci := 3) (v := .ref v_steps) (C := RX5) (T := TX5) (N := 9) hx hb hts in_X5 hown hK hP 0 rfl rfl 5 (by decide) fl_28 (fun _ h9 => h9) rfl dX5_countSteps_35 ?_
              refine lv_iload_n (pc := 38) hx hb dX5_countSteps_38 rfl (lv_at hl 0 rfl) ?_
              refine z_iald (pc := 39) hx hb hK hP 2 0 (by omega) rfl rfl (by first | decide | omega) dX5_countSteps_39 ?_
              refine lv_iload_n (pc := 40) hx hb dX5_countSteps_40 rfl (lv_at hl 1 rfl) ?_
              have f0 := j3 b (by omega) (by omega)
              refine z_icmp_ne (pc := 41) (tgt := 52) hx hb dX5_countSteps_41 (by decide) (by omega) (by omega) (fun c_4 => ?_) (fun c_4 => ?_)
              · have hc_41t := c_4
                refine lv_iinc (v := zI (b + 1)) (lv' := [(2, vI (b + 1)), (1, vI f), (0, .ref vA)]) (pc := 52) hx hb dX5_countSteps_52 hl (k := 0) rfl (zI_add _ _) (by decide) rfl (fun ls hl => ?_)
                refine lv_goto (pc := 55) (tgt := 28) hx hb dX5_countSteps_55 (by decide) ?_
                exact ih_28 (b + 1) q (by omega) (by first | exact (lst_turn j1.1 i1.1 j2).1 ((lst_at i1.1 (by omega) j2).mp hc_41f) | exact (lst_turn j1.1 i1.1 j2).2 (fun h => hc_41t ((lst_at i1.1 (by omega) j2).mpr h))) (by first | exact j3 | exact rbZ_rng j3 (by omega)) (by omega) _ _ (hP.sub [0, 1, 2] rfl) (hD.sub [0, 1, 2] (by decide) rfl) hS _ (lv_sub hl [0, 1, 2] rfl)
              · have hc_41f := c_4
                refine lv_aload_n (pc := 44) hx hb dX5_countSteps_44 rfl (lv_at hl 2 rfl) ?_
                refine lv_iload_n (pc := 45) hx hb dX5_countSteps_45 rfl (lv_at hl 0 rfl) ?_
                refine lv_iload_n (pc := 46) hx hb dX5_countSteps_46 rfl (lv_at hl 1 rfl) ?_
                refine z_iconst (pc := 47) hx hb dX5_countSteps_47 ?_
                refine z_iadd (pc := 48) hx hb dX5_countSteps_48 ?_
                have hPc := hP.sub (ws' := [(vA, .inr (3, [.ref v_stations, .ref v_hours, .ref v_values, .ref v_ties, .ref v_tied, .ref v_steps, vI v_readings, vI v_datumStation, vI v_datumValue])), (v_tied, .inl (cZ, 100, .inl (aI v_tied_c))), (v_steps, .inl (cI, 10, .inl (aI q)))]) [0, 1, 2] rfl
                have hDc := hD.sub (ws' := [(vA, .inr (3, [.ref v_stations, .ref v_hours, .ref v_values, .ref v_ties, .ref v_tied, .ref v_steps, vI v_readings, vI v_datumStation, vI v_datumValue])), (v_tied, .inl (cZ, 100, .inl (aI v_tied_c))), (v_steps, .inl (cI, 10, .inl (aI q)))]) [0, 1, 2] (by decide) rfl
                refine z_callWv (pc := 49) (wc := [(vA, .inr (3, [.ref v_stations, .ref v_hours, .ref v_values, .ref v_ties, .ref v_tied, .ref v_steps, vI v_readings, vI v_datumStation, vI v_datumValue])), (v_tied, .inl (cZ, 100, .inl (aI v_tied_c))), (v_steps, .inl (cI, 10, .inl (aI q)))]) hP hD hS hA [0, 1, 2] [] [] rfl rfl (by decide) (by decide) (va_runV (As := [vI b, vI (f + 1)]) (rest := []) ⟨hx, hb, hml, hown, hts⟩ (m_X5_reachBeside l D cI cJ cZ cD H.size vA v_stations v_hours v_values v_ties v_tied v_steps v_readings v_datumStation v_datumValue v_tied_c q b (f + 1) (by omega) (by omega) ht j3) (cwV 2 hts gX5_countSteps_X5_reachBeside rfl rfl rfl (by decide +kernel) ⟨Nat.le_of_ble_eq_true rfl, Nat.le_of_ble_eq_true rfl⟩) ⟨z_blind, va_recv hK hPc (ci := 3) (q0 := 0) rfl rfl, z_pre hPc hK hDc rfl rfl hN⟩ rfl rfl hl.1 rfl (lv_room (Nat.le_of_ble_eq_true rfl)) dX5_countSteps_49 ⟨Nat.zero_le _, Nat.zero_le _⟩) (fun u H locs hw hP hD hS => ?_)
                have hw_5 := hw
                have hP : va_P D vwCl [(vA, .inr (3, [.ref v_stations, .ref v_hours, .ref v_values, .ref v_ties, .ref v_tied, .ref v_steps, vI v_readings, vI v_datumStation, vI v_datumValue])), (v_tied, .inl (cZ, 100, .inl (aI v_tied_c))), (v_steps, .inl (cI, 10, .inl (aI (rbZ v_tied_c q b (f + 1) 10))))] H := hP
                have hD : va_D A [(vA, .inr (3, [.ref v_stations, .ref v_hours, .ref v_values, .ref v_ties, .ref v_tied, .ref v_steps, vI v_readings, vI v_datumStation, vI v_datumValue])), (v_tied, .inl (cZ, 100, .inl (aI v_tied_c))), (v_steps, .inl (cI, 10, .inl (aI (rbZ v_tied_c q b (f + 1) 10))))] := hD
                refine lv_iinc (v := zI (b + 1)) (lv' := [(2, vI (b + 1)), (1, vI f), (0, .ref vA)]) (pc := 52) hx hb dX5_countSteps_52 hl (k := 0) rfl (zI_add _ _) (by decide) rfl (fun ls hl => ?_)
                refine lv_goto (pc := 55) (tgt := 28) hx hb dX5_countSteps_55 (by decide) ?_
                exact ih_28 (b + 1) (rbZ v_tied_c q b (f + 1) 10) (by omega) (by first | exact (lst_turn j1.1 i1.1 j2).1 ((lst_at i1.1 (by omega) j2).mp hc_41f) | exact (lst_turn j1.1 i1.1 j2).2 (fun h => hc_41t ((lst_at i1.1 (by omega) j2).mpr h))) (by first | exact j3 | exact rbZ_rng j3 (by omega)) (by omega) _ _ (hP.sub [0, 1, 2] rfl) (hD.sub [0, 1, 2] (by decide) rfl) hS _ (lv_sub hl [0, 1, 2] rfl)
        exact LP_28 (Int.toNat ((10 - 0 + 1) + 1)) 0 g (by omega) (by intro k k1 k2; rw [i2 k k1 k2]; exact (lst_none _ _ _ _).symm) (by intro k k1 k2; rw [i2 k k1 k2]; have := lyZ_rng v_tied_c v_datumStation (Int.toNat f) k; omega) (by omega) _ _ (hP.sub [0, 1, 2] rfl) (hD.sub [0, 1, 2] (by decide) rfl) hS _ (lv_sub hl [0, 1, 2] rfl)
  exact LP_20 (Int.toNat ((9 - 0 + 1) + 1)) 0 (uZ (flZ v_steps_c (-1) 10) v_datumStation 0) (by omega) (ly_init _ _ _ (by omega)) (by omega) _ _ (hP.sub [0, 1, 2] rfl) (hD.sub [0, 1, 2] (by decide) rfl) hS _ (lv_sub hl [0, 1] rfl)
