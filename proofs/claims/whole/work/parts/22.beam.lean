set_option maxHeartbeats 4000000 in
set_option maxRecDepth 100000 in
theorem m_X0_phaseBehind (l : Launch) (D : va_G) (cI cJ cZ cD : ClassId) (sz : Nat) (bA : Nat) (b_seenIn : Nat) (b_tickAt : Nat) (b_turnsAt : Nat) (b_search : Int) (b_foundPeriod : Int) (b_foundTurns : Int) (b_foundLead : Int) (p0 : Int) (p1 : Int) (p2 : Int) (p3 : Int) (h0 : 0 ≤ p0 ∧ p0 < 1000) (h1 : 0 ≤ p1 ∧ p1 ≤ 300) (h2 : 0 ≤ p2 ∧ p2 < 1000) (h3 : 0 ≤ p3 ∧ p3 ≤ 10000) : Met l yX0_phaseBehind wsX0_phaseBehind ({ frames := 2, cells := 0, slots := 0, locals := 44 } : Room) (zPc D (TY cI cJ cZ cD) sz [.ref bA, vI p0, vI p1, vI p2, vI p3] [(bA, .inr (0, [.ref b_seenIn, .ref b_tickAt, .ref b_turnsAt, vI b_search, vI b_foundPeriod, vI b_foundTurns, vI b_foundLead]))]) (zQr (some (vI (phS p0 p1 p2 (Int.toNat p3))))) 0 0 (fun _ => False) := by
  refine Met.ofW (cc := cX0_phaseBehind) (maxL := 7) (ret := (some .int)) (by decide) rfl ?_
  intro p e s m args below meth c s₁ B hml hv
  obtain ⟨rfl, hsz, hP, hK, hD0, hN⟩ := hv
  have hx := B.exec
  have hb := B.bytes
  have hr := B.returns
  have hts := atoms_spec (ws := wsX0_phaseBehind) B.pre
  have hown : s.vm.findClass RX0 = some m.cls := findClass_of_methodNamed B.named
  have hlocks := B.notSynchronized
  have hD := hD0
  subst hsz
  have hP : va_P D vwCl [(bA, .inr (0, [.ref b_seenIn, .ref b_tickAt, .ref b_turnsAt, vI b_search, vI b_foundPeriod, vI b_foundTurns, vI b_foundLead]))] s.heap := hP
  have hl := lv_entry ([.ref bA, vI p0, vI p1, vI p2, vI p3]) (n := 7) (Nat.le_of_ble_eq_true rfl)
  rw [lg_entry_eq]
  generalize (lg_sl ([.ref bA, vI p0, vI p1, vI p2, vI p3]) ++ List.replicate (7 - (lg_sl ([.ref bA, vI p0, vI p1, vI p2, vI p3])).length) Slot.unset).toArray = ls at hl ⊢
  have hl : lv_has ls 7 [(0, .ref bA), (1, vI p0), (2, vI p1), (3, vI p2), (4, vI p3)] := hl
  refine lv_iload_n (pc := 0) hx hb dX0_phaseBehind_0 rfl (lv_at hl 3 rfl) ?_
  refine lv_istore (lv' := [(5, vI p2), (0, .ref bA), (1, vI p0), (2, vI p1), (3, vI p2), (4, vI p3)]) (pc := 1) hx hb dX0_phaseBehind_1 hl (by decide) rfl (fun ls hl => ?_)
  refine z_iconst (pc := 3) hx hb dX0_phaseBehind_3 ?_
  refine lv_istore (lv' := [(6, vI 0), (5, vI p2), (0, .ref bA), (1, vI p0), (2, vI p1), (3, vI p2), (4, vI p3)]) (pc := 4) hx hb dX0_phaseBehind_4 hl (by decide) rfl (fun ls hl => ?_)
  have LP_6 : ∀ (nfu : Nat) (ph : Int) (tk : Int) (i1 : 0 ≤ tk ∧ tk ≤ p3) (i2 : ph = phS p0 p1 p2 (Int.toNat tk)) (i3 : 0 ≤ ph ∧ ph < 1000) (hme : p3 - tk + 1 < (nfu : Int)) (ls : Array Slot) (hl : lv_has ls 7 [(6, vI tk), (5, vI ph), (0, .ref bA), (1, vI p0), (2, vI p1), (4, vI p3)]), W p l e (headSpec wsX0_phaseBehind ({ frames := 2, cells := 0, slots := 0, locals := 44 } : Room)).room s m ([.ref bA, vI p0, vI p1, vI p2, vI p3] : List Value).toArray below meth c s.heap [] 0 0 (MQ below (zQr (some (vI (phS p0 p1 p2 (Int.toNat p3))))) ([.ref bA, vI p0, vI p1, vI p2, vI p3] : List Value).toArray s 0 0 (fun _ => False)) (F0 m 6 ls []) := by
    intro nfu
    induction nfu with
    | zero =>
      intro ph tk i1 i2 i3 hme ls hl
      exact absurd hme (by omega)
    | succ nfu ih_6 =>
      intro ph tk i1 i2 i3 hme ls hl
      refine lv_iload (pc := 6) hx hb dX0_phaseBehind_6 (lv_at hl 0 rfl) ?_
      refine lv_iload (pc := 8) hx hb dX0_phaseBehind_8 (lv_at hl 5 rfl) ?_
      refine z_icmp_ge (pc := 10) (tgt := 34) hx hb dX0_phaseBehind_10 (by decide) (by omega) (by omega) (fun c_1 => ?_) (fun c_1 => ?_)
      · have hc_10t := c_1
        refine lv_iload (pc := 34) hx hb dX0_phaseBehind_34 (lv_at hl 1 rfl) ?_
        have hv : (ph) = (phS p0 p1 p2 (Int.toNat p3)) := by rw [i2, show tk = p3 by omega]
        exact W.iret (pc := 36) (v := zI ph) hx hb hr (fun t ht hW => ⟨congrArg (fun z => Outcome.returned (some (vI z))) hv, ht⟩) (fun q h => absurd h List.not_mem_nil) dX0_phaseBehind_36
      · have hc_10f := c_1
        have hg := goZ_rng h0 h1 i3
        refine lv_iload_n (pc := 13) hx hb dX0_phaseBehind_13 rfl (lv_at hl 3 rfl) ?_
        refine lv_iload_n (pc := 14) hx hb dX0_phaseBehind_14 rfl (lv_at hl 4 rfl) ?_
        refine lv_iload (pc := 15) hx hb dX0_phaseBehind_15 (lv_at hl 1 rfl) ?_
        refine z_callR (pc := 17) (va_runS (As := [vI p0, vI p1, vI ph]) (rest := []) ⟨hx, hb, hml, hown, hts⟩ (m_X0_tick l D cI cJ cZ cD 0  p0 p1 ph (by omega) (by omega) (by omega)) (va_cwS 3 hts gX0_phaseBehind_X0_tick rfl rfl rfl (by decide +kernel) ⟨Nat.le_of_ble_eq_true rfl, Nat.le_of_ble_eq_true rfl⟩) ⟨fun a U g mk q => q, fun U hU hW => ⟨rfl, trivial⟩⟩ rfl rfl hl.1 rfl (lv_room (Nat.le_of_ble_eq_true rfl)) dX0_phaseBehind_17 ⟨Nat.zero_le _, Nat.zero_le _⟩) ?_
        refine z_sipush (pc := 20) hx hb dX0_phaseBehind_20 (by decide) ?_
        refine z_callR (pc := 23) (va_runS (As := [vI (goZ p0 p1 ph), vI 1000]) (rest := []) ⟨hx, hb, hml, hown, hts⟩ (m_J9_floorMod_7cf53 l D cI cJ cZ cD 0  (goZ p0 p1 ph) 1000 (by omega) (by omega)) (va_cwS 2 hts gX0_phaseBehind_J9_floorMod_7cf53 rfl rfl rfl (by decide +kernel) ⟨Nat.le_of_ble_eq_true rfl, Nat.le_of_ble_eq_true rfl⟩) ⟨fun a U g mk q => q, fun U hU hW => ⟨rfl, trivial⟩⟩ rfl rfl hl.1 rfl (lv_room (Nat.le_of_ble_eq_true rfl)) dX0_phaseBehind_23 ⟨Nat.zero_le _, Nat.zero_le _⟩) ?_
        refine lv_istore (lv' := [(5, vI ((goZ p0 p1 ph) % 1000)), (6, vI tk), (0, .ref bA), (1, vI p0), (2, vI p1), (4, vI p3)]) (pc := 26) hx hb dX0_phaseBehind_26 hl (by decide) rfl (fun ls hl => ?_)
        refine lv_iinc (v := zI (tk + 1)) (lv' := [(6, vI (tk + 1)), (5, vI ((goZ p0 p1 ph) % 1000)), (0, .ref bA), (1, vI p0), (2, vI p1), (4, vI p3)]) (pc := 28) hx hb dX0_phaseBehind_28 hl (k := 1) rfl (zI_add _ _) (by decide) rfl (fun ls hl => ?_)
        refine lv_goto (pc := 31) (tgt := 6) hx hb dX0_phaseBehind_31 (by decide) ?_
        exact ih_6 ((goZ p0 p1 ph) % 1000) (tk + 1) (by omega) (by rw [i2, show Int.toNat (tk + 1) = Int.toNat tk + 1 by omega]; rfl) (by omega) (by omega) _ (lv_sub hl [0, 1, 2, 3, 4, 5] rfl)
  exact LP_6 (Int.toNat ((p3 - 0 + 1) + 1)) p2 0 (by omega) (by rfl) (by omega) (by omega) _ (lv_sub hl [0, 1, 2, 3, 4, 6] rfl)

set_option maxHeartbeats 4000000 in
set_option maxRecDepth 100000 in
theorem m_X0_seekRound (l : Launch) (D : va_G) (cI cJ cZ cD : ClassId) (sz : Nat) (bA : Nat) (b_seenIn : Nat) (b_tickAt : Nat) (b_turnsAt : Nat) (b_search : Int) (b_foundPeriod : Int) (b_foundTurns : Int) (b_foundLead : Int) (b_seenIn_c : Int → Int) (b_tickAt_c : Int → Int) (b_turnsAt_c : Int → Int) (p0 : Int) (p1 : Int) (p2 : Int) (h0 : 0 ≤ p0 ∧ p0 < 1000) (h1 : 0 ≤ p1 ∧ p1 ≤ 300) (h2 : 0 ≤ p2 ∧ p2 < 1000) (hs0 : 0 ≤ b_search ∧ b_search < 2000000000) (hs : ∀ x : Int, 0 ≤ x → x < 1000 → 0 ≤ b_seenIn_c x ∧ b_seenIn_c x ≤ b_search) : Met l yX0_seekRound wsX0_seekRound ({ frames := 2, cells := 0, slots := 0, locals := 44 } : Room) (zPc D (TY cI cJ cZ cD) sz [.ref bA, vI p0, vI p1, vI p2] [(bA, .inr (0, [.ref b_seenIn, .ref b_tickAt, .ref b_turnsAt, vI b_search, vI b_foundPeriod, vI b_foundTurns, vI b_foundLead])), (b_seenIn, .inl (cI, 1000, .inl (aI b_seenIn_c))), (b_tickAt, .inl (cI, 1000, .inl (aI b_tickAt_c))), (b_turnsAt, .inl (cI, 1000, .inl (aI b_turnsAt_c)))]) (va_Qv (fun (u : (Int → Int) × (Int → Int) × (Int → Int)) => match u with | (sI, tA, tN) => ∀ x : Int, 0 ≤ x → x < 1000 → 0 ≤ sI x ∧ sI x ≤ b_search + 1) (zB D (va_A [(bA, .inr (0, [.ref b_seenIn, .ref b_tickAt, .ref b_turnsAt, vI b_search, vI b_foundPeriod, vI b_foundTurns, vI b_foundLead])), (b_seenIn, .inl (cI, 1000, .inl (aI b_seenIn_c))), (b_tickAt, .inl (cI, 1000, .inl (aI b_tickAt_c))), (b_turnsAt, .inl (cI, 1000, .inl (aI b_turnsAt_c)))] sz) (fun (u : (Int → Int) × (Int → Int) × (Int → Int)) => match u with | (sI, tA, tN) => [(bA, .inr (0, [.ref b_seenIn, .ref b_tickAt, .ref b_turnsAt, vI (b_search + 1), vI (perZ p0 p1 p2), vI (trnZ p0 p1 p2), vI (ledZ p0 p1 p2)])), (b_seenIn, .inl (cI, 1000, .inl (aI sI))), (b_tickAt, .inl (cI, 1000, .inl (aI tA))), (b_turnsAt, .inl (cI, 1000, .inl (aI tN)))])) (va_A [(bA, .inr (0, [.ref b_seenIn, .ref b_tickAt, .ref b_turnsAt, vI b_search, vI b_foundPeriod, vI b_foundTurns, vI b_foundLead])), (b_seenIn, .inl (cI, 1000, .inl (aI b_seenIn_c))), (b_tickAt, .inl (cI, 1000, .inl (aI b_tickAt_c))), (b_turnsAt, .inl (cI, 1000, .inl (aI b_turnsAt_c)))] sz)) 0 0 (va_A [(bA, .inr (0, [.ref b_seenIn, .ref b_tickAt, .ref b_turnsAt, vI b_search, vI b_foundPeriod, vI b_foundTurns, vI b_foundLead])), (b_seenIn, .inl (cI, 1000, .inl (aI b_seenIn_c))), (b_tickAt, .inl (cI, 1000, .inl (aI b_tickAt_c))), (b_turnsAt, .inl (cI, 1000, .inl (aI b_turnsAt_c)))] sz) := by
  refine Met.ofW (cc := cX0_seekRound) (maxL := 8) (ret := none) (by decide) rfl ?_
  intro p e s m args below meth c s₁ B hml hv
  obtain ⟨rfl, hsz, hP, hK, hD0, hN⟩ := hv
  have hx := B.exec
  have hb := B.bytes
  have hr := B.returns
  have hts := atoms_spec (ws := wsX0_seekRound) B.pre
  have hown : s.vm.findClass RX0 = some m.cls := findClass_of_methodNamed B.named
  have hlocks := B.notSynchronized
  subst hsz
  have hD := hD0.self (sz := s.heap.size)
  generalize hAe : va_A [(bA, .inr (0, [.ref b_seenIn, .ref b_tickAt, .ref b_turnsAt, vI b_search, vI b_foundPeriod, vI b_foundTurns, vI b_foundLead])), (b_seenIn, .inl (cI, 1000, .inl (aI b_seenIn_c))), (b_tickAt, .inl (cI, 1000, .inl (aI b_tickAt_c))), (b_turnsAt, .inl (cI, 1000, .inl (aI b_turnsAt_c)))] s.heap.size = A at hD ⊢
  have hA : ∀ q : Nat, s.heap.size ≤ q → A q := fun q h => by rw [← hAe]; exact Or.inr h
  have hS : va_S A s.heap s.heap [] := va_S.rf
  have hP : va_P D vwCl [(bA, .inr (0, [.ref b_seenIn, .ref b_tickAt, .ref b_turnsAt, vI b_search, vI b_foundPeriod, vI b_foundTurns, vI b_foundLead])), (b_seenIn, .inl (cI, 1000, .inl (aI b_seenIn_c))), (b_tickAt, .inl (cI, 1000, .inl (aI b_tickAt_c))), (b_turnsAt, .inl (cI, 1000, .inl (aI b_turnsAt_c)))] s.heap := hP
  have fl_13 := hts (.fieldLink RX0 13 "PendulumHall$Beam" "tickAt" "[I") (by decide +kernel)
  have fl_16 := hts (.fieldLink RX0 16 "PendulumHall$Beam" "turnsAt" "[I") (by decide +kernel)
  have fl_19 := hts (.fieldLink RX0 19 "PendulumHall$Beam" "foundPeriod" "I") (by decide +kernel)
  have fl_23 := hts (.fieldLink RX0 23 "PendulumHall$Beam" "foundTurns" "I") (by decide +kernel)
  have fl_26 := hts (.fieldLink RX0 26 "PendulumHall$Beam" "foundLead" "I") (by decide +kernel)
  have fl_46 := hts (.fieldLink RX0 46 "PendulumHall$Beam" "search" "I") (by decide +kernel)
  have fl_9 := hts (.fieldLink RX0 9 "PendulumHall$Beam" "seenIn" "[I") (by decide +kernel)
  have in_X0 : ∀ w ∈ wsX00, w ∈ wsX0_seekRound := by decide +kernel
  have hl := lv_entry ([.ref bA, vI p0, vI p1, vI p2]) (n := 8) (Nat.le_of_ble_eq_true rfl)
  rw [lg_entry_eq]
  generalize (lg_sl ([.ref bA, vI p0, vI p1, vI p2]) ++ List.replicate (8 - (lg_sl ([.ref bA, vI p0, vI p1, vI p2])).length) Slot.unset).toArray = ls at hl ⊢
  have hl : lv_has ls 8 [(0, .ref bA), (1, vI p0), (2, vI p1), (3, vI p2)] := hl
  refine lv_aload_n (pc := 0) hx hb dX0_seekRound_0 rfl (lv_at hl 0 rfl) ?_
  refine lv_dup (pc := 1) hx hb dX0_seekRound_1 rfl ?_
  refine va_get (pc := 2) (D := D) (ci := 0) (v := vI b_search) (C := RX0) (T := TX0) (N := 7) hx hb hts in_X0 hown hK hP 0 rfl rfl 3 (by decide) fl_46 (fun _ h9 => h9) rfl dX0_seekRound_2 ?_
  refine z_iconst (pc := 5) hx hb dX0_seekRound_5 ?_
  refine z_iadd (pc := 6) hx hb dX0_seekRound_6 ?_
  refine va_put (pc := 7) (D := D) (ci := 0) (v := vI (b_search + 1)) (ty := .int) (C := RX0) (T := TX0) (N := 7) hx hb hts in_X0 tyX0 tyX0_ok nmX0 hown hK hP hD hS 0 rfl rfl 3 (by decide) fl_46 (fun _ h9 => h9) rfl (by decide +kernel) rfl rfl (Nat.le_of_ble_eq_true rfl) dX0_seekRound_7 (fun H locs hP hD hS => ?_)
  have hP : va_P D vwCl [(bA, .inr (0, [.ref b_seenIn, .ref b_tickAt, .ref b_turnsAt, vI (b_search + 1), vI b_foundPeriod, vI b_foundTurns, vI b_foundLead])), (b_seenIn, .inl (cI, 1000, .inl (aI b_seenIn_c))), (b_tickAt, .inl (cI, 1000, .inl (aI b_tickAt_c))), (b_turnsAt, .inl (cI, 1000, .inl (aI b_turnsAt_c)))] H := hP
  have hD : va_D A [(bA, .inr (0, [.ref b_seenIn, .ref b_tickAt, .ref b_turnsAt, vI (b_search + 1), vI b_foundPeriod, vI b_foundTurns, vI b_foundLead])), (b_seenIn, .inl (cI, 1000, .inl (aI b_seenIn_c))), (b_tickAt, .inl (cI, 1000, .inl (aI b_tickAt_c))), (b_turnsAt, .inl (cI, 1000, .inl (aI b_turnsAt_c)))] := hD
  refine lv_iload_n (pc := 10) hx hb dX0_seekRound_10 rfl (lv_at hl 3 rfl) ?_
  refine lv_istore (lv' := [(4, vI p2), (0, .ref bA), (1, vI p0), (2, vI p1), (3, vI p2)]) (pc := 11) hx hb dX0_seekRound_11 hl (by decide) rfl (fun ls hl => ?_)
  refine z_iconst (pc := 13) hx hb dX0_seekRound_13 ?_
  refine lv_istore (lv' := [(5, vI 0), (4, vI p2), (0, .ref bA), (1, vI p0), (2, vI p1), (3, vI p2)]) (pc := 14) hx hb dX0_seekRound_14 hl (by decide) rfl (fun ls hl => ?_)
  refine z_iconst (pc := 16) hx hb dX0_seekRound_16 ?_
  refine lv_istore (lv' := [(6, vI 0), (5, vI 0), (4, vI p2), (0, .ref bA), (1, vI p0), (2, vI p1), (3, vI p2)]) (pc := 17) hx hb dX0_seekRound_17 hl (by decide) rfl (fun ls hl => ?_)
  have LP_19 : ∀ (nfu : Nat) (tk : Int) (ph : Int) (tn : Int) (sI : Int → Int) (tA : Int → Int) (tN : Int → Int) (i1 : 0 ≤ tk ∧ tk ≤ 1001) (i2 : ph = phS p0 p1 p2 (Int.toNat tk)) (i3 : 0 ≤ ph ∧ ph < 1000) (i4 : tn = gZ p0 p1 p2 (Int.toNat tk)) (i5 : skI p0 p1 p2 (b_search + 1) (Int.toNat tk) sI tA tN) (hme : 1001 - tk + 1 < (nfu : Int)) (H : Heap) (locs : List Loc) (hP : va_P D vwCl [(bA, .inr (0, [.ref b_seenIn, .ref b_tickAt, .ref b_turnsAt, vI (b_search + 1), vI b_foundPeriod, vI b_foundTurns, vI b_foundLead])), (b_seenIn, .inl (cI, 1000, .inl (aI sI))), (b_tickAt, .inl (cI, 1000, .inl (aI tA))), (b_turnsAt, .inl (cI, 1000, .inl (aI tN)))] H) (hD : va_D A [(bA, .inr (0, [.ref b_seenIn, .ref b_tickAt, .ref b_turnsAt, vI (b_search + 1), vI b_foundPeriod, vI b_foundTurns, vI b_foundLead])), (b_seenIn, .inl (cI, 1000, .inl (aI sI))), (b_tickAt, .inl (cI, 1000, .inl (aI tA))), (b_turnsAt, .inl (cI, 1000, .inl (aI tN)))]) (hS : va_S A s.heap H locs) (ls : Array Slot) (hl : lv_has ls 8 [(6, vI tk), (5, vI tn), (4, vI ph), (0, .ref bA), (1, vI p0), (2, vI p1)]), W p l e (headSpec wsX0_seekRound ({ frames := 2, cells := 0, slots := 0, locals := 44 } : Room)).room s m ([.ref bA, vI p0, vI p1, vI p2] : List Value).toArray below meth c H locs 0 0 (MQ below (va_Qv (fun (u : (Int → Int) × (Int → Int) × (Int → Int)) => match u with | (sI, tA, tN) => ∀ x : Int, 0 ≤ x → x < 1000 → 0 ≤ sI x ∧ sI x ≤ b_search + 1) (zB D A (fun (u : (Int → Int) × (Int → Int) × (Int → Int)) => match u with | (sI, tA, tN) => [(bA, .inr (0, [.ref b_seenIn, .ref b_tickAt, .ref b_turnsAt, vI (b_search + 1), vI (perZ p0 p1 p2), vI (trnZ p0 p1 p2), vI (ledZ p0 p1 p2)])), (b_seenIn, .inl (cI, 1000, .inl (aI sI))), (b_tickAt, .inl (cI, 1000, .inl (aI tA))), (b_turnsAt, .inl (cI, 1000, .inl (aI tN)))])) A) ([.ref bA, vI p0, vI p1, vI p2] : List Value).toArray s 0 0 A) (F0 m 19 ls []) := by
    intro nfu
    induction nfu with
    | zero =>
      intro tk ph tn sI tA tN i1 i2 i3 i4 i5 hme H locs hP hD hS ls hl
      exact absurd hme (by omega)
    | succ nfu ih_19 =>
      intro tk ph tn sI tA tN i1 i2 i3 i4 i5 hme H locs hP hD hS ls hl
      refine lv_iload (pc := 19) hx hb dX0_seekRound_19 (lv_at hl 0 rfl) ?_
      refine z_sipush (pc := 21) hx hb dX0_seekRound_21 (by decide) ?_
      refine z_icmp_gt (pc := 24) (tgt := 148) hx hb dX0_seekRound_24 (by decide) (by omega) (by decide) (fun c_1 => ?_) (fun c_1 => ?_)
      · exact absurd (skI_end h2 i5) (by omega)
      · have hc_24f := c_1
        refine lv_aload_n (pc := 27) hx hb dX0_seekRound_27 rfl (lv_at hl 3 rfl) ?_
        refine va_get (pc := 28) (D := D) (ci := 0) (v := .ref b_seenIn) (C := RX0) (T := TX0) (N := 7) hx hb hts in_X0 hown hK hP 0 rfl rfl 0 (by decide) fl_9 (fun _ h9 => h9) rfl dX0_seekRound_28 ?_
        refine lv_iload (pc := 31) hx hb dX0_seekRound_31 (lv_at hl 2 rfl) ?_
        refine z_iald (pc := 33) hx hb hK hP 1 0 (by omega) rfl rfl (by first | decide | omega) dX0_seekRound_33 ?_
        refine lv_aload_n (pc := 34) hx hb dX0_seekRound_34 rfl (lv_at hl 3 rfl) ?_
        refine va_get (pc := 35) (D := D) (ci := 0) (v := vI (b_search + 1)) (C := RX0) (T := TX0) (N := 7) hx hb hts in_X0 hown hK hP 0 rfl rfl 3 (by decide) fl_46 (fun _ h9 => h9) rfl dX0_seekRound_35 ?_
        have hq := i5.2.1 ph i3.1 i3.2
        refine z_icmp_ne (pc := 38) (tgt := 81) hx hb dX0_seekRound_38 (by decide) (by omega) (by omega) (fun c_2 => ?_) (fun c_2 => ?_)
        · have hc_38t := c_2
          refine lv_aload_n (pc := 81) hx hb dX0_seekRound_81 rfl (lv_at hl 3 rfl) ?_
          refine va_get (pc := 82) (D := D) (ci := 0) (v := .ref b_seenIn) (C := RX0) (T := TX0) (N := 7) hx hb hts in_X0 hown hK hP 0 rfl rfl 0 (by decide) fl_9 (fun _ h9 => h9) rfl dX0_seekRound_82 ?_
          refine lv_iload (pc := 85) hx hb dX0_seekRound_85 (lv_at hl 2 rfl) ?_
          refine lv_aload_n (pc := 87) hx hb dX0_seekRound_87 rfl (lv_at hl 3 rfl) ?_
          refine va_get (pc := 88) (D := D) (ci := 0) (v := vI (b_search + 1)) (C := RX0) (T := TX0) (N := 7) hx hb hts in_X0 hown hK hP 0 rfl rfl 3 (by decide) fl_46 (fun _ h9 => h9) rfl dX0_seekRound_88 ?_
          refine z_iast (pc := 91) hx hb hK hP hD hS 1 0 (by omega) rfl rfl (by first | decide | omega) dX0_seekRound_91 (fun H locs hP hD hS => ?_)
          have hP : va_P D vwCl [(bA, .inr (0, [.ref b_seenIn, .ref b_tickAt, .ref b_turnsAt, vI (b_search + 1), vI b_foundPeriod, vI b_foundTurns, vI b_foundLead])), (b_seenIn, .inl (cI, 1000, .inl (aI (uZ sI ph (b_search + 1))))), (b_tickAt, .inl (cI, 1000, .inl (aI tA))), (b_turnsAt, .inl (cI, 1000, .inl (aI tN)))] H := hP
          have hD : va_D A [(bA, .inr (0, [.ref b_seenIn, .ref b_tickAt, .ref b_turnsAt, vI (b_search + 1), vI b_foundPeriod, vI b_foundTurns, vI b_foundLead])), (b_seenIn, .inl (cI, 1000, .inl (aI (uZ sI ph (b_search + 1))))), (b_tickAt, .inl (cI, 1000, .inl (aI tA))), (b_turnsAt, .inl (cI, 1000, .inl (aI tN)))] := hD
          refine lv_aload_n (pc := 92) hx hb dX0_seekRound_92 rfl (lv_at hl 3 rfl) ?_
          refine va_get (pc := 93) (D := D) (ci := 0) (v := .ref b_tickAt) (C := RX0) (T := TX0) (N := 7) hx hb hts in_X0 hown hK hP 0 rfl rfl 1 (by decide) fl_13 (fun _ h9 => h9) rfl dX0_seekRound_93 ?_
          refine lv_iload (pc := 96) hx hb dX0_seekRound_96 (lv_at hl 2 rfl) ?_
          refine lv_iload (pc := 98) hx hb dX0_seekRound_98 (lv_at hl 0 rfl) ?_
          refine z_iast (pc := 100) hx hb hK hP hD hS 2 0 (by omega) rfl rfl (by first | decide | omega) dX0_seekRound_100 (fun H locs hP hD hS => ?_)
          have hP : va_P D vwCl [(bA, .inr (0, [.ref b_seenIn, .ref b_tickAt, .ref b_turnsAt, vI (b_search + 1), vI b_foundPeriod, vI b_foundTurns, vI b_foundLead])), (b_seenIn, .inl (cI, 1000, .inl (aI (uZ sI ph (b_search + 1))))), (b_tickAt, .inl (cI, 1000, .inl (aI (uZ tA ph tk)))), (b_turnsAt, .inl (cI, 1000, .inl (aI tN)))] H := hP
          have hD : va_D A [(bA, .inr (0, [.ref b_seenIn, .ref b_tickAt, .ref b_turnsAt, vI (b_search + 1), vI b_foundPeriod, vI b_foundTurns, vI b_foundLead])), (b_seenIn, .inl (cI, 1000, .inl (aI (uZ sI ph (b_search + 1))))), (b_tickAt, .inl (cI, 1000, .inl (aI (uZ tA ph tk)))), (b_turnsAt, .inl (cI, 1000, .inl (aI tN)))] := hD
          refine lv_aload_n (pc := 101) hx hb dX0_seekRound_101 rfl (lv_at hl 3 rfl) ?_
          refine va_get (pc := 102) (D := D) (ci := 0) (v := .ref b_turnsAt) (C := RX0) (T := TX0) (N := 7) hx hb hts in_X0 hown hK hP 0 rfl rfl 2 (by decide) fl_16 (fun _ h9 => h9) rfl dX0_seekRound_102 ?_
          refine lv_iload (pc := 105) hx hb dX0_seekRound_105 (lv_at hl 2 rfl) ?_
          refine lv_iload (pc := 107) hx hb dX0_seekRound_107 (lv_at hl 1 rfl) ?_
          refine z_iast (pc := 109) hx hb hK hP hD hS 3 0 (by omega) rfl rfl (by first | decide | omega) dX0_seekRound_109 (fun H locs hP hD hS => ?_)
          have hP : va_P D vwCl [(bA, .inr (0, [.ref b_seenIn, .ref b_tickAt, .ref b_turnsAt, vI (b_search + 1), vI b_foundPeriod, vI b_foundTurns, vI b_foundLead])), (b_seenIn, .inl (cI, 1000, .inl (aI (uZ sI ph (b_search + 1))))), (b_tickAt, .inl (cI, 1000, .inl (aI (uZ tA ph tk)))), (b_turnsAt, .inl (cI, 1000, .inl (aI (uZ tN ph tn))))] H := hP
          have hD : va_D A [(bA, .inr (0, [.ref b_seenIn, .ref b_tickAt, .ref b_turnsAt, vI (b_search + 1), vI b_foundPeriod, vI b_foundTurns, vI b_foundLead])), (b_seenIn, .inl (cI, 1000, .inl (aI (uZ sI ph (b_search + 1))))), (b_tickAt, .inl (cI, 1000, .inl (aI (uZ tA ph tk)))), (b_turnsAt, .inl (cI, 1000, .inl (aI (uZ tN ph tn))))] := hD
          have hg := goZ_rng h0 h1 i3
          refine lv_iload_n (pc := 110) hx hb dX0_seekRound_110 rfl (lv_at hl 4 rfl) ?_
          refine lv_iload_n (pc := 111) hx hb dX0_seekRound_111 rfl (lv_at hl 5 rfl) ?_
          refine lv_iload (pc := 112) hx hb dX0_seekRound_112 (lv_at hl 2 rfl) ?_
          refine z_callR (pc := 114) (va_runS (As := [vI p0, vI p1, vI ph]) (rest := []) ⟨hx, hb, hml, hown, hts⟩ (m_X0_tick l D cI cJ cZ cD 0  p0 p1 ph (by omega) (by omega) (by omega)) (va_cwS 3 hts gX0_seekRound_X0_tick rfl rfl rfl (by decide +kernel) ⟨Nat.le_of_ble_eq_true rfl, Nat.le_of_ble_eq_true rfl⟩) ⟨fun a U g mk q => q, fun U hU hW => ⟨rfl, trivial⟩⟩ rfl rfl hl.1 rfl (lv_room (Nat.le_of_ble_eq_true rfl)) dX0_seekRound_114 ⟨Nat.zero_le _, Nat.zero_le _⟩) ?_
          refine lv_istore (lv' := [(7, vI (goZ p0 p1 ph)), (6, vI tk), (5, vI tn), (4, vI ph), (0, .ref bA), (1, vI p0), (2, vI p1)]) (pc := 117) hx hb dX0_seekRound_117 hl (by decide) rfl (fun ls hl => ?_)
          refine lv_iload (pc := 119) hx hb dX0_seekRound_119 (lv_at hl 2 rfl) ?_
          refine lv_iload (pc := 121) hx hb dX0_seekRound_121 (lv_at hl 0 rfl) ?_
          refine z_sipush (pc := 123) hx hb dX0_seekRound_123 (by decide) ?_
          refine z_callR (pc := 126) (va_runS (As := [vI (goZ p0 p1 ph), vI 1000]) (rest := [vI tn]) ⟨hx, hb, hml, hown, hts⟩ (m_J9_floorDiv_7cf53 l D cI cJ cZ cD 0  (goZ p0 p1 ph) 1000 (by omega) (by omega)) (va_cwS 2 hts gX0_seekRound_J9_floorDiv_7cf53 rfl rfl rfl (by decide +kernel) ⟨Nat.le_of_ble_eq_true rfl, Nat.le_of_ble_eq_true rfl⟩) ⟨fun a U g mk q => q, fun U hU hW => ⟨rfl, trivial⟩⟩ rfl rfl hl.1 rfl (lv_room (Nat.le_of_ble_eq_true rfl)) dX0_seekRound_126 ⟨Nat.zero_le _, Nat.zero_le _⟩) ?_
          refine z_iadd (pc := 129) hx hb dX0_seekRound_129 ?_
          refine lv_istore (lv' := [(5, vI (tn + ((goZ p0 p1 ph) / 1000))), (7, vI (goZ p0 p1 ph)), (6, vI tk), (4, vI ph), (0, .ref bA), (1, vI p0), (2, vI p1)]) (pc := 130) hx hb dX0_seekRound_130 hl (by decide) rfl (fun ls hl => ?_)
          refine lv_iload (pc := 132) hx hb dX0_seekRound_132 (lv_at hl 1 rfl) ?_
          refine z_sipush (pc := 134) hx hb dX0_seekRound_134 (by decide) ?_
          refine z_callR (pc := 137) (va_runS (As := [vI (goZ p0 p1 ph), vI 1000]) (rest := []) ⟨hx, hb, hml, hown, hts⟩ (m_J9_floorMod_7cf53 l D cI cJ cZ cD 0  (goZ p0 p1 ph) 1000 (by omega) (by omega)) (va_cwS 2 hts gX0_seekRound_J9_floorMod_7cf53 rfl rfl rfl (by decide +kernel) ⟨Nat.le_of_ble_eq_true rfl, Nat.le_of_ble_eq_true rfl⟩) ⟨fun a U g mk q => q, fun U hU hW => ⟨rfl, trivial⟩⟩ rfl rfl hl.1 rfl (lv_room (Nat.le_of_ble_eq_true rfl)) dX0_seekRound_137 ⟨Nat.zero_le _, Nat.zero_le _⟩) ?_
          refine lv_istore (lv' := [(4, vI ((goZ p0 p1 ph) % 1000)), (5, vI (tn + ((goZ p0 p1 ph) / 1000))), (7, vI (goZ p0 p1 ph)), (6, vI tk), (0, .ref bA), (1, vI p0), (2, vI p1)]) (pc := 140) hx hb dX0_seekRound_140 hl (by decide) rfl (fun ls hl => ?_)
          refine lv_iinc (v := zI (tk + 1)) (lv' := [(6, vI (tk + 1)), (4, vI ((goZ p0 p1 ph) % 1000)), (5, vI (tn + ((goZ p0 p1 ph) / 1000))), (7, vI (goZ p0 p1 ph)), (0, .ref bA), (1, vI p0), (2, vI p1)]) (pc := 142) hx hb dX0_seekRound_142 hl (k := 3) rfl (zI_add _ _) (by decide) rfl (fun ls hl => ?_)
          refine lv_goto (pc := 145) (tgt := 19) hx hb dX0_seekRound_145 (by decide) ?_
          exact ih_19 (tk + 1) ((goZ p0 p1 ph) % 1000) (tn + ((goZ p0 p1 ph) / 1000)) (uZ sI ph (b_search + 1)) (uZ tA ph tk) (uZ tN ph tn) (by omega) (by rw [i2, show Int.toNat (tk + 1) = Int.toNat tk + 1 by omega]; rfl) (by omega) (by rw [show Int.toNat (tk + 1) = Int.toNat tk + 1 by omega, i4, i2]; rfl) (by have q := skI_step (by omega) i5 (by rw [← i2]; exact hc_38t); rw [← i2, ← i4, show ((Int.toNat tk : Nat) : Int) = tk by omega] at q; rw [show Int.toNat (tk + 1) = Int.toNat tk + 1 by omega]; exact q) (by omega) _ _ (hP.sub [0, 1, 2, 3] rfl) (hD.sub [0, 1, 2, 3] (by decide) rfl) hS _ (lv_sub hl [0, 2, 1, 4, 5, 6] rfl)
        · have hc_38f := c_2
          obtain ⟨q1, q2, q3⟩ := skI_hit h2 i5 (by rw [← i2]; exact hc_38f)
          rw [← i2] at q1 q2
          refine lv_aload_n (pc := 41) hx hb dX0_seekRound_41 rfl (lv_at hl 3 rfl) ?_
          refine lv_aload_n (pc := 42) hx hb dX0_seekRound_42 rfl (lv_at hl 3 rfl) ?_
          refine va_get (pc := 43) (D := D) (ci := 0) (v := .ref b_tickAt) (C := RX0) (T := TX0) (N := 7) hx hb hts in_X0 hown hK hP 0 rfl rfl 1 (by decide) fl_13 (fun _ h9 => h9) rfl dX0_seekRound_43 ?_
          refine lv_iload (pc := 46) hx hb dX0_seekRound_46 (lv_at hl 2 rfl) ?_
          refine z_iald (pc := 48) hx hb hK hP 2 0 (by omega) rfl rfl (by first | decide | omega) dX0_seekRound_48 ?_
          refine va_put (pc := 49) (D := D) (ci := 0) (v := vI (tA ph)) (ty := .int) (C := RX0) (T := TX0) (N := 7) hx hb hts in_X0 tyX0 tyX0_ok nmX0 hown hK hP hD hS 0 rfl rfl 6 (by decide) fl_26 (fun _ h9 => h9) rfl (by decide +kernel) rfl rfl (Nat.le_of_ble_eq_true rfl) dX0_seekRound_49 (fun H locs hP hD hS => ?_)
          have hP : va_P D vwCl [(bA, .inr (0, [.ref b_seenIn, .ref b_tickAt, .ref b_turnsAt, vI (b_search + 1), vI b_foundPeriod, vI b_foundTurns, vI (tA ph)])), (b_seenIn, .inl (cI, 1000, .inl (aI sI))), (b_tickAt, .inl (cI, 1000, .inl (aI tA))), (b_turnsAt, .inl (cI, 1000, .inl (aI tN)))] H := hP
          have hD : va_D A [(bA, .inr (0, [.ref b_seenIn, .ref b_tickAt, .ref b_turnsAt, vI (b_search + 1), vI b_foundPeriod, vI b_foundTurns, vI (tA ph)])), (b_seenIn, .inl (cI, 1000, .inl (aI sI))), (b_tickAt, .inl (cI, 1000, .inl (aI tA))), (b_turnsAt, .inl (cI, 1000, .inl (aI tN)))] := hD
          refine lv_aload_n (pc := 52) hx hb dX0_seekRound_52 rfl (lv_at hl 3 rfl) ?_
          refine lv_iload (pc := 53) hx hb dX0_seekRound_53 (lv_at hl 0 rfl) ?_
          refine lv_aload_n (pc := 55) hx hb dX0_seekRound_55 rfl (lv_at hl 3 rfl) ?_
          refine va_get (pc := 56) (D := D) (ci := 0) (v := .ref b_tickAt) (C := RX0) (T := TX0) (N := 7) hx hb hts in_X0 hown hK hP 0 rfl rfl 1 (by decide) fl_13 (fun _ h9 => h9) rfl dX0_seekRound_56 ?_
          refine lv_iload (pc := 59) hx hb dX0_seekRound_59 (lv_at hl 2 rfl) ?_
          refine z_iald (pc := 61) hx hb hK hP 2 0 (by omega) rfl rfl (by first | decide | omega) dX0_seekRound_61 ?_
          refine z_isub (pc := 62) hx hb dX0_seekRound_62 ?_
          refine va_put (pc := 63) (D := D) (ci := 0) (v := vI (tk - (tA ph))) (ty := .int) (C := RX0) (T := TX0) (N := 7) hx hb hts in_X0 tyX0 tyX0_ok nmX0 hown hK hP hD hS 0 rfl rfl 4 (by decide) fl_19 (fun _ h9 => h9) rfl (by decide +kernel) rfl rfl (Nat.le_of_ble_eq_true rfl) dX0_seekRound_63 (fun H locs hP hD hS => ?_)
          have hP : va_P D vwCl [(bA, .inr (0, [.ref b_seenIn, .ref b_tickAt, .ref b_turnsAt, vI (b_search + 1), vI (tk - (tA ph)), vI b_foundTurns, vI (tA ph)])), (b_seenIn, .inl (cI, 1000, .inl (aI sI))), (b_tickAt, .inl (cI, 1000, .inl (aI tA))), (b_turnsAt, .inl (cI, 1000, .inl (aI tN)))] H := hP
          have hD : va_D A [(bA, .inr (0, [.ref b_seenIn, .ref b_tickAt, .ref b_turnsAt, vI (b_search + 1), vI (tk - (tA ph)), vI b_foundTurns, vI (tA ph)])), (b_seenIn, .inl (cI, 1000, .inl (aI sI))), (b_tickAt, .inl (cI, 1000, .inl (aI tA))), (b_turnsAt, .inl (cI, 1000, .inl (aI tN)))] := hD
          refine lv_aload_n (pc := 66) hx hb dX0_seekRound_66 rfl (lv_at hl 3 rfl) ?_
          refine lv_iload (pc := 67) hx hb dX0_seekRound_67 (lv_at hl 1 rfl) ?_
          refine lv_aload_n (pc := 69) hx hb dX0_seekRound_69 rfl (lv_at hl 3 rfl) ?_
          refine va_get (pc := 70) (D := D) (ci := 0) (v := .ref b_turnsAt) (C := RX0) (T := TX0) (N := 7) hx hb hts in_X0 hown hK hP 0 rfl rfl 2 (by decide) fl_16 (fun _ h9 => h9) rfl dX0_seekRound_70 ?_
          refine lv_iload (pc := 73) hx hb dX0_seekRound_73 (lv_at hl 2 rfl) ?_
          refine z_iald (pc := 75) hx hb hK hP 3 0 (by omega) rfl rfl (by first | decide | omega) dX0_seekRound_75 ?_
          refine z_isub (pc := 76) hx hb dX0_seekRound_76 ?_
          refine va_put (pc := 77) (D := D) (ci := 0) (v := vI (tn - (tN ph))) (ty := .int) (C := RX0) (T := TX0) (N := 7) hx hb hts in_X0 tyX0 tyX0_ok nmX0 hown hK hP hD hS 0 rfl rfl 5 (by decide) fl_23 (fun _ h9 => h9) rfl (by decide +kernel) rfl rfl (Nat.le_of_ble_eq_true rfl) dX0_seekRound_77 (fun H locs hP hD hS => ?_)
          have hP : va_P D vwCl [(bA, .inr (0, [.ref b_seenIn, .ref b_tickAt, .ref b_turnsAt, vI (b_search + 1), vI (tk - (tA ph)), vI (tn - (tN ph)), vI (tA ph)])), (b_seenIn, .inl (cI, 1000, .inl (aI sI))), (b_tickAt, .inl (cI, 1000, .inl (aI tA))), (b_turnsAt, .inl (cI, 1000, .inl (aI tN)))] H := hP
          have hD : va_D A [(bA, .inr (0, [.ref b_seenIn, .ref b_tickAt, .ref b_turnsAt, vI (b_search + 1), vI (tk - (tA ph)), vI (tn - (tN ph)), vI (tA ph)])), (b_seenIn, .inl (cI, 1000, .inl (aI sI))), (b_tickAt, .inl (cI, 1000, .inl (aI tA))), (b_turnsAt, .inl (cI, 1000, .inl (aI tN)))] := hD
          have he_0 : (tk - (tA ph)) = (perZ p0 p1 p2) := by rw [q1]; unfold perZ; omega
          rw [he_0] at hP hD
          have he_1 : (tn - (tN ph)) = (trnZ p0 p1 p2) := by rw [i4, q2]; unfold trnZ; rw [← q3]
          rw [he_1] at hP hD
          have he_2 : (tA ph) = (ledZ p0 p1 p2) := by exact q1
          rw [he_2] at hP hD
          have hP9 := hP.sub (ws' := [(bA, .inr (0, [.ref b_seenIn, .ref b_tickAt, .ref b_turnsAt, vI (b_search + 1), vI (perZ p0 p1 p2), vI (trnZ p0 p1 p2), vI (ledZ p0 p1 p2)])), (b_seenIn, .inl (cI, 1000, .inl (aI sI))), (b_tickAt, .inl (cI, 1000, .inl (aI tA))), (b_turnsAt, .inl (cI, 1000, .inl (aI tN)))]) [0, 1, 2, 3] rfl
          have hD9 := hD.sub (ws' := [(bA, .inr (0, [.ref b_seenIn, .ref b_tickAt, .ref b_turnsAt, vI (b_search + 1), vI (perZ p0 p1 p2), vI (trnZ p0 p1 p2), vI (ledZ p0 p1 p2)])), (b_seenIn, .inl (cI, 1000, .inl (aI sI))), (b_tickAt, .inl (cI, 1000, .inl (aI tA))), (b_turnsAt, .inl (cI, 1000, .inl (aI tN)))]) [0, 1, 2, 3] (by decide) rfl
          have hrel : ∀ x : Int, 0 ≤ x → x < 1000 → 0 ≤ sI x ∧ sI x ≤ b_search + 1 := by exact i5.2.1
          exact W.vret (pc := 80) hx hb hr (fun t ht hW => ⟨⟨(sI, tA, tN), rfl, hrel, by rw [ht]; exact hP9, hD9⟩, hS.F ht⟩) hS.2.2 dX0_seekRound_80
  exact LP_19 (Int.toNat ((1001 - 0 + 1) + 1)) 0 p2 0 b_seenIn_c b_tickAt_c b_turnsAt_c (by omega) (by rfl) (by omega) (by rfl) (skI_0 hs) (by omega) _ _ (hP.sub [0, 1, 2, 3] rfl) (hD.sub [0, 1, 2, 3] (by decide) rfl) hS _ (lv_sub hl [0, 1, 2, 3, 4, 5] rfl)

set_option maxHeartbeats 4000000 in
set_option maxRecDepth 100000 in
theorem m_X0_countLocks (l : Launch) (D : va_G) (cI cJ cZ cD : ClassId) (sz : Nat) (bA : Nat) (b_seenIn : Nat) (b_tickAt : Nat) (b_turnsAt : Nat) (b_search : Int) (b_foundPeriod : Int) (b_foundTurns : Int) (b_foundLead : Int) (b_seenIn_c : Int → Int) (b_tickAt_c : Int → Int) (b_turnsAt_c : Int → Int) (p0 : Int) (p1 : Int) (p2 : Int) (h0 : 0 ≤ p0 ∧ p0 ≤ 300) (h1 : 0 ≤ p1 ∧ p1 ≤ 100) (h2 : 1 ≤ p2 ∧ p2 ≤ 100) (hs0 : 0 ≤ b_search ∧ b_search < 1000000000) (hs : ∀ x : Int, 0 ≤ x → x < 1000 → 0 ≤ b_seenIn_c x ∧ b_seenIn_c x ≤ b_search) : Met l yX0_countLocks wsX0_countLocks ({ frames := 3, cells := 0, slots := 0, locals := 71 } : Room) (zPc D (TY cI cJ cZ cD) sz [.ref bA, vI p0, vI p1, vI p2] [(bA, .inr (0, [.ref b_seenIn, .ref b_tickAt, .ref b_turnsAt, vI b_search, vI b_foundPeriod, vI b_foundTurns, vI b_foundLead])), (b_seenIn, .inl (cI, 1000, .inl (aI b_seenIn_c))), (b_tickAt, .inl (cI, 1000, .inl (aI b_tickAt_c))), (b_turnsAt, .inl (cI, 1000, .inl (aI b_turnsAt_c)))]) (va_Qi (fun (r : Int32) (u : (Int → Int) × (Int → Int) × (Int → Int) × Int × Int × Int) => match u with | (sI, tA, tN, pe, tu, le) => r = zI (smZ (lkZ p0 p1 p2) 1000) ∧ (∀ x : Int, 0 ≤ x → x < 1000 → 0 ≤ sI x ∧ sI x ≤ b_search + 1000)) (zB D (va_A [(bA, .inr (0, [.ref b_seenIn, .ref b_tickAt, .ref b_turnsAt, vI b_search, vI b_foundPeriod, vI b_foundTurns, vI b_foundLead])), (b_seenIn, .inl (cI, 1000, .inl (aI b_seenIn_c))), (b_tickAt, .inl (cI, 1000, .inl (aI b_tickAt_c))), (b_turnsAt, .inl (cI, 1000, .inl (aI b_turnsAt_c)))] sz) (fun (u : (Int → Int) × (Int → Int) × (Int → Int) × Int × Int × Int) => match u with | (sI, tA, tN, pe, tu, le) => [(bA, .inr (0, [.ref b_seenIn, .ref b_tickAt, .ref b_turnsAt, vI (b_search + 1000), vI pe, vI tu, vI le])), (b_seenIn, .inl (cI, 1000, .inl (aI sI))), (b_tickAt, .inl (cI, 1000, .inl (aI tA))), (b_turnsAt, .inl (cI, 1000, .inl (aI tN)))])) (va_A [(bA, .inr (0, [.ref b_seenIn, .ref b_tickAt, .ref b_turnsAt, vI b_search, vI b_foundPeriod, vI b_foundTurns, vI b_foundLead])), (b_seenIn, .inl (cI, 1000, .inl (aI b_seenIn_c))), (b_tickAt, .inl (cI, 1000, .inl (aI b_tickAt_c))), (b_turnsAt, .inl (cI, 1000, .inl (aI b_turnsAt_c)))] sz)) 0 0 (va_A [(bA, .inr (0, [.ref b_seenIn, .ref b_tickAt, .ref b_turnsAt, vI b_search, vI b_foundPeriod, vI b_foundTurns, vI b_foundLead])), (b_seenIn, .inl (cI, 1000, .inl (aI b_seenIn_c))), (b_tickAt, .inl (cI, 1000, .inl (aI b_tickAt_c))), (b_turnsAt, .inl (cI, 1000, .inl (aI b_turnsAt_c)))] sz) := by
  refine Met.ofW (cc := cX0_countLocks) (maxL := 6) (ret := (some .int)) (by decide) rfl ?_
  intro p e s m args below meth c s₁ B hml hv
  obtain ⟨rfl, hsz, hP, hK, hD0, hN⟩ := hv
  have hx := B.exec
  have hb := B.bytes
  have hr := B.returns
  have hts := atoms_spec (ws := wsX0_countLocks) B.pre
  have hown : s.vm.findClass RX0 = some m.cls := findClass_of_methodNamed B.named
  have hlocks := B.notSynchronized
  subst hsz
  have hD := hD0.self (sz := s.heap.size)
  generalize hAe : va_A [(bA, .inr (0, [.ref b_seenIn, .ref b_tickAt, .ref b_turnsAt, vI b_search, vI b_foundPeriod, vI b_foundTurns, vI b_foundLead])), (b_seenIn, .inl (cI, 1000, .inl (aI b_seenIn_c))), (b_tickAt, .inl (cI, 1000, .inl (aI b_tickAt_c))), (b_turnsAt, .inl (cI, 1000, .inl (aI b_turnsAt_c)))] s.heap.size = A at hD ⊢
  have hA : ∀ q : Nat, s.heap.size ≤ q → A q := fun q h => by rw [← hAe]; exact Or.inr h
  have hS : va_S A s.heap s.heap [] := va_S.rf
  have hP : va_P D vwCl [(bA, .inr (0, [.ref b_seenIn, .ref b_tickAt, .ref b_turnsAt, vI b_search, vI b_foundPeriod, vI b_foundTurns, vI b_foundLead])), (b_seenIn, .inl (cI, 1000, .inl (aI b_seenIn_c))), (b_tickAt, .inl (cI, 1000, .inl (aI b_tickAt_c))), (b_turnsAt, .inl (cI, 1000, .inl (aI b_turnsAt_c)))] s.heap := hP
  have fl_19 := hts (.fieldLink RX0 19 "PendulumHall$Beam" "foundPeriod" "I") (by decide +kernel)
  have fl_23 := hts (.fieldLink RX0 23 "PendulumHall$Beam" "foundTurns" "I") (by decide +kernel)
  have in_X0 : ∀ w ∈ wsX00, w ∈ wsX0_countLocks := by decide +kernel
  have hl := lv_entry ([.ref bA, vI p0, vI p1, vI p2]) (n := 6) (Nat.le_of_ble_eq_true rfl)
  rw [lg_entry_eq]
  generalize (lg_sl ([.ref bA, vI p0, vI p1, vI p2]) ++ List.replicate (6 - (lg_sl ([.ref bA, vI p0, vI p1, vI p2])).length) Slot.unset).toArray = ls at hl ⊢
  have hl : lv_has ls 6 [(0, .ref bA), (1, vI p0), (2, vI p1), (3, vI p2)] := hl
  refine z_iconst (pc := 0) hx hb dX0_countLocks_0 ?_
  refine lv_istore (lv' := [(4, vI 0), (0, .ref bA), (1, vI p0), (2, vI p1), (3, vI p2)]) (pc := 1) hx hb dX0_countLocks_1 hl (by decide) rfl (fun ls hl => ?_)
  refine z_iconst (pc := 3) hx hb dX0_countLocks_3 ?_
  refine lv_istore (lv' := [(5, vI 0), (4, vI 0), (0, .ref bA), (1, vI p0), (2, vI p1), (3, vI p2)]) (pc := 4) hx hb dX0_countLocks_4 hl (by decide) rfl (fun ls hl => ?_)
  have LP_6 : ∀ (nfu : Nat) (w : Int) (lk : Int) (sr : Int) (sI : Int → Int) (tA : Int → Int) (tN : Int → Int) (pe : Int) (tu : Int) (le : Int) (i1 : 0 ≤ w ∧ w ≤ 1000) (i2 : lk = smZ (lkZ p0 p1 p2) (Int.toNat w)) (i3 : sr = b_search + w) (i4 : ∀ x : Int, 0 ≤ x → x < 1000 → 0 ≤ sI x ∧ sI x ≤ sr) (hme : 1000 - w + 1 < (nfu : Int)) (H : Heap) (locs : List Loc) (hP : va_P D vwCl [(bA, .inr (0, [.ref b_seenIn, .ref b_tickAt, .ref b_turnsAt, vI sr, vI pe, vI tu, vI le])), (b_seenIn, .inl (cI, 1000, .inl (aI sI))), (b_tickAt, .inl (cI, 1000, .inl (aI tA))), (b_turnsAt, .inl (cI, 1000, .inl (aI tN)))] H) (hD : va_D A [(bA, .inr (0, [.ref b_seenIn, .ref b_tickAt, .ref b_turnsAt, vI sr, vI pe, vI tu, vI le])), (b_seenIn, .inl (cI, 1000, .inl (aI sI))), (b_tickAt, .inl (cI, 1000, .inl (aI tA))), (b_turnsAt, .inl (cI, 1000, .inl (aI tN)))]) (hS : va_S A s.heap H locs) (ls : Array Slot) (hl : lv_has ls 6 [(5, vI w), (4, vI lk), (0, .ref bA), (1, vI p0), (2, vI p1), (3, vI p2)]), W p l e (headSpec wsX0_countLocks ({ frames := 3, cells := 0, slots := 0, locals := 71 } : Room)).room s m ([.ref bA, vI p0, vI p1, vI p2] : List Value).toArray below meth c H locs 0 0 (MQ below (va_Qi (fun (r : Int32) (u : (Int → Int) × (Int → Int) × (Int → Int) × Int × Int × Int) => match u with | (sI, tA, tN, pe, tu, le) => r = zI (smZ (lkZ p0 p1 p2) 1000) ∧ (∀ x : Int, 0 ≤ x → x < 1000 → 0 ≤ sI x ∧ sI x ≤ b_search + 1000)) (zB D A (fun (u : (Int → Int) × (Int → Int) × (Int → Int) × Int × Int × Int) => match u with | (sI, tA, tN, pe, tu, le) => [(bA, .inr (0, [.ref b_seenIn, .ref b_tickAt, .ref b_turnsAt, vI (b_search + 1000), vI pe, vI tu, vI le])), (b_seenIn, .inl (cI, 1000, .inl (aI sI))), (b_tickAt, .inl (cI, 1000, .inl (aI tA))), (b_turnsAt, .inl (cI, 1000, .inl (aI tN)))])) A) ([.ref bA, vI p0, vI p1, vI p2] : List Value).toArray s 0 0 A) (F0 m 6 ls []) := by
    intro nfu
    induction nfu with
    | zero =>
      intro w lk sr sI tA tN pe tu le i1 i2 i3 i4 hme H locs hP hD hS ls hl
      exact absurd hme (by omega)
    | succ nfu ih_6 =>
      intro w lk sr sI tA tN pe tu le i1 i2 i3 i4 hme H locs hP hD hS ls hl
      refine lv_iload (pc := 6) hx hb dX0_countLocks_6 (lv_at hl 0 rfl) ?_
      refine z_sipush (pc := 8) hx hb dX0_countLocks_8 (by decide) ?_
      refine z_icmp_ge (pc := 11) (tgt := 46) hx hb dX0_countLocks_11 (by decide) (by omega) (by decide) (fun c_1 => ?_) (fun c_1 => ?_)
      · have hc_11t := c_1
        refine lv_iload (pc := 46) hx hb dX0_countLocks_46 (lv_at hl 1 rfl) ?_
        have he_0 : (sr) = (b_search + 1000) := by omega
        rw [he_0] at hP hD
        have hP9 := hP.sub (ws' := [(bA, .inr (0, [.ref b_seenIn, .ref b_tickAt, .ref b_turnsAt, vI (b_search + 1000), vI pe, vI tu, vI le])), (b_seenIn, .inl (cI, 1000, .inl (aI sI))), (b_tickAt, .inl (cI, 1000, .inl (aI tA))), (b_turnsAt, .inl (cI, 1000, .inl (aI tN)))]) [0, 1, 2, 3] rfl
        have hD9 := hD.sub (ws' := [(bA, .inr (0, [.ref b_seenIn, .ref b_tickAt, .ref b_turnsAt, vI (b_search + 1000), vI pe, vI tu, vI le])), (b_seenIn, .inl (cI, 1000, .inl (aI sI))), (b_tickAt, .inl (cI, 1000, .inl (aI tA))), (b_turnsAt, .inl (cI, 1000, .inl (aI tN)))]) [0, 1, 2, 3] (by decide) rfl
        have hrel : ∀ x : Int, 0 ≤ x → x < 1000 → 0 ≤ sI x ∧ sI x ≤ b_search + 1000 := by rw [show b_search + 1000 = sr by omega]; exact i4
        have hv : (lk) = (smZ (lkZ p0 p1 p2) 1000) := by rw [i2, show w = 1000 by omega]; rfl
        exact W.iret (pc := 48) (v := zI lk) hx hb hr (fun t ht hW => ⟨⟨zI lk, (sI, tA, tN, pe, tu, le), rfl, ⟨congrArg zI hv, hrel⟩, by rw [ht]; exact hP9, hD9⟩, hS.F ht⟩) hS.2.2 dX0_countLocks_48
      · have hc_11f := c_1
        refine lv_aload_n (pc := 14) hx hb dX0_countLocks_14 rfl (lv_at hl 2 rfl) ?_
        refine lv_iload (pc := 15) hx hb dX0_countLocks_15 (lv_at hl 0 rfl) ?_
        refine lv_iload_n (pc := 17) hx hb dX0_countLocks_17 rfl (lv_at hl 3 rfl) ?_
        refine z_iconst (pc := 18) hx hb dX0_countLocks_18 ?_
        have hPc := hP.sub (ws' := [(bA, .inr (0, [.ref b_seenIn, .ref b_tickAt, .ref b_turnsAt, vI sr, vI pe, vI tu, vI le])), (b_seenIn, .inl (cI, 1000, .inl (aI sI))), (b_tickAt, .inl (cI, 1000, .inl (aI tA))), (b_turnsAt, .inl (cI, 1000, .inl (aI tN)))]) [0, 1, 2, 3] rfl
        have hDc := hD.sub (ws' := [(bA, .inr (0, [.ref b_seenIn, .ref b_tickAt, .ref b_turnsAt, vI sr, vI pe, vI tu, vI le])), (b_seenIn, .inl (cI, 1000, .inl (aI sI))), (b_tickAt, .inl (cI, 1000, .inl (aI tA))), (b_turnsAt, .inl (cI, 1000, .inl (aI tN)))]) [0, 1, 2, 3] (by decide) rfl
        refine z_callWv (pc := 19) (wc := [(bA, .inr (0, [.ref b_seenIn, .ref b_tickAt, .ref b_turnsAt, vI sr, vI pe, vI tu, vI le])), (b_seenIn, .inl (cI, 1000, .inl (aI sI))), (b_tickAt, .inl (cI, 1000, .inl (aI tA))), (b_turnsAt, .inl (cI, 1000, .inl (aI tN)))]) hP hD hS hA [0, 1, 2, 3] [] [] rfl rfl (by decide) (by decide) (va_runV (As := [vI w, vI p0, vI 0]) (rest := []) ⟨hx, hb, hml, hown, hts⟩ (m_X0_seekRound l D cI cJ cZ cD H.size bA b_seenIn b_tickAt b_turnsAt sr pe tu le sI tA tN w p0 0 (by omega) (by omega) (by omega) (by omega) i4) (cwV 3 hts gX0_countLocks_X0_seekRound rfl rfl rfl (by decide +kernel) ⟨Nat.le_of_ble_eq_true rfl, Nat.le_of_ble_eq_true rfl⟩) ⟨z_blind, va_recv hK hPc (ci := 0) (q0 := 0) rfl rfl, z_pre hPc hK hDc rfl rfl hN⟩ rfl rfl hl.1 rfl (lv_room (Nat.le_of_ble_eq_true rfl)) dX0_countLocks_19 ⟨Nat.zero_le _, Nat.zero_le _⟩) (fun u H locs hw hP hD hS => ?_)
        obtain ⟨u_2, u_3, u_4⟩ := u
        have hw_5 := hw
        have hw_5 : ∀ x : Int, 0 ≤ x → x < 1000 → 0 ≤ u_2 x ∧ u_2 x ≤ sr + 1 := hw_5
        have hP : va_P D vwCl [(bA, .inr (0, [.ref b_seenIn, .ref b_tickAt, .ref b_turnsAt, vI (sr + 1), vI (perZ w p0 0), vI (trnZ w p0 0), vI (ledZ w p0 0)])), (b_seenIn, .inl (cI, 1000, .inl (aI u_2))), (b_tickAt, .inl (cI, 1000, .inl (aI u_3))), (b_turnsAt, .inl (cI, 1000, .inl (aI u_4)))] H := hP
        have hD : va_D A [(bA, .inr (0, [.ref b_seenIn, .ref b_tickAt, .ref b_turnsAt, vI (sr + 1), vI (perZ w p0 0), vI (trnZ w p0 0), vI (ledZ w p0 0)])), (b_seenIn, .inl (cI, 1000, .inl (aI u_2))), (b_tickAt, .inl (cI, 1000, .inl (aI u_3))), (b_turnsAt, .inl (cI, 1000, .inl (aI u_4)))] := hD
        refine lv_aload_n (pc := 22) hx hb dX0_countLocks_22 rfl (lv_at hl 2 rfl) ?_
        refine va_get (pc := 23) (D := D) (ci := 0) (v := vI (trnZ w p0 0)) (C := RX0) (T := TX0) (N := 7) hx hb hts in_X0 hown hK hP 0 rfl rfl 5 (by decide) fl_23 (fun _ h9 => h9) rfl dX0_countLocks_23 ?_
        refine lv_iload_n (pc := 26) hx hb dX0_countLocks_26 rfl (lv_at hl 5 rfl) ?_
        refine z_imul (pc := 27) hx hb dX0_countLocks_27 ?_
        refine lv_iload_n (pc := 28) hx hb dX0_countLocks_28 rfl (lv_at hl 4 rfl) ?_
        refine lv_aload_n (pc := 29) hx hb dX0_countLocks_29 rfl (lv_at hl 2 rfl) ?_
        refine va_get (pc := 30) (D := D) (ci := 0) (v := vI (perZ w p0 0)) (C := RX0) (T := TX0) (N := 7) hx hb hts in_X0 hown hK hP 0 rfl rfl 4 (by decide) fl_19 (fun _ h9 => h9) rfl dX0_countLocks_30 ?_
        refine z_imul (pc := 33) hx hb dX0_countLocks_33 ?_
        have hq := rnd_rng (w := w) (c := p0) (d := 0) (by omega) h0 (by decide)
        have hm1 := z_mulr (a := p2) (A := 100) ⟨by omega, by omega⟩ hq.2.1
        have e1 : trnZ w p0 0 * p2 = p2 * trnZ w p0 0 := Int.mul_comm _ _
        have hm2 := z_mulr (a := p1) (A := 100) h1 (b := perZ w p0 0) (B := 1000) (by omega)
        refine z_icmp_ne (pc := 34) (tgt := 40) hx hb dX0_countLocks_34 (by decide) (by omega) (by omega) (fun c_6 => ?_) (fun c_6 => ?_)
        · have hc_34t := c_6
          refine lv_iinc (v := zI (w + 1)) (lv' := [(5, vI (w + 1)), (4, vI lk), (0, .ref bA), (1, vI p0), (2, vI p1), (3, vI p2)]) (pc := 40) hx hb dX0_countLocks_40 hl (k := 0) rfl (zI_add _ _) (by decide) rfl (fun ls hl => ?_)
          refine lv_goto (pc := 43) (tgt := 6) hx hb dX0_countLocks_43 (by decide) ?_
          exact ih_6 (w + 1) lk (sr + 1) u_2 u_3 u_4 (perZ w p0 0) (trnZ w p0 0) (ledZ w p0 0) (by omega) (by first | (rw [smZ_toNat _ i1.1, ← i2, show lkZ p0 p1 p2 w = 1 from pI_t hc_34f]) | (rw [smZ_toNat _ i1.1, ← i2, show lkZ p0 p1 p2 w = 0 from pI_f hc_34t, Int.add_zero])) (by omega) (hw_5) (by omega) _ _ (hP.sub [0, 1, 2, 3] rfl) (hD.sub [0, 1, 2, 3] (by decide) rfl) hS _ (lv_sub hl [0, 1, 2, 3, 4, 5] rfl)
        · have hc_34f := c_6
          refine lv_iinc (v := zI (lk + 1)) (lv' := [(4, vI (lk + 1)), (5, vI w), (0, .ref bA), (1, vI p0), (2, vI p1), (3, vI p2)]) (pc := 37) hx hb dX0_countLocks_37 hl (k := 1) rfl (zI_add _ _) (by decide) rfl (fun ls hl => ?_)
          refine lv_iinc (v := zI (w + 1)) (lv' := [(5, vI (w + 1)), (4, vI (lk + 1)), (0, .ref bA), (1, vI p0), (2, vI p1), (3, vI p2)]) (pc := 40) hx hb dX0_countLocks_40 hl (k := 1) rfl (zI_add _ _) (by decide) rfl (fun ls hl => ?_)
          refine lv_goto (pc := 43) (tgt := 6) hx hb dX0_countLocks_43 (by decide) ?_
          exact ih_6 (w + 1) (lk + 1) (sr + 1) u_2 u_3 u_4 (perZ w p0 0) (trnZ w p0 0) (ledZ w p0 0) (by omega) (by first | (rw [smZ_toNat _ i1.1, ← i2, show lkZ p0 p1 p2 w = 1 from pI_t hc_34f]) | (rw [smZ_toNat _ i1.1, ← i2, show lkZ p0 p1 p2 w = 0 from pI_f hc_34t, Int.add_zero])) (by omega) (hw_5) (by omega) _ _ (hP.sub [0, 1, 2, 3] rfl) (hD.sub [0, 1, 2, 3] (by decide) rfl) hS _ (lv_sub hl [0, 1, 2, 3, 4, 5] rfl)
  exact LP_6 (Int.toNat ((1000 - 0 + 1) + 1)) 0 0 b_search b_seenIn_c b_tickAt_c b_turnsAt_c b_foundPeriod b_foundTurns b_foundLead (by omega) (by rfl) (by omega) (hs) (by omega) _ _ (hP.sub [0, 1, 2, 3] rfl) (hD.sub [0, 1, 2, 3] (by decide) rfl) hS _ (lv_sub hl [0, 1, 2, 3, 4, 5] rfl)
