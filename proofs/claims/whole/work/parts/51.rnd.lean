set_option maxHeartbeats 4000000 in
set_option maxRecDepth 100000 in
theorem m_J7_fill_d0a16 (l : Launch) (D : va_G) (cI cJ cZ cD : ClassId) (sz : Nat) (f0 : Int → Int) (nn : Nat) (p0 : Nat) (p1 : Int) (hn : nn < 100000) : Met l yJ7_fill_d0a16 wsJ7_fill_d0a16 ({ frames := 0, cells := 0, slots := 0, locals := 0 } : Room) (zPc D (TY cI cJ cZ cD) sz [.ref p0, vL p1] [(p0, .inl (cJ, nn, .inr (.inl (aL f0))))]) (va_Qv (fun (u : Unit) => match u with | _ => True) (zB D (va_A [(p0, .inl (cJ, nn, .inr (.inl (aL f0))))] sz) (fun (u : Unit) => match u with | _ => [(p0, .inl (cJ, nn, .inr (.inl (aL (flZ f0 p1 nn)))))])) (va_A [(p0, .inl (cJ, nn, .inr (.inl (aL f0))))] sz)) 0 0 (va_A [(p0, .inl (cJ, nn, .inr (.inl (aL f0))))] sz) := by
  refine va_MetF (cc := cJ7_fill_d0a16) (maxL := 5) (ret := none) (by decide +kernel) rfl ?_
  intro p e s m args below meth c s₁ B hml hv
  obtain ⟨rfl, hsz, hP, hK, hD0, hN⟩ := hv
  have hx := B.exec
  have hb := B.bytes
  have hr := B.returns
  have hts := atoms_spec (ws := wsJ7_fill_d0a16) B.pre
  have hown : s.vm.findClass RJ7 = some m.cls := findClass_of_methodNamed B.named
  have hlocks := B.notSynchronized
  subst hsz
  have hD := hD0.self (sz := s.heap.size)
  generalize hAe : va_A [(p0, .inl (cJ, nn, .inr (.inl (aL f0))))] s.heap.size = A at hD ⊢
  have hA : ∀ q : Nat, s.heap.size ≤ q → A q := fun q h => by rw [← hAe]; exact Or.inr h
  have hS : va_S A s.heap s.heap [] := va_S.rf
  have hP : va_P D vwCl [(p0, .inl (cJ, nn, .inr (.inl (aL f0))))] s.heap := hP
  have hl := lv_entry ([.ref p0, vL p1]) (n := 5) (Nat.le_of_ble_eq_true rfl)
  rw [lg_entry_eq]
  generalize (lg_sl ([.ref p0, vL p1]) ++ List.replicate (5 - (lg_sl ([.ref p0, vL p1])).length) Slot.unset).toArray = ls at hl ⊢
  have hl : lv_has ls 5 [(0, .ref p0), (1, vL p1)] := hl
  refine z_iconst (pc := 0) hx hb dJ7_fill_d0a16_0 ?_
  refine lv_istore_n (lv' := [(3, vI 0), (0, .ref p0), (1, vL p1)]) (pc := 1) hx hb dJ7_fill_d0a16_1 rfl hl (by decide) rfl (fun ls hl => ?_)
  refine lv_aload_n (pc := 2) hx hb dJ7_fill_d0a16_2 rfl (lv_at hl 1 rfl) ?_
  refine z_alen (pc := 3) hx hb hK hP 0 1 rfl rfl dJ7_fill_d0a16_3 ?_
  refine z_topI (z := nn) rfl ?_
  refine lv_istore (lv' := [(4, vI nn), (3, vI 0), (0, .ref p0), (1, vL p1)]) (pc := 4) hx hb dJ7_fill_d0a16_4 hl (by decide) rfl (fun ls hl => ?_)
  have LP_6 : ∀ (nfu : Nat) (i : Int) (f : Int → Int) (i1 : 0 ≤ i ∧ i ≤ nn) (i2 : f = flZ f0 p1 i) (hme : (nn : Int) - i + 1 < (nfu : Int)) (H : Heap) (locs : List Loc) (hP : va_P D vwCl [(p0, .inl (cJ, nn, .inr (.inl (aL f))))] H) (hD : va_D A [(p0, .inl (cJ, nn, .inr (.inl (aL f))))]) (hS : va_S A s.heap H locs) (ls : Array Slot) (hl : lv_has ls 5 [(4, vI nn), (3, vI i), (0, .ref p0), (1, vL p1)]), W p l e (headSpec wsJ7_fill_d0a16 ({ frames := 0, cells := 0, slots := 0, locals := 0 } : Room)).room s m ([.ref p0, vL p1] : List Value).toArray below meth c H locs 0 0 (MQ below (va_Qv (fun (u : Unit) => match u with | _ => True) (zB D A (fun (u : Unit) => match u with | _ => [(p0, .inl (cJ, nn, .inr (.inl (aL (flZ f0 p1 nn)))))])) A) ([.ref p0, vL p1] : List Value).toArray s 0 0 A) (F0 m 6 ls []) := by
    intro nfu
    induction nfu with
    | zero =>
      intro i f i1 i2 hme H locs hP hD hS ls hl
      exact absurd hme (by omega)
    | succ nfu ih_6 =>
      intro i f i1 i2 hme H locs hP hD hS ls hl
      refine lv_iload_n (pc := 6) hx hb dJ7_fill_d0a16_6 rfl (lv_at hl 1 rfl) ?_
      refine lv_iload (pc := 7) hx hb dJ7_fill_d0a16_7 (lv_at hl 0 rfl) ?_
      refine z_icmp_ge (pc := 9) (tgt := 22) hx hb dJ7_fill_d0a16_9 (by decide) (by omega) (by omega) (fun c_1 => ?_) (fun c_1 => ?_)
      · have hc_9t := c_1
        have he_0 : (f) = (flZ f0 p1 nn) := by rw [i2, show i = nn by omega]
        have hP : va_P D vwCl [(p0, .inl (cJ, nn, .inr (.inl (aL (flZ f0 p1 nn)))))] H := by rw [← he_0]; exact hP
        have hD : va_D A [(p0, .inl (cJ, nn, .inr (.inl (aL (flZ f0 p1 nn)))))] := by rw [← he_0]; exact hD
        have hP9 := hP.sub (ws' := [(p0, .inl (cJ, nn, .inr (.inl (aL (flZ f0 p1 nn)))))]) [0] rfl
        have hD9 := hD.sub (ws' := [(p0, .inl (cJ, nn, .inr (.inl (aL (flZ f0 p1 nn)))))]) [0] (by decide) rfl
        exact W.vret (pc := 22) hx hb hr (fun t ht hW => ⟨⟨(), rfl, trivial, by rw [ht]; exact hP9, hD9⟩, hS.F ht⟩) hS.2.2 dJ7_fill_d0a16_22
      · have hc_9f := c_1
        refine lv_aload_n (pc := 12) hx hb dJ7_fill_d0a16_12 rfl (lv_at hl 2 rfl) ?_
        refine lv_iload_n (pc := 13) hx hb dJ7_fill_d0a16_13 rfl (lv_at hl 1 rfl) ?_
        refine lv_lload_n (pc := 14) hx hb dJ7_fill_d0a16_14 rfl (lv_at hl 3 rfl) ?_
        refine z_last (pc := 15) hx hb hK hP hD hS 0 1 (by omega) rfl rfl (by first | decide | omega) dJ7_fill_d0a16_15 (fun H locs hP hD hS => ?_)
        have hP : va_P D vwCl [(p0, .inl (cJ, nn, .inr (.inl (aL (uZ f i p1)))))] H := hP
        have hD : va_D A [(p0, .inl (cJ, nn, .inr (.inl (aL (uZ f i p1)))))] := hD
        refine lv_iinc (v := zI (i + 1)) (lv' := [(3, vI (i + 1)), (4, vI nn), (0, .ref p0), (1, vL p1)]) (pc := 16) hx hb dJ7_fill_d0a16_16 hl (k := 1) rfl (zI_add _ _) (by decide) rfl (fun ls hl => ?_)
        refine lv_goto (pc := 19) (tgt := 6) hx hb dJ7_fill_d0a16_19 (by decide) ?_
        exact ih_6 (i + 1) (uZ f i p1) (by omega) (by rw [i2]; exact flZ_s _ _ i1.1) (by omega) _ _ (hP.sub [0] rfl) (hD.sub [0] (by decide) rfl) hS _ (lv_sub hl [1, 0, 2, 3] rfl)
  exact LP_6 (Int.toNat (((nn : Int) - 0 + 1) + 1)) 0 f0 (by omega) ((flZ_0 _ _).symm) (by omega) _ _ (hP.sub [0] rfl) (hD.sub [0] (by decide) rfl) hS _ (lv_sub hl [0, 1, 2, 3] rfl)

set_option maxHeartbeats 4000000 in
set_option maxRecDepth 100000 in
theorem m_X6_isSeen (l : Launch) (D : va_G) (cI cJ cZ cD : ClassId) (sz : Nat) (tA : Nat) (t_seen : Nat) (t_seen_c : Int → Int) (p0 : Int) (h0 : 0 ≤ p0 ∧ p0 < 4096) : Met l yX6_isSeen wsX6_isSeen ({ frames := 0, cells := 0, slots := 0, locals := 0 } : Room) (zPc D (TY cI cJ cZ cD) sz [.ref tA, vI p0] [(tA, .inr (4, [.ref t_seen])), (t_seen, .inl (cJ, 64, .inr (.inl (aL t_seen_c))))]) (zQr (some (vI (pI (bitZ t_seen_c p0))))) 0 0 (fun _ => False) := by
  refine Met.ofW (cc := cX6_isSeen) (maxL := 2) (ret := (some .boolean)) (by decide) rfl ?_
  intro p e s m args below meth c s₁ B hml hv
  obtain ⟨rfl, hsz, hP, hK, hD0, hN⟩ := hv
  have hx := B.exec
  have hb := B.bytes
  have hr := B.returns
  have hts := atoms_spec (ws := wsX6_isSeen) B.pre
  have hown : s.vm.findClass RX6 = some m.cls := findClass_of_methodNamed B.named
  have hlocks := B.notSynchronized
  have hD := hD0
  subst hsz
  have hP : va_P D vwCl [(tA, .inr (4, [.ref t_seen])), (t_seen, .inl (cJ, 64, .inr (.inl (aL t_seen_c))))] s.heap := hP
  have fl_11 := hts (.fieldLink RX6 11 "PendulumHall$Torus" "seen" "[J") (by decide +kernel)
  have in_X6 : ∀ w ∈ wsX60, w ∈ wsX6_isSeen := by decide +kernel
  have hl := lv_entry ([.ref tA, vI p0]) (n := 2) (Nat.le_of_ble_eq_true rfl)
  rw [lg_entry_eq]
  generalize (lg_sl ([.ref tA, vI p0]) ++ List.replicate (2 - (lg_sl ([.ref tA, vI p0])).length) Slot.unset).toArray = ls at hl ⊢
  have hl : lv_has ls 2 [(0, .ref tA), (1, vI p0)] := hl
  have t1 : Int.tdiv p0 64 = p0 / 64 := Int.tdiv_eq_ediv_of_nonneg h0.1
  have t2 : Int.tmod p0 64 = p0 % 64 := Int.tmod_eq_emod_of_nonneg h0.1
  refine lv_aload_n (pc := 0) hx hb dX6_isSeen_0 rfl (lv_at hl 0 rfl) ?_
  refine va_get (pc := 1) (D := D) (ci := 4) (v := .ref t_seen) (C := RX6) (T := TX6) (N := 1) hx hb hts in_X6 hown hK hP 0 rfl rfl 0 (by decide) fl_11 (fun _ h9 => h9) rfl dX6_isSeen_1 ?_
  refine lv_iload_n (pc := 4) hx hb dX6_isSeen_4 rfl (lv_at hl 1 rfl) ?_
  refine z_bipush (pc := 5) hx hb dX6_isSeen_5 (by decide) ?_
  refine z_idiv (pc := 7) hx hb dX6_isSeen_7 (by omega) (by decide) ?_
  refine z_lald (pc := 8) hx hb hK hP 1 1 (by omega) rfl rfl (by first | decide | omega) dX6_isSeen_8 ?_
  refine lv_iload_n (pc := 9) hx hb dX6_isSeen_9 rfl (lv_at hl 1 rfl) ?_
  refine z_bipush (pc := 10) hx hb dX6_isSeen_10 (by decide) ?_
  refine z_irem (pc := 12) hx hb dX6_isSeen_12 (by omega) (by decide) ?_
  refine z_lshr (pc := 13) hx hb dX6_isSeen_13 ?_
  refine z_lconst (pc := 14) hx hb (z := 1) dX6_isSeen_14 (by decide) ?_
  refine z_land (pc := 15) hx hb dX6_isSeen_15 ?_
  have r1 := landZ_rng (lshrZ (t_seen_c (Int.tdiv p0 64)) (Int.tmod p0 64)) 1
  refine z_lconst (pc := 16) hx hb (z := 1) dX6_isSeen_16 (by decide) ?_
  refine z_lcmp_ne (pc := 17) (tgt := 25) hx hb dX6_isSeen_17 dX6_isSeen_18 (by decide) (by omega) (by decide) (fun c_1 => ?_) (fun c_1 => ?_)
  · have hc_17t := c_1
    refine z_iconst (pc := 25) hx hb dX6_isSeen_25 ?_
    have hv : (0 : Int) = (pI (bitZ t_seen_c p0)) := by first | exact (pI_t (by unfold bitZ; rw [← t1, ← t2]; exact hc_17f)).symm | exact (pI_f (by unfold bitZ; rw [← t1, ← t2]; exact hc_17t)).symm
    exact W.zret (pc := 26) (v := zI 0) hx hb hr (z_narB (by first | exact z_pI01 _ | omega | decide)) (fun t ht hW => ⟨congrArg (fun z => Outcome.returned (some (vI z))) hv, ht⟩) (fun q h => absurd h List.not_mem_nil) dX6_isSeen_26
  · have hc_17f := c_1
    refine z_iconst (pc := 21) hx hb dX6_isSeen_21 ?_
    refine lv_goto (pc := 22) (tgt := 26) hx hb dX6_isSeen_22 (by decide) ?_
    have hv : (1 : Int) = (pI (bitZ t_seen_c p0)) := by first | exact (pI_t (by unfold bitZ; rw [← t1, ← t2]; exact hc_17f)).symm | exact (pI_f (by unfold bitZ; rw [← t1, ← t2]; exact hc_17t)).symm
    exact W.zret (pc := 26) (v := zI 1) hx hb hr (z_narB (by first | exact z_pI01 _ | omega | decide)) (fun t ht hW => ⟨congrArg (fun z => Outcome.returned (some (vI z))) hv, ht⟩) (fun q h => absurd h List.not_mem_nil) dX6_isSeen_26

set_option maxHeartbeats 4000000 in
set_option maxRecDepth 100000 in
theorem m_X6_walkRound (l : Launch) (D : va_G) (cI cJ cZ cD : ClassId) (sz : Nat) (tA : Nat) (t_seen : Nat) (t_seen_c : Int → Int) (p0 : Int) (p1 : Int) (h0 : 0 ≤ p0 ∧ p0 < 4096) (h1 : 0 ≤ p1 ∧ p1 ≤ 200) : Met l yX6_walkRound wsX6_walkRound ({ frames := 4, cells := 0, slots := 0, locals := 88 } : Room) (zPc D (TY cI cJ cZ cD) sz [.ref tA, vI p0, vI p1] [(tA, .inr (4, [.ref t_seen])), (t_seen, .inl (cJ, 64, .inr (.inl (aL t_seen_c))))]) (va_Qi (fun (r : Int32) (u : (Int → Int)) => match u with | g => r = zI (cyZ p1 p0) ∧ (∀ x : Int, 0 ≤ x → x < 4096 → (bitZ g x ↔ bitZ t_seen_c x ∨ onR p1 p0 x))) (zB D (va_A [(tA, .inr (4, [.ref t_seen])), (t_seen, .inl (cJ, 64, .inr (.inl (aL t_seen_c))))] sz) (fun (u : (Int → Int)) => match u with | g => [(tA, .inr (4, [.ref t_seen])), (t_seen, .inl (cJ, 64, .inr (.inl (aL g))))])) (va_A [(tA, .inr (4, [.ref t_seen])), (t_seen, .inl (cJ, 64, .inr (.inl (aL t_seen_c))))] sz)) 0 0 (va_A [(tA, .inr (4, [.ref t_seen])), (t_seen, .inl (cJ, 64, .inr (.inl (aL t_seen_c))))] sz) := by
  refine Met.ofW (cc := cX6_walkRound) (maxL := 5) (ret := (some .int)) (by decide) rfl ?_
  intro p e s m args below meth c s₁ B hml hv
  obtain ⟨rfl, hsz, hP, hK, hD0, hN⟩ := hv
  have hx := B.exec
  have hb := B.bytes
  have hr := B.returns
  have hts := atoms_spec (ws := wsX6_walkRound) B.pre
  have hown : s.vm.findClass RX6 = some m.cls := findClass_of_methodNamed B.named
  have hlocks := B.notSynchronized
  subst hsz
  have hD := hD0.self (sz := s.heap.size)
  generalize hAe : va_A [(tA, .inr (4, [.ref t_seen])), (t_seen, .inl (cJ, 64, .inr (.inl (aL t_seen_c))))] s.heap.size = A at hD ⊢
  have hA : ∀ q : Nat, s.heap.size ≤ q → A q := fun q h => by rw [← hAe]; exact Or.inr h
  have hS : va_S A s.heap s.heap [] := va_S.rf
  have hP : va_P D vwCl [(tA, .inr (4, [.ref t_seen])), (t_seen, .inl (cJ, 64, .inr (.inl (aL t_seen_c))))] s.heap := hP
  have fl_11 := hts (.fieldLink RX6 11 "PendulumHall$Torus" "seen" "[J") (by decide +kernel)
  have in_X6 : ∀ w ∈ wsX60, w ∈ wsX6_walkRound := by decide +kernel
  have hl := lv_entry ([.ref tA, vI p0, vI p1]) (n := 5) (Nat.le_of_ble_eq_true rfl)
  rw [lg_entry_eq]
  generalize (lg_sl ([.ref tA, vI p0, vI p1]) ++ List.replicate (5 - (lg_sl ([.ref tA, vI p0, vI p1])).length) Slot.unset).toArray = ls at hl ⊢
  have hl : lv_has ls 5 [(0, .ref tA), (1, vI p0), (2, vI p1)] := hl
  refine lv_iload_n (pc := 0) hx hb dX6_walkRound_0 rfl (lv_at hl 1 rfl) ?_
  refine lv_istore_n (lv' := [(3, vI p0), (0, .ref tA), (1, vI p0), (2, vI p1)]) (pc := 1) hx hb dX6_walkRound_1 rfl hl (by decide) rfl (fun ls hl => ?_)
  refine z_iconst (pc := 2) hx hb dX6_walkRound_2 ?_
  refine lv_istore (lv' := [(4, vI 0), (3, vI p0), (0, .ref tA), (1, vI p0), (2, vI p1)]) (pc := 3) hx hb dX6_walkRound_3 hl (by decide) rfl (fun ls hl => ?_)
  have LP_5 : ∀ (nfu : Nat) (y : Int) (n9 : Int) (f : Int → Int) (i1 : 0 ≤ n9 ∧ n9 ≤ 4095) (i2 : y = itZ (mvZ p1) (Int.toNat n9) p0) (i3 : bsI p1 p0 t_seen_c f (Int.toNat n9)) (hme : 4096 - n9 + 1 < (nfu : Int)) (H : Heap) (locs : List Loc) (hP : va_P D vwCl [(tA, .inr (4, [.ref t_seen])), (t_seen, .inl (cJ, 64, .inr (.inl (aL f))))] H) (hD : va_D A [(tA, .inr (4, [.ref t_seen])), (t_seen, .inl (cJ, 64, .inr (.inl (aL f))))]) (hS : va_S A s.heap H locs) (ls : Array Slot) (hl : lv_has ls 5 [(4, vI n9), (3, vI y), (0, .ref tA), (1, vI p0), (2, vI p1)]), W p l e (headSpec wsX6_walkRound ({ frames := 4, cells := 0, slots := 0, locals := 88 } : Room)).room s m ([.ref tA, vI p0, vI p1] : List Value).toArray below meth c H locs 0 0 (MQ below (va_Qi (fun (r : Int32) (u : (Int → Int)) => match u with | g => r = zI (cyZ p1 p0) ∧ (∀ x : Int, 0 ≤ x → x < 4096 → (bitZ g x ↔ bitZ t_seen_c x ∨ onR p1 p0 x))) (zB D A (fun (u : (Int → Int)) => match u with | g => [(tA, .inr (4, [.ref t_seen])), (t_seen, .inl (cJ, 64, .inr (.inl (aL g))))])) A) ([.ref tA, vI p0, vI p1] : List Value).toArray s 0 0 A) (F0 m 5 ls []) := by
    intro nfu
    induction nfu with
    | zero =>
      intro y n9 f i1 i2 i3 hme H locs hP hD hS ls hl
      exact absurd hme (by omega)
    | succ nfu ih_5 =>
      intro y n9 f i1 i2 i3 hme H locs hP hD hS ls hl
      have i4 := mv_it (k := p1) h0 (Int.toNat n9)
      rw [← i2] at i4
      have t1 : Int.tdiv y 64 = y / 64 := Int.tdiv_eq_ediv_of_nonneg i4.1
      have t2 : Int.tmod y 64 = y % 64 := Int.tmod_eq_emod_of_nonneg i4.1
      refine lv_aload_n (pc := 5) hx hb dX6_walkRound_5 rfl (lv_at hl 2 rfl) ?_
      refine va_get (pc := 6) (D := D) (ci := 4) (v := .ref t_seen) (C := RX6) (T := TX6) (N := 1) hx hb hts in_X6 hown hK hP 0 rfl rfl 0 (by decide) fl_11 (fun _ h9 => h9) rfl dX6_walkRound_6 ?_
      refine lv_iload_n (pc := 9) hx hb dX6_walkRound_9 rfl (lv_at hl 1 rfl) ?_
      refine z_bipush (pc := 10) hx hb dX6_walkRound_10 (by decide) ?_
      refine z_idiv (pc := 12) hx hb dX6_walkRound_12 (by omega) (by decide) ?_
      refine lv_dup2_11 (pc := 13) hx hb dX6_walkRound_13 rfl rfl ?_
      refine z_lald (pc := 14) hx hb hK hP 1 1 (by omega) rfl rfl (by first | decide | omega) dX6_walkRound_14 ?_
      refine z_lconst (pc := 15) hx hb (z := 1) dX6_walkRound_15 (by decide) ?_
      refine lv_iload_n (pc := 16) hx hb dX6_walkRound_16 rfl (lv_at hl 1 rfl) ?_
      refine z_bipush (pc := 17) hx hb dX6_walkRound_17 (by decide) ?_
      refine z_irem (pc := 19) hx hb dX6_walkRound_19 (by omega) (by decide) ?_
      refine z_lshl (pc := 20) hx hb dX6_walkRound_20 ?_
      refine z_lor (pc := 21) hx hb dX6_walkRound_21 ?_
      refine z_last (pc := 22) hx hb hK hP hD hS 1 1 (by omega) rfl rfl (by first | decide | omega) dX6_walkRound_22 (fun H locs hP hD hS => ?_)
      have hP : va_P D vwCl [(tA, .inr (4, [.ref t_seen])), (t_seen, .inl (cJ, 64, .inr (.inl (aL (uZ f (Int.tdiv y 64) (lorZ (f (Int.tdiv y 64)) (lshlZ 1 (Int.tmod y 64))))))))] H := hP
      have hD : va_D A [(tA, .inr (4, [.ref t_seen])), (t_seen, .inl (cJ, 64, .inr (.inl (aL (uZ f (Int.tdiv y 64) (lorZ (f (Int.tdiv y 64)) (lshlZ 1 (Int.tmod y 64))))))))] := hD
      refine lv_iload_n (pc := 23) hx hb dX6_walkRound_23 rfl (lv_at hl 1 rfl) ?_
      refine lv_iload_n (pc := 24) hx hb dX6_walkRound_24 rfl (lv_at hl 4 rfl) ?_
      refine z_iconst (pc := 25) hx hb dX6_walkRound_25 ?_
      refine z_callR (pc := 26) (va_runS (As := [vI y, vI p1, vI 1]) (rest := []) ⟨hx, hb, hml, hown, hts⟩ (m_X6_moved l D cI cJ cZ cD 0  y p1 1 (by omega) (by omega) (by omega)) (va_cwS 3 hts gX6_walkRound_X6_moved rfl rfl rfl (by decide +kernel) ⟨Nat.le_of_ble_eq_true rfl, Nat.le_of_ble_eq_true rfl⟩) ⟨fun a U g mk q => q, fun U hU hW => ⟨rfl, trivial⟩⟩ rfl rfl hl.1 rfl (lv_room (Nat.le_of_ble_eq_true rfl)) dX6_walkRound_26 ⟨Nat.zero_le _, Nat.zero_le _⟩) ?_
      refine lv_istore_n (lv' := [(3, vI (itZ (mvZ p1) (Int.toNat 1) y)), (4, vI n9), (0, .ref tA), (1, vI p0), (2, vI p1)]) (pc := 29) hx hb dX6_walkRound_29 rfl hl (by decide) rfl (fun ls hl => ?_)
      have e1 : itZ (mvZ p1) (Int.toNat 1) y = itZ (mvZ p1) (Int.toNat n9 + 1) p0 := by rw [i2]; rfl
      have hb1 := bs_s h0 i3 i2
      rw [← t1, ← t2] at hb1
      have r1 := mv_it (k := p1) h0 (Int.toNat n9 + 1)
      rw [← e1] at r1
      refine lv_iinc (v := zI (n9 + 1)) (lv' := [(4, vI (n9 + 1)), (3, vI (itZ (mvZ p1) (Int.toNat 1) y)), (0, .ref tA), (1, vI p0), (2, vI p1)]) (pc := 30) hx hb dX6_walkRound_30 hl (k := 1) rfl (zI_add _ _) (by decide) rfl (fun ls hl => ?_)
      refine lv_iload_n (pc := 33) hx hb dX6_walkRound_33 rfl (lv_at hl 1 rfl) ?_
      refine lv_iload_n (pc := 34) hx hb dX6_walkRound_34 rfl (lv_at hl 3 rfl) ?_
      refine z_icmp_eq (pc := 35) (tgt := 46) hx hb dX6_walkRound_35 (by decide) (by omega) (by omega) (fun c_1 => ?_) (fun c_1 => ?_)
      · have hc_35t := c_1
        refine lv_iload (pc := 46) hx hb dX6_walkRound_46 (lv_at hl 0 rfl) ?_
        have he_0 : (uZ f (Int.tdiv y 64) (lorZ (f (Int.tdiv y 64)) (lshlZ 1 (Int.tmod y 64)))) = ((uZ f (Int.tdiv y 64) (lorZ (f (Int.tdiv y 64)) (lshlZ 1 (Int.tmod y 64))))) := by first | rfl | omega
        rw [he_0] at hP hD
        have hP9 := hP.sub (ws' := [(tA, .inr (4, [.ref t_seen])), (t_seen, .inl (cJ, 64, .inr (.inl (aL ((uZ f (Int.tdiv y 64) (lorZ (f (Int.tdiv y 64)) (lshlZ 1 (Int.tmod y 64)))))))))]) [0, 1] rfl
        have hD9 := hD.sub (ws' := [(tA, .inr (4, [.ref t_seen])), (t_seen, .inl (cJ, 64, .inr (.inl (aL ((uZ f (Int.tdiv y 64) (lorZ (f (Int.tdiv y 64)) (lshlZ 1 (Int.tmod y 64)))))))))]) [0, 1] (by decide) rfl
        have hrel : ∀ x : Int, 0 ≤ x → x < 4096 → (bitZ (uZ f (Int.tdiv y 64) (lorZ (f (Int.tdiv y 64)) (lshlZ 1 (Int.tmod y 64)))) x ↔ bitZ t_seen_c x ∨ onR p1 p0 x) := by exact (bs_end h0 i3 hb1 (by rw [← e1]; exact hc_35t)).2
        have hv : (n9 + 1 : Int) = (cyZ p1 p0) := by
          have q := bs_end h0 i3 hb1 (by rw [← e1]; exact hc_35t)
          rw [q.1]; omega
        exact W.iret (pc := 48) (v := zI (n9 + 1)) hx hb hr (fun t ht hW => ⟨⟨zI (n9 + 1), (uZ f (Int.tdiv y 64) (lorZ (f (Int.tdiv y 64)) (lshlZ 1 (Int.tmod y 64)))), rfl, ⟨congrArg zI hv, hrel⟩, by rw [ht]; exact hP9, hD9⟩, hS.F ht⟩) hS.2.2 dX6_walkRound_48
      · have hc_35f := c_1
        refine lv_iload (pc := 38) hx hb dX6_walkRound_38 (lv_at hl 0 rfl) ?_
        refine z_sipush (pc := 40) hx hb dX6_walkRound_40 (by decide) ?_
        refine z_icmp_lt (pc := 43) (tgt := 5) hx hb dX6_walkRound_43 (by decide) (by omega) (by decide) (fun c_2 => ?_) (fun c_2 => ?_)
        · have hc_43t := c_2
          exact ih_5 (itZ (mvZ p1) (Int.toNat 1) y) (n9 + 1) (uZ f (Int.tdiv y 64) (lorZ (f (Int.tdiv y 64)) (lshlZ 1 (Int.tmod y 64)))) (by omega) (by rw [show Int.toNat (n9 + 1) = Int.toNat n9 + 1 by omega]; exact e1) (by rw [show Int.toNat (n9 + 1) = Int.toNat n9 + 1 by omega]; exact bs_go i3 hb1 (by rw [← e1]; exact hc_35f)) (by omega) _ _ (hP.sub [0, 1] rfl) (hD.sub [0, 1] (by decide) rfl) hS _ (lv_sub hl [0, 1, 2, 3, 4] rfl)
        · exact absurd (bs_le h0 (bs_go i3 hb1 (by rw [← e1]; exact hc_35f))) (by omega)
  exact LP_5 (Int.toNat ((4096 - 0 + 1) + 1)) p0 0 t_seen_c (by omega) (by rfl) (bs_0) (by omega) _ _ (hP.sub [0, 1] rfl) (hD.sub [0, 1] (by decide) rfl) hS _ (lv_sub hl [0, 1, 2, 3, 4] rfl)

set_option maxHeartbeats 4000000 in
set_option maxRecDepth 100000 in
theorem m_X6_countRounds (l : Launch) (D : va_G) (cI cJ cZ cD : ClassId) (sz : Nat) (tA : Nat) (t_seen : Nat) (t_seen_c : Int → Int) (p0 : Int) (p1 : Int) (h0 : 0 ≤ p0 ∧ p0 ≤ 200) (hrp1 : -2147483648 ≤ p1 ∧ p1 < 2147483648) : Met l yX6_countRounds wsX6_countRounds ({ frames := 5, cells := 0, slots := 0, locals := 112 } : Room) (zPc D (TY cI cJ cZ cD) sz [.ref tA, vI p0, vI p1] [(tA, .inr (4, [.ref t_seen])), (t_seen, .inl (cJ, 64, .inr (.inl (aL t_seen_c))))]) (va_Qi (fun (r : Int32) (u : (Int → Int)) => match u with | g => r = zI (smZ (rdZ p0 p1) 4096) ∧ (True)) (zB D (va_A [(tA, .inr (4, [.ref t_seen])), (t_seen, .inl (cJ, 64, .inr (.inl (aL t_seen_c))))] sz) (fun (u : (Int → Int)) => match u with | g => [(tA, .inr (4, [.ref t_seen])), (t_seen, .inl (cJ, 64, .inr (.inl (aL g))))])) (va_A [(tA, .inr (4, [.ref t_seen])), (t_seen, .inl (cJ, 64, .inr (.inl (aL t_seen_c))))] sz)) 0 0 (va_A [(tA, .inr (4, [.ref t_seen])), (t_seen, .inl (cJ, 64, .inr (.inl (aL t_seen_c))))] sz) := by
  refine Met.ofW (cc := cX6_countRounds) (maxL := 6) (ret := (some .int)) (by decide) rfl ?_
  intro p e s m args below meth c s₁ B hml hv
  obtain ⟨rfl, hsz, hP, hK, hD0, hN⟩ := hv
  have hx := B.exec
  have hb := B.bytes
  have hr := B.returns
  have hts := atoms_spec (ws := wsX6_countRounds) B.pre
  have hown : s.vm.findClass RX6 = some m.cls := findClass_of_methodNamed B.named
  have hlocks := B.notSynchronized
  subst hsz
  have hD := hD0.self (sz := s.heap.size)
  generalize hAe : va_A [(tA, .inr (4, [.ref t_seen])), (t_seen, .inl (cJ, 64, .inr (.inl (aL t_seen_c))))] s.heap.size = A at hD ⊢
  have hA : ∀ q : Nat, s.heap.size ≤ q → A q := fun q h => by rw [← hAe]; exact Or.inr h
  have hS : va_S A s.heap s.heap [] := va_S.rf
  have hP : va_P D vwCl [(tA, .inr (4, [.ref t_seen])), (t_seen, .inl (cJ, 64, .inr (.inl (aL t_seen_c))))] s.heap := hP
  have fl_11 := hts (.fieldLink RX6 11 "PendulumHall$Torus" "seen" "[J") (by decide +kernel)
  have in_X6 : ∀ w ∈ wsX60, w ∈ wsX6_countRounds := by decide +kernel
  have hl := lv_entry ([.ref tA, vI p0, vI p1]) (n := 6) (Nat.le_of_ble_eq_true rfl)
  rw [lg_entry_eq]
  generalize (lg_sl ([.ref tA, vI p0, vI p1]) ++ List.replicate (6 - (lg_sl ([.ref tA, vI p0, vI p1])).length) Slot.unset).toArray = ls at hl ⊢
  have hl : lv_has ls 6 [(0, .ref tA), (1, vI p0), (2, vI p1)] := hl
  refine lv_aload_n (pc := 0) hx hb dX6_countRounds_0 rfl (lv_at hl 0 rfl) ?_
  refine va_get (pc := 1) (D := D) (ci := 4) (v := .ref t_seen) (C := RX6) (T := TX6) (N := 1) hx hb hts in_X6 hown hK hP 0 rfl rfl 0 (by decide) fl_11 (fun _ h9 => h9) rfl dX6_countRounds_1 ?_
  refine z_lconst (pc := 4) hx hb (z := 0) dX6_countRounds_4 (by decide) ?_
  have hPc := hP.sub (ws' := [(t_seen, .inl (cJ, 64, .inr (.inl (aL t_seen_c))))]) [1] rfl
  have hDc := hD.sub (ws' := [(t_seen, .inl (cJ, 64, .inr (.inl (aL t_seen_c))))]) [1] (by decide) rfl
  refine z_callWv (pc := 5) (wc := [(t_seen, .inl (cJ, 64, .inr (.inl (aL t_seen_c))))]) hP hD hS hA [1] [0] [(tA, .inr (4, [.ref t_seen]))] rfl rfl (by decide) (by decide) (va_runS (As := [.ref t_seen, vL 0]) (rest := []) ⟨hx, hb, hml, hown, hts⟩ (m_J7_fill_d0a16 l D cI cJ cZ cD s.heap.size t_seen_c 64 t_seen 0 (by decide)) (va_cwS 2 hts gX6_countRounds_J7_fill_d0a16 rfl rfl rfl (by decide +kernel) ⟨Nat.le_of_ble_eq_true rfl, Nat.le_of_ble_eq_true rfl⟩) ⟨z_blind, z_pre hPc hK hDc rfl rfl hN⟩ rfl rfl hl.1 rfl (lv_room (Nat.le_of_ble_eq_true rfl)) dX6_countRounds_5 ⟨Nat.zero_le _, Nat.zero_le _⟩) (fun u H locs hw hP hD hS => ?_)
  have hw_1 := hw
  have hP : va_P D vwCl [(tA, .inr (4, [.ref t_seen])), (t_seen, .inl (cJ, 64, .inr (.inl (aL (flZ t_seen_c 0 64)))))] H := hP
  have hD : va_D A [(tA, .inr (4, [.ref t_seen])), (t_seen, .inl (cJ, 64, .inr (.inl (aL (flZ t_seen_c 0 64)))))] := hD
  refine z_iconst (pc := 8) hx hb dX6_countRounds_8 ?_
  refine lv_istore_n (lv' := [(3, vI 0), (0, .ref tA), (1, vI p0), (2, vI p1)]) (pc := 9) hx hb dX6_countRounds_9 rfl hl (by decide) rfl (fun ls hl => ?_)
  refine z_iconst (pc := 10) hx hb dX6_countRounds_10 ?_
  refine lv_istore (lv' := [(4, vI 0), (3, vI 0), (0, .ref tA), (1, vI p0), (2, vI p1)]) (pc := 11) hx hb dX6_countRounds_11 hl (by decide) rfl (fun ls hl => ?_)
  have LP_13 : ∀ (nfu : Nat) (fd : Int) (s9 : Int) (f : Int → Int) (i1 : 0 ≤ s9 ∧ s9 ≤ 4096) (i2 : ∀ x : Int, 0 ≤ x → x < 4096 → (bitZ f x ↔ viZ p0 s9 x)) (i3 : fd = smZ (rdZ p0 p1) (Int.toNat s9)) (hme : 4096 - s9 + 1 < (nfu : Int)) (H : Heap) (locs : List Loc) (hP : va_P D vwCl [(tA, .inr (4, [.ref t_seen])), (t_seen, .inl (cJ, 64, .inr (.inl (aL f))))] H) (hD : va_D A [(tA, .inr (4, [.ref t_seen])), (t_seen, .inl (cJ, 64, .inr (.inl (aL f))))]) (hS : va_S A s.heap H locs) (ls : Array Slot) (hl : lv_has ls 6 [(4, vI s9), (3, vI fd), (0, .ref tA), (1, vI p0), (2, vI p1)]), W p l e (headSpec wsX6_countRounds ({ frames := 5, cells := 0, slots := 0, locals := 112 } : Room)).room s m ([.ref tA, vI p0, vI p1] : List Value).toArray below meth c H locs 0 0 (MQ below (va_Qi (fun (r : Int32) (u : (Int → Int)) => match u with | g => r = zI (smZ (rdZ p0 p1) 4096) ∧ (True)) (zB D A (fun (u : (Int → Int)) => match u with | g => [(tA, .inr (4, [.ref t_seen])), (t_seen, .inl (cJ, 64, .inr (.inl (aL g))))])) A) ([.ref tA, vI p0, vI p1] : List Value).toArray s 0 0 A) (F0 m 13 ls []) := by
    intro nfu
    induction nfu with
    | zero =>
      intro fd s9 f i1 i2 i3 hme H locs hP hD hS ls hl
      exact absurd hme (by omega)
    | succ nfu ih_13 =>
      intro fd s9 f i1 i2 i3 hme H locs hP hD hS ls hl
      refine lv_iload (pc := 13) hx hb dX6_countRounds_13 (lv_at hl 0 rfl) ?_
      refine z_sipush (pc := 15) hx hb dX6_countRounds_15 (by decide) ?_
      refine z_icmp_ge (pc := 18) (tgt := 59) hx hb dX6_countRounds_18 (by decide) (by omega) (by decide) (fun c_2 => ?_) (fun c_2 => ?_)
      · have hc_18t := c_2
        refine lv_iload_n (pc := 59) hx hb dX6_countRounds_59 rfl (lv_at hl 1 rfl) ?_
        have hP9 := hP.sub (ws' := [(tA, .inr (4, [.ref t_seen])), (t_seen, .inl (cJ, 64, .inr (.inl (aL f))))]) [0, 1] rfl
        have hD9 := hD.sub (ws' := [(tA, .inr (4, [.ref t_seen])), (t_seen, .inl (cJ, 64, .inr (.inl (aL f))))]) [0, 1] (by decide) rfl
        have hv : (fd : Int) = (smZ (rdZ p0 p1) 4096) := by rw [i3, show s9 = 4096 by omega]; rfl
        exact W.iret (pc := 60) (v := zI fd) hx hb hr (fun t ht hW => ⟨⟨zI fd, f, rfl, ⟨congrArg zI hv, trivial⟩, by rw [ht]; exact hP9, hD9⟩, hS.F ht⟩) hS.2.2 dX6_countRounds_60
      · have hc_18f := c_2
        refine lv_aload_n (pc := 21) hx hb dX6_countRounds_21 rfl (lv_at hl 2 rfl) ?_
        refine lv_iload (pc := 22) hx hb dX6_countRounds_22 (lv_at hl 0 rfl) ?_
        have hPc := hP.sub (ws' := [(tA, .inr (4, [.ref t_seen])), (t_seen, .inl (cJ, 64, .inr (.inl (aL f))))]) [0, 1] rfl
        have hDc := hD.sub (ws' := [(tA, .inr (4, [.ref t_seen])), (t_seen, .inl (cJ, 64, .inr (.inl (aL f))))]) [0, 1] (by decide) rfl
        refine z_callR (pc := 24) (va_runV (As := [vI s9]) (rest := []) ⟨hx, hb, hml, hown, hts⟩ (m_X6_isSeen l D cI cJ cZ cD H.size tA t_seen f s9 (by omega)) (cwV 1 hts gX6_countRounds_X6_isSeen rfl rfl rfl (by decide +kernel) ⟨Nat.le_of_ble_eq_true rfl, Nat.le_of_ble_eq_true rfl⟩) ⟨z_blind, va_recv hK hPc (ci := 4) (q0 := 0) rfl rfl, z_pre hPc hK hDc rfl rfl hN⟩ rfl rfl hl.1 rfl (lv_room (Nat.le_of_ble_eq_true rfl)) dX6_countRounds_24 ⟨Nat.zero_le _, Nat.zero_le _⟩) ?_
        refine z_ifp_ne (pc := 27) (tgt := 53) hx hb dX6_countRounds_27 (by decide) (fun c_3 => ?_) (fun c_3 => ?_)
        · have hc_27t := c_3
          refine lv_iinc (v := zI (s9 + 1)) (lv' := [(4, vI (s9 + 1)), (3, vI fd), (0, .ref tA), (1, vI p0), (2, vI p1)]) (pc := 53) hx hb dX6_countRounds_53 hl (k := 0) rfl (zI_add _ _) (by decide) rfl (fun ls hl => ?_)
          refine lv_goto (pc := 56) (tgt := 13) hx hb dX6_countRounds_56 (by decide) ?_
          have hi_4 : ∀ x : Int, 0 ≤ x → x < 4096 → (bitZ f x ↔ viZ p0 (s9 + 1) x) := by
            intro x a b
            first
              | (rw [vi_s i1.1, hw_1 x a b, i2 x a b]; done)
              | (rw [vi_s i1.1, i2 x a b]; exact ⟨Or.inl, fun z => z.elim id (fun y => vi_on ((i2 s9 (by omega) (by omega)).1 hc_27t) y)⟩)
          have hi_5 : fd = smZ (rdZ p0 p1) (Int.toNat (s9 + 1)) := by
            first
              | (rw [smZ_toNat _ i1.1, ← i3, rd_y ((i2 s9 (by omega) (by omega)).1 hc_27t)]; omega)
              | (rw [smZ_toNat _ i1.1, ← i3, rd_n hv, pI_t (by omega)]; done)
              | (rw [smZ_toNat _ i1.1, ← i3, rd_n hv, pI_f (by omega)]; omega)
          exact ih_13 fd (s9 + 1) f (by omega) hi_4 hi_5 (by omega) _ _ (hP.sub [0, 1] rfl) (hD.sub [0, 1] (by decide) rfl) hS _ (lv_sub hl [0, 1, 2, 3, 4] rfl)
        · have hc_27f := c_3
          have hv : ¬ viZ p0 s9 s9 := fun z => hc_27f ((i2 s9 (by omega) (by omega)).2 z)
          have r2 := cy_rng (k := p0) (s := s9) (by omega)
          refine lv_aload_n (pc := 30) hx hb dX6_countRounds_30 rfl (lv_at hl 2 rfl) ?_
          refine lv_iload (pc := 31) hx hb dX6_countRounds_31 (lv_at hl 0 rfl) ?_
          refine lv_iload_n (pc := 33) hx hb dX6_countRounds_33 rfl (lv_at hl 3 rfl) ?_
          have hPc := hP.sub (ws' := [(tA, .inr (4, [.ref t_seen])), (t_seen, .inl (cJ, 64, .inr (.inl (aL f))))]) [0, 1] rfl
          have hDc := hD.sub (ws' := [(tA, .inr (4, [.ref t_seen])), (t_seen, .inl (cJ, 64, .inr (.inl (aL f))))]) [0, 1] (by decide) rfl
          refine z_callWi (pc := 34) (wc := [(tA, .inr (4, [.ref t_seen])), (t_seen, .inl (cJ, 64, .inr (.inl (aL f))))]) hP hD hS hA [0, 1] [] [] rfl rfl (by decide) (by decide) (va_runV (As := [vI s9, vI p0]) (rest := []) ⟨hx, hb, hml, hown, hts⟩ (m_X6_walkRound l D cI cJ cZ cD H.size tA t_seen f s9 p0 (by omega) (by omega)) (cwV 2 hts gX6_countRounds_X6_walkRound rfl rfl rfl (by decide +kernel) ⟨Nat.le_of_ble_eq_true rfl, Nat.le_of_ble_eq_true rfl⟩) ⟨z_blind, va_recv hK hPc (ci := 4) (q0 := 0) rfl rfl, z_pre hPc hK hDc rfl rfl hN⟩ rfl rfl hl.1 rfl (lv_room (Nat.le_of_ble_eq_true rfl)) dX6_countRounds_34 ⟨Nat.zero_le _, Nat.zero_le _⟩) (fun r u H locs hw hP hD hS => ?_)
          obtain ⟨u_6, rfl⟩ : ∃ z, z = u := ⟨_, rfl⟩
          obtain ⟨rfl, hw_7⟩ := hw
          have hw_7 : ∀ x : Int, 0 ≤ x → x < 4096 → (bitZ u_6 x ↔ bitZ f x ∨ onR p0 s9 x) := hw_7
          have hP : va_P D vwCl [(tA, .inr (4, [.ref t_seen])), (t_seen, .inl (cJ, 64, .inr (.inl (aL u_6))))] H := hP
          have hD : va_D A [(tA, .inr (4, [.ref t_seen])), (t_seen, .inl (cJ, 64, .inr (.inl (aL u_6))))] := hD
          refine lv_istore (lv' := [(5, vI (cyZ p0 s9)), (4, vI s9), (3, vI fd), (0, .ref tA), (1, vI p0), (2, vI p1)]) (pc := 37) hx hb dX6_countRounds_37 hl (by decide) rfl (fun ls hl => ?_)
          refine lv_iload_n (pc := 39) hx hb dX6_countRounds_39 rfl (lv_at hl 5 rfl) ?_
          refine z_iconst (pc := 40) hx hb dX6_countRounds_40 ?_
          refine z_icmp_eq (pc := 41) (tgt := 50) hx hb dX6_countRounds_41 (by decide) (by omega) (by decide) (fun c_8 => ?_) (fun c_8 => ?_)
          · have hc_41t := c_8
            refine lv_iinc (v := zI (fd + 1)) (lv' := [(3, vI (fd + 1)), (5, vI (cyZ p0 s9)), (4, vI s9), (0, .ref tA), (1, vI p0), (2, vI p1)]) (pc := 50) hx hb dX6_countRounds_50 hl (k := 2) rfl (zI_add _ _) (by decide) rfl (fun ls hl => ?_)
            refine lv_iinc (v := zI (s9 + 1)) (lv' := [(4, vI (s9 + 1)), (3, vI (fd + 1)), (5, vI (cyZ p0 s9)), (0, .ref tA), (1, vI p0), (2, vI p1)]) (pc := 53) hx hb dX6_countRounds_53 hl (k := 2) rfl (zI_add _ _) (by decide) rfl (fun ls hl => ?_)
            refine lv_goto (pc := 56) (tgt := 13) hx hb dX6_countRounds_56 (by decide) ?_
            have hi_9 : ∀ x : Int, 0 ≤ x → x < 4096 → (bitZ u_6 x ↔ viZ p0 (s9 + 1) x) := by
              intro x a b
              first
                | (rw [vi_s i1.1, hw_7 x a b, i2 x a b]; done)
                | (rw [vi_s i1.1, i2 x a b]; exact ⟨Or.inl, fun z => z.elim id (fun y => vi_on ((i2 s9 (by omega) (by omega)).1 hc_27t) y)⟩)
            have hi_10 : (fd + 1) = smZ (rdZ p0 p1) (Int.toNat (s9 + 1)) := by
              first
                | (rw [smZ_toNat _ i1.1, ← i3, rd_y ((i2 s9 (by omega) (by omega)).1 hc_27t)]; omega)
                | (rw [smZ_toNat _ i1.1, ← i3, rd_n hv, pI_t (by omega)]; done)
                | (rw [smZ_toNat _ i1.1, ← i3, rd_n hv, pI_f (by omega)]; omega)
            exact ih_13 (fd + 1) (s9 + 1) u_6 (by omega) hi_9 hi_10 (by omega) _ _ (hP.sub [0, 1] rfl) (hD.sub [0, 1] (by decide) rfl) hS _ (lv_sub hl [0, 1, 3, 4, 5] rfl)
          · have hc_41f := c_8
            refine lv_iload_n (pc := 44) hx hb dX6_countRounds_44 rfl (lv_at hl 5 rfl) ?_
            refine lv_iload (pc := 45) hx hb dX6_countRounds_45 (lv_at hl 0 rfl) ?_
            refine z_icmp_ne (pc := 47) (tgt := 53) hx hb dX6_countRounds_47 (by decide) (by omega) (by omega) (fun c_11 => ?_) (fun c_11 => ?_)
            · have hc_47t := c_11
              refine lv_iinc (v := zI (s9 + 1)) (lv' := [(4, vI (s9 + 1)), (5, vI (cyZ p0 s9)), (3, vI fd), (0, .ref tA), (1, vI p0), (2, vI p1)]) (pc := 53) hx hb dX6_countRounds_53 hl (k := 1) rfl (zI_add _ _) (by decide) rfl (fun ls hl => ?_)
              refine lv_goto (pc := 56) (tgt := 13) hx hb dX6_countRounds_56 (by decide) ?_
              have hi_12 : ∀ x : Int, 0 ≤ x → x < 4096 → (bitZ u_6 x ↔ viZ p0 (s9 + 1) x) := by
                intro x a b
                first
                  | (rw [vi_s i1.1, hw_7 x a b, i2 x a b]; done)
                  | (rw [vi_s i1.1, i2 x a b]; exact ⟨Or.inl, fun z => z.elim id (fun y => vi_on ((i2 s9 (by omega) (by omega)).1 hc_27t) y)⟩)
              have hi_13 : fd = smZ (rdZ p0 p1) (Int.toNat (s9 + 1)) := by
                first
                  | (rw [smZ_toNat _ i1.1, ← i3, rd_y ((i2 s9 (by omega) (by omega)).1 hc_27t)]; omega)
                  | (rw [smZ_toNat _ i1.1, ← i3, rd_n hv, pI_t (by omega)]; done)
                  | (rw [smZ_toNat _ i1.1, ← i3, rd_n hv, pI_f (by omega)]; omega)
              exact ih_13 fd (s9 + 1) u_6 (by omega) hi_12 hi_13 (by omega) _ _ (hP.sub [0, 1] rfl) (hD.sub [0, 1] (by decide) rfl) hS _ (lv_sub hl [0, 2, 3, 4, 5] rfl)
            · have hc_47f := c_11
              refine lv_iinc (v := zI (fd + 1)) (lv' := [(3, vI (fd + 1)), (5, vI (cyZ p0 s9)), (4, vI s9), (0, .ref tA), (1, vI p0), (2, vI p1)]) (pc := 50) hx hb dX6_countRounds_50 hl (k := 2) rfl (zI_add _ _) (by decide) rfl (fun ls hl => ?_)
              refine lv_iinc (v := zI (s9 + 1)) (lv' := [(4, vI (s9 + 1)), (3, vI (fd + 1)), (5, vI (cyZ p0 s9)), (0, .ref tA), (1, vI p0), (2, vI p1)]) (pc := 53) hx hb dX6_countRounds_53 hl (k := 2) rfl (zI_add _ _) (by decide) rfl (fun ls hl => ?_)
              refine lv_goto (pc := 56) (tgt := 13) hx hb dX6_countRounds_56 (by decide) ?_
              have hi_14 : ∀ x : Int, 0 ≤ x → x < 4096 → (bitZ u_6 x ↔ viZ p0 (s9 + 1) x) := by
                intro x a b
                first
                  | (rw [vi_s i1.1, hw_7 x a b, i2 x a b]; done)
                  | (rw [vi_s i1.1, i2 x a b]; exact ⟨Or.inl, fun z => z.elim id (fun y => vi_on ((i2 s9 (by omega) (by omega)).1 hc_27t) y)⟩)
              have hi_15 : (fd + 1) = smZ (rdZ p0 p1) (Int.toNat (s9 + 1)) := by
                first
                  | (rw [smZ_toNat _ i1.1, ← i3, rd_y ((i2 s9 (by omega) (by omega)).1 hc_27t)]; omega)
                  | (rw [smZ_toNat _ i1.1, ← i3, rd_n hv, pI_t (by omega)]; done)
                  | (rw [smZ_toNat _ i1.1, ← i3, rd_n hv, pI_f (by omega)]; omega)
              exact ih_13 (fd + 1) (s9 + 1) u_6 (by omega) hi_14 hi_15 (by omega) _ _ (hP.sub [0, 1] rfl) (hD.sub [0, 1] (by decide) rfl) hS _ (lv_sub hl [0, 1, 3, 4, 5] rfl)
  exact LP_13 (Int.toNat ((4096 - 0 + 1) + 1)) 0 0 (flZ t_seen_c 0 64) (by omega) (by intro x a b; exact ⟨fun z => absurd z (bit_0 (flZ_in (by omega))), fun z => absurd z vi_0⟩) (by rfl) (by omega) _ _ (hP.sub [0, 1] rfl) (hD.sub [0, 1] (by decide) rfl) hS _ (lv_sub hl [0, 1, 2, 3, 4] rfl)

set_option maxHeartbeats 4000000 in
set_option maxRecDepth 100000 in
theorem m_X8_through (l : Launch) (D : va_G) (cI cJ cZ cD : ClassId) (sz : Nat) (mA : Nat) (m_thrown : Int) (m_heat : Int) (m_pressure : Int) (m_allDays : Int) (m_clocks : Int) (m_rods : Nat) (m_arcs : Nat) (m_haveCheeks : Nat) (m_adjustments : Nat) (m_offs : Nat) (m_sorted : Nat) (m_asking : Int) (m_askedBy : Nat) (m_metAt : Nat) (m_turnsAt : Nat) (m_period : Int) (m_turns : Int) (m_ahead : Int) (m_datum : Int) (m_datumValue : Int) (m_readings : Int) (m_stations : Nat) (m_hours : Nat) (m_values : Nat) (m_areTied : Nat) (m_ties : Nat) (m_steps : Nat) (m_gravities : Nat) (m_met : Nat) (m_bobs : Int) (m_weight : Int) (m_spring : Int) (m_air : Int) (m_push : Int) (m_places : Nat) (m_speeds : Nat) (m_wasPlace : Nat) (m_wasSpeed : Nat) (m_met_c : Int → Int) (p0 : Int) (p1 : Int) (h0 : 0 ≤ p0 ∧ p0 < 4096) (h1 : 0 ≤ p1 ∧ p1 ≤ 200) (hm : ∀ x : Int, 0 ≤ x → x < 4096 → m_met_c x = 0 ∨ m_met_c x = 1) (hcl : ∀ x : Int, 0 ≤ x → x < 4096 → m_met_c x = 1 → m_met_c (mvZ p1 x) = 1) : Met l yX8_through wsX8_through ({ frames := 3, cells := 0, slots := 0, locals := 68 } : Room) (zPc D (TY cI cJ cZ cD) sz [.ref mA, vI p0, vI p1] [(mA, .inr (6, vI m_thrown :: vI m_heat :: vI m_pressure :: vL m_allDays :: vI m_clocks :: .ref m_rods :: .ref m_arcs :: .ref m_haveCheeks :: .ref m_adjustments :: .ref m_offs :: .ref m_sorted :: vI m_asking :: .ref m_askedBy :: .ref m_metAt :: .ref m_turnsAt :: vI m_period :: vI m_turns :: vI m_ahead :: vI m_datum :: vI m_datumValue :: vI m_readings :: .ref m_stations :: .ref m_hours :: .ref m_values :: .ref m_areTied :: .ref m_ties :: .ref m_steps :: .ref m_gravities :: .ref m_met :: vI m_bobs :: vI m_weight :: vI m_spring :: vI m_air :: vI m_push :: .ref m_places :: .ref m_speeds :: .ref m_wasPlace :: .ref m_wasSpeed :: [])), (m_met, .inl (cZ, 4096, .inl (aI m_met_c)))]) (va_Qi (fun (r : Int32) (u : (Int → Int)) => match u with | g => r = zI (if m_met_c p0 = 1 then 0 else cyZ p1 p0) ∧ (∀ x : Int, 0 ≤ x → x < 4096 → (g x = 0 ∨ g x = 1) ∧ (g x = 1 ↔ m_met_c x = 1 ∨ onR p1 p0 x))) (zB D (va_A [(mA, .inr (6, vI m_thrown :: vI m_heat :: vI m_pressure :: vL m_allDays :: vI m_clocks :: .ref m_rods :: .ref m_arcs :: .ref m_haveCheeks :: .ref m_adjustments :: .ref m_offs :: .ref m_sorted :: vI m_asking :: .ref m_askedBy :: .ref m_metAt :: .ref m_turnsAt :: vI m_period :: vI m_turns :: vI m_ahead :: vI m_datum :: vI m_datumValue :: vI m_readings :: .ref m_stations :: .ref m_hours :: .ref m_values :: .ref m_areTied :: .ref m_ties :: .ref m_steps :: .ref m_gravities :: .ref m_met :: vI m_bobs :: vI m_weight :: vI m_spring :: vI m_air :: vI m_push :: .ref m_places :: .ref m_speeds :: .ref m_wasPlace :: .ref m_wasSpeed :: [])), (m_met, .inl (cZ, 4096, .inl (aI m_met_c)))] sz) (fun (u : (Int → Int)) => match u with | g => [(mA, .inr (6, vI m_thrown :: vI m_heat :: vI m_pressure :: vL m_allDays :: vI m_clocks :: .ref m_rods :: .ref m_arcs :: .ref m_haveCheeks :: .ref m_adjustments :: .ref m_offs :: .ref m_sorted :: vI m_asking :: .ref m_askedBy :: .ref m_metAt :: .ref m_turnsAt :: vI m_period :: vI m_turns :: vI m_ahead :: vI m_datum :: vI m_datumValue :: vI m_readings :: .ref m_stations :: .ref m_hours :: .ref m_values :: .ref m_areTied :: .ref m_ties :: .ref m_steps :: .ref m_gravities :: .ref m_met :: vI m_bobs :: vI m_weight :: vI m_spring :: vI m_air :: vI m_push :: .ref m_places :: .ref m_speeds :: .ref m_wasPlace :: .ref m_wasSpeed :: [])), (m_met, .inl (cZ, 4096, .inl (aI g)))])) (va_A [(mA, .inr (6, vI m_thrown :: vI m_heat :: vI m_pressure :: vL m_allDays :: vI m_clocks :: .ref m_rods :: .ref m_arcs :: .ref m_haveCheeks :: .ref m_adjustments :: .ref m_offs :: .ref m_sorted :: vI m_asking :: .ref m_askedBy :: .ref m_metAt :: .ref m_turnsAt :: vI m_period :: vI m_turns :: vI m_ahead :: vI m_datum :: vI m_datumValue :: vI m_readings :: .ref m_stations :: .ref m_hours :: .ref m_values :: .ref m_areTied :: .ref m_ties :: .ref m_steps :: .ref m_gravities :: .ref m_met :: vI m_bobs :: vI m_weight :: vI m_spring :: vI m_air :: vI m_push :: .ref m_places :: .ref m_speeds :: .ref m_wasPlace :: .ref m_wasSpeed :: [])), (m_met, .inl (cZ, 4096, .inl (aI m_met_c)))] sz)) 0 0 (va_A [(mA, .inr (6, vI m_thrown :: vI m_heat :: vI m_pressure :: vL m_allDays :: vI m_clocks :: .ref m_rods :: .ref m_arcs :: .ref m_haveCheeks :: .ref m_adjustments :: .ref m_offs :: .ref m_sorted :: vI m_asking :: .ref m_askedBy :: .ref m_metAt :: .ref m_turnsAt :: vI m_period :: vI m_turns :: vI m_ahead :: vI m_datum :: vI m_datumValue :: vI m_readings :: .ref m_stations :: .ref m_hours :: .ref m_values :: .ref m_areTied :: .ref m_ties :: .ref m_steps :: .ref m_gravities :: .ref m_met :: vI m_bobs :: vI m_weight :: vI m_spring :: vI m_air :: vI m_push :: .ref m_places :: .ref m_speeds :: .ref m_wasPlace :: .ref m_wasSpeed :: [])), (m_met, .inl (cZ, 4096, .inl (aI m_met_c)))] sz) := by
  refine Met.ofW (cc := cX8_through) (maxL := 5) (ret := (some .int)) (by decide) rfl ?_
  intro p e s m args below meth c s₁ B hml hv
  obtain ⟨rfl, hsz, hP, hK, hD0, hN⟩ := hv
  have hx := B.exec
  have hb := B.bytes
  have hr := B.returns
  have hts := atoms_spec (ws := wsX8_through) B.pre
  have hown : s.vm.findClass RX8 = some m.cls := findClass_of_methodNamed B.named
  have hlocks := B.notSynchronized
  subst hsz
  have hD := hD0.self (sz := s.heap.size)
  generalize hAe : va_A [(mA, .inr (6, vI m_thrown :: vI m_heat :: vI m_pressure :: vL m_allDays :: vI m_clocks :: .ref m_rods :: .ref m_arcs :: .ref m_haveCheeks :: .ref m_adjustments :: .ref m_offs :: .ref m_sorted :: vI m_asking :: .ref m_askedBy :: .ref m_metAt :: .ref m_turnsAt :: vI m_period :: vI m_turns :: vI m_ahead :: vI m_datum :: vI m_datumValue :: vI m_readings :: .ref m_stations :: .ref m_hours :: .ref m_values :: .ref m_areTied :: .ref m_ties :: .ref m_steps :: .ref m_gravities :: .ref m_met :: vI m_bobs :: vI m_weight :: vI m_spring :: vI m_air :: vI m_push :: .ref m_places :: .ref m_speeds :: .ref m_wasPlace :: .ref m_wasSpeed :: [])), (m_met, .inl (cZ, 4096, .inl (aI m_met_c)))] s.heap.size = A at hD ⊢
  have hA : ∀ q : Nat, s.heap.size ≤ q → A q := fun q h => by rw [← hAe]; exact Or.inr h
  have hS : va_S A s.heap s.heap [] := va_S.rf
  have hP : va_P D vwCl [(mA, .inr (6, vI m_thrown :: vI m_heat :: vI m_pressure :: vL m_allDays :: vI m_clocks :: .ref m_rods :: .ref m_arcs :: .ref m_haveCheeks :: .ref m_adjustments :: .ref m_offs :: .ref m_sorted :: vI m_asking :: .ref m_askedBy :: .ref m_metAt :: .ref m_turnsAt :: vI m_period :: vI m_turns :: vI m_ahead :: vI m_datum :: vI m_datumValue :: vI m_readings :: .ref m_stations :: .ref m_hours :: .ref m_values :: .ref m_areTied :: .ref m_ties :: .ref m_steps :: .ref m_gravities :: .ref m_met :: vI m_bobs :: vI m_weight :: vI m_spring :: vI m_air :: vI m_push :: .ref m_places :: .ref m_speeds :: .ref m_wasPlace :: .ref m_wasSpeed :: [])), (m_met, .inl (cZ, 4096, .inl (aI m_met_c)))] s.heap := hP
  have fl_67 := hts (.fieldLink RX8 67 "PendulumHallModel" "met" "[Z") (by decide +kernel)
  have in_X8 : ∀ w ∈ wsX80, w ∈ wsX8_through := by decide +kernel
  have hl := lv_entry ([.ref mA, vI p0, vI p1]) (n := 5) (Nat.le_of_ble_eq_true rfl)
  rw [lg_entry_eq]
  generalize (lg_sl ([.ref mA, vI p0, vI p1]) ++ List.replicate (5 - (lg_sl ([.ref mA, vI p0, vI p1])).length) Slot.unset).toArray = ls at hl ⊢
  have hl : lv_has ls 5 [(0, .ref mA), (1, vI p0), (2, vI p1)] := hl
  refine z_iconst (pc := 0) hx hb dX8_through_0 ?_
  refine lv_istore_n (lv' := [(3, vI 0), (0, .ref mA), (1, vI p0), (2, vI p1)]) (pc := 1) hx hb dX8_through_1 rfl hl (by decide) rfl (fun ls hl => ?_)
  refine lv_iload_n (pc := 2) hx hb dX8_through_2 rfl (lv_at hl 2 rfl) ?_
  refine lv_istore (lv' := [(4, vI p0), (3, vI 0), (0, .ref mA), (1, vI p0), (2, vI p1)]) (pc := 3) hx hb dX8_through_3 hl (by decide) rfl (fun ls hl => ?_)
  have LP_5 : ∀ (nfu : Nat) (y : Int) (n9 : Int) (f : Int → Int) (i1 : 0 ≤ n9 ∧ n9 ≤ 4096) (i2 : y = itZ (mvZ p1) (Int.toNat n9) p0) (i3 : mtI p1 p0 m_met_c f (Int.toNat n9)) (hme : 4096 - n9 + 1 < (nfu : Int)) (H : Heap) (locs : List Loc) (hP : va_P D vwCl [(mA, .inr (6, vI m_thrown :: vI m_heat :: vI m_pressure :: vL m_allDays :: vI m_clocks :: .ref m_rods :: .ref m_arcs :: .ref m_haveCheeks :: .ref m_adjustments :: .ref m_offs :: .ref m_sorted :: vI m_asking :: .ref m_askedBy :: .ref m_metAt :: .ref m_turnsAt :: vI m_period :: vI m_turns :: vI m_ahead :: vI m_datum :: vI m_datumValue :: vI m_readings :: .ref m_stations :: .ref m_hours :: .ref m_values :: .ref m_areTied :: .ref m_ties :: .ref m_steps :: .ref m_gravities :: .ref m_met :: vI m_bobs :: vI m_weight :: vI m_spring :: vI m_air :: vI m_push :: .ref m_places :: .ref m_speeds :: .ref m_wasPlace :: .ref m_wasSpeed :: [])), (m_met, .inl (cZ, 4096, .inl (aI f)))] H) (hD : va_D A [(mA, .inr (6, vI m_thrown :: vI m_heat :: vI m_pressure :: vL m_allDays :: vI m_clocks :: .ref m_rods :: .ref m_arcs :: .ref m_haveCheeks :: .ref m_adjustments :: .ref m_offs :: .ref m_sorted :: vI m_asking :: .ref m_askedBy :: .ref m_metAt :: .ref m_turnsAt :: vI m_period :: vI m_turns :: vI m_ahead :: vI m_datum :: vI m_datumValue :: vI m_readings :: .ref m_stations :: .ref m_hours :: .ref m_values :: .ref m_areTied :: .ref m_ties :: .ref m_steps :: .ref m_gravities :: .ref m_met :: vI m_bobs :: vI m_weight :: vI m_spring :: vI m_air :: vI m_push :: .ref m_places :: .ref m_speeds :: .ref m_wasPlace :: .ref m_wasSpeed :: [])), (m_met, .inl (cZ, 4096, .inl (aI f)))]) (hS : va_S A s.heap H locs) (ls : Array Slot) (hl : lv_has ls 5 [(4, vI y), (3, vI n9), (0, .ref mA), (1, vI p0), (2, vI p1)]), W p l e (headSpec wsX8_through ({ frames := 3, cells := 0, slots := 0, locals := 68 } : Room)).room s m ([.ref mA, vI p0, vI p1] : List Value).toArray below meth c H locs 0 0 (MQ below (va_Qi (fun (r : Int32) (u : (Int → Int)) => match u with | g => r = zI (if m_met_c p0 = 1 then 0 else cyZ p1 p0) ∧ (∀ x : Int, 0 ≤ x → x < 4096 → (g x = 0 ∨ g x = 1) ∧ (g x = 1 ↔ m_met_c x = 1 ∨ onR p1 p0 x))) (zB D A (fun (u : (Int → Int)) => match u with | g => [(mA, .inr (6, vI m_thrown :: vI m_heat :: vI m_pressure :: vL m_allDays :: vI m_clocks :: .ref m_rods :: .ref m_arcs :: .ref m_haveCheeks :: .ref m_adjustments :: .ref m_offs :: .ref m_sorted :: vI m_asking :: .ref m_askedBy :: .ref m_metAt :: .ref m_turnsAt :: vI m_period :: vI m_turns :: vI m_ahead :: vI m_datum :: vI m_datumValue :: vI m_readings :: .ref m_stations :: .ref m_hours :: .ref m_values :: .ref m_areTied :: .ref m_ties :: .ref m_steps :: .ref m_gravities :: .ref m_met :: vI m_bobs :: vI m_weight :: vI m_spring :: vI m_air :: vI m_push :: .ref m_places :: .ref m_speeds :: .ref m_wasPlace :: .ref m_wasSpeed :: [])), (m_met, .inl (cZ, 4096, .inl (aI g)))])) A) ([.ref mA, vI p0, vI p1] : List Value).toArray s 0 0 A) (F0 m 5 ls []) := by
    intro nfu
    induction nfu with
    | zero =>
      intro y n9 f i1 i2 i3 hme H locs hP hD hS ls hl
      exact absurd hme (by omega)
    | succ nfu ih_5 =>
      intro y n9 f i1 i2 i3 hme H locs hP hD hS ls hl
      have i4 := mv_it (k := p1) h0 (Int.toNat n9)
      rw [← i2] at i4
      have f0 := (i3.1 y i4.1 i4.2).1
      refine lv_aload_n (pc := 5) hx hb dX8_through_5 rfl (lv_at hl 2 rfl) ?_
      refine va_get (pc := 6) (D := D) (ci := 6) (v := .ref m_met) (C := RX8) (T := TX8) (N := 38) hx hb hts in_X8 hown hK hP 0 rfl rfl 28 (by decide) fl_67 (fun _ h9 => h9) rfl dX8_through_6 ?_
      refine lv_iload (pc := 9) hx hb dX8_through_9 (lv_at hl 0 rfl) ?_
      refine z_zald (pc := 11) hx hb hK hP 1 2 (by omega) rfl rfl (by first | decide | omega) dX8_through_11 ?_
      refine z_if_ne (pc := 12) (tgt := 37) hx hb dX8_through_12 (by decide) (by omega) (fun c_1 => ?_) (fun c_1 => ?_)
      · have hc_12t := c_1
        have q := mt_end h0 hcl i3 (by rw [← i2]; omega)
        refine lv_iload_n (pc := 37) hx hb dX8_through_37 rfl (lv_at hl 1 rfl) ?_
        have hP9 := hP.sub (ws' := [(mA, .inr (6, vI m_thrown :: vI m_heat :: vI m_pressure :: vL m_allDays :: vI m_clocks :: .ref m_rods :: .ref m_arcs :: .ref m_haveCheeks :: .ref m_adjustments :: .ref m_offs :: .ref m_sorted :: vI m_asking :: .ref m_askedBy :: .ref m_metAt :: .ref m_turnsAt :: vI m_period :: vI m_turns :: vI m_ahead :: vI m_datum :: vI m_datumValue :: vI m_readings :: .ref m_stations :: .ref m_hours :: .ref m_values :: .ref m_areTied :: .ref m_ties :: .ref m_steps :: .ref m_gravities :: .ref m_met :: vI m_bobs :: vI m_weight :: vI m_spring :: vI m_air :: vI m_push :: .ref m_places :: .ref m_speeds :: .ref m_wasPlace :: .ref m_wasSpeed :: [])), (m_met, .inl (cZ, 4096, .inl (aI f)))]) [0, 1] rfl
        have hD9 := hD.sub (ws' := [(mA, .inr (6, vI m_thrown :: vI m_heat :: vI m_pressure :: vL m_allDays :: vI m_clocks :: .ref m_rods :: .ref m_arcs :: .ref m_haveCheeks :: .ref m_adjustments :: .ref m_offs :: .ref m_sorted :: vI m_asking :: .ref m_askedBy :: .ref m_metAt :: .ref m_turnsAt :: vI m_period :: vI m_turns :: vI m_ahead :: vI m_datum :: vI m_datumValue :: vI m_readings :: .ref m_stations :: .ref m_hours :: .ref m_values :: .ref m_areTied :: .ref m_ties :: .ref m_steps :: .ref m_gravities :: .ref m_met :: vI m_bobs :: vI m_weight :: vI m_spring :: vI m_air :: vI m_push :: .ref m_places :: .ref m_speeds :: .ref m_wasPlace :: .ref m_wasSpeed :: [])), (m_met, .inl (cZ, 4096, .inl (aI f)))]) [0, 1] (by decide) rfl
        have hrel : ∀ x : Int, 0 ≤ x → x < 4096 → (f x = 0 ∨ f x = 1) ∧ (f x = 1 ↔ m_met_c x = 1 ∨ onR p1 p0 x) := by exact q.2
        have hv : (n9 : Int) = (if m_met_c p0 = 1 then 0 else cyZ p1 p0) := by rw [← q.1]; omega
        exact W.iret (pc := 38) (v := zI n9) hx hb hr (fun t ht hW => ⟨⟨zI n9, f, rfl, ⟨congrArg zI hv, hrel⟩, by rw [ht]; exact hP9, hD9⟩, hS.F ht⟩) hS.2.2 dX8_through_38
      · have hc_12f := c_1
        refine lv_aload_n (pc := 15) hx hb dX8_through_15 rfl (lv_at hl 2 rfl) ?_
        refine va_get (pc := 16) (D := D) (ci := 6) (v := .ref m_met) (C := RX8) (T := TX8) (N := 38) hx hb hts in_X8 hown hK hP 0 rfl rfl 28 (by decide) fl_67 (fun _ h9 => h9) rfl dX8_through_16 ?_
        refine lv_iload (pc := 19) hx hb dX8_through_19 (lv_at hl 0 rfl) ?_
        refine z_iconst (pc := 21) hx hb dX8_through_21 ?_
        refine z_zast (pc := 22) hx hb hK hP hD hS 1 2 (by omega) (by first | omega | decide) rfl rfl (by first | decide | omega) dX8_through_22 (fun H locs hP hD hS => ?_)
        have hP : va_P D vwCl [(mA, .inr (6, vI m_thrown :: vI m_heat :: vI m_pressure :: vL m_allDays :: vI m_clocks :: .ref m_rods :: .ref m_arcs :: .ref m_haveCheeks :: .ref m_adjustments :: .ref m_offs :: .ref m_sorted :: vI m_asking :: .ref m_askedBy :: .ref m_metAt :: .ref m_turnsAt :: vI m_period :: vI m_turns :: vI m_ahead :: vI m_datum :: vI m_datumValue :: vI m_readings :: .ref m_stations :: .ref m_hours :: .ref m_values :: .ref m_areTied :: .ref m_ties :: .ref m_steps :: .ref m_gravities :: .ref m_met :: vI m_bobs :: vI m_weight :: vI m_spring :: vI m_air :: vI m_push :: .ref m_places :: .ref m_speeds :: .ref m_wasPlace :: .ref m_wasSpeed :: [])), (m_met, .inl (cZ, 4096, .inl (aI (uZ f y 1))))] H := hP
        have hD : va_D A [(mA, .inr (6, vI m_thrown :: vI m_heat :: vI m_pressure :: vL m_allDays :: vI m_clocks :: .ref m_rods :: .ref m_arcs :: .ref m_haveCheeks :: .ref m_adjustments :: .ref m_offs :: .ref m_sorted :: vI m_asking :: .ref m_askedBy :: .ref m_metAt :: .ref m_turnsAt :: vI m_period :: vI m_turns :: vI m_ahead :: vI m_datum :: vI m_datumValue :: vI m_readings :: .ref m_stations :: .ref m_hours :: .ref m_values :: .ref m_areTied :: .ref m_ties :: .ref m_steps :: .ref m_gravities :: .ref m_met :: vI m_bobs :: vI m_weight :: vI m_spring :: vI m_air :: vI m_push :: .ref m_places :: .ref m_speeds :: .ref m_wasPlace :: .ref m_wasSpeed :: [])), (m_met, .inl (cZ, 4096, .inl (aI (uZ f y 1))))] := hD
        refine lv_iload (pc := 23) hx hb dX8_through_23 (lv_at hl 0 rfl) ?_
        refine lv_iload_n (pc := 25) hx hb dX8_through_25 rfl (lv_at hl 4 rfl) ?_
        refine z_callR (pc := 26) (va_runS (As := [vI y, vI p1]) (rest := []) ⟨hx, hb, hml, hown, hts⟩ (m_X8_moved l D cI cJ cZ cD 0  y p1 (by omega) (by omega)) (va_cwS 2 hts gX8_through_X8_moved rfl rfl rfl (by decide +kernel) ⟨Nat.le_of_ble_eq_true rfl, Nat.le_of_ble_eq_true rfl⟩) ⟨fun a U g mk q => q, fun U hU hW => ⟨rfl, trivial⟩⟩ rfl rfl hl.1 rfl (lv_room (Nat.le_of_ble_eq_true rfl)) dX8_through_26 ⟨Nat.zero_le _, Nat.zero_le _⟩) ?_
        refine lv_istore (lv' := [(4, vI (mvZ p1 y)), (3, vI n9), (0, .ref mA), (1, vI p0), (2, vI p1)]) (pc := 29) hx hb dX8_through_29 hl (by decide) rfl (fun ls hl => ?_)
        refine lv_iinc (v := zI (n9 + 1)) (lv' := [(3, vI (n9 + 1)), (4, vI (mvZ p1 y)), (0, .ref mA), (1, vI p0), (2, vI p1)]) (pc := 31) hx hb dX8_through_31 hl (k := 1) rfl (zI_add _ _) (by decide) rfl (fun ls hl => ?_)
        refine lv_goto (pc := 34) (tgt := 5) hx hb dX8_through_34 (by decide) ?_
        have hq := mt_s h0 i3 (by rw [← i2]; omega)
        rw [← i2] at hq
        exact ih_5 (mvZ p1 y) (n9 + 1) (uZ f y 1) (by have := mt_le h0 hq; omega) (by rw [show Int.toNat (n9 + 1) = Int.toNat n9 + 1 by omega, i2]; rfl) (by rw [show Int.toNat (n9 + 1) = Int.toNat n9 + 1 by omega]; exact hq) (by omega) _ _ (hP.sub [0, 1] rfl) (hD.sub [0, 1] (by decide) rfl) hS _ (lv_sub hl [1, 0, 2, 3, 4] rfl)
  exact LP_5 (Int.toNat ((4096 - 0 + 1) + 1)) p0 0 m_met_c (by omega) (by rfl) (mt_0 hm) (by omega) _ _ (hP.sub [0, 1] rfl) (hD.sub [0, 1] (by decide) rfl) hS _ (lv_sub hl [0, 1, 2, 3, 4] rfl)

set_option maxHeartbeats 4000000 in
set_option maxRecDepth 100000 in
theorem m_X8_returns (l : Launch) (D : va_G) (cI cJ cZ cD : ClassId) (sz : Nat) (mA : Nat) (m_thrown : Int) (m_heat : Int) (m_pressure : Int) (m_allDays : Int) (m_clocks : Int) (m_rods : Nat) (m_arcs : Nat) (m_haveCheeks : Nat) (m_adjustments : Nat) (m_offs : Nat) (m_sorted : Nat) (m_asking : Int) (m_askedBy : Nat) (m_metAt : Nat) (m_turnsAt : Nat) (m_period : Int) (m_turns : Int) (m_ahead : Int) (m_datum : Int) (m_datumValue : Int) (m_readings : Int) (m_stations : Nat) (m_hours : Nat) (m_values : Nat) (m_areTied : Nat) (m_ties : Nat) (m_steps : Nat) (m_gravities : Nat) (m_met : Nat) (m_bobs : Int) (m_weight : Int) (m_spring : Int) (m_air : Int) (m_push : Int) (m_places : Nat) (m_speeds : Nat) (m_wasPlace : Nat) (m_wasSpeed : Nat) (m_met_c : Int → Int) (p0 : Int) (p1 : Int) (p2 : Int) (hrp0 : -2147483648 ≤ p0 ∧ p0 < 2147483648) (hrp1 : -2147483648 ≤ p1 ∧ p1 < 2147483648) (hrp2 : -2147483648 ≤ p2 ∧ p2 < 2147483648) : Met l yX8_returns wsX8_returns ({ frames := 4, cells := 0, slots := 0, locals := 92 } : Room) (zPc D (TY cI cJ cZ cD) sz [.ref mA, vI p0, vI p1, vI p2] [(mA, .inr (6, vI m_thrown :: vI m_heat :: vI m_pressure :: vL m_allDays :: vI m_clocks :: .ref m_rods :: .ref m_arcs :: .ref m_haveCheeks :: .ref m_adjustments :: .ref m_offs :: .ref m_sorted :: vI m_asking :: .ref m_askedBy :: .ref m_metAt :: .ref m_turnsAt :: vI m_period :: vI m_turns :: vI m_ahead :: vI m_datum :: vI m_datumValue :: vI m_readings :: .ref m_stations :: .ref m_hours :: .ref m_values :: .ref m_areTied :: .ref m_ties :: .ref m_steps :: .ref m_gravities :: .ref m_met :: vI m_bobs :: vI m_weight :: vI m_spring :: vI m_air :: vI m_push :: .ref m_places :: .ref m_speeds :: .ref m_wasPlace :: .ref m_wasSpeed :: [])), (m_met, .inl (cZ, 4096, .inl (aI m_met_c)))]) (va_Qi (fun (r : Int32) (u : (Int → Int)) => match u with | g => r = zI (if (0 ≤ p0 ∧ p0 ≤ 63) ∧ (0 ≤ p1 ∧ p1 ≤ 63) ∧ (0 ≤ p2 ∧ p2 ≤ 200) then cyZ p2 (64 * p0 + p1) else 0) ∧ (True)) (zB D (va_A [(mA, .inr (6, vI m_thrown :: vI m_heat :: vI m_pressure :: vL m_allDays :: vI m_clocks :: .ref m_rods :: .ref m_arcs :: .ref m_haveCheeks :: .ref m_adjustments :: .ref m_offs :: .ref m_sorted :: vI m_asking :: .ref m_askedBy :: .ref m_metAt :: .ref m_turnsAt :: vI m_period :: vI m_turns :: vI m_ahead :: vI m_datum :: vI m_datumValue :: vI m_readings :: .ref m_stations :: .ref m_hours :: .ref m_values :: .ref m_areTied :: .ref m_ties :: .ref m_steps :: .ref m_gravities :: .ref m_met :: vI m_bobs :: vI m_weight :: vI m_spring :: vI m_air :: vI m_push :: .ref m_places :: .ref m_speeds :: .ref m_wasPlace :: .ref m_wasSpeed :: [])), (m_met, .inl (cZ, 4096, .inl (aI m_met_c)))] sz) (fun (u : (Int → Int)) => match u with | g => [(mA, .inr (6, vI (if (0 ≤ p0 ∧ p0 ≤ 63) ∧ (0 ≤ p1 ∧ p1 ≤ 63) ∧ (0 ≤ p2 ∧ p2 ≤ 200) then 0 else 1) :: vI m_heat :: vI m_pressure :: vL m_allDays :: vI m_clocks :: .ref m_rods :: .ref m_arcs :: .ref m_haveCheeks :: .ref m_adjustments :: .ref m_offs :: .ref m_sorted :: vI m_asking :: .ref m_askedBy :: .ref m_metAt :: .ref m_turnsAt :: vI m_period :: vI m_turns :: vI m_ahead :: vI m_datum :: vI m_datumValue :: vI m_readings :: .ref m_stations :: .ref m_hours :: .ref m_values :: .ref m_areTied :: .ref m_ties :: .ref m_steps :: .ref m_gravities :: .ref m_met :: vI m_bobs :: vI m_weight :: vI m_spring :: vI m_air :: vI m_push :: .ref m_places :: .ref m_speeds :: .ref m_wasPlace :: .ref m_wasSpeed :: [])), (m_met, .inl (cZ, 4096, .inl (aI g)))])) (va_A [(mA, .inr (6, vI m_thrown :: vI m_heat :: vI m_pressure :: vL m_allDays :: vI m_clocks :: .ref m_rods :: .ref m_arcs :: .ref m_haveCheeks :: .ref m_adjustments :: .ref m_offs :: .ref m_sorted :: vI m_asking :: .ref m_askedBy :: .ref m_metAt :: .ref m_turnsAt :: vI m_period :: vI m_turns :: vI m_ahead :: vI m_datum :: vI m_datumValue :: vI m_readings :: .ref m_stations :: .ref m_hours :: .ref m_values :: .ref m_areTied :: .ref m_ties :: .ref m_steps :: .ref m_gravities :: .ref m_met :: vI m_bobs :: vI m_weight :: vI m_spring :: vI m_air :: vI m_push :: .ref m_places :: .ref m_speeds :: .ref m_wasPlace :: .ref m_wasSpeed :: [])), (m_met, .inl (cZ, 4096, .inl (aI m_met_c)))] sz)) 0 0 (va_A [(mA, .inr (6, vI m_thrown :: vI m_heat :: vI m_pressure :: vL m_allDays :: vI m_clocks :: .ref m_rods :: .ref m_arcs :: .ref m_haveCheeks :: .ref m_adjustments :: .ref m_offs :: .ref m_sorted :: vI m_asking :: .ref m_askedBy :: .ref m_metAt :: .ref m_turnsAt :: vI m_period :: vI m_turns :: vI m_ahead :: vI m_datum :: vI m_datumValue :: vI m_readings :: .ref m_stations :: .ref m_hours :: .ref m_values :: .ref m_areTied :: .ref m_ties :: .ref m_steps :: .ref m_gravities :: .ref m_met :: vI m_bobs :: vI m_weight :: vI m_spring :: vI m_air :: vI m_push :: .ref m_places :: .ref m_speeds :: .ref m_wasPlace :: .ref m_wasSpeed :: [])), (m_met, .inl (cZ, 4096, .inl (aI m_met_c)))] sz) := by
  refine Met.ofW (cc := cX8_returns) (maxL := 4) (ret := (some .int)) (by decide) rfl ?_
  intro p e s m args below meth c s₁ B hml hv
  obtain ⟨rfl, hsz, hP, hK, hD0, hN⟩ := hv
  have hx := B.exec
  have hb := B.bytes
  have hr := B.returns
  have hts := atoms_spec (ws := wsX8_returns) B.pre
  have hown : s.vm.findClass RX8 = some m.cls := findClass_of_methodNamed B.named
  have hlocks := B.notSynchronized
  subst hsz
  have hD := hD0.self (sz := s.heap.size)
  generalize hAe : va_A [(mA, .inr (6, vI m_thrown :: vI m_heat :: vI m_pressure :: vL m_allDays :: vI m_clocks :: .ref m_rods :: .ref m_arcs :: .ref m_haveCheeks :: .ref m_adjustments :: .ref m_offs :: .ref m_sorted :: vI m_asking :: .ref m_askedBy :: .ref m_metAt :: .ref m_turnsAt :: vI m_period :: vI m_turns :: vI m_ahead :: vI m_datum :: vI m_datumValue :: vI m_readings :: .ref m_stations :: .ref m_hours :: .ref m_values :: .ref m_areTied :: .ref m_ties :: .ref m_steps :: .ref m_gravities :: .ref m_met :: vI m_bobs :: vI m_weight :: vI m_spring :: vI m_air :: vI m_push :: .ref m_places :: .ref m_speeds :: .ref m_wasPlace :: .ref m_wasSpeed :: [])), (m_met, .inl (cZ, 4096, .inl (aI m_met_c)))] s.heap.size = A at hD ⊢
  have hA : ∀ q : Nat, s.heap.size ≤ q → A q := fun q h => by rw [← hAe]; exact Or.inr h
  have hS : va_S A s.heap s.heap [] := va_S.rf
  have hP : va_P D vwCl [(mA, .inr (6, vI m_thrown :: vI m_heat :: vI m_pressure :: vL m_allDays :: vI m_clocks :: .ref m_rods :: .ref m_arcs :: .ref m_haveCheeks :: .ref m_adjustments :: .ref m_offs :: .ref m_sorted :: vI m_asking :: .ref m_askedBy :: .ref m_metAt :: .ref m_turnsAt :: vI m_period :: vI m_turns :: vI m_ahead :: vI m_datum :: vI m_datumValue :: vI m_readings :: .ref m_stations :: .ref m_hours :: .ref m_values :: .ref m_areTied :: .ref m_ties :: .ref m_steps :: .ref m_gravities :: .ref m_met :: vI m_bobs :: vI m_weight :: vI m_spring :: vI m_air :: vI m_push :: .ref m_places :: .ref m_speeds :: .ref m_wasPlace :: .ref m_wasSpeed :: [])), (m_met, .inl (cZ, 4096, .inl (aI m_met_c)))] s.heap := hP
  have fl_85 := hts (.fieldLink RX8 85 "PendulumHallModel" "thrown" "I") (by decide +kernel)
  have in_X8 : ∀ w ∈ wsX80, w ∈ wsX8_returns := by decide +kernel
  have hl := lv_entry ([.ref mA, vI p0, vI p1, vI p2]) (n := 4) (Nat.le_of_ble_eq_true rfl)
  rw [lg_entry_eq]
  generalize (lg_sl ([.ref mA, vI p0, vI p1, vI p2]) ++ List.replicate (4 - (lg_sl ([.ref mA, vI p0, vI p1, vI p2])).length) Slot.unset).toArray = ls at hl ⊢
  have hl : lv_has ls 4 [(0, .ref mA), (1, vI p0), (2, vI p1), (3, vI p2)] := hl
  refine lv_aload_n (pc := 0) hx hb dX8_returns_0 rfl (lv_at hl 0 rfl) ?_
  refine lv_iload_n (pc := 1) hx hb dX8_returns_1 rfl (lv_at hl 1 rfl) ?_
  refine lv_iload_n (pc := 2) hx hb dX8_returns_2 rfl (lv_at hl 2 rfl) ?_
  refine lv_iload_n (pc := 3) hx hb dX8_returns_3 rfl (lv_at hl 3 rfl) ?_
  refine z_callR (pc := 4) (va_runS (As := [vI p0, vI p1, vI p2]) (rest := [.ref mA]) ⟨hx, hb, hml, hown, hts⟩ (m_X8_isState l D cI cJ cZ cD 0  p0 p1 p2 (by omega) (by omega) (by omega)) (va_cwS 3 hts gX8_returns_X8_isState rfl rfl rfl (by decide +kernel) ⟨Nat.le_of_ble_eq_true rfl, Nat.le_of_ble_eq_true rfl⟩) ⟨fun a U g mk q => q, fun U hU hW => ⟨rfl, trivial⟩⟩ rfl rfl hl.1 rfl (lv_room (Nat.le_of_ble_eq_true rfl)) dX8_returns_4 ⟨Nat.zero_le _, Nat.zero_le _⟩) ?_
  refine z_ifp_eq (pc := 7) (tgt := 14) hx hb dX8_returns_7 (by decide) (fun c_1 => ?_) (fun c_1 => ?_)
  · have hc_7t := c_1
    refine z_iconst (pc := 14) hx hb dX8_returns_14 ?_
    refine va_put (pc := 15) (D := D) (ci := 6) (v := vI 1) (ty := .int) (C := RX8) (T := TX8) (N := 38) hx hb hts in_X8 tyX8 tyX8_ok nmX8 hown hK hP hD hS 0 rfl rfl 0 (by decide) fl_85 (fun _ h9 => h9) rfl (by decide +kernel) rfl rfl (Nat.le_of_ble_eq_true rfl) dX8_returns_15 (fun H locs hP hD hS => ?_)
    have hP : va_P D vwCl [(mA, .inr (6, vI 1 :: vI m_heat :: vI m_pressure :: vL m_allDays :: vI m_clocks :: .ref m_rods :: .ref m_arcs :: .ref m_haveCheeks :: .ref m_adjustments :: .ref m_offs :: .ref m_sorted :: vI m_asking :: .ref m_askedBy :: .ref m_metAt :: .ref m_turnsAt :: vI m_period :: vI m_turns :: vI m_ahead :: vI m_datum :: vI m_datumValue :: vI m_readings :: .ref m_stations :: .ref m_hours :: .ref m_values :: .ref m_areTied :: .ref m_ties :: .ref m_steps :: .ref m_gravities :: .ref m_met :: vI m_bobs :: vI m_weight :: vI m_spring :: vI m_air :: vI m_push :: .ref m_places :: .ref m_speeds :: .ref m_wasPlace :: .ref m_wasSpeed :: [])), (m_met, .inl (cZ, 4096, .inl (aI m_met_c)))] H := hP
    have hD : va_D A [(mA, .inr (6, vI 1 :: vI m_heat :: vI m_pressure :: vL m_allDays :: vI m_clocks :: .ref m_rods :: .ref m_arcs :: .ref m_haveCheeks :: .ref m_adjustments :: .ref m_offs :: .ref m_sorted :: vI m_asking :: .ref m_askedBy :: .ref m_metAt :: .ref m_turnsAt :: vI m_period :: vI m_turns :: vI m_ahead :: vI m_datum :: vI m_datumValue :: vI m_readings :: .ref m_stations :: .ref m_hours :: .ref m_values :: .ref m_areTied :: .ref m_ties :: .ref m_steps :: .ref m_gravities :: .ref m_met :: vI m_bobs :: vI m_weight :: vI m_spring :: vI m_air :: vI m_push :: .ref m_places :: .ref m_speeds :: .ref m_wasPlace :: .ref m_wasSpeed :: [])), (m_met, .inl (cZ, 4096, .inl (aI m_met_c)))] := hD
    refine lv_aload_n (pc := 18) hx hb dX8_returns_18 rfl (lv_at hl 0 rfl) ?_
    refine va_get (pc := 19) (D := D) (ci := 6) (v := vI 1) (C := RX8) (T := TX8) (N := 38) hx hb hts in_X8 hown hK hP 0 rfl rfl 0 (by decide) fl_85 (fun _ h9 => h9) rfl dX8_returns_19 ?_
    refine z_if_le (pc := 22) (tgt := 27) hx hb dX8_returns_22 (by decide) (by decide) (fun c_2 => ?_) (fun c_2 => ?_)
    · exact absurd c_2 (by decide)
    · have hc_22f := c_2
      refine z_iconst (pc := 25) hx hb dX8_returns_25 ?_
      have he_0 : (1 : Int) = (if (0 ≤ p0 ∧ p0 ≤ 63) ∧ (0 ≤ p1 ∧ p1 ≤ 63) ∧ (0 ≤ p2 ∧ p2 ≤ 200) then 0 else 1) := by first | rfl | omega | (rw [if_pos (by omega)]; omega) | (rw [if_pos (by omega)]; done) | (rw [if_neg (by omega)]; done) | (rw [if_neg (by omega), if_pos (by omega)]; done) | (rw [if_neg (by omega), if_neg (by omega)]; done) | (rw [if_neg (by omega), if_neg (by omega), if_pos (by omega)]; done) | (rw [if_neg (by omega), if_neg (by omega), if_neg (by omega)]; done)
      have hP : va_P D vwCl [(mA, .inr (6, vI (if (0 ≤ p0 ∧ p0 ≤ 63) ∧ (0 ≤ p1 ∧ p1 ≤ 63) ∧ (0 ≤ p2 ∧ p2 ≤ 200) then 0 else 1) :: vI m_heat :: vI m_pressure :: vL m_allDays :: vI m_clocks :: .ref m_rods :: .ref m_arcs :: .ref m_haveCheeks :: .ref m_adjustments :: .ref m_offs :: .ref m_sorted :: vI m_asking :: .ref m_askedBy :: .ref m_metAt :: .ref m_turnsAt :: vI m_period :: vI m_turns :: vI m_ahead :: vI m_datum :: vI m_datumValue :: vI m_readings :: .ref m_stations :: .ref m_hours :: .ref m_values :: .ref m_areTied :: .ref m_ties :: .ref m_steps :: .ref m_gravities :: .ref m_met :: vI m_bobs :: vI m_weight :: vI m_spring :: vI m_air :: vI m_push :: .ref m_places :: .ref m_speeds :: .ref m_wasPlace :: .ref m_wasSpeed :: [])), (m_met, .inl (cZ, 4096, .inl (aI m_met_c)))] H := by rw [← he_0]; exact hP
      have hD : va_D A [(mA, .inr (6, vI (if (0 ≤ p0 ∧ p0 ≤ 63) ∧ (0 ≤ p1 ∧ p1 ≤ 63) ∧ (0 ≤ p2 ∧ p2 ≤ 200) then 0 else 1) :: vI m_heat :: vI m_pressure :: vL m_allDays :: vI m_clocks :: .ref m_rods :: .ref m_arcs :: .ref m_haveCheeks :: .ref m_adjustments :: .ref m_offs :: .ref m_sorted :: vI m_asking :: .ref m_askedBy :: .ref m_metAt :: .ref m_turnsAt :: vI m_period :: vI m_turns :: vI m_ahead :: vI m_datum :: vI m_datumValue :: vI m_readings :: .ref m_stations :: .ref m_hours :: .ref m_values :: .ref m_areTied :: .ref m_ties :: .ref m_steps :: .ref m_gravities :: .ref m_met :: vI m_bobs :: vI m_weight :: vI m_spring :: vI m_air :: vI m_push :: .ref m_places :: .ref m_speeds :: .ref m_wasPlace :: .ref m_wasSpeed :: [])), (m_met, .inl (cZ, 4096, .inl (aI m_met_c)))] := by rw [← he_0]; exact hD
      have hP9 := hP.sub (ws' := [(mA, .inr (6, vI (if (0 ≤ p0 ∧ p0 ≤ 63) ∧ (0 ≤ p1 ∧ p1 ≤ 63) ∧ (0 ≤ p2 ∧ p2 ≤ 200) then 0 else 1) :: vI m_heat :: vI m_pressure :: vL m_allDays :: vI m_clocks :: .ref m_rods :: .ref m_arcs :: .ref m_haveCheeks :: .ref m_adjustments :: .ref m_offs :: .ref m_sorted :: vI m_asking :: .ref m_askedBy :: .ref m_metAt :: .ref m_turnsAt :: vI m_period :: vI m_turns :: vI m_ahead :: vI m_datum :: vI m_datumValue :: vI m_readings :: .ref m_stations :: .ref m_hours :: .ref m_values :: .ref m_areTied :: .ref m_ties :: .ref m_steps :: .ref m_gravities :: .ref m_met :: vI m_bobs :: vI m_weight :: vI m_spring :: vI m_air :: vI m_push :: .ref m_places :: .ref m_speeds :: .ref m_wasPlace :: .ref m_wasSpeed :: [])), (m_met, .inl (cZ, 4096, .inl (aI m_met_c)))]) [0, 1] rfl
      have hD9 := hD.sub (ws' := [(mA, .inr (6, vI (if (0 ≤ p0 ∧ p0 ≤ 63) ∧ (0 ≤ p1 ∧ p1 ≤ 63) ∧ (0 ≤ p2 ∧ p2 ≤ 200) then 0 else 1) :: vI m_heat :: vI m_pressure :: vL m_allDays :: vI m_clocks :: .ref m_rods :: .ref m_arcs :: .ref m_haveCheeks :: .ref m_adjustments :: .ref m_offs :: .ref m_sorted :: vI m_asking :: .ref m_askedBy :: .ref m_metAt :: .ref m_turnsAt :: vI m_period :: vI m_turns :: vI m_ahead :: vI m_datum :: vI m_datumValue :: vI m_readings :: .ref m_stations :: .ref m_hours :: .ref m_values :: .ref m_areTied :: .ref m_ties :: .ref m_steps :: .ref m_gravities :: .ref m_met :: vI m_bobs :: vI m_weight :: vI m_spring :: vI m_air :: vI m_push :: .ref m_places :: .ref m_speeds :: .ref m_wasPlace :: .ref m_wasSpeed :: [])), (m_met, .inl (cZ, 4096, .inl (aI m_met_c)))]) [0, 1] (by decide) rfl
      have hv : (0 : Int) = (if (0 ≤ p0 ∧ p0 ≤ 63) ∧ (0 ≤ p1 ∧ p1 ≤ 63) ∧ (0 ≤ p2 ∧ p2 ≤ 200) then cyZ p2 (64 * p0 + p1) else 0) := by first | (rw [if_neg (show ¬ flZ m_met_c 0 4096 (64 * p0 + p1) = 1 by rw [flZ_in (by omega)]; decide), if_pos (by omega)]; done) | (rw [if_neg (by omega)]; done) | omega
      exact W.iret (pc := 26) (v := zI 0) hx hb hr (fun t ht hW => ⟨⟨zI 0, m_met_c, rfl, ⟨congrArg zI hv, trivial⟩, by rw [ht]; exact hP9, hD9⟩, hS.F ht⟩) hS.2.2 dX8_returns_26
  · have hc_7f := c_1
    refine z_iconst (pc := 10) hx hb dX8_returns_10 ?_
    refine lv_goto (pc := 11) (tgt := 15) hx hb dX8_returns_11 (by decide) ?_
    refine va_put (pc := 15) (D := D) (ci := 6) (v := vI 0) (ty := .int) (C := RX8) (T := TX8) (N := 38) hx hb hts in_X8 tyX8 tyX8_ok nmX8 hown hK hP hD hS 0 rfl rfl 0 (by decide) fl_85 (fun _ h9 => h9) rfl (by decide +kernel) rfl rfl (Nat.le_of_ble_eq_true rfl) dX8_returns_15 (fun H locs hP hD hS => ?_)
    have hP : va_P D vwCl [(mA, .inr (6, vI 0 :: vI m_heat :: vI m_pressure :: vL m_allDays :: vI m_clocks :: .ref m_rods :: .ref m_arcs :: .ref m_haveCheeks :: .ref m_adjustments :: .ref m_offs :: .ref m_sorted :: vI m_asking :: .ref m_askedBy :: .ref m_metAt :: .ref m_turnsAt :: vI m_period :: vI m_turns :: vI m_ahead :: vI m_datum :: vI m_datumValue :: vI m_readings :: .ref m_stations :: .ref m_hours :: .ref m_values :: .ref m_areTied :: .ref m_ties :: .ref m_steps :: .ref m_gravities :: .ref m_met :: vI m_bobs :: vI m_weight :: vI m_spring :: vI m_air :: vI m_push :: .ref m_places :: .ref m_speeds :: .ref m_wasPlace :: .ref m_wasSpeed :: [])), (m_met, .inl (cZ, 4096, .inl (aI m_met_c)))] H := hP
    have hD : va_D A [(mA, .inr (6, vI 0 :: vI m_heat :: vI m_pressure :: vL m_allDays :: vI m_clocks :: .ref m_rods :: .ref m_arcs :: .ref m_haveCheeks :: .ref m_adjustments :: .ref m_offs :: .ref m_sorted :: vI m_asking :: .ref m_askedBy :: .ref m_metAt :: .ref m_turnsAt :: vI m_period :: vI m_turns :: vI m_ahead :: vI m_datum :: vI m_datumValue :: vI m_readings :: .ref m_stations :: .ref m_hours :: .ref m_values :: .ref m_areTied :: .ref m_ties :: .ref m_steps :: .ref m_gravities :: .ref m_met :: vI m_bobs :: vI m_weight :: vI m_spring :: vI m_air :: vI m_push :: .ref m_places :: .ref m_speeds :: .ref m_wasPlace :: .ref m_wasSpeed :: [])), (m_met, .inl (cZ, 4096, .inl (aI m_met_c)))] := hD
    refine lv_aload_n (pc := 18) hx hb dX8_returns_18 rfl (lv_at hl 0 rfl) ?_
    refine va_get (pc := 19) (D := D) (ci := 6) (v := vI 0) (C := RX8) (T := TX8) (N := 38) hx hb hts in_X8 hown hK hP 0 rfl rfl 0 (by decide) fl_85 (fun _ h9 => h9) rfl dX8_returns_19 ?_
    refine z_if_le (pc := 22) (tgt := 27) hx hb dX8_returns_22 (by decide) (by decide) (fun c_3 => ?_) (fun c_3 => ?_)
    · have hc_22t := c_3
      refine lv_aload_n (pc := 27) hx hb dX8_returns_27 rfl (lv_at hl 0 rfl) ?_
      have hPc := hP.sub (ws' := [(mA, .inr (6, vI 0 :: vI m_heat :: vI m_pressure :: vL m_allDays :: vI m_clocks :: .ref m_rods :: .ref m_arcs :: .ref m_haveCheeks :: .ref m_adjustments :: .ref m_offs :: .ref m_sorted :: vI m_asking :: .ref m_askedBy :: .ref m_metAt :: .ref m_turnsAt :: vI m_period :: vI m_turns :: vI m_ahead :: vI m_datum :: vI m_datumValue :: vI m_readings :: .ref m_stations :: .ref m_hours :: .ref m_values :: .ref m_areTied :: .ref m_ties :: .ref m_steps :: .ref m_gravities :: .ref m_met :: vI m_bobs :: vI m_weight :: vI m_spring :: vI m_air :: vI m_push :: .ref m_places :: .ref m_speeds :: .ref m_wasPlace :: .ref m_wasSpeed :: [])), (m_met, .inl (cZ, 4096, .inl (aI m_met_c)))]) [0, 1] rfl
      have hDc := hD.sub (ws' := [(mA, .inr (6, vI 0 :: vI m_heat :: vI m_pressure :: vL m_allDays :: vI m_clocks :: .ref m_rods :: .ref m_arcs :: .ref m_haveCheeks :: .ref m_adjustments :: .ref m_offs :: .ref m_sorted :: vI m_asking :: .ref m_askedBy :: .ref m_metAt :: .ref m_turnsAt :: vI m_period :: vI m_turns :: vI m_ahead :: vI m_datum :: vI m_datumValue :: vI m_readings :: .ref m_stations :: .ref m_hours :: .ref m_values :: .ref m_areTied :: .ref m_ties :: .ref m_steps :: .ref m_gravities :: .ref m_met :: vI m_bobs :: vI m_weight :: vI m_spring :: vI m_air :: vI m_push :: .ref m_places :: .ref m_speeds :: .ref m_wasPlace :: .ref m_wasSpeed :: [])), (m_met, .inl (cZ, 4096, .inl (aI m_met_c)))]) [0, 1] (by decide) rfl
      refine z_callWv (pc := 28) (wc := [(mA, .inr (6, vI 0 :: vI m_heat :: vI m_pressure :: vL m_allDays :: vI m_clocks :: .ref m_rods :: .ref m_arcs :: .ref m_haveCheeks :: .ref m_adjustments :: .ref m_offs :: .ref m_sorted :: vI m_asking :: .ref m_askedBy :: .ref m_metAt :: .ref m_turnsAt :: vI m_period :: vI m_turns :: vI m_ahead :: vI m_datum :: vI m_datumValue :: vI m_readings :: .ref m_stations :: .ref m_hours :: .ref m_values :: .ref m_areTied :: .ref m_ties :: .ref m_steps :: .ref m_gravities :: .ref m_met :: vI m_bobs :: vI m_weight :: vI m_spring :: vI m_air :: vI m_push :: .ref m_places :: .ref m_speeds :: .ref m_wasPlace :: .ref m_wasSpeed :: [])), (m_met, .inl (cZ, 4096, .inl (aI m_met_c)))]) hP hD hS hA [0, 1] [] [] rfl rfl (by decide) (by decide) (va_runV (As := []) (rest := []) ⟨hx, hb, hml, hown, hts⟩ (m_X8_none l D cI cJ cZ cD H.size mA 0 m_heat m_pressure m_allDays m_clocks m_rods m_arcs m_haveCheeks m_adjustments m_offs m_sorted m_asking m_askedBy m_metAt m_turnsAt m_period m_turns m_ahead m_datum m_datumValue m_readings m_stations m_hours m_values m_areTied m_ties m_steps m_gravities m_met m_bobs m_weight m_spring m_air m_push m_places m_speeds m_wasPlace m_wasSpeed m_met_c  ) (cwV 0 hts gX8_returns_X8_none rfl rfl rfl (by decide +kernel) ⟨Nat.le_of_ble_eq_true rfl, Nat.le_of_ble_eq_true rfl⟩) ⟨z_blind, va_recv hK hPc (ci := 6) (q0 := 0) rfl rfl, z_pre hPc hK hDc rfl rfl hN⟩ rfl rfl hl.1 rfl (lv_room (Nat.le_of_ble_eq_true rfl)) dX8_returns_28 ⟨Nat.zero_le _, Nat.zero_le _⟩) (fun u H locs hw hP hD hS => ?_)
      have hw_4 := hw
      have hP : va_P D vwCl [(mA, .inr (6, vI 0 :: vI m_heat :: vI m_pressure :: vL m_allDays :: vI m_clocks :: .ref m_rods :: .ref m_arcs :: .ref m_haveCheeks :: .ref m_adjustments :: .ref m_offs :: .ref m_sorted :: vI m_asking :: .ref m_askedBy :: .ref m_metAt :: .ref m_turnsAt :: vI m_period :: vI m_turns :: vI m_ahead :: vI m_datum :: vI m_datumValue :: vI m_readings :: .ref m_stations :: .ref m_hours :: .ref m_values :: .ref m_areTied :: .ref m_ties :: .ref m_steps :: .ref m_gravities :: .ref m_met :: vI m_bobs :: vI m_weight :: vI m_spring :: vI m_air :: vI m_push :: .ref m_places :: .ref m_speeds :: .ref m_wasPlace :: .ref m_wasSpeed :: [])), (m_met, .inl (cZ, 4096, .inl (aI (flZ m_met_c 0 4096))))] H := hP
      have hD : va_D A [(mA, .inr (6, vI 0 :: vI m_heat :: vI m_pressure :: vL m_allDays :: vI m_clocks :: .ref m_rods :: .ref m_arcs :: .ref m_haveCheeks :: .ref m_adjustments :: .ref m_offs :: .ref m_sorted :: vI m_asking :: .ref m_askedBy :: .ref m_metAt :: .ref m_turnsAt :: vI m_period :: vI m_turns :: vI m_ahead :: vI m_datum :: vI m_datumValue :: vI m_readings :: .ref m_stations :: .ref m_hours :: .ref m_values :: .ref m_areTied :: .ref m_ties :: .ref m_steps :: .ref m_gravities :: .ref m_met :: vI m_bobs :: vI m_weight :: vI m_spring :: vI m_air :: vI m_push :: .ref m_places :: .ref m_speeds :: .ref m_wasPlace :: .ref m_wasSpeed :: [])), (m_met, .inl (cZ, 4096, .inl (aI (flZ m_met_c 0 4096))))] := hD
      refine lv_aload_n (pc := 31) hx hb dX8_returns_31 rfl (lv_at hl 0 rfl) ?_
      refine z_bipush (pc := 32) hx hb dX8_returns_32 (by decide) ?_
      refine lv_iload_n (pc := 34) hx hb dX8_returns_34 rfl (lv_at hl 1 rfl) ?_
      refine z_imul (pc := 35) hx hb dX8_returns_35 ?_
      refine lv_iload_n (pc := 36) hx hb dX8_returns_36 rfl (lv_at hl 2 rfl) ?_
      refine z_iadd (pc := 37) hx hb dX8_returns_37 ?_
      refine lv_iload_n (pc := 38) hx hb dX8_returns_38 rfl (lv_at hl 3 rfl) ?_
      have hPc := hP.sub (ws' := [(mA, .inr (6, vI 0 :: vI m_heat :: vI m_pressure :: vL m_allDays :: vI m_clocks :: .ref m_rods :: .ref m_arcs :: .ref m_haveCheeks :: .ref m_adjustments :: .ref m_offs :: .ref m_sorted :: vI m_asking :: .ref m_askedBy :: .ref m_metAt :: .ref m_turnsAt :: vI m_period :: vI m_turns :: vI m_ahead :: vI m_datum :: vI m_datumValue :: vI m_readings :: .ref m_stations :: .ref m_hours :: .ref m_values :: .ref m_areTied :: .ref m_ties :: .ref m_steps :: .ref m_gravities :: .ref m_met :: vI m_bobs :: vI m_weight :: vI m_spring :: vI m_air :: vI m_push :: .ref m_places :: .ref m_speeds :: .ref m_wasPlace :: .ref m_wasSpeed :: [])), (m_met, .inl (cZ, 4096, .inl (aI (flZ m_met_c 0 4096))))]) [0, 1] rfl
      have hDc := hD.sub (ws' := [(mA, .inr (6, vI 0 :: vI m_heat :: vI m_pressure :: vL m_allDays :: vI m_clocks :: .ref m_rods :: .ref m_arcs :: .ref m_haveCheeks :: .ref m_adjustments :: .ref m_offs :: .ref m_sorted :: vI m_asking :: .ref m_askedBy :: .ref m_metAt :: .ref m_turnsAt :: vI m_period :: vI m_turns :: vI m_ahead :: vI m_datum :: vI m_datumValue :: vI m_readings :: .ref m_stations :: .ref m_hours :: .ref m_values :: .ref m_areTied :: .ref m_ties :: .ref m_steps :: .ref m_gravities :: .ref m_met :: vI m_bobs :: vI m_weight :: vI m_spring :: vI m_air :: vI m_push :: .ref m_places :: .ref m_speeds :: .ref m_wasPlace :: .ref m_wasSpeed :: [])), (m_met, .inl (cZ, 4096, .inl (aI (flZ m_met_c 0 4096))))]) [0, 1] (by decide) rfl
      refine z_callWi (pc := 39) (wc := [(mA, .inr (6, vI 0 :: vI m_heat :: vI m_pressure :: vL m_allDays :: vI m_clocks :: .ref m_rods :: .ref m_arcs :: .ref m_haveCheeks :: .ref m_adjustments :: .ref m_offs :: .ref m_sorted :: vI m_asking :: .ref m_askedBy :: .ref m_metAt :: .ref m_turnsAt :: vI m_period :: vI m_turns :: vI m_ahead :: vI m_datum :: vI m_datumValue :: vI m_readings :: .ref m_stations :: .ref m_hours :: .ref m_values :: .ref m_areTied :: .ref m_ties :: .ref m_steps :: .ref m_gravities :: .ref m_met :: vI m_bobs :: vI m_weight :: vI m_spring :: vI m_air :: vI m_push :: .ref m_places :: .ref m_speeds :: .ref m_wasPlace :: .ref m_wasSpeed :: [])), (m_met, .inl (cZ, 4096, .inl (aI (flZ m_met_c 0 4096))))]) hP hD hS hA [0, 1] [] [] rfl rfl (by decide) (by decide) (va_runV (As := [vI ((64 * p0) + p1), vI p2]) (rest := []) ⟨hx, hb, hml, hown, hts⟩ (m_X8_through l D cI cJ cZ cD H.size mA 0 m_heat m_pressure m_allDays m_clocks m_rods m_arcs m_haveCheeks m_adjustments m_offs m_sorted m_asking m_askedBy m_metAt m_turnsAt m_period m_turns m_ahead m_datum m_datumValue m_readings m_stations m_hours m_values m_areTied m_ties m_steps m_gravities m_met m_bobs m_weight m_spring m_air m_push m_places m_speeds m_wasPlace m_wasSpeed (flZ m_met_c 0 4096) ((64 * p0) + p1) p2 (by omega) (by omega) (fun x a b => Or.inl (flZ_in ⟨a, b⟩)) (fun x a b h => absurd h (by rw [flZ_in ⟨a, b⟩]; decide))) (cwV 2 hts gX8_returns_X8_through rfl rfl rfl (by decide +kernel) ⟨Nat.le_of_ble_eq_true rfl, Nat.le_of_ble_eq_true rfl⟩) ⟨z_blind, va_recv hK hPc (ci := 6) (q0 := 0) rfl rfl, z_pre hPc hK hDc rfl rfl hN⟩ rfl rfl hl.1 rfl (lv_room (Nat.le_of_ble_eq_true rfl)) dX8_returns_39 ⟨Nat.zero_le _, Nat.zero_le _⟩) (fun r u H locs hw hP hD hS => ?_)
      obtain ⟨u_5, rfl⟩ : ∃ z, z = u := ⟨_, rfl⟩
      obtain ⟨rfl, hw_6⟩ := hw
      have hw_6 : ∀ x : Int, 0 ≤ x → x < 4096 → (u_5 x = 0 ∨ u_5 x = 1) ∧ (u_5 x = 1 ↔ (flZ m_met_c 0 4096) x = 1 ∨ onR p2 ((64 * p0) + p1) x) := hw_6
      have hP : va_P D vwCl [(mA, .inr (6, vI 0 :: vI m_heat :: vI m_pressure :: vL m_allDays :: vI m_clocks :: .ref m_rods :: .ref m_arcs :: .ref m_haveCheeks :: .ref m_adjustments :: .ref m_offs :: .ref m_sorted :: vI m_asking :: .ref m_askedBy :: .ref m_metAt :: .ref m_turnsAt :: vI m_period :: vI m_turns :: vI m_ahead :: vI m_datum :: vI m_datumValue :: vI m_readings :: .ref m_stations :: .ref m_hours :: .ref m_values :: .ref m_areTied :: .ref m_ties :: .ref m_steps :: .ref m_gravities :: .ref m_met :: vI m_bobs :: vI m_weight :: vI m_spring :: vI m_air :: vI m_push :: .ref m_places :: .ref m_speeds :: .ref m_wasPlace :: .ref m_wasSpeed :: [])), (m_met, .inl (cZ, 4096, .inl (aI u_5)))] H := hP
      have hD : va_D A [(mA, .inr (6, vI 0 :: vI m_heat :: vI m_pressure :: vL m_allDays :: vI m_clocks :: .ref m_rods :: .ref m_arcs :: .ref m_haveCheeks :: .ref m_adjustments :: .ref m_offs :: .ref m_sorted :: vI m_asking :: .ref m_askedBy :: .ref m_metAt :: .ref m_turnsAt :: vI m_period :: vI m_turns :: vI m_ahead :: vI m_datum :: vI m_datumValue :: vI m_readings :: .ref m_stations :: .ref m_hours :: .ref m_values :: .ref m_areTied :: .ref m_ties :: .ref m_steps :: .ref m_gravities :: .ref m_met :: vI m_bobs :: vI m_weight :: vI m_spring :: vI m_air :: vI m_push :: .ref m_places :: .ref m_speeds :: .ref m_wasPlace :: .ref m_wasSpeed :: [])), (m_met, .inl (cZ, 4096, .inl (aI u_5)))] := hD
      have he_0 : (0 : Int) = (if (0 ≤ p0 ∧ p0 ≤ 63) ∧ (0 ≤ p1 ∧ p1 ≤ 63) ∧ (0 ≤ p2 ∧ p2 ≤ 200) then 0 else 1) := by first | rfl | omega | (rw [if_pos (by omega)]; omega) | (rw [if_pos (by omega)]; done) | (rw [if_neg (by omega)]; done) | (rw [if_neg (by omega), if_pos (by omega)]; done) | (rw [if_neg (by omega), if_neg (by omega)]; done) | (rw [if_neg (by omega), if_neg (by omega), if_pos (by omega)]; done) | (rw [if_neg (by omega), if_neg (by omega), if_neg (by omega)]; done)
      have hP : va_P D vwCl [(mA, .inr (6, vI (if (0 ≤ p0 ∧ p0 ≤ 63) ∧ (0 ≤ p1 ∧ p1 ≤ 63) ∧ (0 ≤ p2 ∧ p2 ≤ 200) then 0 else 1) :: vI m_heat :: vI m_pressure :: vL m_allDays :: vI m_clocks :: .ref m_rods :: .ref m_arcs :: .ref m_haveCheeks :: .ref m_adjustments :: .ref m_offs :: .ref m_sorted :: vI m_asking :: .ref m_askedBy :: .ref m_metAt :: .ref m_turnsAt :: vI m_period :: vI m_turns :: vI m_ahead :: vI m_datum :: vI m_datumValue :: vI m_readings :: .ref m_stations :: .ref m_hours :: .ref m_values :: .ref m_areTied :: .ref m_ties :: .ref m_steps :: .ref m_gravities :: .ref m_met :: vI m_bobs :: vI m_weight :: vI m_spring :: vI m_air :: vI m_push :: .ref m_places :: .ref m_speeds :: .ref m_wasPlace :: .ref m_wasSpeed :: [])), (m_met, .inl (cZ, 4096, .inl (aI u_5)))] H := by rw [← he_0]; exact hP
      have hD : va_D A [(mA, .inr (6, vI (if (0 ≤ p0 ∧ p0 ≤ 63) ∧ (0 ≤ p1 ∧ p1 ≤ 63) ∧ (0 ≤ p2 ∧ p2 ≤ 200) then 0 else 1) :: vI m_heat :: vI m_pressure :: vL m_allDays :: vI m_clocks :: .ref m_rods :: .ref m_arcs :: .ref m_haveCheeks :: .ref m_adjustments :: .ref m_offs :: .ref m_sorted :: vI m_asking :: .ref m_askedBy :: .ref m_metAt :: .ref m_turnsAt :: vI m_period :: vI m_turns :: vI m_ahead :: vI m_datum :: vI m_datumValue :: vI m_readings :: .ref m_stations :: .ref m_hours :: .ref m_values :: .ref m_areTied :: .ref m_ties :: .ref m_steps :: .ref m_gravities :: .ref m_met :: vI m_bobs :: vI m_weight :: vI m_spring :: vI m_air :: vI m_push :: .ref m_places :: .ref m_speeds :: .ref m_wasPlace :: .ref m_wasSpeed :: [])), (m_met, .inl (cZ, 4096, .inl (aI u_5)))] := by rw [← he_0]; exact hD
      have hP9 := hP.sub (ws' := [(mA, .inr (6, vI (if (0 ≤ p0 ∧ p0 ≤ 63) ∧ (0 ≤ p1 ∧ p1 ≤ 63) ∧ (0 ≤ p2 ∧ p2 ≤ 200) then 0 else 1) :: vI m_heat :: vI m_pressure :: vL m_allDays :: vI m_clocks :: .ref m_rods :: .ref m_arcs :: .ref m_haveCheeks :: .ref m_adjustments :: .ref m_offs :: .ref m_sorted :: vI m_asking :: .ref m_askedBy :: .ref m_metAt :: .ref m_turnsAt :: vI m_period :: vI m_turns :: vI m_ahead :: vI m_datum :: vI m_datumValue :: vI m_readings :: .ref m_stations :: .ref m_hours :: .ref m_values :: .ref m_areTied :: .ref m_ties :: .ref m_steps :: .ref m_gravities :: .ref m_met :: vI m_bobs :: vI m_weight :: vI m_spring :: vI m_air :: vI m_push :: .ref m_places :: .ref m_speeds :: .ref m_wasPlace :: .ref m_wasSpeed :: [])), (m_met, .inl (cZ, 4096, .inl (aI u_5)))]) [0, 1] rfl
      have hD9 := hD.sub (ws' := [(mA, .inr (6, vI (if (0 ≤ p0 ∧ p0 ≤ 63) ∧ (0 ≤ p1 ∧ p1 ≤ 63) ∧ (0 ≤ p2 ∧ p2 ≤ 200) then 0 else 1) :: vI m_heat :: vI m_pressure :: vL m_allDays :: vI m_clocks :: .ref m_rods :: .ref m_arcs :: .ref m_haveCheeks :: .ref m_adjustments :: .ref m_offs :: .ref m_sorted :: vI m_asking :: .ref m_askedBy :: .ref m_metAt :: .ref m_turnsAt :: vI m_period :: vI m_turns :: vI m_ahead :: vI m_datum :: vI m_datumValue :: vI m_readings :: .ref m_stations :: .ref m_hours :: .ref m_values :: .ref m_areTied :: .ref m_ties :: .ref m_steps :: .ref m_gravities :: .ref m_met :: vI m_bobs :: vI m_weight :: vI m_spring :: vI m_air :: vI m_push :: .ref m_places :: .ref m_speeds :: .ref m_wasPlace :: .ref m_wasSpeed :: [])), (m_met, .inl (cZ, 4096, .inl (aI u_5)))]) [0, 1] (by decide) rfl
      have hv : (if (flZ m_met_c 0 4096) ((64 * p0) + p1) = 1 then 0 else cyZ p2 ((64 * p0) + p1) : Int) = (if (0 ≤ p0 ∧ p0 ≤ 63) ∧ (0 ≤ p1 ∧ p1 ≤ 63) ∧ (0 ≤ p2 ∧ p2 ≤ 200) then cyZ p2 (64 * p0 + p1) else 0) := by first | (rw [if_neg (show ¬ flZ m_met_c 0 4096 (64 * p0 + p1) = 1 by rw [flZ_in (by omega)]; decide), if_pos (by omega)]; done) | (rw [if_neg (by omega)]; done) | omega
      exact W.iret (pc := 42) (v := zI (if (flZ m_met_c 0 4096) ((64 * p0) + p1) = 1 then 0 else cyZ p2 ((64 * p0) + p1))) hx hb hr (fun t ht hW => ⟨⟨zI (if (flZ m_met_c 0 4096) ((64 * p0) + p1) = 1 then 0 else cyZ p2 ((64 * p0) + p1)), u_5, rfl, ⟨congrArg zI hv, trivial⟩, by rw [ht]; exact hP9, hD9⟩, hS.F ht⟩) hS.2.2 dX8_returns_42
    · exact absurd c_3 (by decide)

set_option maxHeartbeats 4000000 in
set_option maxRecDepth 100000 in
theorem m_X8_rounds (l : Launch) (D : va_G) (cI cJ cZ cD : ClassId) (sz : Nat) (mA : Nat) (m_thrown : Int) (m_heat : Int) (m_pressure : Int) (m_allDays : Int) (m_clocks : Int) (m_rods : Nat) (m_arcs : Nat) (m_haveCheeks : Nat) (m_adjustments : Nat) (m_offs : Nat) (m_sorted : Nat) (m_asking : Int) (m_askedBy : Nat) (m_metAt : Nat) (m_turnsAt : Nat) (m_period : Int) (m_turns : Int) (m_ahead : Int) (m_datum : Int) (m_datumValue : Int) (m_readings : Int) (m_stations : Nat) (m_hours : Nat) (m_values : Nat) (m_areTied : Nat) (m_ties : Nat) (m_steps : Nat) (m_gravities : Nat) (m_met : Nat) (m_bobs : Int) (m_weight : Int) (m_spring : Int) (m_air : Int) (m_push : Int) (m_places : Nat) (m_speeds : Nat) (m_wasPlace : Nat) (m_wasSpeed : Nat) (m_met_c : Int → Int) (p0 : Int) (p1 : Int) (hrp0 : -2147483648 ≤ p0 ∧ p0 < 2147483648) (hrp1 : -2147483648 ≤ p1 ∧ p1 < 2147483648) : Met l yX8_rounds wsX8_rounds ({ frames := 4, cells := 0, slots := 0, locals := 92 } : Room) (zPc D (TY cI cJ cZ cD) sz [.ref mA, vI p0, vI p1] [(mA, .inr (6, vI m_thrown :: vI m_heat :: vI m_pressure :: vL m_allDays :: vI m_clocks :: .ref m_rods :: .ref m_arcs :: .ref m_haveCheeks :: .ref m_adjustments :: .ref m_offs :: .ref m_sorted :: vI m_asking :: .ref m_askedBy :: .ref m_metAt :: .ref m_turnsAt :: vI m_period :: vI m_turns :: vI m_ahead :: vI m_datum :: vI m_datumValue :: vI m_readings :: .ref m_stations :: .ref m_hours :: .ref m_values :: .ref m_areTied :: .ref m_ties :: .ref m_steps :: .ref m_gravities :: .ref m_met :: vI m_bobs :: vI m_weight :: vI m_spring :: vI m_air :: vI m_push :: .ref m_places :: .ref m_speeds :: .ref m_wasPlace :: .ref m_wasSpeed :: [])), (m_met, .inl (cZ, 4096, .inl (aI m_met_c)))]) (va_Qi (fun (r : Int32) (u : (Int → Int)) => match u with | g => r = zI (if (0 ≤ p0 ∧ p0 ≤ 200) ∧ (p1 = -1 ∨ (1 ≤ p1 ∧ p1 ≤ 4096)) then smZ (rdZ p0 p1) 4096 else 0) ∧ (True)) (zB D (va_A [(mA, .inr (6, vI m_thrown :: vI m_heat :: vI m_pressure :: vL m_allDays :: vI m_clocks :: .ref m_rods :: .ref m_arcs :: .ref m_haveCheeks :: .ref m_adjustments :: .ref m_offs :: .ref m_sorted :: vI m_asking :: .ref m_askedBy :: .ref m_metAt :: .ref m_turnsAt :: vI m_period :: vI m_turns :: vI m_ahead :: vI m_datum :: vI m_datumValue :: vI m_readings :: .ref m_stations :: .ref m_hours :: .ref m_values :: .ref m_areTied :: .ref m_ties :: .ref m_steps :: .ref m_gravities :: .ref m_met :: vI m_bobs :: vI m_weight :: vI m_spring :: vI m_air :: vI m_push :: .ref m_places :: .ref m_speeds :: .ref m_wasPlace :: .ref m_wasSpeed :: [])), (m_met, .inl (cZ, 4096, .inl (aI m_met_c)))] sz) (fun (u : (Int → Int)) => match u with | g => [(mA, .inr (6, vI (if (0 ≤ p0 ∧ p0 ≤ 200) ∧ (p1 = -1 ∨ (1 ≤ p1 ∧ p1 ≤ 4096)) then 0 else 1) :: vI m_heat :: vI m_pressure :: vL m_allDays :: vI m_clocks :: .ref m_rods :: .ref m_arcs :: .ref m_haveCheeks :: .ref m_adjustments :: .ref m_offs :: .ref m_sorted :: vI m_asking :: .ref m_askedBy :: .ref m_metAt :: .ref m_turnsAt :: vI m_period :: vI m_turns :: vI m_ahead :: vI m_datum :: vI m_datumValue :: vI m_readings :: .ref m_stations :: .ref m_hours :: .ref m_values :: .ref m_areTied :: .ref m_ties :: .ref m_steps :: .ref m_gravities :: .ref m_met :: vI m_bobs :: vI m_weight :: vI m_spring :: vI m_air :: vI m_push :: .ref m_places :: .ref m_speeds :: .ref m_wasPlace :: .ref m_wasSpeed :: [])), (m_met, .inl (cZ, 4096, .inl (aI g)))])) (va_A [(mA, .inr (6, vI m_thrown :: vI m_heat :: vI m_pressure :: vL m_allDays :: vI m_clocks :: .ref m_rods :: .ref m_arcs :: .ref m_haveCheeks :: .ref m_adjustments :: .ref m_offs :: .ref m_sorted :: vI m_asking :: .ref m_askedBy :: .ref m_metAt :: .ref m_turnsAt :: vI m_period :: vI m_turns :: vI m_ahead :: vI m_datum :: vI m_datumValue :: vI m_readings :: .ref m_stations :: .ref m_hours :: .ref m_values :: .ref m_areTied :: .ref m_ties :: .ref m_steps :: .ref m_gravities :: .ref m_met :: vI m_bobs :: vI m_weight :: vI m_spring :: vI m_air :: vI m_push :: .ref m_places :: .ref m_speeds :: .ref m_wasPlace :: .ref m_wasSpeed :: [])), (m_met, .inl (cZ, 4096, .inl (aI m_met_c)))] sz)) 0 0 (va_A [(mA, .inr (6, vI m_thrown :: vI m_heat :: vI m_pressure :: vL m_allDays :: vI m_clocks :: .ref m_rods :: .ref m_arcs :: .ref m_haveCheeks :: .ref m_adjustments :: .ref m_offs :: .ref m_sorted :: vI m_asking :: .ref m_askedBy :: .ref m_metAt :: .ref m_turnsAt :: vI m_period :: vI m_turns :: vI m_ahead :: vI m_datum :: vI m_datumValue :: vI m_readings :: .ref m_stations :: .ref m_hours :: .ref m_values :: .ref m_areTied :: .ref m_ties :: .ref m_steps :: .ref m_gravities :: .ref m_met :: vI m_bobs :: vI m_weight :: vI m_spring :: vI m_air :: vI m_push :: .ref m_places :: .ref m_speeds :: .ref m_wasPlace :: .ref m_wasSpeed :: [])), (m_met, .inl (cZ, 4096, .inl (aI m_met_c)))] sz) := by
  refine Met.ofW (cc := cX8_rounds) (maxL := 6) (ret := (some .int)) (by decide) rfl ?_
  intro p e s m args below meth c s₁ B hml hv
  obtain ⟨rfl, hsz, hP, hK, hD0, hN⟩ := hv
  have hx := B.exec
  have hb := B.bytes
  have hr := B.returns
  have hts := atoms_spec (ws := wsX8_rounds) B.pre
  have hown : s.vm.findClass RX8 = some m.cls := findClass_of_methodNamed B.named
  have hlocks := B.notSynchronized
  subst hsz
  have hD := hD0.self (sz := s.heap.size)
  generalize hAe : va_A [(mA, .inr (6, vI m_thrown :: vI m_heat :: vI m_pressure :: vL m_allDays :: vI m_clocks :: .ref m_rods :: .ref m_arcs :: .ref m_haveCheeks :: .ref m_adjustments :: .ref m_offs :: .ref m_sorted :: vI m_asking :: .ref m_askedBy :: .ref m_metAt :: .ref m_turnsAt :: vI m_period :: vI m_turns :: vI m_ahead :: vI m_datum :: vI m_datumValue :: vI m_readings :: .ref m_stations :: .ref m_hours :: .ref m_values :: .ref m_areTied :: .ref m_ties :: .ref m_steps :: .ref m_gravities :: .ref m_met :: vI m_bobs :: vI m_weight :: vI m_spring :: vI m_air :: vI m_push :: .ref m_places :: .ref m_speeds :: .ref m_wasPlace :: .ref m_wasSpeed :: [])), (m_met, .inl (cZ, 4096, .inl (aI m_met_c)))] s.heap.size = A at hD ⊢
  have hA : ∀ q : Nat, s.heap.size ≤ q → A q := fun q h => by rw [← hAe]; exact Or.inr h
  have hS : va_S A s.heap s.heap [] := va_S.rf
  have hP : va_P D vwCl [(mA, .inr (6, vI m_thrown :: vI m_heat :: vI m_pressure :: vL m_allDays :: vI m_clocks :: .ref m_rods :: .ref m_arcs :: .ref m_haveCheeks :: .ref m_adjustments :: .ref m_offs :: .ref m_sorted :: vI m_asking :: .ref m_askedBy :: .ref m_metAt :: .ref m_turnsAt :: vI m_period :: vI m_turns :: vI m_ahead :: vI m_datum :: vI m_datumValue :: vI m_readings :: .ref m_stations :: .ref m_hours :: .ref m_values :: .ref m_areTied :: .ref m_ties :: .ref m_steps :: .ref m_gravities :: .ref m_met :: vI m_bobs :: vI m_weight :: vI m_spring :: vI m_air :: vI m_push :: .ref m_places :: .ref m_speeds :: .ref m_wasPlace :: .ref m_wasSpeed :: [])), (m_met, .inl (cZ, 4096, .inl (aI m_met_c)))] s.heap := hP
  have fl_85 := hts (.fieldLink RX8 85 "PendulumHallModel" "thrown" "I") (by decide +kernel)
  have in_X8 : ∀ w ∈ wsX80, w ∈ wsX8_rounds := by decide +kernel
  have hl := lv_entry ([.ref mA, vI p0, vI p1]) (n := 6) (Nat.le_of_ble_eq_true rfl)
  rw [lg_entry_eq]
  generalize (lg_sl ([.ref mA, vI p0, vI p1]) ++ List.replicate (6 - (lg_sl ([.ref mA, vI p0, vI p1])).length) Slot.unset).toArray = ls at hl ⊢
  have hl : lv_has ls 6 [(0, .ref mA), (1, vI p0), (2, vI p1)] := hl
  refine lv_aload_n (pc := 0) hx hb dX8_rounds_0 rfl (lv_at hl 0 rfl) ?_
  refine lv_iload_n (pc := 1) hx hb dX8_rounds_1 rfl (lv_at hl 1 rfl) ?_
  refine z_iconst (pc := 2) hx hb dX8_rounds_2 ?_
  refine z_sipush (pc := 3) hx hb dX8_rounds_3 (by decide) ?_
  refine z_callR (pc := 6) (va_runS (As := [vI p0, vI 0, vI 200]) (rest := [.ref mA]) ⟨hx, hb, hml, hown, hts⟩ (m_X8_isIn l D cI cJ cZ cD 0  p0 0 200 (by omega) (by omega) (by omega)) (va_cwS 3 hts gX8_rounds_X8_isIn rfl rfl rfl (by decide +kernel) ⟨Nat.le_of_ble_eq_true rfl, Nat.le_of_ble_eq_true rfl⟩) ⟨fun a U g mk q => q, fun U hU hW => ⟨rfl, trivial⟩⟩ rfl rfl hl.1 rfl (lv_room (Nat.le_of_ble_eq_true rfl)) dX8_rounds_6 ⟨Nat.zero_le _, Nat.zero_le _⟩) ?_
  refine z_ifp_eq (pc := 9) (tgt := 32) hx hb dX8_rounds_9 (by decide) (fun c_1 => ?_) (fun c_1 => ?_)
  · have hc_9t := c_1
    refine z_iconst (pc := 32) hx hb dX8_rounds_32 ?_
    refine va_put (pc := 33) (D := D) (ci := 6) (v := vI 1) (ty := .int) (C := RX8) (T := TX8) (N := 38) hx hb hts in_X8 tyX8 tyX8_ok nmX8 hown hK hP hD hS 0 rfl rfl 0 (by decide) fl_85 (fun _ h9 => h9) rfl (by decide +kernel) rfl rfl (Nat.le_of_ble_eq_true rfl) dX8_rounds_33 (fun H locs hP hD hS => ?_)
    have hP : va_P D vwCl [(mA, .inr (6, vI 1 :: vI m_heat :: vI m_pressure :: vL m_allDays :: vI m_clocks :: .ref m_rods :: .ref m_arcs :: .ref m_haveCheeks :: .ref m_adjustments :: .ref m_offs :: .ref m_sorted :: vI m_asking :: .ref m_askedBy :: .ref m_metAt :: .ref m_turnsAt :: vI m_period :: vI m_turns :: vI m_ahead :: vI m_datum :: vI m_datumValue :: vI m_readings :: .ref m_stations :: .ref m_hours :: .ref m_values :: .ref m_areTied :: .ref m_ties :: .ref m_steps :: .ref m_gravities :: .ref m_met :: vI m_bobs :: vI m_weight :: vI m_spring :: vI m_air :: vI m_push :: .ref m_places :: .ref m_speeds :: .ref m_wasPlace :: .ref m_wasSpeed :: [])), (m_met, .inl (cZ, 4096, .inl (aI m_met_c)))] H := hP
    have hD : va_D A [(mA, .inr (6, vI 1 :: vI m_heat :: vI m_pressure :: vL m_allDays :: vI m_clocks :: .ref m_rods :: .ref m_arcs :: .ref m_haveCheeks :: .ref m_adjustments :: .ref m_offs :: .ref m_sorted :: vI m_asking :: .ref m_askedBy :: .ref m_metAt :: .ref m_turnsAt :: vI m_period :: vI m_turns :: vI m_ahead :: vI m_datum :: vI m_datumValue :: vI m_readings :: .ref m_stations :: .ref m_hours :: .ref m_values :: .ref m_areTied :: .ref m_ties :: .ref m_steps :: .ref m_gravities :: .ref m_met :: vI m_bobs :: vI m_weight :: vI m_spring :: vI m_air :: vI m_push :: .ref m_places :: .ref m_speeds :: .ref m_wasPlace :: .ref m_wasSpeed :: [])), (m_met, .inl (cZ, 4096, .inl (aI m_met_c)))] := hD
    refine lv_aload_n (pc := 36) hx hb dX8_rounds_36 rfl (lv_at hl 0 rfl) ?_
    refine va_get (pc := 37) (D := D) (ci := 6) (v := vI 1) (C := RX8) (T := TX8) (N := 38) hx hb hts in_X8 hown hK hP 0 rfl rfl 0 (by decide) fl_85 (fun _ h9 => h9) rfl dX8_rounds_37 ?_
    refine z_if_le (pc := 40) (tgt := 45) hx hb dX8_rounds_40 (by decide) (by decide) (fun c_2 => ?_) (fun c_2 => ?_)
    · exact absurd c_2 (by decide)
    · have hc_40f := c_2
      refine z_iconst (pc := 43) hx hb dX8_rounds_43 ?_
      have he_0 : (1 : Int) = (if (0 ≤ p0 ∧ p0 ≤ 200) ∧ (p1 = -1 ∨ (1 ≤ p1 ∧ p1 ≤ 4096)) then 0 else 1) := by first | rfl | omega | (rw [if_pos (by omega)]; omega) | (rw [if_pos (by omega)]; done) | (rw [if_neg (by omega)]; done) | (rw [if_neg (by omega), if_pos (by omega)]; done) | (rw [if_neg (by omega), if_neg (by omega)]; done) | (rw [if_neg (by omega), if_neg (by omega), if_pos (by omega)]; done) | (rw [if_neg (by omega), if_neg (by omega), if_neg (by omega)]; done)
      have hP : va_P D vwCl [(mA, .inr (6, vI (if (0 ≤ p0 ∧ p0 ≤ 200) ∧ (p1 = -1 ∨ (1 ≤ p1 ∧ p1 ≤ 4096)) then 0 else 1) :: vI m_heat :: vI m_pressure :: vL m_allDays :: vI m_clocks :: .ref m_rods :: .ref m_arcs :: .ref m_haveCheeks :: .ref m_adjustments :: .ref m_offs :: .ref m_sorted :: vI m_asking :: .ref m_askedBy :: .ref m_metAt :: .ref m_turnsAt :: vI m_period :: vI m_turns :: vI m_ahead :: vI m_datum :: vI m_datumValue :: vI m_readings :: .ref m_stations :: .ref m_hours :: .ref m_values :: .ref m_areTied :: .ref m_ties :: .ref m_steps :: .ref m_gravities :: .ref m_met :: vI m_bobs :: vI m_weight :: vI m_spring :: vI m_air :: vI m_push :: .ref m_places :: .ref m_speeds :: .ref m_wasPlace :: .ref m_wasSpeed :: [])), (m_met, .inl (cZ, 4096, .inl (aI m_met_c)))] H := by rw [← he_0]; exact hP
      have hD : va_D A [(mA, .inr (6, vI (if (0 ≤ p0 ∧ p0 ≤ 200) ∧ (p1 = -1 ∨ (1 ≤ p1 ∧ p1 ≤ 4096)) then 0 else 1) :: vI m_heat :: vI m_pressure :: vL m_allDays :: vI m_clocks :: .ref m_rods :: .ref m_arcs :: .ref m_haveCheeks :: .ref m_adjustments :: .ref m_offs :: .ref m_sorted :: vI m_asking :: .ref m_askedBy :: .ref m_metAt :: .ref m_turnsAt :: vI m_period :: vI m_turns :: vI m_ahead :: vI m_datum :: vI m_datumValue :: vI m_readings :: .ref m_stations :: .ref m_hours :: .ref m_values :: .ref m_areTied :: .ref m_ties :: .ref m_steps :: .ref m_gravities :: .ref m_met :: vI m_bobs :: vI m_weight :: vI m_spring :: vI m_air :: vI m_push :: .ref m_places :: .ref m_speeds :: .ref m_wasPlace :: .ref m_wasSpeed :: [])), (m_met, .inl (cZ, 4096, .inl (aI m_met_c)))] := by rw [← he_0]; exact hD
      have hP9 := hP.sub (ws' := [(mA, .inr (6, vI (if (0 ≤ p0 ∧ p0 ≤ 200) ∧ (p1 = -1 ∨ (1 ≤ p1 ∧ p1 ≤ 4096)) then 0 else 1) :: vI m_heat :: vI m_pressure :: vL m_allDays :: vI m_clocks :: .ref m_rods :: .ref m_arcs :: .ref m_haveCheeks :: .ref m_adjustments :: .ref m_offs :: .ref m_sorted :: vI m_asking :: .ref m_askedBy :: .ref m_metAt :: .ref m_turnsAt :: vI m_period :: vI m_turns :: vI m_ahead :: vI m_datum :: vI m_datumValue :: vI m_readings :: .ref m_stations :: .ref m_hours :: .ref m_values :: .ref m_areTied :: .ref m_ties :: .ref m_steps :: .ref m_gravities :: .ref m_met :: vI m_bobs :: vI m_weight :: vI m_spring :: vI m_air :: vI m_push :: .ref m_places :: .ref m_speeds :: .ref m_wasPlace :: .ref m_wasSpeed :: [])), (m_met, .inl (cZ, 4096, .inl (aI m_met_c)))]) [0, 1] rfl
      have hD9 := hD.sub (ws' := [(mA, .inr (6, vI (if (0 ≤ p0 ∧ p0 ≤ 200) ∧ (p1 = -1 ∨ (1 ≤ p1 ∧ p1 ≤ 4096)) then 0 else 1) :: vI m_heat :: vI m_pressure :: vL m_allDays :: vI m_clocks :: .ref m_rods :: .ref m_arcs :: .ref m_haveCheeks :: .ref m_adjustments :: .ref m_offs :: .ref m_sorted :: vI m_asking :: .ref m_askedBy :: .ref m_metAt :: .ref m_turnsAt :: vI m_period :: vI m_turns :: vI m_ahead :: vI m_datum :: vI m_datumValue :: vI m_readings :: .ref m_stations :: .ref m_hours :: .ref m_values :: .ref m_areTied :: .ref m_ties :: .ref m_steps :: .ref m_gravities :: .ref m_met :: vI m_bobs :: vI m_weight :: vI m_spring :: vI m_air :: vI m_push :: .ref m_places :: .ref m_speeds :: .ref m_wasPlace :: .ref m_wasSpeed :: [])), (m_met, .inl (cZ, 4096, .inl (aI m_met_c)))]) [0, 1] (by decide) rfl
      have hv : (0 : Int) = (if (0 ≤ p0 ∧ p0 ≤ 200) ∧ (p1 = -1 ∨ (1 ≤ p1 ∧ p1 ≤ 4096)) then smZ (rdZ p0 p1) 4096 else 0) := by first | (rw [if_neg (by omega)]; done) | (rw [if_pos (by omega), i3, show s9 = 4096 by omega]; rfl) | omega
      exact W.iret (pc := 44) (v := zI 0) hx hb hr (fun t ht hW => ⟨⟨zI 0, m_met_c, rfl, ⟨congrArg zI hv, trivial⟩, by rw [ht]; exact hP9, hD9⟩, hS.F ht⟩) hS.2.2 dX8_rounds_44
  · have hc_9f := c_1
    refine lv_iload_n (pc := 12) hx hb dX8_rounds_12 rfl (lv_at hl 2 rfl) ?_
    refine z_iconst (pc := 13) hx hb dX8_rounds_13 ?_
    refine z_icmp_eq (pc := 14) (tgt := 28) hx hb dX8_rounds_14 (by decide) (by omega) (by decide) (fun c_3 => ?_) (fun c_3 => ?_)
    · have hc_14t := c_3
      refine z_iconst (pc := 28) hx hb dX8_rounds_28 ?_
      refine lv_goto (pc := 29) (tgt := 33) hx hb dX8_rounds_29 (by decide) ?_
      refine va_put (pc := 33) (D := D) (ci := 6) (v := vI 0) (ty := .int) (C := RX8) (T := TX8) (N := 38) hx hb hts in_X8 tyX8 tyX8_ok nmX8 hown hK hP hD hS 0 rfl rfl 0 (by decide) fl_85 (fun _ h9 => h9) rfl (by decide +kernel) rfl rfl (Nat.le_of_ble_eq_true rfl) dX8_rounds_33 (fun H locs hP hD hS => ?_)
      have hP : va_P D vwCl [(mA, .inr (6, vI 0 :: vI m_heat :: vI m_pressure :: vL m_allDays :: vI m_clocks :: .ref m_rods :: .ref m_arcs :: .ref m_haveCheeks :: .ref m_adjustments :: .ref m_offs :: .ref m_sorted :: vI m_asking :: .ref m_askedBy :: .ref m_metAt :: .ref m_turnsAt :: vI m_period :: vI m_turns :: vI m_ahead :: vI m_datum :: vI m_datumValue :: vI m_readings :: .ref m_stations :: .ref m_hours :: .ref m_values :: .ref m_areTied :: .ref m_ties :: .ref m_steps :: .ref m_gravities :: .ref m_met :: vI m_bobs :: vI m_weight :: vI m_spring :: vI m_air :: vI m_push :: .ref m_places :: .ref m_speeds :: .ref m_wasPlace :: .ref m_wasSpeed :: [])), (m_met, .inl (cZ, 4096, .inl (aI m_met_c)))] H := hP
      have hD : va_D A [(mA, .inr (6, vI 0 :: vI m_heat :: vI m_pressure :: vL m_allDays :: vI m_clocks :: .ref m_rods :: .ref m_arcs :: .ref m_haveCheeks :: .ref m_adjustments :: .ref m_offs :: .ref m_sorted :: vI m_asking :: .ref m_askedBy :: .ref m_metAt :: .ref m_turnsAt :: vI m_period :: vI m_turns :: vI m_ahead :: vI m_datum :: vI m_datumValue :: vI m_readings :: .ref m_stations :: .ref m_hours :: .ref m_values :: .ref m_areTied :: .ref m_ties :: .ref m_steps :: .ref m_gravities :: .ref m_met :: vI m_bobs :: vI m_weight :: vI m_spring :: vI m_air :: vI m_push :: .ref m_places :: .ref m_speeds :: .ref m_wasPlace :: .ref m_wasSpeed :: [])), (m_met, .inl (cZ, 4096, .inl (aI m_met_c)))] := hD
      refine lv_aload_n (pc := 36) hx hb dX8_rounds_36 rfl (lv_at hl 0 rfl) ?_
      refine va_get (pc := 37) (D := D) (ci := 6) (v := vI 0) (C := RX8) (T := TX8) (N := 38) hx hb hts in_X8 hown hK hP 0 rfl rfl 0 (by decide) fl_85 (fun _ h9 => h9) rfl dX8_rounds_37 ?_
      refine z_if_le (pc := 40) (tgt := 45) hx hb dX8_rounds_40 (by decide) (by decide) (fun c_4 => ?_) (fun c_4 => ?_)
      · have hc_40t := c_4
        refine lv_aload_n (pc := 45) hx hb dX8_rounds_45 rfl (lv_at hl 0 rfl) ?_
        have hPc := hP.sub (ws' := [(mA, .inr (6, vI 0 :: vI m_heat :: vI m_pressure :: vL m_allDays :: vI m_clocks :: .ref m_rods :: .ref m_arcs :: .ref m_haveCheeks :: .ref m_adjustments :: .ref m_offs :: .ref m_sorted :: vI m_asking :: .ref m_askedBy :: .ref m_metAt :: .ref m_turnsAt :: vI m_period :: vI m_turns :: vI m_ahead :: vI m_datum :: vI m_datumValue :: vI m_readings :: .ref m_stations :: .ref m_hours :: .ref m_values :: .ref m_areTied :: .ref m_ties :: .ref m_steps :: .ref m_gravities :: .ref m_met :: vI m_bobs :: vI m_weight :: vI m_spring :: vI m_air :: vI m_push :: .ref m_places :: .ref m_speeds :: .ref m_wasPlace :: .ref m_wasSpeed :: [])), (m_met, .inl (cZ, 4096, .inl (aI m_met_c)))]) [0, 1] rfl
        have hDc := hD.sub (ws' := [(mA, .inr (6, vI 0 :: vI m_heat :: vI m_pressure :: vL m_allDays :: vI m_clocks :: .ref m_rods :: .ref m_arcs :: .ref m_haveCheeks :: .ref m_adjustments :: .ref m_offs :: .ref m_sorted :: vI m_asking :: .ref m_askedBy :: .ref m_metAt :: .ref m_turnsAt :: vI m_period :: vI m_turns :: vI m_ahead :: vI m_datum :: vI m_datumValue :: vI m_readings :: .ref m_stations :: .ref m_hours :: .ref m_values :: .ref m_areTied :: .ref m_ties :: .ref m_steps :: .ref m_gravities :: .ref m_met :: vI m_bobs :: vI m_weight :: vI m_spring :: vI m_air :: vI m_push :: .ref m_places :: .ref m_speeds :: .ref m_wasPlace :: .ref m_wasSpeed :: [])), (m_met, .inl (cZ, 4096, .inl (aI m_met_c)))]) [0, 1] (by decide) rfl
        refine z_callWv (pc := 46) (wc := [(mA, .inr (6, vI 0 :: vI m_heat :: vI m_pressure :: vL m_allDays :: vI m_clocks :: .ref m_rods :: .ref m_arcs :: .ref m_haveCheeks :: .ref m_adjustments :: .ref m_offs :: .ref m_sorted :: vI m_asking :: .ref m_askedBy :: .ref m_metAt :: .ref m_turnsAt :: vI m_period :: vI m_turns :: vI m_ahead :: vI m_datum :: vI m_datumValue :: vI m_readings :: .ref m_stations :: .ref m_hours :: .ref m_values :: .ref m_areTied :: .ref m_ties :: .ref m_steps :: .ref m_gravities :: .ref m_met :: vI m_bobs :: vI m_weight :: vI m_spring :: vI m_air :: vI m_push :: .ref m_places :: .ref m_speeds :: .ref m_wasPlace :: .ref m_wasSpeed :: [])), (m_met, .inl (cZ, 4096, .inl (aI m_met_c)))]) hP hD hS hA [0, 1] [] [] rfl rfl (by decide) (by decide) (va_runV (As := []) (rest := []) ⟨hx, hb, hml, hown, hts⟩ (m_X8_none l D cI cJ cZ cD H.size mA 0 m_heat m_pressure m_allDays m_clocks m_rods m_arcs m_haveCheeks m_adjustments m_offs m_sorted m_asking m_askedBy m_metAt m_turnsAt m_period m_turns m_ahead m_datum m_datumValue m_readings m_stations m_hours m_values m_areTied m_ties m_steps m_gravities m_met m_bobs m_weight m_spring m_air m_push m_places m_speeds m_wasPlace m_wasSpeed m_met_c  ) (cwV 0 hts gX8_rounds_X8_none rfl rfl rfl (by decide +kernel) ⟨Nat.le_of_ble_eq_true rfl, Nat.le_of_ble_eq_true rfl⟩) ⟨z_blind, va_recv hK hPc (ci := 6) (q0 := 0) rfl rfl, z_pre hPc hK hDc rfl rfl hN⟩ rfl rfl hl.1 rfl (lv_room (Nat.le_of_ble_eq_true rfl)) dX8_rounds_46 ⟨Nat.zero_le _, Nat.zero_le _⟩) (fun u H locs hw hP hD hS => ?_)
        have hw_5 := hw
        have hP : va_P D vwCl [(mA, .inr (6, vI 0 :: vI m_heat :: vI m_pressure :: vL m_allDays :: vI m_clocks :: .ref m_rods :: .ref m_arcs :: .ref m_haveCheeks :: .ref m_adjustments :: .ref m_offs :: .ref m_sorted :: vI m_asking :: .ref m_askedBy :: .ref m_metAt :: .ref m_turnsAt :: vI m_period :: vI m_turns :: vI m_ahead :: vI m_datum :: vI m_datumValue :: vI m_readings :: .ref m_stations :: .ref m_hours :: .ref m_values :: .ref m_areTied :: .ref m_ties :: .ref m_steps :: .ref m_gravities :: .ref m_met :: vI m_bobs :: vI m_weight :: vI m_spring :: vI m_air :: vI m_push :: .ref m_places :: .ref m_speeds :: .ref m_wasPlace :: .ref m_wasSpeed :: [])), (m_met, .inl (cZ, 4096, .inl (aI (flZ m_met_c 0 4096))))] H := hP
        have hD : va_D A [(mA, .inr (6, vI 0 :: vI m_heat :: vI m_pressure :: vL m_allDays :: vI m_clocks :: .ref m_rods :: .ref m_arcs :: .ref m_haveCheeks :: .ref m_adjustments :: .ref m_offs :: .ref m_sorted :: vI m_asking :: .ref m_askedBy :: .ref m_metAt :: .ref m_turnsAt :: vI m_period :: vI m_turns :: vI m_ahead :: vI m_datum :: vI m_datumValue :: vI m_readings :: .ref m_stations :: .ref m_hours :: .ref m_values :: .ref m_areTied :: .ref m_ties :: .ref m_steps :: .ref m_gravities :: .ref m_met :: vI m_bobs :: vI m_weight :: vI m_spring :: vI m_air :: vI m_push :: .ref m_places :: .ref m_speeds :: .ref m_wasPlace :: .ref m_wasSpeed :: [])), (m_met, .inl (cZ, 4096, .inl (aI (flZ m_met_c 0 4096))))] := hD
        refine z_iconst (pc := 49) hx hb dX8_rounds_49 ?_
        refine lv_istore_n (lv' := [(3, vI 0), (0, .ref mA), (1, vI p0), (2, vI p1)]) (pc := 50) hx hb dX8_rounds_50 rfl hl (by decide) rfl (fun ls hl => ?_)
        refine z_iconst (pc := 51) hx hb dX8_rounds_51 ?_
        refine lv_istore (lv' := [(4, vI 0), (3, vI 0), (0, .ref mA), (1, vI p0), (2, vI p1)]) (pc := 52) hx hb dX8_rounds_52 hl (by decide) rfl (fun ls hl => ?_)
        have LP_54 : ∀ (nfu : Nat) (sm : Int) (s9 : Int) (f : Int → Int) (i1 : 0 ≤ s9 ∧ s9 ≤ 4096) (i2 : ∀ x : Int, 0 ≤ x → x < 4096 → (f x = 0 ∨ f x = 1) ∧ (f x = 1 ↔ viZ p0 s9 x)) (i3 : sm = smZ (rdZ p0 p1) (Int.toNat s9)) (hme : 4096 - s9 + 1 < (nfu : Int)) (H : Heap) (locs : List Loc) (hP : va_P D vwCl [(mA, .inr (6, vI 0 :: vI m_heat :: vI m_pressure :: vL m_allDays :: vI m_clocks :: .ref m_rods :: .ref m_arcs :: .ref m_haveCheeks :: .ref m_adjustments :: .ref m_offs :: .ref m_sorted :: vI m_asking :: .ref m_askedBy :: .ref m_metAt :: .ref m_turnsAt :: vI m_period :: vI m_turns :: vI m_ahead :: vI m_datum :: vI m_datumValue :: vI m_readings :: .ref m_stations :: .ref m_hours :: .ref m_values :: .ref m_areTied :: .ref m_ties :: .ref m_steps :: .ref m_gravities :: .ref m_met :: vI m_bobs :: vI m_weight :: vI m_spring :: vI m_air :: vI m_push :: .ref m_places :: .ref m_speeds :: .ref m_wasPlace :: .ref m_wasSpeed :: [])), (m_met, .inl (cZ, 4096, .inl (aI f)))] H) (hD : va_D A [(mA, .inr (6, vI 0 :: vI m_heat :: vI m_pressure :: vL m_allDays :: vI m_clocks :: .ref m_rods :: .ref m_arcs :: .ref m_haveCheeks :: .ref m_adjustments :: .ref m_offs :: .ref m_sorted :: vI m_asking :: .ref m_askedBy :: .ref m_metAt :: .ref m_turnsAt :: vI m_period :: vI m_turns :: vI m_ahead :: vI m_datum :: vI m_datumValue :: vI m_readings :: .ref m_stations :: .ref m_hours :: .ref m_values :: .ref m_areTied :: .ref m_ties :: .ref m_steps :: .ref m_gravities :: .ref m_met :: vI m_bobs :: vI m_weight :: vI m_spring :: vI m_air :: vI m_push :: .ref m_places :: .ref m_speeds :: .ref m_wasPlace :: .ref m_wasSpeed :: [])), (m_met, .inl (cZ, 4096, .inl (aI f)))]) (hS : va_S A s.heap H locs) (ls : Array Slot) (hl : lv_has ls 6 [(4, vI s9), (3, vI sm), (0, .ref mA), (1, vI p0), (2, vI p1)]), W p l e (headSpec wsX8_rounds ({ frames := 4, cells := 0, slots := 0, locals := 92 } : Room)).room s m ([.ref mA, vI p0, vI p1] : List Value).toArray below meth c H locs 0 0 (MQ below (va_Qi (fun (r : Int32) (u : (Int → Int)) => match u with | g => r = zI (if (0 ≤ p0 ∧ p0 ≤ 200) ∧ (p1 = -1 ∨ (1 ≤ p1 ∧ p1 ≤ 4096)) then smZ (rdZ p0 p1) 4096 else 0) ∧ (True)) (zB D A (fun (u : (Int → Int)) => match u with | g => [(mA, .inr (6, vI (if (0 ≤ p0 ∧ p0 ≤ 200) ∧ (p1 = -1 ∨ (1 ≤ p1 ∧ p1 ≤ 4096)) then 0 else 1) :: vI m_heat :: vI m_pressure :: vL m_allDays :: vI m_clocks :: .ref m_rods :: .ref m_arcs :: .ref m_haveCheeks :: .ref m_adjustments :: .ref m_offs :: .ref m_sorted :: vI m_asking :: .ref m_askedBy :: .ref m_metAt :: .ref m_turnsAt :: vI m_period :: vI m_turns :: vI m_ahead :: vI m_datum :: vI m_datumValue :: vI m_readings :: .ref m_stations :: .ref m_hours :: .ref m_values :: .ref m_areTied :: .ref m_ties :: .ref m_steps :: .ref m_gravities :: .ref m_met :: vI m_bobs :: vI m_weight :: vI m_spring :: vI m_air :: vI m_push :: .ref m_places :: .ref m_speeds :: .ref m_wasPlace :: .ref m_wasSpeed :: [])), (m_met, .inl (cZ, 4096, .inl (aI g)))])) A) ([.ref mA, vI p0, vI p1] : List Value).toArray s 0 0 A) (F0 m 54 ls []) := by
          intro nfu
          induction nfu with
          | zero =>
            intro sm s9 f i1 i2 i3 hme H locs hP hD hS ls hl
            exact absurd hme (by omega)
          | succ nfu ih_54 =>
            intro sm s9 f i1 i2 i3 hme H locs hP hD hS ls hl
            refine lv_iload (pc := 54) hx hb dX8_rounds_54 (lv_at hl 0 rfl) ?_
            refine z_sipush (pc := 56) hx hb dX8_rounds_56 (by decide) ?_
            refine z_icmp_ge (pc := 59) (tgt := 101) hx hb dX8_rounds_59 (by decide) (by omega) (by decide) (fun c_6 => ?_) (fun c_6 => ?_)
            · have hc_59t := c_6
              refine lv_iload_n (pc := 101) hx hb dX8_rounds_101 rfl (lv_at hl 1 rfl) ?_
              have he_0 : (0 : Int) = (if (0 ≤ p0 ∧ p0 ≤ 200) ∧ (p1 = -1 ∨ (1 ≤ p1 ∧ p1 ≤ 4096)) then 0 else 1) := by first | rfl | omega | (rw [if_pos (by omega)]; omega) | (rw [if_pos (by omega)]; done) | (rw [if_neg (by omega)]; done) | (rw [if_neg (by omega), if_pos (by omega)]; done) | (rw [if_neg (by omega), if_neg (by omega)]; done) | (rw [if_neg (by omega), if_neg (by omega), if_pos (by omega)]; done) | (rw [if_neg (by omega), if_neg (by omega), if_neg (by omega)]; done)
              have hP : va_P D vwCl [(mA, .inr (6, vI (if (0 ≤ p0 ∧ p0 ≤ 200) ∧ (p1 = -1 ∨ (1 ≤ p1 ∧ p1 ≤ 4096)) then 0 else 1) :: vI m_heat :: vI m_pressure :: vL m_allDays :: vI m_clocks :: .ref m_rods :: .ref m_arcs :: .ref m_haveCheeks :: .ref m_adjustments :: .ref m_offs :: .ref m_sorted :: vI m_asking :: .ref m_askedBy :: .ref m_metAt :: .ref m_turnsAt :: vI m_period :: vI m_turns :: vI m_ahead :: vI m_datum :: vI m_datumValue :: vI m_readings :: .ref m_stations :: .ref m_hours :: .ref m_values :: .ref m_areTied :: .ref m_ties :: .ref m_steps :: .ref m_gravities :: .ref m_met :: vI m_bobs :: vI m_weight :: vI m_spring :: vI m_air :: vI m_push :: .ref m_places :: .ref m_speeds :: .ref m_wasPlace :: .ref m_wasSpeed :: [])), (m_met, .inl (cZ, 4096, .inl (aI f)))] H := by rw [← he_0]; exact hP
              have hD : va_D A [(mA, .inr (6, vI (if (0 ≤ p0 ∧ p0 ≤ 200) ∧ (p1 = -1 ∨ (1 ≤ p1 ∧ p1 ≤ 4096)) then 0 else 1) :: vI m_heat :: vI m_pressure :: vL m_allDays :: vI m_clocks :: .ref m_rods :: .ref m_arcs :: .ref m_haveCheeks :: .ref m_adjustments :: .ref m_offs :: .ref m_sorted :: vI m_asking :: .ref m_askedBy :: .ref m_metAt :: .ref m_turnsAt :: vI m_period :: vI m_turns :: vI m_ahead :: vI m_datum :: vI m_datumValue :: vI m_readings :: .ref m_stations :: .ref m_hours :: .ref m_values :: .ref m_areTied :: .ref m_ties :: .ref m_steps :: .ref m_gravities :: .ref m_met :: vI m_bobs :: vI m_weight :: vI m_spring :: vI m_air :: vI m_push :: .ref m_places :: .ref m_speeds :: .ref m_wasPlace :: .ref m_wasSpeed :: [])), (m_met, .inl (cZ, 4096, .inl (aI f)))] := by rw [← he_0]; exact hD
              have hP9 := hP.sub (ws' := [(mA, .inr (6, vI (if (0 ≤ p0 ∧ p0 ≤ 200) ∧ (p1 = -1 ∨ (1 ≤ p1 ∧ p1 ≤ 4096)) then 0 else 1) :: vI m_heat :: vI m_pressure :: vL m_allDays :: vI m_clocks :: .ref m_rods :: .ref m_arcs :: .ref m_haveCheeks :: .ref m_adjustments :: .ref m_offs :: .ref m_sorted :: vI m_asking :: .ref m_askedBy :: .ref m_metAt :: .ref m_turnsAt :: vI m_period :: vI m_turns :: vI m_ahead :: vI m_datum :: vI m_datumValue :: vI m_readings :: .ref m_stations :: .ref m_hours :: .ref m_values :: .ref m_areTied :: .ref m_ties :: .ref m_steps :: .ref m_gravities :: .ref m_met :: vI m_bobs :: vI m_weight :: vI m_spring :: vI m_air :: vI m_push :: .ref m_places :: .ref m_speeds :: .ref m_wasPlace :: .ref m_wasSpeed :: [])), (m_met, .inl (cZ, 4096, .inl (aI f)))]) [0, 1] rfl
              have hD9 := hD.sub (ws' := [(mA, .inr (6, vI (if (0 ≤ p0 ∧ p0 ≤ 200) ∧ (p1 = -1 ∨ (1 ≤ p1 ∧ p1 ≤ 4096)) then 0 else 1) :: vI m_heat :: vI m_pressure :: vL m_allDays :: vI m_clocks :: .ref m_rods :: .ref m_arcs :: .ref m_haveCheeks :: .ref m_adjustments :: .ref m_offs :: .ref m_sorted :: vI m_asking :: .ref m_askedBy :: .ref m_metAt :: .ref m_turnsAt :: vI m_period :: vI m_turns :: vI m_ahead :: vI m_datum :: vI m_datumValue :: vI m_readings :: .ref m_stations :: .ref m_hours :: .ref m_values :: .ref m_areTied :: .ref m_ties :: .ref m_steps :: .ref m_gravities :: .ref m_met :: vI m_bobs :: vI m_weight :: vI m_spring :: vI m_air :: vI m_push :: .ref m_places :: .ref m_speeds :: .ref m_wasPlace :: .ref m_wasSpeed :: [])), (m_met, .inl (cZ, 4096, .inl (aI f)))]) [0, 1] (by decide) rfl
              have hv : (sm : Int) = (if (0 ≤ p0 ∧ p0 ≤ 200) ∧ (p1 = -1 ∨ (1 ≤ p1 ∧ p1 ≤ 4096)) then smZ (rdZ p0 p1) 4096 else 0) := by first | (rw [if_neg (by omega)]; done) | (rw [if_pos (by omega), i3, show s9 = 4096 by omega]; rfl) | omega
              exact W.iret (pc := 102) (v := zI sm) hx hb hr (fun t ht hW => ⟨⟨zI sm, f, rfl, ⟨congrArg zI hv, trivial⟩, by rw [ht]; exact hP9, hD9⟩, hS.F ht⟩) hS.2.2 dX8_rounds_102
            · have hc_59f := c_6
              refine lv_aload_n (pc := 62) hx hb dX8_rounds_62 rfl (lv_at hl 2 rfl) ?_
              refine lv_iload (pc := 63) hx hb dX8_rounds_63 (lv_at hl 0 rfl) ?_
              refine lv_iload_n (pc := 65) hx hb dX8_rounds_65 rfl (lv_at hl 3 rfl) ?_
              have hPc := hP.sub (ws' := [(mA, .inr (6, vI 0 :: vI m_heat :: vI m_pressure :: vL m_allDays :: vI m_clocks :: .ref m_rods :: .ref m_arcs :: .ref m_haveCheeks :: .ref m_adjustments :: .ref m_offs :: .ref m_sorted :: vI m_asking :: .ref m_askedBy :: .ref m_metAt :: .ref m_turnsAt :: vI m_period :: vI m_turns :: vI m_ahead :: vI m_datum :: vI m_datumValue :: vI m_readings :: .ref m_stations :: .ref m_hours :: .ref m_values :: .ref m_areTied :: .ref m_ties :: .ref m_steps :: .ref m_gravities :: .ref m_met :: vI m_bobs :: vI m_weight :: vI m_spring :: vI m_air :: vI m_push :: .ref m_places :: .ref m_speeds :: .ref m_wasPlace :: .ref m_wasSpeed :: [])), (m_met, .inl (cZ, 4096, .inl (aI f)))]) [0, 1] rfl
              have hDc := hD.sub (ws' := [(mA, .inr (6, vI 0 :: vI m_heat :: vI m_pressure :: vL m_allDays :: vI m_clocks :: .ref m_rods :: .ref m_arcs :: .ref m_haveCheeks :: .ref m_adjustments :: .ref m_offs :: .ref m_sorted :: vI m_asking :: .ref m_askedBy :: .ref m_metAt :: .ref m_turnsAt :: vI m_period :: vI m_turns :: vI m_ahead :: vI m_datum :: vI m_datumValue :: vI m_readings :: .ref m_stations :: .ref m_hours :: .ref m_values :: .ref m_areTied :: .ref m_ties :: .ref m_steps :: .ref m_gravities :: .ref m_met :: vI m_bobs :: vI m_weight :: vI m_spring :: vI m_air :: vI m_push :: .ref m_places :: .ref m_speeds :: .ref m_wasPlace :: .ref m_wasSpeed :: [])), (m_met, .inl (cZ, 4096, .inl (aI f)))]) [0, 1] (by decide) rfl
              refine z_callWi (pc := 66) (wc := [(mA, .inr (6, vI 0 :: vI m_heat :: vI m_pressure :: vL m_allDays :: vI m_clocks :: .ref m_rods :: .ref m_arcs :: .ref m_haveCheeks :: .ref m_adjustments :: .ref m_offs :: .ref m_sorted :: vI m_asking :: .ref m_askedBy :: .ref m_metAt :: .ref m_turnsAt :: vI m_period :: vI m_turns :: vI m_ahead :: vI m_datum :: vI m_datumValue :: vI m_readings :: .ref m_stations :: .ref m_hours :: .ref m_values :: .ref m_areTied :: .ref m_ties :: .ref m_steps :: .ref m_gravities :: .ref m_met :: vI m_bobs :: vI m_weight :: vI m_spring :: vI m_air :: vI m_push :: .ref m_places :: .ref m_speeds :: .ref m_wasPlace :: .ref m_wasSpeed :: [])), (m_met, .inl (cZ, 4096, .inl (aI f)))]) hP hD hS hA [0, 1] [] [] rfl rfl (by decide) (by decide) (va_runV (As := [vI s9, vI p0]) (rest := []) ⟨hx, hb, hml, hown, hts⟩ (m_X8_through l D cI cJ cZ cD H.size mA 0 m_heat m_pressure m_allDays m_clocks m_rods m_arcs m_haveCheeks m_adjustments m_offs m_sorted m_asking m_askedBy m_metAt m_turnsAt m_period m_turns m_ahead m_datum m_datumValue m_readings m_stations m_hours m_values m_areTied m_ties m_steps m_gravities m_met m_bobs m_weight m_spring m_air m_push m_places m_speeds m_wasPlace m_wasSpeed f s9 p0 (by omega) (by omega) (fun x a b => (i2 x a b).1) (fun x a b h => (i2 _ (mvZ_parts p0 x).2.2.1 (mvZ_parts p0 x).2.2.2).2.2 (vi_mv ((i2 x a b).2.1 h)))) (cwV 2 hts gX8_rounds_X8_through rfl rfl rfl (by decide +kernel) ⟨Nat.le_of_ble_eq_true rfl, Nat.le_of_ble_eq_true rfl⟩) ⟨z_blind, va_recv hK hPc (ci := 6) (q0 := 0) rfl rfl, z_pre hPc hK hDc rfl rfl hN⟩ rfl rfl hl.1 rfl (lv_room (Nat.le_of_ble_eq_true rfl)) dX8_rounds_66 ⟨Nat.zero_le _, Nat.zero_le _⟩) (fun r u H locs hw hP hD hS => ?_)
              obtain ⟨u_7, rfl⟩ : ∃ z, z = u := ⟨_, rfl⟩
              obtain ⟨rfl, hw_8⟩ := hw
              have hw_8 : ∀ x : Int, 0 ≤ x → x < 4096 → (u_7 x = 0 ∨ u_7 x = 1) ∧ (u_7 x = 1 ↔ f x = 1 ∨ onR p0 s9 x) := hw_8
              have hP : va_P D vwCl [(mA, .inr (6, vI 0 :: vI m_heat :: vI m_pressure :: vL m_allDays :: vI m_clocks :: .ref m_rods :: .ref m_arcs :: .ref m_haveCheeks :: .ref m_adjustments :: .ref m_offs :: .ref m_sorted :: vI m_asking :: .ref m_askedBy :: .ref m_metAt :: .ref m_turnsAt :: vI m_period :: vI m_turns :: vI m_ahead :: vI m_datum :: vI m_datumValue :: vI m_readings :: .ref m_stations :: .ref m_hours :: .ref m_values :: .ref m_areTied :: .ref m_ties :: .ref m_steps :: .ref m_gravities :: .ref m_met :: vI m_bobs :: vI m_weight :: vI m_spring :: vI m_air :: vI m_push :: .ref m_places :: .ref m_speeds :: .ref m_wasPlace :: .ref m_wasSpeed :: [])), (m_met, .inl (cZ, 4096, .inl (aI u_7)))] H := hP
              have hD : va_D A [(mA, .inr (6, vI 0 :: vI m_heat :: vI m_pressure :: vL m_allDays :: vI m_clocks :: .ref m_rods :: .ref m_arcs :: .ref m_haveCheeks :: .ref m_adjustments :: .ref m_offs :: .ref m_sorted :: vI m_asking :: .ref m_askedBy :: .ref m_metAt :: .ref m_turnsAt :: vI m_period :: vI m_turns :: vI m_ahead :: vI m_datum :: vI m_datumValue :: vI m_readings :: .ref m_stations :: .ref m_hours :: .ref m_values :: .ref m_areTied :: .ref m_ties :: .ref m_steps :: .ref m_gravities :: .ref m_met :: vI m_bobs :: vI m_weight :: vI m_spring :: vI m_air :: vI m_push :: .ref m_places :: .ref m_speeds :: .ref m_wasPlace :: .ref m_wasSpeed :: [])), (m_met, .inl (cZ, 4096, .inl (aI u_7)))] := hD
              have r2 := cy_rng (k := p0) (s := s9) (by omega)
              refine lv_istore (lv' := [(5, vI (if f s9 = 1 then 0 else cyZ p0 s9)), (4, vI s9), (3, vI sm), (0, .ref mA), (1, vI p0), (2, vI p1)]) (pc := 69) hx hb dX8_rounds_69 hl (by decide) rfl (fun ls hl => ?_)
              refine lv_iload_n (pc := 71) hx hb dX8_rounds_71 rfl (lv_at hl 2 rfl) ?_
              refine lv_iload (pc := 72) hx hb dX8_rounds_72 (lv_at hl 0 rfl) ?_
              refine z_if_le (pc := 74) (tgt := 92) hx hb dX8_rounds_74 (by decide) (by omega) (fun c_9 => ?_) (fun c_9 => ?_)
              · have hc_74t := c_9
                refine z_iconst (pc := 92) hx hb dX8_rounds_92 ?_
                refine z_iadd (pc := 93) hx hb dX8_rounds_93 ?_
                refine lv_istore_n (lv' := [(3, vI (sm + 0)), (5, vI (if f s9 = 1 then 0 else cyZ p0 s9)), (4, vI s9), (0, .ref mA), (1, vI p0), (2, vI p1)]) (pc := 94) hx hb dX8_rounds_94 rfl hl (by decide) rfl (fun ls hl => ?_)
                refine lv_iinc (v := zI (s9 + 1)) (lv' := [(4, vI (s9 + 1)), (3, vI (sm + 0)), (5, vI (if f s9 = 1 then 0 else cyZ p0 s9)), (0, .ref mA), (1, vI p0), (2, vI p1)]) (pc := 95) hx hb dX8_rounds_95 hl (k := 2) rfl (zI_add _ _) (by decide) rfl (fun ls hl => ?_)
                refine lv_goto (pc := 98) (tgt := 54) hx hb dX8_rounds_98 (by decide) ?_
                have hi_10 : ∀ x : Int, 0 ≤ x → x < 4096 → (u_7 x = 0 ∨ u_7 x = 1) ∧ (u_7 x = 1 ↔ viZ p0 (s9 + 1) x) := by
                  intro x a b
                  obtain ⟨w1, w2⟩ := hw_8 x a b
                  refine ⟨w1, ?_⟩
                  rw [w2, vi_s i1.1, (i2 x a b).2]
                have hi_11 : (sm + 0) = smZ (rdZ p0 p1) (Int.toNat (s9 + 1)) := by
                  by_cases z : f s9 = 1
                  · first
                      | (rw [smZ_toNat _ i1.1, ← i3, rd_y ((i2 s9 (by omega) (by omega)).2.1 z)]; done)
                      | (rw [smZ_toNat _ i1.1, ← i3, rd_y ((i2 s9 (by omega) (by omega)).2.1 z)]; omega)
                  · rw [smZ_toNat _ i1.1, ← i3, rd_n (fun y => z ((i2 s9 (by omega) (by omega)).2.2 y))]
                    first
                      | (rw [pI_t (by omega)]; done)
                      | (rw [pI_f (by omega)]; done)
                      | omega
                exact ih_54 (sm + 0) (s9 + 1) u_7 (by omega) hi_10 hi_11 (by omega) _ _ (hP.sub [0, 1] rfl) (hD.sub [0, 1] (by decide) rfl) hS _ (lv_sub hl [0, 1, 3, 4, 5] rfl)
              · have hc_74f := c_9
                refine lv_iload_n (pc := 77) hx hb dX8_rounds_77 rfl (lv_at hl 5 rfl) ?_
                refine z_iconst (pc := 78) hx hb dX8_rounds_78 ?_
                refine z_icmp_eq (pc := 79) (tgt := 88) hx hb dX8_rounds_79 (by decide) (by omega) (by decide) (fun c_12 => ?_) (fun c_12 => ?_)
                · have hc_79t := c_12
                  refine z_iconst (pc := 88) hx hb dX8_rounds_88 ?_
                  refine lv_goto (pc := 89) (tgt := 93) hx hb dX8_rounds_89 (by decide) ?_
                  refine z_iadd (pc := 93) hx hb dX8_rounds_93 ?_
                  refine lv_istore_n (lv' := [(3, vI (sm + 1)), (5, vI (if f s9 = 1 then 0 else cyZ p0 s9)), (4, vI s9), (0, .ref mA), (1, vI p0), (2, vI p1)]) (pc := 94) hx hb dX8_rounds_94 rfl hl (by decide) rfl (fun ls hl => ?_)
                  refine lv_iinc (v := zI (s9 + 1)) (lv' := [(4, vI (s9 + 1)), (3, vI (sm + 1)), (5, vI (if f s9 = 1 then 0 else cyZ p0 s9)), (0, .ref mA), (1, vI p0), (2, vI p1)]) (pc := 95) hx hb dX8_rounds_95 hl (k := 2) rfl (zI_add _ _) (by decide) rfl (fun ls hl => ?_)
                  refine lv_goto (pc := 98) (tgt := 54) hx hb dX8_rounds_98 (by decide) ?_
                  have hi_13 : ∀ x : Int, 0 ≤ x → x < 4096 → (u_7 x = 0 ∨ u_7 x = 1) ∧ (u_7 x = 1 ↔ viZ p0 (s9 + 1) x) := by
                    intro x a b
                    obtain ⟨w1, w2⟩ := hw_8 x a b
                    refine ⟨w1, ?_⟩
                    rw [w2, vi_s i1.1, (i2 x a b).2]
                  have hi_14 : (sm + 1) = smZ (rdZ p0 p1) (Int.toNat (s9 + 1)) := by
                    by_cases z : f s9 = 1
                    · first
                        | (rw [smZ_toNat _ i1.1, ← i3, rd_y ((i2 s9 (by omega) (by omega)).2.1 z)]; done)
                        | (rw [smZ_toNat _ i1.1, ← i3, rd_y ((i2 s9 (by omega) (by omega)).2.1 z)]; omega)
                    · rw [smZ_toNat _ i1.1, ← i3, rd_n (fun y => z ((i2 s9 (by omega) (by omega)).2.2 y))]
                      first
                        | (rw [pI_t (by omega)]; done)
                        | (rw [pI_f (by omega)]; done)
                        | omega
                  exact ih_54 (sm + 1) (s9 + 1) u_7 (by omega) hi_13 hi_14 (by omega) _ _ (hP.sub [0, 1] rfl) (hD.sub [0, 1] (by decide) rfl) hS _ (lv_sub hl [0, 1, 3, 4, 5] rfl)
                · have hc_79f := c_12
                  refine lv_iload (pc := 82) hx hb dX8_rounds_82 (lv_at hl 0 rfl) ?_
                  refine lv_iload_n (pc := 84) hx hb dX8_rounds_84 rfl (lv_at hl 5 rfl) ?_
                  refine z_icmp_ne (pc := 85) (tgt := 92) hx hb dX8_rounds_85 (by decide) (by omega) (by omega) (fun c_15 => ?_) (fun c_15 => ?_)
                  · have hc_85t := c_15
                    refine z_iconst (pc := 92) hx hb dX8_rounds_92 ?_
                    refine z_iadd (pc := 93) hx hb dX8_rounds_93 ?_
                    refine lv_istore_n (lv' := [(3, vI (sm + 0)), (5, vI (if f s9 = 1 then 0 else cyZ p0 s9)), (4, vI s9), (0, .ref mA), (1, vI p0), (2, vI p1)]) (pc := 94) hx hb dX8_rounds_94 rfl hl (by decide) rfl (fun ls hl => ?_)
                    refine lv_iinc (v := zI (s9 + 1)) (lv' := [(4, vI (s9 + 1)), (3, vI (sm + 0)), (5, vI (if f s9 = 1 then 0 else cyZ p0 s9)), (0, .ref mA), (1, vI p0), (2, vI p1)]) (pc := 95) hx hb dX8_rounds_95 hl (k := 2) rfl (zI_add _ _) (by decide) rfl (fun ls hl => ?_)
                    refine lv_goto (pc := 98) (tgt := 54) hx hb dX8_rounds_98 (by decide) ?_
                    have hi_16 : ∀ x : Int, 0 ≤ x → x < 4096 → (u_7 x = 0 ∨ u_7 x = 1) ∧ (u_7 x = 1 ↔ viZ p0 (s9 + 1) x) := by
                      intro x a b
                      obtain ⟨w1, w2⟩ := hw_8 x a b
                      refine ⟨w1, ?_⟩
                      rw [w2, vi_s i1.1, (i2 x a b).2]
                    have hi_17 : (sm + 0) = smZ (rdZ p0 p1) (Int.toNat (s9 + 1)) := by
                      by_cases z : f s9 = 1
                      · first
                          | (rw [smZ_toNat _ i1.1, ← i3, rd_y ((i2 s9 (by omega) (by omega)).2.1 z)]; done)
                          | (rw [smZ_toNat _ i1.1, ← i3, rd_y ((i2 s9 (by omega) (by omega)).2.1 z)]; omega)
                      · rw [smZ_toNat _ i1.1, ← i3, rd_n (fun y => z ((i2 s9 (by omega) (by omega)).2.2 y))]
                        first
                          | (rw [pI_t (by omega)]; done)
                          | (rw [pI_f (by omega)]; done)
                          | omega
                    exact ih_54 (sm + 0) (s9 + 1) u_7 (by omega) hi_16 hi_17 (by omega) _ _ (hP.sub [0, 1] rfl) (hD.sub [0, 1] (by decide) rfl) hS _ (lv_sub hl [0, 1, 3, 4, 5] rfl)
                  · have hc_85f := c_15
                    refine z_iconst (pc := 88) hx hb dX8_rounds_88 ?_
                    refine lv_goto (pc := 89) (tgt := 93) hx hb dX8_rounds_89 (by decide) ?_
                    refine z_iadd (pc := 93) hx hb dX8_rounds_93 ?_
                    refine lv_istore_n (lv' := [(3, vI (sm + 1)), (5, vI (if f s9 = 1 then 0 else cyZ p0 s9)), (4, vI s9), (0, .ref mA), (1, vI p0), (2, vI p1)]) (pc := 94) hx hb dX8_rounds_94 rfl hl (by decide) rfl (fun ls hl => ?_)
                    refine lv_iinc (v := zI (s9 + 1)) (lv' := [(4, vI (s9 + 1)), (3, vI (sm + 1)), (5, vI (if f s9 = 1 then 0 else cyZ p0 s9)), (0, .ref mA), (1, vI p0), (2, vI p1)]) (pc := 95) hx hb dX8_rounds_95 hl (k := 2) rfl (zI_add _ _) (by decide) rfl (fun ls hl => ?_)
                    refine lv_goto (pc := 98) (tgt := 54) hx hb dX8_rounds_98 (by decide) ?_
                    have hi_18 : ∀ x : Int, 0 ≤ x → x < 4096 → (u_7 x = 0 ∨ u_7 x = 1) ∧ (u_7 x = 1 ↔ viZ p0 (s9 + 1) x) := by
                      intro x a b
                      obtain ⟨w1, w2⟩ := hw_8 x a b
                      refine ⟨w1, ?_⟩
                      rw [w2, vi_s i1.1, (i2 x a b).2]
                    have hi_19 : (sm + 1) = smZ (rdZ p0 p1) (Int.toNat (s9 + 1)) := by
                      by_cases z : f s9 = 1
                      · first
                          | (rw [smZ_toNat _ i1.1, ← i3, rd_y ((i2 s9 (by omega) (by omega)).2.1 z)]; done)
                          | (rw [smZ_toNat _ i1.1, ← i3, rd_y ((i2 s9 (by omega) (by omega)).2.1 z)]; omega)
                      · rw [smZ_toNat _ i1.1, ← i3, rd_n (fun y => z ((i2 s9 (by omega) (by omega)).2.2 y))]
                        first
                          | (rw [pI_t (by omega)]; done)
                          | (rw [pI_f (by omega)]; done)
                          | omega
                    exact ih_54 (sm + 1) (s9 + 1) u_7 (by omega) hi_18 hi_19 (by omega) _ _ (hP.sub [0, 1] rfl) (hD.sub [0, 1] (by decide) rfl) hS _ (lv_sub hl [0, 1, 3, 4, 5] rfl)
        exact LP_54 (Int.toNat ((4096 - 0 + 1) + 1)) 0 0 (flZ m_met_c 0 4096) (by omega) (by intro x a b; rw [flZ_in ⟨a, b⟩]; exact ⟨Or.inl rfl, fun h => absurd h (by decide), fun h => absurd h vi_0⟩) (by rfl) (by omega) _ _ (hP.sub [0, 1] rfl) (hD.sub [0, 1] (by decide) rfl) hS _ (lv_sub hl [0, 1, 2, 3, 4] rfl)
      · exact absurd c_4 (by decide)
    · have hc_14f := c_3
      refine lv_iload_n (pc := 17) hx hb dX8_rounds_17 rfl (lv_at hl 2 rfl) ?_
      refine z_iconst (pc := 18) hx hb dX8_rounds_18 ?_
      refine z_sipush (pc := 19) hx hb dX8_rounds_19 (by decide) ?_
      refine z_callR (pc := 22) (va_runS (As := [vI p1, vI 1, vI 4096]) (rest := [.ref mA]) ⟨hx, hb, hml, hown, hts⟩ (m_X8_isIn l D cI cJ cZ cD 0  p1 1 4096 (by omega) (by omega) (by omega)) (va_cwS 3 hts gX8_rounds_X8_isIn rfl rfl rfl (by decide +kernel) ⟨Nat.le_of_ble_eq_true rfl, Nat.le_of_ble_eq_true rfl⟩) ⟨fun a U g mk q => q, fun U hU hW => ⟨rfl, trivial⟩⟩ rfl rfl hl.1 rfl (lv_room (Nat.le_of_ble_eq_true rfl)) dX8_rounds_22 ⟨Nat.zero_le _, Nat.zero_le _⟩) ?_
      refine z_ifp_eq (pc := 25) (tgt := 32) hx hb dX8_rounds_25 (by decide) (fun c_20 => ?_) (fun c_20 => ?_)
      · have hc_25t := c_20
        refine z_iconst (pc := 32) hx hb dX8_rounds_32 ?_
        refine va_put (pc := 33) (D := D) (ci := 6) (v := vI 1) (ty := .int) (C := RX8) (T := TX8) (N := 38) hx hb hts in_X8 tyX8 tyX8_ok nmX8 hown hK hP hD hS 0 rfl rfl 0 (by decide) fl_85 (fun _ h9 => h9) rfl (by decide +kernel) rfl rfl (Nat.le_of_ble_eq_true rfl) dX8_rounds_33 (fun H locs hP hD hS => ?_)
        have hP : va_P D vwCl [(mA, .inr (6, vI 1 :: vI m_heat :: vI m_pressure :: vL m_allDays :: vI m_clocks :: .ref m_rods :: .ref m_arcs :: .ref m_haveCheeks :: .ref m_adjustments :: .ref m_offs :: .ref m_sorted :: vI m_asking :: .ref m_askedBy :: .ref m_metAt :: .ref m_turnsAt :: vI m_period :: vI m_turns :: vI m_ahead :: vI m_datum :: vI m_datumValue :: vI m_readings :: .ref m_stations :: .ref m_hours :: .ref m_values :: .ref m_areTied :: .ref m_ties :: .ref m_steps :: .ref m_gravities :: .ref m_met :: vI m_bobs :: vI m_weight :: vI m_spring :: vI m_air :: vI m_push :: .ref m_places :: .ref m_speeds :: .ref m_wasPlace :: .ref m_wasSpeed :: [])), (m_met, .inl (cZ, 4096, .inl (aI m_met_c)))] H := hP
        have hD : va_D A [(mA, .inr (6, vI 1 :: vI m_heat :: vI m_pressure :: vL m_allDays :: vI m_clocks :: .ref m_rods :: .ref m_arcs :: .ref m_haveCheeks :: .ref m_adjustments :: .ref m_offs :: .ref m_sorted :: vI m_asking :: .ref m_askedBy :: .ref m_metAt :: .ref m_turnsAt :: vI m_period :: vI m_turns :: vI m_ahead :: vI m_datum :: vI m_datumValue :: vI m_readings :: .ref m_stations :: .ref m_hours :: .ref m_values :: .ref m_areTied :: .ref m_ties :: .ref m_steps :: .ref m_gravities :: .ref m_met :: vI m_bobs :: vI m_weight :: vI m_spring :: vI m_air :: vI m_push :: .ref m_places :: .ref m_speeds :: .ref m_wasPlace :: .ref m_wasSpeed :: [])), (m_met, .inl (cZ, 4096, .inl (aI m_met_c)))] := hD
        refine lv_aload_n (pc := 36) hx hb dX8_rounds_36 rfl (lv_at hl 0 rfl) ?_
        refine va_get (pc := 37) (D := D) (ci := 6) (v := vI 1) (C := RX8) (T := TX8) (N := 38) hx hb hts in_X8 hown hK hP 0 rfl rfl 0 (by decide) fl_85 (fun _ h9 => h9) rfl dX8_rounds_37 ?_
        refine z_if_le (pc := 40) (tgt := 45) hx hb dX8_rounds_40 (by decide) (by decide) (fun c_21 => ?_) (fun c_21 => ?_)
        · exact absurd c_21 (by decide)
        · have hc_40f := c_21
          refine z_iconst (pc := 43) hx hb dX8_rounds_43 ?_
          have he_0 : (1 : Int) = (if (0 ≤ p0 ∧ p0 ≤ 200) ∧ (p1 = -1 ∨ (1 ≤ p1 ∧ p1 ≤ 4096)) then 0 else 1) := by first | rfl | omega | (rw [if_pos (by omega)]; omega) | (rw [if_pos (by omega)]; done) | (rw [if_neg (by omega)]; done) | (rw [if_neg (by omega), if_pos (by omega)]; done) | (rw [if_neg (by omega), if_neg (by omega)]; done) | (rw [if_neg (by omega), if_neg (by omega), if_pos (by omega)]; done) | (rw [if_neg (by omega), if_neg (by omega), if_neg (by omega)]; done)
          have hP : va_P D vwCl [(mA, .inr (6, vI (if (0 ≤ p0 ∧ p0 ≤ 200) ∧ (p1 = -1 ∨ (1 ≤ p1 ∧ p1 ≤ 4096)) then 0 else 1) :: vI m_heat :: vI m_pressure :: vL m_allDays :: vI m_clocks :: .ref m_rods :: .ref m_arcs :: .ref m_haveCheeks :: .ref m_adjustments :: .ref m_offs :: .ref m_sorted :: vI m_asking :: .ref m_askedBy :: .ref m_metAt :: .ref m_turnsAt :: vI m_period :: vI m_turns :: vI m_ahead :: vI m_datum :: vI m_datumValue :: vI m_readings :: .ref m_stations :: .ref m_hours :: .ref m_values :: .ref m_areTied :: .ref m_ties :: .ref m_steps :: .ref m_gravities :: .ref m_met :: vI m_bobs :: vI m_weight :: vI m_spring :: vI m_air :: vI m_push :: .ref m_places :: .ref m_speeds :: .ref m_wasPlace :: .ref m_wasSpeed :: [])), (m_met, .inl (cZ, 4096, .inl (aI m_met_c)))] H := by rw [← he_0]; exact hP
          have hD : va_D A [(mA, .inr (6, vI (if (0 ≤ p0 ∧ p0 ≤ 200) ∧ (p1 = -1 ∨ (1 ≤ p1 ∧ p1 ≤ 4096)) then 0 else 1) :: vI m_heat :: vI m_pressure :: vL m_allDays :: vI m_clocks :: .ref m_rods :: .ref m_arcs :: .ref m_haveCheeks :: .ref m_adjustments :: .ref m_offs :: .ref m_sorted :: vI m_asking :: .ref m_askedBy :: .ref m_metAt :: .ref m_turnsAt :: vI m_period :: vI m_turns :: vI m_ahead :: vI m_datum :: vI m_datumValue :: vI m_readings :: .ref m_stations :: .ref m_hours :: .ref m_values :: .ref m_areTied :: .ref m_ties :: .ref m_steps :: .ref m_gravities :: .ref m_met :: vI m_bobs :: vI m_weight :: vI m_spring :: vI m_air :: vI m_push :: .ref m_places :: .ref m_speeds :: .ref m_wasPlace :: .ref m_wasSpeed :: [])), (m_met, .inl (cZ, 4096, .inl (aI m_met_c)))] := by rw [← he_0]; exact hD
          have hP9 := hP.sub (ws' := [(mA, .inr (6, vI (if (0 ≤ p0 ∧ p0 ≤ 200) ∧ (p1 = -1 ∨ (1 ≤ p1 ∧ p1 ≤ 4096)) then 0 else 1) :: vI m_heat :: vI m_pressure :: vL m_allDays :: vI m_clocks :: .ref m_rods :: .ref m_arcs :: .ref m_haveCheeks :: .ref m_adjustments :: .ref m_offs :: .ref m_sorted :: vI m_asking :: .ref m_askedBy :: .ref m_metAt :: .ref m_turnsAt :: vI m_period :: vI m_turns :: vI m_ahead :: vI m_datum :: vI m_datumValue :: vI m_readings :: .ref m_stations :: .ref m_hours :: .ref m_values :: .ref m_areTied :: .ref m_ties :: .ref m_steps :: .ref m_gravities :: .ref m_met :: vI m_bobs :: vI m_weight :: vI m_spring :: vI m_air :: vI m_push :: .ref m_places :: .ref m_speeds :: .ref m_wasPlace :: .ref m_wasSpeed :: [])), (m_met, .inl (cZ, 4096, .inl (aI m_met_c)))]) [0, 1] rfl
          have hD9 := hD.sub (ws' := [(mA, .inr (6, vI (if (0 ≤ p0 ∧ p0 ≤ 200) ∧ (p1 = -1 ∨ (1 ≤ p1 ∧ p1 ≤ 4096)) then 0 else 1) :: vI m_heat :: vI m_pressure :: vL m_allDays :: vI m_clocks :: .ref m_rods :: .ref m_arcs :: .ref m_haveCheeks :: .ref m_adjustments :: .ref m_offs :: .ref m_sorted :: vI m_asking :: .ref m_askedBy :: .ref m_metAt :: .ref m_turnsAt :: vI m_period :: vI m_turns :: vI m_ahead :: vI m_datum :: vI m_datumValue :: vI m_readings :: .ref m_stations :: .ref m_hours :: .ref m_values :: .ref m_areTied :: .ref m_ties :: .ref m_steps :: .ref m_gravities :: .ref m_met :: vI m_bobs :: vI m_weight :: vI m_spring :: vI m_air :: vI m_push :: .ref m_places :: .ref m_speeds :: .ref m_wasPlace :: .ref m_wasSpeed :: [])), (m_met, .inl (cZ, 4096, .inl (aI m_met_c)))]) [0, 1] (by decide) rfl
          have hv : (0 : Int) = (if (0 ≤ p0 ∧ p0 ≤ 200) ∧ (p1 = -1 ∨ (1 ≤ p1 ∧ p1 ≤ 4096)) then smZ (rdZ p0 p1) 4096 else 0) := by first | (rw [if_neg (by omega)]; done) | (rw [if_pos (by omega), i3, show s9 = 4096 by omega]; rfl) | omega
          exact W.iret (pc := 44) (v := zI 0) hx hb hr (fun t ht hW => ⟨⟨zI 0, m_met_c, rfl, ⟨congrArg zI hv, trivial⟩, by rw [ht]; exact hP9, hD9⟩, hS.F ht⟩) hS.2.2 dX8_rounds_44
      · have hc_25f := c_20
        refine z_iconst (pc := 28) hx hb dX8_rounds_28 ?_
        refine lv_goto (pc := 29) (tgt := 33) hx hb dX8_rounds_29 (by decide) ?_
        refine va_put (pc := 33) (D := D) (ci := 6) (v := vI 0) (ty := .int) (C := RX8) (T := TX8) (N := 38) hx hb hts in_X8 tyX8 tyX8_ok nmX8 hown hK hP hD hS 0 rfl rfl 0 (by decide) fl_85 (fun _ h9 => h9) rfl (by decide +kernel) rfl rfl (Nat.le_of_ble_eq_true rfl) dX8_rounds_33 (fun H locs hP hD hS => ?_)
        have hP : va_P D vwCl [(mA, .inr (6, vI 0 :: vI m_heat :: vI m_pressure :: vL m_allDays :: vI m_clocks :: .ref m_rods :: .ref m_arcs :: .ref m_haveCheeks :: .ref m_adjustments :: .ref m_offs :: .ref m_sorted :: vI m_asking :: .ref m_askedBy :: .ref m_metAt :: .ref m_turnsAt :: vI m_period :: vI m_turns :: vI m_ahead :: vI m_datum :: vI m_datumValue :: vI m_readings :: .ref m_stations :: .ref m_hours :: .ref m_values :: .ref m_areTied :: .ref m_ties :: .ref m_steps :: .ref m_gravities :: .ref m_met :: vI m_bobs :: vI m_weight :: vI m_spring :: vI m_air :: vI m_push :: .ref m_places :: .ref m_speeds :: .ref m_wasPlace :: .ref m_wasSpeed :: [])), (m_met, .inl (cZ, 4096, .inl (aI m_met_c)))] H := hP
        have hD : va_D A [(mA, .inr (6, vI 0 :: vI m_heat :: vI m_pressure :: vL m_allDays :: vI m_clocks :: .ref m_rods :: .ref m_arcs :: .ref m_haveCheeks :: .ref m_adjustments :: .ref m_offs :: .ref m_sorted :: vI m_asking :: .ref m_askedBy :: .ref m_metAt :: .ref m_turnsAt :: vI m_period :: vI m_turns :: vI m_ahead :: vI m_datum :: vI m_datumValue :: vI m_readings :: .ref m_stations :: .ref m_hours :: .ref m_values :: .ref m_areTied :: .ref m_ties :: .ref m_steps :: .ref m_gravities :: .ref m_met :: vI m_bobs :: vI m_weight :: vI m_spring :: vI m_air :: vI m_push :: .ref m_places :: .ref m_speeds :: .ref m_wasPlace :: .ref m_wasSpeed :: [])), (m_met, .inl (cZ, 4096, .inl (aI m_met_c)))] := hD
        refine lv_aload_n (pc := 36) hx hb dX8_rounds_36 rfl (lv_at hl 0 rfl) ?_
        refine va_get (pc := 37) (D := D) (ci := 6) (v := vI 0) (C := RX8) (T := TX8) (N := 38) hx hb hts in_X8 hown hK hP 0 rfl rfl 0 (by decide) fl_85 (fun _ h9 => h9) rfl dX8_rounds_37 ?_
        refine z_if_le (pc := 40) (tgt := 45) hx hb dX8_rounds_40 (by decide) (by decide) (fun c_22 => ?_) (fun c_22 => ?_)
        · have hc_40t := c_22
          refine lv_aload_n (pc := 45) hx hb dX8_rounds_45 rfl (lv_at hl 0 rfl) ?_
          have hPc := hP.sub (ws' := [(mA, .inr (6, vI 0 :: vI m_heat :: vI m_pressure :: vL m_allDays :: vI m_clocks :: .ref m_rods :: .ref m_arcs :: .ref m_haveCheeks :: .ref m_adjustments :: .ref m_offs :: .ref m_sorted :: vI m_asking :: .ref m_askedBy :: .ref m_metAt :: .ref m_turnsAt :: vI m_period :: vI m_turns :: vI m_ahead :: vI m_datum :: vI m_datumValue :: vI m_readings :: .ref m_stations :: .ref m_hours :: .ref m_values :: .ref m_areTied :: .ref m_ties :: .ref m_steps :: .ref m_gravities :: .ref m_met :: vI m_bobs :: vI m_weight :: vI m_spring :: vI m_air :: vI m_push :: .ref m_places :: .ref m_speeds :: .ref m_wasPlace :: .ref m_wasSpeed :: [])), (m_met, .inl (cZ, 4096, .inl (aI m_met_c)))]) [0, 1] rfl
          have hDc := hD.sub (ws' := [(mA, .inr (6, vI 0 :: vI m_heat :: vI m_pressure :: vL m_allDays :: vI m_clocks :: .ref m_rods :: .ref m_arcs :: .ref m_haveCheeks :: .ref m_adjustments :: .ref m_offs :: .ref m_sorted :: vI m_asking :: .ref m_askedBy :: .ref m_metAt :: .ref m_turnsAt :: vI m_period :: vI m_turns :: vI m_ahead :: vI m_datum :: vI m_datumValue :: vI m_readings :: .ref m_stations :: .ref m_hours :: .ref m_values :: .ref m_areTied :: .ref m_ties :: .ref m_steps :: .ref m_gravities :: .ref m_met :: vI m_bobs :: vI m_weight :: vI m_spring :: vI m_air :: vI m_push :: .ref m_places :: .ref m_speeds :: .ref m_wasPlace :: .ref m_wasSpeed :: [])), (m_met, .inl (cZ, 4096, .inl (aI m_met_c)))]) [0, 1] (by decide) rfl
          refine z_callWv (pc := 46) (wc := [(mA, .inr (6, vI 0 :: vI m_heat :: vI m_pressure :: vL m_allDays :: vI m_clocks :: .ref m_rods :: .ref m_arcs :: .ref m_haveCheeks :: .ref m_adjustments :: .ref m_offs :: .ref m_sorted :: vI m_asking :: .ref m_askedBy :: .ref m_metAt :: .ref m_turnsAt :: vI m_period :: vI m_turns :: vI m_ahead :: vI m_datum :: vI m_datumValue :: vI m_readings :: .ref m_stations :: .ref m_hours :: .ref m_values :: .ref m_areTied :: .ref m_ties :: .ref m_steps :: .ref m_gravities :: .ref m_met :: vI m_bobs :: vI m_weight :: vI m_spring :: vI m_air :: vI m_push :: .ref m_places :: .ref m_speeds :: .ref m_wasPlace :: .ref m_wasSpeed :: [])), (m_met, .inl (cZ, 4096, .inl (aI m_met_c)))]) hP hD hS hA [0, 1] [] [] rfl rfl (by decide) (by decide) (va_runV (As := []) (rest := []) ⟨hx, hb, hml, hown, hts⟩ (m_X8_none l D cI cJ cZ cD H.size mA 0 m_heat m_pressure m_allDays m_clocks m_rods m_arcs m_haveCheeks m_adjustments m_offs m_sorted m_asking m_askedBy m_metAt m_turnsAt m_period m_turns m_ahead m_datum m_datumValue m_readings m_stations m_hours m_values m_areTied m_ties m_steps m_gravities m_met m_bobs m_weight m_spring m_air m_push m_places m_speeds m_wasPlace m_wasSpeed m_met_c  ) (cwV 0 hts gX8_rounds_X8_none rfl rfl rfl (by decide +kernel) ⟨Nat.le_of_ble_eq_true rfl, Nat.le_of_ble_eq_true rfl⟩) ⟨z_blind, va_recv hK hPc (ci := 6) (q0 := 0) rfl rfl, z_pre hPc hK hDc rfl rfl hN⟩ rfl rfl hl.1 rfl (lv_room (Nat.le_of_ble_eq_true rfl)) dX8_rounds_46 ⟨Nat.zero_le _, Nat.zero_le _⟩) (fun u H locs hw hP hD hS => ?_)
          have hw_23 := hw
          have hP : va_P D vwCl [(mA, .inr (6, vI 0 :: vI m_heat :: vI m_pressure :: vL m_allDays :: vI m_clocks :: .ref m_rods :: .ref m_arcs :: .ref m_haveCheeks :: .ref m_adjustments :: .ref m_offs :: .ref m_sorted :: vI m_asking :: .ref m_askedBy :: .ref m_metAt :: .ref m_turnsAt :: vI m_period :: vI m_turns :: vI m_ahead :: vI m_datum :: vI m_datumValue :: vI m_readings :: .ref m_stations :: .ref m_hours :: .ref m_values :: .ref m_areTied :: .ref m_ties :: .ref m_steps :: .ref m_gravities :: .ref m_met :: vI m_bobs :: vI m_weight :: vI m_spring :: vI m_air :: vI m_push :: .ref m_places :: .ref m_speeds :: .ref m_wasPlace :: .ref m_wasSpeed :: [])), (m_met, .inl (cZ, 4096, .inl (aI (flZ m_met_c 0 4096))))] H := hP
          have hD : va_D A [(mA, .inr (6, vI 0 :: vI m_heat :: vI m_pressure :: vL m_allDays :: vI m_clocks :: .ref m_rods :: .ref m_arcs :: .ref m_haveCheeks :: .ref m_adjustments :: .ref m_offs :: .ref m_sorted :: vI m_asking :: .ref m_askedBy :: .ref m_metAt :: .ref m_turnsAt :: vI m_period :: vI m_turns :: vI m_ahead :: vI m_datum :: vI m_datumValue :: vI m_readings :: .ref m_stations :: .ref m_hours :: .ref m_values :: .ref m_areTied :: .ref m_ties :: .ref m_steps :: .ref m_gravities :: .ref m_met :: vI m_bobs :: vI m_weight :: vI m_spring :: vI m_air :: vI m_push :: .ref m_places :: .ref m_speeds :: .ref m_wasPlace :: .ref m_wasSpeed :: [])), (m_met, .inl (cZ, 4096, .inl (aI (flZ m_met_c 0 4096))))] := hD
          refine z_iconst (pc := 49) hx hb dX8_rounds_49 ?_
          refine lv_istore_n (lv' := [(3, vI 0), (0, .ref mA), (1, vI p0), (2, vI p1)]) (pc := 50) hx hb dX8_rounds_50 rfl hl (by decide) rfl (fun ls hl => ?_)
          refine z_iconst (pc := 51) hx hb dX8_rounds_51 ?_
          refine lv_istore (lv' := [(4, vI 0), (3, vI 0), (0, .ref mA), (1, vI p0), (2, vI p1)]) (pc := 52) hx hb dX8_rounds_52 hl (by decide) rfl (fun ls hl => ?_)
          have LP_54 : ∀ (nfu : Nat) (sm : Int) (s9 : Int) (f : Int → Int) (i1 : 0 ≤ s9 ∧ s9 ≤ 4096) (i2 : ∀ x : Int, 0 ≤ x → x < 4096 → (f x = 0 ∨ f x = 1) ∧ (f x = 1 ↔ viZ p0 s9 x)) (i3 : sm = smZ (rdZ p0 p1) (Int.toNat s9)) (hme : 4096 - s9 + 1 < (nfu : Int)) (H : Heap) (locs : List Loc) (hP : va_P D vwCl [(mA, .inr (6, vI 0 :: vI m_heat :: vI m_pressure :: vL m_allDays :: vI m_clocks :: .ref m_rods :: .ref m_arcs :: .ref m_haveCheeks :: .ref m_adjustments :: .ref m_offs :: .ref m_sorted :: vI m_asking :: .ref m_askedBy :: .ref m_metAt :: .ref m_turnsAt :: vI m_period :: vI m_turns :: vI m_ahead :: vI m_datum :: vI m_datumValue :: vI m_readings :: .ref m_stations :: .ref m_hours :: .ref m_values :: .ref m_areTied :: .ref m_ties :: .ref m_steps :: .ref m_gravities :: .ref m_met :: vI m_bobs :: vI m_weight :: vI m_spring :: vI m_air :: vI m_push :: .ref m_places :: .ref m_speeds :: .ref m_wasPlace :: .ref m_wasSpeed :: [])), (m_met, .inl (cZ, 4096, .inl (aI f)))] H) (hD : va_D A [(mA, .inr (6, vI 0 :: vI m_heat :: vI m_pressure :: vL m_allDays :: vI m_clocks :: .ref m_rods :: .ref m_arcs :: .ref m_haveCheeks :: .ref m_adjustments :: .ref m_offs :: .ref m_sorted :: vI m_asking :: .ref m_askedBy :: .ref m_metAt :: .ref m_turnsAt :: vI m_period :: vI m_turns :: vI m_ahead :: vI m_datum :: vI m_datumValue :: vI m_readings :: .ref m_stations :: .ref m_hours :: .ref m_values :: .ref m_areTied :: .ref m_ties :: .ref m_steps :: .ref m_gravities :: .ref m_met :: vI m_bobs :: vI m_weight :: vI m_spring :: vI m_air :: vI m_push :: .ref m_places :: .ref m_speeds :: .ref m_wasPlace :: .ref m_wasSpeed :: [])), (m_met, .inl (cZ, 4096, .inl (aI f)))]) (hS : va_S A s.heap H locs) (ls : Array Slot) (hl : lv_has ls 6 [(4, vI s9), (3, vI sm), (0, .ref mA), (1, vI p0), (2, vI p1)]), W p l e (headSpec wsX8_rounds ({ frames := 4, cells := 0, slots := 0, locals := 92 } : Room)).room s m ([.ref mA, vI p0, vI p1] : List Value).toArray below meth c H locs 0 0 (MQ below (va_Qi (fun (r : Int32) (u : (Int → Int)) => match u with | g => r = zI (if (0 ≤ p0 ∧ p0 ≤ 200) ∧ (p1 = -1 ∨ (1 ≤ p1 ∧ p1 ≤ 4096)) then smZ (rdZ p0 p1) 4096 else 0) ∧ (True)) (zB D A (fun (u : (Int → Int)) => match u with | g => [(mA, .inr (6, vI (if (0 ≤ p0 ∧ p0 ≤ 200) ∧ (p1 = -1 ∨ (1 ≤ p1 ∧ p1 ≤ 4096)) then 0 else 1) :: vI m_heat :: vI m_pressure :: vL m_allDays :: vI m_clocks :: .ref m_rods :: .ref m_arcs :: .ref m_haveCheeks :: .ref m_adjustments :: .ref m_offs :: .ref m_sorted :: vI m_asking :: .ref m_askedBy :: .ref m_metAt :: .ref m_turnsAt :: vI m_period :: vI m_turns :: vI m_ahead :: vI m_datum :: vI m_datumValue :: vI m_readings :: .ref m_stations :: .ref m_hours :: .ref m_values :: .ref m_areTied :: .ref m_ties :: .ref m_steps :: .ref m_gravities :: .ref m_met :: vI m_bobs :: vI m_weight :: vI m_spring :: vI m_air :: vI m_push :: .ref m_places :: .ref m_speeds :: .ref m_wasPlace :: .ref m_wasSpeed :: [])), (m_met, .inl (cZ, 4096, .inl (aI g)))])) A) ([.ref mA, vI p0, vI p1] : List Value).toArray s 0 0 A) (F0 m 54 ls []) := by
            intro nfu
            induction nfu with
            | zero =>
              intro sm s9 f i1 i2 i3 hme H locs hP hD hS ls hl
              exact absurd hme (by omega)
            | succ nfu ih_54 =>
              intro sm s9 f i1 i2 i3 hme H locs hP hD hS ls hl
              refine lv_iload (pc := 54) hx hb dX8_rounds_54 (lv_at hl 0 rfl) ?_
              refine z_sipush (pc := 56) hx hb dX8_rounds_56 (by decide) ?_
              refine z_icmp_ge (pc := 59) (tgt := 101) hx hb dX8_rounds_59 (by decide) (by omega) (by decide) (fun c_24 => ?_) (fun c_24 => ?_)
              · have hc_59t := c_24
                refine lv_iload_n (pc := 101) hx hb dX8_rounds_101 rfl (lv_at hl 1 rfl) ?_
                have he_0 : (0 : Int) = (if (0 ≤ p0 ∧ p0 ≤ 200) ∧ (p1 = -1 ∨ (1 ≤ p1 ∧ p1 ≤ 4096)) then 0 else 1) := by first | rfl | omega | (rw [if_pos (by omega)]; omega) | (rw [if_pos (by omega)]; done) | (rw [if_neg (by omega)]; done) | (rw [if_neg (by omega), if_pos (by omega)]; done) | (rw [if_neg (by omega), if_neg (by omega)]; done) | (rw [if_neg (by omega), if_neg (by omega), if_pos (by omega)]; done) | (rw [if_neg (by omega), if_neg (by omega), if_neg (by omega)]; done)
                have hP : va_P D vwCl [(mA, .inr (6, vI (if (0 ≤ p0 ∧ p0 ≤ 200) ∧ (p1 = -1 ∨ (1 ≤ p1 ∧ p1 ≤ 4096)) then 0 else 1) :: vI m_heat :: vI m_pressure :: vL m_allDays :: vI m_clocks :: .ref m_rods :: .ref m_arcs :: .ref m_haveCheeks :: .ref m_adjustments :: .ref m_offs :: .ref m_sorted :: vI m_asking :: .ref m_askedBy :: .ref m_metAt :: .ref m_turnsAt :: vI m_period :: vI m_turns :: vI m_ahead :: vI m_datum :: vI m_datumValue :: vI m_readings :: .ref m_stations :: .ref m_hours :: .ref m_values :: .ref m_areTied :: .ref m_ties :: .ref m_steps :: .ref m_gravities :: .ref m_met :: vI m_bobs :: vI m_weight :: vI m_spring :: vI m_air :: vI m_push :: .ref m_places :: .ref m_speeds :: .ref m_wasPlace :: .ref m_wasSpeed :: [])), (m_met, .inl (cZ, 4096, .inl (aI f)))] H := by rw [← he_0]; exact hP
                have hD : va_D A [(mA, .inr (6, vI (if (0 ≤ p0 ∧ p0 ≤ 200) ∧ (p1 = -1 ∨ (1 ≤ p1 ∧ p1 ≤ 4096)) then 0 else 1) :: vI m_heat :: vI m_pressure :: vL m_allDays :: vI m_clocks :: .ref m_rods :: .ref m_arcs :: .ref m_haveCheeks :: .ref m_adjustments :: .ref m_offs :: .ref m_sorted :: vI m_asking :: .ref m_askedBy :: .ref m_metAt :: .ref m_turnsAt :: vI m_period :: vI m_turns :: vI m_ahead :: vI m_datum :: vI m_datumValue :: vI m_readings :: .ref m_stations :: .ref m_hours :: .ref m_values :: .ref m_areTied :: .ref m_ties :: .ref m_steps :: .ref m_gravities :: .ref m_met :: vI m_bobs :: vI m_weight :: vI m_spring :: vI m_air :: vI m_push :: .ref m_places :: .ref m_speeds :: .ref m_wasPlace :: .ref m_wasSpeed :: [])), (m_met, .inl (cZ, 4096, .inl (aI f)))] := by rw [← he_0]; exact hD
                have hP9 := hP.sub (ws' := [(mA, .inr (6, vI (if (0 ≤ p0 ∧ p0 ≤ 200) ∧ (p1 = -1 ∨ (1 ≤ p1 ∧ p1 ≤ 4096)) then 0 else 1) :: vI m_heat :: vI m_pressure :: vL m_allDays :: vI m_clocks :: .ref m_rods :: .ref m_arcs :: .ref m_haveCheeks :: .ref m_adjustments :: .ref m_offs :: .ref m_sorted :: vI m_asking :: .ref m_askedBy :: .ref m_metAt :: .ref m_turnsAt :: vI m_period :: vI m_turns :: vI m_ahead :: vI m_datum :: vI m_datumValue :: vI m_readings :: .ref m_stations :: .ref m_hours :: .ref m_values :: .ref m_areTied :: .ref m_ties :: .ref m_steps :: .ref m_gravities :: .ref m_met :: vI m_bobs :: vI m_weight :: vI m_spring :: vI m_air :: vI m_push :: .ref m_places :: .ref m_speeds :: .ref m_wasPlace :: .ref m_wasSpeed :: [])), (m_met, .inl (cZ, 4096, .inl (aI f)))]) [0, 1] rfl
                have hD9 := hD.sub (ws' := [(mA, .inr (6, vI (if (0 ≤ p0 ∧ p0 ≤ 200) ∧ (p1 = -1 ∨ (1 ≤ p1 ∧ p1 ≤ 4096)) then 0 else 1) :: vI m_heat :: vI m_pressure :: vL m_allDays :: vI m_clocks :: .ref m_rods :: .ref m_arcs :: .ref m_haveCheeks :: .ref m_adjustments :: .ref m_offs :: .ref m_sorted :: vI m_asking :: .ref m_askedBy :: .ref m_metAt :: .ref m_turnsAt :: vI m_period :: vI m_turns :: vI m_ahead :: vI m_datum :: vI m_datumValue :: vI m_readings :: .ref m_stations :: .ref m_hours :: .ref m_values :: .ref m_areTied :: .ref m_ties :: .ref m_steps :: .ref m_gravities :: .ref m_met :: vI m_bobs :: vI m_weight :: vI m_spring :: vI m_air :: vI m_push :: .ref m_places :: .ref m_speeds :: .ref m_wasPlace :: .ref m_wasSpeed :: [])), (m_met, .inl (cZ, 4096, .inl (aI f)))]) [0, 1] (by decide) rfl
                have hv : (sm : Int) = (if (0 ≤ p0 ∧ p0 ≤ 200) ∧ (p1 = -1 ∨ (1 ≤ p1 ∧ p1 ≤ 4096)) then smZ (rdZ p0 p1) 4096 else 0) := by first | (rw [if_neg (by omega)]; done) | (rw [if_pos (by omega), i3, show s9 = 4096 by omega]; rfl) | omega
                exact W.iret (pc := 102) (v := zI sm) hx hb hr (fun t ht hW => ⟨⟨zI sm, f, rfl, ⟨congrArg zI hv, trivial⟩, by rw [ht]; exact hP9, hD9⟩, hS.F ht⟩) hS.2.2 dX8_rounds_102
              · have hc_59f := c_24
                refine lv_aload_n (pc := 62) hx hb dX8_rounds_62 rfl (lv_at hl 2 rfl) ?_
                refine lv_iload (pc := 63) hx hb dX8_rounds_63 (lv_at hl 0 rfl) ?_
                refine lv_iload_n (pc := 65) hx hb dX8_rounds_65 rfl (lv_at hl 3 rfl) ?_
                have hPc := hP.sub (ws' := [(mA, .inr (6, vI 0 :: vI m_heat :: vI m_pressure :: vL m_allDays :: vI m_clocks :: .ref m_rods :: .ref m_arcs :: .ref m_haveCheeks :: .ref m_adjustments :: .ref m_offs :: .ref m_sorted :: vI m_asking :: .ref m_askedBy :: .ref m_metAt :: .ref m_turnsAt :: vI m_period :: vI m_turns :: vI m_ahead :: vI m_datum :: vI m_datumValue :: vI m_readings :: .ref m_stations :: .ref m_hours :: .ref m_values :: .ref m_areTied :: .ref m_ties :: .ref m_steps :: .ref m_gravities :: .ref m_met :: vI m_bobs :: vI m_weight :: vI m_spring :: vI m_air :: vI m_push :: .ref m_places :: .ref m_speeds :: .ref m_wasPlace :: .ref m_wasSpeed :: [])), (m_met, .inl (cZ, 4096, .inl (aI f)))]) [0, 1] rfl
                have hDc := hD.sub (ws' := [(mA, .inr (6, vI 0 :: vI m_heat :: vI m_pressure :: vL m_allDays :: vI m_clocks :: .ref m_rods :: .ref m_arcs :: .ref m_haveCheeks :: .ref m_adjustments :: .ref m_offs :: .ref m_sorted :: vI m_asking :: .ref m_askedBy :: .ref m_metAt :: .ref m_turnsAt :: vI m_period :: vI m_turns :: vI m_ahead :: vI m_datum :: vI m_datumValue :: vI m_readings :: .ref m_stations :: .ref m_hours :: .ref m_values :: .ref m_areTied :: .ref m_ties :: .ref m_steps :: .ref m_gravities :: .ref m_met :: vI m_bobs :: vI m_weight :: vI m_spring :: vI m_air :: vI m_push :: .ref m_places :: .ref m_speeds :: .ref m_wasPlace :: .ref m_wasSpeed :: [])), (m_met, .inl (cZ, 4096, .inl (aI f)))]) [0, 1] (by decide) rfl
                refine z_callWi (pc := 66) (wc := [(mA, .inr (6, vI 0 :: vI m_heat :: vI m_pressure :: vL m_allDays :: vI m_clocks :: .ref m_rods :: .ref m_arcs :: .ref m_haveCheeks :: .ref m_adjustments :: .ref m_offs :: .ref m_sorted :: vI m_asking :: .ref m_askedBy :: .ref m_metAt :: .ref m_turnsAt :: vI m_period :: vI m_turns :: vI m_ahead :: vI m_datum :: vI m_datumValue :: vI m_readings :: .ref m_stations :: .ref m_hours :: .ref m_values :: .ref m_areTied :: .ref m_ties :: .ref m_steps :: .ref m_gravities :: .ref m_met :: vI m_bobs :: vI m_weight :: vI m_spring :: vI m_air :: vI m_push :: .ref m_places :: .ref m_speeds :: .ref m_wasPlace :: .ref m_wasSpeed :: [])), (m_met, .inl (cZ, 4096, .inl (aI f)))]) hP hD hS hA [0, 1] [] [] rfl rfl (by decide) (by decide) (va_runV (As := [vI s9, vI p0]) (rest := []) ⟨hx, hb, hml, hown, hts⟩ (m_X8_through l D cI cJ cZ cD H.size mA 0 m_heat m_pressure m_allDays m_clocks m_rods m_arcs m_haveCheeks m_adjustments m_offs m_sorted m_asking m_askedBy m_metAt m_turnsAt m_period m_turns m_ahead m_datum m_datumValue m_readings m_stations m_hours m_values m_areTied m_ties m_steps m_gravities m_met m_bobs m_weight m_spring m_air m_push m_places m_speeds m_wasPlace m_wasSpeed f s9 p0 (by omega) (by omega) (fun x a b => (i2 x a b).1) (fun x a b h => (i2 _ (mvZ_parts p0 x).2.2.1 (mvZ_parts p0 x).2.2.2).2.2 (vi_mv ((i2 x a b).2.1 h)))) (cwV 2 hts gX8_rounds_X8_through rfl rfl rfl (by decide +kernel) ⟨Nat.le_of_ble_eq_true rfl, Nat.le_of_ble_eq_true rfl⟩) ⟨z_blind, va_recv hK hPc (ci := 6) (q0 := 0) rfl rfl, z_pre hPc hK hDc rfl rfl hN⟩ rfl rfl hl.1 rfl (lv_room (Nat.le_of_ble_eq_true rfl)) dX8_rounds_66 ⟨Nat.zero_le _, Nat.zero_le _⟩) (fun r u H locs hw hP hD hS => ?_)
                obtain ⟨u_25, rfl⟩ : ∃ z, z = u := ⟨_, rfl⟩
                obtain ⟨rfl, hw_26⟩ := hw
                have hw_26 : ∀ x : Int, 0 ≤ x → x < 4096 → (u_25 x = 0 ∨ u_25 x = 1) ∧ (u_25 x = 1 ↔ f x = 1 ∨ onR p0 s9 x) := hw_26
                have hP : va_P D vwCl [(mA, .inr (6, vI 0 :: vI m_heat :: vI m_pressure :: vL m_allDays :: vI m_clocks :: .ref m_rods :: .ref m_arcs :: .ref m_haveCheeks :: .ref m_adjustments :: .ref m_offs :: .ref m_sorted :: vI m_asking :: .ref m_askedBy :: .ref m_metAt :: .ref m_turnsAt :: vI m_period :: vI m_turns :: vI m_ahead :: vI m_datum :: vI m_datumValue :: vI m_readings :: .ref m_stations :: .ref m_hours :: .ref m_values :: .ref m_areTied :: .ref m_ties :: .ref m_steps :: .ref m_gravities :: .ref m_met :: vI m_bobs :: vI m_weight :: vI m_spring :: vI m_air :: vI m_push :: .ref m_places :: .ref m_speeds :: .ref m_wasPlace :: .ref m_wasSpeed :: [])), (m_met, .inl (cZ, 4096, .inl (aI u_25)))] H := hP
                have hD : va_D A [(mA, .inr (6, vI 0 :: vI m_heat :: vI m_pressure :: vL m_allDays :: vI m_clocks :: .ref m_rods :: .ref m_arcs :: .ref m_haveCheeks :: .ref m_adjustments :: .ref m_offs :: .ref m_sorted :: vI m_asking :: .ref m_askedBy :: .ref m_metAt :: .ref m_turnsAt :: vI m_period :: vI m_turns :: vI m_ahead :: vI m_datum :: vI m_datumValue :: vI m_readings :: .ref m_stations :: .ref m_hours :: .ref m_values :: .ref m_areTied :: .ref m_ties :: .ref m_steps :: .ref m_gravities :: .ref m_met :: vI m_bobs :: vI m_weight :: vI m_spring :: vI m_air :: vI m_push :: .ref m_places :: .ref m_speeds :: .ref m_wasPlace :: .ref m_wasSpeed :: [])), (m_met, .inl (cZ, 4096, .inl (aI u_25)))] := hD
                have r2 := cy_rng (k := p0) (s := s9) (by omega)
                refine lv_istore (lv' := [(5, vI (if f s9 = 1 then 0 else cyZ p0 s9)), (4, vI s9), (3, vI sm), (0, .ref mA), (1, vI p0), (2, vI p1)]) (pc := 69) hx hb dX8_rounds_69 hl (by decide) rfl (fun ls hl => ?_)
                refine lv_iload_n (pc := 71) hx hb dX8_rounds_71 rfl (lv_at hl 2 rfl) ?_
                refine lv_iload (pc := 72) hx hb dX8_rounds_72 (lv_at hl 0 rfl) ?_
                refine z_if_le (pc := 74) (tgt := 92) hx hb dX8_rounds_74 (by decide) (by omega) (fun c_27 => ?_) (fun c_27 => ?_)
                · have hc_74t := c_27
                  refine z_iconst (pc := 92) hx hb dX8_rounds_92 ?_
                  refine z_iadd (pc := 93) hx hb dX8_rounds_93 ?_
                  refine lv_istore_n (lv' := [(3, vI (sm + 0)), (5, vI (if f s9 = 1 then 0 else cyZ p0 s9)), (4, vI s9), (0, .ref mA), (1, vI p0), (2, vI p1)]) (pc := 94) hx hb dX8_rounds_94 rfl hl (by decide) rfl (fun ls hl => ?_)
                  refine lv_iinc (v := zI (s9 + 1)) (lv' := [(4, vI (s9 + 1)), (3, vI (sm + 0)), (5, vI (if f s9 = 1 then 0 else cyZ p0 s9)), (0, .ref mA), (1, vI p0), (2, vI p1)]) (pc := 95) hx hb dX8_rounds_95 hl (k := 2) rfl (zI_add _ _) (by decide) rfl (fun ls hl => ?_)
                  refine lv_goto (pc := 98) (tgt := 54) hx hb dX8_rounds_98 (by decide) ?_
                  have hi_28 : ∀ x : Int, 0 ≤ x → x < 4096 → (u_25 x = 0 ∨ u_25 x = 1) ∧ (u_25 x = 1 ↔ viZ p0 (s9 + 1) x) := by
                    intro x a b
                    obtain ⟨w1, w2⟩ := hw_26 x a b
                    refine ⟨w1, ?_⟩
                    rw [w2, vi_s i1.1, (i2 x a b).2]
                  have hi_29 : (sm + 0) = smZ (rdZ p0 p1) (Int.toNat (s9 + 1)) := by
                    by_cases z : f s9 = 1
                    · first
                        | (rw [smZ_toNat _ i1.1, ← i3, rd_y ((i2 s9 (by omega) (by omega)).2.1 z)]; done)
                        | (rw [smZ_toNat _ i1.1, ← i3, rd_y ((i2 s9 (by omega) (by omega)).2.1 z)]; omega)
                    · rw [smZ_toNat _ i1.1, ← i3, rd_n (fun y => z ((i2 s9 (by omega) (by omega)).2.2 y))]
                      first
                        | (rw [pI_t (by omega)]; done)
                        | (rw [pI_f (by omega)]; done)
                        | omega
                  exact ih_54 (sm + 0) (s9 + 1) u_25 (by omega) hi_28 hi_29 (by omega) _ _ (hP.sub [0, 1] rfl) (hD.sub [0, 1] (by decide) rfl) hS _ (lv_sub hl [0, 1, 3, 4, 5] rfl)
                · have hc_74f := c_27
                  refine lv_iload_n (pc := 77) hx hb dX8_rounds_77 rfl (lv_at hl 5 rfl) ?_
                  refine z_iconst (pc := 78) hx hb dX8_rounds_78 ?_
                  refine z_icmp_eq (pc := 79) (tgt := 88) hx hb dX8_rounds_79 (by decide) (by omega) (by decide) (fun c_30 => ?_) (fun c_30 => ?_)
                  · have hc_79t := c_30
                    refine z_iconst (pc := 88) hx hb dX8_rounds_88 ?_
                    refine lv_goto (pc := 89) (tgt := 93) hx hb dX8_rounds_89 (by decide) ?_
                    refine z_iadd (pc := 93) hx hb dX8_rounds_93 ?_
                    refine lv_istore_n (lv' := [(3, vI (sm + 1)), (5, vI (if f s9 = 1 then 0 else cyZ p0 s9)), (4, vI s9), (0, .ref mA), (1, vI p0), (2, vI p1)]) (pc := 94) hx hb dX8_rounds_94 rfl hl (by decide) rfl (fun ls hl => ?_)
                    refine lv_iinc (v := zI (s9 + 1)) (lv' := [(4, vI (s9 + 1)), (3, vI (sm + 1)), (5, vI (if f s9 = 1 then 0 else cyZ p0 s9)), (0, .ref mA), (1, vI p0), (2, vI p1)]) (pc := 95) hx hb dX8_rounds_95 hl (k := 2) rfl (zI_add _ _) (by decide) rfl (fun ls hl => ?_)
                    refine lv_goto (pc := 98) (tgt := 54) hx hb dX8_rounds_98 (by decide) ?_
                    have hi_31 : ∀ x : Int, 0 ≤ x → x < 4096 → (u_25 x = 0 ∨ u_25 x = 1) ∧ (u_25 x = 1 ↔ viZ p0 (s9 + 1) x) := by
                      intro x a b
                      obtain ⟨w1, w2⟩ := hw_26 x a b
                      refine ⟨w1, ?_⟩
                      rw [w2, vi_s i1.1, (i2 x a b).2]
                    have hi_32 : (sm + 1) = smZ (rdZ p0 p1) (Int.toNat (s9 + 1)) := by
                      by_cases z : f s9 = 1
                      · first
                          | (rw [smZ_toNat _ i1.1, ← i3, rd_y ((i2 s9 (by omega) (by omega)).2.1 z)]; done)
                          | (rw [smZ_toNat _ i1.1, ← i3, rd_y ((i2 s9 (by omega) (by omega)).2.1 z)]; omega)
                      · rw [smZ_toNat _ i1.1, ← i3, rd_n (fun y => z ((i2 s9 (by omega) (by omega)).2.2 y))]
                        first
                          | (rw [pI_t (by omega)]; done)
                          | (rw [pI_f (by omega)]; done)
                          | omega
                    exact ih_54 (sm + 1) (s9 + 1) u_25 (by omega) hi_31 hi_32 (by omega) _ _ (hP.sub [0, 1] rfl) (hD.sub [0, 1] (by decide) rfl) hS _ (lv_sub hl [0, 1, 3, 4, 5] rfl)
                  · have hc_79f := c_30
                    refine lv_iload (pc := 82) hx hb dX8_rounds_82 (lv_at hl 0 rfl) ?_
                    refine lv_iload_n (pc := 84) hx hb dX8_rounds_84 rfl (lv_at hl 5 rfl) ?_
                    refine z_icmp_ne (pc := 85) (tgt := 92) hx hb dX8_rounds_85 (by decide) (by omega) (by omega) (fun c_33 => ?_) (fun c_33 => ?_)
                    · have hc_85t := c_33
                      refine z_iconst (pc := 92) hx hb dX8_rounds_92 ?_
                      refine z_iadd (pc := 93) hx hb dX8_rounds_93 ?_
                      refine lv_istore_n (lv' := [(3, vI (sm + 0)), (5, vI (if f s9 = 1 then 0 else cyZ p0 s9)), (4, vI s9), (0, .ref mA), (1, vI p0), (2, vI p1)]) (pc := 94) hx hb dX8_rounds_94 rfl hl (by decide) rfl (fun ls hl => ?_)
                      refine lv_iinc (v := zI (s9 + 1)) (lv' := [(4, vI (s9 + 1)), (3, vI (sm + 0)), (5, vI (if f s9 = 1 then 0 else cyZ p0 s9)), (0, .ref mA), (1, vI p0), (2, vI p1)]) (pc := 95) hx hb dX8_rounds_95 hl (k := 2) rfl (zI_add _ _) (by decide) rfl (fun ls hl => ?_)
                      refine lv_goto (pc := 98) (tgt := 54) hx hb dX8_rounds_98 (by decide) ?_
                      have hi_34 : ∀ x : Int, 0 ≤ x → x < 4096 → (u_25 x = 0 ∨ u_25 x = 1) ∧ (u_25 x = 1 ↔ viZ p0 (s9 + 1) x) := by
                        intro x a b
                        obtain ⟨w1, w2⟩ := hw_26 x a b
                        refine ⟨w1, ?_⟩
                        rw [w2, vi_s i1.1, (i2 x a b).2]
                      have hi_35 : (sm + 0) = smZ (rdZ p0 p1) (Int.toNat (s9 + 1)) := by
                        by_cases z : f s9 = 1
                        · first
                            | (rw [smZ_toNat _ i1.1, ← i3, rd_y ((i2 s9 (by omega) (by omega)).2.1 z)]; done)
                            | (rw [smZ_toNat _ i1.1, ← i3, rd_y ((i2 s9 (by omega) (by omega)).2.1 z)]; omega)
                        · rw [smZ_toNat _ i1.1, ← i3, rd_n (fun y => z ((i2 s9 (by omega) (by omega)).2.2 y))]
                          first
                            | (rw [pI_t (by omega)]; done)
                            | (rw [pI_f (by omega)]; done)
                            | omega
                      exact ih_54 (sm + 0) (s9 + 1) u_25 (by omega) hi_34 hi_35 (by omega) _ _ (hP.sub [0, 1] rfl) (hD.sub [0, 1] (by decide) rfl) hS _ (lv_sub hl [0, 1, 3, 4, 5] rfl)
                    · have hc_85f := c_33
                      refine z_iconst (pc := 88) hx hb dX8_rounds_88 ?_
                      refine lv_goto (pc := 89) (tgt := 93) hx hb dX8_rounds_89 (by decide) ?_
                      refine z_iadd (pc := 93) hx hb dX8_rounds_93 ?_
                      refine lv_istore_n (lv' := [(3, vI (sm + 1)), (5, vI (if f s9 = 1 then 0 else cyZ p0 s9)), (4, vI s9), (0, .ref mA), (1, vI p0), (2, vI p1)]) (pc := 94) hx hb dX8_rounds_94 rfl hl (by decide) rfl (fun ls hl => ?_)
                      refine lv_iinc (v := zI (s9 + 1)) (lv' := [(4, vI (s9 + 1)), (3, vI (sm + 1)), (5, vI (if f s9 = 1 then 0 else cyZ p0 s9)), (0, .ref mA), (1, vI p0), (2, vI p1)]) (pc := 95) hx hb dX8_rounds_95 hl (k := 2) rfl (zI_add _ _) (by decide) rfl (fun ls hl => ?_)
                      refine lv_goto (pc := 98) (tgt := 54) hx hb dX8_rounds_98 (by decide) ?_
                      have hi_36 : ∀ x : Int, 0 ≤ x → x < 4096 → (u_25 x = 0 ∨ u_25 x = 1) ∧ (u_25 x = 1 ↔ viZ p0 (s9 + 1) x) := by
                        intro x a b
                        obtain ⟨w1, w2⟩ := hw_26 x a b
                        refine ⟨w1, ?_⟩
                        rw [w2, vi_s i1.1, (i2 x a b).2]
                      have hi_37 : (sm + 1) = smZ (rdZ p0 p1) (Int.toNat (s9 + 1)) := by
                        by_cases z : f s9 = 1
                        · first
                            | (rw [smZ_toNat _ i1.1, ← i3, rd_y ((i2 s9 (by omega) (by omega)).2.1 z)]; done)
                            | (rw [smZ_toNat _ i1.1, ← i3, rd_y ((i2 s9 (by omega) (by omega)).2.1 z)]; omega)
                        · rw [smZ_toNat _ i1.1, ← i3, rd_n (fun y => z ((i2 s9 (by omega) (by omega)).2.2 y))]
                          first
                            | (rw [pI_t (by omega)]; done)
                            | (rw [pI_f (by omega)]; done)
                            | omega
                      exact ih_54 (sm + 1) (s9 + 1) u_25 (by omega) hi_36 hi_37 (by omega) _ _ (hP.sub [0, 1] rfl) (hD.sub [0, 1] (by decide) rfl) hS _ (lv_sub hl [0, 1, 3, 4, 5] rfl)
          exact LP_54 (Int.toNat ((4096 - 0 + 1) + 1)) 0 0 (flZ m_met_c 0 4096) (by omega) (by intro x a b; rw [flZ_in ⟨a, b⟩]; exact ⟨Or.inl rfl, fun h => absurd h (by decide), fun h => absurd h vi_0⟩) (by rfl) (by omega) _ _ (hP.sub [0, 1] rfl) (hD.sub [0, 1] (by decide) rfl) hS _ (lv_sub hl [0, 1, 2, 3, 4] rfl)
        · exact absurd c_22 (by decide)
