/-! what a method that throws needs of its launch: words of the tables, texts, statics -/
def zN2 : List String := ["java/lang/RuntimeException", "java/lang/Exception"]
def zBL : List Cond := [.classLink RL 13 "java/lang/IllegalArgumentException", .classLink RL 22 "java/lang/IllegalStateException", .classLink RL 28 "java/lang/IndexOutOfBoundsException", .castable "java/lang/IllegalArgumentException" "java/lang/IllegalArgumentException", .castable "java/lang/IllegalStateException" "java/lang/IllegalStateException", .castable "java/lang/IndexOutOfBoundsException" "java/lang/IndexOutOfBoundsException"]
def zBW : List Cond := (vx_atS RX7 52 "java/lang/IllegalArgumentException" zN2 ++ vx_atS RX7 80 "java/lang/IllegalStateException" zN2 ++ vx_atS RX7 93 "java/lang/IndexOutOfBoundsException" zN2).filter (fun w => !goodWord w) ++ zBL
theorem zBW_ok : ∀ w ∈ zBW, Cond.warmB w.codeNames w = true ∧ w.onTables = true := by decide +kernel
def zSTR : List (Nat × String) := [(50, "heat is -20 to 50"), (59, "pressure is 900 to 1100"), (64, "rod is STEEL to INVAR"), (70, "arc is 0 to 200, adjustment -1000000 to 1000000"), (78, "there are 10 clocks"), (91, "there is no such clock"), (103, "off is -1000000000 to 1000000000"), (109, "days are 1 to 10000"), (122, "there is no clock"), (135, "w and d are 0 to 999, c 0 to 300, n 0 to 10000"), (141, "w and d are 0 to 999, c 0 to 300, what 0 to 2"), (155, "c is 0 to 300, turns 0 to 100, period 1 to 100"), (165, "p and q are 1 to 2000000, tolerance 0 to 1000000"), (173, "p and q are 100000 to 2000000, tolerance 0 to 1000000"), (181, "there is no such station"), (185, "value is -1000000 to 1000000"), (194, "hour is 0 to 10000 and later, value -1000000 to 1000000"), (197, "there are 12 readings"), (204, "the readings are no closed loop"), (215, "there is no tie"), (227, "no ties lead there from the datum"), (232, "one of the ties is not there"), (234, "latitude is -90 to 90, minutes 0 to 100000"), (242, "hundredths are -2000 to 2000"), (251, "place and speed are 0 to 63, k 0 to 200, n -10000 to 10000"), (262, "place and speed are 0 to 63, k 0 to 200"), (267, "k is 0 to 200, length 1 to 4096 or NONE"), (272, "place and speed are 0 to 63, k 0 to 200, n 0 to 10000"), (280, "bobs are 1 to 8, k and c 0 to 15"), (286, "there is no such bob"), (289, "place and speed are -100000 to 100000"), (294, "air is 0 to 100, push -1000 to 1000"), (299, "n is 1 to 1000"), (308, "there is air or a push"), (332, "what is 0 to 5")]
def zEnv (A : Nat → Prop) (U : State) (H : Heap) : Prop :=
  (∀ w ∈ zBW, w.before #[] U = true) ∧ (∀ q ∈ zSTR, ∃ sa, vk_R RX7 q.1 q.2 sa U) ∧ vx_Zq Bundle.tN "UNASSIGNED_STACK" Bundle.steD A U H ∧ vx_Zq Bundle.tN "SUPPRESSED_SENTINEL" Bundle.listD A U H ∧
  (∃ t : Nat, va_Z RX3 "STRETCHES" "[I" (.ref t) A U H ∧ va_T .int t 4 (fun j => .int (zI (stZ (j : Int)))) A U H) ∧
  va_Nc "java/lang/IllegalArgumentException" "java/lang/IndexOutOfBoundsException" U ∧ va_Nc "java/lang/IllegalStateException" "java/lang/IllegalArgumentException" U ∧ va_Nc "java/lang/IllegalStateException" "java/lang/IndexOutOfBoundsException" U
theorem zEnv.narrow {A B : Nat → Prop} {U : State} {H : Heap} (h : zEnv A U H) (hAB : ∀ q, B q → A q) : zEnv B U H := by
  obtain ⟨h1, h2, h3, h4, ⟨t, h5, h6⟩, h7⟩ := h
  exact ⟨h1, h2, h3.narrow hAB, h4.narrow hAB, ⟨t, h5.narrow hAB, h6.narrow hAB⟩, h7⟩
theorem zEnv.kept {A : Nat → Prop} {U : State} {H H1 : Heap} (h : zEnv A U H) (hq : ∀ a : Nat, a < H.size → ¬ A a → H1[a]? = H[a]?) : zEnv A U H1 := by
  obtain ⟨h1, h2, h3, h4, ⟨t, h5, h6⟩, h7⟩ := h
  exact ⟨h1, h2, h3.kept hq, h4.kept hq, ⟨t, h5.kept hq, h6.kept hq⟩, h7⟩
theorem zEnv.warm {A : Nat → Prop} {s U : State} {H : Heap} (hW : s.WarmedH U.vm) (h : zEnv A s H) : zEnv A U H := by
  obtain ⟨h1, h2, h3, h4, ⟨t, h5, h6⟩, h7, h8, h9⟩ := h
  exact ⟨fun w hw => va_tabs (zBW_ok w hw).2 (rfl : (s.setVm U.vm).vm = U.vm) (Cond.pre_warmed hW (zBW_ok w hw).1 (h1 w hw)), fun q hq => (h2 q hq).imp fun _ z => vk_R.warm hW z, h3.moved hW.alike, h4.moved hW.alike, ⟨t, h5.moved hW.alike, h6.moved hW.alike⟩, h7.moved hW.alike, h8.moved hW.alike, h9.moved hW.alike⟩
theorem zEnv.same {A : Nat → Prop} {u U : State} {H : Heap} (hv : u.vm = U.vm) (h : zEnv A u H) : zEnv A U H := by
  obtain ⟨h1, h2, h3, h4, ⟨t, h5, h6⟩, h7, h8, h9⟩ := h
  have ha : u.vm.Alike U.vm := by rw [hv]; exact Vm.Alike.refl U.vm
  exact ⟨fun w hw => va_tabs (zBW_ok w hw).2 hv (h1 w hw), fun q hq => (h2 q hq).imp fun _ z => vk_R.same hv.symm z, h3.moved ha, h4.moved ha, ⟨t, h5.moved ha, h6.moved ha⟩, h7.moved ha, h8.moved ha, h9.moved ha⟩
def zPcE (D : va_G) (T : List (ClassId × FieldType)) (sz : Nat) (av : List Value) (ws : va_W) : Array Value → State → Prop := fun a U => zPc D T sz av ws a U ∧ zEnv (va_A ws sz) U U.heap
theorem z_blindE {D : va_G} {T : List (ClassId × FieldType)} {sz : Nat} {av : List Value} {ws : va_W} : FrameBlind (zPcE D T sz av ws) := fun a U g mk q => ⟨z_blind a U g mk q.1, zEnv.same (u := U) (U := U.calling g mk a) rfl q.2⟩
theorem z_preE {D : va_G} {T : List (ClassId × FieldType)} {sz : Nat} {av : List Value} {a : Array Value} {ws wc : va_W} {A : Nat → Prop} {H : Heap} {locs : List Loc} {s : State} (hP : va_P D vwCl wc H) (hK : va_K D vwCl T s) (hDc : va_D A wc) (hz : H.size = sz) (ha : a = av.toArray) (hN : zN s) (hE : zEnv A s s.heap) (hS : va_S A s.heap H locs) (hD : va_D A ws) (hA : ∀ q, s.heap.size ≤ q → A q) (isC : List Nat) (hC : isC.map (fun i => ws[i]?) = wc.map some) : ∀ U : State, U.heap = H → s.WarmedH U.vm → zPcE D T sz av wc a U :=
  fun U hU hW => ⟨z_pre hP hK hDc hz ha hN U hU hW, by
    rw [hU]
    exact ((hE.kept (fun q h1 h2 => hS.2.1 q h1 h2)).narrow (fun q h => va_free (wc := wc) hD hS hA isC hC q (by rw [hz]; exact h))).warm hW⟩
/-- a thrown one's world: nothing changed -/
abbrev zXB (D : va_G) (A : Nat → Prop) (C : String → Prop) (ws : va_W) : String → Unit → State → Prop := fun E _ t => C E ∧ va_P D vwCl ws t.heap ∧ va_D A ws
