/-! what the law's start gives: words, texts, statics, classes of rows -/
theorem zBW_in : ∀ w ∈ zBW, w ∈ lw_tbl := by decide +kernel
theorem zSTR_in : ∀ q ∈ zSTR, Cond.stringRef RX7 q.1 q.2 ∈ lw_tbl := by decide +kernel
theorem eq_val {args : Array Value} {s : State} {t : Term} {n : Int32} (h : (Cond.eq t (.int n)).before args s = true) : t.eval args s none [] s = some (.int n) := by
  obtain ⟨y, h1, h2⟩ := Cond.eq_one (show (Cond.eq t (.int n)).holds args s none s [] = true from h)
  have h3 : some (Value.int n) = some y := h2
  cases h3
  exact h1
set_option maxRecDepth 100000 in
theorem z_envOf {s : State} {args : Array Value} {A : Nat → Prop} (hA : ∀ a : Nat, a < s.heap.size → ¬ A a) (hts : ∀ w ∈ lw_tbl, w.before args s = true) (hg : (Jvm.Cond.and given_1 narrow_1).before args s = true) (hc7 : ∃ cur, s.vm.findClass RX7 = some cur) : zEnv A s s.heap := by
  have hs := flat_of_before _ hg
  obtain ⟨cur, hcur⟩ := hc7
  refine ⟨fun w hw => va_tabs (zBW_ok w hw).2 rfl (hts w (zBW_in w hw)), fun q hq => ?_, ?_, ?_, ?_, ?_, ?_, ?_⟩
  · have h1 := hts _ (zSTR_in q hq)
    obtain ⟨k, cf, i, a, -, -, -, -, -, he⟩ := Cond.stringRef_spec hcur (show (Cond.stringRef RX7 q.1 q.2).holds args s none s [] = true from h1)
    exact ⟨a, h1, he⟩
  · exact vx_Zqof (hts (.laysStatic Bundle.tN "UNASSIGNED_STACK" Bundle.steD) (by decide +kernel)) (hts (.initialized Bundle.tN) (by decide +kernel)) (hs (.isRef (.static Bundle.tN "UNASSIGNED_STACK" Bundle.steD)) (by decide +kernel)) hA
  · exact vx_Zqof (hts (.laysStatic Bundle.tN "SUPPRESSED_SENTINEL" Bundle.listD) (by decide +kernel)) (hts (.initialized Bundle.tN) (by decide +kernel)) (hs (.isRef (.static Bundle.tN "SUPPRESSED_SENTINEL" Bundle.listD)) (by decide +kernel)) hA
  · obtain ⟨t, ht, hT⟩ := va_Tof (tm := .static RX3 "STRETCHES" "[I") (ty := .int) (N := 4) (f := fun j => .int (zI (stZ (j : Int)))) (A := A) (by decide) (hs (.arrayOf (.static RX3 "STRETCHES" "[I") .int) (by decide +kernel)) (eq_val (hs (.eq (.length (.static RX3 "STRETCHES" "[I")) (.int 4)) (by decide +kernel))) (fun j hj => match j, hj with
      | 0, _ => (eq_val (hs (.eq (.elem (.static RX3 "STRETCHES" "[I") (.int 0)) (.int 11)) (by decide +kernel))).trans (congrArg (fun z => some (Value.int z)) (show (11 : Int32) = zI (stZ ((0 : Nat) : Int)) by decide))
      | 1, _ => (eq_val (hs (.eq (.elem (.static RX3 "STRETCHES" "[I") (.int 1)) (.int 19)) (by decide +kernel))).trans (congrArg (fun z => some (Value.int z)) (show (19 : Int32) = zI (stZ ((1 : Nat) : Int)) by decide))
      | 2, _ => (eq_val (hs (.eq (.elem (.static RX3 "STRETCHES" "[I") (.int 2)) (.int 5)) (by decide +kernel))).trans (congrArg (fun z => some (Value.int z)) (show (5 : Int32) = zI (stZ ((2 : Nat) : Int)) by decide))
      | 3, _ => (eq_val (hs (.eq (.elem (.static RX3 "STRETCHES" "[I") (.int 3)) (.int 1)) (by decide +kernel))).trans (congrArg (fun z => some (Value.int z)) (show (1 : Int32) = zI (stZ ((3 : Nat) : Int)) by decide))
      | j + 4, hj => absurd hj (by omega)) hA
    exact ⟨t, va_Zof (hts (.laysStatic RX3 "STRETCHES" "[I") (by decide +kernel)) (hts (.initialized RX3) (by decide +kernel)) ht hA, hT⟩
  · exact va_Nc.of (hs (.not (.castable "java/lang/IllegalArgumentException" "java/lang/IndexOutOfBoundsException")) (by decide +kernel))
  · exact va_Nc.of (hs (.not (.castable "java/lang/IllegalStateException" "java/lang/IllegalArgumentException")) (by decide +kernel))
  · exact va_Nc.of (hs (.not (.castable "java/lang/IllegalStateException" "java/lang/IndexOutOfBoundsException")) (by decide +kernel))
set_option maxRecDepth 100000 in
theorem z_known {s : State} {args : Array Value} (hts : ∀ w ∈ lw_tbl, w.before args s = true) : ∃ (D : va_G) (cI cJ cZ cD : ClassId), va_K D vwCl (TY cI cJ cZ cD) s := by
  obtain ⟨c0, i0, h0⟩ := u_known (C := RX0) (T := TX0) (N := 7) (n := 7) hts inX0 (hts (.instantiable RX0 7) (by decide +kernel))
  obtain ⟨c1, i1, h1⟩ := u_known (C := RX2) (T := TX2) (N := 9) (n := 9) hts inX2 (hts (.instantiable RX2 9) (by decide +kernel))
  obtain ⟨c2, i2, h2⟩ := u_known (C := RX3) (T := TX3) (N := 10) (n := 10) hts inX3 (hts (.instantiable RX3 10) (by decide +kernel))
  obtain ⟨c3, i3, h3⟩ := u_known (C := RX5) (T := TX5) (N := 9) (n := 9) hts inX5 (hts (.instantiable RX5 9) (by decide +kernel))
  obtain ⟨c4, i4, h4⟩ := u_known (C := RX6) (T := TX6) (N := 1) (n := 1) hts inX6 (hts (.instantiable RX6 1) (by decide +kernel))
  obtain ⟨c5, i5, h5⟩ := u_known (C := RX7) (T := TX7) (N := 5) (n := 5) hts inX7 (hts (.instantiable RX7 5) (by decide +kernel))
  obtain ⟨c6, i6, h6⟩ := u_known (C := RX8) (T := TX8) (N := 38) (n := 38) hts inX8 (hts (.instantiable RX8 38) (by decide +kernel))
  obtain ⟨cI, a1, a2⟩ := z_arr (hts (.arrayClass .int) (by decide +kernel))
  obtain ⟨cJ, b1, b2⟩ := z_arr (hts (.arrayClass .long) (by decide +kernel))
  obtain ⟨cZ, d1, d2⟩ := z_arr (hts (.arrayClass .boolean) (by decide +kernel))
  obtain ⟨cD, e1, e2⟩ := z_arr (hts (.arrayClass .double) (by decide +kernel))
  refine ⟨(fun k => if k = 0 then c0 else if k = 1 then c1 else if k = 2 then c2 else if k = 3 then c3 else if k = 4 then c4 else if k = 5 then c5 else c6, fun k => if k = 0 then i0 else if k = 1 then i1 else if k = 2 then i2 else if k = 3 then i3 else if k = 4 then i4 else if k = 5 then i5 else i6), cI, cJ, cZ, cD, fun k q hq => ?_, fun k q hq => ?_⟩
  · match k, hq with
    | 0, hq => cases hq; exact h0
    | 1, hq => cases hq; exact h1
    | 2, hq => cases hq; exact h2
    | 3, hq => cases hq; exact h3
    | 4, hq => cases hq; exact h4
    | 5, hq => cases hq; exact h5
    | 6, hq => cases hq; exact h6
    | k + 7, hq => simp [vwCl] at hq
  · match k, hq with
    | 0, hq => cases hq; exact ⟨a1, a2⟩
    | 1, hq => cases hq; exact ⟨b1, b2⟩
    | 2, hq => cases hq; exact ⟨d1, d2⟩
    | 3, hq => cases hq; exact ⟨e1, e2⟩
    | k + 4, hq => simp [TY] at hq
theorem z_nest {s : State} {args : Array Value} (hts : ∀ w ∈ lw_tbl, w.before args s = true) : zN s := va_Nw.of rfl (hts (.methodLinkNest RX2 71 yX7_isOutside RX7) (by decide +kernel))
