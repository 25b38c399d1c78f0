/-! calls and rows (arrays) over the pictures -/
abbrev TY (cI cJ cZ cD : ClassId) : List (ClassId × FieldType) := [(cI, .int), (cJ, .long), (cZ, .boolean), (cD, .double)]
/-- the one link of a nest -/
def zN (U : State) : Prop := va_Nw (.methodLinkNest RX2 71 yX7_isOutside RX7) U
theorem zN.same {u U : State} (h : u.vm = U.vm) (hN : zN u) : zN U := va_Nw.same rfl h hN
theorem zN.warm {s U : State} (hW : s.WarmedH U.vm) (hN : zN s) : zN U := va_Nw.warmM hW hN
/-- a method's start: its world -/
def zPc (D : va_G) (T : List (ClassId × FieldType)) (sz : Nat) (av : List Value) (ws : va_W) : Array Value → State → Prop := va_Pc av (fun U => U.heap.size = sz ∧ va_P D vwCl ws U.heap ∧ va_K D vwCl T U ∧ va_D (fun _ => True) ws ∧ zN U)
/-- an answer, nothing changed -/
def zQr (v : Option Value) : Array Value → State → Outcome → State → Prop := fun _ st oc t => oc = .returned v ∧ t.heap = st.heap
theorem z_blind {D : va_G} {T : List (ClassId × FieldType)} {sz : Nat} {av : List Value} {ws : va_W} : FrameBlind (zPc D T sz av ws) := fun a U g mk q => by
  obtain ⟨q0, q1, qP, qK, qD, qN⟩ := q
  exact ⟨q0, q1, qP, va_K.moved (u := U) (U := U.calling g mk a) (Vm.Alike.refl U.vm) qK, qD, zN.same (u := U) (U := U.calling g mk a) rfl qN⟩
theorem z_pre {D : va_G} {T : List (ClassId × FieldType)} {sz : Nat} {av : List Value} {a : Array Value} {ws : va_W} {A : Nat → Prop} {H : Heap} {s : State} (hP : va_P D vwCl ws H) (hK : va_K D vwCl T s) (hD : va_D A ws) (hz : H.size = sz) (ha : a = av.toArray) (hN : zN s) : ∀ U : State, U.heap = H → s.WarmedH U.vm → zPc D T sz av ws a U :=
  fun U hU hW => ⟨ha, by rw [hU]; exact hz, by rw [hU]; exact hP, va_K.moved hW.alike hK, hD.weaken (fun _ _ _ _ => trivial), zN.warm hW hN⟩
theorem z_nilP {D : va_G} {H : Heap} : va_P D vwCl [] H := fun k q h => by simp at h
theorem z_nilD {A : Nat → Prop} : va_D A [] := ⟨fun i j p q h => by simp at h, fun k q h => by simp at h⟩
section ZC
variable {p : Program} {l : Launch} {e : Env} {R : Room} {s : State} {m : MethodId} {args : Array Value} {below : List Frame} {meth : Method} {c : Code} {H : Heap} {locs : List Loc} {cells slots : Nat} {Q : State → Prop} {cc : ByteArray} {pc : Nat} {ls : Array Slot} {rest st0 : List Value} {a : Array Value} {D : va_G} {A0 : Nat → Prop} {H0 : Heap} {mc ms : Nat} {ws : va_W} {T : List (ClassId × FieldType)} {t0 : Nat}
/-- behind a call that changes nothing -/
theorem z_callR {v : Value} (hr : va_Run p l e R s m args below meth c H locs cells slots 0 0 (F0 m pc ls st0) rest (zQr (some v) a) (fun _ => False))
    (kk : W p l e R s m args below meth c H locs cells slots Q (F0 m (pc + 3) ls (v :: rest))) : W p l e R s m args below meth c H locs cells slots Q (F0 m pc ls st0) := by
  intro T hT X
  obtain ⟨v', st₀, t, T', L, h0, X', hL, e1, e2, ⟨hv, hh⟩, st⟩ := hr T hT X
  cases hv
  obtain ⟨t2, a1, b1⟩ := kk T' (by rw [e1, hh, h0]) (Stand.forget X' (fun q h => (hL q h).elim))
  exact ⟨t2, st t2 a1, b1⟩
/-- what a method that writes leaves: the world w u -/
abbrev zB {S : Type} (D : va_G) (A : Nat → Prop) (w : S → va_W) : S → State → Prop := fun u t => va_P D vwCl (w u) t.heap ∧ va_D A (w u)
theorem z_join {S : Type} {w : S → va_W} {wc : va_W} {u : S} {t : State} {H1 : Heap} (hP : va_P D vwCl ws H) (hD : va_D A0 ws) (hF : ∀ q, va_A wc H.size q → A0 q) (isC isR : List Nat) (wr : va_W) (hC : isC.map (fun i => ws[i]?) = wc.map some) (hR : isR.map (fun i => ws[i]?) = wr.map some) (hn : va_nd isR = true) (hdis : ∀ i ∈ isR, i ∉ isC) (ht : t.heap = H1) (hB : zB D (va_A wc H.size) w u t)
    (hk : ∀ q : Nat, q < H.size → ¬ va_A wc H.size q → H1[q]? = H[q]?) : va_P D vwCl (wr ++ w u) H1 ∧ va_D A0 (wr ++ w u) := by
  obtain ⟨hP1, hD1⟩ := hB
  rw [ht] at hP1
  exact va_join hP hD isC isR hC hR hn hdis hk hF hP1 hD1

theorem z_callWi {S : Type} {post : Int32 → S → Prop} {w : S → va_W} {wc : va_W} (hP : va_P D vwCl ws H) (hD : va_D A0 ws) (hS : va_S A0 H0 H locs) (hA : ∀ q, H0.size ≤ q → A0 q) (isC isR : List Nat) (wr : va_W) (hC : isC.map (fun i => ws[i]?) = wc.map some) (hR : isR.map (fun i => ws[i]?) = wr.map some) (hn : va_nd isR = true) (hdis : ∀ i ∈ isR, i ∉ isC)
    (hr : va_Run p l e R s m args below meth c H locs cells slots mc ms (F0 m pc ls st0) rest (va_Qi post (zB D (va_A wc H.size) w) (va_A wc H.size) a) (va_A wc H.size))
    (kk : ∀ (r : Int32) (u : S) (H1 : Heap) (locs1 : List Loc), post r u → va_P D vwCl (wr ++ w u) H1 → va_D A0 (wr ++ w u) → va_S A0 H0 H1 locs1 → W p l e R s m args below meth c H1 locs1 (cells + mc) (slots + ms) Q (F0 m (pc + 3) ls (.int r :: rest))) : W p l e R s m args below meth c H locs cells slots Q (F0 m pc ls st0) := by
  have hF := va_free (wc := wc) hD hS hA isC hC
  refine va_calli hr hS (fun q _ h => hF q h) hF (fun r u t H1 locs1 ht hvm hw hB hz1 hk1 hS1 => ?_)
  obtain ⟨h1, h2⟩ := z_join hP hD hF isC isR wr hC hR hn hdis ht hB hk1
  exact kk r u H1 locs1 hw h1 h2 hS1
theorem z_callWl {S : Type} {post : Int64 → S → Prop} {w : S → va_W} {wc : va_W} (hP : va_P D vwCl ws H) (hD : va_D A0 ws) (hS : va_S A0 H0 H locs) (hA : ∀ q, H0.size ≤ q → A0 q) (isC isR : List Nat) (wr : va_W) (hC : isC.map (fun i => ws[i]?) = wc.map some) (hR : isR.map (fun i => ws[i]?) = wr.map some) (hn : va_nd isR = true) (hdis : ∀ i ∈ isR, i ∉ isC)
    (hr : va_Run p l e R s m args below meth c H locs cells slots mc ms (F0 m pc ls st0) rest (va_Ql post (zB D (va_A wc H.size) w) (va_A wc H.size) a) (va_A wc H.size))
    (kk : ∀ (r : Int64) (u : S) (H1 : Heap) (locs1 : List Loc), post r u → va_P D vwCl (wr ++ w u) H1 → va_D A0 (wr ++ w u) → va_S A0 H0 H1 locs1 → W p l e R s m args below meth c H1 locs1 (cells + mc) (slots + ms) Q (F0 m (pc + 3) ls (.long r :: rest))) : W p l e R s m args below meth c H locs cells slots Q (F0 m pc ls st0) := by
  have hF := va_free (wc := wc) hD hS hA isC hC
  refine va_calll hr hS (fun q _ h => hF q h) hF (fun r u t H1 locs1 ht hvm hw hB hz1 hk1 hS1 => ?_)
  obtain ⟨h1, h2⟩ := z_join hP hD hF isC isR wr hC hR hn hdis ht hB hk1
  exact kk r u H1 locs1 hw h1 h2 hS1
theorem z_callWf {S : Type} {post : UInt32 → S → Prop} {w : S → va_W} {wc : va_W} (hP : va_P D vwCl ws H) (hD : va_D A0 ws) (hS : va_S A0 H0 H locs) (hA : ∀ q, H0.size ≤ q → A0 q) (isC isR : List Nat) (wr : va_W) (hC : isC.map (fun i => ws[i]?) = wc.map some) (hR : isR.map (fun i => ws[i]?) = wr.map some) (hn : va_nd isR = true) (hdis : ∀ i ∈ isR, i ∉ isC)
    (hr : va_Run p l e R s m args below meth c H locs cells slots mc ms (F0 m pc ls st0) rest (va_Qf post (zB D (va_A wc H.size) w) (va_A wc H.size) a) (va_A wc H.size))
    (kk : ∀ (r : UInt32) (u : S) (H1 : Heap) (locs1 : List Loc), post r u → va_P D vwCl (wr ++ w u) H1 → va_D A0 (wr ++ w u) → va_S A0 H0 H1 locs1 → W p l e R s m args below meth c H1 locs1 (cells + mc) (slots + ms) Q (F0 m (pc + 3) ls (.float r :: rest))) : W p l e R s m args below meth c H locs cells slots Q (F0 m pc ls st0) := by
  have hF := va_free (wc := wc) hD hS hA isC hC
  refine va_callf hr hS (fun q _ h => hF q h) hF (fun r u t H1 locs1 ht hvm hw hB hz1 hk1 hS1 => ?_)
  obtain ⟨h1, h2⟩ := z_join hP hD hF isC isR wr hC hR hn hdis ht hB hk1
  exact kk r u H1 locs1 hw h1 h2 hS1
theorem z_callWv {S : Type} {post : S → Prop} {w : S → va_W} {wc : va_W} (hP : va_P D vwCl ws H) (hD : va_D A0 ws) (hS : va_S A0 H0 H locs) (hA : ∀ q, H0.size ≤ q → A0 q) (isC isR : List Nat) (wr : va_W) (hC : isC.map (fun i => ws[i]?) = wc.map some) (hR : isR.map (fun i => ws[i]?) = wr.map some) (hn : va_nd isR = true) (hdis : ∀ i ∈ isR, i ∉ isC)
    (hr : va_Run p l e R s m args below meth c H locs cells slots mc ms (F0 m pc ls st0) rest (va_Qv post (zB D (va_A wc H.size) w) (va_A wc H.size) a) (va_A wc H.size))
    (kk : ∀ (u : S) (H1 : Heap) (locs1 : List Loc), post u → va_P D vwCl (wr ++ w u) H1 → va_D A0 (wr ++ w u) → va_S A0 H0 H1 locs1 → W p l e R s m args below meth c H1 locs1 (cells + mc) (slots + ms) Q (F0 m (pc + 3) ls (rest))) : W p l e R s m args below meth c H locs cells slots Q (F0 m pc ls st0) := by
  have hF := va_free (wc := wc) hD hS hA isC hC
  refine va_callv hr hS (fun q _ h => hF q h) hF (fun u t H1 locs1 ht hvm hw hB hz1 hk1 hS1 => ?_)
  obtain ⟨h1, h2⟩ := z_join hP hD hF isC isR wr hC hR hn hdis ht hB hk1
  exact kk u H1 locs1 hw h1 h2 hS1
theorem z_iald (hx : p.tables.exec = Jvm.exec) (hb : c.code = cc) (hK : va_K D vwCl T s) (hP : va_P D vwCl ws H) (q0 t0 : Nat) {cA : ClassId} {b n : Nat} {f : Int → Int} {i : Int} (hin : 0 ≤ i ∧ i < n) (ha : ws[q0]? = some (b, .inl (cA, n, .inl (aI f)))) (ht : T[t0]? = some (cA, .int)) (hn : n < 2147483648) (hdg : decode cc pc = .ok (.iaload, 1))
    (k : W p l e R s m args below meth c H locs cells slots Q (F0 m (pc + 1) ls (vI (f i) :: rest))) : W p l e R s m args below meth c H locs cells slots Q (F0 m pc ls (vI i :: .ref b :: rest)) := by
  refine va_iald hx hb hK hP q0 t0 ha ht (zI_in hin hn) hdg ?_
  rw [aI_at f ⟨hin.1, by omega⟩]
  exact k
theorem z_zald (hx : p.tables.exec = Jvm.exec) (hb : c.code = cc) (hK : va_K D vwCl T s) (hP : va_P D vwCl ws H) (q0 t0 : Nat) {cA : ClassId} {b n : Nat} {f : Int → Int} {i : Int} (hin : 0 ≤ i ∧ i < n) (ha : ws[q0]? = some (b, .inl (cA, n, .inl (aI f)))) (ht : T[t0]? = some (cA, .boolean)) (hn : n < 2147483648) (hdg : decode cc pc = .ok (.baload, 1))
    (k : W p l e R s m args below meth c H locs cells slots Q (F0 m (pc + 1) ls (vI (f i) :: rest))) : W p l e R s m args below meth c H locs cells slots Q (F0 m pc ls (vI i :: .ref b :: rest)) := by
  refine va_zald hx hb hK hP q0 t0 ha ht (zI_in hin hn) hdg ?_
  rw [aI_at f ⟨hin.1, by omega⟩]
  exact k
theorem z_lald (hx : p.tables.exec = Jvm.exec) (hb : c.code = cc) (hK : va_K D vwCl T s) (hP : va_P D vwCl ws H) (q0 t0 : Nat) {cA : ClassId} {b n : Nat} {f : Int → Int} {i : Int} (hin : 0 ≤ i ∧ i < n) (ha : ws[q0]? = some (b, .inl (cA, n, .inr (.inl (aL f))))) (ht : T[t0]? = some (cA, .long)) (hn : n < 2147483648) (hdg : decode cc pc = .ok (.laload, 1))
    (k : W p l e R s m args below meth c H locs cells slots Q (F0 m (pc + 1) ls (vL (f i) :: rest))) : W p l e R s m args below meth c H locs cells slots Q (F0 m pc ls (vI i :: .ref b :: rest)) := by
  refine va_lald hx hb hK hP q0 t0 ha ht (zI_in hin hn) hdg ?_
  rw [aL_at f ⟨hin.1, by omega⟩]
  exact k
theorem z_iast (hx : p.tables.exec = Jvm.exec) (hb : c.code = cc) (hK : va_K D vwCl T s) (hP : va_P D vwCl ws H) (hD : va_D A0 ws) (hS : va_S A0 H0 H locs) (q0 t0 : Nat) {cA : ClassId} {b n : Nat} {f : Int → Int} {i x : Int} (hin : 0 ≤ i ∧ i < n) (ha : ws[q0]? = some (b, .inl (cA, n, .inl (aI f)))) (ht : T[t0]? = some (cA, .int)) (hn : n < 2147483648) (hdg : decode cc pc = .ok (.iastore, 1))
    (k : ∀ (H1 : Heap) (locs1 : List Loc), va_P D vwCl (ws.set q0 (b, .inl (cA, n, .inl (aI (uZ f i x))))) H1 → va_D A0 (ws.set q0 (b, .inl (cA, n, .inl (aI (uZ f i x))))) → va_S A0 H0 H1 locs1 → W p l e R s m args below meth c H1 locs1 cells slots Q (F0 m (pc + 1) ls rest)) : W p l e R s m args below meth c H locs cells slots Q (F0 m pc ls (vI x :: vI i :: .ref b :: rest)) := by
  refine va_iast hx hb hK hP hD hS q0 t0 ha ht (zI_in hin hn) hdg (fun H1 locs1 h1 h2 h3 => ?_)
  rw [aI_up f x ⟨hin.1, by omega⟩] at h1 h2
  exact k H1 locs1 h1 h2 h3
theorem z_nar {x : Int} (h : x = 0 ∨ x = 1) : vp_nar .boolean (zI x) = zI x := by
  rcases h with rfl | rfl <;> rfl
theorem z_zast (hx : p.tables.exec = Jvm.exec) (hb : c.code = cc) (hK : va_K D vwCl T s) (hP : va_P D vwCl ws H) (hD : va_D A0 ws) (hS : va_S A0 H0 H locs) (q0 t0 : Nat) {cA : ClassId} {b n : Nat} {f : Int → Int} {i x : Int} (hin : 0 ≤ i ∧ i < n) (h01 : x = 0 ∨ x = 1) (ha : ws[q0]? = some (b, .inl (cA, n, .inl (aI f)))) (ht : T[t0]? = some (cA, .boolean)) (hn : n < 2147483648) (hdg : decode cc pc = .ok (.bastore, 1))
    (k : ∀ (H1 : Heap) (locs1 : List Loc), va_P D vwCl (ws.set q0 (b, .inl (cA, n, .inl (aI (uZ f i x))))) H1 → va_D A0 (ws.set q0 (b, .inl (cA, n, .inl (aI (uZ f i x))))) → va_S A0 H0 H1 locs1 → W p l e R s m args below meth c H1 locs1 cells slots Q (F0 m (pc + 1) ls rest)) : W p l e R s m args below meth c H locs cells slots Q (F0 m pc ls (vI x :: vI i :: .ref b :: rest)) := by
  refine va_zast hx hb hK hP hD hS q0 t0 ha ht (zI_in hin hn) hdg (fun H1 locs1 h1 h2 h3 => ?_)
  rw [z_nar h01] at h1 h2
  rw [aI_up f x ⟨hin.1, by omega⟩] at h1 h2
  exact k H1 locs1 h1 h2 h3
theorem z_last (hx : p.tables.exec = Jvm.exec) (hb : c.code = cc) (hK : va_K D vwCl T s) (hP : va_P D vwCl ws H) (hD : va_D A0 ws) (hS : va_S A0 H0 H locs) (q0 t0 : Nat) {cA : ClassId} {b n : Nat} {f : Int → Int} {i x : Int} (hin : 0 ≤ i ∧ i < n) (ha : ws[q0]? = some (b, .inl (cA, n, .inr (.inl (aL f))))) (ht : T[t0]? = some (cA, .long)) (hn : n < 2147483648) (hdg : decode cc pc = .ok (.lastore, 1))
    (k : ∀ (H1 : Heap) (locs1 : List Loc), va_P D vwCl (ws.set q0 (b, .inl (cA, n, .inr (.inl (aL (uZ f i x)))))) H1 → va_D A0 (ws.set q0 (b, .inl (cA, n, .inr (.inl (aL (uZ f i x)))))) → va_S A0 H0 H1 locs1 → W p l e R s m args below meth c H1 locs1 cells slots Q (F0 m (pc + 1) ls rest)) : W p l e R s m args below meth c H locs cells slots Q (F0 m pc ls (vL x :: vI i :: .ref b :: rest)) := by
  refine va_last hx hb hK hP hD hS q0 t0 ha ht (zI_in hin hn) hdg (fun H1 locs1 h1 h2 h3 => ?_)
  rw [aL_up f x ⟨hin.1, by omega⟩] at h1 h2
  exact k H1 locs1 h1 h2 h3
theorem z_alen (hx : p.tables.exec = Jvm.exec) (hb : c.code = cc) (hK : va_K D vwCl T s) (hP : va_P D vwCl ws H) (q0 t0 : Nat) {cA : ClassId} {b n : Nat} {ty : FieldType} {y : (Nat → Int32) ⊕ (Nat → Int64) ⊕ (Nat → UInt32) ⊕ (Nat → UInt64) ⊕ (Nat → Option Nat)} (ha : ws[q0]? = some (b, .inl (cA, n, y))) (ht : T[t0]? = some (cA, ty)) (hdg : decode cc pc = .ok (.arraylength, 1))
    (k : W p l e R s m args below meth c H locs cells slots Q (F0 m (pc + 1) ls (vI (n : Int) :: rest))) : W p l e R s m args below meth c H locs cells slots Q (F0 m pc ls (.ref b :: rest)) := va_alen hx hb hK hP q0 t0 ha ht (by first | rfl | (unfold zI; simp)) hdg k
end ZC
theorem z_pIr (P : Prop) [Decidable P] : -2147483648 ≤ pI P ∧ pI P < 2147483648 := by have := pI_rng P; omega
theorem z_pI01 (P : Prop) [Decidable P] : pI P = 0 ∨ pI P = 1 := by have := pI_rng P; omega
theorem z_narB {x : Int} (h : x = 0 ∨ x = 1) : narrow .boolean (.int (zI x)) = .int (zI x) := by
  rcases h with rfl | rfl <;> rfl
theorem z_min {x y : Int} (hx : -2147483648 ≤ x ∧ x < 2147483648) (hy : -2147483648 ≤ y ∧ y < 2147483648) : (if zI y < zI x then zI y else zI x) = zI (if y < x then y else x) := by
  by_cases h : y < x
  · rw [if_pos h, if_pos ((zI_lt hy hx).mpr h)]
  · rw [if_neg h, if_neg (mt (zI_lt hy hx).mp h)]
/-- the first n places of f over g -/
def cZ0 (f g : Int → Int) (n : Int) : Int → Int := fun j => if 0 ≤ j ∧ j < n then f j else g j
theorem cZ0_in {f g : Int → Int} {n j : Int} (h : 0 ≤ j ∧ j < n) : cZ0 f g n j = f j := if_pos h
theorem cZ0_out {f g : Int → Int} {n j : Int} (h : ¬ (0 ≤ j ∧ j < n)) : cZ0 f g n j = g j := if_neg h
theorem aI_cpy (f g : Int → Int) {n : Int} (h : 0 ≤ n ∧ n < 2147483648) : va_cpy (aI f) (aI g) (zI 0).toNatClampNeg (zI 0).toNatClampNeg (zI n).toNatClampNeg = aI (cZ0 f g n) := by
  funext j
  have h1 := zI_cl h
  have h0 : (zI 0).toNatClampNeg = 0 := rfl
  unfold va_cpy aI cZ0
  rw [h0]
  by_cases hj : 0 ≤ j ∧ j < 0 + (zI n).toNatClampNeg
  · rw [if_pos hj, if_pos (by omega)]; congr 2; omega
  · rw [if_neg hj, if_neg (by omega)]
theorem zI_xor {x y : Int} (hx : -2147483648 ≤ x ∧ x < 2147483648) (hy : 0 < y ∧ y < 2147483648) : (zI x ^^^ zI y) < zI 0 ↔ x < 0 := by
  have e1 : ∀ a : Int32, a.toInt < 0 ↔ a.toBitVec.msb = true := fun a => by
    show a.toBitVec.toInt < 0 ↔ _
    rw [BitVec.msb_eq_toInt]; exact decide_eq_true_iff.symm
  have hx2 := e1 (zI x); have hy2 := e1 (zI y); have hz := e1 (zI x ^^^ zI y)
  rw [zI_toInt hx] at hx2; rw [zI_toInt ⟨by omega, hy.2⟩] at hy2
  rw [Int32.lt_iff_toInt_lt, zI_toInt (z := 0) (by decide), hz, hx2, Int32.toBitVec_xor, BitVec.msb_xor]
  have h3 : (zI y).toBitVec.msb = false := by
    cases h : (zI y).toBitVec.msb with
    | false => rfl
    | true => exact absurd (hy2.mpr h) (by omega)
  rw [h3]; simp
theorem zL_xor {x y : Int} (hx : -9223372036854775808 ≤ x ∧ x < 9223372036854775808) (hy : 0 < y ∧ y < 9223372036854775808) : (zL x ^^^ zL y) < zL 0 ↔ x < 0 := by
  have e1 : ∀ a : Int64, a.toInt < 0 ↔ a.toBitVec.msb = true := fun a => by
    show a.toBitVec.toInt < 0 ↔ _
    rw [BitVec.msb_eq_toInt]; exact decide_eq_true_iff.symm
  have hx2 := e1 (zL x); have hy2 := e1 (zL y); have hz := e1 (zL x ^^^ zL y)
  rw [zL_toInt hx] at hx2; rw [zL_toInt ⟨by omega, hy.2⟩] at hy2
  rw [Int64.lt_iff_toInt_lt, zL_toInt (z := 0) (by decide), hz, hx2, Int64.toBitVec_xor, BitVec.msb_xor]
  have h3 : (zL y).toBitVec.msb = false := by
    cases h : (zL y).toBitVec.msb with
    | false => rfl
    | true => exact absurd (hy2.mpr h) (by omega)
  rw [h3]; simp
/-- the quotient that is cut, beside the one that is rounded down -/
theorem z_fd {x y : Int} (hy : 0 < y) (hx : x < 0) : x ≤ x.tdiv y * y ∧ x.tdiv y * y ≤ 0 ∧ (x.tdiv y * y = x → x.tdiv y = x / y) ∧ (x.tdiv y * y ≠ x → x.tdiv y - 1 = x / y) := by
  have e : x.tdiv y = -((-x) / y) := by
    have h1 : x.tdiv y = -((-x).tdiv y) := by rw [Int.neg_tdiv, Int.neg_neg]
    rw [h1, Int.tdiv_eq_ediv_of_nonneg (by omega)]
  rw [e]
  have h1 := Int.mul_ediv_add_emod (-x) y
  have h2 := Int.emod_nonneg (-x) (show y ≠ 0 by omega)
  have h3 := Int.emod_lt_of_pos (-x) hy
  have h4 : -((-x) / y) * y = -(y * ((-x) / y)) := by rw [Int.neg_mul, Int.mul_comm]
  have h5 : 0 ≤ y * ((-x) / y) := Int.mul_nonneg (by omega) (Int.ediv_nonneg (by omega) (by omega))
  rw [h4]
  refine ⟨by omega, by omega, fun h => ?_, fun h => ?_⟩
  · have : x = y * (-((-x) / y)) := by rw [Int.mul_neg]; omega
    symm
    rw [Int.ediv_eq_iff_of_pos hy]
    constructor
    · rw [Int.neg_mul, Int.mul_comm]; omega
    · first | (rw [h4]; omega) | (rw [Int.add_mul, Int.neg_mul, Int.mul_comm]; omega)
  · symm
    rw [Int.ediv_eq_iff_of_pos hy]
    have h6 : (-((-x) / y) - 1) * y = -(y * ((-x) / y)) - y := by rw [Int.sub_mul, Int.neg_mul, Int.mul_comm]; omega
    have h8 : -((-x) / y) * y = -(y * ((-x) / y)) := h4
    have h7 : (-((-x) / y) - 1 + 1) * y = -(y * ((-x) / y)) := by rw [Int.sub_add_cancel, Int.neg_mul, Int.mul_comm]
    omega
theorem z_fm {x y : Int} (hy : 0 < y) (hx : x < 0) : -y < x.tmod y ∧ x.tmod y ≤ 0 ∧ (x.tmod y = 0 → x.tmod y = x % y) ∧ (x.tmod y ≠ 0 → x.tmod y + y = x % y) := by
  have e : x.tmod y = -((-x) % y) := by
    have h1 : x.tmod y = -((-x).tmod y) := by rw [Int.neg_tmod, Int.neg_neg]
    rw [h1, Int.tmod_eq_emod_of_nonneg (by omega)]
  rw [e]
  have h1 := Int.mul_ediv_add_emod (-x) y
  have h2 := Int.emod_nonneg (-x) (show y ≠ 0 by omega)
  have h3 := Int.emod_lt_of_pos (-x) hy
  refine ⟨by omega, by omega, fun h => ?_, fun h => ?_⟩
  · have h4 : x = y * (-((-x) / y)) := by rw [Int.mul_neg]; omega
    have h5 : x % y = 0 := by rw [h4]; exact Int.mul_emod_right _ _
    omega
  · have h4 : x = (y - (-x) % y) + y * (-((-x) / y) - 1) := by rw [Int.mul_sub, Int.mul_neg]; omega
    have h5 : x % y = (y - (-x) % y) := by
      conv => lhs; rw [h4]
      rw [Int.add_mul_emod_self_left]
      exact Int.emod_eq_of_lt (by omega) (by omega)
    omega
section ZX
variable {p : Program} {l : Launch} {e : Env} {R : Room} {s : State} {m : MethodId} {args : Array Value} {below : List Frame} {meth : Method} {c : Code} {H : Heap} {locs : List Loc} {cells slots : Nat} {Q : State → Prop} {cc : ByteArray} {pc : Nat} {ls : Array Slot} {rest : List Value} {D : va_G} {A0 : Nat → Prop} {H0 : Heap} {ws : va_W} {T : List (ClassId × FieldType)} {tgt : Nat} {off : Int}
theorem z_topI {v : Int32} {z : Int} (h : v = zI z) (k : W p l e R s m args below meth c H locs cells slots Q (F0 m pc ls (vI z :: rest))) : W p l e R s m args below meth c H locs cells slots Q (F0 m pc ls (.int v :: rest)) := by rw [h]; exact k
theorem z_topL {v : Int64} {z : Int} (h : v = zL z) (k : W p l e R s m args below meth c H locs cells slots Q (F0 m pc ls (vL z :: rest))) : W p l e R s m args below meth c H locs cells slots Q (F0 m pc ls (.long v :: rest)) := by rw [h]; exact k
/-- ixor, ifge: by the sign of the first, the second above 0 -/
theorem z_ixorge (hx : p.tables.exec = Jvm.exec) (hb : c.code = cc) {x y : Int} (d1 : decode cc pc = .ok (.ixor, 1)) (d2 : decode cc (pc + 1) = .ok (.ifCond .ge off, 3)) (ht : ((pc + 1 : Nat) : Int) + off = (tgt : Int)) (hxr : -2147483648 ≤ x ∧ x < 2147483648) (hy : 0 < y ∧ y < 2147483648)
    (kt : 0 ≤ x → W p l e R s m args below meth c H locs cells slots Q (F0 m tgt ls rest)) (kf : x < 0 → W p l e R s m args below meth c H locs cells slots Q (F0 m (pc + 1 + 3) ls rest)) : W p l e R s m args below meth c H locs cells slots Q (F0 m pc ls (vI y :: vI x :: rest)) := by
  have h0 := zI_xor hxr hy
  have e0 : (0 : Int32) = zI 0 := rfl
  refine lv_ixor hx hb d1 ?_
  refine lv_if_ge hx hb d2 ht (fun h => kt ?_) (fun h => kf ?_) <;> rw [e0] at h
  · refine Int.not_lt.mp (fun hn => ?_)
    have := h0.mpr hn
    first | exact absurd this h | exact absurd this (Int32.not_lt.mpr h)
  · refine h0.mp ?_
    first | exact Int32.not_le.mp h | exact Decidable.not_not.mp h
/-- lxor, lconst 0, lcmp, ifge -/
theorem z_lxorge (hx : p.tables.exec = Jvm.exec) (hb : c.code = cc) {x y : Int} (d1 : decode cc pc = .ok (.lxor, 1)) (d2 : decode cc (pc + 1) = .ok (.lconst 0, 1)) (d3 : decode cc (pc + 1 + 1) = .ok (.lcmp, 1)) (d4 : decode cc (pc + 1 + 1 + 1) = .ok (.ifCond .ge off, 3)) (ht : ((pc + 1 + 1 + 1 : Nat) : Int) + off = (tgt : Int)) (hxr : -9223372036854775808 ≤ x ∧ x < 9223372036854775808) (hy : 0 < y ∧ y < 9223372036854775808)
    (kt : 0 ≤ x → W p l e R s m args below meth c H locs cells slots Q (F0 m tgt ls rest)) (kf : x < 0 → W p l e R s m args below meth c H locs cells slots Q (F0 m (pc + 1 + 1 + 1 + 3) ls rest)) : W p l e R s m args below meth c H locs cells slots Q (F0 m pc ls (vL y :: vL x :: rest)) := by
  have h0 := zL_xor hxr hy
  refine lv_lxor hx hb d1 ?_
  refine z_lconst hx hb (z := 0) d2 (by decide) ?_
  rw [← zL_self (zL x ^^^ zL y)]
  have hr : -9223372036854775808 ≤ (zL x ^^^ zL y).toInt ∧ (zL x ^^^ zL y).toInt < 9223372036854775808 := ⟨Int64.le_toInt _, Int64.toInt_lt _⟩
  have h1 : (zL x ^^^ zL y).toInt < 0 ↔ x < 0 := by rw [← h0, Int64.lt_iff_toInt_lt, zL_toInt (z := 0) (by decide)]
  refine z_lcmp_ge hx hb d3 d4 ht hr (by decide) (fun h => kt ?_) (fun h => kf ?_)
  · refine Int.not_lt.mp (fun hn => ?_)
    have := h1.mpr hn
    omega
  · exact h1.mp h
theorem z_copyi (hx : p.tables.exec = Jvm.exec) (hb : c.code = cc) (hml : c.maxLocals = ls.size) {own : String} {index : Nat} (hown : s.vm.findClass own = some m.cls) (hlink : (Cond.methodLink own index arraycopyName).before args s = true) (hnat : (Cond.native arraycopyName).before args s = true) (hstat : (Cond.static arraycopyName).before args s = true) (hini : (Cond.initialized "java/lang/System").before args s = true)
    {cI : ClassId} (hK : va_K D vwCl T s) (hP : va_P D vwCl ws H) (hD : va_D A0 ws) (hS : va_S A0 H0 H locs) (q0 q1 : Nat) {a0 a1 : Nat} {n0 n1 : Nat} {f g : Int → Int} (ha0 : ws[q0]? = some (a0, .inl (cI, n0, .inl (aI f)))) (ha1 : ws[q1]? = some (a1, .inl (cI, n1, .inl (aI g)))) (ht0 : T[0]? = some (cI, .int)) {n : Int} (h0 : 0 ≤ n ∧ n ≤ n0 ∧ n ≤ n1) (hs : n < 2147483648)
    (hframes : 1 ≤ R.frames) (hlocals : (rest.map fun v => v.category).sum + (nativeFrameWords "java/lang/System" "arraycopy" 5 + 11) ≤ R.locals) (hdg : decode cc pc = .ok (.invokestatic index, 3))
    (kk : ∀ (H1 : Heap) (locs1 : List Loc), va_P D vwCl (ws.set q1 (a1, .inl (cI, n1, .inl (aI (cZ0 f g n))))) H1 → va_D A0 (ws.set q1 (a1, .inl (cI, n1, .inl (aI (cZ0 f g n))))) → va_S A0 H0 H1 locs1 → W p l e R s m args below meth c H1 locs1 cells slots Q (F0 m (pc + 3) ls rest)) : W p l e R s m args below meth c H locs cells slots Q (F0 m pc ls (vI n :: vI 0 :: .ref a1 :: vI 0 :: .ref a0 :: rest)) := by
  have h1 := zI_cl (k := n) ⟨h0.1, hs⟩
  have hz : (zI 0).toNatClampNeg = 0 := rfl
  refine va_copyi hx hb hml hown hlink hnat hstat hini hK hP hD hS q0 q1 0 0 ha0 ha1 ht0 ht0 rfl (by decide) (by decide) ?_ (by rw [hz]; omega) (by rw [hz]; omega) (fun i _ => rfl) hframes hlocals hdg (fun H1 locs1 k1 k2 k3 => ?_)
  · have e0 : (0 : Int32) = zI 0 := rfl
    rw [e0]
    exact mt (zI_lt ⟨by omega, hs⟩ (by decide)).mp (by omega)
  · rw [aI_cpy f g ⟨h0.1, hs⟩] at k1 k2
    exact kk H1 locs1 k1 k2 k3
end ZX
