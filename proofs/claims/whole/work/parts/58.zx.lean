/-! calls that return or throw, over the pictures; doubles in rows -/
theorem zin13 : Cond.classLink RL 13 "java/lang/IllegalArgumentException" ∈ zBW := List.mem_append_right _ (by decide +kernel)
theorem zca13 : Cond.castable "java/lang/IllegalArgumentException" "java/lang/IllegalArgumentException" ∈ zBW := List.mem_append_right _ (by decide +kernel)
theorem zin22 : Cond.classLink RL 22 "java/lang/IllegalStateException" ∈ zBW := List.mem_append_right _ (by decide +kernel)
theorem zca22 : Cond.castable "java/lang/IllegalStateException" "java/lang/IllegalStateException" ∈ zBW := List.mem_append_right _ (by decide +kernel)
theorem zin28 : Cond.classLink RL 28 "java/lang/IndexOutOfBoundsException" ∈ zBW := List.mem_append_right _ (by decide +kernel)
theorem zca28 : Cond.castable "java/lang/IndexOutOfBoundsException" "java/lang/IndexOutOfBoundsException" ∈ zBW := List.mem_append_right _ (by decide +kernel)
section ZX
variable {p : Program} {l : Launch} {e : Env} {R : Room} {s : State} {m : MethodId} {args : Array Value} {below : List Frame} {meth : Method} {c : Code} {H : Heap} {locs : List Loc} {cells slots : Nat} {Q : State → Prop} {cc : ByteArray} {pc : Nat} {ls : Array Slot} {rest st0 : List Value} {a : Array Value} {D : va_G} {A0 : Nat → Prop} {H0 : Heap} {mc ms : Nat} {ws : va_W} {T : List (ClassId × FieldType)} {t0 : Nat}
abbrev zX {SX : Type} (D : va_G) (CX : String → SX → Prop) (wx : SX → va_W) (A : Nat → Prop) : String → State → State → Prop := vx_X (fun (_ : SX) => True) (fun (E : String) (u : SX) (t : State) => CX E u ∧ va_P D vwCl (wx u) t.heap ∧ va_D A (wx u)) A
theorem z_joinX {w wc : va_W} {H1 : Heap} (hP : va_P D vwCl ws H) (hD : va_D A0 ws) (hF : ∀ q, va_A wc H.size q → A0 q) (isC isR : List Nat) (wr : va_W) (hC : isC.map (fun i => ws[i]?) = wc.map some) (hR : isR.map (fun i => ws[i]?) = wr.map some) (hn : va_nd isR = true) (hdis : ∀ i ∈ isR, i ∉ isC) {t : State} (ht : t.heap = H1) (hB : va_P D vwCl w t.heap ∧ va_D (va_A wc H.size) w)
    (hk : ∀ q : Nat, q < H.size → ¬ va_A wc H.size q → H1[q]? = H[q]?) : va_P D vwCl (wr ++ w) H1 ∧ va_D A0 (wr ++ w) := by
  obtain ⟨hP1, hD1⟩ := hB
  rw [ht] at hP1
  exact va_join hP hD isC isR hC hR hn hdis hk hF hP1 hD1
theorem z_callXi {S SX : Type} {post : Int32 → S → Prop} {w : S → va_W} {CX : String → SX → Prop} {wx : SX → va_W} {wc : va_W} (hP : va_P D vwCl ws H) (hD : va_D A0 ws) (hS : va_S A0 H0 H locs) (hA : ∀ q, H0.size ≤ q → A0 q) (isC isR : List Nat) (wr : va_W) (hC : isC.map (fun i => ws[i]?) = wc.map some) (hR : isR.map (fun i => ws[i]?) = wr.map some) (hn : va_nd isR = true) (hdis : ∀ i ∈ isR, i ∉ isC)
    (hr : vx_Run p l e R s m args below meth c H locs cells slots mc ms (F0 m pc ls st0) rest (va_Qi post (zB D (va_A wc H.size) w) (va_A wc H.size) a) (zX D CX wx (va_A wc H.size)) (va_A wc H.size))
    (kx : ∀ (E : String) (u : SX) (q9 : Addr) (ce : Cell) (H1 : Heap) (locs1 : List Loc), CX E u → va_P D vwCl (wr ++ wx u) H1 → va_D A0 (wr ++ wx u) → va_S A0 H0 H1 locs1 → H1[q9]? = some ce → ce.vm = .none → s.vm.findClass E = some ce.cls → vx_W p l e R s m args below meth c H1 locs1 (cells + mc) (slots + ms) Q (F0 m pc ls rest) q9)
    (kk : ∀ (r : Int32) (u : S) (H1 : Heap) (locs1 : List Loc), post r u → va_P D vwCl (wr ++ w u) H1 → va_D A0 (wr ++ w u) → va_S A0 H0 H1 locs1 → W p l e R s m args below meth c H1 locs1 (cells + mc) (slots + ms) Q (F0 m (pc + 3) ls (.int r :: rest))) : W p l e R s m args below meth c H locs cells slots Q (F0 m pc ls st0) := by
  have hF := va_free (wc := wc) hD hS hA isC hC
  refine vx_calli hr hS (fun q _ h => hF q h) hF (fun q _ h => hF q h) (fun E ce q9 u t H1 locs1 ht hvm _ hB hz1 hk1 hS1 hce hcv hcl => ?_) (fun r u t H1 locs1 ht hvm hw hB hz1 hk1 hS1 => ?_)
  · obtain ⟨h1, h2⟩ := z_joinX hP hD hF isC isR wr hC hR hn hdis ht hB.2 hk1
    exact kx E u q9 ce H1 locs1 hB.1 h1 h2 hS1 hce hcv hcl
  · obtain ⟨h1, h2⟩ := z_join hP hD hF isC isR wr hC hR hn hdis ht hB hk1
    exact kk r u H1 locs1 hw h1 h2 hS1
theorem z_callXl {S SX : Type} {post : Int64 → S → Prop} {w : S → va_W} {CX : String → SX → Prop} {wx : SX → va_W} {wc : va_W} (hP : va_P D vwCl ws H) (hD : va_D A0 ws) (hS : va_S A0 H0 H locs) (hA : ∀ q, H0.size ≤ q → A0 q) (isC isR : List Nat) (wr : va_W) (hC : isC.map (fun i => ws[i]?) = wc.map some) (hR : isR.map (fun i => ws[i]?) = wr.map some) (hn : va_nd isR = true) (hdis : ∀ i ∈ isR, i ∉ isC)
    (hr : vx_Run p l e R s m args below meth c H locs cells slots mc ms (F0 m pc ls st0) rest (va_Ql post (zB D (va_A wc H.size) w) (va_A wc H.size) a) (zX D CX wx (va_A wc H.size)) (va_A wc H.size))
    (kx : ∀ (E : String) (u : SX) (q9 : Addr) (ce : Cell) (H1 : Heap) (locs1 : List Loc), CX E u → va_P D vwCl (wr ++ wx u) H1 → va_D A0 (wr ++ wx u) → va_S A0 H0 H1 locs1 → H1[q9]? = some ce → ce.vm = .none → s.vm.findClass E = some ce.cls → vx_W p l e R s m args below meth c H1 locs1 (cells + mc) (slots + ms) Q (F0 m pc ls rest) q9)
    (kk : ∀ (r : Int64) (u : S) (H1 : Heap) (locs1 : List Loc), post r u → va_P D vwCl (wr ++ w u) H1 → va_D A0 (wr ++ w u) → va_S A0 H0 H1 locs1 → W p l e R s m args below meth c H1 locs1 (cells + mc) (slots + ms) Q (F0 m (pc + 3) ls (.long r :: rest))) : W p l e R s m args below meth c H locs cells slots Q (F0 m pc ls st0) := by
  have hF := va_free (wc := wc) hD hS hA isC hC
  refine vx_calll hr hS (fun q _ h => hF q h) hF (fun q _ h => hF q h) (fun E ce q9 u t H1 locs1 ht hvm _ hB hz1 hk1 hS1 hce hcv hcl => ?_) (fun r u t H1 locs1 ht hvm hw hB hz1 hk1 hS1 => ?_)
  · obtain ⟨h1, h2⟩ := z_joinX hP hD hF isC isR wr hC hR hn hdis ht hB.2 hk1
    exact kx E u q9 ce H1 locs1 hB.1 h1 h2 hS1 hce hcv hcl
  · obtain ⟨h1, h2⟩ := z_join hP hD hF isC isR wr hC hR hn hdis ht hB hk1
    exact kk r u H1 locs1 hw h1 h2 hS1
theorem z_callXf {S SX : Type} {post : UInt32 → S → Prop} {w : S → va_W} {CX : String → SX → Prop} {wx : SX → va_W} {wc : va_W} (hP : va_P D vwCl ws H) (hD : va_D A0 ws) (hS : va_S A0 H0 H locs) (hA : ∀ q, H0.size ≤ q → A0 q) (isC isR : List Nat) (wr : va_W) (hC : isC.map (fun i => ws[i]?) = wc.map some) (hR : isR.map (fun i => ws[i]?) = wr.map some) (hn : va_nd isR = true) (hdis : ∀ i ∈ isR, i ∉ isC)
    (hr : vx_Run p l e R s m args below meth c H locs cells slots mc ms (F0 m pc ls st0) rest (va_Qf post (zB D (va_A wc H.size) w) (va_A wc H.size) a) (zX D CX wx (va_A wc H.size)) (va_A wc H.size))
    (kx : ∀ (E : String) (u : SX) (q9 : Addr) (ce : Cell) (H1 : Heap) (locs1 : List Loc), CX E u → va_P D vwCl (wr ++ wx u) H1 → va_D A0 (wr ++ wx u) → va_S A0 H0 H1 locs1 → H1[q9]? = some ce → ce.vm = .none → s.vm.findClass E = some ce.cls → vx_W p l e R s m args below meth c H1 locs1 (cells + mc) (slots + ms) Q (F0 m pc ls rest) q9)
    (kk : ∀ (r : UInt32) (u : S) (H1 : Heap) (locs1 : List Loc), post r u → va_P D vwCl (wr ++ w u) H1 → va_D A0 (wr ++ w u) → va_S A0 H0 H1 locs1 → W p l e R s m args below meth c H1 locs1 (cells + mc) (slots + ms) Q (F0 m (pc + 3) ls (.float r :: rest))) : W p l e R s m args below meth c H locs cells slots Q (F0 m pc ls st0) := by
  have hF := va_free (wc := wc) hD hS hA isC hC
  refine vx_callf hr hS (fun q _ h => hF q h) hF (fun q _ h => hF q h) (fun E ce q9 u t H1 locs1 ht hvm _ hB hz1 hk1 hS1 hce hcv hcl => ?_) (fun r u t H1 locs1 ht hvm hw hB hz1 hk1 hS1 => ?_)
  · obtain ⟨h1, h2⟩ := z_joinX hP hD hF isC isR wr hC hR hn hdis ht hB.2 hk1
    exact kx E u q9 ce H1 locs1 hB.1 h1 h2 hS1 hce hcv hcl
  · obtain ⟨h1, h2⟩ := z_join hP hD hF isC isR wr hC hR hn hdis ht hB hk1
    exact kk r u H1 locs1 hw h1 h2 hS1
theorem z_callXv {S SX : Type} {post : S → Prop} {w : S → va_W} {CX : String → SX → Prop} {wx : SX → va_W} {wc : va_W} (hP : va_P D vwCl ws H) (hD : va_D A0 ws) (hS : va_S A0 H0 H locs) (hA : ∀ q, H0.size ≤ q → A0 q) (isC isR : List Nat) (wr : va_W) (hC : isC.map (fun i => ws[i]?) = wc.map some) (hR : isR.map (fun i => ws[i]?) = wr.map some) (hn : va_nd isR = true) (hdis : ∀ i ∈ isR, i ∉ isC)
    (hr : vx_Run p l e R s m args below meth c H locs cells slots mc ms (F0 m pc ls st0) rest (va_Qv post (zB D (va_A wc H.size) w) (va_A wc H.size) a) (zX D CX wx (va_A wc H.size)) (va_A wc H.size))
    (kx : ∀ (E : String) (u : SX) (q9 : Addr) (ce : Cell) (H1 : Heap) (locs1 : List Loc), CX E u → va_P D vwCl (wr ++ wx u) H1 → va_D A0 (wr ++ wx u) → va_S A0 H0 H1 locs1 → H1[q9]? = some ce → ce.vm = .none → s.vm.findClass E = some ce.cls → vx_W p l e R s m args below meth c H1 locs1 (cells + mc) (slots + ms) Q (F0 m pc ls rest) q9)
    (kk : ∀ (u : S) (H1 : Heap) (locs1 : List Loc), post u → va_P D vwCl (wr ++ w u) H1 → va_D A0 (wr ++ w u) → va_S A0 H0 H1 locs1 → W p l e R s m args below meth c H1 locs1 (cells + mc) (slots + ms) Q (F0 m (pc + 3) ls (rest))) : W p l e R s m args below meth c H locs cells slots Q (F0 m pc ls st0) := by
  have hF := va_free (wc := wc) hD hS hA isC hC
  refine vx_callv hr hS (fun q _ h => hF q h) hF (fun q _ h => hF q h) (fun E ce q9 u t H1 locs1 ht hvm _ hB hz1 hk1 hS1 hce hcv hcl => ?_) (fun u t H1 locs1 ht hvm hw hB hz1 hk1 hS1 => ?_)
  · obtain ⟨h1, h2⟩ := z_joinX hP hD hF isC isR wr hC hR hn hdis ht hB.2 hk1
    exact kx E u q9 ce H1 locs1 hB.1 h1 h2 hS1 hce hcv hcl
  · obtain ⟨h1, h2⟩ := z_join hP hD hF isC isR wr hC hR hn hdis ht hB hk1
    exact kk u H1 locs1 hw h1 h2 hS1
def wI (x : Int) : Int := (zI x).toInt
theorem z_i2lw (hx : p.tables.exec = Jvm.exec) (hb : c.code = cc) {x : Int} (hdg : decode cc pc = .ok (.i2l, 1))
    (k : W p l e R s m args below meth c H locs cells slots Q (F0 m (pc + 1) ls (vL (wI x) :: rest))) : W p l e R s m args below meth c H locs cells slots Q (F0 m pc ls (vI x :: rest)) := by
  have e : (zI x).toInt64 = zL (wI x) := by
    show (zI x).toInt64 = Int64.ofInt (zI x).toInt
    rw [← Int32.toInt_toInt64, Int64.ofInt_toInt]
  exact lv_i2l hx hb hdg e k
theorem z_dast (hx : p.tables.exec = Jvm.exec) (hb : c.code = cc) (hK : va_K D vwCl T s) (hP : va_P D vwCl ws H) (hD : va_D A0 ws) (hS : va_S A0 H0 H locs) (q0 t0 : Nat) {cA : ClassId} {b : Nat} {f : Nat → UInt64} {x : UInt64} (ha : ws[q0]? = some (b, .inl (cA, 1, .inr (.inr (.inr (.inl f)))))) (ht : T[t0]? = some (cA, .double)) (hdg : decode cc pc = .ok (.dastore, 1))
    (k : ∀ (H1 : Heap) (locs1 : List Loc), va_P D vwCl (ws.set q0 (b, .inl (cA, 1, .inr (.inr (.inr (.inl (vf_upd f 0 x))))))) H1 → va_D A0 (ws.set q0 (b, .inl (cA, 1, .inr (.inr (.inr (.inl (vf_upd f 0 x))))))) → va_S A0 H0 H1 locs1 → W p l e R s m args below meth c H1 locs1 cells slots Q (F0 m (pc + 1) ls rest)) : W p l e R s m args below meth c H locs cells slots Q (F0 m pc ls (.double x :: vI 0 :: .ref b :: rest)) :=
  va_dast hx hb hK hP hD hS q0 t0 ha ht (i := zI 0) (zI_in (n := 1) (by omega) (by decide)) hdg k
theorem z_dald (hx : p.tables.exec = Jvm.exec) (hb : c.code = cc) (hK : va_K D vwCl T s) (hP : va_P D vwCl ws H) (q0 t0 : Nat) {cA : ClassId} {b : Nat} {f : Nat → UInt64} (ha : ws[q0]? = some (b, .inl (cA, 1, .inr (.inr (.inr (.inl f)))))) (ht : T[t0]? = some (cA, .double)) (hdg : decode cc pc = .ok (.daload, 1))
    (k : W p l e R s m args below meth c H locs cells slots Q (F0 m (pc + 1) ls (.double (f 0) :: rest))) : W p l e R s m args below meth c H locs cells slots Q (F0 m pc ls (vI 0 :: .ref b :: rest)) :=
  va_dald hx hb hK hP q0 t0 ha ht (i := zI 0) (zI_in (n := 1) (by omega) (by decide)) hdg k
end ZX
