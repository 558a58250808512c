/-! THE CONSTRUCTORS: rows over a world whose array classes are known from the start -/
def nv_ts (ca : Nat → ClassId) : List (ClassId × FieldType) := [(ca 0, .int), (ca 1, .boolean), (ca 2, .long), (ca 3, .object "FoxGeese$Game"), (ca 4, .object "FoxGeese$Board")]
theorem nv_RA {U : State} {cA cB : ClassId} {ty : FieldType} (h1 : va_RA U cA ty) (h2 : va_RA U cB ty) : cA = cB := by
  cases ty with
  | object C =>
    obtain ⟨_, _, _, _, _, h⟩ := h1
    obtain ⟨_, _, _, _, _, h'⟩ := h2
    exact Option.some.inj (h.symm.trans h')
  | _ =>
    have h1 : U.vm.findClass _ = some cA := h1
    have h2 : U.vm.findClass _ = some cB := h2
    exact Option.some.inj (h1.symm.trans h2)
def nv_n1 : Cond := .methodLinkNest "FoxGeese" 9 ⟨"FoxGeese$Game", "<init>", "()V"⟩ "FoxGeese"
def nv_n2 : Cond := .methodLinkNest "FoxGeese$Game" 20 ⟨"FoxGeese$Told", "<init>", "()V"⟩ "FoxGeese"
def nv_n3 : Cond := .methodLinkNest "FoxGeese" 26 ⟨"FoxGeese$Reader", "<init>", "()V"⟩ "FoxGeese"
def nv_n4 : Cond := .methodLinkNest "FoxGeese$Reader" 17 ⟨"FoxGeese$Game", "<init>", "()V"⟩ "FoxGeese"
def nv_N (U : State) : Prop := va_Nw nv_n1 U ∧ va_Nw nv_n2 U ∧ va_Nw nv_n3 U ∧ va_Nw nv_n4 U ∧ va_AO "FoxGeese$Game" U ∧ va_AO "FoxGeese$Board" U
theorem nv_N.warm {s U : State} (hW : s.WarmedH U.vm) (h : nv_N s) : nv_N U := ⟨h.1.warmM hW, h.2.1.warmM hW, h.2.2.1.warmM hW, h.2.2.2.1.warmM hW, va_AO.moved hW.alike h.2.2.2.2.1, va_AO.moved hW.alike h.2.2.2.2.2⟩
theorem nv_N.same {U V : State} (hv : U.vm = V.vm) (h : nv_N U) : nv_N V := ⟨va_Nw.same (u := U) rfl hv h.1, va_Nw.same (u := U) rfl hv h.2.1, va_Nw.same (u := U) rfl hv h.2.2.1, va_Nw.same (u := U) rfl hv h.2.2.2.1, va_AO.moved (u := U) (by rw [hv]; exact Vm.Alike.refl _) h.2.2.2.2.1, va_AO.moved (u := U) (by rw [hv]; exact Vm.Alike.refl _) h.2.2.2.2.2⟩
def nv_Pre (D : va_G) (ca : Nat → ClassId) (sz : Nat) (wc : va_W) (U : State) : Prop := U.heap.size = sz ∧ va_P D cx_cl wc U.heap ∧ va_K D cx_cl (nv_ts ca) U ∧ va_D (fun _ => True) wc ∧ nv_N U
abbrev nv_Q (D : va_G) (sz : Nat) (wc : va_W) (w1 : (Nat → Nat) → va_W) : Array Value → State → Outcome → State → Prop := va_Qv (fun _ : Nat → Nat => True) (fun u t => va_P D cx_cl (w1 u) t.heap ∧ va_D (va_A wc sz) (w1 u)) (va_A wc sz)
def nv_Met (l : Launch) (D : va_G) (ca : Nat → ClassId) (q : cx_M) (rm : Room) (mc ms : Nat) (av : List Value) (wc : va_W) (w1 : (Nat → Nat) → va_W) : Prop := ∀ sz, Met l q.1 (cx_cd q :: cx_WS) rm (va_Pc av (nv_Pre D ca sz wc)) (nv_Q D sz wc w1) mc ms (va_A wc sz)
theorem nv_blind {D : va_G} {ca : Nat → ClassId} {sz : Nat} {wc : va_W} {av : List Value} : FrameBlind (va_Pc av (nv_Pre D ca sz wc)) := fun a U gf mk h => ⟨h.1, h.2.1, h.2.2.1, va_K.moved (u := U) (U := U.calling gf mk a) (Vm.Alike.refl U.vm) h.2.2.2.1, h.2.2.2.2.1, nv_N.same (U := U) rfl h.2.2.2.2.2⟩
theorem nv_one {D : va_G} {ws : va_W} {H : Heap} {i : Nat} {x : Nat × va_E} (hP : va_P D cx_cl ws H) (he : ws[i]? = some x) : va_P D cx_cl [x] H := by
  intro k q hk
  match k, hk with
  | 0, hk => cases hk; exact hP i _ he
  | k + 1, hk => simp at hk
theorem nv_oneD {x : Nat × va_E} : va_D (fun _ => True) [x] := ⟨fun i j p q hi hj _ => by
  have h1 := (List.getElem?_eq_some_iff.mp hi).1
  have h2 := (List.getElem?_eq_some_iff.mp hj).1
  simp at h1 h2
  omega, fun _ _ _ => trivial⟩
section NV
variable {p : Program} {l : Launch} {e : Env} {R : Room} {s : State} {m : MethodId} {args : Array Value} {below : List Frame} {meth : Method} {c : Code} {H : Heap} {locs : List Loc} {cells slots : Nat} {Q : State → Prop}
variable {cc : ByteArray} {pc : Nat} {ls : Array Slot} {rest : List Value} {D : va_G} {A : Nat → Prop} {ws : va_W} {H0 : Heap} {ca : Nat → ClassId}
theorem nv_newa (hexec : p.tables.exec = Jvm.exec) (hb : c.code = cc) {atype : ArrayType} (harr : (Cond.arrayClass (newarray.typeOf atype)).before args s = true) {ty : FieldType} (hty : newarray.typeOf atype = ty) (hK : va_K D cx_cl (nv_ts ca) s) (t0 : Nat) {cA : ClassId} (ht : (nv_ts ca)[t0]? = some (cA, ty)) (hP : va_P D cx_cl ws H) (hD : va_D A ws) (hS : va_S A H0 H locs) (hA : ∀ q, H0.size ≤ q → A q)
    {n : Int32} {N' : Nat} {a0 : vp_A} (ha : ∀ cA : ClassId, vp_cell cA a0 = arrV cA N' (fun _ => defaultValue ty)) (hn : ¬ n < 0) (hN : n.toNatClampNeg = N') (hbytes : N' * componentBytes ty ≤ 536870912) (hcells : cells + 1 ≤ R.cells) (hslots : slots + N' ≤ R.slots) (hdg : decode cc pc = .ok (.newarray atype, 2))
    (kk : ∀ (q : Nat) (H1 : Heap), va_P D cx_cl (ws ++ [(q, .inl (cA, a0))]) H1 → va_D A (ws ++ [(q, .inl (cA, a0))]) → va_S A H0 H1 locs → W p l e R s m args below meth c H1 locs (cells + 1) (slots + N') Q (F0 m (pc + 2) ls (.ref q :: rest))) : W p l e R s m args below meth c H locs cells slots Q (F0 m pc ls (.int n :: rest)) := by
  refine va_newa hexec hb harr hty hK hP hD hS hA ha hn hN hbytes hcells hslots hdg (fun q cB H1 hK1 hP1 hD1 hS1 => ?_)
  have e : cB = cA := nv_RA (hK1.2 (nv_ts ca).length (cB, ty) (by simp)).2 (hK.2 t0 _ ht).2
  subst e
  exact kk q H1 hP1 hD1 hS1
theorem nv_newq (hexec : p.tables.exec = Jvm.exec) (hb : c.code = cc) {own C : String} {index : Nat} (hown : s.vm.findClass own = some m.cls) (hclink : (Cond.classLink own index C).before args s = true) (hover : va_AO C s) (hK : va_K D cx_cl (nv_ts ca) s) (t0 : Nat) {cA : ClassId} (ht : (nv_ts ca)[t0]? = some (cA, .object C)) (hP : va_P D cx_cl ws H) (hD : va_D A ws) (hS : va_S A H0 H locs) (hA : ∀ q, H0.size ≤ q → A q)
    {n : Int32} {N' : Nat} (hn : ¬ n < 0) (hN : n.toNatClampNeg = N') (hbytes : N' * 4 ≤ 536870912) (hcells : cells + 1 ≤ R.cells) (hslots : slots + N' ≤ R.slots) (hdg : decode cc pc = .ok (.anewarray index, 3))
    (kk : ∀ (q : Nat) (H1 : Heap), va_P D cx_cl (ws ++ [(q, .inl (cA, N', .inr (.inr (.inr (.inr (fun _ => none))))))]) H1 → va_D A (ws ++ [(q, .inl (cA, N', .inr (.inr (.inr (.inr (fun _ => none))))))]) → va_S A H0 H1 locs → W p l e R s m args below meth c H1 locs (cells + 1) (slots + N') Q (F0 m (pc + 3) ls (.ref q :: rest))) : W p l e R s m args below meth c H locs cells slots Q (F0 m pc ls (.int n :: rest)) := by
  refine va_newq hexec hb hown hclink hover hK hP hD hS hA hn hN hbytes hcells hslots hdg (fun q cB H1 hK1 hP1 hD1 hS1 => ?_)
  have e : cB = cA := nv_RA (hK1.2 (nv_ts ca).length (cB, _) (by simp)).2 (hK.2 t0 _ ht).2
  subst e
  exact kk q H1 hP1 hD1 hS1
theorem nv_go {wr : va_W} {x : Nat × va_E} {w1 : (Nat → Nat) → va_W} {a : Array Value} {st0 : List Value} {mc ms : Nat} (hr : va_Run p l e R s m args below meth c H locs cells slots mc ms (F0 m pc ls st0) rest (nv_Q D H.size [x] w1 a) (va_A [x] H.size)) (hP : va_P D cx_cl ws H) (hD : va_D A ws) (hS : va_S A H0 H locs) (hA : ∀ q, H0.size ≤ q → A q) (i : Nat) (isR : List Nat) (he : ws[i]? = some x) (hR : isR.map (fun i => ws[i]?) = wr.map some) (hn : va_nd isR = true) (hdis : ∀ j ∈ isR, j ≠ i)
    (kk : ∀ (u : Nat → Nat) (H1 : Heap) (locs1 : List Loc), va_P D cx_cl (wr ++ w1 u) H1 → va_D A (wr ++ w1 u) → va_S A H0 H1 locs1 → W p l e R s m args below meth c H1 locs1 (cells + mc) (slots + ms) Q (F0 m (pc + 3) ls rest)) : W p l e R s m args below meth c H locs cells slots Q (F0 m pc ls st0) := by
  have hC : [i].map (fun i => ws[i]?) = [x].map some := by simp [he]
  have hF := va_free (wc := [x]) hD hS hA [i] hC
  refine va_callv hr hS (fun q _ h => hF q h) hF (fun u t H1 locs1 ht hvm hw hB hz hk hS1 => ?_)
  obtain ⟨hP1, hD1⟩ := hB
  rw [ht] at hP1
  obtain ⟨hP2, hD2⟩ := va_join hP hD [i] isR hC hR hn (fun j hj => by simpa using hdis j hj) hk hF hP1 hD1
  exact kk u H1 locs1 hP2 hD2 hS1
theorem nv_callN {wr : va_W} {en : va_E} {w1 : (Nat → Nat) → va_W} {y : MethodName} {bytes : ByteArray} {mL nL b idx mc ms : Nat} {rm : Room} {own host : String} (hx : p.tables.exec = Jvm.exec) (hb : c.code = cc) (hml : c.maxLocals = nL) (hown : s.vm.findClass own = some m.cls) (hts : ∀ w ∈ cx_WS, w.before args s = true) (hM : nv_Met l D ca (y, bytes, mL, none) rm mc ms [.ref b] [(b, en)] w1) (hin : y.name = "<init>") (hd : y.cls ≠ "java/lang/invoke/MethodHandle" ∧ y.cls ≠ "java/lang/invoke/VarHandle" ∧ (parseMethodDescriptor y.desc).map (fun d => d.parameters.length) = some 0) (hcd : Cond.code y bytes mL none ∈ cx_WS) (hini : Cond.initialized y.cls ∈ cx_WS) (him : Cond.instanceMethod y ∈ cx_WS) (hne : va_Nw (.methodLinkNest own idx y host) s) (hrc : rm.cells = mc ∧ rm.slots = ms) (hrm : rm.frames + 1 ≤ R.frames ∧ 8 + (mL + 11) + rm.locals ≤ R.locals) (hK : va_K D cx_cl (nv_ts ca) s) (hNN : nv_N s)
    (hP : va_P D cx_cl ws H) (hD : va_D A ws) (hS : va_S A s.heap H locs) (hA : ∀ q, s.heap.size ≤ q → A q) (i : Nat) (isR : List Nat) (he : ws[i]? = some (b, en)) (hR : isR.map (fun i => ws[i]?) = wr.map some) (hn : va_nd isR = true) (hdis : ∀ j ∈ isR, j ≠ i) (hsz : ls.size = nL) (hrest : (rest.map fun v => v.category).sum ≤ 8) (hdg : decode cc pc = .ok (.invokespecial idx, 3)) (hf : cells + mc ≤ R.cells ∧ slots + ms ≤ R.slots)
    (kk : ∀ (u : Nat → Nat) (H1 : Heap) (locs1 : List Loc), va_P D cx_cl (wr ++ w1 u) H1 → va_D A (wr ++ w1 u) → va_S A s.heap H1 locs1 → W p l e R s m args below meth c H1 locs1 (cells + mc) (slots + ms) Q (F0 m (pc + 3) ls rest)) : W p l e R s m args below meth c H locs cells slots Q (F0 m pc ls (.ref b :: rest)) :=
  nv_go (va_runIN (As := []) (rest := rest) ⟨hx, hb, hml, hown, hts⟩ (hM H.size) ⟨va_cnB 0 hts (cx_goodC (q := (y, bytes, mL, none)) hcd) rfl hrc.1 hrc.2 hne (hts _ hini) hd hrm, hin, hts _ him⟩ ⟨nv_blind, fun U hU hW => ⟨rfl, by rw [hU], by rw [hU]; exact nv_one hP he, va_K.moved hW.alike hK, nv_oneD, hNN.warm hW⟩⟩ rfl rfl hsz rfl (lv_room hrest) hdg hf) hP hD hS hA i isR he hR hn hdis kk
theorem nv_callI {wr : va_W} {en : va_E} {w1 : (Nat → Nat) → va_W} {y : MethodName} {bytes : ByteArray} {mL nL b idx mc ms : Nat} {rm : Room} {own : String} (hx : p.tables.exec = Jvm.exec) (hb : c.code = cc) (hml : c.maxLocals = nL) (hown : s.vm.findClass own = some m.cls) (hts : ∀ w ∈ cx_WS, w.before args s = true) (hM : nv_Met l D ca (y, bytes, mL, none) rm mc ms [.ref b] [(b, en)] w1) (hin : y.name = "<init>") (hd : y.cls ≠ "java/lang/invoke/MethodHandle" ∧ y.cls ≠ "java/lang/invoke/VarHandle" ∧ (parseMethodDescriptor y.desc).map (fun d => d.parameters.length) = some 0) (hcd : Cond.code y bytes mL none ∈ cx_WS) (hini : Cond.initialized y.cls ∈ cx_WS) (him : Cond.instanceMethod y ∈ cx_WS) (hlk : Cond.methodLink own idx y ∈ cx_WS) (hrc : rm.cells = mc ∧ rm.slots = ms) (hrm : rm.frames + 1 ≤ R.frames ∧ 8 + (mL + 11) + rm.locals ≤ R.locals) (hK : va_K D cx_cl (nv_ts ca) s) (hNN : nv_N s)
    (hP : va_P D cx_cl ws H) (hD : va_D A ws) (hS : va_S A s.heap H locs) (hA : ∀ q, s.heap.size ≤ q → A q) (i : Nat) (isR : List Nat) (he : ws[i]? = some (b, en)) (hR : isR.map (fun i => ws[i]?) = wr.map some) (hn : va_nd isR = true) (hdis : ∀ j ∈ isR, j ≠ i) (hsz : ls.size = nL) (hrest : (rest.map fun v => v.category).sum ≤ 8) (hdg : decode cc pc = .ok (.invokespecial idx, 3)) (hf : cells + mc ≤ R.cells ∧ slots + ms ≤ R.slots)
    (kk : ∀ (u : Nat → Nat) (H1 : Heap) (locs1 : List Loc), va_P D cx_cl (wr ++ w1 u) H1 → va_D A (wr ++ w1 u) → va_S A s.heap H1 locs1 → W p l e R s m args below meth c H1 locs1 (cells + mc) (slots + ms) Q (F0 m (pc + 3) ls rest)) : W p l e R s m args below meth c H locs cells slots Q (F0 m pc ls (.ref b :: rest)) :=
  nv_go (va_runI (As := []) (rest := rest) ⟨hx, hb, hml, hown, hts⟩ (hM H.size) ⟨callB_of 0 hts (cx_goodC (q := (y, bytes, mL, none)) hcd) rfl hrc.1 hrc.2 (hts _ hini) (hts _ hlk) hd hrm, hin, hts _ him⟩ ⟨nv_blind, fun U hU hW => ⟨rfl, by rw [hU], by rw [hU]; exact nv_one hP he, va_K.moved hW.alike hK, nv_oneD, hNN.warm hW⟩⟩ rfl rfl hsz rfl (lv_room hrest) hdg hf) hP hD hS hA i isR he hR hn hdis kk
theorem nv_callV {wr : va_W} {ci : Nat} {fs : List Value} {r : vw_C} {w1 : (Nat → Nat) → va_W} {y : MethodName} {bytes : ByteArray} {mL nL b idx mc ms : Nat} {x1 x2 : Int32} {rm : Room} {own : String} (hx : p.tables.exec = Jvm.exec) (hb : c.code = cc) (hml : c.maxLocals = nL) (hown : s.vm.findClass own = some m.cls) (hts : ∀ w ∈ cx_WS, w.before args s = true) (hc : cx_cl[ci]? = some r) (hM : nv_Met l D ca (y, bytes, mL, none) rm mc ms [.ref b, .int x1, .int x2] [(b, .inr (ci, fs))] w1) (hd : y.cls ≠ "java/lang/invoke/MethodHandle" ∧ y.cls ≠ "java/lang/invoke/VarHandle" ∧ (parseMethodDescriptor y.desc).map (fun d => d.parameters.length) = some 2) (hcd : Cond.code y bytes mL none ∈ cx_WS) (hini : Cond.initialized y.cls ∈ cx_WS) (him : Cond.instanceMethod y ∈ cx_WS) (hsel : Cond.selects r.1 y y ∈ cx_WS) (hlk : Cond.methodLink own idx y ∈ cx_WS) (hrc : rm.cells = mc ∧ rm.slots = ms) (hrm : rm.frames + 1 ≤ R.frames ∧ 8 + (mL + 11) + rm.locals ≤ R.locals) (hK : va_K D cx_cl (nv_ts ca) s) (hNN : nv_N s)
    (hP : va_P D cx_cl ws H) (hD : va_D A ws) (hS : va_S A s.heap H locs) (hA : ∀ q, s.heap.size ≤ q → A q) (i : Nat) (isR : List Nat) (he : ws[i]? = some (b, .inr (ci, fs))) (hR : isR.map (fun i => ws[i]?) = wr.map some) (hn : va_nd isR = true) (hdis : ∀ j ∈ isR, j ≠ i) (hsz : ls.size = nL) (hrest : (rest.map fun v => v.category).sum ≤ 8) (hdg : decode cc pc = .ok (.invokevirtual idx, 3)) (hf : cells + mc ≤ R.cells ∧ slots + ms ≤ R.slots)
    (kk : ∀ (u : Nat → Nat) (H1 : Heap) (locs1 : List Loc), va_P D cx_cl (wr ++ w1 u) H1 → va_D A (wr ++ w1 u) → va_S A s.heap H1 locs1 → W p l e R s m args below meth c H1 locs1 (cells + mc) (slots + ms) Q (F0 m (pc + 3) ls rest)) : W p l e R s m args below meth c H locs cells slots Q (F0 m pc ls (.int x2 :: .int x1 :: .ref b :: rest)) :=
  nv_go (va_runV (C := r.1) (As := [.int x1, .int x2]) (rest := rest) ⟨hx, hb, hml, hown, hts⟩ (hM H.size) ⟨callB_of 2 hts (cx_goodC (q := (y, bytes, mL, none)) hcd) rfl hrc.1 hrc.2 (hts _ hini) (hts _ hlk) hd hrm, hts _ him, hts _ hsel⟩ ⟨nv_blind, va_recv hK hP hc he, fun U hU hW => ⟨rfl, by rw [hU], by rw [hU]; exact nv_one hP he, va_K.moved hW.alike hK, nv_oneD, hNN.warm hW⟩⟩ rfl rfl hsz rfl (lv_room hrest) hdg hf) hP hD hS hA i isR he hR hn hdis kk
end NV
/-! the worlds that constructors leave -/
def nv_i (ca : Nat → ClassId) (n : Nat) : va_E := .inl (ca 0, n, .inl fun _ => 0)
def nv_b (q1 q2 : Nat) : va_E := .inr (0, [.int 5, .int 5, .int 0, .int 0, .int 24, .int 0, .int 0, .int 0, .ref q1, .ref q2])
def nv_B (ca : Nat → ClassId) (h : Nat) (u : Nat → Nat) : va_W := [(h, nv_b (u 0) (u 1)), (u 0, nv_i ca 4), (u 1, nv_i ca 4)]
def nv_T (ca : Nat → ClassId) (h : Nat) (u : Nat → Nat) : va_W := [(h, .inr (2, [.int 0, .ref (u 0)])), (u 0, nv_i ca 30)]
def nv_G (ca : Nat → ClassId) (h : Nat) (u : Nat → Nat) : va_W := [(h, .inr (1, [.ref (u 0), .ref (u 3), .ref (u 5), .int 0, .ref (u 7)])), (u 0, nv_b (u 1) (u 2)), (u 1, nv_i ca 4), (u 2, nv_i ca 4), (u 3, .inr (2, [.int 0, .ref (u 4)])), (u 4, nv_i ca 30), (u 5, .inr (2, [.int 0, .ref (u 6)])), (u 6, nv_i ca 30), (u 7, nv_i ca 56)]
def nv_R (ca : Nat → ClassId) (h : Nat) (u : Nat → Nat) : va_W := [(h, .inr (3, [.ref (u 0), .int 0, .ref (u 1), .int 0, .int 0, .int 0])), (u 0, nv_i ca 150), (u 1, .inr (1, [.ref (u 2), .ref (u 5), .ref (u 7), .int 0, .ref (u 9)])), (u 2, nv_b (u 3) (u 4)), (u 3, nv_i ca 4), (u 4, nv_i ca 4), (u 5, .inr (2, [.int 0, .ref (u 6)])), (u 6, nv_i ca 30), (u 7, .inr (2, [.int 0, .ref (u 8)])), (u 8, nv_i ca 30), (u 9, nv_i ca 56)]
