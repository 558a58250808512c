/-! SOUNDNESS of each instruction -/
def cx_nest1 : Cond := .methodLinkNest "FoxGeese$Reader" 75 ⟨"FoxGeese", "isSide", "(I)Z"⟩ "FoxGeese"
def cx_nest2 : Cond := .methodLinkNest "FoxGeese$Reader" 94 ⟨"FoxGeese", "isKind", "(I)Z"⟩ "FoxGeese"
def cx_txk : List (Nat × String) := [(135, "field"), (141, "thicket"), (143, "fox"), (145, "goose"), (147, "go"), (149, "move"), (151, "pass")]
/-- what never changes -/
def cx_PC (g : cx_G) (A : Nat → Prop) (U : State) : Prop :=
  va_K g.2.2.2.1 cx_cl (cx_ts g) U ∧ vk_S 7 ab_tlen ab_tx g.2.1 g.2.2.1 A U U.heap ∧ va_Z "java/lang/String" "COMPACT_STRINGS" "Z" (.int 1) A U U.heap ∧
  va_Z "jdk/internal/util/Preconditions" "SIOOBE_FORMATTER" "Ljava/util/function/BiFunction;" g.2.2.2.2.2 A U U.heap ∧ (∀ j q, cx_txk[j]? = some q → vk_R "FoxGeese$Reader" q.1 q.2 (g.2.1 j) U) ∧
  va_Nw cx_nest1 U ∧ va_Nw cx_nest2 U ∧ g.2.2.2.2.2.category = 1
def cx_X (g : cx_G) (p : Program) (Rm : Room) (s : State) (m : MethodId) (args : Array Value) (c : Code) (A : Nat → Prop) (cc : ByteArray) (n d : Nat) (own : String) (cells slots : Nat) : Prop :=
  p.tables.exec = Jvm.exec ∧ c.code = cc ∧ c.maxLocals = n ∧ s.vm.findClass own = some m.cls ∧ (∀ w ∈ cx_WS, w.before args s = true) ∧ cx_PC g A s ∧ (∀ k, k < 64 → A (cx_ad g k)) ∧ (d + 1 ≤ Rm.frames ∧ 60 * (d + 1) ≤ Rm.locals) ∧ (cells ≤ Rm.cells ∧ slots ≤ Rm.slots)
section SN
variable {g : cx_G} {p : Program} {l : Launch} {e : Env} {Rm : Room} {s : State} {m : MethodId} {args : Array Value} {below : List Frame} {meth : Method} {c : Code} {A : Nat → Prop} {cc : ByteArray} {n d : Nat} {own : String} {cells slots : Nat} {Q : State → Prop}
/-- the machine itself, at a state of the abstract one -/
def cx_W (g : cx_G) (p : Program) (l : Launch) (e : Env) (Rm : Room) (s : State) (m : MethodId) (args : Array Value) (below : List Frame) (meth : Method) (c : Code) (A : Nat → Prop) (n cells slots : Nat) (Q : State → Prop) : ab_K := fun pc ls st σ =>
  ∀ (H : Heap) (locs : List Loc) (la : Array Slot), va_P g.2.2.2.1 cx_cl (cx_w g σ) H → va_S A s.heap H locs → cx_LV g la n ls → W p l e Rm s m args below meth c H locs cells slots Q (F0 m pc la (st.map (cx_v g)))
variable {pc : Nat} {ls : ab_L} {st : List Value} {σ : ab_S} {k : ab_O}
theorem cx_W.weak {pc : Nat} {a b : ab_L} {st : List Value} {σ : ab_S} (h : ab_wk a b) (hw : cx_W g p l e Rm s m args below meth c A n cells slots Q pc a st σ) : cx_W g p l e Rm s m args below meth c A n cells slots Q pc b st σ := fun H locs la hP hS hL => hw H locs la hP hS (hL.wk h)
theorem sn_iconst (X : cx_X g p Rm s m args c A cc n d own cells slots) {v : Int} {x : Int32} (hd : decode cc pc = .ok (.iconst v, 1)) (hv : Int32.ofInt v = x) (h : op_const (.int x) ls st σ k) (hk : ∀ ls st σ, k ls st σ → cx_W g p l e Rm s m args below meth c A n cells slots Q (pc + 1) ls st σ) : cx_W g p l e Rm s m args below meth c A n cells slots Q pc ls st σ :=
  fun H locs la hP hS hL => lv_iconst X.1 X.2.1 hd hv (hk _ _ _ h H locs la hP hS hL)
theorem sn_bipush (X : cx_X g p Rm s m args c A cc n d own cells slots) {v : Int} {x : Int32} (hd : decode cc pc = .ok (.bipush v, 2)) (hv : (Int8.ofInt v).toInt32 = x) (h : op_const (.int x) ls st σ k) (hk : ∀ ls st σ, k ls st σ → cx_W g p l e Rm s m args below meth c A n cells slots Q (pc + 2) ls st σ) : cx_W g p l e Rm s m args below meth c A n cells slots Q pc ls st σ :=
  fun H locs la hP hS hL => lv_bipush X.1 X.2.1 hd hv (hk _ _ _ h H locs la hP hS hL)
theorem sn_sipush (X : cx_X g p Rm s m args c A cc n d own cells slots) {v : Int} {x : Int32} (hd : decode cc pc = .ok (.sipush v, 3)) (hv : (Int16.ofInt v).toInt32 = x) (h : op_const (.int x) ls st σ k) (hk : ∀ ls st σ, k ls st σ → cx_W g p l e Rm s m args below meth c A n cells slots Q (pc + 3) ls st σ) : cx_W g p l e Rm s m args below meth c A n cells slots Q pc ls st σ :=
  fun H locs la hP hS hL => lv_sipush X.1 X.2.1 hd hv (hk _ _ _ h H locs la hP hS hL)
theorem sn_lconst (X : cx_X g p Rm s m args c A cc n d own cells slots) {v : Fin 2} {x : Int64} (hd : decode cc pc = .ok (.lconst v, 1)) (hv : Int64.ofNat (v : Nat) = x) (h : op_const (.long x) ls st σ k) (hk : ∀ ls st σ, k ls st σ → cx_W g p l e Rm s m args below meth c A n cells slots Q (pc + 1) ls st σ) : cx_W g p l e Rm s m args below meth c A n cells slots Q pc ls st σ :=
  fun H locs la hP hS hL => lv_lconst X.1 X.2.1 hd hv (hk _ _ _ h H locs la hP hS hL)
theorem sn_ldc (X : cx_X g p Rm s m args c A cc n d own cells slots) {i : Nat} {x : Int32} (hd : decode cc pc = .ok (.ldc i, 2)) (hw : Cond.constant own i x ∈ cx_WS) (h : op_const (.int x) ls st σ k) (hk : ∀ ls st σ, k ls st σ → cx_W g p l e Rm s m args below meth c A n cells slots Q (pc + 2) ls st σ) : cx_W g p l e Rm s m args below meth c A n cells slots Q pc ls st σ :=
  fun H locs la hP hS hL => lv_ldc X.1 X.2.1 X.2.2.2.1 (X.2.2.2.2.1 _ hw) hd (hk _ _ _ h H locs la hP hS hL)
theorem sn_ldcw (X : cx_X g p Rm s m args c A cc n d own cells slots) {i : Nat} {x : Int32} (hd : decode cc pc = .ok (.ldc_w i, 3)) (hw : Cond.constant own i x ∈ cx_WS) (h : op_const (.int x) ls st σ k) (hk : ∀ ls st σ, k ls st σ → cx_W g p l e Rm s m args below meth c A n cells slots Q (pc + 3) ls st σ) : cx_W g p l e Rm s m args below meth c A n cells slots Q pc ls st σ :=
  fun H locs la hP hS hL => lv_ldcw X.1 X.2.1 X.2.2.2.1 (X.2.2.2.2.1 _ hw) hd (hk _ _ _ h H locs la hP hS hL)
theorem sn_ldc2 (X : cx_X g p Rm s m args c A cc n d own cells slots) {i : Nat} {x : Int64} (hd : decode cc pc = .ok (.ldc2_w i, 3)) (hw : Cond.constantLong own i x ∈ cx_WS) (h : op_const (.long x) ls st σ k) (hk : ∀ ls st σ, k ls st σ → cx_W g p l e Rm s m args below meth c A n cells slots Q (pc + 3) ls st σ) : cx_W g p l e Rm s m args below meth c A n cells slots Q pc ls st σ :=
  fun H locs la hP hS hL => lv_ldc2 X.1 X.2.1 X.2.2.2.1 (X.2.2.2.2.1 _ hw) hd (hk _ _ _ h H locs la hP hS hL)
theorem sn_iload_n (X : cx_X g p Rm s m args c A cc n d own cells slots) {i : Fin 4} (hd : decode cc pc = .ok (.iload_n i, 1)) (h : op_iload i.val ls st σ k) (hk : ∀ ls st σ, k ls st σ → cx_W g p l e Rm s m args below meth c A n cells slots Q (pc + 1) ls st σ) : cx_W g p l e Rm s m args below meth c A n cells slots Q pc ls st σ := by
  intro H locs la hP hS hL
  unfold op_iload at h
  split at h
  · next x hx => exact lv_iload_n X.1 X.2.1 hd rfl (hL.2.2 _ _ hx) (hk _ _ _ h H locs la hP hS hL)
  · exact h.elim
theorem sn_iload (X : cx_X g p Rm s m args c A cc n d own cells slots) {i : Nat} (hd : decode cc pc = .ok (.iload i, 2)) (h : op_iload i ls st σ k) (hk : ∀ ls st σ, k ls st σ → cx_W g p l e Rm s m args below meth c A n cells slots Q (pc + 2) ls st σ) : cx_W g p l e Rm s m args below meth c A n cells slots Q pc ls st σ := by
  intro H locs la hP hS hL
  unfold op_iload at h
  split at h
  · next x hx => exact lv_iload X.1 X.2.1 hd (hL.2.2 _ _ hx) (hk _ _ _ h H locs la hP hS hL)
  · exact h.elim
theorem sn_lload_n (X : cx_X g p Rm s m args c A cc n d own cells slots) {i : Fin 4} (hd : decode cc pc = .ok (.lload_n i, 1)) (h : op_lload i.val ls st σ k) (hk : ∀ ls st σ, k ls st σ → cx_W g p l e Rm s m args below meth c A n cells slots Q (pc + 1) ls st σ) : cx_W g p l e Rm s m args below meth c A n cells slots Q pc ls st σ := by
  intro H locs la hP hS hL
  unfold op_lload at h
  split at h
  · next x hx => exact lv_lload_n X.1 X.2.1 hd rfl (hL.2.2 _ _ hx) (hk _ _ _ h H locs la hP hS hL)
  · exact h.elim
theorem sn_lload (X : cx_X g p Rm s m args c A cc n d own cells slots) {i : Nat} (hd : decode cc pc = .ok (.lload i, 2)) (h : op_lload i ls st σ k) (hk : ∀ ls st σ, k ls st σ → cx_W g p l e Rm s m args below meth c A n cells slots Q (pc + 2) ls st σ) : cx_W g p l e Rm s m args below meth c A n cells slots Q pc ls st σ := by
  intro H locs la hP hS hL
  unfold op_lload at h
  split at h
  · next x hx => exact lv_lload X.1 X.2.1 hd (hL.2.2 _ _ hx) (hk _ _ _ h H locs la hP hS hL)
  · exact h.elim
theorem sn_aload_n (X : cx_X g p Rm s m args c A cc n d own cells slots) {i : Fin 4} (hd : decode cc pc = .ok (.aload_n i, 1)) (h : op_aload i.val ls st σ k) (hk : ∀ ls st σ, k ls st σ → cx_W g p l e Rm s m args below meth c A n cells slots Q (pc + 1) ls st σ) : cx_W g p l e Rm s m args below meth c A n cells slots Q pc ls st σ := by
  intro H locs la hP hS hL
  unfold op_aload at h
  split at h
  · next x hx => exact lv_aload_n X.1 X.2.1 hd rfl (hL.2.2 _ _ hx) (hk _ _ _ h H locs la hP hS hL)
  · exact h.elim
theorem sn_aload (X : cx_X g p Rm s m args c A cc n d own cells slots) {i : Nat} (hd : decode cc pc = .ok (.aload i, 2)) (h : op_aload i ls st σ k) (hk : ∀ ls st σ, k ls st σ → cx_W g p l e Rm s m args below meth c A n cells slots Q (pc + 2) ls st σ) : cx_W g p l e Rm s m args below meth c A n cells slots Q pc ls st σ := by
  intro H locs la hP hS hL
  unfold op_aload at h
  split at h
  · next x hx => exact lv_aload X.1 X.2.1 hd (hL.2.2 _ _ hx) (hk _ _ _ h H locs la hP hS hL)
  · exact h.elim
theorem sn_istore_n (X : cx_X g p Rm s m args c A cc n d own cells slots) {i : Fin 4} (hd : decode cc pc = .ok (.istore_n i, 1)) (hn : i.val < n) (h : op_istore i.val ls st σ k) (hk : ∀ ls st σ, k ls st σ → cx_W g p l e Rm s m args below meth c A n cells slots Q (pc + 1) ls st σ) : cx_W g p l e Rm s m args below meth c A n cells slots Q pc ls st σ := by
  intro H locs la hP hS hL
  unfold op_istore at h
  split at h
  · exact lv_istore_n X.1 X.2.1 hd rfl hL.has hn rfl (fun la' hl => hk _ _ _ h H locs la' hP hS (cx_LV.st1 (v := .int _) X.2.2.2.2.2.1.2.2.2.2.2.2.2 hl))
  · exact h.elim
theorem sn_istore (X : cx_X g p Rm s m args c A cc n d own cells slots) {i : Nat} (hd : decode cc pc = .ok (.istore i, 2)) (hn : i < n) (h : op_istore i ls st σ k) (hk : ∀ ls st σ, k ls st σ → cx_W g p l e Rm s m args below meth c A n cells slots Q (pc + 2) ls st σ) : cx_W g p l e Rm s m args below meth c A n cells slots Q pc ls st σ := by
  intro H locs la hP hS hL
  unfold op_istore at h
  split at h
  · exact lv_istore X.1 X.2.1 hd hL.has hn rfl (fun la' hl => hk _ _ _ h H locs la' hP hS (cx_LV.st1 (v := .int _) X.2.2.2.2.2.1.2.2.2.2.2.2.2 hl))
  · exact h.elim
theorem sn_lstore_n (X : cx_X g p Rm s m args c A cc n d own cells slots) {i : Fin 4} (hd : decode cc pc = .ok (.lstore_n i, 1)) (hn : i.val + 1 < n) (h : op_lstore i.val ls st σ k) (hk : ∀ ls st σ, k ls st σ → cx_W g p l e Rm s m args below meth c A n cells slots Q (pc + 1) ls st σ) : cx_W g p l e Rm s m args below meth c A n cells slots Q pc ls st σ := by
  intro H locs la hP hS hL
  unfold op_lstore at h
  split at h
  · exact lv_lstore_n X.1 X.2.1 hd rfl hL.has hn rfl (fun la' hl => hk _ _ _ h H locs la' hP hS (cx_LV.st2 (v := .long _) X.2.2.2.2.2.1.2.2.2.2.2.2.2 hl))
  · exact h.elim
theorem sn_lstore (X : cx_X g p Rm s m args c A cc n d own cells slots) {i : Nat} (hd : decode cc pc = .ok (.lstore i, 2)) (hn : i + 1 < n) (h : op_lstore i ls st σ k) (hk : ∀ ls st σ, k ls st σ → cx_W g p l e Rm s m args below meth c A n cells slots Q (pc + 2) ls st σ) : cx_W g p l e Rm s m args below meth c A n cells slots Q pc ls st σ := by
  intro H locs la hP hS hL
  unfold op_lstore at h
  split at h
  · exact lv_lstore X.1 X.2.1 hd hL.has hn rfl (fun la' hl => hk _ _ _ h H locs la' hP hS (cx_LV.st2 (v := .long _) X.2.2.2.2.2.1.2.2.2.2.2.2.2 hl))
  · exact h.elim
theorem sn_astore_n (X : cx_X g p Rm s m args c A cc n d own cells slots) {i : Fin 4} (hd : decode cc pc = .ok (.astore_n i, 1)) (hn : i.val < n) (h : op_astore i.val ls st σ k) (hk : ∀ ls st σ, k ls st σ → cx_W g p l e Rm s m args below meth c A n cells slots Q (pc + 1) ls st σ) : cx_W g p l e Rm s m args below meth c A n cells slots Q pc ls st σ := by
  intro H locs la hP hS hL
  unfold op_astore at h
  split at h
  · exact lv_astore_n X.1 X.2.1 hd rfl hL.has hn rfl (fun la' hl => hk _ _ _ h H locs la' hP hS (cx_LV.st1 (v := .ref _) X.2.2.2.2.2.1.2.2.2.2.2.2.2 hl))
  · exact h.elim
theorem sn_astore (X : cx_X g p Rm s m args c A cc n d own cells slots) {i : Nat} (hd : decode cc pc = .ok (.astore i, 2)) (hn : i < n) (h : op_astore i ls st σ k) (hk : ∀ ls st σ, k ls st σ → cx_W g p l e Rm s m args below meth c A n cells slots Q (pc + 2) ls st σ) : cx_W g p l e Rm s m args below meth c A n cells slots Q pc ls st σ := by
  intro H locs la hP hS hL
  unfold op_astore at h
  split at h
  · exact lv_astore X.1 X.2.1 hd hL.has hn rfl (fun la' hl => hk _ _ _ h H locs la' hP hS (cx_LV.st1 (v := .ref _) X.2.2.2.2.2.1.2.2.2.2.2.2.2 hl))
  · exact h.elim
theorem sn_iinc (X : cx_X g p Rm s m args c A cc n d own cells slots) {i : Nat} {v : Int} {x : Int32} (hd : decode cc pc = .ok (.iinc i v, 3)) (hn : i < n) (hv : Int32.ofInt v = x) (h : op_iinc i x ls st σ k) (hk : ∀ ls st σ, k ls st σ → cx_W g p l e Rm s m args below meth c A n cells slots Q (pc + 3) ls st σ) : cx_W g p l e Rm s m args below meth c A n cells slots Q pc ls st σ := by
  intro H locs la hP hS hL
  unfold op_iinc at h
  split at h
  · next y hy =>
    obtain ⟨j, hj⟩ := cx_pr_at (g := g) hy
    exact lv_iinc X.1 X.2.1 hd hL.has hj rfl hn rfl (fun la' hl => hk _ _ _ h H locs la' hP hS (cx_LV.st1 (v := .int _) X.2.2.2.2.2.1.2.2.2.2.2.2.2 (by rw [hv] at hl; exact hl)))
  · exact h.elim
theorem sn_iadd (X : cx_X g p Rm s m args c A cc n d own cells slots) (hd : decode cc pc = .ok (.iadd, 1)) (h : op_ibin (fun x y => x + y) ls st σ k) (hk : ∀ ls st σ, k ls st σ → cx_W g p l e Rm s m args below meth c A n cells slots Q (pc + 1) ls st σ) : cx_W g p l e Rm s m args below meth c A n cells slots Q pc ls st σ := by
  intro H locs la hP hS hL
  unfold op_ibin at h
  split at h
  · exact lv_iadd X.1 X.2.1 hd (hk _ _ _ h H locs la hP hS hL)
  · exact h.elim
theorem sn_isub (X : cx_X g p Rm s m args c A cc n d own cells slots) (hd : decode cc pc = .ok (.isub, 1)) (h : op_ibin (fun x y => x - y) ls st σ k) (hk : ∀ ls st σ, k ls st σ → cx_W g p l e Rm s m args below meth c A n cells slots Q (pc + 1) ls st σ) : cx_W g p l e Rm s m args below meth c A n cells slots Q pc ls st σ := by
  intro H locs la hP hS hL
  unfold op_ibin at h
  split at h
  · exact lv_isub X.1 X.2.1 hd (hk _ _ _ h H locs la hP hS hL)
  · exact h.elim
theorem sn_imul (X : cx_X g p Rm s m args c A cc n d own cells slots) (hd : decode cc pc = .ok (.imul, 1)) (h : op_ibin (fun x y => x * y) ls st σ k) (hk : ∀ ls st σ, k ls st σ → cx_W g p l e Rm s m args below meth c A n cells slots Q (pc + 1) ls st σ) : cx_W g p l e Rm s m args below meth c A n cells slots Q pc ls st σ := by
  intro H locs la hP hS hL
  unfold op_ibin at h
  split at h
  · exact lv_imul X.1 X.2.1 hd (hk _ _ _ h H locs la hP hS hL)
  · exact h.elim
theorem sn_iand (X : cx_X g p Rm s m args c A cc n d own cells slots) (hd : decode cc pc = .ok (.iand, 1)) (h : op_ibin (fun x y => x &&& y) ls st σ k) (hk : ∀ ls st σ, k ls st σ → cx_W g p l e Rm s m args below meth c A n cells slots Q (pc + 1) ls st σ) : cx_W g p l e Rm s m args below meth c A n cells slots Q pc ls st σ := by
  intro H locs la hP hS hL
  unfold op_ibin at h
  split at h
  · exact lv_iand X.1 X.2.1 hd (hk _ _ _ h H locs la hP hS hL)
  · exact h.elim
theorem sn_ior (X : cx_X g p Rm s m args c A cc n d own cells slots) (hd : decode cc pc = .ok (.ior, 1)) (h : op_ibin (fun x y => x ||| y) ls st σ k) (hk : ∀ ls st σ, k ls st σ → cx_W g p l e Rm s m args below meth c A n cells slots Q (pc + 1) ls st σ) : cx_W g p l e Rm s m args below meth c A n cells slots Q pc ls st σ := by
  intro H locs la hP hS hL
  unfold op_ibin at h
  split at h
  · exact lv_ior X.1 X.2.1 hd (hk _ _ _ h H locs la hP hS hL)
  · exact h.elim
theorem sn_ixor (X : cx_X g p Rm s m args c A cc n d own cells slots) (hd : decode cc pc = .ok (.ixor, 1)) (h : op_ibin (fun x y => x ^^^ y) ls st σ k) (hk : ∀ ls st σ, k ls st σ → cx_W g p l e Rm s m args below meth c A n cells slots Q (pc + 1) ls st σ) : cx_W g p l e Rm s m args below meth c A n cells slots Q pc ls st σ := by
  intro H locs la hP hS hL
  unfold op_ibin at h
  split at h
  · exact lv_ixor X.1 X.2.1 hd (hk _ _ _ h H locs la hP hS hL)
  · exact h.elim
theorem sn_ishl (X : cx_X g p Rm s m args c A cc n d own cells slots) (hd : decode cc pc = .ok (.ishl, 1)) (h : op_ibin (fun x y => x <<< (y &&& 31)) ls st σ k) (hk : ∀ ls st σ, k ls st σ → cx_W g p l e Rm s m args below meth c A n cells slots Q (pc + 1) ls st σ) : cx_W g p l e Rm s m args below meth c A n cells slots Q pc ls st σ := by
  intro H locs la hP hS hL
  unfold op_ibin at h
  split at h
  · exact lv_ishl X.1 X.2.1 hd (hk _ _ _ h H locs la hP hS hL)
  · exact h.elim
theorem sn_ishr (X : cx_X g p Rm s m args c A cc n d own cells slots) (hd : decode cc pc = .ok (.ishr, 1)) (h : op_ibin (fun x y => x >>> (y &&& 31)) ls st σ k) (hk : ∀ ls st σ, k ls st σ → cx_W g p l e Rm s m args below meth c A n cells slots Q (pc + 1) ls st σ) : cx_W g p l e Rm s m args below meth c A n cells slots Q pc ls st σ := by
  intro H locs la hP hS hL
  unfold op_ibin at h
  split at h
  · exact lv_ishr X.1 X.2.1 hd (hk _ _ _ h H locs la hP hS hL)
  · exact h.elim
theorem sn_iushr (X : cx_X g p Rm s m args c A cc n d own cells slots) (hd : decode cc pc = .ok (.iushr, 1)) (h : op_ibin (fun x y => (x.toUInt32 >>> (y.toUInt32 &&& Int32.toUInt32 31)).toInt32) ls st σ k) (hk : ∀ ls st σ, k ls st σ → cx_W g p l e Rm s m args below meth c A n cells slots Q (pc + 1) ls st σ) : cx_W g p l e Rm s m args below meth c A n cells slots Q pc ls st σ := by
  intro H locs la hP hS hL
  unfold op_ibin at h
  split at h
  · exact lv_iushr X.1 X.2.1 hd rfl (hk _ _ _ h H locs la hP hS hL)
  · exact h.elim
theorem sn_idiv (X : cx_X g p Rm s m args c A cc n d own cells slots) (hd : decode cc pc = .ok (.idiv, 1)) (h : op_idv (fun x y => x / y) ls st σ k) (hk : ∀ ls st σ, k ls st σ → cx_W g p l e Rm s m args below meth c A n cells slots Q (pc + 1) ls st σ) : cx_W g p l e Rm s m args below meth c A n cells slots Q pc ls st σ := by
  intro H locs la hP hS hL
  unfold op_idv at h
  split at h
  · exact lv_idiv X.1 X.2.1 hd h.1 (hk _ _ _ h.2 H locs la hP hS hL)
  · exact h.elim
theorem sn_irem (X : cx_X g p Rm s m args c A cc n d own cells slots) (hd : decode cc pc = .ok (.irem, 1)) (h : op_idv (fun x y => x - x / y * y) ls st σ k) (hk : ∀ ls st σ, k ls st σ → cx_W g p l e Rm s m args below meth c A n cells slots Q (pc + 1) ls st σ) : cx_W g p l e Rm s m args below meth c A n cells slots Q pc ls st σ := by
  intro H locs la hP hS hL
  unfold op_idv at h
  split at h
  · exact lv_irem X.1 X.2.1 hd h.1 (hk _ _ _ h.2 H locs la hP hS hL)
  · exact h.elim
theorem sn_ineg (X : cx_X g p Rm s m args c A cc n d own cells slots) (hd : decode cc pc = .ok (.ineg, 1)) (h : op_iun (fun x => -x) ls st σ k) (hk : ∀ ls st σ, k ls st σ → cx_W g p l e Rm s m args below meth c A n cells slots Q (pc + 1) ls st σ) : cx_W g p l e Rm s m args below meth c A n cells slots Q pc ls st σ := by
  intro H locs la hP hS hL
  unfold op_iun at h
  split at h
  · exact lv_ineg X.1 X.2.1 hd (hk _ _ _ h H locs la hP hS hL)
  · exact h.elim
theorem sn_i2c (X : cx_X g p Rm s m args c A cc n d own cells slots) (hd : decode cc pc = .ok (.i2c, 1)) (h : op_iun (fun x => (x.toUInt32 % 65536).toInt32) ls st σ k) (hk : ∀ ls st σ, k ls st σ → cx_W g p l e Rm s m args below meth c A n cells slots Q (pc + 1) ls st σ) : cx_W g p l e Rm s m args below meth c A n cells slots Q pc ls st σ := by
  intro H locs la hP hS hL
  unfold op_iun at h
  split at h
  · exact lv_i2c X.1 X.2.1 hd rfl (hk _ _ _ h H locs la hP hS hL)
  · exact h.elim
theorem sn_ladd (X : cx_X g p Rm s m args c A cc n d own cells slots) (hd : decode cc pc = .ok (.ladd, 1)) (h : op_lbin (fun x y => x + y) ls st σ k) (hk : ∀ ls st σ, k ls st σ → cx_W g p l e Rm s m args below meth c A n cells slots Q (pc + 1) ls st σ) : cx_W g p l e Rm s m args below meth c A n cells slots Q pc ls st σ := by
  intro H locs la hP hS hL
  unfold op_lbin at h
  split at h
  · exact lv_ladd X.1 X.2.1 hd (hk _ _ _ h H locs la hP hS hL)
  · exact h.elim
theorem sn_lmul (X : cx_X g p Rm s m args c A cc n d own cells slots) (hd : decode cc pc = .ok (.lmul, 1)) (h : op_lbin (fun x y => x * y) ls st σ k) (hk : ∀ ls st σ, k ls st σ → cx_W g p l e Rm s m args below meth c A n cells slots Q (pc + 1) ls st σ) : cx_W g p l e Rm s m args below meth c A n cells slots Q pc ls st σ := by
  intro H locs la hP hS hL
  unfold op_lbin at h
  split at h
  · exact lv_lmul X.1 X.2.1 hd (hk _ _ _ h H locs la hP hS hL)
  · exact h.elim
theorem sn_ldiv (X : cx_X g p Rm s m args c A cc n d own cells slots) (hd : decode cc pc = .ok (.ldiv, 1)) (h : op_ldv (fun x y => x / y) ls st σ k) (hk : ∀ ls st σ, k ls st σ → cx_W g p l e Rm s m args below meth c A n cells slots Q (pc + 1) ls st σ) : cx_W g p l e Rm s m args below meth c A n cells slots Q pc ls st σ := by
  intro H locs la hP hS hL
  unfold op_ldv at h
  split at h
  · exact lv_ldiv X.1 X.2.1 hd h.1 (hk _ _ _ h.2 H locs la hP hS hL)
  · exact h.elim
theorem sn_lrem (X : cx_X g p Rm s m args c A cc n d own cells slots) (hd : decode cc pc = .ok (.lrem, 1)) (h : op_ldv (fun x y => x - x / y * y) ls st σ k) (hk : ∀ ls st σ, k ls st σ → cx_W g p l e Rm s m args below meth c A n cells slots Q (pc + 1) ls st σ) : cx_W g p l e Rm s m args below meth c A n cells slots Q pc ls st σ := by
  intro H locs la hP hS hL
  unfold op_ldv at h
  split at h
  · exact lv_lrem X.1 X.2.1 hd h.1 (hk _ _ _ h.2 H locs la hP hS hL)
  · exact h.elim
theorem sn_lcmp (X : cx_X g p Rm s m args c A cc n d own cells slots) (hd : decode cc pc = .ok (.lcmp, 1)) (h : op_lcmp ls st σ k) (hk : ∀ ls st σ, k ls st σ → cx_W g p l e Rm s m args below meth c A n cells slots Q (pc + 1) ls st σ) : cx_W g p l e Rm s m args below meth c A n cells slots Q pc ls st σ := by
  intro H locs la hP hS hL
  unfold op_lcmp at h
  split at h
  · exact W.lcmp X.1 X.2.1 hd (hk _ _ _ h H locs la hP hS hL)
  · exact h.elim
theorem sn_i2l (X : cx_X g p Rm s m args c A cc n d own cells slots) (hd : decode cc pc = .ok (.i2l, 1)) (h : op_i2l ls st σ k) (hk : ∀ ls st σ, k ls st σ → cx_W g p l e Rm s m args below meth c A n cells slots Q (pc + 1) ls st σ) : cx_W g p l e Rm s m args below meth c A n cells slots Q pc ls st σ := by
  intro H locs la hP hS hL
  unfold op_i2l at h
  split at h
  · exact lv_i2l X.1 X.2.1 hd rfl (hk _ _ _ h H locs la hP hS hL)
  · exact h.elim
theorem sn_l2i (X : cx_X g p Rm s m args c A cc n d own cells slots) (hd : decode cc pc = .ok (.l2i, 1)) (h : op_l2i ls st σ k) (hk : ∀ ls st σ, k ls st σ → cx_W g p l e Rm s m args below meth c A n cells slots Q (pc + 1) ls st σ) : cx_W g p l e Rm s m args below meth c A n cells slots Q pc ls st σ := by
  intro H locs la hP hS hL
  unfold op_l2i at h
  split at h
  · exact lv_l2i X.1 X.2.1 hd rfl (hk _ _ _ h H locs la hP hS hL)
  · exact h.elim
theorem sn_dup (X : cx_X g p Rm s m args c A cc n d own cells slots) (hd : decode cc pc = .ok (.dup, 1)) (h : op_dup ls st σ k) (hk : ∀ ls st σ, k ls st σ → cx_W g p l e Rm s m args below meth c A n cells slots Q (pc + 1) ls st σ) : cx_W g p l e Rm s m args below meth c A n cells slots Q pc ls st σ := by
  intro H locs la hP hS hL
  unfold op_dup at h
  split at h
  · exact lv_dup X.1 X.2.1 hd ((cx_cat X.2.2.2.2.2.1.2.2.2.2.2.2.2 _).trans h.1) (hk _ _ _ h.2 H locs la hP hS hL)
  · exact h.elim
theorem sn_pop (X : cx_X g p Rm s m args c A cc n d own cells slots) (hd : decode cc pc = .ok (.pop, 1)) (h : op_pop ls st σ k) (hk : ∀ ls st σ, k ls st σ → cx_W g p l e Rm s m args below meth c A n cells slots Q (pc + 1) ls st σ) : cx_W g p l e Rm s m args below meth c A n cells slots Q pc ls st σ := by
  intro H locs la hP hS hL
  unfold op_pop at h
  split at h
  · exact lv_pop X.1 X.2.1 hd ((cx_cat X.2.2.2.2.2.1.2.2.2.2.2.2.2 _).trans h.1) (hk _ _ _ h.2 H locs la hP hS hL)
  · exact h.elim
theorem sn_dup2 (X : cx_X g p Rm s m args c A cc n d own cells slots) (hd : decode cc pc = .ok (.dup2, 1)) (h : op_dup2 ls st σ k) (hk : ∀ ls st σ, k ls st σ → cx_W g p l e Rm s m args below meth c A n cells slots Q (pc + 1) ls st σ) : cx_W g p l e Rm s m args below meth c A n cells slots Q pc ls st σ := by
  intro H locs la hP hS hL
  unfold op_dup2 at h
  split at h
  · exact lv_dup2_11 X.1 X.2.1 hd ((cx_cat X.2.2.2.2.2.1.2.2.2.2.2.2.2 _).trans h.1) ((cx_cat X.2.2.2.2.2.1.2.2.2.2.2.2.2 _).trans h.2.1) (hk _ _ _ h.2.2 H locs la hP hS hL)
  · exact h.elim
end SN
