/-! SOUNDNESS of the ends of blocks, of calls, of a method -/
/-- a world state before and behind a call -/
def cx_Pre (g : cx_G) (σ : ab_S) (U : State) : Prop := va_P g.2.2.2.1 cx_cl (cx_w g σ) U.heap ∧ cx_PC g (cx_A g) U
def cx_Qc (g : cx_G) (R : ab_R) : Array Value → State → Outcome → State → Prop := fun _ st oc t => (∃ (v : Option Value) (σ : ab_S), oc = .returned (v.map (cx_v g)) ∧ R v σ ∧ va_P g.2.2.2.1 cx_cl (cx_w g σ) t.heap) ∧ va_F (cx_A g) st t
def cx_rm (d : Nat) : Room := { frames := d, cells := 0, slots := 0, locals := 60 * d }
/-- a method: its name, bytes, locals, return type -/
abbrev cx_M : Type := MethodName × ByteArray × Nat × Option FieldType
def cx_cd (q : cx_M) : Cond := .code q.1 q.2.1 q.2.2.1 q.2.2.2
def cx_Met (g : cx_G) (l : Launch) (d : Nat) (q : cx_M) (av : List Value) (σ : ab_S) (R : ab_R) : Prop :=
  Met l q.1 (cx_cd q :: cx_WS) (cx_rm d) (va_Pc (av.map (cx_v g)) (cx_Pre g σ)) (cx_Qc g R) 0 0 (cx_A g)
theorem cx_PC.call {g : cx_G} {A : Nat → Prop} {s U : State} {H : Heap} {locs : List Loc} (h : cx_PC g A s) (hA : ∀ q, cx_A g q → A q) (hS : va_S A s.heap H locs) (hU : U.heap = H) (hW : s.WarmedH U.vm) : cx_PC g (cx_A g) U := by
  obtain ⟨h1, h2, h3, h4, h5, h6, h7, h8⟩ := h
  have hq : ∀ a : Nat, a < s.heap.size → ¬ A a → U.heap[a]? = s.heap[a]? := by rw [hU]; exact hS.2.1
  exact ⟨va_K.moved hW.alike h1, ((h2.moved hW.alike).kept hq).narrow hA, ((h3.moved hW.alike).kept hq).narrow hA, ((h4.moved hW.alike).kept hq).narrow hA, fun j q hj => (h5 j q hj).warm hW, h6.warmM hW, h7.warmM hW, h8⟩
theorem cx_PC.same {g : cx_G} {A : Nat → Prop} {U : State} {gf : JFrame} {mk : MethodId} {a : Array Value} (h : cx_PC g A U) : cx_PC g A (U.calling gf mk a) := by
  obtain ⟨h1, h2, h3, h4, h5, h6, h7, h8⟩ := h
  exact ⟨va_K.moved (u := U) (U := U.calling gf mk a) (Vm.Alike.refl U.vm) h1, vk_S.moved (u := U) (U := U.calling gf mk a) (Vm.Alike.refl U.vm) h2, va_Z.moved (u := U) (U := U.calling gf mk a) (Vm.Alike.refl U.vm) h3, va_Z.moved (u := U) (U := U.calling gf mk a) (Vm.Alike.refl U.vm) h4, fun j q hj => vk_R.same (u := U) rfl (h5 j q hj), va_Nw.same (u := U) rfl rfl h6, va_Nw.same (u := U) rfl rfl h7, h8⟩
theorem cx_blind (g : cx_G) (av : List Value) (σ : ab_S) : FrameBlind (va_Pc (av.map (cx_v g)) (cx_Pre g σ)) := fun a U gf mk h => ⟨h.1, h.2.1, h.2.2.same⟩
section SE
variable {g : cx_G} {p : Program} {l : Launch} {e : Env} {Rm : Room} {s : State} {m : MethodId} {args : Array Value} {below : List Frame} {meth : Method} {c : Code} {A : Nat → Prop} {cc : ByteArray} {n d : Nat} {own : String} {cells slots : Nat} {Q : State → Prop}
variable {pc : Nat} {ls : ab_L} {st : List Value} {σ : ab_S} {K : ab_K} {R : ab_R}
theorem sn_goto (X : cx_X g p Rm s m args c A cc n d own cells slots) {off : Int} {t : Nat} (hd : decode cc pc = .ok (.goto off, 3)) (ht : (pc : Int) + off = (t : Int)) (h : tm_goto t ls st σ K) (hk : ∀ pc ls st σ, K pc ls st σ → cx_W g p l e Rm s m args below meth c A n cells slots Q pc ls st σ) : cx_W g p l e Rm s m args below meth c A n cells slots Q pc ls st σ :=
  fun H locs la hP hS hL => lv_goto X.1 X.2.1 hd ht (hk _ _ _ _ h H locs la hP hS hL)
/-- into the next block -/
theorem sn_fall {t : Nat} (ht : pc = t) (h : tm_goto t ls st σ K) (hk : ∀ pc ls st σ, K pc ls st σ → cx_W g p l e Rm s m args below meth c A n cells slots Q pc ls st σ) : cx_W g p l e Rm s m args below meth c A n cells slots Q pc ls st σ := by
  subst ht
  exact hk _ _ _ _ h
theorem sn_if_eq (X : cx_X g p Rm s m args c A cc n d own cells slots) {off : Int} {t f : Nat} (hd : decode cc pc = .ok (.ifCond .eq off, 3)) (ht : (pc : Int) + off = (t : Int)) (hf : pc + 3 = f) (h : tm_if (fun x => x = 0) t f ls st σ K) (hk : ∀ pc ls st σ, K pc ls st σ → cx_W g p l e Rm s m args below meth c A n cells slots Q pc ls st σ) : cx_W g p l e Rm s m args below meth c A n cells slots Q pc ls st σ := by
  intro H locs la hP hS hL
  subst hf
  unfold tm_if at h
  split at h
  · exact lv_if_eq X.1 X.2.1 hd ht (fun q => hk _ _ _ _ (h.1 q) H locs la hP hS hL) (fun q => hk _ _ _ _ (h.2 q) H locs la hP hS hL)
  · exact h.elim
theorem sn_if_lt (X : cx_X g p Rm s m args c A cc n d own cells slots) {off : Int} {t f : Nat} (hd : decode cc pc = .ok (.ifCond .lt off, 3)) (ht : (pc : Int) + off = (t : Int)) (hf : pc + 3 = f) (h : tm_if (fun x => x < 0) t f ls st σ K) (hk : ∀ pc ls st σ, K pc ls st σ → cx_W g p l e Rm s m args below meth c A n cells slots Q pc ls st σ) : cx_W g p l e Rm s m args below meth c A n cells slots Q pc ls st σ := by
  intro H locs la hP hS hL
  subst hf
  unfold tm_if at h
  split at h
  · exact lv_if_lt X.1 X.2.1 hd ht (fun q => hk _ _ _ _ (h.1 q) H locs la hP hS hL) (fun q => hk _ _ _ _ (h.2 q) H locs la hP hS hL)
  · exact h.elim
theorem sn_if_ge (X : cx_X g p Rm s m args c A cc n d own cells slots) {off : Int} {t f : Nat} (hd : decode cc pc = .ok (.ifCond .ge off, 3)) (ht : (pc : Int) + off = (t : Int)) (hf : pc + 3 = f) (h : tm_if (fun x => 0 ≤ x) t f ls st σ K) (hk : ∀ pc ls st σ, K pc ls st σ → cx_W g p l e Rm s m args below meth c A n cells slots Q pc ls st σ) : cx_W g p l e Rm s m args below meth c A n cells slots Q pc ls st σ := by
  intro H locs la hP hS hL
  subst hf
  unfold tm_if at h
  split at h
  · exact lv_if_ge X.1 X.2.1 hd ht (fun q => hk _ _ _ _ (h.1 q) H locs la hP hS hL) (fun q => hk _ _ _ _ (h.2 q) H locs la hP hS hL)
  · exact h.elim
theorem sn_if_gt (X : cx_X g p Rm s m args c A cc n d own cells slots) {off : Int} {t f : Nat} (hd : decode cc pc = .ok (.ifCond .gt off, 3)) (ht : (pc : Int) + off = (t : Int)) (hf : pc + 3 = f) (h : tm_if (fun x => 0 < x) t f ls st σ K) (hk : ∀ pc ls st σ, K pc ls st σ → cx_W g p l e Rm s m args below meth c A n cells slots Q pc ls st σ) : cx_W g p l e Rm s m args below meth c A n cells slots Q pc ls st σ := by
  intro H locs la hP hS hL
  subst hf
  unfold tm_if at h
  split at h
  · exact lv_if_gt X.1 X.2.1 hd ht (fun q => hk _ _ _ _ (h.1 q) H locs la hP hS hL) (fun q => hk _ _ _ _ (h.2 q) H locs la hP hS hL)
  · exact h.elim
theorem sn_if_le (X : cx_X g p Rm s m args c A cc n d own cells slots) {off : Int} {t f : Nat} (hd : decode cc pc = .ok (.ifCond .le off, 3)) (ht : (pc : Int) + off = (t : Int)) (hf : pc + 3 = f) (h : tm_if (fun x => x ≤ 0) t f ls st σ K) (hk : ∀ pc ls st σ, K pc ls st σ → cx_W g p l e Rm s m args below meth c A n cells slots Q pc ls st σ) : cx_W g p l e Rm s m args below meth c A n cells slots Q pc ls st σ := by
  intro H locs la hP hS hL
  subst hf
  unfold tm_if at h
  split at h
  · exact lv_if_le X.1 X.2.1 hd ht (fun q => hk _ _ _ _ (h.1 q) H locs la hP hS hL) (fun q => hk _ _ _ _ (h.2 q) H locs la hP hS hL)
  · exact h.elim
theorem sn_icmp_eq (X : cx_X g p Rm s m args c A cc n d own cells slots) {off : Int} {t f : Nat} (hd : decode cc pc = .ok (.if_icmp .eq off, 3)) (ht : (pc : Int) + off = (t : Int)) (hf : pc + 3 = f) (h : tm_cmp (fun x y => x = y) t f ls st σ K) (hk : ∀ pc ls st σ, K pc ls st σ → cx_W g p l e Rm s m args below meth c A n cells slots Q pc ls st σ) : cx_W g p l e Rm s m args below meth c A n cells slots Q pc ls st σ := by
  intro H locs la hP hS hL
  subst hf
  unfold tm_cmp at h
  split at h
  · exact lv_icmp_eq X.1 X.2.1 hd ht (fun q => hk _ _ _ _ (h.1 q) H locs la hP hS hL) (fun q => hk _ _ _ _ (h.2 q) H locs la hP hS hL)
  · exact h.elim
theorem sn_icmp_lt (X : cx_X g p Rm s m args c A cc n d own cells slots) {off : Int} {t f : Nat} (hd : decode cc pc = .ok (.if_icmp .lt off, 3)) (ht : (pc : Int) + off = (t : Int)) (hf : pc + 3 = f) (h : tm_cmp (fun x y => x < y) t f ls st σ K) (hk : ∀ pc ls st σ, K pc ls st σ → cx_W g p l e Rm s m args below meth c A n cells slots Q pc ls st σ) : cx_W g p l e Rm s m args below meth c A n cells slots Q pc ls st σ := by
  intro H locs la hP hS hL
  subst hf
  unfold tm_cmp at h
  split at h
  · exact lv_icmp_lt X.1 X.2.1 hd ht (fun q => hk _ _ _ _ (h.1 q) H locs la hP hS hL) (fun q => hk _ _ _ _ (h.2 q) H locs la hP hS hL)
  · exact h.elim
theorem sn_icmp_ge (X : cx_X g p Rm s m args c A cc n d own cells slots) {off : Int} {t f : Nat} (hd : decode cc pc = .ok (.if_icmp .ge off, 3)) (ht : (pc : Int) + off = (t : Int)) (hf : pc + 3 = f) (h : tm_cmp (fun x y => y ≤ x) t f ls st σ K) (hk : ∀ pc ls st σ, K pc ls st σ → cx_W g p l e Rm s m args below meth c A n cells slots Q pc ls st σ) : cx_W g p l e Rm s m args below meth c A n cells slots Q pc ls st σ := by
  intro H locs la hP hS hL
  subst hf
  unfold tm_cmp at h
  split at h
  · exact lv_icmp_ge X.1 X.2.1 hd ht (fun q => hk _ _ _ _ (h.1 q) H locs la hP hS hL) (fun q => hk _ _ _ _ (h.2 q) H locs la hP hS hL)
  · exact h.elim
theorem sn_icmp_gt (X : cx_X g p Rm s m args c A cc n d own cells slots) {off : Int} {t f : Nat} (hd : decode cc pc = .ok (.if_icmp .gt off, 3)) (ht : (pc : Int) + off = (t : Int)) (hf : pc + 3 = f) (h : tm_cmp (fun x y => y < x) t f ls st σ K) (hk : ∀ pc ls st σ, K pc ls st σ → cx_W g p l e Rm s m args below meth c A n cells slots Q pc ls st σ) : cx_W g p l e Rm s m args below meth c A n cells slots Q pc ls st σ := by
  intro H locs la hP hS hL
  subst hf
  unfold tm_cmp at h
  split at h
  · exact lv_icmp_gt X.1 X.2.1 hd ht (fun q => hk _ _ _ _ (h.1 q) H locs la hP hS hL) (fun q => hk _ _ _ _ (h.2 q) H locs la hP hS hL)
  · exact h.elim
theorem sn_icmp_le (X : cx_X g p Rm s m args c A cc n d own cells slots) {off : Int} {t f : Nat} (hd : decode cc pc = .ok (.if_icmp .le off, 3)) (ht : (pc : Int) + off = (t : Int)) (hf : pc + 3 = f) (h : tm_cmp (fun x y => x ≤ y) t f ls st σ K) (hk : ∀ pc ls st σ, K pc ls st σ → cx_W g p l e Rm s m args below meth c A n cells slots Q pc ls st σ) : cx_W g p l e Rm s m args below meth c A n cells slots Q pc ls st σ := by
  intro H locs la hP hS hL
  subst hf
  unfold tm_cmp at h
  split at h
  · exact lv_icmp_le X.1 X.2.1 hd ht (fun q => hk _ _ _ _ (h.1 q) H locs la hP hS hL) (fun q => hk _ _ _ _ (h.2 q) H locs la hP hS hL)
  · exact h.elim
theorem sn_if_ne (X : cx_X g p Rm s m args c A cc n d own cells slots) {off : Int} {t f : Nat} (hd : decode cc pc = .ok (.ifCond .ne off, 3)) (ht : (pc : Int) + off = (t : Int)) (hf : pc + 3 = f) (h : tm_if (fun x => x = 0) f t ls st σ K) (hk : ∀ pc ls st σ, K pc ls st σ → cx_W g p l e Rm s m args below meth c A n cells slots Q pc ls st σ) : cx_W g p l e Rm s m args below meth c A n cells slots Q pc ls st σ := by
  intro H locs la hP hS hL
  subst hf
  unfold tm_if at h
  split at h
  · exact lv_if_ne X.1 X.2.1 hd ht (fun q => hk _ _ _ _ (h.2 q) H locs la hP hS hL) (fun q => hk _ _ _ _ (h.1 q) H locs la hP hS hL)
  · exact h.elim
theorem sn_icmp_ne (X : cx_X g p Rm s m args c A cc n d own cells slots) {off : Int} {t f : Nat} (hd : decode cc pc = .ok (.if_icmp .ne off, 3)) (ht : (pc : Int) + off = (t : Int)) (hf : pc + 3 = f) (h : tm_cmp (fun x y => x = y) f t ls st σ K) (hk : ∀ pc ls st σ, K pc ls st σ → cx_W g p l e Rm s m args below meth c A n cells slots Q pc ls st σ) : cx_W g p l e Rm s m args below meth c A n cells slots Q pc ls st σ := by
  intro H locs la hP hS hL
  subst hf
  unfold tm_cmp at h
  split at h
  · exact lv_icmp_ne X.1 X.2.1 hd ht (fun q => hk _ _ _ _ (h.2 q) H locs la hP hS hL) (fun q => hk _ _ _ _ (h.1 q) H locs la hP hS hL)
  · exact h.elim
theorem sn_sw (X : cx_X g p Rm s m args c A cc n d own cells slots) {df lo hi : Int} {offs : Array Int} {len t : Nat} {ts : List Nat} (hd : decode cc pc = .ok (.tableswitch df lo hi offs, len)) (ht : (pc : Int) + df = (t : Int)) (hts : offs.toList = ts.map fun (u : Nat) => (u : Int) - (pc : Int)) (hhi : hi + 1 = lo + ts.length) (h : tm_sw t lo ts ls st σ K) (hk : ∀ pc ls st σ, K pc ls st σ → cx_W g p l e Rm s m args below meth c A n cells slots Q pc ls st σ) : cx_W g p l e Rm s m args below meth c A n cells slots Q pc ls st σ := by
  intro H locs la hP hS hL
  unfold tm_sw at h
  split at h
  · next x st =>
    by_cases h1 : x.toInt < lo
    · exact lv_tableOut X.1 X.2.1 hd (Or.inl h1) ht (hk _ _ _ _ (h.2 (Or.inl h1)) H locs la hP hS hL)
    · by_cases h2 : hi < x.toInt
      · exact lv_tableOut X.1 X.2.1 hd (Or.inr h2) ht (hk _ _ _ _ (h.2 (Or.inr (by omega))) H locs la hP hS hL)
      · have hl : (x.toInt - lo).toNat < ts.length := by omega
        have hu : ts[(x.toInt - lo).toNat]? = some ts[(x.toInt - lo).toNat] := List.getElem?_eq_getElem hl
        have ho : offs[(x.toInt - lo).toNat]? = some ((ts[(x.toInt - lo).toNat] : Nat) - (pc : Int)) := by
          rw [← Array.getElem?_toList, hts, List.getElem?_map, hu]
          rfl
        exact lv_tableIn X.1 X.2.1 hd h1 h2 ho (by omega) (hk _ _ _ _ (h.1 _ _ hu (by omega)) H locs la hP hS hL)
  · exact h.elim
/-- what is known of a callee, and of calls -/
def cx_ok (q : cx_M) (np : Nat) : Prop := cx_cd q ∈ cx_WS ∧ Cond.initialized q.1.cls ∈ cx_WS ∧ (q.1.cls ≠ "java/lang/invoke/MethodHandle" ∧ q.1.cls ≠ "java/lang/invoke/VarHandle" ∧ (parseMethodDescriptor q.1.desc).map (fun d => d.parameters.length) = some np) ∧ q.2.2.1 ≤ 41
def cx_CS (g : cx_G) (l : Launch) (mt : Nat → cx_M) (C : ab_C) (d : Nat) : Prop := ∀ y av σ R, C y av σ R → cx_Met g l d (mt y) av σ R
theorem cx_good : GoodIn cx_WS cx_WS := fun w hw => ⟨hw, good_of_word (List.mem_filter.mp hw).2⟩
theorem cx_goodC {q : cx_M} (h : cx_cd q ∈ cx_WS) : GoodIn cx_WS (cx_cd q :: cx_WS) := fun w hw => (List.mem_cons.mp hw).elim (fun e => by rw [e]; exact cx_good _ h) (cx_good w)
theorem cx_AA {g : cx_G} (hA : ∀ k, k < 64 → A (cx_ad g k)) : ∀ q, cx_A g q → A q := by
  rintro q ⟨k, hk, rfl⟩
  rw [← cx_adlt hk]
  exact hA k hk
theorem cx_go {R' : ab_R} {H : Heap} {locs : List Loc} {la : Array Slot} {st0 rest : List Value} {a : Array Value} (hr : va_Run p l e Rm s m args below meth c H locs cells slots 0 0 (F0 m pc la st0) rest (cx_Qc g R' a) (cx_A g)) (hS : va_S A s.heap H locs) (hA : ∀ q, cx_A g q → A q)
    (kk : ∀ (v : Option Value) (σ' : ab_S) (H1 : Heap) (locs1 : List Loc), R' v σ' → va_P g.2.2.2.1 cx_cl (cx_w g σ') H1 → va_S A s.heap H1 locs1 → W p l e Rm s m args below meth c H1 locs1 cells slots Q (F0 m (pc + 3) la ((v.map (cx_v g)).toList ++ rest))) : W p l e Rm s m args below meth c H locs cells slots Q (F0 m pc la st0) := by
  intro T hT X
  obtain ⟨v, st₀, t, T', L, h0, X', hL, e1, e2, ⟨⟨v', σ', hv, hR, hP⟩, hz, hk⟩, st⟩ := hr T hT X
  cases hv
  rw [h0] at hz hk
  obtain ⟨t2, a1, b1⟩ := kk v' σ' T'.heap (locs ++ L) hR (by rw [e1]; exact hP)
    ⟨Nat.le_trans hS.1 (by rw [e1]; exact hz), fun q h1 h2 => by rw [e1, hk q (Nat.lt_of_lt_of_le h1 hS.1) (fun z => h2 (hA q z))]; exact hS.2.1 q h1 h2, fun q hq => by
      rcases List.mem_append.mp hq with h | h
      · exact hS.2.2 q h
      · exact hA _ (hL q h)⟩ T' rfl X'
  exact ⟨t2, st t2 a1, b1⟩
theorem cx_sum {g : cx_G} (hs : g.2.2.2.2.2.category = 1) (st : List Value) : ((st.map (cx_v g)).map fun v => v.category).sum = (st.map fun v => v.category).sum := by
  rw [List.map_map]
  congr 1
  exact List.map_congr_left fun v _ => cx_cat hs v
theorem cx_cB (X : cx_X g p Rm s m args c A cc n d own cells slots) {q : cx_M} {np idx : Nat} (ok : cx_ok q np) (hw : Cond.methodLink own idx q.1 ∈ cx_WS) : CallB Rm s args own idx q.1 q.2.1 q.2.2.1 q.2.2.2 (cx_cd q :: cx_WS) (cx_rm d) 0 0 np := by
  refine callB_of np X.2.2.2.2.1 (cx_goodC ok.1) rfl rfl rfl (X.2.2.2.2.1 _ ok.2.1) (X.2.2.2.2.1 _ hw) ok.2.2.1 ⟨X.2.2.2.2.2.2.2.1.1, ?_⟩
  have h1 := X.2.2.2.2.2.2.2.1.2
  have h2 := ok.2.2.2
  show 8 + (q.2.2.1 + 11) + 60 * d ≤ Rm.locals
  omega
variable {mt : Nat → cx_M} {C : ab_C}
theorem sn_callS (X : cx_X g p Rm s m args c A cc n d own cells slots) (hC : cx_CS g l mt C d) {t y np f idx : Nat} {q : cx_M} (hy : mt y = q) (ok : cx_ok q np) (hw : Cond.methodLink own idx q.1 ∈ cx_WS) (hw2 : Cond.static q.1 ∈ cx_WS) (hd : decode cc pc = .ok (.invokestatic idx, 3)) (hf : pc + 3 = f) (h : tm_call C t y np f ls st σ K) (hk : ∀ pc ls st σ, K pc ls st σ → cx_W g p l e Rm s m args below meth c A n cells slots Q pc ls st σ) : cx_W g p l e Rm s m args below meth c A n cells slots Q pc ls st σ := by
  intro H locs la hP hS hL
  subst hf
  obtain ⟨h1, h2, h3⟩ := h
  have hM := hC _ _ _ _ h3
  rw [hy] at hM
  have hs := X.2.2.2.2.2.1.2.2.2.2.2.2.2
  have hAA := cx_AA X.2.2.2.2.2.2.1
  refine cx_go (R' := ab_rk t fun vs σ' => K (pc + 3) ls (vs ++ st.drop np) σ') (rest := (st.drop np).map (cx_v g)) (va_runS (As := (st.take np).reverse.map (cx_v g)) (n := np) ⟨X.1, X.2.1, X.2.2.1, X.2.2.2.1, X.2.2.2.2.1⟩ hM ⟨cx_cB X ok hw, X.2.2.2.2.1 _ hw2⟩ ⟨cx_blind g _ σ, fun U hU hW => ⟨rfl, by rw [hU]; exact hP, X.2.2.2.2.2.1.call hAA hS hU hW⟩⟩ rfl (by simp; omega) hL.1 (by
    rw [← List.map_reverse, List.reverse_reverse, ← List.map_append, List.take_append_drop]) (lv_room (by rw [cx_sum hs]; exact h2)) hd X.2.2.2.2.2.2.2.2) hS hAA (fun v σ' H1 locs1 hR hP1 hS1 => ?_)
  have hR := ab_rk_out hR
  have := hk _ _ _ _ hR H1 locs1 la hP1 hS1 hL
  rw [List.map_append] at this
  cases v <;> exact this
theorem cx_takeR {st : List Value} {np : Nat} {a : Nat} (h : st[np]? = some (.ref a)) : st.take (np + 1) = st.take np ++ [.ref a] := by
  rw [List.take_add_one, h]
  rfl
theorem sn_callV (X : cx_X g p Rm s m args c A cc n d own cells slots) (hC : cx_CS g l mt C d) {t y np f idx ci : Nat} {q : cx_M} {r : vw_C} (hy : mt y = q) (hc : cx_cl[ci]? = some r) (ok : cx_ok q np) (hw : Cond.methodLink own idx q.1 ∈ cx_WS) (hw2 : Cond.instanceMethod q.1 ∈ cx_WS) (hw3 : Cond.selects r.1 q.1 q.1 ∈ cx_WS) (hd : decode cc pc = .ok (.invokevirtual idx, 3)) (hf : pc + 3 = f) (h : tm_callV C t ci y np f ls st σ K) (hk : ∀ pc ls st σ, K pc ls st σ → cx_W g p l e Rm s m args below meth c A n cells slots Q pc ls st σ) : cx_W g p l e Rm s m args below meth c A n cells slots Q pc ls st σ := by
  intro H locs la hP hS hL
  subst hf
  obtain ⟨⟨a, ha, hsh⟩, h1, h2, h3⟩ := h
  rw [cx_takeR ha, List.reverse_append] at h3
  have hM := hC _ _ _ _ h3
  rw [hy] at hM
  have hs := X.2.2.2.2.2.1.2.2.2.2.2.2.2
  have hAA := cx_AA X.2.2.2.2.2.2.1
  refine cx_go (R' := ab_rk t fun vs σ' => K (pc + 3) ls (vs ++ st.drop (np + 1)) σ') (rest := (st.drop (np + 1)).map (cx_v g)) (va_runV (C := r.1) (b := cx_ad g a) (As := (st.take np).reverse.map (cx_v g)) (n := np) ⟨X.1, X.2.1, X.2.2.1, X.2.2.2.1, X.2.2.2.2.1⟩ hM ⟨cx_cB X ok hw, X.2.2.2.2.1 _ hw2, X.2.2.2.2.1 _ hw3⟩ ⟨cx_blind g _ σ, va_recv X.2.2.2.2.2.1.1 hP hc (cx_he σ hsh), fun U hU hW => ⟨rfl, by rw [hU]; exact hP, X.2.2.2.2.2.1.call hAA hS hU hW⟩⟩ rfl (by simp; omega) hL.1 (by
    rw [← List.map_reverse, List.reverse_reverse]
    show st.map (cx_v g) = (st.take np).map (cx_v g) ++ ([Value.ref a].map (cx_v g) ++ (st.drop (np + 1)).map (cx_v g))
    rw [← List.append_assoc, ← List.map_append, ← cx_takeR ha, ← List.map_append, List.take_append_drop]) (lv_room (by rw [cx_sum hs]; exact h2)) hd X.2.2.2.2.2.2.2.2) hS hAA (fun v σ' H1 locs1 hR hP1 hS1 => ?_)
  have hR := ab_rk_out hR
  have := hk _ _ _ _ hR H1 locs1 la hP1 hS1 hL
  rw [List.map_append] at this
  cases v <;> exact this
theorem sn_callT (X : cx_X g p Rm s m args c A cc n d own cells slots) (hC : cx_CS g l mt C d) {t y np f idx : Nat} {q : cx_M} (hy : mt y = q) (ok : cx_ok q np) (hw : Cond.methodLink own idx q.1 ∈ cx_WS) (hw2 : Cond.instanceMethod q.1 ∈ cx_WS) (hw3 : Cond.selects "java/lang/String" q.1 q.1 ∈ cx_WS) (hd : decode cc pc = .ok (.invokevirtual idx, 3)) (hf : pc + 3 = f) (h : tm_callT C t y np f ls st σ K) (hk : ∀ pc ls st σ, K pc ls st σ → cx_W g p l e Rm s m args below meth c A n cells slots Q pc ls st σ) : cx_W g p l e Rm s m args below meth c A n cells slots Q pc ls st σ := by
  intro H locs la hP hS hL
  subst hf
  obtain ⟨⟨a, ha, hb1, hb2⟩, h1, h2, h3⟩ := h
  rw [cx_takeR ha, List.reverse_append] at h3
  have hM := hC _ _ _ _ h3
  rw [hy] at hM
  have hs := X.2.2.2.2.2.1.2.2.2.2.2.2.2
  have hAA := cx_AA X.2.2.2.2.2.2.1
  have hrv := vk_recv (i := a - 64) X.2.2.2.2.2.1.2.1 (by omega) hS
  rw [← cx_adK hb1 hb2] at hrv
  refine cx_go (R' := ab_rk t fun vs σ' => K (pc + 3) ls (vs ++ st.drop (np + 1)) σ') (rest := (st.drop (np + 1)).map (cx_v g)) (va_runV (C := "java/lang/String") (b := cx_ad g a) (As := (st.take np).reverse.map (cx_v g)) (n := np) ⟨X.1, X.2.1, X.2.2.1, X.2.2.2.1, X.2.2.2.2.1⟩ hM ⟨cx_cB X ok hw, X.2.2.2.2.1 _ hw2, X.2.2.2.2.1 _ hw3⟩ ⟨cx_blind g _ σ, hrv, fun U hU hW => ⟨rfl, by rw [hU]; exact hP, X.2.2.2.2.2.1.call hAA hS hU hW⟩⟩ rfl (by simp; omega) hL.1 (by
    rw [← List.map_reverse, List.reverse_reverse]
    show st.map (cx_v g) = (st.take np).map (cx_v g) ++ ([Value.ref a].map (cx_v g) ++ (st.drop (np + 1)).map (cx_v g))
    rw [← List.append_assoc, ← List.map_append, ← cx_takeR ha, ← List.map_append, List.take_append_drop]) (lv_room (by rw [cx_sum hs]; exact h2)) hd X.2.2.2.2.2.2.2.2) hS hAA (fun v σ' H1 locs1 hR hP1 hS1 => ?_)
  have hR := ab_rk_out hR
  have := hk _ _ _ _ hR H1 locs1 la hP1 hS1 hL
  rw [List.map_append] at this
  cases v <;> exact this
/-- a private static of the nest's host -/
theorem sn_callN (X : cx_X g p Rm s m args c A cc n d own cells slots) (hC : cx_CS g l mt C d) {t y np f idx : Nat} {q : cx_M} {host : String} (hy : mt y = q) (ok : cx_ok q np) (hw : va_Nw (.methodLinkNest own idx q.1 host) s) (hw2 : Cond.static q.1 ∈ cx_WS) (hd : decode cc pc = .ok (.invokestatic idx, 3)) (hf : pc + 3 = f) (h : tm_call C t y np f ls st σ K) (hk : ∀ pc ls st σ, K pc ls st σ → cx_W g p l e Rm s m args below meth c A n cells slots Q pc ls st σ) : cx_W g p l e Rm s m args below meth c A n cells slots Q pc ls st σ := by
  intro H locs la hP hS hL
  subst hf
  obtain ⟨h1, h2, h3⟩ := h
  have hM := hC _ _ _ _ h3
  rw [hy] at hM
  have hs := X.2.2.2.2.2.1.2.2.2.2.2.2.2
  have hAA := cx_AA X.2.2.2.2.2.2.1
  have hroom : 8 + (q.2.2.1 + 11) + (cx_rm d).locals ≤ Rm.locals := by
    have h1 := X.2.2.2.2.2.2.2.1.2
    have h2 := ok.2.2.2
    show 8 + (q.2.2.1 + 11) + 60 * d ≤ Rm.locals
    omega
  refine cx_go (R' := ab_rk t fun vs σ' => K (pc + 3) ls (vs ++ st.drop np) σ') (rest := (st.drop np).map (cx_v g)) (va_runSN (As := (st.take np).reverse.map (cx_v g)) (n := np) ⟨X.1, X.2.1, X.2.2.1, X.2.2.2.1, X.2.2.2.2.1⟩ hM ⟨va_cnB np X.2.2.2.2.1 (cx_goodC ok.1) rfl rfl rfl hw (X.2.2.2.2.1 _ ok.2.1) ok.2.2.1 ⟨X.2.2.2.2.2.2.2.1.1, hroom⟩, X.2.2.2.2.1 _ hw2, trivial⟩ ⟨cx_blind g _ σ, fun U hU hW => ⟨rfl, by rw [hU]; exact hP, X.2.2.2.2.2.1.call hAA hS hU hW⟩⟩ rfl (by simp; omega) hL.1 (by
    rw [← List.map_reverse, List.reverse_reverse, ← List.map_append, List.take_append_drop]) (lv_room (by rw [cx_sum hs]; exact h2)) hd X.2.2.2.2.2.2.2.2) hS hAA (fun v σ' H1 locs1 hR hP1 hS1 => ?_)
  have hR := ab_rk_out hR
  have := hk _ _ _ _ hR H1 locs1 la hP1 hS1 hL
  rw [List.map_append] at this
  cases v <;> exact this
/-- the returns -/
def cx_RS (g : cx_G) (p : Program) (l : Launch) (e : Env) (Rm : Room) (s : State) (m : MethodId) (args : Array Value) (below : List Frame) (meth : Method) (c : Code) (A : Nat → Prop) (cc : ByteArray) (ret : Option FieldType) (cells slots : Nat) (Q : State → Prop) (R : ab_R) : Prop :=
  (∀ ty, ret = some ty → ∀ (pc : Nat) (la : Array Slot) (x : Int32) (σ : ab_S) (H : Heap) (locs : List Loc), decode cc pc = .ok (.ireturn, 1) → narrow ty (.int x) = .int x → R (some (.int x)) σ → va_P g.2.2.2.1 cx_cl (cx_w g σ) H → va_S A s.heap H locs → W p l e Rm s m args below meth c H locs cells slots Q (F0 m pc la [.int x])) ∧
  (ret = some .long → ∀ (pc : Nat) (la : Array Slot) (x : Int64) (σ : ab_S) (H : Heap) (locs : List Loc), decode cc pc = .ok (.lreturn, 1) → R (some (.long x)) σ → va_P g.2.2.2.1 cx_cl (cx_w g σ) H → va_S A s.heap H locs → W p l e Rm s m args below meth c H locs cells slots Q (F0 m pc la [.long x])) ∧
  (ret = none → ∀ (pc : Nat) (la : Array Slot) (σ : ab_S) (H : Heap) (locs : List Loc), decode cc pc = .ok (.return_, 1) → R none σ → va_P g.2.2.2.1 cx_cl (cx_w g σ) H → va_S A s.heap H locs → W p l e Rm s m args below meth c H locs cells slots Q (F0 m pc la []))
theorem sn_iret {ty : FieldType} (hR : cx_RS g p l e Rm s m args below meth c A cc (some ty) cells slots Q R) (hd : decode cc pc = .ok (.ireturn, 1)) (h : tm_iret ty st σ R) : cx_W g p l e Rm s m args below meth c A n cells slots Q pc ls st σ := by
  intro H locs la hP hS hL
  unfold tm_iret at h
  split at h
  · exact hR.1 ty rfl pc la _ σ H locs hd h.1 h.2 hP hS
  · exact h.elim
theorem sn_lret (hR : cx_RS g p l e Rm s m args below meth c A cc (some .long) cells slots Q R) (hd : decode cc pc = .ok (.lreturn, 1)) (h : tm_lret st σ R) : cx_W g p l e Rm s m args below meth c A n cells slots Q pc ls st σ := by
  intro H locs la hP hS hL
  unfold tm_lret at h
  split at h
  · exact hR.2.1 rfl pc la _ σ H locs hd h hP hS
  · exact h.elim
theorem sn_ret (hR : cx_RS g p l e Rm s m args below meth c A cc none cells slots Q R) (hd : decode cc pc = .ok (.return_, 1)) (h : tm_ret st σ R) : cx_W g p l e Rm s m args below meth c A n cells slots Q pc ls st σ := by
  intro H locs la hP hS hL
  unfold tm_ret at h
  split at h
  · exact hR.2.2 rfl pc la σ H locs hd h hP hS
  · exact h.elim
end SE
/-- a block is sound in method q (whose class is own) under calls C -/
def cx_Bk (mt : Nat → cx_M) (q : cx_M) (own : String) (C : ab_C) (pc : Nat) (b : ab_B) : Prop :=
  ∀ (g : cx_G) (p : Program) (l : Launch) (e : Env) (Rm : Room) (s : State) (m : MethodId) (args : Array Value) (below : List Frame) (meth : Method) (c : Code) (A : Nat → Prop) (d cells slots : Nat) (Q : State → Prop) (R : ab_R),
  cx_X g p Rm s m args c A q.2.1 q.2.2.1 d own cells slots → cx_CS g l mt C d → cx_RS g p l e Rm s m args below meth c A q.2.1 q.2.2.2 cells slots Q R →
  ∀ (K : ab_K), (∀ pc ls st σ, K pc ls st σ → cx_W g p l e Rm s m args below meth c A q.2.2.1 cells slots Q pc ls st σ) → ∀ ls st σ, b ls st σ K R → cx_W g p l e Rm s m args below meth c A q.2.2.1 cells slots Q pc ls st σ
theorem cx_look {mt : Nat → cx_M} {q : cx_M} {own : String} {C : ab_C} : ∀ {bs : List (Nat × ab_B)}, (∀ b ∈ bs, cx_Bk mt q own C b.1 b.2) → ∀ pc, cx_Bk mt q own C pc (ab_look bs pc)
  | [], _, pc => fun g p l e Rm s m args below meth c A d cells slots Q R _ _ _ K _ ls st σ h => h.elim
  | b :: r, hb, pc => by
    unfold ab_look
    by_cases hp : pc = b.1
    · rw [if_pos hp, hp]
      exact hb b List.mem_cons_self
    · rw [if_neg hp]
      exact cx_look (fun x hx => hb x (List.mem_cons_of_mem _ hx)) pc
theorem cx_RS.mono {g : cx_G} {p : Program} {l : Launch} {e : Env} {Rm : Room} {s : State} {m : MethodId} {args : Array Value} {below : List Frame} {meth : Method} {c : Code} {A : Nat → Prop} {cc : ByteArray} {ret : Option FieldType} {cells slots : Nat} {Q : State → Prop} {R R' : ab_R} (h : cx_RS g p l e Rm s m args below meth c A cc ret cells slots Q R) (hR : ∀ v σ, R' v σ → R v σ) : cx_RS g p l e Rm s m args below meth c A cc ret cells slots Q R' :=
  ⟨fun ty hty pc la x σ H locs hd hn hr hP hS => h.1 ty hty pc la x σ H locs hd hn (hR _ _ hr) hP hS, fun hty pc la x σ H locs hd hr hP hS => h.2.1 hty pc la x σ H locs hd (hR _ _ hr) hP hS, fun hty pc la σ H locs hd hr hP hS => h.2.2 hty pc la σ H locs hd (hR _ _ hr) hP hS⟩
/-- from the abstract machine to the machine -/
theorem cx_run {mt : Nat → cx_M} {q : cx_M} {own : String} {C : ab_C} {T : Nat → ab_B} (hT : ∀ pc, cx_Bk mt q own C pc (T pc)) {g : cx_G} {p : Program} {l : Launch} {e : Env} {Rm : Room} {s : State} {m : MethodId} {args : Array Value} {below : List Frame} {meth : Method} {c : Code} {A : Nat → Prop} {d cells slots : Nat} {Q : State → Prop} {R : ab_R}
    (X : cx_X g p Rm s m args c A q.2.1 q.2.2.1 d own cells slots) (hC : cx_CS g l mt C d) (hR : cx_RS g p l e Rm s m args below meth c A q.2.1 q.2.2.2 cells slots Q R) {pc : Nat} {ls : ab_L} {st : List Value} {σ : ab_S} (h : ab_E T R pc ls st σ) : cx_W g p l e Rm s m args below meth c A q.2.2.1 cells slots Q pc ls st σ :=
  h _ (fun pc ls st σ K' R' hK hR' h => hT pc g p l e Rm s m args below meth c A d cells slots Q R' X hC (hR.mono hR') K' hK ls st σ h) (fun _ _ _ _ _ h hw => hw.weak h)
