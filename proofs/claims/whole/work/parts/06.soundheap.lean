/-! SOUNDNESS of fields, arrays, texts -/
section SH
variable {g : cx_G} {p : Program} {l : Launch} {e : Env} {Rm : Room} {s : State} {m : MethodId} {args : Array Value} {below : List Frame} {meth : Method} {c : Code} {A : Nat → Prop} {cc : ByteArray} {n d : Nat} {own : String} {cells slots : Nat} {Q : State → Prop}
variable {pc : Nat} {ls : ab_L} {st : List Value} {σ : ab_S} {k : ab_O}
theorem cx_he {g : cx_G} (σ : ab_S) {a ci : Nat} (h : ab_sh a = (0, ci)) : (cx_w g σ)[a]? = some (cx_ad g a, .inr (ci, (List.range (ab_nf ci)).map fun i => cx_v g (ab_fv σ a ci i))) := by
  rw [cx_get g σ (ab_shlt h (by omega)), cx_celO h]
theorem cx_hv {g : cx_G} {σ : ab_S} {a ci i : Nat} {v : Value} (hi : i < ab_nf ci) (hv : ab_fv σ a ci i = v) : ((List.range (ab_nf ci)).map fun i => cx_v g (ab_fv σ a ci i))[i]? = some (cx_v g v) := by
  simp [hi, hv]
theorem sn_getI (X : cx_X g p Rm s m args c A cc n d own cells slots) {ci i idx : Nat} {q : vw_C} (hc : cx_cl[ci]? = some q) (hi : i < q.2.2) (hf : ab_fk ci i = 0) (hw : Cond.fieldLink own idx (q.2.1 i).1 (q.2.1 i).2.1 (q.2.1 i).2.2.1 ∈ cx_WS) (hd : decode cc pc = .ok (.getfield idx, 3)) (h : op_getI ci i ls st σ k) (hk : ∀ ls st σ, k ls st σ → cx_W g p l e Rm s m args below meth c A n cells slots Q (pc + 3) ls st σ) : cx_W g p l e Rm s m args below meth c A n cells slots Q pc ls st σ := by
  intro H locs la hP hS hL
  unfold op_getI at h
  split at h
  · exact va_get X.1 X.2.1 X.2.2.2.2.1 (cx_clIn hc) X.2.2.2.1 X.2.2.2.2.2.1.1 hP _ (cx_he σ h.1) hc i hi (X.2.2.2.2.1 _ hw) (fun _ h => h) (cx_hv (by rw [cx_clNf hc]; exact hi) (by unfold ab_fv; rw [hf])) hd (hk _ _ _ h.2 H locs la hP hS hL)
  · exact h.elim
theorem sn_getL (X : cx_X g p Rm s m args c A cc n d own cells slots) {ci i idx : Nat} {q : vw_C} (hc : cx_cl[ci]? = some q) (hi : i < q.2.2) (hf : ab_fk ci i = 1) (hw : Cond.fieldLink own idx (q.2.1 i).1 (q.2.1 i).2.1 (q.2.1 i).2.2.1 ∈ cx_WS) (hd : decode cc pc = .ok (.getfield idx, 3)) (h : op_getL ci i ls st σ k) (hk : ∀ ls st σ, k ls st σ → cx_W g p l e Rm s m args below meth c A n cells slots Q (pc + 3) ls st σ) : cx_W g p l e Rm s m args below meth c A n cells slots Q pc ls st σ := by
  intro H locs la hP hS hL
  unfold op_getL at h
  split at h
  · exact va_get X.1 X.2.1 X.2.2.2.2.1 (cx_clIn hc) X.2.2.2.1 X.2.2.2.2.2.1.1 hP _ (cx_he σ h.1) hc i hi (X.2.2.2.2.1 _ hw) (fun _ h => h) (cx_hv (by rw [cx_clNf hc]; exact hi) (by unfold ab_fv; rw [hf])) hd (hk _ _ _ h.2 H locs la hP hS hL)
  · exact h.elim
theorem sn_getR (X : cx_X g p Rm s m args c A cc n d own cells slots) {ci i o idx : Nat} {q : vw_C} (hc : cx_cl[ci]? = some q) (hi : i < q.2.2) (hf : ab_fk ci i = o + 2) (hw : Cond.fieldLink own idx (q.2.1 i).1 (q.2.1 i).2.1 (q.2.1 i).2.2.1 ∈ cx_WS) (hd : decode cc pc = .ok (.getfield idx, 3)) (h : op_getR ci o ls st σ k) (hk : ∀ ls st σ, k ls st σ → cx_W g p l e Rm s m args below meth c A n cells slots Q (pc + 3) ls st σ) : cx_W g p l e Rm s m args below meth c A n cells slots Q pc ls st σ := by
  intro H locs la hP hS hL
  unfold op_getR at h
  split at h
  · exact va_get X.1 X.2.1 X.2.2.2.2.1 (cx_clIn hc) X.2.2.2.1 X.2.2.2.2.2.1.1 hP _ (cx_he σ h.1) hc i hi (X.2.2.2.2.1 _ hw) (fun _ h => h) (cx_hv (by rw [cx_clNf hc]; exact hi) (by unfold ab_fv; rw [hf])) hd (hk _ _ _ h.2 H locs la hP hS hL)
  · exact h.elim
theorem sn_putI (X : cx_X g p Rm s m args c A cc n d own cells slots) {ci i idx : Nat} {q : vw_C} (hc : cx_cl[ci]? = some q) (hi : i < q.2.2) (hf : ab_fk ci i = 0) (hfi : (q.2.1 i).2.2.2 = false) (hty : cx_ty ci i = .int) (hw : Cond.fieldLink own idx (q.2.1 i).1 (q.2.1 i).2.1 (q.2.1 i).2.2.1 ∈ cx_WS) (hd : decode cc pc = .ok (.putfield idx, 3)) (h : op_putI ci i ls st σ k) (hk : ∀ ls st σ, k ls st σ → cx_W g p l e Rm s m args below meth c A n cells slots Q (pc + 3) ls st σ) : cx_W g p l e Rm s m args below meth c A n cells slots Q pc ls st σ := by
  intro H locs la hP hS hL
  unfold op_putI at h
  split at h
  · next v a st =>
    refine va_put X.1 X.2.1 X.2.2.2.2.1 (cx_clIn hc) (cx_ty ci) (cx_clTy hc) (cx_clNm hc) X.2.2.2.1 X.2.2.2.2.2.1.1 hP (cx_D X.2.2.2.2.2.2.1 σ) hS _ (cx_he σ h.1) hc i hi (X.2.2.2.2.1 _ hw) (fun _ h => h) hfi (cx_clTy hc i hi) (by rw [hty]; rfl) (by rw [hty]; rfl) (by simp; rw [cx_clNf hc]; exact hi) hd (fun H1 locs1 hP1 _ hS1 => ?_)
    refine hk _ _ _ h.2 H1 locs1 la ?_ hS1 hL
    rw [← cx_set (g := g) (σ := σ) (σ' := (ab_pI σ.1 a i v, σ.2)) (k := a) (e := .inr (ci, ((List.range (ab_nf ci)).map fun i => cx_v g (ab_fv σ a ci i)).set i (.int v))) ?_ (fun j hj => cx_same (ab_pI_ne hj) rfl)]
    · exact hP1
    · rw [cx_celO h.1]
      refine congrArg _ (congrArg _ (cx_objset (v := .int v) (fun j => ?_)).symm)
      by_cases hj : j = i
      · subst hj
        rw [if_pos rfl]
        unfold ab_fv
        rw [hf]
        simp [ab_pI]
      · rw [if_neg hj]
        unfold ab_fv
        simp [ab_pI, hj]
  · exact h.elim
theorem sn_putL (X : cx_X g p Rm s m args c A cc n d own cells slots) {ci i idx : Nat} {q : vw_C} (hc : cx_cl[ci]? = some q) (hi : i < q.2.2) (hf : ab_fk ci i = 1) (hfi : (q.2.1 i).2.2.2 = false) (hty : cx_ty ci i = .long) (hw : Cond.fieldLink own idx (q.2.1 i).1 (q.2.1 i).2.1 (q.2.1 i).2.2.1 ∈ cx_WS) (hd : decode cc pc = .ok (.putfield idx, 3)) (h : op_putL ci i ls st σ k) (hk : ∀ ls st σ, k ls st σ → cx_W g p l e Rm s m args below meth c A n cells slots Q (pc + 3) ls st σ) : cx_W g p l e Rm s m args below meth c A n cells slots Q pc ls st σ := by
  intro H locs la hP hS hL
  unfold op_putL at h
  split at h
  · next v a st =>
    refine va_put X.1 X.2.1 X.2.2.2.2.1 (cx_clIn hc) (cx_ty ci) (cx_clTy hc) (cx_clNm hc) X.2.2.2.1 X.2.2.2.2.2.1.1 hP (cx_D X.2.2.2.2.2.2.1 σ) hS _ (cx_he σ h.1) hc i hi (X.2.2.2.2.1 _ hw) (fun _ h => h) hfi (cx_clTy hc i hi) (by rw [hty]; rfl) (by rw [hty]; rfl) (by simp; rw [cx_clNf hc]; exact hi) hd (fun H1 locs1 hP1 _ hS1 => ?_)
    refine hk _ _ _ h.2 H1 locs1 la ?_ hS1 hL
    rw [← cx_set (g := g) (σ := σ) (σ' := (σ.1, ab_pL σ.2 a i v)) (k := a) (e := .inr (ci, ((List.range (ab_nf ci)).map fun i => cx_v g (ab_fv σ a ci i)).set i (.long v))) ?_ (fun j hj => cx_same rfl (ab_pL_ne hj))]
    · exact hP1
    · rw [cx_celO h.1]
      refine congrArg _ (congrArg _ (cx_objset (v := .long v) (fun j => ?_)).symm)
      by_cases hj : j = i
      · subst hj
        rw [if_pos rfl]
        unfold ab_fv
        rw [hf]
        simp [ab_pL]
      · rw [if_neg hj]
        unfold ab_fv
        simp [ab_pL, hj]
  · exact h.elim
theorem cx_h1 {g : cx_G} (σ : ab_S) {a n : Nat} (h : ab_sh a = (1, n)) : (cx_w g σ)[a]? = some (cx_ad g a, .inl (g.2.2.2.2.1 0, n, .inl (σ.1 a))) := by
  rw [cx_get g σ (ab_shlt h (by omega)), cx_cel1 h]
theorem cx_h2 {g : cx_G} (σ : ab_S) {a n : Nat} (h : ab_sh a = (2, n)) : (cx_w g σ)[a]? = some (cx_ad g a, .inl (g.2.2.2.2.1 1, n, .inl (σ.1 a))) := by
  rw [cx_get g σ (ab_shlt h (by omega)), cx_cel2 h]
theorem cx_h3 {g : cx_G} (σ : ab_S) {a n : Nat} (h : ab_sh a = (3, n)) : (cx_w g σ)[a]? = some (cx_ad g a, .inl (g.2.2.2.2.1 2, n, .inr (.inl (σ.2 a)))) := by
  rw [cx_get g σ (ab_shlt h (by omega)), cx_cel3 h]
theorem cx_h4 {g : cx_G} (σ : ab_S) {a n : Nat} (h : ab_sh a = (4, n)) : (cx_w g σ)[a]? = some (cx_ad g a, .inl (g.2.2.2.2.1 3, n, .inr (.inr (.inr (.inr fun i => some (cx_ad g (26 + 9 * i))))))) := by
  rw [cx_get g σ (ab_shlt h (by omega)), cx_cel4 h]
theorem cx_h5 {g : cx_G} (σ : ab_S) {a n : Nat} (h : ab_sh a = (5, n)) : (cx_w g σ)[a]? = some (cx_ad g a, .inl (g.2.2.2.2.1 4, n, .inr (.inr (.inr (.inr fun i => some (cx_ad g (44 + 3 * i))))))) := by
  rw [cx_get g σ (ab_shlt h (by omega)), cx_cel5 h]
theorem sn_iald (X : cx_X g p Rm s m args c A cc n d own cells slots) {N : Nat} (hd : decode cc pc = .ok (.iaload, 1)) (h : op_iald N ls st σ k) (hk : ∀ ls st σ, k ls st σ → cx_W g p l e Rm s m args below meth c A n cells slots Q (pc + 1) ls st σ) : cx_W g p l e Rm s m args below meth c A n cells slots Q pc ls st σ := by
  intro H locs la hP hS hL
  unfold op_iald at h
  split at h
  · exact va_iald X.1 X.2.1 X.2.2.2.2.2.1.1 hP _ 0 (cx_h1 σ h.1) rfl h.2.1 hd (hk _ _ _ h.2.2 H locs la hP hS hL)
  · exact h.elim
theorem sn_zald (X : cx_X g p Rm s m args c A cc n d own cells slots) {N : Nat} (hd : decode cc pc = .ok (.baload, 1)) (h : op_zald N ls st σ k) (hk : ∀ ls st σ, k ls st σ → cx_W g p l e Rm s m args below meth c A n cells slots Q (pc + 1) ls st σ) : cx_W g p l e Rm s m args below meth c A n cells slots Q pc ls st σ := by
  intro H locs la hP hS hL
  unfold op_zald at h
  split at h
  · exact va_zald X.1 X.2.1 X.2.2.2.2.2.1.1 hP _ 1 (cx_h2 σ h.1) rfl h.2.1 hd (hk _ _ _ h.2.2 H locs la hP hS hL)
  · exact h.elim
theorem sn_lald (X : cx_X g p Rm s m args c A cc n d own cells slots) {N : Nat} (hd : decode cc pc = .ok (.laload, 1)) (h : op_lald N ls st σ k) (hk : ∀ ls st σ, k ls st σ → cx_W g p l e Rm s m args below meth c A n cells slots Q (pc + 1) ls st σ) : cx_W g p l e Rm s m args below meth c A n cells slots Q pc ls st σ := by
  intro H locs la hP hS hL
  unfold op_lald at h
  split at h
  · exact va_lald X.1 X.2.1 X.2.2.2.2.2.1.1 hP _ 2 (cx_h3 σ h.1) rfl h.2.1 hd (hk _ _ _ h.2.2 H locs la hP hS hL)
  · exact h.elim
theorem sn_gald (X : cx_X g p Rm s m args c A cc n d own cells slots) (hd : decode cc pc = .ok (.aaload, 1)) (h : op_gald ls st σ k) (hk : ∀ ls st σ, k ls st σ → cx_W g p l e Rm s m args below meth c A n cells slots Q (pc + 1) ls st σ) : cx_W g p l e Rm s m args below meth c A n cells slots Q pc ls st σ := by
  intro H locs la hP hS hL
  unfold op_gald at h
  split at h
  · exact va_aldq X.1 X.2.1 X.2.2.2.2.2.1.1 hP _ 3 (cx_h4 σ h.1) rfl h.2.1 hd (hk _ _ _ h.2.2 H locs la hP hS hL)
  · exact h.elim
theorem sn_bald (X : cx_X g p Rm s m args c A cc n d own cells slots) (hd : decode cc pc = .ok (.aaload, 1)) (h : op_bald ls st σ k) (hk : ∀ ls st σ, k ls st σ → cx_W g p l e Rm s m args below meth c A n cells slots Q (pc + 1) ls st σ) : cx_W g p l e Rm s m args below meth c A n cells slots Q pc ls st σ := by
  intro H locs la hP hS hL
  unfold op_bald at h
  split at h
  · exact va_aldq X.1 X.2.1 X.2.2.2.2.2.1.1 hP _ 4 (cx_h5 σ h.1) rfl h.2.1 hd (hk _ _ _ h.2.2 H locs la hP hS hL)
  · exact h.elim
theorem sn_iast (X : cx_X g p Rm s m args c A cc n d own cells slots) {N : Nat} (hd : decode cc pc = .ok (.iastore, 1)) (h : op_iast N ls st σ k) (hk : ∀ ls st σ, k ls st σ → cx_W g p l e Rm s m args below meth c A n cells slots Q (pc + 1) ls st σ) : cx_W g p l e Rm s m args below meth c A n cells slots Q pc ls st σ := by
  intro H locs la hP hS hL
  unfold op_iast at h
  split at h
  · refine va_iast X.1 X.2.1 X.2.2.2.2.2.1.1 hP (cx_D X.2.2.2.2.2.2.1 σ) hS _ 0 (cx_h1 σ h.1) rfl h.2.1 hd (fun H1 locs1 hP1 _ hS1 => hk _ _ _ h.2.2 H1 locs1 la ?_ hS1 hL)
    rw [cx_set (σ := σ) (σ' := (ab_pI σ.1 _ _ _, σ.2)) ?_ (fun j hj => cx_same (ab_pI_ne hj) rfl)] at hP1
    · exact hP1
    · simp only [cx_cel1 h.1, ab_pI_eq]
  · exact h.elim
theorem sn_zast (X : cx_X g p Rm s m args c A cc n d own cells slots) {N : Nat} (hd : decode cc pc = .ok (.bastore, 1)) (h : op_zast N ls st σ k) (hk : ∀ ls st σ, k ls st σ → cx_W g p l e Rm s m args below meth c A n cells slots Q (pc + 1) ls st σ) : cx_W g p l e Rm s m args below meth c A n cells slots Q pc ls st σ := by
  intro H locs la hP hS hL
  unfold op_zast at h
  split at h
  · refine va_zast X.1 X.2.1 X.2.2.2.2.2.1.1 hP (cx_D X.2.2.2.2.2.2.1 σ) hS _ 1 (cx_h2 σ h.1) rfl h.2.1 hd (fun H1 locs1 hP1 _ hS1 => hk _ _ _ h.2.2 H1 locs1 la ?_ hS1 hL)
    rw [cx_set (σ := σ) (σ' := (ab_pI σ.1 _ _ _, σ.2)) ?_ (fun j hj => cx_same (ab_pI_ne hj) rfl)] at hP1
    · exact hP1
    · simp only [cx_cel2 h.1, ab_pI_eq]
  · exact h.elim
theorem sn_last (X : cx_X g p Rm s m args c A cc n d own cells slots) {N : Nat} (hd : decode cc pc = .ok (.lastore, 1)) (h : op_last N ls st σ k) (hk : ∀ ls st σ, k ls st σ → cx_W g p l e Rm s m args below meth c A n cells slots Q (pc + 1) ls st σ) : cx_W g p l e Rm s m args below meth c A n cells slots Q pc ls st σ := by
  intro H locs la hP hS hL
  unfold op_last at h
  split at h
  · refine va_last X.1 X.2.1 X.2.2.2.2.2.1.1 hP (cx_D X.2.2.2.2.2.2.1 σ) hS _ 2 (cx_h3 σ h.1) rfl h.2.1 hd (fun H1 locs1 hP1 _ hS1 => hk _ _ _ h.2.2 H1 locs1 la ?_ hS1 hL)
    rw [cx_set (σ := σ) (σ' := (σ.1, ab_pL σ.2 _ _ _)) ?_ (fun j hj => cx_same rfl (ab_pL_ne hj))] at hP1
    · exact hP1
    · simp only [cx_cel3 h.1, ab_pL_eq]
  · exact h.elim
theorem sn_alen (X : cx_X g p Rm s m args c A cc n d own cells slots) {t N : Nat} (ht : 0 < t ∧ t < 6) (hd : decode cc pc = .ok (.arraylength, 1)) (h : op_alen t N ls st σ k) (hk : ∀ ls st σ, k ls st σ → cx_W g p l e Rm s m args below meth c A n cells slots Q (pc + 1) ls st σ) : cx_W g p l e Rm s m args below meth c A n cells slots Q pc ls st σ := by
  intro H locs la hP hS hL
  unfold op_alen at h
  split at h
  · obtain ⟨t0, t6⟩ := ht
    have kk := hk _ _ _ h.2 H locs la hP hS hL
    match t, t0, t6, h with
    | 1, _, _, h => exact va_alen X.1 X.2.1 X.2.2.2.2.2.1.1 hP _ 0 (cx_h1 σ h.1) rfl rfl hd kk
    | 2, _, _, h => exact va_alen X.1 X.2.1 X.2.2.2.2.2.1.1 hP _ 1 (cx_h2 σ h.1) rfl rfl hd kk
    | 3, _, _, h => exact va_alen X.1 X.2.1 X.2.2.2.2.2.1.1 hP _ 2 (cx_h3 σ h.1) rfl rfl hd kk
    | 4, _, _, h => exact va_alen X.1 X.2.1 X.2.2.2.2.2.1.1 hP _ 3 (cx_h4 σ h.1) rfl rfl hd kk
    | 5, _, _, h => exact va_alen X.1 X.2.1 X.2.2.2.2.2.1.1 hP _ 4 (cx_h5 σ h.1) rfl rfl hd kk
    | n + 6, _, h6, _ => omega
  · exact h.elim
theorem sn_copy (X : cx_X g p Rm s m args c A cc n d own cells slots) {N0 N1 idx : Nat} (hw : Cond.methodLink own idx arraycopyName ∈ cx_WS) (hw2 : Cond.native arraycopyName ∈ cx_WS) (hw3 : Cond.static arraycopyName ∈ cx_WS) (hw4 : Cond.initialized "java/lang/System" ∈ cx_WS) (hd : decode cc pc = .ok (.invokestatic idx, 3)) (h : op_copy N0 N1 ls st σ k) (hk : ∀ ls st σ, k ls st σ → cx_W g p l e Rm s m args below meth c A n cells slots Q (pc + 3) ls st σ) : cx_W g p l e Rm s m args below meth c A n cells slots Q pc ls st σ := by
  intro H locs la hP hS hL
  unfold op_copy at h
  split at h
  · next N dp b sp a st =>
    obtain ⟨h1, h2, h3, h4, h5, h6, h7, h8, h9⟩ := h
    have hsum : ((st.map (cx_v g)).map fun v => v.category).sum = (st.map fun v => v.category).sum := by
      rw [List.map_map]
      congr 1
      exact List.map_congr_left fun v _ => cx_cat X.2.2.2.2.2.1.2.2.2.2.2.2.2 v
    refine va_copyi X.1 X.2.1 (X.2.2.1.trans hL.1.symm) X.2.2.2.1 (X.2.2.2.2.1 _ hw) (X.2.2.2.2.1 _ hw2) (X.2.2.2.2.1 _ hw3) (X.2.2.2.2.1 _ hw4) X.2.2.2.2.2.1.1 hP (cx_D X.2.2.2.2.2.2.1 σ) hS _ _ 0 0 (cx_h1 σ h1) (cx_h1 σ h2) rfl rfl rfl h3 h4 h5 h6 h7 (fun _ _ => rfl) (by have := X.2.2.2.2.2.2.2.1.1; omega) (by
      rw [hsum]
      have := X.2.2.2.2.2.2.2.1.2
      have e : nativeFrameWords "java/lang/System" "arraycopy" 5 ≤ 40 := by decide +kernel
      omega) hd (fun H1 locs1 hP1 _ hS1 => hk _ _ _ h9 H1 locs1 la ?_ hS1 hL)
    rw [cx_set (σ := σ) (σ' := ((fun q => if q = b then va_cpy (σ.1 a) (σ.1 b) sp.toNatClampNeg dp.toNatClampNeg N.toNatClampNeg else σ.1 q), σ.2)) ?_ (fun j hj => cx_same (if_neg hj) rfl)] at hP1
    · exact hP1
    · rw [cx_cel1 h2]
      simp
  · exact h.elim
theorem cx_adK {g : cx_G} {a : Nat} (h1 : 64 ≤ a) (h2 : a < 71) : cx_ad g a = g.2.1 (a - 64) := by
  unfold cx_ad
  rw [if_neg (by omega), if_pos h2]
theorem cx_adV {g : cx_G} {a : Nat} (h1 : 71 ≤ a) : cx_ad g a = g.2.2.1 (a - 71) := by
  unfold cx_ad
  rw [if_neg (by omega), if_neg (by omega)]
theorem sn_tval (X : cx_X g p Rm s m args c A cc n d own cells slots) {idx : Nat} (hw : Cond.fieldLink own idx "java/lang/String" "value" "[B" ∈ cx_WS) (hd : decode cc pc = .ok (.getfield idx, 3)) (h : op_tval ls st σ k) (hk : ∀ ls st σ, k ls st σ → cx_W g p l e Rm s m args below meth c A n cells slots Q (pc + 3) ls st σ) : cx_W g p l e Rm s m args below meth c A n cells slots Q pc ls st σ := by
  intro H locs la hP hS hL
  unfold op_tval at h
  split at h
  · next a st =>
    obtain ⟨⟨h1, h2⟩, h⟩ := h
    have hE := (X.2.2.2.2.2.1.2.1.1 (a - 64) (by omega)).2.2.1
    have hh : ∀ a : Nat, 64 ≤ a → cx_ad g (a + 7) = g.2.2.1 (a - 64) := fun a h => by rw [cx_adV (by omega), show a + 7 - 71 = a - 64 by omega]
    rw [← cx_adK h1 h2, ← hh a h1] at hE
    exact vk_getf X.1 X.2.1 hE hS X.2.2.2.1 (X.2.2.2.2.1 _ hw) (fun _ h => h) hd (hk _ _ _ h H locs la hP hS hL)
  · exact h.elim
theorem sn_tcod (X : cx_X g p Rm s m args c A cc n d own cells slots) {idx : Nat} (hw : Cond.fieldLink own idx "java/lang/String" "coder" "B" ∈ cx_WS) (hd : decode cc pc = .ok (.getfield idx, 3)) (h : op_tcod ls st σ k) (hk : ∀ ls st σ, k ls st σ → cx_W g p l e Rm s m args below meth c A n cells slots Q (pc + 3) ls st σ) : cx_W g p l e Rm s m args below meth c A n cells slots Q pc ls st σ := by
  intro H locs la hP hS hL
  unfold op_tcod at h
  split at h
  · next a st =>
    obtain ⟨⟨h1, h2⟩, h⟩ := h
    have hE := (X.2.2.2.2.2.1.2.1.1 (a - 64) (by omega)).2.1
    rw [← cx_adK h1 h2] at hE
    exact vk_getf X.1 X.2.1 hE hS X.2.2.2.1 (X.2.2.2.2.1 _ hw) (fun _ h => h) hd (hk _ _ _ h H locs la hP hS hL)
  · exact h.elim
theorem sn_tlen (X : cx_X g p Rm s m args c A cc n d own cells slots) (hd : decode cc pc = .ok (.arraylength, 1)) (h : op_tlen ls st σ k) (hk : ∀ ls st σ, k ls st σ → cx_W g p l e Rm s m args below meth c A n cells slots Q (pc + 1) ls st σ) : cx_W g p l e Rm s m args below meth c A n cells slots Q pc ls st σ := by
  intro H locs la hP hS hL
  unfold op_tlen at h
  split at h
  · next a st =>
    obtain ⟨⟨h1, h2⟩, h⟩ := h
    have hE := (X.2.2.2.2.2.1.2.1.1 (a - 71) (by omega)).2.2.2
    rw [← cx_adV h1] at hE
    exact va_tlen X.1 X.2.1 hE hS rfl hd (hk _ _ _ h H locs la hP hS hL)
  · exact h.elim
theorem sn_tald (X : cx_X g p Rm s m args c A cc n d own cells slots) (hd : decode cc pc = .ok (.baload, 1)) (h : op_tald ls st σ k) (hk : ∀ ls st σ, k ls st σ → cx_W g p l e Rm s m args below meth c A n cells slots Q (pc + 1) ls st σ) : cx_W g p l e Rm s m args below meth c A n cells slots Q pc ls st σ := by
  intro H locs la hP hS hL
  unfold op_tald at h
  split at h
  · next i a st =>
    obtain ⟨⟨h1, h2⟩, h⟩ := h
    have hE := (X.2.2.2.2.2.1.2.1.1 (a - 71) (by omega)).2.2.2
    rw [← cx_adV h1] at hE
    exact va_tb X.1 X.2.1 hE hS h.1 rfl hd (hk _ _ _ h.2 H locs la hP hS hL)
  · exact h.elim
theorem sn_compact (X : cx_X g p Rm s m args c A cc n d own cells slots) {idx : Nat} (hw : Cond.fieldLink own idx "java/lang/String" "COMPACT_STRINGS" "Z" ∈ cx_WS) (hd : decode cc pc = .ok (.getstatic idx, 3)) (h : op_const (.int 1) ls st σ k) (hk : ∀ ls st σ, k ls st σ → cx_W g p l e Rm s m args below meth c A n cells slots Q (pc + 3) ls st σ) : cx_W g p l e Rm s m args below meth c A n cells slots Q pc ls st σ :=
  fun H locs la hP hS hL => va_gets X.1 X.2.1 X.2.2.2.2.2.1.2.2.1 hS X.2.2.2.1 (X.2.2.2.2.1 _ hw) (fun _ h => h) hd (hk _ _ _ h H locs la hP hS hL)
theorem sn_sioobe (X : cx_X g p Rm s m args c A cc n d own cells slots) {idx : Nat} (hw : Cond.fieldLink own idx "jdk/internal/util/Preconditions" "SIOOBE_FORMATTER" "Ljava/util/function/BiFunction;" ∈ cx_WS) (hd : decode cc pc = .ok (.getstatic idx, 3)) (h : op_const (.retAddr 0) ls st σ k) (hk : ∀ ls st σ, k ls st σ → cx_W g p l e Rm s m args below meth c A n cells slots Q (pc + 3) ls st σ) : cx_W g p l e Rm s m args below meth c A n cells slots Q pc ls st σ :=
  fun H locs la hP hS hL => va_gets X.1 X.2.1 X.2.2.2.2.2.1.2.2.2.1 hS X.2.2.2.1 (X.2.2.2.2.1 _ hw) (fun _ h => h) hd (hk _ _ _ h H locs la hP hS hL)
theorem sn_text (X : cx_X g p Rm s m args c A cc n d "FoxGeese$Reader" cells slots) {idx j : Nat} {tx : String} (hj : cx_txk[j]? = some (idx, tx)) (hd : decode cc pc = .ok (.ldc idx, 2)) (h : op_const (.ref (64 + j)) ls st σ k) (hk : ∀ ls st σ, k ls st σ → cx_W g p l e Rm s m args below meth c A n cells slots Q (pc + 2) ls st σ) : cx_W g p l e Rm s m args below meth c A n cells slots Q pc ls st σ := by
  intro H locs la hP hS hL
  have hR := X.2.2.2.2.2.1.2.2.2.2.1 j _ hj
  have hl : j < 7 := (List.getElem?_eq_some_iff.mp hj).1
  have e : g.2.1 j = cx_ad g (64 + j) := by rw [cx_adK (by omega) (by omega), show 64 + j - 64 = j by omega]
  rw [e] at hR
  exact va_ldcS X.1 X.2.1 X.2.2.2.1 hR hd (hk _ _ _ h H locs la hP hS hL)
end SH
