/-! THE WORLD that a data state stands for -/
abbrev cx_G : Type := {f : Nat → Nat // ∀ i j, i < 64 → j < 64 → f i = f j → i = j} × (Nat → Nat) × (Nat → Nat) × va_G × (Nat → ClassId) × Value
def cx_ad (g : cx_G) (k : Nat) : Nat := if k < 64 then g.1.1 k else if k < 71 then g.2.1 (k - 64) else g.2.2.1 (k - 71)
def cx_v (g : cx_G) : Value → Value
  | .ref k => .ref (cx_ad g k)
  | .retAddr _ => g.2.2.2.2.2
  | v => v
def cx_cel (g : cx_G) (σ : ab_S) (k : Nat) : va_E := match ab_sh k with
  | (0, ci) => .inr (ci, (List.range (ab_nf ci)).map fun i => cx_v g (ab_fv σ k ci i))
  | (1, n) => .inl (g.2.2.2.2.1 0, n, .inl (σ.1 k))
  | (2, n) => .inl (g.2.2.2.2.1 1, n, .inl (σ.1 k))
  | (3, n) => .inl (g.2.2.2.2.1 2, n, .inr (.inl (σ.2 k)))
  | (4, n) => .inl (g.2.2.2.2.1 3, n, .inr (.inr (.inr (.inr fun i => some (cx_ad g (26 + 9 * i))))))
  | (_, n) => .inl (g.2.2.2.2.1 4, n, .inr (.inr (.inr (.inr fun i => some (cx_ad g (44 + 3 * i))))))
def cx_w (g : cx_G) (σ : ab_S) : va_W := (List.range 64).map fun k => (cx_ad g k, cx_cel g σ k)
def cx_ts (g : cx_G) : List (ClassId × FieldType) := [(g.2.2.2.2.1 0, .int), (g.2.2.2.2.1 1, .boolean), (g.2.2.2.2.1 2, .long), (g.2.2.2.2.1 3, .object "FoxGeese$Game"), (g.2.2.2.2.1 4, .object "FoxGeese$Board")]
def cx_A (g : cx_G) : Nat → Prop := fun q => ∃ k, k < 64 ∧ q = g.1.1 k
theorem cx_get (g : cx_G) (σ : ab_S) {k : Nat} (h : k < 64) : (cx_w g σ)[k]? = some (cx_ad g k, cx_cel g σ k) := by
  simp [cx_w, h]
theorem cx_len (g : cx_G) (σ : ab_S) : (cx_w g σ).length = 64 := by simp [cx_w]
theorem cx_lt {g : cx_G} {σ : ab_S} {k : Nat} {q : Nat × va_E} (h : (cx_w g σ)[k]? = some q) : k < 64 ∧ q = (cx_ad g k, cx_cel g σ k) := by
  have hl := (List.getElem?_eq_some_iff.mp h).1
  rw [cx_len] at hl
  rw [cx_get g σ hl] at h
  exact ⟨hl, (Option.some.inj h).symm⟩
theorem cx_adlt {g : cx_G} {k : Nat} (h : k < 64) : cx_ad g k = g.1.1 k := if_pos h
theorem cx_set {g : cx_G} {σ σ' : ab_S} {k : Nat} {e : va_E} (he : cx_cel g σ' k = e) (ho : ∀ j, j ≠ k → cx_cel g σ' j = cx_cel g σ j) : (cx_w g σ).set k (cx_ad g k, e) = cx_w g σ' := by
  apply List.ext_getElem?
  intro j
  by_cases hj : j < 64
  · by_cases hk : j = k
    · subst hk
      rw [List.getElem?_set_self (by rw [cx_len]; exact hj), cx_get g σ' hj, he]
    · rw [List.getElem?_set_ne (Ne.symm hk), cx_get g σ hj, cx_get g σ' hj, ho j hk]
  · rw [List.getElem?_eq_none (by simp [cx_len]; omega), List.getElem?_eq_none (by rw [cx_len]; omega)]
theorem cx_D {g : cx_G} {A : Nat → Prop} (hA : ∀ k, k < 64 → A (cx_ad g k)) (σ : ab_S) : va_D A (cx_w g σ) := by
  refine ⟨fun i j p q hi hj e => ?_, fun k q hk => ?_⟩
  · obtain ⟨h1, rfl⟩ := cx_lt hi
    obtain ⟨h2, rfl⟩ := cx_lt hj
    simp only [cx_adlt h1, cx_adlt h2] at e
    exact g.1.2 _ _ h1 h2 e
  · obtain ⟨h1, rfl⟩ := cx_lt hk
    exact hA k h1
theorem ab_shlt {k t n : Nat} (h : ab_sh k = (t, n)) (ht : t < 9) : k < 64 := by
  rcases Nat.lt_or_ge k 64 with q | q
  · exact q
  · have : ab_sh k = (9, 0) := by
      unfold ab_sh
      rw [List.getD_eq_getElem?_getD, List.getElem?_eq_none (show ab_shL.length ≤ k from q)]
      rfl
    rw [this] at h
    cases h
    omega
theorem cx_celO {g : cx_G} {σ : ab_S} {k ci : Nat} (h : ab_sh k = (0, ci)) : cx_cel g σ k = .inr (ci, (List.range (ab_nf ci)).map fun i => cx_v g (ab_fv σ k ci i)) := by
  unfold cx_cel
  rw [h]
  rfl
theorem cx_cel1 {g : cx_G} {σ : ab_S} {k n : Nat} (h : ab_sh k = (1, n)) : cx_cel g σ k = .inl (g.2.2.2.2.1 0, n, .inl (σ.1 k)) := by
  unfold cx_cel
  rw [h]
  rfl
theorem cx_cel2 {g : cx_G} {σ : ab_S} {k n : Nat} (h : ab_sh k = (2, n)) : cx_cel g σ k = .inl (g.2.2.2.2.1 1, n, .inl (σ.1 k)) := by
  unfold cx_cel
  rw [h]
  rfl
theorem cx_cel3 {g : cx_G} {σ : ab_S} {k n : Nat} (h : ab_sh k = (3, n)) : cx_cel g σ k = .inl (g.2.2.2.2.1 2, n, .inr (.inl (σ.2 k))) := by
  unfold cx_cel
  rw [h]
  rfl
theorem cx_cel4 {g : cx_G} {σ : ab_S} {k n : Nat} (h : ab_sh k = (4, n)) : cx_cel g σ k = .inl (g.2.2.2.2.1 3, n, .inr (.inr (.inr (.inr fun i => some (cx_ad g (26 + 9 * i)))))) := by
  unfold cx_cel
  rw [h]
  rfl
theorem cx_cel5 {g : cx_G} {σ : ab_S} {k n : Nat} (h : ab_sh k = (5, n)) : cx_cel g σ k = .inl (g.2.2.2.2.1 4, n, .inr (.inr (.inr (.inr fun i => some (cx_ad g (44 + 3 * i)))))) := by
  unfold cx_cel
  rw [h]
  rfl
theorem cx_same {g : cx_G} {σ σ' : ab_S} {j : Nat} (h1 : σ'.1 j = σ.1 j) (h2 : σ'.2 j = σ.2 j) : cx_cel g σ' j = cx_cel g σ j := by
  unfold cx_cel
  have hf : ∀ ci i, ab_fv σ' j ci i = ab_fv σ j ci i := fun ci i => by unfold ab_fv; rw [h1, h2]
  simp only [hf, h1, h2]
theorem ab_pI_ne {I : Nat → Nat → Int32} {k i j : Nat} {v : Int32} (h : j ≠ k) : ab_pI I k i v j = I j := by
  funext b
  simp [ab_pI, h]
theorem ab_pI_eq {I : Nat → Nat → Int32} {k i : Nat} {v : Int32} : ab_pI I k i v k = upd (I k) i v := by
  funext b
  simp [ab_pI, upd]
theorem ab_pL_ne {I : Nat → Nat → Int64} {k i j : Nat} {v : Int64} (h : j ≠ k) : ab_pL I k i v j = I j := by
  funext b
  simp [ab_pL, h]
theorem ab_pL_eq {I : Nat → Nat → Int64} {k i : Nat} {v : Int64} : ab_pL I k i v k = vp_updL (I k) i v := by
  funext b
  simp [ab_pL, vp_updL]
theorem cx_objset {g : cx_G} {σ σ' : ab_S} {k ci i : Nat} {v : Value} (h : ∀ j, ab_fv σ' k ci j = if j = i then v else ab_fv σ k ci j) : ((List.range (ab_nf ci)).map fun i => cx_v g (ab_fv σ k ci i)).set i (cx_v g v) = (List.range (ab_nf ci)).map fun i => cx_v g (ab_fv σ' k ci i) := by
  apply List.ext_getElem?
  intro j
  by_cases hj : j < ab_nf ci
  · by_cases hk : j = i
    · subst hk
      rw [List.getElem?_set_self (by simpa using hj)]
      simp [hj, h]
    · rw [List.getElem?_set_ne (Ne.symm hk)]
      simp [hj, h, hk]
  · rw [List.getElem?_eq_none (by simp; omega), List.getElem?_eq_none (by simp; omega)]
/-! locals -/
def cx_LV (g : cx_G) (la : Array Slot) (n : Nat) (ls : ab_L) : Prop := la.size = n ∧ lv_wf la ∧ ∀ i v, ab_get ls i = some v → la[i]? = some (.val (cx_v g v))
theorem ab_get_lt : ∀ {ls : ab_L} {i : Nat} {v : Value}, ab_get ls i = some v → i < ls.length
  | [], _, _, h => by simp [ab_get] at h
  | _ :: _, 0, _, _ => by simp
  | _ :: l, n + 1, _, h => by
    have := ab_get_lt (ls := l) (i := n) (by simpa [ab_get] using h)
    simp
    omega
theorem ab_get_st1 : ∀ {ls : ab_L} {i j : Nat} {v w : Value}, ab_get (ab_st1 ls i v) j = some w → (j = i ∧ w = v) ∨ (j ≠ i ∧ ab_get ls j = some w ∧ ¬ (j + 1 = i ∧ w.category = 2))
  | [], i, j, v, w, h => by simp [ab_st1, ab_get] at h
  | a :: l, 0, 0, v, w, h => by
    simp only [ab_st1, ab_get] at h
    exact Or.inl ⟨rfl, (Option.some.inj h).symm⟩
  | a :: l, 0, j + 1, v, w, h => by
    simp only [ab_st1, ab_get] at h
    exact Or.inr ⟨by omega, h, by omega⟩
  | a :: l, 1, 0, v, w, h => by
    simp only [ab_st1, ab_get] at h
    refine Or.inr ⟨by omega, ?_, ?_⟩
    · cases a with
      | none => simp [ab_kil] at h
      | some x => cases x <;> simp_all [ab_kil, ab_get]
    · rintro ⟨-, hc⟩
      cases a with
      | none => simp [ab_kil] at h
      | some x =>
        cases x <;> simp [ab_kil] at h
        all_goals (subst h; simp [Value.category] at hc)
  | a :: l, 1, j + 1, v, w, h => by
    simp only [ab_st1, ab_get] at h
    rcases ab_get_st1 (ls := l) (i := 0) h with ⟨h1, h2⟩ | ⟨h1, h2, h3⟩
    · exact Or.inl ⟨by omega, h2⟩
    · exact Or.inr ⟨by omega, h2, by omega⟩
  | a :: l, n + 2, 0, v, w, h => by
    simp only [ab_st1, ab_get] at h
    exact Or.inr ⟨by omega, h, by omega⟩
  | a :: l, n + 2, j + 1, v, w, h => by
    simp only [ab_st1, ab_get] at h
    rcases ab_get_st1 (ls := l) (i := n + 1) h with ⟨h1, h2⟩ | ⟨h1, h2, h3⟩
    · exact Or.inl ⟨by omega, h2⟩
    · exact Or.inr ⟨by omega, h2, fun q => h3 ⟨by omega, q.2⟩⟩
theorem ab_get_nil : ∀ {l : ab_L} {j : Nat} {w : Value}, ab_get (ab_nil l) j = some w → j ≠ 0 ∧ ab_get l j = some w
  | [], j, w, h => by simp [ab_nil, ab_get] at h
  | a :: l, 0, w, h => by simp [ab_nil, ab_get] at h
  | a :: l, j + 1, w, h => by
    simp only [ab_nil, ab_get] at h
    exact ⟨by omega, h⟩
theorem ab_get_st2 : ∀ {ls : ab_L} {i j : Nat} {v w : Value}, ab_get (ab_st2 ls i v) j = some w → (j = i ∧ w = v) ∨ (j ≠ i ∧ j ≠ i + 1 ∧ ab_get ls j = some w ∧ ¬ (j + 1 = i ∧ w.category = 2))
  | [], i, j, v, w, h => by simp [ab_st2, ab_get] at h
  | a :: l, 0, 0, v, w, h => by
    simp only [ab_st2, ab_get] at h
    exact Or.inl ⟨rfl, (Option.some.inj h).symm⟩
  | a :: l, 0, j + 1, v, w, h => by
    simp only [ab_st2, ab_get] at h
    obtain ⟨h1, h2⟩ := ab_get_nil h
    exact Or.inr ⟨by omega, by omega, h2, by omega⟩
  | a :: l, 1, 0, v, w, h => by
    simp only [ab_st2, ab_get] at h
    refine Or.inr ⟨by omega, by omega, ?_, ?_⟩
    · cases a with
      | none => simp [ab_kil] at h
      | some x => cases x <;> simp_all [ab_kil, ab_get]
    · rintro ⟨-, hc⟩
      cases a with
      | none => simp [ab_kil] at h
      | some x =>
        cases x <;> simp [ab_kil] at h
        all_goals (subst h; simp [Value.category] at hc)
  | a :: l, 1, j + 1, v, w, h => by
    simp only [ab_st2, ab_get] at h
    rcases ab_get_st2 (ls := l) (i := 0) h with ⟨h1, h2⟩ | ⟨h1, h1', h2, h3⟩
    · exact Or.inl ⟨by omega, h2⟩
    · exact Or.inr ⟨by omega, by omega, h2, by omega⟩
  | a :: l, n + 2, 0, v, w, h => by
    simp only [ab_st2, ab_get] at h
    exact Or.inr ⟨by omega, by omega, h, by omega⟩
  | a :: l, n + 2, j + 1, v, w, h => by
    simp only [ab_st2, ab_get] at h
    rcases ab_get_st2 (ls := l) (i := n + 1) h with ⟨h1, h2⟩ | ⟨h1, h1', h2, h3⟩
    · exact Or.inl ⟨by omega, h2⟩
    · exact Or.inr ⟨by omega, by omega, h2, fun q => h3 ⟨by omega, q.2⟩⟩
def cx_pr (g : cx_G) (ls : ab_L) : List (Nat × Value) := (List.range ls.length).filterMap fun i => (ab_get ls i).map fun v => (i, cx_v g v)
theorem cx_pr_mem {g : cx_G} {ls : ab_L} {i : Nat} {v : Value} (h : ab_get ls i = some v) : (i, cx_v g v) ∈ cx_pr g ls := List.mem_filterMap.mpr ⟨i, List.mem_range.mpr (ab_get_lt h), by rw [h]; rfl⟩
theorem cx_pr_at {g : cx_G} {ls : ab_L} {i : Nat} {v : Value} (h : ab_get ls i = some v) : ∃ k : Nat, (cx_pr g ls)[k]? = some (i, cx_v g v) := List.getElem?_of_mem (cx_pr_mem h)
theorem cx_LV.has {g : cx_G} {la : Array Slot} {n : Nat} {ls : ab_L} (h : cx_LV g la n ls) : lv_has la n (cx_pr g ls) := by
  refine ⟨h.1, h.2.1, fun q hq => ?_⟩
  obtain ⟨i, -, hi⟩ := List.mem_filterMap.mp hq
  cases hv : ab_get ls i with
  | none => rw [hv] at hi; cases hi
  | some v => rw [hv] at hi; cases hi; exact h.2.2 i v hv
theorem cx_cat {g : cx_G} (hs : g.2.2.2.2.2.category = 1) (v : Value) : (cx_v g v).category = v.category := by
  cases v <;> simp [cx_v, Value.category]
  exact hs
theorem cx_LV.st1 {g : cx_G} (hs : g.2.2.2.2.2.category = 1) {la : Array Slot} {n i : Nat} {ls : ab_L} {v : Value} (h : lv_has la n ((i, cx_v g v) :: (cx_pr g ls).filter (fun q => !(q.1 == i) && !(q.1 + 1 == i && q.2.category == 2)))) : cx_LV g la n (ab_st1 ls i v) := by
  refine ⟨h.1, h.2.1, fun j w hj => ?_⟩
  rcases ab_get_st1 hj with ⟨rfl, rfl⟩ | ⟨h1, h2, h3⟩
  · exact h.2.2 _ List.mem_cons_self
  · refine h.2.2 (j, cx_v g w) (List.mem_cons_of_mem _ (List.mem_filter.mpr ⟨cx_pr_mem h2, ?_⟩))
    have hc := cx_cat hs w
    simp only [hc, Bool.and_eq_true, Bool.not_eq_true', beq_eq_false_iff_ne, ne_eq, Bool.and_eq_false_iff]
    refine ⟨h1, ?_⟩
    by_cases q : j + 1 = i
    · exact Or.inr (fun z => h3 ⟨q, z⟩)
    · exact Or.inl q
theorem cx_LV.st2 {g : cx_G} (hs : g.2.2.2.2.2.category = 1) {la : Array Slot} {n i : Nat} {ls : ab_L} {v : Value} (h : lv_has la n ((i, cx_v g v) :: (cx_pr g ls).filter (fun q => !(q.1 == i) && (!(q.1 == i + 1) && !(q.1 + 1 == i && q.2.category == 2))))) : cx_LV g la n (ab_st2 ls i v) := by
  refine ⟨h.1, h.2.1, fun j w hj => ?_⟩
  rcases ab_get_st2 hj with ⟨rfl, rfl⟩ | ⟨h1, h1', h2, h3⟩
  · exact h.2.2 _ List.mem_cons_self
  · refine h.2.2 (j, cx_v g w) (List.mem_cons_of_mem _ (List.mem_filter.mpr ⟨cx_pr_mem h2, ?_⟩))
    have hc := cx_cat hs w
    simp only [hc, Bool.and_eq_true, Bool.not_eq_true', beq_eq_false_iff_ne, ne_eq, Bool.and_eq_false_iff]
    refine ⟨h1, h1', ?_⟩
    by_cases q : j + 1 = i
    · exact Or.inr (fun z => h3 ⟨q, z⟩)
    · exact Or.inl q
theorem ab_wk_get : ∀ {a b : ab_L} {i : Nat} {v : Value}, ab_wk a b → ab_get a i = some v → ab_get b i = some v
  | [], _, _, _, _, h => by simp [ab_get] at h
  | none :: a, [], _, _, h, _ => by simp [ab_wk] at h
  | some _ :: a, [], _, _, h, _ => by simp [ab_wk] at h
  | none :: a, w :: b, 0, v, h, h2 => by simp [ab_get] at h2
  | none :: a, w :: b, i + 1, v, h, h2 => by
    simp only [ab_get] at h2 ⊢
    simp only [ab_wk] at h
    exact ab_wk_get h h2
  | some x :: a, w :: b, 0, v, h, h2 => by
    simp only [ab_get] at h2 ⊢
    simp only [ab_wk] at h
    rw [h.1, h2]
  | some x :: a, w :: b, i + 1, v, h, h2 => by
    simp only [ab_get] at h2 ⊢
    simp only [ab_wk] at h
    exact ab_wk_get h.2 h2
theorem cx_LV.wk {g : cx_G} {la : Array Slot} {n : Nat} {a b : ab_L} (h : ab_wk a b) (hb : cx_LV g la n b) : cx_LV g la n a := ⟨hb.1, hb.2.1, fun i v hv => hb.2.2 i v (ab_wk_get h hv)⟩
theorem ab_get_pad : ∀ {n : Nat} {l : ab_L} {i : Nat} {v : Value}, ab_get (ab_pad n l) i = some v → ab_get l i = some v
  | 0, _, _, _, h => h
  | n + 1, [], 0, v, h => by simp [ab_pad, ab_get] at h
  | n + 1, [], i + 1, v, h => by
    simp only [ab_pad, ab_get] at h
    have := ab_get_pad h
    simp [ab_get] at this
  | n + 1, a :: l, 0, v, h => by simpa [ab_pad, ab_get] using h
  | n + 1, a :: l, i + 1, v, h => by
    simp only [ab_pad, ab_get] at h ⊢
    exact ab_get_pad h
theorem ab_get_ent {g : cx_G} (hs : g.2.2.2.2.2.category = 1) : ∀ {vs : List Value} {o i : Nat} {v : Value}, ab_get (ab_ent vs) i = some v → (o + i, cx_v g v) ∈ lv_args o (vs.map (cx_v g))
  | [], _, _, _, h => by simp [ab_ent, ab_get] at h
  | a :: vs, o, i, v, h => by
    rw [List.map_cons, lv_args]
    simp only [ab_ent, ab_en1] at h
    have hc := cx_cat hs a
    by_cases h2 : a.category = 2
    · have e : ab_get (some a :: none :: ab_ent vs) i = some v := by
        cases a <;> simp [Value.category] at h2 <;> exact h
      rw [if_pos (hc.trans h2)]
      match i, e with
      | 0, e =>
        simp only [ab_get] at e
        cases e
        exact List.mem_cons_self
      | 1, e => simp [ab_get] at e
      | i + 2, e =>
        simp only [ab_get] at e
        have := ab_get_ent hs (o := o + 2) e
        rw [show o + (i + 2) = o + 2 + i by omega]
        exact List.mem_cons_of_mem _ this
    · have e : ab_get (some a :: ab_ent vs) i = some v := by
        cases a <;> first | exact h | (exact absurd rfl h2)
      rw [if_neg (fun z => h2 (hc.symm.trans z))]
      match i, e with
      | 0, e =>
        simp only [ab_get] at e
        cases e
        exact List.mem_cons_self
      | i + 1, e =>
        simp only [ab_get] at e
        have := ab_get_ent hs (o := o + 1) e
        rw [show o + (i + 1) = o + 1 + i by omega]
        exact List.mem_cons_of_mem _ this
theorem cx_LV.entry {g : cx_G} (hs : g.2.2.2.2.2.category = 1) {la : Array Slot} {n k : Nat} {vs : List Value} (h : lv_has la n (lv_args 0 (vs.map (cx_v g)))) : cx_LV g la n (ab_pad k (ab_ent vs)) := by
  refine ⟨h.1, h.2.1, fun i v hv => ?_⟩
  have := ab_get_ent hs (o := 0) (ab_get_pad hv)
  rw [Nat.zero_add] at this
  exact h.2.2 _ this
