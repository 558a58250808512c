/-! reading in the class -/
def zFr (σ τ : ab_S) : Prop := τ.2 = σ.2 ∧ (∀ x, x ≠ 12 → (x < 14 ∨ 22 < x) → τ.1 x = σ.1 x) ∧ τ.1 12 1 = σ.1 12 1
theorem zFr.rf {σ : ab_S} : zFr σ σ := ⟨rfl, fun _ _ _ => rfl, rfl⟩
theorem zFr.tr {σ τ υ : ab_S} (h1 : zFr σ τ) (h2 : zFr τ υ) : zFr σ υ := ⟨h2.1.trans h1.1, fun x a b => (h2.2.1 x a b).trans (h1.2.1 x a b), h2.2.2.trans h1.2.2⟩
/-- only the token has changed -/
def zFt (σ τ : ab_S) : Prop := zF [12] σ τ ∧ τ.1 12 1 = σ.1 12 1
theorem zFt.fr {σ τ : ab_S} (h : zFt σ τ) : zFr σ τ := ⟨h.1.1, fun x a _ => h.1.2 x (by simpa using a), h.2⟩
theorem zFt.tr {σ τ υ : ab_S} (h1 : zFt σ τ) (h2 : zFt τ υ) : zFt σ υ := ⟨h1.1.tr h2.1, h2.2.trans h1.2⟩
theorem zFt.put {σ : ab_S} {i : Nat} {x : Int32} (h : i ≠ 1) : zFt σ (ab_pI σ.1 12 i x, σ.2) := ⟨zF.put (by simp), by dsimp only; exact zp_n (by omega)⟩
theorem zFg {σ τ : ab_S} (h : zF (zkg 14) σ τ) : zFr σ τ := ⟨h.1, fun x a b => h.2 x (by simp; omega), by rw [h.2 12 (by simp)]⟩
theorem zFb {σ τ : ab_S} (h : zF (zks 15) σ τ) : zFr σ τ := ⟨h.1, fun x a b => h.2 x (by simp; omega), by rw [h.2 12 (by simp)]⟩
def zTx (σ : ab_S) (T : zX) : Prop := σ.1 12 1 = nI T.1 ∧ (∀ j, j < T.1 → σ.1 13 j = T.2 j) ∧ T.1 ≤ 150
theorem zTx.fr {σ τ : ab_S} {T : zX} (h : zTx σ T) (hF : zFr σ τ) : zTx τ T := ⟨by rw [hF.2.2]; exact h.1, fun j hj => by rw [hF.2.1 13 (by omega) (by omega)]; exact h.2.1 j hj, h.2.2⟩
def zTG (τ : ab_S) (B : zB) : Prop := ∀ Pb nr mr, zGH τ 14 (B, (0, Pb), (0, nr), (0, mr))
theorem zTG.of {τ : ab_S} {B : zB} {Pb : Nat → zB} {nr mr : Nat → Int32} (h : zGH τ 14 (B, (0, Pb), (0, nr), (0, mr))) : zTG τ B := fun Pb2 nr2 mr2 => ⟨h.1, h.2.1, fun u hu => absurd hu (Nat.not_lt_zero u), ⟨h.2.2.2.1.1, fun j hj => absurd hj (Nat.not_lt_zero j)⟩, ⟨h.2.2.2.2.1, fun j hj => absurd hj (Nat.not_lt_zero j)⟩⟩
theorem zTG.ft {σ τ : ab_S} {B : zB} (h : zTG σ B) (hF : zFt σ τ) : zTG τ B := fun Pb nr mr => (h Pb nr mr).frame hF.1 (by intro a ha; simp at ha ⊢; omega)
theorem zTG.bd {σ τ : ab_S} {B C : zB} (h : zTG σ B) (hF : zF (zks 15) σ τ) (hB : zH τ 15 C) (e : C 2 = B 2) : zTG τ C := zTG.of ((h (fun _ => B) (fun _ => 0) (fun _ => 0)).brd hB e hF)
theorem zsh14 : ab_sh 14 = (0, 1) := rfl
theorem zsh15 : ab_sh 15 = (0, 0) := rfl
section RF2
variable {d a : Nat} {T : zX} {σ : ab_S} {Rf : Int32 → ab_S → Prop}
theorem p_R_byteAt {j : Nat} (hT : zTx σ T) (hj : j < 1000000) (h : Rf (ztb T j) σ) : CA (d + 1) 65 [.ref 12, .int (nI j)] σ (ab_rI Rf) := by
  obtain ⟨t1, t2, t3⟩ := hT
  refine e_R_byteAt (b_R_byteAt_0 (fun q => absurd q (by rw [zlit 0, zlt (by omega) (by omega)]; omega)) (fun _ => b_R_byteAt_4 (fun q => b_R_byteAt_30 (b_R_byteAt_31 (zr h ?_))) (fun q => b_R_byteAt_12 (fun q2 => absurd q2 ?_) (fun _ => b_R_byteAt_21 ?_ (b_R_byteAt_31 (zr h ?_)))))) <;> rw [t1, zle (by omega) (by omega)] at q
  · rw [ztb_hi q]
  · rw [zle (by omega) (by omega)]; omega
  · exact vp_in_nI (by omega) (by omega)
  · rw [zc_nI (by omega), ztb_lo (by omega)]; exact t2 j (by omega)
theorem p_R_isLetter {x : Int32} (h : Rf (zb (zle1 x)) σ) : CA (d + 1) 66 [.int x] σ (ab_rI Rf) := by
  have e1 : (97 : Int32).toInt = 97 := by decide
  have e2 : (122 : Int32).toInt = 122 := by decide
  refine e_R_isLetter (b_R_isLetter_0 (fun q => b_R_isLetter_16 (b_R_isLetter_17 zna0 (zr h ?_))) (fun q => b_R_isLetter_6 (fun q2 => b_R_isLetter_16 (b_R_isLetter_17 zna0 (zr h ?_))) (fun q2 => b_R_isLetter_12 (b_R_isLetter_17 zna1 (zr h ?_))))) <;> rw [fa_lt, e1] at q
  · unfold zle1; rw [decide_eq_false (by omega)]; rfl
  · rw [fa_lt, e2] at q2; unfold zle1; rw [decide_eq_false (by omega)]; rfl
  · rw [fa_lt, e2] at q2; unfold zle1; rw [decide_eq_true (by omega)]; rfl
theorem p_R_isFigure {x : Int32} (h : Rf (zb (zfg x)) σ) : CA (d + 1) 67 [.int x] σ (ab_rI Rf) := by
  have e1 : (48 : Int32).toInt = 48 := by decide
  have e2 : (57 : Int32).toInt = 57 := by decide
  refine e_R_isFigure (b_R_isFigure_0 (fun q => b_R_isFigure_16 (b_R_isFigure_17 zna0 (zr h ?_))) (fun q => b_R_isFigure_6 (fun q2 => b_R_isFigure_16 (b_R_isFigure_17 zna0 (zr h ?_))) (fun q2 => b_R_isFigure_12 (b_R_isFigure_17 zna1 (zr h ?_))))) <;> rw [fa_lt, e1] at q
  · unfold zfg; rw [decide_eq_false (by omega)]; rfl
  · rw [fa_lt, e2] at q2; unfold zfg; rw [decide_eq_false (by omega)]; rfl
  · rw [fa_lt, e2] at q2; unfold zfg; rw [decide_eq_true (by omega)]; rfl
theorem p_R_nextToken {Rf : ab_S → Prop} (hT : zTx σ T) (ha : a ≤ T.1) (h4 : σ.1 12 4 = nI a) (h : ∀ τ, zFt σ τ → τ.1 12 3 = nI (zsb T a) → τ.1 12 4 = nI (ztend T (zsb T a)) → τ.1 12 5 = nI (ztsort T (zsb T a)) → Rf τ) : CA (d + 2) 62 [.ref 12] σ (ab_rV Rf) := by
  have hL := hT.2.2
  have sb := zsb_b ha
  -- the sort, once the end is known
  have ends : ∀ (τ : ab_S) (e srt : Nat), zFt σ τ → τ.1 12 3 = nI (zsb T a) → τ.1 12 5 = nI srt → zsb T a ≤ e → e ≤ 200 → srt ≤ 4 → e = ztend T (zsb T a) → (if srt = 2 then (if e - zsb T a ≤ 2 then 2 else 4) else srt) = ztsort T (zsb T a) → S_R_nextToken_154 (d + 1) Rf (nI e) τ := by
    intro τ e srt hF e3 e5 he he2 hs ee es
    have p5 : (ab_pI τ.1 12 4 (nI e)) 12 5 = nI srt := by rw [zp_n (by omega)]; exact e5
    have p3 : (ab_pI τ.1 12 4 (nI e)) 12 3 = nI (zsb T a) := by rw [zp_n (by omega)]; exact e3
    have hF1 : zFt σ (ab_pI τ.1 12 4 (nI e), τ.2) := hF.tr (zFt.put (by omega))
    refine b_R_nextToken_154 (fun q => b_R_nextToken_167 (fun q2 => b_R_nextToken_185 (h _ hF1 p3 ?_ ?_)) (fun q2 => b_R_nextToken_180 (b_R_nextToken_185 (h _ (hF1.tr (zFt.put (by omega))) ?_ ?_ ?_)))) (fun q => b_R_nextToken_185 (h _ hF1 p3 ?_ ?_)) <;> rw [p5, zlit 2, zeq (by omega) (by omega)] at q
    all_goals dsimp only
    · rw [zp_s, ee]
    · rw [p5, ← es, if_pos q]
      dsimp only at q2
      rw [zp_s, p3, pk_sub he, zlit 2, zle (by omega) (by omega)] at q2
      rw [if_pos q2, q]
    · rw [zp_n (by omega)]; exact p3
    · rw [zp_n (by omega), zp_s, ee]
    · rw [zp_s, ← es, if_pos q]
      dsimp only at q2
      rw [zp_s, p3, pk_sub he, zlit 2, zle (by omega) (by omega)] at q2
      rw [if_neg q2]; rfl
    · rw [zp_s, ee]
    · rw [p5, ← es, if_neg q]
  -- words and numbers to their ends
  have word : ∀ m b (τ : ab_S), T.1 - b ≤ m → b ≤ T.1 → zFt σ τ → τ.1 12 5 = nI 1 → S_R_nextToken_154 (d + 1) Rf (nI (zsp zle1 T b)) τ → S_R_nextToken_102 (d + 1) Rf (nI b) τ := by
    intro m
    induction m with
    | zero =>
      intro b τ q1 q2 hF e5 hn
      have : b = T.1 := by omega
      subst this
      rw [zsp_n (by rw [ztb_hi (Nat.le_refl _)]; exact zle1_m)] at hn
      exact b_R_nextToken_102 (fun _ => hn) (fun q => absurd (by rw [(hT.fr hF.fr).1]; exact Int32.le_refl _) q)
    | succ m ih =>
      intro b τ q1 q2 hF e5 hn
      by_cases qb : b = T.1
      · exact ih b τ (by omega) q2 hF e5 hn
      refine b_R_nextToken_102 (fun q => absurd q (by rw [(hT.fr hF.fr).1, zle (by omega) (by omega)]; omega)) (fun _ => b_R_nextToken_110 (fun _ => b_R_nextToken_118 (p_R_byteAt (hT.fr hF.fr) (by omega) (b_R_nextToken_123 (p_R_isLetter (b_R_nextToken_126 (fun q => b_R_nextToken_129 (fun q2 => absurd q2 (by rw [e5]; decide)) (fun _ => ?_)) (fun q => b_R_nextToken_148 ?_)))))) (fun q => absurd e5 q))
      · rw [zsp_n (zb_0.mp q)] at hn; exact hn
      · rw [zsp_y (nbt q) (by omega)] at hn
        rw [nI_1]
        exact ih (b + 1) τ (by omega) (by omega) hF e5 hn
  have numb : ∀ m b (τ : ab_S), T.1 - b ≤ m → b ≤ T.1 → zFt σ τ → τ.1 12 5 = nI 2 → S_R_nextToken_154 (d + 1) Rf (nI (zsp zfg T b)) τ → S_R_nextToken_102 (d + 1) Rf (nI b) τ := by
    intro m
    induction m with
    | zero =>
      intro b τ q1 q2 hF e5 hn
      have : b = T.1 := by omega
      subst this
      rw [zsp_n (by rw [ztb_hi (Nat.le_refl _)]; exact zfg_m)] at hn
      exact b_R_nextToken_102 (fun _ => hn) (fun q => absurd (by rw [(hT.fr hF.fr).1]; exact Int32.le_refl _) q)
    | succ m ih =>
      intro b τ q1 q2 hF e5 hn
      by_cases qb : b = T.1
      · exact ih b τ (by omega) q2 hF e5 hn
      refine b_R_nextToken_102 (fun q => absurd q (by rw [(hT.fr hF.fr).1, zle (by omega) (by omega)]; omega)) (fun _ => b_R_nextToken_110 (fun q => absurd q (by rw [e5]; decide)) (fun _ => b_R_nextToken_129 (fun _ => b_R_nextToken_137 (p_R_byteAt (hT.fr hF.fr) (by omega) (b_R_nextToken_142 (p_R_isFigure (b_R_nextToken_145 (fun q => ?_) (fun q => b_R_nextToken_148 ?_)))))) (fun q => absurd e5 q)))
      · rw [zsp_n (zb_0.mp q)] at hn; exact hn
      · rw [zsp_y (nbt q) (by omega)] at hn
        rw [nI_1]
        exact ih (b + 1) τ (by omega) (by omega) hF e5 hn
  have one : ∀ b srt (τ : ab_S), srt = 3 ∨ srt = 4 → τ.1 12 5 = nI srt → S_R_nextToken_154 (d + 1) Rf (nI b) τ → S_R_nextToken_102 (d + 1) Rf (nI b) τ := by
    intro b srt τ hs e5 hn
    have n1 : ¬ τ.1 12 5 = 1 := by rw [e5]; rcases hs with rfl | rfl <;> decide
    have n2 : ¬ τ.1 12 5 = 2 := by rw [e5]; rcases hs with rfl | rfl <;> decide
    exact b_R_nextToken_102 (fun _ => hn) (fun _ => b_R_nextToken_110 (fun q => absurd q n1) (fun _ => b_R_nextToken_129 (fun q => absurd q n2) (fun _ => hn)))
  -- from the token's first byte
  have tok : S_R_nextToken_29 (d + 1) Rf (nI (zsb T a)) σ := by
    have p1 : (ab_pI σ.1 12 3 (nI (zsb T a))) 12 1 = nI T.1 := by rw [zp_n (by omega)]; exact hT.1
    have hF0 : zFt σ (ab_pI σ.1 12 3 (nI (zsb T a)), σ.2) := zFt.put (by omega)
    refine b_R_nextToken_29 (fun q => b_R_nextToken_56 (p_R_byteAt (hT.fr hF0.fr) (by omega) ?_)) (fun q => b_R_nextToken_42 (h _ ((hF0.tr (zFt.put (by omega))).tr (zFt.put (by omega))) ?_ ?_ ?_)) <;> rw [p1, zlt (by omega) (by omega)] at q
    · have st : ∀ srt, srt ≤ 4 → ∃ τ, τ = ((ab_pI (ab_pI σ.1 12 3 (nI (zsb T a))) 12 5 (nI srt), σ.2) : ab_S) ∧ zFt σ τ ∧ τ.1 12 3 = nI (zsb T a) ∧ τ.1 12 5 = nI srt := fun srt _ => ⟨_, rfl, hF0.tr (zFt.put (by omega)), by dsimp only; rw [zp_n (by omega), zp_s], by dsimp only; rw [zp_s]⟩
      refine b_R_nextToken_61 (p_R_isLetter (b_R_nextToken_67 (fun w => b_R_nextToken_74 (p_R_isFigure (b_R_nextToken_78 (fun w2 => b_R_nextToken_85 (fun w3 => b_R_nextToken_91 (b_R_nextToken_96 ?_)) (fun w3 => b_R_nextToken_95 (b_R_nextToken_96 ?_))) (fun w2 => b_R_nextToken_81 (b_R_nextToken_96 ?_))))) (fun w => b_R_nextToken_70 (b_R_nextToken_96 ?_))))
      all_goals rw [nI_1]
      · obtain ⟨τ, e, hF, e3, e5⟩ := st 3 (by omega)
        have := one (zsb T a + 1) 3 τ (Or.inl rfl) e5 (ends τ (zsb T a + 1) 3 hF e3 e5 (by omega) (by omega) (by omega) (by unfold ztend; rw [if_neg (by omega), if_neg (by rw [zb_0.mp w]; decide), if_neg (by rw [zb_0.mp w2]; decide)]) (by unfold ztsort; rw [if_neg (by omega), if_neg (by omega), if_neg (by rw [zb_0.mp w]; decide), if_neg (by rw [zb_0.mp w2]; decide), if_pos w3]))
        rw [e] at this; exact this
      · obtain ⟨τ, e, hF, e3, e5⟩ := st 4 (by omega)
        have := one (zsb T a + 1) 4 τ (Or.inr rfl) e5 (ends τ (zsb T a + 1) 4 hF e3 e5 (by omega) (by omega) (by omega) (by unfold ztend; rw [if_neg (by omega), if_neg (by rw [zb_0.mp w]; decide), if_neg (by rw [zb_0.mp w2]; decide)]) (by unfold ztsort; rw [if_neg (by omega), if_neg (by omega), if_neg (by rw [zb_0.mp w]; decide), if_neg (by rw [zb_0.mp w2]; decide), if_neg w3]))
        rw [e] at this; exact this
      · obtain ⟨τ, e, hF, e3, e5⟩ := st 2 (by omega)
        have b2 := zsp_b (p := zfg) (T := T) (a := zsb T a + 1) (by omega)
        have := numb _ (zsb T a + 1) τ (Nat.le_refl _) (by omega) hF e5 (ends τ (zsp zfg T (zsb T a + 1)) 2 hF e3 e5 (by omega) (by omega) (by omega) (by unfold ztend; rw [if_neg (by omega), if_neg (by rw [zb_0.mp w]; decide), if_pos (nbt w2), zsp_y (nbt w2) (by omega)]) (by unfold ztsort; rw [if_pos rfl, if_neg (show ¬ T.1 ≤ zsb T a by omega), if_neg (show ¬ zle1 (ztb T (zsb T a)) = true by rw [zb_0.mp w]; decide), if_pos (nbt w2), zsp_y (nbt w2) (by omega)]))
        rw [e] at this; exact this
      · obtain ⟨τ, e, hF, e3, e5⟩ := st 1 (by omega)
        have b2 := zsp_b (p := zle1) (T := T) (a := zsb T a + 1) (by omega)
        have := word _ (zsb T a + 1) τ (Nat.le_refl _) (by omega) hF e5 (ends τ (zsp zle1 T (zsb T a + 1)) 1 hF e3 e5 (by omega) (by omega) (by omega) (by unfold ztend; rw [if_neg (by omega), if_pos (nbt w), zsp_y (nbt w) (by omega)]) (by unfold ztsort; rw [if_neg (by omega), if_neg (by omega), if_pos (nbt w)]))
        rw [e] at this; exact this
    all_goals dsimp only
    · rw [zp_n (by omega), zp_n (by omega), zp_s]
    · rw [zp_n (by omega), zp_s, p1]; unfold ztend; rw [if_pos (by omega)]
    · rw [zp_s]; unfold ztsort; rw [if_pos (by omega)]; rfl
  have bl : ∀ m b, T.1 - b ≤ m → b ≤ T.1 → S_R_nextToken_29 (d + 1) Rf (nI (zsb T b)) σ → S_R_nextToken_5 (d + 1) Rf (nI b) σ := by
    intro m
    induction m with
    | zero =>
      intro b q1 q2 hn
      have : b = T.1 := by omega
      subst this
      rw [zsb_n (by rw [ztb_hi (Nat.le_refl _)]; decide)] at hn
      exact b_R_nextToken_5 (fun _ => hn) (fun q => absurd (by rw [hT.1]; exact Int32.le_refl _) q)
    | succ m ih =>
      intro b q1 q2 hn
      by_cases qb : b = T.1
      · exact ih b (by omega) q2 hn
      refine b_R_nextToken_5 (fun q => absurd q (by rw [hT.1, zle (by omega) (by omega)]; omega)) (fun _ => b_R_nextToken_13 (p_R_byteAt hT (by omega) (b_R_nextToken_18 (fun q => b_R_nextToken_23 ?_) (fun q => ?_))))
      · rw [zsb_y q (by omega)] at hn
        rw [nI_1]
        exact ih (b + 1) (by omega) (by omega) hn
      · rw [zsb_n q] at hn; exact hn
  refine e_R_nextToken (b_R_nextToken_0 ?_)
  rw [h4]
  exact bl _ a (Nat.le_refl _) ha tok
theorem ztsort_2 (h : zsb T a ≤ T.1) : ztsort T (zsb T a) = 2 ↔ (1 ≤ zsp zfg T (zsb T a) - zsb T a ∧ zsp zfg T (zsb T a) - zsb T a ≤ 2) := by
  have hb := zsp_b (p := zfg) h
  unfold ztsort
  by_cases q : T.1 ≤ zsb T a
  · rw [if_pos q]
    have : zsb T a = T.1 := by omega
    omega
  rw [if_neg q]
  cases hf : zfg (ztb T (zsb T a)) with
  | true =>
    rw [if_neg (by rw [(zfg_le hf).1]; decide), if_pos rfl]
    have b2 := zsp_b (p := zfg) (T := T) (a := zsb T a + 1) (by omega)
    rw [← zsp_y hf (by omega)] at b2
    split <;> omega
  | false =>
    have e := zsp_n (p := zfg) hf
    rw [e, if_neg (by decide : ¬ (false = true))]
    constructor
    · intro z
      exfalso
      revert z
      split
      · omega
      · split <;> omega
    · omega
theorem p_R_nextNumber (hT : zTx σ T) (ha : a ≤ T.1) (h4 : σ.1 12 4 = nI a) (hs : ∀ n e τ, znum T a = some (n, e) → zFt σ τ → τ.1 12 3 = nI (zsb T a) → τ.1 12 4 = nI e → Rf (nI n) τ) (hn : ∀ τ, znum T a = none → zFt σ τ → τ.1 12 3 = nI (zsb T a) → Rf (-1) τ) : CA (d + 3) 61 [.ref 12] σ (ab_rI Rf) := by
  have hL := hT.2.2
  have sb := zsb_b ha
  have fb := zsp_b (p := zfg) sb.2
  have so := ztsort_2 sb.2
  have s4 : ztsort T (zsb T a) ≤ 4 := by unfold ztsort; split; omega; split; omega; split; split <;> omega; split <;> omega
  refine e_R_nextNumber (b_R_nextNumber_0 (p_R_nextToken hT ha h4 (fun τ hF e3 e4 e5 => b_R_nextNumber_4 (fun q => b_R_nextNumber_14 ?_) (fun q => b_R_nextNumber_12 (hn τ ?_ hF e3))))) <;> rw [e5, zlit 2, zeq (by omega) (by omega), so] at q
  · have al := zsp_all (p := zfg) (T := T) _ (zsb T a) (Nat.le_refl _) sb.2
    have hTt := hT.fr hF.fr
    have fl : zfg (ztb T (zsb T a)) = true := al _ (Nat.le_refl _) (by omega)
    have et : ztend T (zsb T a) = zsp zfg T (zsb T a) := by
      unfold ztend; rw [if_neg (by omega), if_neg (by rw [(zfg_le fl).1]; decide), if_pos fl]
    rw [et] at e4
    have hz : znum T a = some (znv T (zsb T a) (zsp zfg T (zsb T a)), zsp zfg T (zsb T a)) := by unfold znum; rw [if_pos q]
    have hs := hs _ _ τ hz hF e3 e4
    obtain ⟨b0, f0⟩ := zfg_n fl
    have v0 : (10 : Int32) * 0 + ztb T (zsb T a) - 48 = nI (zfn T (zsb T a)) := by
      rw [b0, show (10 : Int32) * 0 = nI 0 from by decide, nI_add, zlit 48, pk_sub (by omega)]
      congr 1; omega
    rw [e3]
    refine b_R_nextNumber_21 (fun w => absurd w (by rw [e4, zle (by omega) (by omega)]; omega)) (fun _ => b_R_nextNumber_29 (p_R_byteAt hTt (by omega) (b_R_nextNumber_38 ?_)))
    rw [v0, nI_1]
    by_cases l1 : zsp zfg T (zsb T a) - zsb T a = 1
    · unfold znv at hs
      rw [if_pos l1] at hs
      exact b_R_nextNumber_21 (fun _ => b_R_nextNumber_49 hs) (fun w => absurd (by rw [e4, zle (by omega) (by omega)]; omega) w)
    · unfold znv at hs
      rw [if_neg l1] at hs
      obtain ⟨b1, f1⟩ := zfg_n (al (zsb T a + 1) (by omega) (by omega))
      have v1 : (10 : Int32) * nI (zfn T (zsb T a)) + ztb T (zsb T a + 1) - 48 = nI (10 * zfn T (zsb T a) + zfn T (zsb T a + 1)) := by
        rw [b1, zlit 10, pk_mul, nI_add, zlit 48, pk_sub (by omega)]
        congr 1; omega
      refine b_R_nextNumber_21 (fun w => absurd w (by rw [e4, zle (by omega) (by omega)]; omega)) (fun _ => b_R_nextNumber_29 (p_R_byteAt hTt (by omega) (b_R_nextNumber_38 ?_)))
      rw [v1, nI_1]
      exact b_R_nextNumber_21 (fun _ => b_R_nextNumber_49 hs) (fun w => absurd (by rw [e4, zle (by omega) (by omega)]; omega) w)
  · unfold znum; rw [if_neg q]
theorem p_R_nb {lo hi : Nat} (hT : zTx σ T) (ha : a ≤ T.1) (h4 : σ.1 12 4 = nI a) (hs : ∀ n e τ, znb T lo hi a = .inr (n, e) → n ≤ 99 → lo ≤ n ∧ n < hi → e ≤ T.1 → zFt σ τ → τ.1 12 3 = nI (zsb T a) → τ.1 12 4 = nI e → Rf (nI n) τ) (hn : ∀ (x : Int32) τ, znb T lo hi a = .inl (zsb T a) → ¬ ((lo : Int) ≤ x.toInt ∧ x.toInt < hi) → zFt σ τ → τ.1 12 3 = nI (zsb T a) → Rf x τ) : CA (d + 3) 61 [.ref 12] σ (ab_rI Rf) := by
  refine p_R_nextNumber hT ha h4 (fun n e τ hz hF e3 e4 => ?_) (fun τ hz hF e3 => ?_)
  · obtain ⟨v1, v2, v3, v4⟩ := znum_v hz ha
    by_cases q : lo ≤ n ∧ n < hi
    · exact hs n e τ (by unfold znb; rw [hz]; dsimp only; rw [if_pos q]) v1 q v3 hF e3 e4
    · exact hn _ τ (by unfold znb; rw [hz]; dsimp only; rw [if_neg q]) (by rw [zn (by omega)]; omega) hF e3
  · exact hn _ τ (by unfold znb; rw [hz]) (by rw [ztm]; omega) hF e3
theorem zFt.tg {τ : ab_S} {B : zB} (h : zFt σ τ) (hG : zTG σ B) : zTG τ B := hG.ft h
theorem zwE {x : Int32} {lo hi : Int} : zw x lo hi = decide (lo ≤ x.toInt ∧ x.toInt ≤ hi) := rfl
/-- what reading a part of an item leaves -/
def zPost (σ : ab_S) (x : Sum Nat (Nat × zB)) (r : Int32) (τ : ab_S) : Prop := zFr σ τ ∧ match x with
  | .inl s => r = 0 ∧ τ.1 12 3 = nI s
  | .inr y => r = 1 ∧ τ.1 12 4 = nI y.1 ∧ zTG τ y.2
variable {B : zB}
theorem p_R_field (hT : zTx σ T) (ha : a ≤ T.1) (h4 : σ.1 12 4 = nI a) (h : ∀ r τ, zPost σ (zbd2 (znb T 3 6 a) fun w => zbd2 (znb T 3 6 w.2) fun h => .inr (h.2, zbeg w.1 h.1)) r τ → Rf r τ) : CA (d + 4) 54 [.ref 12] σ (ab_rI Rf) := by
  refine e_R_readField (b_R_readField_0 (p_R_nb (lo := 3) (hi := 6) hT ha h4 (fun n e τ hz n99 hr he hF e3 e4 => ?_) (fun x τ hz hr hF e3 => ?_)))
  · refine b_R_readField_4 (p_F_isSide (b_R_readField_9 (fun q => absurd (zb_0.mp q) ?_) (fun _ => b_R_readField_14 (p_R_nb (lo := 3) (hi := 6) (hT.fr hF.fr) he e4 (fun m f υ hz2 m99 hr2 hf hG f3 f4 => ?_) (fun x υ hz2 hr2 hG f3 => ?_)))))
    · rw [zwE, decide_eq_true (by rw [zn (by omega)]; omega)]; decide
    · refine b_R_readField_18 (p_F_isSide (b_R_readField_23 (fun q => absurd (zb_0.mp q) ?_) (fun _ => b_R_readField_28 (p_G_begin zsh14 (by omega) (by omega) (fun φ hφ hL => b_R_readField_37 (h _ _ ⟨(hF.fr.tr hG.fr).tr (zFg hL), ?_⟩))))))
      · rw [zwE, decide_eq_true (by rw [zn (by omega)]; omega)]; decide
      · rw [hz]; dsimp only [zbd2]; rw [hz2]; dsimp only
        exact ⟨rfl, by rw [hL.2 12 (by simp)]; exact f4, hφ⟩
    · refine b_R_readField_18 (p_F_isSide (b_R_readField_23 (fun _ => b_R_readField_26 (h _ _ ⟨hF.fr.tr hG.fr, ?_⟩)) (fun q => absurd (nbt q) ?_)))
      · rw [hz]; dsimp only [zbd2]; rw [hz2]; exact ⟨rfl, f3⟩
      · rw [zwE, decide_eq_false (by omega)]; decide
  · refine b_R_readField_4 (p_F_isSide (b_R_readField_9 (fun _ => b_R_readField_12 (h _ _ ⟨hF.fr, ?_⟩)) (fun q => absurd (nbt q) ?_)))
    · rw [hz]; exact ⟨rfl, e3⟩
    · rw [zwE, decide_eq_false (by omega)]; decide
/-- a cell told by a number -/
theorem zic_in {n : Nat} (h : n < 1000000) : zic B (nI n) = decide (n < B 0 * B 1) := by
  unfold zic; rw [decide_eq_decide, zn (by omega)]; omega
theorem zic_out {x : Int32} (h : ¬ (((0 : Nat) : Int) ≤ x.toInt ∧ x.toInt < ((B 0 * B 1 : Nat) : Int))) : zic B x = false := decide_eq_false (by omega)
theorem p_R_thicket (hT : zTx σ T) (ha : a ≤ T.1) (h4 : σ.1 12 4 = nI a) (hG0 : zTG σ B) (hV : zV B) (h : ∀ r τ, zPost σ (zbd2 (znb T 0 (B 0 * B 1) a) fun c => if zfr B c.1 = true then .inr (c.2, zup B 3 (B 3 ||| 2 ^ c.1)) else .inl (zsb T a)) r τ → Rf r τ) : CA (d + 4) 55 [.ref 12] σ (ab_rI Rf) := by
  have h25 := hV.n
  refine e_R_readThicket (b_R_readThicket_0 (p_R_nb (lo := 0) (hi := B 0 * B 1) hT ha h4 (fun n e τ hz n99 hr he hF e3 e4 => ?_) (fun x τ hz hr hF e3 => ?_)))
  · have hg := hF.tg hG0
    have hH : zH τ 15 B := (hg (fun _ => B) (fun _ => 0) (fun _ => 0)).1
    refine b_R_readThicket_4 (p_B_hasCell zsh15 hH hV (b_R_readThicket_16 (fun q => absurd (zb_0.mp q) ?_) (fun _ => b_R_readThicket_19 (p_B_isFree zsh15 hH hV (by omega) (b_R_readThicket_30 (fun q => b_R_readThicket_33 (h _ _ ⟨hF.fr, ?_⟩)) (fun q => b_R_readThicket_35 (p_G_plant zsh14 (hg (fun _ => B) (fun _ => 0) (fun _ => 0)) (by omega) (fun φ hφ hL => b_R_readThicket_43 (h _ _ ⟨hF.fr.tr (zFg hL), ?_⟩)))))))))
    · have := zic_in (B := B) (n := n) (by omega)
      unfold zic at this
      rw [this, decide_eq_true hr.2]; decide
    · rw [hz]; dsimp only [zbd2]; rw [if_neg (by rw [zb_0.mp q]; decide)]; exact ⟨rfl, e3⟩
    · rw [hz]; dsimp only [zbd2]; rw [if_pos (nbt q)]
      exact ⟨rfl, by rw [hL.2 12 (by simp)]; exact e4, zTG.of hφ⟩
  · have hg := hF.tg hG0
    have hH : zH τ 15 B := (hg (fun _ => B) (fun _ => 0) (fun _ => 0)).1
    refine b_R_readThicket_4 (p_B_hasCell zsh15 hH hV (b_R_readThicket_16 (fun _ => b_R_readThicket_33 (h _ _ ⟨hF.fr, ?_⟩)) (fun q => absurd (nbt q) ?_)))
    · rw [hz]; exact ⟨rfl, e3⟩
    · have := zic_out hr
      unfold zic at this
      rw [this]; decide
theorem p_R_fox (hT : zTx σ T) (ha : a ≤ T.1) (h4 : σ.1 12 4 = nI a) (hG0 : zTG σ B) (hV : zV B) (h : ∀ r τ, zPost σ (zbd2 (znb T 0 6 a) fun k => zbd2 (znb T 0 (B 0 * B 1) k.2) fun c => if zff B c.1 = true then .inr (c.2, zup (zup B 4 k.1) 5 c.1) else .inl (zsb T k.2)) r τ → Rf r τ) : CA (d + 4) 56 [.ref 12] σ (ab_rI Rf) := by
  have h25 := hV.n
  refine e_R_readFox (b_R_readFox_0 (p_R_nb (lo := 0) (hi := 6) hT ha h4 (fun k e τ hz n99 hr he hF e3 e4 => ?_) (fun x τ hz hr hF e3 => ?_)))
  · refine b_R_readFox_4 (p_F_isKind (b_R_readFox_9 (fun q => absurd (zb_0.mp q) ?_) (fun _ => b_R_readFox_14 (p_R_nb (lo := 0) (hi := B 0 * B 1) (hT.fr hF.fr) he e4 (fun n f υ hz2 m99 hr2 hf hG f3 f4 => ?_) (fun x υ hz2 hr2 hG f3 => ?_)))))
    · rw [zwE, decide_eq_true (by rw [zn (by omega)]; omega)]; decide
    · have hg := hG.tg (hF.tg hG0)
      have hH : zH υ 15 B := (hg (fun _ => B) (fun _ => 0) (fun _ => 0)).1
      refine b_R_readFox_18 (p_B_hasCell zsh15 hH hV (b_R_readFox_30 (fun q => absurd (zb_0.mp q) ?_) (fun _ => b_R_readFox_33 (p_B_isFreeForFox zsh15 hH hV (by omega) (b_R_readFox_44 (fun q => b_R_readFox_47 (h _ _ ⟨hF.fr.tr hG.fr, ?_⟩)) (fun q => b_R_readFox_49 (p_G_putFox zsh14 (hg (fun _ => B) (fun _ => 0) (fun _ => 0)) (fun φ hφ hL => b_R_readFox_58 (h _ _ ⟨(hF.fr.tr hG.fr).tr (zFg hL), ?_⟩)))))))))
      · have := zic_in (B := B) (n := n) (by omega)
        unfold zic at this
        rw [this, decide_eq_true hr2.2]; decide
      · rw [hz]; dsimp only [zbd2]; rw [hz2]; dsimp only; rw [if_neg (by rw [zb_0.mp q]; decide)]; exact ⟨rfl, f3⟩
      · rw [hz]; dsimp only [zbd2]; rw [hz2]; dsimp only; rw [if_pos (nbt q)]
        exact ⟨rfl, by rw [hL.2 12 (by simp)]; exact f4, zTG.of hφ⟩
    · have hg := hG.tg (hF.tg hG0)
      have hH : zH υ 15 B := (hg (fun _ => B) (fun _ => 0) (fun _ => 0)).1
      refine b_R_readFox_18 (p_B_hasCell zsh15 hH hV (b_R_readFox_30 (fun _ => b_R_readFox_47 (h _ _ ⟨hF.fr.tr hG.fr, ?_⟩)) (fun q => absurd (nbt q) ?_)))
      · rw [hz]; dsimp only [zbd2]; rw [hz2]; exact ⟨rfl, f3⟩
      · have := zic_out hr2
        unfold zic at this
        rw [this]; decide
  · refine b_R_readFox_4 (p_F_isKind (b_R_readFox_9 (fun _ => b_R_readFox_12 (h _ _ ⟨hF.fr, ?_⟩)) (fun q => absurd (nbt q) ?_)))
    · rw [hz]; exact ⟨rfl, e3⟩
    · rw [zwE, decide_eq_false (by omega)]; decide
theorem p_R_goose {s : Nat} (hT : zTx σ T) (ha : a ≤ T.1) (h4 : σ.1 12 4 = nI a) (h3 : σ.1 12 3 = nI s) (hG0 : zTG σ B) (hV : zV B) (h : ∀ r τ, zPost σ (if 4 ≤ B 2 then .inl s else zbd2 (znb T 0 6 a) fun k => zbd2 (znb T 0 (B 0 * B 1) k.2) fun c => if zfr B c.1 = true then .inr (c.2, zadd B k.1 c.1) else .inl (zsb T k.2)) r τ → Rf r τ) : CA (d + 5) 57 [.ref 12] σ (ab_rI Rf) := by
  have h25 := hV.n
  have n4 := hV.1.2.2.1
  have R2 : σ.1 15 5 = nI (B 2) := (hG0 (fun _ => B) (fun _ => 0) (fun _ => 0)).1.2.2.2.2.2.1
  refine e_R_readGoose (b_R_readGoose_0 (fun w => b_R_readGoose_16 ?_) (fun w => b_R_readGoose_14 (h _ _ ⟨zFr.rf, ?_⟩))) <;> rw [R2, zlit 4, zlt (by omega) (by omega)] at w
  · rw [if_neg (by omega)] at h
    refine p_R_nb (lo := 0) (hi := 6) hT ha h4 (fun k e τ hz n99 hr he hF e3 e4 => ?_) (fun x τ hz hr hF e3 => ?_)
    · refine b_R_readGoose_20 (p_F_isKind (b_R_readGoose_25 (fun q => absurd (zb_0.mp q) ?_) (fun _ => b_R_readGoose_30 (p_R_nb (lo := 0) (hi := B 0 * B 1) (hT.fr hF.fr) he e4 (fun n f υ hz2 m99 hr2 hf hG f3 f4 => ?_) (fun x υ hz2 hr2 hG f3 => ?_)))))
      · rw [zwE, decide_eq_true (by rw [zn (by omega)]; omega)]; decide
      · have hg := hG.tg (hF.tg hG0)
        have hH : zH υ 15 B := (hg (fun _ => B) (fun _ => 0) (fun _ => 0)).1
        refine b_R_readGoose_34 (p_B_hasCell zsh15 hH hV (b_R_readGoose_46 (fun q => absurd (zb_0.mp q) ?_) (fun _ => b_R_readGoose_49 (p_B_isFree zsh15 hH hV (by omega) (b_R_readGoose_60 (fun q => b_R_readGoose_63 (h _ _ ⟨hF.fr.tr hG.fr, ?_⟩)) (fun q => b_R_readGoose_65 (p_G_addGoose zsh14 (hg (fun _ => B) (fun _ => 0) (fun _ => 0)) w (fun φ hφ hL => b_R_readGoose_74 (h _ _ ⟨(hF.fr.tr hG.fr).tr (zFg hL), ?_⟩)))))))))
        · have := zic_in (B := B) (n := n) (by omega)
          unfold zic at this
          rw [this, decide_eq_true hr2.2]; decide
        · rw [hz]; dsimp only [zbd2]; rw [hz2]; dsimp only; rw [if_neg (by rw [zb_0.mp q]; decide)]; exact ⟨rfl, f3⟩
        · rw [hz]; dsimp only [zbd2]; rw [hz2]; dsimp only; rw [if_pos (nbt q)]
          exact ⟨rfl, by rw [hL.2 12 (by simp)]; exact f4, zTG.of hφ⟩
      · have hg := hG.tg (hF.tg hG0)
        have hH : zH υ 15 B := (hg (fun _ => B) (fun _ => 0) (fun _ => 0)).1
        refine b_R_readGoose_34 (p_B_hasCell zsh15 hH hV (b_R_readGoose_46 (fun _ => b_R_readGoose_63 (h _ _ ⟨hF.fr.tr hG.fr, ?_⟩)) (fun q => absurd (nbt q) ?_)))
        · rw [hz]; dsimp only [zbd2]; rw [hz2]; exact ⟨rfl, f3⟩
        · have := zic_out hr2
          unfold zic at this
          rw [this]; decide
    · refine b_R_readGoose_20 (p_F_isKind (b_R_readGoose_25 (fun _ => b_R_readGoose_28 (h _ _ ⟨hF.fr, ?_⟩)) (fun q => absurd (nbt q) ?_)))
      · rw [hz]; exact ⟨rfl, e3⟩
      · rw [zwE, decide_eq_false (by omega)]; decide
  · rw [if_pos (by omega)]; exact ⟨rfl, h3⟩
theorem zmm_mn {who c : Nat} (h : B 7 < 9999) : zmm B who c = zmn B who c := by rw [zmn_mm, decide_eq_true h, Bool.and_true]
theorem p_R_go (hT : zTx σ T) (ha : a ≤ T.1) (h4 : σ.1 12 4 = nI a) (hG0 : zTG σ B) (hV : zV B) (h7 : B 7 < 9999) (h : ∀ r τ, zPost σ (zbd2 (znb T 0 (B 0 * B 1) a) fun c => if zmn B 4 c.1 = true then .inr (c.2, zfox B c.1) else .inl (zsb T a)) r τ → Rf r τ) : CA (d + 5) 58 [.ref 12, .int 4] σ (ab_rI Rf) := by
  have h25 := hV.n
  refine e_R_readStep (b_R_readStep_0 (fun q => absurd q (by decide)) (fun _ => b_R_readStep_7 (p_R_nb (lo := 0) (hi := B 0 * B 1) hT ha h4 (fun n e τ hz n99 hr he hF e3 e4 => ?_) (fun x τ hz hr hF e3 => ?_))))
  · have hg := hF.tg hG0
    have hH : zH τ 15 B := (hg (fun _ => B) (fun _ => 0) (fun _ => 0)).1
    refine b_R_readStep_11 (p_B_hasCell zsh15 hH hV (b_R_readStep_23 (fun q => absurd (zb_0.mp q) ?_) (fun _ => b_R_readStep_26 (p_B_mayMove (who := 4) zsh15 hH hV (Or.inl rfl) (by omega) (b_R_readStep_38 (fun q => b_R_readStep_41 (h _ _ ⟨hF.fr, ?_⟩)) (fun q => b_R_readStep_43 (p_B_stepF zsh15 hH hV (by omega) (fun φ hφ hL => b_R_readStep_55 (h _ _ ⟨hF.fr.tr (zFb hL), ?_⟩)))))))))
    · have := zic_in (B := B) (n := n) (by omega)
      unfold zic at this
      rw [this, decide_eq_true hr.2]; decide
    · rw [zmm_mn h7] at q
      rw [hz]; dsimp only [zbd2]; rw [if_neg (by rw [zb_0.mp q]; decide)]; exact ⟨rfl, e3⟩
    · rw [zmm_mn h7] at q
      rw [hz]; dsimp only [zbd2]; rw [if_pos (nbt q)]
      exact ⟨rfl, by rw [hL.2 12 (by simp)]; exact e4, hg.bd hL hφ (zfox_lo (B := B) (c := n) (j := 2) (by omega))⟩
  · have hg := hF.tg hG0
    have hH : zH τ 15 B := (hg (fun _ => B) (fun _ => 0) (fun _ => 0)).1
    refine b_R_readStep_11 (p_B_hasCell zsh15 hH hV (b_R_readStep_23 (fun _ => b_R_readStep_41 (h _ _ ⟨hF.fr, ?_⟩)) (fun q => absurd (nbt q) ?_)))
    · rw [hz]; exact ⟨rfl, e3⟩
    · have := zic_out hr
      unfold zic at this
      rw [this]; decide
theorem p_R_moveStep {i : Nat} (hi : i < B 2) (hT : zTx σ T) (ha : a ≤ T.1) (h4 : σ.1 12 4 = nI a) (hG0 : zTG σ B) (hV : zV B) (h7 : B 7 < 9999) (h : ∀ r τ, zPost σ (zbd2 (znb T 0 (B 0 * B 1) a) fun c => if zmn B i c.1 = true then .inr (c.2, zgo B i c.1) else .inl (zsb T a)) r τ → Rf r τ) : CA (d + 5) 58 [.ref 12, .int (nI i)] σ (ab_rI Rf) := by
  have h25 := hV.n
  have n4 := hV.1.2.2.1
  refine e_R_readStep (b_R_readStep_0 (fun q => absurd q (by rw [fa_eq, zn (by omega), ztm]; omega)) (fun _ => b_R_readStep_7 (p_R_nb (lo := 0) (hi := B 0 * B 1) hT ha h4 (fun n e τ hz n99 hr he hF e3 e4 => ?_) (fun x τ hz hr hF e3 => ?_))))
  · have hg := hF.tg hG0
    have hH : zH τ 15 B := (hg (fun _ => B) (fun _ => 0) (fun _ => 0)).1
    refine b_R_readStep_11 (p_B_hasCell zsh15 hH hV (b_R_readStep_23 (fun q => absurd (zb_0.mp q) ?_) (fun _ => b_R_readStep_26 (p_B_mayMove zsh15 hH hV (Or.inr hi) (by omega) (b_R_readStep_38 (fun q => b_R_readStep_41 (h _ _ ⟨hF.fr, ?_⟩)) (fun q => b_R_readStep_43 (p_B_stepG zsh15 hH hV hi (fun φ hφ hL => b_R_readStep_55 (h _ _ ⟨hF.fr.tr (zFb hL), ?_⟩)))))))))
    · have := zic_in (B := B) (n := n) (by omega)
      unfold zic at this
      rw [this, decide_eq_true hr.2]; decide
    · rw [zmm_mn h7] at q
      rw [hz]; dsimp only [zbd2]; rw [if_neg (by rw [zb_0.mp q]; decide)]; exact ⟨rfl, e3⟩
    · rw [zmm_mn h7] at q
      rw [hz]; dsimp only [zbd2]; rw [if_pos (nbt q)]
      exact ⟨rfl, by rw [hL.2 12 (by simp)]; exact e4, hg.bd hL hφ (zgo_lo (B := B) (i := i) (c := n) (j := 2) (by omega))⟩
  · have hg := hF.tg hG0
    have hH : zH τ 15 B := (hg (fun _ => B) (fun _ => 0) (fun _ => 0)).1
    refine b_R_readStep_11 (p_B_hasCell zsh15 hH hV (b_R_readStep_23 (fun _ => b_R_readStep_41 (h _ _ ⟨hF.fr, ?_⟩)) (fun q => absurd (nbt q) ?_)))
    · rw [hz]; exact ⟨rfl, e3⟩
    · have := zic_out hr
      unfold zic at this
      rw [this]; decide
theorem p_R_move (hT : zTx σ T) (ha : a ≤ T.1) (h4 : σ.1 12 4 = nI a) (hG0 : zTG σ B) (hV : zV B) (h7 : B 7 < 9999) (h : ∀ r τ, zPost σ (zbd2 (znb T 0 (B 2) a) fun g => if B (12 + g.1) = 0 then .inl (zsb T a) else zbd2 (znb T 0 (B 0 * B 1) g.2) fun c => if zmn B g.1 c.1 = true then .inr (c.2, zgo B g.1 c.1) else .inl (zsb T g.2)) r τ → Rf r τ) : S_R_readParts_70 (d + 5) Rf σ := by
  have n4 := hV.1.2.2.1
  have nbar : ∀ x, x = 0 ∨ x = 1 → narrow .boolean (.int x) = .int x := fun x hx => by rcases hx with rfl | rfl <;> rfl
  have bad : ∀ τ, zPost σ (zbd2 (znb T 0 (B 2) a) fun g => if B (12 + g.1) = 0 then .inl (zsb T a) else zbd2 (znb T 0 (B 0 * B 1) g.2) fun c => if zmn B g.1 c.1 = true then .inr (c.2, zgo B g.1 c.1) else .inl (zsb T g.2)) 0 τ → S_R_readParts_75 (d + 5) Rf (-1) τ := fun τ hp => b_R_readParts_75 (e_R_readStep (b_R_readStep_0 (fun _ => b_R_readStep_5 (b_R_readParts_78 zna0 (h _ _ hp))) (fun q => absurd rfl q)))
  refine b_R_readParts_70 (e_R_nextGoose (b_R_nextGoose_0 (p_R_nb (lo := 0) (hi := B 2) hT ha h4 (fun n e τ hz n99 hr he hF e3 e4 => ?_) (fun x τ hz hr hF e3 => ?_))))
  · have hg := hF.tg hG0
    have hH : zH τ 15 B := (hg (fun _ => B) (fun _ => 0) (fun _ => 0)).1
    refine b_R_nextGoose_4 (p_B_isGooseAlive zsh15 hH hV ?_)
    rw [zal_n hr.2 n4]
    refine b_R_nextGoose_16 (fun q => b_R_nextGoose_23 (b_R_nextGoose_24 (bad τ ⟨hF.fr, ?_⟩))) (fun q => b_R_nextGoose_19 (b_R_nextGoose_24 (b_R_readParts_75 (p_R_moveStep hr.2 (hT.fr hF.fr) he e4 hg hV h7 (fun r υ hp => b_R_readParts_78 (nbar r ?_) (h _ _ ⟨hF.fr.tr hp.1, ?_⟩))))))
    · have q : B (12 + n) = 0 := by simpa using zb_0.mp q
      rw [hz]; dsimp only [zbd2]; rw [if_pos q]; exact ⟨rfl, e3⟩
    · have := hp.2
      revert this
      split
      · intro w; exact Or.inl w.1
      · intro w; exact Or.inr w.1
    · have q : ¬ B (12 + n) = 0 := by simpa using nbt q
      have := hp.2
      rw [hz]; dsimp only [zbd2]; rw [if_neg q]; exact this
  · have hg := hF.tg hG0
    have hH : zH τ 15 B := (hg (fun _ => B) (fun _ => 0) (fun _ => 0)).1
    refine b_R_nextGoose_4 (p_B_isGooseAlive zsh15 hH hV (b_R_nextGoose_16 (fun _ => b_R_nextGoose_23 (b_R_nextGoose_24 (bad τ ⟨hF.fr, ?_⟩))) (fun q => absurd (nbt q) ?_)))
    · rw [hz]; exact ⟨rfl, e3⟩
    · unfold zal; rw [decide_eq_false (show ¬ (0 ≤ x.toInt ∧ x.toInt < B 2) by omega)]; simp
theorem p_R_pass {s : Nat} (h4 : σ.1 12 4 = nI a) (h3 : σ.1 12 3 = nI s) (hG0 : zTG σ B) (hV : zV B) (h7 : B 7 < 9999) (h : ∀ r τ, zPost σ (if zmpn B = true then .inr (a, zend B) else .inl s) r τ → Rf r τ) : CA (d + 4) 60 [.ref 12] σ (ab_rI Rf) := by
  have hH : zH σ 15 B := (hG0 (fun _ => B) (fun _ => 0) (fun _ => 0)).1
  have e : zmp B = zmpn B := by rw [zmpn_mp, decide_eq_true h7, Bool.and_true]
  refine e_R_readPass (b_R_readPass_0 (p_B_mayPass zsh15 hH hV (b_R_readPass_10 (fun q => b_R_readPass_13 (h _ _ ⟨zFr.rf, ?_⟩)) (fun q => b_R_readPass_15 (p_B_endMove zsh15 hH hV.1.2.2.2.2.2.2.1 (fun φ hφ hL => b_R_readPass_25 (h _ _ ⟨zFb hL, ?_⟩)))))))
  · rw [e] at q
    rw [if_neg (by rw [zb_0.mp q]; decide)]; exact ⟨rfl, h3⟩
  · rw [e] at q
    rw [if_pos (nbt q)]
    exact ⟨rfl, by rw [hL.2 12 (by simp)]; exact h4, hG0.bd hL hφ (zend_lo (B := B) (j := 2) (by omega))⟩
end RF2
