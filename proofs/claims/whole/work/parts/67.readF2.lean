/-! reading in the class: words, items, the text -/
section RW2
variable {d a : Nat} {T : zX} {σ : ab_S} {Rf : Int32 → ab_S → Prop} {B : zB}
theorem p_J_coder {j : Nat} (hj : j < 7) (h : Rf 0 σ) : CA (d + 1) 4 [.ref (64 + j)] σ (ab_rI Rf) :=
  e_J_coder (b_J_coder_0 (fun q => absurd q (by decide)) (fun _ => b_J_coder_6 ⟨by omega, by omega⟩ (b_J_coder_14 rfl h)))
theorem p_J_length {j : Nat} (hj : j < 7) (h : Rf (nI (ab_tlen.getD j 0)) σ) : CA (d + 2) 2 [.ref (64 + j)] σ (ab_rI Rf) := by
  refine e_J_length (b_J_length_0 ⟨by omega, by omega⟩ (p_J_coder hj (b_J_length_9 ?_)))
  rw [show 64 + j + 7 - 71 = j by omega]
  have : ∀ j, j < 7 → nI (ab_tlen.getD j 0) >>> ((0 : Int32) &&& 31) = nI (ab_tlen.getD j 0) := by decide
  rw [this j hj]
  exact h
theorem p_J_isLatin1 {j : Nat} (hj : j < 7) (h : Rf 1 σ) : CA (d + 1) 5 [.ref (64 + j)] σ (ab_rI Rf) :=
  e_J_isLatin1 (b_J_isLatin1_0 (fun q => absurd q (by decide)) (fun _ => b_J_isLatin1_6 ⟨by omega, by omega⟩ (fun _ => b_J_isLatin1_13 (b_J_isLatin1_18 rfl h)) (fun q => absurd rfl q)))
theorem p_J_checkIndex {k n : Nat} {Q : ab_S → Prop} (hk : k < n) (hn : n < 1000) (h : Q σ) : CA (d + 2) 6 [.int (nI k), .int (nI n)] σ (ab_rV Q) :=
  e_J_checkIndex (b_J_checkIndex_0 (e_JP_checkIndex (b_JP_checkIndex_0 (fun q => absurd q (by rw [zlit 0, zlt (by omega) (by omega)]; omega)) (fun _ => b_JP_checkIndex_4 (fun _ => b_JP_checkIndex_16 (b_J_checkIndex_8 h)) (fun q => absurd (by rw [zlt (by omega) (by omega)]; exact hk) q)))))
theorem ztl : ∀ j, j < 7 → ab_tlen.getD j 0 = (ab_tx.getD j []).length ∧ ab_tlen.getD j 0 ≤ 7 := by decide
theorem ztc : ∀ j, j < 7 → ∀ k, k < ab_tlen.getD j 0 → (Int32.toUInt32 (((ab_tx.getD j []).getD k 0) &&& 255) % 65536).toInt32 = (ab_tx.getD j []).getD k 0 := by decide
theorem ztn : ∀ j, j < 7 → ∀ k, k < ab_tlen.getD j 0 → narrow .char (.int ((ab_tx.getD j []).getD k 0)) = .int ((ab_tx.getD j []).getD k 0) := by
  intro j hj k hk
  have h7 := (ztl j hj).2
  rcases (show j = 0 ∨ j = 1 ∨ j = 2 ∨ j = 3 ∨ j = 4 ∨ j = 5 ∨ j = 6 by omega) with rfl | rfl | rfl | rfl | rfl | rfl | rfl <;> rcases (show k = 0 ∨ k = 1 ∨ k = 2 ∨ k = 3 ∨ k = 4 ∨ k = 5 ∨ k = 6 by omega) with rfl | rfl | rfl | rfl | rfl | rfl | rfl <;> first | rfl | exact absurd hk (by decide)
theorem p_J_charAt {j k : Nat} (hj : j < 7) (hk : k < ab_tlen.getD j 0) (h : Rf ((ab_tx.getD j []).getD k 0) σ) : CA (d + 5) 3 [.ref (64 + j), .int (nI k)] σ (ab_rI Rf) := by
  have h7 := (ztl j hj).2
  have ej : 64 + j + 7 - 71 = j := by omega
  have ek : Int32.toNatClampNeg (nI k) = k := zc_nI (by omega)
  refine e_J_charAt (b_J_charAt_0 ⟨by omega, by omega⟩ (p_J_isLatin1 hj (b_J_charAt_4 (fun q => absurd q (by decide)) (fun _ => b_J_charAt_7 ⟨by omega, by omega⟩ (e_JL_charAt (b_JL_charAt_0 ⟨by omega, by omega⟩ ?_))))))
  rw [ej]
  refine p_J_checkIndex hk (by omega) (b_JL_charAt_6 ⟨by omega, by omega⟩ ?_ ?_ ?_)
  · rw [ej]; exact vp_in_nI hk (by omega)
  · rw [ej, ek, ztc j hj k hk]; exact ztn j hj k hk
  · rw [ej, ek, ztc j hj k hk]
    exact b_J_charAt_15 (ztn j hj k hk) h
theorem p_R_tokenIs {j s e srt : Nat} (hj : j < 7) (hT : zTx σ T) (h3 : σ.1 12 3 = nI s) (h4 : σ.1 12 4 = nI e) (h5 : σ.1 12 5 = nI srt) (hse : s ≤ e) (he : e ≤ 200) (hs : srt ≤ 4) (h : Rf (zb (decide (srt = 1) && zmw T (ab_tx.getD j []) s e)) σ) : CA (d + 6) 64 [.ref 12, .ref (64 + j)] σ (ab_rI Rf) := by
  obtain ⟨l1, l2⟩ := ztl j hj
  refine e_R_tokenIs (b_R_tokenIs_0 (fun q => b_R_tokenIs_8 ⟨by omega, by omega⟩ (p_J_length hj (b_R_tokenIs_21 (fun q2 => b_R_tokenIs_26 ?_) (fun q2 => b_R_tokenIs_24 (zr h ?_))))) (fun q => b_R_tokenIs_24 (zr h ?_))) <;> rw [h5, zlit 1, zeq (by omega) (by omega)] at q
  · rw [h3, h4, pk_sub hse, zeq (by omega) (by omega)] at q2
    have hm : (decide (srt = 1) && zmw T (ab_tx.getD j []) s e) = zall (fun k => decide (ztb T (s + k) = (ab_tx.getD j []).getD k 0)) (ab_tlen.getD j 0) := by
      unfold zmw; rw [decide_eq_true q, decide_eq_true (by rw [← l1]; exact q2), ← l1]; rfl
    rw [hm] at h
    have key : ∀ m k, ab_tlen.getD j 0 - k ≤ m → k ≤ ab_tlen.getD j 0 → zall (fun k => decide (ztb T (s + k) = (ab_tx.getD j []).getD k 0)) k = true → S_R_tokenIs_28 (d + 5) Rf (64 + j) (nI k) σ := by
      intro m
      induction m with
      | zero =>
        intro k q1 q3 hk
        have : k = ab_tlen.getD j 0 := by omega
        rw [this] at hk ⊢
        exact b_R_tokenIs_28 ⟨by omega, by omega⟩ (p_J_length hj (b_R_tokenIs_33 (fun _ => b_R_tokenIs_62 (zr h (by rw [hk]; rfl))) (fun c => absurd (Int32.le_refl _) c)))
      | succ m ih =>
        intro k q1 q3 hk
        by_cases qk : k = ab_tlen.getD j 0
        · exact ih k (by omega) q3 hk
        refine b_R_tokenIs_28 ⟨by omega, by omega⟩ (p_J_length hj (b_R_tokenIs_33 (fun c => absurd c (by rw [zle (by omega) (by omega)]; omega)) (fun _ => b_R_tokenIs_36 ?_)))
        rw [h3, nI_add]
        refine p_R_byteAt hT (by omega) (b_R_tokenIs_46 ⟨by omega, by omega⟩ (p_J_charAt hj (by omega) (b_R_tokenIs_51 (fun c => b_R_tokenIs_56 ?_) (fun c => b_R_tokenIs_54 (zr h ?_)))))
        · rw [nI_1]
          exact ih (k + 1) (by omega) (by omega) (by rw [zall, hk, decide_eq_true c]; rfl)
        · have no : ∀ n, k < n → zall (fun k => decide (ztb T (s + k) = (ab_tx.getD j []).getD k 0)) n = false := by
            intro n
            induction n with
            | zero => intro z; omega
            | succ n ih2 =>
              intro z
              rw [zall]
              by_cases w : n = k
              · subst w; rw [decide_eq_false c]; simp
              · rw [ih2 (by omega)]; rfl
          rw [no _ (by omega)]; rfl
    exact key _ 0 (Nat.le_refl _) (by omega) rfl
  · rw [h3, h4, pk_sub hse, zeq (by omega) (by omega)] at q2
    unfold zmw; rw [decide_eq_false (show ¬ e - s = (ab_tx.getD j []).length by rw [← l1]; exact q2)]; simp [zb]
  · rw [decide_eq_false q]; rfl
theorem p_R_itemNamed {s e srt : Nat} (hT : zTx σ T) (h3 : σ.1 12 3 = nI s) (h4 : σ.1 12 4 = nI e) (h5 : σ.1 12 5 = nI srt) (hse : s ≤ e) (he : e ≤ 200) (hs : srt ≤ 4) (h : Rf (zc (if srt = 1 then zwo7 T s e else 0)) σ) : CA (d + 7) 63 [.ref 12] σ (ab_rI Rf) := by
  have tk : ∀ j (Q : Int32 → ab_S → Prop), j < 7 → Q (zb (decide (srt = 1) && zmw T (ab_tx.getD j []) s e)) σ → CA (d + 6) 64 [.ref 12, .ref (64 + j)] σ (ab_rI Q) := fun j Q hj hQ => p_R_tokenIs hj hT h3 h4 h5 hse he hs hQ
  by_cases q1 : srt = 1
  · rw [if_pos q1] at h
    unfold zwo7 at h
    have tk : ∀ j (Q : Int32 → ab_S → Prop), j < 7 → Q (zb (zmw T (ab_tx.getD j []) s e)) σ → CA (d + 6) 64 [.ref 12, .ref (64 + j)] σ (ab_rI Q) := fun j Q hj hQ => tk j Q hj (by rw [decide_eq_true q1, Bool.true_and]; exact hQ)
    refine e_R_itemNamed (b_R_itemNamed_0 (tk 0 _ (by omega) (b_R_itemNamed_6 (fun a0 => b_R_itemNamed_11 (tk 1 _ (by omega) (b_R_itemNamed_17 (fun a1 => b_R_itemNamed_22 (tk 2 _ (by omega) (b_R_itemNamed_28 (fun a2 => b_R_itemNamed_33 (tk 3 _ (by omega) (b_R_itemNamed_39 (fun a3 => b_R_itemNamed_44 (tk 4 _ (by omega) (b_R_itemNamed_50 (fun a4 => b_R_itemNamed_55 (tk 5 _ (by omega) (b_R_itemNamed_61 (fun a5 => b_R_itemNamed_66 (tk 6 _ (by omega) (b_R_itemNamed_72 (fun a6 => b_R_itemNamed_80 (b_R_itemNamed_81 (zr h ?_))) (fun a6 => b_R_itemNamed_75 (b_R_itemNamed_81 (zr h ?_)))))) (fun a5 => b_R_itemNamed_64 (zr h ?_))))) (fun a4 => b_R_itemNamed_53 (zr h ?_))))) (fun a3 => b_R_itemNamed_42 (zr h ?_))))) (fun a2 => b_R_itemNamed_31 (zr h ?_))))) (fun a1 => b_R_itemNamed_20 (zr h ?_))))) (fun a0 => b_R_itemNamed_9 (zr h ?_)))))
    all_goals simp only [zb_0, Bool.not_eq_false] at *
    · simp only [a0, a1, a2, a3, a4, a5, a6, Bool.false_eq_true, if_false]; decide
    · simp only [a0, a1, a2, a3, a4, a5, a6, Bool.false_eq_true, if_false, if_true]; decide
    · simp only [a0, a1, a2, a3, a4, a5, Bool.false_eq_true, if_false, if_true]; decide
    · simp only [a0, a1, a2, a3, a4, Bool.false_eq_true, if_false, if_true]; decide
    · simp only [a0, a1, a2, a3, Bool.false_eq_true, if_false, if_true]; decide
    · simp only [a0, a1, a2, Bool.false_eq_true, if_false, if_true]; decide
    · simp only [a0, a1, Bool.false_eq_true, if_false, if_true]; decide
    · simp only [a0, if_true]; decide
  · rw [if_neg q1] at h
    have tk : ∀ j (Q : Int32 → ab_S → Prop), j < 7 → Q 0 σ → CA (d + 6) 64 [.ref 12, .ref (64 + j)] σ (ab_rI Q) := fun j Q hj hQ => tk j Q hj (by rw [decide_eq_false q1]; exact hQ)
    exact e_R_itemNamed (b_R_itemNamed_0 (tk 0 _ (show 0 < 7 by decide) (b_R_itemNamed_6 (fun _ => b_R_itemNamed_11 (tk 1 _ (show 1 < 7 by decide) (b_R_itemNamed_17 (fun _ => b_R_itemNamed_22 (tk 2 _ (show 2 < 7 by decide) (b_R_itemNamed_28 (fun _ => b_R_itemNamed_33 (tk 3 _ (show 3 < 7 by decide) (b_R_itemNamed_39 (fun _ => b_R_itemNamed_44 (tk 4 _ (show 4 < 7 by decide) (b_R_itemNamed_50 (fun _ => b_R_itemNamed_55 (tk 5 _ (show 5 < 7 by decide) (b_R_itemNamed_61 (fun _ => b_R_itemNamed_66 (tk 6 _ (show 6 < 7 by decide) (b_R_itemNamed_72 (fun _ => b_R_itemNamed_80 (b_R_itemNamed_81 h)) (fun q => absurd rfl q)))) (fun q => absurd rfl q)))) (fun q => absurd rfl q)))) (fun q => absurd rfl q)))) (fun q => absurd rfl q)))) (fun q => absurd rfl q)))) (fun q => absurd rfl q))))
theorem zPost.b {x : Sum Nat (Nat × zB)} {r : Int32} {τ : ab_S} (h : zPost σ x r τ) : narrow .boolean (.int r) = .int r := by
  have := h.2
  revert this
  split
  · intro w; rw [w.1]; rfl
  · intro w; rw [w.1]; rfl
theorem p_R_readParts {w s : Nat} (hw : w ≤ 7) (hT : zTx σ T) (ha : a ≤ T.1) (h4 : σ.1 12 4 = nI a) (h3 : σ.1 12 3 = nI s) (hG0 : zTG σ B) (hV : w = 1 ∨ w = 0 ∨ (zV B ∧ B 7 < 9999)) (h : ∀ r τ, zPost σ (zparts T w s a B) r τ → Rf r τ) : CA (d + 6) 53 [.ref 12, .int (zc w)] σ (ab_rI Rf) := by
  have ev : ∀ k : Nat, k < 7 → zc w = nI k → w = k + 1 := fun k hk e => (zc_eq (by omega) (by omega)).mp e
  have vV : w ≠ 1 → w ≠ 0 → zV B ∧ B 7 < 9999 := fun h1 h2 => by rcases hV with z | z | z; exact absurd z h1; exact absurd z h2; exact z
  refine e_R_readParts (b_R_readParts_0 (fun c => b_R_readParts_44 ?_) (fun c => b_R_readParts_49 ?_) (fun c => b_R_readParts_54 ?_) (fun c => b_R_readParts_59 ?_) (fun c => b_R_readParts_64 ?_) (fun c => ?_) (fun c => b_R_readParts_79 ?_) (fun c => b_R_readParts_84 (h _ _ ⟨zFr.rf, ?_⟩)))
  · have := ev 0 (by omega) c
    subst this
    exact p_R_field hT ha h4 (fun r τ hp => b_R_readParts_48 hp.b (h r τ hp))
  · have := ev 1 (by omega) c
    subst this
    exact p_R_thicket hT ha h4 hG0 (vV (by omega) (by omega)).1 (fun r τ hp => b_R_readParts_53 hp.b (h r τ hp))
  · have := ev 2 (by omega) c
    subst this
    exact p_R_fox hT ha h4 hG0 (vV (by omega) (by omega)).1 (fun r τ hp => b_R_readParts_58 hp.b (h r τ hp))
  · have := ev 3 (by omega) c
    subst this
    exact p_R_goose hT ha h4 h3 hG0 (vV (by omega) (by omega)).1 (fun r τ hp => b_R_readParts_63 hp.b (h r τ hp))
  · have := ev 4 (by omega) c
    subst this
    obtain ⟨v, v7⟩ := vV (by omega) (by omega)
    exact p_R_go hT ha h4 hG0 v v7 (fun r τ hp => b_R_readParts_69 hp.b (h r τ hp))
  · have := ev 5 (by omega) c
    subst this
    obtain ⟨v, v7⟩ := vV (by omega) (by omega)
    exact p_R_move hT ha h4 hG0 v v7 h
  · have := ev 6 (by omega) c
    subst this
    obtain ⟨v, v7⟩ := vV (by omega) (by omega)
    exact p_R_pass h4 h3 hG0 v v7 (fun r τ hp => b_R_readParts_83 hp.b (h r τ hp))
  · rw [zc_toInt (by omega)] at c
    have : w = 0 := by omega
    subst this
    exact ⟨rfl, h3⟩
theorem ztend_w {s : Nat} (hs : s ≤ T.1) : (if ztsort T s = 1 then zwo7 T s (ztend T s) else 0) = zwo7 T s (zsp zle1 T s) ∧ (ztsort T s = 1 → ztend T s = zsp zle1 T s) := by
  have no : ztsort T s ≠ 1 → zsp zle1 T s = s := by
    intro h
    refine zsp_n ?_
    cases hl : zle1 (ztb T s) with
    | false => rfl
    | true =>
      exfalso
      apply h
      unfold ztsort
      rw [if_neg (fun z => by rw [ztb_hi z] at hl; revert hl; decide), if_pos hl]
  have yes : ztsort T s = 1 → ztend T s = zsp zle1 T s := by
    intro h
    unfold ztsort at h
    unfold ztend
    split at h
    · omega
    · rename_i q
      rw [if_neg q]
      split at h
      · rename_i q2; rw [if_pos q2]
      · split at h
        · split at h <;> omega
        · split at h <;> omega
  refine ⟨?_, yes⟩
  by_cases q : ztsort T s = 1
  · rw [if_pos q, yes q]
  · rw [if_neg q, no q]
    rcases Nat.eq_zero_or_pos (zwo7 T s s) with z | z
    · exact z.symm
    · have := zwo7_0 (T := T) (s := s) (e := s) (by omega); omega
theorem ztsort_le {s : Nat} : ztsort T s ≤ 4 := by unfold ztsort; split; omega; split; omega; split; split <;> omega; split <;> omega
theorem ztsort_3 {s : Nat} (hs : s ≤ T.1) : ztsort T s = 3 ↔ ztb T s = 59 := by
  unfold ztsort
  split
  · rename_i q
    rw [ztb_hi q]
    constructor
    · intro z; omega
    · intro z; exact absurd z (by decide)
  · split
    · rename_i q
      constructor
      · intro z; omega
      · intro z; rw [z] at q; exact absurd q (by decide)
    · split
      · rename_i q
        constructor
        · intro z; split at z <;> omega
        · intro z; exact absurd z (zfg_le q).2.1
      · split
        · rename_i q; exact ⟨fun _ => q, fun _ => rfl⟩
        · rename_i q; exact ⟨fun z => by omega, fun z => absurd z q⟩
theorem ztsort_0 {s : Nat} : ztsort T s = 0 ↔ T.1 ≤ s := by
  unfold ztsort
  split
  · rename_i q; exact ⟨fun _ => q, fun _ => rfl⟩
  · rename_i q
    refine ⟨fun z => ?_, fun z => absurd z q⟩
    exfalso
    revert z
    split
    · omega
    · split
      · split <;> omega
      · split <;> omega
theorem ztend_b {s : Nat} (hs : s ≤ T.1) : s ≤ ztend T s ∧ ztend T s ≤ T.1 + 1 := by
  have h1 := zsp_b (p := zle1) hs
  have h2 := zsp_b (p := zfg) hs
  unfold ztend; split; omega; split; omega; split <;> omega
theorem p_R_readText (hT : zTx σ T) (h : ∀ τ, zFr σ τ → (∀ C, (zread T 80 0 0 (zbeg 5 5)).2 = some C → zTG τ C) → Rf (zread T 80 0 0 (zbeg 5 5)).1 τ) : CA (d + 8) 52 [.ref 12] σ (ab_rI Rf) := by
  have hL := hT.2.2
  have key : ∀ f a i B (τ : ab_S), f + i = 80 → 2 * i ≤ a → a ≤ T.1 → (i = 0 ∨ zV B) → B 7 ≤ i → zFr σ τ → τ.1 12 4 = nI a → zTG τ B → (∀ υ, zFr σ υ → (∀ C, (zread T f a i B).2 = some C → zTG υ C) → Rf (zread T f a i B).1 υ) → S_R_readText_16 (d + 7) Rf (nI i) τ := by
    intro f
    induction f with
    | zero => intro a i B τ q1 q2 q3; omega
    | succ f ih =>
      intro a i B τ q1 q2 q3 hi h7 hF h4 hG hR
      have sb := zsb_b q3
      have wb := zsp_b (p := zle1) sb.2
      simp only [zread] at hR
      refine b_R_readText_16 (fun q => absurd q (by rw [zlit 150, zlt (by omega) (by omega)]; omega)) (fun _ => b_R_readText_23 (p_R_nextToken (hT.fr hF) q3 h4 (fun υ hFt e3 e4 e5 => ?_)))
      have hFυ := hF.tr hFt.fr
      have hGυ := hFt.tg hG
      have tb := ztend_b (T := T) sb.2
      obtain ⟨w1, w2⟩ := ztend_w (T := T) sb.2
      have fault : ∀ (φ : ab_S) s, zFr σ φ → φ.1 12 3 = nI s → zstop T (zitem T i (zsb T a) B) = .inl s → ¬ (T.1 ≤ zsb T a ∧ 0 < i) → S_R_readText_98 (d + 7) Rf φ := fun φ s hFφ p3 hz hne => by
        rw [if_neg hne, hz] at hR
        refine b_R_readText_98 ?_
        rw [p3]
        exact hR φ hFφ (fun C hC => (by cases hC))
      have go : ¬ (T.1 ≤ zsb T a ∧ 0 < i) → S_R_readText_40 (d + 7) Rf (nI i) υ := fun hne => by
        refine b_R_readText_40 (p_R_itemNamed (hT.fr hFυ) e3 e4 e5 tb.1 (by omega) ztsort_le ?_)
        rw [w1]
        have w7 := zwo7_le (T := T) (s := zsb T a) (e := zsp zle1 T (zsb T a))
        have parts : ((zwo7 T (zsb T a) (zsp zle1 T (zsb T a)) = 1) ↔ i = 0) → S_R_readText_66 (d + 7) Rf (nI i) (zc (zwo7 T (zsb T a) (zsp zle1 T (zsb T a)))) υ := fun hc => by
          have hit : zitem T i (zsb T a) B = zparts T (zwo7 T (zsb T a) (zsp zle1 T (zsb T a))) (zsb T a) (zsp zle1 T (zsb T a)) B := by unfold zitem; rw [if_pos hc]
          refine b_R_readText_66 ?_
          by_cases z0 : zwo7 T (zsb T a) (zsp zle1 T (zsb T a)) = 0
          · rw [z0]
            refine e_R_readParts (b_R_readParts_0 (fun c => absurd c (by decide)) (fun c => absurd c (by decide)) (fun c => absurd c (by decide)) (fun c => absurd c (by decide)) (fun c => absurd c (by decide)) (fun c => absurd c (by decide)) (fun c => absurd c (by decide)) (fun _ => b_R_readParts_84 (b_R_readText_71 (fun _ => b_R_readText_74 (fault υ (zsb T a) hFυ e3 ?_ hne)) (fun q => absurd rfl q))))
            unfold zstop; rw [hit, z0]; rfl
          · have s1 : ztsort T (zsb T a) = 1 := by
              rcases Nat.lt_or_ge (ztsort T (zsb T a)) 2 with z | z
              · rcases (show ztsort T (zsb T a) = 0 ∨ ztsort T (zsb T a) = 1 by omega) with y | y
                · rw [y, if_neg (by omega)] at w1; exact absurd w1.symm z0
                · exact y
              · rw [if_neg (by omega)] at w1; exact absurd w1.symm z0
            rw [w2 s1] at e4
            refine p_R_readParts w7 (hT.fr hFυ) wb.2 e4 e3 hGυ (by rcases hi with z | z; exact Or.inl (hc.mpr z); exact Or.inr (Or.inr ⟨z, by omega⟩)) (fun r φ hp => ?_)
            rw [← hit] at hp
            have hFφ := hFυ.tr hp.1
            cases hz : zitem T i (zsb T a) B with
            | inl s =>
              have p2 := hp.2
              rw [hz] at p2
              rw [p2.1]
              exact b_R_readText_71 (fun _ => b_R_readText_74 (fault φ s hFφ p2.2 (by unfold zstop; rw [hz]; rfl) hne)) (fun q => absurd rfl q)
            | inr y =>
              have p2 := hp.2
              rw [hz] at p2
              obtain ⟨v1, v2, v3, v4⟩ := zitem_V sb.2 hi (by omega) hz
              have sb2 := zsb_b v4
              rw [p2.1]
              refine b_R_readText_71 (fun q => absurd q (by decide)) (fun _ => b_R_readText_77 (p_R_nextToken (hT.fr hFφ) v4 p2.2.1 (fun ψ hFs f3 f4 f5 => b_R_readText_81 (fun q => b_R_readText_92 ?_) (fun q => b_R_readText_89 (fault ψ (zsb T y.1) (hFφ.tr hFs.fr) f3 ?_ hne))))) <;> rw [f5, zlit 3, zeq (by have := ztsort_le (T := T) (s := zsb T y.1); omega) (by omega), ztsort_3 sb2.2] at q
              · have hst : zstop T (zitem T i (zsb T a) B) = .inr (zsb T y.1 + 1, y.2) := by unfold zstop; rw [hz]; dsimp only [zbd2]; rw [if_pos q]
                obtain ⟨u1, u2, u3, u4⟩ := zstop_V sb.2 hi (by omega) hst
                rw [if_neg hne, hst] at hR
                have et : ztend T (zsb T y.1) = zsb T y.1 + 1 := by
                  unfold ztend
                  rw [if_neg (fun z => by rw [ztb_hi z] at q; exact absurd q (by decide)), if_neg (by rw [q]; decide), if_neg (by rw [q]; decide)]
                rw [et] at f4
                rw [nI_1]
                exact ih (zsb T y.1 + 1) (i + 1) y.2 ψ (by omega) (by omega) u4 (Or.inr u1) (by omega) (hFφ.tr hFs.fr) f4 (hFs.tg p2.2.2) hR
              · unfold zstop; rw [hz]; dsimp only [zbd2]; rw [if_neg q]
        have e0 : (zc (zwo7 T (zsb T a) (zsp zle1 T (zsb T a))) = 0) ↔ zwo7 T (zsb T a) (zsp zle1 T (zsb T a)) = 1 := zc_eq (c := 0) (by omega) (by omega)
        have bad : ¬ ((zwo7 T (zsb T a) (zsp zle1 T (zsb T a)) = 1) ↔ i = 0) → S_R_readText_98 (d + 7) Rf υ := fun hc => fault υ (zsb T a) hFυ e3 (by unfold zstop zitem; rw [if_neg hc]; rfl) hne
        have i0 : (nI i = 0) ↔ i = 0 := zeq (b := 0) (by omega) (by omega)
        refine b_R_readText_44 (fun q => b_R_readText_49 (b_R_readText_54 (fun q5 => b_R_readText_58 (b_R_readText_63 (fun _ => parts ?_) (fun z => absurd rfl z))) (fun q5 => b_R_readText_62 (b_R_readText_63 (fun z => absurd z (by decide)) (fun _ => bad ?_))))) (fun q => b_R_readText_53 (b_R_readText_54 (fun q5 => b_R_readText_58 (b_R_readText_63 (fun z => absurd z (by decide)) (fun _ => bad ?_))) (fun q5 => b_R_readText_62 (b_R_readText_63 (fun _ => parts ?_) (fun z => absurd rfl z))))) <;> rw [e0] at q <;> rw [i0] at q5
        · exact ⟨fun _ => q5, fun _ => q⟩
        · exact fun z => q5 (z.mp q)
        · exact fun z => q (z.mpr q5)
        · exact ⟨fun z => absurd z q, fun z => absurd z q5⟩
      refine b_R_readText_27 (fun q => b_R_readText_34 (fun q5 => go ?_) (fun q5 => b_R_readText_38 ?_)) (fun q => go ?_) <;> rw [e5, zlit 0, zeq (by have := ztsort_le (T := T) (s := zsb T a); omega) (by omega), ztsort_0] at q
      · rw [zlit 0, zle (by omega) (by omega)] at q5; omega
      · rw [zlit 0, zle (by omega) (by omega)] at q5
        rw [if_pos ⟨q, by omega⟩] at hR
        exact hR υ hFυ (fun C hC => (by rw [← Option.some.inj hC]; exact hGυ))
      · omega
  refine e_R_readText (b_R_readText_0 (p_G_begin (w := 5) (h := 5) zsh14 (by omega) (by omega) (fun τ hτ hF => b_R_readText_9 ?_)))
  have hF1 : zFt τ (ab_pI τ.1 12 4 0, τ.2) := zFt.put (by omega)
  exact key 80 0 0 (zbeg 5 5) _ (by omega) (by omega) (by omega) (Or.inl rfl) (by unfold zbeg; simp) ((zFg hF).tr hF1.fr) (by dsimp only; rw [zp_s]; rfl) (hF1.tg hτ) h
def zO_read (S : zS) : Int32 × zS := match (zread S.2.2.1 80 0 0 (zbeg 5 5)).2 with
  | some C => ((zread S.2.2.1 80 0 0 (zbeg 5 5)).1, (C, (0, S.1.2.1.2), (0, S.1.2.2.1.2), (0, S.1.2.2.2.2)), S.2)
  | none => ((zread S.2.2.1 80 0 0 (zbeg 5 5)).1, S)
theorem zbeg5 : zV (zbeg 5 5) := zbeg_V (by omega) (by omega)
theorem zGV {C : zB} {Pb : Nat → zB} {nr mr : Nat → Int32} (h1 : zV C) (h2 : C 7 ≤ 9999) : zAV (C, (0, Pb), (0, nr), (0, mr)) := ⟨h1, h2, Nat.zero_le 8, fun u hu => absurd hu (Nat.not_lt_zero u), Nat.zero_le 6, Nat.zero_le 6, fun u hu => absurd hu (Nat.not_lt_zero u), fun u hu => absurd hu (Nat.not_lt_zero u)⟩
theorem zO_read_V {S : zS} (hV : zSV S) : zSV (zO_read S).2 := by
  obtain ⟨v1, -⟩ := zread_V (T := S.2.2.1) hV.2.2.1 80 0 0 (zbeg 5 5) (by omega) (by omega) (by omega) (Or.inl rfl) (by unfold zbeg; simp)
  unfold zO_read
  split
  · rename_i C hC
    obtain ⟨a, b, -⟩ := v1 C hC
    exact ⟨zGV a b, hV.2⟩
  · exact hV
theorem p_F_read {S : zS} (hI : zIF σ S) (hV : zSV S) (h : ∀ τ, zIF τ (zO_read S).2 → zKF σ τ → Rf (zO_read S).1 τ) : CA (d + 9) 74 [.ref 0] σ (ab_rI Rf) := by
  obtain ⟨v1, v2⟩ := zread_V (T := S.2.2.1) hV.2.2.1 80 0 0 (zbeg 5 5) (by omega) (by omega) (by omega) (Or.inl rfl) (by unfold zbeg; simp)
  have hT : zTx σ S.2.2.1 := ⟨hI.2.2.1.1, hI.2.2.1.2, hV.2.2.1⟩
  refine e_F_read (b_F_read_0 (p_R_readText hT (fun τ hF hG => ?_)))
  have hIτ : zIF τ S := hI.scr (fun x hx => hF.2.1 x (by omega) (by omega)) hF.2.2 (by rw [hF.1]) (by rw [hF.1])
  have hK : zKF σ τ := fun x hx => ⟨hF.2.1 x (by omega) (by omega), by rw [hF.1]⟩
  unfold zO_read at h
  cases hz : (zread S.2.2.1 80 0 0 (zbeg 5 5)).2 with
  | none =>
    rw [hz] at h
    refine b_F_read_7 (fun _ => b_F_read_26 (h τ hIτ hK)) (fun q => absurd ?_ q)
    rw [fa_le, zt0]; exact v2 hz
  | some C =>
    rw [hz] at h
    obtain ⟨a1, a2, j, j1, j2, j3⟩ := v1 C hz
    refine b_F_read_7 (fun q => absurd q ?_) (fun _ => b_F_read_12 (p_G_copyFrom zsh1 zsh14 (by omega) (hG C hz S.1.2.1.2 S.1.2.2.1.2 S.1.2.2.2.2) (zGV a1 a2) (fun υ hυ hL => b_F_read_26 (h υ (hIτ.game hυ hL) (hK.tr (hL.kf (by simp)))))))
    rw [j3, zlit 0, zle (by omega) (by omega)]; omega
end RW2
