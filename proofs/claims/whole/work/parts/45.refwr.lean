/-! the reference: what it writes into its cells -/
def zFR (lo hi : Nat) (σ τ : ab_S) : Prop := τ.2 = σ.2 ∧ (∀ a, a ≠ 57 → τ.1 a = σ.1 a) ∧ ∀ j, (j < lo ∨ hi ≤ j) → τ.1 57 j = σ.1 57 j
theorem zFR.rf {lo hi : Nat} {σ : ab_S} : zFR lo hi σ σ := ⟨rfl, fun _ _ => rfl, fun _ _ => rfl⟩
theorem zFR.tr {lo hi : Nat} {σ τ υ : ab_S} (h1 : zFR lo hi σ τ) (h2 : zFR lo hi τ υ) : zFR lo hi σ υ := ⟨h2.1.trans h1.1, fun a ha => (h2.2.1 a ha).trans (h1.2.1 a ha), fun j hj => (h2.2.2 j hj).trans (h1.2.2 j hj)⟩
theorem zFR.up {lo hi lo2 hi2 : Nat} {σ τ : ab_S} (h : zFR lo hi σ τ) (h1 : lo2 ≤ lo) (h2 : hi ≤ hi2) : zFR lo2 hi2 σ τ := ⟨h.1, h.2.1, fun j hj => h.2.2 j (by omega)⟩
theorem zFR.put {lo hi i : Nat} {v : Int32} {σ : ab_S} (h1 : lo ≤ i) (h2 : i < hi) : zFR lo hi σ (ab_pI σ.1 57 i v, σ.2) := ⟨rfl, fun _ ha => ab_pI_ne ha, fun j hj => zp_n (show ¬ (57 = 57 ∧ j = i) by omega)⟩
theorem zFR.zF {lo hi : Nat} {σ τ : ab_S} (h : zFR lo hi σ τ) : zF [57] σ τ := ⟨h.1, fun a ha => h.2.1 a (by simpa using ha)⟩
theorem zR.ext {σ τ : ab_S} {r : Nat} {B : zB} (h : zR σ r B) (h4 : B 2 ≤ 4) (e : ∀ j, r ≤ j → j < r + 16 → τ.1 57 j = σ.1 57 j) : zR τ r B :=
  ⟨fun j hj => (e _ (by omega) (by omega)).trans (h.1 j hj), fun i hi => ⟨(e _ (by omega) (by omega)).trans (h.2 i hi).1, (e _ (by omega) (by omega)).trans (h.2 i hi).2⟩⟩
theorem zR.fr {σ τ : ab_S} {r lo hi : Nat} {B : zB} (h : zR σ r B) (h4 : B 2 ≤ 4) (hF : zFR lo hi σ τ) (hd : r + 16 ≤ lo ∨ hi ≤ r) : zR τ r B :=
  h.ext h4 (fun j a b => hF.2.2 j (by omega))
theorem zR.frF {σ τ : ab_S} {r : Nat} {B : zB} {ks : List Nat} (h : zR σ r B) (hF : zF ks σ τ) (hd : 57 ∉ ks) : zR τ r B := by
  unfold zR
  rw [hF.2 57 hd]
  exact h
theorem zR.put {σ : ab_S} {r j v : Nat} {B : zB} (h : zR σ r B) (h4 : B 2 ≤ 4) (hj : j < 8) (h2 : j ≠ 2) : zR (ab_pI σ.1 57 (r + j) (nI v), σ.2) r (zup B j v) := by
  refine ⟨fun i hi => ?_, fun i hi => ?_⟩
  · dsimp only
    unfold zup
    by_cases q : i = j
    · subst q
      rw [zp_s, if_pos rfl]
    · rw [zp_n (by omega), if_neg q]
      exact h.1 i hi
  · have e : ∀ a, a ≠ j → zup B j v a = B a := fun a ha => by unfold zup; rw [if_neg ha]
    rw [e 2 (by omega)] at hi
    rw [e _ (by omega), e _ (by omega)]
    dsimp only
    rw [zp_n (by omega), zp_n (by omega)]
    exact h.2 i hi
theorem zR.putG {σ : ab_S} {r i v : Nat} {B : zB} (h : zR σ r B) (h4 : B 2 ≤ 4) (hi : i < 4) : zR (ab_pI σ.1 57 (r + 12 + i) (zc v), σ.2) r (zup B (12 + i) v) := by
  have e : ∀ a, a ≠ 12 + i → zup B (12 + i) v a = B a := fun a ha => by unfold zup; rw [if_neg ha]
  refine ⟨fun j hj => ?_, fun j hj => ?_⟩
  · dsimp only
    rw [zp_n (by omega), e _ (by omega)]
    exact h.1 j hj
  · rw [e 2 (by omega)] at hj
    dsimp only
    rw [zp_n (by omega), e (8 + j) (by omega)]
    by_cases q : j = i
    · subst q
      rw [zp_s]
      refine ⟨(h.2 j hj).1, ?_⟩
      unfold zup
      rw [if_pos rfl]
    · rw [zp_n (by omega), e _ (by omega)]
      exact h.2 j hj
theorem zeat_no {B : zB} {n : Nat} (h : (decide (n ≠ 0) && zga B (B 2) (n - 1)) = false) : zeat B n = B := by
  funext j
  unfold zeat
  by_cases q : 12 ≤ j ∧ j < 12 + B 2 ∧ n ≠ 0 ∧ B j = n
  · exfalso
    rw [decide_eq_true q.2.2.1, Bool.true_and, Bool.eq_false_iff] at h
    refine h (zga_iff.mpr ⟨j - 12, by omega, ?_⟩)
    rw [show 12 + (j - 12) = j by omega]
    omega
  · rw [if_neg q]
theorem zeat_yes {B : zB} {n : Nat} (hV : zV B) (h : (decide (n ≠ 0) && zga B (B 2) (n - 1)) = true) : zgx B (n - 1) < B 2 ∧ zeat B n = zup B (12 + zgx B (n - 1)) 0 := by
  rw [Bool.and_eq_true, decide_eq_true_eq, zgx_ga, decide_eq_true_eq] at h
  obtain ⟨h0, h1⟩ := h
  obtain ⟨-, -, -, hd, -⟩ := id hV
  have hx : B (12 + zgx B (n - 1)) = n - 1 + 1 := of_decide_eq_true (fa_first_yes (fun k => decide (B (12 + k) = n - 1 + 1)) _ h1)
  refine ⟨h1, funext fun j => ?_⟩
  unfold zeat zup
  by_cases q : j = 12 + zgx B (n - 1)
  · subst q
    rw [if_pos rfl, if_pos ⟨by omega, by omega, h0, by omega⟩]
  · rw [if_neg q, if_neg]
    rintro ⟨a, b, -, e⟩
    rcases Nat.lt_or_ge j (12 + zgx B (n - 1)) with g | g
    · have := hd (j - 12) (zgx B (n - 1)) (by omega) h1 (by rw [show 12 + (j - 12) = j by omega]; omega)
      rw [show 12 + (j - 12) = j by omega] at this
      omega
    · have := hd (zgx B (n - 1)) (j - 12) (by omega) (by omega) (by rw [show 12 + (j - 12) = j by omega]; omega)
      omega
section RW
variable {d r : Nat} {B : zB} {σ : ab_S}
theorem p_M_ends {Rf : ab_S → Prop} (hB : zR σ r B) (h4 : B 2 ≤ 4) (h6 : B 6 ≤ 1) (hr : r ≤ 620) (h : ∀ τ, zR τ r (zend B) → zFR r (r + 16) σ τ → Rf τ) : CA (d + 1) 141 [.ref 56, .int (nI r)] σ (ab_rV Rf) := by
  have R6 : σ.1 57 (r + 6) = nI (B 6) := hB.1 6 (by omega)
  have R7 : σ.1 57 (r + 7) = nI (B 7) := hB.1 7 (by omega)
  have e6 : Int32.toNatClampNeg (nI r + 6) = r + 6 := zcl 6 (by omega)
  have e7 : Int32.toNatClampNeg (nI r + 7) = r + 7 := zcl 7 (by omega)
  refine e_M_ends (b_M_ends_0 (zin 7 (by omega)) (zin 7 (by omega)) (zin 6 (by omega)) (zin 6 (by omega)) ?_)
  rw [e6, e7, zp_n (show ¬ (57 = 57 ∧ r + 6 = r + 7) by omega), R6, R7, nI_1]
  have es : (1 : Int32) - nI (B 6) = nI (1 - B 6) := by
    rcases (show B 6 = 0 ∨ B 6 = 1 by omega) with q | q <;> rw [q] <;> decide
  rw [es]
  have e : zend B = zup (zup B 7 (B 7 + 1)) 6 (1 - B 6) := by
    funext j
    unfold zend zup
    by_cases q : j = 7
    · subst q; rfl
    · rw [if_neg q]
      by_cases q2 : j = 6
      · rw [if_pos q2, if_pos q2]
      · rw [if_neg q2, if_neg q2, if_neg q]
  have e2 : zup B 7 (B 7 + 1) 2 ≤ 4 := h4
  refine h _ ?_ ((zFR.put (by omega) (by omega)).tr (zFR.put (σ := (ab_pI σ.1 57 (r + 7) (nI (B 7 + 1)), σ.2)) (by omega) (by omega)))
  rw [e]
  exact (hB.put h4 (by omega) (by omega)).put e2 (by omega) (by omega)
theorem p_M_foxGoes {c : Nat} {Rf : Int32 → ab_S → Prop} (hB : zR σ r B) (hV : zV B) (hr : r ≤ 620) (hc : c < 25) (h : ∀ τ, zR τ r (zfox B c) → zFR r (r + 16) σ τ → Rf (zb (zov B (B 5) c)) τ) : CA (d + 3) 142 [.ref 56, .int (nI r), .int (nI c)] σ (ab_rI Rf) := by
  obtain ⟨⟨-, hh, hn4, h3, h4, h5, h6, h7⟩, hq, -⟩ := id hV
  have h25 := hV.n
  have R5 : σ.1 57 (Int32.toNatClampNeg (nI r + 5)) = nI (B 5) := hB.at 5 (by omega) hr
  have e5 : Int32.toNatClampNeg (nI r + 5) = r + 5 := zcl 5 (by omega)
  have fin : ∀ (X : zB) (τ : ab_S) (s : Int32), zR τ r X → X 2 ≤ 4 → X 6 ≤ 1 → zFR r (r + 16) σ τ → zfox B c = zend (zup X 5 c) → (if s < 0 then 0 else 1) = zb (zov B (B 5) c) → S_M_foxGoes_31 (d + 2) Rf (nI r) (nI c) s τ := by
    intro X τ s hX x4 x6 hF ef es
    refine b_M_foxGoes_31 (zin 5 (by omega)) ?_
    rw [e5]
    refine p_M_ends (hX.put x4 (by omega) (by omega)) (show zup X 5 c 2 ≤ 4 from x4) (show zup X 5 c 6 ≤ 1 from x6) hr (fun υ hυ hG => d_M_foxGoes_45 (b_M_foxGoes_54 ?_))
    rw [es]
    refine h υ (by rw [ef]; exact hυ) ((hF.tr (zFR.put (by omega) (by omega))).tr hG)
  refine e_M_foxGoes (b_M_foxGoes_0 (zin 5 (by omega)) ?_)
  rw [R5]
  refine p_M_gooseBetween hB hV hr (by omega) hc ?_
  cases hz : zov B (B 5) c
  · rw [if_neg (by decide)]
    refine b_M_foxGoes_14 (fun _ => ?_) (fun q => absurd (by decide) q)
    exact fin B σ (-1) hB hn4 h6 zFR.rf (by rw [zfox, zeat_no hz]) (by rw [hz]; rfl)
  · rw [if_pos rfl]
    obtain ⟨g, ey⟩ := zeat_yes hV hz
    generalize zgx B (zhw B (B 5) c - 1) = x at *
    have nn : ¬ nI x < 0 := by rw [zlit 0, zlt (by omega) (by omega)]; omega
    refine b_M_foxGoes_14 (fun q => absurd q nn) (fun _ => b_M_foxGoes_19 (zin2 12 x (by omega)) ?_)
    rw [show Int32.toNatClampNeg (nI r + 12 + nI x) = r + 12 + x from zcl2 12 x (by omega), ← zc_0]
    refine fin (zup B (12 + x) 0) _ (nI x) (hB.putG hn4 (by omega)) ?_ ?_ (zFR.put (by omega) (by omega)) (by rw [zfox, ey]) (by rw [if_neg nn, hz]; rfl)
    · unfold zup; rw [if_neg (by omega)]; exact hn4
    · unfold zup; rw [if_neg (by omega)]; exact h6
theorem p_M_gooseGoes {i c : Nat} {Rf : ab_S → Prop} (hB : zR σ r B) (hV : zV B) (hr : r ≤ 620) (hi : i < B 2) (h : ∀ τ, zR τ r (zgo B i c) → zFR r (r + 16) σ τ → Rf τ) : CA (d + 2) 143 [.ref 56, .int (nI r), .int (nI i), .int (nI c)] σ (ab_rV Rf) := by
  obtain ⟨⟨-, hh, hn4, h3, h4, h5, h6, h7⟩, hq, -⟩ := id hV
  refine e_M_gooseGoes (b_M_gooseGoes_0 (zin2 12 i (by omega)) ?_)
  rw [show Int32.toNatClampNeg (nI r + 12 + nI i) = r + 12 + i from zcl2 12 i (by omega), ← zc_s c]
  refine p_M_ends (hB.putG hn4 (by omega)) ?_ ?_ hr (fun υ hυ hG => b_M_gooseGoes_17 (h υ hυ ((zFR.put (by omega) (by omega)).tr hG)))
  · unfold zup; rw [if_neg (by omega)]; exact hn4
  · unfold zup; rw [if_neg (by omega)]; exact h6
theorem p_M_copy {a b n : Nat} {Rf : ab_S → Prop} (ha : a + n ≤ 636) (hb : b + n ≤ 636) (hab : b ≤ a ∨ a + n ≤ b) (h : ∀ τ, (∀ j, j < n → τ.1 57 (b + j) = σ.1 57 (a + j)) → zFR b (b + n) σ τ → Rf τ) : CA (d + 1) 119 [.ref 56, .int (nI a), .int (nI b), .int (nI n)] σ (ab_rV Rf) := by
  have key : ∀ m i τ, n - i ≤ m → i ≤ n → (∀ j, j < i → τ.1 57 (b + j) = σ.1 57 (a + j)) → zFR b (b + i) σ τ → S_M_copy_3 d Rf (nI a) (nI b) (nI n) (nI i) τ := by
    intro m
    induction m with
    | zero =>
      intro i τ q1 q2 f1 f2
      have : i = n := by omega
      subst this
      exact b_M_copy_3 (fun _ => b_M_copy_33 (h τ f1 f2)) (fun q => absurd (by rw [zle (by omega) (by omega)]; omega) q)
    | succ m ih =>
      intro i τ q1 q2 f1 f2
      by_cases qi : i = n
      · exact ih i τ (by omega) q2 f1 f2
      refine b_M_copy_3 (fun q => absurd q (by rw [zle (by omega) (by omega)]; omega)) (fun _ => b_M_copy_9 (zin i (by omega)) (zin i (by omega)) ?_)
      rw [zcl i (by omega), zcl i (by omega), nI_1]
      refine ih (i + 1) _ (by omega) (by omega) (fun j hj => ?_) ((f2.up (by omega) (by omega)).tr (zFR.put (by omega) (by omega)))
      dsimp only
      by_cases qj : j = i
      · subst qj
        rw [zp_s]
        exact f2.2.2 _ (by omega)
      · rw [zp_n (by omega)]
        exact f1 j (by omega)
  exact e_M_copy (b_M_copy_0 (key n 0 σ (by omega) (by omega) (fun j hj => by omega) zFR.rf))
theorem p_M_empties {Rf : ab_S → Prop} (hr : r + 135 ≤ 636) (h : ∀ τ, (∀ j, j < 135 → τ.1 57 (r + j) = 0) → zFR r (r + 135) σ τ → Rf τ) : CA (d + 1) 120 [.ref 56, .int (nI r)] σ (ab_rV Rf) := by
  have key : ∀ m i τ, 135 - i ≤ m → i ≤ 135 → (∀ j, j < i → τ.1 57 (r + j) = 0) → zFR r (r + i) σ τ → S_M_empties_2 d Rf (nI r) (nI i) τ := by
    intro m
    induction m with
    | zero =>
      intro i τ q1 q2 f1 f2
      have : i = 135 := by omega
      subst this
      exact b_M_empties_2 (fun _ => b_M_empties_24 (h τ f1 f2)) (fun q => absurd (by decide) q)
    | succ m ih =>
      intro i τ q1 q2 f1 f2
      by_cases qi : i = 135
      · exact ih i τ (by omega) q2 f1 f2
      refine b_M_empties_2 (fun q => absurd q (by rw [zlit 135, zle (by omega) (by omega)]; omega)) (fun _ => b_M_empties_9 (zin i (by omega)) ?_)
      rw [zcl i (by omega), nI_1]
      refine ih (i + 1) _ (by omega) (by omega) (fun j hj => ?_) ((f2.up (by omega) (by omega)).tr (zFR.put (by omega) (by omega)))
      dsimp only
      by_cases qj : j = i
      · subst qj
        rw [zp_s]
      · rw [zp_n (by omega)]
        exact f1 j (by omega)
  exact e_M_empties (b_M_empties_0 (key 135 0 σ (by omega) (by omega) (fun j hj => by omega) zFR.rf))
theorem p_M_eaten {Rf : Int32 → ab_S → Prop} (hB : zR σ 0 B) (hV : zV B) (h : Rf (nI (zea B (B 2))) σ) : CA (d + 1) 205 [.ref 56] σ (ab_rI Rf) := by
  obtain ⟨⟨-, hh, hn4, h3, h4, h5, h6, h7⟩, hq, -⟩ := id hV
  have h25 := hV.n
  have R2 : σ.1 57 2 = nI (B 2) := hB.1 2 (by omega)
  have key : ∀ m i, B 2 - i ≤ m → i ≤ B 2 → S_M_eaten_4 d Rf (nI (zea B i)) (nI i) σ := by
    intro m
    induction m with
    | zero =>
      intro i q1 q2
      have : i = B 2 := by omega
      subst this
      exact b_M_eaten_4 (fun _ => b_M_eaten_40 h) (fun q => absurd (by rw [R2, zle (by omega) (by omega)]; omega) q)
    | succ m ih =>
      intro i q1 q2
      by_cases qi : i = B 2
      · exact ih i (by omega) q2
      have hi : i < B 2 := by omega
      have e12 : (12 : Int32) + nI i = nI (12 + i) := nI_add 12 i
      have C : σ.1 57 (12 + i) = zc (B (12 + i)) := by have := (hB.2 i hi).2; rw [show 0 + 12 + i = 12 + i by omega] at this; exact this
      have hb := (hq i hi).2
      have hs := ih (i + 1) (by omega) (by omega)
      rw [zea, ← nI_1, ← nI_add] at hs
      refine b_M_eaten_4 (fun q => absurd q (by rw [R2, zle (by omega) (by omega)]; omega)) (fun _ => b_M_eaten_14 (by rw [e12]; exact vp_in_nI (by omega) (by omega)) (fun q => b_M_eaten_31 (b_M_eaten_32 ?_)) (fun q => b_M_eaten_27 (b_M_eaten_32 ?_))) <;> rw [e12, zc_nI (by omega), C, fa_le, zt0, zc_toInt (by omega)] at q
      · rw [if_neg (by omega)] at hs
        exact hs
      · rw [if_pos (by omega)] at hs
        exact hs
  exact e_M_eaten (b_M_eaten_0 (key (B 2) 0 (by omega) (by omega)))
end RW
