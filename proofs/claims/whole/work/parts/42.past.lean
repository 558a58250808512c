/-! the past of a game: remember and takeBack -/
def zpush (B : zB) (p : Nat × (Nat → zB)) : Nat × (Nat → zB) := if p.1 < 8 then (p.1 + 1, fun u => if u = p.1 then B else p.2 u) else (8, fun u => if u = 7 then B else p.2 (u + 1))
theorem nI_s (m : Nat) : nI (m + 1) - 1 = nI m := by rw [← nI_1, Int32.add_sub_cancel]
section PA
variable {d g : Nat} {A : zA} {σ : ab_S}
theorem p_G_rem31 {pn : Nat} {Pb : Nat → zB} {Rf : ab_S → Prop} (hk : ab_sh g = (0, 1)) (hA : zGH σ g (A.1, (pn, Pb), A.2.2)) (h4 : A.1 2 ≤ 4) (hp : pn < 8) (hr : ∀ τ, zGH τ g (A.1, (pn + 1, fun u => if u = pn then A.1 else Pb u), A.2.2) → zF [g, g + 8] σ τ → Rf τ) : S_G_remember_31 d Rf g σ := by
  obtain ⟨hB, hp3, hP, hN, hM⟩ := hA
  obtain ⟨b0, b1, b2, b3, b4, b5, b6, b7, bg⟩ := id hB
  dsimp only at hp3 hP hN hM
  have e7 : σ.1 g 3 * 7 = nI (7 * pn) := by rw [hp3, zlit 7, pk_mul, Nat.mul_comm]
  have g1 : nI (7 * pn) + 1 = nI (7 * pn + 1) := nI_1 _
  have g2 : nI (7 * pn) + 2 = nI (7 * pn + 2) := nI_add _ 2
  have g7 : nI (7 * pn) + 7 = nI (7 * pn + 7) := nI_add _ 7
  have g3 : nI (7 * pn) + 3 = nI (7 * pn + 3) := nI_add _ 3
  have key : ∀ n i (τ : ab_S), 4 - i ≤ n → i ≤ 4 → zF [g + 8] σ τ → (∀ j, j < 7 * pn → τ.1 (g + 8) j = σ.1 (g + 8) j) → τ.1 (g + 8) (7 * pn) = σ.1 (g + 1) 4 → τ.1 (g + 8) (7 * pn + 1) = σ.1 (g + 1) 6 → τ.1 (g + 8) (7 * pn + 2) = σ.1 (g + 1) 7 → (∀ j, j < i → τ.1 (g + 8) (7 * pn + 3 + j) = σ.1 (g + 3) j) → S_G_remember_101 d Rf g (nI (7 * pn)) (nI i) τ := by
    intro n
    induction n with
    | zero =>
      intro i τ q1 q2 hF f0 f1 f2 f3 f4
      have : i = 4 := by omega
      subst this
      have hg : τ.1 g = σ.1 g := hF.2 g (by first | (simp; done) | (simp; omega))
      refine b_G_remember_101 (fun _ => b_G_remember_131 hk ?_) (fun c => absurd ?_ c)
      · have hL : zF [g] τ (ab_pI τ.1 g 3 (τ.1 g 3 + 1), τ.2) := zF.put (by first | (simp; done) | (simp; omega))
        have hFL : zF [g, g + 8] σ (ab_pI τ.1 g 3 (τ.1 g 3 + 1), τ.2) := (hF.up (by first | (simp; done) | (simp; omega))).tr (hL.up (by first | (simp; done) | (simp; omega)))
        refine hr _ ⟨hB.frame hFL (by first | (simp; done) | (simp; omega)) (by first | (simp; done) | (simp; omega)) (by first | (simp; done) | (simp; omega)), ?_, fun u hu => ?_, hN.frame hFL (by first | (simp; done) | (simp; omega)) (by first | (simp; done) | (simp; omega)), hM.frame hFL (by first | (simp; done) | (simp; omega)) (by first | (simp; done) | (simp; omega))⟩ hFL
        · dsimp only
          rw [zp_s, hg, hp3, nI_1]
        · dsimp only at hu ⊢
          rw [ab_pI_ne (by omega)]
          by_cases q : u = pn
          · subst q
            rw [if_pos rfl, f1, f2, f3]
            refine ⟨b4, b6, b7, fun i hi => ?_⟩
            rw [f4 i (by omega)]
            exact (bg i hi).2
          · rw [if_neg q]
            obtain ⟨c1, c2, c3, c4⟩ := hP u (by omega)
            rw [f0 _ (by omega), f0 _ (by omega), f0 _ (by omega)]
            refine ⟨c1, c2, c3, fun i hi => ?_⟩
            rw [f0 _ (by omega)]
            exact c4 i hi
      · rw [zlit 4, zle (by omega) (by omega)]; omega
    | succ n ih =>
      intro i τ q1 q2 hF f0 f1 f2 f3 f4
      by_cases q : i = 4
      · exact ih i τ (by omega) q2 hF f0 f1 f2 f3 f4
      have ei : nI (7 * pn) + 3 + nI i = nI (7 * pn + 3 + i) := by rw [g3, nI_add]
      refine b_G_remember_101 (fun c => absurd c ?_) (fun _ => b_G_remember_106 hk (vp_in_nI (by omega) (by omega)) (by rw [ei]; exact vp_in_nI (by omega) (by omega)) ?_)
      · rw [zlit 4, zle (by omega) (by omega)]; omega
      · rw [ei, zc_nI (by omega), zc_nI (by omega), nI_1]
        refine ih (i + 1) _ (by omega) (by omega) (hF.tr (zF.put (by first | (simp; done) | (simp; omega)))) (fun j hj => ?_) ?_ ?_ ?_ (fun j hj => ?_)
        all_goals dsimp only
        · rw [zp_n (by omega)]; exact f0 j hj
        · rw [zp_n (by omega)]; exact f1
        · rw [zp_n (by omega)]; exact f2
        · rw [zp_n (by omega)]; exact f3
        · by_cases qj : j = i
          · subst qj
            rw [zp_s, show g + 1 + 2 = g + 3 by omega, hF.2 (g + 3) (by first | (simp; done) | (simp; omega))]
          · rw [zp_n (by omega)]
            exact f4 j (by omega)
  refine b_G_remember_31 hk (fun c => absurd c ?_) (fun _ => ?_)
  · rw [e7, zlit 0, zlt (by omega) (by omega)]; omega
  rw [e7]
  refine b_G_remember_43 hk (fun _ => b_G_remember_56 hk (vp_in_nI (by omega) (by omega)) (by rw [g1]; exact vp_in_nI (by omega) (by omega)) (by rw [g2]; exact vp_in_nI (by omega) (by omega)) ?_) (fun c => absurd ?_ c)
  · rw [g1, g2, zc_nI (by omega), zc_nI (by omega), zc_nI (by omega)]
    refine key 4 0 _ (by omega) (by omega) ⟨rfl, fun a ha => ?_⟩ (fun j hj => ?_) ?_ ?_ ?_ (fun j hj => by omega)
    · simp at ha
      dsimp only
      rw [ab_pI_ne (by omega), ab_pI_ne (by omega), ab_pI_ne (by omega)]
    all_goals dsimp only
    · rw [zp_n (by omega), zp_n (by omega), zp_n (by omega)]
    · rw [zp_n (by omega), zp_n (by omega), zp_s]
    · rw [zp_n (by omega), zp_s, zp_n (by omega)]
    · rw [zp_s, zp_n (by omega), zp_n (by omega)]
  · rw [g7, zle (by omega) (by omega)]; omega
theorem p_G_remember {Rf : ab_S → Prop} (hk : ab_sh g = (0, 1)) (hA : zGH σ g A) (hV : zAV A) (hr : ∀ τ, zGH τ g (A.1, zpush A.1 A.2.1, A.2.2) → zF (zkg g) σ τ → Rf τ) : CA (d + 1) 49 [.ref g] σ (ab_rV Rf) := by
  obtain ⟨v1, -, v8, -⟩ := id hV
  have h4 : A.1 2 ≤ 4 := v1.1.2.2.1
  refine e_G_remember (b_G_remember_0 hk (fun c => ?_) (fun c => ?_))
  · rw [hA.2.1, zlit 8, zlt (by omega) (by omega)] at c
    have e : zpush A.1 A.2.1 = (A.2.1.1 + 1, fun u => if u = A.2.1.1 then A.1 else A.2.1.2 u) := by unfold zpush; rw [if_pos c]
    rw [e] at hr
    exact p_G_rem31 (A := A) hk hA h4 c (fun τ h1 h2 => hr τ h1 (h2.up (by first | (simp; done) | (simp; omega))))
  · rw [hA.2.1, zlit 8, zlt (by omega) (by omega)] at c
    have e8 : A.2.1.1 = 8 := by omega
    have e : zpush A.1 A.2.1 = (7 + 1, fun u => if u = 7 then A.1 else A.2.1.2 (u + 1)) := by unfold zpush; rw [if_neg c]
    rw [e] at hr
    obtain ⟨hB, hp3, hP, hN, hM⟩ := id hA
    have hL : zF [g, g + 8] σ (ab_pI (ab_cp σ.1 (g + 8) (g + 8) 7 0 49) g 3 7, σ.2) := ⟨rfl, fun a ha => by
      simp at ha
      dsimp only
      rw [ab_pI_ne (by omega)]
      unfold ab_cp
      rw [if_neg (by omega)]⟩
    refine b_G_remember_9 hk (p_G_rem31 (A := A) (pn := 7) (Pb := fun u => A.2.1.2 (u + 1)) hk ⟨hB.frame hL (by first | (simp; done) | (simp; omega)) (by first | (simp; done) | (simp; omega)) (by first | (simp; done) | (simp; omega)), ?_, fun u hu => ?_, hN.frame hL (by first | (simp; done) | (simp; omega)) (by first | (simp; done) | (simp; omega)), hM.frame hL (by first | (simp; done) | (simp; omega)) (by first | (simp; done) | (simp; omega))⟩ h4 (by omega) (fun τ h1 h2 => hr τ h1 ((hL.up (by first | (simp; done) | (simp; omega))).tr (h2.up (by first | (simp; done) | (simp; omega))))))
    · dsimp only
      rw [zp_s]; rfl
    · have ec : ∀ j, j < 49 → (ab_pI (ab_cp σ.1 (g + 8) (g + 8) 7 0 49) g 3 7) (g + 8) j = σ.1 (g + 8) (7 + j) := fun j hj => by
        rw [ab_pI_ne (by omega)]
        unfold ab_cp
        rw [if_pos rfl, pk_cpy_in (by omega) (by omega), show 7 + (j - 0) = 7 + j by omega]
      have hu : u < 7 := hu
      obtain ⟨c1, c2, c3, c4⟩ := hP (u + 1) (by omega)
      dsimp only
      rw [ec _ (by omega), ec _ (by omega), ec _ (by omega)]
      refine ⟨by rw [show 7 + 7 * u = 7 * (u + 1) by omega]; exact c1, by rw [show 7 + (7 * u + 1) = 7 * (u + 1) + 1 by omega]; exact c2, by rw [show 7 + (7 * u + 2) = 7 * (u + 1) + 2 by omega]; exact c3, fun i hi => ?_⟩
      have hi : i < A.1 2 := hi
      rw [ec _ (by omega), show 7 + (7 * u + 3 + i) = 7 * (u + 1) + 3 + i by omega]
      exact c4 i hi
theorem p_G_takeBack {Rf : Int32 → ab_S → Prop} (hk : ab_sh g = (0, 1)) (hA : zGH σ g A) (hV : zAV A) (h0 : A.2.1.1 = 0 → Rf 0 σ) (h1 : ∀ m, A.2.1.1 = m + 1 → ∀ τ, zGH τ g (A.2.1.2 m, (m, A.2.1.2), A.2.2) → zF (zkg g) σ τ → Rf 1 τ) : CA (d + 1) 50 [.ref g] σ (ab_rI Rf) := by
  obtain ⟨v1, -, v8, vP, -⟩ := id hV
  have h4 : A.1 2 ≤ 4 := v1.1.2.2.1
  obtain ⟨hB, hp3, hP, hN, hM⟩ := id hA
  obtain ⟨b0, b1, b2, b3, b4, b5, b6, b7, bg⟩ := id hB
  by_cases q0 : A.2.1.1 = 0
  · refine e_G_takeBack (b_G_takeBack_0 hk (fun _ => b_G_takeBack_26 (h0 q0)) (fun c => absurd ?_ c))
    rw [hp3, q0]
    decide
  · obtain ⟨m, hm⟩ : ∃ m, A.2.1.1 = m + 1 := ⟨A.2.1.1 - 1, by omega⟩
    have h1 := h1 m hm
    have e7 : (σ.1 g 3 - 1) * 7 = nI (7 * m) := by rw [hp3, hm, nI_s, zlit 7, pk_mul, Nat.mul_comm]
    have g1 : nI (7 * m) + 1 = nI (7 * m + 1) := nI_1 _
    have g2 : nI (7 * m) + 2 = nI (7 * m + 2) := nI_add _ 2
    have g7 : nI (7 * m) + 7 = nI (7 * m + 7) := nI_add _ 7
    have g3 : nI (7 * m) + 3 = nI (7 * m + 3) := nI_add _ 3
    obtain ⟨p1, p2, p3, p4⟩ := hP m (by omega)
    obtain ⟨w1, -, w2⟩ := vP m (by omega)
    have e2 : A.2.1.2 m 2 = A.1 2 := w2 2 (by omega)
    have key : ∀ n i (τ : ab_S), 4 - i ≤ n → i ≤ 4 → zF [g + 1, g + 3] σ τ → (∀ j, j ≠ 4 → j ≠ 6 → j ≠ 7 → τ.1 (g + 1) j = σ.1 (g + 1) j) → τ.1 (g + 1) 4 = σ.1 (g + 8) (7 * m) → τ.1 (g + 1) 6 = σ.1 (g + 8) (7 * m + 1) → τ.1 (g + 1) 7 = σ.1 (g + 8) (7 * m + 2) → (∀ j, j < i → τ.1 (g + 3) j = σ.1 (g + 8) (7 * m + 3 + j)) → S_G_takeBack_73 d Rf g (nI (7 * m)) (nI i) τ := by
      intro n
      induction n with
      | zero =>
        intro i τ q1 q2 hF f0 f1 f2 f3 f4
        have : i = 4 := by omega
        subst this
        have hg : τ.1 g = σ.1 g := hF.2 g (by first | (simp; done) | (simp; omega))
        refine b_G_takeBack_73 (fun _ => b_G_takeBack_103 hk ?_) (fun c => absurd ?_ c)
        · have hL : zF [g] τ (ab_pI τ.1 g 3 (τ.1 g 3 - 1), τ.2) := zF.put (by first | (simp; done) | (simp; omega))
          have hFL : zF [g, g + 1, g + 3] σ (ab_pI τ.1 g 3 (τ.1 g 3 - 1), τ.2) := (hF.up (by first | (simp; done) | (simp; omega))).tr (hL.up (by first | (simp; done) | (simp; omega)))
          refine h1 _ ⟨⟨?_, ?_, ?_, ?_, ?_, ?_, ?_, ?_, fun i hi => ?_⟩, ?_, ?_, hN.frame hFL (by first | (simp; done) | (simp; omega)) (by first | (simp; done) | (simp; omega)), hM.frame hFL (by first | (simp; done) | (simp; omega)) (by first | (simp; done) | (simp; omega))⟩ (hFL.up (by first | (simp; done) | (simp; omega)))
          all_goals dsimp only
          · rw [ab_pI_ne (by omega), f0 _ (by omega) (by omega) (by omega), w2 0 (by omega)]; exact b0
          · rw [ab_pI_ne (by omega), f0 _ (by omega) (by omega) (by omega), w2 1 (by omega)]; exact b1
          · rw [ab_pI_ne (by omega), f0 _ (by omega) (by omega) (by omega), w2 3 (by omega)]; exact b2
          · rw [ab_pI_ne (by omega), f0 _ (by omega) (by omega) (by omega), w2 4 (by omega)]; exact b3
          · rw [ab_pI_ne (by omega), f1]; exact p1
          · rw [ab_pI_ne (by omega), f0 _ (by omega) (by omega) (by omega), w2 2 (by omega)]; exact b5
          · rw [ab_pI_ne (by omega), f2]; exact p2
          · rw [ab_pI_ne (by omega), f3]; exact p3
          · dsimp only at hi
            rw [e2] at hi
            rw [ab_pI_ne (by omega), ab_pI_ne (by omega), w2 (8 + i) (by omega), show g + 1 + 2 = g + 3 by omega, f4 i (by omega), hF.2 (g + 1 + 1) (by first | (simp; done) | (simp; omega))]
            exact ⟨(bg i hi).1, p4 i hi⟩
          · rw [zp_s, hg, hp3, hm]; exact nI_s m
          · intro u hu
            rw [e2, hFL.2 (g + 8) (by first | (simp; done) | (simp; omega))]
            exact hP u (by omega)
        · rw [zlit 4, zle (by omega) (by omega)]; omega
      | succ n ih =>
        intro i τ q1 q2 hF f0 f1 f2 f3 f4
        by_cases q : i = 4
        · exact ih i τ (by omega) q2 hF f0 f1 f2 f3 f4
        have ei : nI (7 * m) + 3 + nI i = nI (7 * m + 3 + i) := by rw [g3, nI_add]
        refine b_G_takeBack_73 (fun c => absurd c ?_) (fun _ => b_G_takeBack_78 hk (by rw [ei]; exact vp_in_nI (by omega) (by omega)) (vp_in_nI (by omega) (by omega)) ?_)
        · rw [zlit 4, zle (by omega) (by omega)]; omega
        · rw [ei, zc_nI (by omega), zc_nI (by omega), nI_1, show g + 1 + 2 = g + 3 by omega]
          refine ih (i + 1) _ (by omega) (by omega) (hF.tr (zF.put (by first | (simp; done) | (simp; omega)))) (fun j a b c => ?_) ?_ ?_ ?_ (fun j hj => ?_)
          all_goals dsimp only
          · rw [zp_n (by omega)]; exact f0 j a b c
          · rw [zp_n (by omega)]; exact f1
          · rw [zp_n (by omega)]; exact f2
          · rw [zp_n (by omega)]; exact f3
          · by_cases qj : j = i
            · subst qj
              rw [zp_s, hF.2 (g + 8) (by first | (simp; done) | (simp; omega))]
            · rw [zp_n (by omega)]
              exact f4 j (by omega)
    refine e_G_takeBack (b_G_takeBack_0 hk (fun c => absurd c ?_) (fun _ => ?_))
    · rw [e7, zlit 0, zlt (by omega) (by omega)]; omega
    rw [e7]
    refine b_G_takeBack_14 hk (fun _ => b_G_takeBack_28 hk (vp_in_nI (by omega) (by omega)) (by rw [g1]; exact vp_in_nI (by omega) (by omega)) (by rw [g2]; exact vp_in_nI (by omega) (by omega)) ?_) (fun c => absurd ?_ c)
    · rw [g1, g2, zc_nI (by omega), zc_nI (by omega), zc_nI (by omega)]
      refine key 4 0 _ (by omega) (by omega) ⟨rfl, fun a ha => ?_⟩ (fun j a b c => ?_) ?_ ?_ ?_ (fun j hj => by omega)
      · simp at ha
        dsimp only
        rw [ab_pI_ne (by omega), ab_pI_ne (by omega), ab_pI_ne (by omega)]
      all_goals dsimp only
      · rw [zp_n (by omega), zp_n (by omega), zp_n (by omega)]
      · rw [zp_n (by omega), zp_n (by omega), zp_s]
      · rw [zp_n (by omega), zp_s, zp_n (by omega)]
      · rw [zp_s, zp_n (by omega), zp_n (by omega)]
    · rw [g7, zle (by omega) (by omega)]; omega
end PA
