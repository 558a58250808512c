/-! GAMES in the class: board, what may be undone, notes, marks -/
abbrev zA : Type := zB × (Nat × (Nat → zB)) × (Nat × (Nat → Int32)) × (Nat × (Nat → Int32))
def zP (σ : ab_S) (p n4 pn : Nat) (Pb : Nat → zB) : Prop := ∀ u, u < pn → σ.1 p (7 * u) = nI (Pb u 5) ∧ σ.1 p (7 * u + 1) = nI (Pb u 6) ∧ σ.1 p (7 * u + 2) = nI (Pb u 7) ∧ ∀ i, i < n4 → σ.1 p (7 * u + 3 + i) = zc (Pb u (12 + i))
def zGH (σ : ab_S) (g : Nat) (A : zA) : Prop := zH σ (g + 1) A.1 ∧ σ.1 g 3 = nI A.2.1.1 ∧ zP σ (g + 8) (A.1 2) A.2.1.1 A.2.1.2 ∧ zT σ (g + 4) A.2.2.1.1 A.2.2.1.2 ∧ zT σ (g + 6) A.2.2.2.1 A.2.2.2.2
def zNV (n : Nat) (r : Nat → Int32) : Prop := ∀ u, u < n → (-2 ≤ (r (5 * u)).toInt ∧ (r (5 * u)).toInt ≤ 2) ∧ (-2 ≤ (r (5 * u + 1)).toInt ∧ (r (5 * u + 1)).toInt ≤ 2) ∧ (0 ≤ (r (5 * u + 2)).toInt ∧ (r (5 * u + 2)).toInt ≤ 99) ∧ (r (5 * u + 3) = 0 ∨ r (5 * u + 3) = 1) ∧ (r (5 * u + 4) = 0 ∨ r (5 * u + 4) = 1)
def zMV (n : Nat) (r : Nat → Int32) : Prop := ∀ u, u < n → (0 ≤ (r (5 * u)).toInt ∧ (r (5 * u)).toInt < 4) ∧ (-2 ≤ (r (5 * u + 1)).toInt ∧ (r (5 * u + 1)).toInt ≤ 2) ∧ (-2 ≤ (r (5 * u + 2)).toInt ∧ (r (5 * u + 2)).toInt ≤ 2) ∧ (0 ≤ (r (5 * u + 3)).toInt ∧ (r (5 * u + 3)).toInt ≤ 99) ∧ (r (5 * u + 4) = 0 ∨ r (5 * u + 4) = 1)
/-- a game as it may be -/
def zAV (A : zA) : Prop := zV A.1 ∧ A.1 7 ≤ 9999 ∧ A.2.1.1 ≤ 8 ∧ (∀ u, u < A.2.1.1 → zV (A.2.1.2 u) ∧ A.2.1.2 u 7 ≤ 9999 ∧ ∀ j, (j < 5 ∨ (8 ≤ j ∧ j < 12)) → A.2.1.2 u j = A.1 j) ∧ A.2.2.1.1 ≤ 6 ∧ A.2.2.2.1 ≤ 6 ∧ zNV A.2.2.1.1 A.2.2.1.2 ∧ zMV A.2.2.2.1 A.2.2.2.2
abbrev zkg (g : Nat) : List Nat := [g, g + 1, g + 2, g + 3, g + 4, g + 5, g + 6, g + 7, g + 8]
theorem zP.frame {σ τ : ab_S} {p n4 pn : Nat} {Pb : Nat → zB} (h : zP σ p n4 pn Pb) (e : τ.1 p = σ.1 p) : zP τ p n4 pn Pb := by
  unfold zP
  rw [e]
  exact h
theorem zGH.frame {σ τ : ab_S} {g : Nat} {A : zA} {ks : List Nat} (h : zGH σ g A) (hF : zF ks σ τ) (hd : ∀ a, a ∈ zkg g → a ∉ ks) : zGH τ g A := by
  obtain ⟨h1, h2, h3, h4, h5⟩ := h
  refine ⟨h1.frame hF (hd _ (by first | (simp; done) | (simp; omega))) (hd _ (by first | (simp; done) | (simp; omega))) (hd _ (by first | (simp; done) | (simp; omega))), by rw [hF.2 g (hd _ (by first | (simp; done) | (simp; omega)))]; exact h2, h3.frame (hF.2 _ (hd _ (by first | (simp; done) | (simp; omega)))), h4.frame hF (hd _ (by first | (simp; done) | (simp; omega))) (hd _ (by first | (simp; done) | (simp; omega))), h5.frame hF (hd _ (by first | (simp; done) | (simp; omega))) (hd _ (by first | (simp; done) | (simp; omega)))⟩
section GM
variable {d g : Nat} {A : zA} {σ : ab_S} {Rf : ab_S → Prop}
theorem p_G_begin {w h : Nat} (hk : ab_sh g = (0, 1)) (hw : 3 ≤ w ∧ w ≤ 5) (hh : 3 ≤ h ∧ h ≤ 5) (hr : ∀ τ, (∀ Pb nr mr, zGH τ g (zbeg w h, (0, Pb), (0, nr), (0, mr))) → zF (zkg g) σ τ → Rf τ) : CA (d + 2) 44 [.ref g, .int (nI w), .int (nI h)] σ (ab_rV Rf) := by
  refine e_G_begin (b_G_begin_0 hk (p_B_begin (sh_1_1 hk) hw hh (fun τ hτ hF => b_G_begin_9 hk (hr _ (fun Pb nr mr => ⟨?_, ?_, ?_, ⟨?_, ?_⟩, ⟨?_, ?_⟩⟩) ?_))))
  · refine hτ.frame (ks := [g + 4, g + 6, g]) ⟨rfl, fun a ha => ?_⟩ (by first | (simp; done) | (simp; omega)) (by first | (simp; done) | (simp; omega)) (by first | (simp; done) | (simp; omega))
    simp at ha
    dsimp only
    rw [ab_pI_ne (by omega), ab_pI_ne (by omega), ab_pI_ne (by omega)]
  · dsimp only
    rw [zp_s]; rfl
  · intro u hu
    simp at hu
  · dsimp only
    rw [zp_n (by omega), zp_n (by omega), zp_s]; rfl
  · intro j hj
    simp at hj
  · dsimp only
    rw [zp_n (by omega), zp_s]; rfl
  · intro j hj
    simp at hj
  · refine (hF.up (by first | (simp; done) | (simp; omega))).tr ⟨rfl, fun a ha => ?_⟩
    simp at ha
    dsimp only
    rw [ab_pI_ne (by omega), ab_pI_ne (by omega), ab_pI_ne (by omega)]
theorem p_G_copyFrom {g1 : Nat} (hk : ab_sh g = (0, 1)) (hk1 : ab_sh g1 = (0, 1)) (hd : g + 9 ≤ g1 ∨ g1 + 9 ≤ g) (hA : zGH σ g1 A) (hV : zAV A) (hr : ∀ τ, zGH τ g A → zF (zkg g) σ τ → Rf τ) : CA (d + 2) 45 [.ref g, .ref g1] σ (ab_rV Rf) := by
  obtain ⟨v1, -, v8, -, vn, vm, -⟩ := id hV
  have e56 : Int32.toNatClampNeg (nI 56) = 56 := zc_nI (by omega)
  refine e_G_copyFrom (b_G_copyFrom_0 hk hk1 (p_B_copyFrom (sh_1_1 hk) (sh_1_1 hk1) (by omega) hA.1 v1.1.2.2.1 (fun τ hτ hF => ?_)))
  have hA1 := hA.frame hF (by first | (simp; done) | (simp; omega))
  refine b_G_copyFrom_11 hk hk1 (p_T_copyFrom (sh_1_4 hk) (sh_1_4 hk1) (by omega) hA1.2.2.2.1 vn (fun υ hυ hG => ?_))
  have hA2 := hA1.frame hG (by first | (simp; done) | (simp; omega))
  refine b_G_copyFrom_22 hk hk1 (p_T_copyFrom (sh_1_6 hk) (sh_1_6 hk1) (by omega) hA2.2.2.2.2 vm (fun φ hφ hI => ?_))
  have hA3 := hA2.frame hI (by first | (simp; done) | (simp; omega))
  refine b_G_copyFrom_33 hk hk1 (by decide) (by rw [e56]; omega) (by rw [e56]; omega) ?_
  rw [e56]
  have hL : zF [g, g + 8] φ (ab_cp (ab_pI φ.1 g 3 (φ.1 g1 3)) (g1 + 8) (g + 8) 0 0 56, φ.2) := ⟨rfl, fun a ha => by
    simp at ha
    dsimp only
    unfold ab_cp
    rw [if_neg (by omega), ab_pI_ne (by omega)]⟩
  have hτ3 : zH φ (g + 1) A.1 := (hτ.frame hG (by first | (simp; done) | (simp; omega)) (by first | (simp; done) | (simp; omega)) (by first | (simp; done) | (simp; omega))).frame hI (by first | (simp; done) | (simp; omega)) (by first | (simp; done) | (simp; omega)) (by first | (simp; done) | (simp; omega))
  have hυ3 := hυ.frame hI (by first | (simp; done) | (simp; omega)) (by first | (simp; done) | (simp; omega))
  refine hr _ ⟨hτ3.frame hL (by first | (simp; done) | (simp; omega)) (by first | (simp; done) | (simp; omega)) (by first | (simp; done) | (simp; omega)), ?_, fun u hu => ?_, hυ3.frame hL (by first | (simp; done) | (simp; omega)) (by first | (simp; done) | (simp; omega)), hφ.frame hL (by first | (simp; done) | (simp; omega)) (by first | (simp; done) | (simp; omega))⟩ ?_
  · dsimp only
    unfold ab_cp
    rw [if_neg (by omega), zp_s]
    exact hA3.2.1
  · have e : ∀ j, j < 56 → (ab_cp (ab_pI φ.1 g 3 (φ.1 g1 3)) (g1 + 8) (g + 8) 0 0 56) (g + 8) j = φ.1 (g1 + 8) j := fun j hj => by
      unfold ab_cp
      rw [if_pos rfl, pk_cpy_in (by omega) (by omega), ab_pI_ne (by omega), show 0 + (j - 0) = j by omega]
    have hn4 := v1.1.2.2.1
    obtain ⟨a1, a2, a3, a4⟩ := hA3.2.2.1 u hu
    dsimp only
    refine ⟨by rw [e _ (by omega)]; exact a1, by rw [e _ (by omega)]; exact a2, by rw [e _ (by omega)]; exact a3, fun i hi => by rw [e _ (by omega)]; exact a4 i hi⟩
  · exact (((hF.up (by first | (simp; done) | (simp; omega))).tr (hG.up (by first | (simp; done) | (simp; omega)))).tr (hI.up (by first | (simp; done) | (simp; omega)))).tr (hL.up (by first | (simp; done) | (simp; omega)))
theorem p_G_plant {c : Nat} (hk : ab_sh g = (0, 1)) (hA : zGH σ g A) (hc : c < 25) (hr : ∀ τ, zGH τ g (zup A.1 3 (A.1 3 ||| 2 ^ c), (0, A.2.1.2), A.2.2) → zF (zkg g) σ τ → Rf τ) : CA (d + 1) 46 [.ref g, .int (nI c)] σ (ab_rV Rf) := by
  obtain ⟨⟨h0, h1, h2, h3, h4, h5, h6, h7, hg⟩, hp, hP, hN, hM⟩ := hA
  have lo : ∀ j, j ≠ 3 → zup A.1 3 (A.1 3 ||| 2 ^ c) j = A.1 j := fun j hj => by unfold zup; rw [if_neg hj]
  have hL : zF [g + 1, g] σ (ab_pI (ab_pI σ.1 (g + 1) 2 (σ.1 (g + 1) 2 ||| (1 <<< (nI c &&& 31)))) g 3 0, σ.2) := ⟨rfl, fun a ha => by
    simp at ha
    dsimp only
    rw [ab_pI_ne (by omega), ab_pI_ne (by omega)]⟩
  refine e_G_plant (b_G_plant_0 hk (hr _ ⟨⟨?_, ?_, ?_, ?_, ?_, ?_, ?_, ?_, fun i hi => ?_⟩, ?_, fun u hu => ?_, hN.frame hL (by first | (simp; done) | (simp; omega)) (by first | (simp; done) | (simp; omega)), hM.frame hL (by first | (simp; done) | (simp; omega)) (by first | (simp; done) | (simp; omega))⟩ (hL.up (by first | (simp; done) | (simp; omega)))))
  all_goals dsimp only
  · rw [lo _ (by omega), zp_n (by omega), zp_n (by omega)]; exact h0
  · rw [lo _ (by omega), zp_n (by omega), zp_n (by omega)]; exact h1
  · rw [zp_n (by omega), zp_s, h2, zshl _ (by omega), fa_or]; unfold zup; rw [if_pos rfl]
  · rw [lo _ (by omega), zp_n (by omega), zp_n (by omega)]; exact h3
  · rw [lo _ (by omega), zp_n (by omega), zp_n (by omega)]; exact h4
  · rw [lo _ (by omega), zp_n (by omega), zp_n (by omega)]; exact h5
  · rw [lo _ (by omega), zp_n (by omega), zp_n (by omega)]; exact h6
  · rw [lo _ (by omega), zp_n (by omega), zp_n (by omega)]; exact h7
  · dsimp only at hi
    rw [lo 2 (by omega)] at hi
    rw [lo _ (by omega), lo _ (by omega), ab_pI_ne (by omega), ab_pI_ne (by omega), ab_pI_ne (by omega), ab_pI_ne (by omega)]
    exact hg i hi
  · rw [zp_s]; rfl
  · simp at hu
theorem p_G_putFox {kind c : Nat} (hk : ab_sh g = (0, 1)) (hA : zGH σ g A) (hr : ∀ τ, zGH τ g (zup (zup A.1 4 kind) 5 c, (0, A.2.1.2), A.2.2) → zF (zkg g) σ τ → Rf τ) : CA (d + 1) 47 [.ref g, .int (nI kind), .int (nI c)] σ (ab_rV Rf) := by
  obtain ⟨⟨h0, h1, h2, h3, h4, h5, h6, h7, hg⟩, hp, hP, hN, hM⟩ := hA
  have lo : ∀ j, j ≠ 4 → j ≠ 5 → zup (zup A.1 4 kind) 5 c j = A.1 j := fun j hj hj2 => by unfold zup; rw [if_neg hj2, if_neg hj]
  have hL : zF [g + 1, g] σ (ab_pI (ab_pI (ab_pI σ.1 (g + 1) 3 (nI kind)) (g + 1) 4 (nI c)) g 3 0, σ.2) := ⟨rfl, fun a ha => by
    simp at ha
    dsimp only
    rw [ab_pI_ne (by omega), ab_pI_ne (by omega), ab_pI_ne (by omega)]⟩
  refine e_G_putFox (b_G_putFox_0 hk (hr _ ⟨⟨?_, ?_, ?_, ?_, ?_, ?_, ?_, ?_, fun i hi => ?_⟩, ?_, fun u hu => ?_, hN.frame hL (by first | (simp; done) | (simp; omega)) (by first | (simp; done) | (simp; omega)), hM.frame hL (by first | (simp; done) | (simp; omega)) (by first | (simp; done) | (simp; omega))⟩ (hL.up (by first | (simp; done) | (simp; omega)))))
  all_goals dsimp only
  · rw [lo _ (by omega) (by omega), zp_n (by omega), zp_n (by omega), zp_n (by omega)]; exact h0
  · rw [lo _ (by omega) (by omega), zp_n (by omega), zp_n (by omega), zp_n (by omega)]; exact h1
  · rw [lo _ (by omega) (by omega), zp_n (by omega), zp_n (by omega), zp_n (by omega)]; exact h2
  · rw [zp_n (by omega), zp_n (by omega), zp_s]; unfold zup; rw [if_neg (by omega), if_pos rfl]
  · rw [zp_n (by omega), zp_s]; unfold zup; rw [if_pos rfl]
  · rw [lo _ (by omega) (by omega), zp_n (by omega), zp_n (by omega), zp_n (by omega)]; exact h5
  · rw [lo _ (by omega) (by omega), zp_n (by omega), zp_n (by omega), zp_n (by omega)]; exact h6
  · rw [lo _ (by omega) (by omega), zp_n (by omega), zp_n (by omega), zp_n (by omega)]; exact h7
  · dsimp only at hi
    rw [lo 2 (by omega) (by omega)] at hi
    rw [lo _ (by omega) (by omega), lo _ (by omega) (by omega), ab_pI_ne (by omega), ab_pI_ne (by omega), ab_pI_ne (by omega), ab_pI_ne (by omega), ab_pI_ne (by omega), ab_pI_ne (by omega)]
    exact hg i hi
  · rw [zp_s]; rfl
  · simp at hu
/-- a goose comes -/
def zadd (B : zB) (kind c : Nat) : zB := zup (zup (zup B (8 + B 2) kind) (12 + B 2) (c + 1)) 2 (B 2 + 1)
theorem p_G_addGoose {kind c : Nat} (hk : ab_sh g = (0, 1)) (hA : zGH σ g A) (hn : A.1 2 < 4) (hr : ∀ τ, zGH τ g (zadd A.1 kind c, (0, A.2.1.2), A.2.2) → zF (zkg g) σ τ → Rf τ) : CA (d + 1) 48 [.ref g, .int (nI kind), .int (nI c)] σ (ab_rV Rf) := by
  obtain ⟨⟨h0, h1, h2, h3, h4, h5, h6, h7, hg⟩, hp, hP, hN, hM⟩ := hA
  have lo : ∀ j, j ≠ 2 → j ≠ 8 + A.1 2 → j ≠ 12 + A.1 2 → zadd A.1 kind c j = A.1 j := fun j q1 q2 q3 => by unfold zadd zup; rw [if_neg q1, if_neg q3, if_neg q2]
  have hin : vp_in (nI (A.1 2)) 4 := vp_in_nI (by omega) (by omega)
  refine e_G_addGoose (b_G_addGoose_0 hk (fun c => absurd c (by rw [h5, zlit 0, zlt (by omega) (by omega)]; omega)) (fun _ => ?_))
  rw [h5]
  refine b_G_addGoose_12 (fun _ => b_G_addGoose_18 hk hin hin ?_) (fun c => absurd ?_ c)
  · rw [zc_nI (by omega)]
    have hL : zF [g + 1, g + 2, g + 3, g] σ (ab_pI (ab_pI (ab_pI (ab_pI σ.1 (g + 1 + 1) (A.1 2) (nI kind)) (g + 1 + 2) (A.1 2) (nI c)) (g + 1) 5 (ab_pI (ab_pI σ.1 (g + 1 + 1) (A.1 2) (nI kind)) (g + 1 + 2) (A.1 2) (nI c) (g + 1) 5 + 1)) g 3 0, σ.2) := ⟨rfl, fun a ha => by
      simp at ha
      dsimp only
      rw [ab_pI_ne (by omega), ab_pI_ne (by omega), ab_pI_ne (by omega), ab_pI_ne (by omega)]⟩
    refine hr _ ⟨⟨?_, ?_, ?_, ?_, ?_, ?_, ?_, ?_, fun i hi => ?_⟩, ?_, fun u hu => ?_, hN.frame hL (by first | (simp; done) | (simp; omega)) (by first | (simp; done) | (simp; omega)), hM.frame hL (by first | (simp; done) | (simp; omega)) (by first | (simp; done) | (simp; omega))⟩ (hL.up (by first | (simp; done) | (simp; omega)))
    all_goals dsimp only
    · rw [lo _ (by omega) (by omega) (by omega), zp_n (by omega), zp_n (by omega), zp_n (by omega), zp_n (by omega)]; exact h0
    · rw [lo _ (by omega) (by omega) (by omega), zp_n (by omega), zp_n (by omega), zp_n (by omega), zp_n (by omega)]; exact h1
    · rw [lo _ (by omega) (by omega) (by omega), zp_n (by omega), zp_n (by omega), zp_n (by omega), zp_n (by omega)]; exact h2
    · rw [lo _ (by omega) (by omega) (by omega), zp_n (by omega), zp_n (by omega), zp_n (by omega), zp_n (by omega)]; exact h3
    · rw [lo _ (by omega) (by omega) (by omega), zp_n (by omega), zp_n (by omega), zp_n (by omega), zp_n (by omega)]; exact h4
    · rw [zp_n (by omega), zp_s, zp_n (by omega), zp_n (by omega), h5, nI_1]; unfold zadd zup; rw [if_pos rfl]
    · rw [lo _ (by omega) (by omega) (by omega), zp_n (by omega), zp_n (by omega), zp_n (by omega), zp_n (by omega)]; exact h6
    · rw [lo _ (by omega) (by omega) (by omega), zp_n (by omega), zp_n (by omega), zp_n (by omega), zp_n (by omega)]; exact h7
    · have hi : i < A.1 2 + 1 := by
        have e : zadd A.1 kind c 2 = A.1 2 + 1 := by unfold zadd zup; rw [if_pos rfl]
        dsimp only at hi
        rw [e] at hi
        exact hi
      by_cases q : i = A.1 2
      · subst q
        rw [zp_n (by omega), zp_n (by omega), zp_n (by omega), zp_s, zp_n (by omega), zp_n (by omega), zp_s]
        refine ⟨?_, ?_⟩
        · unfold zadd zup
          rw [if_neg (by omega), if_neg (by omega), if_pos rfl]
        · unfold zadd zup
          rw [if_neg (by omega), if_pos rfl, zc_s]
      · rw [lo _ (by omega) (by omega) (by omega), lo _ (by omega) (by omega) (by omega), zp_n (by omega), zp_n (by omega), zp_n (by omega), zp_n (by omega), zp_n (by omega), zp_n (by omega), zp_n (by omega), zp_n (by omega)]
        exact hg i (by omega)
    · rw [zp_s]; rfl
    · simp at hu
  · rw [zlit 4, zlt (by omega) (by omega)]; omega
end GM
