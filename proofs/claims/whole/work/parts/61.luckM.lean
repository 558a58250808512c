/-! luck in the reference -/
def zFW (m v w : Nat) (σ τ : ab_S) : Prop := (∀ a, a ≠ 57 → a ≠ 61 → τ.1 a = σ.1 a) ∧ (∀ j, j < 540 + 16 * m → τ.1 57 j = σ.1 57 j) ∧ (∀ j, j < v → τ.1 61 j = σ.1 61 j) ∧ (∀ a, a ≠ 63 → τ.2 a = σ.2 a) ∧ (∀ j, j < w → τ.2 63 j = σ.2 63 j)
theorem zFW.rf {m v w : Nat} {σ : ab_S} : zFW m v w σ σ := ⟨fun _ _ _ => rfl, fun _ _ => rfl, fun _ _ => rfl, fun _ _ => rfl, fun _ _ => rfl⟩
theorem zFW.tr {m v w : Nat} {σ τ υ : ab_S} (h1 : zFW m v w σ τ) (h2 : zFW m v w τ υ) : zFW m v w σ υ := ⟨fun a x y => (h2.1 a x y).trans (h1.1 a x y), fun j hj => (h2.2.1 j hj).trans (h1.2.1 j hj), fun j hj => (h2.2.2.1 j hj).trans (h1.2.2.1 j hj), fun a x => (h2.2.2.2.1 a x).trans (h1.2.2.2.1 a x), fun j hj => (h2.2.2.2.2 j hj).trans (h1.2.2.2.2 j hj)⟩
theorem zFW.up {m v w m2 v2 w2 : Nat} {σ τ : ab_S} (h : zFW m v w σ τ) (a : m2 ≤ m) (b : v2 ≤ v) (c : w2 ≤ w) : zFW m2 v2 w2 σ τ := ⟨h.1, fun j hj => h.2.1 j (by omega), fun j hj => h.2.2.1 j (by omega), h.2.2.2.1, fun j hj => h.2.2.2.2 j (by omega)⟩
theorem zFR.fw {lo hi m v w : Nat} {σ τ : ab_S} (h : zFR lo hi σ τ) (hm : 540 + 16 * m ≤ lo) : zFW m v w σ τ := ⟨fun a x _ => h.2.1 a x, fun j hj => h.2.2 j (by omega), fun j _ => by rw [h.2.1 61 (by omega)], fun a _ => by rw [h.1], fun j _ => by rw [h.1]⟩
theorem zFW.p61 {m v w i : Nat} {x : Int32} {σ : ab_S} (h : v ≤ i) : zFW m v w σ (ab_pI σ.1 61 i x, σ.2) := ⟨fun a _ y => ab_pI_ne y, fun j _ => by dsimp only; exact zp_n (by omega), fun j hj => by dsimp only; exact zp_n (by omega), fun _ _ => rfl, fun _ _ => rfl⟩
theorem zFW.p63 {m v w i : Nat} {x : Int64} {σ : ab_S} (h : w ≤ i) : zFW m v w σ (σ.1, ab_pL σ.2 63 i x) := ⟨fun _ _ _ => rfl, fun _ _ => rfl, fun _ _ => rfl, fun a ha => zpL_ne ha, fun j hj => by dsimp only; exact zpL_n (by omega)⟩
theorem zR.fw {m v w r : Nat} {σ τ : ab_S} {B : zB} (h : zR σ r B) (h4 : B 2 ≤ 4) (hF : zFW m v w σ τ) (hr : r + 16 ≤ 540 + 16 * m) : zR τ r B := h.ext h4 (fun j a b => hF.2.1 j (by omega))
section LM
variable {d n : Nat} {σ : ab_S} {Rf : Int64 → ab_S → Prop}
theorem p_M_row {D : Nat} {Q : Int32 → ab_S → Prop} (h : Q (nI (540 + 16 * D)) σ) : CA (d + 1) 179 [.int (nI D)] σ (ab_rI Q) := by
  refine e_M_row (b_M_row_0 (zr h ?_))
  rw [zlit 16, pk_mul, zlit 540, nI_add]
theorem zlow {D : Nat} : nI D + (-1) = zc D := by unfold zc; rw [Int32.sub_eq_add_neg]
theorem p_lk_visit {D s c : Nat} {C : zB} (hD : D ≤ 4) (hn : n ≤ 4) (hR : zR σ (540 + 16 * D) C) (hV : zV C) (hm : (σ.1 61 D = -2 ∧ c = 0) ∨ (σ.1 61 D = nI (c - 1) ∧ 1 ≤ c ∧ c ≤ 26)) (h : S_M_luckOf_149 (d + 6) Rf (nI n) (lN s) (nI D) (nI (540 + 16 * D)) (zb (decide (C 5 < C 0))) (nI (zfS C)) (nI c) (zb (decide (C 5 < C 0) || decide (D = n))) σ) : S_M_luckOf_57 (d + 6) Rf (nI n) (lN s) (nI D) σ := by
  have h25 := hV.n
  obtain ⟨⟨v0, -, -, -, -, v5, -⟩, -⟩ := id hV
  have R0 : σ.1 57 (Int32.toNatClampNeg (nI (540 + 16 * D) + 0)) = nI (C 0) := hR.at 0 (by omega) (by omega)
  have R5 : σ.1 57 (Int32.toNatClampNeg (nI (540 + 16 * D) + 5)) = nI (C 5) := hR.at 5 (by omega) (by omega)
  have eD : Int32.toNatClampNeg (nI D) = D := zc_nI (by omega)
  have go : S_M_luckOf_95 (d + 6) Rf (nI n) (lN s) (nI D) (nI (540 + 16 * D)) (zb (decide (C 5 < C 0))) σ := by
    refine b_M_luckOf_95 (p_M_canOfF hR hV (by omega) ?_)
    have fin : S_M_luckOf_131 (d + 6) Rf (nI n) (lN s) (nI D) (nI (540 + 16 * D)) (zb (decide (C 5 < C 0))) (nI (zfS C)) (nI c) σ := by
      refine d_M_luckOf_131 ?_
      have e : (if zb (decide (C 5 < C 0)) = 0 then (if nI D = nI n then (1 : Int32) else 0) else 1) = zb (decide (C 5 < C 0) || decide (D = n)) := by
        have en : (nI D = nI n) ↔ D = n := zeq (by omega) (by omega)
        by_cases q : C 5 < C 0
        · simp [q, zb]
        · by_cases q2 : D = n
          · simp [q, q2, zb]
          · have q3 : ¬ nI D = nI n := fun z => q2 (en.mp z)
            simp [q, q2, q3, zb]
      rw [e]
      exact h
    refine b_M_luckOf_104 (vp_in_nI (by omega) (by omega)) (fun q => b_M_luckOf_118 ?_) (fun q => b_M_luckOf_122 (vp_in_nI (by omega) (by omega)) ?_) <;> rw [eD] at q
    · rcases hm with ⟨-, c0⟩ | ⟨e, c1, c2⟩
      · rw [c0] at fin; exact fin
      · rw [e] at q
        exact absurd q (by rw [fa_eq, zn (by omega), show (-2 : Int32).toInt = -2 from by decide]; omega)
    · rcases hm with ⟨e, -⟩ | ⟨e, c1, c2⟩
      · exact absurd e q
      · rw [eD, e, nI_1, show c - 1 + 1 = c by omega]; exact fin
  refine b_M_luckOf_57 (fun q => absurd q (by rw [zlit 0, zlt (by omega) (by omega)]; omega)) (fun _ => b_M_luckOf_62 (p_M_row (b_M_luckOf_67 (zin 5 (by omega)) (zin 0 (by omega)) (fun q => b_M_luckOf_94 ?_) (fun q => b_M_luckOf_90 ?_)))) <;> rw [R0, R5, zle (by omega) (by omega)] at q
  · rw [decide_eq_false (by omega)] at go; exact go
  · rw [decide_eq_true (by omega)] at go; exact go
theorem p_lk_search {s : Nat} {x1 x4 x5 x9 : Int32} {x2 : Int64} (hs : s < 33554432) : ∀ (m c : Nat), 26 - c ≤ m → c ≤ 26 → (∀ e, c ≤ e → e ≤ 26 → (e < 25 → s.testBit e = true) → (∀ j, c ≤ j → j < e → j < 25 → s.testBit j = false) → S_M_luckOf_198 (d + 6) Rf x1 x2 x4 x5 (nI s) (nI e) x9 σ) → S_M_luckOf_175 (d + 6) Rf x1 x2 x4 x5 (nI s) (nI c) x9 σ := by
  intro m
  induction m with
  | zero =>
    intro c q1 q2 h
    have : c = 26 := by omega
    subst this
    exact b_M_luckOf_175 (fun _ => h 26 (by omega) (by omega) (fun q => by omega) (fun j _ _ _ => by omega)) (fun q => absurd (by decide) q)
  | succ m ih =>
    intro c q1 q2 h
    refine b_M_luckOf_175 (fun q => ?_) (fun q => b_M_luckOf_182 ?_) <;> rw [zlit 25, zle (by omega) (by omega)] at q
    · exact h c (by omega) (by omega) (fun q => by omega) (fun j _ _ _ => by omega)
    · refine p_M_has (by omega) (by omega) (b_M_luckOf_189 (fun w => b_M_luckOf_192 ?_) (fun w => h c (by omega) (by omega) (fun _ => nbt w) (fun j _ _ _ => by omega)))
      rw [nI_1]
      refine ih (c + 1) (by omega) (by omega) (fun e a b f g => h e (by omega) b f (fun j r1 r2 r3 => ?_))
      by_cases z : j = c
      · rw [z]; exact zb_0.mp w
      · exact g j (by omega) r2 r3
theorem p_lk_fox {D s c W : Nat} {C : zB} (hD : D ≤ 3) (hR : zR σ (540 + 16 * D) C) (hV : zV C) (hW : W < 2 ^ 62) (hw : σ.2 63 D = lN W) (hc : (zfS C).testBit c = true) (h : ∀ χ, zFW (D + 1) D (D + 1) σ χ → zR χ (540 + 16 * (D + 1)) (zfox C c) → χ.2 63 (D + 1) = lN (W / zpc (zfS C) 25) → χ.1 61 (D + 1) = -2 → χ.1 61 D = nI c → S_M_luckOf_57 (d + 6) Rf (nI n) (lN s) (nI (D + 1)) χ) : S_M_luckOf_245 (d + 6) Rf (nI n) (lN s) (nI D) (nI (540 + 16 * D)) (nI (zfS C)) (nI c) 0 σ := by
  have h25 := hV.n
  have hcc := (zfS_bit hc).1
  have hs := zfS_lt hV
  have n4 := hV.1.2.2.1
  have hp : 0 < zpc (zfS C) 25 := zpc_pos (fun z => by rw [z] at hc; simp at hc) hs
  have hp2 := zpc_le (zfS C) 25
  have eD : Int32.toNatClampNeg (nI D) = D := zc_nI (by omega)
  have eD1 : Int32.toNatClampNeg (nI (D + 1)) = D + 1 := zc_nI (by omega)
  refine b_M_luckOf_245 (fun _ => b_M_luckOf_261 (b_M_luckOf_263 (vp_in_nI (by omega) (by omega)) ?_)) (fun q => absurd rfl q)
  rw [nI_1, eD]
  refine p_M_row (b_M_luckOf_274 (p_M_copy (a := 540 + 16 * D) (b := 540 + 16 * (D + 1)) (n := 16) (by omega) (by omega) (by omega) (fun τ hc2 hF => b_M_luckOf_279 (fun _ => b_M_luckOf_306 ?_) (fun q => absurd rfl q))))
  have hF0 : zFW (D + 1) D (D + 1) σ τ := (zFW.p61 (by omega)).tr (hF.fw (by omega))
  have hm0 : τ.1 61 D = nI c := by rw [hF.2.1 61 (by omega)]; dsimp only; rw [zp_s]; try rfl
  have hR1 : zR τ (540 + 16 * (D + 1)) C := by
    refine ⟨fun j hj => ?_, fun i hi => ⟨?_, ?_⟩⟩
    · rw [hc2 j (by omega)]; dsimp only; rw [zp_n (by omega)]; exact hR.1 j hj
    · rw [show 540 + 16 * (D + 1) + 8 + i = 540 + 16 * (D + 1) + (8 + i) by omega, hc2 _ (by omega)]; dsimp only
      rw [zp_n (by omega), show 540 + 16 * D + (8 + i) = 540 + 16 * D + 8 + i by omega]; exact (hR.2 i hi).1
    · rw [show 540 + 16 * (D + 1) + 12 + i = 540 + 16 * (D + 1) + (12 + i) by omega, hc2 _ (by omega)]; dsimp only
      rw [zp_n (by omega), show 540 + 16 * D + (12 + i) = 540 + 16 * D + 12 + i by omega]; exact (hR.2 i hi).2
  rw [nI_1]
  refine p_M_row (b_M_luckOf_314 (p_M_foxGoes hR1 hV (by omega) (by omega) (fun υ hυ hG => b_M_luckOf_319 (b_M_luckOf_321 (fun _ => b_M_luckOf_344 (vp_in_nI (by omega) (by omega)) (p_M_ones (by omega) ?_)) (fun q => absurd rfl q)))))
  have hF1 : zFW (D + 1) D (D + 1) σ υ := hF0.tr (hG.fw (by omega))
  have e63 : υ.2 63 D = lN W := by rw [hF1.2.2.2.2 D (by omega)]; exact hw
  rw [eD, e63]
  refine b_M_luckOf_356 (by rw [nI_l (by omega), fa_litL 0, pk_lEQ (by omega) (by omega)]; omega) ?_
  rw [nI_l (by omega), pk_lDiv (by omega) (by omega) (by omega), nI_1]
  refine b_M_luckOf_358 (vp_in_nI (by omega) (by omega)) (by rw [nI_1]; exact vp_in_nI (by omega) (by omega)) (b_M_luckOf_371 ?_)
  rw [nI_1, eD1]
  have hL1 : zFW (D + 1) D (D + 1) υ (ab_pI υ.1 61 (D + 1) (-2), υ.2) := zFW.p61 (by omega)
  have hL2 : zFW (D + 1) D (D + 1) (ab_pI υ.1 61 (D + 1) (-2), υ.2) (ab_pI υ.1 61 (D + 1) (-2), ab_pL υ.2 63 (D + 1) (lN (W / zpc (zfS C) 25))) := zFW.p63 (by omega)
  refine h _ ((hF1.tr hL1).tr hL2) (hυ.ext ?_ (fun j a b => ?_)) ?_ ?_ ?_
  · rw [zfox_lo (by omega)]; exact n4
  all_goals dsimp only
  · rw [zp_n (by omega)]
  · rw [zpL_s]
  · rw [zp_s]
  · rw [zp_n (by omega), hG.2.1 61 (by omega)]; exact hm0
theorem p_lk_stay {D s c W : Nat} {C : zB} (hD : D ≤ 3) (hR : zR σ (540 + 16 * D) C) (hV : zV C) (hw : σ.2 63 D = lN W) (h : ∀ χ, zFW (D + 1) D (D + 1) σ χ → zR χ (540 + 16 * (D + 1)) (zstay C) → χ.2 63 (D + 1) = lN W → χ.1 61 (D + 1) = -2 → χ.1 61 D = nI 25 → S_M_luckOf_57 (d + 6) Rf (nI n) (lN s) (nI (D + 1)) χ) : S_M_luckOf_245 (d + 6) Rf (nI n) (lN s) (nI D) (nI (540 + 16 * D)) (nI (zfS C)) (nI c) 1 σ := by
  have n4 := hV.1.2.2.1
  have eD : Int32.toNatClampNeg (nI D) = D := zc_nI (by omega)
  have eD1 : Int32.toNatClampNeg (nI (D + 1)) = D + 1 := zc_nI (by omega)
  refine b_M_luckOf_245 (fun q => absurd q (by decide)) (fun _ => b_M_luckOf_256 (b_M_luckOf_263 (vp_in_nI (by omega) (by omega)) ?_))
  rw [nI_1, eD]
  refine p_M_row (b_M_luckOf_274 (p_M_copy (a := 540 + 16 * D) (b := 540 + 16 * (D + 1)) (n := 16) (by omega) (by omega) (by omega) (fun τ hc2 hF => b_M_luckOf_279 (fun q => absurd q (by decide)) (fun _ => b_M_luckOf_284 ?_))))
  have hF0 : zFW (D + 1) D (D + 1) σ τ := (zFW.p61 (by omega)).tr (hF.fw (by omega))
  have hm0 : τ.1 61 D = nI 25 := by rw [hF.2.1 61 (by omega)]; dsimp only; rw [zp_s]; try rfl
  have hR1 : zR τ (540 + 16 * (D + 1)) C := by
    refine ⟨fun j hj => ?_, fun i hi => ⟨?_, ?_⟩⟩
    · rw [hc2 j (by omega)]; dsimp only; rw [zp_n (by omega)]; exact hR.1 j hj
    · rw [show 540 + 16 * (D + 1) + 8 + i = 540 + 16 * (D + 1) + (8 + i) by omega, hc2 _ (by omega)]; dsimp only
      rw [zp_n (by omega), show 540 + 16 * D + (8 + i) = 540 + 16 * D + 8 + i by omega]; exact (hR.2 i hi).1
    · rw [show 540 + 16 * (D + 1) + 12 + i = 540 + 16 * (D + 1) + (12 + i) by omega, hc2 _ (by omega)]; dsimp only
      rw [zp_n (by omega), show 540 + 16 * D + (12 + i) = 540 + 16 * D + 12 + i by omega]; exact (hR.2 i hi).2
  rw [nI_1]
  refine p_M_row (b_M_luckOf_295 (zin 7 (by omega)) (zin 7 (by omega)) ?_)
  have e7 : Int32.toNatClampNeg (nI (540 + 16 * (D + 1)) + 7) = 540 + 16 * (D + 1) + 7 := zcl 7 (by omega)
  rw [e7, hR1.1 7 (by omega), nI_1]
  have hR2 := hR1.put (j := 7) (v := C 7 + 1) n4 (by omega) (by omega)
  have hG : zFR (540 + 16 * (D + 1)) (540 + 16 * (D + 1) + 16) τ (ab_pI τ.1 57 (540 + 16 * (D + 1) + 7) (nI (C 7 + 1)), τ.2) := zFR.put (by omega) (by omega)
  generalize hυ : ((ab_pI τ.1 57 (540 + 16 * (D + 1) + 7) (nI (C 7 + 1)), τ.2) : ab_S) = υ at *
  have hF1 : zFW (D + 1) D (D + 1) σ υ := hF0.tr (hG.fw (by omega))
  have e63 : υ.2 63 D = lN W := by rw [hF1.2.2.2.2 D (by omega)]; exact hw
  refine b_M_luckOf_321 (fun q => absurd q (by decide)) (fun _ => b_M_luckOf_334 (vp_in_nI (by omega) (by omega)) ?_)
  rw [eD, e63, nI_1]
  refine b_M_luckOf_358 (vp_in_nI (by omega) (by omega)) (by rw [nI_1]; exact vp_in_nI (by omega) (by omega)) (b_M_luckOf_371 ?_)
  rw [nI_1, eD1]
  have hL1 : zFW (D + 1) D (D + 1) υ (ab_pI υ.1 61 (D + 1) (-2), υ.2) := zFW.p61 (by omega)
  have hL2 : zFW (D + 1) D (D + 1) (ab_pI υ.1 61 (D + 1) (-2), υ.2) (ab_pI υ.1 61 (D + 1) (-2), ab_pL υ.2 63 (D + 1) (lN W)) := zFW.p63 (by omega)
  refine h _ ((hF1.tr hL1).tr hL2) (hR2.ext (show zup C 7 (C 7 + 1) 2 ≤ 4 from n4) (fun j a b => ?_)) ?_ ?_ ?_
  all_goals dsimp only
  · rw [zp_n (by omega)]
  · rw [zpL_s]
  · rw [zp_s]
  · rw [zp_n (by omega), hG.2.1 61 (by omega)]; exact hm0
theorem p_lk_over {D s c W : Nat} {C : zB} (hD : D ≤ 4) (hn : n ≤ 4) (hR : zR σ (540 + 16 * D) C) (hV : zV C) (hw : σ.2 63 D = lN W) (hm : σ.1 61 D = -2 ∧ c = 0) (ho : (decide (C 5 < C 0) || decide (D = n)) = true) (h : S_M_luckOf_57 (d + 6) Rf (nI n) (lN (s + if C 5 < C 0 then W else 0)) (zc D) σ) : S_M_luckOf_57 (d + 6) Rf (nI n) (lN s) (nI D) σ := by
  have hs := zfS_lt hV
  have eD : Int32.toNatClampNeg (nI D) = D := zc_nI (by omega)
  refine p_lk_visit hD hn hR hV (Or.inl hm) ?_
  rw [ho]
  have fin : S_M_luckOf_175 (d + 6) Rf (nI n) (lN (s + if C 5 < C 0 then W else 0)) (nI D) (nI (540 + 16 * D)) (nI (zfS C)) (nI c) 1 σ := by
    refine p_lk_search hs 26 c (by omega) (by omega) (fun e _ _ _ _ => ?_)
    have g : ∀ s0, S_M_luckOf_220 (d + 6) Rf (nI n) (lN (s + if C 5 < C 0 then W else 0)) (nI D) (nI (540 + 16 * D)) (nI (zfS C)) (nI e) 1 s0 σ := fun s0 => b_M_luckOf_220 (fun q => absurd q (by decide)) (fun _ => b_M_luckOf_239 (b_M_luckOf_371 (by rw [zlow]; exact h)))
    exact b_M_luckOf_198 (fun _ => b_M_luckOf_203 (vp_in_nI (by omega) (by omega)) (fun _ => b_M_luckOf_215 (g 1)) (fun _ => b_M_luckOf_219 (g 0))) (fun _ => b_M_luckOf_219 (g 0))
  refine b_M_luckOf_149 (fun q => absurd q (by decide)) (fun _ => b_M_luckOf_156 (fun q => b_M_luckOf_172 (b_M_luckOf_173 ?_)) (fun q => b_M_luckOf_162 (vp_in_nI (by omega) (by omega)) (b_M_luckOf_173 ?_)))
  · have q := of_decide_eq_false (zb_0.mp q)
    rw [if_neg q] at fin
    rw [fa_litL 0, lN_add]
    exact fin
  · have q := of_decide_eq_true (nbt q)
    rw [if_pos q] at fin
    rw [eD, hw, lN_add]
    exact fin
theorem p_M_luckR (hn : n ≤ 4) : ∀ (r D : Nat), D + r = n → ∀ (C : zB) (W s : Nat) (σ : ab_S), zV C → C 7 + r < 100000 → W < 2 ^ 62 → zR σ (540 + 16 * D) C → σ.2 63 D = lN W → σ.1 61 D = -2 → (∀ τ, zFW (D + 1) D (D + 1) σ τ → S_M_luckOf_57 (d + 6) Rf (nI n) (lN (s + zls r C W)) (zc D) τ) → S_M_luckOf_57 (d + 6) Rf (nI n) (lN s) (nI D) σ
  | 0, D, hD, C, W, s, σ, hV, h7, hW, hR, hw, hm, h => by
    refine p_lk_over (c := 0) (by omega) hn hR hV hw ⟨hm, rfl⟩ (by rw [decide_eq_true (show D = n by omega)]; simp) (h σ zFW.rf)
  | r + 1, D, hD, C, W, s, σ, hV, h7, hW, hR, hw, hm, h => by
    have hs := zfS_lt hV
    have n4 := hV.1.2.2.1
    by_cases hh : C 5 < C 0
    · refine p_lk_over (c := 0) (by omega) hn hR hV hw ⟨hm, rfl⟩ (by rw [decide_eq_true hh]; rfl) ?_
      have := h σ zFW.rf
      unfold zls at this
      rw [if_pos hh] at this ⊢
      exact this
    have nov : (decide (C 5 < C 0) || decide (D = n)) = false := by rw [decide_eq_false hh, decide_eq_false (show ¬ D = n by omega)]; rfl
    unfold zls at h
    rw [if_neg hh] at h
    have x0 : (nI (zfS C) = 0) ↔ zfS C = 0 := zeq (b := 0) (by omega) (by omega)
    have eD : Int32.toNatClampNeg (nI D) = D := zc_nI (by omega)
    have up : ∀ (χ : ab_S) y, S_M_luckOf_57 (d + 6) Rf (nI n) (lN y) (nI D) χ → S_M_luckOf_57 (d + 6) Rf (nI n) (lN y) (zc (D + 1)) χ := fun χ y q => by rw [zc_s]; exact q
    by_cases hz : zfS C = 0
    · rw [if_pos hz] at h
      refine p_lk_visit (c := 0) (by omega) hn hR hV (Or.inl ⟨hm, rfl⟩) ?_
      rw [nov]
      refine b_M_luckOf_149 (fun _ => p_lk_search hs 26 0 (by omega) (by omega) (fun e _ he hb _ => ?_)) (fun q => absurd rfl q)
      have e25 : ¬ e < 25 := fun q => by have := hb q; rw [hz] at this; simp at this
      refine b_M_luckOf_198 (fun _ => b_M_luckOf_203 (vp_in_nI (by omega) (by omega)) (fun _ => b_M_luckOf_215 (b_M_luckOf_220 (fun _ => b_M_luckOf_227 (fun q => absurd q (by rw [zlit 25, zlt (by omega) (by omega)]; omega)) (fun _ => b_M_luckOf_234 (fun q => absurd q (by decide)) (fun _ => ?_))) (fun q => absurd rfl q))) (fun q => absurd (by rw [eD]; exact hm) q)) (fun q => absurd (x0.mpr hz) q)
      refine p_lk_stay (by omega) hR hV hw (fun χ hF hR1 hw1 hm1 hmD => ?_)
      refine p_M_luckR hn r (D + 1) (by omega) (zstay C) W s χ (zV_stay hV (by omega)) (by rw [zstay_7]; omega) hW hR1 hw1 hm1 (fun φ hφ => up φ _ ?_)
      have hφ0 : zFW (D + 1) D (D + 1) σ φ := hF.tr (hφ.up (by omega) (by omega) (by omega))
      have hRφ := hR.fw n4 hφ0 (by omega)
      have hmφ : φ.1 61 D = nI 25 := by rw [hφ.2.2.1 D (by omega)]; exact hmD
      refine p_lk_visit (c := 26) (by omega) hn hRφ hV (Or.inr ⟨hmφ, by omega, by omega⟩) ?_
      rw [nov]
      refine b_M_luckOf_149 (fun _ => p_lk_search hs 26 26 (by omega) (by omega) (fun e he1 he2 _ _ => ?_)) (fun q => absurd rfl q)
      have : e = 26 := by omega
      subst this
      have g : S_M_luckOf_219 (d + 6) Rf (nI n) (lN (s + zls r (zstay C) W)) (nI D) (nI (540 + 16 * D)) (nI (zfS C)) (nI 26) 0 φ := b_M_luckOf_219 (b_M_luckOf_220 (fun _ => b_M_luckOf_227 (fun q => absurd q (by decide)) (fun _ => b_M_luckOf_234 (fun _ => b_M_luckOf_239 (b_M_luckOf_371 (by rw [zlow]; exact h φ hφ0))) (fun q => absurd rfl q))) (fun q => absurd rfl q))
      exact b_M_luckOf_198 (fun _ => b_M_luckOf_203 (vp_in_nI (by omega) (by omega)) (fun q => absurd q (by rw [eD, hmφ]; decide)) (fun _ => g)) (fun _ => g)
    · rw [if_neg hz] at h
      have hp : 0 < zpc (zfS C) 25 := zpc_pos hz hs
      have key : ∀ m c (τ : ab_S), 25 - c ≤ m → c ≤ 25 → zFW (D + 1) D (D + 1) σ τ → ((τ.1 61 D = -2 ∧ c = 0) ∨ (τ.1 61 D = nI (c - 1) ∧ 1 ≤ c ∧ c ≤ 26)) → S_M_luckOf_57 (d + 6) Rf (nI n) (lN (s + zsm (fun c => zls r (zfox C c) (W / zpc (zfS C) 25)) (zfS C) c)) (nI D) τ := by
        have same : ∀ c e, c ≤ e → (∀ j, c ≤ j → j < e → (zfS C).testBit j = false) → zsm (fun c => zls r (zfox C c) (W / zpc (zfS C) 25)) (zfS C) e = zsm (fun c => zls r (zfox C c) (W / zpc (zfS C) 25)) (zfS C) c := by
          intro c e hce
          induction e with
          | zero =>
            intro _
            have : c = 0 := by omega
            rw [this]
          | succ e ih =>
            intro hb
            by_cases w : c = e + 1
            · rw [w]
            · rw [zsm, hb e (by omega) (by omega), ih (by omega) (fun j a b => hb j a (by omega))]
              simp
        intro m
        induction m with
        | zero =>
          intro c τ q1 q2 hF hmv
          have : c = 25 := by omega
          subst this
          have hRτ := hR.fw n4 hF (by omega)
          refine p_lk_visit (c := 25) (by omega) hn hRτ hV hmv ?_
          rw [nov]
          refine b_M_luckOf_149 (fun _ => p_lk_search hs 26 25 (by omega) (by omega) (fun e he1 he2 _ _ => ?_)) (fun q => absurd rfl q)
          exact b_M_luckOf_198 (fun q => absurd (x0.mp q) hz) (fun _ => b_M_luckOf_219 (b_M_luckOf_220 (fun _ => b_M_luckOf_227 (fun q => absurd q (by rw [zlit 25, zlt (by omega) (by omega)]; omega)) (fun _ => b_M_luckOf_234 (fun _ => b_M_luckOf_239 (b_M_luckOf_371 (by rw [zlow]; exact h τ hF))) (fun q => absurd rfl q))) (fun q => absurd rfl q)))
        | succ m ih =>
          intro c τ q1 q2 hF hmv
          by_cases qc : c = 25
          · exact ih c τ (by omega) q2 hF hmv
          have hRτ := hR.fw n4 hF (by omega)
          have hwτ : τ.2 63 D = lN W := by rw [hF.2.2.2.2 D (by omega)]; exact hw
          refine p_lk_visit (c := c) (by omega) hn hRτ hV hmv ?_
          rw [nov]
          refine b_M_luckOf_149 (fun _ => p_lk_search hs 26 c (by omega) (by omega) (fun e he1 he2 hb hnb => ?_)) (fun q => absurd rfl q)
          by_cases e25 : e < 25
          · have hbe := hb e25
            refine b_M_luckOf_198 (fun q => absurd (x0.mp q) hz) (fun _ => b_M_luckOf_219 (b_M_luckOf_220 (fun _ => b_M_luckOf_227 (fun _ => ?_) (fun q => absurd (by rw [zlit 25, zlt (by omega) (by omega)]; omega) q)) (fun q => absurd rfl q)))
            obtain ⟨va, vb⟩ := zhs_V hV (n := r) (by omega) hbe
            refine p_lk_fox (by omega) hRτ hV hW hwτ hbe (fun χ hG hR1 hw1 hm1 hmD => ?_)
            refine p_M_luckR hn r (D + 1) (by omega) (zfox C e) (W / zpc (zfS C) 25) _ χ va vb (Nat.lt_of_le_of_lt (Nat.div_le_self _ _) hW) hR1 hw1 hm1 (fun φ hφ => up φ _ ?_)
            have hφ0 : zFW (D + 1) D (D + 1) σ φ := (hF.tr hG).tr (hφ.up (by omega) (by omega) (by omega))
            have hmφ : φ.1 61 D = nI e := by rw [hφ.2.2.1 D (by omega)]; exact hmD
            have hn2 := ih (e + 1) φ (by omega) (by omega) hφ0 (Or.inr ⟨by rw [hmφ]; rfl, by omega, by omega⟩)
            rw [zsm, if_pos hbe, same c e he1 (fun j a b => hnb j a b (by omega)), ← Nat.add_assoc] at hn2
            exact hn2
          · refine b_M_luckOf_198 (fun q => absurd (x0.mp q) hz) (fun _ => b_M_luckOf_219 (b_M_luckOf_220 (fun _ => b_M_luckOf_227 (fun q => absurd q (by rw [zlit 25, zlt (by omega) (by omega)]; omega)) (fun _ => b_M_luckOf_234 (fun _ => b_M_luckOf_239 (b_M_luckOf_371 ?_)) (fun q => absurd rfl q))) (fun q => absurd rfl q)))
            rw [zlow]
            have := h τ hF
            rw [same c 25 q2 (fun j a b => hnb j a (by omega) b)] at this
            exact this
      exact key 25 0 σ (by omega) (by omega) zFW.rf (Or.inl ⟨hm, rfl⟩)
theorem z277 {n : Nat} (h : n ≤ 4) : 27720 ^ n = 33 ^ n * 840 ^ n ∧ 27720 ^ n < 2 ^ 62 ∧ 0 < 33 ^ n := by
  rcases (show n = 0 ∨ n = 1 ∨ n = 2 ∨ n = 3 ∨ n = 4 by omega) with rfl | rfl | rfl | rfl | rfl <;> decide
theorem p_M_gcd {d : Nat} {x1 x3 : Int64} {Rf : Int32 → ab_S → Prop} : ∀ (m a b : Nat), b ≤ m → a < 2 ^ 62 → b < 2 ^ 62 → S_M_told_31 d Rf x1 x3 (lN (Nat.gcd a b)) σ → S_M_told_6 d Rf x1 x3 (lN a) (lN b) σ := by
  intro m
  induction m with
  | zero =>
    intro a b hm ha hb h
    have : b = 0 := by omega
    subst this
    rw [Nat.gcd_zero_right] at h
    exact b_M_told_6 (fun _ => h) (fun c => absurd ((lg_cmp_eq _ _).mpr rfl) c)
  | succ m ih =>
    intro a b hm ha hb h
    by_cases z : b = 0
    · exact ih a b (by omega) ha hb h
    have r1 := Nat.mod_lt a (show b > 0 by omega)
    refine b_M_told_6 (fun c => absurd c ?_) (fun _ => b_M_told_13 ?_ ?_)
    · rw [lg_cmp_eq, fa_litL 0, pk_lEQ (by omega) (by omega)]; exact z
    · rw [fa_litL 0, pk_lEQ (by omega) (by omega)]; exact z
    · rw [pk_lRem (by omega) (by omega) (by omega)]
      rw [zg a b] at h
      exact ih b (a % b) (by omega) hb (by omega) h
theorem p_M_luck {d : Nat} {S : zS} {x : Int32} {Rf : Int32 → ab_S → Prop} (hI : zIM σ S) (hV : zSV S) (h : ∀ τ, zIM τ (zO_luck S x).2 → zKM σ τ → Rf (zO_luck S x).1 τ) : CA (d + 8) 189 [.ref 56, .int x] σ (ab_rI Rf) := by
  have h7 := hV.1.2.1
  have hB := hI.1.1
  refine e_M_luck (b_M_luck_0 (p_M_within (lo := 0) (hi := 4) (by decide) (by decide) (b_M_luck_9 (fun q => ?_) (fun q => b_M_luck_19 ?_))))
  · rw [zO_luck, if_neg (by rw [zb_0.mp q]; decide)] at h
    exact b_M_luck_12 (p_M_bad hI (fun τ a b => b_M_luck_18 (h τ a b)))
  · rw [zO_luck, if_pos (nbt q)] at h
    obtain ⟨n, hn, rfl⟩ := zw_n (m := 4) (nbt q)
    rw [zc_nI (by omega)] at h
    obtain ⟨e1, e2, e3⟩ := z277 hn
    obtain ⟨p1, p2⟩ := z840 hn
    have hl := zhs_le n S.1.1 hV.1.1 (by omega)
    have hls := zls_hs n (33 ^ n) S.1.1 hV.1.1 (by omega)
    rw [← e1] at hls
    -- the end
    have fin : ∀ τ, zFW 0 0 0 σ τ → S_M_luck_48 (d + 7) Rf (lN (27720 ^ n)) (lN (zls n S.1.1 (27720 ^ n))) τ := fun τ hF => by
      refine b_M_luck_48 (e_M_told (b_M_told_0 ?_))
      have hg : 0 < Nat.gcd (zhs n S.1.1) (840 ^ n) := Nat.gcd_pos_of_pos_right _ p2
      have hg2 : Nat.gcd (zhs n S.1.1) (840 ^ n) ≤ 840 ^ n := Nat.gcd_le_right _ p2
      have k1 : 33 ^ n * zhs n S.1.1 ≤ 33 ^ n * 840 ^ n := Nat.mul_le_mul_left _ hl
      have k2 : 33 ^ n * Nat.gcd (zhs n S.1.1) (840 ^ n) ≤ 33 ^ n * 840 ^ n := Nat.mul_le_mul_left _ hg2
      have k3 : 0 < 33 ^ n * Nat.gcd (zhs n S.1.1) (840 ^ n) := Nat.mul_pos e3 hg
      rw [hls, e1]
      rw [e1] at e2
      refine p_M_gcd _ _ _ (Nat.le_refl _) (Nat.lt_of_le_of_lt k1 e2) e2 ?_
      rw [Nat.gcd_mul_left]
      refine b_M_told_31 ?_ ?_ (b_M_luck_52 ?_)
      · rw [fa_litL 0, pk_lEQ (by omega) (by omega)]; omega
      · rw [fa_litL 0, pk_lEQ (by omega) (by omega)]; omega
      · rw [pk_lDiv (by omega) (by omega) (by omega), pk_lDiv (by omega) (by omega) (by omega), Nat.mul_div_mul_left _ _ e3, Nat.mul_div_mul_left _ _ e3]
        refine h _ ?_ (fun a ha => ⟨hF.1 a (by omega) (by omega), ?_⟩)
        · have hs : zIM τ S := hI.scr hV (fun j hj => hF.2.1 j (by omega)) (fun a ha => hF.1 a (by omega) (by omega)) (by rw [hF.1 56 (by omega) (by omega)]) (by rw [hF.2.2.2.1 56 (by omega)]) (by rw [hF.2.2.2.1 56 (by omega)])
          obtain ⟨h1, h2, h3, h4, h5⟩ := hs
          exact ⟨h1, h2, h3, ⟨by dsimp only; rw [zpL_n (by omega), zpL_s]; rfl, by dsimp only; rw [zpL_s]; rfl⟩, h5⟩
        · dsimp only
          rw [zpL_ne (by omega), zpL_ne (by omega), hF.2.2.2.1 a (by omega)]
    have call : CA (d + 7) 188 [.ref 56, .int (nI n)] σ (ab_rL fun r σ' => S_M_luck_48 (d + 7) Rf (lN (27720 ^ n)) r σ') := by
      refine e_M_luckOf (b_M_luckOf_0 (p_M_copy (a := 0) (b := 540) (n := 16) (by omega) (by omega) (by omega) (fun τ hc hF => b_M_luckOf_10 ?_)))
      have n4 := hV.1.1.1.2.2.1
      have hB0 : zR τ 540 S.1.1 := ⟨fun j hj => by rw [hc j (by omega)]; exact hB.1 j hj, fun i hi => ⟨by rw [show 540 + 8 + i = 540 + (8 + i) by omega, hc _ (by omega), show 0 + (8 + i) = 0 + 8 + i by omega]; exact (hB.2 i hi).1, by rw [show 540 + 12 + i = 540 + (12 + i) by omega, hc _ (by omega), show 0 + (12 + i) = 0 + 12 + i by omega]; exact (hB.2 i hi).2⟩⟩
      have key : ∀ m i, n - i ≤ m → i ≤ n → S_M_luckOf_25 (d + 6) (fun r σ' => S_M_luck_48 (d + 7) Rf (lN (27720 ^ n)) r σ') (nI n) 0 0 (nI i) (τ.1, ab_pL τ.2 63 0 (lN (27720 ^ i))) := by
        intro m
        induction m with
        | zero =>
          intro i q1 q2
          have : i = n := by omega
          subst this
          refine b_M_luckOf_25 (fun _ => b_M_luckOf_49 ?_) (fun c => absurd (Int32.le_refl _) c)
          dsimp only
          refine p_M_luckR hn i 0 (by omega) S.1.1 (27720 ^ i) 0 _ hV.1.1 (by omega) e2 (hB0.ext n4 (fun j a b => ?_)) ?_ ?_ (fun υ hG => b_M_luckOf_57 (fun _ => b_M_luckOf_374 ?_) (fun c => absurd (by decide) c))
          · dsimp only; rw [zp_n (by omega)]
          · dsimp only; rw [zpL_s]
          · dsimp only; rw [zp_s]
          · rw [Nat.zero_add]
            have w1 : zFW 0 0 0 σ τ := hF.fw (by omega)
            have w2 : zFW 0 0 0 τ (τ.1, ab_pL τ.2 63 0 (lN (27720 ^ i))) := zFW.p63 (by omega)
            have w3 : zFW 0 0 0 (τ.1, ab_pL τ.2 63 0 (lN (27720 ^ i))) (ab_pI τ.1 61 0 (-2), ab_pL τ.2 63 0 (lN (27720 ^ i))) := zFW.p61 (σ := (τ.1, ab_pL τ.2 63 0 (lN (27720 ^ i)))) (by omega)
            exact fin υ (((w1.tr w2).tr w3).tr (hG.up (by omega) (by omega) (by omega)))
        | succ m ih =>
          intro i q1 q2
          by_cases qi : i = n
          · exact ih i (by omega) q2
          refine b_M_luckOf_25 (fun c => absurd c (by rw [zle (by omega) (by omega)]; omega)) (fun _ => b_M_luckOf_31 ?_)
          dsimp only
          rw [zpL_s, zpL_pp, nI_1, fa_litL 27720, lN_mul, ← Nat.pow_succ]
          exact ih (i + 1) (by omega) (by omega)
      exact key n 0 (by omega) (by omega)
    have key : ∀ m i, n - i ≤ m → i ≤ n → S_M_luck_24 (d + 7) Rf (nI n) (lN (27720 ^ i)) (nI i) σ := by
      intro m
      induction m with
      | zero =>
        intro i q1 q2
        have : i = n := by omega
        subst this
        exact b_M_luck_24 (fun _ => b_M_luck_42 call) (fun c => absurd (Int32.le_refl _) c)
      | succ m ih =>
        intro i q1 q2
        by_cases qi : i = n
        · exact ih i (by omega) q2
        refine b_M_luck_24 (fun c => absurd c (by rw [zle (by omega) (by omega)]; omega)) (fun _ => b_M_luck_30 ?_)
        rw [nI_1, fa_litL 27720, lN_mul, ← Nat.pow_succ]
        exact ih (i + 1) (by omega) (by omega)
    exact key n 0 (by omega) (by omega)
end LM
