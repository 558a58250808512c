/-! worth and best in the reference -/
def zFV (m v : Nat) (σ τ : ab_S) : Prop := τ.2 = σ.2 ∧ (∀ a, a ≠ 56 → a ≠ 57 → a ≠ 61 → a ≠ 62 → τ.1 a = σ.1 a) ∧ (∀ j, j < 540 + 16 * m → τ.1 57 j = σ.1 57 j) ∧ (∀ j, j < v → τ.1 61 j = σ.1 61 j ∧ τ.1 62 j = σ.1 62 j) ∧ ∀ j, j ≠ 12 → τ.1 56 j = σ.1 56 j
theorem zFV.rf {m v : Nat} {σ : ab_S} : zFV m v σ σ := ⟨rfl, fun _ _ _ _ _ => rfl, fun _ _ => rfl, fun _ _ => ⟨rfl, rfl⟩, fun _ _ => rfl⟩
theorem zFV.tr {m v : Nat} {σ τ υ : ab_S} (h1 : zFV m v σ τ) (h2 : zFV m v τ υ) : zFV m v σ υ := ⟨h2.1.trans h1.1, fun a x y z w => (h2.2.1 a x y z w).trans (h1.2.1 a x y z w), fun j hj => (h2.2.2.1 j hj).trans (h1.2.2.1 j hj), fun j hj => ⟨(h2.2.2.2.1 j hj).1.trans (h1.2.2.2.1 j hj).1, (h2.2.2.2.1 j hj).2.trans (h1.2.2.2.1 j hj).2⟩, fun j hj => (h2.2.2.2.2 j hj).trans (h1.2.2.2.2 j hj)⟩
theorem zFV.up {m v m2 v2 : Nat} {σ τ : ab_S} (h : zFV m v σ τ) (a : m2 ≤ m) (b : v2 ≤ v) : zFV m2 v2 σ τ := ⟨h.1, h.2.1, fun j hj => h.2.2.1 j (by omega), fun j hj => h.2.2.2.1 j (by omega), h.2.2.2.2⟩
theorem zFR.fv {lo hi m v : Nat} {σ τ : ab_S} (h : zFR lo hi σ τ) (hm : 540 + 16 * m ≤ lo) : zFV m v σ τ := ⟨h.1, fun a _ y _ _ => h.2.1 a y, fun j hj => h.2.2 j (by omega), fun j _ => ⟨by rw [h.2.1 61 (by omega)], by rw [h.2.1 62 (by omega)]⟩, fun j _ => by rw [h.2.1 56 (by omega)]⟩
theorem zFV.p61 {m v i : Nat} {x : Int32} {σ : ab_S} (h : v ≤ i) : zFV m v σ (ab_pI σ.1 61 i x, σ.2) := ⟨rfl, fun a _ _ z _ => ab_pI_ne z, fun j _ => by dsimp only; exact zp_n (by omega), fun j hj => ⟨by dsimp only; exact zp_n (by omega), by dsimp only; exact zp_n (by omega)⟩, fun j _ => by dsimp only; exact zp_n (by omega)⟩
theorem zFV.p62 {m v i : Nat} {x : Int32} {σ : ab_S} (h : v ≤ i) : zFV m v σ (ab_pI σ.1 62 i x, σ.2) := ⟨rfl, fun a _ _ _ z => ab_pI_ne z, fun j _ => by dsimp only; exact zp_n (by omega), fun j hj => ⟨by dsimp only; exact zp_n (by omega), by dsimp only; exact zp_n (by omega)⟩, fun j _ => by dsimp only; exact zp_n (by omega)⟩
theorem zR.fv {m v r : Nat} {σ τ : ab_S} {B : zB} (h : zR σ r B) (h4 : B 2 ≤ 4) (hF : zFV m v σ τ) (hr : r + 16 ≤ 540 + 16 * m) : zR τ r B := h.ext h4 (fun j a b => hF.2.2.1 j (by omega))
theorem zR.cp {r q : Nat} {σ τ : ab_S} {B : zB} (h : zR σ r B) (h4 : B 2 ≤ 4) (e : ∀ j, j < 16 → τ.1 57 (q + j) = σ.1 57 (r + j)) : zR τ q B := by
  refine ⟨fun j hj => ?_, fun i hi => ⟨?_, ?_⟩⟩
  · rw [e j (by omega)]; exact h.1 j hj
  · rw [show q + 8 + i = q + (8 + i) by omega, e _ (by omega), show r + (8 + i) = r + 8 + i by omega]; exact (h.2 i hi).1
  · rw [show q + 12 + i = q + (12 + i) by omega, e _ (by omega), show r + (12 + i) = r + 12 + i by omega]; exact (h.2 i hi).2
section WR
variable {d n : Nat} {σ : ab_S} {Rf : Int32 → ab_S → Prop}
theorem zneg1 {k : Nat} (h : k < 1000000) : (0 : Int32) ≤ nI k := by rw [zlit 0, zle (by omega) (by omega)]; omega
theorem p_wr_leaf {D : Nat} {C : zB} {x3 : Int32} (hD : D ≤ 4) (hn : n ≤ 4) (hR : zR σ (540 + 16 * D) C) (hV : zV C) (hm : σ.1 61 D = -2) (ho : 0 < zhow C ∨ D = n) (h : S_M_worthOf_30 (d + 7) Rf (nI n) (zc D) (iI (zwo 0 C)) 1 σ) : S_M_worthOf_30 (d + 7) Rf (nI n) (nI D) x3 0 σ := by
  have hl := zhow_lt (B := C)
  have eD : Int32.toNatClampNeg (nI D) = D := zc_nI (by omega)
  have hz := zfS_lt hV
  have hp := zpc_le (zfS C) 25
  have fin : ∀ x, x = iI (zwo 0 C) → S_M_worthOf_105 (d + 7) Rf (nI n) (nI D) (nI (540 + 16 * D)) x σ := fun x e => by
    rw [e]
    exact b_M_worthOf_105 (b_M_worthOf_145 (b_M_worthOf_264 (fun q => absurd q (by decide)) (fun _ => b_M_worthOf_424 (b_M_worthOf_427 (by rw [zlow]; exact h)))))
  have go : S_M_worthOf_74 (d + 7) Rf (nI n) (nI D) (nI (540 + 16 * D)) (nI (zhow C)) σ := by
    refine b_M_worthOf_74 (fun q => b_M_worthOf_80 (fin _ ?_)) (fun q => b_M_worthOf_85 (fun q2 => b_M_worthOf_91 (fin _ ?_)) (fun q2 => b_M_worthOf_95 (p_M_canOfF hR hV (by omega) (b_M_worthOf_102 (p_M_ones (by omega) (fin _ ?_)))))) <;> rw [zlit 2, zeq (by omega) (by omega)] at q
    · rw [zwo, if_pos q]; decide
    · rw [zlit 1, zeq (by omega) (by omega)] at q2
      rw [zwo, if_neg q, if_pos q2]; decide
    · rw [zlit 1, zeq (by omega) (by omega)] at q2
      rw [zwo, if_neg q, if_neg q2, ziN (by omega)]
  refine b_M_worthOf_30 (fun q => absurd q (by rw [zlit 0, zlt (by omega) (by omega)]; omega)) (fun _ => b_M_worthOf_34 (p_M_row (b_M_worthOf_38 (fun _ => b_M_worthOf_45 (vp_in_nI (by omega) (by omega)) (fun _ => b_M_worthOf_56 (p_M_howOf hR hV (by omega) (b_M_worthOf_62 (fun _ => go) (fun q => b_M_worthOf_69 (fun _ => go) (fun q2 => ?_))))) (fun q => absurd (by rw [eD]; exact hm) q)) (fun q => absurd rfl q))))
  rw [zlit 0, zlt (by omega) (by omega)] at q
  rw [zeq (by omega) (by omega)] at q2
  omega
theorem p_wr_back {D : Nat} {C : zB} {told V : Int} (hD : D ≤ 4) (hR : zR σ (540 + 16 * D) C) (hV : zV C) (hv : σ.1 62 D = iI V) (ht : -1 ≤ told ∧ told ≤ 1000000) (hVr : -1 ≤ V ∧ V ≤ 1000000)
    (h : ∀ τ, τ.2 = σ.2 → (∀ a, a ≠ 56 → a ≠ 62 → τ.1 a = σ.1 a) → (∀ j, j ≠ 12 → τ.1 56 j = σ.1 56 j) → (∀ j, j ≠ D → τ.1 62 j = σ.1 62 j) → τ.1 62 D = iI (if zbt2 (decide (C 6 = 1)) told V = true then told else V) → τ.1 56 12 = (if zbt2 (decide (C 6 = 1)) told V = true ∧ D = 0 ∧ ¬ (500 : Int32) ≤ σ.1 61 0 then σ.1 61 0 else σ.1 56 12) → S_M_worthOf_269 (d + 7) Rf (nI n) (nI D) (iI told) 0 (nI (540 + 16 * D)) τ) :
    S_M_worthOf_30 (d + 7) Rf (nI n) (nI D) (iI told) 1 σ := by
  have h6 : C 6 ≤ 1 := hV.1.2.2.2.2.2.2.1
  have eD : Int32.toNatClampNeg (nI D) = D := zc_nI (by omega)
  have R6 : σ.1 57 (Int32.toNatClampNeg (nI (540 + 16 * D) + 6)) = nI (C 6) := hR.at 6 (by omega) (by omega)
  have fin : ∀ b : Bool, zbt2 (decide (C 6 = 1)) told V = b → S_M_worthOf_200 (d + 7) Rf (nI n) (nI D) (iI told) (nI (540 + 16 * D)) (zb b) σ := by
    intro b hb
    rw [hb] at h
    -- the value, behind the best move
    have val : ∀ s0, s0 = (if b = true ∧ D = 0 ∧ ¬ (500 : Int32) ≤ σ.1 61 0 then σ.1 61 0 else σ.1 56 12) → S_M_worthOf_237 (d + 7) Rf (nI n) (nI D) (iI told) (nI (540 + 16 * D)) (zb b) s0 σ := by
      intro s0 hs
      have last : ∀ x, x = iI (if b = true then told else V) → S_M_worthOf_260 (d + 7) Rf (nI n) (nI D) (iI told) (nI (540 + 16 * D)) x (nI D) (ab_pI σ.1 56 12 s0, σ.2) := fun x hx => by
        refine b_M_worthOf_260 (vp_in_nI (by omega) (by omega)) (b_M_worthOf_264 (fun _ => ?_) (fun q => absurd rfl q))
        rw [eD]
        refine h _ rfl (fun a x y => ?_) (fun j hj => ?_) (fun j hj => ?_) ?_ ?_
        all_goals dsimp only
        · rw [ab_pI_ne y, ab_pI_ne x]
        · rw [zp_n (by omega), zp_n (by omega)]
        · rw [zp_n (by omega), zp_n (by omega)]
        · rw [zp_s]; exact hx
        · rw [zp_n (by omega), zp_s]; exact hs
      refine b_M_worthOf_237 (fun q => b_M_worthOf_254 (vp_in_nI (by omega) (by omega)) (last _ ?_)) (fun q => b_M_worthOf_250 (last _ ?_))
      · rw [if_neg (by rw [zb_0.mp q]; decide), eD]
        dsimp only
        rw [zp_n (by omega)]; exact hv
      · rw [if_pos (nbt q)]
    have keep : ¬ (b = true ∧ D = 0 ∧ ¬ (500 : Int32) ≤ σ.1 61 0) → S_M_worthOf_233 (d + 7) Rf (nI n) (nI D) (iI told) (nI (540 + 16 * D)) (zb b) σ := fun q => b_M_worthOf_233 (val _ (by rw [if_neg q]))
    refine b_M_worthOf_200 (fun q => keep ?_) (fun q => b_M_worthOf_208 (fun q2 => b_M_worthOf_212 (fun q3 => keep ?_) (fun q3 => b_M_worthOf_224 (val _ ?_))) (fun q2 => keep ?_))
    · rw [zb_0.mp q]; intro z; cases z.1
    · intro z; exact z.2.2 q3
    · rw [zlit 0, zeq (by omega) (by omega)] at q2
      rw [if_pos ⟨nbt q, q2, q3⟩]
    · rw [zlit 0, zeq (by omega) (by omega)] at q2
      intro z; exact q2 z.2.1
  refine b_M_worthOf_30 (fun q => absurd q (by rw [zlit 0, zlt (by omega) (by omega)]; omega)) (fun _ => b_M_worthOf_34 (p_M_row (b_M_worthOf_38 (fun q => absurd q (by decide)) (fun _ => b_M_worthOf_148 (fun q => absurd q (by decide)) (fun _ => b_M_worthOf_153 (zin 6 (by omega)) (fun t => b_M_worthOf_167 (vp_in_nI (by omega) (by omega)) (fun q => b_M_worthOf_181 (fin false ?_)) (fun q => b_M_worthOf_177 (fin true ?_))) (fun t => b_M_worthOf_185 (vp_in_nI (by omega) (by omega)) (fun q => b_M_worthOf_199 (fin false ?_)) (fun q => b_M_worthOf_195 (fin true ?_)))))))) <;> rw [R6, zlit 1, zeq (by omega) (by omega)] at t <;> rw [eD, hv, fa_le, zi (by omega), zi (by omega)] at q
  · rw [decide_eq_true t]; simp [zbt2]; omega
  · rw [decide_eq_true t]; simp [zbt2]; omega
  · rw [decide_eq_false t]; simp [zbt2]; omega
  · rw [decide_eq_false t]; simp [zbt2]; omega
/-- down to the next board: by a move k, or by passing -/
theorem p_wr_down {D k : Nat} {C : zB} {x3 : Int32} (hD : D ≤ 3) (hR : zR σ (540 + 16 * D) C) (hV : zV C) (hk : k < 500) (hc : zcan C k = true) (h : ∀ χ, zFV (D + 1) D σ χ → zR χ (540 + 16 * (D + 1)) (zdo C k) → χ.1 61 (D + 1) = -2 → χ.1 61 D = nI k → χ.1 62 D = σ.1 62 D → χ.1 56 12 = σ.1 56 12 → S_M_worthOf_30 (d + 7) Rf (nI n) (nI (D + 1)) x3 0 χ) : S_M_worthOf_297 (d + 7) Rf (nI n) (nI D) x3 0 (nI (540 + 16 * D)) (nI k) σ := by
  have n4 := hV.1.2.2.1
  have eD : Int32.toNatClampNeg (nI D) = D := zc_nI (by omega)
  have eD1 : Int32.toNatClampNeg (nI (D + 1)) = D + 1 := zc_nI (by omega)
  refine b_M_worthOf_297 (fun _ => b_M_worthOf_318 (b_M_worthOf_319 (fun _ => b_M_worthOf_331 (fun _ => b_M_worthOf_347 (b_M_worthOf_349 (vp_in_nI (by omega) (by omega)) ?_)) (fun q => absurd rfl q)) (fun q => absurd (zneg1 (by omega)) q))) (fun q => absurd (zneg1 (by omega)) q)
  rw [nI_1, eD]
  refine p_M_row (b_M_worthOf_359 (p_M_copy (a := 540 + 16 * D) (b := 540 + 16 * (D + 1)) (n := 16) (by omega) (by omega) (by omega) (fun τ hc2 hF => b_M_worthOf_364 (fun _ => b_M_worthOf_382 ?_) (fun q => absurd rfl q))))
  have hR1 : zR τ (540 + 16 * (D + 1)) C := hR.cp n4 (fun j hj => by rw [hc2 j hj]; dsimp only; rw [zp_n (by omega)])
  rw [nI_1]
  refine p_M_row (b_M_worthOf_389 (p_M_does hR1 hV (by omega) hk hc (fun υ hυ hG => b_M_worthOf_394 (by rw [nI_1]; exact vp_in_nI (by omega) (by omega)) (b_M_worthOf_421 (b_M_worthOf_427 ?_)))))
  rw [nI_1, eD1]
  have w1 : zFV (D + 1) D σ (ab_pI σ.1 61 D (nI k), σ.2) := zFV.p61 (by omega)
  have hd2 : zdo C k 2 ≤ 4 := by unfold zdo; split; rw [zfox_lo (by omega)]; exact n4; rw [zgo_lo (by omega)]; exact n4
  refine h _ (((w1.tr (hF.fv (by omega))).tr (hG.fv (by omega))).tr (zFV.p61 (by omega))) (hυ.ext hd2 (fun j a b => ?_)) ?_ ?_ ?_ ?_
  all_goals dsimp only
  · rw [zp_n (by omega)]
  · rw [zp_s]
  · rw [zp_n (by omega), hG.2.1 61 (by omega), hF.2.1 61 (by omega)]; dsimp only; rw [zp_s]
  · rw [ab_pI_ne (by omega), hG.2.1 62 (by omega), hF.2.1 62 (by omega)]; dsimp only; rw [zp_n (by omega)]
  · rw [ab_pI_ne (by omega), hG.2.1 56 (by omega), hF.2.1 56 (by omega)]; dsimp only; rw [zp_n (by omega)]
theorem p_wr_pass {D : Nat} {C : zB} {x3 : Int32} (hD : D ≤ 3) (hR : zR σ (540 + 16 * D) C) (hV : zV C) (hm : σ.1 61 D = -1) (h : ∀ χ, zFV (D + 1) D σ χ → zR χ (540 + 16 * (D + 1)) (zend C) → χ.1 61 (D + 1) = -2 → χ.1 61 D = 500 → χ.1 62 D = σ.1 62 D → χ.1 56 12 = σ.1 56 12 → S_M_worthOf_30 (d + 7) Rf (nI n) (nI (D + 1)) x3 0 χ) : S_M_worthOf_297 (d + 7) Rf (nI n) (nI D) x3 0 (nI (540 + 16 * D)) (-1) σ := by
  have n4 := hV.1.2.2.1
  have h6 : C 6 ≤ 1 := hV.1.2.2.2.2.2.2.1
  have eD : Int32.toNatClampNeg (nI D) = D := zc_nI (by omega)
  have eD1 : Int32.toNatClampNeg (nI (D + 1)) = D + 1 := zc_nI (by omega)
  refine b_M_worthOf_297 (fun q => absurd q (by decide)) (fun _ => b_M_worthOf_304 (vp_in_nI (by omega) (by omega)) (fun _ => b_M_worthOf_314 (b_M_worthOf_319 (fun q => absurd q (by decide)) (fun _ => b_M_worthOf_326 (fun q => absurd q (by decide)) (fun _ => b_M_worthOf_331 (fun q => absurd q (by decide)) (fun _ => b_M_worthOf_341 (b_M_worthOf_349 (vp_in_nI (by omega) (by omega)) ?_)))))) (fun q => absurd (by rw [eD]; exact hm) q))
  rw [nI_1, eD]
  refine p_M_row (b_M_worthOf_359 (p_M_copy (a := 540 + 16 * D) (b := 540 + 16 * (D + 1)) (n := 16) (by omega) (by omega) (by omega) (fun τ hc2 hF => b_M_worthOf_364 (fun q => absurd q (by decide)) (fun _ => b_M_worthOf_369 ?_))))
  have hR1 : zR τ (540 + 16 * (D + 1)) C := hR.cp n4 (fun j hj => by rw [hc2 j hj]; dsimp only; rw [zp_n (by omega)])
  rw [nI_1]
  refine p_M_row (b_M_worthOf_376 (p_M_ends hR1 n4 h6 (by omega) (fun υ hυ hG => b_M_worthOf_379 (b_M_worthOf_394 (by rw [nI_1]; exact vp_in_nI (by omega) (by omega)) (b_M_worthOf_421 (b_M_worthOf_427 ?_))))))
  rw [nI_1, eD1]
  have w1 : zFV (D + 1) D σ (ab_pI σ.1 61 D 500, σ.2) := zFV.p61 (by omega)
  refine h _ (((w1.tr (hF.fv (by omega))).tr (hG.fv (by omega))).tr (zFV.p61 (by omega))) (hυ.ext (by rw [zend_lo (by omega)]; exact n4) (fun j a b => ?_)) ?_ ?_ ?_ ?_
  all_goals dsimp only
  · rw [zp_n (by omega)]
  · rw [zp_s]
  · rw [zp_n (by omega), hG.2.1 61 (by omega), hF.2.1 61 (by omega)]; dsimp only; rw [zp_s]
  · rw [ab_pI_ne (by omega), hG.2.1 62 (by omega), hF.2.1 62 (by omega)]; dsimp only; rw [zp_n (by omega)]
  · rw [ab_pI_ne (by omega), hG.2.1 56 (by omega), hF.2.1 56 (by omega)]; dsimp only; rw [zp_n (by omega)]
theorem p_M_worthR (hn : n ≤ 4) : ∀ (r D : Nat), D + r = n → ∀ (C : zB) (x3 : Int32) (σ : ab_S), zV C → C 7 + r < 100000 → zR σ (540 + 16 * D) C → σ.1 61 D = -2 → (∀ τ, zFV (D + 1) D σ τ → τ.1 56 12 = (if D = 0 then zbm r C (σ.1 56 12) else σ.1 56 12) → S_M_worthOf_30 (d + 7) Rf (nI n) (zc D) (iI (zwo r C)) 1 τ) → S_M_worthOf_30 (d + 7) Rf (nI n) (nI D) x3 0 σ
  | 0, D, hD, C, x3, σ, hV, h7, hR, hm, h => p_wr_leaf (by omega) hn hR hV hm (Or.inr (by omega)) (h σ zFV.rf (by split <;> rfl))
  | r + 1, D, hD, C, x3, σ, hV, h7, hR, hm, h => by
    have hl := zhow_lt (B := C)
    have n4 := hV.1.2.2.1
    have h6 : C 6 ≤ 1 := hV.1.2.2.2.2.2.2.1
    by_cases hw : zhow C = 0
    · have rng : ∀ k, zcan C k = true → 0 ≤ zwo r (zdo C k) ∧ zwo r (zdo C k) ≤ 99 := fun k hk => zwo_rng r _ (zdo_V hV hk (by omega)) (by rw [zdo_7]; omega)
      have r5 := zva_rng (fx := decide (C 6 = 1)) (p := zcan C) (f := fun k => zwo r (zdo C k)) rng 500
      have hwv : zwo (r + 1) C = if zct (zcan C) 500 = 0 then zwo r (zend C) else (zva (decide (C 6 = 1)) (zcan C) (fun k => zwo r (zdo C k)) 500).1 := by
        rw [zwo, if_neg (by omega), if_neg (by omega)]
      have hbm : ∀ x, zbm (r + 1) C x = if (zva (decide (C 6 = 1)) (zcan C) (fun k => zwo r (zdo C k)) 500).2 = -1 then x else iI (zva (decide (C 6 = 1)) (zcan C) (fun k => zwo r (zdo C k)) 500).2 := fun x => zbm_s hw (fun z => by have := (r5.2 z).2; omega) (fun z => by rw [r5.1 z])
      have eD : Int32.toNatClampNeg (nI D) = D := zc_nI (by omega)
      have R6 : σ.1 57 (Int32.toNatClampNeg (nI (540 + 16 * D) + 6)) = nI (C 6) := hR.at 6 (by omega) (by omega)
      have up : ∀ (χ : ab_S) y, S_M_worthOf_30 (d + 7) Rf (nI n) (nI D) y 1 χ → S_M_worthOf_30 (d + 7) Rf (nI n) (zc (D + 1)) y 1 χ := fun χ y q => by rw [zc_s]; exact q
      have D1 : ¬ D + 1 = 0 := by omega
      -- no move is left
      have done : ∀ (τ : ab_S) (v : Int) (y : Int32), zFV (D + 1) D σ τ → τ.1 62 D = iI v → zwo (r + 1) C = v → τ.1 56 12 = (if D = 0 then zbm (r + 1) C (σ.1 56 12) else σ.1 56 12) → (τ.1 61 D ≠ -1) → S_M_worthOf_297 (d + 7) Rf (nI n) (nI D) y 0 (nI (540 + 16 * D)) (-1) τ := fun τ v y hF hv e hb hm1 => by
        refine b_M_worthOf_297 (fun q => absurd q (by decide)) (fun _ => b_M_worthOf_304 (vp_in_nI (by omega) (by omega)) (fun q => absurd (by rw [eD] at q; exact q) hm1) (fun _ => b_M_worthOf_318 (b_M_worthOf_319 (fun q => absurd q (by decide)) (fun _ => b_M_worthOf_326 (fun _ => b_M_worthOf_408 (vp_in_nI (by omega) (by omega)) (b_M_worthOf_421 (b_M_worthOf_427 ?_))) (fun q => absurd rfl q)))))
        rw [zlow, eD, hv, ← e]
        exact h τ hF hb
      have key : ∀ m k (τ : ab_S) (y : Int32), 500 - k ≤ m → k ≤ 500 → zFV (D + 1) D σ τ → τ.1 61 D = zc k → τ.1 62 D = iI (zva (decide (C 6 = 1)) (zcan C) (fun k => zwo r (zdo C k)) k).1 → (k = 0 ∨ 0 < zct (zcan C) k) → τ.1 56 12 = (if D = 0 then (if (zva (decide (C 6 = 1)) (zcan C) (fun k => zwo r (zdo C k)) k).2 = -1 then σ.1 56 12 else iI (zva (decide (C 6 = 1)) (zcan C) (fun k => zwo r (zdo C k)) k).2) else σ.1 56 12) → S_M_worthOf_269 (d + 7) Rf (nI n) (nI D) y 0 (nI (540 + 16 * D)) τ := by
        intro m
        induction m with
        | zero =>
          intro k τ y q1 q2 hF hmv hvl hk0 hbst
          have : k = 500 := by omega
          subst this
          have hRτ := hR.fv n4 hF (by omega)
          refine b_M_worthOf_269 (vp_in_nI (by omega) (by omega)) (fun _ => b_M_worthOf_285 (vp_in_nI (by omega) (by omega)) ?_) (fun q => absurd ?_ q)
          · rw [eD, hmv]
            refine p_M_nextMove (b := 500) hRτ hV (by omega) (by rw [zc_p (by omega), nI_1]) (by omega) ?_
            have e5 : znx (zcan C) 500 = 500 := by
              have a := znx_ge (p := zcan C) (b := 500) (by omega)
              have b := znx_le (zcan C) 500
              omega
            rw [e5, if_neg (by omega)]
            rcases hk0 with z | z
            · omega
            · rw [if_neg (by omega)] at hwv
              exact done τ _ y hF hvl hwv (by rw [hbst]; by_cases z : D = 0; rw [if_pos z, if_pos z, hbm]; rw [if_neg z, if_neg z]) (by rw [hmv]; decide)
          · rw [eD, hmv]; decide
        | succ m ih =>
          intro k τ y q1 q2 hF hmv hvl hk0 hbst
          by_cases qk : k = 500
          · exact ih k τ y (by omega) q2 hF hmv hvl hk0 hbst
          have hRτ := hR.fv n4 hF (by omega)
          have hk1 : zc k + 1 = nI k := by unfold zc; exact Int32.sub_add_cancel _ _
          have kle := znx_le (zcan C) k
          have kge := znx_ge (p := zcan C) (b := k) q2
          have vs : zva (decide (C 6 = 1)) (zcan C) (fun k => zwo r (zdo C k)) (znx (zcan C) k) = zva (decide (C 6 = 1)) (zcan C) (fun k => zwo r (zdo C k)) k := zva_same kge (fun j a b => znx_no a b)
          have cs : zct (zcan C) (znx (zcan C) k) = zct (zcan C) k := zct_nx q2
          refine b_M_worthOf_269 (vp_in_nI (by omega) (by omega)) (fun _ => b_M_worthOf_285 (vp_in_nI (by omega) (by omega)) ?_) (fun q => absurd ?_ q)
          · rw [eD, hmv]
            refine p_M_nextMove (b := k) hRτ hV (by omega) hk1 q2 ?_
            by_cases e5 : znx (zcan C) k < 500
            · rw [if_pos e5]
              obtain ⟨-, hp⟩ := znx_yes e5
              refine p_wr_down (by omega) hRτ hV e5 hp (fun χ hG hR1 hm1 hmD hvD hbD => ?_)
              refine p_M_worthR hn r (D + 1) (by omega) (zdo C (znx (zcan C) k)) y χ (zdo_V hV hp (by omega)) (by rw [zdo_7]; omega) hR1 hm1 (fun φ hφ hbφ => up φ _ ?_)
              have hF2 : zFV (D + 1) D σ φ := (hF.tr hG).tr (hφ.up (by omega) (by omega))
              have hRφ := hR.fv n4 hF2 (by omega)
              have vφ : φ.1 62 D = iI (zva (decide (C 6 = 1)) (zcan C) (fun k => zwo r (zdo C k)) k).1 := by rw [(hφ.2.2.2.1 D (by omega)).2, hvD, hvl]
              have mφ : φ.1 61 D = nI (znx (zcan C) k) := by rw [(hφ.2.2.2.1 D (by omega)).1, hmD]
              have bφ : φ.1 56 12 = τ.1 56 12 := by rw [hbφ, if_neg D1, hbD]
              have fr := rng _ hp
              have rk := zva_rng (fx := decide (C 6 = 1)) (p := zcan C) (f := fun k => zwo r (zdo C k)) rng k
              have vr : -1 ≤ (zva (decide (C 6 = 1)) (zcan C) (fun k => zwo r (zdo C k)) k).1 ∧ (zva (decide (C 6 = 1)) (zcan C) (fun k => zwo r (zdo C k)) k).1 ≤ 1000000 := by
                by_cases z : zct (zcan C) k = 0
                · rw [rk.1 z]; split <;> simp
                · have := (rk.2 (by omega)).1; omega
              refine p_wr_back (by omega) hRφ hV vφ (by omega) vr (fun ψ w1 w2 w3 w4 w5 w6 => ?_)
              have hF3 : zFV (D + 1) D φ ψ := ⟨w1, fun a x _ _ z => w2 a x z, fun j _ => by rw [w2 57 (by omega) (by omega)], fun j hj => ⟨by rw [w2 61 (by omega) (by omega)], w4 j (by omega)⟩, w3⟩
              have ev : zva (decide (C 6 = 1)) (zcan C) (fun k => zwo r (zdo C k)) (znx (zcan C) k + 1) = if zbt2 (decide (C 6 = 1)) (zwo r (zdo C (znx (zcan C) k))) (zva (decide (C 6 = 1)) (zcan C) (fun k => zwo r (zdo C k)) k).1 = true then (zwo r (zdo C (znx (zcan C) k)), ((znx (zcan C) k : Nat) : Int)) else zva (decide (C 6 = 1)) (zcan C) (fun k => zwo r (zdo C k)) k := by
                rw [zva, hp, Bool.true_and, vs]
              refine ih (znx (zcan C) k + 1) ψ _ (by omega) (by omega) (hF2.tr hF3) ?_ ?_ (Or.inr (by rw [zct_s hp]; omega)) ?_
              · rw [w2 61 (by omega) (by omega), mφ, zc_s]
              · rw [w5, ev]
                split <;> rfl
              · rw [w6, ev, bφ, hbst]
                by_cases b : zbt2 (decide (C 6 = 1)) (zwo r (zdo C (znx (zcan C) k))) (zva (decide (C 6 = 1)) (zcan C) (fun k => zwo r (zdo C k)) k).1 = true
                · rw [if_pos b]
                  by_cases d0 : D = 0
                  · subst d0
                    have n5 : ¬ (500 : Int32) ≤ φ.1 61 0 := by rw [mφ, zlit 500, zle (by omega) (by omega)]; omega
                    rw [if_pos ⟨b, rfl, n5⟩, mφ, if_pos rfl]
                    dsimp only
                    rw [if_neg (by omega), ziN (by omega)]
                  · rw [if_neg (fun z => d0 z.2.1), if_neg d0, if_neg d0]
                · rw [if_neg b, if_neg (fun z => b z.1)]
            · rw [if_neg e5]
              have e500 : znx (zcan C) k = 500 := by omega
              rw [e500] at vs cs
              by_cases k0 : k = 0
              · subst k0
                have c0 : zct (zcan C) 500 = 0 := by rw [cs]; rfl
                rw [if_pos c0] at hwv
                have hb0 : τ.1 56 12 = σ.1 56 12 := by
                  rw [hbst]
                  have : (zva (decide (C 6 = 1)) (zcan C) (fun k => zwo r (zdo C k)) 0).2 = -1 := rfl
                  rw [if_pos this]; split <;> rfl
                refine p_wr_pass (by omega) hRτ hV (by rw [hmv]; decide) (fun χ hG hR1 hm1 hmD hvD hbD => ?_)
                refine p_M_worthR hn r (D + 1) (by omega) (zend C) y χ (zV_end hV (by omega)) (by rw [zend_7]; omega) hR1 hm1 (fun φ hφ hbφ => up φ _ ?_)
                have hF2 : zFV (D + 1) D σ φ := (hF.tr hG).tr (hφ.up (by omega) (by omega))
                have hRφ := hR.fv n4 hF2 (by omega)
                have vφ : φ.1 62 D = iI (if decide (C 6 = 1) = true then -1 else 1000000) := by rw [(hφ.2.2.2.1 D (by omega)).2, hvD, hvl]; rfl
                have mφ : φ.1 61 D = 500 := by rw [(hφ.2.2.2.1 D (by omega)).1, hmD]
                have bφ : φ.1 56 12 = σ.1 56 12 := by rw [hbφ, if_neg D1, hbD, hb0]
                have fr := zwo_rng r (zend C) (zV_end hV (by omega)) (by rw [zend_7]; omega)
                refine p_wr_back (by omega) hRφ hV vφ (by omega) (by split <;> omega) (fun ψ w1 w2 w3 w4 w5 w6 => ?_)
                have hF3 : zFV (D + 1) D φ ψ := ⟨w1, fun a x _ _ z => w2 a x z, fun j _ => by rw [w2 57 (by omega) (by omega)], fun j hj => ⟨by rw [w2 61 (by omega) (by omega)], w4 j (by omega)⟩, w3⟩
                have bt : zbt2 (decide (C 6 = 1)) (zwo r (zend C)) (if decide (C 6 = 1) = true then -1 else 1000000) = true := by
                  unfold zbt2; split <;> simp <;> omega
                rw [if_pos bt] at w5
                have mψ : ψ.1 61 D = 500 := by rw [w2 61 (by omega) (by omega), mφ]
                refine b_M_worthOf_269 (vp_in_nI (by omega) (by omega)) (fun q => absurd q (by rw [eD, mψ]; decide)) (fun _ => b_M_worthOf_281 (done ψ _ _ (hF2.tr hF3) w5 hwv ?_ (by rw [mψ]; decide)))
                rw [w6, bφ]
                have nb : ¬ (zbt2 (decide (C 6 = 1)) (zwo r (zend C)) (if decide (C 6 = 1) = true then -1 else 1000000) = true ∧ D = 0 ∧ ¬ (500 : Int32) ≤ φ.1 61 0) := fun z => by
                  have := z.2.2
                  rw [z.2.1] at mφ
                  rw [mφ] at this
                  exact this (by decide)
                rw [if_neg nb, hbm, r5.1 c0]
                split <;> rfl
              · rcases hk0 with z | z
                · exact absurd z k0
                · rw [if_neg (by omega), vs] at hwv
                  refine done τ _ y hF hvl hwv ?_ (by rw [hmv, zc_p k0]; intro q; rw [fa_eq, zn (by omega), ztm] at q; omega)
                  rw [hbst]
                  by_cases d0 : D = 0
                  · rw [if_pos d0, if_pos d0, hbm, vs]
                  · rw [if_neg d0, if_neg d0]
          · rw [eD, hmv, fa_lt, zc_toInt (by omega), show (500 : Int32).toInt = 500 from by decide]; omega
      -- the first visit
      have first : ∀ x, x = iI (if decide (C 6 = 1) = true then -1 else 1000000) → S_M_worthOf_144 (d + 7) Rf (nI n) (nI D) x3 0 (nI (540 + 16 * D)) x (nI D) (ab_pI σ.1 61 D (-1), σ.2) := fun x hx => by
        refine b_M_worthOf_144 (vp_in_nI (by omega) (by omega)) (b_M_worthOf_145 (b_M_worthOf_264 (fun _ => ?_) (fun q => absurd rfl q)))
        rw [eD]
        have w1 : zFV (D + 1) D σ (ab_pI σ.1 61 D (-1), σ.2) := zFV.p61 (by omega)
        refine key 500 0 _ _ (by omega) (by omega) (w1.tr (zFV.p62 (by omega))) ?_ ?_ (Or.inl rfl) ?_
        all_goals dsimp only
        · rw [zp_n (by omega), zp_s]; decide
        · rw [zp_s, hx]; rfl
        · rw [zp_n (by omega), zp_n (by omega)]
          have : (zva (decide (C 6 = 1)) (zcan C) (fun k => zwo r (zdo C k)) 0).2 = -1 := rfl
          rw [if_pos this]; split <;> rfl
      refine b_M_worthOf_30 (fun q => absurd q (by rw [zlit 0, zlt (by omega) (by omega)]; omega)) (fun _ => b_M_worthOf_34 (p_M_row (b_M_worthOf_38 (fun _ => b_M_worthOf_45 (vp_in_nI (by omega) (by omega)) (fun _ => b_M_worthOf_56 (p_M_howOf hR hV (by omega) (b_M_worthOf_62 (fun q => absurd q (by rw [hw]; decide)) (fun _ => b_M_worthOf_69 (fun q => absurd q (by rw [zeq (by omega) (by omega)]; omega)) (fun _ => b_M_worthOf_112 (vp_in_nI (by omega) (by omega)) (zin 6 (by omega)) (fun t => b_M_worthOf_138 ?_) (fun t => b_M_worthOf_142 ?_)))))) (fun q => absurd (by rw [eD]; exact hm) q)) (fun q => absurd rfl q)))) <;> rw [ab_pI_ne (by omega), R6, zlit 1, zeq (by omega) (by omega)] at t <;> rw [eD]
      · exact first _ (by rw [if_pos (by simpa using t)]; decide)
      · exact first _ (by rw [if_neg (by simpa using t)]; decide)
    · refine p_wr_leaf (by omega) hn hR hV hm (Or.inl (by omega)) ?_
      have e : zwo 0 C = zwo (r + 1) C := by
        rw [zwo, zwo]
        rcases (show zhow C = 1 ∨ zhow C = 2 by omega) with z | z
        · rw [if_neg (show ¬ zhow C = 2 by omega), if_neg (show ¬ zhow C = 2 by omega), if_pos z, if_pos z]
        · rw [if_pos z, if_pos z]
      rw [e]
      refine h σ zFV.rf ?_
      have : zbm (r + 1) C (σ.1 56 12) = σ.1 56 12 := by
        unfold zbm; dsimp only; rw [if_neg (show ¬ (zhow C = 0 ∧ 0 < zct (zcan C) 500) from fun z => hw z.1)]
      rw [this]
      split <;> rfl
theorem p_M_worthOf {S : zS} (hn : n ≤ 4) (hI : zIM σ S) (hV : zSV S) (h : ∀ τ, zIM τ S → zKM σ τ → τ.1 56 12 = zbm n S.1.1 (-1) → Rf (iI (zwo n S.1.1)) τ) : CA (d + 8) 182 [.ref 56, .int (nI n)] σ (ab_rI Rf) := by
  have h7 := hV.1.2.1
  have hB := hI.1.1
  have n4 := hV.1.1.1.2.2.1
  refine e_M_worthOf (b_M_worthOf_0 (p_M_copy (a := 0) (b := 540) (n := 16) (by omega) (by omega) (by omega) (fun τ hc hF => b_M_worthOf_10 ?_)))
  have hB0 : zR τ 540 S.1.1 := hB.cp n4 (fun j hj => hc j hj)
  refine p_M_worthR hn n 0 (by omega) S.1.1 0 _ hV.1.1 (by omega) (hB0.ext n4 (fun j a b => ?_)) ?_ (fun υ hG hb => b_M_worthOf_30 (fun _ => b_M_worthOf_430 ?_) (fun c => absurd (by decide) c))
  · dsimp only; rw [zp_n (by omega), zp_n (by omega)]
  · dsimp only; rw [zp_s]
  · rw [if_pos rfl] at hb
    dsimp only at hb
    rw [zp_n (by omega), zp_s] at hb
    have e57 : ∀ j, j < 405 → υ.1 57 j = σ.1 57 j := fun j hj => by
      rw [hG.2.2.1 j (by omega)]; dsimp only; rw [zp_n (by omega), zp_n (by omega), hF.2.2 j (by omega)]
    have ea : ∀ a, a ≠ 56 → a ≠ 57 → a ≠ 61 → a ≠ 62 → υ.1 a = σ.1 a := fun a x y z w => by
      rw [hG.2.1 a x y z w]; dsimp only; rw [ab_pI_ne z, ab_pI_ne x, hF.2.1 a y]
    have e2 : υ.2 = σ.2 := by rw [hG.1]; exact hF.1
    refine h υ (hI.scr hV e57 (fun a ha => ea a (by omega) (by omega) (by omega) (by omega)) ?_ (by rw [e2]) (by rw [e2])) (fun a ha => ⟨ea a (by omega) (by omega) (by omega) (by omega), by rw [e2]⟩) hb
    rw [hG.2.2.2.2 3 (by omega)]; dsimp only; rw [zp_n (by omega), zp_n (by omega), hF.2.1 56 (by omega)]
theorem p_M_worth {S : zS} {x : Int32} (hI : zIM σ S) (hV : zSV S) (h : ∀ τ, zIM τ (zO_worth S x).2 → zKM σ τ → Rf (zO_worth S x).1 τ) : CA (d + 9) 183 [.ref 56, .int x] σ (ab_rI Rf) := by
  refine e_M_worth (b_M_worth_0 (p_M_within (lo := 0) (hi := 4) (by decide) (by decide) (b_M_worth_9 (fun q => ?_) (fun q => b_M_worth_12 ?_))))
  · rw [zO_worth, if_neg (by rw [zb_0.mp q]; decide)] at h
    exact b_M_worth_20 (p_M_bad hI (fun τ a b => b_M_worth_26 (h τ a b)))
  · rw [zO_worth, if_pos (nbt q)] at h
    obtain ⟨n, hn, rfl⟩ := zw_n (m := 4) (nbt q)
    rw [zc_nI (by omega)] at h
    exact p_M_worthOf hn hI hV (fun τ a b _ => b_M_worth_17 (b_M_worth_26 (h τ a b)))
theorem p_M_best {S : zS} {x : Int32} (hI : zIM σ S) (hV : zSV S) (h : ∀ τ, zIM τ (zO_best S x).2 → zKM σ τ → Rf (zO_best S x).1 τ) : CA (d + 9) 184 [.ref 56, .int x] σ (ab_rI Rf) := by
  have h7 := hV.1.2.1
  refine e_M_best (b_M_best_0 (p_M_within (lo := 1) (hi := 4) (by decide) (by decide) (b_M_best_9 (fun q => ?_) (fun q => b_M_best_19 ?_))))
  · rw [zO_best, if_neg (by rw [zb_0.mp q]; decide)] at h
    exact b_M_best_12 (p_M_bad hI (fun τ a b => b_M_best_18 (h τ a b)))
  · rw [zO_best, if_pos (nbt q)] at h
    obtain ⟨n, hn, rfl⟩ := zw_14 (nbt q)
    rw [zc_nI (by omega)] at h
    have hr := zwo_rng n S.1.1 hV.1.1 (by omega)
    refine p_M_worthOf hn.2 hI hV (fun τ a b e => b_M_best_24 (fun _ => b_M_best_33 (b_M_best_37 ?_)) (fun c => absurd ?_ c))
    · rw [e]; exact h τ a b
    · rw [fa_le, zt0, zi (by omega)]; omega
end WR
