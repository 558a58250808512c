/-! field, thicket, fox, goose: the walks -/
section SO
variable {d : Nat} {S : zS} {σ : ab_S} {Rf : Int32 → ab_S → Prop}
theorem zsh1 : ab_sh 1 = (0, 1) := rfl
theorem zsh2 : ab_sh 2 = (0, 0) := rfl
theorem nbt {b : Bool} (h : ¬ zb b = 0) : b = true := by cases b; exact absurd rfl h; rfl
theorem p_F_isSide {x : Int32} (h : Rf (zb (zw x 3 5)) σ) : CA (d + 2) 101 [.int x] σ (ab_rI Rf) :=
  e_F_isSide (b_F_isSide_0 (p_F_within (by decide) (by decide) (b_F_isSide_6 (zb_nar _) h)))
theorem p_F_isKind {x : Int32} (h : Rf (zb (zw x 0 5)) σ) : CA (d + 2) 102 [.int x] σ (ab_rI Rf) :=
  e_F_isKind (b_F_isKind_0 (p_F_within (by decide) (by decide) (b_F_isKind_6 (zb_nar _) h)))
theorem p_F_field {x y : Int32} (hI : zIF σ S) (h : ∀ τ, zIF τ (zO_field S x y).2 → zKF σ τ → Rf (zO_field S x y).1 τ) : CA (d + 4) 68 [.ref 0, .int x, .int y] σ (ab_rI Rf) := by
  have no : (zw x 3 5 && zw y 3 5) = false → S_F_field_14 (d + 3) Rf σ := fun q => by
    rw [zO_field, if_neg (by rw [q]; decide)] at h
    exact b_F_field_14 (p_F_bad hI (fun τ a b => b_F_field_20 (h τ a b)))
  refine e_F_field (b_F_field_0 (p_F_isSide (b_F_field_4 (fun q => no ?_) (fun q => b_F_field_7 (p_F_isSide (b_F_field_11 (fun q2 => no ?_) (fun q2 => b_F_field_21 ?_)))))))
  · rw [zb_0.mp q]; rfl
  · rw [zb_0.mp q2]; simp
  · have q := nbt q
    have q2 := nbt q2
    rw [zO_field, if_pos (by rw [q, q2]; rfl)] at h
    obtain ⟨w, hw, rfl, e1⟩ := zw_35 q
    obtain ⟨hh, hhh, rfl, e2⟩ := zw_35 q2
    rw [e1, e2] at h
    refine p_G_begin zsh1 hw hhh (fun τ hτ hF => b_F_field_41 ?_)
    rw [show σ.1 2 5 = nI (S.1.1 2) from hI.1.1.2.2.2.2.2.1]
    exact h τ (hI.game (hτ _ _ _) hF) (hF.kf (by simp))
theorem p_M_field {x y : Int32} (hI : zIM σ S) (hV : zSV S) (h : ∀ τ, zIM τ (zO_field S x y).2 → zKM σ τ → Rf (zO_field S x y).1 τ) : CA (d + 4) 147 [.ref 56, .int x, .int y] σ (ab_rI Rf) := by
  have no : (zw x 3 5 && zw y 3 5) = false → S_M_field_28 (d + 3) Rf σ := fun q => by
    rw [zO_field, if_neg (by rw [q]; decide)] at h
    exact b_M_field_28 (p_M_bad hI (fun τ a b => b_M_field_34 (h τ a b)))
  refine e_M_field (b_M_field_0 (p_M_within (lo := 3) (hi := 5) (by decide) (by decide) (b_M_field_11 (fun q => no ?_) (fun q => b_M_field_14 (p_M_within (lo := 3) (hi := 5) (by decide) (by decide) (b_M_field_25 (fun q2 => no ?_) (fun q2 => b_M_field_35 ?_)))))))
  · rw [zb_0.mp q]; rfl
  · rw [zb_0.mp q2]; simp
  · have q := nbt q
    have q2 := nbt q2
    rw [zO_field, if_pos (by rw [q, q2]; rfl)] at h
    obtain ⟨w, hw, rfl, e1⟩ := zw_35 q
    obtain ⟨hh, hhh, rfl, e2⟩ := zw_35 q2
    rw [e1, e2] at h
    refine p_M_begins (r := 0) (by omega) hw hhh (fun τ hτ hF => b_M_field_49 ?_)
    rw [show σ.1 57 2 = nI (S.1.1 2) from hI.1.1.1 2 (by omega)]
    exact h τ (hI.game hV (hτ _ _ _) hF) hF.km
theorem p_F_thicket {x : Int32} (hI : zIF σ S) (hV : zSV S) (h : ∀ τ, zIF τ (zO_thicket S x).2 → zKF σ τ → Rf (zO_thicket S x).1 τ) : CA (d + 5) 69 [.ref 0, .int x] σ (ab_rI Rf) := by
  have hB : zH σ 2 S.1.1 := hI.1.1
  have h25 := hV.1.1.n
  refine e_F_thicket (b_F_thicket_0 (p_B_hasCell zsh2 hB hV.1.1 (b_F_thicket_13 (fun q => ?_) (fun q => b_F_thicket_23 ?_))))
  · have q : zic S.1.1 x = false := zb_0.mp q
    rw [zO_thicket, if_neg (by rw [q]; decide)] at h
    exact b_F_thicket_16 (p_F_bad hI (fun τ a b => b_F_thicket_22 (h τ a b)))
  · have q : zic S.1.1 x = true := nbt q
    rw [zO_thicket, if_pos q] at h
    obtain ⟨c, hc, rfl, e⟩ := zic_n hV.1.1 q
    rw [e] at h
    refine p_B_isFree zsh2 hB hV.1.1 (by omega) (b_F_thicket_28 (fun q2 => ?_) (fun q2 => b_F_thicket_38 ?_))
    · rw [if_neg (by rw [zb_0.mp q2]; decide)] at h
      exact b_F_thicket_31 (p_F_no hI (fun τ a b => b_F_thicket_37 (h τ a b)))
    · have q2 := nbt q2
      rw [if_pos q2] at h
      have hv := (zV_thicket hV.1.1 (by omega) q2).1.2.2.2.1
      refine p_G_plant zsh1 hI.1 (by omega) (fun τ hτ hF => b_F_thicket_46 ?_)
      rw [show τ.1 2 2 = nI (S.1.1 3 ||| 2 ^ c) from hτ.1.2.2.1]
      exact p_J_bitCount hv (b_F_thicket_53 (h τ (hI.game hτ hF) (hF.kf (by simp))))
theorem p_M_thicket {x : Int32} (hI : zIM σ S) (hV : zSV S) (h : ∀ τ, zIM τ (zO_thicket S x).2 → zKM σ τ → Rf (zO_thicket S x).1 τ) : CA (d + 5) 148 [.ref 56, .int x] σ (ab_rI Rf) := by
  have hB := hI.1.1
  have h25 := hV.1.1.n
  refine e_M_thicket (b_M_thicket_0 (p_M_isCell (r := 0) hB hV.1.1 (by omega) (b_M_thicket_6 (fun q => ?_) (fun q => b_M_thicket_16 ?_))))
  · have q : zic S.1.1 x = false := zb_0.mp q
    rw [zO_thicket, if_neg (by rw [q]; decide)] at h
    exact b_M_thicket_9 (p_M_bad hI (fun τ a b => b_M_thicket_15 (h τ a b)))
  · have q : zic S.1.1 x = true := nbt q
    rw [zO_thicket, if_pos q] at h
    obtain ⟨c, hc, rfl, e⟩ := zic_n hV.1.1 q
    rw [e] at h
    refine p_M_isFree (r := 0) hB hV.1.1 (by omega) (by omega) (b_M_thicket_22 (fun q2 => ?_) (fun q2 => b_M_thicket_30 ?_))
    · rw [if_neg (by rw [zb_0.mp q2]; decide)] at h
      exact b_M_thicket_25 (p_M_no hI (fun τ a b => b_M_thicket_29 (h τ a b)))
    · have q2 := nbt q2
      rw [if_pos q2] at h
      have hv := (zV_thicket hV.1.1 (by omega) q2).1.2.2.2.1
      rw [show σ.1 57 3 = nI (S.1.1 3) from hB.1 3 (by omega), zshl _ (by omega), fa_or]
      have hB1 : zR (ab_pI σ.1 57 3 (nI (S.1.1 3 ||| 2 ^ c)), σ.2) 0 (zup S.1.1 3 (S.1.1 3 ||| 2 ^ c)) := hB.put (j := 3) hV.1.1.1.2.2.1 (by omega) (by omega)
      have hF : zFR 0 135 σ (ab_pI (ab_pI σ.1 57 3 (nI (S.1.1 3 ||| 2 ^ c))) 57 78 0, σ.2) := (zFR.put (by omega) (by omega)).tr (zFR.put (σ := (ab_pI σ.1 57 3 (nI (S.1.1 3 ||| 2 ^ c)), σ.2)) (by omega) (by omega))
      rw [zp_n (by omega), zp_s]
      refine p_M_ones (Nat.lt_trans hv (by omega)) (b_M_thicket_59 (h _ (hI.game hV (hI.1.new hV.1 (hB1.ext hV.1.1.1.2.2.1 (fun j a b => ?_)) ?_ (fun j hj => ?_)) hF) hF.km))
      all_goals dsimp only
      · rw [zp_n (by omega)]
      · rw [zp_s]; rfl
      · rw [zp_n (by omega), zp_n (by omega)]
theorem p_F_fox {x y : Int32} (hI : zIF σ S) (hV : zSV S) (h : ∀ τ, zIF τ (zO_fox S x y).2 → zKF σ τ → Rf (zO_fox S x y).1 τ) : CA (d + 5) 70 [.ref 0, .int x, .int y] σ (ab_rI Rf) := by
  have hB : zH σ 2 S.1.1 := hI.1.1
  have h25 := hV.1.1.n
  have no : (zw x 0 5 && zic S.1.1 y) = false → S_F_fox_23 (d + 4) Rf σ := fun q => by
    rw [zO_fox, if_neg (by rw [q]; decide)] at h
    exact b_F_fox_23 (p_F_bad hI (fun τ a b => b_F_fox_29 (h τ a b)))
  refine e_F_fox (b_F_fox_0 (p_F_isKind (b_F_fox_12 (fun q => no ?_) (fun q => b_F_fox_15 (p_B_hasCell zsh2 hB hV.1.1 (b_F_fox_20 (fun q2 => no ?_) (fun q2 => b_F_fox_30 ?_)))))))
  · rw [zb_0.mp q]; rfl
  · have q2 : zic S.1.1 y = false := zb_0.mp q2
    rw [q2]; simp
  · have q := nbt q
    have q2 : zic S.1.1 y = true := nbt q2
    rw [zO_fox, if_pos (by rw [q, q2]; rfl)] at h
    obtain ⟨k, hk, rfl, e1⟩ := zw_05 q
    obtain ⟨c, hc, rfl, e2⟩ := zic_n hV.1.1 q2
    rw [e1, e2] at h
    refine p_B_isFreeForFox zsh2 hB hV.1.1 (by omega) (b_F_fox_35 (fun q3 => ?_) (fun q3 => b_F_fox_45 ?_))
    · rw [if_neg (by rw [zb_0.mp q3]; decide)] at h
      exact b_F_fox_38 (p_F_no hI (fun τ a b => b_F_fox_44 (h τ a b)))
    · rw [if_pos (nbt q3)] at h
      refine p_G_putFox zsh1 hI.1 (fun τ hτ hF => b_F_fox_60 ?_)
      rw [show σ.1 2 3 = nI (S.1.1 4) from hB.2.2.2.1]
      exact h τ (hI.game hτ hF) (hF.kf (by simp))
theorem p_M_fox {x y : Int32} (hI : zIM σ S) (hV : zSV S) (h : ∀ τ, zIM τ (zO_fox S x y).2 → zKM σ τ → Rf (zO_fox S x y).1 τ) : CA (d + 5) 149 [.ref 56, .int x, .int y] σ (ab_rI Rf) := by
  have hB := hI.1.1
  have h25 := hV.1.1.n
  obtain ⟨⟨-, -, n4, -, -, v5, -⟩, -, w2, -, w4, -⟩ := id hV.1.1
  have no : (zw x 0 5 && zic S.1.1 y) = false → S_M_fox_21 (d + 4) Rf σ := fun q => by
    rw [zO_fox, if_neg (by rw [q]; decide)] at h
    exact b_M_fox_21 (p_M_bad hI (fun τ a b => b_M_fox_27 (h τ a b)))
  refine e_M_fox (b_M_fox_0 (p_M_within (lo := 0) (hi := 5) (by decide) (by decide) (b_M_fox_9 (fun q => no ?_) (fun q => b_M_fox_12 (p_M_isCell (r := 0) hB hV.1.1 (by omega) (b_M_fox_18 (fun q2 => no ?_) (fun q2 => ?_)))))))
  · rw [zb_0.mp q]; rfl
  · have q2 : zic S.1.1 y = false := zb_0.mp q2
    rw [q2]; simp
  · have q := nbt q
    have q2 : zic S.1.1 y = true := nbt q2
    rw [zO_fox, if_pos (by rw [q, q2]; rfl)] at h
    obtain ⟨k, hk, rfl, e1⟩ := zw_05 q
    obtain ⟨c, hc, rfl, e2⟩ := zic_n hV.1.1 q2
    rw [e1, e2] at h
    have R5 : σ.1 57 5 = nI (S.1.1 5) := hB.1 5 (by omega)
    have yes : zff S.1.1 c = true → S_M_fox_52 (d + 4) Rf (nI k) (nI c) σ := fun z => by
      rw [if_pos z] at h
      have hB1 : zR (ab_pI (ab_pI σ.1 57 4 (nI k)) 57 5 (nI c), σ.2) 0 (zup (zup S.1.1 4 k) 5 c) := (hB.put (j := 4) n4 (by omega) (by omega)).put (j := 5) n4 (by omega) (by omega)
      have hF : zFR 0 135 σ (ab_pI (ab_pI (ab_pI σ.1 57 4 (nI k)) 57 5 (nI c)) 57 78 0, σ.2) := ((zFR.put (by omega) (by omega)).tr (zFR.put (σ := (ab_pI σ.1 57 4 (nI k), σ.2)) (by omega) (by omega))).tr (zFR.put (σ := (ab_pI (ab_pI σ.1 57 4 (nI k)) 57 5 (nI c), σ.2)) (by omega) (by omega))
      refine b_M_fox_52 ?_
      rw [show σ.1 57 4 = nI (S.1.1 4) from hB.1 4 (by omega)]
      refine h _ (hI.game hV (hI.1.new hV.1 (hB1.ext n4 (fun j a b => ?_)) ?_ (fun j hj => ?_)) hF) hF.km
      all_goals dsimp only
      · rw [zp_n (by omega)]
      · rw [zp_s]; rfl
      · rw [zp_n (by omega), zp_n (by omega), zp_n (by omega)]
    refine b_M_fox_28 (fun q3 => yes ?_) (fun q3 => b_M_fox_38 (p_M_isFree (r := 0) hB hV.1.1 (by omega) (by omega) (b_M_fox_44 (fun q4 => ?_) (fun q4 => yes ?_)))) <;> rw [R5, zeq (by omega) (by omega)] at q3
    · subst q3
      exact zff_iff.mpr ⟨w2, w4⟩
    · have q4 := zb_0.mp q4
      have z : ¬ zff S.1.1 c = true := fun z => by rw [zfr, z, decide_eq_true q3] at q4; cases q4
      rw [if_neg z] at h
      exact b_M_fox_47 (p_M_no hI (fun τ a b => b_M_fox_51 (h τ a b)))
    · have q4 := nbt q4
      rw [zfr, Bool.and_eq_true] at q4
      exact q4.1
theorem p_F_goose {x y : Int32} (hI : zIF σ S) (hV : zSV S) (h : ∀ τ, zIF τ (zO_goose S x y).2 → zKF σ τ → Rf (zO_goose S x y).1 τ) : CA (d + 5) 71 [.ref 0, .int x, .int y] σ (ab_rI Rf) := by
  have hB : zH σ 2 S.1.1 := hI.1.1
  have h25 := hV.1.1.n
  have n4 := hV.1.1.1.2.2.1
  have no : (zw x 0 5 && zic S.1.1 y) = false → S_F_goose_23 (d + 4) Rf σ := fun q => by
    rw [zO_goose, if_neg (by rw [q]; decide)] at h
    exact b_F_goose_23 (p_F_bad hI (fun τ a b => b_F_goose_29 (h τ a b)))
  refine e_F_goose (b_F_goose_0 (p_F_isKind (b_F_goose_12 (fun q => no ?_) (fun q => b_F_goose_15 (p_B_hasCell zsh2 hB hV.1.1 (b_F_goose_20 (fun q2 => no ?_) (fun q2 => b_F_goose_30 ?_)))))))
  · rw [zb_0.mp q]; rfl
  · have q2 : zic S.1.1 y = false := zb_0.mp q2
    rw [q2]; simp
  · have q := nbt q
    have q2 : zic S.1.1 y = true := nbt q2
    rw [zO_goose, if_pos (by rw [q, q2]; rfl)] at h
    obtain ⟨k, hk, rfl, e1⟩ := zw_05 q
    obtain ⟨c, hc, rfl, e2⟩ := zic_n hV.1.1 q2
    rw [e1, e2] at h
    refine p_B_isFree zsh2 hB hV.1.1 (by omega) (b_F_goose_35 (fun q3 => ?_) (fun q3 => ?_))
    · rw [if_neg (by rw [zb_0.mp q3]; decide)] at h
      exact b_F_goose_38 (p_F_no hI (fun τ a b => b_F_goose_44 (h τ a b)))
    · rw [if_pos (nbt q3)] at h
      refine b_F_goose_45 (fun q4 => b_F_goose_60 ?_) (fun q4 => ?_) <;> rw [show σ.1 2 5 = nI (S.1.1 2) from hB.2.2.2.2.2.1, zlit 4, zlt (by omega) (by omega)] at q4
      · rw [if_pos q4] at h
        refine p_G_addGoose zsh1 hI.1 q4 (fun τ hτ hF => b_F_goose_69 ?_)
        rw [show τ.1 2 5 = nI (S.1.1 2 + 1) from hτ.1.2.2.2.2.2.1, nI_s]
        exact h τ (hI.game hτ hF) (hF.kf (by simp))
      · rw [if_neg q4] at h
        exact b_F_goose_53 (p_F_full hI (fun τ a b => b_F_goose_59 (h τ a b)))
theorem p_M_goose {x y : Int32} (hI : zIM σ S) (hV : zSV S) (h : ∀ τ, zIM τ (zO_goose S x y).2 → zKM σ τ → Rf (zO_goose S x y).1 τ) : CA (d + 5) 151 [.ref 56, .int x, .int y] σ (ab_rI Rf) := by
  have hB := hI.1.1
  have h25 := hV.1.1.n
  have n4 := hV.1.1.1.2.2.1
  have no : (zw x 0 5 && zic S.1.1 y) = false → S_M_goose_21 (d + 4) Rf σ := fun q => by
    rw [zO_goose, if_neg (by rw [q]; decide)] at h
    exact b_M_goose_21 (p_M_bad hI (fun τ a b => b_M_goose_27 (h τ a b)))
  refine e_M_goose (b_M_goose_0 (p_M_within (lo := 0) (hi := 5) (by decide) (by decide) (b_M_goose_9 (fun q => no ?_) (fun q => b_M_goose_12 (p_M_isCell (r := 0) hB hV.1.1 (by omega) (b_M_goose_18 (fun q2 => no ?_) (fun q2 => b_M_goose_28 ?_)))))))
  · rw [zb_0.mp q]; rfl
  · have q2 : zic S.1.1 y = false := zb_0.mp q2
    rw [q2]; simp
  · have q := nbt q
    have q2 : zic S.1.1 y = true := nbt q2
    rw [zO_goose, if_pos (by rw [q, q2]; rfl)] at h
    obtain ⟨k, hk, rfl, e1⟩ := zw_05 q
    obtain ⟨c, hc, rfl, e2⟩ := zic_n hV.1.1 q2
    rw [e1, e2] at h
    refine p_M_isFree (r := 0) hB hV.1.1 (by omega) (by omega) (b_M_goose_34 (fun q3 => ?_) (fun q3 => ?_))
    · rw [if_neg (by rw [zb_0.mp q3]; decide)] at h
      exact b_M_goose_37 (p_M_no hI (fun τ a b => b_M_goose_41 (h τ a b)))
    · rw [if_pos (nbt q3)] at h
      have R2 : σ.1 57 2 = nI (S.1.1 2) := hB.1 2 (by omega)
      refine b_M_goose_42 (fun q4 => ?_) (fun q4 => b_M_goose_57 ?_) <;> rw [R2, zlit 4, zeq (by omega) (by omega)] at q4
      · rw [if_neg (by omega)] at h
        exact b_M_goose_52 (p_M_full hI (fun τ a b => b_M_goose_56 (h τ a b)))
      · rw [if_pos (by omega)] at h
        refine p_M_addsGoose (r := 0) hB (by omega) (by omega) (fun τ hτ hF => b_M_goose_64 ?_)
        have ea : zadd S.1.1 k c 2 = S.1.1 2 + 1 := by unfold zadd zup; rw [if_pos rfl]
        have hF2 : zFR 0 135 σ (ab_pI τ.1 57 78 0, τ.2) := (hF.up (by omega) (by omega)).tr (zFR.put (by omega) (by omega))
        rw [zp_n (by omega), show τ.1 57 2 = nI (S.1.1 2 + 1) from ea ▸ hτ.1 2 (by omega), nI_s]
        refine h _ (hI.game hV (hI.1.new hV.1 (hτ.ext (by omega) (fun j a b => ?_)) ?_ (fun j hj => ?_)) hF2) hF2.km
        all_goals dsimp only
        · rw [zp_n (by omega)]
        · rw [zp_s]; rfl
        · rw [zp_n (by omega), hF.2.2 _ (by omega)]
end SO
