/-! type, clear, goes, moves, passes, undo, of, can: the walks -/
theorem zGH.cong {σ τ : ab_S} {g : Nat} {A : zA} (h : zGH σ g A) (e : ∀ a, g ≤ a → a ≤ g + 8 → τ.1 a = σ.1 a) : zGH τ g A := by
  unfold zGH zH zP zT at h ⊢
  rw [e (g + 1) (by omega) (by omega), e (g + 1 + 1) (by omega) (by omega), e (g + 1 + 2) (by omega) (by omega), e g (by omega) (by omega), e (g + 8) (by omega) (by omega), e (g + 4) (by omega) (by omega), e (g + 4 + 1) (by omega) (by omega), e (g + 6) (by omega) (by omega), e (g + 6 + 1) (by omega) (by omega)]
  exact h
/-- cells that the class writes and nobody reads again -/
theorem zIF.scr {σ τ : ab_S} {S : zS} (h : zIF σ S) (e1 : ∀ a, a ≤ 11 ∨ a = 13 ∨ (25 ≤ a ∧ a < 44) → τ.1 a = σ.1 a) (e2 : τ.1 12 1 = σ.1 12 1) (e3 : τ.2 0 7 = σ.2 0 7) (e4 : τ.2 0 8 = σ.2 0 8) : zIF τ S := by
  obtain ⟨h1, h2, h3, h4, h5⟩ := h
  refine ⟨h1.cong (fun a _ b => e1 a (by omega)), fun i hi => ⟨fun q => ?_, fun A hA => ⟨?_, ?_⟩⟩, ⟨?_, fun j hj => ?_⟩, ⟨?_, ?_⟩, fun j hj => ?_⟩
  · rw [e1 11 (by omega)]; exact (h2 i hi).1 q
  · rw [e1 11 (by omega)]; exact ((h2 i hi).2 A hA).1
  · exact ((h2 i hi).2 A hA).2.cong (fun a _ b => e1 a (by omega))
  · rw [e2]; exact h3.1
  · rw [e1 13 (by omega)]; exact h3.2 j hj
  · rw [e3]; exact h4.1
  · rw [e4]; exact h4.2
  · rw [e1 25 (by omega)]; exact h5 j hj
theorem zIM.scr {σ τ : ab_S} {S : zS} (h : zIM σ S) (hV : zSV S) (e57 : ∀ j, j < 405 → τ.1 57 j = σ.1 57 j) (e58 : ∀ a, 58 ≤ a ∧ a ≤ 60 → τ.1 a = σ.1 a) (e56 : τ.1 56 3 = σ.1 56 3) (e3 : τ.2 56 4 = σ.2 56 4) (e4 : τ.2 56 5 = σ.2 56 5) : zIM τ S := by
  obtain ⟨h1, h2, h3, h4, h5⟩ := h
  refine ⟨h1.ext hV.1 (fun j hj => e57 _ (by omega)), fun i hi => ⟨fun q => ?_, fun A hA => ⟨?_, ?_⟩⟩, ⟨?_, fun j hj => ?_⟩, ⟨?_, ?_⟩, fun j hj => ?_⟩
  · rw [e58 58 (by omega)]; exact (h2 i hi).1 q
  · rw [e58 58 (by omega)]; exact ((h2 i hi).2 A hA).1
  · exact ((h2 i hi).2 A hA).2.ext (hV.2.1 i hi A hA) (fun j hj => e57 _ (by omega))
  · rw [e56]; exact h3.1
  · rw [e58 59 (by omega)]; exact h3.2 j hj
  · rw [e3]; exact h4.1
  · rw [e4]; exact h4.2
  · rw [e58 60 (by omega)]; exact h5 j hj
theorem zIF.text {σ τ : ab_S} {S : zS} {T : Nat × (Nat → Int32)} (h : zIF σ S) (hF : zF [12, 13] σ τ) (t1 : τ.1 12 1 = nI T.1) (t2 : ∀ j, j < T.1 → τ.1 13 j = T.2 j) : zIF τ (zsT S T) := by
  obtain ⟨h1, h2, h3, h4, h5⟩ := h
  have e1 : ∀ a, a ≠ 12 → a ≠ 13 → τ.1 a = σ.1 a := fun a x y => hF.2 a (by first | (simp; done) | (simp; omega))
  refine ⟨h1.cong (fun a _ b => e1 a (by omega) (by omega)), fun i hi => ⟨fun q => ?_, fun A hA => ⟨?_, ?_⟩⟩, ⟨t1, t2⟩, ⟨?_, ?_⟩, fun j hj => ?_⟩
  · rw [e1 11 (by omega) (by omega)]; exact (h2 i hi).1 q
  · rw [e1 11 (by omega) (by omega)]; exact ((h2 i hi).2 A hA).1
  · exact ((h2 i hi).2 A hA).2.cong (fun a _ b => e1 a (by omega) (by omega))
  · rw [hF.1]; exact h4.1
  · rw [hF.1]; exact h4.2
  · rw [e1 25 (by omega) (by omega)]; exact h5 j hj
theorem zIM.text {σ τ : ab_S} {S : zS} {T : Nat × (Nat → Int32)} (h : zIM σ S) (hF : zF [56, 59] σ τ) (t1 : τ.1 56 3 = nI T.1) (t2 : ∀ j, j < T.1 → τ.1 59 j = T.2 j) : zIM τ (zsT S T) := by
  obtain ⟨h1, h2, h3, h4, h5⟩ := h
  have e1 : ∀ a, a ≠ 56 → a ≠ 59 → τ.1 a = σ.1 a := fun a x y => hF.2 a (by first | (simp; done) | (simp; omega))
  refine ⟨h1.frF hF (by simp), fun i hi => ⟨fun q => ?_, fun A hA => ⟨?_, ?_⟩⟩, ⟨t1, t2⟩, ⟨?_, ?_⟩, fun j hj => ?_⟩
  · rw [e1 58 (by omega) (by omega)]; exact (h2 i hi).1 q
  · rw [e1 58 (by omega) (by omega)]; exact ((h2 i hi).2 A hA).1
  · exact ((h2 i hi).2 A hA).2.frF hF (by simp)
  · rw [hF.1]; exact h4.1
  · rw [hF.1]; exact h4.2
  · rw [e1 60 (by omega) (by omega)]; exact h5 j hj
section MO
variable {d : Nat} {S : zS} {σ : ab_S} {Rf : Int32 → ab_S → Prop}
theorem p_F_type {x : Int32} (hI : zIF σ S) (hV : zSV S) (h : ∀ τ, zIF τ (zO_type S x).2 → zKF σ τ → Rf (zO_type S x).1 τ) : CA (d + 3) 72 [.ref 0, .int x] σ (ab_rI Rf) := by
  have hl : S.2.2.1.1 ≤ 150 := hV.2.2.1
  obtain ⟨t1, t2⟩ := hI.2.2.1
  refine e_F_type (b_F_type_0 (p_F_within (lo := 0) (hi := 127) (by decide) (by decide) (b_F_type_7 (fun q => ?_) (fun q => b_F_type_17 ?_))))
  · rw [zO_type, if_neg (by rw [zb_0.mp q]; decide)] at h
    exact b_F_type_10 (p_F_bad hI (fun τ a b => b_F_type_16 (h τ a b)))
  · rw [zO_type, if_pos (nbt q)] at h
    refine e_R_addByte (b_R_addByte_0 (fun c => absurd c ?_) (fun _ => b_R_addByte_7 (fun c => ?_) (fun c => ?_)))
    · rw [t1, zlit 0, zlt (by omega) (by omega)]; omega
    · rw [t1, zlt (by omega) (by omega)] at c
      rw [if_pos c] at h
      have e : Int32.toNatClampNeg (σ.1 12 1) = S.2.2.1.1 := by rw [t1]; exact zc_nI (by omega)
      refine b_R_addByte_21 (by rw [t1]; exact vp_in_nI (by omega) (by omega)) (b_F_type_25 (fun z => absurd z (by decide)) (fun _ => b_F_type_28 (b_F_type_44 ?_)))
      rw [e, zp_n (a := 12) (k := 13) (by omega), t1, nI_1]
      dsimp only
      rw [zp_s]
      have hF : zF [12, 13] σ (ab_pI (ab_pI σ.1 13 S.2.2.1.1 x) 12 1 (nI (S.2.2.1.1 + 1)), σ.2) := ⟨rfl, fun a ha => by
        simp at ha
        dsimp only
        rw [ab_pI_ne (by omega), ab_pI_ne (by omega)]⟩
      refine h _ (hI.text hF ?_ (fun j hj => ?_)) (hF.kf (by simp))
      · dsimp only
        rw [zp_s]
      · have hj : j < S.2.2.1.1 + 1 := hj
        show ab_pI (ab_pI σ.1 13 S.2.2.1.1 x) 12 1 (nI (S.2.2.1.1 + 1)) 13 j = if j = S.2.2.1.1 then x else S.2.2.1.2 j
        rw [zp_n (by omega)]
        by_cases z : j = S.2.2.1.1
        · rw [if_pos z, z, zp_s]
        · rw [if_neg z, zp_n (by omega)]; exact t2 j (by omega)
    · rw [t1, zlt (by omega) (by omega)] at c
      rw [if_neg c] at h
      exact b_R_addByte_19 (b_F_type_25 (fun _ => b_F_type_38 (p_F_full hI (fun τ a b => b_F_type_44 (h τ a b)))) (fun z => absurd rfl z))
theorem p_M_type {x : Int32} (hI : zIM σ S) (hV : zSV S) (h : ∀ τ, zIM τ (zO_type S x).2 → zKM σ τ → Rf (zO_type S x).1 τ) : CA (d + 2) 152 [.ref 56, .int x] σ (ab_rI Rf) := by
  have hl : S.2.2.1.1 ≤ 150 := hV.2.2.1
  obtain ⟨t1, t2⟩ := hI.2.2.1
  refine e_M_type (b_M_type_0 (p_M_within (lo := 0) (hi := 127) (by decide) (by decide) (b_M_type_9 (fun q => ?_) (fun q => ?_))))
  · rw [zO_type, if_neg (by rw [zb_0.mp q]; decide)] at h
    exact b_M_type_12 (p_M_bad hI (fun τ a b => b_M_type_18 (h τ a b)))
  · rw [zO_type, if_pos (nbt q)] at h
    refine b_M_type_19 (fun c => ?_) (fun c => ?_) <;> rw [t1, zlit 150, zeq (by omega) (by omega)] at c
    · rw [if_neg (by omega)] at h
      exact b_M_type_29 (p_M_full hI (fun τ a b => b_M_type_33 (h τ a b)))
    · rw [if_pos (by omega)] at h
      have e : Int32.toNatClampNeg (σ.1 56 3) = S.2.2.1.1 := by rw [t1]; exact zc_nI (by omega)
      refine b_M_type_34 (by rw [t1]; exact vp_in_nI (by omega) (by omega)) ?_
      rw [e, zp_n (a := 56) (k := 59) (by omega), t1, nI_1, zp_s]
      have hF : zF [56, 59] σ (ab_pI (ab_pI σ.1 59 S.2.2.1.1 x) 56 3 (nI (S.2.2.1.1 + 1)), σ.2) := ⟨rfl, fun a ha => by
        simp at ha
        dsimp only
        rw [ab_pI_ne (by omega), ab_pI_ne (by omega)]⟩
      refine h _ (hI.text hF ?_ (fun j hj => ?_)) (hF.km (by simp))
      · dsimp only
        rw [zp_s]
      · have hj : j < S.2.2.1.1 + 1 := hj
        show ab_pI (ab_pI σ.1 59 S.2.2.1.1 x) 56 3 (nI (S.2.2.1.1 + 1)) 59 j = if j = S.2.2.1.1 then x else S.2.2.1.2 j
        rw [zp_n (by omega)]
        by_cases z : j = S.2.2.1.1
        · rw [if_pos z, z, zp_s]
        · rw [if_neg z, zp_n (by omega)]; exact t2 j (by omega)
theorem p_F_clear (hI : zIF σ S) (h : ∀ τ, zIF τ (zO_clear S).2 → zKF σ τ → Rf (zO_clear S).1 τ) : CA (d + 1) 73 [.ref 0] σ (ab_rI Rf) := by
  refine e_F_clear (b_F_clear_0 ?_)
  rw [hI.2.2.1.1]
  have hF : zF [12, 13] σ (ab_pI σ.1 12 1 0, σ.2) := zF.put (by simp)
  exact h _ (hI.text (T := (0, S.2.2.1.2)) hF (by dsimp only; rw [zp_s]; rfl) (fun j hj => absurd hj (Nat.not_lt_zero j))) (hF.kf (by simp))
theorem p_M_clear (hI : zIM σ S) (h : ∀ τ, zIM τ (zO_clear S).2 → zKM σ τ → Rf (zO_clear S).1 τ) : CA (d + 1) 153 [.ref 56] σ (ab_rI Rf) := by
  refine e_M_clear (b_M_clear_0 ?_)
  rw [hI.2.2.1.1]
  have hF : zF [56, 59] σ (ab_pI σ.1 56 3 0, σ.2) := zF.put (by simp)
  exact h _ (hI.text (T := (0, S.2.2.1.2)) hF (by dsimp only; rw [zp_s]; rfl) (fun j hj => absurd hj (Nat.not_lt_zero j))) (hF.km (by simp))
theorem zGH.brd {τ : ab_S} {g : Nat} {A : zA} {B : zB} (h : zGH σ g A) (hB : zH τ (g + 1) B) (e2 : B 2 = A.1 2) (hF : zF (zks (g + 1)) σ τ) : zGH τ g (B, A.2) := by
  obtain ⟨h1, h2, h3, h4, h5⟩ := h
  refine ⟨hB, ?_, ?_, h4.frame hF (by first | (simp; done) | (simp; omega)) (by first | (simp; done) | (simp; omega)), h5.frame hF (by first | (simp; done) | (simp; omega)) (by first | (simp; done) | (simp; omega))⟩
  · rw [hF.2 g (by first | (simp; done) | (simp; omega))]; exact h2
  · show zP τ (g + 8) (B 2) A.2.1.1 A.2.1.2
    rw [e2]
    exact h3.frame (hF.2 _ (by first | (simp; done) | (simp; omega)))
theorem zpush_V {A : zA} (hV : zAV A) : zAV (A.1, zpush A.1 A.2.1, A.2.2) := zmv_V hV hV.1 hV.2.1 (fun _ _ => rfl)
theorem p_F_goes {x : Int32} (hI : zIF σ S) (hV : zSV S) (h : ∀ τ, zIF τ (zO_goes S x).2 → zKF σ τ → Rf (zO_goes S x).1 τ) : CA (d + 5) 75 [.ref 0, .int x] σ (ab_rI Rf) := by
  have hB : zH σ 2 S.1.1 := hI.1.1
  have h25 := hV.1.1.n
  refine e_F_goes (b_F_goes_0 (p_B_hasCell zsh2 hB hV.1.1 (b_F_goes_11 (fun q => ?_) (fun q => b_F_goes_21 ?_))))
  · have q : zic S.1.1 x = false := zb_0.mp q
    rw [zO_goes, if_neg (by rw [q]; decide)] at h
    exact b_F_goes_14 (p_F_bad hI (fun τ a b => b_F_goes_20 (h τ a b)))
  · have q : zic S.1.1 x = true := nbt q
    rw [zO_goes, if_pos q] at h
    obtain ⟨c, hc, rfl, e⟩ := zic_n hV.1.1 q
    rw [e] at h
    refine p_B_mayMove (who := 4) zsh2 hB hV.1.1 (Or.inl rfl) (by omega) (b_F_goes_33 (fun q2 => ?_) (fun q2 => b_F_goes_43 ?_))
    · rw [if_neg (by rw [zb_0.mp q2]; decide)] at h
      exact b_F_goes_36 (p_F_no hI (fun τ a b => b_F_goes_42 (h τ a b)))
    · rw [if_pos (nbt q2)] at h
      refine p_G_remember zsh1 hI.1 hV.1 (fun τ hτ hF => b_F_goes_50 (p_B_stepF zsh2 hτ.1 hV.1.1 (by omega) (fun υ hυ hG => d_F_goes_62 (b_F_goes_70 ?_))))
      have e1 : (if zb (zov S.1.1 (S.1.1 5) c) = 0 then (0 : Int32) else 1) = zb (zov S.1.1 (S.1.1 5) c) := by cases zov S.1.1 (S.1.1 5) c <;> rfl
      have e2 : (if zb (zov (S.1.1, zpush S.1.1 S.1.2.1, S.1.2.2).1 ((S.1.1, zpush S.1.1 S.1.2.1, S.1.2.2).1 5) c) = 0 then (0 : Int32) else 1) = zb (zov S.1.1 (S.1.1 5) c) := e1
      rw [e2]
      have hF2 : zF (zkg 1) σ υ := hF.tr (hG.up (by simp))
      exact h υ (hI.game (hτ.brd hυ (zfox_lo (by omega)) hG) hF2) (hF2.kf (by simp))
theorem p_M_goes {x : Int32} (hI : zIM σ S) (hV : zSV S) (h : ∀ τ, zIM τ (zO_goes S x).2 → zKM σ τ → Rf (zO_goes S x).1 τ) : CA (d + 9) 173 [.ref 56, .int x] σ (ab_rI Rf) := by
  have hB := hI.1.1
  have h25 := hV.1.1.n
  have h7 := hV.1.2.1
  have R7 : σ.1 57 7 = nI (S.1.1 7) := hB.1 7 (by omega)
  refine e_M_goes (b_M_goes_0 (p_M_isCell (r := 0) hB hV.1.1 (by omega) (b_M_goes_6 (fun q => ?_) (fun q => b_M_goes_16 ?_))))
  · have q : zic S.1.1 x = false := zb_0.mp q
    rw [zO_goes, if_neg (by rw [q]; decide)] at h
    exact b_M_goes_9 (p_M_bad hI (fun τ a b => b_M_goes_15 (h τ a b)))
  · have q : zic S.1.1 x = true := nbt q
    rw [zO_goes, if_pos q] at h
    obtain ⟨c, hc, rfl, e⟩ := zic_n hV.1.1 q
    rw [e, zmn_mm] at h
    have no : (zmn S.1.1 4 c && decide (S.1.1 7 < 9999)) = false → S_M_goes_39 (d + 8) Rf σ := fun z => by
      rw [if_neg (by rw [z]; decide)] at h
      exact b_M_goes_39 (p_M_no hI (fun τ a b => b_M_goes_43 (h τ a b)))
    refine p_M_mayMove (r := 0) (who := 4) hB hV.1.1 (by omega) (Or.inl rfl) hc (b_M_goes_23 (fun q2 => no ?_) (fun q2 => b_M_goes_26 (fun q3 => no ?_) (fun q3 => b_M_goes_44 ?_)))
    · rw [zb_0.mp q2]; rfl
    · rw [R7, zlit 9999, zeq (by omega) (by omega)] at q3
      rw [decide_eq_false (by omega)]; simp
    · rw [R7, zlit 9999, zeq (by omega) (by omega)] at q3
      rw [if_pos (by rw [nbt q2, decide_eq_true (by omega)]; rfl)] at h
      refine p_M_minds hI.1 hV.1 (fun τ hτ hF => b_M_goes_48 (p_M_foxGoes (r := 0) hτ.1 hV.1.1 (by omega) (by omega) (fun υ hυ hG => b_M_goes_54 ?_)))
      have hF2 : zFR 0 135 σ υ := (hF.up (by omega) (by omega)).tr (hG.up (by omega) (by omega))
      exact h υ (hI.game hV (hτ.brd hυ (zfox_lo (by omega)) hG) hF2) hF2.km
theorem p_F_moves {x y : Int32} (hI : zIF σ S) (hV : zSV S) (h : ∀ τ, zIF τ (zO_moves S x y).2 → zKF σ τ → Rf (zO_moves S x y).1 τ) : CA (d + 5) 76 [.ref 0, .int x, .int y] σ (ab_rI Rf) := by
  have hB : zH σ 2 S.1.1 := hI.1.1
  have h25 := hV.1.1.n
  have n4 := hV.1.1.1.2.2.1
  have no : (zal S.1.1 x && zic S.1.1 y) = false → S_F_moves_24 (d + 4) Rf σ := fun q => by
    rw [zO_moves, if_neg (by rw [q]; decide)] at h
    exact b_F_moves_24 (p_F_bad hI (fun τ a b => b_F_moves_30 (h τ a b)))
  refine e_F_moves (b_F_moves_0 (p_B_isGooseAlive zsh2 hB hV.1.1 (b_F_moves_13 (fun q => no ?_) (fun q => b_F_moves_16 (p_B_hasCell zsh2 hB hV.1.1 (b_F_moves_21 (fun q2 => no ?_) (fun q2 => b_F_moves_31 ?_)))))))
  · rw [zb_0.mp q]; rfl
  · have q2 : zic S.1.1 y = false := zb_0.mp q2
    rw [q2]; simp
  · have q := nbt q
    have q2 : zic S.1.1 y = true := nbt q2
    rw [zO_moves, if_pos (by rw [q, q2]; rfl)] at h
    obtain ⟨i, hi, ha, rfl, e1⟩ := zal_i n4 q
    obtain ⟨c, hc, rfl, e2⟩ := zic_n hV.1.1 q2
    rw [e1, e2] at h
    refine p_B_mayMove zsh2 hB hV.1.1 (Or.inr hi) (by omega) (b_F_moves_37 (fun q3 => ?_) (fun q3 => b_F_moves_47 ?_))
    · rw [if_neg (by rw [zb_0.mp q3]; decide)] at h
      exact b_F_moves_40 (p_F_no hI (fun τ a b => b_F_moves_46 (h τ a b)))
    · rw [if_pos (nbt q3)] at h
      refine p_B_cellOfG zsh2 hB hV.1.1 hi (b_F_moves_52 (p_G_remember zsh1 hI.1 hV.1 (fun τ hτ hF => b_F_moves_61 (p_B_stepG zsh2 hτ.1 hV.1.1 hi (fun υ hυ hG => b_F_moves_67 ?_)))))
      have hF2 : zF (zkg 1) σ υ := hF.tr (hG.up (by simp))
      exact h υ (hI.game (hτ.brd hυ (zgo_lo (by omega)) hG) hF2) (hF2.kf (by simp))
theorem p_M_moves {x y : Int32} (hI : zIM σ S) (hV : zSV S) (h : ∀ τ, zIM τ (zO_moves S x y).2 → zKM σ τ → Rf (zO_moves S x y).1 τ) : CA (d + 9) 174 [.ref 56, .int x, .int y] σ (ab_rI Rf) := by
  have hB := hI.1.1
  have h25 := hV.1.1.n
  have h7 := hV.1.2.1
  have n4 := hV.1.1.1.2.2.1
  have R7 : σ.1 57 7 = nI (S.1.1 7) := hB.1 7 (by omega)
  have no : (zal S.1.1 x && zic S.1.1 y) = false → S_M_moves_18 (d + 8) Rf σ := fun q => by
    rw [zO_moves, if_neg (by rw [q]; decide)] at h
    exact b_M_moves_18 (p_M_bad hI (fun τ a b => b_M_moves_24 (h τ a b)))
  refine e_M_moves (b_M_moves_0 (p_M_isGoose (r := 0) hB hV.1.1 (by omega) (b_M_moves_6 (fun q => no ?_) (fun q => b_M_moves_9 (p_M_isCell (r := 0) hB hV.1.1 (by omega) (b_M_moves_15 (fun q2 => no ?_) (fun q2 => b_M_moves_25 ?_)))))))
  · rw [zb_0.mp q]; rfl
  · have q2 : zic S.1.1 y = false := zb_0.mp q2
    rw [q2]; simp
  · have q := nbt q
    have q2 : zic S.1.1 y = true := nbt q2
    rw [zO_moves, if_pos (by rw [q, q2]; rfl)] at h
    obtain ⟨i, hi, ha, rfl, e1⟩ := zal_i n4 q
    obtain ⟨c, hc, rfl, e2⟩ := zic_n hV.1.1 q2
    rw [e1, e2, zmn_mm] at h
    have no2 : (zmn S.1.1 i c && decide (S.1.1 7 < 9999)) = false → S_M_moves_48 (d + 8) Rf σ := fun z => by
      rw [if_neg (by rw [z]; decide)] at h
      exact b_M_moves_48 (p_M_no hI (fun τ a b => b_M_moves_52 (h τ a b)))
    refine p_M_mayMove (r := 0) hB hV.1.1 (by omega) (Or.inr ⟨hi, ha⟩) hc (b_M_moves_32 (fun q3 => no2 ?_) (fun q3 => b_M_moves_35 (fun q4 => no2 ?_) (fun q4 => b_M_moves_53 ?_)))
    · rw [zb_0.mp q3]; rfl
    · rw [R7, zlit 9999, zeq (by omega) (by omega)] at q4
      rw [decide_eq_false (by omega)]; simp
    · rw [R7, zlit 9999, zeq (by omega) (by omega)] at q4
      rw [if_pos (by rw [nbt q3, decide_eq_true (by omega)]; rfl)] at h
      refine p_M_minds hI.1 hV.1 (fun τ hτ hF => b_M_moves_57 ?_ (p_M_gooseGoes (r := 0) hτ.1 hV.1.1 (by omega) hi (fun υ hυ hG => b_M_moves_74 ?_)))
      · rw [zlit 12, nI_add]; exact vp_in_nI (by omega) (by omega)
      · have hF2 : zFR 0 135 σ υ := (hF.up (by omega) (by omega)).tr (hG.up (by omega) (by omega))
        rw [show (12 : Int32) + nI i = nI (12 + i) from nI_add 12 i, zc_nI (by omega)]
        have C : τ.1 57 (12 + i) = zc (S.1.1 (12 + i)) := by
          have := (hτ.1.2 i hi).2
          rw [show 0 + 12 + i = 12 + i by omega] at this
          exact this
        rw [C]
        exact h υ (hI.game hV (hτ.brd hυ (zgo_lo (by omega)) hG) hF2) hF2.km
theorem p_F_passes (hI : zIF σ S) (hV : zSV S) (h : ∀ τ, zIF τ (zO_passes S).2 → zKF σ τ → Rf (zO_passes S).1 τ) : CA (d + 4) 77 [.ref 0] σ (ab_rI Rf) := by
  have hB : zH σ 2 S.1.1 := hI.1.1
  refine e_F_passes (b_F_passes_0 (p_B_mayPass zsh2 hB hV.1.1 (b_F_passes_10 (fun q => ?_) (fun q => b_F_passes_20 ?_))))
  · rw [zO_passes, if_neg (by rw [zb_0.mp q]; decide)] at h
    exact b_F_passes_13 (p_F_no hI (fun τ a b => b_F_passes_19 (h τ a b)))
  · rw [zO_passes, if_pos (nbt q)] at h
    refine p_G_remember zsh1 hI.1 hV.1 (fun τ hτ hF => b_F_passes_27 (p_B_endMove zsh2 hτ.1 hV.1.1.1.2.2.2.2.2.2.1 (fun υ hυ hG => b_F_passes_37 ?_)))
    have hF2 : zF (zkg 1) σ υ := hF.tr (hG.up (by simp))
    rw [show υ.1 2 7 = nI (S.1.1 7 + 1) from hυ.2.2.2.2.2.2.2.1]
    exact h υ (hI.game (hτ.brd hυ (zend_lo (by omega)) hG) hF2) (hF2.kf (by simp))
theorem p_M_passes (hI : zIM σ S) (hV : zSV S) (h : ∀ τ, zIM τ (zO_passes S).2 → zKM σ τ → Rf (zO_passes S).1 τ) : CA (d + 9) 175 [.ref 56] σ (ab_rI Rf) := by
  have hB := hI.1.1
  have h7 := hV.1.2.1
  have R7 : σ.1 57 7 = nI (S.1.1 7) := hB.1 7 (by omega)
  rw [zO_passes, zmpn_mp] at h
  have no : (zmpn S.1.1 && decide (S.1.1 7 < 9999)) = false → S_M_passes_21 (d + 8) Rf σ := fun z => by
    rw [if_neg (by rw [z]; decide)] at h
    exact b_M_passes_21 (p_M_no hI (fun τ a b => b_M_passes_25 (h τ a b)))
  refine e_M_passes (b_M_passes_0 (p_M_mayPass (r := 0) hB hV.1.1 (by omega) (b_M_passes_5 (fun q => no ?_) (fun q => b_M_passes_8 (fun q3 => no ?_) (fun q3 => b_M_passes_26 ?_)))))
  · rw [zb_0.mp q]; rfl
  · rw [R7, zlit 9999, zeq (by omega) (by omega)] at q3
    rw [decide_eq_false (by omega)]; simp
  · rw [R7, zlit 9999, zeq (by omega) (by omega)] at q3
    rw [if_pos (by rw [nbt q, decide_eq_true (by omega)]; rfl)] at h
    refine p_M_minds hI.1 hV.1 (fun τ hτ hF => b_M_passes_30 (p_M_ends (r := 0) hτ.1 hV.1.1.1.2.2.1 hV.1.1.1.2.2.2.2.2.2.1 (by omega) (fun υ hυ hG => b_M_passes_35 ?_)))
    have hF2 : zFR 0 135 σ υ := (hF.up (by omega) (by omega)).tr (hG.up (by omega) (by omega))
    rw [show υ.1 57 7 = nI (S.1.1 7 + 1) from hυ.1 7 (by omega)]
    exact h υ (hI.game hV (hτ.brd hυ (zend_lo (by omega)) hG) hF2) hF2.km
theorem p_F_undo (hI : zIF σ S) (hV : zSV S) (h : ∀ τ, zIF τ (zO_undo S).2 → zKF σ τ → Rf (zO_undo S).1 τ) : CA (d + 2) 78 [.ref 0] σ (ab_rI Rf) := by
  refine e_F_undo (b_F_undo_0 (p_G_takeBack zsh1 hI.1 hV.1 (fun q => ?_) (fun m q τ hτ hF => ?_)))
  · rw [zO_undo, if_pos q] at h
    exact b_F_undo_7 (fun _ => b_F_undo_23 (p_F_no hI (fun τ a b => b_F_undo_29 (h τ a b)))) (fun z => absurd rfl z)
  · rw [zO_undo, if_neg (by omega), show S.1.2.1.1 - 1 = m by omega] at h
    refine b_F_undo_7 (fun z => absurd z (by decide)) (fun _ => b_F_undo_10 (b_F_undo_29 ?_))
    rw [show τ.1 2 7 = nI (S.1.2.1.2 m 7) from hτ.1.2.2.2.2.2.2.2.1]
    exact h τ (hI.game hτ hF) (hF.kf (by simp))
theorem p_M_undo2 (hI : zIM σ S) (hV : zSV S) (h : ∀ τ, zIM τ (zO_undo S).2 → zKM σ τ → Rf (zO_undo S).1 τ) : CA (d + 2) 176 [.ref 56] σ (ab_rI Rf) := by
  refine p_M_undo hI.1 hV.1 (fun q => ?_) (fun m q τ hτ hF => ?_)
  · rw [zO_undo, if_pos q] at h
    exact h _ (hI.bump (by omega)) ((zF.put (ks := [60]) (by simp)).km (by simp))
  · rw [zO_undo, if_neg (by omega), show S.1.2.1.1 - 1 = m by omega] at h
    exact h τ (hI.game hV hτ hF) hF.km
/-- of a goose, or 4 the fox: kind (0), cell (1) -/
def zO_of (S : zS) (x y : Int32) : Int32 × zS :=
  if ((decide (x = 4) || decide (0 ≤ x.toInt ∧ x.toInt < S.1.1 2)) && zw y 0 1) = true then ((if x = 4 then (if y = 0 then nI (S.1.1 4) else nI (S.1.1 5)) else if y = 0 then nI (S.1.1 (8 + x.toNatClampNeg)) else zc (S.1.1 (12 + x.toNatClampNeg))), S) else (-2, zbump S 0)
theorem zO_of_V {x y : Int32} (hV : zSV S) : zSV (zO_of S x y).2 := by
  unfold zO_of; split
  · exact hV
  · exact zbump_V hV
theorem p_F_of {x y : Int32} (hI : zIF σ S) (hV : zSV S) (h : ∀ τ, zIF τ (zO_of S x y).2 → zKF σ τ → Rf (zO_of S x y).1 τ) : CA (d + 3) 79 [.ref 0, .int x, .int y] σ (ab_rI Rf) := by
  have hB : zH σ 2 S.1.1 := hI.1.1
  have n4 := hV.1.1.1.2.2.1
  have no : ((decide (x = 4) || decide (0 ≤ x.toInt ∧ x.toInt < S.1.1 2)) && zw y 0 1) = false → S_F_of_30 (d + 2) Rf σ := fun q => by
    rw [zO_of, if_neg (by rw [q]; decide)] at h
    exact b_F_of_30 (p_F_bad hI (fun τ a b => b_F_of_36 (h τ a b)))
  have yes : (decide (x = 4) || decide (0 ≤ x.toInt ∧ x.toInt < S.1.1 2)) = true → S_F_of_21 (d + 2) Rf x y σ := fun z => by
    refine b_F_of_21 (p_F_within (lo := 0) (hi := 1) (by decide) (by decide) (b_F_of_27 (fun q => no ?_) (fun q => ?_)))
    · rw [zb_0.mp q]; simp
    · rw [zO_of, if_pos (by rw [z, nbt q]; rfl)] at h
      by_cases x4 : x = 4
      · subst x4
        rw [if_pos rfl] at h
        refine b_F_of_37 (fun y0 => b_F_of_41 (p_B_kindOfF zsh2 hB (b_F_of_46 (b_F_of_54 ?_)))) (fun y0 => b_F_of_49 (p_B_cellOfF zsh2 hB (b_F_of_54 ?_)))
        · rw [if_pos y0] at h; exact h σ hI zKF.rf
        · rw [if_neg y0] at h; exact h σ hI zKF.rf
      · rw [if_neg x4] at h
        have z2 : 0 ≤ x.toInt ∧ x.toInt < S.1.1 2 := by simpa [x4] using z
        obtain ⟨i, hi, rfl, e1⟩ : ∃ i : Nat, i < S.1.1 2 ∧ x = nI i ∧ x.toNatClampNeg = i := ⟨x.toInt.toNat, by omega, by rw [fa_eq, zn (by omega)]; omega, rfl⟩
        rw [e1] at h
        refine b_F_of_37 (fun y0 => b_F_of_41 (p_B_kindOfG zsh2 hB hV.1.1 hi (b_F_of_46 (b_F_of_54 ?_)))) (fun y0 => b_F_of_49 (p_B_cellOfG zsh2 hB hV.1.1 hi (b_F_of_54 ?_)))
        · rw [if_pos y0] at h; exact h σ hI zKF.rf
        · rw [if_neg y0] at h; exact h σ hI zKF.rf
  refine e_F_of (b_F_of_0 (fun x4 => yes ?_) (fun x4 => b_F_of_13 (p_B_isGoose zsh2 hB hV.1.1 (b_F_of_18 (fun q => no ?_) (fun q => yes ?_)))))
  · rw [decide_eq_true x4]; rfl
  · rw [zb_0.mp q, decide_eq_false x4]; rfl
  · rw [nbt q]; simp
theorem p_M_inG {x : Int32} {r : Nat} {B : zB} (hB : zR σ r B) (h4 : B 2 ≤ 4) {Q : Int32 → ab_S → Prop} (h : Q (zb (decide (0 ≤ x.toInt ∧ x.toInt < B 2))) σ) : CA (d + 1) 114 [.long x.toInt64, .long 0, .long (Int32.toInt64 (σ.1 57 (r + 2) - 1))] σ (ab_rI Q) := by
  have z0 : (0 : Int64).toInt = 0 := by decide
  have i1 : (nI (B 2) - 1).toInt = (B 2 : Int) - 1 := zc_toInt (by omega)
  refine p_M_in ?_
  have e : decide ((0 : Int64) ≤ x.toInt64 ∧ x.toInt64 ≤ (σ.1 57 (r + 2) - 1).toInt64) = decide (0 ≤ x.toInt ∧ x.toInt < B 2) := by
    rw [hB.1 2 (by omega), decide_eq_decide, fa_le64, fa_le64, Int32.toInt_toInt64, Int32.toInt_toInt64, z0, i1]
    omega
  rw [e]
  exact h
theorem p_M_of {x y : Int32} (hI : zIM σ S) (hV : zSV S) (h : ∀ τ, zIM τ (zO_of S x y).2 → zKM σ τ → Rf (zO_of S x y).1 τ) : CA (d + 2) 177 [.ref 56, .int x, .int y] σ (ab_rI Rf) := by
  have hB := hI.1.1
  have n4 := hV.1.1.1.2.2.1
  have no : ((decide (x = 4) || decide (0 ≤ x.toInt ∧ x.toInt < S.1.1 2)) && zw y 0 1) = false → S_M_of_33 (d + 1) Rf σ := fun q => by
    rw [zO_of, if_neg (by rw [q]; decide)] at h
    exact b_M_of_33 (p_M_bad hI (fun τ a b => b_M_of_39 (h τ a b)))
  have yes : (decide (x = 4) || decide (0 ≤ x.toInt ∧ x.toInt < S.1.1 2)) = true → S_M_of_23 (d + 1) Rf x y σ := fun z => by
    refine b_M_of_23 (p_M_within (lo := 0) (hi := 1) (by decide) (by decide) (b_M_of_30 (fun q => no ?_) (fun q => ?_)))
    · rw [zb_0.mp q]; simp
    · rw [zO_of, if_pos (by rw [z, nbt q]; rfl)] at h
      obtain ⟨b, hb, rfl⟩ := zw_n (m := 1) (nbt q)
      by_cases x4 : x = 4
      · subst x4
        rw [if_pos rfl] at h
        have e4 : (4 : Int32) + nI b = nI (4 + b) := nI_add 4 b
        refine b_M_of_40 (fun _ => b_M_of_45 (by rw [e4]; exact vp_in_nI (by omega) (by omega)) (b_M_of_74 ?_)) (fun z => absurd rfl z)
        rw [e4, zc_nI (by omega)]
        rcases (show b = 0 ∨ b = 1 by omega) with rfl | rfl
        · rw [if_pos (show nI 0 = 0 from rfl)] at h
          rw [show σ.1 57 (4 + 0) = nI (S.1.1 4) from hB.1 4 (by omega)]; exact h σ hI zKM.rf
        · rw [if_neg (by decide)] at h
          rw [show σ.1 57 (4 + 1) = nI (S.1.1 5) from hB.1 5 (by omega)]; exact h σ hI zKM.rf
      · rw [if_neg x4] at h
        have z2 : 0 ≤ x.toInt ∧ x.toInt < S.1.1 2 := by simpa [x4] using z
        obtain ⟨i, hi, rfl, e1⟩ : ∃ i : Nat, i < S.1.1 2 ∧ x = nI i ∧ x.toNatClampNeg = i := ⟨x.toInt.toNat, by omega, by rw [fa_eq, zn (by omega)]; omega, rfl⟩
        rw [e1] at h
        have e8 : (8 : Int32) + nI i = nI (8 + i) := nI_add 8 i
        have e12 : (12 : Int32) + nI i = nI (12 + i) := nI_add 12 i
        obtain ⟨k1, k2⟩ := hB.2 i hi
        rw [show 0 + 8 + i = 8 + i by omega] at k1
        rw [show 0 + 12 + i = 12 + i by omega] at k2
        refine b_M_of_40 (fun z => absurd z x4) (fun _ => b_M_of_56 (fun y0 => b_M_of_64 (b_M_of_71 (by rw [e8]; exact vp_in_nI (by omega) (by omega)) (b_M_of_74 ?_))) (fun y0 => b_M_of_69 (b_M_of_71 (by rw [e12]; exact vp_in_nI (by omega) (by omega)) (b_M_of_74 ?_))))
        · rw [if_pos y0] at h
          rw [e8, zc_nI (by omega), k1]; exact h σ hI zKM.rf
        · rw [if_neg y0] at h
          rw [e12, zc_nI (by omega), k2]; exact h σ hI zKM.rf
  refine e_M_of (b_M_of_0 (p_M_inG (r := 0) hB n4 (b_M_of_15 (fun q => b_M_of_18 (fun x4 => yes ?_) (fun x4 => no ?_)) (fun q => yes ?_))))
  · rw [decide_eq_true x4]; rfl
  · rw [zb_0.mp q, decide_eq_false x4]; rfl
  · rw [nbt q]; simp
def zO_can (S : zS) (x : Int32) : Int32 × zS :=
  if x = 4 then (nI (zfS S.1.1), S) else if zal S.1.1 x = true then (nI (zgS S.1.1 x.toNatClampNeg), S) else (-2, zbump S 0)
theorem zO_can_V {x : Int32} (hV : zSV S) : zSV (zO_can S x).2 := by
  unfold zO_can; split
  · exact hV
  · split
    · exact hV
    · exact zbump_V hV
theorem p_F_can {x : Int32} (hI : zIF σ S) (hV : zSV S) (h : ∀ τ, zIF τ (zO_can S x).2 → zKF σ τ → Rf (zO_can S x).1 τ) : CA (d + 4) 80 [.ref 0, .int x] σ (ab_rI Rf) := by
  have hB : zH σ 2 S.1.1 := hI.1.1
  have n4 := hV.1.1.1.2.2.1
  refine e_F_can (b_F_can_0 (fun x4 => ?_) (fun x4 => b_F_can_5 (p_B_isGooseAlive zsh2 hB hV.1.1 (b_F_can_16 (fun q => ?_) (fun q => ?_)))))
  · subst x4
    rw [zO_can, if_pos rfl] at h
    exact b_F_can_26 (p_B_reachF zsh2 hB hV.1.1 (b_F_can_37 (h σ hI zKF.rf)))
  · rw [zO_can, if_neg x4, if_neg (by rw [zb_0.mp q]; decide)] at h
    exact b_F_can_19 (p_F_bad hI (fun τ a b => b_F_can_25 (h τ a b)))
  · rw [zO_can, if_neg x4, if_pos (nbt q)] at h
    obtain ⟨i, hi, ha, rfl, e1⟩ := zal_i n4 (nbt q)
    rw [e1] at h
    exact b_F_can_26 (p_B_reachG zsh2 hB hV.1.1 hi (b_F_can_37 (h σ hI zKF.rf)))
theorem p_M_can {x : Int32} (hI : zIM σ S) (hV : zSV S) (h : ∀ τ, zIM τ (zO_can S x).2 → zKM σ τ → Rf (zO_can S x).1 τ) : CA (d + 7) 178 [.ref 56, .int x] σ (ab_rI Rf) := by
  have hB := hI.1.1
  have n4 := hV.1.1.1.2.2.1
  refine e_M_can (b_M_can_0 (fun x4 => ?_) (fun x4 => b_M_can_5 (p_M_isGoose (r := 0) hB hV.1.1 (by omega) (b_M_can_11 (fun q => ?_) (fun q => ?_)))))
  · subst x4
    rw [zO_can, if_pos rfl] at h
    exact b_M_can_14 (p_M_canOfF (r := 0) hB hV.1.1 (by omega) (b_M_can_20 (b_M_can_29 (h σ hI zKM.rf))))
  · rw [zO_can, if_neg x4, if_neg (by rw [zb_0.mp q]; decide)] at h
    exact b_M_can_23 (p_M_bad hI (fun τ a b => b_M_can_29 (h τ a b)))
  · rw [zO_can, if_neg x4, if_pos (nbt q)] at h
    obtain ⟨i, hi, ha, rfl, e1⟩ := zal_i n4 (nbt q)
    rw [e1] at h
    exact b_M_can_14 (p_M_canOfG (r := 0) hB hV.1.1 (by omega) hi ha (b_M_can_20 (b_M_can_29 (h σ hI zKM.rf))))
end MO
