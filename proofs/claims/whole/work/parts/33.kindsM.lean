/-! KINDS in the reference -/
theorem p_M_size {d : Nat} {z : Int} {Rf : Int32 → ab_S → Prop} {σ : ab_S} (hz : -4 ≤ z ∧ z ≤ 4) (h : Rf (nI z.natAbs) σ) : CA (d + 1) 124 [.int (iI z)] σ (ab_rI Rf) := by
  have e := zi (z := z) (by omega)
  have en := zn (n := z.natAbs) (by omega)
  refine e_M_size ?_
  refine b_M_size_0  (fun c0 => ?_) (fun c0 => ?_)
  · refine b_M_size_9  ?_
    exact b_M_size_10   (zr h (by rw [fa_le, e, zt0] at c0; rw [fa_eq, en]; first | (rw [e]; omega) | (rw [fb_negI (by rw [e]; omega), e]; omega)))
  · refine b_M_size_4  ?_
    exact b_M_size_10   (zr h (by rw [fa_le, e, zt0] at c0; rw [fa_eq, en]; first | (rw [e]; omega) | (rw [fb_negI (by rw [e]; omega), e]; omega)))
theorem p_M_plainFox {d : Nat} {dx dy : Int} {Rf : Int32 → ab_S → Prop} {σ : ab_S} (hx : -4 ≤ dx ∧ dx ≤ 4) (hy : -4 ≤ dy ∧ dy ≤ 4) (h : Rf (zb (decide (dx.natAbs + dy.natAbs = 1))) σ) : CA (d + 2) 125 [.int (iI dx), .int (iI dy)] σ (ab_rI Rf) := by
  have e : (nI dx.natAbs + nI dy.natAbs = 1) ↔ dx.natAbs + dy.natAbs = 1 := by rw [nI_add]; exact zeq (b := 1) (by omega) (by omega)
  refine e_M_plainFox ?_
  refine b_M_plainFox_0  (p_M_size (by omega) ?_)
  refine b_M_plainFox_4  (p_M_size (by omega) ?_)
  refine d_M_plainFox_8  ?_
  exact b_M_plainFox_18  (by split <;> rfl) (zr h (by simp only [e, zb, decide_eq_true_eq]))
theorem p_M_slyFox {d : Nat} {dx dy : Int} {Rf : Int32 → ab_S → Prop} {σ : ab_S} (hx : -4 ≤ dx ∧ dx ≤ 4) (hy : -4 ≤ dy ∧ dy ≤ 4) (h : Rf (zb (decide (dx.natAbs + dy.natAbs = 1) || decide (dx.natAbs = 1 ∧ dy.natAbs = 1))) σ) : CA (d + 3) 126 [.int (iI dx), .int (iI dy)] σ (ab_rI Rf) := by
  have dxs1 : (nI dx.natAbs = 1) ↔ dx.natAbs = 1 := zeq (b := 1) (by omega) (by omega)
  have dxs2 : (nI dx.natAbs = 2) ↔ dx.natAbs = 2 := zeq (b := 2) (by omega) (by omega)
  have dx0 : (iI dx = 0) ↔ dx = 0 := by rw [fa_eq, zi (by omega), zt0]
  have dx1 : (iI dx = 1) ↔ dx = 1 := by rw [fa_eq, zi (by omega), zt1]
  have dxm : (iI dx = -1) ↔ dx = -1 := by rw [fa_eq, zi (by omega), ztm]
  have dys1 : (nI dy.natAbs = 1) ↔ dy.natAbs = 1 := zeq (b := 1) (by omega) (by omega)
  have dys2 : (nI dy.natAbs = 2) ↔ dy.natAbs = 2 := zeq (b := 2) (by omega) (by omega)
  have dy0 : (iI dy = 0) ↔ dy = 0 := by rw [fa_eq, zi (by omega), zt0]
  have dy1 : (iI dy = 1) ↔ dy = 1 := by rw [fa_eq, zi (by omega), zt1]
  have dym : (iI dy = -1) ↔ dy = -1 := by rw [fa_eq, zi (by omega), ztm]
  refine e_M_slyFox ?_
  refine b_M_slyFox_0  (p_M_plainFox (by omega) (by omega) ?_)
  refine b_M_slyFox_5  (fun c0 => ?_) (fun c0 => ?_)
  · refine b_M_slyFox_8  (p_M_size (by omega) ?_)
    refine b_M_slyFox_12  (fun c1 => ?_) (fun c1 => ?_)
    · refine b_M_slyFox_16  (p_M_size (by omega) ?_)
      refine d_M_slyFox_20  ?_
      exact b_M_slyFox_29  (by first | exact zna0 | exact zna1 | (split <;> rfl)) (zr h (by simp only [zb_0, dxs1, dys1, decide_eq_false_iff_not] at *; simp_all [zb]))
    · refine b_M_slyFox_28  ?_
      exact b_M_slyFox_29  (by first | exact zna0 | exact zna1 | (split <;> rfl)) (zr h (by simp only [zb_0, dxs1, dys1, decide_eq_false_iff_not] at *; simp_all [zb]))
  · refine b_M_slyFox_24  ?_
    exact b_M_slyFox_29  (by first | exact zna0 | exact zna1 | (split <;> rfl)) (zr h (by simp only [zb_0, dxs1, dys1, decide_eq_false_iff_not] at *; simp_all [zb]))
theorem p_M_leaperFox {d : Nat} {dx dy : Int} {over : Bool} {Rf : Int32 → ab_S → Prop} {σ : ab_S} (hx : -4 ≤ dx ∧ dx ≤ 4) (hy : -4 ≤ dy ∧ dy ≤ 4) (h : Rf (zb (decide (dx.natAbs + dy.natAbs = 1) || (over && decide (dx.natAbs = 2 ∧ dy = 0 ∨ dx = 0 ∧ dy.natAbs = 2)))) σ) : CA (d + 3) 127 [.int (iI dx), .int (iI dy), .int (zb over)] σ (ab_rI Rf) := by
  have dxs1 : (nI dx.natAbs = 1) ↔ dx.natAbs = 1 := zeq (b := 1) (by omega) (by omega)
  have dxs2 : (nI dx.natAbs = 2) ↔ dx.natAbs = 2 := zeq (b := 2) (by omega) (by omega)
  have dx0 : (iI dx = 0) ↔ dx = 0 := by rw [fa_eq, zi (by omega), zt0]
  have dx1 : (iI dx = 1) ↔ dx = 1 := by rw [fa_eq, zi (by omega), zt1]
  have dxm : (iI dx = -1) ↔ dx = -1 := by rw [fa_eq, zi (by omega), ztm]
  have dys1 : (nI dy.natAbs = 1) ↔ dy.natAbs = 1 := zeq (b := 1) (by omega) (by omega)
  have dys2 : (nI dy.natAbs = 2) ↔ dy.natAbs = 2 := zeq (b := 2) (by omega) (by omega)
  have dy0 : (iI dy = 0) ↔ dy = 0 := by rw [fa_eq, zi (by omega), zt0]
  have dy1 : (iI dy = 1) ↔ dy = 1 := by rw [fa_eq, zi (by omega), zt1]
  have dym : (iI dy = -1) ↔ dy = -1 := by rw [fa_eq, zi (by omega), ztm]
  refine e_M_leaperFox ?_
  refine b_M_leaperFox_0  (p_M_plainFox (by omega) (by omega) ?_)
  refine b_M_leaperFox_5  (fun c0 => ?_) (fun c0 => ?_)
  · refine b_M_leaperFox_8  (fun c1 => ?_) (fun c1 => ?_)
    · refine b_M_leaperFox_40  ?_
      exact b_M_leaperFox_41  (by first | exact zna0 | exact zna1 | (split <;> rfl)) (zr h (by simp only [zb_0, dxs2, dys2, dx0, dy0, decide_eq_false_iff_not, Bool.not_eq_false] at *; cases over <;> simp_all [zb]))
    · refine b_M_leaperFox_12  (p_M_size (by omega) ?_)
      refine b_M_leaperFox_16  (fun c2 => ?_) (fun c2 => ?_)
      · refine b_M_leaperFox_20  (fun c3 => ?_) (fun c3 => ?_)
        · refine b_M_leaperFox_36  ?_
          exact b_M_leaperFox_41  (by first | exact zna0 | exact zna1 | (split <;> rfl)) (zr h (by simp only [zb_0, dxs2, dys2, dx0, dy0, decide_eq_false_iff_not, Bool.not_eq_false] at *; cases over <;> simp_all [zb]))
        · refine b_M_leaperFox_24  (fun c4 => ?_) (fun c4 => ?_)
          · refine b_M_leaperFox_28  (p_M_size (by omega) ?_)
            refine d_M_leaperFox_32  ?_
            exact b_M_leaperFox_41  (by first | exact zna0 | exact zna1 | (split <;> rfl)) (zr h (by simp only [zb_0, dxs2, dys2, dx0, dy0, decide_eq_false_iff_not, Bool.not_eq_false] at *; cases over <;> simp_all [zb]))
          · refine b_M_leaperFox_40  ?_
            exact b_M_leaperFox_41  (by first | exact zna0 | exact zna1 | (split <;> rfl)) (zr h (by simp only [zb_0, dxs2, dys2, dx0, dy0, decide_eq_false_iff_not, Bool.not_eq_false] at *; cases over <;> simp_all [zb]))
      · refine b_M_leaperFox_24  (fun c3 => ?_) (fun c3 => ?_)
        · refine b_M_leaperFox_28  (p_M_size (by omega) ?_)
          refine d_M_leaperFox_32  ?_
          exact b_M_leaperFox_41  (by first | exact zna0 | exact zna1 | (split <;> rfl)) (zr h (by simp only [zb_0, dxs2, dys2, dx0, dy0, decide_eq_false_iff_not, Bool.not_eq_false] at *; cases over <;> simp_all [zb]))
        · refine b_M_leaperFox_40  ?_
          exact b_M_leaperFox_41  (by first | exact zna0 | exact zna1 | (split <;> rfl)) (zr h (by simp only [zb_0, dxs2, dys2, dx0, dy0, decide_eq_false_iff_not, Bool.not_eq_false] at *; cases over <;> simp_all [zb]))
  · refine b_M_leaperFox_36  ?_
    exact b_M_leaperFox_41  (by first | exact zna0 | exact zna1 | (split <;> rfl)) (zr h (by simp only [zb_0, dxs2, dys2, dx0, dy0, decide_eq_false_iff_not, Bool.not_eq_false] at *; cases over <;> simp_all [zb]))
theorem p_M_mayFox {d kind m : Nat} {dx dy : Int} {over : Bool} {Rf : Int32 → ab_S → Prop} {σ : ab_S} (hk : kind < 6) (hx : -4 ≤ dx ∧ dx ≤ 4) (hy : -4 ≤ dy ∧ dy ≤ 4) (hm : m < 1000000) (h : Rf (zb (zmf kind dx dy m over)) σ) : CA (d + 4) 128 [.int (nI kind), .int (iI dx), .int (iI dy), .int (nI m), .int (zb over)] σ (ab_rI Rf) := by
  have dxs1 : (nI dx.natAbs = 1) ↔ dx.natAbs = 1 := zeq (b := 1) (by omega) (by omega)
  have dxs2 : (nI dx.natAbs = 2) ↔ dx.natAbs = 2 := zeq (b := 2) (by omega) (by omega)
  have dx0 : (iI dx = 0) ↔ dx = 0 := by rw [fa_eq, zi (by omega), zt0]
  have dx1 : (iI dx = 1) ↔ dx = 1 := by rw [fa_eq, zi (by omega), zt1]
  have dxm : (iI dx = -1) ↔ dx = -1 := by rw [fa_eq, zi (by omega), ztm]
  have dys1 : (nI dy.natAbs = 1) ↔ dy.natAbs = 1 := zeq (b := 1) (by omega) (by omega)
  have dys2 : (nI dy.natAbs = 2) ↔ dy.natAbs = 2 := zeq (b := 2) (by omega) (by omega)
  have dy0 : (iI dy = 0) ↔ dy = 0 := by rw [fa_eq, zi (by omega), zt0]
  have dy1 : (iI dy = 1) ↔ dy = 1 := by rw [fa_eq, zi (by omega), zt1]
  have dym : (iI dy = -1) ↔ dy = -1 := by rw [fa_eq, zi (by omega), ztm]
  have em : nI m - nI m / 2 * 2 = nI (m % 2) := zrem (d := 2) (by omega) (by omega) (by omega)
  have e0 : (nI (m % 2) = 0) ↔ m % 2 = 0 := zeq (b := 0) (by omega) (by omega)
  have e1 : (nI (m % 2) = 1) ↔ m % 2 = 1 := zeq (b := 1) (by omega) (by omega)
  have hkd : ∀ c : Nat, c < 6 → nI kind = nI c → kind = c := fun c hc q => (zeq (by omega) (by omega)).mp q
  refine e_M_mayFox ?_
  refine b_M_mayFox_0  (fun c0 => ?_) (fun c0 => ?_) (fun c0 => ?_) (fun c0 => ?_) (fun c0 => ?_) (fun c0 => ?_)
  · refine b_M_mayFox_36  (p_M_slyFox (by omega) (by omega) ?_)
    exact b_M_mayFox_41  (by first | exact zb_nar _ | exact zna0 | exact zna1 | (split <;> first | rfl | (split <;> first | rfl | (split <;> rfl)))) (zr h (by obtain rfl := hkd 1 (by omega) c0; rfl))
  · refine b_M_mayFox_42  (p_M_leaperFox (by omega) (by omega) ?_)
    exact b_M_mayFox_49  (by first | exact zb_nar _ | exact zna0 | exact zna1 | (split <;> first | rfl | (split <;> first | rfl | (split <;> rfl)))) (zr h (by obtain rfl := hkd 2 (by omega) c0; rfl))
  · refine b_M_mayFox_50  (p_M_plainFox (by omega) (by omega) ?_)
    refine d_M_mayFox_55  ?_
    exact b_M_mayFox_73  (by first | exact zb_nar _ | exact zna0 | exact zna1 | (split <;> first | rfl | (split <;> first | rfl | (split <;> rfl)))) (zr h (by obtain rfl := hkd 3 (by omega) c0; simp only [em, e0, dy0]; by_cases a : dx.natAbs + dy.natAbs = 1 <;> by_cases b : m % 2 = 0 <;> by_cases c : dy = 0 <;> simp [a, b, c, zmf, zb]))
  · refine b_M_mayFox_74  (p_M_leaperFox (by omega) (by omega) ?_)
    refine b_M_mayFox_81  (fun c1 => ?_) (fun c1 => ?_)
    · refine b_M_mayFox_84  (fun c2 => ?_) (fun c2 => ?_)
      · refine b_M_mayFox_109  ?_
        exact b_M_mayFox_110  (by first | exact zb_nar _ | exact zna0 | exact zna1 | (split <;> first | rfl | (split <;> first | rfl | (split <;> rfl)))) (zr h (by obtain rfl := hkd 4 (by omega) c0; simp only [zb_0, dxs2, dys2, Bool.not_eq_false] at *; by_cases q2 : dy.natAbs = 2 <;> simp_all [zmf, zb]))
      · refine b_M_mayFox_89  (p_M_size (by omega) ?_)
        refine b_M_mayFox_93  (fun c3 => ?_) (fun c3 => ?_)
        · refine b_M_mayFox_97  (p_M_size (by omega) ?_)
          refine d_M_mayFox_101  ?_
          exact b_M_mayFox_110  (by first | exact zb_nar _ | exact zna0 | exact zna1 | (split <;> first | rfl | (split <;> first | rfl | (split <;> rfl)))) (zr h (by obtain rfl := hkd 4 (by omega) c0; simp only [zb_0, dxs2, dys2, Bool.not_eq_false] at *; by_cases q2 : dy.natAbs = 2 <;> simp_all [zmf, zb]))
        · refine b_M_mayFox_109  ?_
          exact b_M_mayFox_110  (by first | exact zb_nar _ | exact zna0 | exact zna1 | (split <;> first | rfl | (split <;> first | rfl | (split <;> rfl)))) (zr h (by obtain rfl := hkd 4 (by omega) c0; simp only [zb_0, dxs2, dys2, Bool.not_eq_false] at *; by_cases q2 : dy.natAbs = 2 <;> simp_all [zmf, zb]))
    · refine b_M_mayFox_105  ?_
      exact b_M_mayFox_110  (by first | exact zb_nar _ | exact zna0 | exact zna1 | (split <;> first | rfl | (split <;> first | rfl | (split <;> rfl)))) (zr h (by obtain rfl := hkd 4 (by omega) c0; simp only [zb_0, dxs2, dys2, Bool.not_eq_false] at *; by_cases q2 : dy.natAbs = 2 <;> simp_all [zmf, zb]))
  · refine b_M_mayFox_111  (fun c1 => ?_) (fun c1 => ?_)
    · refine b_M_mayFox_118  (p_M_plainFox (by omega) (by omega) ?_)
      refine b_M_mayFox_123  ?_
      exact b_M_mayFox_131  (by first | exact zb_nar _ | exact zna0 | exact zna1 | (split <;> first | rfl | (split <;> first | rfl | (split <;> rfl)))) (zr h (by obtain rfl := hkd 5 (by omega) c0; rw [em, e1] at c1; by_cases a : dx.natAbs + dy.natAbs = 1 <;> by_cases b : dx.natAbs = 1 ∧ dy.natAbs = 1 <;> simp [a, b, c1, zmf, zb] <;> omega))
    · refine b_M_mayFox_126  (p_M_slyFox (by omega) (by omega) ?_)
      exact b_M_mayFox_131  (by first | exact zb_nar _ | exact zna0 | exact zna1 | (split <;> first | rfl | (split <;> first | rfl | (split <;> rfl)))) (zr h (by obtain rfl := hkd 5 (by omega) c0; rw [em, e1] at c1; by_cases a : dx.natAbs + dy.natAbs = 1 <;> by_cases b : dx.natAbs = 1 ∧ dy.natAbs = 1 <;> simp [a, b, c1, zmf, zb] <;> omega))
  · refine b_M_mayFox_132  (p_M_plainFox (by omega) (by omega) ?_)
    exact b_M_mayFox_137  (by first | exact zb_nar _ | exact zna0 | exact zna1 | (split <;> first | rfl | (split <;> first | rfl | (split <;> rfl)))) (zr h (by have : kind = 0 := (by rw [zn (by omega)] at c0; omega); subst this; rfl))
theorem p_M_plainGoose {d : Nat} {dx dy : Int} {Rf : Int32 → ab_S → Prop} {σ : ab_S} (hx : -4 ≤ dx ∧ dx ≤ 4) (hy : -4 ≤ dy ∧ dy ≤ 4) (h : Rf (zb (zgp dx dy)) σ) : CA (d + 2) 129 [.int (iI dx), .int (iI dy)] σ (ab_rI Rf) := by
  have dxs1 : (nI dx.natAbs = 1) ↔ dx.natAbs = 1 := zeq (b := 1) (by omega) (by omega)
  have dxs2 : (nI dx.natAbs = 2) ↔ dx.natAbs = 2 := zeq (b := 2) (by omega) (by omega)
  have dx0 : (iI dx = 0) ↔ dx = 0 := by rw [fa_eq, zi (by omega), zt0]
  have dx1 : (iI dx = 1) ↔ dx = 1 := by rw [fa_eq, zi (by omega), zt1]
  have dxm : (iI dx = -1) ↔ dx = -1 := by rw [fa_eq, zi (by omega), ztm]
  have dys1 : (nI dy.natAbs = 1) ↔ dy.natAbs = 1 := zeq (b := 1) (by omega) (by omega)
  have dys2 : (nI dy.natAbs = 2) ↔ dy.natAbs = 2 := zeq (b := 2) (by omega) (by omega)
  have dy0 : (iI dy = 0) ↔ dy = 0 := by rw [fa_eq, zi (by omega), zt0]
  have dy1 : (iI dy = 1) ↔ dy = 1 := by rw [fa_eq, zi (by omega), zt1]
  have dym : (iI dy = -1) ↔ dy = -1 := by rw [fa_eq, zi (by omega), ztm]
  refine e_M_plainGoose ?_
  refine b_M_plainGoose_0  (fun c0 => ?_) (fun c0 => ?_)
  · refine b_M_plainGoose_4  (fun c1 => ?_) (fun c1 => ?_)
    · refine b_M_plainGoose_21  ?_
      exact b_M_plainGoose_26  (by first | exact zna0 | exact zna1 | (split <;> rfl)) (zr h (by simp only [dxs1, dx0, dy0, dy1] at *; simp_all [zgp, zb]))
    · refine b_M_plainGoose_9  (fun c2 => ?_) (fun c2 => ?_)
      · refine b_M_plainGoose_13  (p_M_size (by omega) ?_)
        refine d_M_plainGoose_17  ?_
        exact b_M_plainGoose_26  (by first | exact zna0 | exact zna1 | (split <;> rfl)) (zr h (by simp only [dxs1, dx0, dy0, dy1] at *; simp_all [zgp, zb]))
      · refine b_M_plainGoose_25  ?_
        exact b_M_plainGoose_26  (by first | exact zna0 | exact zna1 | (split <;> rfl)) (zr h (by simp only [dxs1, dx0, dy0, dy1] at *; simp_all [zgp, zb]))
  · refine b_M_plainGoose_9  (fun c1 => ?_) (fun c1 => ?_)
    · refine b_M_plainGoose_13  (p_M_size (by omega) ?_)
      refine d_M_plainGoose_17  ?_
      exact b_M_plainGoose_26  (by first | exact zna0 | exact zna1 | (split <;> rfl)) (zr h (by simp only [dxs1, dx0, dy0, dy1] at *; simp_all [zgp, zb]))
    · refine b_M_plainGoose_25  ?_
      exact b_M_plainGoose_26  (by first | exact zna0 | exact zna1 | (split <;> rfl)) (zr h (by simp only [dxs1, dx0, dy0, dy1] at *; simp_all [zgp, zb]))
theorem p_M_boldGoose {d : Nat} {dx dy : Int} {Rf : Int32 → ab_S → Prop} {σ : ab_S} (hx : -4 ≤ dx ∧ dx ≤ 4) (hy : -4 ≤ dy ∧ dy ≤ 4) (h : Rf (zb (zgb dx dy)) σ) : CA (d + 3) 130 [.int (iI dx), .int (iI dy)] σ (ab_rI Rf) := by
  have dxs1 : (nI dx.natAbs = 1) ↔ dx.natAbs = 1 := zeq (b := 1) (by omega) (by omega)
  have dxs2 : (nI dx.natAbs = 2) ↔ dx.natAbs = 2 := zeq (b := 2) (by omega) (by omega)
  have dx0 : (iI dx = 0) ↔ dx = 0 := by rw [fa_eq, zi (by omega), zt0]
  have dx1 : (iI dx = 1) ↔ dx = 1 := by rw [fa_eq, zi (by omega), zt1]
  have dxm : (iI dx = -1) ↔ dx = -1 := by rw [fa_eq, zi (by omega), ztm]
  have dys1 : (nI dy.natAbs = 1) ↔ dy.natAbs = 1 := zeq (b := 1) (by omega) (by omega)
  have dys2 : (nI dy.natAbs = 2) ↔ dy.natAbs = 2 := zeq (b := 2) (by omega) (by omega)
  have dy0 : (iI dy = 0) ↔ dy = 0 := by rw [fa_eq, zi (by omega), zt0]
  have dy1 : (iI dy = 1) ↔ dy = 1 := by rw [fa_eq, zi (by omega), zt1]
  have dym : (iI dy = -1) ↔ dy = -1 := by rw [fa_eq, zi (by omega), ztm]
  refine e_M_boldGoose ?_
  refine b_M_boldGoose_0  (p_M_plainGoose (by omega) (by omega) ?_)
  refine b_M_boldGoose_5  (fun c0 => ?_) (fun c0 => ?_)
  · refine b_M_boldGoose_8  (fun c1 => ?_) (fun c1 => ?_)
    · refine b_M_boldGoose_13  (p_M_size (by omega) ?_)
      refine d_M_boldGoose_17  ?_
      exact b_M_boldGoose_26  (by first | exact zna0 | exact zna1 | (split <;> rfl)) (zr h (by simp only [zb_0, dxs1, dy1, Bool.not_eq_false] at *; simp_all [zgb, zb]))
    · refine b_M_boldGoose_25  ?_
      exact b_M_boldGoose_26  (by first | exact zna0 | exact zna1 | (split <;> rfl)) (zr h (by simp only [zb_0, dxs1, dy1, Bool.not_eq_false] at *; simp_all [zgb, zb]))
  · refine b_M_boldGoose_21  ?_
    exact b_M_boldGoose_26  (by first | exact zna0 | exact zna1 | (split <;> rfl)) (zr h (by simp only [zb_0, dxs1, dy1, Bool.not_eq_false] at *; simp_all [zgb, zb]))
theorem p_M_shyGoose {d m : Nat} {dx dy : Int} {Rf : Int32 → ab_S → Prop} {σ : ab_S} (hx : -4 ≤ dx ∧ dx ≤ 4) (hy : -4 ≤ dy ∧ dy ≤ 4) (hm : m < 1000000) (h : Rf (zb (zgs dx dy m)) σ) : CA (d + 3) 131 [.int (iI dx), .int (iI dy), .int (nI m)] σ (ab_rI Rf) := by
  have dxs1 : (nI dx.natAbs = 1) ↔ dx.natAbs = 1 := zeq (b := 1) (by omega) (by omega)
  have dxs2 : (nI dx.natAbs = 2) ↔ dx.natAbs = 2 := zeq (b := 2) (by omega) (by omega)
  have dx0 : (iI dx = 0) ↔ dx = 0 := by rw [fa_eq, zi (by omega), zt0]
  have dx1 : (iI dx = 1) ↔ dx = 1 := by rw [fa_eq, zi (by omega), zt1]
  have dxm : (iI dx = -1) ↔ dx = -1 := by rw [fa_eq, zi (by omega), ztm]
  have dys1 : (nI dy.natAbs = 1) ↔ dy.natAbs = 1 := zeq (b := 1) (by omega) (by omega)
  have dys2 : (nI dy.natAbs = 2) ↔ dy.natAbs = 2 := zeq (b := 2) (by omega) (by omega)
  have dy0 : (iI dy = 0) ↔ dy = 0 := by rw [fa_eq, zi (by omega), zt0]
  have dy1 : (iI dy = 1) ↔ dy = 1 := by rw [fa_eq, zi (by omega), zt1]
  have dym : (iI dy = -1) ↔ dy = -1 := by rw [fa_eq, zi (by omega), ztm]
  have em : nI m - nI m / 4 * 4 = nI (m % 4) := zrem (d := 4) (by omega) (by omega) (by omega)
  have e2 : (nI (m % 4) < 2) ↔ m % 4 < 2 := zlt (b := 2) (by omega) (by omega)
  refine e_M_shyGoose ?_
  refine b_M_shyGoose_0  (p_M_plainGoose (by omega) (by omega) ?_)
  refine d_M_shyGoose_5  ?_
  exact b_M_shyGoose_25  (by first | exact zna0 | exact zna1 | (split <;> first | rfl | (split <;> first | rfl | (split <;> rfl)))) (zr h (by simp only [em, e2, dy1]; obtain ⟨z, hz⟩ : ∃ z, zgp dx dy = z := ⟨_, rfl⟩; rw [zgs, hz]; cases z <;> by_cases a : m % 4 < 2 <;> by_cases b : dy = 1 <;> simp [a, b, zb]))
theorem p_M_mayGoose {d kind m : Nat} {dx dy : Int} {Rf : Int32 → ab_S → Prop} {σ : ab_S} (hk : kind < 6) (hx : -4 ≤ dx ∧ dx ≤ 4) (hy : -4 ≤ dy ∧ dy ≤ 4) (hm : m < 1000000) (h : Rf (zb (zmg kind dx dy m)) σ) : CA (d + 4) 132 [.int (nI kind), .int (iI dx), .int (iI dy), .int (nI m)] σ (ab_rI Rf) := by
  have dxs1 : (nI dx.natAbs = 1) ↔ dx.natAbs = 1 := zeq (b := 1) (by omega) (by omega)
  have dxs2 : (nI dx.natAbs = 2) ↔ dx.natAbs = 2 := zeq (b := 2) (by omega) (by omega)
  have dx0 : (iI dx = 0) ↔ dx = 0 := by rw [fa_eq, zi (by omega), zt0]
  have dx1 : (iI dx = 1) ↔ dx = 1 := by rw [fa_eq, zi (by omega), zt1]
  have dxm : (iI dx = -1) ↔ dx = -1 := by rw [fa_eq, zi (by omega), ztm]
  have dys1 : (nI dy.natAbs = 1) ↔ dy.natAbs = 1 := zeq (b := 1) (by omega) (by omega)
  have dys2 : (nI dy.natAbs = 2) ↔ dy.natAbs = 2 := zeq (b := 2) (by omega) (by omega)
  have dy0 : (iI dy = 0) ↔ dy = 0 := by rw [fa_eq, zi (by omega), zt0]
  have dy1 : (iI dy = 1) ↔ dy = 1 := by rw [fa_eq, zi (by omega), zt1]
  have dym : (iI dy = -1) ↔ dy = -1 := by rw [fa_eq, zi (by omega), ztm]
  have em : nI m - nI m / 6 * 6 = nI (m % 6) := zrem (d := 6) (by omega) (by omega) (by omega)
  have e6 : ((4 : Int32) ≤ nI (m % 6)) ↔ 4 ≤ m % 6 := zle (a := 4) (by omega) (by omega)
  have hkd : ∀ c : Nat, c < 6 → nI kind = nI c → kind = c := fun c hc q => (zeq (by omega) (by omega)).mp q
  refine e_M_mayGoose ?_
  refine b_M_mayGoose_0  (fun c0 => ?_) (fun c0 => ?_) (fun c0 => ?_) (fun c0 => ?_) (fun c0 => ?_) (fun c0 => ?_)
  · refine b_M_mayGoose_36  (p_M_boldGoose (by omega) (by omega) ?_)
    exact b_M_mayGoose_41  (by first | exact zb_nar _ | exact zna0 | exact zna1 | (split <;> first | rfl | (split <;> first | rfl | (split <;> rfl)))) (zr h (by obtain rfl := hkd 1 (by omega) c0; rfl))
  · refine b_M_mayGoose_42  (p_M_shyGoose (by omega) (by omega) (by omega) ?_)
    exact b_M_mayGoose_48  (by first | exact zb_nar _ | exact zna0 | exact zna1 | (split <;> first | rfl | (split <;> first | rfl | (split <;> rfl)))) (zr h (by obtain rfl := hkd 2 (by omega) c0; rfl))
  · refine b_M_mayGoose_49  (p_M_boldGoose (by omega) (by omega) ?_)
    refine d_M_mayGoose_54  ?_
    exact b_M_mayGoose_71  (by first | exact zb_nar _ | exact zna0 | exact zna1 | (split <;> first | rfl | (split <;> first | rfl | (split <;> rfl)))) (zr h (by obtain rfl := hkd 3 (by omega) c0; simp only [dx0, dym]; obtain ⟨z, hz⟩ : ∃ z, zgb dx dy = z := ⟨_, rfl⟩; rw [show zmg 3 dx dy m = (zgb dx dy || decide (dx = 0 ∧ dy = -1)) from rfl, hz]; cases z <;> by_cases b : dx = 0 <;> by_cases c : dy = -1 <;> simp [b, c, zb]))
  · refine b_M_mayGoose_72  (fun c1 => ?_) (fun c1 => ?_)
    · refine b_M_mayGoose_93  ?_
      exact b_M_mayGoose_94  (by first | exact zb_nar _ | exact zna0 | exact zna1 | (split <;> first | rfl | (split <;> first | rfl | (split <;> rfl)))) (zr h (by obtain rfl := hkd 4 (by omega) c0; rw [em, e6] at c1; rw [show zmg 4 dx dy m = (decide (m % 6 < 4) && zgs dx dy m) from rfl]; first | (rw [show decide (m % 6 < 4) = true by simp; omega]; cases zgs dx dy m <;> rfl) | (rw [show decide (m % 6 < 4) = false by simp; omega]; rfl)))
    · refine b_M_mayGoose_80  (p_M_shyGoose (by omega) (by omega) (by omega) ?_)
      refine d_M_mayGoose_86  ?_
      exact b_M_mayGoose_94  (by first | exact zb_nar _ | exact zna0 | exact zna1 | (split <;> first | rfl | (split <;> first | rfl | (split <;> rfl)))) (zr h (by obtain rfl := hkd 4 (by omega) c0; rw [em, e6] at c1; rw [show zmg 4 dx dy m = (decide (m % 6 < 4) && zgs dx dy m) from rfl]; first | (rw [show decide (m % 6 < 4) = true by simp; omega]; cases zgs dx dy m <;> rfl) | (rw [show decide (m % 6 < 4) = false by simp; omega]; rfl)))
  · refine b_M_mayGoose_95  (p_M_plainGoose (by omega) (by omega) ?_)
    refine d_M_mayGoose_100  ?_
    exact b_M_mayGoose_113  (by first | exact zb_nar _ | exact zna0 | exact zna1 | (split <;> first | rfl | (split <;> first | rfl | (split <;> rfl)))) (zr h (by obtain rfl := hkd 5 (by omega) c0; simp only [dy1]; obtain ⟨z, hz⟩ : ∃ z, zgp dx dy = z := ⟨_, rfl⟩; rw [show zmg 5 dx dy m = (zgp dx dy && decide (dy = 1)) from rfl, hz]; cases z <;> by_cases c : dy = 1 <;> simp [c, zb]))
  · refine b_M_mayGoose_114  (p_M_plainGoose (by omega) (by omega) ?_)
    exact b_M_mayGoose_119  (by first | exact zb_nar _ | exact zna0 | exact zna1 | (split <;> first | rfl | (split <;> first | rfl | (split <;> rfl)))) (zr h (by have : kind = 0 := (by rw [zn (by omega)] at c0; omega); subst this; rfl))
