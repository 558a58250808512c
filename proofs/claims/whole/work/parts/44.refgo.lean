/-! the reference: moves of a board at row r -/
section RG
variable {d r : Nat} {B : zB} {Rf : Int32 → ab_S → Prop} {σ : ab_S}
theorem zdxy {f c : Nat} (hV : zV B) (hf : f < B 0 * B 1) (hc : c < B 0 * B 1) : (-4 ≤ zdx B f c ∧ zdx B f c ≤ 4) ∧ (-4 ≤ zdy B f c ∧ zdy B f c ≤ 4) := by
  obtain ⟨⟨hw, hh, -⟩, -⟩ := id hV
  have a1 := Nat.mod_lt f (show 0 < B 0 by omega)
  have a2 := Nat.mod_lt c (show 0 < B 0 by omega)
  have a3 : f / B 0 < B 1 := Nat.div_lt_of_lt_mul hf
  have a4 : c / B 0 < B 1 := Nat.div_lt_of_lt_mul hc
  have b3 := Nat.zero_le (f / B 0)
  have b4 := Nat.zero_le (c / B 0)
  unfold zdx zdy
  generalize f / B 0 = u at *
  generalize c / B 0 = v at *
  omega
theorem zfs_fr {c : Nat} (hc : c < B 0 * B 1) : (zfr B c && zmf (B 4) (zdx B (B 5) c) (zdy B (B 5) c) (B 7) (zov B (B 5) c)) = zfs B (B 5) (B 7) true c := by
  unfold zfs zfr
  by_cases q : B 5 = c
  · subst q
    have e1 : zdx B (B 5) (B 5) = 0 := by unfold zdx; omega
    have e2 : zdy B (B 5) (B 5) = 0 := by unfold zdy; omega
    rw [e1, e2, zmf_0]
    simp
  · simp [q]
theorem p_M_mayGoF {c : Nat} (hB : zR σ r B) (hV : zV B) (hr : r ≤ 620) (hc : c < B 0 * B 1) (h : Rf (zb (zfs B (B 5) (B 7) true c)) σ) : CA (d + 5) 136 [.ref 56, .int (nI r), .int 4, .int (nI c)] σ (ab_rI Rf) := by
  obtain ⟨⟨hw, hh, hn4, h3, h4, h5, h6, h7⟩, hq, -⟩ := id hV
  have h25 := hV.n
  have R0 : σ.1 57 (Int32.toNatClampNeg (nI r + 0)) = nI (B 0) := hB.at 0 (by omega) hr
  have R4 : σ.1 57 (Int32.toNatClampNeg (nI r + 4)) = nI (B 4) := hB.at 4 (by omega) hr
  have R5 : σ.1 57 (Int32.toNatClampNeg (nI r + 5)) = nI (B 5) := hB.at 5 (by omega) hr
  have R7 : σ.1 57 (Int32.toNatClampNeg (nI r + 7)) = nI (B 7) := hB.at 7 (by omega) hr
  have nz : ¬ σ.1 57 (Int32.toNatClampNeg (nI r + 0)) = 0 := by rw [R0, zlit 0, zeq (by omega) (by omega)]; omega
  have i0 := zin 0 (r := r) (by omega)
  have a3 := Nat.div_le_self (B 5) (B 0)
  have a4 := Nat.div_le_self c (B 0)
  have a1 := Nat.mod_lt (B 5) (show 0 < B 0 by omega)
  have a2 := Nat.mod_lt c (show 0 < B 0 by omega)
  obtain ⟨dx, dy⟩ := zdxy hV h5 hc
  rw [← zfs_fr hc] at h
  refine e_M_mayGo (b_M_mayGo_0 (fun _ => b_M_mayGo_5 (zin 5 (by omega)) ?_) (fun q => absurd rfl q))
  rw [R5]
  refine b_M_mayGo_27 i0 nz i0 nz i0 nz i0 nz (p_M_isFree hB hV hr (by omega) (b_M_mayGo_83 (fun q => ?_) (fun q => b_M_mayGo_88 (fun _ => ?_) (fun q => absurd rfl q)))) <;> rw [zb_0] at q
  · exact b_M_mayGo_86 (zr h (by rw [q]; rfl))
  · rw [R0, zrem (by omega) (by omega) (by omega), zrem (by omega) (by omega) (by omega), zdiv (by omega) (by omega) (by omega), zdiv (by omega) (by omega) (by omega), zsubI (by omega) (by omega), zsubI (by omega) (by omega)]
    refine b_M_mayGo_93 (zin 4 (by omega)) (zin 7 (by omega)) (p_M_gooseBetween hB hV hr (by omega) (by omega) (d_M_mayGo_122 ?_))
    rw [R4, R7]
    have e : (if (if zov B (B 5) c = true then nI (zgx B (zhw B (B 5) c - 1)) else -1) < 0 then (0 : Int32) else 1) = zb (zov B (B 5) c) := by
      cases hz : zov B (B 5) c
      · rfl
      · rw [if_pos rfl]
        have : zgx B (zhw B (B 5) c - 1) ≤ B 2 := fa_first_le _ _
        rw [if_neg (by rw [zlit 0, zlt (by omega) (by omega)]; omega)]
        rfl
    rw [e]
    exact b_M_mayGo_130 (p_M_mayFox h4 dx dy (by omega) (b_M_mayGo_133 (b_M_mayGo_163 (zb_nar _) (zr h (by rw [Bool.not_eq_false _ |>.mp q, Bool.true_and]; rfl)))))
theorem p_M_mayGoG {i c : Nat} (hB : zR σ r B) (hV : zV B) (hr : r ≤ 620) (hi : i < B 2) (ha : B (12 + i) ≠ 0) (hc : c < B 0 * B 1) (h : Rf (zb (zgr B i c)) σ) : CA (d + 5) 136 [.ref 56, .int (nI r), .int (nI i), .int (nI c)] σ (ab_rI Rf) := by
  obtain ⟨⟨hw, hh, hn4, h3, h4, h5, h6, h7⟩, hq, -⟩ := id hV
  have h25 := hV.n
  have hb := hq i hi
  have R0 : σ.1 57 (Int32.toNatClampNeg (nI r + 0)) = nI (B 0) := hB.at 0 (by omega) hr
  have R7 : σ.1 57 (Int32.toNatClampNeg (nI r + 7)) = nI (B 7) := hB.at 7 (by omega) hr
  have C : σ.1 57 (Int32.toNatClampNeg (nI r + 12 + nI i)) = zc (B (12 + i)) := hB.ci hn4 i hi hr
  have K : σ.1 57 (Int32.toNatClampNeg (nI r + 8 + nI i)) = nI (B (8 + i)) := hB.ki hn4 i hi hr
  have nz : ¬ σ.1 57 (Int32.toNatClampNeg (nI r + 0)) = 0 := by rw [R0, zlit 0, zeq (by omega) (by omega)]; omega
  have i0 := zin 0 (r := r) (by omega)
  have a3 := Nat.div_le_self (B (12 + i) - 1) (B 0)
  have a4 := Nat.div_le_self c (B 0)
  have a1 := Nat.mod_lt (B (12 + i) - 1) (show 0 < B 0 by omega)
  have a2 := Nat.mod_lt c (show 0 < B 0 by omega)
  have n4 : ¬ nI i = 4 := by rw [zlit 4, zeq (by omega) (by omega)]; omega
  obtain ⟨dx, dy⟩ := zdxy (f := B (12 + i) - 1) hV (by omega) hc
  refine e_M_mayGo (b_M_mayGo_0 (fun q => absurd q n4) (fun _ => b_M_mayGo_16 (zin2 12 i (by omega)) ?_))
  rw [C, zc_p ha]
  refine b_M_mayGo_27 i0 nz i0 nz i0 nz i0 nz (p_M_isFree hB hV hr (by omega) (b_M_mayGo_83 (fun q => ?_) (fun q => b_M_mayGo_88 (fun q => absurd q n4) (fun _ => ?_)))) <;> rw [zb_0] at q
  · exact b_M_mayGo_86 (zr h (by rw [zgr, q]; rfl))
  · rw [R0, zrem (by omega) (by omega) (by omega), zrem (by omega) (by omega) (by omega), zdiv (by omega) (by omega) (by omega), zdiv (by omega) (by omega) (by omega), zsubI (by omega) (by omega), zsubI (by omega) (by omega)]
    refine b_M_mayGo_136 (zin2 8 i (by omega)) (zin 7 (by omega)) ?_
    rw [K, R7]
    exact p_M_mayGoose hb.1 dx dy (by omega) (b_M_mayGo_163 (zb_nar _) (zr h (by rw [zgr, Bool.not_eq_false _ |>.mp q, Bool.true_and]; rfl)))
theorem p_M_canLoop {p : Nat → Bool} {who : Int32} {n : Nat} (h25 : n ≤ 25) (hgo : ∀ c (Q : Int32 → ab_S → Prop), c < n → Q (zb (p c)) σ → CA d 136 [.ref 56, .int (nI r), .int who, .int (nI c)] σ (ab_rI Q)) (h : Rf (nI (zst p n)) σ) : ∀ m i, n - i ≤ m → i ≤ n → S_M_canOf_12 d Rf (nI r) who (nI (zst p i)) (nI n) (nI i) σ := by
  intro m
  induction m with
  | zero =>
    intro i q1 q2
    have : i = n := by omega
    subst this
    exact b_M_canOf_12 (fun _ => b_M_canOf_47 h) (fun q => absurd (by rw [zle (by omega) (by omega)]; omega) q)
  | succ m ih =>
    intro i q1 q2
    by_cases qi : i = n
    · exact ih i (by omega) q2
    refine b_M_canOf_12 (fun q => absurd q (by rw [zle (by omega) (by omega)]; omega)) (fun _ => b_M_canOf_19 (hgo i _ (by omega) ?_))
    have hs := ih (i + 1) (by omega) (by omega)
    rw [zst] at hs
    refine b_M_canOf_28 (fun q => b_M_canOf_38 (b_M_canOf_39 ?_)) (fun q => b_M_canOf_31 (b_M_canOf_39 ?_)) <;> rw [zb_0] at q
    · rw [if_neg (by rw [q]; decide)] at hs
      rw [nI_1, zlit 0, fa_or]
      exact hs
    · rw [if_pos (Bool.not_eq_false _ |>.mp q)] at hs
      rw [nI_1, zshl _ (by omega), fa_or]
      exact hs
theorem p_M_canOfF (hB : zR σ r B) (hV : zV B) (hr : r ≤ 620) (h : Rf (nI (zfS B)) σ) : CA (d + 6) 137 [.ref 56, .int (nI r), .int 4] σ (ab_rI Rf) :=
  e_M_canOf (b_M_canOf_0 (p_M_cells hB hr (b_M_canOf_7 (p_M_canLoop (p := zfs B (B 5) (B 7) true) hV.n.2 (fun c Q hc hQ => p_M_mayGoF hB hV hr hc hQ) h _ 0 (Nat.le_refl _) (by omega)))))
theorem p_M_canOfG {i : Nat} (hB : zR σ r B) (hV : zV B) (hr : r ≤ 620) (hi : i < B 2) (ha : B (12 + i) ≠ 0) (h : Rf (nI (zgS B i)) σ) : CA (d + 6) 137 [.ref 56, .int (nI r), .int (nI i)] σ (ab_rI Rf) := by
  rw [zgS, if_neg ha] at h
  exact e_M_canOf (b_M_canOf_0 (p_M_cells hB hr (b_M_canOf_7 (p_M_canLoop (p := zgr B i) hV.n.2 (fun c Q hc hQ => p_M_mayGoG hB hV hr hi ha hc hQ) h _ 0 (Nat.le_refl _) (by omega)))))
theorem p_M_ones {s : Nat} (hs : s < 2147483648) (h : Rf (nI (zpc s 25)) σ) : CA (d + 1) 138 [.int (nI s)] σ (ab_rI Rf) := by
  have key : ∀ m i, 25 - i ≤ m → i ≤ 25 → S_M_ones_4 d Rf (nI s) (nI (zpc s i)) (nI i) σ := by
    intro m
    induction m with
    | zero =>
      intro i q1 q2
      have : i = 25 := by omega
      subst this
      exact b_M_ones_4 (fun _ => b_M_ones_24 h) (fun q => absurd (by decide) q)
    | succ m ih =>
      intro i q1 q2
      by_cases qi : i = 25
      · exact ih i (by omega) q2
      refine b_M_ones_4 (fun q => absurd q (by rw [zlit 25, zle (by omega) (by omega)]; omega)) (fun _ => b_M_ones_10 ?_)
      have hs2 := ih (i + 1) (by omega) (by omega)
      rw [zbit hs (by omega), nI_1]
      rw [zpc] at hs2
      cases ht : s.testBit i
      · rw [ht] at hs2
        exact cast (by rw [zb_f, Int32.add_zero]; rfl) hs2
      · rw [ht] at hs2
        exact cast (by rw [zb_t, nI_1]; rfl) hs2
  exact e_M_ones (b_M_ones_0 (key 25 0 (by omega) (by omega)))
theorem p_M_howOf (hB : zR σ r B) (hV : zV B) (hr : r ≤ 620) (h : Rf (nI (zhow B)) σ) : CA (d + 7) 139 [.ref 56, .int (nI r)] σ (ab_rI Rf) := by
  obtain ⟨⟨hw, hh, hn4, h3, h4, h5, h6, h7⟩, hq, -⟩ := id hV
  have h25 := hV.n
  have R0 : σ.1 57 (Int32.toNatClampNeg (nI r + 0)) = nI (B 0) := hB.at 0 (by omega) hr
  have R5 : σ.1 57 (Int32.toNatClampNeg (nI r + 5)) = nI (B 5) := hB.at 5 (by omega) hr
  have R6 : σ.1 57 (Int32.toNatClampNeg (nI r + 6)) = nI (B 6) := hB.at 6 (by omega) hr
  have hz := zfS_lt hV
  refine e_M_howOf (b_M_howOf_0 (zin 5 (by omega)) (zin 0 (by omega)) (fun q => b_M_howOf_23 (zin 6 (by omega)) (fun q2 => b_M_howOf_36 (p_M_canOfF hB hV hr (b_M_howOf_42 (fun q3 => ?_) (fun q3 => ?_)))) (fun q2 => ?_)) (fun q => ?_)) <;> rw [R0, R5, zle (by omega) (by omega)] at q
  · rw [R6, zlit 1, zeq (by omega) (by omega)] at q2
    rw [zlit 0, zeq (by omega) (by omega)] at q3
    exact b_M_howOf_45 (b_M_howOf_50 (zr h (by rw [zhow, if_neg (by omega), if_pos ⟨q2, q3⟩]; rfl)))
  · rw [zlit 0, zeq (by omega) (by omega)] at q3
    exact b_M_howOf_49 (b_M_howOf_50 (zr h (by rw [zhow, if_neg (by omega), if_neg (fun z => q3 z.2)]; rfl)))
  · rw [R6, zlit 1, zeq (by omega) (by omega)] at q2
    exact b_M_howOf_49 (b_M_howOf_50 (zr h (by rw [zhow, if_neg (by omega), if_neg (fun z => q2 z.1)]; rfl)))
  · exact b_M_howOf_19 (b_M_howOf_50 (zr h (by rw [zhow, if_pos (by omega)]; rfl)))
theorem zal_n {i : Nat} (hi : i < B 2) (h4 : B 2 ≤ 4) : zal B (nI i) = decide (B (12 + i) ≠ 0) := by
  rw [zal, zc_nI (by omega), zn (by omega), decide_eq_true (by omega), Bool.true_and]
theorem p_M_geeseCan (hB : zR σ r B) (hV : zV B) (hr : r ≤ 620) (h : Rf (zb (!zstuck B (B 2))) σ) : CA (d + 7) 140 [.ref 56, .int (nI r)] σ (ab_rI Rf) := by
  obtain ⟨⟨hw, hh, hn4, h3, h4, h5, h6, h7⟩, hq, -⟩ := id hV
  have h25 := hV.n
  have R2 : σ.1 57 (Int32.toNatClampNeg (nI r + 2)) = nI (B 2) := hB.at 2 (by omega) hr
  have key : ∀ m i, B 2 - i ≤ m → i ≤ B 2 → S_M_geeseCan_4 (d + 6) Rf (nI r) (zb (!zstuck B i)) (nI i) σ := by
    intro m
    induction m with
    | zero =>
      intro i q1 q2
      have : i = B 2 := by omega
      subst this
      exact b_M_geeseCan_4 (zin 2 (by omega)) (fun _ => b_M_geeseCan_50 (zb_nar _) h) (fun q => absurd (by rw [R2, zle (by omega) (by omega)]; omega) q)
    | succ m ih =>
      intro i q1 q2
      by_cases qi : i = B 2
      · exact ih i (by omega) q2
      have hi : i < B 2 := by omega
      have hs := ih (i + 1) (by omega) (by omega)
      have hz := zgS_lt hV i
      rw [← nI_1] at hs
      refine b_M_geeseCan_4 (zin 2 (by omega)) (fun q => absurd q (by rw [R2, zle (by omega) (by omega)]; omega)) (fun _ => b_M_geeseCan_16 (fun q => ?_) (fun q => ?_)) <;> rw [zb_0] at q
      · have q : zstuck B i = true := by simpa using q
        refine b_M_geeseCan_20 (p_M_isGoose hB hV hr ?_)
        rw [zal_n hi hn4]
        refine b_M_geeseCan_26 (fun g => ?_) (fun g => ?_) <;> rw [zb_0] at g
        · have g : B (12 + i) = 0 := by simpa using g
          refine b_M_geeseCan_42 (b_M_geeseCan_43 ?_)
          rw [zstuck, q, zgS, if_pos g] at hs
          exact hs
        · have g : B (12 + i) ≠ 0 := by simpa using g
          refine b_M_geeseCan_29 (p_M_canOfG hB hV hr hi g (b_M_geeseCan_35 (fun w => ?_) (fun w => ?_))) <;> rw [zlit 0, zeq (by omega) (by omega)] at w
          · refine b_M_geeseCan_42 (b_M_geeseCan_43 ?_)
            rw [zstuck, q, w] at hs
            exact hs
          · refine b_M_geeseCan_38 (b_M_geeseCan_43 ?_)
            rw [zstuck, q, decide_eq_false w] at hs
            exact hs
      · have q : zstuck B i = false := by simpa using q
        refine b_M_geeseCan_38 (b_M_geeseCan_43 ?_)
        rw [zstuck, q] at hs
        exact hs
  exact e_M_geeseCan (b_M_geeseCan_0 (key (B 2) 0 (by omega) (by omega)))
/-- a step that the rules allow, however many moves there were -/
def zmn (B : zB) (who c : Nat) : Bool := decide (B 6 = if who = 4 then 1 else 0) && decide (zhow B = 0) && (if who = 4 then (zfS B).testBit c else (zgS B who).testBit c)
theorem zmn_mm {who c : Nat} : zmm B who c = (zmn B who c && decide (B 7 < 9999)) := by
  unfold zmm zmn
  cases decide (B 7 < 9999) <;> simp
theorem zhow_lt : zhow B < 3 := by unfold zhow; split <;> (try split) <;> omega
theorem p_M_mayMove {who c : Nat} (hB : zR σ r B) (hV : zV B) (hr : r ≤ 620) (hw : who = 4 ∨ (who < B 2 ∧ B (12 + who) ≠ 0)) (hc : c < B 0 * B 1) (h : Rf (zb (zmn B who c)) σ) : CA (d + 8) 144 [.ref 56, .int (nI r), .int (nI who), .int (nI c)] σ (ab_rI Rf) := by
  obtain ⟨⟨-, hh, hn4, h3, h4, h5, h6, h7⟩, hq, -⟩ := id hV
  have h25 := hV.n
  have hl := zhow_lt (B := B)
  have R6 : σ.1 57 (Int32.toNatClampNeg (nI r + 6)) = nI (B 6) := hB.at 6 (by omega) hr
  have no : zmn B who c = false → S_M_mayMove_44 (d + 7) Rf σ := fun e => b_M_mayMove_44 (b_M_mayMove_45 zna0 (zr h (by rw [e]; rfl)))
  have fin : B 6 = (if who = 4 then 1 else 0) → S_M_mayMove_22 (d + 7) Rf (nI r) (nI who) (nI c) σ := fun et => by
    refine b_M_mayMove_22 (p_M_howOf hB hV hr (b_M_mayMove_27 (fun q => b_M_mayMove_30 ?_) (fun q => no ?_))) <;> rw [zlit 0, zeq (by omega) (by omega)] at q
    · rcases hw with rfl | ⟨hi, ha⟩
      · refine p_M_mayGoF hB hV hr hc ?_
        have e : zmn B 4 c = zfs B (B 5) (B 7) true c := by
          rw [zmn, decide_eq_true et, decide_eq_true q, if_pos rfl, zfS, zst_bit, decide_eq_true hc]
          simp
        rw [e] at h no
        exact b_M_mayMove_37 (fun g => no (zb_0.mp g)) (fun g => b_M_mayMove_40 (b_M_mayMove_45 zna1 (zr h (by rw [Bool.not_eq_false _ |>.mp (fun z => g (zb_0.mpr z))]; rfl))))
      · refine p_M_mayGoG hB hV hr hi ha hc ?_
        have e : zmn B who c = zgr B who c := by
          rw [zmn, decide_eq_true et, decide_eq_true q, if_neg (show ¬ who = 4 by omega), zgS, if_neg ha, zst_bit, decide_eq_true hc]
          simp
        rw [e] at h no
        exact b_M_mayMove_37 (fun g => no (zb_0.mp g)) (fun g => b_M_mayMove_40 (b_M_mayMove_45 zna1 (zr h (by rw [Bool.not_eq_false _ |>.mp (fun z => g (zb_0.mpr z))]; rfl))))
    · rw [zmn, decide_eq_false q]; simp
  refine e_M_mayMove (b_M_mayMove_0 (zin 6 (by omega)) (fun q => b_M_mayMove_14 (b_M_mayMove_19 (fun q2 => fin ?_) (fun q2 => no ?_))) (fun q => b_M_mayMove_18 (b_M_mayMove_19 (fun q2 => fin ?_) (fun q2 => no ?_)))) <;> rw [zlit 4, zeq (by omega) (by omega)] at q
  · rw [R6, zlit 1, zeq (by omega) (by omega)] at q2
    rw [if_pos q]; exact q2
  · rw [R6, zlit 1, zeq (by omega) (by omega)] at q2
    rw [zmn, if_pos q, decide_eq_false q2]; rfl
  · rw [R6, zlit 0, zeq (by omega) (by omega)] at q2
    rw [if_neg q]; exact q2
  · rw [R6, zlit 0, zeq (by omega) (by omega)] at q2
    rw [zmn, if_neg q, decide_eq_false q2]; rfl
/-- the geese may pass, however many moves there were -/
def zmpn (B : zB) : Bool := zstuck B (B 2) && decide (B 6 = 0) && decide (¬ B 5 < B 0)
theorem zmpn_mp : zmp B = (zmpn B && decide (B 7 < 9999)) := by
  unfold zmp zmpn
  cases decide (B 7 < 9999) <;> simp
theorem p_M_mayPass (hB : zR σ r B) (hV : zV B) (hr : r ≤ 620) (h : Rf (zb (zmpn B)) σ) : CA (d + 8) 145 [.ref 56, .int (nI r)] σ (ab_rI Rf) := by
  obtain ⟨⟨-, hh, hn4, h3, h4, h5, h6, h7⟩, hq, -⟩ := id hV
  have hl := zhow_lt (B := B)
  have R6 : σ.1 57 (Int32.toNatClampNeg (nI r + 6)) = nI (B 6) := hB.at 6 (by omega) hr
  have no : zmpn B = false → S_M_mayPass_32 (d + 7) Rf σ := fun e => b_M_mayPass_32 (b_M_mayPass_33 zna0 (zr h (by rw [e]; rfl)))
  refine e_M_mayPass (b_M_mayPass_0 (zin 6 (by omega)) (fun q => b_M_mayPass_12 (p_M_howOf hB hV hr (b_M_mayPass_17 (fun q2 => b_M_mayPass_20 (p_M_geeseCan hB hV hr (b_M_mayPass_25 (fun g => ?_) (fun g => no ?_)))) (fun q2 => no ?_)))) (fun q => no ?_)) <;> rw [R6, zlit 0, zeq (by omega) (by omega)] at q
  · rw [zlit 0, zeq (by omega) (by omega)] at q2
    rw [zb_0] at g
    have g : zstuck B (B 2) = true := by simpa using g
    have q3 : ¬ B 5 < B 0 := fun z => by rw [zhow, if_pos z] at q2; omega
    exact b_M_mayPass_28 (b_M_mayPass_33 zna1 (zr h (by rw [zmpn, g, decide_eq_true q, decide_eq_true q3]; rfl)))
  · rw [zb_0] at g
    have g : zstuck B (B 2) = false := by simpa using g
    rw [zmpn, g]; rfl
  · rw [zlit 0, zeq (by omega) (by omega)] at q2
    have q3 : B 5 < B 0 := by
      refine Decidable.byContradiction fun z => q2 ?_
      rw [zhow, if_neg z, if_neg (by omega)]
    rw [zmpn, decide_eq_false (show ¬ ¬ B 5 < B 0 from fun z => z q3)]; simp
  · rw [zmpn, decide_eq_false q]; simp
end RG
