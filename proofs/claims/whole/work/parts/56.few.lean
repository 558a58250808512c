/-! few, both sides -/
theorem zandG {a b : Nat} (ha : a < 2 ^ 32) : nI a &&& (nI b ^^^ (-1)) = nI (a ^^^ (a &&& b)) := by
  rw [show (-1 : Int32) = nI 4294967295 from by decide, fb_xorI, fa_and]
  congr 1
  apply Nat.eq_of_testBit_eq
  intro i
  rw [Nat.testBit_and, Nat.testBit_xor, Nat.testBit_xor, Nat.testBit_and, show 4294967295 = 2 ^ 32 - 1 from rfl, Nat.testBit_two_pow_sub_one]
  by_cases hi : i < 32
  · rw [decide_eq_true hi]
    cases a.testBit i <;> cases b.testBit i <;> rfl
  · rw [Nat.testBit_lt_two_pow (Nat.lt_of_lt_of_le ha (Nat.pow_le_pow_right (by omega) (by omega)))]
    simp
theorem zandm1 (x : Int32) : x &&& (-1) = x := Int32.and_neg_one
theorem zga_ext {B C : zB} (h : ∀ i, C (12 + i) = B (12 + i)) : ∀ n c, zga C n c = zga B n c
  | 0, _ => rfl
  | n + 1, c => by rw [zga, zga, zga_ext h n c, h n]
theorem zfs_ext {B C : zB} (h : ∀ j, j ≠ 5 → j ≠ 6 → j ≠ 7 → C j = B j) : zfs C = zfs B := by
  have g := zga_ext (B := B) (C := C) (fun i => h _ (by omega) (by omega) (by omega))
  funext f m og c
  have e1 : zff C c = zff B c := by unfold zff; rw [g, h 2 (by omega) (by omega) (by omega), h 3 (by omega) (by omega) (by omega)]
  have e2 : zhw C f c = zhw B f c := by unfold zhw; rw [h 0 (by omega) (by omega) (by omega)]
  have e3 : zov C f c = zov B f c := by unfold zov; rw [g, e2, h 2 (by omega) (by omega) (by omega)]
  have e4 : zdx C f c = zdx B f c := by unfold zdx; rw [h 0 (by omega) (by omega) (by omega)]
  have e5 : zdy C f c = zdy B f c := by unfold zdy; rw [h 0 (by omega) (by omega) (by omega)]
  unfold zfs
  rw [e1, e3, e4, e5, h 4 (by omega) (by omega) (by omega)]
def zat (B : zB) (c m : Nat) : zB := zup (zup B 5 c) 7 m
theorem zat_o {B : zB} {c m : Nat} (j : Nat) (h5 : j ≠ 5) (h7 : j ≠ 7) : zat B c m j = B j := by unfold zat zup; rw [if_neg h7, if_neg h5]
theorem zat_5 {B : zB} {c m : Nat} : zat B c m 5 = c := by unfold zat zup; rw [if_neg (by omega), if_pos rfl]
theorem zat_7 {B : zB} {c m : Nat} : zat B c m 7 = m := by unfold zat zup; rw [if_pos rfl]
theorem zV_at {B : zB} {c m : Nat} (hV : zV B) (hc : c < B 0 * B 1) (hf : zff B c = true) (hm : m < 100000) : zV (zat B c m) := by
  obtain ⟨⟨v0, v1, v2, v3, v4, v5, v6, v7⟩, w1, w2, w3, w4, w5⟩ := hV
  obtain ⟨f1, f2⟩ := zff_iff.mp hf
  unfold zV
  rw [zat_5, zat_7, zat_o 0 (by omega) (by omega), zat_o 1 (by omega) (by omega), zat_o 2 (by omega) (by omega), zat_o 3 (by omega) (by omega), zat_o 4 (by omega) (by omega), zat_o 6 (by omega) (by omega)]
  refine ⟨⟨v0, v1, v2, v3, v4, hc, v6, hm⟩, fun i hi => ?_, fun i hi => ?_, fun i j hij hj => ?_, f2, fun i hi a ha => ?_⟩
  · rw [zat_o _ (by omega) (by omega), zat_o _ (by omega) (by omega)]; exact w1 i hi
  · rw [zat_o _ (by omega) (by omega)]; exact f1 i hi
  · rw [zat_o _ (by omega) (by omega), zat_o _ (by omega) (by omega)]; exact w3 i j hij hj
  · rw [zat_o _ (by omega) (by omega)] at ha; exact w5 i hi a ha
/-- layers -/
def zfl (B : zB) : Nat → Nat
  | 0 => 2 ^ B 5
  | n + 1 => zwk B (zfl B n) (B 7 + n) 25
def zfv (B : zB) : Nat → Nat → Int32
  | 0, _ => -1
  | f + 1, n => if zfl B n &&& (2 ^ B 0 - 1) = 0 then zfv B f (n + 1) else nI n
theorem zwk_bit {B : zB} {s m c : Nat} : ∀ n, (zwk B s m n).testBit c = true → c < B 0 * B 1 ∧ zff B c = true
  | 0, h => by simp [zwk] at h
  | n + 1, h => by
    rw [zwk] at h
    split at h
    · rw [Nat.testBit_or, Bool.or_eq_true] at h
      rcases h with h | h
      · exact zwk_bit n h
      · rw [zst_bit, Bool.and_eq_true, decide_eq_true_eq] at h
        refine ⟨h.1, ?_⟩
        have := h.2
        unfold zfs at this
        rw [Bool.and_eq_true, Bool.and_eq_true] at this
        exact this.1.1
    · exact zwk_bit n h
theorem zfl_bit {B : zB} (hV : zV B) : ∀ n c, (zfl B n).testBit c = true → c < B 0 * B 1 ∧ zff B c = true
  | 0, c, h => by
    obtain ⟨⟨-, -, -, -, -, v5, -⟩, -, w2, -, w4, -⟩ := hV
    rw [zfl, Nat.testBit_two_pow] at h
    have : B 5 = c := of_decide_eq_true h
    subst this
    exact ⟨v5, zff_iff.mpr ⟨w2, w4⟩⟩
  | n + 1, c, h => zwk_bit 25 h
theorem zfl_lt {B : zB} (hV : zV B) (n : Nat) : zfl B n < 2 ^ (B 0 * B 1) := by
  apply Nat.lt_pow_two_of_testBit
  intro i hi
  cases hz : (zfl B n).testBit i with
  | false => rfl
  | true => have := (zfl_bit hV n i hz).1; omega
section FW
variable {d : Nat} {S : zS} {σ : ab_S} {Rf : Int32 → ab_S → Prop}
theorem zhome : ∀ w, w ≤ 5 → (1 <<< (nI w &&& 31)) - 1 = nI (2 ^ w - 1) := by decide +kernel
def zO_few (S : zS) : Int32 × zS := (zfv S.1.1 51 0, S)
theorem p_F_few (hI : zIF σ S) (hV : zSV S) (h : ∀ τ, zIF τ (zO_few S).2 → zKF σ τ → Rf (zO_few S).1 τ) : CA (d + 4) 83 [.ref 0] σ (ab_rI Rf) := by
  have h : Rf (zfv S.1.1 51 0) σ := h σ hI zKF.rf
  have h25 := hV.1.1.n
  have hB : zH σ 2 S.1.1 := hI.1.1
  have h7 := hV.1.2.1
  have hv := hV.1.1
  obtain ⟨⟨v0, -, -, -, -, v5, -⟩, -⟩ := id hv
  generalize S.1.1 = B at *
  have key : ∀ f n, f + n = 51 → Rf (zfv B f n) σ → S_F_few_27 (d + 3) Rf (nI (2 ^ B 0 - 1)) (nI (zfl B n)) (nI n) σ := by
    intro f
    induction f with
    | zero =>
      intro n q hR
      have : n = 51 := by omega
      subst this
      exact b_F_few_27 (fun _ => b_F_few_62 hR) (fun c => absurd (by decide) c)
    | succ f ih =>
      intro n q hR
      have hl := zfl_lt hv n
      have hl25 : zfl B n < 33554432 := Nat.lt_of_lt_of_le hl (Nat.pow_le_pow_right (by omega) h25.2)
      have hle : zfl B n &&& (2 ^ B 0 - 1) ≤ zfl B n := Nat.and_le_left
      rw [zfv] at hR
      refine b_F_few_27 (fun c => absurd c (by rw [zlit 50, zlt (by omega) (by omega)]; omega)) (fun _ => b_F_few_34 (fun c => b_F_few_43 ?_) (fun c => b_F_few_40 ?_)) <;> rw [fa_and, zlit 0, zeq (by omega) (by omega)] at c
      · rw [if_pos c] at hR
        rw [show σ.1 2 7 = nI (B 7) from hB.2.2.2.2.2.2.2.1, nI_add]
        refine p_B_walkOn zsh2 hB hv hl (by omega) (b_F_few_55 ?_)
        rw [nI_1]
        exact ih (n + 1) (by omega) hR
      · rw [if_neg c] at hR; exact hR
  refine e_F_few (b_F_few_0 ?_)
  rw [show σ.1 2 0 = nI (B 0) from hB.1, show σ.1 2 4 = nI (B 5) from hB.2.2.2.2.1, zhome _ v0.2, zshl _ (by omega)]
  exact key 51 0 rfl h
theorem p_M_stepsOf {B : zB} {c m : Nat} (hB : zR σ 540 (zat B c m)) (hV : zV B) (hc : c < B 0 * B 1) (hf : zff B c = true) (hm : m < 100000) (h : Rf (nI (zst (zfs B c m false) (B 0 * B 1))) σ) : CA (d + 7) 186 [.ref 56, .int (nI c)] σ (ab_rI Rf) := by
  have hv := zV_at hV hc hf hm
  have h25 := hV.n
  have ex : zfs (zat B c m) = zfs B := zfs_ext (fun j a _ b => zat_o j a b)
  have eN : zat B c m 0 * zat B c m 1 = B 0 * B 1 := by rw [zat_o 0 (by omega) (by omega), zat_o 1 (by omega) (by omega)]
  have eS : zfS (zat B c m) = zst (zfs B c m true) (B 0 * B 1) := by unfold zfS; rw [eN, zat_5, zat_7, ex]
  have eo : ∀ t, zov (zat B c m) c t = zov B c t := fun t => by
    have g := zga_ext (B := B) (C := zat B c m) (fun i => zat_o _ (by omega) (by omega))
    unfold zov zhw
    rw [g, zat_o 0 (by omega) (by omega), zat_o 2 (by omega) (by omega)]
  have cut : ∀ i, zst (fun j => zfs B c m true j && !(decide (j < i) && zov B c j)) (B 0 * B 1) < 2 ^ 32 := fun i => Nat.lt_of_lt_of_le (zst_lt _ _) (Nat.pow_le_pow_right (by omega) (by omega))
  have key : ∀ n i, B 0 * B 1 - i ≤ n → i ≤ B 0 * B 1 → S_M_stepsOf_20 (d + 6) Rf (nI c) (nI (zst (fun j => zfs B c m true j && !(decide (j < i) && zov B c j)) (B 0 * B 1))) (nI (B 0 * B 1)) (nI i) σ := by
    intro n
    induction n with
    | zero =>
      intro i q1 q2
      have : i = B 0 * B 1 := by omega
      subst this
      refine b_M_stepsOf_20 (fun _ => b_M_stepsOf_58 (zr h ?_)) (fun c => absurd (Int32.le_refl _) c)
      congr 1
      refine zst_eq (fun j hj => ?_)
      rw [decide_eq_true hj]
      unfold zfs
      cases zff B j <;> cases zov B c j <;> simp
    | succ n ih =>
      intro i q1 q2
      by_cases qi : i = B 0 * B 1
      · exact ih i (by omega) q2
      have hn := ih (i + 1) (by omega) (by omega)
      rw [← nI_1] at hn
      refine b_M_stepsOf_20 (fun q => absurd q (by rw [zle (by omega) (by omega)]; omega)) (fun _ => b_M_stepsOf_26 (p_M_gooseBetween (r := 540) hB hv (by omega) (by omega) (by omega) ?_))
      rw [eo]
      cases hz : zov B c i
      · rw [if_neg (by decide)]
        refine b_M_stepsOf_37 (fun _ => b_M_stepsOf_49 (b_M_stepsOf_50 ?_)) (fun q => absurd (by decide) q)
        rw [zandm1]
        refine cast ?_ hn
        congr 2
        refine zst_eq (fun j hj => ?_)
        by_cases e : j = i
        · subst e; rw [hz]; simp
        · have : decide (j < i + 1) = decide (j < i) := by rw [decide_eq_decide]; omega
          rw [this]
      · rw [if_pos rfl]
        have xl : zgx (zat B c m) (zhw (zat B c m) c i - 1) ≤ zat B c m 2 := fa_first_le _ _
        have n4 := hv.1.2.2.1
        refine b_M_stepsOf_37 (fun q => absurd q (by rw [zlit 0, zlt (by omega) (by omega)]; omega)) (fun _ => b_M_stepsOf_40 (b_M_stepsOf_50 ?_))
        rw [zshl _ (by omega), zandG (cut i)]
        refine cast ?_ hn
        congr 2
        apply Nat.eq_of_testBit_eq
        intro j
        rw [Nat.testBit_xor, Nat.testBit_and, zst_bit, zst_bit, Nat.testBit_two_pow]
        by_cases e : i = j
        · subst e; rw [hz]; simp
        · have : decide (j < i + 1) = decide (j < i) := by rw [decide_eq_decide]; omega
          rw [this, decide_eq_false e]; simp
  refine e_M_stepsOf (b_M_stepsOf_0 (p_M_canOfF (r := 540) hB hv (by omega) (b_M_stepsOf_8 (p_M_cells (r := 540) hB (by omega) (b_M_stepsOf_16 ?_)))))
  rw [eS, eN]
  have := key (B 0 * B 1) 0 (by omega) (by omega)
  refine cast ?_ this
  congr 2
  exact zst_eq (fun j hj => by simp)
theorem p_M_few (hI : zIM σ S) (hV : zSV S) (h : ∀ τ, zIM τ (zO_few S).2 → zKM σ τ → Rf (zO_few S).1 τ) : CA (d + 8) 185 [.ref 56] σ (ab_rI Rf) := by
  have h25 := hV.1.1.n
  have hB := hI.1.1
  have h7 := hV.1.2.1
  have hv := hV.1.1
  obtain ⟨⟨v0, -, v2, -, -, v5, -⟩, -⟩ := id hv
  have h : ∀ τ, zFR 540 556 σ τ → Rf (zfv S.1.1 51 0) τ := fun τ hF => h τ (hI.scr hV (fun j hj => hF.2.2 j (by omega)) (fun a ha => hF.2.1 a (by omega)) (by rw [hF.2.1 56 (by omega)]) (by rw [hF.1]) (by rw [hF.1])) hF.km
  generalize S.1.1 = B at *
  refine e_M_few (b_M_few_0 (p_M_copy (a := 0) (b := 540) (n := 16) (by omega) (by omega) (by omega) (fun τ hc hF => b_M_few_10 ?_)))
  have hB0 : zR τ 540 B := ⟨fun j hj => by rw [hc j (by omega)]; exact hB.1 j hj, fun i hi => ⟨by rw [show 540 + 8 + i = 540 + (8 + i) by omega, hc _ (by omega), show 0 + (8 + i) = 0 + 8 + i by omega]; exact (hB.2 i hi).1, by rw [show 540 + 12 + i = 540 + (12 + i) by omega, hc _ (by omega), show 0 + (12 + i) = 0 + 12 + i by omega]; exact (hB.2 i hi).2⟩⟩
  have e0 : B = zat B (B 5) (B 7 + 0) := by
    funext j
    unfold zat zup
    by_cases q : j = 7
    · rw [if_pos q, q]; rfl
    · rw [if_neg q]
      by_cases q2 : j = 5
      · rw [if_pos q2, q2]
      · rw [if_neg q2]
  have put5 : ∀ (υ : ab_S) c x m, zR υ 540 (zat B c m) → zR (ab_pI υ.1 57 545 (nI x), υ.2) 540 (zat B x m) := fun υ c x m hR => by
    have := hR.put (j := 5) (v := x) (show zat B c m 2 ≤ 4 from v2) (by omega) (by omega)
    have e : zup (zat B c m) 5 x = zat B x m := by
      funext j
      unfold zat zup
      by_cases q : j = 5
      · subst q; simp
      · simp [q]
    rw [e] at this
    exact this
  have put7 : ∀ (υ : ab_S) c m, zR υ 540 (zat B c m) → zR (ab_pI υ.1 57 547 (nI (m + 1)), υ.2) 540 (zat B c (m + 1)) := fun υ c m hR => by
    have := hR.put (j := 7) (v := m + 1) (show zat B c m 2 ≤ 4 from v2) (by omega) (by omega)
    have e : zup (zat B c m) 7 (m + 1) = zat B c (m + 1) := by
      funext j
      unfold zat zup
      by_cases q : j = 7
      · subst q; simp
      · simp [q]
    rw [e] at this
    exact this
  have key : ∀ f n x (υ : ab_S), f + n = 51 → zFR 540 556 σ υ → zR υ 540 (zat B x (B 7 + n)) → (∀ τ, zFR 540 556 σ τ → Rf (zfv B f n) τ) → S_M_few_32 (d + 7) Rf (nI (zfl B n)) (nI (2 ^ B 0 - 1)) (nI n) υ := by
    intro f
    induction f with
    | zero =>
      intro n x υ q hF hR hk
      have : n = 51 := by omega
      subst this
      exact b_M_few_32 (fun _ => b_M_few_116 (hk υ hF)) (fun c => absurd (by decide) c)
    | succ f ih =>
      intro n x υ q hF hR hk
      have hl := zfl_lt hv n
      have hl25 : zfl B n < 33554432 := Nat.lt_of_lt_of_le hl (Nat.pow_le_pow_right (by omega) h25.2)
      have hle : zfl B n &&& (2 ^ B 0 - 1) ≤ zfl B n := Nat.and_le_left
      simp only [zfv] at hk
      refine b_M_few_32 (fun c => absurd c (by rw [zlit 50, zlt (by omega) (by omega)]; omega)) (fun _ => b_M_few_38 (fun c => b_M_few_46 ?_) (fun c => b_M_few_44 ?_)) <;> rw [fa_and, zlit 0, zeq (by omega) (by omega)] at c
      · rw [if_pos c] at hk
        have inner : ∀ k i x (φ : ab_S), 25 - i ≤ k → i ≤ 25 → zFR 540 556 σ φ → zR φ 540 (zat B x (B 7 + n)) → S_M_few_52 (d + 7) Rf (nI (zfl B n)) (nI (2 ^ B 0 - 1)) (nI n) (nI (zwk B (zfl B n) (B 7 + n) i)) (nI i) φ := by
          intro k
          induction k with
          | zero =>
            intro i x φ r1 r2 hG hR2
            have : i = 25 := by omega
            subst this
            refine b_M_few_52 (fun _ => b_M_few_95 ?_) (fun c => absurd (by decide) c)
            have e7 : φ.1 57 547 = nI (B 7 + n) := by
              have := hR2.1 7 (by omega)
              rw [zat_7] at this
              exact this
            rw [e7, nI_1, nI_1]
            exact ih (n + 1) x _ (by omega) (hG.tr (zFR.put (by omega) (by omega))) (put7 φ x _ hR2) hk
          | succ k ih2 =>
            intro i x φ r1 r2 hG hR2
            by_cases qi : i = 25
            · exact ih2 i x φ (by omega) r2 hG hR2
            refine b_M_few_52 (fun c => absurd c (by rw [zlit 25, zle (by omega) (by omega)]; omega)) (fun _ => b_M_few_59 (p_M_has (by omega) (by omega) (b_M_few_65 (fun w => b_M_few_89 ?_) (fun w => b_M_few_68 ?_))))
            · have hn := ih2 (i + 1) x φ (by omega) (by omega) hG hR2
              rw [zwk, if_neg (by rw [zb_0.mp w]; decide), ← nI_1] at hn
              exact hn
            · obtain ⟨wc, wf⟩ := zfl_bit hv n i (nbt w)
              have hG2 : zFR 540 556 σ (ab_pI φ.1 57 545 (nI i), φ.2) := hG.tr (zFR.put (by omega) (by omega))
              have hn := ih2 (i + 1) i _ (by omega) (by omega) hG2 (put5 φ x i _ hR2)
              rw [zwk, if_pos (nbt w), ← nI_1, ← fa_or] at hn
              exact p_M_stepsOf (put5 φ x i _ hR2) hv wc wf (by omega) (b_M_few_86 (b_M_few_89 hn))
        exact inner 25 0 x υ (by omega) (by omega) hF hR
      · rw [if_neg c] at hk; exact hk υ hF
  rw [show τ.1 57 5 = nI (B 5) by rw [hF.2.2 5 (by omega)]; exact hB.1 5 (by omega), show τ.1 57 0 = nI (B 0) by rw [hF.2.2 0 (by omega)]; exact hB.1 0 (by omega), zhome _ v0.2, zshl _ (by omega)]
  rw [e0] at hB0
  exact key 51 0 (B 5) τ rfl hF hB0 h
end FW
