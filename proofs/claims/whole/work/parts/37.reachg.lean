/-! BOARDS: where the class's geese could step; who can move -/
theorem zmg_far {kind m : Nat} {dx dy : Int} (h : dx < -1 ∨ 1 < dx ∨ dy < -1 ∨ 1 < dy) : zmg kind dx dy m = false := by
  have a1 : zgp dx dy = false := by simp [zgp]; omega
  have a2 : zgb dx dy = false := by simp [zgb, a1]; omega
  have a3 : zgs dx dy m = false := by simp [zgs, a1]
  have a4 : ¬ (dx = 0 ∧ dy = -1) := by omega
  unfold zmg
  split <;> simp only [a1, a2, a3, a4, decide_false, Bool.and_false, Bool.or_false, Bool.false_and]
def zgr (B : zB) (i c : Nat) : Bool := zfr B c && zmg (B (8 + i)) (zdx B (B (12 + i) - 1) c) (zdy B (B (12 + i) - 1) c) (B 7)
def zgS (B : zB) (i : Nat) : Nat := if B (12 + i) = 0 then 0 else zst (zgr B i) (B 0 * B 1)
def zfS (B : zB) : Nat := zst (zfs B (B 5) (B 7) true) (B 0 * B 1)
section BG
variable {d k : Nat} {B : zB} {Rf : Int32 → ab_S → Prop} {σ : ab_S}
set_option maxHeartbeats 1000000 in
theorem p_B_gooseReach {i : Nat} (hk : ab_sh k = (0, 0)) (hB : zH σ k B) (hV : zV B) (hi : i < B 2) (h : Rf (nI (zgS B i)) σ) : CA (d + 2) 31 [.ref k, .int (nI i)] σ (ab_rI Rf) := by
  have h25 := hV.n
  obtain ⟨⟨⟨w3, w5⟩, ⟨h3, h5⟩, hn4, ht25, hk6, hfN, -, hm⟩, hq, -⟩ := id hV
  obtain ⟨hw, hh, hth, hfk, hfc, -, -, hmv, hg⟩ := id hB
  have hl := zgn_lt (B := B) (B 2) (fun i hi => by have := (hq i hi).2; omega)
  have w0 : ¬ nI (B 0) = 0 := by rw [zlit 0, zeq (by omega) (by omega)]; omega
  have hsh : B 3 ||| zgn B (B 2) ||| 2 ^ B 5 < 2 ^ 25 := Nat.or_lt_two_pow (Nat.or_lt_two_pow ht25 hl) (Nat.pow_lt_pow_right (by omega) (by omega))
  have e1 : Int32.toNatClampNeg (nI i) = i := zc_nI (by omega)
  have hin4 : vp_in (nI i) 4 := vp_in_nI (by omega) (by omega)
  obtain ⟨hki, hci⟩ := hq i hi
  have eal : zal B (nI i) = decide (B (12 + i) ≠ 0) := by
    rw [zal, e1, zn (by omega)]
    have : (0 : Int) ≤ (i : Int) ∧ (i : Int) < B 2 := by omega
    simp [this]
  refine e_B_gooseReach (b_B_gooseReach_0 hk (fun c => absurd c (by rw [hw, zlit 0, zle (by omega) (by omega)]; omega)) (fun _ => b_B_gooseReach_7 hk (p_B_isGooseAlive hk hB hV (b_B_gooseReach_12 (fun c => ?_) (fun c => ?_)))))
  · rw [zb_0, eal] at c
    have c : B (12 + i) = 0 := by simpa using c
    exact b_B_gooseReach_15 (zr h (by rw [zgS, if_pos c]; rfl))
  rw [zb_0, eal] at c
  have c : B (12 + i) ≠ 0 := by simpa using c
  rw [zgS, if_neg c] at h
  obtain ⟨f, hf1⟩ : ∃ f, B (12 + i) = f + 1 := ⟨B (12 + i) - 1, by omega⟩
  have ecell : σ.1 (k + 2) i = nI f := by rw [(hg i hi).2, hf1, zc_s]
  have mx : f % B 0 < B 0 := Nat.mod_lt _ (by omega)
  have my : f / B 0 < B 1 := Nat.div_lt_of_lt_mul (by omega)
  have epp : ∀ c, zgr B i c = (zfr B c && zmg (B (8 + i)) (zdx B f c) (zdy B f c) (B 7)) := fun c => by rw [zgr, show B (12 + i) - 1 = f by omega]
  have far : ∀ c, (c % B 0 + 1 < f % B 0 ∨ f % B 0 + 1 < c % B 0 ∨ c / B 0 + 1 < f / B 0 ∨ f / B 0 + 1 < c / B 0) → zgr B i c = false := fun c hc => by
    rw [epp, zmg_far (by unfold zdx zdy; omega), Bool.and_false]
  generalize zgr B i = p at *
  have inner : ∀ Y, Y < B 1 → f / B 0 ≤ Y + 1 → Y ≤ f / B 0 + 1 → (S_B_gooseReach_175 (d + 1) Rf k (nI i) (nI (f % B 0)) (nI (f / B 0)) (nI (B 3 ||| zgn B (B 2) ||| 2 ^ B 5)) (nI (zst p ((Y + 1) * B 0))) (nI Y) σ) →
      ∀ n X, B 0 - X ≤ n → X ≤ B 0 → S_B_gooseReach_97 (d + 1) Rf k (nI i) (nI (f % B 0)) (nI (f / B 0)) (nI (B 3 ||| zgn B (B 2) ||| 2 ^ B 5)) (nI (zst p (Y * B 0 + X))) (nI Y) (nI X) σ := by
    intro Y hY1 hY2 hY3 hnext n
    induction n with
    | zero =>
      intro X h1 h2
      have : X = B 0 := by omega
      subst this
      rw [Nat.add_mul, Nat.one_mul] at hnext
      exact b_B_gooseReach_97 hk (fun _ => hnext) (fun c => absurd (by rw [hw]; exact Int32.le_refl _) c)
    | succ n ih =>
      intro X h1 h2
      refine b_B_gooseReach_97 hk (fun c => ?_) (fun c => ?_)
      · rw [hw, zle (by omega) (by omega)] at c
        have : X = B 0 := by omega
        subst this
        rw [Nat.add_mul, Nat.one_mul] at hnext
        exact hnext
      · rw [hw, zle (by omega) (by omega)] at c
        have hX : X < B 0 := by omega
        obtain ⟨ex, ey⟩ := zxy (Y := Y) hX
        have hc := zcell hX hY1
        refine b_B_gooseReach_106 (fun c2 => ?_) (fun c2 => ?_)
        · rw [nI_1, zlt (by omega) (by omega)] at c2
          rw [Nat.add_mul, Nat.one_mul, zst_same (a := Y * B 0 + X) (by omega) (fun c q1 q2 => by
            obtain ⟨X', hX', rfl⟩ : ∃ X', X' < B 0 ∧ c = Y * B 0 + X' := ⟨c - Y * B 0, by omega, by omega⟩
            obtain ⟨ex', ey'⟩ := zxy (Y := Y) hX'
            exact far _ (by rw [ex', ey']; omega))] at hnext
          exact hnext
        · have nx : S_B_gooseReach_169 (d + 1) Rf k (nI i) (nI (f % B 0)) (nI (f / B 0)) (nI (B 3 ||| zgn B (B 2) ||| 2 ^ B 5)) (nI (zst p (Y * B 0 + X + 1))) (nI Y) (nI X) σ := b_B_gooseReach_169 (by rw [nI_1]; exact ih (X + 1) (by omega) (by omega))
          have eto : nI Y * nI (B 0) + nI X = nI (Y * B 0 + X) := by rw [pk_mul, nI_add]
          have skip : p (Y * B 0 + X) = false → S_B_gooseReach_169 (d + 1) Rf k (nI i) (nI (f % B 0)) (nI (f / B 0)) (nI (B 3 ||| zgn B (B 2) ||| 2 ^ B 5)) (nI (zst p (Y * B 0 + X))) (nI Y) (nI X) σ := fun q => by
            rw [zst, q] at nx
            simpa using nx
          have take : p (Y * B 0 + X) = true → S_B_gooseReach_169 (d + 1) Rf k (nI i) (nI (f % B 0)) (nI (f / B 0)) (nI (B 3 ||| zgn B (B 2) ||| 2 ^ B 5)) (nI (zst p (Y * B 0 + X)) ||| nI (2 ^ (Y * B 0 + X))) (nI Y) (nI X) σ := fun q => by
            rw [zst, q] at nx
            rw [fa_or]
            simpa using nx
          have epc := epp (Y * B 0 + X)
          have edx : zdx B f (Y * B 0 + X) = (X : Int) - ((f % B 0 : Nat) : Int) := by unfold zdx; rw [ex]
          have edy : zdy B f (Y * B 0 + X) = (Y : Int) - ((f / B 0 : Nat) : Int) := by unfold zdy; rw [ey]
          rw [edx, edy] at epc
          generalize Y * B 0 + X = to at *
          have efree : (B 3 ||| zgn B (B 2) ||| 2 ^ B 5).testBit to = !zfr B to := by
            rw [Nat.testBit_or, Nat.testBit_or, zgn_bit, Nat.testBit_two_pow, zfr, zff]
            cases (B 3).testBit to <;> cases zga B (B 2) to <;> by_cases q : B 5 = to <;> simp [q]
          refine b_B_gooseReach_114 hk (fun c3 => ?_) (fun c3 => ?_)
          · rw [hw, eto] at c3 ⊢
            rw [zbit (by omega) (by omega), zb_0, efree] at c3
            have hfree : zfr B to = true := by simpa using c3
            rw [hfree, Bool.true_and] at epc
            refine b_B_gooseReach_136 hk hin4 ?_
            rw [e1, (hg i hi).1, hmv, zsubI (by omega) (by omega), zsubI (by omega) (by omega)]
            refine p_K_gooseMay hki (by omega) (by omega) (by omega) ?_
            refine b_B_gooseReach_157 (fun c4 => ?_) (fun c4 => ?_)
            · rw [zb_0] at c4
              exact skip (by rw [epc]; exact c4)
            · rw [zb_0, Bool.not_eq_false] at c4
              refine b_B_gooseReach_160 ?_
              rw [zshl _ (by omega)]
              exact take (by rw [epc]; exact c4)
          · rw [hw, eto, zbit (by omega) (by omega), zb_0, efree] at c3
            have hfree : zfr B to = false := by simpa using c3
            exact skip (by rw [epc, hfree]; rfl)
  have outer : ∀ n Y, B 1 - Y ≤ n → Y ≤ B 1 → f / B 0 ≤ Y + 1 → S_B_gooseReach_71 (d + 1) Rf k (nI i) (nI (f % B 0)) (nI (f / B 0)) (nI (B 3 ||| zgn B (B 2) ||| 2 ^ B 5)) (nI (zst p (Y * B 0))) (nI Y) σ := by
    intro n
    induction n with
    | zero =>
      intro Y h1 h2 h3'
      have : Y = B 1 := by omega
      subst this
      refine b_B_gooseReach_71 hk (fun _ => b_B_gooseReach_181 (zr h (by rw [Nat.mul_comm]))) (fun c => absurd (by rw [hh]; exact Int32.le_refl _) c)
    | succ n ih =>
      intro Y h1 h2 h3'
      refine b_B_gooseReach_71 hk (fun c => ?_) (fun c => ?_)
      · rw [hh, zle (by omega) (by omega)] at c
        have : Y = B 1 := by omega
        subst this
        exact b_B_gooseReach_181 (zr h (by rw [Nat.mul_comm]))
      · rw [hh, zle (by omega) (by omega)] at c
        have hle : Y * B 0 ≤ B 0 * B 1 := by rw [Nat.mul_comm (B 0)]; exact Nat.mul_le_mul_right _ h2
        refine b_B_gooseReach_80 (fun c2 => ?_) (fun c2 => ?_)
        · rw [nI_1, zlt (by omega) (by omega)] at c2
          refine b_B_gooseReach_181 (zr h ?_)
          rw [zst_same (a := Y * B 0) (b := B 0 * B 1) hle (fun c q1 q2 => far c (by
            have : Y ≤ c / B 0 := (Nat.le_div_iff_mul_le (by omega)).mpr q1
            omega))]
        · rw [nI_1, zlt (by omega) (by omega)] at c2
          refine b_B_gooseReach_88 (p_J_max ?_)
          rw [show (1 : Int32) = nI 1 from rfl, zmax (by omega) (by omega)]
          refine b_B_gooseReach_95 ?_
          have hin := inner Y (by omega) h3' (by omega) (b_B_gooseReach_175 (by rw [nI_1]; exact ih (Y + 1) (by omega) (by omega) (by omega))) (B 0) (f % B 0 - 1) (by omega) (by omega)
          rw [zst_same (a := Y * B 0) (b := Y * B 0 + (f % B 0 - 1)) (by omega) (fun c q1 q2 => by
            obtain ⟨X', hX', rfl⟩ : ∃ X', X' < f % B 0 - 1 ∧ c = Y * B 0 + X' := ⟨c - Y * B 0, by omega, by omega⟩
            obtain ⟨ex', ey'⟩ := zxy (Y := Y) (w := B 0) (X := X') (by omega)
            exact far _ (by rw [ex', ey']; omega))] at hin
          exact hin
  refine b_B_gooseReach_17 hk hin4 (by rw [hw]; exact w0) hin4 (by rw [hw]; exact w0) (p_B_gooseBits hk hB hV ?_)
  rw [e1, ecell, hw, zrem (by omega) (by omega) (by omega), zdiv (by omega) (by omega) (by omega)]
  refine b_B_gooseReach_49 hk (p_J_max ?_)
  rw [show nI (f / B 0) - 1 = nI (f / B 0) - nI 1 from rfl, zmax (by omega) (by omega), hth, hfc, zshl _ (by omega), fa_or, fa_or]
  refine b_B_gooseReach_69 ?_
  have ho := outer (B 1) (f / B 0 - 1) (by omega) (by omega) (by omega)
  rw [zst_same (a := 0) (b := (f / B 0 - 1) * B 0) (by omega) (fun c _ q2 => far c (by
    have : c / B 0 < f / B 0 - 1 := Nat.div_lt_of_lt_mul (by rw [Nat.mul_comm]; exact q2)
    have := Nat.zero_le (c / B 0)
    omega))] at ho
  exact ho
end BG
