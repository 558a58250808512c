/-! BOARDS: where the class's fox and geese could step -/
theorem zhalf {w f t a b : Nat} (h1 : f % w + t % w = 2 * b) (h2 : f / w + t / w = 2 * a) : a * w + b = (f + t) / 2 := by
  have e1 := Nat.div_add_mod f w
  have e2 := Nat.div_add_mod t w
  have e3 : w * (f / w) + w * (t / w) = w * (2 * a) := by rw [← Nat.mul_add, h2]
  have e4 : w * (2 * a) = 2 * (a * w) := by rw [Nat.mul_left_comm, Nat.mul_comm w a]
  omega
theorem zxy {w X Y : Nat} (hX : X < w) : (Y * w + X) % w = X ∧ (Y * w + X) / w = Y := by
  have hw : 0 < w := by omega
  constructor
  · rw [Nat.add_comm, Nat.add_mul_mod_self_right, Nat.mod_eq_of_lt hX]
  · rw [Nat.add_comm, Nat.add_mul_div_right _ _ hw, Nat.div_eq_of_lt hX, Nat.zero_add]
theorem zcell {w h X Y : Nat} (hX : X < w) (hY : Y < h) : Y * w + X < w * h := by
  have h1 : (Y + 1) * w ≤ h * w := Nat.mul_le_mul_right w hY
  rw [Nat.add_mul, Nat.one_mul, Nat.mul_comm h w] at h1
  omega
section BF
variable {d k : Nat} {B : zB} {Rf : Int32 → ab_S → Prop} {σ : ab_S}
theorem p_B_halfWay {f t : Nat} (hk : ab_sh k = (0, 0)) (hB : zH σ k B) (hV : zV B) (hf : f < 25) (ht : t < 25) (h : Rf (zc (zhw B f t)) σ) : CA (d + 1) 35 [.ref k, .int (nI f), .int (nI t)] σ (ab_rI Rf) := by
  obtain ⟨⟨⟨w3, w5⟩, -⟩, -⟩ := id hV
  have hw := hB.1
  have none : zhw B f t = 0 → Rf (-1) σ := fun q => zr h (by rw [q, zc_0])
  have w0 : ¬ nI (B 0) = 0 := by rw [zlit 0, zeq (by omega) (by omega)]; omega
  refine e_B_halfWay (b_B_halfWay_0 hk (fun c => absurd c ?_) (fun _ => b_B_halfWay_7 (fun c => ?_) (fun c => ?_)))
  · rw [hw, zlit 0, zle (by omega) (by omega)]; omega
  · rw [zeq (by omega) (by omega)] at c
    exact b_B_halfWay_12 (none (by simp [zhw, c]))
  · rw [zeq (by omega) (by omega)] at c
    have m1 : f % B 0 < B 0 := Nat.mod_lt _ (by omega)
    have m2 : t % B 0 < B 0 := Nat.mod_lt _ (by omega)
    have d1 : f / B 0 ≤ f := Nat.div_le_self _ _
    have d2 : t / B 0 ≤ t := Nat.div_le_self _ _
    have two : ∀ n, n < 1000 → nI n - nI n / 2 * 2 = nI (n % 2) := fun n hn => zrem (d := 2) (by omega) (by omega) (by omega)
    have ze : ∀ n : Nat, (nI (n % 2) = 0) ↔ n % 2 = 0 := fun n => zeq (b := 0) (by omega) (by omega)
    refine b_B_halfWay_14 hk (by rw [hw]; exact w0) (by rw [hw]; exact w0) (by rw [hw]; exact w0) (by rw [hw]; exact w0) (fun c2 => ?_) (fun c2 => ?_)
    · rw [hw, zrem (by omega) (by omega) (by omega), zrem (by omega) (by omega) (by omega), nI_add, two _ (by omega), ze] at c2
      rw [hw, zrem (by omega) (by omega) (by omega), zrem (by omega) (by omega) (by omega), zdiv (by omega) (by omega) (by omega), zdiv (by omega) (by omega) (by omega), nI_add, nI_add]
      refine b_B_halfWay_49 (fun c3 => ?_) (fun c3 => ?_)
      · rw [two _ (by omega), ze] at c3
        refine b_B_halfWay_56 hk (b_B_halfWay_73 (zr h ?_))
        have e : zhw B f t = (f + t) / 2 + 1 := by
          rw [zhw, if_neg]
          omega
        rw [e, zc_s, hw, show (2 : Int32) = nI 2 from rfl, zdiv (by omega) (by omega) (by omega), zdiv (by omega) (by omega) (by omega), pk_mul, nI_add, zhalf (w := B 0) (f := f) (t := t) (a := (f / B 0 + t / B 0) / 2) (b := (f % B 0 + t % B 0) / 2) (by omega) (by omega)]
      · rw [two _ (by omega), ze] at c3
        exact b_B_halfWay_72 (b_B_halfWay_73 (none (by rw [zhw, if_pos]; omega)))
    · rw [hw, zrem (by omega) (by omega) (by omega), zrem (by omega) (by omega) (by omega), nI_add, two _ (by omega), ze] at c2
      exact b_B_halfWay_72 (b_B_halfWay_73 (none (by rw [zhw, if_pos]; omega)))
theorem zhw_lt {f t : Nat} (hf : f < 25) (ht : t < 25) : zhw B f t ≤ 25 := by
  unfold zhw
  split <;> omega
set_option maxHeartbeats 1000000 in
theorem p_B_foxReach {f m : Nat} {og : Bool} (hk : ab_sh k = (0, 0)) (hB : zH σ k B) (hV : zV B) (hf : f < B 0 * B 1) (hm : m < 1000000) (h : Rf (nI (zst (zfs B f m og) (B 0 * B 1))) σ) : CA (d + 2) 33 [.ref k, .int (nI f), .int (nI m), .int (zb og)] σ (ab_rI Rf) := by
  have h25 := hV.n
  obtain ⟨⟨⟨w3, w5⟩, ⟨h3, h5⟩, hn4, ht25, hk6, -⟩, hq, -⟩ := id hV
  obtain ⟨hw, hh, hth, hfk, -⟩ := id hB
  have hl := zgn_lt (B := B) (B 2) (fun i hi => by have := (hq i hi).2; omega)
  have w0 : ¬ nI (B 0) = 0 := by rw [zlit 0, zeq (by omega) (by omega)]; omega
  have hsh : B 3 ||| zgn B (B 2) < 2 ^ 25 := Nat.or_lt_two_pow ht25 hl
  have mx : f % B 0 < B 0 := Nat.mod_lt _ (by omega)
  have my : f / B 0 < B 1 := Nat.div_lt_of_lt_mul hf
  have far : ∀ c, (c % B 0 + 2 < f % B 0 ∨ f % B 0 + 2 < c % B 0 ∨ c / B 0 + 2 < f / B 0 ∨ f / B 0 + 2 < c / B 0) → zfs B f m og c = false := fun c hc => by
    rw [zfs, zmf_far (by unfold zdx zdy; omega), Bool.and_false]
  generalize ep : zfs B f m og = p at *
  have hpN : ∀ n, n ≤ 25 → zst p n < 33554432 := fun n hn => Nat.lt_of_lt_of_le (zst_lt p n) (Nat.pow_le_pow_right (by omega) hn)
  -- the inner loop
  have inner : ∀ Y, Y < B 1 → f / B 0 ≤ Y + 2 → Y ≤ f / B 0 + 2 → (S_B_foxReach_199 (d + 1) Rf k (nI f) (nI m) (zb og) (nI (f % B 0)) (nI (f / B 0)) (nI (zgn B (B 2))) (nI (B 3 ||| zgn B (B 2))) (nI (zst p ((Y + 1) * B 0))) (nI Y) σ) →
      ∀ n X, B 0 - X ≤ n → X ≤ B 0 → S_B_foxReach_81 (d + 1) Rf k (nI f) (nI m) (zb og) (nI (f % B 0)) (nI (f / B 0)) (nI (zgn B (B 2))) (nI (B 3 ||| zgn B (B 2))) (nI (zst p (Y * B 0 + X))) (nI Y) (nI X) σ := by
    intro Y hY1 hY2 hY3 hnext n
    induction n with
    | zero =>
      intro X h1 h2
      have : X = B 0 := by omega
      subst this
      rw [Nat.add_mul, Nat.one_mul] at hnext
      exact b_B_foxReach_81 hk (fun _ => hnext) (fun c => absurd (by rw [hw]; exact Int32.le_refl _) c)
    | succ n ih =>
      intro X h1 h2
      refine b_B_foxReach_81 hk (fun c => ?_) (fun c => ?_)
      · rw [hw, zle (by omega) (by omega)] at c
        have : X = B 0 := by omega
        subst this
        rw [Nat.add_mul, Nat.one_mul] at hnext
        exact hnext
      · rw [hw, zle (by omega) (by omega)] at c
        have hX : X < B 0 := by omega
        obtain ⟨ex, ey⟩ := zxy (Y := Y) hX
        have hc := zcell hX hY1
        refine b_B_foxReach_90 (fun c2 => ?_) (fun c2 => ?_)
        · rw [show (2 : Int32) = nI 2 from rfl, nI_add, zlt (by omega) (by omega)] at c2
          rw [Nat.add_mul, Nat.one_mul, zst_same (a := Y * B 0 + X) (by omega) (fun c q1 q2 => by
            obtain ⟨X', hX', rfl⟩ : ∃ X', X' < B 0 ∧ c = Y * B 0 + X' := ⟨c - Y * B 0, by omega, by omega⟩
            obtain ⟨ex', ey'⟩ := zxy (Y := Y) hX'
            exact far _ (by rw [ex', ey']; omega))] at hnext
          exact hnext
        · have nx : S_B_foxReach_193 (d + 1) Rf k (nI f) (nI m) (zb og) (nI (f % B 0)) (nI (f / B 0)) (nI (zgn B (B 2))) (nI (B 3 ||| zgn B (B 2))) (nI (zst p (Y * B 0 + X + 1))) (nI Y) (nI X) σ := b_B_foxReach_193 (by rw [nI_1]; exact ih (X + 1) (by omega) (by omega))
          have eto : nI Y * nI (B 0) + nI X = nI (Y * B 0 + X) := by rw [pk_mul, nI_add]
          have skip : p (Y * B 0 + X) = false → S_B_foxReach_193 (d + 1) Rf k (nI f) (nI m) (zb og) (nI (f % B 0)) (nI (f / B 0)) (nI (zgn B (B 2))) (nI (B 3 ||| zgn B (B 2))) (nI (zst p (Y * B 0 + X))) (nI Y) (nI X) σ := fun q => by
            rw [zst, q] at nx
            simpa using nx
          have take : p (Y * B 0 + X) = true → S_B_foxReach_193 (d + 1) Rf k (nI f) (nI m) (zb og) (nI (f % B 0)) (nI (f / B 0)) (nI (zgn B (B 2))) (nI (B 3 ||| zgn B (B 2))) (nI (zst p (Y * B 0 + X)) ||| nI (2 ^ (Y * B 0 + X))) (nI Y) (nI X) σ := fun q => by
            rw [zst, q] at nx
            rw [fa_or]
            simpa using nx
          have epc : p (Y * B 0 + X) = (zff B (Y * B 0 + X) && (og || !zov B f (Y * B 0 + X)) && zmf (B 4) (zdx B f (Y * B 0 + X)) (zdy B f (Y * B 0 + X)) m (zov B f (Y * B 0 + X))) := by rw [← ep]; rfl
          have edx : zdx B f (Y * B 0 + X) = (X : Int) - ((f % B 0 : Nat) : Int) := by unfold zdx; rw [ex]
          have edy : zdy B f (Y * B 0 + X) = (Y : Int) - ((f / B 0 : Nat) : Int) := by unfold zdy; rw [ey]
          rw [edx, edy] at epc
          generalize Y * B 0 + X = to at *
          refine b_B_foxReach_99 hk (fun c3 => ?_) (fun c3 => ?_)
          · rw [hw, eto] at c3 ⊢
            rw [zbit (by omega) (by omega), zb_0, Nat.testBit_or, zgn_bit] at c3
            have hfree : zff B to = true := by
              rw [zff]
              cases q1 : (B 3).testBit to <;> cases q2 : zga B (B 2) to <;> simp [q1, q2] at c3 ⊢
            rw [hfree, Bool.true_and] at epc
            -- behind 'over'
            have go : S_B_foxReach_150 (d + 1) Rf k (nI f) (nI m) (zb og) (nI (f % B 0)) (nI (f / B 0)) (nI (zgn B (B 2))) (nI (B 3 ||| zgn B (B 2))) (nI (zst p to)) (nI Y) (nI X) (nI to) (zb (zov B f to)) σ := by
              have may : (og || !zov B f to) = true → S_B_foxReach_161 (d + 1) Rf k (nI f) (nI m) (zb og) (nI (f % B 0)) (nI (f / B 0)) (nI (zgn B (B 2))) (nI (B 3 ||| zgn B (B 2))) (nI (zst p to)) (nI Y) (nI X) (nI to) (zb (zov B f to)) σ := by
                intro hog
                rw [hog, Bool.true_and] at epc
                refine b_B_foxReach_161 hk ?_
                rw [hfk, zsubI (by omega) (by omega), zsubI (by omega) (by omega)]
                refine p_K_foxMay hk6 (by omega) (by omega) hm ?_
                refine b_B_foxReach_181 (fun c4 => ?_) (fun c4 => ?_)
                · rw [zb_0] at c4
                  exact skip (by rw [epc]; exact c4)
                · rw [zb_0, Bool.not_eq_false] at c4
                  refine b_B_foxReach_184 ?_
                  rw [zshl _ (by omega)]
                  exact take (by rw [epc]; exact c4)
              refine b_B_foxReach_150 (fun c4 => ?_) (fun c4 => ?_)
              · rw [zb_0] at c4
                refine b_B_foxReach_156 (fun c5 => ?_) (fun c5 => ?_)
                · rw [zb_0] at c5
                  exact may (by rw [c5]; simp)
                · rw [zb_0, Bool.not_eq_false] at c5
                  exact skip (by rw [epc, c4, c5]; rfl)
              · rw [zb_0, Bool.not_eq_false] at c4
                exact may (by rw [c4]; rfl)
            refine b_B_foxReach_124 hk (p_B_halfWay hk hB hV (by omega) (by omega) ?_)
            have hz := zhw_lt (B := B) (f := f) (t := to) (by omega) (by omega)
            refine b_B_foxReach_131 (fun c4 => ?_) (fun c4 => ?_)
            · rw [zc_neg (by omega)] at c4
              have : zov B f to = false := by simp [zov, c4]
              rw [this] at go
              exact b_B_foxReach_139 go
            · rw [zc_neg (by omega)] at c4
              refine b_B_foxReach_143 ?_
              rw [zc_p c4, zbit (by omega) (by omega), zgn_bit]
              have : zov B f to = zga B (B 2) (zhw B f to - 1) := by simp [zov, c4]
              rw [this] at go
              exact go
          · rw [hw, eto, zbit (by omega) (by omega), zb_0, Nat.testBit_or, zgn_bit] at c3
            refine b_B_foxReach_121 (skip ?_)
            rw [epc]
            have : zff B to = false := by
              rw [zff]
              cases q1 : (B 3).testBit to <;> cases q2 : zga B (B 2) to <;> simp [q1, q2] at c3 ⊢
            rw [this]; rfl
  have outer : ∀ n Y, B 1 - Y ≤ n → Y ≤ B 1 → f / B 0 ≤ Y + 2 → S_B_foxReach_53 (d + 1) Rf k (nI f) (nI m) (zb og) (nI (f % B 0)) (nI (f / B 0)) (nI (zgn B (B 2))) (nI (B 3 ||| zgn B (B 2))) (nI (zst p (Y * B 0))) (nI Y) σ := by
    intro n
    induction n with
    | zero =>
      intro Y h1 h2 h3'
      have : Y = B 1 := by omega
      subst this
      refine b_B_foxReach_53 hk (fun _ => b_B_foxReach_205 (zr h (by rw [Nat.mul_comm]))) (fun c => absurd (by rw [hh]; exact Int32.le_refl _) c)
    | succ n ih =>
      intro Y h1 h2 h3'
      refine b_B_foxReach_53 hk (fun c => ?_) (fun c => ?_)
      · rw [hh, zle (by omega) (by omega)] at c
        have : Y = B 1 := by omega
        subst this
        exact b_B_foxReach_205 (zr h (by rw [Nat.mul_comm]))
      · rw [hh, zle (by omega) (by omega)] at c
        have hle : Y * B 0 ≤ B 0 * B 1 := by rw [Nat.mul_comm (B 0)]; exact Nat.mul_le_mul_right _ h2
        refine b_B_foxReach_62 (fun c2 => ?_) (fun c2 => ?_)
        · rw [show (2 : Int32) = nI 2 from rfl, nI_add, zlt (by omega) (by omega)] at c2
          refine b_B_foxReach_205 (zr h ?_)
          rw [zst_same (a := Y * B 0) (b := B 0 * B 1) hle (fun c q1 q2 => far c (by
            have : Y ≤ c / B 0 := (Nat.le_div_iff_mul_le (by omega)).mpr q1
            omega))]
        · rw [show (2 : Int32) = nI 2 from rfl, nI_add, zlt (by omega) (by omega)] at c2
          refine b_B_foxReach_71 (p_J_max ?_)
          rw [show (2 : Int32) = nI 2 from rfl, zmax (by omega) (by omega)]
          refine b_B_foxReach_79 ?_
          have hin := inner Y (by omega) h3' (by omega) (b_B_foxReach_199 (by rw [nI_1]; exact ih (Y + 1) (by omega) (by omega) (by omega))) (B 0) (f % B 0 - 2) (by omega) (by omega)
          rw [zst_same (a := Y * B 0) (b := Y * B 0 + (f % B 0 - 2)) (by omega) (fun c q1 q2 => by
            obtain ⟨X', hX', rfl⟩ : ∃ X', X' < f % B 0 - 2 ∧ c = Y * B 0 + X' := ⟨c - Y * B 0, by omega, by omega⟩
            obtain ⟨ex', ey'⟩ := zxy (Y := Y) (w := B 0) (X := X') (by omega)
            exact far _ (by rw [ex', ey']; omega))] at hin
          exact hin
  refine e_B_foxReach (b_B_foxReach_0 hk (fun _ => b_B_foxReach_9 hk (by rw [hw]; exact w0) (by rw [hw]; exact w0) (p_B_gooseBits hk hB hV ?_)) (fun c => absurd ?_ c))
  · rw [hw, zrem (by omega) (by omega) (by omega), zdiv (by omega) (by omega) (by omega)]
    refine b_B_foxReach_29 hk (p_J_max ?_)
    rw [show (2 : Int32) = nI 2 from rfl, zmax (by omega) (by omega), hth, fa_or]
    refine b_B_foxReach_51 ?_
    have ho := outer (B 1) (f / B 0 - 2) (by omega) (by omega) (by omega)
    rw [zst_same (a := 0) (b := (f / B 0 - 2) * B 0) (by omega) (fun c _ q2 => far c (by
      have : c / B 0 < f / B 0 - 2 := Nat.div_lt_of_lt_mul (by rw [Nat.mul_comm]; exact q2)
      have := Nat.zero_le (c / B 0)
      omega))] at ho
    exact ho
  · rw [hw, show (0 : Int32) = nI 0 from rfl, zlt (by omega) (by omega)]; omega
end BF
