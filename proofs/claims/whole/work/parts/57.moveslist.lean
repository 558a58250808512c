/-! the moves that can be done, by 100 i and the cell -/
def zcan (B : zB) (k : Nat) : Bool := if k / 100 = 4 then decide (B 6 = 1) && (zfS B).testBit (k % 100) else decide (B 6 = 0) && decide (k / 100 < B 2) && (zgS B (k / 100)).testBit (k % 100)
def zct (p : Nat → Bool) : Nat → Nat
  | 0 => 0
  | n + 1 => zct p n + (if p n = true then 1 else 0)
def znx (p : Nat → Bool) (b : Nat) : Nat := fa_first (fun k => decide (b ≤ k) && p k) 500
def znth (p : Nat → Bool) (j : Nat) : Nat := fa_first (fun k => p k && decide (zct p k = j)) 500
def zdo (B : zB) (k : Nat) : zB := if k / 100 = 4 then zfox B (k % 100) else zgo B (k / 100) (k % 100)
theorem zct_mono (p : Nat → Bool) {a : Nat} : ∀ {b}, a ≤ b → zct p a ≤ zct p b
  | 0, h => by
    have : a = 0 := by omega
    subst this; exact Nat.le_refl _
  | b + 1, h => by
    by_cases q : a = b + 1
    · subst q; exact Nat.le_refl _
    · have := zct_mono p (a := a) (b := b) (by omega)
      rw [zct]; omega
theorem zct_same (p : Nat → Bool) {a : Nat} : ∀ {b}, a ≤ b → (∀ k, a ≤ k → k < b → p k = false) → zct p b = zct p a
  | 0, h, _ => by
    have : a = 0 := by omega
    subst this; rfl
  | b + 1, h, hp => by
    by_cases q : a = b + 1
    · subst q; rfl
    · rw [zct, hp b (by omega) (by omega), zct_same p (a := a) (b := b) (by omega) (fun k h1 h2 => hp k h1 (by omega))]
      simp
theorem zct_blk {p : Nat → Bool} {s a : Nat} : ∀ {n}, (∀ c, c < n → p (a + c) = s.testBit c) → zct p (a + n) = zct p a + zpc s n
  | 0, _ => rfl
  | n + 1, h => by
    rw [← Nat.add_assoc, zct, zct_blk (n := n) (fun c hc => h c (by omega)), zpc, h n (by omega)]
    omega
theorem zct_s {p : Nat → Bool} {k : Nat} (h : p k = true) : zct p (k + 1) = zct p k + 1 := by rw [zct, if_pos h]
theorem znx_le (p : Nat → Bool) (b : Nat) : znx p b ≤ 500 := fa_first_le _ _
theorem znx_yes {p : Nat → Bool} {b : Nat} (h : znx p b < 500) : b ≤ znx p b ∧ p (znx p b) = true := by
  have := fa_first_yes (fun k => decide (b ≤ k) && p k) 500 h
  rw [Bool.and_eq_true, decide_eq_true_eq] at this
  exact this
theorem znx_no {p : Nat → Bool} {b j : Nat} (h : b ≤ j) (hj : j < znx p b) : p j = false := by
  have := fa_first_no (fun k => decide (b ≤ k) && p k) 500 j hj
  simpa [h] using this
theorem znx_ge {p : Nat → Bool} {b : Nat} (hb : b ≤ 500) : b ≤ znx p b := by
  rcases Nat.lt_or_ge (znx p b) 500 with h | h
  · exact (znx_yes h).1
  · omega
theorem znx_next {p : Nat → Bool} {b k l : Nat} (hk : k ≤ znx p b) (hl : l ≤ 500) (h : ∀ j, k ≤ j → j < l → p j = false) : l ≤ znx p b := by
  rcases Nat.lt_or_ge (znx p b) l with q | q
  · have := h _ hk q
    rw [(znx_yes (p := p) (b := b) (by omega)).2] at this
    cases this
  · exact q
theorem znx_at {p : Nat → Bool} {b k : Nat} (hb : b ≤ k) (hk : k ≤ znx p b) (h : p k = true) (h5 : k < 500) : znx p b = k := by
  rcases Nat.lt_or_ge k (znx p b) with q | q
  · rw [znx_no hb q] at h; cases h
  · omega
theorem zct_nx {p : Nat → Bool} {b : Nat} (hb : b ≤ 500) : zct p (znx p b) = zct p b := zct_same p (znx_ge hb) (fun _ h1 h2 => znx_no h1 h2)
theorem znth_eq {p : Nat → Bool} {k j : Nat} (hk : k < 500) (h : p k = true) (hj : zct p k = j) : znth p j = k := by
  have hl : ¬ k < znth p j := fun q => by
    have := fa_first_no (fun k => p k && decide (zct p k = j)) 500 k q
    simp [h, hj] at this
  rcases Nat.lt_or_ge (znth p j) k with q | q
  · have := fa_first_yes (fun k => p k && decide (zct p k = j)) 500 (show znth p j < 500 by omega)
    rw [show fa_first (fun k => p k && decide (zct p k = j)) 500 = znth p j from rfl, Bool.and_eq_true, decide_eq_true_eq] at this
    have h1 := zct_s this.1
    have h2 := zct_mono p (show znth p j + 1 ≤ k by omega)
    omega
  · omega
theorem zset_bit {B : zB} {s : Nat} {p : Nat → Bool} {c : Nat} (e : s = 0 ∨ s = zst p (B 0 * B 1)) (h : s.testBit c = true) : c < B 0 * B 1 := by
  rcases e with e | e
  · rw [e] at h; simp at h
  · rw [e, zst_bit, Bool.and_eq_true, decide_eq_true_eq] at h; exact h.1
theorem zcan_c {B : zB} {k : Nat} (h : zcan B k = true) : k % 100 < B 0 * B 1 := by
  unfold zcan at h
  split at h
  · rw [Bool.and_eq_true] at h; exact (zfS_bit h.2).1
  · rw [Bool.and_eq_true] at h; exact (zgS_bit h.2).2.1
theorem zcan_F {B : zB} {c : Nat} (hc : c < 100) : zcan B (400 + c) = (decide (B 6 = 1) && (zfS B).testBit c) := by
  unfold zcan
  rw [if_pos (by omega), show (400 + c) % 100 = c by omega]
theorem zcan_G {B : zB} {i c : Nat} (hi : i < B 2) (h4 : B 2 ≤ 4) (hc : c < 100) : zcan B (100 * i + c) = (decide (B 6 = 0) && (zgS B i).testBit c) := by
  unfold zcan
  rw [if_neg (by omega), show (100 * i + c) % 100 = c by omega, show (100 * i + c) / 100 = i by omega, decide_eq_true hi, Bool.and_true]
theorem zcan_hi {B : zB} (hV : zV B) {k : Nat} (h : 25 ≤ k % 100) : zcan B k = false := by
  cases hz : zcan B k with
  | false => rfl
  | true => have := zcan_c hz; have := hV.n; omega
theorem zcm_ct {B : zB} (hV : zV B) : zcm B = zct (zcan B) 500 := by
  have h4 : B 2 ≤ 4 := hV.1.2.2.1
  have h6 : B 6 ≤ 1 := hV.1.2.2.2.2.2.2.1
  unfold zcm
  by_cases q : B 6 = 1
  · rw [if_pos q]
    have e0 : zct (zcan B) 400 = zct (zcan B) 0 := zct_same _ (by omega) (fun k _ h => by
      unfold zcan; rw [if_neg (by omega), decide_eq_false (by omega)]; rfl)
    have e1 : zct (zcan B) (400 + 25) = zct (zcan B) 400 + zpc (zfS B) 25 := zct_blk (fun c hc => by rw [zcan_F (by omega), decide_eq_true q, Bool.true_and])
    have e2 : zct (zcan B) 500 = zct (zcan B) (400 + 25) := zct_same _ (by omega) (fun k h1 h2 => zcan_hi hV (by omega))
    rw [e2, e1, e0]
    show _ = 0 + _
    omega
  · rw [if_neg q]
    have q0 : B 6 = 0 := by omega
    have key : ∀ i, i ≤ B 2 → zct (zcan B) (100 * i) = zgc B i := by
      intro i
      induction i with
      | zero => intro _; rfl
      | succ i ih =>
        intro hi
        have e1 : zct (zcan B) (100 * i + 25) = zct (zcan B) (100 * i) + zpc (zgS B i) 25 := zct_blk (fun c hc => by rw [zcan_G (by omega) h4 (by omega), decide_eq_true q0, Bool.true_and])
        have e2 : zct (zcan B) (100 * (i + 1)) = zct (zcan B) (100 * i + 25) := zct_same _ (by omega) (fun k h1 h2 => zcan_hi hV (by omega))
        rw [e2, e1, ih (by omega), zgc]
    rw [← key (B 2) (Nat.le_refl _)]
    refine (zct_same _ (by omega) (fun k h1 h2 => ?_)).symm
    unfold zcan
    split
    · rw [decide_eq_false q]; rfl
    · rw [decide_eq_false (show ¬ k / 100 < B 2 by omega)]; simp
theorem zfox_7 {B : zB} {c : Nat} : zfox B c 7 = B 7 + 1 := by rw [zfox_j, if_pos rfl]
theorem zgo_7 {B : zB} {i c : Nat} : zgo B i c 7 = B 7 + 1 := by
  show zup B (12 + i) (c + 1) 7 + 1 = B 7 + 1
  unfold zup; rw [if_neg (by omega)]
theorem zdo_7 {B : zB} {k : Nat} : zdo B k 7 = B 7 + 1 := by unfold zdo; split; exact zfox_7; exact zgo_7
theorem zdo_V {B : zB} {k : Nat} (hV : zV B) (h : zcan B k = true) (h7 : B 7 + 1 < 100000) : zV (zdo B k) := by
  unfold zcan at h
  unfold zdo
  split at h
  · rename_i q
    rw [if_pos q]
    rw [Bool.and_eq_true] at h
    obtain ⟨a, b⟩ := zfS_bit h.2
    exact zV_foxgo hV a b h7
  · rename_i q
    rw [if_neg q]
    rw [Bool.and_eq_true, Bool.and_eq_true, decide_eq_true_eq, decide_eq_true_eq] at h
    obtain ⟨-, a, b⟩ := zgS_bit h.2
    exact zV_goosego hV h.1.2 a b h7
theorem zend_7 {B : zB} : zend B 7 = B 7 + 1 := rfl
section ML
variable {d r : Nat} {B : zB} {σ : ab_S}
theorem p_M_nextMove {Rf : Int32 → ab_S → Prop} {b : Nat} {x : Int32} (hB : zR σ r B) (hV : zV B) (hr : r ≤ 620) (hx : x + 1 = nI b) (hb : b ≤ 500) (h : Rf (if znx (zcan B) b < 500 then nI (znx (zcan B) b) else -1) σ) : CA (d + 6) 180 [.ref 56, .int (nI r), .int x] σ (ab_rI Rf) := by
  have h25 := hV.n
  obtain ⟨⟨-, -, h4, -, -, -, h6, -⟩, -⟩ := id hV
  have hz := znx_le (zcan B) b
  have R6 : σ.1 57 (Int32.toNatClampNeg (nI r + 6)) = nI (B 6) := hB.at 6 (by omega) hr
  have key : ∀ n k, 500 - k ≤ n → b ≤ k → k ≤ znx (zcan B) b → S_M_nextMove_11 (d + 5) Rf (nI r) (nI (B 0 * B 1)) (nI k) σ := by
    intro n
    induction n with
    | zero =>
      intro k q1 q2 q3
      refine b_M_nextMove_11 (fun _ => b_M_nextMove_111 ?_) (fun c => absurd (by rw [zlit 500, zle (by omega) (by omega)]; omega) c)
      rw [if_neg (by omega)] at h
      exact h
    | succ n ih =>
      intro k q1 q2 q3
      by_cases qk : 500 ≤ k
      · exact ih k (by omega) q2 q3
      have ek : nI k - nI k / 100 * 100 = nI (k % 100) := by rw [zlit 100, zrem (by omega) (by omega) (by omega)]
      have ei : nI k / 100 = nI (k / 100) := by rw [zlit 100, zdiv (by omega) (by omega) (by omega)]
      have skip : zcan B k = false → S_M_nextMove_105 (d + 5) Rf (nI r) (nI (B 0 * B 1)) (nI k) σ := fun q => by
        refine b_M_nextMove_105 ?_
        rw [nI_1]
        exact ih (k + 1) (by omega) (by omega) (znx_next q3 (by omega) (fun j a b => by
          have : j = k := by omega
          rw [this]; exact q))
      have e4 : (nI (k / 100) = 4) ↔ k / 100 = 4 := zeq (b := 4) (by omega) (by omega)
      refine b_M_nextMove_11 (fun c => absurd c (by rw [zlit 500, zle (by omega) (by omega)]; omega)) (fun _ => b_M_nextMove_19 (fun c => ?_) (fun c => b_M_nextMove_35 ?_)) <;> rw [ek, zlt (by omega) (by omega)] at c <;> rw [ei]
      · have ret : zcan B k = true → Rf (nI k) σ := fun q => by
          rw [znx_at q2 q3 q (by omega), if_pos (by omega)] at h
          exact h
        by_cases q4 : k / 100 = 4
        · have ef : zcan B k = (decide (B 6 = 1) && zfs B (B 5) (B 7) true (k % 100)) := by
            unfold zcan zfS
            rw [if_pos q4, zst_bit, decide_eq_true c, Bool.true_and]
          refine b_M_nextMove_48 (zin 6 (by omega)) (fun _ => b_M_nextMove_63 (b_M_nextMove_68 (fun w => b_M_nextMove_71 (fun _ => b_M_nextMove_87 ?_) (fun z => absurd (e4.mpr q4) z)) (fun w => skip ?_))) (fun z => absurd (e4.mpr q4) z) <;> rw [R6, zlit 1, zeq (by omega) (by omega)] at w
          · rw [ek, q4]
            refine p_M_mayGoF hB hV hr c (b_M_nextMove_99 (fun z => skip ?_) (fun z => b_M_nextMove_102 (ret ?_)))
            · rw [ef, zb_0.mp z]; simp
            · rw [ef, nbt z, decide_eq_true w]; rfl
          · rw [ef, decide_eq_false w]; rfl
        · have eg : zcan B k = (decide (B 6 = 0) && decide (k / 100 < B 2) && (zgS B (k / 100)).testBit (k % 100)) := by
            unfold zcan
            rw [if_neg q4]
          refine b_M_nextMove_48 (zin 6 (by omega)) (fun z => absurd (e4.mp z) q4) (fun _ => b_M_nextMove_67 (b_M_nextMove_68 (fun w => b_M_nextMove_71 (fun z => absurd (e4.mp z) q4) (fun _ => b_M_nextMove_77 (p_M_isGoose hB hV hr (b_M_nextMove_84 (fun z => skip ?_) (fun z => b_M_nextMove_87 ?_))))) (fun w => skip ?_))) <;> rw [R6, zlit 0, zeq (by omega) (by omega)] at w
          · have z := zb_0.mp z
            rw [eg]
            by_cases w2 : k / 100 < B 2
            · rw [zal_n w2 h4] at z
              have z : B (12 + k / 100) = 0 := by simpa using z
              unfold zgS
              rw [if_pos z]; simp
            · rw [decide_eq_false w2]; simp
          · obtain ⟨i, hi, ha, e1, e2⟩ := zal_i h4 (nbt z)
            have ei2 : k / 100 = i := (zeq (by omega) (by omega)).mp e1
            rw [ek, ei2]
            refine p_M_mayGoG hB hV hr hi ha c (b_M_nextMove_99 (fun z2 => skip ?_) (fun z2 => b_M_nextMove_102 (ret ?_)))
            · rw [eg, ei2]; unfold zgS; rw [if_neg ha, zst_bit, zb_0.mp z2]; simp
            · rw [eg, ei2]; unfold zgS; rw [if_neg ha, zst_bit, nbt z2, decide_eq_true w, decide_eq_true hi, decide_eq_true c]; rfl
          · rw [eg, decide_eq_false w]; rfl
      · refine b_M_nextMove_105 ?_
        rw [zlit 100, pk_mul, zlit 99, nI_add, nI_1]
        refine ih (100 * (k / 100) + 99 + 1) (by omega) (by omega) (znx_next q3 (by omega) (fun j a b => ?_))
        cases hz : zcan B j with
        | false => rfl
        | true => have := zcan_c hz; omega
  refine e_M_nextMove (b_M_nextMove_0 (p_M_cells hB hr (b_M_nextMove_5 ?_)))
  rw [hx]
  exact key 500 b (by omega) (Nat.le_refl _) (znx_ge hb)
theorem p_M_does {Rf : ab_S → Prop} {k : Nat} (hB : zR σ r B) (hV : zV B) (hr : r ≤ 620) (hk : k < 500) (hc : zcan B k = true) (h : ∀ τ, zR τ r (zdo B k) → zFR r (r + 16) σ τ → Rf τ) : CA (d + 4) 181 [.ref 56, .int (nI r), .int (nI k)] σ (ab_rV Rf) := by
  have h25 := hV.n
  have ek : nI k - nI k / 100 * 100 = nI (k % 100) := by rw [zlit 100, zrem (by omega) (by omega) (by omega)]
  have ei : nI k / 100 = nI (k / 100) := by rw [zlit 100, zdiv (by omega) (by omega) (by omega)]
  have hcc := zcan_c hc
  refine e_M_does (b_M_does_0 (fun q => b_M_does_8 ?_) (fun q => b_M_does_21 ?_)) <;> rw [ei, zlit 4, zeq (by omega) (by omega)] at q
  · rw [ek]
    refine p_M_foxGoes hB hV hr (by omega) (fun τ hτ hF => b_M_does_17 (b_M_does_34 (h τ ?_ hF)))
    unfold zdo; rw [if_pos q]; exact hτ
  · rw [ek, ei]
    have hi : k / 100 < B 2 := by
      unfold zcan at hc
      rw [if_neg q, Bool.and_eq_true, Bool.and_eq_true, decide_eq_true_eq, decide_eq_true_eq] at hc
      exact hc.1.2
    refine p_M_gooseGoes hB hV hr hi (fun τ hτ hF => b_M_does_34 (h τ ?_ hF))
    unfold zdo; rw [if_neg q]; exact hτ
end ML
