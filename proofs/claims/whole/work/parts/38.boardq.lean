/-! BOARDS: reach, open, how it is, who may move -/
theorem zfS_lt {B : zB} (hV : zV B) : zfS B < 33554432 := Nat.lt_of_lt_of_le (zst_lt _ _) (Nat.pow_le_pow_right (by omega) (hV.n.2))
theorem zgS_lt {B : zB} (hV : zV B) (i : Nat) : zgS B i < 33554432 := by
  unfold zgS
  split
  · omega
  · exact Nat.lt_of_lt_of_le (zst_lt _ _) (Nat.pow_le_pow_right (by omega) (hV.n.2))
def zhow (B : zB) : Nat := if B 5 < B 0 then 2 else if B 6 = 1 ∧ zfS B = 0 then 1 else 0
/-- where she could be, a step on from any cell of s below n -/
def zwk (B : zB) (s m : Nat) : Nat → Nat
  | 0 => 0
  | n + 1 => if s.testBit n then zwk B s m n ||| zst (zfs B n m false) (B 0 * B 1) else zwk B s m n
/-- how many steps the first n geese can do -/
def zgc (B : zB) : Nat → Nat
  | 0 => 0
  | n + 1 => zgc B n + zpc (zgS B n) 25
theorem zgc_le (B : zB) : ∀ n, zgc B n ≤ 25 * n
  | 0 => Nat.le_refl _
  | n + 1 => by
    have := zgc_le B n
    have := zpc_le (zgS B n) 25
    rw [zgc]
    omega
def zcm (B : zB) : Nat := if B 6 = 1 then zpc (zfS B) 25 else zgc B (B 2)
/-- no goose can step -/
def zstuck (B : zB) : Nat → Bool
  | 0 => true
  | n + 1 => zstuck B n && decide (zgS B n = 0)
def zmp (B : zB) : Bool := zstuck B (B 2) && decide (B 6 = 0) && decide (B 7 < 9999) && decide (¬ B 5 < B 0)
theorem zstuck_iff {B : zB} : ∀ {n : Nat}, zstuck B n = true ↔ ∀ i, i < n → zgS B i = 0
  | 0 => by simp [zstuck]
  | n + 1 => by
    rw [zstuck, Bool.and_eq_true, zstuck_iff, decide_eq_true_eq]
    constructor
    · rintro ⟨h1, h2⟩ i hi
      by_cases q : i = n
      · subst q; exact h2
      · exact h1 i (by omega)
    · intro h
      exact ⟨fun i hi => h i (by omega), h n (by omega)⟩
section BQ
variable {d k : Nat} {B : zB} {Rf : Int32 → ab_S → Prop} {σ : ab_S}
theorem p_B_reachF (hk : ab_sh k = (0, 0)) (hB : zH σ k B) (hV : zV B) (h : Rf (nI (zfS B)) σ) : CA (d + 3) 30 [.ref k, .int 4] σ (ab_rI Rf) := by
  obtain ⟨⟨-, -, -, -, -, hf, -, hm⟩, -⟩ := id hV
  refine e_B_reach (b_B_reach_0 (fun _ => b_B_reach_5 hk ?_) (fun c => absurd rfl c))
  rw [hB.2.2.2.2.1, hB.2.2.2.2.2.2.2.1]
  exact p_B_foxReach (og := true) hk hB hV hf (by omega) (b_B_reach_18 (b_B_reach_26 h))
theorem p_B_reachG {i : Nat} (hk : ab_sh k = (0, 0)) (hB : zH σ k B) (hV : zV B) (hi : i < B 2) (h : Rf (nI (zgS B i)) σ) : CA (d + 3) 30 [.ref k, .int (nI i)] σ (ab_rI Rf) := by
  obtain ⟨⟨-, -, hn4, -⟩, -⟩ := id hV
  exact e_B_reach (b_B_reach_0 (fun c => absurd c (by rw [zlit 4, zeq (by omega) (by omega)]; omega)) (fun _ => b_B_reach_21 hk (p_B_gooseReach hk hB hV hi (b_B_reach_26 h))))
theorem p_B_open (hk : ab_sh k = (0, 0)) (hB : zH σ k B) (hV : zV B) (h : Rf (nI (zpc (zfS B) 25)) σ) : CA (d + 4) 32 [.ref k] σ (ab_rI Rf) :=
  e_B_open (b_B_open_0 hk (p_B_reachF hk hB hV (b_B_open_5 (p_J_bitCount (zfS_lt hV) (b_B_open_8 h)))))
theorem p_B_outcome (hk : ab_sh k = (0, 0)) (hB : zH σ k B) (hV : zV B) (h : Rf (nI (zhow B)) σ) : CA (d + 3) 37 [.ref k] σ (ab_rI Rf) := by
  have hl := zfS_lt hV
  obtain ⟨⟨-, -, -, -, -, hf, ht, hm⟩, -⟩ := id hV
  refine e_B_outcome (b_B_outcome_0 hk (p_B_isHome hk hB hV (b_B_outcome_4 (fun c => ?_) (fun c => ?_))))
  · rw [zb_0] at c
    have c : ¬ B 5 < B 0 := by simpa using c
    rw [zhow, if_neg c] at h
    refine b_B_outcome_9 hk (fun c2 => ?_) (fun c2 => ?_)
    · rw [hB.2.2.2.2.2.2.1, zlit 1, zeq (by omega) (by omega)] at c2
      refine b_B_outcome_17 hk ?_
      rw [hB.2.2.2.2.1, hB.2.2.2.2.2.2.2.1]
      refine p_B_foxReach (og := true) hk hB hV hf (by omega) (d_B_outcome_30 (b_B_outcome_38 (zr h ?_)))
      have e : (nI (zfS B) = 0) ↔ zfS B = 0 := zeq (b := 0) (by omega) (by omega)
      show (if nI (zfS B) = 0 then (1 : Int32) else 0) = _
      by_cases q : zfS B = 0
      · rw [if_pos (e.mpr q), if_pos ⟨c2, q⟩]; rfl
      · rw [if_neg (fun z => q (e.mp z)), if_neg (fun z => q z.2)]; rfl
    · rw [hB.2.2.2.2.2.2.1, zlit 1, zeq (by omega) (by omega)] at c2
      exact b_B_outcome_37 (b_B_outcome_38 (zr h (by rw [if_neg (fun z => c2 z.1)]; rfl)))
  · rw [zb_0] at c
    have c : B 5 < B 0 := by simpa using c
    exact b_B_outcome_7 (zr h (by rw [zhow, if_pos c]; rfl))
theorem p_B_walkOn {s m : Nat} (hk : ab_sh k = (0, 0)) (hB : zH σ k B) (hV : zV B) (hs : s < 2 ^ (B 0 * B 1)) (hm : m < 1000000) (h : Rf (nI (zwk B s m 25)) σ) : CA (d + 3) 34 [.ref k, .int (nI s), .int (nI m)] σ (ab_rI Rf) := by
  have h25 := hV.n
  have hs25 : s < 33554432 := Nat.lt_of_lt_of_le hs (Nat.pow_le_pow_right (by omega) h25.2)
  have key : ∀ n c, 25 - c ≤ n → c ≤ 25 → S_B_walkOn_5 (d + 2) Rf k (nI s) (nI m) (nI (zwk B s m c)) (nI c) σ := by
    intro n
    induction n with
    | zero =>
      intro c h1 h2
      have : c = 25 := by omega
      subst this
      exact b_B_walkOn_5 (fun _ => b_B_walkOn_38 h) (fun c => absurd (Int32.le_refl _) c)
    | succ n ih =>
      intro c h1 h2
      refine b_B_walkOn_5 (fun q => ?_) (fun q => ?_)
      · rw [zlit 25, zle (by omega) (by omega)] at q
        have : c = 25 := by omega
        subst this
        exact b_B_walkOn_38 h
      · rw [zlit 25, zle (by omega) (by omega)] at q
        have nx : S_B_walkOn_32 (d + 2) Rf k (nI s) (nI m) (nI (zwk B s m (c + 1))) (nI c) σ := b_B_walkOn_32 (by rw [nI_1]; exact ih (c + 1) (by omega) (by omega))
        rw [zwk] at nx
        refine b_B_walkOn_12 (fun q2 => ?_) (fun q2 => ?_)
        · rw [zbit (by omega) (by omega), zb_0] at q2
          rw [if_neg (by rw [q2]; simp)] at nx
          exact nx
        · rw [zbit (by omega) (by omega), zb_0, Bool.not_eq_false] at q2
          rw [if_pos q2] at nx
          have hcN : c < B 0 * B 1 := by
            rcases Nat.lt_or_ge c (B 0 * B 1) with z | z
            · exact z
            · rw [Nat.testBit_lt_two_pow (Nat.lt_of_lt_of_le hs (Nat.pow_le_pow_right (by omega) z))] at q2
              cases q2
          refine b_B_walkOn_21 hk (p_B_foxReach (og := false) hk hB hV hcN hm (b_B_walkOn_30 ?_))
          rw [fa_or]
          exact nx
  exact e_B_walkOn (b_B_walkOn_0 (key 25 0 (by omega) (by omega)))
theorem p_B_countMoves (hk : ab_sh k = (0, 0)) (hB : zH σ k B) (hV : zV B) (h : Rf (nI (zcm B)) σ) : CA (d + 4) 38 [.ref k] σ (ab_rI Rf) := by
  obtain ⟨⟨-, -, hn4, -, -, -, ht, -⟩, -⟩ := id hV
  refine e_B_countMoves (b_B_countMoves_0 hk (p_B_lastMover hk hB hV (b_B_countMoves_6 hk (p_B_firstMover hk hB hV (b_B_countMoves_11 ?_)))))
  by_cases q : B 6 = 1
  · rw [if_pos q, if_pos q]
    rw [zcm, if_pos q] at h
    refine b_B_countMoves_12 (fun c => absurd c (by decide)) (fun _ => b_B_countMoves_17 hk (p_B_reachF hk hB hV (b_B_countMoves_23 (p_J_bitCount (zfS_lt hV) (b_B_countMoves_26 (b_B_countMoves_12 (fun _ => b_B_countMoves_34 (zr h ?_)) (fun c => absurd ?_ c)))))))
    · exact Int32.zero_add _
    · decide
  · rw [if_neg q, if_neg q]
    rw [zcm, if_neg q] at h
    have key : ∀ n i, B 2 - i ≤ n → i ≤ B 2 → S_B_countMoves_12 (d + 3) Rf k (nI (zgc B i)) (zc (B 2)) (nI i) σ := by
      intro n
      induction n with
      | zero =>
        intro i h1 h2
        have : i = B 2 := by omega
        subst this
        refine b_B_countMoves_12 (fun _ => b_B_countMoves_34 h) (fun c => absurd ?_ c)
        rw [fa_lt, zc_toInt (by omega), zn (by omega)]; omega
      | succ n ih =>
        intro i h1 h2
        refine b_B_countMoves_12 (fun c => ?_) (fun c => ?_)
        · rw [fa_lt, zc_toInt (by omega), zn (by omega)] at c
          have : i = B 2 := by omega
          subst this
          exact b_B_countMoves_34 h
        · rw [fa_lt, zc_toInt (by omega), zn (by omega)] at c
          refine b_B_countMoves_17 hk (p_B_reachG hk hB hV (by omega) (b_B_countMoves_23 (p_J_bitCount (zgS_lt hV i) (b_B_countMoves_26 ?_))))
          rw [nI_add, nI_1]
          exact ih (i + 1) (by omega) (by omega)
    exact key (B 2) 0 (by omega) (by omega)
theorem p_B_mayPass (hk : ab_sh k = (0, 0)) (hB : zH σ k B) (hV : zV B) (h : Rf (zb (zmp B)) σ) : CA (d + 3) 39 [.ref k] σ (ab_rI Rf) := by
  obtain ⟨⟨-, -, hn4, -, -, -, ht, hm⟩, -⟩ := id hV
  have fin : zstuck B (B 2) = true → S_B_mayPass_26 (d + 2) Rf k σ := by
    intro hs
    refine b_B_mayPass_26 hk (fun c => ?_) (fun c => ?_)
    · rw [hB.2.2.2.2.2.2.1, zlit 0, zeq (by omega) (by omega)] at c
      refine b_B_mayPass_33 hk (fun c2 => ?_) (fun c2 => ?_)
      · rw [hB.2.2.2.2.2.2.2.1, zlit 9999, zle (by omega) (by omega)] at c2
        exact b_B_mayPass_54 (b_B_mayPass_55 zna0 (zr h (by simp [zmp, show ¬ B 7 < 9999 by omega, zb])))
      · rw [hB.2.2.2.2.2.2.2.1, zlit 9999, zle (by omega) (by omega)] at c2
        refine b_B_mayPass_43 hk (p_B_isHome hk hB hV (d_B_mayPass_47 (b_B_mayPass_55 (by split <;> rfl) (zr h ?_))))
        have : zmp B = decide (¬ B 5 < B 0) := by simp [zmp, hs, c, show B 7 < 9999 by omega]
        rw [this]
        by_cases q : B 5 < B 0 <;> simp [q, zb]
    · rw [hB.2.2.2.2.2.2.1, zlit 0, zeq (by omega) (by omega)] at c
      exact b_B_mayPass_54 (b_B_mayPass_55 zna0 (zr h (by simp [zmp, c, zb])))
  have key : ∀ n i, B 2 - i ≤ n → i ≤ B 2 → zstuck B i = true → S_B_mayPass_2 (d + 2) Rf k (nI i) σ := by
    intro n
    induction n with
    | zero =>
      intro i h1 h2 h3
      have : i = B 2 := by omega
      subst this
      exact b_B_mayPass_2 hk (fun _ => fin h3) (fun c => absurd (by rw [hB.2.2.2.2.2.1]; exact Int32.le_refl _) c)
    | succ n ih =>
      intro i h1 h2 h3
      refine b_B_mayPass_2 hk (fun c => ?_) (fun c => ?_)
      · rw [hB.2.2.2.2.2.1, zle (by omega) (by omega)] at c
        have : i = B 2 := by omega
        subst this
        exact fin h3
      · rw [hB.2.2.2.2.2.1, zle (by omega) (by omega)] at c
        have hl := zgS_lt hV i
        refine b_B_mayPass_10 hk (p_B_gooseReach hk hB hV (by omega) (b_B_mayPass_15 (fun c2 => ?_) (fun c2 => ?_)))
        · rw [zlit 0, zeq (by omega) (by omega)] at c2
          exact b_B_mayPass_20 (by rw [nI_1]; exact ih (i + 1) (by omega) (by omega) (by rw [zstuck, h3, c2]; rfl))
        · rw [zlit 0, zeq (by omega) (by omega)] at c2
          have ns : zstuck B (B 2) = false := by
            cases hz : zstuck B (B 2) with
            | false => rfl
            | true => exact absurd (zstuck_iff.mp hz i (by omega)) c2
          exact b_B_mayPass_18 (zr h (by simp [zmp, ns, zb]))
  exact e_B_mayPass (b_B_mayPass_0 (key (B 2) 0 (by omega) (by omega) rfl))
/-- the moves that can be done -/
def zmm (B : zB) (who c : Nat) : Bool := decide (B 6 = if who = 4 then 1 else 0) && decide (B 7 < 9999) && decide (zhow B = 0) && (if who = 4 then (zfS B).testBit c else (zgS B who).testBit c)
theorem p_B_mayMove {who c : Nat} (hk : ab_sh k = (0, 0)) (hB : zH σ k B) (hV : zV B) (hw : who = 4 ∨ who < B 2) (hc : c < 25) (h : Rf (zb (zmm B who c)) σ) : CA (d + 4) 40 [.ref k, .int (nI who), .int (nI c)] σ (ab_rI Rf) := by
  obtain ⟨⟨-, -, hn4, -, -, -, ht, hm⟩, -⟩ := id hV
  have no : zmm B who c = false → S_B_mayMove_69 (d + 3) Rf σ := fun q => b_B_mayMove_69 (b_B_mayMove_70 zna0 (zr h (by rw [q]; rfl)))
  have e4 : (nI who = 4) ↔ who = 4 := zeq (b := 4) (by omega) (by omega)
  have e6 : (nI (B 6) = 1) ↔ B 6 = 1 := zeq (b := 1) (by omega) (by omega)
  refine e_B_mayMove (d_B_mayMove_0 (d_B_mayMove_10 hk (d_B_mayMove_23 ?_)))
  rw [hB.2.2.2.2.2.2.1]
  have et : (if (if nI who = 4 then (1 : Int32) else 0) = (if nI (B 6) = 1 then (1 : Int32) else 0) then (1 : Int32) else 0) = zb (decide (B 6 = if who = 4 then 1 else 0)) := by
    by_cases q1 : who = 4
    · rw [if_pos (e4.mpr q1), if_pos q1]
      by_cases q2 : B 6 = 1
      · rw [if_pos (e6.mpr q2)]; simp [q2, zb]
      · rw [if_neg (fun z => q2 (e6.mp z))]; simp [q2, zb]
    · rw [if_neg (fun z => q1 (e4.mp z)), if_neg q1]
      by_cases q2 : B 6 = 1
      · rw [if_pos (e6.mpr q2)]; simp [q2, zb]
      · rw [if_neg (fun z => q2 (e6.mp z))]; simp [show B 6 = 0 by omega, zb]
  rw [et]
  refine b_B_mayMove_31 (fun q => ?_) (fun q => ?_)
  · rw [zb_0] at q
    exact no (by rw [zmm, q]; rfl)
  rw [zb_0, Bool.not_eq_false] at q
  refine b_B_mayMove_36 hk (fun c2 => ?_) (fun c2 => ?_)
  · rw [hB.2.2.2.2.2.2.2.1, zlit 9999, zle (by omega) (by omega)] at c2
    exact no (by simp [zmm, show ¬ B 7 < 9999 by omega])
  rw [hB.2.2.2.2.2.2.2.1, zlit 9999, zle (by omega) (by omega)] at c2
  have hh : zhow B < 3 := by unfold zhow; split <;> (try split) <;> omega
  refine b_B_mayMove_46 hk (p_B_outcome hk hB hV (b_B_mayMove_50 (fun c3 => ?_) (fun c3 => ?_)))
  · rw [zlit 0, zeq (by omega) (by omega)] at c3
    refine b_B_mayMove_53 hk ?_
    have em : zmm B who c = (if who = 4 then (zfS B).testBit c else (zgS B who).testBit c) := by simp only [zmm, q, c3, show B 7 < 9999 by omega, decide_true, Bool.true_and]
    rcases hw with rfl | hw
    · refine p_B_reachF hk hB hV (d_B_mayMove_58 (b_B_mayMove_70 (by split <;> rfl) (zr h ?_)))
      have := zfS_lt hV
      rw [zbit (by omega) (by omega), em, if_pos rfl]
      cases (zfS B).testBit c <;> decide
    · refine p_B_reachG hk hB hV hw (d_B_mayMove_58 (b_B_mayMove_70 (by split <;> rfl) (zr h ?_)))
      have := zgS_lt hV who
      rw [zbit (by omega) (by omega), em, if_neg (show ¬ who = 4 by omega)]
      cases (zgS B who).testBit c <;> decide
  · rw [zlit 0, zeq (by omega) (by omega)] at c3
    exact no (by simp [zmm, c3])
end BQ
