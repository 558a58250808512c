/-! BOARDS: 0 W, 1 H, 2 GEESE, 3 THICKETS, 4 KIND, 5 CELL, 6 TURN, 7 MOVES, 8.. kinds, 12.. cells and 1 (0: eaten) -/
abbrev zB : Type := Nat → Nat
theorem zbd (p : Prop) [Decidable p] : zb (decide p) = if p then 1 else 0 := by by_cases h : p <;> simp [h, zb]
/-- a goose's cell: -1 if eaten -/
def zc (n : Nat) : Int32 := nI n - 1
theorem zc_0 : zc 0 = -1 := by decide
theorem zc_s (n : Nat) : zc (n + 1) = nI n := nI_pred n
theorem zc_p {n : Nat} (h : n ≠ 0) : zc n = nI (n - 1) := by
  obtain ⟨k, rfl⟩ : ∃ k, n = k + 1 := ⟨n - 1, by omega⟩
  exact zc_s k
theorem zc_toInt {n : Nat} (h : n < 1000000) : (zc n).toInt = (n : Int) - 1 := by
  unfold zc
  rw [fb_subI (by rw [zn (by omega), zt1]; omega) (by rw [zn (by omega), zt1]; omega), zn (by omega), zt1]
theorem zc_neg {n : Nat} (h : n < 1000000) : zc n = -1 ↔ n = 0 := by
  rw [fa_eq, zc_toInt h, ztm]
  omega
theorem zc_eq {n c : Nat} (h : n < 1000000) (hc : c < 1000000) : zc n = nI c ↔ n = c + 1 := by
  rw [fa_eq, zc_toInt h, zn (by omega)]
  omega
def zH (σ : ab_S) (k : Nat) (B : zB) : Prop :=
  σ.1 k 0 = nI (B 0) ∧ σ.1 k 1 = nI (B 1) ∧ σ.1 k 2 = nI (B 3) ∧ σ.1 k 3 = nI (B 4) ∧ σ.1 k 4 = nI (B 5) ∧ σ.1 k 5 = nI (B 2) ∧ σ.1 k 6 = nI (B 6) ∧ σ.1 k 7 = nI (B 7) ∧ ∀ i, i < B 2 → σ.1 (k + 1) i = nI (B (8 + i)) ∧ σ.1 (k + 2) i = zc (B (12 + i))
/-- a board as it may be -/
def zV (B : zB) : Prop :=
  ((3 ≤ B 0 ∧ B 0 ≤ 5) ∧ (3 ≤ B 1 ∧ B 1 ≤ 5) ∧ B 2 ≤ 4 ∧ B 3 < 33554432 ∧ B 4 < 6 ∧ B 5 < B 0 * B 1 ∧ B 6 ≤ 1 ∧ B 7 < 100000) ∧ (∀ i, i < B 2 → B (8 + i) < 6 ∧ B (12 + i) ≤ B 0 * B 1) ∧ (∀ i, i < B 2 → B (12 + i) ≠ B 5 + 1) ∧ (∀ i j, i < j → j < B 2 → B (12 + i) = B (12 + j) → B (12 + i) = 0) ∧ (B 3).testBit (B 5) = false ∧ ∀ i, i < B 2 → ∀ c, B (12 + i) = c + 1 → (B 3).testBit c = false
theorem zV.n {B : zB} (h : zV B) : 9 ≤ B 0 * B 1 ∧ B 0 * B 1 ≤ 25 := by
  obtain ⟨⟨⟨a, b⟩, ⟨c, d⟩, -⟩, -⟩ := h
  exact ⟨Nat.mul_le_mul a c, Nat.mul_le_mul b d⟩
/-- a goose among the first n on a cell -/
def zga (B : zB) : Nat → Nat → Bool
  | 0, _ => false
  | n + 1, c => zga B n c || decide (B (12 + n) = c + 1)
def zgn (B : zB) : Nat → Nat
  | 0 => 0
  | n + 1 => if B (12 + n) = 0 then zgn B n else zgn B n ||| 2 ^ (B (12 + n) - 1)
theorem zgn_bit (B : zB) : ∀ n c, (zgn B n).testBit c = zga B n c
  | 0, c => by simp [zgn, zga]
  | n + 1, c => by
    rw [zgn, zga]
    by_cases h : B (12 + n) = 0
    · rw [if_pos h, zgn_bit B n c, h]
      simp
    · rw [if_neg h, Nat.testBit_or, zgn_bit B n c, Nat.testBit_two_pow]
      congr 1
      simp only [decide_eq_decide]
      omega
theorem zgn_lt {B : zB} (n : Nat) (h : ∀ i, i < n → B (12 + i) ≤ 25) : zgn B n < 2 ^ 25 := by
  induction n with
  | zero => simp [zgn]
  | succ n ih =>
    have ih := ih (fun i hi => h i (by omega))
    have hn := h n (by omega)
    rw [zgn]
    split
    · exact ih
    · exact Nat.or_lt_two_pow ih (Nat.pow_lt_pow_right (by omega) (by omega))
theorem zga_iff {B : zB} {c : Nat} : ∀ {n : Nat}, zga B n c = true ↔ ∃ i, i < n ∧ B (12 + i) = c + 1
  | 0 => by simp [zga]
  | n + 1 => by
    rw [zga, Bool.or_eq_true, zga_iff, decide_eq_true_eq]
    constructor
    · rintro (⟨i, h1, h2⟩ | h)
      · exact ⟨i, by omega, h2⟩
      · exact ⟨n, by omega, h⟩
    · rintro ⟨i, h1, h2⟩
      by_cases q : i = n
      · subst q; exact Or.inr h2
      · exact Or.inl ⟨i, by omega, h2⟩
/-- no thicket, no goose -/
def zff (B : zB) (c : Nat) : Bool := !zga B (B 2) c && !(B 3).testBit c
def zfr (B : zB) (c : Nat) : Bool := zff B c && decide (B 5 ≠ c)
section BD
variable {d k : Nat} {B : zB} {Rf : Int32 → ab_S → Prop} {σ : ab_S}
theorem p_B_gooseBits (hk : ab_sh k = (0, 0)) (hB : zH σ k B) (hV : zV B) (h : Rf (nI (zgn B (B 2))) σ) : CA (d + 1) 27 [.ref k] σ (ab_rI Rf) := by
  obtain ⟨-, -, -, -, -, hn, -, -, hg⟩ := id hB
  obtain ⟨⟨-, -, hn4, -⟩, hq, -⟩ := id hV
  have h25 := hV.n
  have key : ∀ m i, B 2 - i ≤ m → i ≤ B 2 → S_B_gooseBits_4 d Rf k (nI (zgn B i)) (nI i) σ := by
    intro m
    induction m with
    | zero =>
      intro i h1 h2
      have : i = B 2 := by omega
      subst this
      exact b_B_gooseBits_4 hk (fun _ => b_B_gooseBits_44 h) (fun c => absurd (by rw [hn]; exact Int32.le_refl _) c)
    | succ m ih =>
      intro i h1 h2
      refine b_B_gooseBits_4 hk (fun c => ?_) (fun c => ?_)
      · rw [hn, zle (by omega) (by omega)] at c
        have : i = B 2 := by omega
        subst this
        exact b_B_gooseBits_44 h
      · rw [hn, zle (by omega) (by omega)] at c
        have hi : i < B 2 := by omega
        have e1 : Int32.toNatClampNeg (nI i) = i := zc_nI (by omega)
        have hin : vp_in (nI i) 4 := vp_in_nI (by omega) (by omega)
        refine b_B_gooseBits_12 (fun c => absurd c (by rw [zlit 4, zle (by omega) (by omega)]; omega)) (fun _ => ?_)
        have hb := (hq i hi).2
        have nx : S_B_gooseBits_38 d Rf k (nI (zgn B (i + 1))) (nI i) σ := b_B_gooseBits_38 (by rw [nI_1]; exact ih (i + 1) (by omega) (by omega))
        rw [zgn] at nx
        refine b_B_gooseBits_17 hk hin (fun c => ?_) (fun c => ?_)
        · rw [e1, (hg i hi).2, zc_neg (by omega)] at c
          rw [if_pos c] at nx
          exact nx
        · rw [e1, (hg i hi).2, zc_neg (by omega)] at c
          rw [if_neg c] at nx
          refine b_B_gooseBits_27 hk hin ?_
          rw [e1, (hg i hi).2, zc_p c, zshl _ (by omega), fa_or]
          exact nx
  refine e_B_gooseBits (b_B_gooseBits_0 ?_)
  exact key (B 2) 0 (by omega) (by omega)
theorem p_B_isFreeForFox {c : Nat} (hk : ab_sh k = (0, 0)) (hB : zH σ k B) (hV : zV B) (hc : c < 25) (h : Rf (zb (zff B c)) σ) : CA (d + 2) 21 [.ref k, .int (nI c)] σ (ab_rI Rf) := by
  obtain ⟨-, -, ht, -⟩ := id hB
  have h25 := hV.n
  obtain ⟨⟨-, -, hn4, ht25, -⟩, hq, -⟩ := id hV
  have hl := zgn_lt (B := B) (B 2) (fun i hi => by have := (hq i hi).2; omega)
  refine e_B_isFreeForFox (b_B_isFreeForFox_0 hk (p_B_gooseBits hk hB hV (d_B_isFreeForFox_8 ?_)))
  rw [ht, fa_or, zbit (Nat.lt_of_lt_of_le (Nat.or_lt_two_pow (x := B 3) (y := zgn B (B 2)) (n := 25) ht25 hl) (by decide)) (by omega), Nat.testBit_or, zgn_bit]
  refine b_B_isFreeForFox_21 (by split <;> rfl) (zr h ?_)
  rw [zff]
  cases (B 3).testBit c <;> cases zga B (B 2) c <;> decide
theorem p_B_isFree {c : Nat} (hk : ab_sh k = (0, 0)) (hB : zH σ k B) (hV : zV B) (hc : c < 25) (h : Rf (zb (zfr B c)) σ) : CA (d + 3) 20 [.ref k, .int (nI c)] σ (ab_rI Rf) := by
  obtain ⟨-, -, -, -, hf, -⟩ := id hB
  have h25 := hV.n
  obtain ⟨⟨-, -, hn4, ht25, -, hf25, -⟩, -⟩ := id hV
  refine e_B_isFree (b_B_isFree_0 hk (fun q => ?_) (fun q => b_B_isFree_8 hk (p_B_isFreeForFox hk hB hV hc (d_B_isFree_13 (b_B_isFree_21 (by split <;> rfl) (zr h ?_))))))
  · rw [hf, zeq (by omega) (by omega)] at q
    exact b_B_isFree_20 (b_B_isFree_21 zna0 (zr h (by rw [zfr, q]; simp [zb])))
  · rw [hf, zeq (by omega) (by omega)] at q
    have : decide (B 5 ≠ c) = true := by simp; omega
    rw [zfr, this]
    cases zff B c <;> decide
theorem p_B_hasCell {x : Int32} (hk : ab_sh k = (0, 0)) (hB : zH σ k B) (hV : zV B) (h : Rf (zb (decide (0 ≤ x.toInt ∧ x.toInt < (B 0 * B 1 : Nat)))) σ) : CA (d + 1) 19 [.ref k, .int x] σ (ab_rI Rf) := by
  obtain ⟨hw, hh, -⟩ := id hB
  have h25 := hV.n
  refine e_B_hasCell (d_B_hasCell_0 hk (b_B_hasCell_22 (by split <;> first | rfl | (split <;> rfl)) (zr h ?_)))
  rw [hw, hh, pk_mul]
  simp only [fa_lt, fa_le, zn (show B 0 * B 1 < 2147483648 by omega), zt0, zbd]
  by_cases a : x.toInt < 0
  · rw [if_pos a, if_neg (by omega)]
  · rw [if_neg a]
    by_cases b : ((B 0 * B 1 : Nat) : Int) ≤ x.toInt
    · rw [if_pos b, if_neg (by omega)]
    · rw [if_neg b, if_pos (by omega)]
theorem p_B_isGoose {x : Int32} (hk : ab_sh k = (0, 0)) (hB : zH σ k B) (hV : zV B) (h : Rf (zb (decide (0 ≤ x.toInt ∧ x.toInt < B 2))) σ) : CA (d + 1) 22 [.ref k, .int x] σ (ab_rI Rf) := by
  obtain ⟨-, -, -, -, -, hn, -⟩ := id hB
  obtain ⟨⟨-, -, hn4, -⟩, -⟩ := id hV
  refine e_B_isGoose (d_B_isGoose_0 hk (b_B_isGoose_22 (by split <;> first | rfl | (split <;> first | rfl | (split <;> rfl))) (zr h ?_)))
  rw [hn]
  simp only [fa_lt, fa_le, zn (show B 2 < 2147483648 by omega), zt0, zt4, zbd]
  by_cases a : x.toInt < 0
  · rw [if_pos a, if_neg (by omega)]
  · rw [if_neg a]
    by_cases b : (B 2 : Int) ≤ x.toInt
    · rw [if_pos b, if_neg (by omega)]
    · rw [if_neg b, if_neg (by omega), if_pos (by omega)]
end BD
