/-! BOARDS: what the class reads of them -/
def zal (B : zB) (x : Int32) : Bool := decide (0 ≤ x.toInt ∧ x.toInt < B 2) && decide (B (12 + x.toNatClampNeg) ≠ 0)
/-- how many of the first n are eaten -/
def zea (B : zB) : Nat → Nat
  | 0 => 0
  | n + 1 => zea B n + (if B (12 + n) = 0 then 1 else 0)
theorem zpc_or {s c : Nat} (h : s.testBit c = false) : ∀ n, zpc (s ||| 2 ^ c) n = zpc s n + (if c < n then 1 else 0)
  | 0 => by simp [zpc]
  | n + 1 => by
    rw [zpc, zpc, zpc_or h n, Nat.testBit_or, Nat.testBit_two_pow]
    by_cases q : c = n
    · subst q
      simp [h]
    · have : decide (c = n) = false := by simp [q]
      rw [this, Bool.or_false]
      by_cases q2 : c < n
      · rw [if_pos q2, if_pos (show c < n + 1 by omega)]; omega
      · rw [if_neg q2, if_neg (show ¬ c < n + 1 by omega)]; omega
theorem zea_pc {B : zB} : ∀ n, (∀ i, i < n → B (12 + i) ≤ 25) → (∀ i j, i < j → j < n → B (12 + i) = B (12 + j) → B (12 + i) = 0) → zpc (zgn B n) 25 + zea B n = n
  | 0, _, _ => by simp [zgn, zea, zpc]
  | n + 1, h1, h2 => by
    have ih := zea_pc n (fun i hi => h1 i (by omega)) (fun i j a b => h2 i j a (by omega))
    rw [zgn, zea]
    by_cases q : B (12 + n) = 0
    · rw [if_pos q, if_pos q]; omega
    · have hb := h1 n (by omega)
      have nb : (zgn B n).testBit (B (12 + n) - 1) = false := by
        rw [zgn_bit]
        cases hz : zga B n (B (12 + n) - 1) with
        | false => rfl
        | true =>
          obtain ⟨i, hi, e⟩ := zga_iff.mp hz
          have := h2 i n hi (by omega) (by omega)
          omega
      rw [if_neg q, if_neg q, zpc_or nb, if_pos (by omega)]
      omega
/-- the cell half way, and 1 (0: none) -/
def zhw (B : zB) (f t : Nat) : Nat := if f = t ∨ (f % B 0 + t % B 0) % 2 = 1 ∨ (f / B 0 + t / B 0) % 2 = 1 then 0 else (f + t) / 2 + 1
def zov (B : zB) (f t : Nat) : Bool := decide (zhw B f t ≠ 0) && zga B (B 2) (zhw B f t - 1)
def zdx (B : zB) (f t : Nat) : Int := ((t % B 0 : Nat) : Int) - ((f % B 0 : Nat) : Int)
def zdy (B : zB) (f t : Nat) : Int := ((t / B 0 : Nat) : Int) - ((f / B 0 : Nat) : Int)
/-- she may step from f to c in move m, over geese or not -/
def zfs (B : zB) (f m : Nat) (og : Bool) (c : Nat) : Bool := zff B c && (og || !zov B f c) && zmf (B 4) (zdx B f c) (zdy B f c) m (zov B f c)
theorem zmf_far {kind m : Nat} {dx dy : Int} {o : Bool} (h : dx < -2 ∨ 2 < dx ∨ dy < -2 ∨ 2 < dy) : zmf kind dx dy m o = false := by
  have a1 : ¬ dx.natAbs + dy.natAbs = 1 := by omega
  have a2 : ¬ (dx.natAbs = 1 ∧ dy.natAbs = 1) := by omega
  have a3 : ¬ (dx.natAbs = 2 ∧ dy = 0 ∨ dx = 0 ∧ dy.natAbs = 2) := by omega
  have a4 : ¬ (dx.natAbs = 2 ∧ dy.natAbs = 2) := by omega
  unfold zmf
  split <;> simp only [a1, a2, a3, a4, decide_false, Bool.and_false, Bool.or_false, Bool.false_and]
theorem zst_same {p : Nat → Bool} {a : Nat} : ∀ {b : Nat}, a ≤ b → (∀ c, a ≤ c → c < b → p c = false) → zst p b = zst p a
  | 0, h, _ => by
    have : a = 0 := by omega
    subst this; rfl
  | b + 1, h, hp => by
    by_cases q : a = b + 1
    · subst q; rfl
    · rw [zst, hp b (by omega) (by omega)]
      simp only [Bool.false_eq_true, if_false, Nat.or_zero]
      exact zst_same (by omega) (fun c h1 h2 => hp c h1 (by omega))
theorem zsubI {a b : Nat} (ha : a < 1000000) (hb : b < 1000000) : nI a - nI b = iI ((a : Int) - b) := by
  rw [fa_eq, fb_subI (by rw [zn (by omega), zn (by omega)]; omega) (by rw [zn (by omega), zn (by omega)]; omega), zn (by omega), zn (by omega), zi (by omega)]
theorem zmax {y c : Nat} (hy : y < 1000000) (hc : c < 1000000) : (if (0 : Int32) < nI y - nI c then nI y - nI c else 0) = nI (y - c) := by
  have e : (nI y - nI c).toInt = (y : Int) - c := by rw [zsubI hy hc, zi (by omega)]
  by_cases h : (0 : Int32) < nI y - nI c
  · rw [if_pos h]
    rw [fa_lt, e, zt0] at h
    exact pk_sub (by omega)
  · rw [if_neg h]
    rw [fa_lt, e, zt0] at h
    rw [show y - c = 0 by omega]
    rfl
section BR
variable {d k : Nat} {B : zB} {Rf : Int32 → ab_S → Prop} {σ : ab_S}
theorem p_B_isGooseAlive {x : Int32} (hk : ab_sh k = (0, 0)) (hB : zH σ k B) (hV : zV B) (h : Rf (zb (zal B x)) σ) : CA (d + 1) 23 [.ref k, .int x] σ (ab_rI Rf) := by
  obtain ⟨-, -, -, -, -, hn, -, -, hg⟩ := id hB
  obtain ⟨⟨-, -, hn4, -⟩, hq, -⟩ := id hV
  have h25 := hV.n
  have hN := zn (show B 2 < 2147483648 by omega)
  have no : ¬ (0 ≤ x.toInt ∧ x.toInt < B 2) → Rf 0 σ := fun q => zr h (by simp [zal, q, zb])
  refine e_B_isGooseAlive (b_B_isGooseAlive_0 (fun c => ?_) (fun c => b_B_isGooseAlive_4 hk (fun c2 => ?_) (fun c2 => b_B_isGooseAlive_12 (fun c3 => ?_) (fun c3 => ?_))))
  · rw [fa_lt, zt0] at c
    exact b_B_isGooseAlive_31 (b_B_isGooseAlive_32 zna0 (no (by omega)))
  · rw [hn, fa_le, hN] at c2
    exact b_B_isGooseAlive_31 (b_B_isGooseAlive_32 zna0 (no (by omega)))
  · rw [hn, fa_le, hN] at c2
    rw [fa_le, zt4] at c3
    exact b_B_isGooseAlive_31 (b_B_isGooseAlive_32 zna0 (no (by omega)))
  · rw [fa_lt, zt0] at c
    rw [hn, fa_le, hN] at c2
    obtain ⟨i, hi, rfl⟩ : ∃ i : Nat, i < B 2 ∧ x = nI i := ⟨x.toInt.toNat, by omega, by rw [fa_eq, zn (by omega)]; omega⟩
    have e1 : Int32.toNatClampNeg (nI i) = i := zc_nI (by omega)
    have hb := (hq i hi).2
    have al : zal B (nI i) = decide (B (12 + i) ≠ 0) := by
      rw [zal, e1, zn (by omega)]
      have : (0 : Int) ≤ (i : Int) ∧ (i : Int) < B 2 := by omega
      simp [this]
    refine b_B_isGooseAlive_17 hk (vp_in_nI (by omega) (by omega)) (fun c4 => ?_) (fun c4 => ?_)
    · rw [e1, (hg i hi).2, zc_neg (by omega)] at c4
      exact b_B_isGooseAlive_31 (b_B_isGooseAlive_32 zna0 (zr h (by rw [al]; simp [c4, zb])))
    · rw [e1, (hg i hi).2, zc_neg (by omega)] at c4
      exact b_B_isGooseAlive_27 (b_B_isGooseAlive_32 zna1 (zr h (by rw [al]; simp [c4, zb])))
theorem p_B_kindOfF (hk : ab_sh k = (0, 0)) (hB : zH σ k B) (h : Rf (nI (B 4)) σ) : CA (d + 2) 24 [.ref k, .int 4] σ (ab_rI Rf) :=
  e_B_kindOf (b_B_kindOf_0 (fun _ => b_B_kindOf_5 hk (zr h hB.2.2.2.1)) (fun c => absurd rfl c))
theorem p_B_cellOfF (hk : ab_sh k = (0, 0)) (hB : zH σ k B) (h : Rf (nI (B 5)) σ) : CA (d + 2) 25 [.ref k, .int 4] σ (ab_rI Rf) :=
  e_B_cellOf (b_B_cellOf_0 (fun _ => b_B_cellOf_5 hk (zr h hB.2.2.2.2.1)) (fun c => absurd rfl c))
theorem p_B_kindOfG {i : Nat} (hk : ab_sh k = (0, 0)) (hB : zH σ k B) (hV : zV B) (hi : i < B 2) (h : Rf (nI (B (8 + i))) σ) : CA (d + 2) 24 [.ref k, .int (nI i)] σ (ab_rI Rf) := by
  obtain ⟨⟨-, -, hn4, -⟩, -⟩ := id hV
  refine e_B_kindOf (b_B_kindOf_0 (fun c => absurd c (by rw [zlit 4, zeq (by omega) (by omega)]; omega)) (fun _ => b_B_kindOf_10 hk (p_B_isGoose hk hB hV (b_B_kindOf_15 (fun c => absurd c ?_) (fun _ => b_B_kindOf_18 hk (vp_in_nI (by omega) (by omega)) (b_B_kindOf_28 (zr h ?_)))))))
  · rw [zb_0, zn (by omega)]; simp; omega
  · rw [zc_nI (by omega)]
    exact (hB.2.2.2.2.2.2.2.2 i hi).1
theorem p_B_cellOfG {i : Nat} (hk : ab_sh k = (0, 0)) (hB : zH σ k B) (hV : zV B) (hi : i < B 2) (h : Rf (zc (B (12 + i))) σ) : CA (d + 2) 25 [.ref k, .int (nI i)] σ (ab_rI Rf) := by
  obtain ⟨⟨-, -, hn4, -⟩, -⟩ := id hV
  refine e_B_cellOf (b_B_cellOf_0 (fun c => absurd c (by rw [zlit 4, zeq (by omega) (by omega)]; omega)) (fun _ => b_B_cellOf_10 hk (p_B_isGoose hk hB hV (b_B_cellOf_15 (fun c => absurd c ?_) (fun _ => b_B_cellOf_18 hk (vp_in_nI (by omega) (by omega)) (b_B_cellOf_28 (zr h ?_)))))))
  · rw [zb_0, zn (by omega)]; simp; omega
  · rw [zc_nI (by omega)]
    exact (hB.2.2.2.2.2.2.2.2 i hi).2
theorem p_B_eaten (hk : ab_sh k = (0, 0)) (hB : zH σ k B) (hV : zV B) (h : Rf (nI (zea B (B 2))) σ) : CA (d + 2) 26 [.ref k] σ (ab_rI Rf) := by
  have h25 := hV.n
  obtain ⟨⟨-, -, hn4, -⟩, hq, -, hd, -⟩ := id hV
  have hb : ∀ i, i < B 2 → B (12 + i) ≤ 25 := fun i hi => by have := (hq i hi).2; omega
  have hz := zea_pc (B := B) (B 2) hb hd
  refine e_B_eaten (b_B_eaten_0 hk (p_B_gooseBits hk hB hV (b_B_eaten_8 (p_J_bitCount (zgn_lt _ hb) (b_B_eaten_11 (zr h ?_))))))
  rw [hB.2.2.2.2.2.1, pk_sub (by omega)]
  congr 1
  omega
theorem p_B_firstMover (hk : ab_sh k = (0, 0)) (hB : zH σ k B) (hV : zV B) (h : Rf (nI (if B 6 = 1 then 4 else 0)) σ) : CA (d + 1) 28 [.ref k] σ (ab_rI Rf) := by
  obtain ⟨⟨-, -, -, -, -, -, ht, -⟩, -⟩ := id hV
  refine e_B_firstMover (d_B_firstMover_0 hk (b_B_firstMover_13 (zr h ?_)))
  rw [hB.2.2.2.2.2.2.1]
  rcases (show B 6 = 0 ∨ B 6 = 1 by omega) with q | q <;> rw [q] <;> rfl
theorem p_B_lastMover (hk : ab_sh k = (0, 0)) (hB : zH σ k B) (hV : zV B) (h : Rf (if B 6 = 1 then nI 4 else zc (B 2)) σ) : CA (d + 1) 29 [.ref k] σ (ab_rI Rf) := by
  obtain ⟨⟨-, -, -, -, -, -, ht, -⟩, -⟩ := id hV
  refine e_B_lastMover (b_B_lastMover_0 hk (fun c => b_B_lastMover_8 (b_B_lastMover_18 (zr h ?_))) (fun c => b_B_lastMover_12 hk (b_B_lastMover_18 (zr h ?_))))
  · rw [hB.2.2.2.2.2.2.1, zlit 1, zeq (by omega) (by omega)] at c
    rw [if_pos c]; rfl
  · rw [hB.2.2.2.2.2.2.1, zlit 1, zeq (by omega) (by omega)] at c
    rw [if_neg c, hB.2.2.2.2.2.1]; rfl
theorem p_B_isHome (hk : ab_sh k = (0, 0)) (hB : zH σ k B) (hV : zV B) (h : Rf (zb (decide (B 5 < B 0))) σ) : CA (d + 1) 36 [.ref k] σ (ab_rI Rf) := by
  have h25 := hV.n
  obtain ⟨⟨⟨-, hw5⟩, -, -, -, -, hf, -⟩, -⟩ := id hV
  refine e_B_isHome (d_B_isHome_0 hk (b_B_isHome_16 (by split <;> rfl) (zr h ?_)))
  rw [hB.1, hB.2.2.2.2.1]
  simp only [zle (show B 0 < 2147483648 by omega) (show B 5 < 2147483648 by omega), zbd]
  by_cases q : B 5 < B 0
  · rw [if_neg (by omega), if_pos q]
  · rw [if_pos (by omega), if_neg q]
end BR
