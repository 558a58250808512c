/-! NUMBERS: small naturals as ints -/
theorem zr {v w : Int32} {Rf : Int32 → ab_S → Prop} {σ : ab_S} (h : Rf w σ) (e : v = w) : Rf v σ := e ▸ h
theorem zrL {v w : Int64} {Rf : Int64 → ab_S → Prop} {σ : ab_S} (h : Rf w σ) (e : v = w) : Rf v σ := e ▸ h
def zb (b : Bool) : Int32 := if b then 1 else 0
theorem zb_t : zb true = 1 := rfl
theorem zb_f : zb false = 0 := rfl
theorem zb_nar (b : Bool) : narrow .boolean (.int (zb b)) = .int (zb b) := by cases b <;> rfl
theorem zb_0 {b : Bool} : zb b = 0 ↔ b = false := by cases b <;> decide
theorem zb_1 {b : Bool} : zb b = 1 ↔ b = true := by cases b <;> decide
theorem zc_nI {n : Nat} (h : n < 2 ^ 31) : (nI n).toNatClampNeg = n := nI_clamp h
theorem zlit (n : Nat) : (OfNat.ofNat n : Int32) = nI n := fa_lit n
theorem zle {a b : Nat} (ha : a < 2147483648) (hb : b < 2147483648) : nI a ≤ nI b ↔ a ≤ b := nI_leI ha hb
theorem zlt {a b : Nat} (ha : a < 2147483648) (hb : b < 2147483648) : nI a < nI b ↔ a < b := nI_ltI ha hb
theorem zeq {a b : Nat} (ha : a < 2147483648) (hb : b < 2147483648) : nI a = nI b ↔ a = b := nI_eq ha hb
theorem zrem {a d : Nat} (ha : a < 2147483648) (h0 : 0 < d) (hd : d < 2147483648) : nI a - nI a / nI d * nI d = nI (a % d) := pk_rem ha h0 hd
theorem zdiv {a d : Nat} (ha : a < 2147483648) (h0 : 0 < d) (hd : d < 2147483648) : nI a / nI d = nI (a / d) := pk_div ha h0 hd
theorem zshl : ∀ c, c < 31 → (1 : Int32) <<< (nI c &&& 31) = nI (2 ^ c) := by decide +kernel
theorem zshc : ∀ c, c < 32 → ((nI c &&& 31).toBitVec.smod 32).toNat = c := by decide +kernel
theorem zshr {n c : Nat} (hn : n < 2147483648) (hc : c < 32) : nI n >>> (nI c &&& 31) = nI (n / 2 ^ c) := pk_shrN hn _ c (zshc c hc)
theorem zand1 (n : Nat) : nI n &&& 1 = nI (n % 2) := by
  have h := fa_mask n 1
  exact h
/-- the bit c of a set -/
theorem zbit {n c : Nat} (hn : n < 2147483648) (hc : c < 32) : (nI n >>> (nI c &&& 31)) &&& 1 = zb (n.testBit c) := by
  rw [zshr hn hc, zand1, Nat.testBit_eq_decide_div_mod_eq]
  have : n / 2 ^ c % 2 = 0 ∨ n / 2 ^ c % 2 = 1 := by omega
  rcases this with h | h <;> rw [h] <;> rfl
/-! sets of cells -/
def zst (p : Nat → Bool) : Nat → Nat
  | 0 => 0
  | n + 1 => zst p n ||| (if p n then 2 ^ n else 0)
theorem zst_bit (p : Nat → Bool) : ∀ n c, (zst p n).testBit c = (decide (c < n) && p c)
  | 0, c => by simp [zst]
  | n + 1, c => by
    rw [zst, Nat.testBit_or, zst_bit p n c]
    by_cases h : p n = true
    · rw [if_pos h, Nat.testBit_two_pow]
      by_cases hc : n = c
      · subst hc; simp [h]
      · have : decide (c < n + 1) = decide (c < n) := by simp; omega
        rw [this]
        simp [hc]
    · rw [if_neg h]
      simp only [Nat.zero_testBit, Bool.or_false]
      by_cases hc : n = c
      · subst hc; simp [h]
      · have : decide (c < n + 1) = decide (c < n) := by simp; omega
        rw [this]
theorem zst_lt (p : Nat → Bool) (n : Nat) : zst p n < 2 ^ n := by
  apply Nat.lt_pow_two_of_testBit
  intro i hi
  rw [zst_bit]
  simp
  omega
theorem zst_eq {p q : Nat → Bool} {n : Nat} (h : ∀ c, c < n → p c = q c) : zst p n = zst q n := by
  apply Nat.eq_of_testBit_eq
  intro i
  rw [zst_bit, zst_bit]
  by_cases hi : i < n
  · simp [hi, h i hi]
  · simp [hi]
/-- how many bits are set below n -/
def zpc (s : Nat) : Nat → Nat
  | 0 => 0
  | n + 1 => zpc s n + (if s.testBit n then 1 else 0)
theorem zpc_le (s : Nat) : ∀ n, zpc s n ≤ n
  | 0 => Nat.le_refl 0
  | n + 1 => by
    have := zpc_le s n
    rw [zpc]
    split <;> omega
theorem zpc_up {s n : Nat} (hs : s < 2 ^ n) : ∀ m, zpc s (n + m) = zpc s n
  | 0 => rfl
  | m + 1 => by
    have h : s.testBit (n + m) = false := Nat.testBit_lt_two_pow (Nat.lt_of_lt_of_le hs (Nat.pow_le_pow_right (by omega) (by omega)))
    rw [← Nat.add_assoc, zpc, zpc_up hs m, h]
    simp
