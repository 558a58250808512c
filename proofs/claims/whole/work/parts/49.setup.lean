/-! field, thicket, fox, goose: both sides -/
def zic (B : zB) (x : Int32) : Bool := decide (0 ≤ x.toInt ∧ x.toInt < (B 0 * B 1 : Nat))
theorem zic_n {B : zB} {x : Int32} (hV : zV B) (h : zic B x = true) : ∃ c, c < B 0 * B 1 ∧ x = nI c ∧ x.toNatClampNeg = c := by
  unfold zic at h
  have h := of_decide_eq_true h
  have h25 := hV.n
  refine ⟨x.toInt.toNat, by omega, ?_, ?_⟩
  · rw [fa_eq, zn (by omega)]; omega
  · rfl
def zset (S : zS) (B : zB) : zS := ((B, (0, S.1.2.1.2), S.1.2.2), S.2)
theorem zset_V {S : zS} {B : zB} (h : zSV S) (hB : zV B) (h7 : B 7 ≤ 9999) : zSV (zset S B) := by
  obtain ⟨⟨a1, a2, a3, a4, a5⟩, hk, ht⟩ := h
  exact ⟨⟨hB, h7, by show 0 ≤ 8; omega, fun u hu => absurd hu (Nat.not_lt_zero u), a5⟩, hk, ht⟩
def zO_field (S : zS) (x y : Int32) : Int32 × zS :=
  if (zw x 3 5 && zw y 3 5) = true then (nI (S.1.1 2), (zbeg x.toNatClampNeg y.toNatClampNeg, (0, S.1.2.1.2), (0, S.1.2.2.1.2), (0, S.1.2.2.2.2)), S.2) else (-2, zbump S 0)
def zO_thicket (S : zS) (x : Int32) : Int32 × zS :=
  if zic S.1.1 x = true then (if zfr S.1.1 x.toNatClampNeg = true then (nI (zpc (S.1.1 3 ||| 2 ^ x.toNatClampNeg) 25), zset S (zup S.1.1 3 (S.1.1 3 ||| 2 ^ x.toNatClampNeg))) else (-3, zbump S 1)) else (-2, zbump S 0)
def zO_fox (S : zS) (x y : Int32) : Int32 × zS :=
  if (zw x 0 5 && zic S.1.1 y) = true then (if zff S.1.1 y.toNatClampNeg = true then (nI (S.1.1 4), zset S (zup (zup S.1.1 4 x.toNatClampNeg) 5 y.toNatClampNeg)) else (-3, zbump S 1)) else (-2, zbump S 0)
def zO_goose (S : zS) (x y : Int32) : Int32 × zS :=
  if (zw x 0 5 && zic S.1.1 y) = true then (if zfr S.1.1 y.toNatClampNeg = true then (if S.1.1 2 < 4 then (nI (S.1.1 2), zset S (zadd S.1.1 x.toNatClampNeg y.toNatClampNeg)) else (-4, zbump S 2)) else (-3, zbump S 1)) else (-2, zbump S 0)
theorem zw_35 {x : Int32} (h : zw x 3 5 = true) : ∃ n, (3 ≤ n ∧ n ≤ 5) ∧ x = nI n ∧ x.toNatClampNeg = n := by
  unfold zw at h
  have h := of_decide_eq_true h
  refine ⟨x.toInt.toNat, by omega, ?_, rfl⟩
  rw [fa_eq, zn (by omega)]; omega
theorem zw_05 {x : Int32} (h : zw x 0 5 = true) : ∃ n, n ≤ 5 ∧ x = nI n ∧ x.toNatClampNeg = n := by
  unfold zw at h
  have h := of_decide_eq_true h
  refine ⟨x.toInt.toNat, by omega, ?_, rfl⟩
  rw [fa_eq, zn (by omega)]; omega
theorem zfr_iff {B : zB} {c : Nat} : zfr B c = true ↔ (∀ i, i < B 2 → B (12 + i) ≠ c + 1) ∧ (B 3).testBit c = false ∧ B 5 ≠ c := by
  unfold zfr zff
  rw [Bool.and_eq_true, Bool.and_eq_true, Bool.not_eq_true', Bool.not_eq_true', decide_eq_true_eq, Bool.eq_false_iff, Ne, zga_iff]
  constructor
  · rintro ⟨⟨a, b⟩, c2⟩
    exact ⟨fun i hi e => a ⟨i, hi, e⟩, b, c2⟩
  · rintro ⟨a, b, c2⟩
    exact ⟨⟨fun ⟨i, hi, e⟩ => a i hi e, b⟩, c2⟩
theorem zff_iff {B : zB} {c : Nat} : zff B c = true ↔ (∀ i, i < B 2 → B (12 + i) ≠ c + 1) ∧ (B 3).testBit c = false := by
  unfold zff
  rw [Bool.and_eq_true, Bool.not_eq_true', Bool.not_eq_true', Bool.eq_false_iff, Ne, zga_iff]
  constructor
  · rintro ⟨a, b⟩
    exact ⟨fun i hi e => a ⟨i, hi, e⟩, b⟩
  · rintro ⟨a, b⟩
    exact ⟨fun ⟨i, hi, e⟩ => a i hi e, b⟩
theorem zV_thicket {B : zB} {c : Nat} (hV : zV B) (hc : c < 25) (h : zfr B c = true) : zV (zup B 3 (B 3 ||| 2 ^ c)) := by
  obtain ⟨⟨v0, v1, v2, v3, v4, v5, v6, v7⟩, w1, w2, w3, w4, w5⟩ := hV
  obtain ⟨f1, f2, f3⟩ := zfr_iff.mp h
  have lo : ∀ j, j ≠ 3 → zup B 3 (B 3 ||| 2 ^ c) j = B j := fun j hj => by unfold zup; rw [if_neg hj]
  have l3 : zup B 3 (B 3 ||| 2 ^ c) 3 = B 3 ||| 2 ^ c := by unfold zup; rw [if_pos rfl]
  have hb : B 3 ||| 2 ^ c < 2 ^ 25 := Nat.or_lt_two_pow (by omega) (Nat.pow_lt_pow_right (by omega) hc)
  unfold zV
  rw [l3, lo 0 (by omega), lo 1 (by omega), lo 2 (by omega), lo 4 (by omega), lo 5 (by omega), lo 6 (by omega), lo 7 (by omega)]
  refine ⟨⟨v0, v1, v2, by omega, v4, v5, v6, v7⟩, fun i hi => ?_, fun i hi => ?_, fun i j hij hj => ?_, ?_, fun i hi a ha => ?_⟩
  · rw [lo _ (by omega), lo _ (by omega)]; exact w1 i hi
  · rw [lo _ (by omega)]; exact w2 i hi
  · rw [lo _ (by omega), lo _ (by omega)]; exact w3 i j hij hj
  · rw [fb_bit_set, w4]; simp; exact f3
  · rw [lo _ (by omega)] at ha
    rw [fb_bit_set, w5 i hi a ha]
    have := f1 i hi
    simp
    omega
theorem zV_fox {B : zB} {k c : Nat} (hV : zV B) (hk : k < 6) (hc : c < B 0 * B 1) (h : zff B c = true) : zV (zup (zup B 4 k) 5 c) := by
  obtain ⟨⟨v0, v1, v2, v3, v4, v5, v6, v7⟩, w1, w2, w3, w4, w5⟩ := hV
  obtain ⟨f1, f2⟩ := zff_iff.mp h
  have lo : ∀ j, j ≠ 4 → j ≠ 5 → zup (zup B 4 k) 5 c j = B j := fun j a b => by unfold zup; rw [if_neg b, if_neg a]
  have l4 : zup (zup B 4 k) 5 c 4 = k := by unfold zup; rw [if_neg (by omega), if_pos rfl]
  have l5 : zup (zup B 4 k) 5 c 5 = c := by unfold zup; rw [if_pos rfl]
  unfold zV
  rw [l4, l5, lo 0 (by omega) (by omega), lo 1 (by omega) (by omega), lo 2 (by omega) (by omega), lo 3 (by omega) (by omega), lo 6 (by omega) (by omega), lo 7 (by omega) (by omega)]
  refine ⟨⟨v0, v1, v2, v3, hk, hc, v6, v7⟩, fun i hi => ?_, fun i hi => ?_, fun i j hij hj => ?_, f2, fun i hi a ha => ?_⟩
  · rw [lo _ (by omega) (by omega), lo _ (by omega) (by omega)]; exact w1 i hi
  · rw [lo _ (by omega) (by omega)]; exact f1 i hi
  · rw [lo _ (by omega) (by omega), lo _ (by omega) (by omega)]; exact w3 i j hij hj
  · rw [lo _ (by omega) (by omega)] at ha
    exact w5 i hi a ha
theorem zV_goose {B : zB} {k c : Nat} (hV : zV B) (hk : k < 6) (hc : c < B 0 * B 1) (hn : B 2 < 4) (h : zfr B c = true) : zV (zadd B k c) := by
  obtain ⟨⟨v0, v1, v2, v3, v4, v5, v6, v7⟩, w1, w2, w3, w4, w5⟩ := hV
  obtain ⟨f1, f2, f3⟩ := zfr_iff.mp h
  have lo : ∀ j, j ≠ 2 → j ≠ 8 + B 2 → j ≠ 12 + B 2 → zadd B k c j = B j := fun j a b e => by unfold zadd zup; rw [if_neg a, if_neg e, if_neg b]
  have l2 : zadd B k c 2 = B 2 + 1 := by unfold zadd zup; rw [if_pos rfl]
  have l8 : zadd B k c (8 + B 2) = k := by unfold zadd zup; rw [if_neg (by omega), if_neg (by omega), if_pos rfl]
  have l12 : zadd B k c (12 + B 2) = c + 1 := by unfold zadd zup; rw [if_neg (by omega), if_pos rfl]
  unfold zV
  rw [l2, lo 0 (by omega) (by omega) (by omega), lo 1 (by omega) (by omega) (by omega), lo 3 (by omega) (by omega) (by omega), lo 4 (by omega) (by omega) (by omega), lo 5 (by omega) (by omega) (by omega), lo 6 (by omega) (by omega) (by omega), lo 7 (by omega) (by omega) (by omega)]
  have old : ∀ i, i < B 2 → zadd B k c (8 + i) = B (8 + i) ∧ zadd B k c (12 + i) = B (12 + i) := fun i hi => ⟨lo _ (by omega) (by omega) (by omega), lo _ (by omega) (by omega) (by omega)⟩
  refine ⟨⟨v0, v1, by omega, v3, v4, v5, v6, v7⟩, fun i hi => ?_, fun i hi => ?_, fun i j hij hj => ?_, w4, fun i hi a ha => ?_⟩
  · by_cases q : i = B 2
    · subst q; rw [l8, l12]; omega
    · rw [(old i (by omega)).1, (old i (by omega)).2]; exact w1 i (by omega)
  · by_cases q : i = B 2
    · subst q; rw [l12]; omega
    · rw [(old i (by omega)).2]; exact w2 i (by omega)
  · rw [(old i (by omega)).2]
    by_cases q : j = B 2
    · subst q; rw [l12]; intro e; exact absurd e (f1 i (by omega))
    · rw [(old j (by omega)).2]; exact w3 i j hij (by omega)
  · by_cases q : i = B 2
    · subst q; rw [l12] at ha
      have : a = c := by omega
      rw [this]; exact f2
    · rw [(old i (by omega)).2] at ha
      exact w5 i (by omega) a ha
theorem zO_field_V {S : zS} {x y : Int32} (hV : zSV S) : zSV (zO_field S x y).2 := by
  unfold zO_field
  split
  · rename_i q
    rw [Bool.and_eq_true] at q
    obtain ⟨w, hw, -, e1⟩ := zw_35 q.1
    obtain ⟨h, hh, -, e2⟩ := zw_35 q.2
    rw [e1, e2]
    refine ⟨⟨zbeg_V hw hh, ?_, ?_, fun u hu => absurd hu (Nat.not_lt_zero u), ?_, ?_, fun u hu => absurd hu (Nat.not_lt_zero u), fun u hu => absurd hu (Nat.not_lt_zero u)⟩, hV.2⟩
    all_goals simp [zbeg]
  · exact zbump_V hV
theorem zO_thicket_V {S : zS} {x : Int32} (hV : zSV S) : zSV (zO_thicket S x).2 := by
  unfold zO_thicket
  split
  · rename_i q
    obtain ⟨c, hc, -, e⟩ := zic_n hV.1.1 q
    have h25 := hV.1.1.n
    rw [e]
    split
    · rename_i q2
      exact zset_V hV (zV_thicket hV.1.1 (by omega) q2) hV.1.2.1
    · exact zbump_V hV
  · exact zbump_V hV
theorem zO_fox_V {S : zS} {x y : Int32} (hV : zSV S) : zSV (zO_fox S x y).2 := by
  unfold zO_fox
  split
  · rename_i q
    rw [Bool.and_eq_true] at q
    obtain ⟨k, hk, -, e1⟩ := zw_05 q.1
    obtain ⟨c, hc, -, e⟩ := zic_n hV.1.1 q.2
    rw [e, e1]
    split
    · rename_i q2
      exact zset_V hV (zV_fox hV.1.1 (by omega) hc q2) hV.1.2.1
    · exact zbump_V hV
  · exact zbump_V hV
theorem zO_goose_V {S : zS} {x y : Int32} (hV : zSV S) : zSV (zO_goose S x y).2 := by
  unfold zO_goose
  split
  · rename_i q
    rw [Bool.and_eq_true] at q
    obtain ⟨k, hk, -, e1⟩ := zw_05 q.1
    obtain ⟨c, hc, -, e⟩ := zic_n hV.1.1 q.2
    rw [e, e1]
    split
    · rename_i q2
      split
      · rename_i q3
        refine zset_V hV (zV_goose hV.1.1 (by omega) hc q3 q2) ?_
        unfold zadd zup
        rw [if_neg (by omega), if_neg (by omega), if_neg (by omega)]
        exact hV.1.2.1
      · exact zbump_V hV
    · exact zbump_V hV
  · exact zbump_V hV
