/-! moves keep a board as it may be -/
theorem zfox_j {B : zB} {c j : Nat} : zfox B c j = if j = 7 then B 7 + 1 else if j = 6 then 1 - B 6 else if j = 5 then c else zeat B (zhw B (B 5) c) j := by
  unfold zfox zend zup
  by_cases q7 : j = 7
  · subst q7; rw [if_pos rfl, if_pos rfl, if_neg (by omega), zeat_lo (by omega)]
  · rw [if_neg q7, if_neg q7]
    by_cases q6 : j = 6
    · subst q6; rw [if_pos rfl, if_pos rfl, if_neg (by omega), zeat_lo (by omega)]
    · rw [if_neg q6, if_neg q6]
theorem zfox_lo {B : zB} {c j : Nat} (h : j < 5 ∨ (8 ≤ j ∧ j < 12)) : zfox B c j = B j := by
  rw [zfox_j, if_neg (by omega), if_neg (by omega), if_neg (by omega), zeat_lo (by omega)]
theorem zeat_or {B : zB} {n j : Nat} : zeat B n j = 0 ∨ zeat B n j = B j := by
  unfold zeat; split
  · exact Or.inl rfl
  · exact Or.inr rfl
theorem zV_foxgo {B : zB} {c : Nat} (hV : zV B) (hc : c < B 0 * B 1) (h : zff B c = true) (h7 : B 7 + 1 < 100000) : zV (zfox B c) := by
  obtain ⟨⟨v0, v1, v2, v3, v4, v5, v6, v7⟩, w1, w2, w3, w4, w5⟩ := hV
  obtain ⟨f1, f2⟩ := zff_iff.mp h
  have e5 : zfox B c 5 = c := by rw [zfox_j, if_neg (by omega), if_neg (by omega), if_pos rfl]
  have e6 : zfox B c 6 = 1 - B 6 := by rw [zfox_j, if_neg (by omega), if_pos rfl]
  have e7 : zfox B c 7 = B 7 + 1 := by rw [zfox_j, if_pos rfl]
  have eg : ∀ i, zfox B c (12 + i) = 0 ∨ zfox B c (12 + i) = B (12 + i) := fun i => by
    rw [zfox_j, if_neg (by omega), if_neg (by omega), if_neg (by omega)]; exact zeat_or
  unfold zV
  rw [e5, e6, e7, zfox_lo (j := 0) (by omega), zfox_lo (j := 1) (by omega), zfox_lo (j := 2) (by omega), zfox_lo (j := 3) (by omega), zfox_lo (j := 4) (by omega)]
  refine ⟨⟨v0, v1, v2, v3, v4, hc, by omega, h7⟩, fun i hi => ?_, fun i hi => ?_, fun i j hij hj => ?_, f2, fun i hi a ha => ?_⟩
  · rw [zfox_lo (j := 8 + i) (by omega)]
    have := w1 i hi
    rcases eg i with e | e <;> omega
  · have := f1 i hi
    rcases eg i with e | e <;> omega
  · have := w3 i j hij hj
    rcases eg i with e | e <;> rcases eg j with e2 | e2 <;> omega
  · rcases eg i with e | e
    · omega
    · exact w5 i hi a (by omega)
theorem zend_lo {B : zB} {j : Nat} (h : j < 6 ∨ 8 ≤ j) : zend B j = B j := by
  unfold zend; rw [if_neg (by omega), if_neg (by omega)]
theorem zV_end {B : zB} (hV : zV B) (h7 : B 7 + 1 < 100000) : zV (zend B) := by
  obtain ⟨⟨v0, v1, v2, v3, v4, v5, v6, v7⟩, w⟩ := hV
  have e : ∀ j, j < 6 ∨ 8 ≤ j → zend B j = B j := fun j h => zend_lo h
  refine ⟨⟨v0, v1, v2, v3, v4, v5, by show 1 - B 6 ≤ 1; omega, h7⟩, ?_⟩
  rw [e 2 (by omega), e 0 (by omega), e 1 (by omega), e 5 (by omega), e 3 (by omega)]
  refine ⟨fun i hi => ?_, fun i hi => ?_, fun i j hij hj => ?_, w.2.2.2.1, fun i hi a ha => ?_⟩
  · rw [e _ (by omega), e _ (by omega)]; exact w.1 i hi
  · rw [e _ (by omega)]; exact w.2.1 i hi
  · rw [e _ (by omega), e _ (by omega)]; exact w.2.2.1 i j hij hj
  · rw [e _ (by omega)] at ha; exact w.2.2.2.2 i hi a ha
theorem zV_upG {B : zB} {i c : Nat} (hV : zV B) (hi : i < B 2) (hc : c < B 0 * B 1) (h : zfr B c = true) : zV (zup B (12 + i) (c + 1)) := by
  obtain ⟨⟨v0, v1, v2, v3, v4, v5, v6, v7⟩, w1, w2, w3, w4, w5⟩ := hV
  obtain ⟨f1, f2, f3⟩ := zfr_iff.mp h
  have lo : ∀ j, j ≠ 12 + i → zup B (12 + i) (c + 1) j = B j := fun j hj => by unfold zup; rw [if_neg hj]
  have li : zup B (12 + i) (c + 1) (12 + i) = c + 1 := by unfold zup; rw [if_pos rfl]
  unfold zV
  rw [lo 0 (by omega), lo 1 (by omega), lo 2 (by omega), lo 3 (by omega), lo 4 (by omega), lo 5 (by omega), lo 6 (by omega), lo 7 (by omega)]
  refine ⟨⟨v0, v1, v2, v3, v4, v5, v6, v7⟩, fun j hj => ?_, fun j hj => ?_, fun j k hjk hk => ?_, w4, fun j hj a ha => ?_⟩
  · rw [lo (8 + j) (by omega)]
    by_cases q : j = i
    · subst q; rw [li]; exact ⟨(w1 j hj).1, hc⟩
    · rw [lo _ (by omega)]; exact w1 j hj
  · by_cases q : j = i
    · subst q; rw [li]; omega
    · rw [lo _ (by omega)]; exact w2 j hj
  · by_cases q : j = i
    · subst q
      rw [li, lo _ (by omega)]
      intro e
      exact absurd e.symm (f1 k hk)
    · rw [lo (12 + j) (by omega)]
      by_cases q2 : k = i
      · subst q2
        rw [li]
        intro e
        exact absurd e (f1 j (by omega))
      · rw [lo _ (by omega)]; exact w3 j k hjk hk
  · by_cases q : j = i
    · subst q
      rw [li] at ha
      have : a = c := by omega
      rw [this]; exact f2
    · rw [lo _ (by omega)] at ha
      exact w5 j hj a ha
theorem zV_goosego {B : zB} {i c : Nat} (hV : zV B) (hi : i < B 2) (hc : c < B 0 * B 1) (h : zfr B c = true) (h7 : B 7 + 1 < 100000) : zV (zgo B i c) := zV_end (zV_upG hV hi hc h) (by unfold zup; rw [if_neg (by omega)]; exact h7)
theorem zgo_lo {B : zB} {i c j : Nat} (h : j < 5 ∨ (8 ≤ j ∧ j < 12)) : zgo B i c j = B j := by
  unfold zgo
  rw [zend_lo (by omega)]
  unfold zup
  rw [if_neg (by omega)]
/-- a bit of what she can: the cell is there and free -/
theorem zfS_bit {B : zB} {c : Nat} (h : (zfS B).testBit c = true) : c < B 0 * B 1 ∧ zff B c = true := by
  unfold zfS at h
  rw [zst_bit, Bool.and_eq_true, decide_eq_true_eq] at h
  refine ⟨h.1, ?_⟩
  have := h.2
  unfold zfs at this
  rw [Bool.and_eq_true, Bool.and_eq_true] at this
  exact this.1.1
theorem zgS_bit {B : zB} {i c : Nat} (h : (zgS B i).testBit c = true) : B (12 + i) ≠ 0 ∧ c < B 0 * B 1 ∧ zfr B c = true := by
  unfold zgS at h
  split at h
  · simp at h
  · rename_i q
    rw [zst_bit, Bool.and_eq_true, decide_eq_true_eq] at h
    refine ⟨q, h.1, ?_⟩
    have := h.2
    unfold zgr at this
    rw [Bool.and_eq_true] at this
    exact this.1
/-- a move of a game -/
def zmv (A : zA) (B : zB) : zA := (B, zpush A.1 A.2.1, A.2.2)
theorem zmv_V {A : zA} {B : zB} (hV : zAV A) (hB : zV B) (h7 : B 7 ≤ 9999) (he : ∀ j, (j < 5 ∨ (8 ≤ j ∧ j < 12)) → B j = A.1 j) : zAV (zmv A B) := by
  obtain ⟨v1, v2, v8, vP, vr⟩ := hV
  refine ⟨hB, h7, ?_, fun u hu => ?_, vr⟩
  · show (zpush A.1 A.2.1).1 ≤ 8
    unfold zpush
    split
    · dsimp only; omega
    · dsimp only; omega
  · have hu : u < (zpush A.1 A.2.1).1 := hu
    show zV ((zpush A.1 A.2.1).2 u) ∧ (zpush A.1 A.2.1).2 u 7 ≤ 9999 ∧ ∀ j, (j < 5 ∨ (8 ≤ j ∧ j < 12)) → (zpush A.1 A.2.1).2 u j = B j
    unfold zpush at hu ⊢
    split
    · rename_i q
      rw [if_pos q] at hu
      dsimp only at hu ⊢
      by_cases e : u = A.2.1.1
      · rw [if_pos e]; exact ⟨v1, v2, fun j hj => (he j hj).symm⟩
      · rw [if_neg e]
        obtain ⟨a, b, c⟩ := vP u (by omega)
        exact ⟨a, b, fun j hj => (c j hj).trans (he j hj).symm⟩
    · rename_i q
      rw [if_neg q] at hu
      dsimp only at hu ⊢
      by_cases e : u = 7
      · rw [if_pos e]; exact ⟨v1, v2, fun j hj => (he j hj).symm⟩
      · rw [if_neg e]
        obtain ⟨a, b, c⟩ := vP (u + 1) (by omega)
        exact ⟨a, b, fun j hj => (c j hj).trans (he j hj).symm⟩
def zsT (S : zS) (T : Nat × (Nat → Int32)) : zS := (S.1, S.2.1, T, S.2.2.2)
def zO_type (S : zS) (x : Int32) : Int32 × zS :=
  if zw x 0 127 = true then (if S.2.2.1.1 < 150 then (nI (S.2.2.1.1 + 1), zsT S (S.2.2.1.1 + 1, fun j => if j = S.2.2.1.1 then x else S.2.2.1.2 j)) else (-4, zbump S 2)) else (-2, zbump S 0)
def zO_clear (S : zS) : Int32 × zS := (nI S.2.2.1.1, zsT S (0, S.2.2.1.2))
def zO_goes (S : zS) (x : Int32) : Int32 × zS :=
  if zic S.1.1 x = true then (if zmm S.1.1 4 x.toNatClampNeg = true then (zb (zov S.1.1 (S.1.1 5) x.toNatClampNeg), zmv S.1 (zfox S.1.1 x.toNatClampNeg), S.2) else (-3, zbump S 1)) else (-2, zbump S 0)
def zO_moves (S : zS) (x y : Int32) : Int32 × zS :=
  if (zal S.1.1 x && zic S.1.1 y) = true then (if zmm S.1.1 x.toNatClampNeg y.toNatClampNeg = true then (zc (S.1.1 (12 + x.toNatClampNeg)), zmv S.1 (zgo S.1.1 x.toNatClampNeg y.toNatClampNeg), S.2) else (-3, zbump S 1)) else (-2, zbump S 0)
def zO_passes (S : zS) : Int32 × zS := if zmp S.1.1 = true then (nI (S.1.1 7 + 1), zmv S.1 (zend S.1.1), S.2) else (-3, zbump S 1)
def zO_undo (S : zS) : Int32 × zS := if S.1.2.1.1 = 0 then (-3, zbump S 1) else (nI (S.1.2.1.2 (S.1.2.1.1 - 1) 7), (S.1.2.1.2 (S.1.2.1.1 - 1), (S.1.2.1.1 - 1, S.1.2.1.2), S.1.2.2), S.2)
theorem zO_type_V {S : zS} {x : Int32} (hV : zSV S) : zSV (zO_type S x).2 := by
  unfold zO_type
  split
  · rename_i q
    split
    · rename_i q2
      obtain ⟨h1, h2, h3⟩ := hV
      refine ⟨h1, h2, ?_, fun j hj => ?_⟩
      · show S.2.2.1.1 + 1 ≤ 150; omega
      · have hj : j < S.2.2.1.1 + 1 := hj
        show 0 ≤ (if j = S.2.2.1.1 then x else S.2.2.1.2 j).toInt ∧ (if j = S.2.2.1.1 then x else S.2.2.1.2 j).toInt ≤ 127
        by_cases e : j = S.2.2.1.1
        · rw [if_pos e]; unfold zw at q; exact of_decide_eq_true q
        · rw [if_neg e]; exact h3.2 j (by omega)
    · exact zbump_V hV
  · exact zbump_V hV
theorem zO_clear_V {S : zS} (hV : zSV S) : zSV (zO_clear S).2 := ⟨hV.1, hV.2.1, by show 0 ≤ 150; omega, fun j hj => absurd hj (Nat.not_lt_zero j)⟩
theorem zmm_bit {B : zB} {who c : Nat} (h : zmm B who c = true) : B 7 < 9999 ∧ (if who = 4 then (zfS B).testBit c else (zgS B who).testBit c) = true := by
  unfold zmm at h
  rw [Bool.and_eq_true, Bool.and_eq_true, Bool.and_eq_true, decide_eq_true_eq, decide_eq_true_eq] at h
  exact ⟨h.1.1.2, h.2⟩
theorem zO_goes_V {S : zS} {x : Int32} (hV : zSV S) : zSV (zO_goes S x).2 := by
  unfold zO_goes
  split
  · rename_i q
    split
    · rename_i q2
      obtain ⟨a, b⟩ := zmm_bit q2
      rw [if_pos rfl] at b
      obtain ⟨b1, b2⟩ := zfS_bit b
      refine ⟨zmv_V hV.1 (zV_foxgo hV.1.1 b1 b2 (by omega)) ?_ (fun j hj => zfox_lo hj), hV.2⟩
      rw [zfox_j, if_pos rfl]; omega
    · exact zbump_V hV
  · exact zbump_V hV
theorem zal_i {B : zB} {x : Int32} (h4 : B 2 ≤ 4) (h : zal B x = true) : ∃ i, i < B 2 ∧ B (12 + i) ≠ 0 ∧ x = nI i ∧ x.toNatClampNeg = i := by
  unfold zal at h
  rw [Bool.and_eq_true, decide_eq_true_eq, decide_eq_true_eq] at h
  have e : x = nI x.toInt.toNat := by rw [fa_eq, zn (by omega)]; omega
  exact ⟨x.toInt.toNat, by omega, h.2, e, rfl⟩
theorem zO_moves_V {S : zS} {x y : Int32} (hV : zSV S) : zSV (zO_moves S x y).2 := by
  have n4 := hV.1.1.1.2.2.1
  unfold zO_moves
  split
  · rename_i q
    rw [Bool.and_eq_true] at q
    split
    · rename_i q2
      obtain ⟨i, hi, -, -, e⟩ := zal_i n4 q.1
      rw [e] at q2 ⊢
      obtain ⟨a, b⟩ := zmm_bit q2
      rw [if_neg (by omega)] at b
      obtain ⟨-, b1, b2⟩ := zgS_bit b
      refine ⟨zmv_V hV.1 (zV_goosego hV.1.1 hi b1 b2 (by omega)) ?_ (fun j hj => zgo_lo hj), hV.2⟩
      show zup S.1.1 (12 + i) _ 7 + 1 ≤ 9999
      unfold zup
      rw [if_neg (by omega)]; omega
    · exact zbump_V hV
  · exact zbump_V hV
theorem zmp_7 {B : zB} (h : zmp B = true) : B 7 < 9999 := by
  unfold zmp at h
  rw [Bool.and_eq_true, Bool.and_eq_true, decide_eq_true_eq] at h
  exact h.1.2
theorem zO_passes_V {S : zS} (hV : zSV S) : zSV (zO_passes S).2 := by
  unfold zO_passes
  split
  · rename_i q
    have := zmp_7 q
    refine ⟨zmv_V hV.1 (zV_end hV.1.1 (by omega)) ?_ (fun j hj => zend_lo (by omega)), hV.2⟩
    show S.1.1 7 + 1 ≤ 9999; omega
  · exact zbump_V hV
theorem zO_undo_V {S : zS} (hV : zSV S) : zSV (zO_undo S).2 := by
  unfold zO_undo
  split
  · exact zbump_V hV
  · rename_i q
    obtain ⟨⟨v1, v2, v8, vP, vr⟩, hk, ht⟩ := hV
    obtain ⟨a, b, c⟩ := vP (S.1.2.1.1 - 1) (by omega)
    refine ⟨⟨a, b, ?_, fun u hu => ?_, vr⟩, hk, ht⟩
    · show S.1.2.1.1 - 1 ≤ 8; omega
    · have hu : u < S.1.2.1.1 - 1 := hu
      obtain ⟨a2, b2, c2⟩ := vP u (by omega)
      exact ⟨a2, b2, fun j hj => (c2 j hj).trans (c j hj).symm⟩
