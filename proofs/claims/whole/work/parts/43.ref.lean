/-! THE REFERENCE: a board at row r of its cells -/
def zR (σ : ab_S) (r : Nat) (B : zB) : Prop := (∀ j, j < 8 → σ.1 57 (r + j) = nI (B j)) ∧ ∀ i, i < B 2 → σ.1 57 (r + 8 + i) = nI (B (8 + i)) ∧ σ.1 57 (r + 12 + i) = zc (B (12 + i))
theorem zin (j : Nat) {r : Nat} (h : r + j < 636) : vp_in (nI r + nI j) 636 := by
  rw [nI_add]; exact vp_in_nI (by omega) (by omega)
theorem zin2 (j i : Nat) {r : Nat} (h : r + j + i < 636) : vp_in (nI r + nI j + nI i) 636 := by
  rw [nI_add, nI_add]; exact vp_in_nI (by omega) (by omega)
theorem zcl (j : Nat) {r : Nat} (h : r + j < 636) : Int32.toNatClampNeg (nI r + nI j) = r + j := by
  rw [nI_add]; exact zc_nI (by omega)
theorem zcl2 (j i : Nat) {r : Nat} (h : r + j + i < 636) : Int32.toNatClampNeg (nI r + nI j + nI i) = r + j + i := by
  rw [nI_add, nI_add]; exact zc_nI (by omega)
theorem zR.at {σ : ab_S} {r : Nat} {B : zB} (h : zR σ r B) (j : Nat) (hj : j < 8) (hr : r ≤ 620) : σ.1 57 (Int32.toNatClampNeg (nI r + nI j)) = nI (B j) := by
  rw [zcl j (by omega)]; exact h.1 j hj
theorem zR.ki {σ : ab_S} {r : Nat} {B : zB} (h : zR σ r B) (h4 : B 2 ≤ 4) (i : Nat) (hi : i < B 2) (hr : r ≤ 620) : σ.1 57 (Int32.toNatClampNeg (nI r + nI 8 + nI i)) = nI (B (8 + i)) := by
  rw [zcl2 8 i (by omega)]; exact (h.2 i hi).1
theorem zR.ci {σ : ab_S} {r : Nat} {B : zB} (h : zR σ r B) (h4 : B 2 ≤ 4) (i : Nat) (hi : i < B 2) (hr : r ≤ 620) : σ.1 57 (Int32.toNatClampNeg (nI r + nI 12 + nI i)) = zc (B (12 + i)) := by
  rw [zcl2 12 i (by omega)]; exact (h.2 i hi).2
/-- its first goose on c, or B 2 -/
def zgx (B : zB) (c : Nat) : Nat := fa_first (fun k => decide (B (12 + k) = c + 1)) (B 2)
theorem zgx_ga {B : zB} {c : Nat} : zga B (B 2) c = decide (zgx B c < B 2) := by
  by_cases q : zgx B c < B 2
  · rw [decide_eq_true q, zga_iff]
    exact ⟨zgx B c, q, of_decide_eq_true (fa_first_yes (fun k => decide (B (12 + k) = c + 1)) _ q)⟩
  · rw [decide_eq_false q, Bool.eq_false_iff]
    intro h
    rw [zga_iff] at h
    obtain ⟨i, hi, e⟩ := h
    have := fa_first_no (fun k => decide (B (12 + k) = c + 1)) (B 2) i (by unfold zgx at q; omega)
    simp [e] at this
theorem zpar : ∀ a, a < 25 → ∀ b, b < 25 → (((nI a - nI b) - (nI a - nI b) / 2 * 2 : Int32) = 0 ↔ ¬ (b + a) % 2 = 1) := by decide +kernel
theorem zmf_0 {kind m : Nat} {o : Bool} : zmf kind 0 0 m o = false := by
  unfold zmf
  split <;> simp
section RF
variable {d r : Nat} {B : zB} {Rf : Int32 → ab_S → Prop} {σ : ab_S}
theorem p_M_in {x lo hi : Int64} (h : Rf (zb (decide (lo ≤ x ∧ x ≤ hi))) σ) : CA (d + 1) 114 [.long x, .long lo, .long hi] σ (ab_rI Rf) := by
  refine e_M_in (b_M_in_0 (fun c => ?_) (fun c => b_M_in_6 (fun c2 => ?_) (fun c2 => ?_)))
  · have q : ¬ (lo ≤ x ∧ x ≤ hi) := by rw [fa_le64, fa_le64]; rw [lg_cmp_lt, fa_lt64] at c; omega
    exact b_M_in_17 (b_M_in_18 zna0 (zr h (by rw [decide_eq_false q]; rfl)))
  · have q : ¬ (lo ≤ x ∧ x ≤ hi) := by rw [fa_le64, fa_le64]; rw [lg_cmp_gt, fa_lt64] at c2; omega
    exact b_M_in_17 (b_M_in_18 zna0 (zr h (by rw [decide_eq_false q]; rfl)))
  · have q : (lo ≤ x ∧ x ≤ hi) := by rw [fa_le64, fa_le64]; rw [lg_cmp_lt, fa_lt64] at c; rw [lg_cmp_gt, fa_lt64] at c2; omega
    exact b_M_in_13 (b_M_in_18 zna1 (zr h (by rw [decide_eq_true q]; rfl)))
theorem p_M_has {n c : Nat} (hn : n < 2147483648) (hc : c < 32) (h : Rf (zb (n.testBit c)) σ) : CA (d + 1) 115 [.int (nI n), .int (nI c)] σ (ab_rI Rf) := by
  refine e_M_has (b_M_has_0 (fun q => ?_) (fun q => ?_)) <;> rw [zbit hn hc, zb_1] at q
  · exact b_M_has_9 (b_M_has_14 zna1 (zr h (by rw [q]; rfl)))
  · exact b_M_has_13 (b_M_has_14 zna0 (zr h (by rw [Bool.eq_false_iff.mpr q]; rfl)))
theorem p_M_cells (hB : zR σ r B) (hr : r ≤ 620) (h : Rf (nI (B 0 * B 1)) σ) : CA (d + 1) 121 [.ref 56, .int (nI r)] σ (ab_rI Rf) :=
  e_M_cells (b_M_cells_0 (zin 0 (by omega)) (zin 1 (by omega)) (zr h (by rw [show σ.1 57 (Int32.toNatClampNeg (nI r + 0)) = nI (B 0) from hB.at 0 (by omega) hr, show σ.1 57 (Int32.toNatClampNeg (nI r + 1)) = nI (B 1) from hB.at 1 (by omega) hr, pk_mul])))
theorem p_M_isCell {x : Int32} (hB : zR σ r B) (hV : zV B) (hr : r ≤ 620) (h : Rf (zb (decide (0 ≤ x.toInt ∧ x.toInt < (B 0 * B 1 : Nat)))) σ) : CA (d + 2) 122 [.ref 56, .int (nI r), .int x] σ (ab_rI Rf) := by
  have h25 := hV.n
  obtain ⟨m, hm⟩ : ∃ m, B 0 * B 1 = m + 1 := ⟨B 0 * B 1 - 1, by omega⟩
  refine e_M_isCell (b_M_isCell_0 (p_M_cells hB hr (b_M_isCell_8 (p_M_in (b_M_isCell_14 (zb_nar _) (zr h ?_))))))
  congr 1
  rw [hm, nI_s, decide_eq_decide, fa_le64, fa_le64, Int32.toInt_toInt64, Int32.toInt_toInt64, zn (by omega)]
  have : (0 : Int64).toInt = 0 := by decide
  rw [this]
  omega
theorem p_M_isGoose {x : Int32} (hB : zR σ r B) (hV : zV B) (hr : r ≤ 620) (h : Rf (zb (zal B x)) σ) : CA (d + 2) 123 [.ref 56, .int (nI r), .int x] σ (ab_rI Rf) := by
  obtain ⟨⟨-, -, hn4, -⟩, hq, -⟩ := id hV
  have h25 := hV.n
  have R2 : σ.1 57 (Int32.toNatClampNeg (nI r + 2)) = nI (B 2) := hB.at 2 (by omega) hr
  have z0 : (0 : Int64).toInt = 0 := by decide
  have i1 : (nI (B 2) - 1).toInt = (B 2 : Int) - 1 := zc_toInt (by omega)
  refine e_M_isGoose (b_M_isGoose_0 (zin 2 (by omega)) (p_M_in ?_))
  rw [R2]
  have e : decide ((0 : Int64) ≤ x.toInt64 ∧ x.toInt64 ≤ (nI (B 2) - 1).toInt64) = decide (0 ≤ x.toInt ∧ x.toInt < B 2) := by
    rw [decide_eq_decide, fa_le64, fa_le64, Int32.toInt_toInt64, Int32.toInt_toInt64, z0, i1]
    omega
  rw [e]
  by_cases q : 0 ≤ x.toInt ∧ x.toInt < B 2
  · obtain ⟨i, hi, rfl⟩ : ∃ i : Nat, i < B 2 ∧ x = nI i := ⟨x.toInt.toNat, by omega, by rw [fa_eq, zn (by omega)]; omega⟩
    have e1 : Int32.toNatClampNeg (nI i) = i := zc_nI (by omega)
    have hb := (hq i hi).2
    have al : zal B (nI i) = decide (B (12 + i) ≠ 0) := by
      rw [zal, e1, decide_eq_true q, Bool.true_and]
    have C : σ.1 57 (Int32.toNatClampNeg (nI r + 12 + nI i)) = zc (B (12 + i)) := hB.ci hn4 i hi hr
    refine b_M_isGoose_17 (fun c => absurd c (by rw [decide_eq_true q]; decide)) (fun _ => b_M_isGoose_20 (zin2 12 i (by omega)) (fun c => ?_) (fun c => ?_))
    · rw [C, fa_lt, zc_toInt (by omega), zt0] at c
      exact b_M_isGoose_38 (b_M_isGoose_39 zna0 (zr h (by rw [al, decide_eq_false (by omega)]; rfl)))
    · rw [C, fa_lt, zc_toInt (by omega), zt0] at c
      exact b_M_isGoose_34 (b_M_isGoose_39 zna1 (zr h (by rw [al, decide_eq_true (by omega)]; rfl)))
  · refine b_M_isGoose_17 (fun _ => b_M_isGoose_38 (b_M_isGoose_39 zna0 (zr h (by rw [zal, decide_eq_false q]; rfl)))) (fun c => absurd (by rw [decide_eq_false q]; rfl) c)
theorem p_M_gooseAt {c : Nat} (hB : zR σ r B) (hV : zV B) (hr : r ≤ 620) (hc : c < 25) (h : Rf (if zgx B c < B 2 then nI (zgx B c) else -1) σ) : CA (d + 1) 133 [.ref 56, .int (nI r), .int (nI c)] σ (ab_rI Rf) := by
  obtain ⟨⟨-, -, hn4, -⟩, hq, -⟩ := id hV
  have h25 := hV.n
  have R2 : σ.1 57 (Int32.toNatClampNeg (nI r + 2)) = nI (B 2) := hB.at 2 (by omega) hr
  have hle : zgx B c ≤ B 2 := fa_first_le _ _
  have key : ∀ n i, B 2 - i ≤ n → i ≤ zgx B c → S_M_gooseAt_2 d Rf (nI r) (nI c) (nI i) σ := by
    intro n
    induction n with
    | zero =>
      intro i q1 q2
      refine b_M_gooseAt_2 (zin 2 (by omega)) (fun _ => b_M_gooseAt_37 (zr h (by rw [if_neg (by omega)]))) (fun q => absurd ?_ q)
      rw [R2, zle (by omega) (by omega)]; omega
    | succ n ih =>
      intro i q1 q2
      by_cases qi : i = B 2
      · exact ih i (by omega) q2
      have C : σ.1 57 (Int32.toNatClampNeg (nI r + 12 + nI i)) = zc (B (12 + i)) := hB.ci hn4 i (by omega) hr
      have hb := (hq i (by omega)).2
      refine b_M_gooseAt_2 (zin 2 (by omega)) (fun q => absurd q ?_) (fun _ => b_M_gooseAt_14 (zin2 12 i (by omega)) (fun q => ?_) (fun q => ?_))
      · rw [R2, zle (by omega) (by omega)]; omega
      · rw [C, zc_eq (by omega) (by omega)] at q
        have e : zgx B c = i := by
          refine Nat.le_antisymm (Nat.le_of_not_lt fun g => ?_) q2
          have := fa_first_no (fun k => decide (B (12 + k) = c + 1)) (B 2) i g
          simp [q] at this
        exact b_M_gooseAt_29 (zr h (by rw [e, if_pos (by omega)]))
      · rw [C, zc_eq (by omega) (by omega)] at q
        refine b_M_gooseAt_31 ?_
        rw [nI_1]
        refine ih (i + 1) (by omega) (Nat.lt_of_le_of_ne q2 fun g => q ?_)
        have := fa_first_yes (fun k => decide (B (12 + k) = c + 1)) (B 2) (by show zgx B c < B 2; omega)
        rw [show fa_first (fun k => decide (B (12 + k) = c + 1)) (B 2) = i from g.symm] at this
        exact of_decide_eq_true this
  exact e_M_gooseAt (b_M_gooseAt_0 (key (B 2) 0 (by omega) (by omega)))
theorem p_M_isFree {c : Nat} (hB : zR σ r B) (hV : zV B) (hr : r ≤ 620) (hc : c < 25) (h : Rf (zb (zfr B c)) σ) : CA (d + 2) 134 [.ref 56, .int (nI r), .int (nI c)] σ (ab_rI Rf) := by
  obtain ⟨⟨-, -, hn4, h3, -, h5, -⟩, hq, -⟩ := id hV
  have h25 := hV.n
  have R5 : σ.1 57 (Int32.toNatClampNeg (nI r + 5)) = nI (B 5) := hB.at 5 (by omega) hr
  have R3 : σ.1 57 (Int32.toNatClampNeg (nI r + 3)) = nI (B 3) := hB.at 3 (by omega) hr
  refine e_M_isFree (b_M_isFree_0 (p_M_gooseAt hB hV hr hc ?_))
  by_cases g : zgx B c < B 2
  · rw [if_pos g]
    refine b_M_isFree_6 (fun _ => b_M_isFree_40 (b_M_isFree_41 zna0 (zr h (by rw [zfr, zff, zgx_ga, decide_eq_true g]; rfl)))) (fun q => absurd ?_ q)
    rw [zlit 0, zle (by omega) (by omega)]; omega
  · rw [if_neg g]
    refine b_M_isFree_6 (fun q => absurd q (by decide)) (fun _ => b_M_isFree_9 (zin 5 (by omega)) (fun q => ?_) (fun q => b_M_isFree_21 (zin 3 (by omega)) ?_))
    · rw [R5, zeq (by omega) (by omega)] at q
      exact b_M_isFree_40 (b_M_isFree_41 zna0 (zr h (by simp [zfr, q, zb])))
    · rw [R5, zeq (by omega) (by omega)] at q
      rw [R3]
      refine p_M_has (by omega) (by omega) ?_
      refine b_M_isFree_33 (fun t => ?_) (fun t => ?_) <;> rw [zb_0] at t
      · exact b_M_isFree_36 (b_M_isFree_41 zna1 (zr h (by rw [zfr, zff, zgx_ga, decide_eq_false g, t, decide_eq_true q]; rfl)))
      · exact b_M_isFree_40 (b_M_isFree_41 zna0 (zr h (by rw [zfr, zff, zgx_ga, decide_eq_false g, Bool.not_eq_false _ |>.mp t]; rfl)))
theorem p_M_gooseBetween {f t : Nat} (hB : zR σ r B) (hV : zV B) (hr : r ≤ 620) (hf : f < 25) (ht : t < 25) (h : Rf (if zov B f t then nI (zgx B (zhw B f t - 1)) else -1) σ) : CA (d + 2) 135 [.ref 56, .int (nI r), .int (nI f), .int (nI t)] σ (ab_rI Rf) := by
  obtain ⟨⟨hw, -, hn4, -⟩, hq, -⟩ := id hV
  have h25 := hV.n
  have R0 : σ.1 57 (Int32.toNatClampNeg (nI r + 0)) = nI (B 0) := hB.at 0 (by omega) hr
  have nz : ¬ σ.1 57 (Int32.toNatClampNeg (nI r + 0)) = 0 := by rw [R0, zlit 0, zeq (by omega) (by omega)]; omega
  have i0 := zin 0 (r := r) (by omega)
  have a1 := Nat.mod_lt f (show 0 < B 0 by omega)
  have a2 := Nat.mod_lt t (show 0 < B 0 by omega)
  have a3 := Nat.div_le_self f (B 0)
  have a4 := Nat.div_le_self t (B 0)
  have no : zhw B f t = 0 → S_M_gooseBetween_65 (d + 1) Rf σ := fun e => b_M_gooseBetween_65 (b_M_gooseBetween_79 (zr h (by rw [zov, e]; rfl)))
  refine e_M_gooseBetween (b_M_gooseBetween_0 i0 nz i0 nz i0 nz i0 nz (fun q => ?_) (fun q => ?_))
  · rw [zeq (by omega) (by omega)] at q
    exact no (by rw [zhw, if_pos (Or.inl q)])
  · rw [zeq (by omega) (by omega)] at q
    rw [R0, zrem (by omega) (by omega) (by omega), zrem (by omega) (by omega) (by omega), zdiv (by omega) (by omega) (by omega), zdiv (by omega) (by omega) (by omega)]
    refine b_M_gooseBetween_51 (fun c => b_M_gooseBetween_58 (fun c2 => b_M_gooseBetween_69 ?_) (fun c2 => ?_)) (fun c => ?_)
    · rw [zpar _ (by omega) _ (by omega)] at c c2
      have e : zhw B f t = (f + t) / 2 + 1 := by rw [zhw, if_neg (by omega)]
      rw [nI_add, zlit 2, zdiv (by omega) (by omega) (by omega)]
      refine p_M_gooseAt hB hV hr (by omega) (b_M_gooseBetween_79 (zr h ?_))
      rw [zov, e, Nat.add_sub_cancel, zgx_ga, decide_eq_true (by omega), Bool.true_and]
      by_cases g : zgx B ((f + t) / 2) < B 2
      · rw [if_pos g, if_pos (by simpa using g)]
      · rw [if_neg g, if_neg (by simpa using g)]
    · rw [zpar _ (by omega) _ (by omega)] at c2
      exact no (by rw [zhw, if_pos (by omega)])
    · rw [zpar _ (by omega) _ (by omega)] at c
      exact no (by rw [zhw, if_pos (by omega)])
end RF
