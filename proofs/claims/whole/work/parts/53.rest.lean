/-! note, mark, forget, part, image, from, status, count, digest: what they answer, the walks -/
def zts (a b c : Int32) : Bool := zw a (-2) 2 && zw b (-2) 2 && zw c 0 99
def zO_note (S : zS) (a b c e f : Int32) : Int32 × zS :=
  if (zts a b c && zw e 0 1 && zw f 0 1) = true then (if S.1.2.2.1.1 < 6 then (nI (S.1.2.2.1.1 + 1), (S.1.1, S.1.2.1, (S.1.2.2.1.1 + 1, zrow S.1.2.2.1.2 S.1.2.2.1.1 a b c e f), S.1.2.2.2), S.2) else (-4, zbump S 2)) else (-2, zbump S 0)
def zO_mark (S : zS) (i a b c f : Int32) : Int32 × zS :=
  if (decide (0 ≤ i.toInt ∧ i.toInt < S.1.1 2) && zts a b c && zw f 0 1) = true then (if S.1.2.2.2.1 < 6 then (nI (S.1.2.2.2.1 + 1), (S.1.1, S.1.2.1, S.1.2.2.1, (S.1.2.2.2.1 + 1, zrow S.1.2.2.2.2 S.1.2.2.2.1 i a b c f)), S.2) else (-4, zbump S 2)) else (-2, zbump S 0)
def zO_forget (S : zS) (x : Int32) : Int32 × zS :=
  if zw x 0 1 = true then (if x = 0 then (nI S.1.2.2.1.1, (S.1.1, S.1.2.1, (0, S.1.2.2.1.2), S.1.2.2.2), S.2) else (nI S.1.2.2.2.1, (S.1.1, S.1.2.1, S.1.2.2.1, (0, S.1.2.2.2.2)), S.2)) else (-2, zbump S 0)
def zO_part (S : zS) (x : Int32) : Int64 × zS :=
  if x = 0 then (S.2.2.2.1.1, S) else if x = 1 then (S.2.2.2.1.2, S) else (Int32.toInt64 (-2), zbump S 0)
def zO_image (S : zS) (x : Int32) : Int32 × zS :=
  if zw x 0 1 = true then (1, (S.1, (fun i => if i = x.toNatClampNeg then some S.1 else S.2.1 i), S.2.2)) else (-2, zbump S 0)
def zO_from (S : zS) (x : Int32) : Int32 × zS :=
  if zw x 0 1 = true then (match S.2.1 x.toNatClampNeg with
    | some A => (1, (A, S.2))
    | none => (-3, zbump S 1)) else (-2, zbump S 0)
def zO_status (S : zS) (x : Int32) : Int32 × zS :=
  if zw x 0 2 = true then (S.2.2.2.2 x.toNatClampNeg, S) else (-1, zbump S 0)
def zcnt (S : zS) : Nat → Int32
  | 0 => nI (S.1.1 0)
  | 1 => nI (S.1.1 1)
  | 2 => nI (S.1.1 2)
  | 3 => nI (zea S.1.1 (S.1.1 2))
  | 4 => nI (S.1.1 6)
  | 5 => nI (S.1.1 7)
  | 6 => nI (zpc (zfS S.1.1) 25)
  | 7 => nI (zhow S.1.1)
  | 8 => nI (zpc (S.1.1 3) 25)
  | 9 => nI S.1.2.2.1.1
  | 10 => nI S.1.2.2.2.1
  | 11 => nI S.1.2.1.1
  | _ => nI S.2.2.1.1
def zO_count (S : zS) (x : Int32) : Int32 × zS := if zw x 0 12 = true then (zcnt S x.toNatClampNeg, S) else (-2, zbump S 0)
def zdg1 (S : zS) : Nat → Int64
  | 0 => 1847
  | k + 1 => 31 * zdg1 S k + (zcnt S k).toInt64
def zdg2 (B : zB) (h : Int64) : Nat → Int64
  | 0 => h
  | i + 1 => 31 * (31 * zdg2 B h i + (nI (B (8 + i))).toInt64) + (zc (B (12 + i))).toInt64
def zdg3 (S : zS) : Int64 := 31 * (31 * (31 * zdg1 S 13 + (nI (S.1.1 3)).toInt64) + (nI (S.1.1 4)).toInt64) + (nI (S.1.1 5)).toInt64
def zO_digest (S : zS) : Int64 × zS :=
  (31 * (31 * zdig S.1.2.2.2.2 (zdig S.1.2.2.1.2 (zdg2 S.1.1 (zdg3 S) (S.1.1 2)) (5 * S.1.2.2.1.1)) (5 * S.1.2.2.2.1) + S.2.2.2.1.1) + S.2.2.2.1.2, S)
theorem zw_iff {x : Int32} {a b : Int} : zw x a b = true ↔ a ≤ x.toInt ∧ x.toInt ≤ b := by unfold zw; exact decide_eq_true_iff
theorem zw_01 {x : Int32} (h : zw x 0 1 = true) : x = 0 ∨ x = 1 := by
  have := zw_iff.mp h
  rw [fa_eq, fa_eq, zt0, zt1]; omega
theorem zrow_at {r : Nat → Int32} {n : Nat} {a b c d e : Int32} : zrow r n a b c d e (5 * n) = a ∧ zrow r n a b c d e (5 * n + 1) = b ∧ zrow r n a b c d e (5 * n + 2) = c ∧ zrow r n a b c d e (5 * n + 3) = d ∧ zrow r n a b c d e (5 * n + 4) = e := by
  unfold zrow
  refine ⟨by rw [if_pos rfl], by rw [if_neg (by omega), if_pos rfl], by rw [if_neg (by omega), if_neg (by omega), if_pos rfl], by rw [if_neg (by omega), if_neg (by omega), if_neg (by omega), if_pos rfl], by rw [if_neg (by omega), if_neg (by omega), if_neg (by omega), if_neg (by omega), if_pos rfl]⟩
theorem zrow_lo {r : Nat → Int32} {n j : Nat} {a b c d e : Int32} (h : j < 5 * n) : zrow r n a b c d e j = r j := by
  unfold zrow
  rw [if_neg (by omega), if_neg (by omega), if_neg (by omega), if_neg (by omega), if_neg (by omega)]
theorem zts_iff {a b c : Int32} : zts a b c = true ↔ (-2 ≤ a.toInt ∧ a.toInt ≤ 2) ∧ (-2 ≤ b.toInt ∧ b.toInt ≤ 2) ∧ (0 ≤ c.toInt ∧ c.toInt ≤ 99) := by
  unfold zts
  rw [Bool.and_eq_true, Bool.and_eq_true, zw_iff, zw_iff, zw_iff]
  exact ⟨fun h => ⟨h.1.1, h.1.2, h.2⟩, fun h => ⟨⟨h.1, h.2.1⟩, h.2.2⟩⟩
theorem zO_note_V {S : zS} {a b c e f : Int32} (hV : zSV S) : zSV (zO_note S a b c e f).2 := by
  unfold zO_note
  split
  · rename_i q
    split
    · rename_i q2
      obtain ⟨⟨v1, v2, v8, vP, vn, vm, vN, vM⟩, hk, ht⟩ := hV
      rw [Bool.and_eq_true, Bool.and_eq_true, zts_iff] at q
      refine ⟨⟨v1, v2, v8, vP, ?_, vm, fun u hu => ?_, vM⟩, hk, ht⟩
      · show S.1.2.2.1.1 + 1 ≤ 6; omega
      · have hu : u < S.1.2.2.1.1 + 1 := hu
        show (-2 ≤ (zrow S.1.2.2.1.2 S.1.2.2.1.1 a b c e f (5 * u)).toInt ∧ _) ∧ _
        dsimp only
        by_cases z : u = S.1.2.2.1.1
        · subst z
          obtain ⟨r0, r1, r2, r3, r4⟩ := zrow_at (r := S.1.2.2.1.2) (n := S.1.2.2.1.1) (a := a) (b := b) (c := c) (d := e) (e := f)
          rw [r0, r1, r2, r3, r4]
          exact ⟨q.1.1.1, q.1.1.2.1, q.1.1.2.2, zw_01 q.1.2, zw_01 q.2⟩
        · rw [zrow_lo (by omega), zrow_lo (by omega), zrow_lo (by omega), zrow_lo (by omega), zrow_lo (by omega)]
          exact vN u (by omega)
    · exact zbump_V hV
  · exact zbump_V hV
theorem zO_mark_V {S : zS} {i a b c f : Int32} (hV : zSV S) : zSV (zO_mark S i a b c f).2 := by
  unfold zO_mark
  split
  · rename_i q
    split
    · rename_i q2
      obtain ⟨⟨v1, v2, v8, vP, vn, vm, vN, vM⟩, hk, ht⟩ := hV
      have n4 := v1.1.2.2.1
      rw [Bool.and_eq_true, Bool.and_eq_true, zts_iff, decide_eq_true_eq] at q
      refine ⟨⟨v1, v2, v8, vP, vn, ?_, vN, fun u hu => ?_⟩, hk, ht⟩
      · show S.1.2.2.2.1 + 1 ≤ 6; omega
      · have hu : u < S.1.2.2.2.1 + 1 := hu
        show (0 ≤ (zrow S.1.2.2.2.2 S.1.2.2.2.1 i a b c f (5 * u)).toInt ∧ _) ∧ _
        dsimp only
        by_cases z : u = S.1.2.2.2.1
        · subst z
          obtain ⟨r0, r1, r2, r3, r4⟩ := zrow_at (r := S.1.2.2.2.2) (n := S.1.2.2.2.1) (a := i) (b := a) (c := b) (d := c) (e := f)
          rw [r0, r1, r2, r3, r4]
          exact ⟨⟨q.1.1.1, by omega⟩, q.1.2.1, q.1.2.2.1, q.1.2.2.2, zw_01 q.2⟩
        · rw [zrow_lo (by omega), zrow_lo (by omega), zrow_lo (by omega), zrow_lo (by omega), zrow_lo (by omega)]
          exact vM u (by omega)
    · exact zbump_V hV
  · exact zbump_V hV
theorem zO_forget_V {S : zS} {x : Int32} (hV : zSV S) : zSV (zO_forget S x).2 := by
  unfold zO_forget
  obtain ⟨⟨v1, v2, v8, vP, vn, vm, vN, vM⟩, hk, ht⟩ := id hV
  split
  · split
    · exact ⟨⟨v1, v2, v8, vP, Nat.zero_le 6, vm, fun u hu => absurd hu (Nat.not_lt_zero u), vM⟩, hk, ht⟩
    · exact ⟨⟨v1, v2, v8, vP, vn, Nat.zero_le 6, vN, fun u hu => absurd hu (Nat.not_lt_zero u)⟩, hk, ht⟩
  · exact zbump_V hV
theorem zO_part_V {S : zS} {x : Int32} (hV : zSV S) : zSV (zO_part S x).2 := by
  unfold zO_part
  split
  · exact hV
  · split
    · exact hV
    · exact zbump_V hV
theorem zO_image_V {S : zS} {x : Int32} (hV : zSV S) : zSV (zO_image S x).2 := by
  unfold zO_image
  split
  · refine ⟨hV.1, fun i hi A hA => ?_, hV.2.2⟩
    have hA : (if i = x.toNatClampNeg then some S.1 else S.2.1 i) = some A := hA
    split at hA
    · have := Option.some.inj hA
      rw [← this]; exact hV.1
    · exact hV.2.1 i hi A hA
  · exact zbump_V hV
theorem zO_from_V {S : zS} {x : Int32} (hV : zSV S) : zSV (zO_from S x).2 := by
  unfold zO_from
  split
  · rename_i q
    have hx : x.toNatClampNeg < 2 := by rcases zw_01 q with rfl | rfl <;> decide
    split
    · rename_i A hA
      exact ⟨hV.2.1 _ hx A hA, hV.2⟩
    · exact zbump_V hV
  · exact zbump_V hV
theorem zO_status_V {S : zS} {x : Int32} (hV : zSV S) : zSV (zO_status S x).2 := by
  unfold zO_status; split
  · exact hV
  · exact zbump_V hV
theorem zO_count_V {S : zS} {x : Int32} (hV : zSV S) : zSV (zO_count S x).2 := by
  unfold zO_count; split
  · exact hV
  · exact zbump_V hV
section RO
variable {d : Nat} {S : zS} {σ : ab_S} {Rf : Int32 → ab_S → Prop}
theorem p_F_isToldStep {a b c e : Int32} (h : Rf (zb (zts a b c && zw e 0 1)) σ) : CA (d + 2) 103 [.int a, .int b, .int c, .int e] σ (ab_rI Rf) := by
  have no : (zts a b c && zw e 0 1) = false → S_F_isToldStep_43 (d + 1) Rf σ := fun q => b_F_isToldStep_43 (b_F_isToldStep_44 zna0 (zr h (by rw [q]; rfl)))
  refine e_F_isToldStep (b_F_isToldStep_0 (p_F_within (lo := -2) (hi := 2) (by decide) (by decide) (b_F_isToldStep_7 (fun q => no ?_) (fun q => b_F_isToldStep_10 (p_F_within (lo := -2) (hi := 2) (by decide) (by decide) (b_F_isToldStep_17 (fun q2 => no ?_) (fun q2 => b_F_isToldStep_20 (p_F_within (lo := 0) (hi := 99) (by decide) (by decide) (b_F_isToldStep_27 (fun q3 => no ?_) (fun q3 => b_F_isToldStep_30 (p_F_within (lo := 0) (hi := 1) (by decide) (by decide) (b_F_isToldStep_36 (fun q4 => no ?_) (fun q4 => b_F_isToldStep_39 (b_F_isToldStep_44 zna1 (zr h ?_)))))))))))))))
  · rw [zts, zb_0.mp q]; rfl
  · rw [zts, zb_0.mp q2]; simp
  · rw [zts, zb_0.mp q3]; simp
  · rw [zb_0.mp q4]; simp
  · rw [zts, nbt q, nbt q2, nbt q3, nbt q4]; rfl
theorem p_M_isStep {a b c : Int32} (h : Rf (zb (zts a b c)) σ) : CA (d + 2) 191 [.int a, .int b, .int c] σ (ab_rI Rf) := by
  have no : zts a b c = false → S_M_isStep_44 (d + 1) Rf σ := fun q => b_M_isStep_44 (b_M_isStep_45 zna0 (zr h (by rw [q]; rfl)))
  refine e_M_isStep (b_M_isStep_0 (p_M_within (lo := -2) (hi := 2) (by decide) (by decide) (b_M_isStep_11 (fun q => no ?_) (fun q => b_M_isStep_14 (p_M_within (lo := -2) (hi := 2) (by decide) (by decide) (b_M_isStep_25 (fun q2 => no ?_) (fun q2 => b_M_isStep_28 (p_M_within (lo := 0) (hi := 99) (by decide) (by decide) (b_M_isStep_37 (fun q3 => no ?_) (fun q3 => b_M_isStep_40 (b_M_isStep_45 zna1 (zr h ?_))))))))))))
  · rw [zts, zb_0.mp q]; rfl
  · rw [zts, zb_0.mp q2]; simp
  · rw [zts, zb_0.mp q3]; simp
  · rw [zts, nbt q, nbt q2, nbt q3]; rfl
theorem zGH.note {τ : ab_S} {g n : Nat} {A : zA} {r : Nat → Int32} (h : zGH σ g A) (hT : zT τ (g + 4) n r) (hF : zF (zkt (g + 4)) σ τ) : zGH τ g (A.1, A.2.1, (n, r), A.2.2.2) := by
  obtain ⟨h1, h2, h3, h4, h5⟩ := h
  refine ⟨h1.frame hF (by first | (simp; done) | (simp; omega)) (by first | (simp; done) | (simp; omega)) (by first | (simp; done) | (simp; omega)), ?_, h3.frame (hF.2 _ (by first | (simp; done) | (simp; omega))), hT, h5.frame hF (by first | (simp; done) | (simp; omega)) (by first | (simp; done) | (simp; omega))⟩
  rw [hF.2 g (by first | (simp; done) | (simp; omega))]; exact h2
theorem zGH.mark {τ : ab_S} {g n : Nat} {A : zA} {r : Nat → Int32} (h : zGH σ g A) (hT : zT τ (g + 6) n r) (hF : zF (zkt (g + 6)) σ τ) : zGH τ g (A.1, A.2.1, A.2.2.1, (n, r)) := by
  obtain ⟨h1, h2, h3, h4, h5⟩ := h
  refine ⟨h1.frame hF (by first | (simp; done) | (simp; omega)) (by first | (simp; done) | (simp; omega)) (by first | (simp; done) | (simp; omega)), ?_, h3.frame (hF.2 _ (by first | (simp; done) | (simp; omega))), h4.frame hF (by first | (simp; done) | (simp; omega)) (by first | (simp; done) | (simp; omega)), hT⟩
  rw [hF.2 g (by first | (simp; done) | (simp; omega))]; exact h2
theorem zGR.note {τ : ab_S} {n : Nat} {A : zA} {r : Nat → Int32} (h : zGR σ 0 A) (hV : zAV A) (hT : τ.1 57 16 = nI n ∧ ∀ j, j < 5 * n → τ.1 57 (17 + j) = r j) (hF : zFR 16 47 σ τ) : zGR τ 0 (A.1, A.2.1, (n, r), A.2.2.2) := by
  obtain ⟨h1, ⟨h3, h4⟩, ⟨h5, h6⟩, h7, h8⟩ := h
  have n4 := hV.1.1.2.2.1
  have e := hF.2.2
  refine ⟨h1.ext n4 (fun j a b => e j (by omega)), ⟨hT.1, fun j hj => ?_⟩, ⟨?_, fun j hj => ?_⟩, ?_, fun u hu => ⟨?_, ?_, ?_, fun i hi => ?_⟩⟩
  · rw [show 0 + 17 + j = 17 + j by omega]; exact hT.2 j hj
  · rw [e _ (by omega)]; exact h5
  · rw [e _ (by omega)]; exact h6 j hj
  · rw [e _ (by omega)]; exact h7
  · rw [e _ (by omega)]; exact (h8 u hu).1
  · rw [e _ (by omega)]; exact (h8 u hu).2.1
  · rw [e _ (by omega)]; exact (h8 u hu).2.2.1
  · rw [e _ (by omega)]; exact (h8 u hu).2.2.2 i hi
theorem zGR.mark {τ : ab_S} {n : Nat} {A : zA} {r : Nat → Int32} (h : zGR σ 0 A) (hV : zAV A) (hT : τ.1 57 47 = nI n ∧ ∀ j, j < 5 * n → τ.1 57 (48 + j) = r j) (hF : zFR 47 78 σ τ) : zGR τ 0 (A.1, A.2.1, A.2.2.1, (n, r)) := by
  obtain ⟨h1, ⟨h3, h4⟩, ⟨h5, h6⟩, h7, h8⟩ := h
  have n4 := hV.1.1.2.2.1
  have vn := hV.2.2.2.2.1
  have e := hF.2.2
  refine ⟨h1.ext n4 (fun j a b => e j (by omega)), ⟨?_, fun j hj => ?_⟩, ⟨hT.1, fun j hj => ?_⟩, ?_, fun u hu => ⟨?_, ?_, ?_, fun i hi => ?_⟩⟩
  · rw [e _ (by omega)]; exact h3
  · have hj : j < 5 * A.2.2.1.1 := hj
    rw [e _ (by omega)]; exact h4 j hj
  · rw [show 0 + 48 + j = 48 + j by omega]; exact hT.2 j hj
  · rw [e _ (by omega)]; exact h7
  · rw [e _ (by omega)]; exact (h8 u hu).1
  · rw [e _ (by omega)]; exact (h8 u hu).2.1
  · rw [e _ (by omega)]; exact (h8 u hu).2.2.1
  · rw [e _ (by omega)]; exact (h8 u hu).2.2.2 i hi
theorem zsh5 : ab_sh 5 = (0, 2) := rfl
theorem zsh7 : ab_sh 7 = (0, 2) := rfl
theorem p_F_note {a b c e f : Int32} (hI : zIF σ S) (hV : zSV S) (h : ∀ τ, zIF τ (zO_note S a b c e f).2 → zKF σ τ → Rf (zO_note S a b c e f).1 τ) : CA (d + 3) 85 [.ref 0, .int a, .int b, .int c, .int e, .int f] σ (ab_rI Rf) := by
  have hn : S.1.2.2.1.1 ≤ 6 := hV.1.2.2.2.2.1
  have no : (zts a b c && zw e 0 1 && zw f 0 1) = false → S_F_note_21 (d + 2) Rf σ := fun q => by
    rw [zO_note, if_neg (by rw [q]; decide)] at h
    exact b_F_note_21 (p_F_bad hI (fun τ x y => b_F_note_27 (h τ x y)))
  refine e_F_note (b_F_note_0 (p_F_isToldStep (b_F_note_8 (fun q => no ?_) (fun q => b_F_note_11 (p_F_within (lo := 0) (hi := 1) (by decide) (by decide) (b_F_note_18 (fun q2 => no ?_) (fun q2 => b_F_note_28 ?_)))))))
  · have q := zb_0.mp q
    cases z1 : zts a b c <;> cases z2 : zw f 0 1 <;> rw [z1, z2] at q <;> simp at q ⊢
  · rw [zb_0.mp q2]; simp
  · have q := nbt q
    rw [Bool.and_eq_true] at q
    rw [zO_note, if_pos (by rw [q.1, q.2, nbt q2]; rfl)] at h
    refine p_T_add zsh5 hI.1.2.2.2.1 hn (fun z => ?_) (fun z τ hτ hF => ?_)
    · rw [if_neg (by omega)] at h
      exact b_F_note_45 (fun _ => b_F_note_61 (p_F_full hI (fun τ x y => b_F_note_67 (h τ x y)))) (fun z => absurd rfl z)
    · rw [if_pos z] at h
      refine b_F_note_45 (fun z => absurd z (by decide)) (fun _ => b_F_note_48 (b_F_note_67 ?_))
      rw [hτ.1]
      have hF2 : zF (zkg 1) σ τ := hF.up (by simp)
      exact h τ (hI.game (hI.1.note hτ hF) hF2) (hF2.kf (by simp))
theorem p_F_mark {i a b c f : Int32} (hI : zIF σ S) (hV : zSV S) (h : ∀ τ, zIF τ (zO_mark S i a b c f).2 → zKF σ τ → Rf (zO_mark S i a b c f).1 τ) : CA (d + 3) 86 [.ref 0, .int i, .int a, .int b, .int c, .int f] σ (ab_rI Rf) := by
  have hn : S.1.2.2.2.1 ≤ 6 := hV.1.2.2.2.2.2.1
  have no : (decide (0 ≤ i.toInt ∧ i.toInt < S.1.1 2) && zts a b c && zw f 0 1) = false → S_F_mark_26 (d + 2) Rf σ := fun q => by
    rw [zO_mark, if_neg (by rw [q]; decide)] at h
    exact b_F_mark_26 (p_F_bad hI (fun τ x y => b_F_mark_32 (h τ x y)))
  refine e_F_mark (b_F_mark_0 (p_B_isGoose zsh2 hI.1.1 hV.1.1 (b_F_mark_11 (fun q => no ?_) (fun q => b_F_mark_14 (p_F_isToldStep (b_F_mark_23 (fun q2 => no ?_) (fun q2 => b_F_mark_33 ?_)))))))
  · rw [zb_0.mp q]; rfl
  · have q2 := zb_0.mp q2
    cases z1 : zts a b c <;> cases z2 : zw f 0 1 <;> rw [z1, z2] at q2 <;> simp at q2 ⊢
  · have q2 := nbt q2
    rw [Bool.and_eq_true] at q2
    rw [zO_mark, if_pos (by rw [q2.1, q2.2, nbt q]; rfl)] at h
    refine p_T_add zsh7 hI.1.2.2.2.2 hn (fun z => ?_) (fun z τ hτ hF => ?_)
    · rw [if_neg (by omega)] at h
      exact b_F_mark_50 (fun _ => b_F_mark_66 (p_F_full hI (fun τ x y => b_F_mark_72 (h τ x y)))) (fun z => absurd rfl z)
    · rw [if_pos z] at h
      refine b_F_mark_50 (fun z => absurd z (by decide)) (fun _ => b_F_mark_53 (b_F_mark_72 ?_))
      rw [hτ.1]
      have hF2 : zF (zkg 1) σ τ := hF.up (by simp)
      exact h τ (hI.game (hI.1.mark hτ hF) hF2) (hF2.kf (by simp))
theorem p_M_keeps {t : Nat} {a b c e f : Int32} {Q : ab_S → Prop} (ht : t + 5 ≤ 636) (h : ∀ τ, τ.1 57 t = a → τ.1 57 (t + 1) = b → τ.1 57 (t + 2) = c → τ.1 57 (t + 3) = e → τ.1 57 (t + 4) = f → zFR t (t + 5) σ τ → Q τ) : CA (d + 1) 190 [.ref 56, .int (nI t), .int a, .int b, .int c, .int e, .int f] σ (ab_rV Q) := by
  have e0 : Int32.toNatClampNeg (nI t) = t := zc_nI (by omega)
  have e1 : Int32.toNatClampNeg (nI t + 1) = t + 1 := zcl 1 (by omega)
  have e2 : Int32.toNatClampNeg (nI t + 2) = t + 2 := zcl 2 (by omega)
  have e3 : Int32.toNatClampNeg (nI t + 3) = t + 3 := zcl 3 (by omega)
  have e4 : Int32.toNatClampNeg (nI t + 4) = t + 4 := zcl 4 (by omega)
  refine e_M_keeps (b_M_keeps_0 (vp_in_nI (by omega) (by omega)) (zin 1 (by omega)) (zin 2 (by omega)) (zin 3 (by omega)) (zin 4 (by omega)) ?_)
  rw [e0, e1, e2, e3, e4]
  refine h _ ?_ ?_ ?_ ?_ ?_ ⟨rfl, fun a ha => ?_, fun j hj => ?_⟩
  all_goals dsimp only
  · rw [zp_n (by omega), zp_n (by omega), zp_n (by omega), zp_n (by omega), zp_s]
  · rw [zp_n (by omega), zp_n (by omega), zp_n (by omega), zp_s]
  · rw [zp_n (by omega), zp_n (by omega), zp_s]
  · rw [zp_n (by omega), zp_s]
  · rw [zp_s]
  · rw [ab_pI_ne ha, ab_pI_ne ha, ab_pI_ne ha, ab_pI_ne ha, ab_pI_ne ha]
  · rw [zp_n (by omega), zp_n (by omega), zp_n (by omega), zp_n (by omega), zp_n (by omega)]
/-- a row put behind n rows at t -/
theorem zkept {τ : ab_S} {t n : Nat} {r : Nat → Int32} {a b c e f : Int32} (h : ∀ j, j < 5 * n → σ.1 57 (t + j) = r j) (hF : zFR (t + 5 * n) (t + 5 * n + 5) σ τ) (k0 : τ.1 57 (t + 5 * n) = a) (k1 : τ.1 57 (t + 5 * n + 1) = b) (k2 : τ.1 57 (t + 5 * n + 2) = c) (k3 : τ.1 57 (t + 5 * n + 3) = e) (k4 : τ.1 57 (t + 5 * n + 4) = f) : ∀ j, j < 5 * (n + 1) → τ.1 57 (t + j) = zrow r n a b c e f j := by
  intro j hj
  unfold zrow
  by_cases j0 : j = 5 * n
  · rw [if_pos j0, j0]; exact k0
  by_cases j1 : j = 5 * n + 1
  · rw [if_neg j0, if_pos j1, j1]; exact k1
  by_cases j2 : j = 5 * n + 2
  · rw [if_neg j0, if_neg j1, if_pos j2, j2]; exact k2
  by_cases j3 : j = 5 * n + 3
  · rw [if_neg j0, if_neg j1, if_neg j2, if_pos j3, j3]; exact k3
  by_cases j4 : j = 5 * n + 4
  · rw [if_neg j0, if_neg j1, if_neg j2, if_neg j3, if_pos j4, j4]; exact k4
  rw [if_neg j0, if_neg j1, if_neg j2, if_neg j3, if_neg j4, hF.2.2 _ (by omega)]
  exact h j (by omega)
theorem p_M_note {a b c e f : Int32} (hI : zIM σ S) (hV : zSV S) (h : ∀ τ, zIM τ (zO_note S a b c e f).2 → zKM σ τ → Rf (zO_note S a b c e f).1 τ) : CA (d + 3) 192 [.ref 56, .int a, .int b, .int c, .int e, .int f] σ (ab_rI Rf) := by
  have hn : S.1.2.2.1.1 ≤ 6 := hV.1.2.2.2.2.1
  obtain ⟨N1, N2⟩ := hI.1.2.1
  simp only [Nat.zero_add] at N1 N2
  have no : (zts a b c && zw e 0 1 && zw f 0 1) = false → S_M_note_31 (d + 2) Rf σ := fun q => by
    rw [zO_note, if_neg (by rw [q]; decide)] at h
    exact b_M_note_31 (p_M_bad hI (fun τ x y => b_M_note_37 (h τ x y)))
  refine e_M_note (b_M_note_0 (p_M_isStep (b_M_note_6 (fun q => no ?_) (fun q => b_M_note_9 (p_M_within (lo := 0) (hi := 1) (by decide) (by decide) (b_M_note_17 (fun q2 => no ?_) (fun q2 => b_M_note_20 (p_M_within (lo := 0) (hi := 1) (by decide) (by decide) (b_M_note_28 (fun q3 => no ?_) (fun q3 => ?_))))))))))
  · rw [zb_0.mp q]; rfl
  · rw [zb_0.mp q2]; simp
  · rw [zb_0.mp q3]; simp
  · rw [zO_note, if_pos (by rw [nbt q, nbt q2, nbt q3]; rfl)] at h
    refine b_M_note_38 (fun z => ?_) (fun z => b_M_note_55 ?_) <;> rw [N1, zlit 6, zeq (by omega) (by omega)] at z
    · rw [if_neg (by omega)] at h
      exact b_M_note_50 (p_M_full hI (fun τ x y => b_M_note_54 (h τ x y)))
    · rw [if_pos (by omega)] at h
      have e5 : (17 : Int32) + 5 * nI S.1.2.2.1.1 = nI (17 + 5 * S.1.2.2.1.1) := by rw [zlit 5, pk_mul, zlit 17, nI_add]
      rw [N1, e5]
      refine p_M_keeps (by omega) (fun τ k0 k1 k2 k3 k4 hF => b_M_note_78 ?_)
      have N1' : τ.1 57 16 = nI S.1.2.2.1.1 := by rw [hF.2.2 _ (by omega)]; exact N1
      rw [N1', nI_1, zp_s]
      have hL : zFR 16 47 σ (ab_pI τ.1 57 16 (nI (S.1.2.2.1.1 + 1)), τ.2) := (hF.up (by omega) (by omega)).tr (zFR.put (by omega) (by omega))
      refine h _ (hI.game hV (hI.1.note hV.1 ⟨?_, fun j hj => ?_⟩ hL) (hL.up (by omega) (by omega))) hL.km
      · dsimp only
        rw [zp_s]
      · dsimp only
        rw [zp_n (by omega)]
        exact zkept N2 hF k0 k1 k2 k3 k4 j hj
theorem p_M_mark {i a b c f : Int32} (hI : zIM σ S) (hV : zSV S) (h : ∀ τ, zIM τ (zO_mark S i a b c f).2 → zKM σ τ → Rf (zO_mark S i a b c f).1 τ) : CA (d + 3) 193 [.ref 56, .int i, .int a, .int b, .int c, .int f] σ (ab_rI Rf) := by
  have hn : S.1.2.2.2.1 ≤ 6 := hV.1.2.2.2.2.2.1
  have n4 := hV.1.1.1.2.2.1
  obtain ⟨N1, N2⟩ := hI.1.2.2.1
  simp only [Nat.zero_add] at N1 N2
  have no : (decide (0 ≤ i.toInt ∧ i.toInt < S.1.1 2) && zts a b c && zw f 0 1) = false → S_M_mark_39 (d + 2) Rf σ := fun q => by
    rw [zO_mark, if_neg (by rw [q]; decide)] at h
    exact b_M_mark_39 (p_M_bad hI (fun τ x y => b_M_mark_45 (h τ x y)))
  refine e_M_mark (b_M_mark_0 (p_M_inG (r := 0) hI.1.1 n4 (b_M_mark_15 (fun q => no ?_) (fun q => b_M_mark_18 (p_M_isStep (b_M_mark_25 (fun q2 => no ?_) (fun q2 => b_M_mark_28 (p_M_within (lo := 0) (hi := 1) (by decide) (by decide) (b_M_mark_36 (fun q3 => no ?_) (fun q3 => ?_))))))))))
  · rw [zb_0.mp q]; rfl
  · rw [zb_0.mp q2]; simp
  · rw [zb_0.mp q3]; simp
  · rw [zO_mark, if_pos (by rw [nbt q, nbt q2, nbt q3]; rfl)] at h
    refine b_M_mark_46 (fun z => ?_) (fun z => b_M_mark_63 ?_) <;> rw [N1, zlit 6, zeq (by omega) (by omega)] at z
    · rw [if_neg (by omega)] at h
      exact b_M_mark_58 (p_M_full hI (fun τ x y => b_M_mark_62 (h τ x y)))
    · rw [if_pos (by omega)] at h
      have e5 : (48 : Int32) + 5 * nI S.1.2.2.2.1 = nI (48 + 5 * S.1.2.2.2.1) := by rw [zlit 5, pk_mul, zlit 48, nI_add]
      rw [N1, e5]
      refine p_M_keeps (by omega) (fun τ k0 k1 k2 k3 k4 hF => b_M_mark_86 ?_)
      have N1' : τ.1 57 47 = nI S.1.2.2.2.1 := by rw [hF.2.2 _ (by omega)]; exact N1
      rw [N1', nI_1, zp_s]
      have hL : zFR 47 78 σ (ab_pI τ.1 57 47 (nI (S.1.2.2.2.1 + 1)), τ.2) := (hF.up (by omega) (by omega)).tr (zFR.put (by omega) (by omega))
      refine h _ (hI.game hV (hI.1.mark hV.1 ⟨?_, fun j hj => ?_⟩ hL) (hL.up (by omega) (by omega))) hL.km
      · dsimp only
        rw [zp_s]
      · dsimp only
        rw [zp_n (by omega)]
        exact zkept N2 hF k0 k1 k2 k3 k4 j hj
theorem p_F_forget {x : Int32} (hI : zIF σ S) (h : ∀ τ, zIF τ (zO_forget S x).2 → zKF σ τ → Rf (zO_forget S x).1 τ) : CA (d + 2) 87 [.ref 0, .int x] σ (ab_rI Rf) := by
  refine e_F_forget (b_F_forget_0 (p_F_within (lo := 0) (hi := 1) (by decide) (by decide) (b_F_forget_6 (fun q => ?_) (fun q => ?_))))
  · rw [zO_forget, if_neg (by rw [zb_0.mp q]; decide)] at h
    exact b_F_forget_9 (p_F_bad hI (fun τ a b => b_F_forget_15 (h τ a b)))
  · rw [zO_forget, if_pos (nbt q)] at h
    refine b_F_forget_16 (fun x0 => b_F_forget_20 (b_F_forget_37 zsh5 ?_)) (fun x0 => b_F_forget_30 (b_F_forget_37 zsh7 ?_))
    · rw [if_pos x0] at h
      rw [show σ.1 5 0 = nI S.1.2.2.1.1 from hI.1.2.2.2.1.1]
      have hF : zF (zkt 5) σ (ab_pI σ.1 5 0 0, σ.2) := zF.put (by simp)
      have hF2 : zF (zkg 1) σ (ab_pI σ.1 5 0 0, σ.2) := hF.up (by simp)
      exact h _ (hI.game (hI.1.note (n := 0) (r := S.1.2.2.1.2) ⟨(by dsimp only; rw [zp_s]; rfl), fun j hj => absurd hj (Nat.not_lt_zero j)⟩ hF) hF2) (hF2.kf (by simp))
    · rw [if_neg x0] at h
      rw [show σ.1 7 0 = nI S.1.2.2.2.1 from hI.1.2.2.2.2.1]
      have hF : zF (zkt 7) σ (ab_pI σ.1 7 0 0, σ.2) := zF.put (by simp)
      have hF2 : zF (zkg 1) σ (ab_pI σ.1 7 0 0, σ.2) := hF.up (by simp)
      exact h _ (hI.game (hI.1.mark (n := 0) (r := S.1.2.2.2.2) ⟨(by dsimp only; rw [zp_s]; rfl), fun j hj => absurd hj (Nat.not_lt_zero j)⟩ hF) hF2) (hF2.kf (by simp))
theorem p_M_forget {x : Int32} (hI : zIM σ S) (hV : zSV S) (h : ∀ τ, zIM τ (zO_forget S x).2 → zKM σ τ → Rf (zO_forget S x).1 τ) : CA (d + 2) 194 [.ref 56, .int x] σ (ab_rI Rf) := by
  have c16 : Int32.toNatClampNeg 16 = 16 := by decide
  have c47 : Int32.toNatClampNeg 47 = 47 := by decide
  refine e_M_forget (b_M_forget_0 (p_M_within (lo := 0) (hi := 1) (by decide) (by decide) (b_M_forget_7 (fun q => ?_) (fun q => ?_))))
  · rw [zO_forget, if_neg (by rw [zb_0.mp q]; decide)] at h
    exact b_M_forget_10 (p_M_bad hI (fun τ a b => b_M_forget_16 (h τ a b)))
  · rw [zO_forget, if_pos (nbt q)] at h
    refine b_M_forget_17 (fun x0 => b_M_forget_21 (b_M_forget_28 (vp_in_nI (n := 16) (by omega) (by omega)) (vp_in_nI (n := 16) (by omega) (by omega)) ?_)) (fun x0 => b_M_forget_26 (b_M_forget_28 (vp_in_nI (n := 47) (by omega) (by omega)) (vp_in_nI (n := 47) (by omega) (by omega)) ?_))
    · rw [if_pos x0] at h
      rw [c16, show σ.1 57 16 = nI S.1.2.2.1.1 from hI.1.2.1.1]
      have hL : zFR 16 47 σ (ab_pI σ.1 57 16 0, σ.2) := zFR.put (by omega) (by omega)
      exact h _ (hI.game hV (hI.1.note (n := 0) (r := S.1.2.2.1.2) hV.1 ⟨(by dsimp only; rw [zp_s]; rfl), fun j hj => absurd hj (Nat.not_lt_zero j)⟩ hL) (hL.up (by omega) (by omega))) hL.km
    · rw [if_neg x0] at h
      rw [c47, show σ.1 57 47 = nI S.1.2.2.2.1 from hI.1.2.2.1.1]
      have hL : zFR 47 78 σ (ab_pI σ.1 57 47 0, σ.2) := zFR.put (by omega) (by omega)
      exact h _ (hI.game hV (hI.1.mark (n := 0) (r := S.1.2.2.2.2) hV.1 ⟨(by dsimp only; rw [zp_s]; rfl), fun j hj => absurd hj (Nat.not_lt_zero j)⟩ hL) (hL.up (by omega) (by omega))) hL.km
theorem p_F_part {x : Int32} {Rf : Int64 → ab_S → Prop} (hI : zIF σ S) (h : ∀ τ, zIF τ (zO_part S x).2 → zKF σ τ → Rf (zO_part S x).1 τ) : CA (d + 2) 93 [.ref 0, .int x] σ (ab_rL Rf) := by
  refine e_F_part (b_F_part_0 (p_F_within (lo := 0) (hi := 1) (by decide) (by decide) (b_F_part_6 (fun q => ?_) (fun q => ?_))))
  · have q := zb_0.mp q
    have n0 : ¬ x = 0 := fun z => by rw [z] at q; exact absurd q (by decide)
    have n1 : ¬ x = 1 := fun z => by rw [z] at q; exact absurd q (by decide)
    rw [zO_part, if_neg n0, if_neg n1] at h
    exact b_F_part_9 (p_F_bad hI (fun τ a b => b_F_part_15 (h τ a b)))
  · rw [zO_part] at h
    refine b_F_part_17 (fun x0 => b_F_part_21 (b_F_part_32 ?_)) (fun x0 => b_F_part_28 (b_F_part_32 ?_))
    · rw [if_pos x0] at h
      rw [hI.2.2.2.1.1]; exact h σ hI zKF.rf
    · rw [if_neg x0, if_pos (by rcases zw_01 (nbt q) with z | z; exact absurd z x0; exact z)] at h
      rw [hI.2.2.2.1.2]; exact h σ hI zKF.rf
theorem p_M_part {x : Int32} {Rf : Int64 → ab_S → Prop} (hI : zIM σ S) (h : ∀ τ, zIM τ (zO_part S x).2 → zKM σ τ → Rf (zO_part S x).1 τ) : CA (d + 2) 201 [.ref 56, .int x] σ (ab_rL Rf) := by
  rw [zO_part] at h
  refine e_M_part (b_M_part_0 (fun x0 => b_M_part_4 (b_M_part_30 ?_)) (fun x0 => b_M_part_11 (fun x1 => b_M_part_16 (b_M_part_30 ?_)) (fun x1 => ?_)))
  · rw [if_pos x0] at h
    rw [hI.2.2.2.1.1]; exact h σ hI zKM.rf
  · rw [if_neg x0, if_pos x1] at h
    rw [hI.2.2.2.1.2]; exact h σ hI zKM.rf
  · rw [if_neg x0, if_neg x1] at h
    exact b_M_part_23 (p_M_bad hI (fun τ a b => b_M_part_29 (b_M_part_30 (h τ a b))))
theorem zw_01n {x : Int32} (h : zw x 0 1 = true) : ∃ n, n < 2 ∧ x = nI n ∧ x.toNatClampNeg = n := by
  rcases zw_01 h with rfl | rfl
  · exact ⟨0, by omega, rfl, rfl⟩
  · exact ⟨1, by omega, rfl, rfl⟩
theorem zshI {n : Nat} (h : n < 2) : ab_sh (26 + 9 * n) = (0, 1) := by
  rcases (show n = 0 ∨ n = 1 by omega) with rfl | rfl <;> rfl
theorem p_F_image {x : Int32} (hI : zIF σ S) (hV : zSV S) (h : ∀ τ, zIF τ (zO_image S x).2 → zKF σ τ → Rf (zO_image S x).1 τ) : CA (d + 3) 94 [.ref 0, .int x] σ (ab_rI Rf) := by
  refine e_F_image (b_F_image_0 (p_F_within (lo := 0) (hi := 1) (by decide) (by decide) (b_F_image_6 (fun q => ?_) (fun q => ?_))))
  · rw [zO_image, if_neg (by rw [zb_0.mp q]; decide)] at h
    exact b_F_image_9 (p_F_bad hI (fun τ a b => b_F_image_15 (h τ a b)))
  · rw [zO_image, if_pos (nbt q)] at h
    obtain ⟨n, hn, rfl, e⟩ := zw_01n (nbt q)
    rw [e] at h
    refine b_F_image_16 (vp_in_nI (by omega) (by omega)) ?_
    rw [e]
    refine p_G_copyFrom (zshI hn) zsh1 (by omega) hI.1 hV.1 (fun τ hτ hF => b_F_image_29 (vp_in_nI (by omega) (by omega)) ?_)
    rw [e, show vp_nar .boolean 1 = 1 from rfl]
    have e1 : ∀ a, ¬ (26 + 9 * n ≤ a ∧ a ≤ 34 + 9 * n) → τ.1 a = σ.1 a := fun a ha => hF.2 a (by first | (simp; done) | (simp; omega))
    have hK : zKF σ (ab_pI τ.1 11 n 1, τ.2) := (hF.kf (by first | (simp; done) | (simp; omega))).tr ((zF.put (ks := [11]) (by simp)).kf (by simp))
    have e2 : ∀ a, a ≠ 11 → ab_pI τ.1 11 n 1 a = τ.1 a := fun a ha => ab_pI_ne ha
    refine h _ ?_ hK
    obtain ⟨h1, h2, h3, h4, h5⟩ := hI
    refine ⟨h1.cong (fun a p1 p2 => by dsimp only; rw [e2 a (by omega), e1 a (by omega)]), fun i hi => ⟨fun z => ?_, fun A hA => ?_⟩, ⟨?_, fun j hj => ?_⟩, ⟨?_, ?_⟩, fun j hj => ?_⟩
    · have z : (if i = n then some S.1 else S.2.1 i) = none := z
      by_cases i1 : i = n
      · rw [if_pos i1] at z; cases z
      · rw [if_neg i1] at z
        dsimp only
        rw [zp_n (by omega), e1 11 (by omega)]
        exact (h2 i hi).1 z
    · have hA : (if i = n then some S.1 else S.2.1 i) = some A := hA
      dsimp only
      by_cases i1 : i = n
      · rw [if_pos i1] at hA
        have hA2 := Option.some.inj hA
        subst i1
        rw [← hA2]
        refine ⟨zp_s, hτ.cong (fun a p1 p2 => by dsimp only; rw [e2 a (by omega)])⟩
      · rw [if_neg i1] at hA
        obtain ⟨a1, a2⟩ := (h2 i hi).2 A hA
        refine ⟨?_, a2.cong (fun a p1 p2 => by dsimp only; rw [e2 a (by omega), e1 a (by omega)])⟩
        rw [zp_n (by omega), e1 11 (by omega)]; exact a1
    · dsimp only
      rw [e2 12 (by omega), e1 12 (by omega)]; exact h3.1
    · dsimp only
      rw [e2 13 (by omega), e1 13 (by omega)]; exact h3.2 j hj
    · dsimp only
      rw [hF.1]; exact h4.1
    · dsimp only
      rw [hF.1]; exact h4.2
    · dsimp only
      rw [e2 25 (by omega), e1 25 (by omega)]; exact h5 j hj
theorem p_M_image {x : Int32} (hI : zIM σ S) (hV : zSV S) (h : ∀ τ, zIM τ (zO_image S x).2 → zKM σ τ → Rf (zO_image S x).1 τ) : CA (d + 2) 202 [.ref 56, .int x] σ (ab_rI Rf) := by
  refine e_M_image (b_M_image_0 (p_M_within (lo := 0) (hi := 1) (by decide) (by decide) (b_M_image_7 (fun q => ?_) (fun q => b_M_image_17 ?_))))
  · rw [zO_image, if_neg (by rw [zb_0.mp q]; decide)] at h
    exact b_M_image_10 (p_M_bad hI (fun τ a b => b_M_image_16 (h τ a b)))
  · rw [zO_image, if_pos (nbt q)] at h
    obtain ⟨n, hn, rfl, e⟩ := zw_01n (nbt q)
    rw [e] at h
    have e5 : (135 : Int32) + 135 * nI n = nI (135 + 135 * n) := by rw [zlit 135, pk_mul, nI_add]
    rw [e5]
    refine p_M_copy (a := 0) (n := 135) (by omega) (by omega) (by omega) (fun τ hτ hF => b_M_image_34 (vp_in_nI (by omega) (by omega)) ?_)
    rw [e, show vp_nar .boolean 1 = 1 from rfl]
    have hK : zKM σ (ab_pI τ.1 58 n 1, τ.2) := hF.km.tr ((zF.put (ks := [58]) (by simp)).km (by simp))
    have e2 : ∀ a, a ≠ 58 → ab_pI τ.1 58 n 1 a = τ.1 a := fun a ha => ab_pI_ne ha
    have e57 : ∀ j, ¬ (135 + 135 * n ≤ j ∧ j < 135 + 135 * n + 135) → ab_pI τ.1 58 n 1 57 j = σ.1 57 j := fun j hj => by rw [e2 57 (by omega)]; exact hF.2.2 j (by omega)
    refine h _ ?_ hK
    obtain ⟨h1, h2, h3, h4, h5⟩ := hI
    refine ⟨h1.ext hV.1 (fun j hj => e57 _ (by omega)), fun i hi => ⟨fun z => ?_, fun A hA => ?_⟩, ⟨?_, fun j hj => ?_⟩, ⟨?_, ?_⟩, fun j hj => ?_⟩
    · have z : (if i = n then some S.1 else S.2.1 i) = none := z
      by_cases i1 : i = n
      · rw [if_pos i1] at z; cases z
      · rw [if_neg i1] at z
        dsimp only
        rw [zp_n (by omega), hF.2.1 58 (by omega)]
        exact (h2 i hi).1 z
    · have hA : (if i = n then some S.1 else S.2.1 i) = some A := hA
      by_cases i1 : i = n
      · rw [if_pos i1] at hA
        have hA2 := Option.some.inj hA
        subst i1
        rw [← hA2]
        refine ⟨by dsimp only; rw [zp_s], h1.ext hV.1 (fun j hj => ?_)⟩
        dsimp only
        rw [e2 57 (by omega), hτ j hj]
      · rw [if_neg i1] at hA
        obtain ⟨a1, a2⟩ := (h2 i hi).2 A hA
        refine ⟨?_, a2.ext (hV.2.1 i hi A hA) (fun j hj => e57 _ (by omega))⟩
        dsimp only
        rw [zp_n (by omega), hF.2.1 58 (by omega)]; exact a1
    · dsimp only
      rw [e2 56 (by omega), hF.2.1 56 (by omega)]; exact h3.1
    · dsimp only
      rw [e2 59 (by omega), hF.2.1 59 (by omega)]; exact h3.2 j hj
    · dsimp only
      rw [hF.1]; exact h4.1
    · dsimp only
      rw [hF.1]; exact h4.2
    · dsimp only
      rw [e2 60 (by omega), hF.2.1 60 (by omega)]; exact h5 j hj
theorem p_F_from {x : Int32} (hI : zIF σ S) (hV : zSV S) (h : ∀ τ, zIF τ (zO_from S x).2 → zKF σ τ → Rf (zO_from S x).1 τ) : CA (d + 3) 95 [.ref 0, .int x] σ (ab_rI Rf) := by
  refine e_F_from (b_F_from_0 (p_F_within (lo := 0) (hi := 1) (by decide) (by decide) (b_F_from_6 (fun q => ?_) (fun q => ?_))))
  · rw [zO_from, if_neg (by rw [zb_0.mp q]; decide)] at h
    exact b_F_from_9 (p_F_bad hI (fun τ a b => b_F_from_15 (h τ a b)))
  · rw [zO_from, if_pos (nbt q)] at h
    obtain ⟨n, hn, rfl, e⟩ := zw_01n (nbt q)
    rw [e] at h
    cases hz : S.2.1 n with
    | none =>
      rw [hz] at h
      refine b_F_from_16 (vp_in_nI (by omega) (by omega)) (fun _ => b_F_from_25 (p_F_no hI (fun τ a b => b_F_from_31 (h τ a b)))) (fun c => absurd ?_ c)
      rw [e]; exact (hI.2.1 n hn).1 hz
    | some A =>
      rw [hz] at h
      obtain ⟨a1, a2⟩ := (hI.2.1 n hn).2 A hz
      refine b_F_from_16 (vp_in_nI (by omega) (by omega)) (fun c => absurd c ?_) (fun _ => b_F_from_32 (vp_in_nI (by omega) (by omega)) ?_)
      · rw [e, a1]; decide
      · rw [e]
        exact p_G_copyFrom zsh1 (zshI hn) (by omega) a2 (hV.2.1 n hn A hz) (fun τ hτ hF => b_F_from_45 (h τ (hI.game hτ hF) (hF.kf (by simp))))
theorem p_M_from {x : Int32} (hI : zIM σ S) (hV : zSV S) (h : ∀ τ, zIM τ (zO_from S x).2 → zKM σ τ → Rf (zO_from S x).1 τ) : CA (d + 2) 203 [.ref 56, .int x] σ (ab_rI Rf) := by
  refine e_M_from (b_M_from_0 (p_M_within (lo := 0) (hi := 1) (by decide) (by decide) (b_M_from_7 (fun q => ?_) (fun q => ?_))))
  · rw [zO_from, if_neg (by rw [zb_0.mp q]; decide)] at h
    exact b_M_from_10 (p_M_bad hI (fun τ a b => b_M_from_16 (h τ a b)))
  · rw [zO_from, if_pos (nbt q)] at h
    obtain ⟨n, hn, rfl, e⟩ := zw_01n (nbt q)
    rw [e] at h
    have e5 : (135 : Int32) + 135 * nI n = nI (135 + 135 * n) := by rw [zlit 135, pk_mul, nI_add]
    cases hz : S.2.1 n with
    | none =>
      rw [hz] at h
      refine b_M_from_17 (vp_in_nI (by omega) (by omega)) (fun _ => b_M_from_26 (p_M_no hI (fun τ a b => b_M_from_30 (h τ a b)))) (fun c => absurd ?_ c)
      rw [e]; exact (hI.2.1 n hn).1 hz
    | some A =>
      rw [hz] at h
      obtain ⟨a1, a2⟩ := (hI.2.1 n hn).2 A hz
      refine b_M_from_17 (vp_in_nI (by omega) (by omega)) (fun c => absurd c ?_) (fun _ => b_M_from_31 ?_)
      · rw [e, a1]; decide
      · rw [e5]
        refine p_M_copy (b := 0) (n := 135) (by omega) (by omega) (by omega) (fun τ hτ hF => b_M_from_48 ?_)
        refine h τ (hI.game hV (a2.ext (hV.2.1 n hn A hz) (fun j hj => hτ j hj)) hF) hF.km
theorem p_F_status {x : Int32} (hI : zIF σ S) (h : ∀ τ, zIF τ (zO_status S x).2 → zKF σ τ → Rf (zO_status S x).1 τ) : CA (d + 2) 96 [.ref 0, .int x] σ (ab_rI Rf) := by
  refine e_F_status (b_F_status_0 (p_F_within (lo := 0) (hi := 2) (by decide) (by decide) (b_F_status_12 (fun q => ?_) (fun q => ?_))))
  · rw [zO_status, if_neg (by rw [zb_0.mp q]; decide)] at h
    exact b_F_status_15 (p_F_bad hI (fun τ a b => b_F_status_21 (h τ a b)))
  · rw [zO_status, if_pos (nbt q)] at h
    obtain ⟨n, hn, rfl⟩ := zw_n (m := 2) (nbt q)
    have e : Int32.toNatClampNeg (nI n) = n := zc_nI (by omega)
    refine b_F_status_24 (vp_in_nI (by omega) (by omega)) ?_
    rw [e] at h ⊢
    rw [hI.2.2.2.2 n (by omega)]; exact h σ hI zKF.rf
theorem p_M_status {x : Int32} (hI : zIM σ S) (h : ∀ τ, zIM τ (zO_status S x).2 → zKM σ τ → Rf (zO_status S x).1 τ) : CA (d + 2) 204 [.ref 56, .int x] σ (ab_rI Rf) := by
  refine e_M_status (b_M_status_0 (p_M_within (lo := 0) (hi := 2) (by decide) (by decide) (b_M_status_9 (fun q => ?_) (fun q => ?_))))
  · rw [zO_status, if_neg (by rw [zb_0.mp q]; decide)] at h
    exact b_M_status_21 (p_M_bad hI (fun τ a b => b_M_status_26 (h τ a b)))
  · rw [zO_status, if_pos (nbt q)] at h
    obtain ⟨n, hn, rfl⟩ := zw_n (m := 2) (nbt q)
    have e : Int32.toNatClampNeg (nI n) = n := zc_nI (by omega)
    refine b_M_status_12 (vp_in_nI (by omega) (by omega)) (b_M_status_26 ?_)
    rw [e] at h ⊢
    rw [hI.2.2.2.2 n (by omega)]; exact h σ hI zKM.rf
theorem p_F_howMany {n : Nat} (hn : n ≤ 12) (hI : zIF σ S) (hV : zSV S) (h : Rf (zcnt S n) σ) : CA (d + 5) 104 [.ref 0, .int (nI n)] σ (ab_rI Rf) := by
  obtain ⟨b0, b1, b2, b3, b4, b5, b6, b7, -⟩ := id hI.1.1
  have hB : zH σ 2 S.1.1 := hI.1.1
  have ne : ∀ k : Nat, k < 20 → n ≠ k → ¬ nI n = nI k := fun k hk hz z => hz ((zeq (by omega) (by omega)).mp z)
  have eq : ∀ k : Nat, k < 20 → nI n = nI k → n = k := fun k hk z => (zeq (by omega) (by omega)).mp z
  refine e_F_howMany (b_F_howMany_0 (fun c => b_F_howMany_76 (zr h ?_)) (fun c => b_F_howMany_81 (zr h ?_)) (fun c => b_F_howMany_86 (zr h ?_)) (fun c => b_F_howMany_91 (p_B_eaten zsh2 hB hV.1.1 (b_F_howMany_95 (zr h ?_)))) (fun c => b_F_howMany_96 (zr h ?_)) (fun c => b_F_howMany_101 (zr h ?_)) (fun c => b_F_howMany_106 (p_B_open zsh2 hB hV.1.1 (b_F_howMany_110 (zr h ?_)))) (fun c => b_F_howMany_111 (p_B_outcome zsh2 hB hV.1.1 (b_F_howMany_115 (zr h ?_)))) (fun c => b_F_howMany_116 ?_) (fun c => b_F_howMany_124 (zr h ?_)) (fun c => b_F_howMany_135 (zr h ?_)) (fun c => b_F_howMany_146 (zr h ?_)) (fun c => b_F_howMany_154 (zr h ?_)) (fun c => absurd c (by rw [zn (by omega)]; omega)))
  · rw [eq 0 (by omega) c]; exact b0
  · rw [eq 1 (by omega) c]; exact b1
  · rw [eq 2 (by omega) c]; exact b5
  · rw [eq 3 (by omega) c]; rfl
  · rw [eq 4 (by omega) c]; exact b6
  · rw [eq 5 (by omega) c]; exact b7
  · rw [eq 6 (by omega) c]; rfl
  · rw [eq 7 (by omega) c]; rfl
  · rw [show σ.1 2 2 = nI (S.1.1 3) from b2]
    exact p_J_bitCount hV.1.1.1.2.2.2.1 (b_F_howMany_123 (zr h (by rw [eq 8 (by omega) c]; rfl)))
  · rw [eq 9 (by omega) c]; exact hI.1.2.2.2.1.1
  · rw [eq 10 (by omega) c]; exact hI.1.2.2.2.2.1
  · rw [eq 11 (by omega) c]; exact hI.1.2.1
  · rw [eq 12 (by omega) c]; exact hI.2.2.1.1
theorem p_M_countOf {n : Nat} (hn : n ≤ 12) (hI : zIM σ S) (hV : zSV S) (h : Rf (zcnt S n) σ) : CA (d + 8) 206 [.ref 56, .int (nI n)] σ (ab_rI Rf) := by
  have hB := hI.1.1
  have b := hB.1
  simp only [Nat.zero_add] at b
  have h3 := hV.1.1.1.2.2.2.1
  have eq : ∀ k : Nat, k < 20 → nI n = nI k → n = k := fun k hk z => (zeq (by omega) (by omega)).mp z
  have hz := zfS_lt hV.1.1
  refine e_M_countOf (b_M_countOf_0 (fun c => b_M_countOf_64 (zr h ?_)) (fun c => b_M_countOf_71 (zr h ?_)) (fun c => b_M_countOf_78 (zr h ?_)) (fun c => b_M_countOf_85 (p_M_eaten hB hV.1.1 (b_M_countOf_89 (zr h ?_)))) (fun c => b_M_countOf_90 (zr h ?_)) (fun c => b_M_countOf_98 (zr h ?_)) (fun c => b_M_countOf_106 (p_M_canOfF (r := 0) hB hV.1.1 (by omega) (b_M_countOf_112 (p_M_ones (by omega) (b_M_countOf_115 (zr h ?_)))))) (fun c => b_M_countOf_116 (p_M_howOf (r := 0) hB hV.1.1 (by omega) (b_M_countOf_121 (zr h ?_)))) (fun c => b_M_countOf_122 ?_) (fun c => b_M_countOf_132 (zr h ?_)) (fun c => b_M_countOf_140 (zr h ?_)) (fun c => b_M_countOf_148 (zr h ?_)) (fun c => b_M_countOf_156 (zr h ?_)))
  · rw [eq 0 (by omega) c]; exact b 0 (by omega)
  · rw [eq 1 (by omega) c]; exact b 1 (by omega)
  · rw [eq 2 (by omega) c]; exact b 2 (by omega)
  · rw [eq 3 (by omega) c]; rfl
  · rw [eq 4 (by omega) c]; exact b 6 (by omega)
  · rw [eq 5 (by omega) c]; exact b 7 (by omega)
  · rw [eq 6 (by omega) c]; rfl
  · rw [eq 7 (by omega) c]; rfl
  · rw [b 3 (by omega)]
    exact p_M_ones (by omega) (b_M_countOf_131 (zr h (by rw [eq 8 (by omega) c]; rfl)))
  · rw [eq 9 (by omega) c]; exact hI.1.2.1.1
  · rw [eq 10 (by omega) c]; exact hI.1.2.2.1.1
  · rw [eq 11 (by omega) c]; exact hI.1.2.2.2.1
  · rw [zn (by omega)] at c
    rw [show n = 12 by omega]; exact hI.2.2.1.1
theorem p_F_count {x : Int32} (hI : zIF σ S) (hV : zSV S) (h : ∀ τ, zIF τ (zO_count S x).2 → zKF σ τ → Rf (zO_count S x).1 τ) : CA (d + 6) 97 [.ref 0, .int x] σ (ab_rI Rf) := by
  refine e_F_count (b_F_count_0 (p_F_within (lo := 0) (hi := 12) (by decide) (by decide) (b_F_count_7 (fun q => ?_) (fun q => b_F_count_10 ?_))))
  · rw [zO_count, if_neg (by rw [zb_0.mp q]; decide)] at h
    exact b_F_count_18 (p_F_bad hI (fun τ a b => b_F_count_24 (h τ a b)))
  · rw [zO_count, if_pos (nbt q)] at h
    obtain ⟨n, hn, rfl⟩ := zw_n (m := 12) (nbt q)
    rw [zc_nI (by omega)] at h
    exact p_F_howMany hn hI hV (b_F_count_15 (b_F_count_24 (h σ hI zKF.rf)))
theorem p_M_count {x : Int32} (hI : zIM σ S) (hV : zSV S) (h : ∀ τ, zIM τ (zO_count S x).2 → zKM σ τ → Rf (zO_count S x).1 τ) : CA (d + 9) 207 [.ref 56, .int x] σ (ab_rI Rf) := by
  refine e_M_count (b_M_count_0 (p_M_within (lo := 0) (hi := 12) (by decide) (by decide) (b_M_count_9 (fun q => ?_) (fun q => b_M_count_12 ?_))))
  · rw [zO_count, if_neg (by rw [zb_0.mp q]; decide)] at h
    exact b_M_count_20 (p_M_bad hI (fun τ a b => b_M_count_26 (h τ a b)))
  · rw [zO_count, if_pos (nbt q)] at h
    obtain ⟨n, hn, rfl⟩ := zw_n (m := 12) (nbt q)
    rw [zc_nI (by omega)] at h
    exact p_M_countOf hn hI hV (b_M_count_17 (b_M_count_26 (h σ hI zKM.rf)))
theorem p_F_digest {Rf : Int64 → ab_S → Prop} (hI : zIF σ S) (hV : zSV S) (h : ∀ τ, zIF τ (zO_digest S).2 → zKF σ τ → Rf (zO_digest S).1 τ) : CA (d + 6) 98 [.ref 0] σ (ab_rL Rf) := by
  have h := h σ hI zKF.rf
  obtain ⟨b0, b1, b2, b3, b4, b5, b6, b7, -⟩ := id hI.1.1
  have hB : zH σ 2 S.1.1 := hI.1.1
  have n4 := hV.1.1.1.2.2.1
  have fin : S_F_digest_124 (d + 5) Rf (zdg2 S.1.1 (zdg3 S) (S.1.1 2)) σ := b_F_digest_124 (p_T_digestFrom zsh5 hI.1.2.2.2.1 hV.1.2.2.2.2.1 (b_F_digest_142 (p_T_digestFrom zsh7 hI.1.2.2.2.2 hV.1.2.2.2.2.2.1 (b_F_digest_145 (zrL h (by rw [hI.2.2.2.1.1, hI.2.2.2.1.2]; rfl))))))
  have two : ∀ m i, S.1.1 2 - i ≤ m → i ≤ S.1.1 2 → S_F_digest_81 (d + 5) Rf (zdg2 S.1.1 (zdg3 S) i) (nI i) σ := by
    intro m
    induction m with
    | zero =>
      intro i q1 q2
      have : i = S.1.1 2 := by omega
      subst this
      exact b_F_digest_81 (fun _ => fin) (fun c => absurd (by rw [show σ.1 2 5 = nI (S.1.1 2) from b5]; exact Int32.le_refl _) c)
    | succ m ih =>
      intro i q1 q2
      by_cases qi : i = S.1.1 2
      · exact ih i (by omega) q2
      refine b_F_digest_81 (fun c => absurd c (by rw [show σ.1 2 5 = nI (S.1.1 2) from b5, zle (by omega) (by omega)]; omega)) (fun _ => b_F_digest_90 (p_B_kindOfG zsh2 hB hV.1.1 (by omega) (b_F_digest_101 (p_B_cellOfG zsh2 hB hV.1.1 (by omega) (b_F_digest_115 ?_)))))
      rw [nI_1]
      exact ih (i + 1) (by omega) (by omega)
  have one : ∀ m k, 13 - k ≤ m → k ≤ 13 → S_F_digest_15 (d + 5) Rf (zdg1 S k) (nI k) σ := by
    intro m
    induction m with
    | zero =>
      intro k q1 q2
      have : k = 13 := by omega
      subst this
      refine b_F_digest_15 (fun _ => b_F_digest_42 ?_) (fun c => absurd (by decide) c)
      rw [show σ.1 2 2 = nI (S.1.1 3) from b2, show σ.1 2 3 = nI (S.1.1 4) from b3, show σ.1 2 4 = nI (S.1.1 5) from b4]
      exact two _ 0 (Nat.le_refl _) (by omega)
    | succ m ih =>
      intro k q1 q2
      by_cases qi : k = 13
      · exact ih k (by omega) q2
      refine b_F_digest_15 (fun c => absurd c (by rw [zlit 13, zle (by omega) (by omega)]; omega)) (fun _ => b_F_digest_22 (p_F_howMany (by omega) hI hV (b_F_digest_33 ?_)))
      rw [nI_1]
      exact ih (k + 1) (by omega) (by omega)
  exact e_F_digest (b_F_digest_0 (one 13 0 (by omega) (by omega)))
theorem zpL_s {I : Nat → Nat → Int64} {k i : Nat} {v : Int64} : ab_pL I k i v k i = v := by simp [ab_pL]
theorem zpL_n {I : Nat → Nat → Int64} {k i a b : Nat} {v : Int64} (h : ¬ (a = k ∧ b = i)) : ab_pL I k i v a b = I a b := by
  unfold ab_pL
  by_cases q : a = k
  · rw [if_pos q, if_neg (fun z => h ⟨q, z⟩)]
  · rw [if_neg q]
theorem zpL_ne {I : Nat → Nat → Int64} {k i a : Nat} {v : Int64} (h : a ≠ k) : ab_pL I k i v a = I a := by
  funext b; exact zpL_n (fun z => h z.1)
theorem zpL_pp {I : Nat → Nat → Int64} {k i : Nat} {v w : Int64} : ab_pL (ab_pL I k i v) k i w = ab_pL I k i w := by
  funext a b
  unfold ab_pL
  by_cases q : a = k <;> by_cases q2 : b = i <;> simp [q, q2]
theorem p_M_mix {x v : Int64} {I : Nat → Nat → Int32} {L : Nat → Nat → Int64} {Q : ab_S → Prop} (h : Q (I, ab_pL L 56 14 (31 * v + x))) : CA (d + 1) 208 [.ref 56, .long x] (I, ab_pL L 56 14 v) (ab_rV Q) := by
  refine e_M_mix (b_M_mix_0 ?_)
  dsimp only
  rw [zpL_s, zpL_pp]
  exact h
theorem p_M_mixes {t n : Nat} {v : Int64} {I : Nat → Nat → Int32} {r : Nat → Int32} {L : Nat → Nat → Int64} {Q : ab_S → Prop} (ht : t + n ≤ 636) (hr : ∀ j, j < n → I 57 (t + j) = r j) (h : Q (I, ab_pL L 56 14 (zdig r v n))) : CA (d + 2) 209 [.ref 56, .int (nI t), .int (nI n)] (I, ab_pL L 56 14 v) (ab_rV Q) := by
  have key : ∀ m j, n - j ≤ m → j ≤ n → S_M_mixes_2 (d + 1) Q (nI t) (nI n) (nI j) (I, ab_pL L 56 14 (zdig r v j)) := by
    intro m
    induction m with
    | zero =>
      intro j q1 q2
      have : j = n := by omega
      subst this
      exact b_M_mixes_2 (fun _ => b_M_mixes_26 h) (fun c => absurd (Int32.le_refl _) c)
    | succ m ih =>
      intro j q1 q2
      by_cases qi : j = n
      · exact ih j (by omega) q2
      refine b_M_mixes_2 (fun c => absurd c (by rw [zle (by omega) (by omega)]; omega)) (fun _ => b_M_mixes_7 (zin j (by omega)) ?_)
      rw [zcl j (by omega)]
      refine p_M_mix (b_M_mixes_20 ?_)
      dsimp only
      rw [nI_1, hr j (by omega)]
      exact ih (j + 1) (by omega) (by omega)
  exact e_M_mixes (b_M_mixes_0 (key n 0 (by omega) (by omega)))
theorem p_M_digest {Rf : Int64 → ab_S → Prop} (hI : zIM σ S) (hV : zSV S) (h : ∀ τ, zIM τ (zO_digest S).2 → zKM σ τ → Rf (zO_digest S).1 τ) : CA (d + 9) 210 [.ref 56] σ (ab_rL Rf) := by
  have hv : ∀ v, zIM (σ.1, ab_pL σ.2 56 14 v) S := fun v => hI.scr hV (fun _ _ => rfl) (fun _ _ => rfl) rfl (by dsimp only; exact zpL_n (by omega)) (by dsimp only; exact zpL_n (by omega))
  have hK : ∀ v, zKM σ (σ.1, ab_pL σ.2 56 14 v) := fun v a ha => ⟨rfl, zpL_ne (by omega)⟩
  have hB := hI.1.1
  have b := hB.1
  simp only [Nat.zero_add] at b
  have n4 := hV.1.1.1.2.2.1
  have vn := hV.1.2.2.2.2.1
  have vm := hV.1.2.2.2.2.2.1
  obtain ⟨N1, N2⟩ := hI.1.2.1
  obtain ⟨M1, M2⟩ := hI.1.2.2.1
  simp only [Nat.zero_add] at N1 N2 M1 M2
  have e5 : ∀ n, (5 : Int32) * nI n = nI (5 * n) := fun n => by rw [zlit 5, pk_mul]
  have fin : S_M_digest_110 (d + 8) Rf (σ.1, ab_pL σ.2 56 14 (zdg2 S.1.1 (zdg3 S) (S.1.1 2))) := by
    refine b_M_digest_110 ?_
    dsimp only
    rw [N1, e5]
    refine p_M_mixes (t := 17) (r := S.1.2.2.1.2) (by omega) N2 (b_M_digest_125 ?_)
    dsimp only
    rw [M1, e5]
    refine p_M_mixes (t := 48) (r := S.1.2.2.2.2) (by omega) M2 (b_M_digest_140 ?_)
    dsimp only
    rw [zpL_n (by omega), hI.2.2.2.1.1]
    refine p_M_mix (b_M_digest_148 ?_)
    dsimp only
    rw [zpL_n (by omega), hI.2.2.2.1.2]
    refine p_M_mix (b_M_digest_156 ?_)
    dsimp only
    rw [zpL_s]
    exact h _ (hv _) (hK _)
  have two : ∀ m i, S.1.1 2 - i ≤ m → i ≤ S.1.1 2 → S_M_digest_66 (d + 8) Rf (nI i) (σ.1, ab_pL σ.2 56 14 (zdg2 S.1.1 (zdg3 S) i)) := by
    intro m
    induction m with
    | zero =>
      intro i q1 q2
      have : i = S.1.1 2 := by omega
      subst this
      exact b_M_digest_66 (fun _ => fin) (fun c => absurd (by dsimp only; rw [b 2 (by omega)]; exact Int32.le_refl _) c)
    | succ m ih =>
      intro i q1 q2
      by_cases qi : i = S.1.1 2
      · exact ih i (by omega) q2
      have e8 : (8 : Int32) + nI i = nI (8 + i) := nI_add 8 i
      have e12 : (12 : Int32) + nI i = nI (12 + i) := nI_add 12 i
      obtain ⟨k1, k2⟩ := hB.2 i (by omega)
      simp only [Nat.zero_add] at k1 k2
      refine b_M_digest_66 (fun c => absurd c (by dsimp only; rw [b 2 (by omega), zle (by omega) (by omega)]; omega)) (fun _ => b_M_digest_76 (by rw [e8]; exact vp_in_nI (by omega) (by omega)) ?_)
      dsimp only
      rw [e8, zc_nI (by omega), k1]
      refine p_M_mix (b_M_digest_90 (by rw [e12]; exact vp_in_nI (by omega) (by omega)) ?_)
      dsimp only
      rw [e12, zc_nI (by omega), k2]
      refine p_M_mix (b_M_digest_104 ?_)
      rw [nI_1]
      exact ih (i + 1) (by omega) (by omega)
  have one : ∀ m k, 13 - k ≤ m → k ≤ 13 → S_M_digest_9 (d + 8) Rf (nI k) (σ.1, ab_pL σ.2 56 14 (zdg1 S k)) := by
    intro m
    induction m with
    | zero =>
      intro k q1 q2
      have : k = 13 := by omega
      subst this
      refine b_M_digest_9 (fun _ => b_M_digest_31 ?_) (fun c => absurd (by decide) c)
      dsimp only
      rw [b 3 (by omega)]
      refine p_M_mix (b_M_digest_42 ?_)
      dsimp only
      rw [b 4 (by omega)]
      refine p_M_mix (b_M_digest_53 ?_)
      dsimp only
      rw [b 5 (by omega)]
      refine p_M_mix (b_M_digest_64 ?_)
      exact two _ 0 (Nat.le_refl _) (by omega)
    | succ m ih =>
      intro k q1 q2
      by_cases qi : k = 13
      · exact ih k (by omega) q2
      refine b_M_digest_9 (fun c => absurd c (by rw [zlit 13, zle (by omega) (by omega)]; omega)) (fun _ => b_M_digest_15 (p_M_countOf (by omega) (hv _) hV (b_M_digest_21 (p_M_mix (b_M_digest_25 ?_)))))
      rw [nI_1]
      exact ih (k + 1) (by omega) (by omega)
  exact e_M_digest (b_M_digest_0 (one 13 0 (by omega) (by omega)))
end RO
