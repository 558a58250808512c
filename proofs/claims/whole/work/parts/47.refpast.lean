/-! the reference: minds and undo -/
section RP
variable {d : Nat} {A : zA} {σ : ab_S}
theorem p_M_minds58 {pn : Nat} {Pb : Nat → zB} {Rf : ab_S → Prop} (hA : zGR σ 0 (A.1, (pn, Pb), A.2.2)) (hn : A.2.2.1.1 ≤ 6) (hm : A.2.2.2.1 ≤ 6) (h4 : A.1 2 ≤ 4) (hp : pn < 8) (hr : ∀ τ, zGR τ 0 (A.1, (pn + 1, fun u => if u = pn then A.1 else Pb u), A.2.2) → zFR 78 135 σ τ → Rf τ) : S_M_minds_58 d Rf σ := by
  obtain ⟨⟨b1, b2⟩, ⟨n1, n2⟩, ⟨m1, m2⟩, hp3, hP⟩ := id hA
  simp only [Nat.zero_add] at b1 b2 n1 n2 m1 m2 hp3 hP
  have e7 : (79 : Int32) + 7 * nI pn = nI (79 + 7 * pn) := by rw [zlit 7, pk_mul, zlit 79, nI_add]
  have g1 : nI (79 + 7 * pn) + 1 = nI (79 + 7 * pn + 1) := nI_1 _
  have g2 : nI (79 + 7 * pn) + 2 = nI (79 + 7 * pn + 2) := nI_add _ 2
  have g3 : nI (79 + 7 * pn) + 3 = nI (79 + 7 * pn + 3) := nI_add _ 3
  have key : ∀ n i (τ : ab_S), 4 - i ≤ n → i ≤ 4 → zFR (79 + 7 * pn) 135 σ τ → τ.1 57 (79 + 7 * pn) = σ.1 57 5 → τ.1 57 (79 + 7 * pn + 1) = σ.1 57 6 → τ.1 57 (79 + 7 * pn + 2) = σ.1 57 7 → (∀ j, j < i → τ.1 57 (79 + 7 * pn + 3 + j) = σ.1 57 (12 + j)) → S_M_minds_116 d Rf (nI (79 + 7 * pn)) (nI i) τ := by
    intro n
    induction n with
    | zero =>
      intro i τ q1 q2 hF f1 f2 f3 f4
      have : i = 4 := by omega
      subst this
      refine b_M_minds_116 (fun _ => b_M_minds_146 ?_) (fun c => absurd ?_ c)
      · have hL : zFR 78 135 τ (ab_pI τ.1 57 78 (τ.1 57 78 + 1), τ.2) := zFR.put (by omega) (by omega)
        have hFL := (hF.up (lo2 := 78) (hi2 := 135) (by omega) (by omega)).tr hL
        have lo : ∀ j, j < 79 + 7 * pn → j ≠ 78 → (ab_pI τ.1 57 78 (τ.1 57 78 + 1)) 57 j = σ.1 57 j := fun j a b => by
          rw [zp_n (by omega)]; exact hF.2.2 j (by omega)
        have hi : ∀ j, 79 ≤ j → (ab_pI τ.1 57 78 (τ.1 57 78 + 1)) 57 j = τ.1 57 j := fun j a => by
          rw [zp_n (by omega)]
        refine hr _ ⟨⟨fun j hj => ?_, fun i hi => ?_⟩, ⟨?_, fun j hj => ?_⟩, ⟨?_, fun j hj => ?_⟩, ?_, fun u hu => ?_⟩ hFL
        all_goals simp only [Nat.zero_add]
        · rw [lo _ (by omega) (by omega)]; exact b1 j hj
        · have hi : i < A.1 2 := hi
          rw [lo _ (by omega) (by omega), lo _ (by omega) (by omega)]; exact b2 i hi
        · rw [lo _ (by omega) (by omega)]; exact n1
        · have hj : j < 5 * A.2.2.1.1 := hj
          rw [lo _ (by omega) (by omega)]; exact n2 j hj
        · rw [lo _ (by omega) (by omega)]; exact m1
        · have hj : j < 5 * A.2.2.2.1 := hj
          rw [lo _ (by omega) (by omega)]; exact m2 j hj
        · rw [zp_s, hF.2.2 78 (by omega), hp3, nI_1]
        · have hu : u < pn + 1 := hu
          by_cases q : u = pn
          · subst q
            rw [hi _ (by omega), hi _ (by omega), hi _ (by omega), if_pos rfl, f1, f2, f3]
            refine ⟨b1 5 (by omega), b1 6 (by omega), b1 7 (by omega), fun i hi2 => ?_⟩
            rw [hi _ (by omega), f4 i (by omega)]
            exact (b2 i hi2).2
          · obtain ⟨c1, c2, c3, c4⟩ := hP u (by omega)
            rw [if_neg q, lo _ (by omega) (by omega), lo _ (by omega) (by omega), lo _ (by omega) (by omega)]
            refine ⟨c1, c2, c3, fun i hi => ?_⟩
            rw [lo _ (by omega) (by omega)]
            exact c4 i hi
      · rw [zlit 4, zle (by omega) (by omega)]; omega
    | succ n ih =>
      intro i τ q1 q2 hF f1 f2 f3 f4
      by_cases q : i = 4
      · exact ih i τ (by omega) q2 hF f1 f2 f3 f4
      have ei : nI (79 + 7 * pn) + 3 + nI i = nI (79 + 7 * pn + 3 + i) := by rw [g3, nI_add]
      have e12 : (12 : Int32) + nI i = nI (12 + i) := nI_add 12 i
      refine b_M_minds_116 (fun c => absurd c ?_) (fun _ => b_M_minds_121 (by rw [e12]; exact vp_in_nI (by omega) (by omega)) (by rw [ei]; exact vp_in_nI (by omega) (by omega)) ?_)
      · rw [zlit 4, zle (by omega) (by omega)]; omega
      · rw [ei, e12, zc_nI (by omega), zc_nI (by omega), nI_1]
        refine ih (i + 1) _ (by omega) (by omega) (hF.tr (zFR.put (by omega) (by omega))) ?_ ?_ ?_ (fun j hj => ?_)
        all_goals dsimp only
        · rw [zp_n (by omega)]; exact f1
        · rw [zp_n (by omega)]; exact f2
        · rw [zp_n (by omega)]; exact f3
        · by_cases qj : j = i
          · subst qj
            rw [zp_s, hF.2.2 _ (by omega)]
          · rw [zp_n (by omega)]
            exact f4 j (by omega)
  refine b_M_minds_58 ?_ ?_ ?_ ?_
  · rw [hp3, e7]; exact vp_in_nI (by omega) (by omega)
  · rw [hp3, e7, g1]; exact vp_in_nI (by omega) (by omega)
  · rw [hp3, e7, g2]; exact vp_in_nI (by omega) (by omega)
  · rw [hp3, e7, g1, g2, zc_nI (by omega), zc_nI (by omega), zc_nI (by omega)]
    refine key 4 0 _ (by omega) (by omega) ⟨rfl, fun a ha => ?_, fun j hj => ?_⟩ ?_ ?_ ?_ (fun j hj => by omega)
    all_goals dsimp only
    · rw [ab_pI_ne ha, ab_pI_ne ha, ab_pI_ne ha]
    · rw [zp_n (by omega), zp_n (by omega), zp_n (by omega)]
    · rw [zp_n (by omega), zp_n (by omega), zp_s]
    · rw [zp_n (by omega), zp_s, zp_n (by omega)]
    · rw [zp_s, zp_n (by omega), zp_n (by omega)]
theorem p_M_minds {Rf : ab_S → Prop} (hA : zGR σ 0 A) (hV : zAV A) (hr : ∀ τ, zGR τ 0 (A.1, zpush A.1 A.2.1, A.2.2) → zFR 78 135 σ τ → Rf τ) : CA (d + 1) 172 [.ref 56] σ (ab_rV Rf) := by
  obtain ⟨v1, -, v8, -, vn, vm, -⟩ := id hV
  have h4 : A.1 2 ≤ 4 := v1.1.2.2.1
  obtain ⟨⟨b1, b2⟩, ⟨n1, n2⟩, ⟨m1, m2⟩, hp3, hP⟩ := id hA
  simp only [Nat.zero_add] at b1 b2 n1 n2 m1 m2 hp3 hP
  refine e_M_minds (b_M_minds_0 (fun c => b_M_minds_12 ?_) (fun c => ?_)) <;> rw [hp3, zlit 8, zeq (by omega) (by omega)] at c
  · have e : zpush A.1 A.2.1 = (7 + 1, fun u => if u = 7 then A.1 else A.2.1.2 (u + 1)) := by unfold zpush; rw [if_neg (by omega)]
    rw [e] at hr
    have key : ∀ n i τ, 49 - i ≤ n → i ≤ 49 → zFR 79 135 σ τ → (∀ j, j < i → τ.1 57 (79 + j) = σ.1 57 (86 + j)) → (∀ j, 79 + i ≤ j → τ.1 57 j = σ.1 57 j) → S_M_minds_14 d Rf (nI i) τ := by
      intro n
      induction n with
      | zero =>
        intro i τ q1 q2 hF f1 f2
        have : i = 49 := by omega
        subst this
        refine b_M_minds_14 (fun _ => b_M_minds_47 ?_) (fun c => absurd (by decide) c)
        have hL : zFR 78 135 τ (ab_pI τ.1 57 78 (τ.1 57 78 - 1), τ.2) := zFR.put (by omega) (by omega)
        have hFL := (hF.up (lo2 := 78) (hi2 := 135) (by omega) (by omega)).tr hL
        have lo : ∀ j, j < 78 → (ab_pI τ.1 57 78 (τ.1 57 78 - 1)) 57 j = σ.1 57 j := fun j a => by
          rw [zp_n (by omega)]; exact hF.2.2 j (by omega)
        have hi : ∀ j, j < 49 → (ab_pI τ.1 57 78 (τ.1 57 78 - 1)) 57 (79 + j) = σ.1 57 (86 + j) := fun j a => by
          rw [zp_n (by omega)]; exact f1 j a
        refine p_M_minds58 (A := A) (pn := 7) (Pb := fun u => A.2.1.2 (u + 1)) ⟨⟨fun j hj => ?_, fun i hi => ?_⟩, ⟨?_, fun j hj => ?_⟩, ⟨?_, fun j hj => ?_⟩, ?_, fun u hu => ?_⟩ vn vm h4 (by omega) (fun τ h1 h2 => hr τ h1 (hFL.tr h2))
        all_goals simp only [Nat.zero_add]
        · rw [lo _ (by omega)]; exact b1 j hj
        · have hi : i < A.1 2 := hi
          rw [lo _ (by omega), lo _ (by omega)]; exact b2 i hi
        · rw [lo _ (by omega)]; exact n1
        · have hj : j < 5 * A.2.2.1.1 := hj
          rw [lo _ (by omega)]; exact n2 j hj
        · rw [lo _ (by omega)]; exact m1
        · have hj : j < 5 * A.2.2.2.1 := hj
          rw [lo _ (by omega)]; exact m2 j hj
        · rw [zp_s, hF.2.2 78 (by omega), hp3, c]; decide
        · have hu : u < 7 := hu
          obtain ⟨c1, c2, c3, c4⟩ := hP (u + 1) (by omega)
          rw [hi _ (by omega), show 79 + 7 * u + 1 = 79 + (7 * u + 1) by omega, hi _ (by omega), show 79 + 7 * u + 2 = 79 + (7 * u + 2) by omega, hi _ (by omega)]
          refine ⟨by rw [show 86 + 7 * u = 79 + 7 * (u + 1) by omega]; exact c1, by rw [show 86 + (7 * u + 1) = 79 + 7 * (u + 1) + 1 by omega]; exact c2, by rw [show 86 + (7 * u + 2) = 79 + 7 * (u + 1) + 2 by omega]; exact c3, fun i hi2 => ?_⟩
          have hi2 : i < A.1 2 := hi2
          rw [show 79 + 7 * u + 3 + i = 79 + (7 * u + 3 + i) by omega, hi _ (by omega), show 86 + (7 * u + 3 + i) = 79 + 7 * (u + 1) + 3 + i by omega]
          exact c4 i hi2
      | succ n ih =>
        intro i τ q1 q2 hF f1 f2
        by_cases q : i = 49
        · exact ih i τ (by omega) q2 hF f1 f2
        have e1 : (79 : Int32) + nI i = nI (79 + i) := nI_add 79 i
        have e2 : nI (79 + i) + 7 = nI (79 + i + 7) := nI_add _ 7
        refine b_M_minds_14 (fun c => absurd c ?_) (fun _ => b_M_minds_20 (by rw [e1, e2]; exact vp_in_nI (by omega) (by omega)) (by rw [e1]; exact vp_in_nI (by omega) (by omega)) ?_)
        · rw [zlit 49, zle (by omega) (by omega)]; omega
        · rw [e1, e2, zc_nI (by omega), zc_nI (by omega), nI_1]
          refine ih (i + 1) _ (by omega) (by omega) (hF.tr (zFR.put (by omega) (by omega))) (fun j hj => ?_) (fun j hj => ?_)
          all_goals dsimp only
          · by_cases qj : j = i
            · subst qj
              rw [zp_s, f2 _ (by omega), show 79 + j + 7 = 86 + j by omega]
            · rw [zp_n (by omega)]; exact f1 j (by omega)
          · rw [zp_n (by omega)]; exact f2 j (by omega)
    exact key 49 0 σ (by omega) (by omega) zFR.rf (fun j hj => by omega) (fun _ _ => rfl)
  · have e : zpush A.1 A.2.1 = (A.2.1.1 + 1, fun u => if u = A.2.1.1 then A.1 else A.2.1.2 u) := by unfold zpush; rw [if_pos (by omega)]
    rw [e] at hr
    exact p_M_minds58 (A := A) hA vn vm h4 (show A.2.1.1 < 8 by omega) hr
theorem p_M_undo {Rf : Int32 → ab_S → Prop} (hA : zGR σ 0 A) (hV : zAV A) (h0 : A.2.1.1 = 0 → Rf (-3) (ab_pI σ.1 60 1 (σ.1 60 1 + 1), σ.2)) (h1 : ∀ m, A.2.1.1 = m + 1 → ∀ τ, zGR τ 0 (A.2.1.2 m, (m, A.2.1.2), A.2.2) → zFR 0 135 σ τ → Rf (nI (A.2.1.2 m 7)) τ) : CA (d + 2) 176 [.ref 56] σ (ab_rI Rf) := by
  obtain ⟨v1, -, v8, vP, vn, vm, -⟩ := id hV
  have h4 : A.1 2 ≤ 4 := v1.1.2.2.1
  obtain ⟨⟨b1, b2⟩, ⟨n1, n2⟩, ⟨m1, m2⟩, hp3, hP⟩ := id hA
  simp only [Nat.zero_add] at b1 b2 n1 n2 m1 m2 hp3 hP
  refine e_M_undo (b_M_undo_0 (fun c => ?_) (fun c => ?_)) <;> rw [hp3, zlit 0, zeq (by omega) (by omega)] at c
  · exact b_M_undo_10 (e_M_no (b_M_no_0 (b_M_undo_14 (h0 c))))
  · obtain ⟨m, hm⟩ : ∃ m, A.2.1.1 = m + 1 := ⟨A.2.1.1 - 1, by omega⟩
    have h1 := h1 m hm
    have em : σ.1 57 78 - 1 = nI m := by rw [hp3, hm, nI_s]
    have e7 : (79 : Int32) + 7 * nI m = nI (79 + 7 * m) := by rw [zlit 7, pk_mul, zlit 79, nI_add]
    have g1 : nI (79 + 7 * m) + 1 = nI (79 + 7 * m + 1) := nI_1 _
    have g2 : nI (79 + 7 * m) + 2 = nI (79 + 7 * m + 2) := nI_add _ 2
    have g3 : nI (79 + 7 * m) + 3 = nI (79 + 7 * m + 3) := nI_add _ 3
    obtain ⟨p1, p2, p3, p4⟩ := hP m (by omega)
    obtain ⟨w1, -, w2⟩ := vP m (by omega)
    have e2 : A.2.1.2 m 2 = A.1 2 := w2 2 (by omega)
    have key : ∀ n i (τ : ab_S), 4 - i ≤ n → i ≤ 4 → zFR 0 79 σ τ → (∀ j, j ≠ 5 → j ≠ 6 → j ≠ 7 → j ≠ 78 → ¬ (12 ≤ j ∧ j < 16) → τ.1 57 j = σ.1 57 j) → τ.1 57 5 = σ.1 57 (79 + 7 * m) → τ.1 57 6 = σ.1 57 (79 + 7 * m + 1) → τ.1 57 7 = σ.1 57 (79 + 7 * m + 2) → τ.1 57 78 = nI m → (∀ j, j < i → τ.1 57 (12 + j) = σ.1 57 (79 + 7 * m + 3 + j)) → S_M_undo_84 (d + 1) Rf (nI (79 + 7 * m)) (nI i) τ := by
      intro n
      induction n with
      | zero =>
        intro i τ q1 q2 hF f0 f1 f2 f3 f5 f4
        have : i = 4 := by omega
        subst this
        refine b_M_undo_84 (fun _ => b_M_undo_114 ?_) (fun c => absurd (by decide) c)
        rw [f3, p3]
        refine h1 τ ⟨⟨fun j hj => ?_, fun i hi => ?_⟩, ⟨?_, fun j hj => ?_⟩, ⟨?_, fun j hj => ?_⟩, ?_, fun u hu => ?_⟩ (hF.up (by omega) (by omega))
        all_goals simp only [Nat.zero_add]
        · by_cases q5 : j = 5
          · subst q5; rw [f1]; exact p1
          by_cases q6 : j = 6
          · subst q6; rw [f2]; exact p2
          by_cases q7 : j = 7
          · subst q7; rw [f3]; exact p3
          rw [f0 _ q5 q6 q7 (by omega) (by omega), w2 j (by omega)]; exact b1 j hj
        · have hi : i < A.1 2 := by rw [← e2]; exact hi
          rw [f0 _ (by omega) (by omega) (by omega) (by omega) (by omega), w2 (8 + i) (by omega), f4 i (by omega)]
          exact ⟨(b2 i hi).1, p4 i hi⟩
        · rw [f0 _ (by omega) (by omega) (by omega) (by omega) (by omega)]; exact n1
        · have hj : j < 5 * A.2.2.1.1 := hj
          rw [f0 _ (by omega) (by omega) (by omega) (by omega) (by omega)]; exact n2 j hj
        · rw [f0 _ (by omega) (by omega) (by omega) (by omega) (by omega)]; exact m1
        · have hj : j < 5 * A.2.2.2.1 := hj
          rw [f0 _ (by omega) (by omega) (by omega) (by omega) (by omega)]; exact m2 j hj
        · exact f5
        · have hu : u < m := hu
          obtain ⟨c1, c2, c3, c4⟩ := hP u (by omega)
          rw [f0 _ (by omega) (by omega) (by omega) (by omega) (by omega), f0 _ (by omega) (by omega) (by omega) (by omega) (by omega), f0 _ (by omega) (by omega) (by omega) (by omega) (by omega)]
          refine ⟨c1, c2, c3, fun i hi => ?_⟩
          rw [f0 _ (by omega) (by omega) (by omega) (by omega) (by omega)]
          exact c4 i (by rw [← e2]; exact hi)
      | succ n ih =>
        intro i τ q1 q2 hF f0 f1 f2 f3 f5 f4
        by_cases q : i = 4
        · exact ih i τ (by omega) q2 hF f0 f1 f2 f3 f5 f4
        have ei : nI (79 + 7 * m) + 3 + nI i = nI (79 + 7 * m + 3 + i) := by rw [g3, nI_add]
        have e12 : (12 : Int32) + nI i = nI (12 + i) := nI_add 12 i
        refine b_M_undo_84 (fun c => absurd c ?_) (fun _ => b_M_undo_89 (by rw [ei]; exact vp_in_nI (by omega) (by omega)) (by rw [e12]; exact vp_in_nI (by omega) (by omega)) ?_)
        · rw [zlit 4, zle (by omega) (by omega)]; omega
        · rw [ei, e12, zc_nI (by omega), zc_nI (by omega), nI_1]
          refine ih (i + 1) _ (by omega) (by omega) (hF.tr (zFR.put (by omega) (by omega))) (fun j a b c e f => ?_) ?_ ?_ ?_ ?_ (fun j hj => ?_)
          all_goals dsimp only
          · rw [zp_n (by omega)]; exact f0 j a b c e f
          · rw [zp_n (by omega)]; exact f1
          · rw [zp_n (by omega)]; exact f2
          · rw [zp_n (by omega)]; exact f3
          · rw [zp_n (by omega)]; exact f5
          · by_cases qj : j = i
            · subst qj
              rw [zp_s, hF.2.2 _ (by omega)]
            · rw [zp_n (by omega)]
              exact f4 j (by omega)
    have s78 : (ab_pI σ.1 57 78 (nI m)) 57 78 = nI m := zp_s
    refine b_M_undo_15 ?_ ?_ ?_ ?_
    · rw [em, s78, e7]; exact vp_in_nI (by omega) (by omega)
    · rw [em, s78, e7, g1]; exact vp_in_nI (by omega) (by omega)
    · rw [em, s78, e7, g2]; exact vp_in_nI (by omega) (by omega)
    · rw [em, s78, e7, g1, g2, zc_nI (by omega), zc_nI (by omega), zc_nI (by omega)]
      refine key 4 0 _ (by omega) (by omega) ⟨rfl, fun a ha => ?_, fun j hj => ?_⟩ (fun j a b c e f => ?_) ?_ ?_ ?_ ?_ (fun j hj => by omega)
      all_goals dsimp only
      · rw [ab_pI_ne ha, ab_pI_ne ha, ab_pI_ne ha, ab_pI_ne ha]
      · rw [zp_n (by omega), zp_n (by omega), zp_n (by omega), zp_n (by omega)]
      · rw [zp_n (by omega), zp_n (by omega), zp_n (by omega), zp_n (by omega)]
      · rw [zp_n (by omega), zp_n (by omega), zp_s, zp_n (by omega)]
      · rw [zp_n (by omega), zp_s, zp_n (by omega), zp_n (by omega)]
      · rw [zp_s, zp_n (by omega), zp_n (by omega), zp_n (by omega)]
      · rw [zp_n (by omega), zp_n (by omega), zp_n (by omega), zp_s]
end RP
