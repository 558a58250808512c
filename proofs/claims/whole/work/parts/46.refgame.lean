/-! the reference: a whole game at row r -/
def zGR (σ : ab_S) (r : Nat) (A : zA) : Prop :=
  zR σ r A.1 ∧ (σ.1 57 (r + 16) = nI A.2.2.1.1 ∧ ∀ j, j < 5 * A.2.2.1.1 → σ.1 57 (r + 17 + j) = A.2.2.1.2 j) ∧ (σ.1 57 (r + 47) = nI A.2.2.2.1 ∧ ∀ j, j < 5 * A.2.2.2.1 → σ.1 57 (r + 48 + j) = A.2.2.2.2 j) ∧ σ.1 57 (r + 78) = nI A.2.1.1 ∧ ∀ u, u < A.2.1.1 → σ.1 57 (r + 79 + 7 * u) = nI (A.2.1.2 u 5) ∧ σ.1 57 (r + 79 + 7 * u + 1) = nI (A.2.1.2 u 6) ∧ σ.1 57 (r + 79 + 7 * u + 2) = nI (A.2.1.2 u 7) ∧ ∀ i, i < A.1 2 → σ.1 57 (r + 79 + 7 * u + 3 + i) = zc (A.2.1.2 u (12 + i))
theorem zGR.ext {σ τ : ab_S} {r q : Nat} {A : zA} (h : zGR σ r A) (hV : zAV A) (e : ∀ j, j < 135 → τ.1 57 (q + j) = σ.1 57 (r + j)) : zGR τ q A := by
  obtain ⟨⟨h1, h2⟩, ⟨h3, h4⟩, ⟨h5, h6⟩, h7, h8⟩ := h
  obtain ⟨v1, -, v8, -, vn, vm, -⟩ := id hV
  have n4 := v1.1.2.2.1
  refine ⟨⟨fun j hj => ?_, fun i hi => ⟨?_, ?_⟩⟩, ⟨?_, fun j hj => ?_⟩, ⟨?_, fun j hj => ?_⟩, ?_, fun u hu => ⟨?_, ?_, ?_, fun i hi => ?_⟩⟩
  · rw [e _ (by omega)]; exact h1 j hj
  · rw [show q + 8 + i = q + (8 + i) by omega, e _ (by omega), show r + (8 + i) = r + 8 + i by omega]; exact (h2 i hi).1
  · rw [show q + 12 + i = q + (12 + i) by omega, e _ (by omega), show r + (12 + i) = r + 12 + i by omega]; exact (h2 i hi).2
  · rw [e _ (by omega)]; exact h3
  · rw [show q + 17 + j = q + (17 + j) by omega, e _ (by omega), show r + (17 + j) = r + 17 + j by omega]; exact h4 j hj
  · rw [e _ (by omega)]; exact h5
  · rw [show q + 48 + j = q + (48 + j) by omega, e _ (by omega), show r + (48 + j) = r + 48 + j by omega]; exact h6 j hj
  · rw [e _ (by omega)]; exact h7
  · rw [show q + 79 + 7 * u = q + (79 + 7 * u) by omega, e _ (by omega), show r + (79 + 7 * u) = r + 79 + 7 * u by omega]; exact (h8 u hu).1
  · rw [show q + 79 + 7 * u + 1 = q + (79 + 7 * u + 1) by omega, e _ (by omega), show r + (79 + 7 * u + 1) = r + 79 + 7 * u + 1 by omega]; exact (h8 u hu).2.1
  · rw [show q + 79 + 7 * u + 2 = q + (79 + 7 * u + 2) by omega, e _ (by omega), show r + (79 + 7 * u + 2) = r + 79 + 7 * u + 2 by omega]; exact (h8 u hu).2.2.1
  · rw [show q + 79 + 7 * u + 3 + i = q + (79 + 7 * u + 3 + i) by omega, e _ (by omega), show r + (79 + 7 * u + 3 + i) = r + 79 + 7 * u + 3 + i by omega]; exact (h8 u hu).2.2.2 i hi
theorem zGR.fr {σ τ : ab_S} {r lo hi : Nat} {A : zA} (h : zGR σ r A) (hV : zAV A) (hF : zFR lo hi σ τ) (hd : r + 135 ≤ lo ∨ hi ≤ r) : zGR τ r A := h.ext hV (fun j hj => hF.2.2 _ (by omega))
theorem zGR.frF {σ τ : ab_S} {r : Nat} {A : zA} {ks : List Nat} (h : zGR σ r A) (hF : zF ks σ τ) (hd : 57 ∉ ks) : zGR τ r A := by
  unfold zGR zR
  rw [hF.2 57 hd]
  exact h
/-- only the board has changed -/
theorem zGR.brd {σ τ : ab_S} {r : Nat} {A : zA} {B : zB} (h : zGR σ r A) (hB : zR τ r B) (e2 : B 2 = A.1 2) (hF : zFR r (r + 16) σ τ) : zGR τ r (B, A.2) := by
  obtain ⟨-, ⟨h3, h4⟩, ⟨h5, h6⟩, h7, h8⟩ := h
  refine ⟨hB, ⟨?_, fun j hj => ?_⟩, ⟨?_, fun j hj => ?_⟩, ?_, fun u hu => ⟨?_, ?_, ?_, fun i hi => ?_⟩⟩
  · rw [hF.2.2 _ (by omega)]; exact h3
  · rw [hF.2.2 _ (by omega)]; exact h4 j hj
  · rw [hF.2.2 _ (by omega)]; exact h5
  · rw [hF.2.2 _ (by omega)]; exact h6 j hj
  · rw [hF.2.2 _ (by omega)]; exact h7
  · rw [hF.2.2 _ (by omega)]; exact (h8 u hu).1
  · rw [hF.2.2 _ (by omega)]; exact (h8 u hu).2.1
  · rw [hF.2.2 _ (by omega)]; exact (h8 u hu).2.2.1
  · rw [hF.2.2 _ (by omega)]; exact (h8 u hu).2.2.2 i (by rw [← e2]; exact hi)
/-- the board has changed and nothing may be undone -/
theorem zGR.new {σ τ : ab_S} {r : Nat} {A : zA} {B : zB} (h : zGR σ r A) (hV : zAV A) (hB : zR τ r B) (hu : τ.1 57 (r + 78) = nI 0) (e : ∀ j, (16 ≤ j ∧ j < 78) → τ.1 57 (r + j) = σ.1 57 (r + j)) : zGR τ r (B, (0, A.2.1.2), A.2.2) := by
  obtain ⟨-, ⟨h3, h4⟩, ⟨h5, h6⟩, -⟩ := h
  obtain ⟨v1, -, v8, -, vn, vm, -⟩ := id hV
  refine ⟨hB, ⟨?_, fun j hj => ?_⟩, ⟨?_, fun j hj => ?_⟩, hu, fun u hu => ?_⟩
  · rw [e _ (by omega)]; exact h3
  · have hj : j < 5 * A.2.2.1.1 := hj
    rw [show r + 17 + j = r + (17 + j) by omega, e _ (by omega), show r + (17 + j) = r + 17 + j by omega]; exact h4 j hj
  · rw [e _ (by omega)]; exact h5
  · have hj : j < 5 * A.2.2.2.1 := hj
    rw [show r + 48 + j = r + (48 + j) by omega, e _ (by omega), show r + (48 + j) = r + 48 + j by omega]; exact h6 j hj
  · simp at hu
section RGm
variable {d r : Nat} {A : zA} {σ : ab_S} {Rf : ab_S → Prop}
theorem p_M_begins {w h : Nat} (hr : r + 135 ≤ 636) (hw : 3 ≤ w ∧ w ≤ 5) (hh : 3 ≤ h ∧ h ≤ 5) (hf : ∀ τ, (∀ Pb nr mr, zGR τ r (zbeg w h, (0, Pb), (0, nr), (0, mr))) → zFR r (r + 135) σ τ → Rf τ) : CA (d + 2) 146 [.ref 56, .int (nI r), .int (nI w), .int (nI h)] σ (ab_rV Rf) := by
  have e0 : Int32.toNatClampNeg (nI r + 0) = r + 0 := zcl 0 (by omega)
  have e1 : Int32.toNatClampNeg (nI r + 1) = r + 1 := zcl 1 (by omega)
  have e5 : Int32.toNatClampNeg (nI r + 5) = r + 5 := zcl 5 (by omega)
  have hwh : 0 < w * h := Nat.mul_pos (by omega) (by omega)
  refine e_M_begins (b_M_begins_0 (p_M_empties hr (fun τ hz hF => b_M_begins_5 (zin 0 (by omega)) (zin 1 (by omega)) (zin 5 (by omega)) ?_)))
  rw [e0, e1, e5, pk_mul]
  obtain ⟨m, hm⟩ : ∃ m, w * h = m + 1 := ⟨w * h - 1, by omega⟩
  rw [hm, nI_s]
  have z : ∀ j, j < 135 → j ≠ 0 → j ≠ 1 → j ≠ 5 → (ab_pI (ab_pI (ab_pI τ.1 57 (r + 0) (nI w)) 57 (r + 1) (nI h)) 57 (r + 5) (nI m)) 57 (r + j) = nI 0 := fun j hj a b c => by
    rw [zp_n (by omega), zp_n (by omega), zp_n (by omega)]; exact hz j hj
  refine hf _ (fun Pb nr mr => ⟨⟨fun j hj => ?_, fun i hi => ?_⟩, ⟨z 16 (by omega) (by omega) (by omega) (by omega), fun j hj => ?_⟩, ⟨z 47 (by omega) (by omega) (by omega) (by omega), fun j hj => ?_⟩, z 78 (by omega) (by omega) (by omega) (by omega), fun u hu => ?_⟩) ?_
  · dsimp only
    by_cases q0 : j = 0
    · subst q0
      rw [zp_n (by omega), zp_n (by omega), zp_s]; rfl
    by_cases q1 : j = 1
    · subst q1
      rw [zp_n (by omega), zp_s]; rfl
    by_cases q5 : j = 5
    · subst q5
      rw [zp_s]
      congr 1
      unfold zbeg
      simp
      omega
    rw [z j (by omega) q0 q1 q5]
    congr 1
    unfold zbeg
    simp [q0, q1, q5]
  · exact absurd hi (by unfold zbeg; simp)
  · simp at hj
  · simp at hj
  · simp at hu
  · refine hF.tr ⟨rfl, fun a ha => ?_, fun j hj => ?_⟩
    · dsimp only
      rw [ab_pI_ne ha, ab_pI_ne ha, ab_pI_ne ha]
    · dsimp only
      rw [zp_n (by omega), zp_n (by omega), zp_n (by omega)]
theorem p_M_addsGoose {B : zB} {kind c : Nat} (hB : zR σ r B) (hr : r ≤ 620) (hn : B 2 < 4) (h : ∀ τ, zR τ r (zadd B kind c) → zFR r (r + 16) σ τ → Rf τ) : CA (d + 1) 150 [.ref 56, .int (nI r), .int (nI kind), .int (nI c)] σ (ab_rV Rf) := by
  have R2 : σ.1 57 (r + 2) = nI (B 2) := hB.1 2 (by omega)
  have e2 : Int32.toNatClampNeg (nI r + 2) = r + 2 := zcl 2 (by omega)
  have e8 : Int32.toNatClampNeg (nI r + 8 + nI (B 2)) = r + 8 + B 2 := zcl2 8 _ (by omega)
  have e12 : Int32.toNatClampNeg (nI r + 12 + nI (B 2)) = r + 12 + B 2 := zcl2 12 _ (by omega)
  have f2 : ∀ (v : Int32), (ab_pI σ.1 57 (r + 8 + B 2) v) 57 (r + 2) = nI (B 2) := fun v => by rw [zp_n (by omega)]; exact R2
  have f3 : ∀ (v x : Int32), (ab_pI (ab_pI σ.1 57 (r + 8 + B 2) v) 57 (r + 12 + B 2) x) 57 (r + 2) = nI (B 2) := fun v x => by rw [zp_n (by omega)]; exact f2 v
  refine e_M_addsGoose (b_M_addsGoose_0 (zin 2 (by omega)) ?_ (zin 2 (by omega)) ?_ (zin 2 (by omega)) (zin 2 (by omega)) ?_)
  · rw [e2, R2]; exact zin2 8 _ (by omega)
  · rw [e2, R2, e8, f2]; exact zin2 12 _ (by omega)
  · rw [e2, R2, e8, f2, e12, f3, nI_1]
    refine h _ ⟨fun j hj => ?_, fun i hi => ?_⟩ ⟨rfl, fun a ha => ?_, fun j hj => ?_⟩
    · dsimp only
      by_cases q : j = 2
      · subst q
        rw [zp_s]; unfold zadd zup; rw [if_pos rfl]
      · rw [zp_n (by omega), zp_n (by omega), zp_n (by omega)]
        unfold zadd zup
        rw [if_neg q, if_neg (by omega), if_neg (by omega)]
        exact hB.1 j hj
    · have e : zadd B kind c 2 = B 2 + 1 := by unfold zadd zup; rw [if_pos rfl]
      rw [e] at hi
      dsimp only
      unfold zadd zup
      by_cases q : i = B 2
      · subst q
        refine ⟨?_, ?_⟩
        · rw [zp_n (by omega), zp_n (by omega), zp_s, if_neg (by omega), if_neg (by omega), if_pos rfl]
        · rw [zp_n (by omega), zp_s, if_neg (by omega), if_pos rfl, zc_s]
      · refine ⟨?_, ?_⟩
        · rw [zp_n (by omega), zp_n (by omega), zp_n (by omega), if_neg (by omega), if_neg (by omega), if_neg (by omega)]
          exact (hB.2 i (by omega)).1
        · rw [zp_n (by omega), zp_n (by omega), zp_n (by omega), if_neg (by omega), if_neg (by omega), if_neg (by omega)]
          exact (hB.2 i (by omega)).2
    · dsimp only
      rw [ab_pI_ne ha, ab_pI_ne ha, ab_pI_ne ha]
    · dsimp only
      rw [zp_n (by omega), zp_n (by omega), zp_n (by omega)]
end RGm
