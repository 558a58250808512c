/-! BOARDS: what the class does to them -/
/-- other cells stay -/
def zF (ks : List Nat) (σ τ : ab_S) : Prop := τ.2 = σ.2 ∧ ∀ a, a ∉ ks → τ.1 a = σ.1 a
theorem zF.rf {ks : List Nat} {σ : ab_S} : zF ks σ σ := ⟨rfl, fun _ _ => rfl⟩
theorem zF.tr {ks : List Nat} {σ τ υ : ab_S} (h1 : zF ks σ τ) (h2 : zF ks τ υ) : zF ks σ υ := ⟨h2.1.trans h1.1, fun a ha => (h2.2 a ha).trans (h1.2 a ha)⟩
theorem zF.up {ks ls : List Nat} {σ τ : ab_S} (h : zF ks σ τ) (hs : ∀ a, a ∈ ks → a ∈ ls) : zF ls σ τ := ⟨h.1, fun a ha => h.2 a (fun q => ha (hs a q))⟩
theorem zF.put {ks : List Nat} {σ : ab_S} {k i : Nat} {v : Int32} (h : k ∈ ks) : zF ks σ (ab_pI σ.1 k i v, σ.2) := ⟨rfl, fun a ha => ab_pI_ne (fun q => ha (by rw [q]; exact h))⟩
theorem zp_s {I : Nat → Nat → Int32} {k i : Nat} {v : Int32} : ab_pI I k i v k i = v := by simp [ab_pI]
theorem zp_n {I : Nat → Nat → Int32} {k i a b : Nat} {v : Int32} (h : ¬ (a = k ∧ b = i)) : ab_pI I k i v a b = I a b := by
  unfold ab_pI
  by_cases q : a = k
  · rw [if_pos q, if_neg (fun z => h ⟨q, z⟩)]
  · rw [if_neg q]
abbrev zks (k : Nat) : List Nat := [k, k + 1, k + 2]
theorem zH.frame {σ τ : ab_S} {k : Nat} {B : zB} {ks : List Nat} (h : zH σ k B) (hF : zF ks σ τ) (h0 : k ∉ ks) (h1 : k + 1 ∉ ks) (h2 : k + 2 ∉ ks) : zH τ k B := by
  have e0 := hF.2 k h0
  have e1 := hF.2 (k + 1) h1
  have e2 := hF.2 (k + 2) h2
  unfold zH
  rw [e0, e1, e2]
  exact h
def zup (B : zB) (j v : Nat) : zB := fun i => if i = j then v else B i
def zend (B : zB) : zB := fun j => if j = 7 then B 7 + 1 else if j = 6 then 1 - B 6 else B j
/-- the goose on cell n - 1 is eaten (n 0: none) -/
def zeat (B : zB) (n : Nat) : zB := fun j => if 12 ≤ j ∧ j < 12 + B 2 ∧ n ≠ 0 ∧ B j = n then 0 else B j
def zfox (B : zB) (c : Nat) : zB := zend (zup (zeat B (zhw B (B 5) c)) 5 c)
def zgo (B : zB) (i c : Nat) : zB := zend (zup B (12 + i) (c + 1))
theorem zeat_lo {B : zB} {n j : Nat} (h : j < 12) : zeat B n j = B j := by
  unfold zeat
  rw [if_neg (by omega)]
section BW
variable {d k : Nat} {B : zB} {σ : ab_S}
theorem p_B_endMove {Rf : ab_S → Prop} (hk : ab_sh k = (0, 0)) (hB : zH σ k B) (hV6 : B 6 ≤ 1) (h : ∀ τ, zH τ k (zend B) → zF (zks k) σ τ → Rf τ) : CA (d + 1) 43 [.ref k] σ (ab_rV Rf) := by
  have fin : ∀ v : Nat, v = 1 - B 6 → Rf (ab_pI (ab_pI σ.1 k 7 (σ.1 k 7 + 1)) k 6 (nI v), σ.2) := by
    intro v hv
    obtain ⟨h0, h1, h2, h3, h4, h5, h6, h7, hg⟩ := hB
    refine h _ ⟨?_, ?_, ?_, ?_, ?_, ?_, ?_, ?_, fun i hi => ⟨?_, ?_⟩⟩ ⟨rfl, fun a ha => ?_⟩
    all_goals first | (simp [ab_pI, zend, h0, h1, h2, h3, h4, h5, hv, nI_1, h7]; done) | skip
    · have := (hg i hi).1
      simp [ab_pI, zend]
      rw [if_neg (by omega), if_neg (by omega)]
      exact this
    · have := (hg i hi).2
      simp [ab_pI, zend]
      rw [if_neg (by omega), if_neg (by omega)]
      exact this
    · have : a ≠ k := fun q => ha (by simp [q])
      funext b
      simp [ab_pI, this]
  have e6 : (ab_pI σ.1 k 7 (σ.1 k 7 + 1)) k 6 = nI (B 6) := by rw [zp_n (by omega)]; exact hB.2.2.2.2.2.2.1
  refine e_B_endMove (b_B_endMove_0 hk (fun c => ?_) (fun c => ?_))
  · rw [e6, zlit 1, zeq (by omega) (by omega)] at c
    exact b_B_endMove_19 (b_B_endMove_24 hk (fin 0 (by omega)))
  · rw [e6, zlit 1, zeq (by omega) (by omega)] at c
    exact b_B_endMove_23 (b_B_endMove_24 hk (fin 1 (by omega)))
theorem p_B_eatAt {n : Nat} {Rf : Int32 → ab_S → Prop} (hk : ab_sh k = (0, 0)) (hB : zH σ k B) (hV : zV B) (hn : n ≤ 25) (h : ∀ τ, zH τ k (zeat B n) → zF (zks k) σ τ → Rf (zb (decide (n ≠ 0) && zga B (B 2) (n - 1))) τ) : CA (d + 1) 42 [.ref k, .int (zc n)] σ (ab_rI Rf) := by
  have h25 := hV.n
  obtain ⟨⟨-, -, hn4, -⟩, hq, -, hdis, -⟩ := id hV
  obtain ⟨h0, h1, h2, h3, h4, h5, h6, h7, hg⟩ := id hB
  have key : ∀ m i, B 2 - i ≤ m → i ≤ B 2 → (n ≠ 0 → ∀ j, j < i → B (12 + j) ≠ n) → S_B_eatAt_2 d Rf k (zc n) (nI i) σ := by
    have none : (n ≠ 0 → ∀ j, j < B 2 → B (12 + j) ≠ n) → Rf 0 σ := by
      intro hno
      have e : zeat B n = B := by
        funext j
        unfold zeat
        by_cases q : 12 ≤ j ∧ j < 12 + B 2 ∧ n ≠ 0 ∧ B j = n
        · exact absurd (show B (12 + (j - 12)) = n by rw [show 12 + (j - 12) = j by omega]; exact q.2.2.2) (hno q.2.2.1 (j - 12) (by omega))
        · rw [if_neg q]
      have hr := h σ (by rw [e]; exact hB) zF.rf
      have e2 : (decide (n ≠ 0) && zga B (B 2) (n - 1)) = false := by
        by_cases q : n = 0
        · simp [q]
        · cases hz : zga B (B 2) (n - 1) with
          | false => simp
          | true =>
            obtain ⟨i, hi, e⟩ := zga_iff.mp hz
            exact absurd (show B (12 + i) = n by omega) (hno q i hi)
      rw [e2] at hr
      exact hr
    intro m
    induction m with
    | zero =>
      intro i a1 a2 a3
      have : i = B 2 := by omega
      subst this
      exact b_B_eatAt_2 hk (fun _ => b_B_eatAt_45 (none a3)) (fun c => absurd (by rw [h5]; exact Int32.le_refl _) c)
    | succ m ih =>
      intro i a1 a2 a3
      refine b_B_eatAt_2 hk (fun c => ?_) (fun c => ?_)
      · rw [h5, zle (by omega) (by omega)] at c
        have : i = B 2 := by omega
        subst this
        exact b_B_eatAt_45 (none a3)
      rw [h5, zle (by omega) (by omega)] at c
      have hi : i < B 2 := by omega
      have e1 : Int32.toNatClampNeg (nI i) = i := zc_nI (by omega)
      have hb := (hq i hi).2
      have hin : vp_in (nI i) 4 := vp_in_nI (by omega) (by omega)
      refine b_B_eatAt_10 (fun c => absurd c (by rw [zlit 4, zle (by omega) (by omega)]; omega)) (fun _ => b_B_eatAt_15 (fun c2 => ?_) (fun c2 => ?_))
      · rw [zc_neg (by omega)] at c2
        exact b_B_eatAt_39 (by rw [nI_1]; exact ih (i + 1) (by omega) (by omega) (fun z => absurd c2 z))
      · rw [zc_neg (by omega)] at c2
        have ee : σ.1 (k + 2) i = zc n ↔ B (12 + i) = n := by
          rw [(hg i hi).2, zc_p c2, zc_eq (by omega) (by omega)]
          omega
        refine b_B_eatAt_20 hk hin (fun c3 => ?_) (fun c3 => ?_)
        · rw [e1, ee] at c3
          refine b_B_eatAt_30 hk hin ?_
          rw [e1]
          have hr := h (ab_pI σ.1 (k + 2) i (-1), σ.2) ?_ (zF.put (by simp))
          · have e2 : (decide (n ≠ 0) && zga B (B 2) (n - 1)) = true := by
              rw [zga_iff.mpr ⟨i, hi, by omega⟩]
              simp [c2]
            rw [e2] at hr
            exact hr
          · refine ⟨?_, ?_, ?_, ?_, ?_, ?_, ?_, ?_, fun j hj => ⟨?_, ?_⟩⟩
            all_goals first | (rw [zeat_lo (by omega)]; simp [ab_pI, h0, h1, h2, h3, h4, h5, h6, h7]; done) | skip
            · rw [zeat_lo (by omega)] at hj
              have e : zeat B n (8 + j) = B (8 + j) := zeat_lo (by omega)
              rw [e]
              simp [ab_pI]
              exact (hg j hj).1
            · rw [zeat_lo (by omega)] at hj
              by_cases q : j = i
              · subst q
                dsimp only
                rw [zp_s]
                unfold zeat
                rw [if_pos ⟨by omega, by omega, c2, c3⟩, zc_0]
              · dsimp only
                rw [zp_n (by omega)]
                have : ¬ (12 ≤ 12 + j ∧ 12 + j < 12 + B 2 ∧ n ≠ 0 ∧ B (12 + j) = n) := by
                  rintro ⟨-, -, -, z⟩
                  rcases Nat.lt_or_ge j i with l | l
                  · have := hdis j i l hi (by rw [z, c3]); omega
                  · have := hdis i j (by omega) hj (by rw [z, c3]); omega
                unfold zeat
                rw [if_neg this]
                exact (hg j hj).2
        · rw [e1, ee] at c3
          exact b_B_eatAt_39 (by rw [nI_1]; exact ih (i + 1) (by omega) (by omega) (fun z j hj => by
            by_cases q : j = i
            · subst q; exact c3
            · exact a3 z j (by omega)))
  exact e_B_eatAt (b_B_eatAt_0 (key (B 2) 0 (by omega) (by omega) (fun _ j hj => by omega)))
theorem zH.set5 {c : Nat} (h : zH σ k B) : zH (ab_pI σ.1 k 4 (nI c), σ.2) k (zup B 5 c) := by
  obtain ⟨h0, h1, h2, h3, h4, h5, h6, h7, hg⟩ := h
  refine ⟨?_, ?_, ?_, ?_, ?_, ?_, ?_, ?_, fun i hi => ⟨?_, ?_⟩⟩
  all_goals first | (simp [ab_pI, zup, h0, h1, h2, h3, h5, h6, h7]; done) | skip
  · have := (hg i hi).1
    simp [ab_pI, zup]
    rw [if_neg (by omega)]; exact this
  · have := (hg i hi).2
    simp [ab_pI, zup]
    rw [if_neg (by omega)]; exact this
theorem zH.setG {i c : Nat} (hi : i < 4) (hn4 : B 2 ≤ 4) (h : zH σ k B) : zH (ab_pI σ.1 (k + 2) i (nI c), σ.2) k (zup B (12 + i) (c + 1)) := by
  obtain ⟨h0, h1, h2, h3, h4, h5, h6, h7, hg⟩ := h
  have lo : ∀ j, j < 12 → zup B (12 + i) (c + 1) j = B j := fun j hj => by unfold zup; rw [if_neg (by omega)]
  refine ⟨?_, ?_, ?_, ?_, ?_, ?_, ?_, ?_, fun j hj => ⟨?_, ?_⟩⟩
  all_goals first | (rw [lo _ (by omega)]; simp [ab_pI, h0, h1, h2, h3, h4, h5, h6, h7]; done) | skip
  · rw [lo _ (by omega)] at hj
    dsimp only
    rw [lo _ (by omega), zp_n (by omega)]
    exact (hg j hj).1
  · rw [lo _ (by omega)] at hj
    by_cases q : j = i
    · subst q
      dsimp only
      rw [zp_s]
      unfold zup
      rw [if_pos rfl, zc_s]
    · dsimp only
      rw [zp_n (by omega)]
      unfold zup
      rw [if_neg (by omega)]
      exact (hg j hj).2
theorem p_B_stepF {c : Nat} {Rf : Int32 → ab_S → Prop} (hk : ab_sh k = (0, 0)) (hB : zH σ k B) (hV : zV B) (hc : c < 25) (h : ∀ τ, zH τ k (zfox B c) → zF (zks k) σ τ → Rf (zb (zov B (B 5) c)) τ) : CA (d + 2) 41 [.ref k, .int 4, .int (nI c)] σ (ab_rI Rf) := by
  have h25 := hV.n
  obtain ⟨⟨-, -, hn4, -, -, hf, ht, -⟩, -⟩ := id hV
  refine e_B_step (b_B_step_0 (fun _ => b_B_step_7 hk ?_) (fun q => absurd rfl q))
  rw [hB.2.2.2.2.1]
  refine p_B_halfWay hk hB hV (by omega) hc (b_B_step_17 hk (p_B_eatAt hk hB hV (zhw_lt (by omega) hc) (fun τ hτ hF => b_B_step_20 hk (b_B_step_44 hk (p_B_endMove hk hτ.set5 ?_ (fun υ hυ hG => b_B_step_48 (zb_nar _) (h υ hυ (hF.tr ((zF.put (by simp)).tr hG)))))))))
  show zup (zeat B _) 5 c 6 ≤ 1
  unfold zup
  rw [if_neg (by omega), zeat_lo (by omega)]
  exact ht
theorem p_B_stepG {i c : Nat} {Rf : Int32 → ab_S → Prop} (hk : ab_sh k = (0, 0)) (hB : zH σ k B) (hV : zV B) (hi : i < B 2) (h : ∀ τ, zH τ k (zgo B i c) → zF (zks k) σ τ → Rf 0 τ) : CA (d + 2) 41 [.ref k, .int (nI i), .int (nI c)] σ (ab_rI Rf) := by
  obtain ⟨⟨-, -, hn4, -, -, hf, ht, -⟩, -⟩ := id hV
  refine e_B_step (b_B_step_0 (fun q => absurd q (by rw [zlit 4, zeq (by omega) (by omega)]; omega)) (fun _ => b_B_step_29 hk (p_B_isGoose hk hB hV (b_B_step_34 (fun q => absurd q ?_) (fun _ => b_B_step_37 hk (vp_in_nI (by omega) (by omega)) ?_)))))
  · rw [zb_0, zn (by omega)]; simp; omega
  · rw [zc_nI (by omega)]
    refine b_B_step_44 hk (p_B_endMove hk (hB.setG (by omega) hn4) ?_ (fun υ hυ hG => b_B_step_48 zna0 (h υ hυ ((zF.put (by simp)).tr hG))))
    unfold zup
    rw [if_neg (by omega)]
    exact ht
end BW
