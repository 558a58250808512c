/-! BOARDS begun and copied; NOTES and MARKS in the class -/
def zbeg (w h : Nat) : zB := fun j => if j = 0 then w else if j = 1 then h else if j = 5 then w * h - 1 else 0
theorem zbeg_V {w h : Nat} (hw : 3 ≤ w ∧ w ≤ 5) (hh : 3 ≤ h ∧ h ≤ 5) : zV (zbeg w h) := by
  have h9 : 9 ≤ w * h := Nat.mul_le_mul hw.1 hh.1
  refine ⟨⟨?_, ?_, ?_, ?_, ?_, ?_, ?_, ?_⟩, ?_, ?_, ?_, ?_, ?_⟩
  all_goals simp [zbeg]
  all_goals omega
section TD
variable {d k : Nat} {B : zB} {σ : ab_S}
theorem p_B_begin {w h : Nat} {Rf : ab_S → Prop} (hk : ab_sh k = (0, 0)) (hw : 3 ≤ w ∧ w ≤ 5) (hh : 3 ≤ h ∧ h ≤ 5) (hr : ∀ τ, zH τ k (zbeg w h) → zF (zks k) σ τ → Rf τ) : CA (d + 1) 17 [.ref k, .int (nI w), .int (nI h)] σ (ab_rV Rf) := by
  have h9 : 9 ≤ w * h := Nat.mul_le_mul hw.1 hh.1
  refine e_B_begin (b_B_begin_0 hk (hr _ ⟨?_, ?_, ?_, ?_, ?_, ?_, ?_, ?_, fun i hi => ?_⟩ ⟨rfl, fun a ha => ?_⟩))
  all_goals first | (simp [ab_pI, zbeg]; done) | skip
  · simp [ab_pI, zbeg]; rfl
  · simp [ab_pI, zbeg]; rfl
  · simp only [ab_pI, zbeg]
    rw [pk_mul]
    simp
    exact pk_sub (b := 1) (by omega)
  · simp [ab_pI, zbeg]; rfl
  · simp [ab_pI, zbeg]; rfl
  · simp [ab_pI, zbeg]; rfl
  · simp [zbeg] at hi
  · have : a ≠ k := fun q => ha (by simp [q])
    funext b
    simp [ab_pI, this]
theorem p_B_copyFrom {k1 : Nat} {Rf : ab_S → Prop} (hk : ab_sh k = (0, 0)) (hk1 : ab_sh k1 = (0, 0)) (hd : k + 3 ≤ k1 ∨ k1 + 3 ≤ k) (hB : zH σ k1 B) (hn4 : B 2 ≤ 4) (hr : ∀ τ, zH τ k B → zF (zks k) σ τ → Rf τ) : CA (d + 1) 18 [.ref k, .ref k1] σ (ab_rV Rf) := by
  have key : ∀ n i (τ : ab_S), 4 - i ≤ n → i ≤ 4 → τ.2 = σ.2 → (∀ a, a ∉ zks k → τ.1 a = σ.1 a) → (∀ j, j < 8 → τ.1 k j = σ.1 k1 j) → (∀ j, j < i → τ.1 (k + 1) j = σ.1 (k1 + 1) j ∧ τ.1 (k + 2) j = σ.1 (k1 + 2) j) → S_B_copyFrom_66 d Rf k k1 (nI i) τ := by
    have fin : ∀ (τ : ab_S), τ.2 = σ.2 → (∀ a, a ∉ zks k → τ.1 a = σ.1 a) → (∀ j, j < 8 → τ.1 k j = σ.1 k1 j) → (∀ j, j < 4 → τ.1 (k + 1) j = σ.1 (k1 + 1) j ∧ τ.1 (k + 2) j = σ.1 (k1 + 2) j) → Rf τ := by
      intro τ a1 a2 a3 a4
      obtain ⟨h0, h1, h2, h3, h4, h5, h6, h7, hg⟩ := hB
      refine hr τ ⟨(a3 0 (by omega)).trans h0, (a3 1 (by omega)).trans h1, (a3 2 (by omega)).trans h2, (a3 3 (by omega)).trans h3, (a3 4 (by omega)).trans h4, (a3 5 (by omega)).trans h5, (a3 6 (by omega)).trans h6, (a3 7 (by omega)).trans h7, fun i hi => ⟨(a4 i (by omega)).1.trans (hg i hi).1, (a4 i (by omega)).2.trans (hg i hi).2⟩⟩ ⟨a1, a2⟩
    intro n
    induction n with
    | zero =>
      intro i τ q1 q2 a1 a2 a3 a4
      have : i = 4 := by omega
      subst this
      exact b_B_copyFrom_66 (fun _ => b_B_copyFrom_101 (fin τ a1 a2 a3 a4)) (fun c => absurd (Int32.le_refl _) c)
    | succ n ih =>
      intro i τ q1 q2 a1 a2 a3 a4
      refine b_B_copyFrom_66 (fun c => ?_) (fun c => ?_)
      · rw [zlit 4, zle (by omega) (by omega)] at c
        have : i = 4 := by omega
        subst this
        exact b_B_copyFrom_101 (fin τ a1 a2 a3 a4)
      · rw [zlit 4, zle (by omega) (by omega)] at c
        have hin : vp_in (nI i) 4 := vp_in_nI (by omega) (by omega)
        refine b_B_copyFrom_71 hk hk1 hin hin hin hin ?_
        rw [zc_nI (by omega), nI_1]
        have e1 : τ.1 (k1 + 1) = σ.1 (k1 + 1) := a2 _ (by simp; omega)
        have e2 : τ.1 (k1 + 2) = σ.1 (k1 + 2) := a2 _ (by simp; omega)
        refine ih (i + 1) _ (by omega) (by omega) a1 (fun a ha => ?_) (fun j hj => ?_) (fun j hj => ?_)
        · simp at ha
          dsimp only
          rw [ab_pI_ne (by omega), ab_pI_ne (by omega)]
          exact a2 a (by simp; omega)
        · dsimp only
          rw [zp_n (by omega), zp_n (by omega)]
          exact a3 j hj
        · dsimp only
          rw [zp_n (i := i) (a := k1 + 2) (by omega), e1, e2]
          by_cases q : j = i
          · subst q
            rw [zp_n (by omega), zp_s, zp_s]
            exact ⟨rfl, rfl⟩
          · rw [zp_n (by omega), zp_n (by omega), zp_n (by omega), zp_n (by omega)]
            exact a4 j (by omega)
  refine e_B_copyFrom (b_B_copyFrom_0 hk hk1 (key 4 0 _ (by omega) (by omega) rfl (fun a ha => ?_) (fun j hj => ?_) (fun j hj => by omega)))
  · have : a ≠ k := fun q => ha (by simp [q])
    funext b
    simp [ab_pI, this]
  · have hne : ¬ k1 = k := by omega
    rcases (show j = 0 ∨ j = 1 ∨ j = 2 ∨ j = 3 ∨ j = 4 ∨ j = 5 ∨ j = 6 ∨ j = 7 by omega) with rfl | rfl | rfl | rfl | rfl | rfl | rfl | rfl <;> simp [ab_pI, hne]
/-- rows of five numbers, n of them -/
def zT (σ : ab_S) (t n : Nat) (r : Nat → Int32) : Prop := σ.1 t 0 = nI n ∧ ∀ j, j < 5 * n → σ.1 (t + 1) j = r j
abbrev zkt (t : Nat) : List Nat := [t, t + 1]
theorem zT.frame {τ : ab_S} {t n : Nat} {r : Nat → Int32} {ks : List Nat} (h : zT σ t n r) (hF : zF ks σ τ) (h0 : t ∉ ks) (h1 : t + 1 ∉ ks) : zT τ t n r := by
  unfold zT
  rw [hF.2 t h0, hF.2 (t + 1) h1]
  exact h
def zrow (r : Nat → Int32) (n : Nat) (a b c d e : Int32) : Nat → Int32 := fun j => if j = 5 * n then a else if j = 5 * n + 1 then b else if j = 5 * n + 2 then c else if j = 5 * n + 3 then d else if j = 5 * n + 4 then e else r j
variable {t n : Nat} {r : Nat → Int32}
theorem p_T_add {a b c e f : Int32} {Rf : Int32 → ab_S → Prop} (hk : ab_sh t = (0, 2)) (hT : zT σ t n r) (hn : n ≤ 6) (h0 : n = 6 → Rf 0 σ) (h1 : n < 6 → ∀ τ, zT τ t (n + 1) (zrow r n a b c e f) → zF (zkt t) σ τ → Rf 1 τ) : CA (d + 1) 13 [.ref t, .int a, .int b, .int c, .int e, .int f] σ (ab_rI Rf) := by
  obtain ⟨hs, hr⟩ := id hT
  refine e_T_add (b_T_add_0 hk (fun q => absurd q ?_) (fun _ => b_T_add_7 hk (fun q => ?_) (fun q => ?_)))
  · rw [hs, zlit 0, zlt (by omega) (by omega)]; omega
  · rw [hs, zlit 6, zlt (by omega) (by omega)] at q
    have e5 : σ.1 t 0 * 5 = nI (5 * n) := by rw [hs, zlit 5, pk_mul, Nat.mul_comm]
    have g1 : nI (5 * n) + 1 = nI (5 * n + 1) := nI_1 _
    have g2 : nI (5 * n) + 2 = nI (5 * n + 2) := nI_add _ 2
    have g3 : nI (5 * n) + 3 = nI (5 * n + 3) := nI_add _ 3
    have g4 : nI (5 * n) + 4 = nI (5 * n + 4) := nI_add _ 4
    refine b_T_add_18 hk (by rw [e5]; exact vp_in_nI (by omega) (by omega)) (by rw [e5, g1]; exact vp_in_nI (by omega) (by omega)) (by rw [e5, g2]; exact vp_in_nI (by omega) (by omega)) (by rw [e5, g3]; exact vp_in_nI (by omega) (by omega)) (by rw [e5, g4]; exact vp_in_nI (by omega) (by omega)) ?_
    rw [e5, g1, g2, g3, g4, zc_nI (by omega), zc_nI (by omega), zc_nI (by omega), zc_nI (by omega), zc_nI (by omega)]
    refine h1 q _ ⟨?_, fun j hj => ?_⟩ ⟨rfl, fun a ha => ?_⟩
    · simp [ab_pI, hs, nI_1]
    · dsimp only
      rw [zp_n (by omega)]
      unfold zrow
      by_cases j4 : j = 5 * n + 4
      · subst j4
        rw [zp_s, if_neg (by omega), if_neg (by omega), if_neg (by omega), if_neg (by omega), if_pos rfl]
      rw [zp_n (by omega)]
      by_cases j3 : j = 5 * n + 3
      · subst j3
        rw [zp_s, if_neg (by omega), if_neg (by omega), if_neg (by omega), if_pos rfl]
      rw [zp_n (by omega)]
      by_cases j2 : j = 5 * n + 2
      · subst j2
        rw [zp_s, if_neg (by omega), if_neg (by omega), if_pos rfl]
      rw [zp_n (by omega)]
      by_cases j1 : j = 5 * n + 1
      · subst j1
        rw [zp_s, if_neg (by omega), if_pos rfl]
      rw [zp_n (by omega)]
      by_cases j0 : j = 5 * n
      · subst j0
        rw [zp_s, if_pos rfl]
      rw [zp_n (by omega), if_neg j0, if_neg j1, if_neg j2, if_neg j3, if_neg j4]
      exact hr j (by omega)
    · simp at ha
      dsimp only
      rw [ab_pI_ne (by omega), ab_pI_ne (by omega), ab_pI_ne (by omega), ab_pI_ne (by omega), ab_pI_ne (by omega), ab_pI_ne (by omega)]
  · rw [hs, zlit 6, zlt (by omega) (by omega)] at q
    exact b_T_add_16 (h0 (by omega))
theorem p_T_at {i j : Nat} {Rf : Int32 → ab_S → Prop} (hk : ab_sh t = (0, 2)) (hT : zT σ t n r) (hn : n ≤ 6) (hi : i < n) (hj : j < 5) (h : Rf (r (5 * i + j)) σ) : CA (d + 1) 14 [.ref t, .int (nI i), .int (nI j)] σ (ab_rI Rf) := by
  obtain ⟨hs, hr⟩ := id hT
  have e : nI i * 5 + nI j = nI (5 * i + j) := by rw [zlit 5, pk_mul, nI_add, Nat.mul_comm]
  refine e_T_at (b_T_at_0 (fun q => absurd q ?_) (fun _ => ?_))
  · rw [e, zlit 0, zlt (by omega) (by omega)]; omega
  · rw [e]
    refine b_T_at_10 hk (fun q => absurd q ?_) (fun _ => b_T_at_19 hk (vp_in_nI (by omega) (by omega)) (b_T_at_29 (zr h ?_)))
    · rw [zle (by omega) (by omega)]; omega
    · rw [zc_nI (by omega)]; exact hr _ (by omega)
theorem p_T_copyFrom {t1 : Nat} {Rf : ab_S → Prop} (hk : ab_sh t = (0, 2)) (hk1 : ab_sh t1 = (0, 2)) (hd : t + 2 ≤ t1 ∨ t1 + 2 ≤ t) (hT : zT σ t1 n r) (hn : n ≤ 6) (h : ∀ τ, zT τ t n r → zF (zkt t) σ τ → Rf τ) : CA (d + 1) 15 [.ref t, .ref t1] σ (ab_rV Rf) := by
  obtain ⟨hs, hr⟩ := id hT
  have e30 : Int32.toNatClampNeg (nI 30) = 30 := zc_nI (by omega)
  refine e_T_copyFrom (b_T_copyFrom_0 hk hk1 (by decide) (by rw [e30]; omega) (by rw [e30]; omega) ?_)
  rw [e30]
  refine h _ ⟨?_, fun j hj => ?_⟩ ⟨rfl, fun a ha => ?_⟩
  · simp [ab_cp, ab_pI, hs]
  · dsimp only
    unfold ab_cp
    rw [if_pos rfl, pk_cpy_in (by omega) (by omega), ab_pI_ne (by omega)]
    rw [show 0 + (j - 0) = j by omega]
    exact hr j hj
  · simp at ha
    dsimp only
    unfold ab_cp
    rw [if_neg (by omega), ab_pI_ne (by omega)]
/-- 31 h + v over the first n -/
def zdig (r : Nat → Int32) (h : Int64) : Nat → Int64
  | 0 => h
  | n + 1 => 31 * zdig r h n + (r n).toInt64
theorem p_T_digestFrom {hh : Int64} {Rf : Int64 → ab_S → Prop} (hk : ab_sh t = (0, 2)) (hT : zT σ t n r) (hn : n ≤ 6) (h : Rf (zdig r hh (5 * n)) σ) : CA (d + 1) 16 [.ref t, .long hh] σ (ab_rL Rf) := by
  obtain ⟨hs, hr⟩ := id hT
  have e5 : σ.1 t 0 * 5 = nI (5 * n) := by rw [hs, zlit 5, pk_mul, Nat.mul_comm]
  have key : ∀ m j, 5 * n - j ≤ m → j ≤ 5 * n → S_T_digestFrom_2 d Rf t (zdig r hh j) (nI j) σ := by
    intro m
    induction m with
    | zero =>
      intro j q1 q2
      have : j = 5 * n := by omega
      subst this
      exact b_T_digestFrom_2 hk (fun _ => b_T_digestFrom_41 h) (fun c => absurd (by rw [e5]; exact Int32.le_refl _) c)
    | succ m ih =>
      intro j q1 q2
      refine b_T_digestFrom_2 hk (fun c => ?_) (fun c => ?_)
      · rw [e5, zle (by omega) (by omega)] at c
        have : j = 5 * n := by omega
        subst this
        exact b_T_digestFrom_41 h
      · rw [e5, zle (by omega) (by omega)] at c
        refine b_T_digestFrom_12 hk (fun q => absurd q (by rw [zle (by omega) (by omega)]; omega)) (fun _ => b_T_digestFrom_21 hk (vp_in_nI (by omega) (by omega)) ?_)
        rw [zc_nI (by omega), hr j (by omega), nI_1]
        exact ih (j + 1) (by omega) (by omega)
  exact e_T_digestFrom (b_T_digestFrom_0 (key (5 * n) 0 (by omega) (by omega)))
end TD
