/-! reading in the reference -/
/-- only the places in the text have changed -/
def zFn (σ τ : ab_S) : Prop := zF [56] σ τ ∧ ∀ j, j ≠ 7 → j ≠ 8 → j ≠ 9 → τ.1 56 j = σ.1 56 j
def zFm (σ τ : ab_S) : Prop := τ.2 = σ.2 ∧ (∀ x, x ≠ 56 → x ≠ 57 → τ.1 x = σ.1 x) ∧ (∀ j, j ≠ 7 → j ≠ 8 → j ≠ 9 → τ.1 56 j = σ.1 56 j) ∧ ∀ j, j < 405 ∨ 540 ≤ j → τ.1 57 j = σ.1 57 j
theorem zFn.rf {σ : ab_S} : zFn σ σ := ⟨zF.rf, fun _ _ _ _ => rfl⟩
theorem zFn.tr {σ τ υ : ab_S} (h1 : zFn σ τ) (h2 : zFn τ υ) : zFn σ υ := ⟨h1.1.tr h2.1, fun j a b c => (h2.2 j a b c).trans (h1.2 j a b c)⟩
theorem zFn.put {σ : ab_S} {i : Nat} {x : Int32} (h : i = 7 ∨ i = 8 ∨ i = 9) : zFn σ (ab_pI σ.1 56 i x, σ.2) := ⟨zF.put (by simp), fun j a b c => by dsimp only; exact zp_n (by omega)⟩
theorem zFm.rf {σ : ab_S} : zFm σ σ := ⟨rfl, fun _ _ _ => rfl, fun _ _ _ _ => rfl, fun _ _ => rfl⟩
theorem zFm.tr {σ τ υ : ab_S} (h1 : zFm σ τ) (h2 : zFm τ υ) : zFm σ υ := ⟨h2.1.trans h1.1, fun x a b => (h2.2.1 x a b).trans (h1.2.1 x a b), fun j a b c => (h2.2.2.1 j a b c).trans (h1.2.2.1 j a b c), fun j h => (h2.2.2.2 j h).trans (h1.2.2.2 j h)⟩
theorem zFn.fm {σ τ : ab_S} (h : zFn σ τ) : zFm σ τ := ⟨h.1.1, fun x a _ => h.1.2 x (by simpa using a), h.2, fun j _ => by rw [h.1.2 57 (by simp)]⟩
theorem zFR.fm {lo hi : Nat} {σ τ : ab_S} (h : zFR lo hi σ τ) (h1 : 405 ≤ lo) (h2 : hi ≤ 540) : zFm σ τ := ⟨h.1, fun x _ b => h.2.1 x b, fun j _ _ _ => by rw [h.2.1 56 (by omega)], fun j hj => h.2.2 j (by omega)⟩
def zTm (σ : ab_S) (T : zX) : Prop := σ.1 56 3 = nI T.1 ∧ (∀ j, j < T.1 → σ.1 59 j = T.2 j) ∧ T.1 ≤ 150
theorem zTm.fr {σ τ : ab_S} {T : zX} (h : zTm σ T) (hF : zFm σ τ) : zTm τ T := ⟨by rw [hF.2.2.1 3 (by omega) (by omega) (by omega)]; exact h.1, fun j hj => by rw [hF.2.1 59 (by omega) (by omega)]; exact h.2.1 j hj, h.2.2⟩
def zNG (τ : ab_S) (B : zB) : Prop := ∀ Pb nr mr, zGR τ 405 (B, (0, Pb), (0, nr), (0, mr))
theorem zNG.of {τ : ab_S} {B : zB} {Pb : Nat → zB} {nr mr : Nat → Int32} (h : zGR τ 405 (B, (0, Pb), (0, nr), (0, mr))) : zNG τ B := fun Pb2 nr2 mr2 => ⟨h.1, ⟨h.2.1.1, fun j hj => absurd hj (Nat.not_lt_zero j)⟩, ⟨h.2.2.1.1, fun j hj => absurd hj (Nat.not_lt_zero j)⟩, h.2.2.2.1, fun u hu => absurd hu (Nat.not_lt_zero u)⟩
theorem zNG.fn {σ τ : ab_S} {B : zB} (h : zNG σ B) (hF : zFn σ τ) : zNG τ B := fun Pb nr mr => (h Pb nr mr).frF hF.1 (by simp)
/-- the board alone has changed -/
theorem zNG.bd {σ τ : ab_S} {B C : zB} (h : zNG σ B) (hF : zFR 405 421 σ τ) (hB : zR τ 405 C) : zNG τ C := by
  obtain ⟨-, ⟨h3, -⟩, ⟨h5, -⟩, h7, -⟩ := h (fun _ => B) (fun _ => 0) (fun _ => 0)
  exact fun Pb nr mr => ⟨hB, ⟨by rw [hF.2.2 _ (by omega)]; exact h3, fun j hj => absurd hj (Nat.not_lt_zero j)⟩, ⟨by rw [hF.2.2 _ (by omega)]; exact h5, fun j hj => absurd hj (Nat.not_lt_zero j)⟩, by rw [hF.2.2 _ (by omega)]; exact h7, fun u hu => absurd hu (Nat.not_lt_zero u)⟩
theorem zNG.r {σ : ab_S} {B : zB} (h : zNG σ B) : zR σ 405 B := (h (fun _ => B) (fun _ => 0) (fun _ => 0)).1
section RM2
variable {d a : Nat} {T : zX} {σ : ab_S} {Rf : Int32 → ab_S → Prop} {B : zB}
theorem p_M_byteAt {j : Nat} (hT : zTm σ T) (hj : j < 1000000) (h : Rf (ztb T j) σ) : CA (d + 1) 154 [.ref 56, .int (nI j)] σ (ab_rI Rf) := by
  obtain ⟨t1, t2, t3⟩ := hT
  refine e_M_byteAt (b_M_byteAt_0 (fun q => b_M_byteAt_17 (b_M_byteAt_18 (zr h ?_))) (fun q => b_M_byteAt_8 ?_ (b_M_byteAt_18 (zr h ?_)))) <;> rw [t1, zle (by omega) (by omega)] at q
  · rw [ztb_hi q]
  · exact vp_in_nI (by omega) (by omega)
  · rw [zc_nI (by omega), ztb_lo (by omega)]; exact t2 j (by omega)
theorem p_M_blanks {Q : ab_S → Prop} (hT : zTm σ T) (ha : a ≤ T.1) (h7 : σ.1 56 7 = nI a) (h : ∀ τ, zFn σ τ → τ.1 56 7 = nI (zsb T a) → τ.1 56 8 = nI (zsb T a) → Q τ) : CA (d + 2) 155 [.ref 56] σ (ab_rV Q) := by
  have hL := hT.2.2
  have key : ∀ m b (τ : ab_S), T.1 - b ≤ m → b ≤ T.1 → zFn σ τ → τ.1 56 7 = nI b → zsb T b = zsb T a → S_M_blanks_0 (d + 1) Q τ := by
    have fin : ∀ b (τ : ab_S), zFn σ τ → τ.1 56 7 = nI b → b = zsb T a → S_M_blanks_26 (d + 1) Q τ := fun b τ hF e7 eb => by
      refine b_M_blanks_26 (h _ (hF.tr (zFn.put (by omega))) ?_ ?_)
      · dsimp only; rw [zp_n (by omega), e7, eb]
      · dsimp only; rw [zp_s, e7, eb]
    intro m
    induction m with
    | zero =>
      intro b τ q1 q2 hF e7 eb
      have : b = T.1 := by omega
      subst this
      have n32 : ¬ ztb T T.1 = 32 := by rw [ztb_hi (Nat.le_refl _)]; decide
      rw [zsb_n n32] at eb
      refine b_M_blanks_0 ?_
      rw [e7]
      exact p_M_byteAt (hT.fr hF.fm) (by omega) (b_M_blanks_8 (fun q => absurd q n32) (fun _ => fin _ τ hF e7 eb))
    | succ m ih =>
      intro b τ q1 q2 hF e7 eb
      by_cases qb : b = T.1
      · exact ih b τ (by omega) q2 hF e7 eb
      refine b_M_blanks_0 ?_
      rw [e7]
      refine p_M_byteAt (hT.fr hF.fm) (by omega) (b_M_blanks_8 (fun q => b_M_blanks_13 ?_) (fun q => fin b τ hF e7 (by rw [zsb_n q] at eb; exact eb)))
      rw [e7, nI_1]
      exact ih (b + 1) _ (by omega) (by omega) (hF.tr (zFn.put (by omega))) (by dsimp only; rw [zp_s]) (by rw [← zsb_y q (by omega)]; exact eb)
  exact e_M_blanks (key _ a σ (Nat.le_refl _) ha zFn.rf h7 rfl)
theorem p_M_takesWord {Q : ab_S → Prop} (hT : zTm σ T) (ha : a ≤ T.1) (h7 : σ.1 56 7 = nI a) (h : ∀ τ, zFn σ τ → τ.1 56 7 = nI (zsp zle1 T (zsb T a)) → τ.1 56 8 = nI (zsb T a) → Q τ) : CA (d + 3) 156 [.ref 56] σ (ab_rV Q) := by
  have hL := hT.2.2
  have sb := zsb_b ha
  have key : ∀ m b (τ : ab_S), T.1 - b ≤ m → b ≤ T.1 → zFn σ τ → τ.1 56 7 = nI b → τ.1 56 8 = nI (zsb T a) → zsp zle1 T b = zsp zle1 T (zsb T a) → S_M_takesWord_4 (d + 2) Q τ := by
    intro m
    induction m with
    | zero =>
      intro b τ q1 q2 hF e7 e8 eb
      have : b = T.1 := by omega
      subst this
      have n0 : zle1 (ztb T T.1) = false := by rw [ztb_hi (Nat.le_refl _)]; exact zle1_m
      rw [zsp_n n0] at eb
      refine b_M_takesWord_4 ?_
      rw [e7]
      exact p_M_byteAt (hT.fr hF.fm) (by omega) (b_M_takesWord_12 (p_M_within (lo := 97) (hi := 122) (by decide) (by decide) (b_M_takesWord_22 (fun _ => b_M_takesWord_38 (h τ hF (by rw [e7, eb]) e8)) (fun q => absurd (nbt q) (by rw [show zw (ztb T T.1) 97 122 = zle1 (ztb T T.1) from rfl, n0]; decide)))))
    | succ m ih =>
      intro b τ q1 q2 hF e7 e8 eb
      by_cases qb : b = T.1
      · exact ih b τ (by omega) q2 hF e7 e8 eb
      refine b_M_takesWord_4 ?_
      rw [e7]
      refine p_M_byteAt (hT.fr hF.fm) (by omega) (b_M_takesWord_12 (p_M_within (lo := 97) (hi := 122) (by decide) (by decide) (b_M_takesWord_22 (fun q => b_M_takesWord_38 (h τ hF ?_ e8)) (fun q => b_M_takesWord_25 ?_))))
      · rw [zsp_n (p := zle1) (zb_0.mp q)] at eb
        rw [e7, eb]
      · rw [e7, nI_1]
        exact ih (b + 1) _ (by omega) (by omega) (hF.tr (zFn.put (by omega))) (by dsimp only; rw [zp_s]) (by dsimp only; rw [zp_n (by omega)]; exact e8) (by rw [← zsp_y (p := zle1) (nbt q) (by omega)]; exact eb)
  exact e_M_takesWord (b_M_takesWord_0 (p_M_blanks hT ha h7 (fun τ hF e7 e8 => key _ (zsb T a) τ (Nat.le_refl _) sb.2 hF e7 e8 rfl)))
theorem p_M_takesEnd (hT : zTm σ T) (ha : a ≤ T.1) (h7 : σ.1 56 7 = nI a) (h : ∀ τ, zFn σ τ → τ.1 56 7 = nI (zsb T a + 1) → τ.1 56 8 = nI (zsb T a) → Rf (zb (decide (ztb T (zsb T a) = 59))) τ) : CA (d + 3) 161 [.ref 56] σ (ab_rI Rf) := by
  have hL := hT.2.2
  have sb := zsb_b ha
  refine e_M_takesEnd (b_M_takesEnd_0 (p_M_blanks hT ha h7 (fun τ hF e7 e8 => b_M_takesEnd_4 ?_)))
  have p8 : (ab_pI τ.1 56 7 (τ.1 56 7 + 1)) 56 8 = nI (zsb T a) := by rw [zp_n (by omega)]; exact e8
  rw [p8]
  have hF1 : zFn σ (ab_pI τ.1 56 7 (τ.1 56 7 + 1), τ.2) := hF.tr (zFn.put (by omega))
  refine p_M_byteAt (hT.fr hF1.fm) (by omega) (d_M_takesEnd_22 (b_M_takesEnd_32 (by split <;> rfl) (zr (h _ hF1 ?_ p8) ?_)))
  · dsimp only; rw [zp_s, e7, nI_1]
  · rw [zbd]
def znw (T : zX) (s b : Nat) : Nat := if b - s = 0 then 0 else if b - s = 1 then zfn T s else 10 * zfn T s + zfn T (s + 1)
theorem p_M_nb {lo hi : Nat} {x1 x2 : Int32} (e1 : x1.toInt = lo) (e2 : x2.toInt = (hi : Int) - 1) (hT : zTm σ T) (ha : a ≤ T.1) (h7 : σ.1 56 7 = nI a) (hs : ∀ n e τ, znb T lo hi a = .inr (n, e) → n ≤ 99 → lo ≤ n ∧ n < hi → e ≤ T.1 → zFn σ τ → τ.1 56 8 = nI (zsb T a) → τ.1 56 7 = nI e → τ.1 56 9 = nI n → Rf 1 τ) (hn : ∀ τ, znb T lo hi a = .inl (zsb T a) → zFn σ τ → τ.1 56 8 = nI (zsb T a) → Rf 0 τ) : CA (d + 3) 160 [.ref 56, .int x1, .int x2] σ (ab_rI Rf) := by
  have hL := hT.2.2
  have sb := zsb_b ha
  have fb := zsp_b (p := zfg) sb.2
  have al := zsp_all (p := zfg) (T := T) _ (zsb T a) (Nat.le_refl _) sb.2
  have wN : ∀ b, zsb T a ≤ b → b ≤ zsp zfg T (zsb T a) → znw T (zsb T a) b ≤ 99 := fun b h1 h2 => by
    unfold znw
    split
    · omega
    · have f0 := (zfg_n (al (zsb T a) (Nat.le_refl _) (by omega))).2
      split
      · omega
      · have f1 := (zfg_n (al (zsb T a + 1) (by omega) (by omega))).2
        omega
  -- behind the figures
  have fin : ∀ (τ : ab_S), zFn σ τ → τ.1 56 7 = nI (zsp zfg T (zsb T a)) → τ.1 56 8 = nI (zsb T a) → τ.1 56 9 = nI (znw T (zsb T a) (zsp zfg T (zsb T a))) → S_M_takesNumber_86 (d + 2) Rf x1 x2 τ := by
    intro τ hF e7 e8 e9
    have wn := wN _ fb.1 (Nat.le_refl _)
    have no : znb T lo hi a = .inl (zsb T a) → S_M_takesNumber_125 (d + 2) Rf τ := fun z => b_M_takesNumber_125 (b_M_takesNumber_126 zna0 (hn τ z hF e8))
    refine b_M_takesNumber_86 ?_
    rw [e7, e8, pk_sub fb.1]
    refine p_M_within (lo := 1) (hi := 2) (by decide) (by decide) (b_M_takesNumber_103 (fun q => no ?_) (fun q => b_M_takesNumber_106 ?_))
    · have q := of_decide_eq_false (zb_0.mp q)
      rw [zn (by omega)] at q
      unfold znb znum
      rw [if_neg (by omega)]
    · have q := of_decide_eq_true (nbt q)
      rw [zn (by omega)] at q
      have hz : znum T a = some (znw T (zsb T a) (zsp zfg T (zsb T a)), zsp zfg T (zsb T a)) := by
        unfold znum
        rw [if_pos (by omega)]
        congr 2
        unfold znv znw
        rw [if_neg (show ¬ zsp zfg T (zsb T a) - zsb T a = 0 by omega)]
      rw [e9]
      refine p_M_within (lo := (lo : Int)) (hi := (hi : Int) - 1) (by rw [Int32.toInt_toInt64]; exact e1) (by rw [Int32.toInt_toInt64]; exact e2) (b_M_takesNumber_118 (fun q2 => no ?_) (fun q2 => b_M_takesNumber_121 (b_M_takesNumber_126 zna1 ?_)))
      · have q2 := of_decide_eq_false (zb_0.mp q2)
        rw [zn (by omega)] at q2
        unfold znb; rw [hz]; dsimp only; rw [if_neg (by omega)]
      · have q2 := of_decide_eq_true (nbt q2)
        rw [zn (by omega)] at q2
        exact hs _ _ τ (by unfold znb; rw [hz]; dsimp only; rw [if_pos (by omega)]) wn (by omega) fb.2 hF e8 e7 e9
  have key : ∀ m b (τ : ab_S), T.1 - b ≤ m → zsb T a ≤ b → b ≤ T.1 → b ≤ zsp zfg T (zsb T a) → zFn σ τ → τ.1 56 7 = nI b → τ.1 56 8 = nI (zsb T a) → τ.1 56 9 = nI (znw T (zsb T a) b) → zsp zfg T b = zsp zfg T (zsb T a) → S_M_takesNumber_9 (d + 2) Rf x1 x2 τ := by
    have stop : ∀ b (τ : ab_S), zFn σ τ → τ.1 56 7 = nI b → τ.1 56 8 = nI (zsb T a) → τ.1 56 9 = nI (znw T (zsb T a) b) → zsp zfg T b = zsp zfg T (zsb T a) → zfg (ztb T b) = false → S_M_takesNumber_86 (d + 2) Rf x1 x2 τ := fun b τ hF e7 e8 e9 eb q => by
      rw [zsp_n q] at eb
      rw [eb] at e7 e9
      exact fin τ hF e7 e8 e9
    intro m
    induction m with
    | zero =>
      intro b τ q1 q0 q2 qf hF e7 e8 e9 eb
      have : b = T.1 := by omega
      subst this
      have n0 : zfg (ztb T T.1) = false := by rw [ztb_hi (Nat.le_refl _)]; exact zfg_m
      refine b_M_takesNumber_9 ?_
      rw [e7]
      exact p_M_byteAt (hT.fr hF.fm) (by omega) (b_M_takesNumber_17 (p_M_within (lo := 48) (hi := 57) (by decide) (by decide) (b_M_takesNumber_27 (fun _ => stop _ τ hF e7 e8 e9 eb n0) (fun q => absurd (nbt q) (by rw [show zw (ztb T T.1) 48 57 = zfg (ztb T T.1) from rfl, n0]; decide)))))
    | succ m ih =>
      intro b τ q1 q0 q2 qf hF e7 e8 e9 eb
      by_cases qb : b = T.1
      · exact ih b τ (by omega) q0 q2 qf hF e7 e8 e9 eb
      refine b_M_takesNumber_9 ?_
      rw [e7]
      refine p_M_byteAt (hT.fr hF.fm) (by omega) (b_M_takesNumber_17 (p_M_within (lo := 48) (hi := 57) (by decide) (by decide) (b_M_takesNumber_27 (fun q => stop b τ hF e7 e8 e9 eb (zb_0.mp q)) (fun q => ?_))))
      have hfg : zfg (ztb T b) = true := nbt q
      have eb2 : zsp zfg T (b + 1) = zsp zfg T (zsb T a) := by rw [← zsp_y hfg (by omega)]; exact eb
      have fb2 := zsp_b (p := zfg) (T := T) (a := b + 1) (by omega)
      have next : ∀ x, x = nI (znw T (zsb T a) (b + 1)) → S_M_takesNumber_70 (d + 2) Rf x1 x2 x τ := fun x hx => by
        refine b_M_takesNumber_70 ?_
        have p7 : (ab_pI τ.1 56 9 x) 56 7 = nI b := by rw [zp_n (by omega)]; exact e7
        rw [p7, nI_1]
        refine ih (b + 1) _ (by omega) (by omega) (by omega) (by omega) ((hF.tr (zFn.put (by omega))).tr (zFn.put (σ := (ab_pI τ.1 56 9 x, τ.2)) (by omega))) ?_ ?_ ?_ eb2
        all_goals dsimp only
        · rw [zp_s]
        · rw [zp_n (by omega), zp_n (by omega)]; exact e8
        · rw [zp_n (by omega), zp_s]; exact hx
      refine b_M_takesNumber_30 (fun w => b_M_takesNumber_66 (next _ ?_)) (fun w => b_M_takesNumber_44 ?_) <;> rw [e7, e8, pk_sub q0, zlit 2, zle (by omega) (by omega)] at w
      · rw [e9]
        unfold znw
        rw [if_neg (by omega), if_neg (by omega), if_neg (by omega), if_neg (by omega)]
      · rw [e7]
        refine p_M_byteAt (hT.fr hF.fm) (by omega) (b_M_takesNumber_59 (next _ ?_))
        obtain ⟨b0, f0⟩ := zfg_n hfg
        rw [e9, b0]
        rcases (show b = zsb T a ∨ b = zsb T a + 1 by omega) with z | z
        · unfold znw
          rw [if_pos (by omega), if_neg (by omega), if_pos (by omega), zlit 10, pk_mul, nI_add, zlit 48, pk_sub (by omega), z]
          congr 1; omega
        · unfold znw
          rw [if_neg (by omega), if_pos (by omega), if_neg (by omega), if_neg (by omega), zlit 10, pk_mul, nI_add, zlit 48, pk_sub (by omega), z]
          congr 1; omega
  refine e_M_takesNumber (b_M_takesNumber_0 (p_M_blanks hT ha h7 (fun τ hF e7 e8 => b_M_takesNumber_4 ?_)))
  refine key _ (zsb T a) _ (Nat.le_refl _) (Nat.le_refl _) sb.2 fb.1 (hF.tr (zFn.put (by omega))) ?_ ?_ ?_ rfl
  all_goals dsimp only
  · rw [zp_n (by omega)]; exact e7
  · rw [zp_n (by omega)]; exact e8
  · rw [zp_s]; unfold znw; rw [if_pos (by omega)]; rfl
theorem p_M_isLetter {s e k : Nat} {l : Int32} (hT : zTm σ T) (h8 : σ.1 56 8 = nI s) (he : e ≤ T.1) (hk : k < 7) (h : Rf (zb (if l = 0 then decide (e - s ≤ k) else decide (k < e - s) && decide (ztb T (s + k) = l))) σ) : CA (d + 1) 158 [.ref 56, .int (nI k), .int l, .int (nI (e - s))] σ (ab_rI Rf) := by
  have hL := hT.2.2
  refine e_M_isLetter (b_M_isLetter_0 (fun q => d_M_isLetter_4 (b_M_isLetter_42 (by split <;> rfl) (zr h ?_))) (fun q => b_M_isLetter_17 (fun w => b_M_isLetter_41 (b_M_isLetter_42 zna0 (zr h ?_))) (fun w => b_M_isLetter_22 ?_ (fun z => b_M_isLetter_37 (b_M_isLetter_42 zna1 (zr h ?_))) (fun z => b_M_isLetter_41 (b_M_isLetter_42 zna0 (zr h ?_))))))
  · rw [if_pos q, zbd]
    by_cases w : k < e - s
    · rw [if_pos ((zlt (by omega) (by omega)).mpr w), if_neg (by omega)]
    · rw [if_neg (fun x => w ((zlt (by omega) (by omega)).mp x)), if_pos (by omega)]
  · rw [zle (by omega) (by omega)] at w
    rw [if_neg q, decide_eq_false (by omega)]; rfl
  · rw [zle (by omega) (by omega)] at w
    rw [h8, nI_add]; exact vp_in_nI (by omega) (by omega)
  · rw [zle (by omega) (by omega)] at w
    rw [h8, nI_add, zc_nI (by omega), hT.2.1 _ (by omega), ← ztb_lo (by omega)] at z
    rw [if_neg q, decide_eq_true (by omega), decide_eq_true z]; rfl
  · rw [zle (by omega) (by omega)] at w
    rw [h8, nI_add, zc_nI (by omega), hT.2.1 _ (by omega), ← ztb_lo (by omega)] at z
    rw [if_neg q, decide_eq_false z]; simp [zb]
def zlq (T : zX) (s n k : Nat) (l : Int32) : Bool := if l = 0 then decide (n ≤ k) else decide (k < n) && decide (ztb T (s + k) = l)
theorem p_M_isWord {s e : Nat} {l0 l1 l2 l3 l4 l5 l6 : Int32} (hT : zTm σ T) (h8 : σ.1 56 8 = nI s) (h7 : σ.1 56 7 = nI e) (hse : s ≤ e) (he : e ≤ T.1) (h : Rf (zb (zlq T s (e - s) 0 l0 && zlq T s (e - s) 1 l1 && zlq T s (e - s) 2 l2 && zlq T s (e - s) 3 l3 && zlq T s (e - s) 4 l4 && zlq T s (e - s) 5 l5 && zlq T s (e - s) 6 l6 && decide (e - s < 8))) σ) : CA (d + 2) 157 [.ref 56, .int l0, .int l1, .int l2, .int l3, .int l4, .int l5, .int l6] σ (ab_rI Rf) := by
  have hL := hT.2.2
  have lt : ∀ k l (Q : Int32 → ab_S → Prop), k < 7 → Q (zb (zlq T s (e - s) k l)) σ → CA (d + 1) 158 [.ref 56, .int (nI k), .int l, .int (nI (e - s))] σ (ab_rI Q) := fun k l Q hk hQ => p_M_isLetter hT h8 he hk hQ
  have no : (zlq T s (e - s) 0 l0 && zlq T s (e - s) 1 l1 && zlq T s (e - s) 2 l2 && zlq T s (e - s) 3 l3 && zlq T s (e - s) 4 l4 && zlq T s (e - s) 5 l5 && zlq T s (e - s) 6 l6 && decide (e - s < 8)) = false → S_M_isWord_104 (d + 1) Rf σ := fun q => b_M_isWord_104 (b_M_isWord_105 zna0 (zr h (by rw [q]; rfl)))
  refine e_M_isWord (b_M_isWord_0 ?_)
  rw [h7, h8, pk_sub hse]
  refine lt 0 _ _ (by omega) (b_M_isWord_19 (fun q0 => no ?_) (fun q0 => b_M_isWord_22 (lt 1 _ _ (by omega) (b_M_isWord_30 (fun q1 => no ?_) (fun q1 => b_M_isWord_33 (lt 2 _ _ (by omega) (b_M_isWord_41 (fun q2 => no ?_) (fun q2 => b_M_isWord_44 (lt 3 _ _ (by omega) (b_M_isWord_53 (fun q3 => no ?_) (fun q3 => b_M_isWord_56 (lt 4 _ _ (by omega) (b_M_isWord_65 (fun q4 => no ?_) (fun q4 => b_M_isWord_68 (lt 5 _ _ (by omega) (b_M_isWord_77 (fun q5 => no ?_) (fun q5 => b_M_isWord_80 (lt 6 _ _ (by omega) (b_M_isWord_90 (fun q6 => no ?_) (fun q6 => b_M_isWord_93 (fun q7 => no ?_) (fun q7 => b_M_isWord_100 (b_M_isWord_105 zna1 (zr h ?_)))))))))))))))))))))))
  · rw [zb_0.mp q0]; simp
  · rw [zb_0.mp q1]; simp
  · rw [zb_0.mp q2]; simp
  · rw [zb_0.mp q3]; simp
  · rw [zb_0.mp q4]; simp
  · rw [zb_0.mp q5]; simp
  · rw [zb_0.mp q6]; simp
  · rw [zlit 8, zle (by omega) (by omega)] at q7
    rw [decide_eq_false (by omega)]; simp
  · rw [zlit 8, zle (by omega) (by omega)] at q7
    rw [nbt q0, nbt q1, nbt q2, nbt q3, nbt q4, nbt q5, nbt q6, decide_eq_true (by omega)]; rfl
theorem zlw0 {s e : Nat} : (zlq T s (e - s) 0 102 && zlq T s (e - s) 1 105 && zlq T s (e - s) 2 101 && zlq T s (e - s) 3 108 && zlq T s (e - s) 4 100 && zlq T s (e - s) 5 0 && zlq T s (e - s) 6 0 && decide (e - s < 8)) = zmw T (ab_tx.getD 0 []) s e := by
  unfold zmw
  generalize e - s = n
  have hl : (ab_tx.getD 0 []).length = 5 := rfl
  rw [hl]
  rcases (show n < 5 ∨ n = 5 ∨ 5 < n by omega) with z | z | z
  · have q : zlq T s n 4 100 = false := by unfold zlq; rw [if_neg (by decide), decide_eq_false (by omega)]; rfl
    rw [q, decide_eq_false (show ¬ n = 5 by omega)]; simp
  · subst z
    simp [zlq, zall, ab_tx, Bool.and_assoc]
  · have q : zlq T s n 5 0 = false := by unfold zlq; rw [if_pos rfl, decide_eq_false (by omega)]
    rw [q, decide_eq_false (show ¬ n = 5 by omega)]; simp
theorem zlw1 {s e : Nat} : (zlq T s (e - s) 0 116 && zlq T s (e - s) 1 104 && zlq T s (e - s) 2 105 && zlq T s (e - s) 3 99 && zlq T s (e - s) 4 107 && zlq T s (e - s) 5 101 && zlq T s (e - s) 6 116 && decide (e - s < 8)) = zmw T (ab_tx.getD 1 []) s e := by
  unfold zmw
  generalize e - s = n
  have hl : (ab_tx.getD 1 []).length = 7 := rfl
  rw [hl]
  rcases (show n < 7 ∨ n = 7 ∨ 7 < n by omega) with z | z | z
  · have q : zlq T s n 6 116 = false := by unfold zlq; rw [if_neg (by decide), decide_eq_false (by omega)]; rfl
    rw [q, decide_eq_false (show ¬ n = 7 by omega)]; simp
  · subst z
    simp [zlq, zall, ab_tx, Bool.and_assoc]
  · have q : decide (n < 8) = false := decide_eq_false (by omega)
    rw [q, decide_eq_false (show ¬ n = 7 by omega)]; simp
theorem zlw2 {s e : Nat} : (zlq T s (e - s) 0 102 && zlq T s (e - s) 1 111 && zlq T s (e - s) 2 120 && zlq T s (e - s) 3 0 && zlq T s (e - s) 4 0 && zlq T s (e - s) 5 0 && zlq T s (e - s) 6 0 && decide (e - s < 8)) = zmw T (ab_tx.getD 2 []) s e := by
  unfold zmw
  generalize e - s = n
  have hl : (ab_tx.getD 2 []).length = 3 := rfl
  rw [hl]
  rcases (show n < 3 ∨ n = 3 ∨ 3 < n by omega) with z | z | z
  · have q : zlq T s n 2 120 = false := by unfold zlq; rw [if_neg (by decide), decide_eq_false (by omega)]; rfl
    rw [q, decide_eq_false (show ¬ n = 3 by omega)]; simp
  · subst z
    simp [zlq, zall, ab_tx, Bool.and_assoc]
  · have q : zlq T s n 3 0 = false := by unfold zlq; rw [if_pos rfl, decide_eq_false (by omega)]
    rw [q, decide_eq_false (show ¬ n = 3 by omega)]; simp
theorem zlw3 {s e : Nat} : (zlq T s (e - s) 0 103 && zlq T s (e - s) 1 111 && zlq T s (e - s) 2 111 && zlq T s (e - s) 3 115 && zlq T s (e - s) 4 101 && zlq T s (e - s) 5 0 && zlq T s (e - s) 6 0 && decide (e - s < 8)) = zmw T (ab_tx.getD 3 []) s e := by
  unfold zmw
  generalize e - s = n
  have hl : (ab_tx.getD 3 []).length = 5 := rfl
  rw [hl]
  rcases (show n < 5 ∨ n = 5 ∨ 5 < n by omega) with z | z | z
  · have q : zlq T s n 4 101 = false := by unfold zlq; rw [if_neg (by decide), decide_eq_false (by omega)]; rfl
    rw [q, decide_eq_false (show ¬ n = 5 by omega)]; simp
  · subst z
    simp [zlq, zall, ab_tx, Bool.and_assoc]
  · have q : zlq T s n 5 0 = false := by unfold zlq; rw [if_pos rfl, decide_eq_false (by omega)]
    rw [q, decide_eq_false (show ¬ n = 5 by omega)]; simp
theorem zlw4 {s e : Nat} : (zlq T s (e - s) 0 103 && zlq T s (e - s) 1 111 && zlq T s (e - s) 2 0 && zlq T s (e - s) 3 0 && zlq T s (e - s) 4 0 && zlq T s (e - s) 5 0 && zlq T s (e - s) 6 0 && decide (e - s < 8)) = zmw T (ab_tx.getD 4 []) s e := by
  unfold zmw
  generalize e - s = n
  have hl : (ab_tx.getD 4 []).length = 2 := rfl
  rw [hl]
  rcases (show n < 2 ∨ n = 2 ∨ 2 < n by omega) with z | z | z
  · have q : zlq T s n 1 111 = false := by unfold zlq; rw [if_neg (by decide), decide_eq_false (by omega)]; rfl
    rw [q, decide_eq_false (show ¬ n = 2 by omega)]; simp
  · subst z
    simp [zlq, zall, ab_tx, Bool.and_assoc]
  · have q : zlq T s n 2 0 = false := by unfold zlq; rw [if_pos rfl, decide_eq_false (by omega)]
    rw [q, decide_eq_false (show ¬ n = 2 by omega)]; simp
theorem zlw5 {s e : Nat} : (zlq T s (e - s) 0 109 && zlq T s (e - s) 1 111 && zlq T s (e - s) 2 118 && zlq T s (e - s) 3 101 && zlq T s (e - s) 4 0 && zlq T s (e - s) 5 0 && zlq T s (e - s) 6 0 && decide (e - s < 8)) = zmw T (ab_tx.getD 5 []) s e := by
  unfold zmw
  generalize e - s = n
  have hl : (ab_tx.getD 5 []).length = 4 := rfl
  rw [hl]
  rcases (show n < 4 ∨ n = 4 ∨ 4 < n by omega) with z | z | z
  · have q : zlq T s n 3 101 = false := by unfold zlq; rw [if_neg (by decide), decide_eq_false (by omega)]; rfl
    rw [q, decide_eq_false (show ¬ n = 4 by omega)]; simp
  · subst z
    simp [zlq, zall, ab_tx, Bool.and_assoc]
  · have q : zlq T s n 4 0 = false := by unfold zlq; rw [if_pos rfl, decide_eq_false (by omega)]
    rw [q, decide_eq_false (show ¬ n = 4 by omega)]; simp
theorem zlw6 {s e : Nat} : (zlq T s (e - s) 0 112 && zlq T s (e - s) 1 97 && zlq T s (e - s) 2 115 && zlq T s (e - s) 3 115 && zlq T s (e - s) 4 0 && zlq T s (e - s) 5 0 && zlq T s (e - s) 6 0 && decide (e - s < 8)) = zmw T (ab_tx.getD 6 []) s e := by
  unfold zmw
  generalize e - s = n
  have hl : (ab_tx.getD 6 []).length = 4 := rfl
  rw [hl]
  rcases (show n < 4 ∨ n = 4 ∨ 4 < n by omega) with z | z | z
  · have q : zlq T s n 3 115 = false := by unfold zlq; rw [if_neg (by decide), decide_eq_false (by omega)]; rfl
    rw [q, decide_eq_false (show ¬ n = 4 by omega)]; simp
  · subst z
    simp [zlq, zall, ab_tx, Bool.and_assoc]
  · have q : zlq T s n 4 0 = false := by unfold zlq; rw [if_pos rfl, decide_eq_false (by omega)]
    rw [q, decide_eq_false (show ¬ n = 4 by omega)]; simp
theorem p_M_wordOf {s e : Nat} (hT : zTm σ T) (h8 : σ.1 56 8 = nI s) (h7 : σ.1 56 7 = nI e) (hse : s ≤ e) (he : e ≤ T.1) (h : Rf (nI (zwo7 T s e)) σ) : CA (d + 3) 159 [.ref 56] σ (ab_rI Rf) := by
  unfold zwo7 at h
  refine e_M_wordOf ?_
  refine b_M_wordOf_0 (p_M_isWord hT h8 h7 hse he ?_)
  rw [zlw0]
  refine b_M_wordOf_16 (fun a0 => ?_) (fun a0 => b_M_wordOf_19 (b_M_wordOf_159 (zr h (by rw [if_pos (nbt a0)]; rfl))))
  rw [if_neg (by rw [zb_0.mp a0]; decide)] at h
  refine b_M_wordOf_23 (p_M_isWord hT h8 h7 hse he ?_)
  rw [zlw1]
  refine b_M_wordOf_41 (fun a1 => ?_) (fun a1 => b_M_wordOf_44 (b_M_wordOf_159 (zr h (by rw [if_pos (nbt a1)]; rfl))))
  rw [if_neg (by rw [zb_0.mp a1]; decide)] at h
  refine b_M_wordOf_48 (p_M_isWord hT h8 h7 hse he ?_)
  rw [zlw2]
  refine b_M_wordOf_62 (fun a2 => ?_) (fun a2 => b_M_wordOf_65 (b_M_wordOf_159 (zr h (by rw [if_pos (nbt a2)]; rfl))))
  rw [if_neg (by rw [zb_0.mp a2]; decide)] at h
  refine b_M_wordOf_69 (p_M_isWord hT h8 h7 hse he ?_)
  rw [zlw3]
  refine b_M_wordOf_85 (fun a3 => ?_) (fun a3 => b_M_wordOf_88 (b_M_wordOf_159 (zr h (by rw [if_pos (nbt a3)]; rfl))))
  rw [if_neg (by rw [zb_0.mp a3]; decide)] at h
  refine b_M_wordOf_92 (p_M_isWord hT h8 h7 hse he ?_)
  rw [zlw4]
  refine b_M_wordOf_105 (fun a4 => ?_) (fun a4 => b_M_wordOf_108 (b_M_wordOf_159 (zr h (by rw [if_pos (nbt a4)]; rfl))))
  rw [if_neg (by rw [zb_0.mp a4]; decide)] at h
  refine b_M_wordOf_112 (p_M_isWord hT h8 h7 hse he ?_)
  rw [zlw5]
  refine b_M_wordOf_127 (fun a5 => ?_) (fun a5 => b_M_wordOf_130 (b_M_wordOf_159 (zr h (by rw [if_pos (nbt a5)]; rfl))))
  rw [if_neg (by rw [zb_0.mp a5]; decide)] at h
  refine b_M_wordOf_135 (p_M_isWord hT h8 h7 hse he ?_)
  rw [zlw6]
  refine b_M_wordOf_150 (fun a6 => ?_) (fun a6 => b_M_wordOf_153 (b_M_wordOf_159 (zr h (by rw [if_pos (nbt a6)]; rfl))))
  rw [if_neg (by rw [zb_0.mp a6]; decide)] at h
  exact b_M_wordOf_158 (b_M_wordOf_159 h)
end RM2
