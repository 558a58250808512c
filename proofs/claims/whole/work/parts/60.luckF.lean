/-! luck in the class -/
def zFT (n : Nat) (σ τ : ab_S) : Prop := τ.2 = σ.2 ∧ ∀ a, a < 44 ∨ 44 + 3 * n ≤ a → τ.1 a = σ.1 a
theorem zFT.rf {n : Nat} {σ : ab_S} : zFT n σ σ := ⟨rfl, fun _ _ => rfl⟩
theorem zFT.tr {n : Nat} {σ τ υ : ab_S} (h1 : zFT n σ τ) (h2 : zFT n τ υ) : zFT n σ υ := ⟨h2.1.trans h1.1, fun a ha => (h2.2 a ha).trans (h1.2 a ha)⟩
theorem zFT.up {n m : Nat} {σ τ : ab_S} (h : zFT n σ τ) (hm : n ≤ m) : zFT m σ τ := ⟨h.1, fun a ha => h.2 a (by omega)⟩
theorem zF.ft {n m : Nat} {σ τ : ab_S} (h : zF (zks (44 + 3 * m)) σ τ) (hm : m < n) : zFT n σ τ := ⟨h.1, fun a ha => h.2 a (by simp; omega)⟩
theorem zH.cong {σ τ : ab_S} {k : Nat} {B : zB} (h : zH σ k B) (e : ∀ a, k ≤ a → a ≤ k + 2 → τ.1 a = σ.1 a) : zH τ k B := by
  unfold zH
  rw [e k (by omega) (by omega), e (k + 1) (by omega) (by omega), e (k + 2) (by omega) (by omega)]
  exact h
theorem zshT {m : Nat} (h : m < 4) : ab_sh (44 + 3 * m) = (0, 0) := by
  rcases (show m = 0 ∨ m = 1 ∨ m = 2 ∨ m = 3 by omega) with rfl | rfl | rfl | rfl <;> rfl
theorem zg (a b : Nat) : Nat.gcd a b = Nat.gcd b (a % b) := by rw [Nat.gcd_comm, Nat.gcd_rec, Nat.gcd_comm]
section LF
variable {σ : ab_S}
theorem p_F_power {d b n : Nat} {Rf : Int64 → ab_S → Prop} (hn : n ≤ 4) (h : Rf (lN (b ^ n)) σ) : CA (d + 1) 107 [.long (lN b), .int (nI n)] σ (ab_rL Rf) := by
  have key : ∀ m i, n - i ≤ m → i ≤ n → S_F_power_5 d Rf (lN b) (nI n) (lN (b ^ i)) (nI i) σ := by
    intro m
    induction m with
    | zero =>
      intro i q1 q2
      have : i = n := by omega
      subst this
      exact b_F_power_5 (fun _ => b_F_power_21 h) (fun c => absurd (Int32.le_refl _) c)
    | succ m ih =>
      intro i q1 q2
      by_cases qi : i = n
      · exact ih i (by omega) q2
      refine b_F_power_5 (fun c => absurd c (by rw [zle (by omega) (by omega)]; omega)) (fun _ => b_F_power_11 ?_)
      rw [nI_1, lN_mul, ← Nat.pow_succ]
      exact ih (i + 1) (by omega) (by omega)
  exact e_F_power (b_F_power_0 (key n 0 (by omega) (by omega)))
theorem p_F_homeShares : ∀ (n : Nat), n ≤ 4 → ∀ (d k : Nat) (B : zB) (σ : ab_S) (Rf : Int64 → ab_S → Prop), ab_sh k = (0, 0) → (k = 2 ∨ (44 + 3 * n ≤ k ∧ k < 56)) → zH σ k B → zV B → B 7 + n < 100000 → (∀ τ, zFT n σ τ → Rf (lN (zhs n B)) τ) → CA (d + n + 5) 106 [.ref 23, .ref k, .int (nI n)] σ (ab_rL Rf)
  | 0, hn, d, k, B, σ, Rf, hk, hd, hB, hV, h7, h => by
    refine e_F_homeShares (b_F_homeShares_0 hk (p_B_isHome hk hB hV (b_F_homeShares_4 (fun q => ?_) (fun q => b_F_homeShares_7 ?_))))
    · have q : ¬ B 5 < B 0 := of_decide_eq_false (zb_0.mp q)
      have h := h σ zFT.rf
      unfold zhs at h
      rw [if_neg q] at h
      exact b_F_homeShares_15 (fun _ => b_F_homeShares_25 h) (fun c => absurd (by decide) c)
    · have q : B 5 < B 0 := of_decide_eq_true (nbt q)
      have h := h σ zFT.rf
      unfold zhs at h
      rw [if_pos q] at h
      exact p_F_power (b := 840) (n := 0) (by omega) (b_F_homeShares_14 h)
  | n + 1, hn, d, k, B, σ, Rf, hk, hd, hB, hV, h7, h => by
    have hs := zfS_lt hV
    have h8 := zfS_8 hV
    have hk3 := zshT (m := n) (by omega)
    have en : nI (n + 1) - 1 = nI n := nI_s n
    have e3 : Int32.toNatClampNeg (nI n) = n := zc_nI (by omega)
    refine e_F_homeShares (b_F_homeShares_0 hk (p_B_isHome hk hB hV (b_F_homeShares_4 (fun q => ?_) (fun q => b_F_homeShares_7 ?_))))
    · have q : ¬ B 5 < B 0 := of_decide_eq_false (zb_0.mp q)
      unfold zhs at h
      rw [if_neg q] at h
      refine b_F_homeShares_15 (fun c => absurd c (by rw [zlit 0, zle (by omega) (by omega)]; omega)) (fun _ => b_F_homeShares_19 (fun _ => b_F_homeShares_27 hk (by rw [en]; exact vp_in_nI (by omega) (by omega)) (p_B_reachF hk hB hV (b_F_homeShares_38 (p_J_bitCount hs ?_)))) (fun c => absurd (by rw [zle (by omega) (by omega)]; omega) c))
      rw [en, e3]
      refine b_F_homeShares_45 (fun w => b_F_homeShares_52 hk3 (p_B_copyFrom hk3 hk (by omega) hB hV.1.2.2.1 (fun τ hτ hF => b_F_homeShares_57 hk3 (p_B_endMove hk3 hτ hV.1.2.2.2.2.2.2.1 (fun υ hυ hG => b_F_homeShares_61 ?_))))) (fun w => b_F_homeShares_74 ?_) <;> rw [zlit 0, zeq (by omega) (by omega)] at w
      · have z : zfS B = 0 := by
          rcases Nat.eq_zero_or_pos (zfS B) with z | z
          · exact z
          · have := zpc_pos (n := 25) (show zfS B ≠ 0 by omega) hs; omega
        rw [if_pos z] at h
        rw [en]
        refine p_F_homeShares n (by omega) d (44 + 3 * n) (zend B) υ _ hk3 (Or.inr (by omega)) hυ (zV_end hV (by omega)) (by rw [zend_7]; omega) (fun φ hφ => b_F_homeShares_72 ?_)
        rw [fa_litL 840, lN_mul, zhs_end]
        exact h φ (((hF.ft (by omega)).tr (hG.ft (by omega))).tr (hφ.up (by omega)))
      · have z : ¬ zfS B = 0 := fun z => w (by rw [z]; exact zpc_0 25)
        rw [if_neg z] at h
        have key : ∀ m c (τ : ab_S), 25 - c ≤ m → c ≤ 25 → zFT (n + 1) σ τ → S_F_homeShares_80 (d + (n + 1) + 4) Rf k (nI (n + 1)) (44 + 3 * n) (nI (zfS B)) (nI (zpc (zfS B) 25)) (lN (zsm (fun c => zhs n (zfox B c)) (zfS B) c)) (nI c) τ := by
          intro m
          induction m with
          | zero =>
            intro c τ q1 q2 hF
            have : c = 25 := by omega
            subst this
            refine b_F_homeShares_80 (fun _ => b_F_homeShares_129 ?_ ?_) (fun c => absurd (by decide) c)
            · rw [nI_l (by omega), fa_litL 0, pk_lEQ (by omega) (by omega)]; omega
            · rw [nI_l (by omega), fa_litL 840, pk_lDiv (by omega) (by omega) (by omega), lN_mul]
              exact h τ hF
          | succ m ih =>
            intro c τ q1 q2 hF
            by_cases qc : c = 25
            · exact ih c τ (by omega) q2 hF
            have hBt : zH τ k B := hB.cong (fun a a1 a2 => hF.2 a (by omega))
            refine b_F_homeShares_80 (fun x => absurd x (by rw [zlit 25, zle (by omega) (by omega)]; omega)) (fun _ => b_F_homeShares_87 (fun x => b_F_homeShares_123 ?_) (fun x => b_F_homeShares_97 hk3 (p_B_copyFrom hk3 hk (by omega) hBt hV.1.2.2.1 (fun υ hυ hG => b_F_homeShares_102 hk3 (p_B_stepF hk3 hυ hV (by omega) (fun φ hφ hL => b_F_homeShares_109 ?_)))))) <;> rw [zbit (by omega) (by omega), zb_0] at x
            · have hn := ih (c + 1) τ (by omega) (by omega) hF
              rw [zsm, if_neg (by rw [x]; decide), ← nI_1 c, Nat.add_zero] at hn
              exact hn
            · have x := Bool.not_eq_false _ |>.mp x
              obtain ⟨va, vb⟩ := zhs_V hV (n := n) (by omega) x
              rw [en]
              refine p_F_homeShares n (by omega) d (44 + 3 * n) (zfox B c) φ _ hk3 (Or.inr (by omega)) hφ va vb (fun ψ hψ => b_F_homeShares_120 (b_F_homeShares_123 ?_))
              have hn := ih (c + 1) ψ (by omega) (by omega) (((hF.tr (hG.ft (by omega))).tr (hL.ft (by omega))).tr (hψ.up (by omega)))
              rw [zsm, if_pos x, ← nI_1 c, ← lN_add] at hn
              exact hn
        exact key 25 0 σ (by omega) (by omega) zFT.rf
    · have q : B 5 < B 0 := of_decide_eq_true (nbt q)
      have h := h σ zFT.rf
      unfold zhs at h
      rw [if_pos q] at h
      exact p_F_power (b := 840) hn (b_F_homeShares_14 h)
theorem p_F_gcd {d : Nat} {Rf : Int64 → ab_S → Prop} : ∀ (t a b i : Nat), a < 2 ^ 62 → b < 2 ^ t → t ≤ 50 → i + 2 * t ≤ 100 → Rf (lN (Nat.gcd a b)) σ → S_F_greatestDivisor_3 d Rf (lN a) (lN b) (nI i) σ := by
  intro t
  have ret : ∀ a i, Rf (lN (Nat.gcd a 0)) σ → i ≤ 100 → S_F_greatestDivisor_3 d Rf (lN a) (lN 0) (nI i) σ := fun a i h hi => by
    rw [Nat.gcd_zero_right] at h
    exact b_F_greatestDivisor_3 (fun _ => b_F_greatestDivisor_32 h) (fun _ => b_F_greatestDivisor_10 (fun _ => b_F_greatestDivisor_32 h) (fun c => absurd ((lg_cmp_eq _ _).mpr rfl) c))
  have step : ∀ a b i, a < 2 ^ 62 → b < 2 ^ 62 → b ≠ 0 → i < 100 → S_F_greatestDivisor_3 d Rf (lN b) (lN (a % b)) (nI (i + 1)) σ → S_F_greatestDivisor_3 d Rf (lN a) (lN b) (nI i) σ := fun a b i ha hb h0 hi h => by
    refine b_F_greatestDivisor_3 (fun c => absurd c (by rw [zlit 100, zle (by omega) (by omega)]; omega)) (fun _ => b_F_greatestDivisor_10 (fun c => absurd c ?_) (fun _ => b_F_greatestDivisor_16 ?_ ?_))
    · rw [lg_cmp_eq, fa_litL 0, pk_lEQ (by omega) (by omega)]; exact h0
    · rw [fa_litL 0, pk_lEQ (by omega) (by omega)]; exact h0
    · rw [pk_lRem (by omega) (by omega) (by omega), nI_1]
      exact h
  induction t with
  | zero =>
    intro a b i ha hb ht hi h
    have : b = 0 := by simp at hb; exact hb
    subst this
    exact ret a i h (by omega)
  | succ t ih =>
    intro a b i ha hb ht hi h
    have hb62 : b < 2 ^ 62 := Nat.lt_of_lt_of_le hb (Nat.pow_le_pow_right (by omega) (by omega))
    by_cases z : b = 0
    · subst z; exact ret a i h (by omega)
    have r1 := Nat.mod_lt a (show b > 0 by omega)
    refine step a b i ha hb62 z (by omega) ?_
    rw [zg a b] at h
    by_cases z2 : a % b = 0
    · rw [z2]
      rw [z2] at h
      exact ret b (i + 1) h (by omega)
    · have r2 := Nat.mod_lt b (show a % b > 0 by omega)
      refine step b (a % b) (i + 1) hb62 (by omega) z2 (by omega) ?_
      have hh : b % (a % b) < 2 ^ t := by
        have d1 := Nat.div_add_mod b (a % b)
        have d2 : 1 ≤ b / (a % b) := (Nat.le_div_iff_mul_le (by omega)).mpr (by omega)
        have d3 : a % b * 1 ≤ a % b * (b / (a % b)) := Nat.mul_le_mul_left _ d2
        rw [Nat.pow_succ] at hb
        omega
      refine ih (a % b) (b % (a % b)) (i + 2) (by omega) hh (by omega) (by omega) ?_
      rw [zg b (a % b)] at h
      exact h
def zfrac (S : zS) (a b : Int64) : zS := (S.1, S.2.1, S.2.2.1, (a, b), S.2.2.2.2)
def zO_luck (S : zS) (x : Int32) : Int32 × zS :=
  if zw x 0 4 = true then (1, zfrac S (lN (zhs x.toNatClampNeg S.1.1 / Nat.gcd (zhs x.toNatClampNeg S.1.1) (840 ^ x.toNatClampNeg))) (lN (840 ^ x.toNatClampNeg / Nat.gcd (zhs x.toNatClampNeg S.1.1) (840 ^ x.toNatClampNeg)))) else (-2, zbump S 0)
theorem zO_luck_V {S : zS} {x : Int32} (hV : zSV S) : zSV (zO_luck S x).2 := by
  unfold zO_luck; split
  · exact hV
  · exact zbump_V hV
theorem z840 {n : Nat} (h : n ≤ 4) : 840 ^ n ≤ 497871360000 ∧ 0 < 840 ^ n := by
  rcases (show n = 0 ∨ n = 1 ∨ n = 2 ∨ n = 3 ∨ n = 4 by omega) with rfl | rfl | rfl | rfl | rfl <;> decide
theorem p_F_luck {d : Nat} {S : zS} {x : Int32} {Rf : Int32 → ab_S → Prop} (hI : zIF σ S) (hV : zSV S) (h : ∀ τ, zIF τ (zO_luck S x).2 → zKF σ τ → Rf (zO_luck S x).1 τ) : CA (d + 10) 84 [.ref 0, .int x] σ (ab_rI Rf) := by
  have h7 := hV.1.2.1
  have hB : zH σ 2 S.1.1 := hI.1.1
  refine e_F_luck (b_F_luck_0 (p_F_within (lo := 0) (hi := 4) (by decide) (by decide) (b_F_luck_6 (fun q => ?_) (fun q => b_F_luck_16 ?_))))
  · rw [zO_luck, if_neg (by rw [zb_0.mp q]; decide)] at h
    exact b_F_luck_9 (p_F_bad hI (fun τ a b => b_F_luck_15 (h τ a b)))
  · rw [zO_luck, if_pos (nbt q)] at h
    obtain ⟨n, hn, rfl⟩ := zw_n (m := 4) (nbt q)
    rw [zc_nI (by omega)] at h
    obtain ⟨p1, p2⟩ := z840 hn
    have hl := zhs_le n S.1.1 hV.1.1 (by omega)
    have := p_F_homeShares n hn (d + (4 - n)) 2 S.1.1 σ (fun r σ' => S_F_luck_32 (d + 9) Rf (nI n) r σ') zsh2 (Or.inl rfl) hB hV.1.1 (by omega)
    have key : ∀ τ, zFT n σ τ → S_F_luck_32 (d + 9) Rf (nI n) (lN (zhs n S.1.1)) τ := fun τ hF => by
      refine b_F_luck_32 (p_F_power (b := 840) hn (b_F_luck_39 (e_F_keepFraction (b_F_keepFraction_0 (e_F_greatestDivisor (b_F_greatestDivisor_0 (p_F_gcd 50 _ _ 0 (by omega) (by omega) (by omega) (by omega) ?_)))))))
      have hg : 0 < Nat.gcd (zhs n S.1.1) (840 ^ n) := Nat.gcd_pos_of_pos_right _ p2
      have hg2 : Nat.gcd (zhs n S.1.1) (840 ^ n) ≤ 840 ^ n := Nat.gcd_le_right _ p2
      generalize Nat.gcd (zhs n S.1.1) (840 ^ n) = g at *
      generalize zhs n S.1.1 = u at *
      generalize 840 ^ n = w at *
      refine b_F_keepFraction_5 (fun c => absurd c ?_) (fun _ => b_F_keepFraction_14 ?_ ?_ (b_F_keepFraction_30 (b_F_luck_42 ?_)))
      · rw [lg_cmp_le, fa_litL 0, pk_lLE (by omega) (by omega)]; omega
      · rw [fa_litL 0, pk_lEQ (by omega) (by omega)]; omega
      · rw [fa_litL 0, pk_lEQ (by omega) (by omega)]; omega
      · rw [pk_lDiv (by omega) (by omega) (by omega), pk_lDiv (by omega) (by omega) (by omega)]
        refine h _ ?_ (fun a ha => ⟨hF.2 a (by omega), ?_⟩)
        · have hs : zIF τ S := hI.scr (fun a ha => hF.2 a (by omega)) (by rw [hF.2 12 (by omega)]) (by rw [hF.1]) (by rw [hF.1])
          obtain ⟨h1, h2, h3, h4, h5⟩ := hs
          exact ⟨h1, h2, h3, ⟨by dsimp only; rw [zpL_n (by omega), zpL_s]; rfl, by dsimp only; rw [zpL_s]; rfl⟩, h5⟩
        · dsimp only
          rw [zpL_ne (by omega), zpL_ne (by omega), hF.1]
    have t := this key
    have e : d + (4 - n) + n + 5 = d + 9 := by omega
    rw [e] at t
    exact t
end LF
