/-! worth and best in the class -/
def zFB (n : Nat) (σ τ : ab_S) : Prop := τ.2 = σ.2 ∧ (∀ a, a ≠ 24 → (a < 44 ∨ 44 + 3 * n ≤ a) → τ.1 a = σ.1 a) ∧ ∀ j, n < j → τ.1 24 j = σ.1 24 j
theorem zFB.rf {n : Nat} {σ : ab_S} : zFB n σ σ := ⟨rfl, fun _ _ _ => rfl, fun _ _ => rfl⟩
theorem zFB.tr {n : Nat} {σ τ υ : ab_S} (h1 : zFB n σ τ) (h2 : zFB n τ υ) : zFB n σ υ := ⟨h2.1.trans h1.1, fun a x y => (h2.2.1 a x y).trans (h1.2.1 a x y), fun j hj => (h2.2.2 j hj).trans (h1.2.2 j hj)⟩
theorem zFB.up {n m : Nat} {σ τ : ab_S} (h : zFB n σ τ) (hm : n ≤ m) : zFB m σ τ := ⟨h.1, fun a x y => h.2.1 a x (by omega), fun j hj => h.2.2 j (by omega)⟩
theorem zF.fb {n m : Nat} {σ τ : ab_S} (h : zF (zks (44 + 3 * m)) σ τ) (hm : m < n) : zFB n σ τ := ⟨h.1, fun a _ ha => h.2 a (by simp; omega), fun j _ => by rw [h.2 24 (by simp; omega)]⟩
theorem zFB.put {n i : Nat} {x : Int32} {σ : ab_S} (h : i ≤ n) : zFB n σ (ab_pI σ.1 24 i x, σ.2) := ⟨rfl, fun a ha _ => ab_pI_ne ha, fun j hj => by dsimp only; exact zp_n (by omega)⟩
theorem ziN {n : Nat} (h : n < 1000000) : iI (n : Int) = nI n := by rw [fa_eq, zi (by omega), zn (by omega)]
def zlo (fx : Bool) (lo V : Int) : Int := if fx then max lo V else lo
def zhi (fx : Bool) (hi V : Int) : Int := if fx then hi else min hi V
section WF
variable {d n k : Nat} {B : zB} {σ : ab_S} {lo hi : Int} {Rf : Int32 → ab_S → Prop} {fx : Bool}
theorem p_wb_end {τ : ab_S} {l h : Int} {k7 : Nat} {x3 : Int32} (hR : Rf (if fx then iI l else iI h) τ) : S_F_worthBehind_238 d Rf k x3 (iI l) (iI h) k7 (zb fx) 1 τ := by
  refine b_F_worthBehind_238 (fun q => absurd q (by decide)) (fun _ => b_F_worthBehind_269 (fun q => b_F_worthBehind_279 (b_F_worthBehind_281 ?_)) (fun q => b_F_worthBehind_274 (b_F_worthBehind_281 ?_)))
  · rw [if_neg (by rw [zb_0.mp q]; decide)] at hR; exact hR
  · rw [if_pos (nbt q)] at hR; exact hR
theorem p_wb_cut {τ : ab_S} {l h : Int} {k7 : Nat} {x3 x10 x11 x12 x13 : Int32} (hl : -1 ≤ l ∧ l ≤ 100) (hh : -1 ≤ h ∧ h ≤ 100) (hc : h ≤ l) (hR : Rf (if fx then iI l else iI h) τ) : S_F_worthBehind_226 d Rf k x3 (iI l) (iI h) k7 (zb fx) 1 x10 x11 x12 x13 τ := by
  have hle : iI h ≤ iI l := by rw [fa_le, zi (by omega), zi (by omega)]; exact hc
  have e : S_F_worthBehind_232 d Rf k x3 (iI l) (iI h) k7 (zb fx) 1 x10 x11 τ := b_F_worthBehind_232 (b_F_worthBehind_82 (fun _ => p_wb_end hR) (fun _ => b_F_worthBehind_89 (fun _ => p_wb_end hR) (fun q => absurd hle q)))
  exact b_F_worthBehind_226 (b_F_worthBehind_107 (fun _ => e) (fun _ => b_F_worthBehind_114 (fun _ => e) (fun q => absurd hle q)))
/-- the slot of the best move, by the moves below k -/
def zbs (n : Nat) (B : zB) (fx : Bool) (lo hi : Int) (σ τ : ab_S) (k : Nat) : Prop := lo = -1 → hi = 100 → τ.1 24 (n + 1) = if (zva fx (zcan B) (fun k => zwo n (zdo B k)) k).2 = -1 then σ.1 24 (n + 1) else iI (zva fx (zcan B) (fun k => zwo n (zdo B k)) k).2
theorem p_wb_inner (hk : ab_sh k = (0, 0)) (hn : n < 4) (hd : k = 2 ∨ (44 + 3 * (n + 1) ≤ k ∧ k < 56)) (hB : zH σ k B) (hV : zV B) (h7 : B 7 + (n + 1) < 100000) (hlo : -1 ≤ lo) (hhi : hi ≤ 100)
    (hw : zwo (n + 1) B = (zva fx (zcan B) (fun k => zwo n (zdo B k)) 500).1 ∨ zct (zcan B) 500 = 0)
    (child : ∀ (C : zB) (υ : ab_S) (l h : Int) (Q : Int32 → ab_S → Prop), zH υ (44 + 3 * n) C → zV C → C 7 + n < 100000 → -1 ≤ l → l < h → h ≤ 100 → (∀ r τ, zFB n υ τ → zab l h (zwo n C) r → Q (iI r) τ) → CA (d + n + 5) 105 [.ref 23, .ref 24, .ref (44 + 3 * n), .int (nI n), .int (iI l), .int (iI h)] υ (ab_rI Q))
    (hR : ∀ r τ, zFB (n + 1) σ τ → zab lo hi (zwo (n + 1) B) r → (lo = -1 → hi = 100 → τ.1 24 (n + 1) = zbm (n + 1) B (σ.1 24 (n + 1))) → Rf (iI r) τ)
    {who cells : Nat} {last : Int32} (hw4 : who ≤ 4) (hcl : cells < 33554432) (hwho : who = 4 ∨ who < B 2) (hcan : ∀ c, c < 25 → zcan B (100 * who + c) = cells.testBit c)
    (hnx : ∀ τ, zFB (n + 1) σ τ → zbs n B fx lo hi σ τ (100 * who + 25) → zlo fx lo (zva fx (zcan B) (fun k => zwo n (zdo B k)) (100 * who + 25)).1 < zhi fx hi (zva fx (zcan B) (fun k => zwo n (zdo B k)) (100 * who + 25)).1 → S_F_worthBehind_232 (d + n + 5) Rf k (nI (n + 1)) (iI (zlo fx lo (zva fx (zcan B) (fun k => zwo n (zdo B k)) (100 * who + 25)).1)) (iI (zhi fx hi (zva fx (zcan B) (fun k => zwo n (zdo B k)) (100 * who + 25)).1)) (44 + 3 * n) (zb fx) (zb (decide (0 < zct (zcan B) (100 * who + 25)))) last (nI who) τ) :
    ∀ m c (τ : ab_S), 25 - c ≤ m → c ≤ 25 → zFB (n + 1) σ τ → zbs n B fx lo hi σ τ (100 * who + c) → zlo fx lo (zva fx (zcan B) (fun k => zwo n (zdo B k)) (100 * who + c)).1 < zhi fx hi (zva fx (zcan B) (fun k => zwo n (zdo B k)) (100 * who + c)).1 → S_F_worthBehind_107 (d + n + 5) Rf k (nI (n + 1)) (iI (zlo fx lo (zva fx (zcan B) (fun k => zwo n (zdo B k)) (100 * who + c)).1)) (iI (zhi fx hi (zva fx (zcan B) (fun k => zwo n (zdo B k)) (100 * who + c)).1)) (44 + 3 * n) (zb fx) (zb (decide (0 < zct (zcan B) (100 * who + c)))) last (nI who) (nI cells) (nI c) τ := by
  have h25 := hV.n
  have hk7 := zshT (m := n) hn
  have rng : ∀ k, zcan B k = true → 0 ≤ zwo n (zdo B k) ∧ zwo n (zdo B k) ≤ 99 := fun k hk => zwo_rng n _ (zdo_V hV hk (by omega)) (by rw [zdo_7]; omega)
  have en : nI (n + 1) - 1 = nI n := nI_s n
  have en2 : Int32.toNatClampNeg (nI (n + 1)) = n + 1 := zc_nI (by omega)
  intro m
  induction m with
  | zero =>
    intro c τ q1 q2 hF hb hlt
    have : c = 25 := by omega
    subst this
    exact b_F_worthBehind_107 (fun _ => hnx τ hF hb hlt) (fun q => absurd (by decide) q)
  | succ m ih =>
    intro c τ q1 q2 hF hb hlt
    by_cases qc : c = 25
    · exact ih c τ (by omega) q2 hF hb hlt
    have hrg := zva_rng (fx := fx) (p := zcan B) (f := fun k => zwo n (zdo B k)) rng (100 * who + c)
    have nx := ih (c + 1)
    rw [show 100 * who + (c + 1) = 100 * who + c + 1 by omega] at nx
    have mono5 : 100 * who + c + 1 ≤ 500 := by omega
    have vr : -1 ≤ (zva fx (zcan B) (fun k => zwo n (zdo B k)) (100 * who + c)).1 ∧ (zva fx (zcan B) (fun k => zwo n (zdo B k)) (100 * who + c)).1 ≤ 1000000 := by
      by_cases z : zct (zcan B) (100 * who + c) = 0
      · rw [hrg.1 z]; cases fx <;> simp
      · have := (hrg.2 (by omega)).1; omega
    have lr : -1 ≤ zlo fx lo (zva fx (zcan B) (fun k => zwo n (zdo B k)) (100 * who + c)).1 ∧ zhi fx hi (zva fx (zcan B) (fun k => zwo n (zdo B k)) (100 * who + c)).1 ≤ 100 := by
      unfold zlo zhi
      cases fx <;> simp <;> omega
    refine b_F_worthBehind_107 (fun q => absurd q (by rw [zlit 25, zle (by omega) (by omega)]; omega)) (fun _ => b_F_worthBehind_114 (fun q => absurd q ?_) (fun _ => b_F_worthBehind_121 (fun w => b_F_worthBehind_131 (b_F_worthBehind_226 ?_)) (fun w => ?_)))
    · rw [fa_le, zi (by omega), zi (by omega)]; omega
    · rw [zbit (by omega) (by omega), zb_0, ← hcan c (by omega)] at w
      have ev : zva fx (zcan B) (fun k => zwo n (zdo B k)) (100 * who + c + 1) = zva fx (zcan B) (fun k => zwo n (zdo B k)) (100 * who + c) := by rw [zva, w]; simp
      have ec : zct (zcan B) (100 * who + c + 1) = zct (zcan B) (100 * who + c) := by rw [zct, w]; rfl
      have := nx τ (by omega) (by omega) hF (by unfold zbs at hb ⊢; rw [ev]; exact hb) (by rw [ev]; exact hlt)
      rw [ev, ec, ← nI_1 c] at this
      exact this
    · rw [zbit (by omega) (by omega), zb_0, ← hcan c (by omega)] at w
      have w := Bool.not_eq_false _ |>.mp w
      have hcc := zcan_c w
      have hBt : zH τ k B := hB.cong (fun a a1 a2 => hF.2.1 a (by omega) (by omega))
      have hfr := rng _ w
      have ec : zct (zcan B) (100 * who + c + 1) = zct (zcan B) (100 * who + c) + 1 := zct_s w
      have hv : zwo (n + 1) B = (zva fx (zcan B) (fun k => zwo n (zdo B k)) 500).1 := by
        rcases hw with z | z
        · exact z
        · have := zct_mono (zcan B) mono5; omega
      have mv : (100 : Int32) * nI who + nI c = nI (100 * who + c) := by rw [zlit 100, pk_mul, nI_add]
      refine b_F_worthBehind_134 hk7 (p_B_copyFrom hk7 hk (by omega) hBt hV.1.2.2.1 (fun υ hυ hG => b_F_worthBehind_143 hk7 ?_))
      have step : ∀ (Q : Int32 → ab_S → Prop), (∀ s0 φ, zH φ (44 + 3 * n) (zdo B (100 * who + c)) → zF (zks (44 + 3 * n)) υ φ → Q s0 φ) → CA (d + n + 5) 41 [.ref (44 + 3 * n), .int (nI who), .int (nI c)] υ (ab_rI Q) := fun Q hQ => by
        have e1 : (100 * who + c) / 100 = who := by omega
        have e2 : (100 * who + c) % 100 = c := by omega
        unfold zdo at hQ
        rw [e1, e2] at hQ
        rcases hwho with rfl | hwho
        · rw [if_pos rfl] at hQ
          exact p_B_stepF hk7 hυ hV (by omega) (fun φ a b => hQ _ φ a b)
        · have := hV.1.2.2.1
          rw [if_neg (by omega)] at hQ
          exact p_B_stepG hk7 hυ hV hwho (fun φ a b => hQ _ φ a b)
      refine step _ (fun s0 φ hφ hL => b_F_worthBehind_152 ?_)
      rw [en]
      refine child (zdo B (100 * who + c)) φ _ _ _ hφ (zdo_V hV w (by omega)) (by rw [zdo_7]; omega) lr.1 hlt lr.2 (fun r ψ hψ hz => ?_)
      have hFψ : zFB (n + 1) σ ψ := ((hF.tr (hG.fb (by omega))).tr (hL.fb (by omega))).tr (hψ.up (by omega))
      have s1 : ψ.1 24 (n + 1) = τ.1 24 (n + 1) := by
        rw [hψ.2.2 (n + 1) (by omega), hL.2 24 (by simp; omega), hG.2 24 (by simp; omega)]
      obtain ⟨z1, z2, z3, z4, z5⟩ := hz
      have eV : zva fx (zcan B) (fun k => zwo n (zdo B k)) (100 * who + c + 1) = if zbt2 fx (zwo n (zdo B (100 * who + c))) (zva fx (zcan B) (fun k => zwo n (zdo B k)) (100 * who + c)).1 = true then (zwo n (zdo B (100 * who + c)), ((100 * who + c : Nat) : Int)) else zva fx (zcan B) (fun k => zwo n (zdo B k)) (100 * who + c) := by
        rw [zva, w, Bool.true_and]
      have hm1 : fx = true → (zva fx (zcan B) (fun k => zwo n (zdo B k)) (100 * who + c + 1)).1 ≤ (zva fx (zcan B) (fun k => zwo n (zdo B k)) 500).1 := fun e => by subst e; exact zva_monoF mono5
      have hm2 : fx = false → (zva fx (zcan B) (fun k => zwo n (zdo B k)) 500).1 ≤ (zva fx (zcan B) (fun k => zwo n (zdo B k)) (100 * who + c + 1)).1 := fun e => by subst e; exact zva_monoG mono5
      have hm3 : fx = true → zwo n (zdo B (100 * who + c)) ≤ (zva fx (zcan B) (fun k => zwo n (zdo B k)) (100 * who + c + 1)).1 := fun e => by subst e; exact zva_stepF.2 w
      have hm4 : fx = false → (zva fx (zcan B) (fun k => zwo n (zdo B k)) (100 * who + c + 1)).1 ≤ zwo n (zdo B (100 * who + c)) := fun e => by subst e; exact zva_stepG.2 w
      rw [← hv] at hm1 hm2
      rw [ec, decide_eq_true (show 0 < zct (zcan B) (100 * who + c) + 1 by omega), ← nI_1 c] at nx
      unfold zbs at hb nx
      generalize hV1 : zva fx (zcan B) (fun k => zwo n (zdo B k)) (100 * who + c + 1) = V1 at *
      generalize hV0 : zva fx (zcan B) (fun k => zwo n (zdo B k)) (100 * who + c) = V0 at *
      generalize zwo n (zdo B (100 * who + c)) = f at *
      generalize hv5 : zwo (n + 1) B = v at *
      cases fx with
      | true =>
        have m1 := hm1 rfl
        have m3 := hm3 rfl
        simp only [zlo, zhi, if_true, zbt2, decide_eq_true_eq] at *
        refine b_F_worthBehind_167 (fun q => absurd q (by decide)) (fun _ => b_F_worthBehind_174 (fun q => b_F_worthBehind_199 (fun q => absurd q (by decide)) (fun _ => b_F_worthBehind_226 ?_)) (fun q => b_F_worthBehind_181 (vp_in_nI (by omega) (by omega)) ?_)) <;> rw [fa_le, zi (by omega), zi (by omega)] at q
        · have hf : f ≤ max lo V0.1 := by omega
          have e1 : max lo V1.1 = max lo V0.1 := by rw [eV]; split <;> dsimp only <;> omega
          have := nx ψ (by omega) (by omega) hFψ (fun a b => ?_) (by omega)
          · rw [e1] at this; exact this
          · have : V1 = V0 := by rw [eV, if_neg (by omega)]
            rw [s1, this]; exact hb a b
        · rw [en2, mv]
          by_cases hc : f < hi
          · have er : r = f := by omega
            have e1 : V1 = (f, ((100 * who + c : Nat) : Int)) := by rw [eV, if_pos (by omega)]
            have := nx (ab_pI ψ.1 24 (n + 1) (nI (100 * who + c)), ψ.2) (by omega) (by omega) (hFψ.tr (zFB.put (by omega))) (fun a b => ?_) (by rw [e1]; dsimp only; omega)
            · rw [e1] at this
              dsimp only at this
              rw [show max lo f = r by omega] at this
              exact b_F_worthBehind_226 this
            · rw [e1]; dsimp only
              rw [zp_s, if_neg (by omega), ziN (by omega)]
          · refine p_wb_cut (fx := true) (by omega) (by omega) (by omega) ?_
            simp only [if_true]
            refine hR r _ (hFψ.tr (zFB.put (by omega))) ⟨fun q => by omega, fun q => by omega, fun a b => by omega, z4, z5⟩ (fun a b => by omega)
      | false =>
        have m2 := hm2 rfl
        have m4 := hm4 rfl
        simp only [zlo, zhi, Bool.false_eq_true, if_false, zbt2, decide_eq_true_eq] at *
        refine b_F_worthBehind_167 (fun _ => b_F_worthBehind_199 (fun _ => b_F_worthBehind_204 (fun q => b_F_worthBehind_226 ?_) (fun q => b_F_worthBehind_211 (vp_in_nI (by omega) (by omega)) ?_)) (fun q => absurd rfl q)) (fun q => absurd rfl q) <;> rw [fa_le, zi (by omega), zi (by omega)] at q
        · have hf : min hi V0.1 ≤ f := by omega
          have e1 : min hi V1.1 = min hi V0.1 := by rw [eV]; split <;> dsimp only <;> omega
          have := nx ψ (by omega) (by omega) hFψ (fun a b => ?_) (by omega)
          · rw [e1] at this; exact this
          · have : V1 = V0 := by rw [eV, if_neg (by omega)]
            rw [s1, this]; exact hb a b
        · rw [en2, mv]
          by_cases hc : lo < f
          · have er : r = f := by omega
            have e1 : V1 = (f, ((100 * who + c : Nat) : Int)) := by rw [eV, if_pos (by omega)]
            have := nx (ab_pI ψ.1 24 (n + 1) (nI (100 * who + c)), ψ.2) (by omega) (by omega) (hFψ.tr (zFB.put (by omega))) (fun a b => ?_) (by rw [e1]; dsimp only; omega)
            · rw [e1] at this
              dsimp only at this
              rw [show min hi f = r by omega] at this
              exact b_F_worthBehind_226 this
            · rw [e1]; dsimp only
              rw [zp_s, if_neg (by omega), ziN (by omega)]
          · refine p_wb_cut (fx := false) (by omega) (by omega) (by omega) ?_
            simp only [Bool.false_eq_true, if_false]
            refine hR r _ (hFψ.tr (zFB.put (by omega))) ⟨fun q => by omega, fun q => by omega, fun a b => by omega, z4, z5⟩ (fun a b => by omega)
theorem zbm_s {x : Int32} (h0 : zhow B = 0) (hr : 0 < zct (zcan B) 500 → (zva (decide (B 6 = 1)) (zcan B) (fun k => zwo n (zdo B k)) 500).2 ≠ -1) (hz : zct (zcan B) 500 = 0 → (zva (decide (B 6 = 1)) (zcan B) (fun k => zwo n (zdo B k)) 500).2 = -1) : zbm (n + 1) B x = if (zva (decide (B 6 = 1)) (zcan B) (fun k => zwo n (zdo B k)) 500).2 = -1 then x else iI (zva (decide (B 6 = 1)) (zcan B) (fun k => zwo n (zdo B k)) 500).2 := by
  unfold zbm
  dsimp only
  rcases Nat.eq_zero_or_pos (zct (zcan B) 500) with q | q
  · rw [if_neg (by omega), if_pos (hz q)]
  · rw [if_pos ⟨h0, q⟩, if_neg (hr q)]
theorem p_F_worthBehind : ∀ (n : Nat), n ≤ 4 → ∀ (d k : Nat) (B : zB) (σ : ab_S) (lo hi : Int) (Rf : Int32 → ab_S → Prop), ab_sh k = (0, 0) → (k = 2 ∨ (44 + 3 * n ≤ k ∧ k < 56)) → zH σ k B → zV B → B 7 + n < 100000 → -1 ≤ lo → lo < hi → hi ≤ 100 → (∀ r τ, zFB n σ τ → zab lo hi (zwo n B) r → (lo = -1 → hi = 100 → τ.1 24 n = zbm n B (σ.1 24 n)) → Rf (iI r) τ) → CA (d + n + 5) 105 [.ref 23, .ref 24, .ref k, .int (nI n), .int (iI lo), .int (iI hi)] σ (ab_rI Rf)
  | 0, hn, d, k, B, σ, lo, hi, Rf, hk, hd, hB, hV, h7, hl, hlt, hh, hR => by
    have hw := zhow_lt (B := B)
    have hr := zwo_rng 0 B hV (by omega)
    have hR := hR (zwo 0 B) σ zFB.rf (zab_ex hr) (fun _ _ => rfl)
    refine e_F_worthBehind (b_F_worthBehind_0 hk (p_B_outcome hk hB hV (b_F_worthBehind_4 (fun q => ?_) (fun q => d_F_worthBehind_11 (b_F_worthBehind_23 (zr hR ?_)))))) <;> rw [zlit 0, zeq (by omega) (by omega)] at q
    · refine b_F_worthBehind_24 (fun _ => b_F_worthBehind_40 hk (p_B_open hk hB hV (b_F_worthBehind_44 (zr hR ?_)))) (fun c => absurd (by decide) c)
      have := zpc_le (zfS B) 25
      unfold zwo
      rw [if_neg (by omega), if_neg (by omega), ziN (by omega)]
    · unfold zwo
      rcases (show zhow B = 1 ∨ zhow B = 2 by omega) with z | z
      · rw [z, if_neg (by decide), if_neg (by decide), if_pos (by decide)]; decide
      · rw [z, if_pos (by decide), if_pos (by decide)]; decide
  | n + 1, hn, d, k, B, σ, lo, hi, Rf, hk, hd, hB, hV, h7, hl, hlt, hh, hR => by
    have hw := zhow_lt (B := B)
    have h25 := hV.n
    have n4 := hV.1.2.2.1
    have h6 := hV.1.2.2.2.2.2.2.1
    have hk7 := zshT (m := n) (by omega)
    have en : nI (n + 1) - 1 = nI n := nI_s n
    have e3 : Int32.toNatClampNeg (nI n) = n := zc_nI (by omega)
    have hr := zwo_rng (n + 1) B hV (by omega)
    refine e_F_worthBehind (b_F_worthBehind_0 hk (p_B_outcome hk hB hV (b_F_worthBehind_4 (fun q => ?_) (fun q => d_F_worthBehind_11 (b_F_worthBehind_23 (zr (hR (zwo (n + 1) B) σ zFB.rf (zab_ex hr) (fun _ _ => ?_)) ?_)))))) <;> rw [zlit 0, zeq (by omega) (by omega)] at q
    · have rng : ∀ k, zcan B k = true → 0 ≤ zwo n (zdo B k) ∧ zwo n (zdo B k) ≤ 99 := fun k hk => zwo_rng n _ (zdo_V hV hk (by omega)) (by rw [zdo_7]; omega)
      have r5 := zva_rng (fx := decide (B 6 = 1)) (p := zcan B) (f := fun k => zwo n (zdo B k)) rng 500
      have hwv : zwo (n + 1) B = if zct (zcan B) 500 = 0 then zwo n (zend B) else (zva (decide (B 6 = 1)) (zcan B) (fun k => zwo n (zdo B k)) 500).1 := by
        rw [zwo, if_neg (by omega), if_neg (by omega)]
      have hbm : ∀ x, zbm (n + 1) B x = if (zva (decide (B 6 = 1)) (zcan B) (fun k => zwo n (zdo B k)) 500).2 = -1 then x else iI (zva (decide (B 6 = 1)) (zcan B) (fun k => zwo n (zdo B k)) 500).2 := fun x => zbm_s q (fun z => by have := (r5.2 z).2; omega) (fun z => by rw [r5.1 z])
      have child : ∀ (C : zB) (υ : ab_S) (l h : Int) (Q : Int32 → ab_S → Prop), zH υ (44 + 3 * n) C → zV C → C 7 + n < 100000 → -1 ≤ l → l < h → h ≤ 100 → (∀ r τ, zFB n υ τ → zab l h (zwo n C) r → Q (iI r) τ) → CA (d + n + 5) 105 [.ref 23, .ref 24, .ref (44 + 3 * n), .int (nI n), .int (iI l), .int (iI h)] υ (ab_rI Q) := fun C υ l h Q a1 a2 a3 a4 a5 a6 a7 => p_F_worthBehind n (by omega) d (44 + 3 * n) C υ l h Q hk7 (Or.inr (by omega)) a1 a2 a3 a4 a5 a6 (fun r τ x y _ => a7 r τ x y)
      -- the end of the loops
      have fin : ∀ (τ : ab_S), zFB (n + 1) σ τ → zbs n B (decide (B 6 = 1)) lo hi σ τ 500 → zlo (decide (B 6 = 1)) lo (zva (decide (B 6 = 1)) (zcan B) (fun k => zwo n (zdo B k)) 500).1 < zhi (decide (B 6 = 1)) hi (zva (decide (B 6 = 1)) (zcan B) (fun k => zwo n (zdo B k)) 500).1 → S_F_worthBehind_238 (d + n + 5) Rf k (nI (n + 1)) (iI (zlo (decide (B 6 = 1)) lo (zva (decide (B 6 = 1)) (zcan B) (fun k => zwo n (zdo B k)) 500).1)) (iI (zhi (decide (B 6 = 1)) hi (zva (decide (B 6 = 1)) (zcan B) (fun k => zwo n (zdo B k)) 500).1)) (44 + 3 * n) (zb (decide (B 6 = 1))) (zb (decide (0 < zct (zcan B) 500))) τ := by
        intro τ hF hb hlt2
        by_cases z : zct (zcan B) 500 = 0
        · have hBt : zH τ k B := hB.cong (fun a a1 a2 => hF.2.1 a (by omega) (by omega))
          rw [if_pos z] at hwv
          have ev := r5.1 z
          unfold zbs at hb
          rw [ev] at hb hlt2 ⊢
          have el : zlo (decide (B 6 = 1)) lo (if decide (B 6 = 1) = true then -1 else 1000000, (-1 : Int)).1 = lo := by
            unfold zlo; split <;> simp; omega
          have eh : zhi (decide (B 6 = 1)) hi (if decide (B 6 = 1) = true then -1 else 1000000, (-1 : Int)).1 = hi := by
            unfold zhi; split <;> simp; omega
          rw [el, eh, z]
          refine b_F_worthBehind_238 (fun _ => b_F_worthBehind_243 hk7 (p_B_copyFrom hk7 hk (by omega) hBt n4 (fun υ hυ hG => b_F_worthBehind_249 hk7 (p_B_endMove hk7 hυ h6 (fun φ hφ hL => b_F_worthBehind_254 ?_))))) (fun c => absurd rfl c)
          rw [en]
          refine child (zend B) φ lo hi _ hφ (zV_end hV (by omega)) (by rw [zend_7]; omega) hl hlt hh (fun r ψ hψ hz => b_F_worthBehind_268 ?_)
          have hFψ : zFB (n + 1) σ ψ := ((hF.tr (hG.fb (by omega))).tr (hL.fb (by omega))).tr (hψ.up (by omega))
          refine hR r ψ hFψ (by rw [hwv]; exact hz) (fun a b => ?_)
          rw [hψ.2.2 (n + 1) (by omega), hL.2 24 (by simp; omega), hG.2 24 (by simp; omega), hb a b, hbm, ev]
        · have z2 := r5.2 (by omega)
          rw [if_neg z] at hwv
          rw [decide_eq_true (show 0 < zct (zcan B) 500 by omega)]
          have fr : ∀ r, zab lo hi (zwo (n + 1) B) r → Rf (iI r) τ := fun r hz => hR r τ hF hz (fun a b => by rw [hbm]; exact hb a b)
          refine p_wb_end (fx := decide (B 6 = 1)) ?_
          rw [hwv] at fr
          generalize zva (decide (B 6 = 1)) (zcan B) (fun k => zwo n (zdo B k)) 500 = V at *
          unfold zlo zhi at hlt2 ⊢
          split
          · rename_i fxt
            rw [if_pos fxt, if_pos fxt] at hlt2
            exact fr _ ⟨fun _ => by omega, fun _ => by omega, fun _ _ => by omega, by omega, by omega⟩
          · rename_i fxt
            rw [if_neg fxt, if_neg fxt] at hlt2
            exact fr _ ⟨fun _ => by omega, fun _ => by omega, fun _ _ => by omega, by omega, by omega⟩
      have hwI : zwo (n + 1) B = (zva (decide (B 6 = 1)) (zcan B) (fun k => zwo n (zdo B k)) 500).1 ∨ zct (zcan B) 500 = 0 := by
        by_cases z : zct (zcan B) 500 = 0
        · exact Or.inr z
        · rw [if_neg z] at hwv; exact Or.inl hwv
      have movers : S_F_worthBehind_65 (d + n + 5) Rf k (nI (n + 1)) (iI lo) (iI hi) (44 + 3 * n) (zb (decide (B 6 = 1))) σ := by
        refine b_F_worthBehind_65 hk (p_B_lastMover hk hB hV (b_F_worthBehind_74 hk (p_B_firstMover hk hB hV (b_F_worthBehind_80 ?_))))
        by_cases t : B 6 = 1
        · rw [if_pos t, if_pos t]
          have none : ∀ k, k < 400 → zcan B k = false := fun k h => by
            unfold zcan; rw [if_neg (by omega), decide_eq_false (by omega)]; rfl
          have v0 : zva (decide (B 6 = 1)) (zcan B) (fun k => zwo n (zdo B k)) (100 * 4 + 0) = (if decide (B 6 = 1) = true then -1 else 1000000, -1) := zva_same (a := 0) (by omega) (fun k _ h => none k (by omega))
          have c0 : zct (zcan B) (100 * 4 + 0) = 0 := zct_same _ (a := 0) (by omega) (fun k _ h => none k (by omega))
          have v5 : zva (decide (B 6 = 1)) (zcan B) (fun k => zwo n (zdo B k)) 500 = zva (decide (B 6 = 1)) (zcan B) (fun k => zwo n (zdo B k)) (100 * 4 + 25) := zva_same (by omega) (fun k h1 h2 => zcan_hi hV (by omega))
          have c5 : zct (zcan B) 500 = zct (zcan B) (100 * 4 + 25) := zct_same _ (by omega) (fun k h1 h2 => zcan_hi hV (by omega))
          have fin2 := fin
          unfold zbs at fin2
          rw [v5, c5] at fin2
          have st := p_wb_inner (d := d) (last := nI 4) (who := 4) (fx := decide (B 6 = 1)) (Rf := Rf) hk (by omega) hd hB hV h7 hl hh hwI child hR (by omega) (zfS_lt hV) (Or.inl rfl) (fun c hc => by rw [show 100 * 4 + c = 400 + c by omega, zcan_F (by omega), decide_eq_true t, Bool.true_and]) (fun τ a b c => b_F_worthBehind_232 (b_F_worthBehind_82 (fun _ => fin2 τ a b c) (fun x => absurd (by decide) x))) 25 0 σ (by omega) (by omega) zFB.rf (fun _ _ => by rw [v0]; simp) (by rw [v0, decide_eq_true t]; simp [zlo, zhi]; omega)
          rw [v0, c0, decide_eq_true t] at st
          simp only [zlo, zhi, if_true] at st
          rw [show max lo (-1) = lo by omega] at st
          rw [decide_eq_true t]
          exact b_F_worthBehind_82 (fun x => absurd x (by decide)) (fun _ => b_F_worthBehind_89 (fun x => absurd x (by rw [fa_le, zi (by omega), zi (by omega)]; omega)) (fun _ => b_F_worthBehind_96 hk (p_B_reachF hk hB hV (b_F_worthBehind_102 st))))
        · rw [if_neg t, if_neg t]
          have t0 : B 6 = 0 := by omega
          have key : ∀ m i (τ : ab_S), B 2 - i ≤ m → i ≤ B 2 → zFB (n + 1) σ τ → zbs n B (decide (B 6 = 1)) lo hi σ τ (100 * i) → zlo (decide (B 6 = 1)) lo (zva (decide (B 6 = 1)) (zcan B) (fun k => zwo n (zdo B k)) (100 * i)).1 < zhi (decide (B 6 = 1)) hi (zva (decide (B 6 = 1)) (zcan B) (fun k => zwo n (zdo B k)) (100 * i)).1 → S_F_worthBehind_82 (d + n + 5) Rf k (nI (n + 1)) (iI (zlo (decide (B 6 = 1)) lo (zva (decide (B 6 = 1)) (zcan B) (fun k => zwo n (zdo B k)) (100 * i)).1)) (iI (zhi (decide (B 6 = 1)) hi (zva (decide (B 6 = 1)) (zcan B) (fun k => zwo n (zdo B k)) (100 * i)).1)) (44 + 3 * n) (zb (decide (B 6 = 1))) (zb (decide (0 < zct (zcan B) (100 * i)))) (zc (B 2)) (nI i) τ := by
            intro m
            induction m with
            | zero =>
              intro i τ q1 q2 hF hb hlt2
              have : i = B 2 := by omega
              subst this
              have off : ∀ k, 100 * B 2 ≤ k → k < 500 → zcan B k = false := fun k h1 h2 => by
                unfold zcan
                split
                · rw [decide_eq_false t]; rfl
                · rw [decide_eq_false (show ¬ k / 100 < B 2 by omega)]; simp
              have v5 : zva (decide (B 6 = 1)) (zcan B) (fun k => zwo n (zdo B k)) 500 = zva (decide (B 6 = 1)) (zcan B) (fun k => zwo n (zdo B k)) (100 * B 2) := zva_same (by omega) off
              have c5 : zct (zcan B) 500 = zct (zcan B) (100 * B 2) := zct_same _ (by omega) off
              have fin2 := fin
              unfold zbs at fin2
              rw [v5, c5] at fin2
              exact b_F_worthBehind_82 (fun _ => fin2 τ hF hb hlt2) (fun x => absurd (by rw [fa_lt, zc_toInt (by omega), zn (by omega)]; omega) x)
            | succ m ih =>
              intro i τ q1 q2 hF hb hlt2
              by_cases qi : i = B 2
              · exact ih i τ (by omega) q2 hF hb hlt2
              have hBt : zH τ k B := hB.cong (fun a a1 a2 => hF.2.1 a (by omega) (by omega))
              have off : ∀ k, 100 * i + 25 ≤ k → k < 100 * (i + 1) → zcan B k = false := fun k h1 h2 => zcan_hi hV (by omega)
              have v5 : zva (decide (B 6 = 1)) (zcan B) (fun k => zwo n (zdo B k)) (100 * (i + 1)) = zva (decide (B 6 = 1)) (zcan B) (fun k => zwo n (zdo B k)) (100 * i + 25) := zva_same (by omega) off
              have c5 : zct (zcan B) (100 * (i + 1)) = zct (zcan B) (100 * i + 25) := zct_same _ (by omega) off
              have rr := zva_rng (fx := decide (B 6 = 1)) (p := zcan B) (f := fun k => zwo n (zdo B k)) rng (100 * i)
              have st := p_wb_inner (d := d) (last := zc (B 2)) (who := i) (fx := decide (B 6 = 1)) (Rf := Rf) hk (by omega) hd hB hV h7 hl hh hwI child hR (by omega) (zgS_lt hV i) (Or.inr (by omega)) (fun c hc => by rw [zcan_G (by omega) n4 (by omega), decide_eq_true t0, Bool.true_and]) (fun υ a b c => b_F_worthBehind_232 (by
                have nx := ih (i + 1) υ (by omega) (by omega) a (by unfold zbs at b ⊢; rw [v5]; exact b) (by rw [v5]; exact c)
                rw [v5, c5, ← nI_1 i] at nx
                exact nx)) 25 0 τ (by omega) (by omega) hF hb hlt2
              have hlr : (-1 ≤ zlo (decide (B 6 = 1)) lo (zva (decide (B 6 = 1)) (zcan B) (fun k => zwo n (zdo B k)) (100 * i)).1) ∧ zhi (decide (B 6 = 1)) hi (zva (decide (B 6 = 1)) (zcan B) (fun k => zwo n (zdo B k)) (100 * i)).1 ≤ 100 := by
                unfold zlo zhi; split <;> omega
              refine b_F_worthBehind_82 (fun x => absurd x (by rw [fa_lt, zc_toInt (by omega), zn (by omega)]; omega)) (fun _ => b_F_worthBehind_89 (fun x => absurd x ?_) (fun _ => b_F_worthBehind_96 hk (p_B_reachG hk hBt hV (by omega) (b_F_worthBehind_102 st))))
              rw [fa_le, zi (by omega), zi (by omega)]; omega
          have v0 : zva (decide (B 6 = 1)) (zcan B) (fun k => zwo n (zdo B k)) (100 * 0) = (if decide (B 6 = 1) = true then -1 else 1000000, -1) := rfl
          have st := key (B 2) 0 σ (by omega) (by omega) zFB.rf (fun _ _ => by rw [v0]; simp) (by rw [v0, decide_eq_false t]; simp [zlo, zhi]; omega)
          rw [v0, decide_eq_false t] at st
          simp only [zlo, zhi, Bool.false_eq_true, if_false] at st
          rw [show min hi 1000000 = hi by omega] at st
          rw [decide_eq_false t]
          exact st
      refine b_F_worthBehind_24 (fun c => absurd c (by rw [zlit 0, zle (by omega) (by omega)]; omega)) (fun _ => b_F_worthBehind_28 (fun c => absurd c (by rw [zlt (by omega) (by omega)]; omega)) (fun _ => b_F_worthBehind_34 (fun _ => b_F_worthBehind_45 hk (by rw [en]; exact vp_in_nI (by omega) (by omega)) (fun t => b_F_worthBehind_60 ?_) (fun t => b_F_worthBehind_64 ?_)) (fun c => absurd (by rw [zlt (by omega) (by omega)]; omega) c))) <;> rw [hB.2.2.2.2.2.2.1, zlit 1, zeq (by omega) (by omega)] at t <;> rw [en, e3]
      · rw [decide_eq_true t] at movers; exact movers
      · rw [decide_eq_false t] at movers; exact movers
    · unfold zbm; dsimp only; rw [if_neg (by omega)]
    · unfold zwo
      rcases (show zhow B = 1 ∨ zhow B = 2 by omega) with z | z
      · rw [z, if_neg (by decide), if_neg (by decide), if_pos (by decide)]; decide
      · rw [z, if_pos (by decide), if_pos (by decide)]; decide
def zO_worth (S : zS) (x : Int32) : Int32 × zS := if zw x 0 4 = true then (iI (zwo x.toNatClampNeg S.1.1), S) else (-2, zbump S 0)
def zO_best (S : zS) (x : Int32) : Int32 × zS := if zw x 1 4 = true then (zbm x.toNatClampNeg S.1.1 (-1), S) else (-2, zbump S 0)
theorem zO_worth_V {S : zS} {x : Int32} (hV : zSV S) : zSV (zO_worth S x).2 := by
  unfold zO_worth; split
  · exact hV
  · exact zbump_V hV
theorem zO_best_V {S : zS} {x : Int32} (hV : zSV S) : zSV (zO_best S x).2 := by
  unfold zO_best; split
  · exact hV
  · exact zbump_V hV
theorem zw_14 {x : Int32} (h : zw x 1 4 = true) : ∃ n : Nat, (1 ≤ n ∧ n ≤ 4) ∧ x = nI n := by
  have := zw_iff.mp h
  have hb := fb_rng x
  exact ⟨x.toInt.toNat, by omega, by rw [fa_eq, zn (by omega)]; omega⟩
theorem zFB.iF {S : zS} {τ : ab_S} (hI : zIF σ S) (h : zFB n σ τ) (hn : n ≤ 4) : zIF τ S := hI.scr (fun a ha => h.2.1 a (by omega) (by omega)) (by rw [h.2.1 12 (by omega) (by omega)]) (by rw [h.1]) (by rw [h.1])
theorem zFB.kf {τ : ab_S} (h : zFB n σ τ) (hn : n ≤ 4) : zKF σ τ := fun a ha => ⟨h.2.1 a (by omega) (by omega), by rw [h.1]⟩
theorem p_F_worth {S : zS} {x : Int32} (hI : zIF σ S) (hV : zSV S) (h : ∀ τ, zIF τ (zO_worth S x).2 → zKF σ τ → Rf (zO_worth S x).1 τ) : CA (d + 10) 81 [.ref 0, .int x] σ (ab_rI Rf) := by
  have h7 := hV.1.2.1
  have hB : zH σ 2 S.1.1 := hI.1.1
  refine e_F_worth (b_F_worth_0 (p_F_within (lo := 0) (hi := 4) (by decide) (by decide) (b_F_worth_6 (fun q => ?_) (fun q => b_F_worth_16 ?_))))
  · rw [zO_worth, if_neg (by rw [zb_0.mp q]; decide)] at h
    exact b_F_worth_9 (p_F_bad hI (fun τ a b => b_F_worth_15 (h τ a b)))
  · rw [zO_worth, if_pos (nbt q)] at h
    obtain ⟨n, hn, rfl⟩ := zw_n (m := 4) (nbt q)
    rw [zc_nI (by omega)] at h
    have hr := zwo_rng n S.1.1 hV.1.1 (by omega)
    have t := p_F_worthBehind n hn (d + (4 - n)) 2 S.1.1 σ (-1) 100 (fun r σ' => S_F_worth_38 (d + 9) Rf r σ') zsh2 (Or.inl rfl) hB hV.1.1 (by omega) (by omega) (by omega) (by omega) (fun r τ hF hz _ => by
      have e : r = zwo n S.1.1 := hz.2.2.1 (by omega) (by omega)
      rw [e]
      exact b_F_worth_38 (h τ (hF.iF hI hn) (hF.kf hn)))
    have e : d + (4 - n) + n + 5 = d + 9 := by omega
    rw [e] at t
    exact t
theorem p_F_best {S : zS} {x : Int32} (hI : zIF σ S) (hV : zSV S) (h : ∀ τ, zIF τ (zO_best S x).2 → zKF σ τ → Rf (zO_best S x).1 τ) : CA (d + 10) 82 [.ref 0, .int x] σ (ab_rI Rf) := by
  have h7 := hV.1.2.1
  have hB : zH σ 2 S.1.1 := hI.1.1
  refine e_F_best (b_F_best_0 (p_F_within (lo := 1) (hi := 4) (by decide) (by decide) (b_F_best_6 (fun q => ?_) (fun q => ?_))))
  · rw [zO_best, if_neg (by rw [zb_0.mp q]; decide)] at h
    exact b_F_best_9 (p_F_bad hI (fun τ a b => b_F_best_15 (h τ a b)))
  · rw [zO_best, if_pos (nbt q)] at h
    obtain ⟨n, hn, rfl⟩ := zw_14 (nbt q)
    rw [zc_nI (by omega)] at h
    have e0 : Int32.toNatClampNeg (nI n) = n := zc_nI (by omega)
    refine b_F_best_16 (vp_in_nI (by omega) (by omega)) ?_
    rw [e0]
    have hp : zFB n σ (ab_pI σ.1 24 n (-1), σ.2) := zFB.put (by omega)
    have t := p_F_worthBehind n (by omega) (d + (4 - n)) 2 S.1.1 (ab_pI σ.1 24 n (-1), σ.2) (-1) 100 (fun r σ' => S_F_best_45 (d + 9) Rf (nI n) r σ') zsh2 (Or.inl rfl) (hB.cong (fun a a1 a2 => hp.2.1 a (by omega) (by omega))) hV.1.1 (by omega) (by omega) (by omega) (by omega) (fun r τ hF hz hb => by
      refine b_F_best_45 (vp_in_nI (by omega) (by omega)) ?_
      have hF2 := hp.tr hF
      rw [e0, hb rfl rfl]
      dsimp only
      rw [zp_s]
      exact h τ (hF2.iF hI (by omega)) (hF2.kf (by omega)))
    have e : d + (4 - n) + n + 5 = d + 9 := by omega
    rw [e] at t
    exact t
end WF
