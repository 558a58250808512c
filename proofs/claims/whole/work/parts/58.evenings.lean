/-! evenings, both sides -/
def zplay (B : zB) (x : Nat) : zB := if zct (zcan B) 500 = 0 then zend B else zdo B (znth (zcan B) (x % zct (zcan B) 500))
def zlcg (x : Nat) : Nat := (x * 1103515245 + 12345) % 2147483648
def zeve : Nat → zB → Nat → zB
  | 0, B, _ => B
  | n + 1, B, x => if zhow B = 0 then zeve n (zplay B (zlcg x / 65536)) (zlcg x) else B
theorem znth_p {p : Nat → Bool} {j : Nat} (h : j < zct p 500) : znth p j < 500 ∧ p (znth p j) = true := by
  -- some k has p k and zct p k = j
  have ex : ∀ n, j < zct p n → ∃ k, k < n ∧ p k = true ∧ zct p k = j := by
    intro n
    induction n with
    | zero => intro q; simp [zct] at q
    | succ n ih =>
      intro q
      by_cases z : j < zct p n
      · obtain ⟨k, a, b, c⟩ := ih z
        exact ⟨k, by omega, b, c⟩
      · rw [zct] at q
        cases hp : p n with
        | false => rw [hp] at q; simp at q; omega
        | true => rw [hp] at q; simp at q; exact ⟨n, by omega, hp, by omega⟩
  obtain ⟨k, a, b, c⟩ := ex 500 h
  rw [znth_eq a b c]
  exact ⟨a, b⟩
theorem zplay_7 {B : zB} {x : Nat} : zplay B x 7 = B 7 + 1 := by unfold zplay; split; rfl; exact zdo_7
theorem zplay_V {B : zB} {x : Nat} (hV : zV B) (h7 : B 7 + 1 < 100000) : zV (zplay B x) := by
  unfold zplay
  split
  · exact zV_end hV h7
  · rename_i q
    exact zdo_V hV (znth_p (Nat.mod_lt _ (by omega))).2 h7
theorem zlcg_lt (x : Nat) : zlcg x < 2147483648 := Nat.mod_lt _ (by omega)
theorem zlcg_L {x : Nat} (h : x < 2147483648) : ((lN x * 1103515245) + 12345) - ((lN x * 1103515245) + 12345) / 2147483648 * 2147483648 = lN (zlcg x) := by
  have e : (lN x * 1103515245) + 12345 = lN (x * 1103515245 + 12345) := by
    rw [fa_litL 1103515245, lN_mul, fa_litL 12345, lN_add]
  rw [e, fa_litL 2147483648, pk_lRem (by omega) (by omega) (by omega)]
  rfl
theorem zlcg_D {x : Nat} (h : x < 2147483648) : lN x / 65536 = lN (x / 65536) := by
  rw [fa_litL 65536, pk_lDiv (by omega) (by omega) (by omega)]
theorem zpick {x w : Nat} (hx : x < 2147483648) (h0 : 0 < w) (hw : w < 2147483648) : Int64.toInt32 (lN x - lN x / Int32.toInt64 (nI w) * Int32.toInt64 (nI w)) = nI (x % w) := by
  rw [nI_l (by omega), pk_lRem (by omega) h0 (by omega), lN_i]
theorem zw_999 {x : Int32} (h : zw x 0 999999 = true) : ∃ n, n ≤ 999999 ∧ x = nI n := zw_n (m := 999999) h
section EV
variable {d : Nat} {S : zS} {σ : ab_S}
theorem p_F_playNumber {k x : Nat} {B : zB} {Rf : ab_S → Prop} (hk : ab_sh k = (0, 0)) (hB : zH σ k B) (hV : zV B) (hx : x < 2147483648) (h : ∀ τ, zH τ k (zplay B x) → zF (zks k) σ τ → Rf τ) : CA (d + 5) 113 [.ref k, .long (lN x)] σ (ab_rV Rf) := by
  have h25 := hV.n
  obtain ⟨⟨-, -, n4, -, -, -, h6, -⟩, -⟩ := id hV
  have ec := zcm_ct hV
  have hw : zct (zcan B) 500 ≤ 100 := by
    rw [← ec]; unfold zcm
    split
    · have := zpc_le (zfS B) 25; omega
    · have := zgc_le B (B 2); omega
  refine e_F_playNumber (b_F_playNumber_0 hk (p_B_countMoves hk hB hV ?_))
  rw [ec]
  refine b_F_playNumber_4 (fun q => ?_) (fun q => b_F_playNumber_9 hk (p_B_endMove hk hB h6 (fun τ hτ hF => b_F_playNumber_13 (h τ ?_ hF)))) <;> rw [zlit 0, zlt (by omega) (by omega)] at q
  · have hp : zplay B x = zdo B (znth (zcan B) (x % zct (zcan B) 500)) := by unfold zplay; rw [if_neg (by omega)]
    have hj := Nat.mod_lt x (show zct (zcan B) 500 > 0 by omega)
    rw [hp] at h
    refine b_F_playNumber_14 hk (by rw [nI_l (by omega), fa_litL 0, pk_lEQ (by omega) (by omega)]; omega) (p_B_lastMover hk hB hV (b_F_playNumber_25 hk (p_B_firstMover hk hB hV (b_F_playNumber_31 ?_))))
    rw [zpick hx (by omega) (by omega)]
    generalize x % zct (zcan B) 500 = j at *
    -- one of the movers: its cells
    have inner : ∀ (who cells : Nat) (last : Int32), who ≤ 4 → cells < 33554432 → (who = 4 ∨ who < B 2) → (∀ c, c < 25 → zcan B (100 * who + c) = cells.testBit c) → (zct (zcan B) (100 * who + 25) ≤ j → S_F_playNumber_95 (d + 4) Rf k (nI (j - zct (zcan B) (100 * who + 25))) last (nI who) σ) →
        ∀ n c, 25 - c ≤ n → c ≤ 25 → zct (zcan B) (100 * who + c) ≤ j → S_F_playNumber_51 (d + 4) Rf k (nI (j - zct (zcan B) (100 * who + c))) last (nI who) (nI cells) (nI c) σ := by
      intro who cells last hw4 hcl hwho hcan hnx n
      induction n with
      | zero =>
        intro c q1 q2 q3
        have : c = 25 := by omega
        subst this
        exact b_F_playNumber_51 (fun _ => hnx q3) (fun c => absurd (by decide) c)
      | succ n ih =>
        intro c q1 q2 q3
        by_cases qc : c = 25
        · exact ih c (by omega) q2 q3
        refine b_F_playNumber_51 (fun w => absurd w (by rw [zlit 25, zle (by omega) (by omega)]; omega)) (fun _ => b_F_playNumber_58 (fun w => b_F_playNumber_68 (b_F_playNumber_89 ?_)) (fun w => ?_)) <;> rw [zbit (by omega) (by omega), zb_0, ← hcan c (by omega)] at w
        · have e : zct (zcan B) (100 * who + (c + 1)) = zct (zcan B) (100 * who + c) := by rw [← Nat.add_assoc, zct, w]; rfl
          have hn := ih (c + 1) (by omega) (by omega) (by omega)
          rw [e, ← nI_1] at hn
          exact hn
        · have w := Bool.not_eq_false _ |>.mp w
          have e : zct (zcan B) (100 * who + (c + 1)) = zct (zcan B) (100 * who + c) + 1 := by rw [← Nat.add_assoc]; exact zct_s w
          have hcb := zcan_c w
          refine b_F_playNumber_71 (fun z => ?_) (fun z => b_F_playNumber_86 (b_F_playNumber_89 ?_)) <;> rw [zlit 0, zeq (by omega) (by omega)] at z
          · have en : znth (zcan B) j = 100 * who + c := znth_eq (by omega) w (by omega)
            rw [en] at h
            refine b_F_playNumber_76 hk ?_
            have e1 : (100 * who + c) / 100 = who := by omega
            have e2 : (100 * who + c) % 100 = c := by omega
            unfold zdo at h
            rw [e1, e2] at h
            rcases hwho with rfl | hwho
            · rw [if_pos rfl] at h
              exact p_B_stepF hk hB hV (by omega) (fun τ hτ hF => b_F_playNumber_84 (h τ hτ hF))
            · rw [if_neg (by omega)] at h
              exact p_B_stepG hk hB hV hwho (fun τ hτ hF => b_F_playNumber_84 (h τ hτ hF))
          · have hn := ih (c + 1) (by omega) (by omega) (by omega)
            rw [e, ← nI_1] at hn
            have e3 : nI (j - zct (zcan B) (100 * who + c)) + (-1) = nI (j - (zct (zcan B) (100 * who + c) + 1)) := by
              obtain ⟨m, hm⟩ : ∃ m, j - zct (zcan B) (100 * who + c) = m + 1 := ⟨j - zct (zcan B) (100 * who + c) - 1, by omega⟩
              rw [hm, show j - (zct (zcan B) (100 * who + c) + 1) = m by omega, ← Int32.sub_eq_add_neg]
              exact nI_s m
            rw [e3]
            exact hn
    by_cases t : B 6 = 1
    · rw [if_pos t, if_pos t]
      have e0 : zct (zcan B) (100 * 4 + 0) = 0 := by
        have : zct (zcan B) 400 = zct (zcan B) 0 := zct_same _ (by omega) (fun k _ h => by
          unfold zcan; rw [if_neg (by omega), decide_eq_false (by omega)]; rfl)
        exact this
      have e1 : zct (zcan B) (100 * 4 + 25) = zct (zcan B) 500 := (zct_same _ (by omega) (fun k h1 h2 => zcan_hi hV (by omega))).symm
      refine b_F_playNumber_33 (fun c => absurd c (by decide)) (fun _ => b_F_playNumber_40 hk (p_B_reachF hk hB hV (b_F_playNumber_46 ?_)))
      have := inner 4 (zfS B) (nI 4) (by omega) (zfS_lt hV) (Or.inl rfl) (fun c hc => by rw [show 100 * 4 + c = 400 + c by omega, zcan_F (by omega), decide_eq_true t, Bool.true_and]) (fun q => absurd q (by omega)) 25 0 (by omega) (by omega) (by omega)
      rw [e0] at this
      exact this
    · rw [if_neg t, if_neg t]
      have t0 : B 6 = 0 := by omega
      have key : ∀ n i, B 2 - i ≤ n → i ≤ B 2 → zct (zcan B) (100 * i) ≤ j → S_F_playNumber_33 (d + 4) Rf k (nI (j - zct (zcan B) (100 * i))) (zc (B 2)) (nI i) σ := by
        intro n
        induction n with
        | zero =>
          intro i q1 q2 q3
          have : i = B 2 := by omega
          subst this
          have e : zct (zcan B) 500 = zct (zcan B) (100 * B 2) := zct_same _ (by omega) (fun k h1 h2 => by
            unfold zcan
            split
            · rw [decide_eq_false t]; rfl
            · rw [decide_eq_false (show ¬ k / 100 < B 2 by omega)]; simp)
          omega
        | succ n ih =>
          intro i q1 q2 q3
          by_cases qi : i = B 2
          · exact ih i (by omega) q2 q3
          refine b_F_playNumber_33 (fun c => absurd c ?_) (fun _ => b_F_playNumber_40 hk (p_B_reachG hk hB hV (by omega) (b_F_playNumber_46 ?_)))
          · rw [fa_lt, zc_toInt (by omega), zn (by omega)]; omega
          · have e1 : zct (zcan B) (100 * (i + 1)) = zct (zcan B) (100 * i + 25) := zct_same _ (by omega) (fun k h1 h2 => zcan_hi hV (by omega))
            refine inner i (zgS B i) (zc (B 2)) (by omega) (zgS_lt hV i) (Or.inr (by omega)) (fun c hc => by rw [zcan_G (by omega) n4 (by omega), decide_eq_true t0, Bool.true_and]) (fun q => b_F_playNumber_95 ?_) 25 0 (by omega) (by omega) q3
            rw [nI_1, ← e1]
            exact ih (i + 1) (by omega) (by omega) (by omega)
      exact key (B 2) 0 (by omega) (by omega) (Nat.zero_le _)
  · unfold zplay
    rw [if_pos (by omega)]
    exact hτ
def zO_evenings (S : zS) (x y : Int32) : Int32 × zS := if (zw x 0 999999 && zw y 0 60) = true then (nI (zhow (zeve y.toNatClampNeg S.1.1 x.toNatClampNeg)), S) else (-2, zbump S 0)
theorem zO_evenings_V {x y : Int32} (hV : zSV S) : zSV (zO_evenings S x y).2 := by
  unfold zO_evenings; split
  · exact hV
  · exact zbump_V hV
theorem p_F_evenings {x y : Int32} {Rf : Int32 → ab_S → Prop} (hI : zIF σ S) (hV : zSV S) (h : ∀ τ, zIF τ (zO_evenings S x y).2 → zKF σ τ → Rf (zO_evenings S x y).1 τ) : CA (d + 6) 92 [.ref 0, .int x, .int y] σ (ab_rI Rf) := by
  have h7 := hV.1.2.1
  have hv := hV.1.1
  have hB : zH σ 2 S.1.1 := hI.1.1
  have no : (zw x 0 999999 && zw y 0 60) = false → S_F_evenings_20 (d + 5) Rf σ := fun q => by
    rw [zO_evenings, if_neg (by rw [q]; decide)] at h
    exact b_F_evenings_20 (p_F_bad hI (fun τ a b => b_F_evenings_26 (h τ a b)))
  refine e_F_evenings (b_F_evenings_0 (p_F_within (lo := 0) (hi := 999999) (by decide) (by decide) (b_F_evenings_7 (fun q => no ?_) (fun q => b_F_evenings_10 (p_F_within (lo := 0) (hi := 60) (by decide) (by decide) (b_F_evenings_17 (fun q2 => no ?_) (fun q2 => b_F_evenings_27 ?_)))))))
  · rw [zb_0.mp q]; rfl
  · rw [zb_0.mp q2]; simp
  · rw [zO_evenings, if_pos (by rw [nbt q, nbt q2]; rfl)] at h
    obtain ⟨sd, hs, rfl⟩ := zw_999 (nbt q)
    obtain ⟨n, hn, rfl⟩ := zw_n (m := 60) (nbt q2)
    rw [zc_nI (by omega), zc_nI (by omega)] at h
    have hsh : ab_sh 44 = (0, 0) := rfl
    have h : ∀ τ, zF (zks 44) σ τ → Rf (nI (zhow (zeve n S.1.1 sd))) τ := fun τ hF => h τ (hI.scr (fun a ha => hF.2 a (by simp; omega)) (by rw [hF.2 12 (by simp)]) (by rw [hF.1]) (by rw [hF.1])) (hF.kf (by simp))
    generalize S.1.1 = B0 at *
    refine p_B_copyFrom (k := 44) (k1 := 2) hsh zsh2 (by omega) hB hv.1.2.2.1 (fun τ hτ hF => b_F_evenings_45 ?_)
    rw [nI_l (by omega)]
    have fin : ∀ (B : zB) (υ : ab_S), zV B → zH υ 44 B → zF (zks 44) σ υ → (∀ τ, zF (zks 44) σ τ → Rf (nI (zhow B)) τ) → S_F_evenings_97 (d + 5) Rf 44 υ := fun B υ v hH hF hr => b_F_evenings_97 hsh (p_B_outcome hsh hH v (b_F_evenings_101 (hr υ hF)))
    have key : ∀ f k x (B : zB) (υ : ab_S), f + k = n → x < 2147483648 → zV B → B 7 ≤ 9999 + k → zH υ 44 B → zF (zks 44) σ υ → (∀ τ, zF (zks 44) σ τ → Rf (nI (zhow (zeve f B x))) τ) → S_F_evenings_52 (d + 5) Rf (nI n) 44 (lN x) (nI k) υ := by
      intro f
      induction f with
      | zero =>
        intro k x B υ q1 q2 v v7 hH hF hr
        have : k = n := by omega
        subst this
        exact b_F_evenings_52 (fun _ => fin B υ v hH hF hr) (fun c => absurd (Int32.le_refl _) c)
      | succ f ih =>
        intro k x B υ q1 q2 v v7 hH hF hr
        have hl := zhow_lt (B := B)
        have hx := zlcg_lt x
        simp only [zeve] at hr
        refine b_F_evenings_52 (fun c => absurd c (by rw [zle (by omega) (by omega)]; omega)) (fun _ => b_F_evenings_58 hsh (p_B_outcome hsh hH v (b_F_evenings_62 (fun w => b_F_evenings_65 ?_) (fun w => fin B υ v hH hF ?_)))) <;> rw [zlit 0, zeq (by omega) (by omega)] at w
        · rw [if_pos w] at hr
          rw [zlcg_L q2, zlcg_D hx]
          refine p_F_playNumber hsh hH v (by omega) (fun φ hφ hG => b_F_evenings_91 ?_)
          rw [nI_1]
          exact ih (k + 1) (zlcg x) _ φ (by omega) hx (zplay_V v (by omega)) (by rw [zplay_7]; omega) hφ (hF.tr hG) hr
        · rw [if_neg w] at hr; exact hr
    exact key n 0 sd B0 τ (by omega) (by omega) hv (by omega) hτ hF h
theorem p_M_eplay {B : zB} {υ : ab_S} {Rf : Int32 → ab_S → Prop} {n k : Int32} {X : Nat} (hH : zR υ 540 B) (v : zV B) (hx : X < 2147483648) (nxt : ∀ φ, zR φ 540 (zplay B (X / 65536)) → zFR 540 556 υ φ → S_M_evenings_180 (d + 7) Rf n (lN X) k φ) : CA (d + 7) 180 [.ref 56, .int 540, .int (-1)] υ (ab_rI fun r σ' => S_M_evenings_88 (d + 7) Rf n (lN X) k 0 r σ') := by
  have ec := zcm_ct v
  have hw : zct (zcan B) 500 ≤ 100 := by
    have := v.1.2.2.1
    rw [← ec]; unfold zcm
    split
    · have := zpc_le (zfS B) 25; omega
    · have := zgc_le B (B 2); omega
  have cntd : S_M_evenings_112 (d + 7) Rf n (lN X) k (nI (zct (zcan B) 500)) υ := by
    refine b_M_evenings_112 (fun z => b_M_evenings_117 (p_M_ends (r := 540) hH v.1.2.2.1 v.1.2.2.2.2.2.2.1 (by omega) (fun φ hφ hG => b_M_evenings_124 (nxt φ ?_ hG)))) (fun z => ?_) <;> rw [zlit 0, zeq (by omega) (by omega)] at z
    · unfold zplay; rw [if_pos z]; exact hφ
    · have hj := Nat.mod_lt (X / 65536) (show zct (zcan B) 500 > 0 by omega)
      have hp : zplay B (X / 65536) = zdo B (znth (zcan B) (X / 65536 % zct (zcan B) 500)) := by unfold zplay; rw [if_neg z]
      rw [hp] at nxt
      clear hp
      generalize hJ : X / 65536 % zct (zcan B) 500 = j at *
      have pick : ∀ m k2, 500 - k2 ≤ m → k2 < 500 → zcan B k2 = true → zct (zcan B) k2 ≤ j → S_M_evenings_149 (d + 7) Rf n (lN X) k (nI k2) (nI (j - zct (zcan B) k2)) υ := by
        intro m
        induction m with
        | zero => intro k2 r1 r2; omega
        | succ m ih2 =>
          intro k2 r1 r2 r3 r4
          refine b_M_evenings_149 (fun w2 => b_M_evenings_171 ?_) (fun w2 => b_M_evenings_154 ?_) <;> rw [zlit 0, zle (by omega) (by omega)] at w2
          · refine p_M_does (r := 540) hH v (by omega) r2 r3 (fun φ hφ hG => nxt φ ?_ hG)
            rw [znth_eq r2 r3 (show zct (zcan B) k2 = j by omega)]
            exact hφ
          · have s1 := zct_s r3
            have hlt : znx (zcan B) (k2 + 1) < 500 := by
              rcases Nat.lt_or_ge (znx (zcan B) (k2 + 1)) 500 with g | g
              · exact g
              · have := zct_nx (p := zcan B) (b := k2 + 1) (by omega)
                have e5 : znx (zcan B) (k2 + 1) = 500 := by have := znx_le (zcan B) (k2 + 1); omega
                rw [e5] at this
                omega
            obtain ⟨y1, y2⟩ := znx_yes hlt
            have y3 := zct_nx (p := zcan B) (b := k2 + 1) (by omega)
            refine p_M_nextMove (r := 540) (b := k2 + 1) hH v (by omega) (nI_1 _) (by omega) ?_
            rw [if_pos hlt]
            refine b_M_evenings_163 ?_
            have hn := ih2 (znx (zcan B) (k2 + 1)) (by omega) hlt y2 (by omega)
            have e3 : nI (j - zct (zcan B) k2) + (-1) = nI (j - zct (zcan B) (znx (zcan B) (k2 + 1))) := by
              obtain ⟨m, hm⟩ : ∃ m, j - zct (zcan B) k2 = m + 1 := ⟨j - zct (zcan B) k2 - 1, by omega⟩
              rw [hm, show j - zct (zcan B) (znx (zcan B) (k2 + 1)) = m by omega, ← Int32.sub_eq_add_neg]
              exact nI_s m
            rw [e3]
            exact hn
      have hlt : znx (zcan B) 0 < 500 := by
        rcases Nat.lt_or_ge (znx (zcan B) 0) 500 with g | g
        · exact g
        · have := zct_nx (p := zcan B) (b := 0) (by omega)
          have e5 : znx (zcan B) 0 = 500 := by have := znx_le (zcan B) 0; omega
          rw [e5] at this
          exact absurd (this.trans rfl) z
      obtain ⟨-, y2⟩ := znx_yes hlt
      have y3 : zct (zcan B) (znx (zcan B) 0) = 0 := zct_nx (p := zcan B) (b := 0) (by omega)
      refine b_M_evenings_127 (by rw [nI_l (by omega), fa_litL 0, pk_lEQ (by omega) (by omega)]; omega) (p_M_nextMove (r := 540) (b := 0) hH v (by omega) (by decide) (by omega) ?_)
      rw [if_pos hlt, zlcg_D hx, zpick (by omega) (by omega) (by omega), hJ]
      refine b_M_evenings_147 ?_
      have := pick 500 (znx (zcan B) 0) (by omega) hlt y2 (by omega)
      rw [y3] at this
      exact this
  have cnt : ∀ m k2, 500 - k2 ≤ m → k2 ≤ 500 → (k2 < 500 → zcan B k2 = true) → S_M_evenings_90 (d + 7) Rf n (lN X) k (nI (zct (zcan B) k2)) (if k2 < 500 then nI k2 else -1) υ := by
    intro m
    induction m with
    | zero =>
      intro k2 r1 r2 r3
      have : k2 = 500 := by omega
      subst this
      rw [if_neg (by omega)]
      exact b_M_evenings_90 (fun _ => cntd) (fun c => absurd (by decide) c)
    | succ m ih2 =>
      intro k2 r1 r2 r3
      by_cases qk : k2 = 500
      · exact ih2 k2 (by omega) r2 r3
      have s1 := zct_s (r3 (by omega))
      have y3 := zct_nx (p := zcan B) (b := k2 + 1) (by omega)
      have y4 := znx_ge (p := zcan B) (b := k2 + 1) (by omega)
      rw [if_pos (by omega)]
      refine b_M_evenings_90 (fun c => absurd c (by rw [zlit 0, zlt (by omega) (by omega)]; omega)) (fun _ => b_M_evenings_95 (p_M_nextMove (r := 540) (b := k2 + 1) hH v (by omega) (nI_1 _) (by omega) (b_M_evenings_107 ?_)))
      have hn := ih2 (znx (zcan B) (k2 + 1)) (by omega) (znx_le _ _) (fun g => (znx_yes g).2)
      rw [nI_1, ← s1, ← y3]
      exact hn
  have y3 : zct (zcan B) (znx (zcan B) 0) = 0 := zct_nx (p := zcan B) (b := 0) (by omega)
  refine p_M_nextMove (r := 540) (b := 0) hH v (by omega) (by decide) (by omega) (b_M_evenings_88 ?_)
  have := cnt 500 (znx (zcan B) 0) (by omega) (znx_le _ _) (fun g => (znx_yes g).2)
  rw [y3] at this
  exact this
theorem p_M_evenings {x y : Int32} {Rf : Int32 → ab_S → Prop} (hI : zIM σ S) (hV : zSV S) (h : ∀ τ, zIM τ (zO_evenings S x y).2 → zKM σ τ → Rf (zO_evenings S x y).1 τ) : CA (d + 8) 200 [.ref 56, .int x, .int y] σ (ab_rI Rf) := by
  have h7 := hV.1.2.1
  have hv := hV.1.1
  have hB := hI.1.1
  have no : (zw x 0 999999 && zw y 0 60) = false → S_M_evenings_24 (d + 7) Rf σ := fun q => by
    rw [zO_evenings, if_neg (by rw [q]; decide)] at h
    exact b_M_evenings_24 (p_M_bad hI (fun τ a b => b_M_evenings_30 (h τ a b)))
  refine e_M_evenings (b_M_evenings_0 (p_M_within (lo := 0) (hi := 999999) (by decide) (by decide) (b_M_evenings_9 (fun q => no ?_) (fun q => b_M_evenings_12 (p_M_within (lo := 0) (hi := 60) (by decide) (by decide) (b_M_evenings_21 (fun q2 => no ?_) (fun q2 => b_M_evenings_31 ?_)))))))
  · rw [zb_0.mp q]; rfl
  · rw [zb_0.mp q2]; simp
  · rw [zO_evenings, if_pos (by rw [nbt q, nbt q2]; rfl)] at h
    obtain ⟨sd, hs, rfl⟩ := zw_999 (nbt q)
    obtain ⟨n, hn, rfl⟩ := zw_n (m := 60) (nbt q2)
    rw [zc_nI (by omega), zc_nI (by omega)] at h
    have h : ∀ τ, zFR 540 556 σ τ → Rf (nI (zhow (zeve n S.1.1 sd))) τ := fun τ hF => h τ (hI.scr hV (fun j hj => hF.2.2 j (by omega)) (fun a ha => hF.2.1 a (by omega)) (by rw [hF.2.1 56 (by omega)]) (by rw [hF.1]) (by rw [hF.1])) hF.km
    generalize S.1.1 = B0 at *
    refine p_M_copy (a := 0) (b := 540) (n := 16) (by omega) (by omega) (by omega) (fun τ hc hF => b_M_evenings_41 ?_)
    have hB0 : zR τ 540 B0 := ⟨fun j hj => by rw [hc j (by omega)]; exact hB.1 j hj, fun i hi => ⟨by have := hv.1.2.2.1; rw [show 540 + 8 + i = 540 + (8 + i) by omega, hc _ (by omega), show 0 + (8 + i) = 0 + 8 + i by omega]; exact (hB.2 i hi).1, by have := hv.1.2.2.1; rw [show 540 + 12 + i = 540 + (12 + i) by omega, hc _ (by omega), show 0 + (12 + i) = 0 + 12 + i by omega]; exact (hB.2 i hi).2⟩⟩
    rw [nI_l (by omega)]
    have fin : ∀ (B : zB) (υ : ab_S), zV B → zR υ 540 B → zFR 540 556 σ υ → (∀ τ, zFR 540 556 σ τ → Rf (nI (zhow B)) τ) → S_M_evenings_186 (d + 7) Rf υ := fun B υ v hH hF hr => b_M_evenings_186 (p_M_howOf (r := 540) hH v (by omega) (b_M_evenings_193 (hr υ hF)))
    have key : ∀ f k x (B : zB) (υ : ab_S), f + k = n → x < 2147483648 → zV B → B 7 ≤ 9999 + k → zR υ 540 B → zFR 540 556 σ υ → (∀ τ, zFR 540 556 σ τ → Rf (nI (zhow (zeve f B x))) τ) → S_M_evenings_47 (d + 7) Rf (nI n) (lN x) (nI k) υ := by
      intro f
      induction f with
      | zero =>
        intro k x B υ q1 q2 v v7 hH hF hr
        have : k = n := by omega
        subst this
        exact b_M_evenings_47 (fun _ => fin B υ v hH hF hr) (fun c => absurd (Int32.le_refl _) c)
      | succ f ih =>
        intro k x B υ q1 q2 v v7 hH hF hr
        have hl := zhow_lt (B := B)
        have hx := zlcg_lt x
        simp only [zeve] at hr
        refine b_M_evenings_47 (fun c => absurd c (by rw [zle (by omega) (by omega)]; omega)) (fun _ => b_M_evenings_53 (p_M_howOf (r := 540) hH v (by omega) (b_M_evenings_60 (fun w => b_M_evenings_63 ?_) (fun w => fin B υ v hH hF ?_)))) <;> rw [zlit 0, zeq (by omega) (by omega)] at w
        · rw [if_pos w] at hr
          rw [zlcg_L q2]
          have nxt : ∀ (φ : ab_S), zR φ 540 (zplay B (zlcg x / 65536)) → zFR 540 556 σ φ → S_M_evenings_180 (d + 7) Rf (nI n) (lN (zlcg x)) (nI k) φ := fun φ hφ hG => by
            refine b_M_evenings_180 ?_
            rw [nI_1]
            exact ih (k + 1) (zlcg x) _ φ (by omega) hx (zplay_V v (by omega)) (by rw [zplay_7]; omega) hφ hG hr
          exact p_M_eplay hH v hx (fun φ hφ hG => nxt φ hφ (hF.tr hG))
        · rw [if_neg w] at hr; exact hr
    exact key n 0 sd B0 τ (by omega) (by omega) hv (by omega) hB0 hF h
end EV
