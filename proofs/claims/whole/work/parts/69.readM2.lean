/-! reading in the reference: items, the text -/
def zPostM (σ : ab_S) (x : Sum Nat (Nat × zB)) (r : Int32) (τ : ab_S) : Prop := zFm σ τ ∧ match x with
  | .inl s => r = 0 ∧ τ.1 56 8 = nI s
  | .inr y => r = 1 ∧ τ.1 56 7 = nI y.1 ∧ zNG τ y.2
section RI2
variable {d a : Nat} {T : zX} {σ : ab_S} {Rf : Int32 → ab_S → Prop} {B : zB}
theorem zFR.p7 {lo hi : Nat} {τ : ab_S} (h : zFR lo hi σ τ) (j : Nat) : τ.1 56 j = σ.1 56 j := by rw [h.2.1 56 (by omega)]
theorem p_M_takesCell (hT : zTm σ T) (ha : a ≤ T.1) (h7 : σ.1 56 7 = nI a) (hG : zNG σ B) (hV : zV B) (hs : ∀ n e τ, znb T 0 (B 0 * B 1) a = .inr (n, e) → n < B 0 * B 1 → e ≤ T.1 → zFn σ τ → τ.1 56 8 = nI (zsb T a) → τ.1 56 7 = nI e → τ.1 56 9 = nI n → Rf 1 τ) (hn : ∀ τ, znb T 0 (B 0 * B 1) a = .inl (zsb T a) → zFn σ τ → τ.1 56 8 = nI (zsb T a) → Rf 0 τ) : CA (d + 4) 163 [.ref 56] σ (ab_rI Rf) := by
  have h25 := hV.n
  refine e_M_takesCell (b_M_takesCell_0 (p_M_cells (r := 405) hG.r (by omega) (b_M_takesCell_9 (p_M_nb (lo := 0) (hi := B 0 * B 1) (by decide) ?_ hT ha h7 (fun n e τ z1 z2 z3 z4 z5 z6 z7 z8 => b_M_takesCell_14 zna1 (hs n e τ z1 z3.2 z4 z5 z6 z7 z8)) (fun τ z1 z2 z3 => b_M_takesCell_14 zna0 (hn τ z1 z2 z3))))))
  exact zc_toInt (n := B 0 * B 1) (by omega)
theorem p_M_rField (hT : zTm σ T) (ha : a ≤ T.1) (h7 : σ.1 56 7 = nI a) (h : ∀ r τ, zPostM σ (zbd2 (znb T 3 6 a) fun w => zbd2 (znb T 3 6 w.2) fun h => .inr (h.2, zbeg w.1 h.1)) r τ → Rf r τ) : CA (d + 4) 162 [.ref 56] σ (ab_rI Rf) := by
  refine e_M_readsField (b_M_readsField_0 (p_M_nb (lo := 3) (hi := 6) (by decide) (by decide) hT ha h7 (fun n e τ z1 z2 z3 z4 z5 z6 z7 z8 => b_M_readsField_6 (fun q => absurd q (by decide)) (fun _ => b_M_readsField_11 ?_)) (fun τ z1 z2 z3 => b_M_readsField_6 (fun _ => b_M_readsField_9 (h _ _ ⟨z2.fm, ?_⟩)) (fun q => absurd rfl q))))
  · refine p_M_nb (lo := 3) (hi := 6) (by decide) (by decide) (hT.fr z5.fm) z4 z7 (fun m f υ y1 y2 y3 y4 y5 y6 y7 y8 => b_M_readsField_22 (fun q => absurd q (by decide)) (fun _ => b_M_readsField_27 ?_)) (fun υ y1 y2 y3 => b_M_readsField_22 (fun _ => b_M_readsField_25 (h _ _ ⟨z5.fm.tr y2.fm, ?_⟩)) (fun q => absurd rfl q))
    · rw [z8, y8]
      refine p_M_begins (r := 405) (by omega) (by omega) (by omega) (fun φ hφ hL => b_M_readsField_39 (h _ _ ⟨(z5.fm.tr y5.fm).tr (hL.fm (by omega) (by omega)), ?_⟩))
      rw [z1]; dsimp only [zbd2]; rw [y1]; dsimp only
      exact ⟨rfl, (hL.p7 7).trans y7, hφ⟩
    · rw [z1]; dsimp only [zbd2]; rw [y1]; exact ⟨rfl, y3⟩
  · rw [z1]; exact ⟨rfl, z3⟩
theorem p_M_rThicket (hT : zTm σ T) (ha : a ≤ T.1) (h7 : σ.1 56 7 = nI a) (hG0 : zNG σ B) (hV : zV B) (h : ∀ r τ, zPostM σ (zbd2 (znb T 0 (B 0 * B 1) a) fun c => if zfr B c.1 = true then .inr (c.2, zup B 3 (B 3 ||| 2 ^ c.1)) else .inl (zsb T a)) r τ → Rf r τ) : CA (d + 5) 164 [.ref 56] σ (ab_rI Rf) := by
  have h25 := hV.n
  have n4 := hV.1.2.2.1
  refine e_M_readsThicket (b_M_readsThicket_0 (p_M_takesCell hT ha h7 hG0 hV (fun n e τ z1 z3 z4 z5 z6 z7 z8 => b_M_readsThicket_4 (fun q => absurd q (by decide)) (fun _ => b_M_readsThicket_7 ?_)) (fun τ z1 z2 z3 => b_M_readsThicket_4 (fun _ => b_M_readsThicket_21 (h _ _ ⟨z2.fm, ?_⟩)) (fun q => absurd rfl q))))
  · have hg := hG0.fn z5
    rw [z8]
    refine p_M_isFree (r := 405) hg.r hV (by omega) (by omega) (b_M_readsThicket_18 (fun q => b_M_readsThicket_21 (h _ _ ⟨z5.fm, ?_⟩)) (fun q => b_M_readsThicket_23 ?_))
    · rw [z1]; dsimp only [zbd2]; rw [if_neg (by rw [zb_0.mp q]; decide)]; exact ⟨rfl, z6⟩
    · rw [z8, show τ.1 57 408 = nI (B 3) from hg.r.1 3 (by omega), zshl _ (by omega), fa_or]
      have hL : zFR 405 421 τ (ab_pI τ.1 57 408 (nI (B 3 ||| 2 ^ n)), τ.2) := zFR.put (by omega) (by omega)
      refine h _ _ ⟨z5.fm.tr (hL.fm (by omega) (by omega)), ?_⟩
      rw [z1]; dsimp only [zbd2]; rw [if_pos (nbt q)]
      exact ⟨rfl, (hL.p7 7).trans z7, hg.bd hL (hg.r.put (j := 3) n4 (by omega) (by omega))⟩
  · rw [z1]; exact ⟨rfl, z3⟩
theorem p_M_rFox (hT : zTm σ T) (ha : a ≤ T.1) (h7 : σ.1 56 7 = nI a) (hG0 : zNG σ B) (hV : zV B) (h : ∀ r τ, zPostM σ (zbd2 (znb T 0 6 a) fun k => zbd2 (znb T 0 (B 0 * B 1) k.2) fun c => if zff B c.1 = true then .inr (c.2, zup (zup B 4 k.1) 5 c.1) else .inl (zsb T k.2)) r τ → Rf r τ) : CA (d + 5) 165 [.ref 56] σ (ab_rI Rf) := by
  have h25 := hV.n
  obtain ⟨⟨-, -, n4, -, -, v5, -⟩, -, w2, -, w4, -⟩ := id hV
  refine e_M_readsFox (b_M_readsFox_0 (p_M_nb (lo := 0) (hi := 6) (by decide) (by decide) hT ha h7 (fun k e τ z1 z2 z3 z4 z5 z6 z7 z8 => b_M_readsFox_6 (fun q => absurd q (by decide)) (fun _ => b_M_readsFox_11 ?_)) (fun τ z1 z2 z3 => b_M_readsFox_6 (fun _ => b_M_readsFox_9 (h _ _ ⟨z2.fm, ?_⟩)) (fun q => absurd rfl q))))
  · have hg := hG0.fn z5
    rw [z8]
    refine p_M_takesCell (hT.fr z5.fm) z4 z7 hg hV (fun n f υ y1 y3 y4 y5 y6 y7 y8 => b_M_readsFox_20 (fun q => absurd q (by decide)) (fun _ => ?_)) (fun υ y1 y2 y3 => b_M_readsFox_20 (fun _ => b_M_readsFox_52 (h _ _ ⟨z5.fm.tr y2.fm, ?_⟩)) (fun q => absurd rfl q))
    · have hgu := hg.fn y5
      have R5 : υ.1 57 410 = nI (B 5) := hgu.r.1 5 (by omega)
      have yes : zff B n = true → S_M_readsFox_54 (d + 4) Rf (nI k) υ := fun zf => by
        refine b_M_readsFox_54 ?_
        rw [zp_n (by omega), y8]
        have hL : zFR 405 421 υ (ab_pI (ab_pI υ.1 57 409 (nI k)) 57 410 (nI n), υ.2) := (zFR.put (by omega) (by omega)).tr (zFR.put (σ := (ab_pI υ.1 57 409 (nI k), υ.2)) (by omega) (by omega))
        refine h _ _ ⟨(z5.fm.tr y5.fm).tr (hL.fm (by omega) (by omega)), ?_⟩
        rw [z1]; dsimp only [zbd2]; rw [y1]; dsimp only; rw [if_pos zf]
        exact ⟨rfl, (hL.p7 7).trans y7, hgu.bd hL ((hgu.r.put (j := 4) n4 (by omega) (by omega)).put (j := 5) n4 (by omega) (by omega))⟩
      refine b_M_readsFox_23 (fun q => yes ?_) (fun q => b_M_readsFox_38 ?_) <;> rw [y8, R5, zeq (by omega) (by omega)] at q
      · subst q; exact zff_iff.mpr ⟨w2, w4⟩
      · rw [y8]
        refine p_M_isFree (r := 405) hgu.r hV (by omega) (by omega) (b_M_readsFox_49 (fun q2 => b_M_readsFox_52 (h _ _ ⟨z5.fm.tr y5.fm, ?_⟩)) (fun q2 => yes ?_))
        · have q2 := zb_0.mp q2
          have z : ¬ zff B n = true := fun z => by rw [zfr, z, decide_eq_true (show B 5 ≠ n from fun w => q w.symm)] at q2; cases q2
          rw [z1]; dsimp only [zbd2]; rw [y1]; dsimp only; rw [if_neg z]; exact ⟨rfl, y6⟩
        · have q2 := nbt q2
          rw [zfr, Bool.and_eq_true] at q2
          exact q2.1
    · rw [z1]; dsimp only [zbd2]; rw [y1]; exact ⟨rfl, y3⟩
  · rw [z1]; exact ⟨rfl, z3⟩
theorem p_M_rGoose {s : Nat} (hT : zTm σ T) (ha : a ≤ T.1) (h7 : σ.1 56 7 = nI a) (h8 : σ.1 56 8 = nI s) (hG0 : zNG σ B) (hV : zV B) (h : ∀ r τ, zPostM σ (if 4 ≤ B 2 then .inl s else zbd2 (znb T 0 6 a) fun k => zbd2 (znb T 0 (B 0 * B 1) k.2) fun c => if zfr B c.1 = true then .inr (c.2, zadd B k.1 c.1) else .inl (zsb T k.2)) r τ → Rf r τ) : CA (d + 5) 166 [.ref 56] σ (ab_rI Rf) := by
  have h25 := hV.n
  have n4 := hV.1.2.2.1
  have R2 : σ.1 57 407 = nI (B 2) := hG0.r.1 2 (by omega)
  refine e_M_readsGoose (b_M_readsGoose_0 (fun w => b_M_readsGoose_21 (h _ _ ⟨zFm.rf, ?_⟩)) (fun w => b_M_readsGoose_12 ?_)) <;> rw [R2, zlit 4, zeq (by omega) (by omega)] at w
  · rw [if_pos (by omega)]; exact ⟨rfl, h8⟩
  · rw [if_neg (by omega)] at h
    refine p_M_nb (lo := 0) (hi := 6) (by decide) (by decide) hT ha h7 (fun k e τ z1 z2 z3 z4 z5 z6 z7 z8 => b_M_readsGoose_18 (fun q => absurd q (by decide)) (fun _ => b_M_readsGoose_23 ?_)) (fun τ z1 z2 z3 => b_M_readsGoose_18 (fun _ => b_M_readsGoose_21 (h _ _ ⟨z2.fm, ?_⟩)) (fun q => absurd rfl q))
    · have hg := hG0.fn z5
      rw [z8]
      refine p_M_takesCell (hT.fr z5.fm) z4 z7 hg hV (fun n f υ y1 y3 y4 y5 y6 y7 y8 => b_M_readsGoose_32 (fun q => absurd q (by decide)) (fun _ => b_M_readsGoose_35 ?_)) (fun υ y1 y2 y3 => b_M_readsGoose_32 (fun _ => b_M_readsGoose_49 (h _ _ ⟨z5.fm.tr y2.fm, ?_⟩)) (fun q => absurd rfl q))
      · have hgu := hg.fn y5
        rw [y8]
        refine p_M_isFree (r := 405) hgu.r hV (by omega) (by omega) (b_M_readsGoose_46 (fun q => b_M_readsGoose_49 (h _ _ ⟨z5.fm.tr y5.fm, ?_⟩)) (fun q => b_M_readsGoose_51 ?_))
        · rw [z1]; dsimp only [zbd2]; rw [y1]; dsimp only; rw [if_neg (by rw [zb_0.mp q]; decide)]; exact ⟨rfl, y6⟩
        · rw [y8]
          refine p_M_addsGoose (r := 405) hgu.r (by omega) (by omega) (fun φ hφ hL => b_M_readsGoose_63 (h _ _ ⟨(z5.fm.tr y5.fm).tr (hL.fm (by omega) (by omega)), ?_⟩))
          rw [z1]; dsimp only [zbd2]; rw [y1]; dsimp only; rw [if_pos (nbt q)]
          exact ⟨rfl, (hL.p7 7).trans y7, hgu.bd hL hφ⟩
      · rw [z1]; dsimp only [zbd2]; rw [y1]; exact ⟨rfl, y3⟩
    · rw [z1]; exact ⟨rfl, z3⟩
theorem p_M_rGo (hT : zTm σ T) (ha : a ≤ T.1) (h7 : σ.1 56 7 = nI a) (hG0 : zNG σ B) (hV : zV B) (h : ∀ r τ, zPostM σ (zbd2 (znb T 0 (B 0 * B 1) a) fun c => if zmn B 4 c.1 = true then .inr (c.2, zfox B c.1) else .inl (zsb T a)) r τ → Rf r τ) : CA (d + 9) 167 [.ref 56] σ (ab_rI Rf) := by
  have h25 := hV.n
  refine e_M_readsGo (b_M_readsGo_0 (p_M_takesCell hT ha h7 hG0 hV (fun n e τ z1 z3 z4 z5 z6 z7 z8 => b_M_readsGo_4 (fun q => absurd q (by decide)) (fun _ => b_M_readsGo_7 ?_)) (fun τ z1 z2 z3 => b_M_readsGo_4 (fun _ => b_M_readsGo_22 (h _ _ ⟨z2.fm, ?_⟩)) (fun q => absurd rfl q))))
  · have hg := hG0.fn z5
    rw [z8]
    refine p_M_mayMove (r := 405) (who := 4) hg.r hV (by omega) (Or.inl rfl) z3 (b_M_readsGo_19 (fun q => b_M_readsGo_22 (h _ _ ⟨z5.fm, ?_⟩)) (fun q => b_M_readsGo_24 ?_))
    · rw [z1]; dsimp only [zbd2]; rw [if_neg (by rw [zb_0.mp q]; decide)]; exact ⟨rfl, z6⟩
    · rw [z8]
      refine p_M_foxGoes (r := 405) hg.r hV (by omega) (by omega) (fun φ hφ hL => ?_)
      have e : (if zb (zov B (B 5) n) < 0 then (0 : Int32) else 1) = 1 := by cases zov B (B 5) n <;> decide
      refine d_M_readsGo_35 ?_
      rw [e]
      refine b_M_readsGo_45 zna1 (h _ _ ⟨z5.fm.tr (hL.fm (by omega) (by omega)), ?_⟩)
      rw [z1]; dsimp only [zbd2]; rw [if_pos (nbt q)]
      exact ⟨rfl, (hL.p7 7).trans z7, hg.bd hL hφ⟩
  · rw [z1]; exact ⟨rfl, z3⟩
theorem p_M_rMove (hT : zTm σ T) (ha : a ≤ T.1) (h7 : σ.1 56 7 = nI a) (hG0 : zNG σ B) (hV : zV B) (h : ∀ r τ, zPostM σ (zbd2 (znb T 0 (B 2) a) fun g => if B (12 + g.1) = 0 then .inl (zsb T a) else zbd2 (znb T 0 (B 0 * B 1) g.2) fun c => if zmn B g.1 c.1 = true then .inr (c.2, zgo B g.1 c.1) else .inl (zsb T g.2)) r τ → Rf r τ) : CA (d + 9) 168 [.ref 56] σ (ab_rI Rf) := by
  have h25 := hV.n
  have n4 := hV.1.2.2.1
  have R2 : σ.1 57 407 = nI (B 2) := hG0.r.1 2 (by omega)
  refine e_M_readsMove (b_M_readsMove_0 (p_M_nb (lo := 0) (hi := B 2) (by decide) (by rw [R2]; exact zc_toInt (by omega)) hT ha h7 (fun i e τ z1 z2 z3 z4 z5 z6 z7 z8 => b_M_readsMove_15 (fun q => absurd q (by decide)) (fun _ => b_M_readsMove_18 ?_)) (fun τ z1 z2 z3 => b_M_readsMove_15 (fun _ => b_M_readsMove_32 (h _ _ ⟨z2.fm, ?_⟩)) (fun q => absurd rfl q))))
  · have hg := hG0.fn z5
    rw [z8]
    refine p_M_isGoose (r := 405) hg.r hV (by omega) ?_
    rw [zal_n z3.2 n4]
    refine b_M_readsMove_29 (fun q => b_M_readsMove_32 (h _ _ ⟨z5.fm, ?_⟩)) (fun q => b_M_readsMove_34 ?_)
    · have q : B (12 + i) = 0 := by simpa using zb_0.mp q
      rw [z1]; dsimp only [zbd2]; rw [if_pos q]; exact ⟨rfl, z6⟩
    · have q : ¬ B (12 + i) = 0 := by simpa using nbt q
      rw [z8]
      refine p_M_takesCell (hT.fr z5.fm) z4 z7 hg hV (fun n f υ y1 y3 y4 y5 y6 y7 y8 => b_M_readsMove_43 (fun q => absurd q (by decide)) (fun _ => b_M_readsMove_46 ?_)) (fun υ y1 y2 y3 => b_M_readsMove_43 (fun _ => b_M_readsMove_61 (h _ _ ⟨z5.fm.tr y2.fm, ?_⟩)) (fun q => absurd rfl q))
      · have hgu := hg.fn y5
        rw [y8]
        refine p_M_mayMove (r := 405) hgu.r hV (by omega) (Or.inr ⟨z3.2, q⟩) y3 (b_M_readsMove_58 (fun w => b_M_readsMove_61 (h _ _ ⟨z5.fm.tr y5.fm, ?_⟩)) (fun w => b_M_readsMove_63 ?_))
        · rw [z1]; dsimp only [zbd2]; rw [if_neg q, y1]; dsimp only; rw [if_neg (by rw [zb_0.mp w]; decide)]; exact ⟨rfl, y6⟩
        · rw [y8]
          refine p_M_gooseGoes (r := 405) hgu.r hV (by omega) z3.2 (fun φ hφ hL => b_M_readsMove_75 (h _ _ ⟨(z5.fm.tr y5.fm).tr (hL.fm (by omega) (by omega)), ?_⟩))
          rw [z1]; dsimp only [zbd2]; rw [if_neg q, y1]; dsimp only; rw [if_pos (nbt w)]
          exact ⟨rfl, (hL.p7 7).trans y7, hgu.bd hL hφ⟩
      · rw [z1]; dsimp only [zbd2]; rw [if_neg q, y1]; exact ⟨rfl, y3⟩
  · rw [z1]; exact ⟨rfl, z3⟩
theorem p_M_rPass {s : Nat} (h7 : σ.1 56 7 = nI a) (h8 : σ.1 56 8 = nI s) (hG0 : zNG σ B) (hV : zV B) (h : ∀ r τ, zPostM σ (if zmpn B = true then .inr (a, zend B) else .inl s) r τ → Rf r τ) : CA (d + 9) 169 [.ref 56] σ (ab_rI Rf) := by
  refine e_M_readsPass (b_M_readsPass_0 (p_M_mayPass (r := 405) hG0.r hV (by omega) (b_M_readsPass_7 (fun q => b_M_readsPass_10 (h _ _ ⟨zFm.rf, ?_⟩)) (fun q => b_M_readsPass_12 (p_M_ends (r := 405) hG0.r hV.1.2.2.1 hV.1.2.2.2.2.2.2.1 (by omega) (fun φ hφ hL => b_M_readsPass_19 (h _ _ ⟨hL.fm (by omega) (by omega), ?_⟩)))))))
  · rw [if_neg (by rw [zb_0.mp q]; decide)]; exact ⟨rfl, h8⟩
  · rw [if_pos (nbt q)]
    exact ⟨rfl, (hL.p7 7).trans h7, hG0.bd hL hφ⟩
theorem zsb_sb {a : Nat} (ha : a ≤ T.1) : zsb T (zsb T a) = zsb T a := zsb_n (zsb_stop ha)
theorem p_M_readsItem {i : Nat} (hi : i = 0 ∨ zV B) (hB7 : B 7 + 1 < 100000) (hT : zTm σ T) (ha : a ≤ T.1) (h7 : σ.1 56 7 = nI (zsb T a)) (hG0 : 0 < i → zNG σ B) (h : ∀ r τ, zPostM σ (zstop T (zitem T i (zsb T a) B)) r τ → Rf r τ) : CA (d + 10) 170 [.ref 56, .int (zb (decide (i = 0)))] σ (ab_rI Rf) := by
  have sb := zsb_b ha
  have wb := zsp_b (p := zle1) sb.2
  have w7 := zwo7_le (T := T) (s := zsb T a) (e := zsp zle1 T (zsb T a))
  refine e_M_readsItem (b_M_readsItem_0 (p_M_takesWord hT sb.2 h7 (fun τ hF e7 e8 => b_M_readsItem_4 (p_M_wordOf (hT.fr hF.fm) (by rw [zsb_sb ha] at e8; exact e8) (by rw [zsb_sb ha] at e7; exact e7) wb.1 wb.2 (d_M_readsItem_8 ?_)))))
  rw [zsb_sb ha] at e7 e8
  have hT1 := hT.fr hF.fm
  -- the end of the item
  have stop : ∀ r (υ : ab_S), zPostM τ (zitem T i (zsb T a) B) r υ → S_M_readsItem_116 (d + 9) Rf r υ := by
    intro r υ hp
    cases hz : zitem T i (zsb T a) B with
    | inl s =>
      have p2 := hp.2
      rw [hz] at p2
      rw [p2.1]
      refine b_M_readsItem_116 (fun _ => b_M_readsItem_132 (b_M_readsItem_133 zna0 (h _ _ ⟨hF.fm.tr hp.1, ?_⟩))) (fun q => absurd rfl q)
      unfold zstop; rw [hz]; exact ⟨rfl, p2.2⟩
    | inr y =>
      have p2 := hp.2
      rw [hz] at p2
      obtain ⟨v1, v2, v3, v4⟩ := zitem_V sb.2 hi hB7 hz
      rw [p2.1]
      refine b_M_readsItem_116 (fun q => absurd q (by decide)) (fun _ => b_M_readsItem_121 (p_M_takesEnd (hT1.fr hp.1) v4 p2.2.1 (fun φ hL f7 f8 => b_M_readsItem_125 (fun q => b_M_readsItem_132 (b_M_readsItem_133 zna0 (h _ _ ⟨(hF.fm.tr hp.1).tr hL.fm, ?_⟩))) (fun q => b_M_readsItem_128 (b_M_readsItem_133 zna1 (h _ _ ⟨(hF.fm.tr hp.1).tr hL.fm, ?_⟩))))))
      · have q := of_decide_eq_false (zb_0.mp q)
        unfold zstop; rw [hz]; dsimp only [zbd2]; rw [if_neg q]; exact ⟨rfl, f8⟩
      · have q := of_decide_eq_true (nbt q)
        unfold zstop; rw [hz]; dsimp only [zbd2]; rw [if_pos q]; exact ⟨rfl, f7, p2.2.2.fn hL⟩
  have e1 : (if nI (zwo7 T (zsb T a) (zsp zle1 T (zsb T a))) = 1 then (1 : Int32) else 0) = zb (decide (zwo7 T (zsb T a) (zsp zle1 T (zsb T a)) = 1)) := by
    have ee : (nI (zwo7 T (zsb T a) (zsp zle1 T (zsb T a))) = 1) ↔ zwo7 T (zsb T a) (zsp zle1 T (zsb T a)) = 1 := zeq (b := 1) (by omega) (by omega)
    rw [zbd]
    by_cases q : zwo7 T (zsb T a) (zsp zle1 T (zsb T a)) = 1
    · rw [if_pos (ee.mpr q), if_pos q]
    · rw [if_neg (fun z => q (ee.mp z)), if_neg q]
  rw [e1]
  refine b_M_readsItem_20 (fun q => ?_) (fun q => b_M_readsItem_23 (h _ _ ⟨hF.fm, ?_⟩))
  · have hc : (zwo7 T (zsb T a) (zsp zle1 T (zsb T a)) = 1) ↔ i = 0 := by
      by_cases q1 : i = 0 <;> by_cases q2 : zwo7 T (zsb T a) (zsp zle1 T (zsb T a)) = 1 <;> simp [q1, q2, zb] at q ⊢
    have hit : zitem T i (zsb T a) B = zparts T (zwo7 T (zsb T a) (zsp zle1 T (zsb T a))) (zsb T a) (zsp zle1 T (zsb T a)) B := by unfold zitem; rw [if_pos hc]
    rw [hit] at stop
    generalize zwo7 T (zsb T a) (zsp zle1 T (zsb T a)) = w at *
    generalize zsp zle1 T (zsb T a) = e at *
    have vV : w ≠ 1 → zV B ∧ zNG τ B := fun h1 => by
      rcases hi with z | z
      · exact absurd (hc.mpr z) h1
      · exact ⟨z, (hG0 (by have := hc.mpr; omega)).fn hF⟩
    have ne : ∀ k : Nat, k < 10 → w ≠ k → ¬ nI w = nI k := fun k hk hz z => hz ((zeq (by omega) (by omega)).mp z)
    have eqk : ∀ k : Nat, k < 10 → nI w = nI k → w = k := fun k hk z => (zeq (by omega) (by omega)).mp z
    refine b_M_readsItem_25 (fun c => b_M_readsItem_30 ?_) (fun c1 => b_M_readsItem_37 (fun c => b_M_readsItem_42 ?_) (fun c2 => b_M_readsItem_49 (fun c => b_M_readsItem_54 ?_) (fun c3 => b_M_readsItem_61 (fun c => b_M_readsItem_66 ?_) (fun c4 => b_M_readsItem_73 (fun c => b_M_readsItem_78 ?_) (fun c5 => b_M_readsItem_85 (fun c => b_M_readsItem_91 ?_) (fun c6 => b_M_readsItem_98 (fun c => b_M_readsItem_104 ?_) (fun c7 => b_M_readsItem_115 (stop 0 τ ⟨zFm.rf, ?_⟩))))))))
    · have := eqk 1 (by omega) c
      subst this
      exact p_M_rField hT1 wb.2 e7 (fun r υ hp => b_M_readsItem_34 (stop r υ hp))
    · have := eqk 2 (by omega) c
      subst this
      obtain ⟨v, g⟩ := vV (by omega)
      exact p_M_rThicket hT1 wb.2 e7 g v (fun r υ hp => b_M_readsItem_46 (stop r υ hp))
    · have := eqk 3 (by omega) c
      subst this
      obtain ⟨v, g⟩ := vV (by omega)
      exact p_M_rFox hT1 wb.2 e7 g v (fun r υ hp => b_M_readsItem_58 (stop r υ hp))
    · have := eqk 4 (by omega) c
      subst this
      obtain ⟨v, g⟩ := vV (by omega)
      exact p_M_rGoose hT1 wb.2 e7 e8 g v (fun r υ hp => b_M_readsItem_70 (stop r υ hp))
    · have := eqk 5 (by omega) c
      subst this
      obtain ⟨v, g⟩ := vV (by omega)
      exact p_M_rGo hT1 wb.2 e7 g v (fun r υ hp => b_M_readsItem_82 (stop r υ hp))
    · have := eqk 6 (by omega) c
      subst this
      obtain ⟨v, g⟩ := vV (by omega)
      exact p_M_rMove hT1 wb.2 e7 g v (fun r υ hp => b_M_readsItem_95 (stop r υ hp))
    · have := eqk 7 (by omega) c
      subst this
      obtain ⟨v, g⟩ := vV (by omega)
      refine p_M_rPass e7 e8 g v (fun r υ hp => b_M_readsItem_108 (fun q => b_M_readsItem_115 ?_) (fun q => b_M_readsItem_111 ?_))
      · have := stop r υ hp
        rw [q] at this; exact this
      · have r1 : r = 1 := by
          have p2 := hp.2
          revert p2
          split
          · intro w; exact absurd w.1 q
          · intro w; exact w.1
        have := stop r υ hp
        rw [r1] at this; exact this
    · have : w = 0 := by
        have n1 : w ≠ 1 := fun z => c1 (by rw [z]; rfl)
        have n2 : w ≠ 2 := fun z => c2 (by rw [z]; rfl)
        have n3 : w ≠ 3 := fun z => c3 (by rw [z]; rfl)
        have n4 : w ≠ 4 := fun z => c4 (by rw [z]; rfl)
        have n5 : w ≠ 5 := fun z => c5 (by rw [z]; rfl)
        have n6 : w ≠ 6 := fun z => c6 (by rw [z]; rfl)
        have n7 : w ≠ 7 := fun z => c7 (by rw [z]; rfl)
        omega
      subst this
      exact ⟨rfl, e8⟩
  · have hc : ¬ ((zwo7 T (zsb T a) (zsp zle1 T (zsb T a)) = 1) ↔ i = 0) := by
      by_cases q1 : i = 0 <;> by_cases q2 : zwo7 T (zsb T a) (zsp zle1 T (zsb T a)) = 1 <;> simp [q1, q2, zb] at q ⊢
    unfold zstop zitem; rw [if_neg hc]; exact ⟨rfl, e8⟩
theorem p_M_read {S : zS} (hI : zIM σ S) (hV : zSV S) (h : ∀ τ, zIM τ (zO_read S).2 → zKM σ τ → Rf (zO_read S).1 τ) : CA (d + 11) 171 [.ref 56] σ (ab_rI Rf) := by
  have hT : zTm σ S.2.2.1 := ⟨hI.2.2.1.1, hI.2.2.1.2, hV.2.2.1⟩
  have hL := hT.2.2
  obtain ⟨v1, v2⟩ := zread_V (T := S.2.2.1) hV.2.2.1 80 0 0 (zbeg 5 5) (by omega) (by omega) (by omega) (Or.inl rfl) (by unfold zbeg; simp)
  have iM : ∀ τ, zFm σ τ → zIM τ S ∧ zKM σ τ := fun τ hF => ⟨hI.scr hV (fun j hj => hF.2.2.2 j (by omega)) (fun x hx => hF.2.1 x (by omega) (by omega)) (hF.2.2.1 3 (by omega) (by omega) (by omega)) (by rw [hF.1]) (by rw [hF.1]), fun x hx => ⟨hF.2.1 x (by omega) (by omega), by rw [hF.1]⟩⟩
  have key : ∀ f a i B (τ : ab_S), f + i = 80 → 2 * i ≤ a → a ≤ S.2.2.1.1 → (i = 0 ∨ zV B) → B 7 ≤ i → zFm σ τ → τ.1 56 7 = nI (zsb S.2.2.1 a) → τ.1 56 8 = nI (zsb S.2.2.1 a) → (0 < i → zNG τ B) → zread S.2.2.1 f a i B = zread S.2.2.1 80 0 0 (zbeg 5 5) → S_M_read_20 (d + 10) Rf (nI i) 1 τ := by
    intro f
    induction f with
    | zero => intro a i B τ q1 q2 q3; omega
    | succ f ih =>
      intro a i B τ q1 q2 q3 hi h7 hF e7 e8 hG hr
      have sb := zsb_b q3
      have hTτ := hT.fr hF
      rw [zread] at hr
      have item : ¬ (S.2.2.1.1 ≤ zsb S.2.2.1 a ∧ 0 < i) → S_M_read_39 (d + 10) Rf (nI i) τ := fun hne => by
        rw [if_neg hne] at hr
        have call : S_M_read_49 (d + 10) Rf (nI i) (zb (decide (i = 0))) τ := by
          refine b_M_read_49 (p_M_readsItem hi (by omega) hTτ q3 e7 hG (fun r υ hp => ?_))
          cases hz : zstop S.2.2.1 (zitem S.2.2.1 i (zsb S.2.2.1 a) B) with
          | inl s =>
            have p2 := hp.2
            rw [hz] at p2 hr
            rw [p2.1]
            refine b_M_read_52 (fun _ => b_M_read_20 (fun _ => b_M_read_67 (fun _ => b_M_read_71 ?_) (fun q => absurd rfl q)) (fun q => absurd rfl q)) (fun q => absurd rfl q)
            rw [p2.2]
            obtain ⟨i1, i2⟩ := iM υ (hF.tr hp.1)
            have h := h υ
            unfold zO_read at h
            rw [← hr] at h
            exact h i1 i2
          | inr y =>
            have p2 := hp.2
            rw [hz] at p2 hr
            obtain ⟨u1, u2, u3, u4⟩ := zstop_V sb.2 hi (by omega) hz
            rw [p2.1]
            refine b_M_read_52 (fun q => absurd q (by decide)) (fun _ => b_M_read_60 (p_M_blanks (hTτ.fr hp.1) u4 p2.2.1 (fun φ hL f7 f8 => b_M_read_64 ?_)))
            rw [nI_1]
            exact ih y.1 (i + 1) y.2 φ (by omega) (by omega) u4 (Or.inr u1) (by omega) ((hF.tr hp.1).tr hL.fm) f7 f8 (fun _ => p2.2.2.fn hL) hr
        have i0 : (nI i = 0) ↔ i = 0 := zeq (b := 0) (by omega) (by omega)
        refine b_M_read_39 (fun q => b_M_read_44 ?_) (fun q => b_M_read_48 ?_) <;> rw [i0] at q
        · rw [decide_eq_true q] at call; exact call
        · rw [decide_eq_false q] at call; exact call
      refine b_M_read_20 (fun q => absurd q (by decide)) (fun _ => b_M_read_24 (fun q => item ?_) (fun q => b_M_read_35 (fun q5 => item ?_) (fun q5 => b_M_read_67 (fun q => absurd q (by decide)) (fun _ => b_M_read_79 ?_)))) <;> rw [e8, hTτ.1, zlt (by omega) (by omega)] at q
      · omega
      · rw [zlit 0, zeq (by omega) (by omega)] at q5; omega
      · rw [zlit 0, zeq (by omega) (by omega)] at q5
        rw [if_pos (by omega)] at hr
        obtain ⟨a1, a2, -⟩ := v1 B (by rw [← hr])
        refine p_M_copy (a := 405) (b := 0) (n := 135) (by omega) (by omega) (by omega) (fun υ hc hL => b_M_read_90 ?_)
        obtain ⟨i1, i2⟩ := iM τ hF
        have h := h υ
        unfold zO_read at h
        rw [← hr] at h
        refine h (i1.game hV ?_ hL) (i2.tr hL.km)
        exact (hG (by omega) S.1.2.1.2 S.1.2.2.1.2 S.1.2.2.2.2).ext (zGV a1 a2) (fun j hj => hc j hj)
  refine e_M_read (b_M_read_0 (p_M_empties (r := 405) (by omega) (fun τ _ hF => b_M_read_7 ?_)))
  have w1 : zFm σ τ := hF.fm (by omega) (by omega)
  have w2 : zFn τ (ab_pI τ.1 56 7 0, τ.2) := zFn.put (by omega)
  refine p_M_blanks (a := 0) (hT.fr (w1.tr w2.fm)) (by omega) (by dsimp only; rw [zp_s]; rfl) (fun υ hG e7 e8 => b_M_read_18 ?_)
  exact key 80 0 0 (zbeg 5 5) υ (by omega) (by omega) (by omega) (Or.inl rfl) (by unfold zbeg; simp) ((w1.tr w2.fm).tr hG.fm) e7 e8 (fun z => by omega) rfl
end RI2
