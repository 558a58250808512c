/-! which kinds fit: is and kinds, both sides -/
theorem ziI (x : Int32) : iI x.toInt = x := Int32.ofInt_toInt x
theorem znn {x : Int32} (h : 0 ≤ x.toInt) : nI x.toInt.toNat = x := by
  have := fb_rng x
  rw [fa_eq, zn (by omega)]; omega
theorem zbo {x : Int32} (h : x = 0 ∨ x = 1) : zb (decide (x = 1)) = x := by rcases h with rfl | rfl <;> decide
theorem zbt (b : Bool) : (b == true) = b := by cases b <;> rfl
theorem zbf (b : Bool) : (b == false) = !b := by cases b <;> rfl
def zall (p : Nat → Bool) : Nat → Bool
  | 0 => true
  | n + 1 => zall p n && p n
def zrf (r : Nat → Int32) (k u : Nat) : Bool := zmf k (r (5 * u)).toInt (r (5 * u + 1)).toInt (r (5 * u + 2)).toInt.toNat (decide (r (5 * u + 3) = 1)) == decide (r (5 * u + 4) = 1)
def zrg (r : Nat → Int32) (i : Int32) (k u : Nat) : Bool := !decide (r (5 * u) = i) || (zmg k (r (5 * u + 1)).toInt (r (5 * u + 2)).toInt (r (5 * u + 3)).toInt.toNat == decide (r (5 * u + 4) = 1))
theorem zst_and {p q : Nat → Bool} {n : Nat} : zst p n &&& zst q n = zst (fun k => p k && q k) n := by
  apply Nat.eq_of_testBit_eq
  intro i
  rw [Nat.testBit_and, zst_bit, zst_bit, zst_bit]
  cases decide (i < n) <;> cases p i <;> cases q i <;> rfl
theorem zst_andn {p q : Nat → Bool} {n : Nat} : zst p n ^^^ (zst p n &&& zst q n) = zst (fun k => p k && !q k) n := by
  apply Nat.eq_of_testBit_eq
  intro i
  rw [Nat.testBit_xor, Nat.testBit_and, zst_bit, zst_bit, zst_bit]
  cases decide (i < n) <;> cases p i <;> cases q i <;> rfl
theorem zandnot : ∀ a, a < 64 → ∀ b, b < 64 → nI a &&& (nI b ^^^ (-1)) = nI (a ^^^ (a &&& b)) := by decide +kernel
theorem zst_6 (p : Nat → Bool) : zst p 6 < 64 := zst_lt p 6
section KO
variable {d : Nat} {S : zS} {σ : ab_S} {Rf : Int32 → ab_S → Prop}
theorem p_K_foxesThatMay {m : Nat} {dx dy : Int} {over : Bool} (hx : -4 ≤ dx ∧ dx ≤ 4) (hy : -4 ≤ dy ∧ dy ≤ 4) (hm : m < 1000000) (h : Rf (nI (zst (fun k => zmf k dx dy m over) 6)) σ) : CA (d + 2) 11 [.int (iI dx), .int (iI dy), .int (nI m), .int (zb over)] σ (ab_rI Rf) := by
  have key : ∀ n i, 6 - i ≤ n → i ≤ 6 → S_K_foxesThatMay_6 (d + 1) Rf (iI dx) (iI dy) (nI m) (zb over) (nI (zst (fun k => zmf k dx dy m over) i)) (nI i) σ := by
    intro n
    induction n with
    | zero =>
      intro i q1 q2
      have : i = 6 := by omega
      subst this
      exact b_K_foxesThatMay_6 (fun _ => b_K_foxesThatMay_40 h) (fun c => absurd (by decide) c)
    | succ n ih =>
      intro i q1 q2
      by_cases qi : i = 6
      · exact ih i (by omega) q2
      have hs := ih (i + 1) (by omega) (by omega)
      rw [zst, ← nI_1] at hs
      refine b_K_foxesThatMay_6 (fun c => absurd c (by rw [zlit 6, zle (by omega) (by omega)]; omega)) (fun _ => b_K_foxesThatMay_13 (p_K_foxMay (by omega) hx hy hm (b_K_foxesThatMay_22 (fun q => ?_) (fun q => b_K_foxesThatMay_25 ?_))))
      · rw [if_neg (by rw [zb_0.mp q]; decide), Nat.or_zero] at hs
        exact b_K_foxesThatMay_34 hs
      · rw [if_pos (nbt q), ← fa_or] at hs
        rw [zshl _ (by omega)]
        exact b_K_foxesThatMay_34 hs
  exact e_K_foxesThatMay (b_K_foxesThatMay_0 (key 6 0 (by omega) (by omega)))
theorem p_K_geeseThatMay {m : Nat} {dx dy : Int} (hx : -4 ≤ dx ∧ dx ≤ 4) (hy : -4 ≤ dy ∧ dy ≤ 4) (hm : m < 1000000) (h : Rf (nI (zst (fun k => zmg k dx dy m) 6)) σ) : CA (d + 2) 12 [.int (iI dx), .int (iI dy), .int (nI m)] σ (ab_rI Rf) := by
  have key : ∀ n i, 6 - i ≤ n → i ≤ 6 → S_K_geeseThatMay_5 (d + 1) Rf (iI dx) (iI dy) (nI m) (nI (zst (fun k => zmg k dx dy m) i)) (nI i) σ := by
    intro n
    induction n with
    | zero =>
      intro i q1 q2
      have : i = 6 := by omega
      subst this
      exact b_K_geeseThatMay_5 (fun _ => b_K_geeseThatMay_36 h) (fun c => absurd (by decide) c)
    | succ n ih =>
      intro i q1 q2
      by_cases qi : i = 6
      · exact ih i (by omega) q2
      have hs := ih (i + 1) (by omega) (by omega)
      rw [zst, ← nI_1] at hs
      refine b_K_geeseThatMay_5 (fun c => absurd c (by rw [zlit 6, zle (by omega) (by omega)]; omega)) (fun _ => b_K_geeseThatMay_12 (p_K_gooseMay (by omega) hx hy hm (b_K_geeseThatMay_20 (fun q => ?_) (fun q => b_K_geeseThatMay_23 ?_))))
      · rw [if_neg (by rw [zb_0.mp q]; decide), Nat.or_zero] at hs
        exact b_K_geeseThatMay_30 hs
      · rw [if_pos (nbt q), ← fa_or] at hs
        rw [zshl _ (by omega)]
        exact b_K_geeseThatMay_30 hs
  exact e_K_geeseThatMay (b_K_geeseThatMay_0 (key 6 0 (by omega) (by omega)))
theorem p_K_foxesR {a b c o : Int32} (ha : -2 ≤ a.toInt ∧ a.toInt ≤ 2) (hb : -2 ≤ b.toInt ∧ b.toInt ≤ 2) (hc : 0 ≤ c.toInt ∧ c.toInt ≤ 99) (ho : o = 0 ∨ o = 1) (h : Rf (nI (zst (fun k => zmf k a.toInt b.toInt c.toInt.toNat (decide (o = 1))) 6)) σ) : CA (d + 2) 11 [.int a, .int b, .int c, .int o] σ (ab_rI Rf) := by
  have t := p_K_foxesThatMay (d := d) (σ := σ) (Rf := Rf) (dx := a.toInt) (dy := b.toInt) (m := c.toInt.toNat) (over := decide (o = 1)) (by omega) (by omega) (by omega) h
  rw [ziI, ziI, znn hc.1, zbo ho] at t
  exact t
theorem p_K_geeseR {a b c : Int32} (ha : -2 ≤ a.toInt ∧ a.toInt ≤ 2) (hb : -2 ≤ b.toInt ∧ b.toInt ≤ 2) (hc : 0 ≤ c.toInt ∧ c.toInt ≤ 99) (h : Rf (nI (zst (fun k => zmg k a.toInt b.toInt c.toInt.toNat) 6)) σ) : CA (d + 2) 12 [.int a, .int b, .int c] σ (ab_rI Rf) := by
  have t := p_K_geeseThatMay (d := d) (σ := σ) (Rf := Rf) (dx := a.toInt) (dy := b.toInt) (m := c.toInt.toNat) (by omega) (by omega) (by omega) h
  rw [ziI, ziI, znn hc.1] at t
  exact t
theorem p_M_mayFoxR {kind : Nat} {a b c o : Int32} (hk : kind < 6) (ha : -2 ≤ a.toInt ∧ a.toInt ≤ 2) (hb : -2 ≤ b.toInt ∧ b.toInt ≤ 2) (hc : 0 ≤ c.toInt ∧ c.toInt ≤ 99) (ho : o = 0 ∨ o = 1) (h : Rf (zb (zmf kind a.toInt b.toInt c.toInt.toNat (decide (o = 1)))) σ) : CA (d + 4) 128 [.int (nI kind), .int a, .int b, .int c, .int o] σ (ab_rI Rf) := by
  have t := p_M_mayFox (d := d) (σ := σ) (Rf := Rf) (dx := a.toInt) (dy := b.toInt) (m := c.toInt.toNat) (over := decide (o = 1)) hk (by omega) (by omega) (by omega) h
  rw [ziI, ziI, znn hc.1, zbo ho] at t
  exact t
theorem p_M_mayGooseR {kind : Nat} {a b c : Int32} (hk : kind < 6) (ha : -2 ≤ a.toInt ∧ a.toInt ≤ 2) (hb : -2 ≤ b.toInt ∧ b.toInt ≤ 2) (hc : 0 ≤ c.toInt ∧ c.toInt ≤ 99) (h : Rf (zb (zmg kind a.toInt b.toInt c.toInt.toNat)) σ) : CA (d + 4) 132 [.int (nI kind), .int a, .int b, .int c] σ (ab_rI Rf) := by
  have t := p_M_mayGoose (d := d) (σ := σ) (Rf := Rf) (dx := a.toInt) (dy := b.toInt) (m := c.toInt.toNat) hk (by omega) (by omega) (by omega) h
  rw [ziI, ziI, znn hc.1] at t
  exact t
/-- the kinds of foxes by which the first n notes are so -/
def zis (n : Nat) (r : Nat → Int32) : Nat := zst (fun k => zall (zrf r k) n) 6
def zwh (i : Int32) (n : Nat) (r : Nat → Int32) : Nat := zst (fun k => zall (zrg r i k) n) 6
theorem zis_0 (r : Nat → Int32) : zis 0 r = 63 := by
  unfold zis zall; decide
theorem zwh_0 (i : Int32) (r : Nat → Int32) : zwh i 0 r = 63 := by
  unfold zwh zall; decide
theorem p_F_foxKinds (hI : zIF σ S) (hV : zSV S) (h : Rf (nI (zis S.1.2.2.1.1 S.1.2.2.1.2)) σ) : CA (d + 3) 110 [.ref 0] σ (ab_rI Rf) := by
  have hn : S.1.2.2.1.1 ≤ 6 := hV.1.2.2.2.2.1
  have hT := hI.1.2.2.2.1
  have vN := hV.1.2.2.2.2.2.2.1
  have T0 : σ.1 5 0 = nI S.1.2.2.1.1 := hT.1
  generalize S.1.2.2.1.1 = n at *
  generalize S.1.2.2.1.2 = r at *
  have key : ∀ m u, n - u ≤ m → u ≤ n → S_F_foxKinds_13 (d + 2) Rf (nI (zis u r)) (nI u) σ := by
    intro m
    induction m with
    | zero =>
      intro u q1 q2
      have : u = n := by omega
      subst this
      exact b_F_foxKinds_13 (fun _ => b_F_foxKinds_78 h) (fun c => absurd (by rw [T0]; exact Int32.le_refl _) c)
    | succ m ih =>
      intro u q1 q2
      by_cases qi : u = n
      · exact ih u (by omega) q2
      obtain ⟨v0, v1, v2, v3, v4⟩ := vN u (by omega)
      have hs := ih (u + 1) (by omega) (by omega)
      rw [← nI_1] at hs
      have at' : ∀ j (Q : Int32 → ab_S → Prop), j < 5 → Q (r (5 * u + j)) σ → CA (d + 2) 14 [.ref 5, .int (nI u), .int (nI j)] σ (ab_rI Q) := fun j Q hj hQ => p_T_at zsh5 hT hn (by omega) hj hQ
      refine b_F_foxKinds_13 (fun c => absurd c (by rw [T0, zle (by omega) (by omega)]; omega)) (fun _ => b_F_foxKinds_21 (at' 0 _ (by omega) (b_F_foxKinds_27 (at' 1 _ (by omega) (b_F_foxKinds_33 (at' 2 _ (by omega) (b_F_foxKinds_39 (at' 3 _ (by omega) (b_F_foxKinds_45 (p_K_foxesR v0 v1 v2 v3 (b_F_foxKinds_48 (at' 4 _ (by omega) (b_F_foxKinds_57 (fun q => b_F_foxKinds_61 (b_F_foxKinds_70 ?_)) (fun q => b_F_foxKinds_66 (b_F_foxKinds_70 ?_)))))))))))))))
      · rw [fa_and, zis, zst_and]
        rw [zis] at hs
        refine cast ?_ hs
        congr 2
        refine zst_eq (fun k _ => ?_)
        rw [zall, zrf, decide_eq_true q, zbt]
        rfl
      · rw [zis, zandnot _ (zst_6 _) _ (zst_6 _), zst_andn]
        rw [zis] at hs
        refine cast ?_ hs
        congr 2
        refine zst_eq (fun k _ => ?_)
        rw [zall, zrf, decide_eq_false q, zbf]
        rfl
  refine e_F_foxKinds (b_F_foxKinds_0 ?_)
  have := key n 0 (by omega) (by omega)
  rw [zis_0] at this
  exact this
theorem p_F_gooseKinds {i : Int32} (hI : zIF σ S) (hV : zSV S) (h : Rf (nI (zwh i S.1.2.2.2.1 S.1.2.2.2.2)) σ) : CA (d + 3) 111 [.ref 0, .int i] σ (ab_rI Rf) := by
  have hn : S.1.2.2.2.1 ≤ 6 := hV.1.2.2.2.2.2.1
  have hT := hI.1.2.2.2.2
  have vM := hV.1.2.2.2.2.2.2.2
  have T0 : σ.1 7 0 = nI S.1.2.2.2.1 := hT.1
  generalize S.1.2.2.2.1 = n at *
  generalize S.1.2.2.2.2 = r at *
  have key : ∀ m u, n - u ≤ m → u ≤ n → S_F_gooseKinds_14 (d + 2) Rf i (nI (zwh i u r)) (nI u) σ := by
    intro m
    induction m with
    | zero =>
      intro u q1 q2
      have : u = n := by omega
      subst this
      exact b_F_gooseKinds_14 (fun _ => b_F_gooseKinds_89 h) (fun c => absurd (by rw [T0]; exact Int32.le_refl _) c)
    | succ m ih =>
      intro u q1 q2
      by_cases qi : u = n
      · exact ih u (by omega) q2
      obtain ⟨v0, v1, v2, v3, v4⟩ := vM u (by omega)
      have hs := ih (u + 1) (by omega) (by omega)
      rw [← nI_1] at hs
      have at' : ∀ j (Q : Int32 → ab_S → Prop), j < 5 → Q (r (5 * u + j)) σ → CA (d + 2) 14 [.ref 7, .int (nI u), .int (nI j)] σ (ab_rI Q) := fun j Q hj hQ => p_T_at zsh7 hT hn (by omega) hj hQ
      refine b_F_gooseKinds_14 (fun c => absurd c (by rw [T0, zle (by omega) (by omega)]; omega)) (fun _ => b_F_gooseKinds_23 (at' 0 _ (by omega) (b_F_gooseKinds_30 (fun q0 => ?_) (fun q0 => b_F_gooseKinds_83 ?_))))
      · refine b_F_gooseKinds_34 (at' 1 _ (by omega) (b_F_gooseKinds_41 (at' 2 _ (by omega) (b_F_gooseKinds_48 (at' 3 _ (by omega) (b_F_gooseKinds_55 (p_K_geeseR v1 v2 v3 (b_F_gooseKinds_58 (at' 4 _ (by omega) (b_F_gooseKinds_68 (fun q => b_F_gooseKinds_72 (b_F_gooseKinds_81 (b_F_gooseKinds_83 ?_))) (fun q => b_F_gooseKinds_77 (b_F_gooseKinds_81 (b_F_gooseKinds_83 ?_)))))))))))))
        · rw [fa_and, zwh, zst_and]
          rw [zwh] at hs
          refine cast ?_ hs
          congr 2
          refine zst_eq (fun k _ => ?_)
          rw [zall, zrg, decide_eq_true q, zbt, decide_eq_true (show r (5 * u) = i from q0)]
          rfl
        · rw [zwh, zandnot _ (zst_6 _) _ (zst_6 _), zst_andn]
          rw [zwh] at hs
          refine cast ?_ hs
          congr 2
          refine zst_eq (fun k _ => ?_)
          rw [zall, zrg, decide_eq_false q, zbf, decide_eq_true (show r (5 * u) = i from q0)]
          rfl
      · rw [zwh] at hs ⊢
        refine cast ?_ hs
        congr 2
        refine zst_eq (fun k _ => ?_)
        rw [zall, zrg, decide_eq_false (show ¬ r (5 * u) = i from q0)]
        simp
  refine e_F_gooseKinds (b_F_gooseKinds_0 ?_)
  have := key n 0 (by omega) (by omega)
  rw [zwh_0] at this
  exact this
/-- kinds below K read through n rows, K through e -/
def zks2 (p : Nat → Nat → Bool) (n K e : Nat) : Nat := zst (fun i => if i < K then zall (p i) n else if i = K then zall (p K) e else true) 6
theorem zks2_00 {p : Nat → Nat → Bool} {n : Nat} : zks2 p n 0 0 = 63 := by
  have : zks2 p n 0 0 = zst (fun _ => true) 6 := zst_eq (fun i _ => by
    rw [if_neg (by omega)]; split <;> rfl)
  rw [this]; decide
theorem zks2_n {p : Nat → Nat → Bool} {n K : Nat} : zks2 p n K n = zks2 p n (K + 1) 0 := by
  refine zst_eq (fun i _ => ?_)
  by_cases q : i < K
  · rw [if_pos q, if_pos (by omega)]
  · rw [if_neg q]
    by_cases q2 : i = K
    · subst q2; rw [if_pos rfl, if_pos (by omega)]
    · rw [if_neg q2, if_neg (by omega)]; split <;> rfl
theorem zks2_y {p : Nat → Nat → Bool} {n K e : Nat} (h : p K e = true) : zks2 p n K (e + 1) = zks2 p n K e := by
  refine zst_eq (fun i _ => ?_)
  rw [zall, h, Bool.and_true]
theorem zks2_no {p : Nat → Nat → Bool} {n K e : Nat} (hK : K < 6) (h : p K e = false) : zks2 p n K (e + 1) = zks2 p n K e ^^^ (zks2 p n K e &&& 2 ^ K) := by
  apply Nat.eq_of_testBit_eq
  intro i
  unfold zks2
  rw [Nat.testBit_xor, Nat.testBit_and, zst_bit, zst_bit, Nat.testBit_two_pow]
  by_cases q : i < K
  · rw [if_pos q, if_pos q, decide_eq_false (show ¬ K = i by omega)]; simp
  · rw [if_neg q, if_neg q]
    by_cases q2 : i = K
    · subst q2; rw [if_pos rfl, if_pos rfl, zall, h, decide_eq_true rfl, decide_eq_true (show i < 6 from hK)]; simp
    · rw [if_neg q2, if_neg q2, decide_eq_false (show ¬ K = i by omega)]; simp
theorem zks2_6 {p : Nat → Nat → Bool} {n : Nat} : zks2 p n 6 0 = zst (fun k => zall (p k) n) 6 := zst_eq (fun i hi => by rw [if_pos hi])
theorem zks2_lt {p : Nat → Nat → Bool} {n K e : Nat} : zks2 p n K e < 64 := zst_6 _
theorem p_M_is (hI : zIM σ S) (hV : zSV S) (h : Rf (nI (zis S.1.2.2.1.1 S.1.2.2.1.2)) σ) : CA (d + 5) 195 [.ref 56] σ (ab_rI Rf) := by
  have hn : S.1.2.2.1.1 ≤ 6 := hV.1.2.2.2.2.1
  have vN := hV.1.2.2.2.2.2.2.1
  obtain ⟨N1, N2⟩ := hI.1.2.1
  simp only [Nat.zero_add] at N1 N2
  generalize S.1.2.2.1.1 = n at *
  generalize S.1.2.2.1.2 = r at *
  have inner : ∀ K, K < 6 → (S_M_is_114 (d + 4) Rf (nI (zks2 (zrf r) n K n)) (nI K) σ) → ∀ m e, n - e ≤ m → e ≤ n → S_M_is_13 (d + 4) Rf (nI (zks2 (zrf r) n K e)) (nI K) (nI e) σ := by
    intro K hK hnx m
    induction m with
    | zero =>
      intro e q1 q2
      have : e = n := by omega
      subst this
      exact b_M_is_13 (fun _ => hnx) (fun c => absurd (by rw [N1]; exact Int32.le_refl _) c)
    | succ m ih =>
      intro e q1 q2
      by_cases qi : e = n
      · exact ih e (by omega) q2
      obtain ⟨v0, v1, v2, v3, v4⟩ := vN e (by omega)
      have hs := ih (e + 1) (by omega) (by omega)
      rw [← nI_1] at hs
      have a0 : (17 : Int32) + 5 * nI e = nI (17 + 5 * e) := by rw [zlit 5, pk_mul, zlit 17, nI_add]
      have a1 : nI (17 + 5 * e) + 1 = nI (17 + (5 * e + 1)) := nI_add _ 1
      have a2 : nI (17 + 5 * e) + 2 = nI (17 + (5 * e + 2)) := nI_add _ 2
      have a3 : nI (17 + 5 * e) + 3 = nI (17 + (5 * e + 3)) := nI_add _ 3
      have a4 : nI (17 + 5 * e) + 4 = nI (17 + (5 * e + 4)) := nI_add _ 4
      have g : ∀ j, j < 5 → σ.1 57 (Int32.toNatClampNeg (nI (17 + (5 * e + j)))) = r (5 * e + j) := fun j hj => by rw [zc_nI (by omega)]; exact N2 _ (by omega)
      have g0 : σ.1 57 (Int32.toNatClampNeg (nI (17 + 5 * e))) = r (5 * e) := g 0 (by omega)
      have i0 : ∀ j, j < 5 → vp_in (nI (17 + (5 * e + j))) 636 := fun j hj => vp_in_nI (by omega) (by omega)
      have fin : S_M_is_79 (d + 4) Rf (nI (zks2 (zrf r) n K e)) (nI K) (nI e) (nI (17 + 5 * e)) (zb (zmf K (r (5 * e)).toInt (r (5 * e + 1)).toInt (r (5 * e + 2)).toInt.toNat (decide (r (5 * e + 3) = 1)))) σ := by
        have w : S_M_is_97 (d + 4) Rf (nI (zks2 (zrf r) n K e)) (nI K) (nI e) (zb (decide (r (5 * e + 4) = 1))) (zb (zmf K (r (5 * e)).toInt (r (5 * e + 1)).toInt (r (5 * e + 2)).toInt.toNat (decide (r (5 * e + 3) = 1)))) σ := by
          refine b_M_is_97 (fun q => b_M_is_108 ?_) (fun q => b_M_is_100 (b_M_is_108 ?_))
          · have : zrf r K e = true := by
              rw [zrf]
              revert q
              cases zmf K (r (5 * e)).toInt (r (5 * e + 1)).toInt (r (5 * e + 2)).toInt.toNat (decide (r (5 * e + 3) = 1)) <;> cases decide (r (5 * e + 4) = 1) <;> decide
            rw [zks2_y this] at hs
            exact hs
          · have : zrf r K e = false := by
              rw [zrf]
              revert q
              cases zmf K (r (5 * e)).toInt (r (5 * e + 1)).toInt (r (5 * e + 2)).toInt.toNat (decide (r (5 * e + 3) = 1)) <;> cases decide (r (5 * e + 4) = 1) <;> decide
            rw [zks2_no hK this] at hs
            rw [zshl _ (by omega), zandnot _ zks2_lt _ (show 2 ^ K < 2 ^ 6 from Nat.pow_lt_pow_right (by omega) hK)]
            exact hs
        refine b_M_is_79 (by rw [a4]; exact i0 4 (by omega)) (fun q => b_M_is_92 ?_) (fun q => b_M_is_96 ?_) <;> rw [a4, g 4 (by omega)] at q
        · rw [decide_eq_true q] at w; exact w
        · rw [decide_eq_false q] at w; exact w
      refine b_M_is_13 (fun c => absurd c (by rw [N1, zle (by omega) (by omega)]; omega)) (fun _ => b_M_is_24 (by rw [a0]; exact i0 0 (by omega)) (by rw [a0, a1]; exact i0 1 (by omega)) (by rw [a0, a2]; exact i0 2 (by omega)) (by rw [a0, a3]; exact i0 3 (by omega)) (fun q => b_M_is_71 ?_) (fun q => b_M_is_75 ?_))
      · rw [a0, a3, g 3 (by omega)] at q
        rw [a0, a1, a2, g 1 (by omega), g 2 (by omega), g0]
        refine b_M_is_76 ?_
        have t := p_M_mayFoxR (d := d) (o := 1) (a := r (5 * e)) (b := r (5 * e + 1)) (c := r (5 * e + 2)) hK v0 v1 v2 (Or.inr rfl) (Rf := fun x σ' => S_M_is_79 (d + 4) Rf (nI (zks2 (zrf r) n K e)) (nI K) (nI e) (nI (17 + 5 * e)) x σ') (σ := σ)
        rw [q] at fin
        exact t fin
      · rw [a0, a3, g 3 (by omega)] at q
        rw [a0, a1, a2, g 1 (by omega), g 2 (by omega), g0]
        refine b_M_is_76 ?_
        have q0 : r (5 * e + 3) = 0 := by rcases v3 with z | z; exact z; exact absurd z q
        have t := p_M_mayFoxR (d := d) (o := 0) (a := r (5 * e)) (b := r (5 * e + 1)) (c := r (5 * e + 2)) hK v0 v1 v2 (Or.inl rfl) (Rf := fun x σ' => S_M_is_79 (d + 4) Rf (nI (zks2 (zrf r) n K e)) (nI K) (nI e) (nI (17 + 5 * e)) x σ') (σ := σ)
        rw [q0] at fin
        exact t fin
  have outer : ∀ m K, 6 - K ≤ m → K ≤ 6 → S_M_is_5 (d + 4) Rf (nI (zks2 (zrf r) n K 0)) (nI K) σ := by
    intro m
    induction m with
    | zero =>
      intro K q1 q2
      have : K = 6 := by omega
      subst this
      rw [zks2_6]
      exact b_M_is_5 (fun _ => b_M_is_120 h) (fun c => absurd (by decide) c)
    | succ m ih =>
      intro K q1 q2
      by_cases qi : K = 6
      · exact ih K (by omega) q2
      have hs := ih (K + 1) (by omega) (by omega)
      rw [← nI_1, ← zks2_n] at hs
      exact b_M_is_5 (fun c => absurd c (by rw [zlit 6, zle (by omega) (by omega)]; omega)) (fun _ => b_M_is_11 (inner K (by omega) (b_M_is_114 hs) n 0 (by omega) (by omega)))
  refine e_M_is (b_M_is_0 ?_)
  have := outer 6 0 (by omega) (by omega)
  rw [zks2_00] at this
  exact this
theorem p_M_whatOf {i : Int32} (hI : zIM σ S) (hV : zSV S) (h : Rf (nI (zwh i S.1.2.2.2.1 S.1.2.2.2.2)) σ) : CA (d + 5) 197 [.ref 56, .int i] σ (ab_rI Rf) := by
  have hn : S.1.2.2.2.1 ≤ 6 := hV.1.2.2.2.2.2.1
  have vM := hV.1.2.2.2.2.2.2.2
  obtain ⟨N1, N2⟩ := hI.1.2.2.1
  simp only [Nat.zero_add] at N1 N2
  generalize S.1.2.2.2.1 = n at *
  generalize S.1.2.2.2.2 = r at *
  have inner : ∀ K, K < 6 → (S_M_whatOf_112 (d + 4) Rf i (nI (zks2 (zrg r i) n K n)) (nI K) σ) → ∀ m e, n - e ≤ m → e ≤ n → S_M_whatOf_14 (d + 4) Rf i (nI (zks2 (zrg r i) n K e)) (nI K) (nI e) σ := by
    intro K hK hnx m
    induction m with
    | zero =>
      intro e q1 q2
      have : e = n := by omega
      subst this
      exact b_M_whatOf_14 (fun _ => hnx) (fun c => absurd (by rw [N1]; exact Int32.le_refl _) c)
    | succ m ih =>
      intro e q1 q2
      by_cases qi : e = n
      · exact ih e (by omega) q2
      obtain ⟨v0, v1, v2, v3, v4⟩ := vM e (by omega)
      have hs := ih (e + 1) (by omega) (by omega)
      rw [← nI_1] at hs
      have a0 : (48 : Int32) + 5 * nI e = nI (48 + 5 * e) := by rw [zlit 5, pk_mul, zlit 48, nI_add]
      have a1 : nI (48 + 5 * e) + 1 = nI (48 + (5 * e + 1)) := nI_add _ 1
      have a2 : nI (48 + 5 * e) + 2 = nI (48 + (5 * e + 2)) := nI_add _ 2
      have a3 : nI (48 + 5 * e) + 3 = nI (48 + (5 * e + 3)) := nI_add _ 3
      have a4 : nI (48 + 5 * e) + 4 = nI (48 + (5 * e + 4)) := nI_add _ 4
      have g : ∀ j, j < 5 → σ.1 57 (Int32.toNatClampNeg (nI (48 + (5 * e + j)))) = r (5 * e + j) := fun j hj => by rw [zc_nI (by omega)]; exact N2 _ (by omega)
      have g0 : σ.1 57 (Int32.toNatClampNeg (nI (48 + 5 * e))) = r (5 * e) := g 0 (by omega)
      have i0 : ∀ j, j < 5 → vp_in (nI (48 + (5 * e + j))) 636 := fun j hj => vp_in_nI (by omega) (by omega)
      refine b_M_whatOf_14 (fun c => absurd c (by rw [N1, zle (by omega) (by omega)]; omega)) (fun _ => b_M_whatOf_26 (by rw [a0]; exact i0 0 (by omega)) (fun q0 => ?_) (fun q0 => b_M_whatOf_106 ?_)) <;> rw [a0, g0] at q0
      · rw [a0]
        refine b_M_whatOf_46 (by rw [a1]; exact i0 1 (by omega)) (by rw [a2]; exact i0 2 (by omega)) (by rw [a3]; exact i0 3 (by omega)) ?_
        rw [a1, a2, a3, g 1 (by omega), g 2 (by omega), g 3 (by omega)]
        refine p_M_mayGooseR hK v1 v2 v3 ?_
        have w : S_M_whatOf_95 (d + 4) Rf i (nI (zks2 (zrg r i) n K e)) (nI K) (nI e) (zb (decide (r (5 * e + 4) = 1))) (zb (zmg K (r (5 * e + 1)).toInt (r (5 * e + 2)).toInt (r (5 * e + 3)).toInt.toNat)) σ := by
          refine b_M_whatOf_95 (fun q => b_M_whatOf_106 ?_) (fun q => b_M_whatOf_98 (b_M_whatOf_106 ?_))
          · have : zrg r i K e = true := by
              rw [zrg]
              revert q
              cases zmg K (r (5 * e + 1)).toInt (r (5 * e + 2)).toInt (r (5 * e + 3)).toInt.toNat <;> cases decide (r (5 * e + 4) = 1) <;> simp [zb]
            rw [zks2_y this] at hs
            exact hs
          · have : zrg r i K e = false := by
              rw [zrg, decide_eq_true q0]
              revert q
              cases zmg K (r (5 * e + 1)).toInt (r (5 * e + 2)).toInt (r (5 * e + 3)).toInt.toNat <;> cases decide (r (5 * e + 4) = 1) <;> decide
            rw [zks2_no hK this] at hs
            rw [zshl _ (by omega), zandnot _ zks2_lt _ (show 2 ^ K < 2 ^ 6 from Nat.pow_lt_pow_right (by omega) hK)]
            exact hs
        refine b_M_whatOf_77 (by rw [a4]; exact i0 4 (by omega)) (fun q => b_M_whatOf_90 ?_) (fun q => b_M_whatOf_94 ?_) <;> rw [a4, g 4 (by omega)] at q
        · rw [decide_eq_true q] at w; exact w
        · rw [decide_eq_false q] at w; exact w
      · have : zrg r i K e = true := by rw [zrg, decide_eq_false q0]; rfl
        rw [zks2_y this] at hs
        exact hs
  have outer : ∀ m K, 6 - K ≤ m → K ≤ 6 → S_M_whatOf_5 (d + 4) Rf i (nI (zks2 (zrg r i) n K 0)) (nI K) σ := by
    intro m
    induction m with
    | zero =>
      intro K q1 q2
      have : K = 6 := by omega
      subst this
      rw [zks2_6]
      exact b_M_whatOf_5 (fun _ => b_M_whatOf_118 h) (fun c => absurd (by decide) c)
    | succ m ih =>
      intro K q1 q2
      by_cases qi : K = 6
      · exact ih K (by omega) q2
      have hs := ih (K + 1) (by omega) (by omega)
      rw [← nI_1, ← zks2_n] at hs
      exact b_M_whatOf_5 (fun c => absurd c (by rw [zlit 6, zle (by omega) (by omega)]; omega)) (fun _ => b_M_whatOf_11 (inner K (by omega) (b_M_whatOf_112 hs) n 0 (by omega) (by omega)))
  refine e_M_whatOf (b_M_whatOf_0 ?_)
  have := outer 6 0 (by omega) (by omega)
  rw [zks2_00] at this
  exact this
def zO_is (S : zS) : Int32 × zS := (nI (zis S.1.2.2.1.1 S.1.2.2.1.2), S)
def zO_kinds (S : zS) (x : Int32) : Int32 × zS := if 0 ≤ x.toInt ∧ x.toInt < S.1.1 2 then (nI (zwh x S.1.2.2.2.1 S.1.2.2.2.2), S) else (-2, zbump S 0)
theorem zO_kinds_V {x : Int32} (hV : zSV S) : zSV (zO_kinds S x).2 := by
  unfold zO_kinds; split
  · exact hV
  · exact zbump_V hV
theorem p_F_is (hI : zIF σ S) (hV : zSV S) (h : ∀ τ, zIF τ (zO_is S).2 → zKF σ τ → Rf (zO_is S).1 τ) : CA (d + 4) 88 [.ref 0] σ (ab_rI Rf) :=
  e_F_is (b_F_is_0 (p_F_foxKinds hI hV (b_F_is_4 (h σ hI zKF.rf))))
theorem p_M_is2 (hI : zIM σ S) (hV : zSV S) (h : ∀ τ, zIM τ (zO_is S).2 → zKM σ τ → Rf (zO_is S).1 τ) : CA (d + 5) 195 [.ref 56] σ (ab_rI Rf) :=
  p_M_is hI hV (h σ hI zKM.rf)
theorem p_F_kinds {x : Int32} (hI : zIF σ S) (hV : zSV S) (h : ∀ τ, zIF τ (zO_kinds S x).2 → zKF σ τ → Rf (zO_kinds S x).1 τ) : CA (d + 4) 90 [.ref 0, .int x] σ (ab_rI Rf) := by
  refine e_F_kinds (b_F_kinds_0 (p_B_isGoose zsh2 hI.1.1 hV.1.1 (b_F_kinds_11 (fun q => ?_) (fun q => ?_))))
  · rw [zO_kinds, if_neg (of_decide_eq_false (zb_0.mp q))] at h
    exact b_F_kinds_22 (p_F_bad hI (fun τ a b => b_F_kinds_28 (h τ a b)))
  · rw [zO_kinds, if_pos (of_decide_eq_true (nbt q))] at h
    exact b_F_kinds_14 (p_F_gooseKinds hI hV (b_F_kinds_19 (b_F_kinds_28 (h σ hI zKF.rf))))
theorem p_M_kinds {x : Int32} (hI : zIM σ S) (hV : zSV S) (h : ∀ τ, zIM τ (zO_kinds S x).2 → zKM σ τ → Rf (zO_kinds S x).1 τ) : CA (d + 6) 198 [.ref 56, .int x] σ (ab_rI Rf) := by
  refine e_M_kinds (b_M_kinds_0 (p_M_inG (r := 0) hI.1.1 hV.1.1.1.2.2.1 (b_M_kinds_15 (fun q => ?_) (fun q => ?_))))
  · rw [zO_kinds, if_neg (of_decide_eq_false (zb_0.mp q))] at h
    exact b_M_kinds_26 (p_M_bad hI (fun τ a b => b_M_kinds_32 (h τ a b)))
  · rw [zO_kinds, if_pos (of_decide_eq_true (nbt q))] at h
    exact b_M_kinds_18 (p_M_whatOf hI hV (b_M_kinds_23 (b_M_kinds_32 (h σ hI zKM.rf))))
end KO
