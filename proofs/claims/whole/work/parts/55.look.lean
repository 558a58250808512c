/-! look and ask, both sides -/
def zlk (l0 : Nat) (G code : Nat → Nat) : Nat → Nat × Int32
  | 0 => (l0, -1)
  | e + 1 => if G e < (zlk l0 G code e).1 then (G e, nI (code e)) else zlk l0 G code e
theorem zlk_le {G code : Nat → Nat} (h : ∀ e, G e ≤ 6) : ∀ e, (zlk 7 G code e).1 ≤ 7
  | 0 => Nat.le_refl _
  | e + 1 => by
    rw [zlk]; split
    · have := h e; show G e ≤ 7; omega
    · exact zlk_le h e
theorem zlk_le2 {G code : Nat → Nat} (h : ∀ e, G e ≤ 6) : ∀ e, (zlk 1000000 G code e).1 ≤ 1000000
  | 0 => Nat.le_refl _
  | e + 1 => by
    rw [zlk]; split
    · have := h e; show G e ≤ 1000000; omega
    · exact zlk_le2 h e
theorem zlk_7 {G code : Nat → Nat} (h : ∀ e, G e ≤ 6) : ∀ {e}, zlk 7 G code (e + 1) = zlk 1000000 G code (e + 1)
  | 0 => by
    have := h 0
    show (if G 0 < 7 then (G 0, nI (code 0)) else ((7, -1) : Nat × Int32)) = (if G 0 < 1000000 then (G 0, nI (code 0)) else (1000000, -1))
    rw [if_pos (by omega), if_pos (by omega)]
  | e + 1 => by rw [zlk, zlk_7 h, zlk.eq_def 1000000 G code (e + 1 + 1)]
def zchk (v : Nat → Bool) (code : Nat → Nat) (E : Nat) : Nat → Nat → Nat → Bool
  | 0, _, e => decide (e = E)
  | f + 1, c, e => if v c = true then decide (code e = c) && decide (e < E) && zchk v code E f (c + 1) (e + 1) else zchk v code E f (c + 1) e
def zvl (c : Nat) : Bool := decide (c / 100 % 10 ≤ 4 ∧ c / 10 % 10 ≤ 4 ∧ c % 10 < 6)
def zvk (c : Nat) : Bool := decide (c / 100 % 10 ≤ 4 ∧ c / 10 % 10 ≤ 4)
def zcl0 (e : Nat) : Nat := 1000 * (e / 150) + 100 * (e / 30 % 5) + 10 * (e / 6 % 5) + e % 6
def zca0 (e : Nat) : Nat := 100 * (e / 50) + 10 * (e / 10 % 5) + e % 10
theorem zchk_l : zchk zvl zcl0 300 2000 0 0 = true := by decide +kernel
theorem zchk_a : zchk zvk zca0 250 500 0 0 = true := by decide +kernel
theorem zdec_l : ∀ e, e < 300 → zcl0 e / 1000 = e / 150 ∧ zcl0 e / 100 % 10 = e / 30 % 5 ∧ zcl0 e / 10 % 10 = e / 6 % 5 ∧ zcl0 e % 10 = e % 6 := by decide +kernel
theorem zdec_a : ∀ e, e < 250 → zca0 e / 1000 = 0 ∧ zca0 e / 100 % 10 = e / 50 ∧ zca0 e / 10 % 10 = e / 10 % 5 ∧ zca0 e % 10 = e % 10 := by decide +kernel
def zmyl (e : Nat) : Nat := zst (fun k => zmf k ((e / 30 % 5 : Nat) - (2 : Nat)) ((e / 6 % 5 : Nat) - (2 : Nat)) (e % 6) (decide (e / 150 = 1))) 6
def zmya (e : Nat) : Nat := zst (fun k => zmg k ((e / 50 : Nat) - (2 : Nat)) ((e / 10 % 5 : Nat) - (2 : Nat)) (e % 10)) 6
def zGl (s e : Nat) : Nat := if zpc (s &&& zmyl e) 25 < zpc (s ^^^ (s &&& zmyl e)) 25 then zpc (s ^^^ (s &&& zmyl e)) 25 else zpc (s &&& zmyl e) 25
def zGa (s e : Nat) : Nat := if zpc (s &&& zmya e) 25 < zpc (s ^^^ (s &&& zmya e)) 25 then zpc (s ^^^ (s &&& zmya e)) 25 else zpc (s &&& zmya e) 25
theorem zpc_split (a b : Nat) : ∀ n, zpc (a &&& b) n + zpc (a ^^^ (a &&& b)) n = zpc a n
  | 0 => rfl
  | n + 1 => by
    have := zpc_split a b n
    rw [zpc, zpc, zpc, Nat.testBit_xor, Nat.testBit_and]
    cases a.testBit n <;> cases b.testBit n <;> simp <;> omega
theorem zpc_64 {s : Nat} (h : s < 64) : zpc s 25 ≤ 6 := by
  have e : zpc s (6 + 19) = zpc s 6 := zpc_up h 19
  have := zpc_le s 6
  rw [show (25 : Nat) = 6 + 19 from rfl, e]
  exact this
theorem zGl_le {s : Nat} (h : s < 64) (e : Nat) : zGl s e ≤ 6 := by
  have h1 := zpc_split s (zmyl e) 25
  have h2 := zpc_64 h
  unfold zGl; split <;> omega
theorem zGa_le {s : Nat} (h : s < 64) (e : Nat) : zGa s e ≤ 6 := by
  have h1 := zpc_split s (zmya e) 25
  have h2 := zpc_64 h
  unfold zGa; split <;> omega
section LA
variable {d : Nat} {S : zS} {σ : ab_S} {Rf : Int32 → ab_S → Prop}
theorem p_F_evenL {s : Nat} (hs : s < 64) (h : Rf (if s = 0 then -1 else (zlk 1000000 (zGl s) zcl0 300).2) σ) : CA (d + 3) 112 [.int (nI s), .int 1] σ (ab_rI Rf) := by
  have s0 : (nI s = 0) ↔ s = 0 := zeq (b := 0) (by omega) (by omega)
  refine e_F_evenestStep (d_F_evenestStep_0 ?_)
  by_cases z : s = 0
  · rw [if_pos (s0.mpr z)]
    rw [if_pos z] at h
    exact b_F_evenestStep_21 (b_F_evenestStep_31 (fun _ => b_F_evenestStep_167 h) (fun c => absurd (by decide) c))
  rw [if_neg (fun q => z (s0.mp q)), if_neg (by decide)]
  rw [if_neg z] at h
  have key : ∀ f c e, f + c = 2000 → zchk zvl zcl0 300 f c e = true → S_F_evenestStep_31 (d + 2) Rf (nI s) 1 2000 (nI (zlk 7 (zGl s) zcl0 e).1) (zlk 7 (zGl s) zcl0 e).2 (nI c) σ := by
    intro f
    induction f with
    | zero =>
      intro c e q1 q2
      have hc : c = 2000 := by omega
      subst hc
      have he : e = 300 := of_decide_eq_true q2
      subst he
      rw [← zlk_7 (fun e => zGl_le hs e) (e := 299)] at h
      exact b_F_evenestStep_31 (fun _ => b_F_evenestStep_167 h) (fun c => absurd (Int32.le_refl _) c)
    | succ f ih =>
      intro c e q1 q2
      have x1 : ((nI c / 100) - (nI c / 100) / 10 * 10) - 2 = iI ((c / 100 % 10 : Nat) - (2 : Nat)) := by
        rw [zlit 100, zdiv (by omega) (by omega) (by omega), zlit 10, zrem (by omega) (by omega) (by omega), zlit 2, zsubI (by omega) (by omega)]
      have x2 : ((nI c / 10) - (nI c / 10) / 10 * 10) - 2 = iI ((c / 10 % 10 : Nat) - (2 : Nat)) := by
        rw [zlit 10, zdiv (by omega) (by omega) (by omega), zrem (by omega) (by omega) (by omega), zlit 2, zsubI (by omega) (by omega)]
      have x3 : nI c - nI c / 10 * 10 = nI (c % 10) := by
        rw [zlit 10, zrem (by omega) (by omega) (by omega)]
      have skip : zvl c = false → S_F_evenestStep_161 (d + 2) Rf (nI s) 1 2000 (nI (zlk 7 (zGl s) zcl0 e).1) (zlk 7 (zGl s) zcl0 e).2 (nI c) σ := fun v => by
        rw [zchk, if_neg (by rw [v]; decide)] at q2
        refine b_F_evenestStep_161 ?_
        rw [nI_1]
        exact ih (c + 1) e (by omega) q2
      refine b_F_evenestStep_31 (fun q => absurd q ?_) (fun _ => ?_)
      · rw [zlit 2000, zle (by omega) (by omega)]; omega
      refine b_F_evenestStep_37 (fun q => skip ?_) (fun q => b_F_evenestStep_74 (fun q3 => skip ?_) (fun q3 => ?_))
      · rw [x1, fa_lt, zt2, zi (by omega)] at q
        unfold zvl; simp; omega
      · rw [x2, fa_lt, zt2, zi (by omega)] at q3
        unfold zvl; simp; omega
      rw [x1, fa_lt, zt2, zi (by omega)] at q
      rw [x2, fa_lt, zt2, zi (by omega)] at q3
      rw [x1, x2, x3]
      have go : zvl c = true → S_F_evenestStep_94 (d + 2) Rf (nI s) 1 2000 (nI (zlk 7 (zGl s) zcl0 e).1) (zlk 7 (zGl s) zcl0 e).2 (nI c) (iI ((c / 100 % 10 : Nat) - (2 : Nat))) (iI ((c / 10 % 10 : Nat) - (2 : Nat))) (nI (c % 10)) σ := fun v => by
        rw [zchk, if_pos v, Bool.and_eq_true, Bool.and_eq_true, decide_eq_true_eq, decide_eq_true_eq] at q2
        obtain ⟨⟨q2, qe⟩, qn⟩ := q2
        obtain ⟨d1, d2, d3, d4⟩ := zdec_l e qe
        rw [q2] at d1 d2 d3 d4
        have hn := ih (c + 1) (e + 1) (by omega) qn
        rw [← nI_1] at hn
        have hl := zlk_le (fun e => zGl_le hs e) (code := zcl0) e
        have hg := zGl_le hs e
        have fin : S_F_evenestStep_125 (d + 2) Rf (nI s) 1 2000 (nI (zlk 7 (zGl s) zcl0 e).1) (zlk 7 (zGl s) zcl0 e).2 (nI c) (nI (zmyl e)) σ := by
          have ms : zmyl e < 64 := zst_6 _
          have b1 : s &&& zmyl e ≤ s := Nat.and_le_left
          have b2 : s ^^^ (s &&& zmyl e) < 2 ^ 6 := Nat.xor_lt_two_pow hs (by omega)
          refine b_F_evenestStep_125 ?_
          rw [fa_and]
          refine p_J_bitCount (by omega) (b_F_evenestStep_134 ?_)
          rw [zandnot _ hs _ ms]
          refine p_J_bitCount (by omega) (b_F_evenestStep_143 (p_J_max ?_))
          have p1 := zpc_le (s &&& zmyl e) 25
          have p2 := zpc_le (s ^^^ (s &&& zmyl e)) 25
          have eg : (if nI (zpc (s &&& zmyl e) 25) < nI (zpc (s ^^^ (s &&& zmyl e)) 25) then nI (zpc (s ^^^ (s &&& zmyl e)) 25) else nI (zpc (s &&& zmyl e) 25)) = nI (zGl s e) := by
            unfold zGl
            by_cases w : zpc (s &&& zmyl e) 25 < zpc (s ^^^ (s &&& zmyl e)) 25
            · rw [if_pos ((zlt (by omega) (by omega)).mpr w), if_pos w]
            · rw [if_neg (fun x => w ((zlt (by omega) (by omega)).mp x)), if_neg w]
          rw [eg]
          rw [zlk] at hn
          refine b_F_evenestStep_146 (fun w => ?_) (fun w => b_F_evenestStep_154 ?_) <;> rw [zle (by omega) (by omega)] at w
          · rw [if_neg (by omega)] at hn
            exact b_F_evenestStep_161 hn
          · rw [if_pos (by omega), q2] at hn
            exact b_F_evenestStep_161 hn
        refine b_F_evenestStep_94 (fun x => absurd x (by decide)) (fun _ => b_F_evenestStep_98 ?_)
        have eo : nI c / 1000 = zb (decide (c / 1000 = 1)) := by
          rw [zlit 1000, zdiv (by omega) (by omega) (by omega)]
          rcases (show c / 1000 = 0 ∨ c / 1000 = 1 by omega) with w | w <;> rw [w] <;> decide
        rw [eo]
        refine p_K_foxesThatMay (by omega) (by omega) (by omega) (b_F_evenestStep_113 ?_)
        have em : zst (fun k => zmf k ((c / 100 % 10 : Nat) - (2 : Nat)) ((c / 10 % 10 : Nat) - (2 : Nat)) (c % 10) (decide (c / 1000 = 1))) 6 = zmyl e := by
          rw [d1, d2, d3, d4]; rfl
        rw [em]
        exact fin
      refine b_F_evenestStep_80 (fun x => absurd x (by decide)) (fun _ => b_F_evenestStep_84 (fun w => go ?_) (fun w => b_F_evenestStep_91 (skip ?_))) <;> rw [zlit 6, zlt (by omega) (by omega)] at w
      · unfold zvl; simp; omega
      · unfold zvl; simp; omega
  have := key 2000 0 0 (by omega) zchk_l
  exact b_F_evenestStep_21 this
theorem p_F_evenA {s : Nat} (hs : s < 64) (h : Rf (if s = 0 then -1 else (zlk 1000000 (zGa s) zca0 250).2) σ) : CA (d + 3) 112 [.int (nI s), .int 0] σ (ab_rI Rf) := by
  have s0 : (nI s = 0) ↔ s = 0 := zeq (b := 0) (by omega) (by omega)
  refine e_F_evenestStep (d_F_evenestStep_0 ?_)
  by_cases z : s = 0
  · rw [if_pos (s0.mpr z)]
    rw [if_pos z] at h
    exact b_F_evenestStep_21 (b_F_evenestStep_31 (fun _ => b_F_evenestStep_167 h) (fun c => absurd (by decide) c))
  rw [if_neg (fun q => z (s0.mp q)), if_pos rfl]
  rw [if_neg z] at h
  have key : ∀ f c e, f + c = 500 → zchk zvk zca0 250 f c e = true → S_F_evenestStep_31 (d + 2) Rf (nI s) 0 500 (nI (zlk 7 (zGa s) zca0 e).1) (zlk 7 (zGa s) zca0 e).2 (nI c) σ := by
    intro f
    induction f with
    | zero =>
      intro c e q1 q2
      have hc : c = 500 := by omega
      subst hc
      have he : e = 250 := of_decide_eq_true q2
      subst he
      rw [← zlk_7 (fun e => zGa_le hs e) (e := 249)] at h
      exact b_F_evenestStep_31 (fun _ => b_F_evenestStep_167 h) (fun c => absurd (Int32.le_refl _) c)
    | succ f ih =>
      intro c e q1 q2
      have x1 : ((nI c / 100) - (nI c / 100) / 10 * 10) - 2 = iI ((c / 100 % 10 : Nat) - (2 : Nat)) := by
        rw [zlit 100, zdiv (by omega) (by omega) (by omega), zlit 10, zrem (by omega) (by omega) (by omega), zlit 2, zsubI (by omega) (by omega)]
      have x2 : ((nI c / 10) - (nI c / 10) / 10 * 10) - 2 = iI ((c / 10 % 10 : Nat) - (2 : Nat)) := by
        rw [zlit 10, zdiv (by omega) (by omega) (by omega), zrem (by omega) (by omega) (by omega), zlit 2, zsubI (by omega) (by omega)]
      have x3 : nI c - nI c / 10 * 10 = nI (c % 10) := by
        rw [zlit 10, zrem (by omega) (by omega) (by omega)]
      have skip : zvk c = false → S_F_evenestStep_161 (d + 2) Rf (nI s) 0 500 (nI (zlk 7 (zGa s) zca0 e).1) (zlk 7 (zGa s) zca0 e).2 (nI c) σ := fun v => by
        rw [zchk, if_neg (by rw [v]; decide)] at q2
        refine b_F_evenestStep_161 ?_
        rw [nI_1]
        exact ih (c + 1) e (by omega) q2
      refine b_F_evenestStep_31 (fun q => absurd q ?_) (fun _ => ?_)
      · rw [zlit 500, zle (by omega) (by omega)]; omega
      refine b_F_evenestStep_37 (fun q => skip ?_) (fun q => b_F_evenestStep_74 (fun q3 => skip ?_) (fun q3 => ?_))
      · rw [x1, fa_lt, zt2, zi (by omega)] at q
        unfold zvk; simp; omega
      · rw [x2, fa_lt, zt2, zi (by omega)] at q3
        unfold zvk; simp; omega
      rw [x1, fa_lt, zt2, zi (by omega)] at q
      rw [x2, fa_lt, zt2, zi (by omega)] at q3
      rw [x1, x2, x3]
      have go : zvk c = true → S_F_evenestStep_94 (d + 2) Rf (nI s) 0 500 (nI (zlk 7 (zGa s) zca0 e).1) (zlk 7 (zGa s) zca0 e).2 (nI c) (iI ((c / 100 % 10 : Nat) - (2 : Nat))) (iI ((c / 10 % 10 : Nat) - (2 : Nat))) (nI (c % 10)) σ := fun v => by
        rw [zchk, if_pos v, Bool.and_eq_true, Bool.and_eq_true, decide_eq_true_eq, decide_eq_true_eq] at q2
        obtain ⟨⟨q2, qe⟩, qn⟩ := q2
        obtain ⟨d1, d2, d3, d4⟩ := zdec_a e qe
        rw [q2] at d1 d2 d3 d4
        have hn := ih (c + 1) (e + 1) (by omega) qn
        rw [← nI_1] at hn
        have hl := zlk_le (fun e => zGa_le hs e) (code := zca0) e
        have hg := zGa_le hs e
        have fin : S_F_evenestStep_125 (d + 2) Rf (nI s) 0 500 (nI (zlk 7 (zGa s) zca0 e).1) (zlk 7 (zGa s) zca0 e).2 (nI c) (nI (zmya e)) σ := by
          have ms : zmya e < 64 := zst_6 _
          have b1 : s &&& zmya e ≤ s := Nat.and_le_left
          have b2 : s ^^^ (s &&& zmya e) < 2 ^ 6 := Nat.xor_lt_two_pow hs (by omega)
          refine b_F_evenestStep_125 ?_
          rw [fa_and]
          refine p_J_bitCount (by omega) (b_F_evenestStep_134 ?_)
          rw [zandnot _ hs _ ms]
          refine p_J_bitCount (by omega) (b_F_evenestStep_143 (p_J_max ?_))
          have p1 := zpc_le (s &&& zmya e) 25
          have p2 := zpc_le (s ^^^ (s &&& zmya e)) 25
          have eg : (if nI (zpc (s &&& zmya e) 25) < nI (zpc (s ^^^ (s &&& zmya e)) 25) then nI (zpc (s ^^^ (s &&& zmya e)) 25) else nI (zpc (s &&& zmya e) 25)) = nI (zGa s e) := by
            unfold zGa
            by_cases w : zpc (s &&& zmya e) 25 < zpc (s ^^^ (s &&& zmya e)) 25
            · rw [if_pos ((zlt (by omega) (by omega)).mpr w), if_pos w]
            · rw [if_neg (fun x => w ((zlt (by omega) (by omega)).mp x)), if_neg w]
          rw [eg]
          rw [zlk] at hn
          refine b_F_evenestStep_146 (fun w => ?_) (fun w => b_F_evenestStep_154 ?_) <;> rw [zle (by omega) (by omega)] at w
          · rw [if_neg (by omega)] at hn
            exact b_F_evenestStep_161 hn
          · rw [if_pos (by omega), q2] at hn
            exact b_F_evenestStep_161 hn
        refine b_F_evenestStep_94 (fun _ => b_F_evenestStep_116 ?_) (fun x => absurd rfl x)
        refine p_K_geeseThatMay (by omega) (by omega) (by omega) ?_
        have em : zst (fun k => zmg k ((c / 100 % 10 : Nat) - (2 : Nat)) ((c / 10 % 10 : Nat) - (2 : Nat)) (c % 10)) 6 = zmya e := by
          rw [d2, d3, d4]; rfl
        rw [em]
        exact fin
      refine b_F_evenestStep_80 (fun _ => go ?_) (fun x => absurd rfl x)
      unfold zvk; simp; omega
  have := key 500 0 0 (by omega) zchk_a
  exact b_F_evenestStep_21 this
theorem p_M_look {s : Nat} (hs : s < 64) (h : Rf (if s = 0 then -1 else (zlk 1000000 (zGl s) zcl0 300).2) σ) : S_M_look_4 (d + 4) Rf (nI s) σ := by
  have s0 : (nI s = 0) ↔ s = 0 := zeq (b := 0) (by omega) (by omega)
  have key : ∀ m e, 300 - e ≤ m → e ≤ 300 → S_M_look_13 (d + 4) Rf (nI s) (zlk 1000000 (zGl s) zcl0 e).2 (nI (zlk 1000000 (zGl s) zcl0 e).1) (nI e) σ := by
    intro m
    induction m with
    | zero =>
      intro e q1 q2
      have : e = 300 := by omega
      subst this
      refine b_M_look_13 (fun _ => b_M_look_197 (fun q => ?_) (fun q => ?_)) (fun c => absurd (by decide) c)
      · rw [if_pos (s0.mp q)] at h; exact b_M_look_201 (b_M_look_206 h)
      · rw [if_neg (fun z => q (s0.mpr z))] at h; exact b_M_look_205 (b_M_look_206 h)
    | succ m ih =>
      intro e q1 q2
      by_cases qi : e = 300
      · exact ih e (by omega) q2
      have hn := ih (e + 1) (by omega) (by omega)
      rw [zlk, ← nI_1] at hn
      have hl := zlk_le2 (fun e => zGl_le hs e) (code := zcl0) e
      have hg := zGl_le hs e
      have y5 : nI e / 150 = nI (e / 150) := by rw [zlit 150, zdiv (by omega) (by omega) (by omega)]
      have y6 : nI e / 30 - nI e / 30 / 5 * 5 = nI (e / 30 % 5) := by rw [zlit 30, zdiv (by omega) (by omega) (by omega), zlit 5, zrem (by omega) (by omega) (by omega)]
      have y7 : nI e / 6 - nI e / 6 / 5 * 5 = nI (e / 6 % 5) := by rw [zlit 6, zdiv (by omega) (by omega) (by omega), zlit 5, zrem (by omega) (by omega) (by omega)]
      have y4 : nI e - nI e / 6 * 6 = nI (e % 6) := by rw [zlit 6, zrem (by omega) (by omega) (by omega)]
      generalize zlk 1000000 (zGl s) zcl0 e = zz at *
      obtain ⟨few, bst⟩ := zz
      dsimp only at *
      have b1 : s &&& zmyl e ≤ s := Nat.and_le_left
      have pu : zpc (s &&& zmyl e) 25 = zpc (s &&& zmyl e) 6 := zpc_up (n := 6) (show s &&& zmyl e < 2 ^ 6 by omega) 19
      have ps := zpc_split s (zmyl e) 25
      have p6 := zpc_64 hs
      -- behind the count
      have aft : S_M_look_117 (d + 4) Rf (nI s) bst (nI few) (nI e) (nI (e / 150)) (nI (e / 30 % 5)) (nI (e / 6 % 5)) (nI (zpc (s &&& zmyl e) 25)) σ := by
        have fin : S_M_look_141 (d + 4) Rf (nI s) bst (nI few) (nI e) (nI (e / 150)) (nI (e / 30 % 5)) (nI (e / 6 % 5)) (nI (zGl s e)) σ := by
          refine b_M_look_141 (fun w => b_M_look_176 (b_M_look_177 (fun _ => b_M_look_189 (b_M_look_190 ?_)) (fun w2 => absurd w w2))) (fun w => b_M_look_149 (b_M_look_177 (fun w2 => absurd w2 w) (fun _ => b_M_look_184 (b_M_look_190 ?_)))) <;> rw [zle (by omega) (by omega)] at w
          · rw [if_neg (by omega)] at hn; exact hn
          · rw [if_pos (by omega)] at hn
            rw [y4, zlit 1000, pk_mul, zlit 100, pk_mul, zlit 10, pk_mul, nI_add, nI_add, nI_add]
            exact hn
        refine b_M_look_117 (p_M_ones (by omega) (b_M_look_123 (fun w => b_M_look_134 (p_M_ones (by omega) (b_M_look_138 ?_))) (fun w => b_M_look_129 ?_))) <;> rw [pk_sub (by omega), zle (by omega) (by omega)] at w
        · rw [pk_sub (by omega)]
          have : zGl s e = zpc s 25 - zpc (s &&& zmyl e) 25 := by unfold zGl; split <;> omega
          rw [this] at fin; exact fin
        · have : zGl s e = zpc (s &&& zmyl e) 25 := by unfold zGl; split <;> omega
          rw [this] at fin; exact fin
      have cnt : ∀ n k, 6 - k ≤ n → k ≤ 6 → S_M_look_53 (d + 4) Rf (nI s) bst (nI few) (nI e) (nI (e / 150)) (nI (e / 30 % 5)) (nI (e / 6 % 5)) (nI (zpc (s &&& zmyl e) k)) (nI k) σ := by
        intro n
        induction n with
        | zero =>
          intro k r1 r2
          have : k = 6 := by omega
          subst this
          rw [pu] at aft
          exact b_M_look_53 (fun _ => aft) (fun c => absurd (by decide) c)
        | succ n ih2 =>
          intro k r1 r2
          by_cases qk : k = 6
          · exact ih2 k (by omega) r2
          have hk := ih2 (k + 1) (by omega) (by omega)
          have eb : (s &&& zmyl e).testBit k = (s.testBit k && zmf k ((e / 30 % 5 : Nat) - (2 : Nat)) ((e / 6 % 5 : Nat) - (2 : Nat)) (e % 6) (decide (e / 150 = 1))) := by
            rw [Nat.testBit_and, zmyl, zst_bit, decide_eq_true (show k < 6 by omega), Bool.true_and]
          rw [zpc, eb, ← nI_1, ← nI_add] at hk
          refine b_M_look_53 (fun c => absurd c (by rw [zlit 6, zle (by omega) (by omega)]; omega)) (fun _ => b_M_look_60 (p_M_has (by omega) (by omega) (b_M_look_68 (fun w => ?_) (fun w => d_M_look_71 ?_))))
          · rw [zb_0.mp w] at hk
            exact b_M_look_107 (b_M_look_108 hk)
          · rw [nbt w, Bool.true_and] at hk
            have eo : (if nI (e / 150) = 1 then (1 : Int32) else 0) = zb (decide (e / 150 = 1)) := by
              rcases (show e / 150 = 0 ∨ e / 150 = 1 by omega) with z | z <;> rw [z] <;> decide
            rw [eo, y4, zlit 2, zsubI (by omega) (by omega), zsubI (by omega) (by omega)]
            refine b_M_look_97 (p_M_mayFox (by omega) (by omega) (by omega) (by omega) (b_M_look_100 (fun w2 => b_M_look_107 (b_M_look_108 ?_)) (fun w2 => b_M_look_103 (b_M_look_108 ?_))))
            · rw [zb_0.mp w2] at hk; exact hk
            · rw [nbt w2] at hk; exact hk
      refine b_M_look_13 (fun c => absurd c (by rw [zlit 300, zle (by omega) (by omega)]; omega)) (fun _ => b_M_look_21 ?_)
      rw [y5, y6, y7]
      exact cnt 6 0 (by omega) (by omega)
  exact b_M_look_4 (key 300 0 (by omega) (by omega))
theorem p_M_ask {s : Nat} (hs : s < 64) (h : Rf (if s = 0 then -1 else (zlk 1000000 (zGa s) zca0 250).2) σ) : S_M_ask_30 (d + 4) Rf (nI s) σ := by
  have s0 : (nI s = 0) ↔ s = 0 := zeq (b := 0) (by omega) (by omega)
  have key : ∀ m e, 250 - e ≤ m → e ≤ 250 → S_M_ask_40 (d + 4) Rf (nI s) (zlk 1000000 (zGa s) zca0 e).2 (nI (zlk 1000000 (zGa s) zca0 e).1) (nI e) σ := by
    intro m
    induction m with
    | zero =>
      intro e q1 q2
      have : e = 250 := by omega
      subst this
      refine b_M_ask_40 (fun _ => b_M_ask_200 (fun q => ?_) (fun q => ?_)) (fun c => absurd (by decide) c)
      · rw [if_pos (s0.mp q)] at h; exact b_M_ask_204 (b_M_ask_209 h)
      · rw [if_neg (fun z => q (s0.mpr z))] at h; exact b_M_ask_208 (b_M_ask_209 h)
    | succ m ih =>
      intro e q1 q2
      by_cases qi : e = 250
      · exact ih e (by omega) q2
      have hn := ih (e + 1) (by omega) (by omega)
      rw [zlk, ← nI_1] at hn
      have hl := zlk_le2 (fun e => zGa_le hs e) (code := zca0) e
      have hg := zGa_le hs e
      have y6 : nI e / 50 = nI (e / 50) := by rw [zlit 50, zdiv (by omega) (by omega) (by omega)]
      have y7 : nI e / 10 - nI e / 10 / 5 * 5 = nI (e / 10 % 5) := by rw [zlit 10, zdiv (by omega) (by omega) (by omega), zlit 5, zrem (by omega) (by omega) (by omega)]
      have y4 : nI e - nI e / 10 * 10 = nI (e % 10) := by rw [zlit 10, zrem (by omega) (by omega) (by omega)]
      generalize zlk 1000000 (zGa s) zca0 e = zz at *
      obtain ⟨few, bst⟩ := zz
      dsimp only at *
      have b1 : s &&& zmya e ≤ s := Nat.and_le_left
      have pu : zpc (s &&& zmya e) 25 = zpc (s &&& zmya e) 6 := zpc_up (n := 6) (show s &&& zmya e < 2 ^ 6 by omega) 19
      have ps := zpc_split s (zmya e) 25
      have p6 := zpc_64 hs
      have aft : S_M_ask_123 (d + 4) Rf (nI s) bst (nI few) (nI e) (nI (e / 50)) (nI (e / 10 % 5)) (nI (zpc (s &&& zmya e) 25)) σ := by
        have fin : S_M_ask_147 (d + 4) Rf (nI s) bst (nI few) (nI e) (nI (e / 50)) (nI (e / 10 % 5)) (nI (zGa s e)) σ := by
          refine b_M_ask_147 (fun w => b_M_ask_176 (b_M_ask_177 (fun _ => b_M_ask_190 (b_M_ask_192 ?_)) (fun w2 => absurd w w2))) (fun w => b_M_ask_156 (b_M_ask_177 (fun w2 => absurd w2 w) (fun _ => b_M_ask_185 (b_M_ask_192 ?_)))) <;> rw [zle (by omega) (by omega)] at w
          · rw [if_neg (by omega)] at hn; exact hn
          · rw [if_pos (by omega)] at hn
            rw [y4, zlit 100, pk_mul, zlit 10, pk_mul, nI_add, nI_add]
            exact hn
        refine b_M_ask_123 (p_M_ones (by omega) (b_M_ask_129 (fun w => b_M_ask_140 (p_M_ones (by omega) (b_M_ask_144 ?_))) (fun w => b_M_ask_135 ?_))) <;> rw [pk_sub (by omega), zle (by omega) (by omega)] at w
        · rw [pk_sub (by omega)]
          have : zGa s e = zpc s 25 - zpc (s &&& zmya e) 25 := by unfold zGa; split <;> omega
          rw [this] at fin; exact fin
        · have : zGa s e = zpc (s &&& zmya e) 25 := by unfold zGa; split <;> omega
          rw [this] at fin; exact fin
      have cnt : ∀ n k, 6 - k ≤ n → k ≤ 6 → S_M_ask_70 (d + 4) Rf (nI s) bst (nI few) (nI e) (nI (e / 50)) (nI (e / 10 % 5)) (nI (zpc (s &&& zmya e) k)) (nI k) σ := by
        intro n
        induction n with
        | zero =>
          intro k r1 r2
          have : k = 6 := by omega
          subst this
          rw [pu] at aft
          exact b_M_ask_70 (fun _ => aft) (fun c => absurd (by decide) c)
        | succ n ih2 =>
          intro k r1 r2
          by_cases qk : k = 6
          · exact ih2 k (by omega) r2
          have hk := ih2 (k + 1) (by omega) (by omega)
          have eb : (s &&& zmya e).testBit k = (s.testBit k && zmg k ((e / 50 : Nat) - (2 : Nat)) ((e / 10 % 5 : Nat) - (2 : Nat)) (e % 10)) := by
            rw [Nat.testBit_and, zmya, zst_bit, decide_eq_true (show k < 6 by omega), Bool.true_and]
          rw [zpc, eb, ← nI_1, ← nI_add] at hk
          refine b_M_ask_70 (fun c => absurd c (by rw [zlit 6, zle (by omega) (by omega)]; omega)) (fun _ => b_M_ask_77 (p_M_has (by omega) (by omega) (b_M_ask_85 (fun w => ?_) (fun w => b_M_ask_88 ?_))))
          · rw [zb_0.mp w] at hk
            exact b_M_ask_113 (b_M_ask_114 hk)
          · rw [nbt w, Bool.true_and] at hk
            rw [y4, zlit 2, zsubI (by omega) (by omega), zsubI (by omega) (by omega)]
            refine p_M_mayGoose (by omega) (by omega) (by omega) (by omega) (b_M_ask_106 (fun w2 => b_M_ask_113 (b_M_ask_114 ?_)) (fun w2 => b_M_ask_109 (b_M_ask_114 ?_)))
            · rw [zb_0.mp w2] at hk; exact hk
            · rw [nbt w2] at hk; exact hk
      refine b_M_ask_40 (fun c => absurd c (by rw [zlit 250, zle (by omega) (by omega)]; omega)) (fun _ => b_M_ask_48 ?_)
      rw [y6, y7]
      exact cnt 6 0 (by omega) (by omega)
  exact b_M_ask_30 (key 250 0 (by omega) (by omega))
def zlook (s : Nat) : Int32 := if s = 0 then -1 else (zlk 1000000 (zGl s) zcl0 300).2
def zask (s : Nat) : Int32 := if s = 0 then -1 else (zlk 1000000 (zGa s) zca0 250).2
def zO_look (S : zS) : Int32 × zS := (zlook (zis S.1.2.2.1.1 S.1.2.2.1.2), S)
def zO_ask (S : zS) (x : Int32) : Int32 × zS := if 0 ≤ x.toInt ∧ x.toInt < S.1.1 2 then (zask (zwh x S.1.2.2.2.1 S.1.2.2.2.2), S) else (-2, zbump S 0)
theorem zO_ask_V {x : Int32} (hV : zSV S) : zSV (zO_ask S x).2 := by
  unfold zO_ask; split
  · exact hV
  · exact zbump_V hV
theorem p_F_look (hI : zIF σ S) (hV : zSV S) (h : ∀ τ, zIF τ (zO_look S).2 → zKF σ τ → Rf (zO_look S).1 τ) : CA (d + 4) 89 [.ref 0] σ (ab_rI Rf) :=
  e_F_look (b_F_look_0 (p_F_foxKinds hI hV (b_F_look_4 (p_F_evenL (zst_6 _) (b_F_look_8 (h σ hI zKF.rf))))))
theorem p_M_look2 (hI : zIM σ S) (hV : zSV S) (h : ∀ τ, zIM τ (zO_look S).2 → zKM σ τ → Rf (zO_look S).1 τ) : CA (d + 6) 196 [.ref 56] σ (ab_rI Rf) :=
  e_M_look (b_M_look_0 (p_M_is hI hV (p_M_look (d := d + 1) (zst_6 _) (h σ hI zKM.rf))))
theorem p_F_ask {x : Int32} (hI : zIF σ S) (hV : zSV S) (h : ∀ τ, zIF τ (zO_ask S x).2 → zKF σ τ → Rf (zO_ask S x).1 τ) : CA (d + 4) 91 [.ref 0, .int x] σ (ab_rI Rf) := by
  refine e_F_ask (b_F_ask_0 (p_B_isGoose zsh2 hI.1.1 hV.1.1 (b_F_ask_11 (fun q => ?_) (fun q => ?_))))
  · rw [zO_ask, if_neg (of_decide_eq_false (zb_0.mp q))] at h
    exact b_F_ask_26 (p_F_bad hI (fun τ a b => b_F_ask_32 (h τ a b)))
  · rw [zO_ask, if_pos (of_decide_eq_true (nbt q))] at h
    exact b_F_ask_14 (p_F_gooseKinds hI hV (b_F_ask_19 (p_F_evenA (zst_6 _) (b_F_ask_23 (b_F_ask_32 (h σ hI zKF.rf))))))
theorem p_M_ask2 {x : Int32} (hI : zIM σ S) (hV : zSV S) (h : ∀ τ, zIM τ (zO_ask S x).2 → zKM σ τ → Rf (zO_ask S x).1 τ) : CA (d + 6) 199 [.ref 56, .int x] σ (ab_rI Rf) := by
  refine e_M_ask (b_M_ask_0 (p_M_inG (r := 0) hI.1.1 hV.1.1.1.2.2.1 (b_M_ask_15 (fun q => ?_) (fun q => ?_))))
  · rw [zO_ask, if_neg (of_decide_eq_false (zb_0.mp q))] at h
    exact b_M_ask_18 (p_M_bad hI (fun τ a b => b_M_ask_24 (h τ a b)))
  · rw [zO_ask, if_pos (of_decide_eq_true (nbt q))] at h
    exact b_M_ask_25 (p_M_whatOf hI hV (p_M_ask (d := d + 1) (zst_6 _) (h σ hI zKM.rf)))
end LA
