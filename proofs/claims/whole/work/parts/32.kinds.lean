/-! KINDS: which steps each may do -/
def iI (z : Int) : Int32 := Int32.ofInt z
theorem zi {z : Int} (h : -1000000 ≤ z ∧ z ≤ 1000000) : (iI z).toInt = z := fb_ofI (by omega) (by omega)
theorem zt0 : (0 : Int32).toInt = 0 := by decide
theorem zt1 : (1 : Int32).toInt = 1 := by decide
theorem zt2 : (2 : Int32).toInt = 2 := by decide
theorem zt4 : (4 : Int32).toInt = 4 := by decide
theorem zt6 : (6 : Int32).toInt = 6 := by decide
theorem zt8 : (8 : Int32).toInt = 8 := by decide
theorem ztm : (-1 : Int32).toInt = -1 := by decide
theorem zn {n : Nat} (h : n < 2147483648) : (nI n).toInt = (n : Int) := nI_toInt h
theorem zna0 : narrow .boolean (.int 0) = .int 0 := rfl
theorem zna1 : narrow .boolean (.int 1) = .int 1 := rfl
def zmf (kind : Nat) (dx dy : Int) (m : Nat) (over : Bool) : Bool :=
  match kind with
  | 1 => decide (dx.natAbs + dy.natAbs = 1) || decide (dx.natAbs = 1 ∧ dy.natAbs = 1)
  | 2 => decide (dx.natAbs + dy.natAbs = 1) || (over && decide (dx.natAbs = 2 ∧ dy = 0 ∨ dx = 0 ∧ dy.natAbs = 2))
  | 3 => decide (dx.natAbs + dy.natAbs = 1) && (decide (m % 2 = 0) || decide (dy = 0))
  | 4 => decide (dx.natAbs + dy.natAbs = 1) || (over && decide (dx.natAbs = 2 ∧ dy = 0 ∨ dx = 0 ∧ dy.natAbs = 2)) || (over && decide (dx.natAbs = 2 ∧ dy.natAbs = 2))
  | 5 => decide (dx.natAbs + dy.natAbs = 1) || (decide (m % 2 = 0) && decide (dx.natAbs = 1 ∧ dy.natAbs = 1))
  | _ => decide (dx.natAbs + dy.natAbs = 1)
def zgp (dx dy : Int) : Bool := decide (dx = 0 ∧ dy = 1) || decide (dy = 0 ∧ dx.natAbs = 1)
def zgb (dx dy : Int) : Bool := zgp dx dy || decide (dy = 1 ∧ dx.natAbs = 1)
def zgs (dx dy : Int) (m : Nat) : Bool := zgp dx dy && (decide (m % 4 < 2) || decide (dy = 1))
def zmg (kind : Nat) (dx dy : Int) (m : Nat) : Bool :=
  match kind with
  | 1 => zgb dx dy
  | 2 => zgs dx dy m
  | 3 => zgb dx dy || decide (dx = 0 ∧ dy = -1)
  | 4 => decide (m % 6 < 4) && zgs dx dy m
  | 5 => zgp dx dy && decide (dy = 1)
  | _ => zgp dx dy
theorem zsqn : ∀ a : Nat, a < 9 → ∀ b : Nat, b < 9 → (iI ((a : Int) - 4) * iI ((a : Int) - 4) + iI ((b : Int) - 4) * iI ((b : Int) - 4) : Int32) = nI ((((a : Int) - 4) * ((a : Int) - 4) + ((b : Int) - 4) * ((b : Int) - 4)).toNat) := by decide +kernel
theorem zsqf : ∀ a : Nat, a < 9 → ∀ b : Nat, b < 9 → ((((((a : Int) - 4) * ((a : Int) - 4) + ((b : Int) - 4) * ((b : Int) - 4)).toNat = 1) ↔ ((a : Int) - 4).natAbs + ((b : Int) - 4).natAbs = 1) ∧
   (((((a : Int) - 4) * ((a : Int) - 4) + ((b : Int) - 4) * ((b : Int) - 4)).toNat = 2) ↔ ((a : Int) - 4).natAbs = 1 ∧ ((b : Int) - 4).natAbs = 1) ∧
   (((((a : Int) - 4) * ((a : Int) - 4) + ((b : Int) - 4) * ((b : Int) - 4)).toNat = 4) ↔ (((a : Int) - 4).natAbs = 2 ∧ ((b : Int) - 4) = 0 ∨ ((a : Int) - 4) = 0 ∧ ((b : Int) - 4).natAbs = 2)) ∧
   (((((a : Int) - 4) * ((a : Int) - 4) + ((b : Int) - 4) * ((b : Int) - 4)).toNat = 8) ↔ ((a : Int) - 4).natAbs = 2 ∧ ((b : Int) - 4).natAbs = 2) ∧ (((a : Int) - 4) * ((a : Int) - 4) + ((b : Int) - 4) * ((b : Int) - 4)).toNat < 100) := by decide +kernel
theorem zsq {dx dy : Int} (hx : -4 ≤ dx ∧ dx ≤ 4) (hy : -4 ≤ dy ∧ dy ≤ 4) : ∃ s : Nat, iI dx * iI dx + iI dy * iI dy = nI s ∧ s < 100 ∧ (s = 1 ↔ dx.natAbs + dy.natAbs = 1) ∧ (s = 2 ↔ dx.natAbs = 1 ∧ dy.natAbs = 1) ∧ (s = 4 ↔ (dx.natAbs = 2 ∧ dy = 0 ∨ dx = 0 ∧ dy.natAbs = 2)) ∧ (s = 8 ↔ dx.natAbs = 2 ∧ dy.natAbs = 2) := by
  obtain ⟨a, ha, rfl⟩ : ∃ a : Nat, a < 9 ∧ dx = (a : Int) - 4 := ⟨(dx + 4).toNat, by omega, by omega⟩
  obtain ⟨b, hb, rfl⟩ : ∃ b : Nat, b < 9 ∧ dy = (b : Int) - 4 := ⟨(dy + 4).toNat, by omega, by omega⟩
  obtain ⟨h1, h2, h4, h8, h9⟩ := zsqf a ha b hb
  exact ⟨_, zsqn a ha b hb, h9, h1, h2, h4, h8⟩
theorem p_K_foxMay {d kind m : Nat} {dx dy : Int} {over : Bool} {Rf : Int32 → ab_S → Prop} {σ : ab_S} (hk : kind < 6) (hx : -4 ≤ dx ∧ dx ≤ 4) (hy : -4 ≤ dy ∧ dy ≤ 4) (hm : m < 1000000) (h : Rf (zb (zmf kind dx dy m over)) σ) : CA (d + 1) 9 [.int (nI kind), .int (iI dx), .int (iI dy), .int (nI m), .int (zb over)] σ (ab_rI Rf) := by
  obtain ⟨s, hs, hs9, s1, s2, s4, s8⟩ := zsq hx hy
  have em : nI m - nI m / 2 * 2 = nI (m % 2) := zrem (d := 2) (by omega) (by omega) (by omega)
  refine e_K_foxMay (d_K_foxMay_0 ?_)
  rw [hs, em]
  have e0 : (nI (m % 2) = 0) ↔ m % 2 = 0 := zeq (b := 0) (by omega) (by omega)
  have e1 : (nI s = 1) ↔ s = 1 := zeq (b := 1) (by omega) (by omega)
  have e2 : (nI s = 2) ↔ s = 2 := zeq (b := 2) (by omega) (by omega)
  have e4 : (nI s = 4) ↔ s = 4 := zeq (b := 4) (by omega) (by omega)
  have e8 : (nI s = 8) ↔ s = 8 := zeq (b := 8) (by omega) (by omega)
  have ey : (iI dy = 0) ↔ dy = 0 := by rw [fa_eq, zi (by omega), zt0]
  have hkd : ∀ c : Nat, c < 6 → nI kind = nI c → kind = c := fun c hc q => (zeq (by omega) (by omega)).mp q
  have nr : ∀ (c : Prop) [Decidable c] (x y : Int32), narrow .boolean (.int x) = .int x → narrow .boolean (.int y) = .int y → narrow .boolean (.int (if c then x else y)) = .int (if c then x else y) := fun c _ x y hx hy => by split <;> assumption
  refine d_K_foxMay_20  ?_
  refine d_K_foxMay_33  ?_
  refine d_K_foxMay_46  ?_
  refine d_K_foxMay_65  ?_
  refine b_K_foxMay_85  (fun c0 => ?_) (fun c0 => ?_) (fun c0 => ?_) (fun c0 => ?_) (fun c0 => ?_) (fun c0 => ?_) (fun c0 => ?_)
  · exact b_K_foxMay_128  (by repeat (first | refine nr _ _ _ ?_ ?_ | exact zna0 | exact zna1)) (zr h (by obtain rfl := hkd 0 (by omega) c0; simp [zmf, zb, e1, s1]))
  · refine d_K_foxMay_131  ?_
    exact b_K_foxMay_146  (by repeat (first | refine nr _ _ _ ?_ ?_ | exact zna0 | exact zna1)) (zr h (by obtain rfl := hkd 1 (by omega) c0; simp only [e1, e2, s1, s2]; by_cases a1 : dx.natAbs + dy.natAbs = 1 <;> by_cases a2 : dx.natAbs = 1 ∧ dy.natAbs = 1 <;> simp [zmf, zb, a1, a2]))
  · refine d_K_foxMay_147  ?_
    exact b_K_foxMay_162  (by repeat (first | refine nr _ _ _ ?_ ?_ | exact zna0 | exact zna1)) (zr h (by obtain rfl := hkd 2 (by omega) c0; simp only [e1, e4, s1, s4, zb_1]; by_cases a1 : dx.natAbs + dy.natAbs = 1 <;> by_cases a2 : (dx.natAbs = 2 ∧ dy = 0 ∨ dx = 0 ∧ dy.natAbs = 2) <;> cases over <;> simp [zmf, zb, a1, a2]))
  · refine d_K_foxMay_163  ?_
    exact b_K_foxMay_182  (by repeat (first | refine nr _ _ _ ?_ ?_ | exact zna0 | exact zna1)) (zr h (by obtain rfl := hkd 3 (by omega) c0; simp only [e1, s1, e0, ey]; by_cases a1 : dx.natAbs + dy.natAbs = 1 <;> by_cases a2 : m % 2 = 0 <;> by_cases a3 : dy = 0 <;> simp [zmf, zb, a1, a2, a3]))
  · refine d_K_foxMay_183  ?_
    exact b_K_foxMay_203  (by repeat (first | refine nr _ _ _ ?_ ?_ | exact zna0 | exact zna1)) (zr h (by obtain rfl := hkd 4 (by omega) c0; simp only [e1, e4, e8, s1, s4, s8, zb_1]; by_cases a1 : dx.natAbs + dy.natAbs = 1 <;> by_cases a2 : (dx.natAbs = 2 ∧ dy = 0 ∨ dx = 0 ∧ dy.natAbs = 2) <;> by_cases a3 : dx.natAbs = 2 ∧ dy.natAbs = 2 <;> cases over <;> simp [zmf, zb, a1, a2, a3]))
  · refine d_K_foxMay_204  ?_
    exact b_K_foxMay_224  (by repeat (first | refine nr _ _ _ ?_ ?_ | exact zna0 | exact zna1)) (zr h (by obtain rfl := hkd 5 (by omega) c0; simp only [e1, e2, e0, s1, s2]; by_cases a1 : dx.natAbs + dy.natAbs = 1 <;> by_cases a2 : dx.natAbs = 1 ∧ dy.natAbs = 1 <;> by_cases a3 : m % 2 = 0 <;> simp [zmf, zb, a1, a2, a3]))
  · exact b_K_foxMay_225   (zr h (by rw [zn (by omega)] at c0; omega))
theorem p_K_gooseMay {d kind m : Nat} {dx dy : Int} {Rf : Int32 → ab_S → Prop} {σ : ab_S} (hk : kind < 6) (hx : -4 ≤ dx ∧ dx ≤ 4) (hy : -4 ≤ dy ∧ dy ≤ 4) (hm : m < 1000000) (h : Rf (zb (zmg kind dx dy m)) σ) : CA (d + 1) 10 [.int (nI kind), .int (iI dx), .int (iI dy), .int (nI m)] σ (ab_rI Rf) := by
  have em : nI m - nI m / 4 * 4 = nI (m % 4) := zrem (d := 4) (by omega) (by omega) (by omega)
  have em6 : nI m - nI m / 6 * 6 = nI (m % 6) := zrem (d := 6) (by omega) (by omega) (by omega)
  have e4 : ((2 : Int32) ≤ nI (m % 4)) ↔ 2 ≤ m % 4 := zle (a := 2) (by omega) (by omega)
  have e6 : ((4 : Int32) ≤ nI (m % 6)) ↔ 4 ≤ m % 6 := zle (a := 4) (by omega) (by omega)
  have x0 : (iI dx = 0) ↔ dx = 0 := by rw [fa_eq, zi (by omega), zt0]
  have x1 : (iI dx = 1) ↔ dx = 1 := by rw [fa_eq, zi (by omega), zt1]
  have xm : (iI dx = -1) ↔ dx = -1 := by rw [fa_eq, zi (by omega), ztm]
  have y0 : (iI dy = 0) ↔ dy = 0 := by rw [fa_eq, zi (by omega), zt0]
  have y1 : (iI dy = 1) ↔ dy = 1 := by rw [fa_eq, zi (by omega), zt1]
  have ym : (iI dy = -1) ↔ dy = -1 := by rw [fa_eq, zi (by omega), ztm]
  have hkd : ∀ c : Nat, c < 6 → nI kind = nI c → kind = c := fun c hc q => (zeq (by omega) (by omega)).mp q
  have nr : ∀ (c : Prop) [Decidable c] (x y : Int32), narrow .boolean (.int x) = .int x → narrow .boolean (.int y) = .int y → narrow .boolean (.int (if c then x else y)) = .int (if c then x else y) := fun c _ x y hx hy => by split <;> assumption
  have zab : dx.natAbs = 1 ↔ dx = 1 ∨ dx = -1 := by omega
  have A1 : (if iI dx = 1 then (1 : Int32) else if iI dx = -1 then 1 else 0) = zb (decide (dx.natAbs = 1)) := by
    simp only [x1, xm, zb, decide_eq_true_eq, zab]
    by_cases a : dx = 1 <;> by_cases b : dx = -1 <;> simp [a, b]
  have A2 : (if iI dx = 0 then (if iI dy = 1 then (1 : Int32) else 0) else 0) = zb (decide (dx = 0 ∧ dy = 1)) := by
    simp only [x0, y1, zb, decide_eq_true_eq]
    by_cases a : dx = 0 <;> by_cases b : dy = 1 <;> simp [a, b]
  have A3 : (if zb (decide (dx = 0 ∧ dy = 1)) = 0 then (if iI dy = 0 then (if zb (decide (dx.natAbs = 1)) = 0 then (0 : Int32) else 1) else 0) else 1) = zb (zgp dx dy) := by
    simp only [y0, zb_0, zgp, zb]
    by_cases a : (dx = 0 ∧ dy = 1) <;> by_cases b : dy = 0 <;> by_cases c : dx.natAbs = 1 <;> simp [a, b, c]
  have A4 : (if zb (zgp dx dy) = 0 then (if iI dy = 1 then (if zb (decide (dx.natAbs = 1)) = 0 then (0 : Int32) else 1) else 0) else 1) = zb (zgb dx dy) := by
    obtain ⟨z, hz⟩ : ∃ z, zgp dx dy = z := ⟨_, rfl⟩
    rw [zgb, hz]
    simp only [y1]
    cases z <;> by_cases b : dy = 1 <;> by_cases c : dx.natAbs = 1 <;> simp [b, c, zb]
  have A5 : m % 4 < 2 → zgs dx dy m = zgp dx dy := fun q => by simp [zgs, q]
  have A6 : ¬ m % 4 < 2 → zgs dx dy m = decide (dx = 0 ∧ dy = 1) := fun q => by
    simp only [zgs, zgp, q]
    by_cases b : dy = 1
    · by_cases a : dx = 0 <;> simp [a, b]
    · simp [b]
  refine e_K_gooseMay ?_
  refine d_K_gooseMay_0  ?_
  rw [A1]
  refine d_K_gooseMay_15  ?_
  rw [A2]
  refine d_K_gooseMay_31  ?_
  rw [A3]
  refine d_K_gooseMay_52  ?_
  rw [A4]
  refine b_K_gooseMay_74  (fun c0 => ?_) (fun c0 => ?_)
  · refine b_K_gooseMay_88  ?_
    refine b_K_gooseMay_90  (fun c1 => ?_) (fun c1 => ?_) (fun c1 => ?_) (fun c1 => ?_) (fun c1 => ?_) (fun c1 => ?_) (fun c1 => ?_)
    · exact b_K_gooseMay_132  (by first | exact zb_nar _ | repeat (first | refine nr _ _ _ ?_ ?_ | exact zna0 | exact zna1)) (zr h (by obtain rfl := hkd 0 (by omega) c1; rfl))
    · exact b_K_gooseMay_135  (by first | exact zb_nar _ | repeat (first | refine nr _ _ _ ?_ ?_ | exact zna0 | exact zna1)) (zr h (by obtain rfl := hkd 1 (by omega) c1; rfl))
    · exact b_K_gooseMay_138  (by first | exact zb_nar _ | repeat (first | refine nr _ _ _ ?_ ?_ | exact zna0 | exact zna1)) (zr h (by obtain rfl := hkd 2 (by omega) c1; rw [em, e4] at c0; first | rw [show zmg 2 dx dy m = zgs dx dy m from rfl, A5 (by omega)] | rw [show zmg 2 dx dy m = zgs dx dy m from rfl, A6 (by omega)]))
    · refine d_K_gooseMay_141  ?_
      exact b_K_gooseMay_160  (by first | exact zb_nar _ | repeat (first | refine nr _ _ _ ?_ ?_ | exact zna0 | exact zna1)) (zr h (by obtain rfl := hkd 3 (by omega) c1; obtain ⟨z, hz⟩ : ∃ z, zgb dx dy = z := ⟨_, rfl⟩; rw [show zmg 3 dx dy m = (zgb dx dy || decide (dx = 0 ∧ dy = -1)) from rfl, hz]; simp only [x0, ym]; cases z <;> by_cases b : dx = 0 <;> by_cases c : dy = -1 <;> simp [b, c, zb]))
    · refine d_K_gooseMay_161  ?_
      exact b_K_gooseMay_179  (by first | exact zb_nar _ | repeat (first | refine nr _ _ _ ?_ ?_ | exact zna0 | exact zna1)) (zr h (by obtain rfl := hkd 4 (by omega) c1; rw [em, e4] at c0; simp only [em6, e6]; have q : zmg 4 dx dy m = (decide (m % 6 < 4) && zgs dx dy m) := rfl; rw [q]; first | (rw [A5 (by omega)]; cases hz : zgp dx dy <;> by_cases b : 4 ≤ m % 6 <;> simp [b, zb] <;> omega) | (rw [A6 (by omega)]; by_cases hz : (dx = 0 ∧ dy = 1) <;> by_cases b : 4 ≤ m % 6 <;> simp [hz, b, zb] <;> omega)))
    · exact b_K_gooseMay_180  (by first | exact zb_nar _ | repeat (first | refine nr _ _ _ ?_ ?_ | exact zna0 | exact zna1)) (zr h (by obtain rfl := hkd 5 (by omega) c1; simp only [zmg, zgp]; congr 1; by_cases a : dx = 0 <;> by_cases b : dy = 1 <;> simp [a, b] <;> omega))
    · exact b_K_gooseMay_183   (zr h (by rw [zn (by omega)] at c1; omega))
  · refine b_K_gooseMay_83  ?_
    refine b_K_gooseMay_90  (fun c1 => ?_) (fun c1 => ?_) (fun c1 => ?_) (fun c1 => ?_) (fun c1 => ?_) (fun c1 => ?_) (fun c1 => ?_)
    · exact b_K_gooseMay_132  (by first | exact zb_nar _ | repeat (first | refine nr _ _ _ ?_ ?_ | exact zna0 | exact zna1)) (zr h (by obtain rfl := hkd 0 (by omega) c1; rfl))
    · exact b_K_gooseMay_135  (by first | exact zb_nar _ | repeat (first | refine nr _ _ _ ?_ ?_ | exact zna0 | exact zna1)) (zr h (by obtain rfl := hkd 1 (by omega) c1; rfl))
    · exact b_K_gooseMay_138  (by first | exact zb_nar _ | repeat (first | refine nr _ _ _ ?_ ?_ | exact zna0 | exact zna1)) (zr h (by obtain rfl := hkd 2 (by omega) c1; rw [em, e4] at c0; first | rw [show zmg 2 dx dy m = zgs dx dy m from rfl, A5 (by omega)] | rw [show zmg 2 dx dy m = zgs dx dy m from rfl, A6 (by omega)]))
    · refine d_K_gooseMay_141  ?_
      exact b_K_gooseMay_160  (by first | exact zb_nar _ | repeat (first | refine nr _ _ _ ?_ ?_ | exact zna0 | exact zna1)) (zr h (by obtain rfl := hkd 3 (by omega) c1; obtain ⟨z, hz⟩ : ∃ z, zgb dx dy = z := ⟨_, rfl⟩; rw [show zmg 3 dx dy m = (zgb dx dy || decide (dx = 0 ∧ dy = -1)) from rfl, hz]; simp only [x0, ym]; cases z <;> by_cases b : dx = 0 <;> by_cases c : dy = -1 <;> simp [b, c, zb]))
    · refine d_K_gooseMay_161  ?_
      exact b_K_gooseMay_179  (by first | exact zb_nar _ | repeat (first | refine nr _ _ _ ?_ ?_ | exact zna0 | exact zna1)) (zr h (by obtain rfl := hkd 4 (by omega) c1; rw [em, e4] at c0; simp only [em6, e6]; have q : zmg 4 dx dy m = (decide (m % 6 < 4) && zgs dx dy m) := rfl; rw [q]; first | (rw [A5 (by omega)]; cases hz : zgp dx dy <;> by_cases b : 4 ≤ m % 6 <;> simp [b, zb] <;> omega) | (rw [A6 (by omega)]; by_cases hz : (dx = 0 ∧ dy = 1) <;> by_cases b : 4 ≤ m % 6 <;> simp [hz, b, zb] <;> omega)))
    · exact b_K_gooseMay_180  (by first | exact zb_nar _ | repeat (first | refine nr _ _ _ ?_ ?_ | exact zna0 | exact zna1)) (zr h (by obtain rfl := hkd 5 (by omega) c1; simp only [zmg, zgp]; congr 1; by_cases a : dx = 0 <;> by_cases b : dy = 1 <;> simp [a, b] <;> omega))
    · exact b_K_gooseMay_183   (zr h (by rw [zn (by omega)] at c1; omega))
