/-! luck: she has 8 steps at most; shares -/
def zim (g : Nat → Nat) (s : Nat) : Nat → Nat
  | 0 => 0
  | n + 1 => if s.testBit n then zim g s n ||| 2 ^ g n else zim g s n
theorem zim_bit {g : Nat → Nat} {s v : Nat} : ∀ {n}, (zim g s n).testBit v = true → ∃ c, c < n ∧ s.testBit c = true ∧ g c = v
  | 0, h => by simp [zim] at h
  | n + 1, h => by
    rw [zim] at h
    split at h
    · rename_i q
      rw [Nat.testBit_or, Bool.or_eq_true, Nat.testBit_two_pow, decide_eq_true_eq] at h
      rcases h with h | h
      · obtain ⟨c, a, b, e⟩ := zim_bit h
        exact ⟨c, by omega, b, e⟩
      · exact ⟨n, by omega, q, h⟩
    · obtain ⟨c, a, b, e⟩ := zim_bit h
      exact ⟨c, by omega, b, e⟩
theorem zim_pc {g : Nat → Nat} {s : Nat} : ∀ n, (∀ c, c < n → s.testBit c = true → g c < 9) → (∀ c e, c < n → e < n → s.testBit c = true → s.testBit e = true → g c = g e → c = e) → zpc (zim g s n) 9 = zpc s n
  | 0, _, _ => by simp [zim, zpc]
  | n + 1, h1, h2 => by
    have ih := zim_pc n (fun c hc => h1 c (by omega)) (fun c e hc he => h2 c e (by omega) (by omega))
    have e0 : zpc s (n + 1) = zpc s n + (if s.testBit n = true then 1 else 0) := rfl
    rw [zim, e0]
    cases hb : s.testBit n with
    | false => simp only [Bool.false_eq_true, if_false]; rw [ih]; rfl
    | true =>
      simp only [if_true]
      have nb : (zim g s n).testBit (g n) = false := by
        cases hz : (zim g s n).testBit (g n) with
        | false => rfl
        | true =>
          obtain ⟨c, a, b, e⟩ := zim_bit hz
          have := h2 c n (by omega) (by omega) b hb e
          omega
      rw [zpc_or nb, if_pos (h1 n (by omega) hb), ih]
theorem zpc9 {t : Nat} (h : t.testBit 4 = false) : zpc t 9 ≤ 8 := by
  simp only [zpc, h]
  have : ∀ b : Bool, (if b = true then 1 else 0) ≤ 1 := fun b => by cases b <;> decide
  have a0 := this (t.testBit 0)
  have a1 := this (t.testBit 1)
  have a2 := this (t.testBit 2)
  have a3 := this (t.testBit 3)
  have a5 := this (t.testBit 5)
  have a6 := this (t.testBit 6)
  have a7 := this (t.testBit 7)
  have a8 := this (t.testBit 8)
  simp only [Bool.false_eq_true, if_false]
  omega
/-- the shapes of her steps -/
theorem zmf_sh {kind m : Nat} {dx dy : Int} {o : Bool} (h : zmf kind dx dy m o = true) : ((dx.natAbs ≤ 1 ∧ dy.natAbs ≤ 1) ∨ (o = true ∧ (dx = 0 ∨ dx.natAbs = 2) ∧ (dy = 0 ∨ dy.natAbs = 2))) ∧ ¬ (dx = 0 ∧ dy = 0) := by
  unfold zmf at h
  cases o
  all_goals
    split at h
    all_goals
      simp at h ⊢
      omega
def zsg (z : Int) : Nat := if z < 0 then 0 else if z = 0 then 1 else 2
def zdir (B : zB) (f c : Nat) : Nat := 3 * zsg (zdx B f c) + zsg (zdy B f c)
theorem zsg_eq {a b : Int} (h : zsg a = zsg b) : (a < 0 ↔ b < 0) ∧ (a = 0 ↔ b = 0) := by
  unfold zsg at h
  by_cases a1 : a < 0 <;> by_cases b1 : b < 0 <;> by_cases a2 : a = 0 <;> by_cases b2 : b = 0 <;> simp [a1, a2, b1, b2] at h ⊢ <;> omega
theorem zsg_lt (z : Int) : zsg z ≤ 2 := by unfold zsg; split; omega; split <;> omega
theorem zinj {B : zB} {f m c e : Nat} (hV : zV B) (hc : zfs B f m true c = true) (he : zfs B f m true e = true) (hd : zdir B f c = zdir B f e) : c = e := by
  have h0 : 0 < B 0 := by have := hV.1.1.1; omega
  unfold zfs at hc he
  rw [Bool.and_eq_true, Bool.and_eq_true] at hc he
  obtain ⟨⟨fc, -⟩, mc⟩ := hc
  obtain ⟨⟨fe, -⟩, me⟩ := he
  obtain ⟨sc, nc⟩ := zmf_sh mc
  obtain ⟨se, ne⟩ := zmf_sh me
  have l1 := zsg_lt (zdx B f c)
  have l2 := zsg_lt (zdy B f c)
  have l3 := zsg_lt (zdx B f e)
  have l4 := zsg_lt (zdy B f e)
  have dX : zsg (zdx B f c) = zsg (zdx B f e) := by unfold zdir at hd; omega
  have dY : zsg (zdy B f c) = zsg (zdy B f e) := by unfold zdir at hd; omega
  have ec := Nat.div_add_mod c (B 0)
  have ee := Nat.div_add_mod e (B 0)
  -- a long step over the cell of a short one
  have key : ∀ a b, zdx B f b = 2 * zdx B f a → zdy B f b = 2 * zdy B f a → zov B f b = true → zff B a = true → False := by
    intro a b hx hy ho hf
    unfold zdx at hx
    unfold zdy at hy
    have e1 := zhalf (w := B 0) (f := f) (t := b) (a := a / B 0) (b := a % B 0) (by omega) (by omega)
    have e2 : a / B 0 * B 0 + a % B 0 = a := Nat.div_add_mod' a (B 0)
    unfold zov at ho
    rw [Bool.and_eq_true, decide_eq_true_eq] at ho
    have e3 : zhw B f b = (f + b) / 2 + 1 := by
      have := ho.1
      unfold zhw at this ⊢
      split
      · rename_i q
        rw [if_pos q] at this
        exact absurd rfl this
      · rfl
    rw [e3, Nat.add_sub_cancel, ← e1, e2] at ho
    unfold zff at hf
    rw [ho.2] at hf
    simp at hf
  have same : zdx B f c = zdx B f e → zdy B f c = zdy B f e → c = e := by
    intro hx hy
    unfold zdx at hx
    unfold zdy at hy
    have a1 : c % B 0 = e % B 0 := by omega
    have a2 : c / B 0 = e / B 0 := by omega
    rw [a1, a2] at ec
    omega
  obtain ⟨x1, x2⟩ := zsg_eq dX
  obtain ⟨y1, y2⟩ := zsg_eq dY
  rcases sc with sc | ⟨oc, sc⟩ <;> rcases se with se | ⟨oe, se⟩
  · exact same (by omega) (by omega)
  · exact (key c e (by omega) (by omega) oe fc).elim
  · exact (key e c (by omega) (by omega) oc fe).elim
  · exact same (by omega) (by omega)
theorem zfS_8 {B : zB} (hV : zV B) : zpc (zfS B) 25 ≤ 8 := by
  have hb : ∀ c, (zfS B).testBit c = true → zfs B (B 5) (B 7) true c = true := fun c h => by
    unfold zfS at h
    rw [zst_bit, Bool.and_eq_true] at h
    exact h.2
  have hg : ∀ c, (zfS B).testBit c = true → zdir B (B 5) c < 9 ∧ zdir B (B 5) c ≠ 4 := fun c h => by
    have l1 := zsg_lt (zdx B (B 5) c)
    have l2 := zsg_lt (zdy B (B 5) c)
    have := hb c h
    unfold zfs at this
    rw [Bool.and_eq_true, Bool.and_eq_true] at this
    obtain ⟨-, n⟩ := zmf_sh this.2
    refine ⟨by unfold zdir; omega, fun q => n ?_⟩
    unfold zdir at q
    have s1 : zsg (zdx B (B 5) c) = 1 := by omega
    have s2 : zsg (zdy B (B 5) c) = 1 := by omega
    have e1 := zsg_eq (s1.trans (show 1 = zsg 0 from rfl))
    have e2 := zsg_eq (s2.trans (show 1 = zsg 0 from rfl))
    omega
  have e := zim_pc (g := zdir B (B 5)) (s := zfS B) 25 (fun c _ h => (hg c h).1) (fun c e _ _ h1 h2 q => zinj hV (hb c h1) (hb e h2) q)
  rw [← e]
  refine zpc9 ?_
  cases hz : (zim (zdir B (B 5)) (zfS B) 25).testBit 4 with
  | false => rfl
  | true =>
    obtain ⟨c, -, b, q⟩ := zim_bit hz
    exact absurd q (hg c b).2
def zsm (f : Nat → Nat) (s : Nat) : Nat → Nat
  | 0 => 0
  | c + 1 => zsm f s c + (if s.testBit c = true then f c else 0)
theorem zsm_eq {f g : Nat → Nat} {s : Nat} : ∀ {n}, (∀ c, c < n → s.testBit c = true → f c = g c) → zsm f s n = zsm g s n
  | 0, _ => rfl
  | n + 1, h => by
    rw [zsm, zsm, zsm_eq (n := n) (fun c hc => h c (by omega))]
    cases hb : s.testBit n with
    | false => rfl
    | true => rw [h n (by omega) hb]
theorem zsm_le {f : Nat → Nat} {s M : Nat} : ∀ {n}, (∀ c, c < n → s.testBit c = true → f c ≤ M) → zsm f s n ≤ zpc s n * M
  | 0, _ => by simp [zsm]
  | n + 1, h => by
    have ih := zsm_le (n := n) (fun c hc => h c (by omega))
    rw [zsm, zpc]
    cases hb : s.testBit n with
    | false => simpa using ih
    | true =>
      have := h n (by omega) hb
      simp only [if_true]
      rw [Nat.add_mul]
      omega
theorem zsm_mul {f : Nat → Nat} {s K : Nat} : ∀ {n}, zsm (fun c => K * f c) s n = K * zsm f s n
  | 0 => rfl
  | n + 1 => by
    rw [zsm, zsm, zsm_mul (n := n), Nat.mul_add]
    split <;> rfl
def zstay (B : zB) : zB := zup B 7 (B 7 + 1)
def zhs : Nat → zB → Nat
  | 0, B => if B 5 < B 0 then 1 else 0
  | n + 1, B => if B 5 < B 0 then 840 ^ (n + 1) else if zfS B = 0 then 840 * zhs n (zstay B) else 840 / zpc (zfS B) 25 * zsm (fun c => zhs n (zfox B c)) (zfS B) 25
def zls : Nat → zB → Nat → Nat
  | 0, B, W => if B 5 < B 0 then W else 0
  | n + 1, B, W => if B 5 < B 0 then W else if zfS B = 0 then zls n (zstay B) W else zsm (fun c => zls n (zfox B c) (W / zpc (zfS B) 25)) (zfS B) 25
theorem zstay_o {B : zB} (j : Nat) (h : j ≠ 7) : zstay B j = B j := by unfold zstay zup; rw [if_neg h]
theorem zstay_7 {B : zB} : zstay B 7 = B 7 + 1 := by unfold zstay zup; rw [if_pos rfl]
theorem zV_stay {B : zB} (hV : zV B) (h7 : B 7 + 1 < 100000) : zV (zstay B) := by
  obtain ⟨⟨v0, v1, v2, v3, v4, v5, v6, v7⟩, w1, w2, w3, w4, w5⟩ := hV
  unfold zV
  rw [zstay_7, zstay_o 0 (by omega), zstay_o 1 (by omega), zstay_o 2 (by omega), zstay_o 3 (by omega), zstay_o 4 (by omega), zstay_o 5 (by omega), zstay_o 6 (by omega)]
  refine ⟨⟨v0, v1, v2, v3, v4, v5, v6, h7⟩, fun i hi => ?_, fun i hi => ?_, fun i j hij hj => ?_, w4, fun i hi a ha => ?_⟩
  · rw [zstay_o _ (by omega), zstay_o _ (by omega)]; exact w1 i hi
  · rw [zstay_o _ (by omega)]; exact w2 i hi
  · rw [zstay_o _ (by omega), zstay_o _ (by omega)]; exact w3 i j hij hj
  · rw [zstay_o _ (by omega)] at ha; exact w5 i hi a ha
theorem zpc_pos {s : Nat} (h : s ≠ 0) {n : Nat} (hs : s < 2 ^ n) : 0 < zpc s n := by
  rcases Nat.eq_zero_or_pos (zpc s n) with q | q
  · exfalso
    apply h
    apply Nat.eq_of_testBit_eq
    intro i
    rw [Nat.zero_testBit]
    rcases Nat.lt_or_ge i n with z | z
    · cases hb : s.testBit i with
      | false => rfl
      | true =>
        exfalso
        have mono : ∀ a b, a ≤ b → zpc s a ≤ zpc s b := by
          intro a b hab
          induction b with
          | zero =>
            have : a = 0 := by omega
            subst this; exact Nat.le_refl _
          | succ b ih =>
            by_cases w : a = b + 1
            · subst w; exact Nat.le_refl _
            · have := ih (by omega); rw [zpc]; omega
        have := mono (i + 1) n (by omega)
        rw [zpc, hb] at this
        simp at this
        omega
    · exact Nat.testBit_lt_two_pow (Nat.lt_of_lt_of_le hs (Nat.pow_le_pow_right (by omega) z))
  · exact q
theorem zpc_0 : ∀ n, zpc 0 n = 0
  | 0 => rfl
  | n + 1 => by rw [zpc, zpc_0 n]; simp
theorem zhs_V {n : Nat} {B : zB} {c : Nat} (hV : zV B) (h7 : B 7 + n + 1 < 100000) (h : (zfS B).testBit c = true) : zV (zfox B c) ∧ zfox B c 7 + n < 100000 := by
  obtain ⟨a, b⟩ := zfS_bit h
  exact ⟨zV_foxgo hV a b (by omega), by rw [zfox_7]; omega⟩
theorem zd840 : ∀ w, w ≤ 8 → 0 < w → 840 / w * w = 840 := by decide
theorem zhs_le : ∀ (n : Nat) (B : zB), zV B → B 7 + n < 100000 → zhs n B ≤ 840 ^ n
  | 0, B, _, _ => by unfold zhs; split <;> simp
  | n + 1, B, hV, h7 => by
    unfold zhs
    have h8 := zfS_8 hV
    split
    · exact Nat.le_refl _
    · split
      · have := zhs_le n (zstay B) (zV_stay hV (by omega)) (by rw [zstay_7]; omega)
        rw [Nat.pow_succ, Nat.mul_comm]
        exact Nat.mul_le_mul_right _ this
      · rename_i q
        have hp := zpc_pos q (n := 25) (zfS_lt hV)
        have hm : zsm (fun c => zhs n (zfox B c)) (zfS B) 25 ≤ zpc (zfS B) 25 * 840 ^ n := zsm_le (fun c _ hb => by
          obtain ⟨a, b⟩ := zhs_V hV (n := n) (by omega) hb
          exact zhs_le n _ a b)
        have := Nat.mul_le_mul_left (840 / zpc (zfS B) 25) hm
        rw [← Nat.mul_assoc, zd840 _ h8 hp] at this
        rw [Nat.pow_succ, Nat.mul_comm (840 ^ n)]
        exact this
theorem zls_hs : ∀ (n K : Nat) (B : zB), zV B → B 7 + n < 100000 → zls n B (K * 840 ^ n) = K * zhs n B
  | 0, K, B, _, _ => by unfold zls zhs; split <;> simp
  | n + 1, K, B, hV, h7 => by
    unfold zls zhs
    have h8 := zfS_8 hV
    split
    · rfl
    · split
      · rw [Nat.pow_succ, Nat.mul_comm (840 ^ n), ← Nat.mul_assoc, zls_hs n (K * 840) (zstay B) (zV_stay hV (by omega)) (by rw [zstay_7]; omega), Nat.mul_assoc]
      · rename_i q
        have hp := zpc_pos q (n := 25) (zfS_lt hV)
        have e : K * 840 ^ (n + 1) / zpc (zfS B) 25 = K * (840 / zpc (zfS B) 25) * 840 ^ n := by
          have e1 : K * 840 ^ (n + 1) = K * (840 / zpc (zfS B) 25) * 840 ^ n * zpc (zfS B) 25 := by
            have := zd840 _ h8 hp
            calc K * 840 ^ (n + 1) = K * (840 ^ n * 840) := by rw [Nat.pow_succ]
              _ = K * (840 ^ n * (840 / zpc (zfS B) 25 * zpc (zfS B) 25)) := by rw [this]
              _ = _ := by simp only [Nat.mul_assoc, Nat.mul_comm, Nat.mul_left_comm]
          rw [e1, Nat.mul_div_cancel _ hp]
        rw [e, ← Nat.mul_assoc, ← zsm_mul]
        refine zsm_eq (fun c _ hb => ?_)
        obtain ⟨a, b⟩ := zhs_V hV (n := n) (by omega) hb
        exact zls_hs n (K * (840 / zpc (zfS B) 25)) _ a b
/-- the turn does not matter -/
theorem zfS_ext {B C : zB} (h : ∀ j, j ≠ 6 → C j = B j) : zfS C = zfS B := by
  unfold zfS
  rw [zfs_ext (fun j a b c => h j b), h 0 (by omega), h 1 (by omega), h 5 (by omega), h 7 (by omega)]
theorem zhs_ext : ∀ (n : Nat) (B C : zB), (∀ j, j ≠ 6 → C j = B j) → zhs n C = zhs n B
  | 0, B, C, h => by unfold zhs; rw [h 5 (by omega), h 0 (by omega)]
  | n + 1, B, C, h => by
    unfold zhs
    rw [h 5 (by omega), h 0 (by omega), zfS_ext h]
    have e1 : zhs n (zstay C) = zhs n (zstay B) := zhs_ext n _ _ (fun j hj => by
      by_cases q : j = 7
      · subst q; rw [zstay_7, zstay_7, h 7 (by omega)]
      · rw [zstay_o j q, zstay_o j q, h j hj])
    have e2 : (fun c => zhs n (zfox C c)) = fun c => zhs n (zfox B c) := by
      funext c
      refine zhs_ext n _ _ (fun j hj => ?_)
      have ew : zhw C (C 5) c = zhw B (B 5) c := by unfold zhw; rw [h 5 (by omega), h 0 (by omega)]
      rw [zfox_j, zfox_j, ew, h 7 (by omega)]
      by_cases q7 : j = 7
      · rw [if_pos q7, if_pos q7]
      rw [if_neg q7, if_neg q7, if_neg hj, if_neg hj]
      by_cases q5 : j = 5
      · rw [if_pos q5, if_pos q5]
      rw [if_neg q5, if_neg q5]
      unfold zeat
      rw [h 2 (by omega), h j hj]
    rw [e1, e2]
theorem zhs_end {n : Nat} {B : zB} : zhs n (zend B) = zhs n (zstay B) := zhs_ext n _ _ (fun j hj => by
  by_cases q : j = 7
  · subst q; rw [zstay_7]; rfl
  · rw [zstay_o j q, zend_lo (by omega)])
