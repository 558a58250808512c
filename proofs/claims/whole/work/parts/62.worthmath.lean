/-! worth: what a board is worth, and the first best move -/
def zbt2 (fx : Bool) (a b : Int) : Bool := if fx then decide (b < a) else decide (a < b)
/-- the best over the moves below k: its worth and the first move of it -/
def zva (fx : Bool) (p : Nat → Bool) (f : Nat → Int) : Nat → Int × Int
  | 0 => (if fx then -1 else 1000000, -1)
  | k + 1 => if (p k && zbt2 fx (f k) (zva fx p f k).1) = true then (f k, (k : Int)) else zva fx p f k
def zwo : Nat → zB → Int
  | 0, B => if zhow B = 2 then 99 else if zhow B = 1 then 0 else (zpc (zfS B) 25 : Int)
  | n + 1, B => if zhow B = 2 then 99 else if zhow B = 1 then 0 else if zct (zcan B) 500 = 0 then zwo n (zend B) else (zva (decide (B 6 = 1)) (zcan B) (fun k => zwo n (zdo B k)) 500).1
/-- the move of it; x if there is none -/
def zbm (n : Nat) (B : zB) (x : Int32) : Int32 := match n with
  | 0 => x
  | n + 1 => if zhow B = 0 ∧ 0 < zct (zcan B) 500 then iI (zva (decide (B 6 = 1)) (zcan B) (fun k => zwo n (zdo B k)) 500).2 else x
section WM
variable {fx : Bool} {p : Nat → Bool} {f : Nat → Int}
theorem zva_same {a : Nat} : ∀ {b}, a ≤ b → (∀ k, a ≤ k → k < b → p k = false) → zva fx p f b = zva fx p f a
  | 0, h, _ => by
    have : a = 0 := by omega
    subst this; rfl
  | b + 1, h, hp => by
    by_cases q : a = b + 1
    · subst q; rfl
    · rw [zva, hp b (by omega) (by omega), zva_same (a := a) (b := b) (by omega) (fun k h1 h2 => hp k h1 (by omega))]
      simp
theorem zva_rng (h : ∀ k, p k = true → 0 ≤ f k ∧ f k ≤ 99) : ∀ k, (zct p k = 0 → zva fx p f k = (if fx then -1 else 1000000, -1)) ∧ (0 < zct p k → (0 ≤ (zva fx p f k).1 ∧ (zva fx p f k).1 ≤ 99) ∧ 0 ≤ (zva fx p f k).2 ∧ (zva fx p f k).2 < k)
  | 0 => ⟨fun _ => rfl, fun q => absurd q (by simp [zct])⟩
  | k + 1 => by
    obtain ⟨h1, h2⟩ := zva_rng h k
    rw [zct, zva]
    cases hp : p k with
    | false =>
      simp only [Bool.false_and, Bool.false_eq_true, if_false, Nat.add_zero]
      exact ⟨h1, fun q => ⟨(h2 q).1, (h2 q).2.1, by have := (h2 q).2.2; omega⟩⟩
    | true =>
      have hf := h k hp
      simp only [Bool.true_and, if_true]
      refine ⟨fun q => by omega, fun _ => ?_⟩
      by_cases z : zct p k = 0
      · have e := h1 z
        rw [e]
        have : zbt2 fx (f k) (if fx then -1 else 1000000, (-1 : Int)).1 = true := by
          unfold zbt2
          cases fx
          · simp; omega
          · simp; omega
        rw [if_pos this]
        exact ⟨hf, by dsimp only; omega, by dsimp only; omega⟩
      · obtain ⟨a, b, c⟩ := h2 (by omega)
        split
        · exact ⟨hf, by dsimp only; omega, by dsimp only; omega⟩
        · exact ⟨a, b, by omega⟩
theorem zva_stepF {k : Nat} : (zva true p f k).1 ≤ (zva true p f (k + 1)).1 ∧ (p k = true → f k ≤ (zva true p f (k + 1)).1) := by
  rw [zva]
  cases hp : p k with
  | false => simp
  | true =>
    simp only [Bool.true_and, zbt2]
    by_cases q : (zva true p f k).1 < f k
    · rw [if_pos (by simpa using q)]; exact ⟨by dsimp only; omega, fun _ => by dsimp only; omega⟩
    · rw [if_neg (by simpa using q)]; exact ⟨Int.le_refl _, fun _ => by omega⟩
theorem zva_stepG {k : Nat} : (zva false p f (k + 1)).1 ≤ (zva false p f k).1 ∧ (p k = true → (zva false p f (k + 1)).1 ≤ f k) := by
  rw [zva]
  cases hp : p k with
  | false => simp
  | true =>
    simp only [Bool.true_and, zbt2]
    by_cases q : f k < (zva false p f k).1
    · rw [if_pos (by simpa using q)]; exact ⟨by dsimp only; omega, fun _ => by dsimp only; omega⟩
    · rw [if_neg (by simpa using q)]; exact ⟨Int.le_refl _, fun _ => by omega⟩
theorem zva_monoF {a : Nat} : ∀ {b}, a ≤ b → (zva true p f a).1 ≤ (zva true p f b).1
  | 0, h => by
    have : a = 0 := by omega
    subst this; exact Int.le_refl _
  | b + 1, h => by
    by_cases q : a = b + 1
    · subst q; exact Int.le_refl _
    · exact Int.le_trans (zva_monoF (b := b) (by omega)) zva_stepF.1
theorem zva_monoG {a : Nat} : ∀ {b}, a ≤ b → (zva false p f b).1 ≤ (zva false p f a).1
  | 0, h => by
    have : a = 0 := by omega
    subst this; exact Int.le_refl _
  | b + 1, h => by
    by_cases q : a = b + 1
    · subst q; exact Int.le_refl _
    · exact Int.le_trans zva_stepG.1 (zva_monoG (b := b) (by omega))
theorem zwo_rng : ∀ (n : Nat) (B : zB), zV B → B 7 + n < 100000 → 0 ≤ zwo n B ∧ zwo n B ≤ 99
  | 0, B, hV, _ => by
    have := zpc_le (zfS B) 25
    unfold zwo; split
    · omega
    · split <;> omega
  | n + 1, B, hV, h7 => by
    unfold zwo; split
    · omega
    · split
      · omega
      · split
        · exact zwo_rng n (zend B) (zV_end hV (by omega)) (by rw [zend_7]; omega)
        · rename_i q
          exact ((zva_rng (fun k hk => zwo_rng n (zdo B k) (zdo_V hV hk (by omega)) (by rw [zdo_7]; omega)) 500).2 (by omega)).1
/-- what a window lets be seen of v -/
def zab (lo hi v r : Int) : Prop := (v ≤ lo → r ≤ lo) ∧ (hi ≤ v → hi ≤ r) ∧ (lo < v → v < hi → r = v) ∧ -1 ≤ r ∧ r ≤ 100
theorem zab_ex {lo hi v : Int} (h : 0 ≤ v ∧ v ≤ 99) : zab lo hi v v := ⟨fun h => h, fun h => h, fun _ _ => rfl, by omega, by omega⟩
end WM
