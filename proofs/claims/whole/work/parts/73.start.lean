/-! THE START: the data behind the constructors -/
def z0I (k : Nat) : Nat → Int32 := if k = 57 then (upd (upd (upd (fun _ => 0) (Int32.toNatClampNeg 0) 5) (Int32.toNatClampNeg 1) 5) (Int32.toNatClampNeg 5) 24) else if k = 2 ∨ k = 15 ∨ k = 27 ∨ k = 36 ∨ k = 44 ∨ k = 47 ∨ k = 50 ∨ k = 53 then (fun i => [5, 5, 0, 0, 24, 0, 0, 0].getD i 0) else fun _ => 0
def z0L (k : Nat) : Nat → Int64 := if k = 0 then (fun i => [0, 0, 0, 0, 0, 0, 0, 0, 1].getD i 0) else if k = 56 then (fun i => [0, 0, 0, 0, 0, 1].getD i 0) else fun _ => 0
def z0 : ab_S := (z0I, z0L)
def zS0 : zS := ((zbeg 5 5, (0, fun _ => zbeg 5 5), (0, fun _ => 0), (0, fun _ => 0)), fun _ => none, (0, fun _ => 0), (0, 1), fun _ => 0)
theorem z0_V : zSV zS0 := by
  refine ⟨⟨zbeg_V (by decide) (by decide), by decide, by decide, fun u hu => absurd hu (Nat.not_lt_zero u), by decide, by decide, fun u hu => absurd hu (Nat.not_lt_zero u), fun u hu => absurd hu (Nat.not_lt_zero u)⟩, fun i hi A h => (by cases h), by decide, fun j hj => absurd hj (Nat.not_lt_zero j)⟩
theorem z0_F : zIF z0 zS0 := by
  refine ⟨⟨⟨by decide +kernel, by decide +kernel, by decide +kernel, by decide +kernel, by decide +kernel, by decide +kernel, by decide +kernel, by decide +kernel, fun i hi => absurd (show i < 0 from hi) (Nat.not_lt_zero i)⟩, by decide +kernel, fun u hu => absurd hu (Nat.not_lt_zero u), ⟨by decide +kernel, fun j hj => absurd (show j < 0 from hj) (Nat.not_lt_zero j)⟩, ⟨by decide +kernel, fun j hj => absurd (show j < 0 from hj) (Nat.not_lt_zero j)⟩⟩, fun i hi => ⟨fun _ => rfl, fun A h => (by cases h)⟩, ⟨by decide +kernel, fun j hj => absurd hj (Nat.not_lt_zero j)⟩, ⟨by decide +kernel, by decide +kernel⟩, fun j hj => rfl⟩
theorem z0_M : zIM z0 zS0 := by
  refine ⟨⟨⟨by decide +kernel, fun i hi => absurd (show i < 0 from hi) (Nat.not_lt_zero i)⟩, ⟨by decide +kernel, fun j hj => absurd (show j < 0 from hj) (Nat.not_lt_zero j)⟩, ⟨by decide +kernel, fun j hj => absurd (show j < 0 from hj) (Nat.not_lt_zero j)⟩, by decide +kernel, fun u hu => absurd hu (Nat.not_lt_zero u)⟩, fun i hi => ⟨fun _ => rfl, fun A h => (by cases h)⟩, ⟨by decide +kernel, fun j hj => absurd hj (Nat.not_lt_zero j)⟩, ⟨by decide +kernel, by decide +kernel⟩, fun j hj => rfl⟩
/-! the 64 addresses, and the world -/
def nv_f (q1 : Nat) (u1 : Nat → Nat) (q2 : Nat) (u2 : Nat → Nat) (k : Nat) : Nat := if k = 0 then q1 else if k < 56 then u1 (k - 1) else if k = 56 then q2 else u2 (k - 57)
theorem nv_arr {cA : ClassId} {n : Nat} {f f' : Nat → Option Nat} (h : ∀ i, i < n → f i = f' i) : vp_cell cA (n, .inr (.inr (.inr (.inr f)))) = vp_cell cA (n, .inr (.inr (.inr (.inr f')))) := by
  rw [vp_cell_q, vp_cell_q]
  unfold arrV
  congr 1
  apply Array.ext
  · simp
  · intro i h1 h2
    simp at h1 h2 ⊢
    rw [h i h1]
