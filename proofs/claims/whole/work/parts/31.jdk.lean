/-! Integer.bitCount -/
def zdg (b : Nat) : List Nat → Nat
  | [] => 0
  | d :: l => b * zdg b l + d
theorem zdg_and (k : Nat) : ∀ l m : List Nat, l.length = m.length → (∀ d ∈ l, d < 2 ^ k) → (∀ d ∈ m, d < 2 ^ k) → zdg (2 ^ k) l &&& zdg (2 ^ k) m = zdg (2 ^ k) (List.zipWith (fun a b => a &&& b) l m)
  | [], [], _, _, _ => by simp [zdg]
  | [], _ :: _, h, _, _ => by simp at h
  | _ :: _, [], h, _, _ => by simp at h
  | d :: l, e :: m, h, hl, hm => by
    have ih := zdg_and k l m (by simpa using h) (fun x hx => hl x (List.mem_cons_of_mem _ hx)) (fun x hx => hm x (List.mem_cons_of_mem _ hx))
    have hd := hl d List.mem_cons_self
    have he := hm e List.mem_cons_self
    rw [List.zipWith_cons_cons, zdg, zdg, zdg, ← ih]
    apply Nat.eq_of_testBit_eq
    intro j
    rw [Nat.testBit_and, Nat.testBit_two_pow_mul_add _ hd, Nat.testBit_two_pow_mul_add _ he, Nat.testBit_two_pow_mul_add _ (Nat.lt_of_le_of_lt Nat.and_le_left hd)]
    split <;> rw [Nat.testBit_and]
theorem zpc_half (n : Nat) : ∀ k, zpc n (k + 1) = zpc (n / 2) k + n % 2
  | 0 => by
    rw [zpc, zpc, zpc, Nat.testBit_zero]
    rcases (show n % 2 = 0 ∨ n % 2 = 1 by omega) with h | h <;> simp [h]
  | k + 1 => by
    rw [zpc, zpc_half n k, zpc, Nat.testBit_succ]
    omega
theorem zdg_bits : ∀ (k n : Nat), n < 2 ^ k → ∃ l : List Nat, l.length = k ∧ (∀ b ∈ l, b ≤ 1) ∧ n = zdg 2 l ∧ zpc n k = l.sum
  | 0, n, h => ⟨[], rfl, fun _ h => by simp at h, by simp at h; simp [zdg, h], by simp [zpc]⟩
  | k + 1, n, h => by
    obtain ⟨l, h1, h2, h3, h4⟩ := zdg_bits k (n / 2) (by rw [Nat.pow_succ] at h; omega)
    refine ⟨n % 2 :: l, by simp [h1], ?_, ?_, ?_⟩
    · intro b hb
      rcases List.mem_cons.mp hb with rfl | hb
      · omega
      · exact h2 b hb
    · rw [zdg, ← h3]; omega
    · rw [zpc_half, h4, List.sum_cons]; omega
theorem zlen25 {l : List Nat} (h : l.length = 25) : ∃ b0 b1 b2 b3 b4 b5 b6 b7 b8 b9 b10 b11 b12 b13 b14 b15 b16 b17 b18 b19 b20 b21 b22 b23 b24 : Nat, l = [b0, b1, b2, b3, b4, b5, b6, b7, b8, b9, b10, b11, b12, b13, b14, b15, b16, b17, b18, b19, b20, b21, b22, b23, b24] := by
  rcases l with _ | ⟨b0, _ | ⟨b1, _ | ⟨b2, _ | ⟨b3, _ | ⟨b4, _ | ⟨b5, _ | ⟨b6, _ | ⟨b7, _ | ⟨b8, _ | ⟨b9, _ | ⟨b10, _ | ⟨b11, _ | ⟨b12, _ | ⟨b13, _ | ⟨b14, _ | ⟨b15, _ | ⟨b16, _ | ⟨b17, _ | ⟨b18, _ | ⟨b19, _ | ⟨b20, _ | ⟨b21, _ | ⟨b22, _ | ⟨b23, _ | ⟨b24, _ | ⟨x, l⟩⟩⟩⟩⟩⟩⟩⟩⟩⟩⟩⟩⟩⟩⟩⟩⟩⟩⟩⟩⟩⟩⟩⟩⟩⟩
  all_goals first | exact ⟨b0, b1, b2, b3, b4, b5, b6, b7, b8, b9, b10, b11, b12, b13, b14, b15, b16, b17, b18, b19, b20, b21, b22, b23, b24, rfl⟩ | (simp at h)
theorem zswar1 {b0 b1 b2 b3 b4 b5 b6 b7 b8 b9 b10 b11 b12 b13 b14 b15 b16 b17 b18 b19 b20 b21 b22 b23 b24 : Nat} (h0 : b0 ≤ 1) (h1 : b1 ≤ 1) (h2 : b2 ≤ 1) (h3 : b3 ≤ 1) (h4 : b4 ≤ 1) (h5 : b5 ≤ 1) (h6 : b6 ≤ 1) (h7 : b7 ≤ 1) (h8 : b8 ≤ 1) (h9 : b9 ≤ 1) (h10 : b10 ≤ 1) (h11 : b11 ≤ 1) (h12 : b12 ≤ 1) (h13 : b13 ≤ 1) (h14 : b14 ≤ 1) (h15 : b15 ≤ 1) (h16 : b16 ≤ 1) (h17 : b17 ≤ 1) (h18 : b18 ≤ 1) (h19 : b19 ≤ 1) (h20 : b20 ≤ 1) (h21 : b21 ≤ 1) (h22 : b22 ≤ 1) (h23 : b23 ≤ 1) (h24 : b24 ≤ 1) : zdg 2 [b0, b1, b2, b3, b4, b5, b6, b7, b8, b9, b10, b11, b12, b13, b14, b15, b16, b17, b18, b19, b20, b21, b22, b23, b24] - (zdg 2 [b0, b1, b2, b3, b4, b5, b6, b7, b8, b9, b10, b11, b12, b13, b14, b15, b16, b17, b18, b19, b20, b21, b22, b23, b24] / 2 &&& 1431655765) = zdg 4 [(b0 + b1), (b2 + b3), (b4 + b5), (b6 + b7), (b8 + b9), (b10 + b11), (b12 + b13), (b14 + b15), (b16 + b17), (b18 + b19), (b20 + b21), (b22 + b23), (b24 + 0), (0 + 0), (0 + 0), (0 + 0)] := by
  have e1 : zdg 2 [b0, b1, b2, b3, b4, b5, b6, b7, b8, b9, b10, b11, b12, b13, b14, b15, b16, b17, b18, b19, b20, b21, b22, b23, b24] / 2 = zdg (2 ^ 1) [b1, b2, b3, b4, b5, b6, b7, b8, b9, b10, b11, b12, b13, b14, b15, b16, b17, b18, b19, b20, b21, b22, b23, b24, 0, 0, 0, 0, 0, 0, 0, 0] := by simp only [zdg]; omega
  have e2 : 1431655765 = zdg (2 ^ 1) [1, 0, 1, 0, 1, 0, 1, 0, 1, 0, 1, 0, 1, 0, 1, 0, 1, 0, 1, 0, 1, 0, 1, 0, 1, 0, 1, 0, 1, 0, 1, 0] := by decide
  rw [e1, e2, zdg_and 1 _ _ (by simp) (by simp; omega) (by simp)]
  simp only [List.zipWith, Nat.and_one_is_mod, Nat.and_zero, zdg]
  omega
theorem zswar2 {c0 c1 c2 c3 c4 c5 c6 c7 c8 c9 c10 c11 c12 c13 c14 c15 : Nat} (h0 : c0 ≤ 2) (h1 : c1 ≤ 2) (h2 : c2 ≤ 2) (h3 : c3 ≤ 2) (h4 : c4 ≤ 2) (h5 : c5 ≤ 2) (h6 : c6 ≤ 2) (h7 : c7 ≤ 2) (h8 : c8 ≤ 2) (h9 : c9 ≤ 2) (h10 : c10 ≤ 2) (h11 : c11 ≤ 2) (h12 : c12 ≤ 2) (h13 : c13 ≤ 2) (h14 : c14 ≤ 2) (h15 : c15 ≤ 2) : (zdg 4 [c0, c1, c2, c3, c4, c5, c6, c7, c8, c9, c10, c11, c12, c13, c14, c15] &&& 858993459) + (zdg 4 [c0, c1, c2, c3, c4, c5, c6, c7, c8, c9, c10, c11, c12, c13, c14, c15] / 4 &&& 858993459) = zdg 16 [(c0 + c1), (c2 + c3), (c4 + c5), (c6 + c7), (c8 + c9), (c10 + c11), (c12 + c13), (c14 + c15)] := by
  have e1 : zdg 4 [c0, c1, c2, c3, c4, c5, c6, c7, c8, c9, c10, c11, c12, c13, c14, c15] / 4 = zdg (2 ^ 2) [c1, c2, c3, c4, c5, c6, c7, c8, c9, c10, c11, c12, c13, c14, c15, 0] := by simp only [zdg]; omega
  have e0 : zdg 4 [c0, c1, c2, c3, c4, c5, c6, c7, c8, c9, c10, c11, c12, c13, c14, c15] = zdg (2 ^ 2) [c0, c1, c2, c3, c4, c5, c6, c7, c8, c9, c10, c11, c12, c13, c14, c15] := rfl
  have e2 : 858993459 = zdg (2 ^ 2) [3, 0, 3, 0, 3, 0, 3, 0, 3, 0, 3, 0, 3, 0, 3, 0] := by decide
  have m : ∀ x : Nat, x &&& 3 = x % 4 := fun x => Nat.and_two_pow_sub_one_eq_mod x 2
  rw [e1, e0, e2, zdg_and 2 _ _ (by simp) (by simp; omega) (by simp), zdg_and 2 _ _ (by simp) (by simp; omega) (by simp)]
  simp only [List.zipWith, m, Nat.and_zero, zdg]
  omega
theorem zswar3 {e0 e1 e2 e3 e4 e5 e6 e7 : Nat} (h0 : e0 ≤ 4) (h1 : e1 ≤ 4) (h2 : e2 ≤ 4) (h3 : e3 ≤ 4) (h4 : e4 ≤ 4) (h5 : e5 ≤ 4) (h6 : e6 ≤ 4) (h7 : e7 ≤ 4) : (zdg 16 [e0, e1, e2, e3, e4, e5, e6, e7] + zdg 16 [e0, e1, e2, e3, e4, e5, e6, e7] / 16) &&& 252645135 = zdg 256 [(e0 + e1), (e2 + e3), (e4 + e5), (e6 + e7)] := by
  have e1 : zdg 16 [e0, e1, e2, e3, e4, e5, e6, e7] + zdg 16 [e0, e1, e2, e3, e4, e5, e6, e7] / 16 = zdg (2 ^ 4) [(e0 + e1), (e1 + e2), (e2 + e3), (e3 + e4), (e4 + e5), (e5 + e6), (e6 + e7), e7] := by simp only [zdg]; omega
  have e2 : 252645135 = zdg (2 ^ 4) [15, 0, 15, 0, 15, 0, 15, 0] := by decide
  have m : ∀ x : Nat, x &&& 15 = x % 16 := fun x => Nat.and_two_pow_sub_one_eq_mod x 4
  rw [e1, e2, zdg_and 4 _ _ (by simp) (by simp; omega) (by simp)]
  simp only [List.zipWith, m, Nat.and_zero, zdg]
  omega
theorem zswar4 {f0 f1 f2 f3 : Nat} (h0 : f0 ≤ 8) (h1 : f1 ≤ 8) (h2 : f2 ≤ 8) (h3 : f3 ≤ 8) : ((zdg 256 [f0, f1, f2, f3] + zdg 256 [f0, f1, f2, f3] / 256) + (zdg 256 [f0, f1, f2, f3] + zdg 256 [f0, f1, f2, f3] / 256) / 65536) &&& 63 = f0 + f1 + f2 + f3 := by
  have m : ∀ x : Nat, x &&& 63 = x % 64 := fun x => Nat.and_two_pow_sub_one_eq_mod x 6
  rw [m]
  simp only [zdg]
  have y4 : 256 * (256 * (256 * (256 * 0 + f3) + f2) + f1) + f0 + (256 * (256 * (256 * (256 * 0 + f3) + f2) + f1) + f0) / 256 = 16777216 * f3 + 65536 * (f2 + f3) + 256 * (f1 + f2) + (f0 + f1) := by omega
  rw [y4]
  have y5 : (16777216 * f3 + 65536 * (f2 + f3) + 256 * (f1 + f2) + (f0 + f1)) / 65536 = 256 * f3 + (f2 + f3) := by omega
  rw [y5]
  omega
def zbcN (n : Nat) : Nat :=
  let y1 := n - (n / 2 &&& 1431655765)
  let y2 := (y1 &&& 858993459) + (y1 / 4 &&& 858993459)
  let y3 := (y2 + y2 / 16) &&& 252645135
  let y4 := y3 + y3 / 256
  (y4 + y4 / 65536) &&& 63
theorem zbcN_eq {n : Nat} (h : n < 2 ^ 25) : zbcN n = zpc n 25 := by
  obtain ⟨l, h1, h2, h3, h4⟩ := zdg_bits 25 n h
  obtain ⟨b0, b1, b2, b3, b4, b5, b6, b7, b8, b9, b10, b11, b12, b13, b14, b15, b16, b17, b18, b19, b20, b21, b22, b23, b24, rfl⟩ := zlen25 h1
  simp only [List.forall_mem_cons] at h2
  obtain ⟨g0, g1, g2, g3, g4, g5, g6, g7, g8, g9, g10, g11, g12, g13, g14, g15, g16, g17, g18, g19, g20, g21, g22, g23, g24, -⟩ := h2
  rw [h4, h3]
  unfold zbcN
  simp only []
  rw [zswar1 g0 g1 g2 g3 g4 g5 g6 g7 g8 g9 g10 g11 g12 g13 g14 g15 g16 g17 g18 g19 g20 g21 g22 g23 g24, zswar2 (by omega) (by omega) (by omega) (by omega) (by omega) (by omega) (by omega) (by omega) (by omega) (by omega) (by omega) (by omega) (by omega) (by omega) (by omega) (by omega), zswar3 (by omega) (by omega) (by omega) (by omega) (by omega) (by omega) (by omega) (by omega), zswar4 (by omega) (by omega) (by omega) (by omega)]
  simp only [List.sum_cons, List.sum_nil]
  omega
theorem zush {n k : Nat} (hn : n < 4294967296) {s : Int32} (hs : ((s.toUInt32 &&& Int32.toUInt32 31).toBitVec % 32).toNat = k) : ((nI n).toUInt32 >>> (s.toUInt32 &&& Int32.toUInt32 31)).toInt32 = nI (n / 2 ^ k) := pk_ushrN hn s k hs
theorem p_J_bitCount {d n : Nat} {Rf : Int32 → ab_S → Prop} {σ : ab_S} (hn : n < 2 ^ 25) (h : Rf (nI (zpc n 25)) σ) : CA (d + 1) 0 [.int (nI n)] σ (ab_rI Rf) := by
  refine e_J_bitCount (b_J_bitCount_0 (zr h ?_))
  rw [← zbcN_eq hn]
  unfold zbcN
  simp only []
  have a1 : n / 2 &&& 1431655765 ≤ n / 2 := Nat.and_le_left
  generalize e1 : n / 2 &&& 1431655765 = t1 at a1
  have h1 : nI n - ((Int32.toUInt32 (nI n) >>> (Int32.toUInt32 1 &&& Int32.toUInt32 31)).toInt32 &&& 1431655765) = nI (n - t1) := by
    rw [zush (k := 1) (by omega) (by decide), show (1431655765 : Int32) = nI 1431655765 from rfl, fa_and, pk_sub (by rw [show 2 ^ 1 = 2 from rfl, e1]; omega), show 2 ^ 1 = 2 from rfl, e1]
  rw [h1]
  generalize hy1 : n - t1 = y1
  have b1 : y1 < 33554432 := by omega
  have h2 : (nI y1 &&& 858993459) + ((Int32.toUInt32 (nI y1) >>> (Int32.toUInt32 2 &&& Int32.toUInt32 31)).toInt32 &&& 858993459) = nI ((y1 &&& 858993459) + (y1 / 4 &&& 858993459)) := by
    rw [zush (k := 2) (by omega) (by decide), show (858993459 : Int32) = nI 858993459 from rfl, fa_and, fa_and, nI_add]
  rw [h2]
  have a2 : y1 &&& 858993459 ≤ y1 := Nat.and_le_left
  have a3 : y1 / 4 &&& 858993459 ≤ y1 / 4 := Nat.and_le_left
  generalize hy2 : (y1 &&& 858993459) + (y1 / 4 &&& 858993459) = y2
  have b2 : y2 < 67108864 := by omega
  have h3 : (nI y2 + (Int32.toUInt32 (nI y2) >>> (Int32.toUInt32 4 &&& Int32.toUInt32 31)).toInt32) &&& 252645135 = nI ((y2 + y2 / 16) &&& 252645135) := by
    rw [zush (k := 4) (by omega) (by decide), show (252645135 : Int32) = nI 252645135 from rfl, nI_add, fa_and]
  rw [h3]
  have a4 : (y2 + y2 / 16) &&& 252645135 ≤ y2 + y2 / 16 := Nat.and_le_left
  generalize hy3 : (y2 + y2 / 16) &&& 252645135 = y3
  have b3 : y3 < 134217728 := by omega
  have h4 : nI y3 + (Int32.toUInt32 (nI y3) >>> (Int32.toUInt32 8 &&& Int32.toUInt32 31)).toInt32 = nI (y3 + y3 / 256) := by
    rw [zush (k := 8) (by omega) (by decide), nI_add]
  rw [h4]
  generalize hy4 : y3 + y3 / 256 = y4
  have b4 : y4 < 268435456 := by omega
  have h5 : nI y4 + (Int32.toUInt32 (nI y4) >>> (Int32.toUInt32 16 &&& Int32.toUInt32 31)).toInt32 = nI (y4 + y4 / 65536) := by
    rw [zush (k := 16) (by omega) (by decide), nI_add]
  rw [h5, show (63 : Int32) = nI 63 from rfl, fa_and]
theorem p_J_max {d : Nat} {a b : Int32} {Rf : Int32 → ab_S → Prop} {σ : ab_S} (h : Rf (if a < b then b else a) σ) : CA (d + 1) 1 [.int a, .int b] σ (ab_rI Rf) := by
  refine e_J_max (b_J_max_0 (fun c => ?_) (fun c => ?_))
  · rw [if_pos c] at h
    exact b_J_max_9 (b_J_max_10 h)
  · rw [if_neg c] at h
    exact b_J_max_5 (b_J_max_10 h)
