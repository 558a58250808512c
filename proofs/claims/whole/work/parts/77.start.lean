/-! THE LAW, from its entry -/
theorem ws_arr {args : Array Value} {s : State} {ty : FieldType} (h : (Cond.arrayClass ty).before args s = true) (ho : ∀ C, ty ≠ .object C) : ∃ cA, ArrOfT s cA ty ∧ va_RA s cA ty := by
  obtain ⟨c, k, comp, h1, h2, h3⟩ := Cond.arrayClass_spec h
  refine ⟨c, fun n z => ⟨fun k h => (by cases h), k, h2, comp, h3⟩, ?_⟩
  cases ty with
  | object C => exact absurd rfl (ho C)
  | _ => exact h1
theorem ws_arrq {s : State} {C : String} (h : va_AO C s) : ∃ cA, ArrOfT s cA (.object C) ∧ va_RA s cA (.object C) := by
  obtain ⟨comp, c, k, h1, h2, h3, h4, h5⟩ := Cond.arrayOver_spec h
  exact ⟨c, fun N z => ⟨fun k h => (by cases h), k, h3, comp, h4⟩, k, comp, h3, h4, h1, h5⟩
abbrev ws_tm (i : Nat) : Term := Term.string "FoxGeese$Reader" ([135, 141, 143, 145, 147, 149, 151].getD i 0)
set_option maxHeartbeats 4000000 in
set_option maxRecDepth 100000 in
theorem ws_str {b : Nat} {s : State} {A : Nat → Prop} (hgv : (Jvm.Cond.and given_1 narrow_1).before #[Value.ref b] s = true) (hnA : ∀ a : Nat, a < s.heap.size → ¬ A a) : ∃ adK adV : Nat → Nat, vk_S 7 ab_tlen ab_tx adK adV A s s.heap ∧ ∀ i : Nat, i < 7 → (ws_tm i).eval #[Value.ref b] s none [] s = some (.ref (adK i)) := by
  have hs := flat_of_before _ hgv
  refine vk_Sof (tm := ws_tm) (by decide) ?_ ?_ ?_ ?_ ?_ ?_ hnA
  · intro i hi
    match i, hi with
    | 0, _ => exact hs _ (by decide +kernel)
    | 1, _ => exact hs _ (by decide +kernel)
    | 2, _ => exact hs _ (by decide +kernel)
    | 3, _ => exact hs _ (by decide +kernel)
    | 4, _ => exact hs _ (by decide +kernel)
    | 5, _ => exact hs _ (by decide +kernel)
    | 6, _ => exact hs _ (by decide +kernel)
    | i + 7, h => exact absurd h (by omega)
  · intro i hi
    match i, hi with
    | 0, _ => exact hs _ (by decide +kernel)
    | 1, _ => exact hs _ (by decide +kernel)
    | 2, _ => exact hs _ (by decide +kernel)
    | 3, _ => exact hs _ (by decide +kernel)
    | 4, _ => exact hs _ (by decide +kernel)
    | 5, _ => exact hs _ (by decide +kernel)
    | 6, _ => exact hs _ (by decide +kernel)
    | i + 7, h => exact absurd h (by omega)
  · intro i hi
    match i, hi with
    | 0, _ => exact hs _ (by decide +kernel)
    | 1, _ => exact hs _ (by decide +kernel)
    | 2, _ => exact hs _ (by decide +kernel)
    | 3, _ => exact hs _ (by decide +kernel)
    | 4, _ => exact hs _ (by decide +kernel)
    | 5, _ => exact hs _ (by decide +kernel)
    | 6, _ => exact hs _ (by decide +kernel)
    | i + 7, h => exact absurd h (by omega)
  · intro i hi
    match i, hi with
    | 0, _ => exact hs _ (by decide +kernel)
    | 1, _ => exact hs _ (by decide +kernel)
    | 2, _ => exact hs _ (by decide +kernel)
    | 3, _ => exact hs _ (by decide +kernel)
    | 4, _ => exact hs _ (by decide +kernel)
    | 5, _ => exact hs _ (by decide +kernel)
    | 6, _ => exact hs _ (by decide +kernel)
    | i + 7, h => exact absurd h (by omega)
  · intro i hi j hj
    match i, hi with
    | 0, _ =>
      match j, hj with
      | 0, _ => exact hs _ (by decide +kernel)
      | 1, _ => exact hs _ (by decide +kernel)
      | 2, _ => exact hs _ (by decide +kernel)
      | 3, _ => exact hs _ (by decide +kernel)
      | 4, _ => exact hs _ (by decide +kernel)
      | j + 5, h => exact absurd (show j + 5 < 5 from h) (by omega)
    | 1, _ =>
      match j, hj with
      | 0, _ => exact hs _ (by decide +kernel)
      | 1, _ => exact hs _ (by decide +kernel)
      | 2, _ => exact hs _ (by decide +kernel)
      | 3, _ => exact hs _ (by decide +kernel)
      | 4, _ => exact hs _ (by decide +kernel)
      | 5, _ => exact hs _ (by decide +kernel)
      | 6, _ => exact hs _ (by decide +kernel)
      | j + 7, h => exact absurd (show j + 7 < 7 from h) (by omega)
    | 2, _ =>
      match j, hj with
      | 0, _ => exact hs _ (by decide +kernel)
      | 1, _ => exact hs _ (by decide +kernel)
      | 2, _ => exact hs _ (by decide +kernel)
      | j + 3, h => exact absurd (show j + 3 < 3 from h) (by omega)
    | 3, _ =>
      match j, hj with
      | 0, _ => exact hs _ (by decide +kernel)
      | 1, _ => exact hs _ (by decide +kernel)
      | 2, _ => exact hs _ (by decide +kernel)
      | 3, _ => exact hs _ (by decide +kernel)
      | 4, _ => exact hs _ (by decide +kernel)
      | j + 5, h => exact absurd (show j + 5 < 5 from h) (by omega)
    | 4, _ =>
      match j, hj with
      | 0, _ => exact hs _ (by decide +kernel)
      | 1, _ => exact hs _ (by decide +kernel)
      | j + 2, h => exact absurd (show j + 2 < 2 from h) (by omega)
    | 5, _ =>
      match j, hj with
      | 0, _ => exact hs _ (by decide +kernel)
      | 1, _ => exact hs _ (by decide +kernel)
      | 2, _ => exact hs _ (by decide +kernel)
      | 3, _ => exact hs _ (by decide +kernel)
      | j + 4, h => exact absurd (show j + 4 < 4 from h) (by omega)
    | 6, _ =>
      match j, hj with
      | 0, _ => exact hs _ (by decide +kernel)
      | 1, _ => exact hs _ (by decide +kernel)
      | 2, _ => exact hs _ (by decide +kernel)
      | 3, _ => exact hs _ (by decide +kernel)
      | j + 4, h => exact absurd (show j + 4 < 4 from h) (by omega)
    | i + 7, h => exact absurd h (by omega)
  · intro i j hi hj hne
    match i, hi with
    | 0, _ =>
      match j, hj with
      | 0, _ => exact absurd rfl hne
      | 1, _ => exact Or.inl (hs _ (by decide +kernel))
      | 2, _ => exact Or.inl (hs _ (by decide +kernel))
      | 3, _ => exact Or.inl (hs _ (by decide +kernel))
      | 4, _ => exact Or.inl (hs _ (by decide +kernel))
      | 5, _ => exact Or.inl (hs _ (by decide +kernel))
      | 6, _ => exact Or.inl (hs _ (by decide +kernel))
      | j + 7, h => exact absurd h (by omega)
    | 1, _ =>
      match j, hj with
      | 0, _ => exact Or.inr (hs _ (by decide +kernel))
      | 1, _ => exact absurd rfl hne
      | 2, _ => exact Or.inl (hs _ (by decide +kernel))
      | 3, _ => exact Or.inl (hs _ (by decide +kernel))
      | 4, _ => exact Or.inl (hs _ (by decide +kernel))
      | 5, _ => exact Or.inl (hs _ (by decide +kernel))
      | 6, _ => exact Or.inl (hs _ (by decide +kernel))
      | j + 7, h => exact absurd h (by omega)
    | 2, _ =>
      match j, hj with
      | 0, _ => exact Or.inr (hs _ (by decide +kernel))
      | 1, _ => exact Or.inr (hs _ (by decide +kernel))
      | 2, _ => exact absurd rfl hne
      | 3, _ => exact Or.inl (hs _ (by decide +kernel))
      | 4, _ => exact Or.inl (hs _ (by decide +kernel))
      | 5, _ => exact Or.inl (hs _ (by decide +kernel))
      | 6, _ => exact Or.inl (hs _ (by decide +kernel))
      | j + 7, h => exact absurd h (by omega)
    | 3, _ =>
      match j, hj with
      | 0, _ => exact Or.inr (hs _ (by decide +kernel))
      | 1, _ => exact Or.inr (hs _ (by decide +kernel))
      | 2, _ => exact Or.inr (hs _ (by decide +kernel))
      | 3, _ => exact absurd rfl hne
      | 4, _ => exact Or.inl (hs _ (by decide +kernel))
      | 5, _ => exact Or.inl (hs _ (by decide +kernel))
      | 6, _ => exact Or.inl (hs _ (by decide +kernel))
      | j + 7, h => exact absurd h (by omega)
    | 4, _ =>
      match j, hj with
      | 0, _ => exact Or.inr (hs _ (by decide +kernel))
      | 1, _ => exact Or.inr (hs _ (by decide +kernel))
      | 2, _ => exact Or.inr (hs _ (by decide +kernel))
      | 3, _ => exact Or.inr (hs _ (by decide +kernel))
      | 4, _ => exact absurd rfl hne
      | 5, _ => exact Or.inl (hs _ (by decide +kernel))
      | 6, _ => exact Or.inl (hs _ (by decide +kernel))
      | j + 7, h => exact absurd h (by omega)
    | 5, _ =>
      match j, hj with
      | 0, _ => exact Or.inr (hs _ (by decide +kernel))
      | 1, _ => exact Or.inr (hs _ (by decide +kernel))
      | 2, _ => exact Or.inr (hs _ (by decide +kernel))
      | 3, _ => exact Or.inr (hs _ (by decide +kernel))
      | 4, _ => exact Or.inr (hs _ (by decide +kernel))
      | 5, _ => exact absurd rfl hne
      | 6, _ => exact Or.inl (hs _ (by decide +kernel))
      | j + 7, h => exact absurd h (by omega)
    | 6, _ =>
      match j, hj with
      | 0, _ => exact Or.inr (hs _ (by decide +kernel))
      | 1, _ => exact Or.inr (hs _ (by decide +kernel))
      | 2, _ => exact Or.inr (hs _ (by decide +kernel))
      | 3, _ => exact Or.inr (hs _ (by decide +kernel))
      | 4, _ => exact Or.inr (hs _ (by decide +kernel))
      | 5, _ => exact Or.inr (hs _ (by decide +kernel))
      | 6, _ => exact absurd rfl hne
      | j + 7, h => exact absurd h (by omega)
    | i + 7, h => exact absurd h (by omega)
set_option maxHeartbeats 4000000 in
set_option maxRecDepth 100000 in
theorem whole_start {p : Program} {e : Env} {s : State} {m : MethodId} {below : List Frame} {meth : Method} {c : Code} (l : Launch) {b L : Nat} {xs : Nat → Int32} (hL : L ≤ 3072) (C0 : lw_At p s m meth c b L xs) : W p l e room_1 s m #[Value.ref b] below meth c s.heap [] 0 0 (lw_Z below #[Value.ref b] s) (entryFrame m ([Value.ref b] : List Value).toArray 4) := by
  obtain ⟨hx, hb, hr, hml, hown, hts0, hX, hbl, hlocks, hgv⟩ := id C0
  have hts : ∀ w ∈ cx_WS, w.before #[Value.ref b] s = true := fun w hw => hts0 w (List.mem_filter.mp hw).1
  have hs := flat_of_before _ hgv
  obtain ⟨A, hAe⟩ : ∃ A : Nat → Prop, A = fun q : Nat => s.heap.size ≤ q := ⟨_, rfl⟩
  have hA : ∀ q : Nat, s.heap.size ≤ q → A q := fun q h => by rw [hAe]; exact h
  have hAs : ∀ q, A q → s.heap.size ≤ q := fun q h => by rw [hAe] at h; exact h
  have hnA : ∀ a : Nat, a < s.heap.size → ¬ A a := fun a h z => absurd (hAs a z) (by omega)
  have hbA : ¬ A b := hnA b hbl
  obtain ⟨c0, i0, k0⟩ := u_known (C := nm_R0) (T := nm_T0) (N := 10) (n := 10) hts cx_in0 (hts (.instantiable nm_R0 10) (cx_mem 87 (by decide +kernel) (by decide +kernel)))
  obtain ⟨c1, i1, k1⟩ := u_known (C := nm_R1) (T := nm_T1) (N := 5) (n := 5) hts cx_in1 (hts (.instantiable nm_R1 5) (cx_mem 81 (by decide +kernel) (by decide +kernel)))
  obtain ⟨c2, i2, k2⟩ := u_known (C := nm_R2) (T := nm_T2) (N := 2) (n := 2) hts cx_in2 (hts (.instantiable nm_R2 2) (cx_mem 146 (by decide +kernel) (by decide +kernel)))
  obtain ⟨c3, i3, k3⟩ := u_known (C := nm_R3) (T := nm_T3) (N := 6) (n := 6) hts cx_in3 (hts (.instantiable nm_R3 6) (cx_mem 183 (by decide +kernel) (by decide +kernel)))
  obtain ⟨c4, i4, k4⟩ := u_known (C := nm_R4) (T := nm_T4) (N := 9) (n := 9) hts cx_in4 (hts (.instantiable nm_R4 9) (cx_mem 73 (by decide +kernel) (by decide +kernel)))
  obtain ⟨c5, i5, k5⟩ := u_known (C := nm_R5) (T := nm_T5) (N := 15) (n := 15) hts cx_in5 (hts (.instantiable nm_R5 15) (cx_mem 751 (by decide +kernel) (by decide +kernel)))
  obtain ⟨D, hKc⟩ : ∃ D : va_G, ∀ (k : Nat) (q : vw_C), cx_cl[k]? = some q → u_Kn s q.1 q.2.1 q.2.2 (D.1 k) (D.2 k) := by
    refine ⟨(fun k => match k with | 0 => c0 | 1 => c1 | 2 => c2 | 3 => c3 | 4 => c4 | _ => c5, fun k => match k with | 0 => i0 | 1 => i1 | 2 => i2 | 3 => i3 | 4 => i4 | _ => i5), ?_⟩
    intro k q hq
    match k, hq with
    | 0, hq => cases hq; exact k0
    | 1, hq => cases hq; exact k1
    | 2, hq => cases hq; exact k2
    | 3, hq => cases hq; exact k3
    | 4, hq => cases hq; exact k4
    | 5, hq => cases hq; exact k5
    | k + 6, hq => simp [cx_cl] at hq
  obtain ⟨a0, ha0⟩ := ws_arr (ty := .int) (hts (.arrayClass .int) (cx_mem 144 (by decide +kernel) (by decide +kernel))) (by intro C h; cases h)
  obtain ⟨a1, ha1⟩ := ws_arr (ty := .boolean) (hts (.arrayClass .boolean) (cx_mem 211 (by decide +kernel) (by decide +kernel))) (by intro C h; cases h)
  obtain ⟨a2, ha2⟩ := ws_arr (ty := .long) (hts (.arrayClass .long) (cx_mem 802 (by decide +kernel) (by decide +kernel))) (by intro C h; cases h)
  have hao3 : va_AO "FoxGeese$Game" s := va_AO.of (hts0 (.arrayOver (.object "FoxGeese$Game")) (List.mem_of_getElem? (i := 181) (by decide +kernel)))
  have hao4 : va_AO "FoxGeese$Board" s := va_AO.of (hts0 (.arrayOver (.object "FoxGeese$Board")) (List.mem_of_getElem? (i := 213) (by decide +kernel)))
  obtain ⟨a3, ha3⟩ := ws_arrq hao3
  obtain ⟨a4, ha4⟩ := ws_arrq hao4
  obtain ⟨ca, hca⟩ : ∃ ca : Nat → ClassId, ∀ (k : Nat) (q : ClassId × FieldType), (nv_ts ca)[k]? = some q → ArrOfT s q.1 q.2 ∧ va_RA s q.1 q.2 := by
    refine ⟨fun k => match k with | 0 => a0 | 1 => a1 | 2 => a2 | 3 => a3 | _ => a4, ?_⟩
    intro k q hq
    match k, hq with
    | 0, hq => cases hq; exact ha0
    | 1, hq => cases hq; exact ha1
    | 2, hq => cases hq; exact ha2
    | 3, hq => cases hq; exact ha3
    | 4, hq => cases hq; exact ha4
    | k + 5, hq => simp [nv_ts] at hq
  have hK : va_K D cx_cl (nv_ts ca) s := ⟨hKc, hca⟩
  have hNN : nv_N s := ⟨va_Nw.of rfl (hts0 nv_n1 (List.mem_of_getElem? (i := 82) (by decide +kernel))), va_Nw.of rfl (hts0 nv_n2 (List.mem_of_getElem? (i := 147) (by decide +kernel))), va_Nw.of rfl (hts0 nv_n3 (List.mem_of_getElem? (i := 184) (by decide +kernel))), va_Nw.of rfl (hts0 nv_n4 (List.mem_of_getElem? (i := 189) (by decide +kernel))), hao3, hao4⟩
  obtain ⟨adK, adV, hSt, hev⟩ := ws_str hgv hnA
  have hZ1 := va_Zof (C := "java/lang/String") (n := "COMPACT_STRINGS") (d := "Z") (hts0 (.laysStatic "java/lang/String" "COMPACT_STRINGS" "Z") (List.mem_of_getElem? (i := 365) (by decide +kernel))) (hts0 (.initialized "java/lang/String") (List.mem_of_getElem? (i := 65) (by decide +kernel))) (va_eqi (z := 1) (hs _ (by decide +kernel))) hnA
  obtain ⟨fv, hfv, hfr⟩ := Cond.isRef_spec (hs (Cond.isRef (.static "jdk/internal/util/Preconditions" "SIOOBE_FORMATTER" "Ljava/util/function/BiFunction;")) (by decide +kernel))
  have hZ2 := va_Zof (C := "jdk/internal/util/Preconditions") (n := "SIOOBE_FORMATTER") (d := "Ljava/util/function/BiFunction;") (hts0 (.laysStatic "jdk/internal/util/Preconditions" "SIOOBE_FORMATTER" "Ljava/util/function/BiFunction;") (List.mem_of_getElem? (i := 381) (by decide +kernel))) (hts0 (.initialized "jdk/internal/util/Preconditions") (List.mem_of_getElem? (i := 67) (by decide +kernel))) hfv hnA
  have hcat : fv.category = 1 := by cases fv <;> simp_all [Value.isRef, Value.category]
  have hR : ∀ (j : Nat) (q : Nat × String), cx_txk[j]? = some q → vk_R "FoxGeese$Reader" q.1 q.2 (adK j) s := by
    intro j q hq
    match j, hq with
    | 0, hq => cases hq; exact vk_R.of (hts0 (.stringRef "FoxGeese$Reader" 135 "field") (List.mem_of_getElem? (i := 351) (by decide +kernel))) (hev 0 (by omega))
    | 1, hq => cases hq; exact vk_R.of (hts0 (.stringRef "FoxGeese$Reader" 141 "thicket") (List.mem_of_getElem? (i := 404) (by decide +kernel))) (hev 1 (by omega))
    | 2, hq => cases hq; exact vk_R.of (hts0 (.stringRef "FoxGeese$Reader" 143 "fox") (List.mem_of_getElem? (i := 405) (by decide +kernel))) (hev 2 (by omega))
    | 3, hq => cases hq; exact vk_R.of (hts0 (.stringRef "FoxGeese$Reader" 145 "goose") (List.mem_of_getElem? (i := 406) (by decide +kernel))) (hev 3 (by omega))
    | 4, hq => cases hq; exact vk_R.of (hts0 (.stringRef "FoxGeese$Reader" 147 "go") (List.mem_of_getElem? (i := 407) (by decide +kernel))) (hev 4 (by omega))
    | 5, hq => cases hq; exact vk_R.of (hts0 (.stringRef "FoxGeese$Reader" 149 "move") (List.mem_of_getElem? (i := 408) (by decide +kernel))) (hev 5 (by omega))
    | 6, hq => cases hq; exact vk_R.of (hts0 (.stringRef "FoxGeese$Reader" 151 "pass") (List.mem_of_getElem? (i := 409) (by decide +kernel))) (hev 6 (by omega))
    | j + 7, hq => simp [cx_txk] at hq
  have hS : va_S A s.heap s.heap [] := va_S.rf
  have hP : va_P D cx_cl [] s.heap := fun k q h => by simp at h
  have hD : va_D A [] := ⟨fun i j p q h => by simp at h, fun k q h => by simp at h⟩
  have hl := lv_entry ([.ref b]) (n := 4) (Nat.le_of_ble_eq_true rfl)
  rw [lg_entry_eq]
  generalize (lg_sl ([.ref b]) ++ List.replicate (4 - (lg_sl ([.ref b])).length) Slot.unset).toArray = ls at hl ⊢
  have hl : lv_has ls 4 [(0, .ref b)] := hl
  refine va_new (D := D) (ci := 4) (fs := [.null, .null, .null, .null, .null, .null, .null, .long 0, .long 0]) (C := nm_R4) (T := nm_T4) (N := 9) hx hb hts cx_in4 (cx_ty 4) (cx_clTy (ci := 4) rfl) hown (hts (.classLink R_law 7 nm_R4) (cx_mem 72 (by decide +kernel) (by decide +kernel))) (hts (.instantiable nm_R4 9) (cx_mem 73 (by decide +kernel) (by decide +kernel))) (hts (.initialized nm_R4) (cx_mem 58 (by decide +kernel) (by decide +kernel))) hK hP hD hS hA rfl (fun j hj => by rcases (show j = 0 ∨ j = 1 ∨ j = 2 ∨ j = 3 ∨ j = 4 ∨ j = 5 ∨ j = 6 ∨ j = 7 ∨ j = 8 by omega) with rfl | rfl | rfl | rfl | rfl | rfl | rfl | rfl | rfl <;> rfl) (Nat.le_of_ble_eq_true rfl) (Nat.le_of_ble_eq_true rfl) dl_0 (fun q1 H hP hD hS => ?_)
  have hP : va_P D cx_cl [(q1, .inr (4, [.null, .null, .null, .null, .null, .null, .null, .long 0, .long 0]))] H := hP
  have hD : va_D A [(q1, .inr (4, [.null, .null, .null, .null, .null, .null, .null, .long 0, .long 0]))] := hD
  refine W.widen (k := 1) (n := 9) (Nat.le_of_ble_eq_true rfl) (Nat.le_of_ble_eq_true rfl) ?_
  refine lv_dup hx hb dl_3 rfl ?_
  refine nv_callI (wr := []) hx hb hml hown hts (nc_F l D ca q1) rfl ⟨by decide +kernel, by decide +kernel, by decide +kernel⟩ (cx_mem 76 (by decide +kernel) (by decide +kernel)) (cx_mem 58 (by decide +kernel) (by decide +kernel)) (cx_mem 75 (by decide +kernel) (by decide +kernel)) (cx_mem 74 (by decide +kernel) (by decide +kernel)) ⟨rfl, rfl⟩ ⟨Nat.le_of_ble_eq_true rfl, Nat.le_of_ble_eq_true rfl⟩ hK hNN hP hD hS hA 0 [] rfl rfl (by decide) (by decide) hl.1 (Nat.le_of_ble_eq_true rfl) dl_4 ⟨Nat.le_of_ble_eq_true rfl, Nat.le_of_ble_eq_true rfl⟩ (fun u1 H locs hP hD hS => ?_)
  have hP : va_P D cx_cl (nv_F ca q1 u1) H := hP
  have hD : va_D A (nv_F ca q1 u1) := hD
  refine W.widen (k := 56) (n := 825) (Nat.le_of_ble_eq_true rfl) (Nat.le_of_ble_eq_true rfl) ?_
  refine lv_astore_n (lv' := [(1, .ref q1), (0, .ref b)]) hx hb dl_7 rfl hl (by decide) rfl (fun ls hl => ?_)
  refine va_new (D := D) (ci := 5) (fs := [.null, .null, .null, .int 0, .long 0, .long 0, .null, .int 0, .int 0, .int 0, .null, .null, .int 0, .null, .long 0]) (C := nm_R5) (T := nm_T5) (N := 15) hx hb hts cx_in5 (cx_ty 5) (cx_clTy (ci := 5) rfl) hown (hts (.classLink R_law 10 nm_R5) (cx_mem 750 (by decide +kernel) (by decide +kernel))) (hts (.instantiable nm_R5 15) (cx_mem 751 (by decide +kernel) (by decide +kernel))) (hts (.initialized nm_R5) (cx_mem 63 (by decide +kernel) (by decide +kernel))) hK hP hD hS hA rfl (fun j hj => by rcases (show j = 0 ∨ j = 1 ∨ j = 2 ∨ j = 3 ∨ j = 4 ∨ j = 5 ∨ j = 6 ∨ j = 7 ∨ j = 8 ∨ j = 9 ∨ j = 10 ∨ j = 11 ∨ j = 12 ∨ j = 13 ∨ j = 14 by omega) with rfl | rfl | rfl | rfl | rfl | rfl | rfl | rfl | rfl | rfl | rfl | rfl | rfl | rfl | rfl <;> rfl) (Nat.le_of_ble_eq_true rfl) (Nat.le_of_ble_eq_true rfl) dl_8 (fun q2 H hP hD hS => ?_)
  refine W.widen (k := 57) (n := 840) (Nat.le_of_ble_eq_true rfl) (Nat.le_of_ble_eq_true rfl) ?_
  refine lv_dup hx hb dl_11 rfl ?_
  refine nv_callI (wr := nv_F ca q1 u1) hx hb hml hown hts (nc_M l D ca q2) rfl ⟨by decide +kernel, by decide +kernel, by decide +kernel⟩ (cx_mem 754 (by decide +kernel) (by decide +kernel)) (cx_mem 63 (by decide +kernel) (by decide +kernel)) (cx_mem 753 (by decide +kernel) (by decide +kernel)) (cx_mem 752 (by decide +kernel) (by decide +kernel)) ⟨rfl, rfl⟩ ⟨Nat.le_of_ble_eq_true rfl, Nat.le_of_ble_eq_true rfl⟩ hK hNN hP hD hS hA 56 [0, 1, 2, 3, 4, 5, 6, 7, 8, 9, 10, 11, 12, 13, 14, 15, 16, 17, 18, 19, 20, 21, 22, 23, 24, 25, 26, 27, 28, 29, 30, 31, 32, 33, 34, 35, 36, 37, 38, 39, 40, 41, 42, 43, 44, 45, 46, 47, 48, 49, 50, 51, 52, 53, 54, 55] rfl rfl (by decide) (by decide) hl.1 (Nat.le_of_ble_eq_true rfl) dl_12 ⟨Nat.le_of_ble_eq_true rfl, Nat.le_of_ble_eq_true rfl⟩ (fun u2 H locs hP hD hS => ?_)
  have hP : va_P D cx_cl (nv_F ca q1 u1 ++ nv_M ca q2 u2) H := hP
  have hD : va_D A (nv_F ca q1 u1 ++ nv_M ca q2 u2) := hD
  refine W.widen (k := 64) (n := 1649) (Nat.le_of_ble_eq_true rfl) (Nat.le_of_ble_eq_true rfl) ?_
  refine lv_astore_n (lv' := [(2, .ref q2), (1, .ref q1), (0, .ref b)]) hx hb dl_15 rfl hl (by decide) rfl (fun ls hl => ?_)
  refine lv_iconst (v := 0) hx hb dl_16 (by decide) ?_
  refine lv_istore_n (lv' := [(3, .int 0), (2, .ref q2), (1, .ref q1), (0, .ref b)]) hx hb dl_17 rfl hl (by decide) rfl (fun ls hl => ?_)
  have inj := nv_inj hD
  have hP0 : va_P D cx_cl (cx_w (nv_g q1 u1 q2 u2 inj adK adV D ca fv) z0) H := nv_world inj hP
  have X : cx_X (nv_g q1 u1 q2 u2 inj adK adV D ca fv) p room_1 s m #[Value.ref b] c A code 4 11 "FoxGeeseLaw" 64 1649 := by
    refine ⟨hx, hb, hml, hown, hts, ⟨hK, hSt, hZ1, hZ2, hR, va_Nw.of rfl (hts0 cx_nest1 (List.mem_of_getElem? (i := 422) (by decide +kernel))), va_Nw.of rfl (hts0 cx_nest2 (List.mem_of_getElem? (i := 434) (by decide +kernel))), hcat⟩, fun k hk => ?_, ⟨Nat.le_of_ble_eq_true rfl, Nat.le_of_ble_eq_true rfl⟩, ⟨Nat.le_of_ble_eq_true rfl, Nat.le_of_ble_eq_true rfl⟩⟩
    obtain ⟨E, hE⟩ := nv_at (ca := ca) (q1 := q1) (q2 := q2) (u1 := u1) (u2 := u2) k hk
    rw [cx_adlt hk]
    exact hD.2 k _ hE
  exact law_loop hL hr hlocks X hX hbl hbA hAs (L + 1) 0 (Nat.zero_le L) (by omega) z0 zS0 H _ z0_F z0_M z0_V hP0 hS ls (lv_sub hl [3, 2, 1, 0] rfl)
