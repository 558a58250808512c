theorem di_Ti_0 : decode prog_6_method_1_code 0 = .ok (.aload_n 0, 1) := by decide +kernel
theorem di_Ti_1 : decode prog_6_method_1_code 1 = .ok (.invokespecial 3, 3) := by decide +kernel
theorem di_Ti_4 : decode prog_6_method_1_code 4 = .ok (.aload_n 0, 1) := by decide +kernel
theorem di_Ti_5 : decode prog_6_method_1_code 5 = .ok (.bipush 30, 2) := by decide +kernel
theorem di_Ti_7 : decode prog_6_method_1_code 7 = .ok (.newarray .int, 2) := by decide +kernel
theorem di_Ti_9 : decode prog_6_method_1_code 9 = .ok (.putfield 9, 3) := by decide +kernel
theorem di_Ti_12 : decode prog_6_method_1_code 12 = .ok (.return_, 1) := by decide +kernel
set_option maxHeartbeats 4000000 in
set_option maxRecDepth 100000 in
theorem nc_T (l : Launch) (D : va_G) (ca : Nat → ClassId) (h0 : Nat) : nv_Met l D ca (⟨"FoxGeese$Told", "<init>", "()V"⟩, prog_6_method_1_code, 1, none) ({ frames := 1, cells := 1, slots := 30, locals := 12 } : Room) 1 30 [.ref h0] [(h0, .inr (2, [.int 0, .null]))] (fun u => nv_T ca h0 u) := by
  intro sz
  refine va_MetF (cc := prog_6_method_1_code) (maxL := 1) (ret := none) (by decide +kernel) rfl ?_
  intro p e s m args below meth c s₁ B hml hv
  obtain ⟨rfl, hsz, hP, hK, hD0, hNN⟩ := hv
  have hx := B.exec
  have hb := B.bytes
  have hr := B.returns
  have hts0 := atoms_spec (ws := Cond.code ⟨"FoxGeese$Told", "<init>", "()V"⟩ prog_6_method_1_code 1 none :: cx_WS) B.pre
  have hts : ∀ w ∈ cx_WS, w.before [.ref h0].toArray s = true := fun w hw => hts0 w (List.mem_cons_of_mem _ hw)
  have hown : s.vm.findClass "FoxGeese$Told" = some m.cls := findClass_of_methodNamed B.named
  have hlocks := B.notSynchronized
  have hin : meth.name = "<init>" := (name_of_methodNamed B.named B.method).1
  subst hsz
  have hD := hD0.self (sz := s.heap.size)
  generalize hAe : va_A [(h0, .inr (2, [.int 0, .null]))] s.heap.size = A at hD ⊢
  have hA : ∀ q : Nat, s.heap.size ≤ q → A q := fun q h => by rw [← hAe]; exact Or.inr h
  have hS : va_S A s.heap s.heap [] := va_S.rf
  have hl := lv_entry [.ref h0] (n := 1) (Nat.le_of_ble_eq_true rfl)
  rw [lg_entry_eq]
  generalize (lg_sl [.ref h0] ++ List.replicate (1 - (lg_sl [.ref h0]).length) Slot.unset).toArray = ls at hl ⊢
  have hl : lv_has ls 1 [(0, .ref h0)] := hl
  refine lv_aload_n hx hb di_Ti_0 rfl (lv_at hl 0 rfl) ?_
  refine W.objInit hx hb hown (hts (.methodLink "FoxGeese$Told" 3 objectInit) (cx_mem 150 (by decide +kernel) (by decide +kernel))) (hts (.instanceMethod objectInit) (cx_mem 78 (by decide +kernel) (by decide +kernel))) (hts (.code objectInit ⟨#[0xb1]⟩ 1 none) (cx_mem 79 (by decide +kernel) (by decide +kernel))) rfl (by rw [hml]; exact hl.1) rfl di_Ti_1 (Nat.le_of_ble_eq_true rfl) (Nat.le_of_ble_eq_true rfl) ?_
  refine W.eq (g2 := F0 m 4 ls []) rfl ?_
  refine lv_aload_n hx hb di_Ti_4 rfl (lv_at hl 0 rfl) ?_
  refine lv_bipush (v := 30) hx hb di_Ti_5 (by decide) ?_
  refine nv_newa (D := D) (N' := 30) (a0 := (30, .inl fun _ => 0)) hx hb (atype := .int) (hts (.arrayClass .int) (cx_mem 144 (by decide +kernel) (by decide +kernel))) rfl hK 0 rfl hP hD hS hA (fun _ => rfl) (by decide) (by decide) (by decide) (Nat.le_of_ble_eq_true rfl) (Nat.le_of_ble_eq_true rfl) di_Ti_7 (fun q1 H hP hD hS => ?_)
  have hP : va_P D cx_cl [(h0, .inr (2, [.int 0, .null])), (q1, nv_i ca 30)] H := hP
  have hD : va_D A [(h0, .inr (2, [.int 0, .null])), (q1, nv_i ca 30)] := hD
  refine W.widen (k := 1) (n := 30) (Nat.le_of_ble_eq_true rfl) (Nat.le_of_ble_eq_true rfl) ?_
  refine va_putF (D := D) (ci := 2) (v := .ref q1) (ty := .array .int) (C := nm_R2) (T := nm_T2) (N := 2) hx hb hts cx_in2 (cx_ty 2) (cx_clTy (ci := 2) rfl) (cx_clNm (ci := 2) rfl) hown hK hP hD hS 0 rfl rfl 1 (by decide) (hts (.fieldLink "FoxGeese$Told" 9 "FoxGeese$Told" "rows" "[I") (cx_mem 154 (by decide +kernel) (by decide +kernel))) (fun _ h9 => h9) rfl hin rfl (by decide +kernel) rfl rfl (Nat.le_of_ble_eq_true rfl) di_Ti_9 (fun H locs hP hD hS => ?_)
  have hP : va_P D cx_cl [(h0, .inr (2, [.int 0, .ref q1])), (q1, nv_i ca 30)] H := hP
  have hD : va_D A [(h0, .inr (2, [.int 0, .ref q1])), (q1, nv_i ca 30)] := hD
  have hP9 := hP.sub (ws' := nv_T ca h0 (fun i => [q1].getD i 0)) [0, 1] rfl
  have hD9 := hD.sub (ws' := nv_T ca h0 (fun i => [q1].getD i 0)) [0, 1] (by decide) rfl
  exact W.vret hx hb hr (fun t ht hW => ⟨⟨(fun i => [q1].getD i 0), rfl, trivial, by rw [ht]; exact hP9, by rw [hAe]; exact hD9⟩, by rw [hAe]; exact hS.F ht⟩) hS.2.2 di_Ti_12 hlocks
theorem di_Bb_0 : decode prog_2_method_2_code 0 = .ok (.aload_n 0, 1) := by decide +kernel
theorem di_Bb_1 : decode prog_2_method_2_code 1 = .ok (.iload_n 1, 1) := by decide +kernel
theorem di_Bb_2 : decode prog_2_method_2_code 2 = .ok (.putfield 22, 3) := by decide +kernel
theorem di_Bb_5 : decode prog_2_method_2_code 5 = .ok (.aload_n 0, 1) := by decide +kernel
theorem di_Bb_6 : decode prog_2_method_2_code 6 = .ok (.iload_n 2, 1) := by decide +kernel
theorem di_Bb_7 : decode prog_2_method_2_code 7 = .ok (.putfield 26, 3) := by decide +kernel
theorem di_Bb_10 : decode prog_2_method_2_code 10 = .ok (.aload_n 0, 1) := by decide +kernel
theorem di_Bb_11 : decode prog_2_method_2_code 11 = .ok (.iconst 0, 1) := by decide +kernel
theorem di_Bb_12 : decode prog_2_method_2_code 12 = .ok (.putfield 29, 3) := by decide +kernel
theorem di_Bb_15 : decode prog_2_method_2_code 15 = .ok (.aload_n 0, 1) := by decide +kernel
theorem di_Bb_16 : decode prog_2_method_2_code 16 = .ok (.iconst 0, 1) := by decide +kernel
theorem di_Bb_17 : decode prog_2_method_2_code 17 = .ok (.putfield 32, 3) := by decide +kernel
theorem di_Bb_20 : decode prog_2_method_2_code 20 = .ok (.aload_n 0, 1) := by decide +kernel
theorem di_Bb_21 : decode prog_2_method_2_code 21 = .ok (.iload_n 1, 1) := by decide +kernel
theorem di_Bb_22 : decode prog_2_method_2_code 22 = .ok (.iload_n 2, 1) := by decide +kernel
theorem di_Bb_23 : decode prog_2_method_2_code 23 = .ok (.imul, 1) := by decide +kernel
theorem di_Bb_24 : decode prog_2_method_2_code 24 = .ok (.iconst 1, 1) := by decide +kernel
theorem di_Bb_25 : decode prog_2_method_2_code 25 = .ok (.isub, 1) := by decide +kernel
theorem di_Bb_26 : decode prog_2_method_2_code 26 = .ok (.putfield 35, 3) := by decide +kernel
theorem di_Bb_29 : decode prog_2_method_2_code 29 = .ok (.aload_n 0, 1) := by decide +kernel
theorem di_Bb_30 : decode prog_2_method_2_code 30 = .ok (.iconst 0, 1) := by decide +kernel
theorem di_Bb_31 : decode prog_2_method_2_code 31 = .ok (.putfield 38, 3) := by decide +kernel
theorem di_Bb_34 : decode prog_2_method_2_code 34 = .ok (.aload_n 0, 1) := by decide +kernel
theorem di_Bb_35 : decode prog_2_method_2_code 35 = .ok (.iconst 0, 1) := by decide +kernel
theorem di_Bb_36 : decode prog_2_method_2_code 36 = .ok (.putfield 41, 3) := by decide +kernel
theorem di_Bb_39 : decode prog_2_method_2_code 39 = .ok (.aload_n 0, 1) := by decide +kernel
theorem di_Bb_40 : decode prog_2_method_2_code 40 = .ok (.iconst 0, 1) := by decide +kernel
theorem di_Bb_41 : decode prog_2_method_2_code 41 = .ok (.putfield 44, 3) := by decide +kernel
theorem di_Bb_44 : decode prog_2_method_2_code 44 = .ok (.return_, 1) := by decide +kernel
set_option maxHeartbeats 4000000 in
set_option maxRecDepth 100000 in
theorem nc_Bb (l : Launch) (D : va_G) (ca : Nat → ClassId) (h0 r1 r2 : Nat) : nv_Met l D ca (⟨"FoxGeese$Board", "begin", "(II)V"⟩, prog_2_method_2_code, 3, none) ({ frames := 0, cells := 0, slots := 0, locals := 0 } : Room) 0 0 [.ref h0, .int 5, .int 5] [(h0, .inr (0, [.int 0, .int 0, .int 0, .int 0, .int 0, .int 0, .int 0, .int 0, .ref r1, .ref r2]))] (fun u => [(h0, nv_b r1 r2)]) := by
  intro sz
  refine va_MetF (cc := prog_2_method_2_code) (maxL := 3) (ret := none) (by decide +kernel) rfl ?_
  intro p e s m args below meth c s₁ B hml hv
  obtain ⟨rfl, hsz, hP, hK, hD0, hNN⟩ := hv
  have hx := B.exec
  have hb := B.bytes
  have hr := B.returns
  have hts0 := atoms_spec (ws := Cond.code ⟨"FoxGeese$Board", "begin", "(II)V"⟩ prog_2_method_2_code 3 none :: cx_WS) B.pre
  have hts : ∀ w ∈ cx_WS, w.before [.ref h0, .int 5, .int 5].toArray s = true := fun w hw => hts0 w (List.mem_cons_of_mem _ hw)
  have hown : s.vm.findClass "FoxGeese$Board" = some m.cls := findClass_of_methodNamed B.named
  have hlocks := B.notSynchronized
  subst hsz
  have hD := hD0.self (sz := s.heap.size)
  generalize hAe : va_A [(h0, .inr (0, [.int 0, .int 0, .int 0, .int 0, .int 0, .int 0, .int 0, .int 0, .ref r1, .ref r2]))] s.heap.size = A at hD ⊢
  have hA : ∀ q : Nat, s.heap.size ≤ q → A q := fun q h => by rw [← hAe]; exact Or.inr h
  have hS : va_S A s.heap s.heap [] := va_S.rf
  have hl := lv_entry [.ref h0, .int 5, .int 5] (n := 3) (Nat.le_of_ble_eq_true rfl)
  rw [lg_entry_eq]
  generalize (lg_sl [.ref h0, .int 5, .int 5] ++ List.replicate (3 - (lg_sl [.ref h0, .int 5, .int 5]).length) Slot.unset).toArray = ls at hl ⊢
  have hl : lv_has ls 3 [(0, .ref h0), (1, .int 5), (2, .int 5)] := hl
  refine lv_aload_n hx hb di_Bb_0 rfl (lv_at hl 0 rfl) ?_
  refine lv_iload_n hx hb di_Bb_1 rfl (lv_at hl 1 rfl) ?_
  refine va_put (D := D) (ci := 0) (v := .int 5) (ty := .int) (C := nm_R0) (T := nm_T0) (N := 10) hx hb hts cx_in0 (cx_ty 0) (cx_clTy (ci := 0) rfl) (cx_clNm (ci := 0) rfl) hown hK hP hD hS 0 rfl rfl 0 (by decide) (hts (.fieldLink "FoxGeese$Board" 22 "FoxGeese$Board" "width" "I") (cx_mem 96 (by decide +kernel) (by decide +kernel))) (fun _ h9 => h9) rfl (by decide +kernel) rfl rfl (Nat.le_of_ble_eq_true rfl) di_Bb_2 (fun H locs hP hD hS => ?_)
  have hP : va_P D cx_cl [(h0, .inr (0, [.int 5, .int 0, .int 0, .int 0, .int 0, .int 0, .int 0, .int 0, .ref r1, .ref r2]))] H := hP
  have hD : va_D A [(h0, .inr (0, [.int 5, .int 0, .int 0, .int 0, .int 0, .int 0, .int 0, .int 0, .ref r1, .ref r2]))] := hD
  refine lv_aload_n hx hb di_Bb_5 rfl (lv_at hl 0 rfl) ?_
  refine lv_iload_n hx hb di_Bb_6 rfl (lv_at hl 2 rfl) ?_
  refine va_put (D := D) (ci := 0) (v := .int 5) (ty := .int) (C := nm_R0) (T := nm_T0) (N := 10) hx hb hts cx_in0 (cx_ty 0) (cx_clTy (ci := 0) rfl) (cx_clNm (ci := 0) rfl) hown hK hP hD hS 0 rfl rfl 1 (by decide) (hts (.fieldLink "FoxGeese$Board" 26 "FoxGeese$Board" "height" "I") (cx_mem 98 (by decide +kernel) (by decide +kernel))) (fun _ h9 => h9) rfl (by decide +kernel) rfl rfl (Nat.le_of_ble_eq_true rfl) di_Bb_7 (fun H locs hP hD hS => ?_)
  have hP : va_P D cx_cl [(h0, .inr (0, [.int 5, .int 5, .int 0, .int 0, .int 0, .int 0, .int 0, .int 0, .ref r1, .ref r2]))] H := hP
  have hD : va_D A [(h0, .inr (0, [.int 5, .int 5, .int 0, .int 0, .int 0, .int 0, .int 0, .int 0, .ref r1, .ref r2]))] := hD
  refine lv_aload_n hx hb di_Bb_10 rfl (lv_at hl 0 rfl) ?_
  refine lv_iconst (v := 0) hx hb di_Bb_11 (by decide) ?_
  refine va_put (D := D) (ci := 0) (v := .int 0) (ty := .int) (C := nm_R0) (T := nm_T0) (N := 10) hx hb hts cx_in0 (cx_ty 0) (cx_clTy (ci := 0) rfl) (cx_clNm (ci := 0) rfl) hown hK hP hD hS 0 rfl rfl 2 (by decide) (hts (.fieldLink "FoxGeese$Board" 29 "FoxGeese$Board" "thickets" "I") (cx_mem 100 (by decide +kernel) (by decide +kernel))) (fun _ h9 => h9) rfl (by decide +kernel) rfl rfl (Nat.le_of_ble_eq_true rfl) di_Bb_12 (fun H locs hP hD hS => ?_)
  have hP : va_P D cx_cl [(h0, .inr (0, [.int 5, .int 5, .int 0, .int 0, .int 0, .int 0, .int 0, .int 0, .ref r1, .ref r2]))] H := hP
  have hD : va_D A [(h0, .inr (0, [.int 5, .int 5, .int 0, .int 0, .int 0, .int 0, .int 0, .int 0, .ref r1, .ref r2]))] := hD
  refine lv_aload_n hx hb di_Bb_15 rfl (lv_at hl 0 rfl) ?_
  refine lv_iconst (v := 0) hx hb di_Bb_16 (by decide) ?_
  refine va_put (D := D) (ci := 0) (v := .int 0) (ty := .int) (C := nm_R0) (T := nm_T0) (N := 10) hx hb hts cx_in0 (cx_ty 0) (cx_clTy (ci := 0) rfl) (cx_clNm (ci := 0) rfl) hown hK hP hD hS 0 rfl rfl 3 (by decide) (hts (.fieldLink "FoxGeese$Board" 32 "FoxGeese$Board" "foxKind" "I") (cx_mem 103 (by decide +kernel) (by decide +kernel))) (fun _ h9 => h9) rfl (by decide +kernel) rfl rfl (Nat.le_of_ble_eq_true rfl) di_Bb_17 (fun H locs hP hD hS => ?_)
  have hP : va_P D cx_cl [(h0, .inr (0, [.int 5, .int 5, .int 0, .int 0, .int 0, .int 0, .int 0, .int 0, .ref r1, .ref r2]))] H := hP
  have hD : va_D A [(h0, .inr (0, [.int 5, .int 5, .int 0, .int 0, .int 0, .int 0, .int 0, .int 0, .ref r1, .ref r2]))] := hD
  refine lv_aload_n hx hb di_Bb_20 rfl (lv_at hl 0 rfl) ?_
  refine lv_iload_n hx hb di_Bb_21 rfl (lv_at hl 1 rfl) ?_
  refine lv_iload_n hx hb di_Bb_22 rfl (lv_at hl 2 rfl) ?_
  refine lv_imul hx hb di_Bb_23 ?_
  refine lv_topi (fun v23 ev23 => ?_)
  obtain rfl : v23 = 25 := ev23.trans (by decide)
  refine lv_iconst (v := 1) hx hb di_Bb_24 (by decide) ?_
  refine lv_isub hx hb di_Bb_25 ?_
  refine lv_topi (fun v25 ev25 => ?_)
  obtain rfl : v25 = 24 := ev25.trans (by decide)
  refine va_put (D := D) (ci := 0) (v := .int 24) (ty := .int) (C := nm_R0) (T := nm_T0) (N := 10) hx hb hts cx_in0 (cx_ty 0) (cx_clTy (ci := 0) rfl) (cx_clNm (ci := 0) rfl) hown hK hP hD hS 0 rfl rfl 4 (by decide) (hts (.fieldLink "FoxGeese$Board" 35 "FoxGeese$Board" "foxCell" "I") (cx_mem 106 (by decide +kernel) (by decide +kernel))) (fun _ h9 => h9) rfl (by decide +kernel) rfl rfl (Nat.le_of_ble_eq_true rfl) di_Bb_26 (fun H locs hP hD hS => ?_)
  have hP : va_P D cx_cl [(h0, .inr (0, [.int 5, .int 5, .int 0, .int 0, .int 24, .int 0, .int 0, .int 0, .ref r1, .ref r2]))] H := hP
  have hD : va_D A [(h0, .inr (0, [.int 5, .int 5, .int 0, .int 0, .int 24, .int 0, .int 0, .int 0, .ref r1, .ref r2]))] := hD
  refine lv_aload_n hx hb di_Bb_29 rfl (lv_at hl 0 rfl) ?_
  refine lv_iconst (v := 0) hx hb di_Bb_30 (by decide) ?_
  refine va_put (D := D) (ci := 0) (v := .int 0) (ty := .int) (C := nm_R0) (T := nm_T0) (N := 10) hx hb hts cx_in0 (cx_ty 0) (cx_clTy (ci := 0) rfl) (cx_clNm (ci := 0) rfl) hown hK hP hD hS 0 rfl rfl 5 (by decide) (hts (.fieldLink "FoxGeese$Board" 38 "FoxGeese$Board" "geese" "I") (cx_mem 110 (by decide +kernel) (by decide +kernel))) (fun _ h9 => h9) rfl (by decide +kernel) rfl rfl (Nat.le_of_ble_eq_true rfl) di_Bb_31 (fun H locs hP hD hS => ?_)
  have hP : va_P D cx_cl [(h0, .inr (0, [.int 5, .int 5, .int 0, .int 0, .int 24, .int 0, .int 0, .int 0, .ref r1, .ref r2]))] H := hP
  have hD : va_D A [(h0, .inr (0, [.int 5, .int 5, .int 0, .int 0, .int 24, .int 0, .int 0, .int 0, .ref r1, .ref r2]))] := hD
  refine lv_aload_n hx hb di_Bb_34 rfl (lv_at hl 0 rfl) ?_
  refine lv_iconst (v := 0) hx hb di_Bb_35 (by decide) ?_
  refine va_put (D := D) (ci := 0) (v := .int 0) (ty := .int) (C := nm_R0) (T := nm_T0) (N := 10) hx hb hts cx_in0 (cx_ty 0) (cx_clTy (ci := 0) rfl) (cx_clNm (ci := 0) rfl) hown hK hP hD hS 0 rfl rfl 6 (by decide) (hts (.fieldLink "FoxGeese$Board" 41 "FoxGeese$Board" "turn" "I") (cx_mem 113 (by decide +kernel) (by decide +kernel))) (fun _ h9 => h9) rfl (by decide +kernel) rfl rfl (Nat.le_of_ble_eq_true rfl) di_Bb_36 (fun H locs hP hD hS => ?_)
  have hP : va_P D cx_cl [(h0, .inr (0, [.int 5, .int 5, .int 0, .int 0, .int 24, .int 0, .int 0, .int 0, .ref r1, .ref r2]))] H := hP
  have hD : va_D A [(h0, .inr (0, [.int 5, .int 5, .int 0, .int 0, .int 24, .int 0, .int 0, .int 0, .ref r1, .ref r2]))] := hD
  refine lv_aload_n hx hb di_Bb_39 rfl (lv_at hl 0 rfl) ?_
  refine lv_iconst (v := 0) hx hb di_Bb_40 (by decide) ?_
  refine va_put (D := D) (ci := 0) (v := .int 0) (ty := .int) (C := nm_R0) (T := nm_T0) (N := 10) hx hb hts cx_in0 (cx_ty 0) (cx_clTy (ci := 0) rfl) (cx_clNm (ci := 0) rfl) hown hK hP hD hS 0 rfl rfl 7 (by decide) (hts (.fieldLink "FoxGeese$Board" 44 "FoxGeese$Board" "movesDone" "I") (cx_mem 116 (by decide +kernel) (by decide +kernel))) (fun _ h9 => h9) rfl (by decide +kernel) rfl rfl (Nat.le_of_ble_eq_true rfl) di_Bb_41 (fun H locs hP hD hS => ?_)
  have hP : va_P D cx_cl [(h0, .inr (0, [.int 5, .int 5, .int 0, .int 0, .int 24, .int 0, .int 0, .int 0, .ref r1, .ref r2]))] H := hP
  have hD : va_D A [(h0, .inr (0, [.int 5, .int 5, .int 0, .int 0, .int 24, .int 0, .int 0, .int 0, .ref r1, .ref r2]))] := hD
  have hP9 := hP.sub (ws' := [(h0, nv_b r1 r2)]) [0] rfl
  have hD9 := hD.sub (ws' := [(h0, nv_b r1 r2)]) [0] (by decide) rfl
  exact W.vret hx hb hr (fun t ht hW => ⟨⟨(fun _ => 0), rfl, trivial, by rw [ht]; exact hP9, by rw [hAe]; exact hD9⟩, by rw [hAe]; exact hS.F ht⟩) hS.2.2 di_Bb_44 hlocks
theorem di_Bi_0 : decode prog_2_method_1_code 0 = .ok (.aload_n 0, 1) := by decide +kernel
theorem di_Bi_1 : decode prog_2_method_1_code 1 = .ok (.invokespecial 3, 3) := by decide +kernel
theorem di_Bi_4 : decode prog_2_method_1_code 4 = .ok (.aload_n 0, 1) := by decide +kernel
theorem di_Bi_5 : decode prog_2_method_1_code 5 = .ok (.iconst 4, 1) := by decide +kernel
theorem di_Bi_6 : decode prog_2_method_1_code 6 = .ok (.newarray .int, 2) := by decide +kernel
theorem di_Bi_8 : decode prog_2_method_1_code 8 = .ok (.putfield 9, 3) := by decide +kernel
theorem di_Bi_11 : decode prog_2_method_1_code 11 = .ok (.aload_n 0, 1) := by decide +kernel
theorem di_Bi_12 : decode prog_2_method_1_code 12 = .ok (.iconst 4, 1) := by decide +kernel
theorem di_Bi_13 : decode prog_2_method_1_code 13 = .ok (.newarray .int, 2) := by decide +kernel
theorem di_Bi_15 : decode prog_2_method_1_code 15 = .ok (.putfield 15, 3) := by decide +kernel
theorem di_Bi_18 : decode prog_2_method_1_code 18 = .ok (.aload_n 0, 1) := by decide +kernel
theorem di_Bi_19 : decode prog_2_method_1_code 19 = .ok (.iconst 5, 1) := by decide +kernel
theorem di_Bi_20 : decode prog_2_method_1_code 20 = .ok (.iconst 5, 1) := by decide +kernel
theorem di_Bi_21 : decode prog_2_method_1_code 21 = .ok (.invokevirtual 18, 3) := by decide +kernel
theorem di_Bi_24 : decode prog_2_method_1_code 24 = .ok (.return_, 1) := by decide +kernel
set_option maxHeartbeats 4000000 in
set_option maxRecDepth 100000 in
theorem nc_B (l : Launch) (D : va_G) (ca : Nat → ClassId) (h0 : Nat) : nv_Met l D ca (⟨"FoxGeese$Board", "<init>", "()V"⟩, prog_2_method_1_code, 1, none) ({ frames := 1, cells := 2, slots := 8, locals := 22 } : Room) 2 8 [.ref h0] [(h0, .inr (0, [.int 0, .int 0, .int 0, .int 0, .int 0, .int 0, .int 0, .int 0, .null, .null]))] (fun u => nv_B ca h0 u) := by
  intro sz
  refine va_MetF (cc := prog_2_method_1_code) (maxL := 1) (ret := none) (by decide +kernel) rfl ?_
  intro p e s m args below meth c s₁ B hml hv
  obtain ⟨rfl, hsz, hP, hK, hD0, hNN⟩ := hv
  have hx := B.exec
  have hb := B.bytes
  have hr := B.returns
  have hts0 := atoms_spec (ws := Cond.code ⟨"FoxGeese$Board", "<init>", "()V"⟩ prog_2_method_1_code 1 none :: cx_WS) B.pre
  have hts : ∀ w ∈ cx_WS, w.before [.ref h0].toArray s = true := fun w hw => hts0 w (List.mem_cons_of_mem _ hw)
  have hown : s.vm.findClass "FoxGeese$Board" = some m.cls := findClass_of_methodNamed B.named
  have hlocks := B.notSynchronized
  have hin : meth.name = "<init>" := (name_of_methodNamed B.named B.method).1
  subst hsz
  have hD := hD0.self (sz := s.heap.size)
  generalize hAe : va_A [(h0, .inr (0, [.int 0, .int 0, .int 0, .int 0, .int 0, .int 0, .int 0, .int 0, .null, .null]))] s.heap.size = A at hD ⊢
  have hA : ∀ q : Nat, s.heap.size ≤ q → A q := fun q h => by rw [← hAe]; exact Or.inr h
  have hS : va_S A s.heap s.heap [] := va_S.rf
  have hl := lv_entry [.ref h0] (n := 1) (Nat.le_of_ble_eq_true rfl)
  rw [lg_entry_eq]
  generalize (lg_sl [.ref h0] ++ List.replicate (1 - (lg_sl [.ref h0]).length) Slot.unset).toArray = ls at hl ⊢
  have hl : lv_has ls 1 [(0, .ref h0)] := hl
  refine lv_aload_n hx hb di_Bi_0 rfl (lv_at hl 0 rfl) ?_
  refine W.objInit hx hb hown (hts (.methodLink "FoxGeese$Board" 3 objectInit) (cx_mem 91 (by decide +kernel) (by decide +kernel))) (hts (.instanceMethod objectInit) (cx_mem 78 (by decide +kernel) (by decide +kernel))) (hts (.code objectInit ⟨#[0xb1]⟩ 1 none) (cx_mem 79 (by decide +kernel) (by decide +kernel))) rfl (by rw [hml]; exact hl.1) rfl di_Bi_1 (Nat.le_of_ble_eq_true rfl) (Nat.le_of_ble_eq_true rfl) ?_
  refine W.eq (g2 := F0 m 4 ls []) rfl ?_
  refine lv_aload_n hx hb di_Bi_4 rfl (lv_at hl 0 rfl) ?_
  refine lv_iconst (v := 4) hx hb di_Bi_5 (by decide) ?_
  refine nv_newa (D := D) (N' := 4) (a0 := (4, .inl fun _ => 0)) hx hb (atype := .int) (hts (.arrayClass .int) (cx_mem 144 (by decide +kernel) (by decide +kernel))) rfl hK 0 rfl hP hD hS hA (fun _ => rfl) (by decide) (by decide) (by decide) (Nat.le_of_ble_eq_true rfl) (Nat.le_of_ble_eq_true rfl) di_Bi_6 (fun q1 H hP hD hS => ?_)
  have hP : va_P D cx_cl [(h0, .inr (0, [.int 0, .int 0, .int 0, .int 0, .int 0, .int 0, .int 0, .int 0, .null, .null])), (q1, nv_i ca 4)] H := hP
  have hD : va_D A [(h0, .inr (0, [.int 0, .int 0, .int 0, .int 0, .int 0, .int 0, .int 0, .int 0, .null, .null])), (q1, nv_i ca 4)] := hD
  refine W.widen (k := 1) (n := 4) (Nat.le_of_ble_eq_true rfl) (Nat.le_of_ble_eq_true rfl) ?_
  refine va_putF (D := D) (ci := 0) (v := .ref q1) (ty := .array .int) (C := nm_R0) (T := nm_T0) (N := 10) hx hb hts cx_in0 (cx_ty 0) (cx_clTy (ci := 0) rfl) (cx_clNm (ci := 0) rfl) hown hK hP hD hS 0 rfl rfl 8 (by decide) (hts (.fieldLink "FoxGeese$Board" 9 "FoxGeese$Board" "gooseKind" "[I") (cx_mem 119 (by decide +kernel) (by decide +kernel))) (fun _ h9 => h9) rfl hin rfl (by decide +kernel) rfl rfl (Nat.le_of_ble_eq_true rfl) di_Bi_8 (fun H locs hP hD hS => ?_)
  have hP : va_P D cx_cl [(h0, .inr (0, [.int 0, .int 0, .int 0, .int 0, .int 0, .int 0, .int 0, .int 0, .ref q1, .null])), (q1, nv_i ca 4)] H := hP
  have hD : va_D A [(h0, .inr (0, [.int 0, .int 0, .int 0, .int 0, .int 0, .int 0, .int 0, .int 0, .ref q1, .null])), (q1, nv_i ca 4)] := hD
  refine lv_aload_n hx hb di_Bi_11 rfl (lv_at hl 0 rfl) ?_
  refine lv_iconst (v := 4) hx hb di_Bi_12 (by decide) ?_
  refine nv_newa (D := D) (N' := 4) (a0 := (4, .inl fun _ => 0)) hx hb (atype := .int) (hts (.arrayClass .int) (cx_mem 144 (by decide +kernel) (by decide +kernel))) rfl hK 0 rfl hP hD hS hA (fun _ => rfl) (by decide) (by decide) (by decide) (Nat.le_of_ble_eq_true rfl) (Nat.le_of_ble_eq_true rfl) di_Bi_13 (fun q2 H hP hD hS => ?_)
  have hP : va_P D cx_cl [(h0, .inr (0, [.int 0, .int 0, .int 0, .int 0, .int 0, .int 0, .int 0, .int 0, .ref q1, .null])), (q1, nv_i ca 4), (q2, nv_i ca 4)] H := hP
  have hD : va_D A [(h0, .inr (0, [.int 0, .int 0, .int 0, .int 0, .int 0, .int 0, .int 0, .int 0, .ref q1, .null])), (q1, nv_i ca 4), (q2, nv_i ca 4)] := hD
  refine W.widen (k := 2) (n := 8) (Nat.le_of_ble_eq_true rfl) (Nat.le_of_ble_eq_true rfl) ?_
  refine va_putF (D := D) (ci := 0) (v := .ref q2) (ty := .array .int) (C := nm_R0) (T := nm_T0) (N := 10) hx hb hts cx_in0 (cx_ty 0) (cx_clTy (ci := 0) rfl) (cx_clNm (ci := 0) rfl) hown hK hP hD hS 0 rfl rfl 9 (by decide) (hts (.fieldLink "FoxGeese$Board" 15 "FoxGeese$Board" "gooseCell" "[I") (cx_mem 121 (by decide +kernel) (by decide +kernel))) (fun _ h9 => h9) rfl hin rfl (by decide +kernel) rfl rfl (Nat.le_of_ble_eq_true rfl) di_Bi_15 (fun H locs hP hD hS => ?_)
  have hP : va_P D cx_cl [(h0, .inr (0, [.int 0, .int 0, .int 0, .int 0, .int 0, .int 0, .int 0, .int 0, .ref q1, .ref q2])), (q1, nv_i ca 4), (q2, nv_i ca 4)] H := hP
  have hD : va_D A [(h0, .inr (0, [.int 0, .int 0, .int 0, .int 0, .int 0, .int 0, .int 0, .int 0, .ref q1, .ref q2])), (q1, nv_i ca 4), (q2, nv_i ca 4)] := hD
  refine lv_aload_n hx hb di_Bi_18 rfl (lv_at hl 0 rfl) ?_
  refine lv_iconst (v := 5) hx hb di_Bi_19 (by decide) ?_
  refine lv_iconst (v := 5) hx hb di_Bi_20 (by decide) ?_
  refine nv_callV (r := (nm_R0, nm_T0, 10)) (wr := [(q1, nv_i ca 4), (q2, nv_i ca 4)]) hx hb hml hown hts rfl (nc_Bb l D ca h0 q1 q2) ⟨by decide +kernel, by decide +kernel, by decide +kernel⟩ (cx_mem 95 (by decide +kernel) (by decide +kernel)) (cx_mem 60 (by decide +kernel) (by decide +kernel)) (cx_mem 93 (by decide +kernel) (by decide +kernel)) (cx_mem 94 (by decide +kernel) (by decide +kernel)) (cx_mem 92 (by decide +kernel) (by decide +kernel)) ⟨rfl, rfl⟩ ⟨Nat.le_of_ble_eq_true rfl, Nat.le_of_ble_eq_true rfl⟩ hK hNN hP hD hS hA 0 [1, 2] rfl rfl (by decide) (by decide) hl.1 (Nat.le_of_ble_eq_true rfl) di_Bi_21 ⟨Nat.le_of_ble_eq_true rfl, Nat.le_of_ble_eq_true rfl⟩ (fun u1 H locs hP hD hS => ?_)
  have hP : va_P D cx_cl [(q1, nv_i ca 4), (q2, nv_i ca 4), (h0, .inr (0, [.int 5, .int 5, .int 0, .int 0, .int 24, .int 0, .int 0, .int 0, .ref q1, .ref q2]))] H := hP
  have hD : va_D A [(q1, nv_i ca 4), (q2, nv_i ca 4), (h0, .inr (0, [.int 5, .int 5, .int 0, .int 0, .int 24, .int 0, .int 0, .int 0, .ref q1, .ref q2]))] := hD
  refine W.widen (k := 2) (n := 8) (Nat.le_of_ble_eq_true rfl) (Nat.le_of_ble_eq_true rfl) ?_
  have hP9 := hP.sub (ws' := nv_B ca h0 (fun i => [q1, q2].getD i 0)) [2, 0, 1] rfl
  have hD9 := hD.sub (ws' := nv_B ca h0 (fun i => [q1, q2].getD i 0)) [2, 0, 1] (by decide) rfl
  exact W.vret hx hb hr (fun t ht hW => ⟨⟨(fun i => [q1, q2].getD i 0), rfl, trivial, by rw [ht]; exact hP9, by rw [hAe]; exact hD9⟩, by rw [hAe]; exact hS.F ht⟩) hS.2.2 di_Bi_24 hlocks
theorem di_Gi_0 : decode prog_3_method_1_code 0 = .ok (.aload_n 0, 1) := by decide +kernel
theorem di_Gi_1 : decode prog_3_method_1_code 1 = .ok (.invokespecial 3, 3) := by decide +kernel
theorem di_Gi_4 : decode prog_3_method_1_code 4 = .ok (.aload_n 0, 1) := by decide +kernel
theorem di_Gi_5 : decode prog_3_method_1_code 5 = .ok (.new 9, 3) := by decide +kernel
theorem di_Gi_8 : decode prog_3_method_1_code 8 = .ok (.dup, 1) := by decide +kernel
theorem di_Gi_9 : decode prog_3_method_1_code 9 = .ok (.invokespecial 11, 3) := by decide +kernel
theorem di_Gi_12 : decode prog_3_method_1_code 12 = .ok (.putfield 12, 3) := by decide +kernel
theorem di_Gi_15 : decode prog_3_method_1_code 15 = .ok (.aload_n 0, 1) := by decide +kernel
theorem di_Gi_16 : decode prog_3_method_1_code 16 = .ok (.new 18, 3) := by decide +kernel
theorem di_Gi_19 : decode prog_3_method_1_code 19 = .ok (.dup, 1) := by decide +kernel
theorem di_Gi_20 : decode prog_3_method_1_code 20 = .ok (.invokespecial 20, 3) := by decide +kernel
theorem di_Gi_23 : decode prog_3_method_1_code 23 = .ok (.putfield 21, 3) := by decide +kernel
theorem di_Gi_26 : decode prog_3_method_1_code 26 = .ok (.aload_n 0, 1) := by decide +kernel
theorem di_Gi_27 : decode prog_3_method_1_code 27 = .ok (.new 18, 3) := by decide +kernel
theorem di_Gi_30 : decode prog_3_method_1_code 30 = .ok (.dup, 1) := by decide +kernel
theorem di_Gi_31 : decode prog_3_method_1_code 31 = .ok (.invokespecial 20, 3) := by decide +kernel
theorem di_Gi_34 : decode prog_3_method_1_code 34 = .ok (.putfield 25, 3) := by decide +kernel
theorem di_Gi_37 : decode prog_3_method_1_code 37 = .ok (.aload_n 0, 1) := by decide +kernel
theorem di_Gi_38 : decode prog_3_method_1_code 38 = .ok (.bipush 56, 2) := by decide +kernel
theorem di_Gi_40 : decode prog_3_method_1_code 40 = .ok (.newarray .int, 2) := by decide +kernel
theorem di_Gi_42 : decode prog_3_method_1_code 42 = .ok (.putfield 28, 3) := by decide +kernel
theorem di_Gi_45 : decode prog_3_method_1_code 45 = .ok (.return_, 1) := by decide +kernel
set_option maxHeartbeats 4000000 in
set_option maxRecDepth 100000 in
theorem nc_G (l : Launch) (D : va_G) (ca : Nat → ClassId) (h0 : Nat) : nv_Met l D ca (⟨"FoxGeese$Game", "<init>", "()V"⟩, prog_3_method_1_code, 1, none) ({ frames := 2, cells := 8, slots := 138, locals := 60 } : Room) 8 138 [.ref h0] [(h0, .inr (1, [.null, .null, .null, .int 0, .null]))] (fun u => nv_G ca h0 u) := by
  intro sz
  refine va_MetF (cc := prog_3_method_1_code) (maxL := 1) (ret := none) (by decide +kernel) rfl ?_
  intro p e s m args below meth c s₁ B hml hv
  obtain ⟨rfl, hsz, hP, hK, hD0, hNN⟩ := hv
  have hx := B.exec
  have hb := B.bytes
  have hr := B.returns
  have hts0 := atoms_spec (ws := Cond.code ⟨"FoxGeese$Game", "<init>", "()V"⟩ prog_3_method_1_code 1 none :: cx_WS) B.pre
  have hts : ∀ w ∈ cx_WS, w.before [.ref h0].toArray s = true := fun w hw => hts0 w (List.mem_cons_of_mem _ hw)
  have hown : s.vm.findClass "FoxGeese$Game" = some m.cls := findClass_of_methodNamed B.named
  have hlocks := B.notSynchronized
  have hin : meth.name = "<init>" := (name_of_methodNamed B.named B.method).1
  subst hsz
  have hD := hD0.self (sz := s.heap.size)
  generalize hAe : va_A [(h0, .inr (1, [.null, .null, .null, .int 0, .null]))] s.heap.size = A at hD ⊢
  have hA : ∀ q : Nat, s.heap.size ≤ q → A q := fun q h => by rw [← hAe]; exact Or.inr h
  have hS : va_S A s.heap s.heap [] := va_S.rf
  have hl := lv_entry [.ref h0] (n := 1) (Nat.le_of_ble_eq_true rfl)
  rw [lg_entry_eq]
  generalize (lg_sl [.ref h0] ++ List.replicate (1 - (lg_sl [.ref h0]).length) Slot.unset).toArray = ls at hl ⊢
  have hl : lv_has ls 1 [(0, .ref h0)] := hl
  refine lv_aload_n hx hb di_Gi_0 rfl (lv_at hl 0 rfl) ?_
  refine W.objInit hx hb hown (hts (.methodLink "FoxGeese$Game" 3 objectInit) (cx_mem 85 (by decide +kernel) (by decide +kernel))) (hts (.instanceMethod objectInit) (cx_mem 78 (by decide +kernel) (by decide +kernel))) (hts (.code objectInit ⟨#[0xb1]⟩ 1 none) (cx_mem 79 (by decide +kernel) (by decide +kernel))) rfl (by rw [hml]; exact hl.1) rfl di_Gi_1 (Nat.le_of_ble_eq_true rfl) (Nat.le_of_ble_eq_true rfl) ?_
  refine W.eq (g2 := F0 m 4 ls []) rfl ?_
  refine lv_aload_n hx hb di_Gi_4 rfl (lv_at hl 0 rfl) ?_
  refine va_new (D := D) (ci := 0) (fs := [.int 0, .int 0, .int 0, .int 0, .int 0, .int 0, .int 0, .int 0, .null, .null]) (C := nm_R0) (T := nm_T0) (N := 10) hx hb hts cx_in0 (cx_ty 0) (cx_clTy (ci := 0) rfl) hown (hts (.classLink "FoxGeese$Game" 9 nm_R0) (cx_mem 86 (by decide +kernel) (by decide +kernel))) (hts (.instantiable nm_R0 10) (cx_mem 87 (by decide +kernel) (by decide +kernel))) (hts (.initialized nm_R0) (cx_mem 60 (by decide +kernel) (by decide +kernel))) hK hP hD hS hA rfl (fun j hj => by rcases (show j = 0 ∨ j = 1 ∨ j = 2 ∨ j = 3 ∨ j = 4 ∨ j = 5 ∨ j = 6 ∨ j = 7 ∨ j = 8 ∨ j = 9 by omega) with rfl | rfl | rfl | rfl | rfl | rfl | rfl | rfl | rfl | rfl <;> rfl) (Nat.le_of_ble_eq_true rfl) (Nat.le_of_ble_eq_true rfl) di_Gi_5 (fun q1 H hP hD hS => ?_)
  have hP : va_P D cx_cl [(h0, .inr (1, [.null, .null, .null, .int 0, .null])), (q1, .inr (0, [.int 0, .int 0, .int 0, .int 0, .int 0, .int 0, .int 0, .int 0, .null, .null]))] H := hP
  have hD : va_D A [(h0, .inr (1, [.null, .null, .null, .int 0, .null])), (q1, .inr (0, [.int 0, .int 0, .int 0, .int 0, .int 0, .int 0, .int 0, .int 0, .null, .null]))] := hD
  refine W.widen (k := 1) (n := 10) (Nat.le_of_ble_eq_true rfl) (Nat.le_of_ble_eq_true rfl) ?_
  refine lv_dup hx hb di_Gi_8 rfl ?_
  refine nv_callI (wr := [(h0, .inr (1, [.null, .null, .null, .int 0, .null]))]) hx hb hml hown hts (nc_B l D ca q1) rfl ⟨by decide +kernel, by decide +kernel, by decide +kernel⟩ (cx_mem 90 (by decide +kernel) (by decide +kernel)) (cx_mem 60 (by decide +kernel) (by decide +kernel)) (cx_mem 89 (by decide +kernel) (by decide +kernel)) (cx_mem 88 (by decide +kernel) (by decide +kernel)) ⟨rfl, rfl⟩ ⟨Nat.le_of_ble_eq_true rfl, Nat.le_of_ble_eq_true rfl⟩ hK hNN hP hD hS hA 1 [0] rfl rfl (by decide) (by decide) hl.1 (Nat.le_of_ble_eq_true rfl) di_Gi_9 ⟨Nat.le_of_ble_eq_true rfl, Nat.le_of_ble_eq_true rfl⟩ (fun u1 H locs hP hD hS => ?_)
  have hP : va_P D cx_cl [(h0, .inr (1, [.null, .null, .null, .int 0, .null])), (q1, .inr (0, [.int 5, .int 5, .int 0, .int 0, .int 24, .int 0, .int 0, .int 0, .ref (u1 0), .ref (u1 1)])), (u1 0, nv_i ca 4), (u1 1, nv_i ca 4)] H := hP
  have hD : va_D A [(h0, .inr (1, [.null, .null, .null, .int 0, .null])), (q1, .inr (0, [.int 5, .int 5, .int 0, .int 0, .int 24, .int 0, .int 0, .int 0, .ref (u1 0), .ref (u1 1)])), (u1 0, nv_i ca 4), (u1 1, nv_i ca 4)] := hD
  refine W.widen (k := 3) (n := 18) (Nat.le_of_ble_eq_true rfl) (Nat.le_of_ble_eq_true rfl) ?_
  refine va_putF (D := D) (ci := 1) (v := .ref q1) (ty := .object "FoxGeese$Board") (C := nm_R1) (T := nm_T1) (N := 5) hx hb hts cx_in1 (cx_ty 1) (cx_clTy (ci := 1) rfl) (cx_clNm (ci := 1) rfl) hown hK hP hD hS 0 rfl rfl 0 (by decide) (hts (.fieldLink "FoxGeese$Game" 12 "FoxGeese$Game" "board" "LFoxGeese$Board;") (cx_mem 160 (by decide +kernel) (by decide +kernel))) (fun _ h9 => h9) rfl hin rfl (by decide +kernel) rfl rfl (Nat.le_of_ble_eq_true rfl) di_Gi_12 (fun H locs hP hD hS => ?_)
  have hP : va_P D cx_cl [(h0, .inr (1, [.ref q1, .null, .null, .int 0, .null])), (q1, .inr (0, [.int 5, .int 5, .int 0, .int 0, .int 24, .int 0, .int 0, .int 0, .ref (u1 0), .ref (u1 1)])), (u1 0, nv_i ca 4), (u1 1, nv_i ca 4)] H := hP
  have hD : va_D A [(h0, .inr (1, [.ref q1, .null, .null, .int 0, .null])), (q1, .inr (0, [.int 5, .int 5, .int 0, .int 0, .int 24, .int 0, .int 0, .int 0, .ref (u1 0), .ref (u1 1)])), (u1 0, nv_i ca 4), (u1 1, nv_i ca 4)] := hD
  refine lv_aload_n hx hb di_Gi_15 rfl (lv_at hl 0 rfl) ?_
  refine va_new (D := D) (ci := 2) (fs := [.int 0, .null]) (C := nm_R2) (T := nm_T2) (N := 2) hx hb hts cx_in2 (cx_ty 2) (cx_clTy (ci := 2) rfl) hown (hts (.classLink "FoxGeese$Game" 18 nm_R2) (cx_mem 145 (by decide +kernel) (by decide +kernel))) (hts (.instantiable nm_R2 2) (cx_mem 146 (by decide +kernel) (by decide +kernel))) (hts (.initialized nm_R2) (cx_mem 61 (by decide +kernel) (by decide +kernel))) hK hP hD hS hA rfl (fun j hj => by rcases (show j = 0 ∨ j = 1 by omega) with rfl | rfl <;> rfl) (Nat.le_of_ble_eq_true rfl) (Nat.le_of_ble_eq_true rfl) di_Gi_16 (fun q2 H hP hD hS => ?_)
  have hP : va_P D cx_cl [(h0, .inr (1, [.ref q1, .null, .null, .int 0, .null])), (q1, .inr (0, [.int 5, .int 5, .int 0, .int 0, .int 24, .int 0, .int 0, .int 0, .ref (u1 0), .ref (u1 1)])), (u1 0, nv_i ca 4), (u1 1, nv_i ca 4), (q2, .inr (2, [.int 0, .null]))] H := hP
  have hD : va_D A [(h0, .inr (1, [.ref q1, .null, .null, .int 0, .null])), (q1, .inr (0, [.int 5, .int 5, .int 0, .int 0, .int 24, .int 0, .int 0, .int 0, .ref (u1 0), .ref (u1 1)])), (u1 0, nv_i ca 4), (u1 1, nv_i ca 4), (q2, .inr (2, [.int 0, .null]))] := hD
  refine W.widen (k := 4) (n := 20) (Nat.le_of_ble_eq_true rfl) (Nat.le_of_ble_eq_true rfl) ?_
  refine lv_dup hx hb di_Gi_19 rfl ?_
  refine nv_callN (wr := [(h0, .inr (1, [.ref q1, .null, .null, .int 0, .null])), (q1, .inr (0, [.int 5, .int 5, .int 0, .int 0, .int 24, .int 0, .int 0, .int 0, .ref (u1 0), .ref (u1 1)])), (u1 0, nv_i ca 4), (u1 1, nv_i ca 4)]) hx hb hml hown hts (nc_T l D ca q2) rfl ⟨by decide +kernel, by decide +kernel, by decide +kernel⟩ (cx_mem 149 (by decide +kernel) (by decide +kernel)) (cx_mem 61 (by decide +kernel) (by decide +kernel)) (cx_mem 148 (by decide +kernel) (by decide +kernel)) hNN.2.1 ⟨rfl, rfl⟩ ⟨Nat.le_of_ble_eq_true rfl, Nat.le_of_ble_eq_true rfl⟩ hK hNN hP hD hS hA 4 [0, 1, 2, 3] rfl rfl (by decide) (by decide) hl.1 (Nat.le_of_ble_eq_true rfl) di_Gi_20 ⟨Nat.le_of_ble_eq_true rfl, Nat.le_of_ble_eq_true rfl⟩ (fun u2 H locs hP hD hS => ?_)
  have hP : va_P D cx_cl [(h0, .inr (1, [.ref q1, .null, .null, .int 0, .null])), (q1, .inr (0, [.int 5, .int 5, .int 0, .int 0, .int 24, .int 0, .int 0, .int 0, .ref (u1 0), .ref (u1 1)])), (u1 0, nv_i ca 4), (u1 1, nv_i ca 4), (q2, .inr (2, [.int 0, .ref (u2 0)])), (u2 0, nv_i ca 30)] H := hP
  have hD : va_D A [(h0, .inr (1, [.ref q1, .null, .null, .int 0, .null])), (q1, .inr (0, [.int 5, .int 5, .int 0, .int 0, .int 24, .int 0, .int 0, .int 0, .ref (u1 0), .ref (u1 1)])), (u1 0, nv_i ca 4), (u1 1, nv_i ca 4), (q2, .inr (2, [.int 0, .ref (u2 0)])), (u2 0, nv_i ca 30)] := hD
  refine W.widen (k := 5) (n := 50) (Nat.le_of_ble_eq_true rfl) (Nat.le_of_ble_eq_true rfl) ?_
  refine va_putF (D := D) (ci := 1) (v := .ref q2) (ty := .object "FoxGeese$Told") (C := nm_R1) (T := nm_T1) (N := 5) hx hb hts cx_in1 (cx_ty 1) (cx_clTy (ci := 1) rfl) (cx_clNm (ci := 1) rfl) hown hK hP hD hS 0 rfl rfl 1 (by decide) (hts (.fieldLink "FoxGeese$Game" 21 "FoxGeese$Game" "notes" "LFoxGeese$Told;") (cx_mem 163 (by decide +kernel) (by decide +kernel))) (fun _ h9 => h9) rfl hin rfl (by decide +kernel) rfl rfl (Nat.le_of_ble_eq_true rfl) di_Gi_23 (fun H locs hP hD hS => ?_)
  have hP : va_P D cx_cl [(h0, .inr (1, [.ref q1, .ref q2, .null, .int 0, .null])), (q1, .inr (0, [.int 5, .int 5, .int 0, .int 0, .int 24, .int 0, .int 0, .int 0, .ref (u1 0), .ref (u1 1)])), (u1 0, nv_i ca 4), (u1 1, nv_i ca 4), (q2, .inr (2, [.int 0, .ref (u2 0)])), (u2 0, nv_i ca 30)] H := hP
  have hD : va_D A [(h0, .inr (1, [.ref q1, .ref q2, .null, .int 0, .null])), (q1, .inr (0, [.int 5, .int 5, .int 0, .int 0, .int 24, .int 0, .int 0, .int 0, .ref (u1 0), .ref (u1 1)])), (u1 0, nv_i ca 4), (u1 1, nv_i ca 4), (q2, .inr (2, [.int 0, .ref (u2 0)])), (u2 0, nv_i ca 30)] := hD
  refine lv_aload_n hx hb di_Gi_26 rfl (lv_at hl 0 rfl) ?_
  refine va_new (D := D) (ci := 2) (fs := [.int 0, .null]) (C := nm_R2) (T := nm_T2) (N := 2) hx hb hts cx_in2 (cx_ty 2) (cx_clTy (ci := 2) rfl) hown (hts (.classLink "FoxGeese$Game" 18 nm_R2) (cx_mem 145 (by decide +kernel) (by decide +kernel))) (hts (.instantiable nm_R2 2) (cx_mem 146 (by decide +kernel) (by decide +kernel))) (hts (.initialized nm_R2) (cx_mem 61 (by decide +kernel) (by decide +kernel))) hK hP hD hS hA rfl (fun j hj => by rcases (show j = 0 ∨ j = 1 by omega) with rfl | rfl <;> rfl) (Nat.le_of_ble_eq_true rfl) (Nat.le_of_ble_eq_true rfl) di_Gi_27 (fun q3 H hP hD hS => ?_)
  have hP : va_P D cx_cl [(h0, .inr (1, [.ref q1, .ref q2, .null, .int 0, .null])), (q1, .inr (0, [.int 5, .int 5, .int 0, .int 0, .int 24, .int 0, .int 0, .int 0, .ref (u1 0), .ref (u1 1)])), (u1 0, nv_i ca 4), (u1 1, nv_i ca 4), (q2, .inr (2, [.int 0, .ref (u2 0)])), (u2 0, nv_i ca 30), (q3, .inr (2, [.int 0, .null]))] H := hP
  have hD : va_D A [(h0, .inr (1, [.ref q1, .ref q2, .null, .int 0, .null])), (q1, .inr (0, [.int 5, .int 5, .int 0, .int 0, .int 24, .int 0, .int 0, .int 0, .ref (u1 0), .ref (u1 1)])), (u1 0, nv_i ca 4), (u1 1, nv_i ca 4), (q2, .inr (2, [.int 0, .ref (u2 0)])), (u2 0, nv_i ca 30), (q3, .inr (2, [.int 0, .null]))] := hD
  refine W.widen (k := 6) (n := 52) (Nat.le_of_ble_eq_true rfl) (Nat.le_of_ble_eq_true rfl) ?_
  refine lv_dup hx hb di_Gi_30 rfl ?_
  refine nv_callN (wr := [(h0, .inr (1, [.ref q1, .ref q2, .null, .int 0, .null])), (q1, .inr (0, [.int 5, .int 5, .int 0, .int 0, .int 24, .int 0, .int 0, .int 0, .ref (u1 0), .ref (u1 1)])), (u1 0, nv_i ca 4), (u1 1, nv_i ca 4), (q2, .inr (2, [.int 0, .ref (u2 0)])), (u2 0, nv_i ca 30)]) hx hb hml hown hts (nc_T l D ca q3) rfl ⟨by decide +kernel, by decide +kernel, by decide +kernel⟩ (cx_mem 149 (by decide +kernel) (by decide +kernel)) (cx_mem 61 (by decide +kernel) (by decide +kernel)) (cx_mem 148 (by decide +kernel) (by decide +kernel)) hNN.2.1 ⟨rfl, rfl⟩ ⟨Nat.le_of_ble_eq_true rfl, Nat.le_of_ble_eq_true rfl⟩ hK hNN hP hD hS hA 6 [0, 1, 2, 3, 4, 5] rfl rfl (by decide) (by decide) hl.1 (Nat.le_of_ble_eq_true rfl) di_Gi_31 ⟨Nat.le_of_ble_eq_true rfl, Nat.le_of_ble_eq_true rfl⟩ (fun u3 H locs hP hD hS => ?_)
  have hP : va_P D cx_cl [(h0, .inr (1, [.ref q1, .ref q2, .null, .int 0, .null])), (q1, .inr (0, [.int 5, .int 5, .int 0, .int 0, .int 24, .int 0, .int 0, .int 0, .ref (u1 0), .ref (u1 1)])), (u1 0, nv_i ca 4), (u1 1, nv_i ca 4), (q2, .inr (2, [.int 0, .ref (u2 0)])), (u2 0, nv_i ca 30), (q3, .inr (2, [.int 0, .ref (u3 0)])), (u3 0, nv_i ca 30)] H := hP
  have hD : va_D A [(h0, .inr (1, [.ref q1, .ref q2, .null, .int 0, .null])), (q1, .inr (0, [.int 5, .int 5, .int 0, .int 0, .int 24, .int 0, .int 0, .int 0, .ref (u1 0), .ref (u1 1)])), (u1 0, nv_i ca 4), (u1 1, nv_i ca 4), (q2, .inr (2, [.int 0, .ref (u2 0)])), (u2 0, nv_i ca 30), (q3, .inr (2, [.int 0, .ref (u3 0)])), (u3 0, nv_i ca 30)] := hD
  refine W.widen (k := 7) (n := 82) (Nat.le_of_ble_eq_true rfl) (Nat.le_of_ble_eq_true rfl) ?_
  refine va_putF (D := D) (ci := 1) (v := .ref q3) (ty := .object "FoxGeese$Told") (C := nm_R1) (T := nm_T1) (N := 5) hx hb hts cx_in1 (cx_ty 1) (cx_clTy (ci := 1) rfl) (cx_clNm (ci := 1) rfl) hown hK hP hD hS 0 rfl rfl 2 (by decide) (hts (.fieldLink "FoxGeese$Game" 25 "FoxGeese$Game" "marks" "LFoxGeese$Told;") (cx_mem 165 (by decide +kernel) (by decide +kernel))) (fun _ h9 => h9) rfl hin rfl (by decide +kernel) rfl rfl (Nat.le_of_ble_eq_true rfl) di_Gi_34 (fun H locs hP hD hS => ?_)
  have hP : va_P D cx_cl [(h0, .inr (1, [.ref q1, .ref q2, .ref q3, .int 0, .null])), (q1, .inr (0, [.int 5, .int 5, .int 0, .int 0, .int 24, .int 0, .int 0, .int 0, .ref (u1 0), .ref (u1 1)])), (u1 0, nv_i ca 4), (u1 1, nv_i ca 4), (q2, .inr (2, [.int 0, .ref (u2 0)])), (u2 0, nv_i ca 30), (q3, .inr (2, [.int 0, .ref (u3 0)])), (u3 0, nv_i ca 30)] H := hP
  have hD : va_D A [(h0, .inr (1, [.ref q1, .ref q2, .ref q3, .int 0, .null])), (q1, .inr (0, [.int 5, .int 5, .int 0, .int 0, .int 24, .int 0, .int 0, .int 0, .ref (u1 0), .ref (u1 1)])), (u1 0, nv_i ca 4), (u1 1, nv_i ca 4), (q2, .inr (2, [.int 0, .ref (u2 0)])), (u2 0, nv_i ca 30), (q3, .inr (2, [.int 0, .ref (u3 0)])), (u3 0, nv_i ca 30)] := hD
  refine lv_aload_n hx hb di_Gi_37 rfl (lv_at hl 0 rfl) ?_
  refine lv_bipush (v := 56) hx hb di_Gi_38 (by decide) ?_
  refine nv_newa (D := D) (N' := 56) (a0 := (56, .inl fun _ => 0)) hx hb (atype := .int) (hts (.arrayClass .int) (cx_mem 144 (by decide +kernel) (by decide +kernel))) rfl hK 0 rfl hP hD hS hA (fun _ => rfl) (by decide) (by decide) (by decide) (Nat.le_of_ble_eq_true rfl) (Nat.le_of_ble_eq_true rfl) di_Gi_40 (fun q4 H hP hD hS => ?_)
  have hP : va_P D cx_cl [(h0, .inr (1, [.ref q1, .ref q2, .ref q3, .int 0, .null])), (q1, .inr (0, [.int 5, .int 5, .int 0, .int 0, .int 24, .int 0, .int 0, .int 0, .ref (u1 0), .ref (u1 1)])), (u1 0, nv_i ca 4), (u1 1, nv_i ca 4), (q2, .inr (2, [.int 0, .ref (u2 0)])), (u2 0, nv_i ca 30), (q3, .inr (2, [.int 0, .ref (u3 0)])), (u3 0, nv_i ca 30), (q4, nv_i ca 56)] H := hP
  have hD : va_D A [(h0, .inr (1, [.ref q1, .ref q2, .ref q3, .int 0, .null])), (q1, .inr (0, [.int 5, .int 5, .int 0, .int 0, .int 24, .int 0, .int 0, .int 0, .ref (u1 0), .ref (u1 1)])), (u1 0, nv_i ca 4), (u1 1, nv_i ca 4), (q2, .inr (2, [.int 0, .ref (u2 0)])), (u2 0, nv_i ca 30), (q3, .inr (2, [.int 0, .ref (u3 0)])), (u3 0, nv_i ca 30), (q4, nv_i ca 56)] := hD
  refine W.widen (k := 8) (n := 138) (Nat.le_of_ble_eq_true rfl) (Nat.le_of_ble_eq_true rfl) ?_
  refine va_putF (D := D) (ci := 1) (v := .ref q4) (ty := .array .int) (C := nm_R1) (T := nm_T1) (N := 5) hx hb hts cx_in1 (cx_ty 1) (cx_clTy (ci := 1) rfl) (cx_clNm (ci := 1) rfl) hown hK hP hD hS 0 rfl rfl 4 (by decide) (hts (.fieldLink "FoxGeese$Game" 28 "FoxGeese$Game" "past" "[I") (cx_mem 169 (by decide +kernel) (by decide +kernel))) (fun _ h9 => h9) rfl hin rfl (by decide +kernel) rfl rfl (Nat.le_of_ble_eq_true rfl) di_Gi_42 (fun H locs hP hD hS => ?_)
  have hP : va_P D cx_cl [(h0, .inr (1, [.ref q1, .ref q2, .ref q3, .int 0, .ref q4])), (q1, .inr (0, [.int 5, .int 5, .int 0, .int 0, .int 24, .int 0, .int 0, .int 0, .ref (u1 0), .ref (u1 1)])), (u1 0, nv_i ca 4), (u1 1, nv_i ca 4), (q2, .inr (2, [.int 0, .ref (u2 0)])), (u2 0, nv_i ca 30), (q3, .inr (2, [.int 0, .ref (u3 0)])), (u3 0, nv_i ca 30), (q4, nv_i ca 56)] H := hP
  have hD : va_D A [(h0, .inr (1, [.ref q1, .ref q2, .ref q3, .int 0, .ref q4])), (q1, .inr (0, [.int 5, .int 5, .int 0, .int 0, .int 24, .int 0, .int 0, .int 0, .ref (u1 0), .ref (u1 1)])), (u1 0, nv_i ca 4), (u1 1, nv_i ca 4), (q2, .inr (2, [.int 0, .ref (u2 0)])), (u2 0, nv_i ca 30), (q3, .inr (2, [.int 0, .ref (u3 0)])), (u3 0, nv_i ca 30), (q4, nv_i ca 56)] := hD
  have hP9 := hP.sub (ws' := nv_G ca h0 (fun i => [q1, u1 0, u1 1, q2, u2 0, q3, u3 0, q4].getD i 0)) [0, 1, 2, 3, 4, 5, 6, 7, 8] rfl
  have hD9 := hD.sub (ws' := nv_G ca h0 (fun i => [q1, u1 0, u1 1, q2, u2 0, q3, u3 0, q4].getD i 0)) [0, 1, 2, 3, 4, 5, 6, 7, 8] (by decide) rfl
  exact W.vret hx hb hr (fun t ht hW => ⟨⟨(fun i => [q1, u1 0, u1 1, q2, u2 0, q3, u3 0, q4].getD i 0), rfl, trivial, by rw [ht]; exact hP9, by rw [hAe]; exact hD9⟩, by rw [hAe]; exact hS.F ht⟩) hS.2.2 di_Gi_45 hlocks
theorem di_Ri_0 : decode prog_5_method_1_code 0 = .ok (.aload_n 0, 1) := by decide +kernel
theorem di_Ri_1 : decode prog_5_method_1_code 1 = .ok (.invokespecial 3, 3) := by decide +kernel
theorem di_Ri_4 : decode prog_5_method_1_code 4 = .ok (.aload_n 0, 1) := by decide +kernel
theorem di_Ri_5 : decode prog_5_method_1_code 5 = .ok (.sipush 150, 3) := by decide +kernel
theorem di_Ri_8 : decode prog_5_method_1_code 8 = .ok (.newarray .int, 2) := by decide +kernel
theorem di_Ri_10 : decode prog_5_method_1_code 10 = .ok (.putfield 9, 3) := by decide +kernel
theorem di_Ri_13 : decode prog_5_method_1_code 13 = .ok (.aload_n 0, 1) := by decide +kernel
theorem di_Ri_14 : decode prog_5_method_1_code 14 = .ok (.new 15, 3) := by decide +kernel
theorem di_Ri_17 : decode prog_5_method_1_code 17 = .ok (.dup, 1) := by decide +kernel
theorem di_Ri_18 : decode prog_5_method_1_code 18 = .ok (.invokespecial 17, 3) := by decide +kernel
theorem di_Ri_21 : decode prog_5_method_1_code 21 = .ok (.putfield 18, 3) := by decide +kernel
theorem di_Ri_24 : decode prog_5_method_1_code 24 = .ok (.return_, 1) := by decide +kernel
set_option maxHeartbeats 4000000 in
set_option maxRecDepth 100000 in
theorem nc_R (l : Launch) (D : va_G) (ca : Nat → ClassId) (h0 : Nat) : nv_Met l D ca (⟨"FoxGeese$Reader", "<init>", "()V"⟩, prog_5_method_1_code, 1, none) ({ frames := 3, cells := 10, slots := 293, locals := 100 } : Room) 10 293 [.ref h0] [(h0, .inr (3, [.null, .int 0, .null, .int 0, .int 0, .int 0]))] (fun u => nv_R ca h0 u) := by
  intro sz
  refine va_MetF (cc := prog_5_method_1_code) (maxL := 1) (ret := none) (by decide +kernel) rfl ?_
  intro p e s m args below meth c s₁ B hml hv
  obtain ⟨rfl, hsz, hP, hK, hD0, hNN⟩ := hv
  have hx := B.exec
  have hb := B.bytes
  have hr := B.returns
  have hts0 := atoms_spec (ws := Cond.code ⟨"FoxGeese$Reader", "<init>", "()V"⟩ prog_5_method_1_code 1 none :: cx_WS) B.pre
  have hts : ∀ w ∈ cx_WS, w.before [.ref h0].toArray s = true := fun w hw => hts0 w (List.mem_cons_of_mem _ hw)
  have hown : s.vm.findClass "FoxGeese$Reader" = some m.cls := findClass_of_methodNamed B.named
  have hlocks := B.notSynchronized
  have hin : meth.name = "<init>" := (name_of_methodNamed B.named B.method).1
  subst hsz
  have hD := hD0.self (sz := s.heap.size)
  generalize hAe : va_A [(h0, .inr (3, [.null, .int 0, .null, .int 0, .int 0, .int 0]))] s.heap.size = A at hD ⊢
  have hA : ∀ q : Nat, s.heap.size ≤ q → A q := fun q h => by rw [← hAe]; exact Or.inr h
  have hS : va_S A s.heap s.heap [] := va_S.rf
  have hl := lv_entry [.ref h0] (n := 1) (Nat.le_of_ble_eq_true rfl)
  rw [lg_entry_eq]
  generalize (lg_sl [.ref h0] ++ List.replicate (1 - (lg_sl [.ref h0]).length) Slot.unset).toArray = ls at hl ⊢
  have hl : lv_has ls 1 [(0, .ref h0)] := hl
  refine lv_aload_n hx hb di_Ri_0 rfl (lv_at hl 0 rfl) ?_
  refine W.objInit hx hb hown (hts (.methodLink "FoxGeese$Reader" 3 objectInit) (cx_mem 187 (by decide +kernel) (by decide +kernel))) (hts (.instanceMethod objectInit) (cx_mem 78 (by decide +kernel) (by decide +kernel))) (hts (.code objectInit ⟨#[0xb1]⟩ 1 none) (cx_mem 79 (by decide +kernel) (by decide +kernel))) rfl (by rw [hml]; exact hl.1) rfl di_Ri_1 (Nat.le_of_ble_eq_true rfl) (Nat.le_of_ble_eq_true rfl) ?_
  refine W.eq (g2 := F0 m 4 ls []) rfl ?_
  refine lv_aload_n hx hb di_Ri_4 rfl (lv_at hl 0 rfl) ?_
  refine lv_sipush (v := 150) hx hb di_Ri_5 (by decide) ?_
  refine nv_newa (D := D) (N' := 150) (a0 := (150, .inl fun _ => 0)) hx hb (atype := .int) (hts (.arrayClass .int) (cx_mem 144 (by decide +kernel) (by decide +kernel))) rfl hK 0 rfl hP hD hS hA (fun _ => rfl) (by decide) (by decide) (by decide) (Nat.le_of_ble_eq_true rfl) (Nat.le_of_ble_eq_true rfl) di_Ri_8 (fun q1 H hP hD hS => ?_)
  have hP : va_P D cx_cl [(h0, .inr (3, [.null, .int 0, .null, .int 0, .int 0, .int 0])), (q1, nv_i ca 150)] H := hP
  have hD : va_D A [(h0, .inr (3, [.null, .int 0, .null, .int 0, .int 0, .int 0])), (q1, nv_i ca 150)] := hD
  refine W.widen (k := 1) (n := 150) (Nat.le_of_ble_eq_true rfl) (Nat.le_of_ble_eq_true rfl) ?_
  refine va_putF (D := D) (ci := 3) (v := .ref q1) (ty := .array .int) (C := nm_R3) (T := nm_T3) (N := 6) hx hb hts cx_in3 (cx_ty 3) (cx_clTy (ci := 3) rfl) (cx_clNm (ci := 3) rfl) hown hK hP hD hS 0 rfl rfl 0 (by decide) (hts (.fieldLink "FoxGeese$Reader" 9 "FoxGeese$Reader" "text" "[I") (cx_mem 190 (by decide +kernel) (by decide +kernel))) (fun _ h9 => h9) rfl hin rfl (by decide +kernel) rfl rfl (Nat.le_of_ble_eq_true rfl) di_Ri_10 (fun H locs hP hD hS => ?_)
  have hP : va_P D cx_cl [(h0, .inr (3, [.ref q1, .int 0, .null, .int 0, .int 0, .int 0])), (q1, nv_i ca 150)] H := hP
  have hD : va_D A [(h0, .inr (3, [.ref q1, .int 0, .null, .int 0, .int 0, .int 0])), (q1, nv_i ca 150)] := hD
  refine lv_aload_n hx hb di_Ri_13 rfl (lv_at hl 0 rfl) ?_
  refine va_new (D := D) (ci := 1) (fs := [.null, .null, .null, .int 0, .null]) (C := nm_R1) (T := nm_T1) (N := 5) hx hb hts cx_in1 (cx_ty 1) (cx_clTy (ci := 1) rfl) hown (hts (.classLink "FoxGeese$Reader" 15 nm_R1) (cx_mem 188 (by decide +kernel) (by decide +kernel))) (hts (.instantiable nm_R1 5) (cx_mem 81 (by decide +kernel) (by decide +kernel))) (hts (.initialized nm_R1) (cx_mem 59 (by decide +kernel) (by decide +kernel))) hK hP hD hS hA rfl (fun j hj => by rcases (show j = 0 ∨ j = 1 ∨ j = 2 ∨ j = 3 ∨ j = 4 by omega) with rfl | rfl | rfl | rfl | rfl <;> rfl) (Nat.le_of_ble_eq_true rfl) (Nat.le_of_ble_eq_true rfl) di_Ri_14 (fun q2 H hP hD hS => ?_)
  have hP : va_P D cx_cl [(h0, .inr (3, [.ref q1, .int 0, .null, .int 0, .int 0, .int 0])), (q1, nv_i ca 150), (q2, .inr (1, [.null, .null, .null, .int 0, .null]))] H := hP
  have hD : va_D A [(h0, .inr (3, [.ref q1, .int 0, .null, .int 0, .int 0, .int 0])), (q1, nv_i ca 150), (q2, .inr (1, [.null, .null, .null, .int 0, .null]))] := hD
  refine W.widen (k := 2) (n := 155) (Nat.le_of_ble_eq_true rfl) (Nat.le_of_ble_eq_true rfl) ?_
  refine lv_dup hx hb di_Ri_17 rfl ?_
  refine nv_callN (wr := [(h0, .inr (3, [.ref q1, .int 0, .null, .int 0, .int 0, .int 0])), (q1, nv_i ca 150)]) hx hb hml hown hts (nc_G l D ca q2) rfl ⟨by decide +kernel, by decide +kernel, by decide +kernel⟩ (cx_mem 84 (by decide +kernel) (by decide +kernel)) (cx_mem 59 (by decide +kernel) (by decide +kernel)) (cx_mem 83 (by decide +kernel) (by decide +kernel)) hNN.2.2.2.1 ⟨rfl, rfl⟩ ⟨Nat.le_of_ble_eq_true rfl, Nat.le_of_ble_eq_true rfl⟩ hK hNN hP hD hS hA 2 [0, 1] rfl rfl (by decide) (by decide) hl.1 (Nat.le_of_ble_eq_true rfl) di_Ri_18 ⟨Nat.le_of_ble_eq_true rfl, Nat.le_of_ble_eq_true rfl⟩ (fun u1 H locs hP hD hS => ?_)
  have hP : va_P D cx_cl [(h0, .inr (3, [.ref q1, .int 0, .null, .int 0, .int 0, .int 0])), (q1, nv_i ca 150), (q2, .inr (1, [.ref (u1 0), .ref (u1 3), .ref (u1 5), .int 0, .ref (u1 7)])), (u1 0, .inr (0, [.int 5, .int 5, .int 0, .int 0, .int 24, .int 0, .int 0, .int 0, .ref (u1 1), .ref (u1 2)])), (u1 1, nv_i ca 4), (u1 2, nv_i ca 4), (u1 3, .inr (2, [.int 0, .ref (u1 4)])), (u1 4, nv_i ca 30), (u1 5, .inr (2, [.int 0, .ref (u1 6)])), (u1 6, nv_i ca 30), (u1 7, nv_i ca 56)] H := hP
  have hD : va_D A [(h0, .inr (3, [.ref q1, .int 0, .null, .int 0, .int 0, .int 0])), (q1, nv_i ca 150), (q2, .inr (1, [.ref (u1 0), .ref (u1 3), .ref (u1 5), .int 0, .ref (u1 7)])), (u1 0, .inr (0, [.int 5, .int 5, .int 0, .int 0, .int 24, .int 0, .int 0, .int 0, .ref (u1 1), .ref (u1 2)])), (u1 1, nv_i ca 4), (u1 2, nv_i ca 4), (u1 3, .inr (2, [.int 0, .ref (u1 4)])), (u1 4, nv_i ca 30), (u1 5, .inr (2, [.int 0, .ref (u1 6)])), (u1 6, nv_i ca 30), (u1 7, nv_i ca 56)] := hD
  refine W.widen (k := 10) (n := 293) (Nat.le_of_ble_eq_true rfl) (Nat.le_of_ble_eq_true rfl) ?_
  refine va_putF (D := D) (ci := 3) (v := .ref q2) (ty := .object "FoxGeese$Game") (C := nm_R3) (T := nm_T3) (N := 6) hx hb hts cx_in3 (cx_ty 3) (cx_clTy (ci := 3) rfl) (cx_clNm (ci := 3) rfl) hown hK hP hD hS 0 rfl rfl 2 (by decide) (hts (.fieldLink "FoxGeese$Reader" 18 "FoxGeese$Reader" "told" "LFoxGeese$Game;") (cx_mem 193 (by decide +kernel) (by decide +kernel))) (fun _ h9 => h9) rfl hin rfl (by decide +kernel) rfl rfl (Nat.le_of_ble_eq_true rfl) di_Ri_21 (fun H locs hP hD hS => ?_)
  have hP : va_P D cx_cl [(h0, .inr (3, [.ref q1, .int 0, .ref q2, .int 0, .int 0, .int 0])), (q1, nv_i ca 150), (q2, .inr (1, [.ref (u1 0), .ref (u1 3), .ref (u1 5), .int 0, .ref (u1 7)])), (u1 0, .inr (0, [.int 5, .int 5, .int 0, .int 0, .int 24, .int 0, .int 0, .int 0, .ref (u1 1), .ref (u1 2)])), (u1 1, nv_i ca 4), (u1 2, nv_i ca 4), (u1 3, .inr (2, [.int 0, .ref (u1 4)])), (u1 4, nv_i ca 30), (u1 5, .inr (2, [.int 0, .ref (u1 6)])), (u1 6, nv_i ca 30), (u1 7, nv_i ca 56)] H := hP
  have hD : va_D A [(h0, .inr (3, [.ref q1, .int 0, .ref q2, .int 0, .int 0, .int 0])), (q1, nv_i ca 150), (q2, .inr (1, [.ref (u1 0), .ref (u1 3), .ref (u1 5), .int 0, .ref (u1 7)])), (u1 0, .inr (0, [.int 5, .int 5, .int 0, .int 0, .int 24, .int 0, .int 0, .int 0, .ref (u1 1), .ref (u1 2)])), (u1 1, nv_i ca 4), (u1 2, nv_i ca 4), (u1 3, .inr (2, [.int 0, .ref (u1 4)])), (u1 4, nv_i ca 30), (u1 5, .inr (2, [.int 0, .ref (u1 6)])), (u1 6, nv_i ca 30), (u1 7, nv_i ca 56)] := hD
  have hP9 := hP.sub (ws' := nv_R ca h0 (fun i => [q1, q2, u1 0, u1 1, u1 2, u1 3, u1 4, u1 5, u1 6, u1 7].getD i 0)) [0, 1, 2, 3, 4, 5, 6, 7, 8, 9, 10] rfl
  have hD9 := hD.sub (ws' := nv_R ca h0 (fun i => [q1, q2, u1 0, u1 1, u1 2, u1 3, u1 4, u1 5, u1 6, u1 7].getD i 0)) [0, 1, 2, 3, 4, 5, 6, 7, 8, 9, 10] (by decide) rfl
  exact W.vret hx hb hr (fun t ht hW => ⟨⟨(fun i => [q1, q2, u1 0, u1 1, u1 2, u1 3, u1 4, u1 5, u1 6, u1 7].getD i 0), rfl, trivial, by rw [ht]; exact hP9, by rw [hAe]; exact hD9⟩, by rw [hAe]; exact hS.F ht⟩) hS.2.2 di_Ri_24 hlocks
