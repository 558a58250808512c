/-! SOUNDNESS: what the abstract machine says of a call holds of the machine -/
theorem cx_slen {g : cx_G} (hs : g.2.2.2.2.2.category = 1) : ∀ av : List Value, (lg_sl (av.map (cx_v g))).length = (ab_ent av).length
  | [] => rfl
  | v :: av => by
    have ih := cx_slen hs av
    have hc := cx_cat hs v
    simp only [lg_sl] at ih
    rw [List.map_cons, lg_sl, List.flatMap_cons, List.length_append, ih]
    by_cases h2 : v.category = 2
    · rw [if_pos (hc.trans h2)]
      cases v <;> first | (simp [ab_ent, ab_en1]; omega) | (simp [Value.category] at h2)
    · rw [if_neg (fun z => h2 (hc.symm.trans z))]
      cases v <;> first | (simp [ab_ent, ab_en1]; omega) | (simp [Value.category] at h2)
theorem cx_sound {TB : ab_C → Nat → Nat → ab_B} {mt : Nat → cx_M} {mx : Nat → Nat} (hmx : ∀ y, mx y = (mt y).2.2.1) (hpl : ∀ y, plainFor (mt y).1 = true) (hall : ∀ C y pc, cx_Bk mt (mt y) (mt y).1.cls C pc (TB C y pc)) (g : cx_G) (l : Launch) : ∀ d, cx_CS g l mt (ab_Call TB mx d) d
  | 0 => fun y av σ R h => h.elim
  | d + 1 => fun y av σ R h => by
    obtain ⟨hfit, h⟩ := h
    refine va_MetF (cc := (mt y).2.1) (maxL := (mt y).2.2.1) (ret := (mt y).2.2.2) (hpl y) rfl ?_
    intro p e s m args below meth c s₁ B hml hv
    obtain ⟨rfl, hP, hPC⟩ := hv
    have hts := atoms_spec (ws := cx_cd (mt y) :: cx_WS) B.pre
    have hr := B.returns
    have hlocks := B.notSynchronized
    have hA : ∀ k, k < 64 → cx_A g (cx_ad g k) := fun k hk => by
      rw [cx_adlt hk]
      exact ⟨k, hk, rfl⟩
    have hs := hPC.2.2.2.2.2.2.2
    have X : cx_X g p (headSpec (cx_cd (mt y) :: cx_WS) (cx_rm (d + 1))).room s m (av.map (cx_v g)).toArray c (cx_A g) (mt y).2.1 (mt y).2.2.1 d (mt y).1.cls 0 0 :=
      ⟨B.exec, B.bytes, hml, findClass_of_methodNamed B.named, fun w hw => hts w (List.mem_cons_of_mem _ hw), hPC, hA, ⟨Nat.le_refl _, Nat.le_refl _⟩, Nat.zero_le _, Nat.zero_le _⟩
    have hR : cx_RS g p l e (headSpec (cx_cd (mt y) :: cx_WS) (cx_rm (d + 1))).room s m (av.map (cx_v g)).toArray below meth c (cx_A g) (mt y).2.1 (mt y).2.2.2 0 0 (MQ below (cx_Qc g R) (av.map (cx_v g)).toArray s 0 0 (cx_A g)) R := by
      refine ⟨fun ty hty pc la x σ H locs hd hn hR hP hS => ?_, fun hty pc la x σ H locs hd hR hP hS => ?_, fun hty pc la σ H locs hd hR hP hS => ?_⟩
      · exact W.zret B.exec B.bytes (hr.trans hty) hn (fun t ht _ => ⟨⟨some (.int x), σ, rfl, hR, by rw [ht]; exact hP⟩, hS.F ht⟩) hS.2.2 hd hlocks
      · exact W.lret B.exec B.bytes (hr.trans hty) (fun t ht _ => ⟨⟨some (.long x), σ, rfl, hR, by rw [ht]; exact hP⟩, hS.F ht⟩) hS.2.2 hd hlocks
      · exact W.vret B.exec B.bytes (hr.trans hty) (fun t ht _ => ⟨⟨none, σ, rfl, hR, by rw [ht]; exact hP⟩, hS.F ht⟩) hS.2.2 hd hlocks
    have hfit' : (lg_sl (av.map (cx_v g))).length ≤ (mt y).2.2.1 := by
      rw [cx_slen hs, ← hmx y]
      exact hfit
    have hl := lv_entry (av.map (cx_v g)) (n := (mt y).2.2.1) hfit'
    rw [lg_entry_eq]
    generalize (lg_sl (av.map (cx_v g)) ++ List.replicate ((mt y).2.2.1 - (lg_sl (av.map (cx_v g))).length) Slot.unset).toArray = ls at hl ⊢
    exact cx_run (hall (ab_Call TB mx d) y) X (cx_sound hmx hpl hall g l d) hR h s.heap [] ls hP va_S.rf (cx_LV.entry hs hl)
