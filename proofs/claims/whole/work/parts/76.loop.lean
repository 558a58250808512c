/-! THE LAW'S LOOP -/
section LL
variable {g : cx_G} {p : Program} {l : Launch} {e : Env} {s : State} {m : MethodId} {below : List Frame} {meth : Method} {c : Code} {A : Nat → Prop} {b L : Nat} {xs : Nat → Int32}
theorem ll_sub {L i : Nat} (hL : L ≤ 3072) (hi : i ≤ L) (h : ¬ Int32.ofNat L - 6 < nI i) : i + 6 ≤ L := by
  have e6 : (6 : Int32).toInt = 6 := by decide
  have h1 : (Int32.ofNat L - 6).toInt = (L : Int) - 6 := by
    show (nI L - 6).toInt = (L : Int) - 6
    rw [fb_subI (by rw [zn (by omega), e6]; omega) (by rw [zn (by omega), e6]; omega), zn (by omega), e6]
  rw [Int32.lt_iff_toInt_lt, h1, zn (by omega)] at h
  omega
theorem ll_in {L i : Nat} (hL : L ≤ 3072) (h : i + 6 ≤ L) (k : Nat) (hk : k ≤ 5) : vp_in (nI i + nI k) L := by
  rw [nI_add]
  exact vp_in_nI (by omega) (by omega)
set_option maxRecDepth 100000 in
theorem law_loop (hL : L ≤ 3072) (hr : meth.sig.returnType = ret) (hlocks : meth.locks = false) (X : cx_X g p room_1 s m #[Value.ref b] c A code 4 11 "FoxGeeseLaw" 64 1649) (hX : va_X b L xs s s.heap) (hbl : b < s.heap.size) (hbA : ¬ A b) (hAs : ∀ q, A q → s.heap.size ≤ q) :
    ∀ (n i : Nat), i ≤ L → L + 1 ≤ i + n → ∀ (σ : ab_S) (S : zS) (H : Heap) (locs : List Loc), zIF σ S → zIM σ S → zSV S → va_P g.2.2.2.1 cx_cl (cx_w g σ) H → va_S A s.heap H locs → ∀ (ls : Array Slot), lv_has ls 4 [(0, .ref b), (1, .ref (cx_ad g 0)), (2, .ref (cx_ad g 56)), (3, .int (nI i))] → W p l e room_1 s m #[Value.ref b] below meth c H locs 64 1649 (lw_Z below #[Value.ref b] s) (F0 m 18 ls []) := by
  intro n
  induction n with
  | zero =>
    intro i h1 h2
    exact absurd h2 (by omega)
  | succ n ih =>
    intro i hi hin σ S H locs hF hM hV hP hS ls hl
    refine lv_iload_n X.1 X.2.1 dl_18 rfl (lv_at hl 3 rfl) ?_
    refine lv_aload_n X.1 X.2.1 dl_19 rfl (lv_at hl 0 rfl) ?_
    refine va_slen X.1 X.2.1 hX hbl hbA hS dl_20 ?_
    refine lv_bipush (v := 6) X.1 X.2.1 dl_21 (by decide) ?_
    refine lv_isub X.1 X.2.1 dl_23 ?_
    refine lv_icmp_gt (tgt := 953) X.1 X.2.1 dl_24 (by decide) (fun _ => ?_) (fun c10 => ?_)
    · refine lv_iconst (v := 1) X.1 X.2.1 dl_953 (by decide) ?_
      refine va_forget (fun q hq => hAs _ (hS.2.2 q hq)) ?_
      refine W.widen (k := 600000) (n := 7302250) (Nat.le_of_ble_eq_true rfl) (Nat.le_of_ble_eq_true rfl) ?_
      exact lw_ret X.1 X.2.1 hr hlocks dl_954
    · have h6 : i + 6 ≤ L := ll_sub hL hi c10
      have hin5 : lw_in (nI i) L := ⟨ll_in hL h6 1 (by omega), ll_in hL h6 2 (by omega), ll_in hL h6 3 (by omega), ll_in hL h6 4 (by omega), ll_in hL h6 5 (by omega)⟩
      have nx : lw_N g p l e s m below meth c b A ls := fun σ' S' H' locs' hF' hM' hV' hP' hS' => by
        refine lv_iinc (v := nI (i + 6)) (lv' := [(3, .int (nI (i + 6))), (0, .ref b), (1, .ref (cx_ad g 0)), (2, .ref (cx_ad g 56))]) X.1 X.2.1 dl_947 hl (k := 3) rfl (nI_add i 6) (by decide) rfl (fun ls hl => ?_)
        refine lv_goto (tgt := 18) X.1 X.2.1 dl_950 (by decide) ?_
        exact ih (i + 6) h6 (by omega) σ' S' H' locs' hF' hM' hV' hP' hS' ls (lv_sub hl [1, 2, 3, 0] rfl)
      refine lv_aload_n X.1 X.2.1 dl_27 rfl (lv_at hl 0 rfl) ?_
      refine lv_iload_n X.1 X.2.1 dl_28 rfl (lv_at hl 3 rfl) ?_
      refine va_sld X.1 X.2.1 hX hbl hbA hS (vp_in_nI (by omega) (by omega)) dl_29 ?_
      refine lv_bipush (v := 31) X.1 X.2.1 dl_30 (by decide) ?_
      refine lv_iand X.1 X.2.1 dl_32 ?_
      obtain ⟨j, hj, ej⟩ := pk_andE (xs (nI i).toNatClampNeg) (m := 31) 5 (by decide)
      rw [ej]
      match j, hj with
      | 0, _ => exact lv_tableIn (tgt := 172) (off := 139) X.1 X.2.1 dl_33 (by decide) (by decide) (by decide) (by decide) (lc_0 X hX hbl hbA hl hin5 nx hF hM hV hP hS)
      | 1, _ => exact lv_tableIn (tgt := 205) (off := 172) X.1 X.2.1 dl_33 (by decide) (by decide) (by decide) (by decide) (lc_1 X hX hbl hbA hl hin5 nx hF hM hV hP hS)
      | 2, _ => exact lv_tableIn (tgt := 228) (off := 195) X.1 X.2.1 dl_33 (by decide) (by decide) (by decide) (by decide) (lc_2 X hX hbl hbA hl hin5 nx hF hM hV hP hS)
      | 3, _ => exact lv_tableIn (tgt := 261) (off := 228) X.1 X.2.1 dl_33 (by decide) (by decide) (by decide) (by decide) (lc_3 X hX hbl hbA hl hin5 nx hF hM hV hP hS)
      | 4, _ => exact lv_tableIn (tgt := 294) (off := 261) X.1 X.2.1 dl_33 (by decide) (by decide) (by decide) (by decide) (lc_4 X hX hbl hbA hl hin5 nx hF hM hV hP hS)
      | 5, _ => exact lv_tableIn (tgt := 317) (off := 284) X.1 X.2.1 dl_33 (by decide) (by decide) (by decide) (by decide) (lc_5 X hX hbl hbA hl hin5 nx hF hM hV hP hS)
      | 6, _ => exact lv_tableIn (tgt := 330) (off := 297) X.1 X.2.1 dl_33 (by decide) (by decide) (by decide) (by decide) (lc_6 X hX hbl hbA hl hin5 nx hF hM hV hP hS)
      | 7, _ => exact lv_tableIn (tgt := 343) (off := 310) X.1 X.2.1 dl_33 (by decide) (by decide) (by decide) (by decide) (lc_7 X hX hbl hbA hl hin5 nx hF hM hV hP hS)
      | 8, _ => exact lv_tableIn (tgt := 366) (off := 333) X.1 X.2.1 dl_33 (by decide) (by decide) (by decide) (by decide) (lc_8 X hX hbl hbA hl hin5 nx hF hM hV hP hS)
      | 9, _ => exact lv_tableIn (tgt := 399) (off := 366) X.1 X.2.1 dl_33 (by decide) (by decide) (by decide) (by decide) (lc_9 X hX hbl hbA hl hin5 nx hF hM hV hP hS)
      | 10, _ => exact lv_tableIn (tgt := 412) (off := 379) X.1 X.2.1 dl_33 (by decide) (by decide) (by decide) (by decide) (lc_10 X hX hbl hbA hl hin5 nx hF hM hV hP hS)
      | 11, _ => exact lv_tableIn (tgt := 425) (off := 392) X.1 X.2.1 dl_33 (by decide) (by decide) (by decide) (by decide) (lc_11 X hX hbl hbA hl hin5 nx hF hM hV hP hS)
      | 12, _ => exact lv_tableIn (tgt := 458) (off := 425) X.1 X.2.1 dl_33 (by decide) (by decide) (by decide) (by decide) (lc_12 X hX hbl hbA hl hin5 nx hF hM hV hP hS)
      | 13, _ => exact lv_tableIn (tgt := 481) (off := 448) X.1 X.2.1 dl_33 (by decide) (by decide) (by decide) (by decide) (lc_13 X hX hbl hbA hl hin5 nx hF hM hV hP hS)
      | 14, _ => exact lv_tableIn (tgt := 504) (off := 471) X.1 X.2.1 dl_33 (by decide) (by decide) (by decide) (by decide) (lc_14 X hX hbl hbA hl hin5 nx hF hM hV hP hS)
      | 15, _ => exact lv_tableIn (tgt := 527) (off := 494) X.1 X.2.1 dl_33 (by decide) (by decide) (by decide) (by decide) (lc_15 X hX hbl hbA hl hin5 nx hF hM hV hP hS)
      | 16, _ => exact lv_tableIn (tgt := 540) (off := 507) X.1 X.2.1 dl_33 (by decide) (by decide) (by decide) (by decide) (lc_16 X hX hbl hbA hl hin5 nx hF hM hV hP hS)
      | 17, _ => exact lv_tableIn (tgt := 563) (off := 530) X.1 X.2.1 dl_33 (by decide) (by decide) (by decide) (by decide) (lc_17 X hX hbl hbA hl hin5 nx hF hM hV hP hS)
      | 18, _ => exact lv_tableIn (tgt := 626) (off := 593) X.1 X.2.1 dl_33 (by decide) (by decide) (by decide) (by decide) (lc_18 X hX hbl hbA hl hin5 nx hF hM hV hP hS)
      | 19, _ => exact lv_tableIn (tgt := 689) (off := 656) X.1 X.2.1 dl_33 (by decide) (by decide) (by decide) (by decide) (lc_19 X hX hbl hbA hl hin5 nx hF hM hV hP hS)
      | 20, _ => exact lv_tableIn (tgt := 712) (off := 679) X.1 X.2.1 dl_33 (by decide) (by decide) (by decide) (by decide) (lc_20 X hX hbl hbA hl hin5 nx hF hM hV hP hS)
      | 21, _ => exact lv_tableIn (tgt := 725) (off := 692) X.1 X.2.1 dl_33 (by decide) (by decide) (by decide) (by decide) (lc_21 X hX hbl hbA hl hin5 nx hF hM hV hP hS)
      | 22, _ => exact lv_tableIn (tgt := 738) (off := 705) X.1 X.2.1 dl_33 (by decide) (by decide) (by decide) (by decide) (lc_22 X hX hbl hbA hl hin5 nx hF hM hV hP hS)
      | 23, _ => exact lv_tableIn (tgt := 761) (off := 728) X.1 X.2.1 dl_33 (by decide) (by decide) (by decide) (by decide) (lc_23 X hX hbl hbA hl hin5 nx hF hM hV hP hS)
      | 24, _ => exact lv_tableIn (tgt := 784) (off := 751) X.1 X.2.1 dl_33 (by decide) (by decide) (by decide) (by decide) (lc_24 X hX hbl hbA hl hin5 nx hF hM hV hP hS)
      | 25, _ => exact lv_tableIn (tgt := 817) (off := 784) X.1 X.2.1 dl_33 (by decide) (by decide) (by decide) (by decide) (lc_25 X hX hbl hbA hl hin5 nx hF hM hV hP hS)
      | 26, _ => exact lv_tableIn (tgt := 841) (off := 808) X.1 X.2.1 dl_33 (by decide) (by decide) (by decide) (by decide) (lc_26 X hX hbl hbA hl hin5 nx hF hM hV hP hS)
      | 27, _ => exact lv_tableIn (tgt := 864) (off := 831) X.1 X.2.1 dl_33 (by decide) (by decide) (by decide) (by decide) (lc_27 X hX hbl hbA hl hin5 nx hF hM hV hP hS)
      | 28, _ => exact lv_tableIn (tgt := 887) (off := 854) X.1 X.2.1 dl_33 (by decide) (by decide) (by decide) (by decide) (lc_28 X hX hbl hbA hl hin5 nx hF hM hV hP hS)
      | 29, _ => exact lv_tableIn (tgt := 910) (off := 877) X.1 X.2.1 dl_33 (by decide) (by decide) (by decide) (by decide) (lc_29 X hX hbl hbA hl hin5 nx hF hM hV hP hS)
      | 30, _ => exact lv_tableIn (tgt := 933) (off := 900) X.1 X.2.1 dl_33 (by decide) (by decide) (by decide) (by decide) (lc_30 X hX hbl hbA hl hin5 nx hF hM hV hP hS)
      | 31, _ => exact lv_tableOut (tgt := 947) X.1 X.2.1 dl_33 (Or.inr (by decide)) (by decide) (nx σ S H locs hF hM hV hP hS)
      | j + 32, h => exact absurd h (by omega)
end LL
