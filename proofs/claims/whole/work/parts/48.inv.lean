/-! WHAT BOTH HOLD: the game, the images, the text, the fraction, the counts of refusals -/
abbrev zS : Type := zA × (Nat → Option zA) × (Nat × (Nat → Int32)) × (Int64 × Int64) × (Nat → Int32)
def zTV (T : Nat × (Nat → Int32)) : Prop := T.1 ≤ 150 ∧ ∀ j, j < T.1 → 0 ≤ (T.2 j).toInt ∧ (T.2 j).toInt ≤ 127
def zSV (S : zS) : Prop := zAV S.1 ∧ (∀ i, i < 2 → ∀ A, S.2.1 i = some A → zAV A) ∧ zTV S.2.2.1
def zKF (σ τ : ab_S) : Prop := ∀ a, 56 ≤ a → τ.1 a = σ.1 a ∧ τ.2 a = σ.2 a
def zKM (σ τ : ab_S) : Prop := ∀ a, a < 56 → τ.1 a = σ.1 a ∧ τ.2 a = σ.2 a
def zIF (σ : ab_S) (S : zS) : Prop :=
  zGH σ 1 S.1 ∧ (∀ i, i < 2 → (S.2.1 i = none → σ.1 11 i = 0) ∧ ∀ A, S.2.1 i = some A → σ.1 11 i = 1 ∧ zGH σ (26 + 9 * i) A) ∧ (σ.1 12 1 = nI S.2.2.1.1 ∧ ∀ j, j < S.2.2.1.1 → σ.1 13 j = S.2.2.1.2 j) ∧ (σ.2 0 7 = S.2.2.2.1.1 ∧ σ.2 0 8 = S.2.2.2.1.2) ∧ ∀ j, j < 3 → σ.1 25 j = S.2.2.2.2 j
def zIM (σ : ab_S) (S : zS) : Prop :=
  zGR σ 0 S.1 ∧ (∀ i, i < 2 → (S.2.1 i = none → σ.1 58 i = 0) ∧ ∀ A, S.2.1 i = some A → σ.1 58 i = 1 ∧ zGR σ (135 + 135 * i) A) ∧ (σ.1 56 3 = nI S.2.2.1.1 ∧ ∀ j, j < S.2.2.1.1 → σ.1 59 j = S.2.2.1.2 j) ∧ (σ.2 56 4 = S.2.2.2.1.1 ∧ σ.2 56 5 = S.2.2.2.1.2) ∧ ∀ j, j < 3 → σ.1 60 j = S.2.2.2.2 j
theorem zKF.rf {σ : ab_S} : zKF σ σ := fun _ _ => ⟨rfl, rfl⟩
theorem zKM.rf {σ : ab_S} : zKM σ σ := fun _ _ => ⟨rfl, rfl⟩
theorem zKF.tr {σ τ υ : ab_S} (h1 : zKF σ τ) (h2 : zKF τ υ) : zKF σ υ := fun a ha => ⟨(h2 a ha).1.trans (h1 a ha).1, (h2 a ha).2.trans (h1 a ha).2⟩
theorem zKM.tr {σ τ υ : ab_S} (h1 : zKM σ τ) (h2 : zKM τ υ) : zKM σ υ := fun a ha => ⟨(h2 a ha).1.trans (h1 a ha).1, (h2 a ha).2.trans (h1 a ha).2⟩
theorem zF.kf {σ τ : ab_S} {ks : List Nat} (h : zF ks σ τ) (hk : ∀ a, a ∈ ks → a < 56) : zKF σ τ := fun a ha => ⟨h.2 a (fun q => by have := hk a q; omega), by rw [h.1]⟩
theorem zF.km {σ τ : ab_S} {ks : List Nat} (h : zF ks σ τ) (hk : ∀ a, a ∈ ks → 56 ≤ a) : zKM σ τ := fun a ha => ⟨h.2 a (fun q => by have := hk a q; omega), by rw [h.1]⟩
theorem zFR.km {σ τ : ab_S} {lo hi : Nat} (h : zFR lo hi σ τ) : zKM σ τ := h.zF.km (by simp)
theorem zIF.fr {σ τ : ab_S} {S : zS} (h : zIF σ S) (k : zKM σ τ) : zIF τ S := by
  obtain ⟨h1, h2, h3, h4, h5⟩ := h
  have fr : ∀ g A, g + 8 < 56 → zGH σ g A → zGH τ g A := fun g A hg hA => by
    unfold zGH zH zP zT at hA ⊢
    rw [(k _ (show g + 1 < 56 by omega)).1, (k _ (show g + 1 + 1 < 56 by omega)).1, (k _ (show g + 1 + 2 < 56 by omega)).1, (k _ (show g < 56 by omega)).1, (k _ (show g + 8 < 56 by omega)).1, (k _ (show g + 4 < 56 by omega)).1, (k _ (show g + 4 + 1 < 56 by omega)).1, (k _ (show g + 6 < 56 by omega)).1, (k _ (show g + 6 + 1 < 56 by omega)).1]
    exact hA
  unfold zIF
  rw [(k 11 (by omega)).1, (k 12 (by omega)).1, (k 13 (by omega)).1, (k 25 (by omega)).1, (k 0 (by omega)).2]
  exact ⟨fr 1 _ (by omega) h1, fun i hi => ⟨(h2 i hi).1, fun A hA => ⟨((h2 i hi).2 A hA).1, fr _ _ (by omega) ((h2 i hi).2 A hA).2⟩⟩, h3, h4, h5⟩
theorem zIM.fr {σ τ : ab_S} {S : zS} (h : zIM σ S) (k : zKF σ τ) : zIM τ S := by
  unfold zIM zGR zR
  rw [(k 58 (by omega)).1, (k 56 (by omega)).1, (k 59 (by omega)).1, (k 60 (by omega)).1, (k 56 (by omega)).2, (k 57 (by omega)).1]
  exact h
theorem zIF.game {σ τ : ab_S} {S : zS} {A : zA} (h : zIF σ S) (hA : zGH τ 1 A) (hF : zF (zkg 1) σ τ) : zIF τ (A, S.2) := by
  obtain ⟨-, h2, h3, h4, h5⟩ := h
  refine ⟨hA, fun i hi => ⟨fun q => ?_, fun A2 hA2 => ⟨?_, ?_⟩⟩, ?_, ?_, ?_⟩
  · rw [hF.2 11 (by simp)]; exact (h2 i hi).1 q
  · rw [hF.2 11 (by simp)]; exact ((h2 i hi).2 A2 hA2).1
  · exact ((h2 i hi).2 A2 hA2).2.frame hF (by intro a ha; simp at ha ⊢; omega)
  · rw [hF.2 12 (by simp), hF.2 13 (by simp)]; exact h3
  · rw [hF.1]; exact h4
  · rw [hF.2 25 (by simp)]; exact h5
theorem zIM.game {σ τ : ab_S} {S : zS} {A : zA} (h : zIM σ S) (hV : zSV S) (hA : zGR τ 0 A) (hF : zFR 0 135 σ τ) : zIM τ (A, S.2) := by
  obtain ⟨-, h2, h3, h4, h5⟩ := h
  refine ⟨hA, fun i hi => ⟨fun q => ?_, fun A2 hA2 => ⟨?_, ?_⟩⟩, ?_, ?_, ?_⟩
  · rw [hF.2.1 58 (by omega)]; exact (h2 i hi).1 q
  · rw [hF.2.1 58 (by omega)]; exact ((h2 i hi).2 A2 hA2).1
  · exact ((h2 i hi).2 A2 hA2).2.fr (hV.2.1 i hi A2 hA2) hF (by omega)
  · rw [hF.2.1 56 (by omega), hF.2.1 59 (by omega)]; exact h3
  · rw [hF.1]; exact h4
  · rw [hF.2.1 60 (by omega)]; exact h5
/-- one more refusal of kind i -/
def zbump (S : zS) (i : Nat) : zS := (S.1, S.2.1, S.2.2.1, S.2.2.2.1, fun j => if j = i then S.2.2.2.2 j + 1 else S.2.2.2.2 j)
theorem zbump_V {S : zS} {i : Nat} (h : zSV S) : zSV (zbump S i) := h
theorem zIF.bump {σ : ab_S} {S : zS} {i : Nat} (h : zIF σ S) (hi : i < 3) : zIF (ab_pI σ.1 25 i (σ.1 25 i + 1), σ.2) (zbump S i) := by
  have hF : zF [25] σ (ab_pI σ.1 25 i (σ.1 25 i + 1), σ.2) := zF.put (by simp)
  obtain ⟨h1, h2, h3, h4, h5⟩ := h
  refine ⟨h1.frame hF (by simp), fun j hj => ⟨fun q => ?_, fun A2 hA2 => ⟨?_, ?_⟩⟩, ?_, h4, fun j hj => ?_⟩
  · rw [hF.2 11 (by simp)]; exact (h2 j hj).1 q
  · rw [hF.2 11 (by simp)]; exact ((h2 j hj).2 A2 hA2).1
  · exact ((h2 j hj).2 A2 hA2).2.frame hF (by intro a ha; simp at ha ⊢; omega)
  · rw [hF.2 12 (by simp), hF.2 13 (by simp)]; exact h3
  · dsimp only
    unfold zbump
    dsimp only
    by_cases q : j = i
    · subst q
      rw [zp_s, if_pos rfl, h5 j hj]
    · rw [zp_n (by omega), if_neg q]; exact h5 j hj
theorem zIM.bump {σ : ab_S} {S : zS} {i : Nat} (h : zIM σ S) (hi : i < 3) : zIM (ab_pI σ.1 60 i (σ.1 60 i + 1), σ.2) (zbump S i) := by
  have hF : zF [60] σ (ab_pI σ.1 60 i (σ.1 60 i + 1), σ.2) := zF.put (by simp)
  obtain ⟨h1, h2, h3, h4, h5⟩ := h
  refine ⟨h1.frF hF (by simp), fun j hj => ⟨fun q => ?_, fun A2 hA2 => ⟨?_, ?_⟩⟩, ?_, h4, fun j hj => ?_⟩
  · rw [hF.2 58 (by simp)]; exact (h2 j hj).1 q
  · rw [hF.2 58 (by simp)]; exact ((h2 j hj).2 A2 hA2).1
  · exact ((h2 j hj).2 A2 hA2).2.frF hF (by simp)
  · rw [hF.2 56 (by simp), hF.2 59 (by simp)]; exact h3
  · dsimp only
    unfold zbump
    dsimp only
    by_cases q : j = i
    · subst q
      rw [zp_s, if_pos rfl, h5 j hj]
    · rw [zp_n (by omega), if_neg q]; exact h5 j hj
section IV
variable {d : Nat} {S : zS} {σ : ab_S} {Rf : Int32 → ab_S → Prop}
theorem p_F_refuseN {x : Int32} {i : Nat} (hx : -2 - x = nI i) (hi : i < 3) (hI : zIF σ S) (h : ∀ τ, zIF τ (zbump S i) → zKF σ τ → Rf x τ) : CA (d + 1) 99 [.ref 0, .int x] σ (ab_rI Rf) := by
  refine e_F_refuse (b_F_refuse_0 (fun c => absurd c (by rw [hx, zlit 0, zlt (by omega) (by omega)]; omega)) (fun _ => ?_))
  rw [hx]
  refine b_F_refuse_9 (fun c => absurd c (by rw [zle (by omega) (by omega)]; omega)) (fun _ => b_F_refuse_18 (vp_in_nI (by omega) (by omega)) (vp_in_nI (by omega) (by omega)) (b_F_refuse_28 ?_))
  rw [zc_nI (by omega)]
  exact h _ (hI.bump hi) ((zF.put (ks := [25]) (by simp)).kf (by simp))
theorem p_F_bad (hI : zIF σ S) (h : ∀ τ, zIF τ (zbump S 0) → zKF σ τ → Rf (-2) τ) : CA (d + 1) 99 [.ref 0, .int (-2)] σ (ab_rI Rf) := p_F_refuseN (by decide) (by omega) hI h
theorem p_F_no (hI : zIF σ S) (h : ∀ τ, zIF τ (zbump S 1) → zKF σ τ → Rf (-3) τ) : CA (d + 1) 99 [.ref 0, .int (-3)] σ (ab_rI Rf) := p_F_refuseN (by decide) (by omega) hI h
theorem p_F_full (hI : zIF σ S) (h : ∀ τ, zIF τ (zbump S 2) → zKF σ τ → Rf (-4) τ) : CA (d + 1) 99 [.ref 0, .int (-4)] σ (ab_rI Rf) := p_F_refuseN (by decide) (by omega) hI h
theorem p_M_bad {x : Int32} (hI : zIM σ S) (h : ∀ τ, zIM τ (zbump S 0) → zKM σ τ → Rf x τ) : CA (d + 1) 116 [.ref 56, .int x] σ (ab_rI Rf) :=
  e_M_bad (b_M_bad_0 (h _ (hI.bump (by omega)) ((zF.put (ks := [60]) (by simp)).km (by simp))))
theorem p_M_no (hI : zIM σ S) (h : ∀ τ, zIM τ (zbump S 1) → zKM σ τ → Rf (-3) τ) : CA (d + 1) 117 [.ref 56] σ (ab_rI Rf) :=
  e_M_no (b_M_no_0 (h _ (hI.bump (by omega)) ((zF.put (ks := [60]) (by simp)).km (by simp))))
theorem p_M_full (hI : zIM σ S) (h : ∀ τ, zIM τ (zbump S 2) → zKM σ τ → Rf (-4) τ) : CA (d + 1) 118 [.ref 56] σ (ab_rI Rf) :=
  e_M_full (b_M_full_0 (h _ (hI.bump (by omega)) ((zF.put (ks := [60]) (by simp)).km (by simp))))
theorem p_F_isWithin {x lo hi : Int32} (h : Rf (zb (decide (lo ≤ x ∧ x ≤ hi))) σ) : CA (d + 1) 100 [.int x, .int lo, .int hi] σ (ab_rI Rf) := by
  refine e_F_isWithin (b_F_isWithin_0 (fun c => ?_) (fun c => b_F_isWithin_5 (fun c2 => ?_) (fun c2 => ?_)))
  · have q : ¬ (lo ≤ x ∧ x ≤ hi) := by rw [fa_le, fa_le]; rw [fa_lt] at c; omega
    exact b_F_isWithin_14 (b_F_isWithin_15 zna0 (zr h (by rw [decide_eq_false q]; rfl)))
  · have q : ¬ (lo ≤ x ∧ x ≤ hi) := by rw [fa_le, fa_le]; rw [fa_lt] at c2; omega
    exact b_F_isWithin_14 (b_F_isWithin_15 zna0 (zr h (by rw [decide_eq_false q]; rfl)))
  · have q : (lo ≤ x ∧ x ≤ hi) := by rw [fa_le, fa_le]; rw [fa_lt] at c c2; omega
    exact b_F_isWithin_10 (b_F_isWithin_15 zna1 (zr h (by rw [decide_eq_true q]; rfl)))
/-- within, of whole numbers -/
def zw (x : Int32) (lo hi : Int) : Bool := decide (lo ≤ x.toInt ∧ x.toInt ≤ hi)
theorem p_F_within {x l h' : Int32} {lo hi : Int} (el : l.toInt = lo) (eh : h'.toInt = hi) (h : Rf (zb (zw x lo hi)) σ) : CA (d + 1) 100 [.int x, .int l, .int h'] σ (ab_rI Rf) := by
  refine p_F_isWithin ?_
  have e : decide (l ≤ x ∧ x ≤ h') = zw x lo hi := by unfold zw; rw [decide_eq_decide, fa_le, fa_le, el, eh]
  rw [e]
  exact h
theorem p_M_within {x : Int32} {l h' : Int64} {lo hi : Int} (el : l.toInt = lo) (eh : h'.toInt = hi) (h : Rf (zb (zw x lo hi)) σ) : CA (d + 1) 114 [.long x.toInt64, .long l, .long h'] σ (ab_rI Rf) := by
  refine p_M_in ?_
  have e : decide (l ≤ x.toInt64 ∧ x.toInt64 ≤ h') = zw x lo hi := by unfold zw; rw [decide_eq_decide, fa_le64, fa_le64, el, eh, Int32.toInt_toInt64]
  rw [e]
  exact h
theorem zw_n {x : Int32} {m : Nat} (h : zw x 0 m = true) : ∃ n : Nat, n ≤ m ∧ x = nI n := by
  unfold zw at h
  have h := of_decide_eq_true h
  have hb := fb_rng x
  exact ⟨x.toInt.toNat, by omega, by rw [fa_eq, zn (by omega)]; omega⟩
end IV
