theorem d_J_isLatin1_0 {d : Nat} {Rf : Int32 → ab_S → Prop} {ax0 : Nat} {σ : ab_S} (hax0 : ab_bt 64 71 ax0) (h : S_J_isLatin1_18 d Rf (if (1 : Int32) = 0 then 0 else (if (0 : Int32) = 0 then 1 else 0)) σ) : S_J_isLatin1_0 d Rf ax0 σ := by
  refine b_J_isLatin1_0  (fun c0 => ?_) (fun c0 => ?_)
  · rw [if_pos c0] at h
    exact b_J_isLatin1_17 h
  · rw [if_neg c0] at h
    refine b_J_isLatin1_6 hax0 (fun c1 => ?_) (fun c1 => ?_)
    · rw [if_pos c1] at h
      exact b_J_isLatin1_13 h
    · rw [if_neg c1] at h
      exact b_J_isLatin1_17 h
theorem d_J_isLatin1_6 {d : Nat} {Rf : Int32 → ab_S → Prop} {ax0 : Nat} {σ : ab_S} (hax0 : ab_bt 64 71 ax0) (h : S_J_isLatin1_18 d Rf (if (0 : Int32) = 0 then 1 else 0) σ) : S_J_isLatin1_6 d Rf ax0 σ := by
  refine b_J_isLatin1_6 hax0 (fun c0 => ?_) (fun c0 => ?_)
  · rw [if_pos c0] at h
    exact b_J_isLatin1_13 h
  · rw [if_neg c0] at h
    exact b_J_isLatin1_17 h
theorem d_K_foxMay_0 {d : Nat} {Rf : Int32 → ab_S → Prop} {x0 : Int32} {x1 : Int32} {x2 : Int32} {x3 : Int32} {x4 : Int32} {σ : ab_S}  (h : S_K_foxMay_20 d Rf x0 x2 x4 ((x1 * x1) + (x2 * x2)) (if (x3 - x3 / 2 * 2) = 0 then 1 else 0) σ) : S_K_foxMay_0 d Rf x0 x1 x2 x3 x4 σ := by
  refine b_K_foxMay_0  (fun c0 => ?_) (fun c0 => ?_)
  · rw [if_pos c0] at h
    exact b_K_foxMay_15 h
  · rw [if_neg c0] at h
    exact b_K_foxMay_19 h
theorem d_K_foxMay_20 {d : Nat} {Rf : Int32 → ab_S → Prop} {x0 : Int32} {x2 : Int32} {x4 : Int32} {x5 : Int32} {s0 : Int32} {σ : ab_S}  (h : S_K_foxMay_33 d Rf x0 x2 x4 x5 s0 (if x5 = 1 then 1 else 0) σ) : S_K_foxMay_20 d Rf x0 x2 x4 x5 s0 σ := by
  refine b_K_foxMay_20  (fun c0 => ?_) (fun c0 => ?_)
  · rw [if_pos c0] at h
    exact b_K_foxMay_28 h
  · rw [if_neg c0] at h
    exact b_K_foxMay_32 h
theorem d_K_foxMay_33 {d : Nat} {Rf : Int32 → ab_S → Prop} {x0 : Int32} {x2 : Int32} {x4 : Int32} {x5 : Int32} {x6 : Int32} {s0 : Int32} {σ : ab_S}  (h : S_K_foxMay_46 d Rf x0 x2 x4 x5 x6 s0 (if x5 = 2 then 1 else 0) σ) : S_K_foxMay_33 d Rf x0 x2 x4 x5 x6 s0 σ := by
  refine b_K_foxMay_33  (fun c0 => ?_) (fun c0 => ?_)
  · rw [if_pos c0] at h
    exact b_K_foxMay_41 h
  · rw [if_neg c0] at h
    exact b_K_foxMay_45 h
theorem d_K_foxMay_46 {d : Nat} {Rf : Int32 → ab_S → Prop} {x0 : Int32} {x2 : Int32} {x4 : Int32} {x5 : Int32} {x6 : Int32} {x7 : Int32} {s0 : Int32} {σ : ab_S}  (h : S_K_foxMay_65 d Rf x0 x2 x4 x5 x6 x7 s0 (if x4 = 1 then (if x5 = 4 then 1 else 0) else 0) σ) : S_K_foxMay_46 d Rf x0 x2 x4 x5 x6 x7 s0 σ := by
  refine b_K_foxMay_46  (fun c0 => ?_) (fun c0 => ?_)
  · rw [if_pos c0] at h
    refine b_K_foxMay_54  (fun c1 => ?_) (fun c1 => ?_)
    · rw [if_pos c1] at h
      exact b_K_foxMay_60 h
    · rw [if_neg c1] at h
      exact b_K_foxMay_64 h
  · rw [if_neg c0] at h
    exact b_K_foxMay_64 h
theorem d_K_foxMay_54 {d : Nat} {Rf : Int32 → ab_S → Prop} {x0 : Int32} {x2 : Int32} {x4 : Int32} {x5 : Int32} {x6 : Int32} {x7 : Int32} {x8 : Int32} {σ : ab_S}  (h : S_K_foxMay_65 d Rf x0 x2 x4 x5 x6 x7 x8 (if x5 = 4 then 1 else 0) σ) : S_K_foxMay_54 d Rf x0 x2 x4 x5 x6 x7 x8 σ := by
  refine b_K_foxMay_54  (fun c0 => ?_) (fun c0 => ?_)
  · rw [if_pos c0] at h
    exact b_K_foxMay_60 h
  · rw [if_neg c0] at h
    exact b_K_foxMay_64 h
theorem d_K_foxMay_65 {d : Nat} {Rf : Int32 → ab_S → Prop} {x0 : Int32} {x2 : Int32} {x4 : Int32} {x5 : Int32} {x6 : Int32} {x7 : Int32} {x8 : Int32} {s0 : Int32} {σ : ab_S}  (h : S_K_foxMay_85 d Rf x0 x2 x6 x7 x8 s0 (if x4 = 1 then (if x5 = 8 then 1 else 0) else 0) σ) : S_K_foxMay_65 d Rf x0 x2 x4 x5 x6 x7 x8 s0 σ := by
  refine b_K_foxMay_65  (fun c0 => ?_) (fun c0 => ?_)
  · rw [if_pos c0] at h
    refine b_K_foxMay_73  (fun c1 => ?_) (fun c1 => ?_)
    · rw [if_pos c1] at h
      exact b_K_foxMay_80 h
    · rw [if_neg c1] at h
      exact b_K_foxMay_84 h
  · rw [if_neg c0] at h
    exact b_K_foxMay_84 h
theorem d_K_foxMay_73 {d : Nat} {Rf : Int32 → ab_S → Prop} {x0 : Int32} {x2 : Int32} {x5 : Int32} {x6 : Int32} {x7 : Int32} {x8 : Int32} {x9 : Int32} {σ : ab_S}  (h : S_K_foxMay_85 d Rf x0 x2 x6 x7 x8 x9 (if x5 = 8 then 1 else 0) σ) : S_K_foxMay_73 d Rf x0 x2 x5 x6 x7 x8 x9 σ := by
  refine b_K_foxMay_73  (fun c0 => ?_) (fun c0 => ?_)
  · rw [if_pos c0] at h
    exact b_K_foxMay_80 h
  · rw [if_neg c0] at h
    exact b_K_foxMay_84 h
theorem d_K_foxMay_131 {d : Nat} {Rf : Int32 → ab_S → Prop} {x7 : Int32} {x8 : Int32} {σ : ab_S}  (h : S_K_foxMay_146 d Rf (if x7 = 0 then (if x8 = 0 then 0 else 1) else 1) σ) : S_K_foxMay_131 d Rf x7 x8 σ := by
  refine b_K_foxMay_131  (fun c0 => ?_) (fun c0 => ?_)
  · rw [if_pos c0] at h
    refine b_K_foxMay_136  (fun c1 => ?_) (fun c1 => ?_)
    · rw [if_pos c1] at h
      exact b_K_foxMay_145 h
    · rw [if_neg c1] at h
      exact b_K_foxMay_141 h
  · rw [if_neg c0] at h
    exact b_K_foxMay_141 h
theorem d_K_foxMay_136 {d : Nat} {Rf : Int32 → ab_S → Prop} {x8 : Int32} {σ : ab_S}  (h : S_K_foxMay_146 d Rf (if x8 = 0 then 0 else 1) σ) : S_K_foxMay_136 d Rf x8 σ := by
  refine b_K_foxMay_136  (fun c0 => ?_) (fun c0 => ?_)
  · rw [if_pos c0] at h
    exact b_K_foxMay_145 h
  · rw [if_neg c0] at h
    exact b_K_foxMay_141 h
theorem d_K_foxMay_147 {d : Nat} {Rf : Int32 → ab_S → Prop} {x7 : Int32} {x9 : Int32} {σ : ab_S}  (h : S_K_foxMay_162 d Rf (if x7 = 0 then (if x9 = 0 then 0 else 1) else 1) σ) : S_K_foxMay_147 d Rf x7 x9 σ := by
  refine b_K_foxMay_147  (fun c0 => ?_) (fun c0 => ?_)
  · rw [if_pos c0] at h
    refine b_K_foxMay_152  (fun c1 => ?_) (fun c1 => ?_)
    · rw [if_pos c1] at h
      exact b_K_foxMay_161 h
    · rw [if_neg c1] at h
      exact b_K_foxMay_157 h
  · rw [if_neg c0] at h
    exact b_K_foxMay_157 h
theorem d_K_foxMay_152 {d : Nat} {Rf : Int32 → ab_S → Prop} {x9 : Int32} {σ : ab_S}  (h : S_K_foxMay_162 d Rf (if x9 = 0 then 0 else 1) σ) : S_K_foxMay_152 d Rf x9 σ := by
  refine b_K_foxMay_152  (fun c0 => ?_) (fun c0 => ?_)
  · rw [if_pos c0] at h
    exact b_K_foxMay_161 h
  · rw [if_neg c0] at h
    exact b_K_foxMay_157 h
theorem d_K_foxMay_163 {d : Nat} {Rf : Int32 → ab_S → Prop} {x2 : Int32} {x6 : Int32} {x7 : Int32} {σ : ab_S}  (h : S_K_foxMay_182 d Rf (if x7 = 0 then 0 else (if x6 = 0 then (if x2 = 0 then 1 else 0) else 1)) σ) : S_K_foxMay_163 d Rf x2 x6 x7 σ := by
  refine b_K_foxMay_163  (fun c0 => ?_) (fun c0 => ?_)
  · rw [if_pos c0] at h
    exact b_K_foxMay_181 h
  · rw [if_neg c0] at h
    refine b_K_foxMay_168  (fun c1 => ?_) (fun c1 => ?_)
    · rw [if_pos c1] at h
      refine b_K_foxMay_173  (fun c2 => ?_) (fun c2 => ?_)
      · rw [if_pos c2] at h
        exact b_K_foxMay_177 h
      · rw [if_neg c2] at h
        exact b_K_foxMay_181 h
    · rw [if_neg c1] at h
      exact b_K_foxMay_177 h
theorem d_K_foxMay_168 {d : Nat} {Rf : Int32 → ab_S → Prop} {x2 : Int32} {x6 : Int32} {σ : ab_S}  (h : S_K_foxMay_182 d Rf (if x6 = 0 then (if x2 = 0 then 1 else 0) else 1) σ) : S_K_foxMay_168 d Rf x2 x6 σ := by
  refine b_K_foxMay_168  (fun c0 => ?_) (fun c0 => ?_)
  · rw [if_pos c0] at h
    refine b_K_foxMay_173  (fun c1 => ?_) (fun c1 => ?_)
    · rw [if_pos c1] at h
      exact b_K_foxMay_177 h
    · rw [if_neg c1] at h
      exact b_K_foxMay_181 h
  · rw [if_neg c0] at h
    exact b_K_foxMay_177 h
theorem d_K_foxMay_173 {d : Nat} {Rf : Int32 → ab_S → Prop} {x2 : Int32} {σ : ab_S}  (h : S_K_foxMay_182 d Rf (if x2 = 0 then 1 else 0) σ) : S_K_foxMay_173 d Rf x2 σ := by
  refine b_K_foxMay_173  (fun c0 => ?_) (fun c0 => ?_)
  · rw [if_pos c0] at h
    exact b_K_foxMay_177 h
  · rw [if_neg c0] at h
    exact b_K_foxMay_181 h
theorem d_K_foxMay_183 {d : Nat} {Rf : Int32 → ab_S → Prop} {x7 : Int32} {x9 : Int32} {x10 : Int32} {σ : ab_S}  (h : S_K_foxMay_203 d Rf (if x7 = 0 then (if x9 = 0 then (if x10 = 0 then 0 else 1) else 1) else 1) σ) : S_K_foxMay_183 d Rf x7 x9 x10 σ := by
  refine b_K_foxMay_183  (fun c0 => ?_) (fun c0 => ?_)
  · rw [if_pos c0] at h
    refine b_K_foxMay_188  (fun c1 => ?_) (fun c1 => ?_)
    · rw [if_pos c1] at h
      refine b_K_foxMay_193  (fun c2 => ?_) (fun c2 => ?_)
      · rw [if_pos c2] at h
        exact b_K_foxMay_202 h
      · rw [if_neg c2] at h
        exact b_K_foxMay_198 h
    · rw [if_neg c1] at h
      exact b_K_foxMay_198 h
  · rw [if_neg c0] at h
    exact b_K_foxMay_198 h
theorem d_K_foxMay_188 {d : Nat} {Rf : Int32 → ab_S → Prop} {x9 : Int32} {x10 : Int32} {σ : ab_S}  (h : S_K_foxMay_203 d Rf (if x9 = 0 then (if x10 = 0 then 0 else 1) else 1) σ) : S_K_foxMay_188 d Rf x9 x10 σ := by
  refine b_K_foxMay_188  (fun c0 => ?_) (fun c0 => ?_)
  · rw [if_pos c0] at h
    refine b_K_foxMay_193  (fun c1 => ?_) (fun c1 => ?_)
    · rw [if_pos c1] at h
      exact b_K_foxMay_202 h
    · rw [if_neg c1] at h
      exact b_K_foxMay_198 h
  · rw [if_neg c0] at h
    exact b_K_foxMay_198 h
theorem d_K_foxMay_193 {d : Nat} {Rf : Int32 → ab_S → Prop} {x10 : Int32} {σ : ab_S}  (h : S_K_foxMay_203 d Rf (if x10 = 0 then 0 else 1) σ) : S_K_foxMay_193 d Rf x10 σ := by
  refine b_K_foxMay_193  (fun c0 => ?_) (fun c0 => ?_)
  · rw [if_pos c0] at h
    exact b_K_foxMay_202 h
  · rw [if_neg c0] at h
    exact b_K_foxMay_198 h
theorem d_K_foxMay_204 {d : Nat} {Rf : Int32 → ab_S → Prop} {x6 : Int32} {x7 : Int32} {x8 : Int32} {σ : ab_S}  (h : S_K_foxMay_224 d Rf (if x7 = 0 then (if x6 = 0 then 0 else (if x8 = 0 then 0 else 1)) else 1) σ) : S_K_foxMay_204 d Rf x6 x7 x8 σ := by
  refine b_K_foxMay_204  (fun c0 => ?_) (fun c0 => ?_)
  · rw [if_pos c0] at h
    refine b_K_foxMay_209  (fun c1 => ?_) (fun c1 => ?_)
    · rw [if_pos c1] at h
      exact b_K_foxMay_223 h
    · rw [if_neg c1] at h
      refine b_K_foxMay_214  (fun c2 => ?_) (fun c2 => ?_)
      · rw [if_pos c2] at h
        exact b_K_foxMay_223 h
      · rw [if_neg c2] at h
        exact b_K_foxMay_219 h
  · rw [if_neg c0] at h
    exact b_K_foxMay_219 h
theorem d_K_foxMay_209 {d : Nat} {Rf : Int32 → ab_S → Prop} {x6 : Int32} {x8 : Int32} {σ : ab_S}  (h : S_K_foxMay_224 d Rf (if x6 = 0 then 0 else (if x8 = 0 then 0 else 1)) σ) : S_K_foxMay_209 d Rf x6 x8 σ := by
  refine b_K_foxMay_209  (fun c0 => ?_) (fun c0 => ?_)
  · rw [if_pos c0] at h
    exact b_K_foxMay_223 h
  · rw [if_neg c0] at h
    refine b_K_foxMay_214  (fun c1 => ?_) (fun c1 => ?_)
    · rw [if_pos c1] at h
      exact b_K_foxMay_223 h
    · rw [if_neg c1] at h
      exact b_K_foxMay_219 h
theorem d_K_foxMay_214 {d : Nat} {Rf : Int32 → ab_S → Prop} {x8 : Int32} {σ : ab_S}  (h : S_K_foxMay_224 d Rf (if x8 = 0 then 0 else 1) σ) : S_K_foxMay_214 d Rf x8 σ := by
  refine b_K_foxMay_214  (fun c0 => ?_) (fun c0 => ?_)
  · rw [if_pos c0] at h
    exact b_K_foxMay_223 h
  · rw [if_neg c0] at h
    exact b_K_foxMay_219 h
theorem d_K_gooseMay_0 {d : Nat} {Rf : Int32 → ab_S → Prop} {x0 : Int32} {x1 : Int32} {x2 : Int32} {x3 : Int32} {σ : ab_S}  (h : S_K_gooseMay_15 d Rf x0 x1 x2 x3 (if x1 = 1 then 1 else (if x1 = (-1) then 1 else 0)) σ) : S_K_gooseMay_0 d Rf x0 x1 x2 x3 σ := by
  refine b_K_gooseMay_0  (fun c0 => ?_) (fun c0 => ?_)
  · rw [if_pos c0] at h
    exact b_K_gooseMay_10 h
  · rw [if_neg c0] at h
    refine b_K_gooseMay_5  (fun c1 => ?_) (fun c1 => ?_)
    · rw [if_pos c1] at h
      exact b_K_gooseMay_10 h
    · rw [if_neg c1] at h
      exact b_K_gooseMay_14 h
theorem d_K_gooseMay_5 {d : Nat} {Rf : Int32 → ab_S → Prop} {x0 : Int32} {x1 : Int32} {x2 : Int32} {x3 : Int32} {σ : ab_S}  (h : S_K_gooseMay_15 d Rf x0 x1 x2 x3 (if x1 = (-1) then 1 else 0) σ) : S_K_gooseMay_5 d Rf x0 x1 x2 x3 σ := by
  refine b_K_gooseMay_5  (fun c0 => ?_) (fun c0 => ?_)
  · rw [if_pos c0] at h
    exact b_K_gooseMay_10 h
  · rw [if_neg c0] at h
    exact b_K_gooseMay_14 h
theorem d_K_gooseMay_15 {d : Nat} {Rf : Int32 → ab_S → Prop} {x0 : Int32} {x1 : Int32} {x2 : Int32} {x3 : Int32} {s0 : Int32} {σ : ab_S}  (h : S_K_gooseMay_31 d Rf x0 x1 x2 x3 s0 (if x1 = 0 then (if x2 = 1 then 1 else 0) else 0) σ) : S_K_gooseMay_15 d Rf x0 x1 x2 x3 s0 σ := by
  refine b_K_gooseMay_15  (fun c0 => ?_) (fun c0 => ?_)
  · rw [if_pos c0] at h
    refine b_K_gooseMay_21  (fun c1 => ?_) (fun c1 => ?_)
    · rw [if_pos c1] at h
      exact b_K_gooseMay_26 h
    · rw [if_neg c1] at h
      exact b_K_gooseMay_30 h
  · rw [if_neg c0] at h
    exact b_K_gooseMay_30 h
theorem d_K_gooseMay_21 {d : Nat} {Rf : Int32 → ab_S → Prop} {x0 : Int32} {x1 : Int32} {x2 : Int32} {x3 : Int32} {x4 : Int32} {σ : ab_S}  (h : S_K_gooseMay_31 d Rf x0 x1 x2 x3 x4 (if x2 = 1 then 1 else 0) σ) : S_K_gooseMay_21 d Rf x0 x1 x2 x3 x4 σ := by
  refine b_K_gooseMay_21  (fun c0 => ?_) (fun c0 => ?_)
  · rw [if_pos c0] at h
    exact b_K_gooseMay_26 h
  · rw [if_neg c0] at h
    exact b_K_gooseMay_30 h
theorem d_K_gooseMay_31 {d : Nat} {Rf : Int32 → ab_S → Prop} {x0 : Int32} {x1 : Int32} {x2 : Int32} {x3 : Int32} {x4 : Int32} {s0 : Int32} {σ : ab_S}  (h : S_K_gooseMay_52 d Rf x0 x1 x2 x3 x4 s0 (if s0 = 0 then (if x2 = 0 then (if x4 = 0 then 0 else 1) else 0) else 1) σ) : S_K_gooseMay_31 d Rf x0 x1 x2 x3 x4 s0 σ := by
  refine b_K_gooseMay_31  (fun c0 => ?_) (fun c0 => ?_)
  · rw [if_pos c0] at h
    refine b_K_gooseMay_38  (fun c1 => ?_) (fun c1 => ?_)
    · rw [if_pos c1] at h
      refine b_K_gooseMay_42  (fun c2 => ?_) (fun c2 => ?_)
      · rw [if_pos c2] at h
        exact b_K_gooseMay_51 h
      · rw [if_neg c2] at h
        exact b_K_gooseMay_47 h
    · rw [if_neg c1] at h
      exact b_K_gooseMay_51 h
  · rw [if_neg c0] at h
    exact b_K_gooseMay_47 h
theorem d_K_gooseMay_38 {d : Nat} {Rf : Int32 → ab_S → Prop} {x0 : Int32} {x1 : Int32} {x2 : Int32} {x3 : Int32} {x4 : Int32} {x5 : Int32} {σ : ab_S}  (h : S_K_gooseMay_52 d Rf x0 x1 x2 x3 x4 x5 (if x2 = 0 then (if x4 = 0 then 0 else 1) else 0) σ) : S_K_gooseMay_38 d Rf x0 x1 x2 x3 x4 x5 σ := by
  refine b_K_gooseMay_38  (fun c0 => ?_) (fun c0 => ?_)
  · rw [if_pos c0] at h
    refine b_K_gooseMay_42  (fun c1 => ?_) (fun c1 => ?_)
    · rw [if_pos c1] at h
      exact b_K_gooseMay_51 h
    · rw [if_neg c1] at h
      exact b_K_gooseMay_47 h
  · rw [if_neg c0] at h
    exact b_K_gooseMay_51 h
theorem d_K_gooseMay_42 {d : Nat} {Rf : Int32 → ab_S → Prop} {x0 : Int32} {x1 : Int32} {x2 : Int32} {x3 : Int32} {x4 : Int32} {x5 : Int32} {σ : ab_S}  (h : S_K_gooseMay_52 d Rf x0 x1 x2 x3 x4 x5 (if x4 = 0 then 0 else 1) σ) : S_K_gooseMay_42 d Rf x0 x1 x2 x3 x4 x5 σ := by
  refine b_K_gooseMay_42  (fun c0 => ?_) (fun c0 => ?_)
  · rw [if_pos c0] at h
    exact b_K_gooseMay_51 h
  · rw [if_neg c0] at h
    exact b_K_gooseMay_47 h
theorem d_K_gooseMay_52 {d : Nat} {Rf : Int32 → ab_S → Prop} {x0 : Int32} {x1 : Int32} {x2 : Int32} {x3 : Int32} {x4 : Int32} {x5 : Int32} {s0 : Int32} {σ : ab_S}  (h : S_K_gooseMay_74 d Rf x0 x1 x2 x3 x5 s0 (if s0 = 0 then (if x2 = 1 then (if x4 = 0 then 0 else 1) else 0) else 1) σ) : S_K_gooseMay_52 d Rf x0 x1 x2 x3 x4 x5 s0 σ := by
  refine b_K_gooseMay_52  (fun c0 => ?_) (fun c0 => ?_)
  · rw [if_pos c0] at h
    refine b_K_gooseMay_59  (fun c1 => ?_) (fun c1 => ?_)
    · rw [if_pos c1] at h
      refine b_K_gooseMay_64  (fun c2 => ?_) (fun c2 => ?_)
      · rw [if_pos c2] at h
        exact b_K_gooseMay_73 h
      · rw [if_neg c2] at h
        exact b_K_gooseMay_69 h
    · rw [if_neg c1] at h
      exact b_K_gooseMay_73 h
  · rw [if_neg c0] at h
    exact b_K_gooseMay_69 h
theorem d_K_gooseMay_59 {d : Nat} {Rf : Int32 → ab_S → Prop} {x0 : Int32} {x1 : Int32} {x2 : Int32} {x3 : Int32} {x4 : Int32} {x5 : Int32} {x6 : Int32} {σ : ab_S}  (h : S_K_gooseMay_74 d Rf x0 x1 x2 x3 x5 x6 (if x2 = 1 then (if x4 = 0 then 0 else 1) else 0) σ) : S_K_gooseMay_59 d Rf x0 x1 x2 x3 x4 x5 x6 σ := by
  refine b_K_gooseMay_59  (fun c0 => ?_) (fun c0 => ?_)
  · rw [if_pos c0] at h
    refine b_K_gooseMay_64  (fun c1 => ?_) (fun c1 => ?_)
    · rw [if_pos c1] at h
      exact b_K_gooseMay_73 h
    · rw [if_neg c1] at h
      exact b_K_gooseMay_69 h
  · rw [if_neg c0] at h
    exact b_K_gooseMay_73 h
theorem d_K_gooseMay_64 {d : Nat} {Rf : Int32 → ab_S → Prop} {x0 : Int32} {x1 : Int32} {x2 : Int32} {x3 : Int32} {x4 : Int32} {x5 : Int32} {x6 : Int32} {σ : ab_S}  (h : S_K_gooseMay_74 d Rf x0 x1 x2 x3 x5 x6 (if x4 = 0 then 0 else 1) σ) : S_K_gooseMay_64 d Rf x0 x1 x2 x3 x4 x5 x6 σ := by
  refine b_K_gooseMay_64  (fun c0 => ?_) (fun c0 => ?_)
  · rw [if_pos c0] at h
    exact b_K_gooseMay_73 h
  · rw [if_neg c0] at h
    exact b_K_gooseMay_69 h
theorem d_K_gooseMay_141 {d : Nat} {Rf : Int32 → ab_S → Prop} {x1 : Int32} {x2 : Int32} {x7 : Int32} {σ : ab_S}  (h : S_K_gooseMay_160 d Rf (if x7 = 0 then (if x1 = 0 then (if x2 = (-1) then 1 else 0) else 0) else 1) σ) : S_K_gooseMay_141 d Rf x1 x2 x7 σ := by
  refine b_K_gooseMay_141  (fun c0 => ?_) (fun c0 => ?_)
  · rw [if_pos c0] at h
    refine b_K_gooseMay_146  (fun c1 => ?_) (fun c1 => ?_)
    · rw [if_pos c1] at h
      refine b_K_gooseMay_150  (fun c2 => ?_) (fun c2 => ?_)
      · rw [if_pos c2] at h
        exact b_K_gooseMay_155 h
      · rw [if_neg c2] at h
        exact b_K_gooseMay_159 h
    · rw [if_neg c1] at h
      exact b_K_gooseMay_159 h
  · rw [if_neg c0] at h
    exact b_K_gooseMay_155 h
theorem d_K_gooseMay_146 {d : Nat} {Rf : Int32 → ab_S → Prop} {x1 : Int32} {x2 : Int32} {σ : ab_S}  (h : S_K_gooseMay_160 d Rf (if x1 = 0 then (if x2 = (-1) then 1 else 0) else 0) σ) : S_K_gooseMay_146 d Rf x1 x2 σ := by
  refine b_K_gooseMay_146  (fun c0 => ?_) (fun c0 => ?_)
  · rw [if_pos c0] at h
    refine b_K_gooseMay_150  (fun c1 => ?_) (fun c1 => ?_)
    · rw [if_pos c1] at h
      exact b_K_gooseMay_155 h
    · rw [if_neg c1] at h
      exact b_K_gooseMay_159 h
  · rw [if_neg c0] at h
    exact b_K_gooseMay_159 h
theorem d_K_gooseMay_150 {d : Nat} {Rf : Int32 → ab_S → Prop} {x2 : Int32} {σ : ab_S}  (h : S_K_gooseMay_160 d Rf (if x2 = (-1) then 1 else 0) σ) : S_K_gooseMay_150 d Rf x2 σ := by
  refine b_K_gooseMay_150  (fun c0 => ?_) (fun c0 => ?_)
  · rw [if_pos c0] at h
    exact b_K_gooseMay_155 h
  · rw [if_neg c0] at h
    exact b_K_gooseMay_159 h
theorem d_K_gooseMay_161 {d : Nat} {Rf : Int32 → ab_S → Prop} {x3 : Int32} {x8 : Int32} {σ : ab_S}  (h : S_K_gooseMay_179 d Rf (if 4 ≤ (x3 - x3 / 6 * 6) then 0 else (if x8 = 0 then 0 else 1)) σ) : S_K_gooseMay_161 d Rf x3 x8 σ := by
  refine b_K_gooseMay_161  (fun c0 => ?_) (fun c0 => ?_)
  · rw [if_pos c0] at h
    exact b_K_gooseMay_178 h
  · rw [if_neg c0] at h
    refine b_K_gooseMay_169  (fun c1 => ?_) (fun c1 => ?_)
    · rw [if_pos c1] at h
      exact b_K_gooseMay_178 h
    · rw [if_neg c1] at h
      exact b_K_gooseMay_174 h
theorem d_K_gooseMay_169 {d : Nat} {Rf : Int32 → ab_S → Prop} {x8 : Int32} {σ : ab_S}  (h : S_K_gooseMay_179 d Rf (if x8 = 0 then 0 else 1) σ) : S_K_gooseMay_169 d Rf x8 σ := by
  refine b_K_gooseMay_169  (fun c0 => ?_) (fun c0 => ?_)
  · rw [if_pos c0] at h
    exact b_K_gooseMay_178 h
  · rw [if_neg c0] at h
    exact b_K_gooseMay_174 h
theorem d_B_hasCell_0 {d : Nat} {Rf : Int32 → ab_S → Prop} {k0 : Nat} {x1 : Int32} {σ : ab_S} (hk0 : ab_sh k0 = (0, 0)) (h : S_B_hasCell_22 d Rf (if x1 < 0 then 0 else (if ((σ.1 k0 0) * (σ.1 k0 1)) ≤ x1 then 0 else 1)) σ) : S_B_hasCell_0 d Rf k0 x1 σ := by
  refine b_B_hasCell_0  (fun c0 => ?_) (fun c0 => ?_)
  · rw [if_pos c0] at h
    exact b_B_hasCell_21 h
  · rw [if_neg c0] at h
    refine b_B_hasCell_4 hk0 (fun c1 => ?_) (fun c1 => ?_)
    · rw [if_pos c1] at h
      exact b_B_hasCell_21 h
    · rw [if_neg c1] at h
      exact b_B_hasCell_17 h
theorem d_B_hasCell_4 {d : Nat} {Rf : Int32 → ab_S → Prop} {k0 : Nat} {x1 : Int32} {σ : ab_S} (hk0 : ab_sh k0 = (0, 0)) (h : S_B_hasCell_22 d Rf (if ((σ.1 k0 0) * (σ.1 k0 1)) ≤ x1 then 0 else 1) σ) : S_B_hasCell_4 d Rf k0 x1 σ := by
  refine b_B_hasCell_4 hk0 (fun c0 => ?_) (fun c0 => ?_)
  · rw [if_pos c0] at h
    exact b_B_hasCell_21 h
  · rw [if_neg c0] at h
    exact b_B_hasCell_17 h
theorem d_B_isFree_13 {d : Nat} {Rf : Int32 → ab_S → Prop} {s0 : Int32} {σ : ab_S}  (h : S_B_isFree_21 d Rf (if s0 = 0 then 0 else 1) σ) : S_B_isFree_13 d Rf s0 σ := by
  refine b_B_isFree_13  (fun c0 => ?_) (fun c0 => ?_)
  · rw [if_pos c0] at h
    exact b_B_isFree_20 h
  · rw [if_neg c0] at h
    exact b_B_isFree_16 h
theorem d_B_isFreeForFox_8 {d : Nat} {Rf : Int32 → ab_S → Prop} {x1 : Int32} {s0 : Int32} {s1 : Int32} {σ : ab_S}  (h : S_B_isFreeForFox_21 d Rf (if (((s1 ||| s0) >>> (x1 &&& 31)) &&& 1) = 0 then 1 else 0) σ) : S_B_isFreeForFox_8 d Rf x1 s0 s1 σ := by
  refine b_B_isFreeForFox_8  (fun c0 => ?_) (fun c0 => ?_)
  · rw [if_pos c0] at h
    exact b_B_isFreeForFox_16 h
  · rw [if_neg c0] at h
    exact b_B_isFreeForFox_20 h
theorem d_B_isGoose_0 {d : Nat} {Rf : Int32 → ab_S → Prop} {k0 : Nat} {x1 : Int32} {σ : ab_S} (hk0 : ab_sh k0 = (0, 0)) (h : S_B_isGoose_22 d Rf (if x1 < 0 then 0 else (if (σ.1 k0 5) ≤ x1 then 0 else (if 4 ≤ x1 then 0 else 1))) σ) : S_B_isGoose_0 d Rf k0 x1 σ := by
  refine b_B_isGoose_0  (fun c0 => ?_) (fun c0 => ?_)
  · rw [if_pos c0] at h
    exact b_B_isGoose_21 h
  · rw [if_neg c0] at h
    refine b_B_isGoose_4 hk0 (fun c1 => ?_) (fun c1 => ?_)
    · rw [if_pos c1] at h
      exact b_B_isGoose_21 h
    · rw [if_neg c1] at h
      refine b_B_isGoose_12  (fun c2 => ?_) (fun c2 => ?_)
      · rw [if_pos c2] at h
        exact b_B_isGoose_21 h
      · rw [if_neg c2] at h
        exact b_B_isGoose_17 h
theorem d_B_isGoose_4 {d : Nat} {Rf : Int32 → ab_S → Prop} {k0 : Nat} {x1 : Int32} {σ : ab_S} (hk0 : ab_sh k0 = (0, 0)) (h : S_B_isGoose_22 d Rf (if (σ.1 k0 5) ≤ x1 then 0 else (if 4 ≤ x1 then 0 else 1)) σ) : S_B_isGoose_4 d Rf k0 x1 σ := by
  refine b_B_isGoose_4 hk0 (fun c0 => ?_) (fun c0 => ?_)
  · rw [if_pos c0] at h
    exact b_B_isGoose_21 h
  · rw [if_neg c0] at h
    refine b_B_isGoose_12  (fun c1 => ?_) (fun c1 => ?_)
    · rw [if_pos c1] at h
      exact b_B_isGoose_21 h
    · rw [if_neg c1] at h
      exact b_B_isGoose_17 h
theorem d_B_isGoose_12 {d : Nat} {Rf : Int32 → ab_S → Prop} {x1 : Int32} {σ : ab_S}  (h : S_B_isGoose_22 d Rf (if 4 ≤ x1 then 0 else 1) σ) : S_B_isGoose_12 d Rf x1 σ := by
  refine b_B_isGoose_12  (fun c0 => ?_) (fun c0 => ?_)
  · rw [if_pos c0] at h
    exact b_B_isGoose_21 h
  · rw [if_neg c0] at h
    exact b_B_isGoose_17 h
theorem d_B_firstMover_0 {d : Nat} {Rf : Int32 → ab_S → Prop} {k0 : Nat} {σ : ab_S} (hk0 : ab_sh k0 = (0, 0)) (h : S_B_firstMover_13 d Rf (if (σ.1 k0 6) = 1 then 4 else 0) σ) : S_B_firstMover_0 d Rf k0 σ := by
  refine b_B_firstMover_0 hk0 (fun c0 => ?_) (fun c0 => ?_)
  · rw [if_pos c0] at h
    exact b_B_firstMover_8 h
  · rw [if_neg c0] at h
    exact b_B_firstMover_12 h
theorem d_B_isHome_0 {d : Nat} {Rf : Int32 → ab_S → Prop} {k0 : Nat} {σ : ab_S} (hk0 : ab_sh k0 = (0, 0)) (h : S_B_isHome_16 d Rf (if (σ.1 k0 0) ≤ (σ.1 k0 4) then 0 else 1) σ) : S_B_isHome_0 d Rf k0 σ := by
  refine b_B_isHome_0 hk0 (fun c0 => ?_) (fun c0 => ?_)
  · rw [if_pos c0] at h
    exact b_B_isHome_15 h
  · rw [if_neg c0] at h
    exact b_B_isHome_11 h
theorem d_B_outcome_30 {d : Nat} {Rf : Int32 → ab_S → Prop} {s0 : Int32} {σ : ab_S}  (h : S_B_outcome_38 d Rf (if s0 = 0 then 1 else 0) σ) : S_B_outcome_30 d Rf s0 σ := by
  refine b_B_outcome_30  (fun c0 => ?_) (fun c0 => ?_)
  · rw [if_pos c0] at h
    exact b_B_outcome_33 h
  · rw [if_neg c0] at h
    exact b_B_outcome_37 h
theorem d_B_mayPass_47 {d : Nat} {Rf : Int32 → ab_S → Prop} {s0 : Int32} {σ : ab_S}  (h : S_B_mayPass_55 d Rf (if s0 = 0 then 1 else 0) σ) : S_B_mayPass_47 d Rf s0 σ := by
  refine b_B_mayPass_47  (fun c0 => ?_) (fun c0 => ?_)
  · rw [if_pos c0] at h
    exact b_B_mayPass_50 h
  · rw [if_neg c0] at h
    exact b_B_mayPass_54 h
theorem d_B_mayMove_0 {d : Nat} {Rf : Int32 → ab_S → Prop} {k0 : Nat} {x1 : Int32} {x2 : Int32} {σ : ab_S}  (h : S_B_mayMove_10 d Rf k0 x1 x2 (if x1 = 4 then 1 else 0) σ) : S_B_mayMove_0 d Rf k0 x1 x2 σ := by
  refine b_B_mayMove_0  (fun c0 => ?_) (fun c0 => ?_)
  · rw [if_pos c0] at h
    exact b_B_mayMove_5 h
  · rw [if_neg c0] at h
    exact b_B_mayMove_9 h
theorem d_B_mayMove_10 {d : Nat} {Rf : Int32 → ab_S → Prop} {k0 : Nat} {x1 : Int32} {x2 : Int32} {s0 : Int32} {σ : ab_S} (hk0 : ab_sh k0 = (0, 0)) (h : S_B_mayMove_23 d Rf k0 x1 x2 (if (σ.1 k0 6) = 1 then 1 else 0) s0 σ) : S_B_mayMove_10 d Rf k0 x1 x2 s0 σ := by
  refine b_B_mayMove_10 hk0 (fun c0 => ?_) (fun c0 => ?_)
  · rw [if_pos c0] at h
    exact b_B_mayMove_18 h
  · rw [if_neg c0] at h
    exact b_B_mayMove_22 h
theorem d_B_mayMove_23 {d : Nat} {Rf : Int32 → ab_S → Prop} {k0 : Nat} {x1 : Int32} {x2 : Int32} {s0 : Int32} {s1 : Int32} {σ : ab_S}  (h : S_B_mayMove_31 d Rf k0 x1 x2 (if s1 = s0 then 1 else 0) σ) : S_B_mayMove_23 d Rf k0 x1 x2 s0 s1 σ := by
  refine b_B_mayMove_23  (fun c0 => ?_) (fun c0 => ?_)
  · rw [if_pos c0] at h
    exact b_B_mayMove_26 h
  · rw [if_neg c0] at h
    exact b_B_mayMove_30 h
theorem d_B_mayMove_58 {d : Nat} {Rf : Int32 → ab_S → Prop} {x2 : Int32} {s0 : Int32} {σ : ab_S}  (h : S_B_mayMove_70 d Rf (if ((s0 >>> (x2 &&& 31)) &&& 1) = 0 then 0 else 1) σ) : S_B_mayMove_58 d Rf x2 s0 σ := by
  refine b_B_mayMove_58  (fun c0 => ?_) (fun c0 => ?_)
  · rw [if_pos c0] at h
    exact b_B_mayMove_69 h
  · rw [if_neg c0] at h
    exact b_B_mayMove_65 h
theorem d_R_readText_44 {d : Nat} {Rf : Int32 → ab_S → Prop} {x1 : Int32} {s0 : Int32} {σ : ab_S}  (h : S_R_readText_54 d Rf x1 s0 (if s0 = 0 then 1 else 0) σ) : S_R_readText_44 d Rf x1 s0 σ := by
  refine b_R_readText_44  (fun c0 => ?_) (fun c0 => ?_)
  · rw [if_pos c0] at h
    exact b_R_readText_49 h
  · rw [if_neg c0] at h
    exact b_R_readText_53 h
theorem d_R_readText_54 {d : Nat} {Rf : Int32 → ab_S → Prop} {x1 : Int32} {x2 : Int32} {s0 : Int32} {σ : ab_S}  (h : S_R_readText_63 d Rf x1 x2 (if x1 = 0 then 1 else 0) s0 σ) : S_R_readText_54 d Rf x1 x2 s0 σ := by
  refine b_R_readText_54  (fun c0 => ?_) (fun c0 => ?_)
  · rw [if_pos c0] at h
    exact b_R_readText_58 h
  · rw [if_neg c0] at h
    exact b_R_readText_62 h
theorem d_R_nextToken_78 {d : Nat} {Rf : ab_S → Prop} {x1 : Int32} {x2 : Int32} {s0 : Int32} {σ : ab_S}  (h : S_R_nextToken_96 d Rf x1 (if s0 = 0 then (if x2 = 59 then 3 else 4) else 2) σ) : S_R_nextToken_78 d Rf x1 x2 s0 σ := by
  refine b_R_nextToken_78  (fun c0 => ?_) (fun c0 => ?_)
  · rw [if_pos c0] at h
    refine b_R_nextToken_85  (fun c1 => ?_) (fun c1 => ?_)
    · rw [if_pos c1] at h
      exact b_R_nextToken_91 h
    · rw [if_neg c1] at h
      exact b_R_nextToken_95 h
  · rw [if_neg c0] at h
    exact b_R_nextToken_81 h
theorem d_R_nextToken_85 {d : Nat} {Rf : ab_S → Prop} {x1 : Int32} {x2 : Int32} {σ : ab_S}  (h : S_R_nextToken_96 d Rf x1 (if x2 = 59 then 3 else 4) σ) : S_R_nextToken_85 d Rf x1 x2 σ := by
  refine b_R_nextToken_85  (fun c0 => ?_) (fun c0 => ?_)
  · rw [if_pos c0] at h
    exact b_R_nextToken_91 h
  · rw [if_neg c0] at h
    exact b_R_nextToken_95 h
theorem d_R_itemNamed_72 {d : Nat} {Rf : Int32 → ab_S → Prop} {s0 : Int32} {σ : ab_S}  (h : S_R_itemNamed_81 d Rf (if s0 = 0 then (-1) else 6) σ) : S_R_itemNamed_72 d Rf s0 σ := by
  refine b_R_itemNamed_72  (fun c0 => ?_) (fun c0 => ?_)
  · rw [if_pos c0] at h
    exact b_R_itemNamed_80 h
  · rw [if_neg c0] at h
    exact b_R_itemNamed_75 h
theorem d_R_isLetter_0 {d : Nat} {Rf : Int32 → ab_S → Prop} {x0 : Int32} {σ : ab_S}  (h : S_R_isLetter_17 d Rf (if x0 < 97 then 0 else (if 122 < x0 then 0 else 1)) σ) : S_R_isLetter_0 d Rf x0 σ := by
  refine b_R_isLetter_0  (fun c0 => ?_) (fun c0 => ?_)
  · rw [if_pos c0] at h
    exact b_R_isLetter_16 h
  · rw [if_neg c0] at h
    refine b_R_isLetter_6  (fun c1 => ?_) (fun c1 => ?_)
    · rw [if_pos c1] at h
      exact b_R_isLetter_16 h
    · rw [if_neg c1] at h
      exact b_R_isLetter_12 h
theorem d_R_isLetter_6 {d : Nat} {Rf : Int32 → ab_S → Prop} {x0 : Int32} {σ : ab_S}  (h : S_R_isLetter_17 d Rf (if 122 < x0 then 0 else 1) σ) : S_R_isLetter_6 d Rf x0 σ := by
  refine b_R_isLetter_6  (fun c0 => ?_) (fun c0 => ?_)
  · rw [if_pos c0] at h
    exact b_R_isLetter_16 h
  · rw [if_neg c0] at h
    exact b_R_isLetter_12 h
theorem d_R_isFigure_0 {d : Nat} {Rf : Int32 → ab_S → Prop} {x0 : Int32} {σ : ab_S}  (h : S_R_isFigure_17 d Rf (if x0 < 48 then 0 else (if 57 < x0 then 0 else 1)) σ) : S_R_isFigure_0 d Rf x0 σ := by
  refine b_R_isFigure_0  (fun c0 => ?_) (fun c0 => ?_)
  · rw [if_pos c0] at h
    exact b_R_isFigure_16 h
  · rw [if_neg c0] at h
    refine b_R_isFigure_6  (fun c1 => ?_) (fun c1 => ?_)
    · rw [if_pos c1] at h
      exact b_R_isFigure_16 h
    · rw [if_neg c1] at h
      exact b_R_isFigure_12 h
theorem d_R_isFigure_6 {d : Nat} {Rf : Int32 → ab_S → Prop} {x0 : Int32} {σ : ab_S}  (h : S_R_isFigure_17 d Rf (if 57 < x0 then 0 else 1) σ) : S_R_isFigure_6 d Rf x0 σ := by
  refine b_R_isFigure_6  (fun c0 => ?_) (fun c0 => ?_)
  · rw [if_pos c0] at h
    exact b_R_isFigure_16 h
  · rw [if_neg c0] at h
    exact b_R_isFigure_12 h
theorem d_F_goes_62 {d : Nat} {Rf : Int32 → ab_S → Prop} {s0 : Int32} {σ : ab_S}  (h : S_F_goes_70 d Rf (if s0 = 0 then 0 else 1) σ) : S_F_goes_62 d Rf s0 σ := by
  refine b_F_goes_62  (fun c0 => ?_) (fun c0 => ?_)
  · rw [if_pos c0] at h
    exact b_F_goes_69 h
  · rw [if_neg c0] at h
    exact b_F_goes_65 h
theorem d_F_isWithin_0 {d : Nat} {Rf : Int32 → ab_S → Prop} {x0 : Int32} {x1 : Int32} {x2 : Int32} {σ : ab_S}  (h : S_F_isWithin_15 d Rf (if x0 < x1 then 0 else (if x2 < x0 then 0 else 1)) σ) : S_F_isWithin_0 d Rf x0 x1 x2 σ := by
  refine b_F_isWithin_0  (fun c0 => ?_) (fun c0 => ?_)
  · rw [if_pos c0] at h
    exact b_F_isWithin_14 h
  · rw [if_neg c0] at h
    refine b_F_isWithin_5  (fun c1 => ?_) (fun c1 => ?_)
    · rw [if_pos c1] at h
      exact b_F_isWithin_14 h
    · rw [if_neg c1] at h
      exact b_F_isWithin_10 h
theorem d_F_isWithin_5 {d : Nat} {Rf : Int32 → ab_S → Prop} {x0 : Int32} {x2 : Int32} {σ : ab_S}  (h : S_F_isWithin_15 d Rf (if x2 < x0 then 0 else 1) σ) : S_F_isWithin_5 d Rf x0 x2 σ := by
  refine b_F_isWithin_5  (fun c0 => ?_) (fun c0 => ?_)
  · rw [if_pos c0] at h
    exact b_F_isWithin_14 h
  · rw [if_neg c0] at h
    exact b_F_isWithin_10 h
theorem d_F_isToldStep_36 {d : Nat} {Rf : Int32 → ab_S → Prop} {s0 : Int32} {σ : ab_S}  (h : S_F_isToldStep_44 d Rf (if s0 = 0 then 0 else 1) σ) : S_F_isToldStep_36 d Rf s0 σ := by
  refine b_F_isToldStep_36  (fun c0 => ?_) (fun c0 => ?_)
  · rw [if_pos c0] at h
    exact b_F_isToldStep_43 h
  · rw [if_neg c0] at h
    exact b_F_isToldStep_39 h
theorem d_F_worthBehind_11 {d : Nat} {Rf : Int32 → ab_S → Prop} {x6 : Int32} {σ : ab_S}  (h : S_F_worthBehind_23 d Rf (if x6 = 2 then 99 else 0) σ) : S_F_worthBehind_11 d Rf x6 σ := by
  refine b_F_worthBehind_11  (fun c0 => ?_) (fun c0 => ?_)
  · rw [if_pos c0] at h
    exact b_F_worthBehind_17 h
  · rw [if_neg c0] at h
    exact b_F_worthBehind_22 h
theorem d_F_evenestStep_0 {d : Nat} {Rf : Int32 → ab_S → Prop} {x0 : Int32} {x1 : Int32} {σ : ab_S}  (h : S_F_evenestStep_21 d Rf x0 x1 (if x0 = 0 then 0 else (if x1 = 0 then 500 else 2000)) σ) : S_F_evenestStep_0 d Rf x0 x1 σ := by
  refine b_F_evenestStep_0  (fun c0 => ?_) (fun c0 => ?_)
  · rw [if_pos c0] at h
    exact b_F_evenestStep_4 h
  · rw [if_neg c0] at h
    refine b_F_evenestStep_8  (fun c1 => ?_) (fun c1 => ?_)
    · rw [if_pos c1] at h
      exact b_F_evenestStep_18 h
    · rw [if_neg c1] at h
      exact b_F_evenestStep_12 h
theorem d_F_evenestStep_8 {d : Nat} {Rf : Int32 → ab_S → Prop} {x0 : Int32} {x1 : Int32} {σ : ab_S}  (h : S_F_evenestStep_21 d Rf x0 x1 (if x1 = 0 then 500 else 2000) σ) : S_F_evenestStep_8 d Rf x0 x1 σ := by
  refine b_F_evenestStep_8  (fun c0 => ?_) (fun c0 => ?_)
  · rw [if_pos c0] at h
    exact b_F_evenestStep_18 h
  · rw [if_neg c0] at h
    exact b_F_evenestStep_12 h
theorem d_M_in_0 {d : Nat} {Rf : Int32 → ab_S → Prop} {x0 : Int64} {x2 : Int64} {x4 : Int64} {σ : ab_S}  (h : S_M_in_18 d Rf (if (lg_cmp x0 x2) < 0 then 0 else (if 0 < (lg_cmp x0 x4) then 0 else 1)) σ) : S_M_in_0 d Rf x0 x2 x4 σ := by
  refine b_M_in_0  (fun c0 => ?_) (fun c0 => ?_)
  · rw [if_pos c0] at h
    exact b_M_in_17 h
  · rw [if_neg c0] at h
    refine b_M_in_6  (fun c1 => ?_) (fun c1 => ?_)
    · rw [if_pos c1] at h
      exact b_M_in_17 h
    · rw [if_neg c1] at h
      exact b_M_in_13 h
theorem d_M_in_6 {d : Nat} {Rf : Int32 → ab_S → Prop} {x0 : Int64} {x4 : Int64} {σ : ab_S}  (h : S_M_in_18 d Rf (if 0 < (lg_cmp x0 x4) then 0 else 1) σ) : S_M_in_6 d Rf x0 x4 σ := by
  refine b_M_in_6  (fun c0 => ?_) (fun c0 => ?_)
  · rw [if_pos c0] at h
    exact b_M_in_17 h
  · rw [if_neg c0] at h
    exact b_M_in_13 h
theorem d_M_has_0 {d : Nat} {Rf : Int32 → ab_S → Prop} {x0 : Int32} {x1 : Int32} {σ : ab_S}  (h : S_M_has_14 d Rf (if ((x0 >>> (x1 &&& 31)) &&& 1) = 1 then 1 else 0) σ) : S_M_has_0 d Rf x0 x1 σ := by
  refine b_M_has_0  (fun c0 => ?_) (fun c0 => ?_)
  · rw [if_pos c0] at h
    exact b_M_has_9 h
  · rw [if_neg c0] at h
    exact b_M_has_13 h
theorem d_M_plainFox_8 {d : Nat} {Rf : Int32 → ab_S → Prop} {s0 : Int32} {s1 : Int32} {σ : ab_S}  (h : S_M_plainFox_18 d Rf (if (s1 + s0) = 1 then 1 else 0) σ) : S_M_plainFox_8 d Rf s0 s1 σ := by
  refine b_M_plainFox_8  (fun c0 => ?_) (fun c0 => ?_)
  · rw [if_pos c0] at h
    exact b_M_plainFox_13 h
  · rw [if_neg c0] at h
    exact b_M_plainFox_17 h
theorem d_M_slyFox_20 {d : Nat} {Rf : Int32 → ab_S → Prop} {s0 : Int32} {σ : ab_S}  (h : S_M_slyFox_29 d Rf (if s0 = 1 then 1 else 0) σ) : S_M_slyFox_20 d Rf s0 σ := by
  refine b_M_slyFox_20  (fun c0 => ?_) (fun c0 => ?_)
  · rw [if_pos c0] at h
    exact b_M_slyFox_24 h
  · rw [if_neg c0] at h
    exact b_M_slyFox_28 h
theorem d_M_leaperFox_32 {d : Nat} {Rf : Int32 → ab_S → Prop} {s0 : Int32} {σ : ab_S}  (h : S_M_leaperFox_41 d Rf (if s0 = 2 then 1 else 0) σ) : S_M_leaperFox_32 d Rf s0 σ := by
  refine b_M_leaperFox_32  (fun c0 => ?_) (fun c0 => ?_)
  · rw [if_pos c0] at h
    exact b_M_leaperFox_36 h
  · rw [if_neg c0] at h
    exact b_M_leaperFox_40 h
theorem d_M_mayFox_55 {d : Nat} {Rf : Int32 → ab_S → Prop} {x2 : Int32} {x3 : Int32} {s0 : Int32} {σ : ab_S}  (h : S_M_mayFox_73 d Rf (if s0 = 0 then 0 else (if (x3 - x3 / 2 * 2) = 0 then 1 else (if x2 = 0 then 1 else 0))) σ) : S_M_mayFox_55 d Rf x2 x3 s0 σ := by
  refine b_M_mayFox_55  (fun c0 => ?_) (fun c0 => ?_)
  · rw [if_pos c0] at h
    exact b_M_mayFox_72 h
  · rw [if_neg c0] at h
    refine b_M_mayFox_58  (fun c1 => ?_) (fun c1 => ?_)
    · rw [if_pos c1] at h
      exact b_M_mayFox_68 h
    · rw [if_neg c1] at h
      refine b_M_mayFox_64  (fun c2 => ?_) (fun c2 => ?_)
      · rw [if_pos c2] at h
        exact b_M_mayFox_68 h
      · rw [if_neg c2] at h
        exact b_M_mayFox_72 h
theorem d_M_mayFox_58 {d : Nat} {Rf : Int32 → ab_S → Prop} {x2 : Int32} {x3 : Int32} {σ : ab_S}  (h : S_M_mayFox_73 d Rf (if (x3 - x3 / 2 * 2) = 0 then 1 else (if x2 = 0 then 1 else 0)) σ) : S_M_mayFox_58 d Rf x2 x3 σ := by
  refine b_M_mayFox_58  (fun c0 => ?_) (fun c0 => ?_)
  · rw [if_pos c0] at h
    exact b_M_mayFox_68 h
  · rw [if_neg c0] at h
    refine b_M_mayFox_64  (fun c1 => ?_) (fun c1 => ?_)
    · rw [if_pos c1] at h
      exact b_M_mayFox_68 h
    · rw [if_neg c1] at h
      exact b_M_mayFox_72 h
theorem d_M_mayFox_64 {d : Nat} {Rf : Int32 → ab_S → Prop} {x2 : Int32} {σ : ab_S}  (h : S_M_mayFox_73 d Rf (if x2 = 0 then 1 else 0) σ) : S_M_mayFox_64 d Rf x2 σ := by
  refine b_M_mayFox_64  (fun c0 => ?_) (fun c0 => ?_)
  · rw [if_pos c0] at h
    exact b_M_mayFox_68 h
  · rw [if_neg c0] at h
    exact b_M_mayFox_72 h
theorem d_M_mayFox_101 {d : Nat} {Rf : Int32 → ab_S → Prop} {s0 : Int32} {σ : ab_S}  (h : S_M_mayFox_110 d Rf (if s0 = 2 then 1 else 0) σ) : S_M_mayFox_101 d Rf s0 σ := by
  refine b_M_mayFox_101  (fun c0 => ?_) (fun c0 => ?_)
  · rw [if_pos c0] at h
    exact b_M_mayFox_105 h
  · rw [if_neg c0] at h
    exact b_M_mayFox_109 h
theorem d_M_plainGoose_17 {d : Nat} {Rf : Int32 → ab_S → Prop} {s0 : Int32} {σ : ab_S}  (h : S_M_plainGoose_26 d Rf (if s0 = 1 then 1 else 0) σ) : S_M_plainGoose_17 d Rf s0 σ := by
  refine b_M_plainGoose_17  (fun c0 => ?_) (fun c0 => ?_)
  · rw [if_pos c0] at h
    exact b_M_plainGoose_21 h
  · rw [if_neg c0] at h
    exact b_M_plainGoose_25 h
theorem d_M_boldGoose_17 {d : Nat} {Rf : Int32 → ab_S → Prop} {s0 : Int32} {σ : ab_S}  (h : S_M_boldGoose_26 d Rf (if s0 = 1 then 1 else 0) σ) : S_M_boldGoose_17 d Rf s0 σ := by
  refine b_M_boldGoose_17  (fun c0 => ?_) (fun c0 => ?_)
  · rw [if_pos c0] at h
    exact b_M_boldGoose_21 h
  · rw [if_neg c0] at h
    exact b_M_boldGoose_25 h
theorem d_M_shyGoose_5 {d : Nat} {Rf : Int32 → ab_S → Prop} {x1 : Int32} {x2 : Int32} {s0 : Int32} {σ : ab_S}  (h : S_M_shyGoose_25 d Rf (if s0 = 0 then 0 else (if (x2 - x2 / 4 * 4) < 2 then 1 else (if x1 = 1 then 1 else 0))) σ) : S_M_shyGoose_5 d Rf x1 x2 s0 σ := by
  refine b_M_shyGoose_5  (fun c0 => ?_) (fun c0 => ?_)
  · rw [if_pos c0] at h
    exact b_M_shyGoose_24 h
  · rw [if_neg c0] at h
    refine b_M_shyGoose_8  (fun c1 => ?_) (fun c1 => ?_)
    · rw [if_pos c1] at h
      exact b_M_shyGoose_20 h
    · rw [if_neg c1] at h
      refine b_M_shyGoose_15  (fun c2 => ?_) (fun c2 => ?_)
      · rw [if_pos c2] at h
        exact b_M_shyGoose_20 h
      · rw [if_neg c2] at h
        exact b_M_shyGoose_24 h
theorem d_M_shyGoose_8 {d : Nat} {Rf : Int32 → ab_S → Prop} {x1 : Int32} {x2 : Int32} {σ : ab_S}  (h : S_M_shyGoose_25 d Rf (if (x2 - x2 / 4 * 4) < 2 then 1 else (if x1 = 1 then 1 else 0)) σ) : S_M_shyGoose_8 d Rf x1 x2 σ := by
  refine b_M_shyGoose_8  (fun c0 => ?_) (fun c0 => ?_)
  · rw [if_pos c0] at h
    exact b_M_shyGoose_20 h
  · rw [if_neg c0] at h
    refine b_M_shyGoose_15  (fun c1 => ?_) (fun c1 => ?_)
    · rw [if_pos c1] at h
      exact b_M_shyGoose_20 h
    · rw [if_neg c1] at h
      exact b_M_shyGoose_24 h
theorem d_M_shyGoose_15 {d : Nat} {Rf : Int32 → ab_S → Prop} {x1 : Int32} {σ : ab_S}  (h : S_M_shyGoose_25 d Rf (if x1 = 1 then 1 else 0) σ) : S_M_shyGoose_15 d Rf x1 σ := by
  refine b_M_shyGoose_15  (fun c0 => ?_) (fun c0 => ?_)
  · rw [if_pos c0] at h
    exact b_M_shyGoose_20 h
  · rw [if_neg c0] at h
    exact b_M_shyGoose_24 h
theorem d_M_mayGoose_54 {d : Nat} {Rf : Int32 → ab_S → Prop} {x1 : Int32} {x2 : Int32} {s0 : Int32} {σ : ab_S}  (h : S_M_mayGoose_71 d Rf (if s0 = 0 then (if x1 = 0 then (if x2 = (-1) then 1 else 0) else 0) else 1) σ) : S_M_mayGoose_54 d Rf x1 x2 s0 σ := by
  refine b_M_mayGoose_54  (fun c0 => ?_) (fun c0 => ?_)
  · rw [if_pos c0] at h
    refine b_M_mayGoose_57  (fun c1 => ?_) (fun c1 => ?_)
    · rw [if_pos c1] at h
      refine b_M_mayGoose_61  (fun c2 => ?_) (fun c2 => ?_)
      · rw [if_pos c2] at h
        exact b_M_mayGoose_66 h
      · rw [if_neg c2] at h
        exact b_M_mayGoose_70 h
    · rw [if_neg c1] at h
      exact b_M_mayGoose_70 h
  · rw [if_neg c0] at h
    exact b_M_mayGoose_66 h
theorem d_M_mayGoose_57 {d : Nat} {Rf : Int32 → ab_S → Prop} {x1 : Int32} {x2 : Int32} {σ : ab_S}  (h : S_M_mayGoose_71 d Rf (if x1 = 0 then (if x2 = (-1) then 1 else 0) else 0) σ) : S_M_mayGoose_57 d Rf x1 x2 σ := by
  refine b_M_mayGoose_57  (fun c0 => ?_) (fun c0 => ?_)
  · rw [if_pos c0] at h
    refine b_M_mayGoose_61  (fun c1 => ?_) (fun c1 => ?_)
    · rw [if_pos c1] at h
      exact b_M_mayGoose_66 h
    · rw [if_neg c1] at h
      exact b_M_mayGoose_70 h
  · rw [if_neg c0] at h
    exact b_M_mayGoose_70 h
theorem d_M_mayGoose_61 {d : Nat} {Rf : Int32 → ab_S → Prop} {x2 : Int32} {σ : ab_S}  (h : S_M_mayGoose_71 d Rf (if x2 = (-1) then 1 else 0) σ) : S_M_mayGoose_61 d Rf x2 σ := by
  refine b_M_mayGoose_61  (fun c0 => ?_) (fun c0 => ?_)
  · rw [if_pos c0] at h
    exact b_M_mayGoose_66 h
  · rw [if_neg c0] at h
    exact b_M_mayGoose_70 h
theorem d_M_mayGoose_86 {d : Nat} {Rf : Int32 → ab_S → Prop} {s0 : Int32} {σ : ab_S}  (h : S_M_mayGoose_94 d Rf (if s0 = 0 then 0 else 1) σ) : S_M_mayGoose_86 d Rf s0 σ := by
  refine b_M_mayGoose_86  (fun c0 => ?_) (fun c0 => ?_)
  · rw [if_pos c0] at h
    exact b_M_mayGoose_93 h
  · rw [if_neg c0] at h
    exact b_M_mayGoose_89 h
theorem d_M_mayGoose_100 {d : Nat} {Rf : Int32 → ab_S → Prop} {x2 : Int32} {s0 : Int32} {σ : ab_S}  (h : S_M_mayGoose_113 d Rf (if s0 = 0 then 0 else (if x2 = 1 then 1 else 0)) σ) : S_M_mayGoose_100 d Rf x2 s0 σ := by
  refine b_M_mayGoose_100  (fun c0 => ?_) (fun c0 => ?_)
  · rw [if_pos c0] at h
    exact b_M_mayGoose_112 h
  · rw [if_neg c0] at h
    refine b_M_mayGoose_103  (fun c1 => ?_) (fun c1 => ?_)
    · rw [if_pos c1] at h
      exact b_M_mayGoose_108 h
    · rw [if_neg c1] at h
      exact b_M_mayGoose_112 h
theorem d_M_mayGoose_103 {d : Nat} {Rf : Int32 → ab_S → Prop} {x2 : Int32} {σ : ab_S}  (h : S_M_mayGoose_113 d Rf (if x2 = 1 then 1 else 0) σ) : S_M_mayGoose_103 d Rf x2 σ := by
  refine b_M_mayGoose_103  (fun c0 => ?_) (fun c0 => ?_)
  · rw [if_pos c0] at h
    exact b_M_mayGoose_108 h
  · rw [if_neg c0] at h
    exact b_M_mayGoose_112 h
theorem d_M_isFree_33 {d : Nat} {Rf : Int32 → ab_S → Prop} {s0 : Int32} {σ : ab_S}  (h : S_M_isFree_41 d Rf (if s0 = 0 then 1 else 0) σ) : S_M_isFree_33 d Rf s0 σ := by
  refine b_M_isFree_33  (fun c0 => ?_) (fun c0 => ?_)
  · rw [if_pos c0] at h
    exact b_M_isFree_36 h
  · rw [if_neg c0] at h
    exact b_M_isFree_40 h
theorem d_M_mayGo_122 {d : Nat} {Rf : Int32 → ab_S → Prop} {s0 : Int32} {s1 : Int32} {s2 : Int32} {s3 : Int32} {s4 : Int32} {σ : ab_S}  (h : S_M_mayGo_130 d Rf (if s0 < 0 then 0 else 1) s1 s2 s3 s4 σ) : S_M_mayGo_122 d Rf s0 s1 s2 s3 s4 σ := by
  refine b_M_mayGo_122  (fun c0 => ?_) (fun c0 => ?_)
  · rw [if_pos c0] at h
    exact b_M_mayGo_129 h
  · rw [if_neg c0] at h
    exact b_M_mayGo_125 h
theorem d_M_howOf_42 {d : Nat} {Rf : Int32 → ab_S → Prop} {s0 : Int32} {σ : ab_S}  (h : S_M_howOf_50 d Rf (if s0 = 0 then 1 else 0) σ) : S_M_howOf_42 d Rf s0 σ := by
  refine b_M_howOf_42  (fun c0 => ?_) (fun c0 => ?_)
  · rw [if_pos c0] at h
    exact b_M_howOf_45 h
  · rw [if_neg c0] at h
    exact b_M_howOf_49 h
theorem d_M_geeseCan_35 {d : Nat} {Rf : Int32 → ab_S → Prop} {x1 : Int32} {x3 : Int32} {s0 : Int32} {σ : ab_S}  (h : S_M_geeseCan_43 d Rf x1 x3 (if s0 = 0 then 0 else 1) σ) : S_M_geeseCan_35 d Rf x1 x3 s0 σ := by
  refine b_M_geeseCan_35  (fun c0 => ?_) (fun c0 => ?_)
  · rw [if_pos c0] at h
    exact b_M_geeseCan_42 h
  · rw [if_neg c0] at h
    exact b_M_geeseCan_38 h
theorem d_M_foxGoes_45 {d : Nat} {Rf : Int32 → ab_S → Prop} {x3 : Int32} {σ : ab_S}  (h : S_M_foxGoes_54 d Rf (if x3 < 0 then 0 else 1) σ) : S_M_foxGoes_45 d Rf x3 σ := by
  refine b_M_foxGoes_45  (fun c0 => ?_) (fun c0 => ?_)
  · rw [if_pos c0] at h
    exact b_M_foxGoes_53 h
  · rw [if_neg c0] at h
    exact b_M_foxGoes_49 h
theorem d_M_mayMove_37 {d : Nat} {Rf : Int32 → ab_S → Prop} {s0 : Int32} {σ : ab_S}  (h : S_M_mayMove_45 d Rf (if s0 = 0 then 0 else 1) σ) : S_M_mayMove_37 d Rf s0 σ := by
  refine b_M_mayMove_37  (fun c0 => ?_) (fun c0 => ?_)
  · rw [if_pos c0] at h
    exact b_M_mayMove_44 h
  · rw [if_neg c0] at h
    exact b_M_mayMove_40 h
theorem d_M_mayPass_25 {d : Nat} {Rf : Int32 → ab_S → Prop} {s0 : Int32} {σ : ab_S}  (h : S_M_mayPass_33 d Rf (if s0 = 0 then 1 else 0) σ) : S_M_mayPass_25 d Rf s0 σ := by
  refine b_M_mayPass_25  (fun c0 => ?_) (fun c0 => ?_)
  · rw [if_pos c0] at h
    exact b_M_mayPass_28 h
  · rw [if_neg c0] at h
    exact b_M_mayPass_32 h
theorem d_M_isWord_90 {d : Nat} {Rf : Int32 → ab_S → Prop} {x8 : Int32} {s0 : Int32} {σ : ab_S}  (h : S_M_isWord_105 d Rf (if s0 = 0 then 0 else (if 8 ≤ x8 then 0 else 1)) σ) : S_M_isWord_90 d Rf x8 s0 σ := by
  refine b_M_isWord_90  (fun c0 => ?_) (fun c0 => ?_)
  · rw [if_pos c0] at h
    exact b_M_isWord_104 h
  · rw [if_neg c0] at h
    refine b_M_isWord_93  (fun c1 => ?_) (fun c1 => ?_)
    · rw [if_pos c1] at h
      exact b_M_isWord_104 h
    · rw [if_neg c1] at h
      exact b_M_isWord_100 h
theorem d_M_isWord_93 {d : Nat} {Rf : Int32 → ab_S → Prop} {x8 : Int32} {σ : ab_S}  (h : S_M_isWord_105 d Rf (if 8 ≤ x8 then 0 else 1) σ) : S_M_isWord_93 d Rf x8 σ := by
  refine b_M_isWord_93  (fun c0 => ?_) (fun c0 => ?_)
  · rw [if_pos c0] at h
    exact b_M_isWord_104 h
  · rw [if_neg c0] at h
    exact b_M_isWord_100 h
theorem d_M_isLetter_4 {d : Nat} {Rf : Int32 → ab_S → Prop} {x1 : Int32} {x3 : Int32} {σ : ab_S}  (h : S_M_isLetter_42 d Rf (if x1 < x3 then 0 else 1) σ) : S_M_isLetter_4 d Rf x1 x3 σ := by
  refine b_M_isLetter_4  (fun c0 => ?_) (fun c0 => ?_)
  · rw [if_pos c0] at h
    exact b_M_isLetter_13 h
  · rw [if_neg c0] at h
    exact b_M_isLetter_9 h
theorem d_M_wordOf_150 {d : Nat} {Rf : Int32 → ab_S → Prop} {s0 : Int32} {σ : ab_S}  (h : S_M_wordOf_159 d Rf (if s0 = 0 then 0 else 7) σ) : S_M_wordOf_150 d Rf s0 σ := by
  refine b_M_wordOf_150  (fun c0 => ?_) (fun c0 => ?_)
  · rw [if_pos c0] at h
    exact b_M_wordOf_158 h
  · rw [if_neg c0] at h
    exact b_M_wordOf_153 h
theorem d_M_takesNumber_118 {d : Nat} {Rf : Int32 → ab_S → Prop} {s0 : Int32} {σ : ab_S}  (h : S_M_takesNumber_126 d Rf (if s0 = 0 then 0 else 1) σ) : S_M_takesNumber_118 d Rf s0 σ := by
  refine b_M_takesNumber_118  (fun c0 => ?_) (fun c0 => ?_)
  · rw [if_pos c0] at h
    exact b_M_takesNumber_125 h
  · rw [if_neg c0] at h
    exact b_M_takesNumber_121 h
theorem d_M_takesEnd_22 {d : Nat} {Rf : Int32 → ab_S → Prop} {s0 : Int32} {σ : ab_S}  (h : S_M_takesEnd_32 d Rf (if s0 = 59 then 1 else 0) σ) : S_M_takesEnd_22 d Rf s0 σ := by
  refine b_M_takesEnd_22  (fun c0 => ?_) (fun c0 => ?_)
  · rw [if_pos c0] at h
    exact b_M_takesEnd_27 h
  · rw [if_neg c0] at h
    exact b_M_takesEnd_31 h
theorem d_M_readsGo_35 {d : Nat} {Rf : Int32 → ab_S → Prop} {s0 : Int32} {σ : ab_S}  (h : S_M_readsGo_45 d Rf (if s0 < 0 then 0 else 1) σ) : S_M_readsGo_35 d Rf s0 σ := by
  refine b_M_readsGo_35  (fun c0 => ?_) (fun c0 => ?_)
  · rw [if_pos c0] at h
    exact b_M_readsGo_44 h
  · rw [if_neg c0] at h
    exact b_M_readsGo_40 h
theorem d_M_readsItem_8 {d : Nat} {Rf : Int32 → ab_S → Prop} {x1 : Int32} {s0 : Int32} {σ : ab_S}  (h : S_M_readsItem_20 d Rf s0 (if s0 = 1 then 1 else 0) x1 σ) : S_M_readsItem_8 d Rf x1 s0 σ := by
  refine b_M_readsItem_8  (fun c0 => ?_) (fun c0 => ?_)
  · rw [if_pos c0] at h
    exact b_M_readsItem_15 h
  · rw [if_neg c0] at h
    exact b_M_readsItem_19 h
theorem d_M_readsItem_108 {d : Nat} {Rf : Int32 → ab_S → Prop} {s0 : Int32} {σ : ab_S}  (h : S_M_readsItem_116 d Rf (if s0 = 0 then 0 else 1) σ) : S_M_readsItem_108 d Rf s0 σ := by
  refine b_M_readsItem_108  (fun c0 => ?_) (fun c0 => ?_)
  · rw [if_pos c0] at h
    exact b_M_readsItem_115 h
  · rw [if_neg c0] at h
    exact b_M_readsItem_111 h
theorem d_M_readsItem_125 {d : Nat} {Rf : Int32 → ab_S → Prop} {s0 : Int32} {σ : ab_S}  (h : S_M_readsItem_133 d Rf (if s0 = 0 then 0 else 1) σ) : S_M_readsItem_125 d Rf s0 σ := by
  refine b_M_readsItem_125  (fun c0 => ?_) (fun c0 => ?_)
  · rw [if_pos c0] at h
    exact b_M_readsItem_132 h
  · rw [if_neg c0] at h
    exact b_M_readsItem_128 h
theorem d_M_read_39 {d : Nat} {Rf : Int32 → ab_S → Prop} {x1 : Int32} {σ : ab_S}  (h : S_M_read_49 d Rf x1 (if x1 = 0 then 1 else 0) σ) : S_M_read_39 d Rf x1 σ := by
  refine b_M_read_39  (fun c0 => ?_) (fun c0 => ?_)
  · rw [if_pos c0] at h
    exact b_M_read_44 h
  · rw [if_neg c0] at h
    exact b_M_read_48 h
theorem d_M_of_56 {d : Nat} {Rf : Int32 → ab_S → Prop} {x1 : Int32} {x2 : Int32} {σ : ab_S}  (h : S_M_of_71 d Rf x1 (if x2 = 0 then 8 else 12) σ) : S_M_of_56 d Rf x1 x2 σ := by
  refine b_M_of_56  (fun c0 => ?_) (fun c0 => ?_)
  · rw [if_pos c0] at h
    exact b_M_of_64 h
  · rw [if_neg c0] at h
    exact b_M_of_69 h
theorem d_M_luckOf_131 {d : Nat} {Rf : Int64 → ab_S → Prop} {x1 : Int32} {x2 : Int64} {x4 : Int32} {x5 : Int32} {x6 : Int32} {x7 : Int32} {s0 : Int32} {σ : ab_S}  (h : S_M_luckOf_149 d Rf x1 x2 x4 x5 x6 x7 s0 (if x6 = 0 then (if x4 = x1 then 1 else 0) else 1) σ) : S_M_luckOf_131 d Rf x1 x2 x4 x5 x6 x7 s0 σ := by
  refine b_M_luckOf_131  (fun c0 => ?_) (fun c0 => ?_)
  · rw [if_pos c0] at h
    refine b_M_luckOf_138  (fun c1 => ?_) (fun c1 => ?_)
    · rw [if_pos c1] at h
      exact b_M_luckOf_144 h
    · rw [if_neg c1] at h
      exact b_M_luckOf_148 h
  · rw [if_neg c0] at h
    exact b_M_luckOf_144 h
theorem d_M_luckOf_138 {d : Nat} {Rf : Int64 → ab_S → Prop} {x1 : Int32} {x2 : Int64} {x4 : Int32} {x5 : Int32} {x6 : Int32} {x7 : Int32} {x8 : Int32} {σ : ab_S}  (h : S_M_luckOf_149 d Rf x1 x2 x4 x5 x6 x7 x8 (if x4 = x1 then 1 else 0) σ) : S_M_luckOf_138 d Rf x1 x2 x4 x5 x6 x7 x8 σ := by
  refine b_M_luckOf_138  (fun c0 => ?_) (fun c0 => ?_)
  · rw [if_pos c0] at h
    exact b_M_luckOf_144 h
  · rw [if_neg c0] at h
    exact b_M_luckOf_148 h
theorem d_M_isStep_37 {d : Nat} {Rf : Int32 → ab_S → Prop} {s0 : Int32} {σ : ab_S}  (h : S_M_isStep_45 d Rf (if s0 = 0 then 0 else 1) σ) : S_M_isStep_37 d Rf s0 σ := by
  refine b_M_isStep_37  (fun c0 => ?_) (fun c0 => ?_)
  · rw [if_pos c0] at h
    exact b_M_isStep_44 h
  · rw [if_neg c0] at h
    exact b_M_isStep_40 h
theorem d_M_forget_17 {d : Nat} {Rf : Int32 → ab_S → Prop} {x1 : Int32} {σ : ab_S}  (h : S_M_forget_28 d Rf (if x1 = 0 then 16 else 47) σ) : S_M_forget_17 d Rf x1 σ := by
  refine b_M_forget_17  (fun c0 => ?_) (fun c0 => ?_)
  · rw [if_pos c0] at h
    exact b_M_forget_21 h
  · rw [if_neg c0] at h
    exact b_M_forget_26 h
theorem d_M_look_71 {d : Nat} {Rf : Int32 → ab_S → Prop} {x1 : Int32} {x2 : Int32} {x3 : Int32} {x4 : Int32} {x5 : Int32} {x6 : Int32} {x7 : Int32} {x9 : Int32} {s0 : Int32} {σ : ab_S}  (h : S_M_look_97 d Rf x1 x2 x3 x4 x5 x6 x7 x9 (if x5 = 1 then 1 else 0) (x4 - x4 / 6 * 6) (x7 - 2) (x6 - 2) x9 s0 σ) : S_M_look_71 d Rf x1 x2 x3 x4 x5 x6 x7 x9 s0 σ := by
  refine b_M_look_71  (fun c0 => ?_) (fun c0 => ?_)
  · rw [if_pos c0] at h
    exact b_M_look_92 h
  · rw [if_neg c0] at h
    exact b_M_look_96 h
theorem d_M_look_100 {d : Nat} {Rf : Int32 → ab_S → Prop} {x1 : Int32} {x2 : Int32} {x3 : Int32} {x4 : Int32} {x5 : Int32} {x6 : Int32} {x7 : Int32} {x9 : Int32} {s0 : Int32} {s1 : Int32} {σ : ab_S}  (h : S_M_look_108 d Rf x1 x2 x3 x4 x5 x6 x7 x9 (if s0 = 0 then 0 else 1) s1 σ) : S_M_look_100 d Rf x1 x2 x3 x4 x5 x6 x7 x9 s0 s1 σ := by
  refine b_M_look_100  (fun c0 => ?_) (fun c0 => ?_)
  · rw [if_pos c0] at h
    exact b_M_look_107 h
  · rw [if_neg c0] at h
    exact b_M_look_103 h
theorem d_M_ask_106 {d : Nat} {Rf : Int32 → ab_S → Prop} {x2 : Int32} {x3 : Int32} {x4 : Int32} {x5 : Int32} {x6 : Int32} {x7 : Int32} {x9 : Int32} {s0 : Int32} {s1 : Int32} {σ : ab_S}  (h : S_M_ask_114 d Rf x2 x3 x4 x5 x6 x7 x9 (if s0 = 0 then 0 else 1) s1 σ) : S_M_ask_106 d Rf x2 x3 x4 x5 x6 x7 x9 s0 s1 σ := by
  refine b_M_ask_106  (fun c0 => ?_) (fun c0 => ?_)
  · rw [if_pos c0] at h
    exact b_M_ask_113 h
  · rw [if_neg c0] at h
    exact b_M_ask_109 h
