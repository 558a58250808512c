/-! reading: bytes, spans, tokens, numbers, words, items -/
abbrev zX : Type := Nat × (Nat → Int32)
def ztb (T : zX) (j : Nat) : Int32 := if j < T.1 then T.2 j else -1
def zbk (x : Int32) : Bool := decide (x = 32)
def zle1 (x : Int32) : Bool := decide (97 ≤ x.toInt ∧ x.toInt ≤ 122)
def zfg (x : Int32) : Bool := decide (48 ≤ x.toInt ∧ x.toInt ≤ 57)
def zspn (p : Int32 → Bool) (T : zX) : Nat → Nat → Nat
  | 0, a => a
  | f + 1, a => if p (ztb T a) = true then zspn p T f (a + 1) else a
def zsp (p : Int32 → Bool) (T : zX) (a : Nat) : Nat := zspn p T (T.1 - a) a
theorem ztb_hi {T : zX} {j : Nat} (h : T.1 ≤ j) : ztb T j = -1 := by unfold ztb; rw [if_neg (by omega)]
theorem ztb_lo {T : zX} {j : Nat} (h : j < T.1) : ztb T j = T.2 j := by unfold ztb; rw [if_pos h]
section SPN
variable {p : Int32 → Bool} {T : zX} {a : Nat}
theorem zspn_b : ∀ f a, a ≤ zspn p T f a ∧ zspn p T f a ≤ a + f
  | 0, a => ⟨Nat.le_refl _, Nat.le_refl _⟩
  | f + 1, a => by
    rw [zspn]
    split
    · have := zspn_b f (a + 1); omega
    · omega
theorem zsp_b (h : a ≤ T.1) : a ≤ zsp p T a ∧ zsp p T a ≤ T.1 := by
  have := zspn_b (p := p) (T := T) (T.1 - a) a
  unfold zsp; omega
theorem zsp_y (h : p (ztb T a) = true) (ha : a < T.1) : zsp p T a = zsp p T (a + 1) := by
  unfold zsp
  rw [show T.1 - a = (T.1 - (a + 1)) + 1 by omega, zspn, if_pos h]
theorem zsp_n (h : p (ztb T a) = false) : zsp p T a = a := by
  unfold zsp
  cases hf : T.1 - a with
  | zero => rfl
  | succ f => rw [zspn, if_neg (by rw [h]; decide)]
theorem zsp_stop (hp : p (-1) = false) : ∀ m a, T.1 - a ≤ m → a ≤ T.1 → p (ztb T (zsp p T a)) = false := by
  intro m
  induction m with
  | zero =>
    intro a h1 h2
    have : a = T.1 := by omega
    subst this
    have e : p (ztb T T.1) = false := by rw [ztb_hi (Nat.le_refl _)]; exact hp
    rw [zsp_n e]; exact e
  | succ m ih =>
    intro a h1 h2
    by_cases q : a = T.1
    · exact ih a (by omega) h2
    cases hb : p (ztb T a) with
    | true => rw [zsp_y hb (by omega)]; exact ih (a + 1) (by omega) (by omega)
    | false => rw [zsp_n hb]; exact hb
theorem zsp_all : ∀ m a, T.1 - a ≤ m → a ≤ T.1 → ∀ j, a ≤ j → j < zsp p T a → p (ztb T j) = true := by
  intro m
  induction m with
  | zero =>
    intro a h1 h2 j h3 h4
    have := zsp_b (p := p) h2
    omega
  | succ m ih =>
    intro a h1 h2 j h3 h4
    by_cases q : a = T.1
    · exact ih a (by omega) h2 j h3 h4
    cases hb : p (ztb T a) with
    | true =>
      by_cases e : j = a
      · rw [e]; exact hb
      · rw [zsp_y hb (by omega)] at h4
        exact ih (a + 1) (by omega) (by omega) j (by omega) h4
    | false => rw [zsp_n hb] at h4; omega
end SPN
theorem zbk_m : zbk (-1) = false := by decide
theorem zle1_m : zle1 (-1) = false := by decide
theorem zfg_m : zfg (-1) = false := by decide
/-- blanks -/
def zsb (T : zX) (a : Nat) : Nat := zsp zbk T a
theorem zsb_b {T : zX} {a : Nat} (h : a ≤ T.1) : a ≤ zsb T a ∧ zsb T a ≤ T.1 := zsp_b h
theorem zsb_y {T : zX} {a : Nat} (h : ztb T a = 32) (ha : a < T.1) : zsb T a = zsb T (a + 1) := zsp_y (p := zbk) (decide_eq_true h) ha
theorem zsb_n {T : zX} {a : Nat} (h : ¬ ztb T a = 32) : zsb T a = a := zsp_n (p := zbk) (decide_eq_false h)
theorem zsb_stop {T : zX} {a : Nat} (h : a ≤ T.1) : ¬ ztb T (zsb T a) = 32 := of_decide_eq_false (zsp_stop (p := zbk) (T := T) zbk_m _ a (Nat.le_refl _) h)
/-- sorts of tokens: 0 end, 1 word, 2 number, 3 stop, 4 other -/
def ztend (T : zX) (s : Nat) : Nat := if T.1 ≤ s then T.1 else if zle1 (ztb T s) = true then zsp zle1 T s else if zfg (ztb T s) = true then zsp zfg T s else s + 1
def ztsort (T : zX) (s : Nat) : Nat := if T.1 ≤ s then 0 else if zle1 (ztb T s) = true then 1 else if zfg (ztb T s) = true then (if zsp zfg T s - s ≤ 2 then 2 else 4) else if ztb T s = 59 then 3 else 4
/-- a figure's number -/
def zfn (T : zX) (s : Nat) : Nat := (ztb T s).toInt.toNat - 48
def znv (T : zX) (s e : Nat) : Nat := if e - s = 1 then zfn T s else 10 * zfn T s + zfn T (s + 1)
/-- a number behind a -/
def znum (T : zX) (a : Nat) : Option (Nat × Nat) := if 1 ≤ zsp zfg T (zsb T a) - zsb T a ∧ zsp zfg T (zsb T a) - zsb T a ≤ 2 then some (znv T (zsb T a) (zsp zfg T (zsb T a)), zsp zfg T (zsb T a)) else none
theorem zfg_n {T : zX} {s : Nat} (h : zfg (ztb T s) = true) : ztb T s = nI (48 + zfn T s) ∧ zfn T s ≤ 9 := by
  unfold zfg at h
  have h := of_decide_eq_true h
  unfold zfn
  refine ⟨?_, by omega⟩
  rw [fa_eq, zn (by omega)]; omega
theorem zfg_le {x : Int32} (h : zfg x = true) : zle1 x = false ∧ ¬ x = 59 ∧ ¬ x = 32 := by
  unfold zfg at h
  have h := of_decide_eq_true h
  refine ⟨by unfold zle1; exact decide_eq_false (by omega), fun e => ?_, fun e => ?_⟩ <;> subst e <;> revert h <;> decide
theorem znum_v {T : zX} {a n e : Nat} (h : znum T a = some (n, e)) (ha : a ≤ T.1) : n ≤ 99 ∧ zsb T a < e ∧ e ≤ T.1 ∧ a < e := by
  unfold znum at h
  split at h
  · rename_i q
    have h := Option.some.inj h
    have b1 := zsb_b ha
    have b2 := zsp_b (p := zfg) b1.2
    have he : zsp zfg T (zsb T a) = e := congrArg Prod.snd h
    have hn : znv T (zsb T a) (zsp zfg T (zsb T a)) = n := congrArg Prod.fst h
    have al := zsp_all (p := zfg) (T := T) _ (zsb T a) (Nat.le_refl _) b1.2
    have f0 := (zfg_n (al (zsb T a) (Nat.le_refl _) (by omega))).2
    refine ⟨?_, by omega, by omega, by omega⟩
    rw [← hn]; unfold znv
    split
    · omega
    · have f1 := (zfg_n (al (zsb T a + 1) (by omega) (by omega))).2
      omega
  · cases h
/-- words -/
def zmw (T : zX) (ws : List Int32) (s e : Nat) : Bool := decide (e - s = ws.length) && zall (fun k => decide (ztb T (s + k) = ws.getD k 0)) ws.length
def zwo7 (T : zX) (s e : Nat) : Nat :=
  if zmw T (ab_tx.getD 0 []) s e = true then 1 else if zmw T (ab_tx.getD 1 []) s e = true then 2 else if zmw T (ab_tx.getD 2 []) s e = true then 3 else if zmw T (ab_tx.getD 3 []) s e = true then 4 else if zmw T (ab_tx.getD 4 []) s e = true then 5 else if zmw T (ab_tx.getD 5 []) s e = true then 6 else if zmw T (ab_tx.getD 6 []) s e = true then 7 else 0
/-- what is read, or where the fault is -/
def zbd2 {α β : Type} (x : Sum Nat α) (f : α → Sum Nat β) : Sum Nat β := match x with
  | .inl s => .inl s
  | .inr a => f a
def znb (T : zX) (lo hi a : Nat) : Sum Nat (Nat × Nat) := match znum T a with
  | some (n, e) => if lo ≤ n ∧ n < hi then .inr (n, e) else .inl (zsb T a)
  | none => .inl (zsb T a)
def zparts (T : zX) (w s e : Nat) (B : zB) : Sum Nat (Nat × zB) := match w with
  | 1 => zbd2 (znb T 3 6 e) fun w => zbd2 (znb T 3 6 w.2) fun h => .inr (h.2, zbeg w.1 h.1)
  | 2 => zbd2 (znb T 0 (B 0 * B 1) e) fun c => if zfr B c.1 = true then .inr (c.2, zup B 3 (B 3 ||| 2 ^ c.1)) else .inl (zsb T e)
  | 3 => zbd2 (znb T 0 6 e) fun k => zbd2 (znb T 0 (B 0 * B 1) k.2) fun c => if zff B c.1 = true then .inr (c.2, zup (zup B 4 k.1) 5 c.1) else .inl (zsb T k.2)
  | 4 => if 4 ≤ B 2 then .inl s else zbd2 (znb T 0 6 e) fun k => zbd2 (znb T 0 (B 0 * B 1) k.2) fun c => if zfr B c.1 = true then .inr (c.2, zadd B k.1 c.1) else .inl (zsb T k.2)
  | 5 => zbd2 (znb T 0 (B 0 * B 1) e) fun c => if zmn B 4 c.1 = true then .inr (c.2, zfox B c.1) else .inl (zsb T e)
  | 6 => zbd2 (znb T 0 (B 2) e) fun g => if B (12 + g.1) = 0 then .inl (zsb T e) else zbd2 (znb T 0 (B 0 * B 1) g.2) fun c => if zmn B g.1 c.1 = true then .inr (c.2, zgo B g.1 c.1) else .inl (zsb T g.2)
  | 7 => if zmpn B = true then .inr (e, zend B) else .inl s
  | _ => .inl s
def zitem (T : zX) (i s : Nat) (B : zB) : Sum Nat (Nat × zB) :=
  if (zwo7 T s (zsp zle1 T s) = 1) ↔ i = 0 then zparts T (zwo7 T s (zsp zle1 T s)) s (zsp zle1 T s) B else .inl s
def zstop (T : zX) (x : Sum Nat (Nat × zB)) : Sum Nat (Nat × zB) := zbd2 x fun y => if ztb T (zsb T y.1) = 59 then .inr (zsb T y.1 + 1, y.2) else .inl (zsb T y.1)
def zread (T : zX) : Nat → Nat → Nat → zB → Int32 × Option zB
  | 0, _, _, _ => (0, none)
  | f + 1, a, i, B => if T.1 ≤ zsb T a ∧ 0 < i then (nI i, some B) else match zstop T (zitem T i (zsb T a) B) with
    | .inl s => (-10 - nI s, none)
    | .inr y => zread T f y.1 (i + 1) y.2
theorem znb_inr {T : zX} {lo hi a n e : Nat} (h : znb T lo hi a = .inr (n, e)) : znum T a = some (n, e) ∧ lo ≤ n ∧ n < hi := by
  unfold znb at h
  split at h
  · split at h
    · rename_i q1 q2
      have h := Sum.inr.inj h
      have e1 := congrArg Prod.fst h
      have e2 := congrArg Prod.snd h
      dsimp only at e1 e2
      subst e1; subst e2
      exact ⟨q1, q2⟩
    · cases h
  · cases h
theorem zbd2_inr {α β : Type} {x : Sum Nat α} {f : α → Sum Nat β} {y : β} (h : zbd2 x f = .inr y) : ∃ a, x = .inr a ∧ f a = .inr y := by
  cases x with
  | inl s => cases h
  | inr a => exact ⟨a, rfl, h⟩
theorem zmn_bit {B : zB} {who c : Nat} (h : zmn B who c = true) : (if who = 4 then (zfS B).testBit c else (zgS B who).testBit c) = true := by
  unfold zmn at h
  rw [Bool.and_eq_true] at h
  exact h.2
theorem znb_b {T : zX} {lo hi a : Nat} {y : Nat × Nat} (ha : a ≤ T.1) (h : znb T lo hi a = .inr y) : (lo ≤ y.1 ∧ y.1 < hi) ∧ a < y.2 ∧ y.2 ≤ T.1 := by
  obtain ⟨n, e⟩ := y
  obtain ⟨h1, h2⟩ := znb_inr h
  obtain ⟨-, -, b, c⟩ := znum_v h1 ha
  exact ⟨h2, c, b⟩
/-- what is read is as it may be -/
theorem zparts_V {T : zX} {w s e : Nat} {B : zB} {y : Nat × zB} (he : e ≤ T.1) (hw : w = 1 ∨ zV B) (h7 : B 7 + 1 < 100000) (h : zparts T w s e B = .inr y) : zV y.2 ∧ y.2 7 ≤ B 7 + 1 ∧ e ≤ y.1 ∧ y.1 ≤ T.1 := by
  unfold zparts at h
  split at h
  · obtain ⟨a, h1, h2⟩ := zbd2_inr h
    obtain ⟨b, h3, h4⟩ := zbd2_inr h2
    obtain ⟨a1, a2, a3⟩ := znb_b he h1
    obtain ⟨b1, b2, b3⟩ := znb_b a3 h3
    rw [← Sum.inr.inj h4]
    refine ⟨zbeg_V (by omega) (by omega), ?_, by dsimp only; omega, b3⟩
    show zbeg a.1 b.1 7 ≤ _
    unfold zbeg; simp
  · rcases hw with z | hV
    · omega
    obtain ⟨a, h1, h2⟩ := zbd2_inr h
    obtain ⟨a1, a2, a3⟩ := znb_b he h1
    have h25 := hV.n
    split at h2
    · rename_i q
      rw [← Sum.inr.inj h2]
      exact ⟨zV_thicket hV (by omega) q, by (dsimp only; unfold zup; simp), by dsimp only; omega, a3⟩
    · cases h2
  · rcases hw with z | hV
    · omega
    obtain ⟨a, h1, h2⟩ := zbd2_inr h
    obtain ⟨b, h3, h4⟩ := zbd2_inr h2
    obtain ⟨a1, a2, a3⟩ := znb_b he h1
    obtain ⟨b1, b2, b3⟩ := znb_b a3 h3
    split at h4
    · rename_i q
      rw [← Sum.inr.inj h4]
      exact ⟨zV_fox hV a1.2 b1.2 q, by (dsimp only; unfold zup; simp), by dsimp only; omega, b3⟩
    · cases h4
  · rcases hw with z | hV
    · omega
    split at h
    · cases h
    · rename_i q4
      obtain ⟨a, h1, h2⟩ := zbd2_inr h
      obtain ⟨b, h3, h4⟩ := zbd2_inr h2
      obtain ⟨a1, a2, a3⟩ := znb_b he h1
      obtain ⟨b1, b2, b3⟩ := znb_b a3 h3
      split at h4
      · rename_i q
        rw [← Sum.inr.inj h4]
        refine ⟨zV_goose hV a1.2 b1.2 (by omega) q, ?_, by dsimp only; omega, b3⟩
        show zadd B _ _ 7 ≤ _
        unfold zadd zup
        rw [if_neg (by omega), if_neg (by omega), if_neg (by omega)]; omega
      · cases h4
  · rcases hw with z | hV
    · omega
    obtain ⟨a, h1, h2⟩ := zbd2_inr h
    obtain ⟨a1, a2, a3⟩ := znb_b he h1
    split at h2
    · rename_i q
      rw [← Sum.inr.inj h2]
      have b := zmn_bit q
      rw [if_pos rfl] at b
      obtain ⟨b1, b2⟩ := zfS_bit b
      exact ⟨zV_foxgo hV b1 b2 h7, by show zfox B _ 7 ≤ _; rw [zfox_7]; omega, by dsimp only; omega, a3⟩
    · cases h2
  · rcases hw with z | hV
    · omega
    obtain ⟨a, h1, h2⟩ := zbd2_inr h
    obtain ⟨a1, a2, a3⟩ := znb_b he h1
    have n4 := hV.1.2.2.1
    split at h2
    · cases h2
    · obtain ⟨b, h3, h4⟩ := zbd2_inr h2
      obtain ⟨b1, b2, b3⟩ := znb_b a3 h3
      split at h4
      · rename_i q
        rw [← Sum.inr.inj h4]
        have b := zmn_bit q
        rw [if_neg (by omega)] at b
        obtain ⟨-, c1, c2⟩ := zgS_bit b
        exact ⟨zV_goosego hV a1.2 c1 c2 h7, by show zgo B _ _ 7 ≤ _; rw [zgo_7]; omega, by dsimp only; omega, b3⟩
      · cases h4
  · rcases hw with z | hV
    · omega
    split at h
    · rw [← Sum.inr.inj h]
      exact ⟨zV_end hV h7, Nat.le_refl _, Nat.le_refl _, he⟩
    · cases h
  · cases h
theorem zwo7_le {T : zX} {s e : Nat} : zwo7 T s e ≤ 7 := by
  unfold zwo7
  repeat' split
  all_goals omega
theorem zwo7_0 {T : zX} {s e : Nat} (h : zwo7 T s e ≠ 0) : s + 2 ≤ e := by
  have key : ∀ j, j < 7 → zmw T (ab_tx.getD j []) s e = true → s + 2 ≤ e := by
    intro j hj q
    unfold zmw at q
    rw [Bool.and_eq_true, decide_eq_true_eq] at q
    have l : ∀ j, j < 7 → 2 ≤ (ab_tx.getD j []).length := by decide
    have l := l j hj
    omega
  unfold zwo7 at h
  split at h
  · exact key 0 (by omega) (by assumption)
  split at h
  · exact key 1 (by omega) (by assumption)
  split at h
  · exact key 2 (by omega) (by assumption)
  split at h
  · exact key 3 (by omega) (by assumption)
  split at h
  · exact key 4 (by omega) (by assumption)
  split at h
  · exact key 5 (by omega) (by assumption)
  split at h
  · exact key 6 (by omega) (by assumption)
  exact absurd rfl h
theorem zitem_V {T : zX} {i s : Nat} {B : zB} {y : Nat × zB} (hs : s ≤ T.1) (hi : i = 0 ∨ zV B) (h7 : B 7 + 1 < 100000) (h : zitem T i s B = .inr y) : zV y.2 ∧ y.2 7 ≤ B 7 + 1 ∧ s + 2 ≤ y.1 ∧ y.1 ≤ T.1 := by
  have hb := zsp_b (p := zle1) hs
  unfold zitem at h
  split at h
  · rename_i q
    have h0 : zwo7 T s (zsp zle1 T s) ≠ 0 := fun z => by rw [z] at h; cases h
    have := zwo7_0 h0
    obtain ⟨a, b, c, d⟩ := zparts_V hb.2 (by rcases hi with z | z; exact Or.inl (q.mpr z); exact Or.inr z) h7 h
    exact ⟨a, b, by omega, d⟩
  · cases h
theorem zstop_V {T : zX} {i s : Nat} {B : zB} {y : Nat × zB} (hs : s ≤ T.1) (hi : i = 0 ∨ zV B) (h7 : B 7 + 1 < 100000) (h : zstop T (zitem T i s B) = .inr y) : zV y.2 ∧ y.2 7 ≤ B 7 + 1 ∧ s + 2 ≤ y.1 ∧ y.1 ≤ T.1 := by
  obtain ⟨a, h1, h2⟩ := zbd2_inr h
  obtain ⟨v1, v2, v3, v4⟩ := zitem_V hs hi h7 h1
  have hb := zsb_b v4
  split at h2
  · rename_i q
    rw [← Sum.inr.inj h2]
    refine ⟨v1, v2, by dsimp only; omega, ?_⟩
    rcases Nat.lt_or_ge (zsb T a.1) T.1 with z | z
    · exact z
    · rw [ztb_hi z] at q; exact absurd q (by decide)
  · cases h2
theorem zbd2_inl {α β : Type} {x : Sum Nat α} {f : α → Sum Nat β} {y : Nat} (h : zbd2 x f = .inl y) : x = .inl y ∨ ∃ a, x = .inr a ∧ f a = .inl y := by
  cases x with
  | inl s => exact Or.inl (congrArg Sum.inl (Sum.inl.inj h))
  | inr a => exact Or.inr ⟨a, rfl, h⟩
theorem znb_f {T : zX} {lo hi a y : Nat} (ha : a ≤ T.1) (h : znb T lo hi a = .inl y) : y ≤ T.1 := by
  have hb := zsb_b ha
  unfold znb at h
  split at h
  · split at h
    · cases h
    · have := Sum.inl.inj h; omega
  · have := Sum.inl.inj h; omega
theorem zparts_F {T : zX} {w s e y : Nat} {B : zB} (hs : s ≤ T.1) (he : e ≤ T.1) (h : zparts T w s e B = .inl y) : y ≤ T.1 := by
  have hb := zsb_b he
  unfold zparts at h
  split at h
  · rcases zbd2_inl h with h1 | ⟨a, h1, h2⟩
    · exact znb_f he h1
    · rcases zbd2_inl h2 with h3 | ⟨b, h3, h4⟩
      · exact znb_f (znb_b he h1).2.2 h3
      · cases h4
  · rcases zbd2_inl h with h1 | ⟨a, h1, h2⟩
    · exact znb_f he h1
    · split at h2
      · cases h2
      · have := Sum.inl.inj h2; omega
  · rcases zbd2_inl h with h1 | ⟨a, h1, h2⟩
    · exact znb_f he h1
    · have ha := (znb_b he h1).2.2
      have hc := zsb_b ha
      rcases zbd2_inl h2 with h3 | ⟨b, h3, h4⟩
      · exact znb_f ha h3
      · split at h4
        · cases h4
        · have := Sum.inl.inj h4; omega
  · split at h
    · have := Sum.inl.inj h; omega
    · rcases zbd2_inl h with h1 | ⟨a, h1, h2⟩
      · exact znb_f he h1
      · have ha := (znb_b he h1).2.2
        have hc := zsb_b ha
        rcases zbd2_inl h2 with h3 | ⟨b, h3, h4⟩
        · exact znb_f ha h3
        · split at h4
          · cases h4
          · have := Sum.inl.inj h4; omega
  · rcases zbd2_inl h with h1 | ⟨a, h1, h2⟩
    · exact znb_f he h1
    · split at h2
      · cases h2
      · have := Sum.inl.inj h2; omega
  · rcases zbd2_inl h with h1 | ⟨a, h1, h2⟩
    · exact znb_f he h1
    · have ha := (znb_b he h1).2.2
      have hc := zsb_b ha
      split at h2
      · have := Sum.inl.inj h2; omega
      · rcases zbd2_inl h2 with h3 | ⟨b, h3, h4⟩
        · exact znb_f ha h3
        · split at h4
          · cases h4
          · have := Sum.inl.inj h4; omega
  · split at h
    · cases h
    · have := Sum.inl.inj h; omega
  · have := Sum.inl.inj h; omega
theorem zstop_F {T : zX} {i s y : Nat} {B : zB} (hs : s ≤ T.1) (hi : i = 0 ∨ zV B) (h7 : B 7 + 1 < 100000) (h : zstop T (zitem T i s B) = .inl y) : y ≤ T.1 := by
  have hb := zsp_b (p := zle1) hs
  rcases zbd2_inl h with h1 | ⟨a, h1, h2⟩
  · unfold zitem at h1
    split at h1
    · exact zparts_F hs hb.2 h1
    · have := Sum.inl.inj h1; omega
  · obtain ⟨v1, v2, v3, v4⟩ := zitem_V hs hi h7 h1
    have hc := zsb_b v4
    split at h2
    · cases h2
    · have := Sum.inl.inj h2; omega
theorem zread_V {T : zX} (hT : T.1 ≤ 150) : ∀ f a i B, f + i = 80 → 2 * i ≤ a → a ≤ T.1 → (i = 0 ∨ zV B) → B 7 ≤ i → (∀ C, (zread T f a i B).2 = some C → zV C ∧ C 7 ≤ 9999 ∧ ∃ j, 0 < j ∧ j ≤ 150 ∧ (zread T f a i B).1 = nI j) ∧ ((zread T f a i B).2 = none → (zread T f a i B).1.toInt ≤ 0)
  | 0, a, i, B, h1, h2, h3, _, _ => by omega
  | f + 1, a, i, B, h1, h2, h3, hi, h7 => by
    have hb := zsb_b h3
    rw [zread]
    split
    · rename_i q
      refine ⟨fun C hC => ?_, fun h => by cases h⟩
      have hC : B = C := Option.some.inj hC
      subst hC
      rcases hi with z | z
      · omega
      · exact ⟨z, by omega, i, q.2, by omega, rfl⟩
    · split
      · rename_i s hz
        refine ⟨fun C hC => (by cases hC), fun _ => ?_⟩
        have hs := zstop_F hb.2 hi (by omega) hz
        show ((-10 : Int32) - nI s).toInt ≤ 0
        rw [fb_subI (by rw [zn (by omega), show (-10 : Int32).toInt = -10 from by decide]; omega) (by rw [zn (by omega), show (-10 : Int32).toInt = -10 from by decide]; omega), zn (by omega), show (-10 : Int32).toInt = -10 from by decide]
        omega
      · rename_i y hz
        obtain ⟨v1, v2, v3, v4⟩ := zstop_V hb.2 hi (by omega) hz
        exact zread_V hT f y.1 (i + 1) y.2 (by omega) (by omega) v4 (Or.inr v1) (by omega)
