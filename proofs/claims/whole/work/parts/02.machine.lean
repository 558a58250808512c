/-! THE ABSTRACT MACHINE: data alone over a fixed shape of 64 cells -/
abbrev ab_S : Type := (Nat → Nat → Int32) × (Nat → Nat → Int64)
abbrev ab_L : Type := List (Option Value)
abbrev ab_K : Type := Nat → ab_L → List Value → ab_S → Prop
abbrev ab_R : Type := Option Value → ab_S → Prop
abbrev ab_C : Type := Nat → List Value → ab_S → ab_R → Prop
abbrev ab_B : Type := ab_L → List Value → ab_S → ab_K → ab_R → Prop
abbrev ab_O : Type := ab_L → List Value → ab_S → Prop
def ab_get : ab_L → Nat → Option Value
  | [], _ => none
  | a :: _, 0 => a
  | _ :: l, n + 1 => ab_get l n
def ab_kil : Option Value → Option Value
  | some (.long _) => none
  | some (.double _) => none
  | o => o
def ab_st1 : ab_L → Nat → Value → ab_L
  | [], _, _ => []
  | _ :: l, 0, v => some v :: l
  | a :: l, 1, v => ab_kil a :: ab_st1 l 0 v
  | a :: l, n + 2, v => a :: ab_st1 l (n + 1) v
def ab_nil : ab_L → ab_L
  | [] => []
  | _ :: l => none :: l
def ab_st2 : ab_L → Nat → Value → ab_L
  | [], _, _ => []
  | _ :: l, 0, v => some v :: ab_nil l
  | a :: l, 1, v => ab_kil a :: ab_st2 l 0 v
  | a :: l, n + 2, v => a :: ab_st2 l (n + 1) v
def ab_wk : ab_L → ab_L → Prop
  | none :: a, _ :: b => ab_wk a b
  | some v :: a, w :: b => w = some v ∧ ab_wk a b
  | [], _ => True
  | _ :: _, [] => False
/-- the machine comes to a return with R -/
def ab_E (T : Nat → ab_B) (R : ab_R) : ab_K := fun pc ls st σ => ∀ K : ab_K, (∀ pc ls st σ (K' : ab_K) (R' : ab_R), (∀ pc ls st σ, K' pc ls st σ → K pc ls st σ) → (∀ v σ, R' v σ → R v σ) → T pc ls st σ K' R' → K pc ls st σ) → (∀ pc a b st σ, ab_wk a b → K pc a st σ → K pc b st σ) → K pc ls st σ
theorem ab_E.step {T : Nat → ab_B} {R : ab_R} {pc : Nat} {ls : ab_L} {st : List Value} {σ : ab_S} (h : T pc ls st σ (ab_E T R) R) : ab_E T R pc ls st σ := fun K h1 h2 => h1 _ _ _ _ (ab_E T R) R (fun _ _ _ _ h => h K h1 h2) (fun _ _ h => h) h
theorem ab_E.weak {T : Nat → ab_B} {R : ab_R} {pc : Nat} {a b : ab_L} {st : List Value} {σ : ab_S} (h : ab_wk a b) (k : ab_E T R pc a st σ) : ab_E T R pc b st σ := fun K h1 h2 => h2 _ _ _ _ _ h (k K h1 h2)
theorem ab_E.wk {T : Nat → ab_B} {R : ab_R} {pc : Nat} {a b : ab_L} {st : List Value} {σ : ab_S} (k : ab_E T R pc a st σ) (h : ab_wk a b) : ab_E T R pc b st σ := ab_E.weak h k
theorem ab_E.mono {T : Nat → ab_B} {R R2 : ab_R} {pc : Nat} {ls : ab_L} {st : List Value} {σ : ab_S} (h : ∀ v σ, R v σ → R2 v σ) (k : ab_E T R pc ls st σ) : ab_E T R2 pc ls st σ := fun K h1 h2 => k K (fun pc ls st σ K' R' hK hR hT => h1 pc ls st σ K' R' hK (fun v σ q => h v σ (hR v σ q)) hT) h2
def ab_look : List (Nat × ab_B) → Nat → ab_B
  | [], _ => fun _ _ _ _ _ => False
  | b :: r, pc => if pc = b.1 then b.2 else ab_look r pc
def ab_en1 (v : Value) (l : ab_L) : ab_L := match v with
  | .long _ => some v :: none :: l
  | .double _ => some v :: none :: l
  | _ => some v :: l
def ab_ent : List Value → ab_L
  | [] => []
  | v :: vs => ab_en1 v (ab_ent vs)
def ab_pad : Nat → ab_L → ab_L
  | 0, l => l
  | n + 1, [] => none :: ab_pad n []
  | n + 1, a :: l => a :: ab_pad n l
def ab_Call (TB : ab_C → Nat → Nat → ab_B) (mx : Nat → Nat) : Nat → ab_C
  | 0 => fun _ _ _ _ => False
  | d + 1 => fun y av σ R => (ab_ent av).length ≤ mx y ∧ ab_E (TB (ab_Call TB mx d) y) R 0 (ab_pad (mx y) (ab_ent av)) [] σ
/-! the shape: (0, class), (1, n) int[n], (2, n) boolean[n], (3, n) long[n], (4, n) Game[n], (5, n) Board[n]; classes 0 Board, 1 Game, 2 Told, 3 Reader, 4 FoxGeese, 5 Model -/
def ab_gm : List (Nat × Nat) := [(0, 1), (0, 0), (1, 4), (1, 4), (0, 2), (1, 30), (0, 2), (1, 30), (1, 56)]
def ab_bd : List (Nat × Nat) := [(0, 0), (1, 4), (1, 4)]
def ab_shL : List (Nat × Nat) := (0, 4) :: ab_gm ++ [(4, 2), (2, 2), (0, 3), (1, 150)] ++ ab_gm ++ [(5, 4), (1, 5), (1, 3)] ++ ab_gm ++ ab_gm ++ ab_bd ++ ab_bd ++ ab_bd ++ ab_bd ++ [(0, 5), (1, 636), (2, 2), (1, 150), (1, 3), (1, 6), (1, 6), (3, 6)]
def ab_sh (k : Nat) : Nat × Nat := ab_shL.getD k (9, 0)
/-- kinds of fields: 0 int, 1 long, o + 2 the cell o places on -/
def ab_fkL : List (List Nat) := [[0, 0, 0, 0, 0, 0, 0, 0, 3, 4], [3, 6, 8, 0, 10], [0, 3], [3, 0, 4, 0, 0, 0], [3, 12, 13, 14, 25, 26, 27, 1, 1], [3, 4, 5, 0, 1, 1, 6, 0, 0, 0, 7, 8, 0, 9, 1]]
def ab_fk (ci i : Nat) : Nat := (ab_fkL.getD ci []).getD i 0
def ab_nf (ci : Nat) : Nat := (ab_fkL.getD ci []).length
def ab_fv (σ : ab_S) (k ci i : Nat) : Value := match ab_fk ci i with
  | 0 => .int (σ.1 k i)
  | 1 => .long (σ.2 k i)
  | o + 2 => .ref (k + o)
def ab_pI (I : Nat → Nat → Int32) (k i : Nat) (v : Int32) : Nat → Nat → Int32 := fun a b => if a = k then (if b = i then v else I a b) else I a b
def ab_pL (I : Nat → Nat → Int64) (k i : Nat) (v : Int64) : Nat → Nat → Int64 := fun a b => if a = k then (if b = i then v else I a b) else I a b
/-! instructions that go on -/
def op_const (v : Value) (ls : ab_L) (st : List Value) (σ : ab_S) (k : ab_O) : Prop := k ls (v :: st) σ
def op_iload (i : Nat) (ls : ab_L) (st : List Value) (σ : ab_S) (k : ab_O) : Prop := match ab_get ls i with
  | some (.int x) => k ls (.int x :: st) σ
  | _ => False
def op_lload (i : Nat) (ls : ab_L) (st : List Value) (σ : ab_S) (k : ab_O) : Prop := match ab_get ls i with
  | some (.long x) => k ls (.long x :: st) σ
  | _ => False
def op_aload (i : Nat) (ls : ab_L) (st : List Value) (σ : ab_S) (k : ab_O) : Prop := match ab_get ls i with
  | some (.ref x) => k ls (.ref x :: st) σ
  | _ => False
def op_istore (i : Nat) (ls : ab_L) (st : List Value) (σ : ab_S) (k : ab_O) : Prop := match st with
  | .int x :: st => k (ab_st1 ls i (.int x)) st σ
  | _ => False
def op_lstore (i : Nat) (ls : ab_L) (st : List Value) (σ : ab_S) (k : ab_O) : Prop := match st with
  | .long x :: st => k (ab_st2 ls i (.long x)) st σ
  | _ => False
def op_astore (i : Nat) (ls : ab_L) (st : List Value) (σ : ab_S) (k : ab_O) : Prop := match st with
  | .ref x :: st => k (ab_st1 ls i (.ref x)) st σ
  | _ => False
def op_iinc (i : Nat) (c : Int32) (ls : ab_L) (st : List Value) (σ : ab_S) (k : ab_O) : Prop := match ab_get ls i with
  | some (.int x) => k (ab_st1 ls i (.int (x + c))) st σ
  | _ => False
def op_ibin (f : Int32 → Int32 → Int32) (ls : ab_L) (st : List Value) (σ : ab_S) (k : ab_O) : Prop := match st with
  | .int y :: .int x :: st => k ls (.int (f x y) :: st) σ
  | _ => False
def op_idv (f : Int32 → Int32 → Int32) (ls : ab_L) (st : List Value) (σ : ab_S) (k : ab_O) : Prop := match st with
  | .int y :: .int x :: st => ¬ y = 0 ∧ k ls (.int (f x y) :: st) σ
  | _ => False
def op_iun (f : Int32 → Int32) (ls : ab_L) (st : List Value) (σ : ab_S) (k : ab_O) : Prop := match st with
  | .int x :: st => k ls (.int (f x) :: st) σ
  | _ => False
def op_lbin (f : Int64 → Int64 → Int64) (ls : ab_L) (st : List Value) (σ : ab_S) (k : ab_O) : Prop := match st with
  | .long y :: .long x :: st => k ls (.long (f x y) :: st) σ
  | _ => False
def op_ldv (f : Int64 → Int64 → Int64) (ls : ab_L) (st : List Value) (σ : ab_S) (k : ab_O) : Prop := match st with
  | .long y :: .long x :: st => ¬ y = 0 ∧ k ls (.long (f x y) :: st) σ
  | _ => False
def op_lcmp (ls : ab_L) (st : List Value) (σ : ab_S) (k : ab_O) : Prop := match st with
  | .long y :: .long x :: st => k ls (.int (lg_cmp x y) :: st) σ
  | _ => False
def op_i2l (ls : ab_L) (st : List Value) (σ : ab_S) (k : ab_O) : Prop := match st with
  | .int x :: st => k ls (.long x.toInt64 :: st) σ
  | _ => False
def op_l2i (ls : ab_L) (st : List Value) (σ : ab_S) (k : ab_O) : Prop := match st with
  | .long x :: st => k ls (.int x.toInt32 :: st) σ
  | _ => False
def op_dup (ls : ab_L) (st : List Value) (σ : ab_S) (k : ab_O) : Prop := match st with
  | v :: st => v.category = 1 ∧ k ls (v :: v :: st) σ
  | _ => False
def op_pop (ls : ab_L) (st : List Value) (σ : ab_S) (k : ab_O) : Prop := match st with
  | v :: st => v.category = 1 ∧ k ls st σ
  | _ => False
def op_dup2 (ls : ab_L) (st : List Value) (σ : ab_S) (k : ab_O) : Prop := match st with
  | v :: w :: st => v.category = 1 ∧ w.category = 1 ∧ k ls (v :: w :: v :: w :: st) σ
  | _ => False
def op_getI (ci i : Nat) (ls : ab_L) (st : List Value) (σ : ab_S) (k : ab_O) : Prop := match st with
  | .ref a :: st => ab_sh a = (0, ci) ∧ k ls (.int (σ.1 a i) :: st) σ
  | _ => False
def op_getL (ci i : Nat) (ls : ab_L) (st : List Value) (σ : ab_S) (k : ab_O) : Prop := match st with
  | .ref a :: st => ab_sh a = (0, ci) ∧ k ls (.long (σ.2 a i) :: st) σ
  | _ => False
def op_getR (ci o : Nat) (ls : ab_L) (st : List Value) (σ : ab_S) (k : ab_O) : Prop := match st with
  | .ref a :: st => ab_sh a = (0, ci) ∧ k ls (.ref (a + o) :: st) σ
  | _ => False
def op_putI (ci i : Nat) (ls : ab_L) (st : List Value) (σ : ab_S) (k : ab_O) : Prop := match st with
  | .int v :: .ref a :: st => ab_sh a = (0, ci) ∧ k ls st (ab_pI σ.1 a i v, σ.2)
  | _ => False
def op_putL (ci i : Nat) (ls : ab_L) (st : List Value) (σ : ab_S) (k : ab_O) : Prop := match st with
  | .long v :: .ref a :: st => ab_sh a = (0, ci) ∧ k ls st (σ.1, ab_pL σ.2 a i v)
  | _ => False
def op_iald (n : Nat) (ls : ab_L) (st : List Value) (σ : ab_S) (k : ab_O) : Prop := match st with
  | .int i :: .ref a :: st => ab_sh a = (1, n) ∧ vp_in i n ∧ k ls (.int (σ.1 a i.toNatClampNeg) :: st) σ
  | _ => False
def op_iast (n : Nat) (ls : ab_L) (st : List Value) (σ : ab_S) (k : ab_O) : Prop := match st with
  | .int v :: .int i :: .ref a :: st => ab_sh a = (1, n) ∧ vp_in i n ∧ k ls st (ab_pI σ.1 a i.toNatClampNeg v, σ.2)
  | _ => False
def op_zald (n : Nat) (ls : ab_L) (st : List Value) (σ : ab_S) (k : ab_O) : Prop := match st with
  | .int i :: .ref a :: st => ab_sh a = (2, n) ∧ vp_in i n ∧ k ls (.int (σ.1 a i.toNatClampNeg) :: st) σ
  | _ => False
def op_zast (n : Nat) (ls : ab_L) (st : List Value) (σ : ab_S) (k : ab_O) : Prop := match st with
  | .int v :: .int i :: .ref a :: st => ab_sh a = (2, n) ∧ vp_in i n ∧ k ls st (ab_pI σ.1 a i.toNatClampNeg (vp_nar .boolean v), σ.2)
  | _ => False
def op_lald (n : Nat) (ls : ab_L) (st : List Value) (σ : ab_S) (k : ab_O) : Prop := match st with
  | .int i :: .ref a :: st => ab_sh a = (3, n) ∧ vp_in i n ∧ k ls (.long (σ.2 a i.toNatClampNeg) :: st) σ
  | _ => False
def op_last (n : Nat) (ls : ab_L) (st : List Value) (σ : ab_S) (k : ab_O) : Prop := match st with
  | .long v :: .int i :: .ref a :: st => ab_sh a = (3, n) ∧ vp_in i n ∧ k ls st (σ.1, ab_pL σ.2 a i.toNatClampNeg v)
  | _ => False
def op_gald (ls : ab_L) (st : List Value) (σ : ab_S) (k : ab_O) : Prop := match st with
  | .int i :: .ref a :: st => ab_sh a = (4, 2) ∧ vp_in i 2 ∧ k ls (.ref (26 + 9 * i.toNatClampNeg) :: st) σ
  | _ => False
def op_bald (ls : ab_L) (st : List Value) (σ : ab_S) (k : ab_O) : Prop := match st with
  | .int i :: .ref a :: st => ab_sh a = (5, 4) ∧ vp_in i 4 ∧ k ls (.ref (44 + 3 * i.toNatClampNeg) :: st) σ
  | _ => False
def op_alen (t n : Nat) (ls : ab_L) (st : List Value) (σ : ab_S) (k : ab_O) : Prop := match st with
  | .ref a :: st => ab_sh a = (t, n) ∧ k ls (.int (nI n) :: st) σ
  | _ => False
def ab_cp (I : Nat → Nat → Int32) (a b sp dp n : Nat) : Nat → Nat → Int32 := fun q => if q = b then va_cpy (I a) (I b) sp dp n else I q
/-- System.arraycopy between int arrays -/
def op_copy (n0 n1 : Nat) (ls : ab_L) (st : List Value) (σ : ab_S) (k : ab_O) : Prop := match st with
  | .int n :: .int dp :: .ref b :: .int sp :: .ref a :: st => ab_sh a = (1, n0) ∧ ab_sh b = (1, n1) ∧ ¬ sp < 0 ∧ ¬ dp < 0 ∧ ¬ n < 0 ∧ sp.toNatClampNeg + n.toNatClampNeg ≤ n0 ∧ dp.toNatClampNeg + n.toNatClampNeg ≤ n1 ∧ (st.map fun v => v.category).sum ≤ 8 ∧ k ls st (ab_cp σ.1 a b sp.toNatClampNeg dp.toNatClampNeg n.toNatClampNeg, σ.2)
  | _ => False
/-! text constants: 64 + j the j-th, 71 + j its bytes; 78 a static of the JDK's that is handed on and never used -/
def ab_tlen : List Nat := [5, 7, 3, 5, 2, 4, 4]
def ab_tx : List (List Int32) := [[102, 105, 101, 108, 100], [116, 104, 105, 99, 107, 101, 116], [102, 111, 120], [103, 111, 111, 115, 101], [103, 111], [109, 111, 118, 101], [112, 97, 115, 115]]
def ab_bt (lo hi a : Nat) : Prop := lo ≤ a ∧ a < hi
def op_tval (ls : ab_L) (st : List Value) (σ : ab_S) (k : ab_O) : Prop := match st with
  | .ref a :: st => ab_bt 64 71 a ∧ k ls (.ref (a + 7) :: st) σ
  | _ => False
def op_tcod (ls : ab_L) (st : List Value) (σ : ab_S) (k : ab_O) : Prop := match st with
  | .ref a :: st => ab_bt 64 71 a ∧ k ls (.int 0 :: st) σ
  | _ => False
def op_tlen (ls : ab_L) (st : List Value) (σ : ab_S) (k : ab_O) : Prop := match st with
  | .ref a :: st => ab_bt 71 78 a ∧ k ls (.int (nI (ab_tlen.getD (a - 71) 0)) :: st) σ
  | _ => False
def op_tald (ls : ab_L) (st : List Value) (σ : ab_S) (k : ab_O) : Prop := match st with
  | .int i :: .ref a :: st => ab_bt 71 78 a ∧ vp_in i (ab_tlen.getD (a - 71) 0) ∧ k ls (.int ((ab_tx.getD (a - 71) []).getD i.toNatClampNeg 0) :: st) σ
  | _ => False
/-! ends of blocks -/
def tm_goto (t : Nat) (ls : ab_L) (st : List Value) (σ : ab_S) (K : ab_K) : Prop := K t ls st σ
def tm_if (c : Int32 → Prop) (t f : Nat) (ls : ab_L) (st : List Value) (σ : ab_S) (K : ab_K) : Prop := match st with
  | .int x :: st => (c x → K t ls st σ) ∧ (¬ c x → K f ls st σ)
  | _ => False
def tm_cmp (c : Int32 → Int32 → Prop) (t f : Nat) (ls : ab_L) (st : List Value) (σ : ab_S) (K : ab_K) : Prop := match st with
  | .int y :: .int x :: st => (c x y → K t ls st σ) ∧ (¬ c x y → K f ls st σ)
  | _ => False
/-- a switch: on lo + j to the j-th of ts, else to t -/
def tm_sw (t : Nat) (lo : Int) (ts : List Nat) (ls : ab_L) (st : List Value) (σ : ab_S) (K : ab_K) : Prop := match st with
  | .int x :: st => (∀ (j u : Nat), ts[j]? = some u → x.toInt = lo + (j : Int) → K u ls st σ) ∧ ((x.toInt < lo ∨ lo + ts.length ≤ x.toInt) → K t ls st σ)
  | _ => False
/-- what is asked of an answer: an int, a long, none -/
def ab_rI (f : Int32 → ab_S → Prop) : ab_R := fun v σ => match v with
  | some (.int r) => f r σ
  | _ => False
def ab_rL (f : Int64 → ab_S → Prop) : ab_R := fun v σ => match v with
  | some (.long r) => f r σ
  | _ => False
def ab_rV (f : ab_S → Prop) : ab_R := fun v σ => match v with
  | none => f σ
  | _ => False
def ab_rk (t : Nat) (K : List Value → ab_S → Prop) : ab_R := match t with
  | 0 => ab_rV (K [])
  | 1 => ab_rI fun r => K [.int r]
  | _ => ab_rL fun r => K [.long r]
theorem ab_rk_out {t : Nat} {K : List Value → ab_S → Prop} {v : Option Value} {σ : ab_S} (h : ab_rk t K v σ) : K v.toList σ := by
  match t, v, h with
  | 0, none, h => exact h
  | 1, some (.int r), h => exact h
  | t + 2, some (.long r), h => exact h
def tm_call (C : ab_C) (t y n f : Nat) (ls : ab_L) (st : List Value) (σ : ab_S) (K : ab_K) : Prop := n ≤ st.length ∧ ((st.drop n).map fun v => v.category).sum ≤ 8 ∧ C y (st.take n).reverse σ (ab_rk t fun vs σ' => K f ls (vs ++ st.drop n) σ')
/-- the same, on a receiver of a class of ours -/
def tm_callV (C : ab_C) (t ci y n f : Nat) (ls : ab_L) (st : List Value) (σ : ab_S) (K : ab_K) : Prop := (∃ a, st[n]? = some (.ref a) ∧ ab_sh a = (0, ci)) ∧ tm_call C t y (n + 1) f ls st σ K
/-- on a text constant -/
def tm_callT (C : ab_C) (t y n f : Nat) (ls : ab_L) (st : List Value) (σ : ab_S) (K : ab_K) : Prop := (∃ a, st[n]? = some (.ref a) ∧ ab_bt 64 71 a) ∧ tm_call C t y (n + 1) f ls st σ K
def tm_iret (ty : FieldType) (st : List Value) (σ : ab_S) (R : ab_R) : Prop := match st with
  | [.int x] => narrow ty (.int x) = .int x ∧ R (some (.int x)) σ
  | _ => False
def tm_lret (st : List Value) (σ : ab_S) (R : ab_R) : Prop := match st with
  | [.long x] => R (some (.long x)) σ
  | _ => False
def tm_ret (st : List Value) (σ : ab_S) (R : ab_R) : Prop := match st with
  | [] => R none σ
  | _ => False
