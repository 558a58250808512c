def nm_R0 : String := "FoxGeese$Board"
def nm_T0 : u_T := fun k => match k with
  | 0 => ("FoxGeese$Board", "width", "I", false)
  | 1 => ("FoxGeese$Board", "height", "I", false)
  | 2 => ("FoxGeese$Board", "thickets", "I", false)
  | 3 => ("FoxGeese$Board", "foxKind", "I", false)
  | 4 => ("FoxGeese$Board", "foxCell", "I", false)
  | 5 => ("FoxGeese$Board", "geese", "I", false)
  | 6 => ("FoxGeese$Board", "turn", "I", false)
  | 7 => ("FoxGeese$Board", "movesDone", "I", false)
  | 8 => ("FoxGeese$Board", "gooseKind", "[I", true)
  | _ => ("FoxGeese$Board", "gooseCell", "[I", true)
def nm_y0 : Nat → FieldType := fun k => match k with
  | 0 => .int
  | 1 => .int
  | 2 => .int
  | 3 => .int
  | 4 => .int
  | 5 => .int
  | 6 => .int
  | 7 => .int
  | 8 => .array .int
  | _ => .array .int
def nm_R1 : String := "FoxGeese$Game"
def nm_T1 : u_T := fun k => match k with
  | 0 => ("FoxGeese$Game", "board", "LFoxGeese$Board;", true)
  | 1 => ("FoxGeese$Game", "notes", "LFoxGeese$Told;", true)
  | 2 => ("FoxGeese$Game", "marks", "LFoxGeese$Told;", true)
  | 3 => ("FoxGeese$Game", "pastSize", "I", false)
  | _ => ("FoxGeese$Game", "past", "[I", true)
def nm_y1 : Nat → FieldType := fun k => match k with
  | 0 => .object "FoxGeese$Board"
  | 1 => .object "FoxGeese$Told"
  | 2 => .object "FoxGeese$Told"
  | 3 => .int
  | _ => .array .int
def nm_R2 : String := "FoxGeese$Told"
def nm_T2 : u_T := fun k => match k with
  | 0 => ("FoxGeese$Told", "size", "I", false)
  | _ => ("FoxGeese$Told", "rows", "[I", true)
def nm_y2 : Nat → FieldType := fun k => match k with
  | 0 => .int
  | _ => .array .int
def nm_R3 : String := "FoxGeese$Reader"
def nm_T3 : u_T := fun k => match k with
  | 0 => ("FoxGeese$Reader", "text", "[I", true)
  | 1 => ("FoxGeese$Reader", "length", "I", false)
  | 2 => ("FoxGeese$Reader", "told", "LFoxGeese$Game;", true)
  | 3 => ("FoxGeese$Reader", "tokenStart", "I", false)
  | 4 => ("FoxGeese$Reader", "tokenEnd", "I", false)
  | _ => ("FoxGeese$Reader", "tokenSort", "I", false)
def nm_y3 : Nat → FieldType := fun k => match k with
  | 0 => .array .int
  | 1 => .int
  | 2 => .object "FoxGeese$Game"
  | 3 => .int
  | 4 => .int
  | _ => .int
def nm_R4 : String := "FoxGeese"
def nm_T4 : u_T := fun k => match k with
  | 0 => ("FoxGeese", "game", "LFoxGeese$Game;", true)
  | 1 => ("FoxGeese", "images", "[LFoxGeese$Game;", true)
  | 2 => ("FoxGeese", "imageKept", "[Z", true)
  | 3 => ("FoxGeese", "reader", "LFoxGeese$Reader;", true)
  | 4 => ("FoxGeese", "trials", "[LFoxGeese$Board;", true)
  | 5 => ("FoxGeese", "bestMoves", "[I", true)
  | 6 => ("FoxGeese", "refused", "[I", true)
  | 7 => ("FoxGeese", "above", "J", false)
  | _ => ("FoxGeese", "below", "J", false)
def nm_y4 : Nat → FieldType := fun k => match k with
  | 0 => .object "FoxGeese$Game"
  | 1 => .array (.object "FoxGeese$Game")
  | 2 => .array .boolean
  | 3 => .object "FoxGeese$Reader"
  | 4 => .array (.object "FoxGeese$Board")
  | 5 => .array .int
  | 6 => .array .int
  | 7 => .long
  | _ => .long
def nm_R5 : String := "FoxGeeseModel"
def nm_T5 : u_T := fun k => match k with
  | 0 => ("FoxGeeseModel", "w", "[I", true)
  | 1 => ("FoxGeeseModel", "isKept", "[Z", true)
  | 2 => ("FoxGeeseModel", "text", "[I", true)
  | 3 => ("FoxGeeseModel", "texted", "I", false)
  | 4 => ("FoxGeeseModel", "above", "J", false)
  | 5 => ("FoxGeeseModel", "below", "J", false)
  | 6 => ("FoxGeeseModel", "statuses", "[I", true)
  | 7 => ("FoxGeeseModel", "at", "I", false)
  | 8 => ("FoxGeeseModel", "start", "I", false)
  | 9 => ("FoxGeeseModel", "number", "I", false)
  | 10 => ("FoxGeeseModel", "move", "[I", true)
  | 11 => ("FoxGeeseModel", "value", "[I", true)
  | 12 => ("FoxGeeseModel", "bestMove", "I", false)
  | 13 => ("FoxGeeseModel", "ways", "[J", true)
  | _ => ("FoxGeeseModel", "h", "J", false)
def nm_y5 : Nat → FieldType := fun k => match k with
  | 0 => .array .int
  | 1 => .array .boolean
  | 2 => .array .int
  | 3 => .int
  | 4 => .long
  | 5 => .long
  | 6 => .array .int
  | 7 => .int
  | 8 => .int
  | 9 => .int
  | 10 => .array .int
  | 11 => .array .int
  | 12 => .int
  | 13 => .array .long
  | _ => .long
def cx_cl : List vw_C := [(nm_R0, nm_T0, 10), (nm_R1, nm_T1, 5), (nm_R2, nm_T2, 2), (nm_R3, nm_T3, 6), (nm_R4, nm_T4, 9), (nm_R5, nm_T5, 15)]
def cx_WS : List Cond := lw_tbl.filter goodWord
theorem cx_mem {w : Cond} (i : Nat) (h : lw_tbl[i]? = some w) (hg : goodWord w = true) : w ∈ cx_WS := List.mem_filter.mpr ⟨List.mem_of_getElem? h, hg⟩
theorem cx_in0 : ∀ w ∈ u_ws nm_R0 nm_T0 10, w ∈ cx_WS := by
  intro w hw
  obtain ⟨k, hk, rfl⟩ := List.mem_map.mp hw
  have hk := List.mem_range.mp hk
  match k, hk with
  | 0, _ => exact cx_mem 123 (by decide +kernel) (by decide +kernel)
  | 1, _ => exact cx_mem 125 (by decide +kernel) (by decide +kernel)
  | 2, _ => exact cx_mem 127 (by decide +kernel) (by decide +kernel)
  | 3, _ => exact cx_mem 129 (by decide +kernel) (by decide +kernel)
  | 4, _ => exact cx_mem 131 (by decide +kernel) (by decide +kernel)
  | 5, _ => exact cx_mem 133 (by decide +kernel) (by decide +kernel)
  | 6, _ => exact cx_mem 135 (by decide +kernel) (by decide +kernel)
  | 7, _ => exact cx_mem 137 (by decide +kernel) (by decide +kernel)
  | 8, _ => exact cx_mem 139 (by decide +kernel) (by decide +kernel)
  | 9, _ => exact cx_mem 141 (by decide +kernel) (by decide +kernel)
  | k + 10, h => omega
theorem cx_in1 : ∀ w ∈ u_ws nm_R1 nm_T1 5, w ∈ cx_WS := by
  intro w hw
  obtain ⟨k, hk, rfl⟩ := List.mem_map.mp hw
  have hk := List.mem_range.mp hk
  match k, hk with
  | 0, _ => exact cx_mem 170 (by decide +kernel) (by decide +kernel)
  | 1, _ => exact cx_mem 172 (by decide +kernel) (by decide +kernel)
  | 2, _ => exact cx_mem 174 (by decide +kernel) (by decide +kernel)
  | 3, _ => exact cx_mem 176 (by decide +kernel) (by decide +kernel)
  | 4, _ => exact cx_mem 178 (by decide +kernel) (by decide +kernel)
  | k + 5, h => omega
theorem cx_in2 : ∀ w ∈ u_ws nm_R2 nm_T2 2, w ∈ cx_WS := by
  intro w hw
  obtain ⟨k, hk, rfl⟩ := List.mem_map.mp hw
  have hk := List.mem_range.mp hk
  match k, hk with
  | 0, _ => exact cx_mem 155 (by decide +kernel) (by decide +kernel)
  | 1, _ => exact cx_mem 157 (by decide +kernel) (by decide +kernel)
  | k + 2, h => omega
theorem cx_in3 : ∀ w ∈ u_ws nm_R3 nm_T3 6, w ∈ cx_WS := by
  intro w hw
  obtain ⟨k, hk, rfl⟩ := List.mem_map.mp hw
  have hk := List.mem_range.mp hk
  match k, hk with
  | 0, _ => exact cx_mem 198 (by decide +kernel) (by decide +kernel)
  | 1, _ => exact cx_mem 200 (by decide +kernel) (by decide +kernel)
  | 2, _ => exact cx_mem 202 (by decide +kernel) (by decide +kernel)
  | 3, _ => exact cx_mem 204 (by decide +kernel) (by decide +kernel)
  | 4, _ => exact cx_mem 206 (by decide +kernel) (by decide +kernel)
  | 5, _ => exact cx_mem 208 (by decide +kernel) (by decide +kernel)
  | k + 6, h => omega
theorem cx_in4 : ∀ w ∈ u_ws nm_R4 nm_T4 9, w ∈ cx_WS := by
  intro w hw
  obtain ⟨k, hk, rfl⟩ := List.mem_map.mp hw
  have hk := List.mem_range.mp hk
  match k, hk with
  | 0, _ => exact cx_mem 224 (by decide +kernel) (by decide +kernel)
  | 1, _ => exact cx_mem 226 (by decide +kernel) (by decide +kernel)
  | 2, _ => exact cx_mem 228 (by decide +kernel) (by decide +kernel)
  | 3, _ => exact cx_mem 230 (by decide +kernel) (by decide +kernel)
  | 4, _ => exact cx_mem 232 (by decide +kernel) (by decide +kernel)
  | 5, _ => exact cx_mem 234 (by decide +kernel) (by decide +kernel)
  | 6, _ => exact cx_mem 236 (by decide +kernel) (by decide +kernel)
  | 7, _ => exact cx_mem 238 (by decide +kernel) (by decide +kernel)
  | 8, _ => exact cx_mem 240 (by decide +kernel) (by decide +kernel)
  | k + 9, h => omega
theorem cx_in5 : ∀ w ∈ u_ws nm_R5 nm_T5 15, w ∈ cx_WS := by
  intro w hw
  obtain ⟨k, hk, rfl⟩ := List.mem_map.mp hw
  have hk := List.mem_range.mp hk
  match k, hk with
  | 0, _ => exact cx_mem 771 (by decide +kernel) (by decide +kernel)
  | 1, _ => exact cx_mem 773 (by decide +kernel) (by decide +kernel)
  | 2, _ => exact cx_mem 775 (by decide +kernel) (by decide +kernel)
  | 3, _ => exact cx_mem 777 (by decide +kernel) (by decide +kernel)
  | 4, _ => exact cx_mem 779 (by decide +kernel) (by decide +kernel)
  | 5, _ => exact cx_mem 781 (by decide +kernel) (by decide +kernel)
  | 6, _ => exact cx_mem 783 (by decide +kernel) (by decide +kernel)
  | 7, _ => exact cx_mem 785 (by decide +kernel) (by decide +kernel)
  | 8, _ => exact cx_mem 787 (by decide +kernel) (by decide +kernel)
  | 9, _ => exact cx_mem 789 (by decide +kernel) (by decide +kernel)
  | 10, _ => exact cx_mem 791 (by decide +kernel) (by decide +kernel)
  | 11, _ => exact cx_mem 793 (by decide +kernel) (by decide +kernel)
  | 12, _ => exact cx_mem 795 (by decide +kernel) (by decide +kernel)
  | 13, _ => exact cx_mem 797 (by decide +kernel) (by decide +kernel)
  | 14, _ => exact cx_mem 799 (by decide +kernel) (by decide +kernel)
  | k + 15, h => omega
def cx_ty (ci : Nat) : Nat → FieldType := match ci with
  | 0 => nm_y0
  | 1 => nm_y1
  | 2 => nm_y2
  | 3 => nm_y3
  | 4 => nm_y4
  | _ => nm_y5
theorem cx_clIn {ci : Nat} {q : vw_C} (h : cx_cl[ci]? = some q) : ∀ w ∈ u_ws q.1 q.2.1 q.2.2, w ∈ cx_WS := by
  match ci, h with
  | 0, h => cases h; exact cx_in0
  | 1, h => cases h; exact cx_in1
  | 2, h => cases h; exact cx_in2
  | 3, h => cases h; exact cx_in3
  | 4, h => cases h; exact cx_in4
  | 5, h => cases h; exact cx_in5
  | n + 6, h => simp [cx_cl] at h
theorem cx_clTy {ci : Nat} {q : vw_C} (h : cx_cl[ci]? = some q) : ∀ k, k < q.2.2 → parseFieldDescriptor (q.2.1 k).2.2.1 = some (cx_ty ci k) := by
  match ci, h with
  | 0, h => cases h; decide +kernel
  | 1, h => cases h; decide +kernel
  | 2, h => cases h; decide +kernel
  | 3, h => cases h; decide +kernel
  | 4, h => cases h; decide +kernel
  | 5, h => cases h; decide +kernel
  | n + 6, h => simp [cx_cl] at h
theorem cx_clNm {ci : Nat} {q : vw_C} (h : cx_cl[ci]? = some q) : ∀ a, a < q.2.2 → ∀ b, b < q.2.2 → a ≠ b → (q.2.1 a).2.1 ≠ (q.2.1 b).2.1 := by
  match ci, h with
  | 0, h => cases h; decide +kernel
  | 1, h => cases h; decide +kernel
  | 2, h => cases h; decide +kernel
  | 3, h => cases h; decide +kernel
  | 4, h => cases h; decide +kernel
  | 5, h => cases h; decide +kernel
  | n + 6, h => simp [cx_cl] at h
theorem cx_clNf {ci : Nat} {q : vw_C} (h : cx_cl[ci]? = some q) : ab_nf ci = q.2.2 := by
  match ci, h with
  | 0, h => cases h; rfl
  | 1, h => cases h; rfl
  | 2, h => cases h; rfl
  | 3, h => cases h; rfl
  | 4, h => cases h; rfl
  | 5, h => cases h; rfl
  | n + 6, h => simp [cx_cl] at h
