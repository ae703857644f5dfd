/-! THE LAYER: one memory of ints (by cell, by place) for the class, the reference and the law's two rows; a judgement V that hides heap, frames and room; a row an instruction. -/
abbrev Mem : Type := Nat → Nat → Int32
def mw (σ : Mem) (c : Nat) (f : Nat → Int32) : Mem := fun k => if k = c then f else σ k
def mst (σ : Mem) (c i : Nat) (x : Int32) : Mem := mw σ c (upd (σ c) i x)
theorem mw_at (σ : Mem) (c : Nat) (f : Nat → Int32) : mw σ c f c = f := if_pos rfl
theorem mw_ne (σ : Mem) {c k : Nat} (f : Nat → Int32) (h : k ≠ c) : mw σ c f k = σ k := if_neg h
/-- the words that every method here has: the good ones of all -/
def AW : List Cond := lw_tbl.filter goodWord
theorem aw_in {w : Cond} (i : Nat) (h : (lw_tbl[i]? = some w) ∧ goodWord w = true) : w ∈ AW := List.mem_filter.mpr ⟨List.mem_of_getElem? h.1, h.2⟩
theorem aw_0 {w : Cond} (i : Nat) (h : ((k2_sels lw_privs)[i]? = some w) ∧ goodWord w = true) : w ∈ AW := List.mem_filter.mpr ⟨List.mem_append_left _ (List.mem_of_getElem? h.1), h.2⟩
theorem aw_1 {w : Cond} (i : Nat) (h : (tables_1_1[i]? = some w) ∧ goodWord w = true) : w ∈ AW := List.mem_filter.mpr ⟨List.mem_append_right _ (show w ∈ tables_1 from List.mem_append_left _ (List.mem_of_getElem? h.1)), h.2⟩
theorem aw_2 {w : Cond} (i : Nat) (h : (tables_1_2[i]? = some w) ∧ goodWord w = true) : w ∈ AW := List.mem_filter.mpr ⟨List.mem_append_right _ (show w ∈ tables_1 from List.mem_append_right _ (List.mem_append_left _ (List.mem_of_getElem? h.1))), h.2⟩
theorem aw_3 {w : Cond} (i : Nat) (h : (tables_1_3[i]? = some w) ∧ goodWord w = true) : w ∈ AW := List.mem_filter.mpr ⟨List.mem_append_right _ (show w ∈ tables_1 from List.mem_append_right _ (List.mem_append_right _ (List.mem_append_left _ (List.mem_of_getElem? h.1)))), h.2⟩
theorem aw_4 {w : Cond} (i : Nat) (h : (tables_1_4[i]? = some w) ∧ goodWord w = true) : w ∈ AW := List.mem_filter.mpr ⟨List.mem_append_right _ (show w ∈ tables_1 from List.mem_append_right _ (List.mem_append_right _ (List.mem_append_right _ (List.mem_append_left _ (List.mem_of_getElem? h.1))))), h.2⟩
theorem aw_5 {w : Cond} (i : Nat) (h : (tables_1_5[i]? = some w) ∧ goodWord w = true) : w ∈ AW := List.mem_filter.mpr ⟨List.mem_append_right _ (show w ∈ tables_1 from List.mem_append_right _ (List.mem_append_right _ (List.mem_append_right _ (List.mem_append_right _ (List.mem_append_left _ (List.mem_of_getElem? h.1)))))), h.2⟩
theorem aw_6 {w : Cond} (i : Nat) (h : (tables_1_6[i]? = some w) ∧ goodWord w = true) : w ∈ AW := List.mem_filter.mpr ⟨List.mem_append_right _ (show w ∈ tables_1 from List.mem_append_right _ (List.mem_append_right _ (List.mem_append_right _ (List.mem_append_right _ (List.mem_append_right _ (List.mem_append_left _ (List.mem_of_getElem? h.1))))))), h.2⟩
theorem aw_7 {w : Cond} (i : Nat) (h : (tables_1_7[i]? = some w) ∧ goodWord w = true) : w ∈ AW := List.mem_filter.mpr ⟨List.mem_append_right _ (show w ∈ tables_1 from List.mem_append_right _ (List.mem_append_right _ (List.mem_append_right _ (List.mem_append_right _ (List.mem_append_right _ (List.mem_append_right _ (List.mem_append_left _ (List.mem_of_getElem? h.1)))))))), h.2⟩
theorem aw_8 {w : Cond} (i : Nat) (h : (tables_1_8[i]? = some w) ∧ goodWord w = true) : w ∈ AW := List.mem_filter.mpr ⟨List.mem_append_right _ (show w ∈ tables_1 from List.mem_append_right _ (List.mem_append_right _ (List.mem_append_right _ (List.mem_append_right _ (List.mem_append_right _ (List.mem_append_right _ (List.mem_append_right _ (List.mem_of_getElem? h.1)))))))), h.2⟩
theorem aw_good {w : Cond} (h : w ∈ AW) : goodWord w = true := (List.mem_filter.mp h).2
theorem aw_sub {ws : List Cond} (h : ∀ w ∈ ws, w ∈ AW) : GoodIn AW ws := fun w hw => ⟨h w hw, good_of_word (aw_good (h w hw))⟩
abbrev wCl : List vw_C := [(RX0, TX0, 2), (RX1, TX1, 3), (RX2, TX2, 8), (RX3, TX3, 2), (RX4, TX4, 9), (RX5, TX5, 4), (RX6, TX6, 3), (RX7, TX7, 7), (RX8, TX8, 10), (RX9, TX9, 10), (RX10, TX10, 58)]
abbrev tyL (cy : Nat → ClassId) : List (ClassId × FieldType) := [(cy 0, .int), (cy 1, .char), (cy 2, .boolean), (cy 3, .array .int), (cy 4, .object "TabuSolver$Problem"), (cy 5, .long), (cy 6, .double)]
def cK (ci : Nat) (CC : String) (T : u_T) (N : Nat) (ty : Nat → FieldType) : Prop := wCl[ci]? = some (CC, T, N) ∧ (∀ w ∈ u_ws CC T N, w ∈ AW) ∧ (∀ a, a < N → ∀ b, b < N → a ≠ b → (T a).2.1 ≠ (T b).2.1) ∧ (∀ k, k < N → parseFieldDescriptor (T k).2.2.1 = some (ty k))
