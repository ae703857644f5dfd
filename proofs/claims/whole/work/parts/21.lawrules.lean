/-! THE CLAIM OUT OF ONE WALK OF THE LAW'S BODY. Your part is whole_start (and what it stands on); all else here is the same for every law, but numbers. -/
def R_law : String := "TabuSolverLaw"
def lw_P (b : Addr) (xs : List Int32) (args : Array Value) (s : State) : Prop := args = #[.ref b] ∧ s.IntsAt b xs ∧ xs.length ≤ 2560 ∧ (Jvm.Cond.and given_1 narrow_1).before args s = true
/-- what a walk over the start with the record d0 says of its end, said of the start itself -/
theorem lw_closed {s t : State} {o : Outcome} {d0 : Drawn} {L : List Loc} {k n : Nat} (hd0 : s.drawn.sameBut d0 lw_cs) (hv : ∃ v, o = .returned v) (hW : (s.setDrawn d0).WarmedH t.vm) (hs : (s.setDrawn d0).sameButNew ({ t with vm := s.vm } : State) L k n) : State.butDraws s t lw_cs (fun t1 => Framed s o t1 L k n) := by
  have h2 : t.drawn = d0 := congrArg State.drawn hs.1
  refine ⟨⟨hv, hW, State.sameButNew.setDrawn hs s.drawn⟩, ?_, by decide⟩
  rw [h2]
  exact hd0
def lw_Q (_ : Array Value) (s : State) (o : Outcome) (t : State) : Prop := o = .returned (some (.int 1)) ∧ State.butDraws s t lw_cs (fun t1 => Framed s o t1 [] 603072 7198826)
def lw_Z (below : List Frame) (a : Array Value) (s : State) : State → Prop := fun t => ∃ o, t.status = .running ∧ Ended t below o ∧ lw_Q a s o t
/-- the law's own end, with 1 on the stack, nothing written that was there before, its room as the claim has it; d0: the record of draws at this point (at the entry s.drawn: begin with 'refine W.base ?_' and 'have hd0 := Drawn.sameBut.refl s.drawn lw_cs') -/
theorem lw_ret {p : Program} {l : Launch} {e : Env} {s : State} {m : MethodId} {below : List Frame} {meth : Method} {c : Code} {b : Nat} {d0 : Drawn} (hd0 : s.drawn.sameBut d0 lw_cs) (hx : p.tables.exec = Jvm.exec) (hb : c.code = code) (hr : meth.sig.returnType = ret) (hlocks : meth.locks = false) {pc : Nat} {H : Heap} {ls : Array Slot} (hdg : decode code pc = .ok (.ireturn, 1)) : W p l e room_1 (s.setDrawn d0) m #[Value.ref b] below meth c H [] 603072 7198826 (lw_Z below #[Value.ref b] s) (F0 m pc ls [.int 1]) := by
  intro T hT X
  obtain ⟨fs, hret, hrun, hended, hW, hframe⟩ := X.leave (v := some (.int 1)) (hlocks := hlocks) (fun h => by rw [hr] at h; cases h)
  have hmeth' : T.vm.method? m = some meth := X.method'
  refine ⟨T.setFrames fs, ?_, .returned (some (.int 1)), hrun, hended, rfl, lw_closed hd0 ⟨_, rfl⟩ hW hframe⟩
  jvm_step X.here [X.here.top, hx, hb, hdg, hmeth', hr, ret, narrow_b1]
  (try refine ⟨rfl, ?_⟩); (try refine ⟨rfl, ?_⟩)
  first | (intro acts; rw [hret _ acts rfl rfl rfl]) | rw [hret _ _ rfl rfl rfl]
  exact Steps.refl _
/-- what holds at the law's entry: the machine, the code, the tables' words (any of lw_tbl by 'hts w (by decide +kernel)'), the script of L ints xs at the cell b, what the Statement gives of the start (any of its parts by flat_of_before) -/
def lw_At (p : Program) (s : State) (m : MethodId) (meth : Method) (c : Code) (b L : Nat) (xs : Nat → Int32) : Prop :=
  p.tables.exec = Jvm.exec ∧ c.code = code ∧ meth.sig.returnType = ret ∧ c.maxLocals = 9 ∧ s.vm.findClass R_law = some m.cls ∧ (∀ w ∈ lw_tbl, w.before #[Value.ref b] s = true) ∧ va_X b L xs s s.heap ∧ b < s.heap.size ∧ meth.locks = false ∧ (Jvm.Cond.and given_1 narrow_1).before #[Value.ref b] s = true

/-! the law's own rows -/
def RgA (l : Launch) (D : va_G) (ad : Nat → Nat) (cy : Nat → ClassId) (own : String) (cc : ByteArray) (nL : Nat) (fr lo k : Nat) (tb : List ExceptionTableEntry) (F : Ft) (V : (Array Slot → Prop) → Vt) : Prop :=
  ∃ (p : Program) (e : Env) (R : Room) (s : State) (m : MethodId) (args : Array Value) (below : List Frame) (meth : Method) (c : Code) (Q : State → Prop),
    (∀ Pl, V Pl = VP p l e R s m args below meth c D ad cy nL Q Pl) ∧ F p e R s m args below meth c Q ∧
    (p.tables.exec = Jvm.exec ∧ c.code = cc ∧ c.maxLocals = nL ∧ s.vm.findClass own = some m.cls ∧ meth.locks = false) ∧
    (∀ w ∈ AW, w.before args s = true) ∧ va_K D wCl (tyL cy) s ∧ Inj ad ∧ NW s ∧ ZQ ad s s.heap ∧ NC4 s ∧ l.stackTraces = false ∧ (R.frames = fr ∧ R.locals = lo ∧ k ≤ R.cells ∧ 6 * k ≤ R.slots) ∧ c.exceptionTable.toList = tb
theorem rga_C {l : Launch} {D : va_G} {ad : Nat → Nat} {cy : Nat → ClassId} {own : String} {cc : ByteArray} {nL : Nat} {fr lo k : Nat} {tb : List ExceptionTableEntry} {F : Ft} {V : (Array Slot → Prop) → Vt} (A : RgA l D ad cy own cc nL fr lo k tb F V) (Pl : Array Slot → Prop) : Rg l D ad cy own cc nL fr lo k tb F Pl (V Pl) := by
  obtain ⟨p, e, R, s, m, args, below, meth, c, Q, h1, h2⟩ := A
  exact ⟨p, e, R, s, m, args, below, meth, c, Q, h1 Pl, h2⟩
def FL (ad : Nat → Nat) (b L : Nat) (xs : Nat → Int32) : Ft := fun _ _ R s _ args below meth _ Q => va_X b L xs s s.heap ∧ b < s.heap.size ∧ (¬ AD ad b) ∧ ad 1000 = b ∧ (∀ c, c < NC → s.heap.size ≤ ad c) ∧ R = room_1 ∧ args = #[Value.ref b] ∧ meth.sig.returnType = ret ∧ Q = lw_Z below #[Value.ref b] s
section RGL
variable {l : Launch} {D : va_G} {ad : Nat → Nat} {cy : Nat → ClassId} {own : String} {cc : ByteArray} {nL : Nat} {fr lo k : Nat} {tb : List ExceptionTableEntry} {F : Ft} {Pl : Array Slot → Prop} {V : Vt} {VA : (Array Slot → Prop) → Vt}
variable {κ pc : Nat} {σ : Mem} {lv : LVa} {st : List Value} {b L : Nat} {xs : Nat → Int32}
theorem rga_drop (A : RgA l D ad cy own cc nL fr lo k tb F VA) (K : VA pT κ σ pc lv st) : VA Pl κ σ pc lv st := by
  obtain ⟨p, e, R, s, m, args, below, meth, c, Q, h1, -⟩ := A
  rw [h1] at K ⊢
  exact fun H locs ls hP hS hl hpl => K H locs ls hP hS hl trivial
def d7 (x : UInt64) : Array Slot → Prop := fun ls => ls[7]? = some (.val (.double x))
theorem rga_dstore (A : RgA l D ad cy own cc 9 fr lo k tb F VA) {x : UInt64} {l5_ l6_ : Int32} (d : decode cc pc = .ok (.dstore 7, 2)) (K : VA (d7 x) κ σ (pc + 2) [some (.inr 1000), some (.inr 0), some (.inr 124), some (.inr 155), some (.inr 156), some (.inl l5_), some (.inl l6_), none, none] st) : VA pT κ σ pc [some (.inr 1000), some (.inr 0), some (.inr 124), some (.inr 155), some (.inr 156), some (.inl l5_), some (.inl l6_), none, none] (.double x :: st) := by
  obtain ⟨p, e, R, s, m, args, below, meth, c, Q, h1, hF, ⟨hx, hb, hml, hown, hlocks⟩, -⟩ := A
  rw [h1] at K ⊢
  intro H locs ls hP hS hl hpl
  refine lv_dstore hx hb d hl (by decide) rfl (fun ls2 hl2 => K H locs ls2 hP hS (lv_mono hl2 (fun q hq => ?_)) (hl2.2.2 (7, .double x) List.mem_cons_self))
  refine List.mem_cons_of_mem _ ?_
  exact hq
theorem rgl_dload {x : UInt64} (C : Rg l D ad cy own cc nL fr lo k tb F (d7 x) V) (d : decode cc pc = .ok (.dload 7, 2)) (K : V κ σ (pc + 2) lv (.double x :: st)) : V κ σ pc lv st := by
  obtain ⟨p, e, R, s, m, args, below, meth, c, Q, rfl, hF, ⟨hx, hb, hml, hown, hlocks⟩, -⟩ := C
  intro H locs ls hP hS hl hpl
  exact lv_dload hx hb d hpl (K H locs ls hP hS hl hpl)
theorem rgl_sld (C : Rg l D ad cy own cc nL fr lo k tb (FL ad b L xs) Pl V) {i : Int32} (h : vp_in i L) (d : decode cc pc = .ok (.iaload, 1)) (K : V κ σ (pc + 1) lv (.int (xs i.toNatClampNeg) :: st)) : V κ σ pc lv (.int i :: .ref (ad 1000) :: st) := by
  obtain ⟨p, e, R, s, m, args, below, meth, c, Q, rfl, ⟨hX, hbl, hbA, had, -⟩, ⟨hx, hb, hml, hown, hlocks⟩, -⟩ := C
  intro H locs ls hP hS hl hpl
  rw [had]
  exact va_sld hx hb hX hbl hbA hS h d (K H locs ls hP hS hl hpl)
theorem rgl_slen (C : Rg l D ad cy own cc nL fr lo k tb (FL ad b L xs) Pl V) (d : decode cc pc = .ok (.arraylength, 1)) (K : V κ σ (pc + 1) lv (.int (Int32.ofNat L) :: st)) : V κ σ pc lv (.ref (ad 1000) :: st) := by
  obtain ⟨p, e, R, s, m, args, below, meth, c, Q, rfl, ⟨hX, hbl, hbA, had, -⟩, ⟨hx, hb, hml, hown, hlocks⟩, -⟩ := C
  intro H locs ls hP hS hl hpl
  rw [had]
  exact va_slen hx hb hX hbl hbA hS d (K H locs ls hP hS hl hpl)
theorem rgl_end (C : Rg l D ad cy own cL_law nL fr lo k tb (FL ad b L xs) Pl V) (hκ : κ ≤ 603072 ∧ 6 * κ ≤ 7198826) (d : decode cL_law pc = .ok (.ireturn, 1)) : V κ σ pc lv [.int 1] := by
  obtain ⟨p, e, R, s, m, args, below, meth, c, Q, rfl, ⟨hX, hbl, hbA, had, hnew, rfl, rfl, hr, rfl⟩, ⟨hx, hb, hml, hown, hlocks⟩, -⟩ := C
  intro H locs ls hP hS hl hpl
  refine va_forget (fun q hq => ?_) ?_
  · obtain ⟨c9, hc9, e9⟩ := hS.2.2 q hq
    rw [e9]; exact hnew c9 hc9
  refine W.widen hκ.1 hκ.2 ?_
  exact lw_ret (s := s) (d0 := s.drawn) (Drawn.sameBut.refl s.drawn lw_cs) hx hb hr hlocks d
end RGL
theorem ml_L_218 : Cond.methodLink RL 218 yL_nextMove ∈ AW := aw_4 167 (by decide +kernel)
theorem ml_L_220 : Cond.methodLink RL 220 yX10_nextMove ∈ AW := aw_7 101 (by decide +kernel)
theorem ml_L_146 : Cond.methodLink RL 146 yX10_thrown ∈ AW := aw_6 127 (by decide +kernel)
theorem ml_L_243 : Cond.methodLink RL 243 yL_search ∈ AW := aw_4 211 (by decide +kernel)
theorem ml_L_245 : Cond.methodLink RL 245 yX10_search ∈ AW := aw_7 154 (by decide +kernel)
theorem ml_L_229 : Cond.methodLink RL 229 yL_step ∈ AW := aw_4 183 (by decide +kernel)
theorem ml_L_231 : Cond.methodLink RL 231 yX10_step ∈ AW := aw_7 117 (by decide +kernel)
theorem ml_L_269 : Cond.methodLink RL 269 yL_unavoidable ∈ AW := aw_5 70 (by decide +kernel)
theorem ml_L_271 : Cond.methodLink RL 271 yX10_unavoidable ∈ AW := aw_7 198 (by decide +kernel)
theorem ml_L_285 : Cond.methodLink RL 285 yL_undo ∈ AW := aw_5 167 (by decide +kernel)
theorem ml_L_287 : Cond.methodLink RL 287 yX10_undo ∈ AW := aw_8 14 (by decide +kernel)
theorem ml_L_253 : Cond.methodLink RL 253 yL_improvingShare ∈ AW := aw_4 229 (by decide +kernel)
theorem ml_L_256 : Cond.methodLink RL 256 yX10_improvingShare ∈ AW := aw_7 166 (by decide +kernel)
theorem ml_L_160 : Cond.methodLink RL 160 yL_setWeight ∈ AW := aw_4 30 (by decide +kernel)
theorem ml_L_162 : Cond.methodLink RL 162 yX10_setWeight ∈ AW := aw_6 232 (by decide +kernel)
theorem ml_L_172 : Cond.methodLink RL 172 yL_variable ∈ AW := aw_4 66 (by decide +kernel)
theorem ml_L_174 : Cond.methodLink RL 174 yX10_variable ∈ AW := aw_7 16 (by decide +kernel)
theorem ml_L_166 : Cond.methodLink RL 166 yL_count ∈ AW := aw_4 44 (by decide +kernel)
theorem ml_L_168 : Cond.methodLink RL 168 yX10_count ∈ AW := aw_7 4 (by decide +kernel)
theorem ml_L_260 : Cond.methodLink RL 260 yL_optima ∈ AW := aw_5 49 (by decide +kernel)
theorem ml_L_262 : Cond.methodLink RL 262 yX10_optima ∈ AW := aw_7 186 (by decide +kernel)
theorem ml_L_279 : Cond.methodLink RL 279 yL_errorPosition ∈ AW := aw_5 139 (by decide +kernel)
theorem ml_L_281 : Cond.methodLink RL 281 yX10_errorPosition ∈ AW := aw_7 238 (by decide +kernel)
theorem ml_L_204 : Cond.methodLink RL 204 yL_setPatience ∈ AW := aw_4 143 (by decide +kernel)
theorem ml_L_206 : Cond.methodLink RL 206 yX10_setPatience ∈ AW := aw_7 57 (by decide +kernel)
theorem ml_L_263 : Cond.methodLink RL 263 yL_optimalValue ∈ AW := aw_5 56 (by decide +kernel)
theorem ml_L_265 : Cond.methodLink RL 265 yX10_optimalValue ∈ AW := aw_7 190 (by decide +kernel)
theorem ml_L_194 : Cond.methodLink RL 194 yX9_takeBest ∈ AW := aw_2 186 (by decide +kernel)
theorem ml_L_197 : Cond.methodLink RL 197 yX10_takeBest ∈ AW := aw_7 45 (by decide +kernel)
theorem ml_L_221 : Cond.methodLink RL 221 yL_isForbidden ∈ AW := aw_4 175 (by decide +kernel)
theorem ml_L_223 : Cond.methodLink RL 223 yX10_isForbidden ∈ AW := aw_7 109 (by decide +kernel)
theorem ml_L_232 : Cond.methodLink RL 232 yL_run ∈ AW := aw_4 204 (by decide +kernel)
theorem ml_L_234 : Cond.methodLink RL 234 yX10_run ∈ AW := aw_7 142 (by decide +kernel)
theorem ml_L_198 : Cond.methodLink RL 198 yL_setNeighborhood ∈ AW := aw_4 129 (by decide +kernel)
theorem ml_L_200 : Cond.methodLink RL 200 yX10_setNeighborhood ∈ AW := aw_7 49 (by decide +kernel)
theorem ml_L_149 : Cond.methodLink RL 149 yL_setDomain ∈ AW := aw_3 173 (by decide +kernel)
theorem ml_L_152 : Cond.methodLink RL 152 yX10_setDomain ∈ AW := aw_6 201 (by decide +kernel)
theorem ml_L_272 : Cond.methodLink RL 272 yL_append ∈ AW := aw_5 77 (by decide +kernel)
theorem ml_L_275 : Cond.methodLink RL 275 yX10_append ∈ AW := aw_7 202 (by decide +kernel)
theorem ml_L_288 : Cond.methodLink RL 288 yX9_save ∈ AW := aw_3 59 (by decide +kernel)
theorem ml_L_291 : Cond.methodLink RL 291 yX10_save ∈ AW := aw_8 18 (by decide +kernel)
theorem ml_L_246 : Cond.methodLink RL 246 yX9_logSize ∈ AW := aw_3 55 (by decide +kernel)
theorem ml_L_249 : Cond.methodLink RL 249 yX10_logSize ∈ AW := aw_7 158 (by decide +kernel)
theorem ml_L_215 : Cond.methodLink RL 215 yL_move ∈ AW := aw_4 158 (by decide +kernel)
theorem ml_L_217 : Cond.methodLink RL 217 yX10_move ∈ AW := aw_7 97 (by decide +kernel)
theorem ml_L_187 : Cond.methodLink RL 187 yL_mostBlamed ∈ AW := aw_4 93 (by decide +kernel)
theorem ml_L_190 : Cond.methodLink RL 190 yX10_mostBlamed ∈ AW := aw_7 36 (by decide +kernel)
theorem ml_L_292 : Cond.methodLink RL 292 yL_restore ∈ AW := aw_5 178 (by decide +kernel)
theorem ml_L_294 : Cond.methodLink RL 294 yX10_restore ∈ AW := aw_8 22 (by decide +kernel)
theorem ml_L_282 : Cond.methodLink RL 282 yL_describe ∈ AW := aw_5 146 (by decide +kernel)
theorem ml_L_284 : Cond.methodLink RL 284 yX10_describe ∈ AW := aw_8 2 (by decide +kernel)
theorem ml_L_250 : Cond.methodLink RL 250 yL_log ∈ AW := aw_4 218 (by decide +kernel)
theorem ml_L_252 : Cond.methodLink RL 252 yX10_log ∈ AW := aw_7 162 (by decide +kernel)
theorem ml_L_169 : Cond.methodLink RL 169 yL_constraint ∈ AW := aw_4 59 (by decide +kernel)
theorem ml_L_171 : Cond.methodLink RL 171 yX10_constraint ∈ AW := aw_7 12 (by decide +kernel)
theorem ml_L_257 : Cond.methodLink RL 257 yL_optimum ∈ AW := aw_5 20 (by decide +kernel)
theorem ml_L_259 : Cond.methodLink RL 259 yX10_optimum ∈ AW := aw_7 170 (by decide +kernel)
theorem ml_L_163 : Cond.methodLink RL 163 yL_setValue ∈ AW := aw_4 37 (by decide +kernel)
theorem ml_L_165 : Cond.methodLink RL 165 yX10_setValue ∈ AW := aw_6 236 (by decide +kernel)
theorem ml_L_157 : Cond.methodLink RL 157 yL_removeConstraint ∈ AW := aw_4 15 (by decide +kernel)
theorem ml_L_159 : Cond.methodLink RL 159 yX10_removeConstraint ∈ AW := aw_6 224 (by decide +kernel)
theorem ml_L_175 : Cond.methodLink RL 175 yX9_cost ∈ AW := aw_2 177 (by decide +kernel)
theorem ml_L_178 : Cond.methodLink RL 178 yX10_cost ∈ AW := aw_7 24 (by decide +kernel)
theorem ml_L_207 : Cond.methodLink RL 207 yL_setSeed ∈ AW := aw_4 150 (by decide +kernel)
theorem ml_L_209 : Cond.methodLink RL 209 yX10_setSeed ∈ AW := aw_7 61 (by decide +kernel)
theorem ml_L_266 : Cond.methodLink RL 266 yL_worst ∈ AW := aw_5 63 (by decide +kernel)
theorem ml_L_268 : Cond.methodLink RL 268 yX10_worst ∈ AW := aw_7 194 (by decide +kernel)
theorem ml_L_179 : Cond.methodLink RL 179 yX9_bestCost ∈ AW := aw_2 182 (by decide +kernel)
theorem ml_L_182 : Cond.methodLink RL 182 yX10_bestCost ∈ AW := aw_7 28 (by decide +kernel)
theorem ml_L_235 : Cond.methodLink RL 235 yX9_descend ∈ AW := aw_3 27 (by decide +kernel)
theorem ml_L_238 : Cond.methodLink RL 238 yX10_descend ∈ AW := aw_7 146 (by decide +kernel)
theorem ml_L_201 : Cond.methodLink RL 201 yL_setTenure ∈ AW := aw_4 136 (by decide +kernel)
theorem ml_L_203 : Cond.methodLink RL 203 yX10_setTenure ∈ AW := aw_7 53 (by decide +kernel)
theorem ml_L_136 : Cond.methodLink RL 136 yX9_clear ∈ AW := aw_2 97 (by decide +kernel)
theorem ml_L_139 : Cond.methodLink RL 139 yX10_clear ∈ AW := aw_6 131 (by decide +kernel)
theorem ml_L_191 : Cond.methodLink RL 191 yL_relief ∈ AW := aw_4 116 (by decide +kernel)
theorem ml_L_193 : Cond.methodLink RL 193 yX10_relief ∈ AW := aw_7 40 (by decide +kernel)
theorem ml_L_276 : Cond.methodLink RL 276 yL_read ∈ AW := aw_5 88 (by decide +kernel)
theorem ml_L_278 : Cond.methodLink RL 278 yX10_read ∈ AW := aw_7 206 (by decide +kernel)
theorem ml_L_239 : Cond.methodLink RL 239 yX9_restart ∈ AW := aw_3 41 (by decide +kernel)
theorem ml_L_242 : Cond.methodLink RL 242 yX10_restart ∈ AW := aw_7 150 (by decide +kernel)
theorem ml_L_224 : Cond.methodLink RL 224 yX9_isLocalOptimum ∈ AW := aw_3 14 (by decide +kernel)
theorem ml_L_228 : Cond.methodLink RL 228 yX10_isLocalOptimum ∈ AW := aw_7 113 (by decide +kernel)
theorem ml_L_153 : Cond.methodLink RL 153 yL_addConstraint ∈ AW := aw_3 235 (by decide +kernel)
theorem ml_L_156 : Cond.methodLink RL 156 yX10_addConstraint ∈ AW := aw_6 209 (by decide +kernel)
theorem ml_L_140 : Cond.methodLink RL 140 yL_addVariable ∈ AW := aw_3 67 (by decide +kernel)
theorem ml_L_145 : Cond.methodLink RL 145 yX10_addVariable ∈ AW := aw_6 174 (by decide +kernel)
theorem ml_L_210 : Cond.methodLink RL 210 yX9_moves ∈ AW := aw_2 195 (by decide +kernel)
theorem ml_L_183 : Cond.methodLink RL 183 yL_violation ∈ AW := aw_4 85 (by decide +kernel)
theorem ml_L_214 : Cond.methodLink RL 214 yX10_moves ∈ AW := aw_7 65 (by decide +kernel)
theorem ml_L_186 : Cond.methodLink RL 186 yX10_violation ∈ AW := aw_7 32 (by decide +kernel)
theorem g_X10_addConstraint : GV yX10_addConstraint cX10_addConstraint 5 (Option.some Jvm.ClassFile.FieldType.int) 4 := ⟨⟨aw_6 212 (by decide +kernel), aw_1 11 (by decide +kernel), by decide +kernel, by decide +kernel⟩, aw_6 210 (by decide +kernel), aw_6 211 (by decide +kernel)⟩
theorem g_X10_addVariable : GV yX10_addVariable cX10_addVariable 2 (Option.some Jvm.ClassFile.FieldType.int) 1 := ⟨⟨aw_6 177 (by decide +kernel), aw_1 11 (by decide +kernel), by decide +kernel, by decide +kernel⟩, aw_6 175 (by decide +kernel), aw_6 176 (by decide +kernel)⟩
theorem g_X10_append : GV yX10_append cX10_append 2 (Option.some Jvm.ClassFile.FieldType.int) 1 := ⟨⟨aw_7 205 (by decide +kernel), aw_1 11 (by decide +kernel), by decide +kernel, by decide +kernel⟩, aw_7 203 (by decide +kernel), aw_7 204 (by decide +kernel)⟩
theorem g_X10_bestCost : GV yX10_bestCost cX10_bestCost 1 (Option.some Jvm.ClassFile.FieldType.int) 0 := ⟨⟨aw_7 31 (by decide +kernel), aw_1 11 (by decide +kernel), by decide +kernel, by decide +kernel⟩, aw_7 29 (by decide +kernel), aw_7 30 (by decide +kernel)⟩
theorem g_X10_clear : GV yX10_clear cX10_clear 2 (Option.some Jvm.ClassFile.FieldType.int) 0 := ⟨⟨aw_6 134 (by decide +kernel), aw_1 11 (by decide +kernel), by decide +kernel, by decide +kernel⟩, aw_6 132 (by decide +kernel), aw_6 133 (by decide +kernel)⟩
theorem g_X10_constraint : GV yX10_constraint cX10_constraint 3 (Option.some Jvm.ClassFile.FieldType.int) 2 := ⟨⟨aw_7 15 (by decide +kernel), aw_1 11 (by decide +kernel), by decide +kernel, by decide +kernel⟩, aw_7 13 (by decide +kernel), aw_7 14 (by decide +kernel)⟩
theorem g_X10_cost : GV yX10_cost cX10_cost 1 (Option.some Jvm.ClassFile.FieldType.int) 0 := ⟨⟨aw_7 27 (by decide +kernel), aw_1 11 (by decide +kernel), by decide +kernel, by decide +kernel⟩, aw_7 25 (by decide +kernel), aw_7 26 (by decide +kernel)⟩
theorem g_X10_count : GV yX10_count cX10_count 4 (Option.some Jvm.ClassFile.FieldType.int) 1 := ⟨⟨aw_7 7 (by decide +kernel), aw_1 11 (by decide +kernel), by decide +kernel, by decide +kernel⟩, aw_7 5 (by decide +kernel), aw_7 6 (by decide +kernel)⟩
theorem g_X10_descend : GV yX10_descend cX10_descend 3 (Option.some Jvm.ClassFile.FieldType.int) 0 := ⟨⟨aw_7 149 (by decide +kernel), aw_1 11 (by decide +kernel), by decide +kernel, by decide +kernel⟩, aw_7 147 (by decide +kernel), aw_7 148 (by decide +kernel)⟩
theorem g_X10_describe : GV yX10_describe cX10_describe 3 (Option.some Jvm.ClassFile.FieldType.int) 2 := ⟨⟨aw_8 5 (by decide +kernel), aw_1 11 (by decide +kernel), by decide +kernel, by decide +kernel⟩, aw_8 3 (by decide +kernel), aw_8 4 (by decide +kernel)⟩
theorem g_X10_errorPosition : GV yX10_errorPosition cX10_errorPosition 1 (Option.some Jvm.ClassFile.FieldType.int) 0 := ⟨⟨aw_8 1 (by decide +kernel), aw_1 11 (by decide +kernel), by decide +kernel, by decide +kernel⟩, aw_7 239 (by decide +kernel), aw_8 0 (by decide +kernel)⟩
theorem g_X10_improvingShare : GV yX10_improvingShare cX10_improvingShare 3 (Option.some Jvm.ClassFile.FieldType.double) 0 := ⟨⟨aw_7 169 (by decide +kernel), aw_1 11 (by decide +kernel), by decide +kernel, by decide +kernel⟩, aw_7 167 (by decide +kernel), aw_7 168 (by decide +kernel)⟩
theorem g_X10_isForbidden : GV yX10_isForbidden cX10_isForbidden 3 (Option.some Jvm.ClassFile.FieldType.boolean) 2 := ⟨⟨aw_7 112 (by decide +kernel), aw_1 11 (by decide +kernel), by decide +kernel, by decide +kernel⟩, aw_7 110 (by decide +kernel), aw_7 111 (by decide +kernel)⟩
theorem g_X10_isLocalOptimum : GV yX10_isLocalOptimum cX10_isLocalOptimum 2 (Option.some Jvm.ClassFile.FieldType.boolean) 0 := ⟨⟨aw_7 116 (by decide +kernel), aw_1 11 (by decide +kernel), by decide +kernel, by decide +kernel⟩, aw_7 114 (by decide +kernel), aw_7 115 (by decide +kernel)⟩
theorem g_X10_log : GV yX10_log cX10_log 3 (Option.some Jvm.ClassFile.FieldType.int) 2 := ⟨⟨aw_7 165 (by decide +kernel), aw_1 11 (by decide +kernel), by decide +kernel, by decide +kernel⟩, aw_7 163 (by decide +kernel), aw_7 164 (by decide +kernel)⟩
theorem g_X10_logSize : GV yX10_logSize cX10_logSize 1 (Option.some Jvm.ClassFile.FieldType.int) 0 := ⟨⟨aw_7 161 (by decide +kernel), aw_1 11 (by decide +kernel), by decide +kernel, by decide +kernel⟩, aw_7 159 (by decide +kernel), aw_7 160 (by decide +kernel)⟩
theorem g_X10_mostBlamed : GV yX10_mostBlamed cX10_mostBlamed 5 (Option.some Jvm.ClassFile.FieldType.int) 0 := ⟨⟨aw_7 39 (by decide +kernel), aw_1 11 (by decide +kernel), by decide +kernel, by decide +kernel⟩, aw_7 37 (by decide +kernel), aw_7 38 (by decide +kernel)⟩
theorem g_X10_move : GV yX10_move cX10_move 3 (Option.some Jvm.ClassFile.FieldType.int) 2 := ⟨⟨aw_7 100 (by decide +kernel), aw_1 11 (by decide +kernel), by decide +kernel, by decide +kernel⟩, aw_7 98 (by decide +kernel), aw_7 99 (by decide +kernel)⟩
theorem g_X10_moves : GV yX10_moves cX10_moves 4 (Option.some Jvm.ClassFile.FieldType.int) 1 := ⟨⟨aw_7 68 (by decide +kernel), aw_1 11 (by decide +kernel), by decide +kernel, by decide +kernel⟩, aw_7 66 (by decide +kernel), aw_7 67 (by decide +kernel)⟩
theorem g_X10_nextMove : GV yX10_nextMove cX10_nextMove 2 (Option.some Jvm.ClassFile.FieldType.int) 0 := ⟨⟨aw_7 104 (by decide +kernel), aw_1 11 (by decide +kernel), by decide +kernel, by decide +kernel⟩, aw_7 102 (by decide +kernel), aw_7 103 (by decide +kernel)⟩
theorem g_X10_optima : GV yX10_optima cX10_optima 1 (Option.some Jvm.ClassFile.FieldType.int) 0 := ⟨⟨aw_7 189 (by decide +kernel), aw_1 11 (by decide +kernel), by decide +kernel, by decide +kernel⟩, aw_7 187 (by decide +kernel), aw_7 188 (by decide +kernel)⟩
theorem g_X10_optimalValue : GV yX10_optimalValue cX10_optimalValue 2 (Option.some Jvm.ClassFile.FieldType.int) 1 := ⟨⟨aw_7 193 (by decide +kernel), aw_1 11 (by decide +kernel), by decide +kernel, by decide +kernel⟩, aw_7 191 (by decide +kernel), aw_7 192 (by decide +kernel)⟩
theorem g_X10_optimum : GV yX10_optimum cX10_optimum 1 (Option.some Jvm.ClassFile.FieldType.int) 0 := ⟨⟨aw_7 173 (by decide +kernel), aw_1 11 (by decide +kernel), by decide +kernel, by decide +kernel⟩, aw_7 171 (by decide +kernel), aw_7 172 (by decide +kernel)⟩
theorem g_X10_read : GV yX10_read cX10_read 2 (Option.some Jvm.ClassFile.FieldType.int) 0 := ⟨⟨aw_7 209 (by decide +kernel), aw_1 11 (by decide +kernel), by decide +kernel, by decide +kernel⟩, aw_7 207 (by decide +kernel), aw_7 208 (by decide +kernel)⟩
theorem g_X10_relief : GV yX10_relief cX10_relief 6 (Option.some Jvm.ClassFile.FieldType.int) 1 := ⟨⟨aw_7 43 (by decide +kernel), aw_1 11 (by decide +kernel), by decide +kernel, by decide +kernel⟩, aw_7 41 (by decide +kernel), aw_7 42 (by decide +kernel)⟩
theorem g_X10_removeConstraint : GV yX10_removeConstraint cX10_removeConstraint 3 (Option.some Jvm.ClassFile.FieldType.int) 1 := ⟨⟨aw_6 227 (by decide +kernel), aw_1 11 (by decide +kernel), by decide +kernel, by decide +kernel⟩, aw_6 225 (by decide +kernel), aw_6 226 (by decide +kernel)⟩
theorem g_X10_restart : GV yX10_restart cX10_restart 1 (Option.some Jvm.ClassFile.FieldType.int) 0 := ⟨⟨aw_7 153 (by decide +kernel), aw_1 11 (by decide +kernel), by decide +kernel, by decide +kernel⟩, aw_7 151 (by decide +kernel), aw_7 152 (by decide +kernel)⟩
theorem g_X10_restore : GV yX10_restore cX10_restore 1 (Option.some Jvm.ClassFile.FieldType.int) 0 := ⟨⟨aw_8 25 (by decide +kernel), aw_1 11 (by decide +kernel), by decide +kernel, by decide +kernel⟩, aw_8 23 (by decide +kernel), aw_8 24 (by decide +kernel)⟩
theorem g_X10_run : GV yX10_run cX10_run 3 (Option.some Jvm.ClassFile.FieldType.int) 1 := ⟨⟨aw_7 145 (by decide +kernel), aw_1 11 (by decide +kernel), by decide +kernel, by decide +kernel⟩, aw_7 143 (by decide +kernel), aw_7 144 (by decide +kernel)⟩
theorem g_X10_save : GV yX10_save cX10_save 1 (Option.some Jvm.ClassFile.FieldType.int) 0 := ⟨⟨aw_8 21 (by decide +kernel), aw_1 11 (by decide +kernel), by decide +kernel, by decide +kernel⟩, aw_8 19 (by decide +kernel), aw_8 20 (by decide +kernel)⟩
theorem g_X10_search : GV yX10_search cX10_search 2 (Option.some Jvm.ClassFile.FieldType.int) 1 := ⟨⟨aw_7 157 (by decide +kernel), aw_1 11 (by decide +kernel), by decide +kernel, by decide +kernel⟩, aw_7 155 (by decide +kernel), aw_7 156 (by decide +kernel)⟩
theorem g_X10_setDomain : GV yX10_setDomain cX10_setDomain 4 (Option.some Jvm.ClassFile.FieldType.int) 2 := ⟨⟨aw_6 204 (by decide +kernel), aw_1 11 (by decide +kernel), by decide +kernel, by decide +kernel⟩, aw_6 202 (by decide +kernel), aw_6 203 (by decide +kernel)⟩
theorem g_X10_setNeighborhood : GV yX10_setNeighborhood cX10_setNeighborhood 3 (Option.some Jvm.ClassFile.FieldType.int) 1 := ⟨⟨aw_7 52 (by decide +kernel), aw_1 11 (by decide +kernel), by decide +kernel, by decide +kernel⟩, aw_7 50 (by decide +kernel), aw_7 51 (by decide +kernel)⟩
theorem g_X10_setPatience : GV yX10_setPatience cX10_setPatience 3 (Option.some Jvm.ClassFile.FieldType.int) 1 := ⟨⟨aw_7 60 (by decide +kernel), aw_1 11 (by decide +kernel), by decide +kernel, by decide +kernel⟩, aw_7 58 (by decide +kernel), aw_7 59 (by decide +kernel)⟩
theorem g_X10_setSeed : GV yX10_setSeed cX10_setSeed 3 (Option.some Jvm.ClassFile.FieldType.int) 1 := ⟨⟨aw_7 64 (by decide +kernel), aw_1 11 (by decide +kernel), by decide +kernel, by decide +kernel⟩, aw_7 62 (by decide +kernel), aw_7 63 (by decide +kernel)⟩
theorem g_X10_setTenure : GV yX10_setTenure cX10_setTenure 3 (Option.some Jvm.ClassFile.FieldType.int) 1 := ⟨⟨aw_7 56 (by decide +kernel), aw_1 11 (by decide +kernel), by decide +kernel, by decide +kernel⟩, aw_7 54 (by decide +kernel), aw_7 55 (by decide +kernel)⟩
theorem g_X10_setValue : GV yX10_setValue cX10_setValue 4 (Option.some Jvm.ClassFile.FieldType.int) 2 := ⟨⟨aw_6 239 (by decide +kernel), aw_1 11 (by decide +kernel), by decide +kernel, by decide +kernel⟩, aw_6 237 (by decide +kernel), aw_6 238 (by decide +kernel)⟩
theorem g_X10_setWeight : GV yX10_setWeight cX10_setWeight 4 (Option.some Jvm.ClassFile.FieldType.int) 2 := ⟨⟨aw_6 235 (by decide +kernel), aw_1 11 (by decide +kernel), by decide +kernel, by decide +kernel⟩, aw_6 233 (by decide +kernel), aw_6 234 (by decide +kernel)⟩
theorem g_X10_step : GV yX10_step cX10_step 1 (Option.some Jvm.ClassFile.FieldType.int) 0 := ⟨⟨aw_7 120 (by decide +kernel), aw_1 11 (by decide +kernel), by decide +kernel, by decide +kernel⟩, aw_7 118 (by decide +kernel), aw_7 119 (by decide +kernel)⟩
theorem g_X10_takeBest : GV yX10_takeBest cX10_takeBest 3 (Option.some Jvm.ClassFile.FieldType.int) 0 := ⟨⟨aw_7 48 (by decide +kernel), aw_1 11 (by decide +kernel), by decide +kernel, by decide +kernel⟩, aw_7 46 (by decide +kernel), aw_7 47 (by decide +kernel)⟩
theorem g_X10_thrown : GV yX10_thrown cX10_thrown 1 (Option.some Jvm.ClassFile.FieldType.int) 0 := ⟨⟨aw_6 130 (by decide +kernel), aw_1 11 (by decide +kernel), by decide +kernel, by decide +kernel⟩, aw_6 128 (by decide +kernel), aw_6 129 (by decide +kernel)⟩
theorem g_X10_unavoidable : GV yX10_unavoidable cX10_unavoidable 3 (Option.some Jvm.ClassFile.FieldType.int) 0 := ⟨⟨aw_7 201 (by decide +kernel), aw_1 11 (by decide +kernel), by decide +kernel, by decide +kernel⟩, aw_7 199 (by decide +kernel), aw_7 200 (by decide +kernel)⟩
theorem g_X10_undo : GV yX10_undo cX10_undo 1 (Option.some Jvm.ClassFile.FieldType.int) 0 := ⟨⟨aw_8 17 (by decide +kernel), aw_1 11 (by decide +kernel), by decide +kernel, by decide +kernel⟩, aw_8 15 (by decide +kernel), aw_8 16 (by decide +kernel)⟩
theorem g_X10_variable : GV yX10_variable cX10_variable 5 (Option.some Jvm.ClassFile.FieldType.int) 2 := ⟨⟨aw_7 19 (by decide +kernel), aw_1 11 (by decide +kernel), by decide +kernel, by decide +kernel⟩, aw_7 17 (by decide +kernel), aw_7 18 (by decide +kernel)⟩
theorem g_X10_violation : GV yX10_violation cX10_violation 3 (Option.some Jvm.ClassFile.FieldType.int) 2 := ⟨⟨aw_7 35 (by decide +kernel), aw_1 11 (by decide +kernel), by decide +kernel, by decide +kernel⟩, aw_7 33 (by decide +kernel), aw_7 34 (by decide +kernel)⟩
theorem g_X10_worst : GV yX10_worst cX10_worst 1 (Option.some Jvm.ClassFile.FieldType.int) 0 := ⟨⟨aw_7 197 (by decide +kernel), aw_1 11 (by decide +kernel), by decide +kernel, by decide +kernel⟩, aw_7 195 (by decide +kernel), aw_7 196 (by decide +kernel)⟩
theorem g_X9_bestCost : GV yX9_bestCost cX9_bestCost 1 (Option.some Jvm.ClassFile.FieldType.int) 0 := ⟨⟨aw_2 185 (by decide +kernel), aw_1 1 (by decide +kernel), by decide +kernel, by decide +kernel⟩, aw_2 183 (by decide +kernel), aw_2 184 (by decide +kernel)⟩
theorem g_X9_clear : GV yX9_clear cX9_clear 2 (Option.some Jvm.ClassFile.FieldType.int) 0 := ⟨⟨aw_2 100 (by decide +kernel), aw_1 1 (by decide +kernel), by decide +kernel, by decide +kernel⟩, aw_2 98 (by decide +kernel), aw_2 99 (by decide +kernel)⟩
theorem g_X9_cost : GV yX9_cost cX9_cost 1 (Option.some Jvm.ClassFile.FieldType.int) 0 := ⟨⟨aw_2 180 (by decide +kernel), aw_1 1 (by decide +kernel), by decide +kernel, by decide +kernel⟩, aw_2 178 (by decide +kernel), aw_2 179 (by decide +kernel)⟩
theorem g_X9_descend : GV yX9_descend cX9_descend 3 (Option.some Jvm.ClassFile.FieldType.int) 0 := ⟨⟨aw_3 30 (by decide +kernel), aw_1 1 (by decide +kernel), by decide +kernel, by decide +kernel⟩, aw_3 28 (by decide +kernel), aw_3 29 (by decide +kernel)⟩
theorem g_X9_isLocalOptimum : GV yX9_isLocalOptimum cX9_isLocalOptimum 1 (Option.some Jvm.ClassFile.FieldType.boolean) 0 := ⟨⟨aw_3 17 (by decide +kernel), aw_1 1 (by decide +kernel), by decide +kernel, by decide +kernel⟩, aw_3 15 (by decide +kernel), aw_3 16 (by decide +kernel)⟩
theorem g_X9_logSize : GV yX9_logSize cX9_logSize 1 (Option.some Jvm.ClassFile.FieldType.int) 0 := ⟨⟨aw_3 58 (by decide +kernel), aw_1 1 (by decide +kernel), by decide +kernel, by decide +kernel⟩, aw_3 56 (by decide +kernel), aw_3 57 (by decide +kernel)⟩
theorem g_X9_moves : GV yX9_moves cX9_moves 2 (Option.some Jvm.ClassFile.FieldType.int) 1 := ⟨⟨aw_2 198 (by decide +kernel), aw_1 1 (by decide +kernel), by decide +kernel, by decide +kernel⟩, aw_2 196 (by decide +kernel), aw_2 197 (by decide +kernel)⟩
theorem g_X9_restart : GV yX9_restart cX9_restart 1 (Option.some Jvm.ClassFile.FieldType.int) 0 := ⟨⟨aw_3 44 (by decide +kernel), aw_1 1 (by decide +kernel), by decide +kernel, by decide +kernel⟩, aw_3 42 (by decide +kernel), aw_3 43 (by decide +kernel)⟩
theorem g_X9_save : GV yX9_save cX9_save 1 (Option.some Jvm.ClassFile.FieldType.int) 0 := ⟨⟨aw_3 62 (by decide +kernel), aw_1 1 (by decide +kernel), by decide +kernel, by decide +kernel⟩, aw_3 60 (by decide +kernel), aw_3 61 (by decide +kernel)⟩
theorem g_X9_takeBest : GV yX9_takeBest cX9_takeBest 2 (Option.some Jvm.ClassFile.FieldType.int) 0 := ⟨⟨aw_2 189 (by decide +kernel), aw_1 1 (by decide +kernel), by decide +kernel, by decide +kernel⟩, aw_2 187 (by decide +kernel), aw_2 188 (by decide +kernel)⟩
