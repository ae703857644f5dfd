/-! THE ROWS for the law's wrappers (they catch) and the law's body (by program): Rg, the context with any end Q. -/
def cmb (lo hi : Int32) : UInt64 := UInt64.ofNat (lo.toUInt32.toNat + 4294967296 * hi.toUInt32.toNat)
def nwC : List (String × String) := [("java/lang/IllegalStateException", "java/lang/IllegalArgumentException"), ("java/lang/IllegalArgumentException", "java/lang/IndexOutOfBoundsException"), ("java/lang/IllegalStateException", "java/lang/IndexOutOfBoundsException"), ("java/util/NoSuchElementException", "java/lang/IndexOutOfBoundsException")]
def NC4 (U : State) : Prop := ∀ q ∈ nwC, va_Nc q.1 q.2 U
theorem nc_moved {u U : State} (hvm : u.vm.Alike U.vm) (h : NC4 u) : NC4 U := fun q hq => (h q hq).moved hvm
abbrev Ft : Type := Program → Env → Room → State → MethodId → Array Value → List Frame → Method → Code → (State → Prop) → Prop
def VP (p : Program) (l : Launch) (e : Env) (R : Room) (s : State) (m : MethodId) (args : Array Value) (below : List Frame) (meth : Method) (c : Code) (D : va_G) (ad : Nat → Nat) (cy : Nat → ClassId) (nL : Nat) (Q : State → Prop) (Pl : Array Slot → Prop) : Vt := fun κ σ pc lv st =>
  ∀ (H : Heap) (locs : List Loc) (ls : Array Slot), va_P D wCl (wd ad cy σ) H → va_S (AD ad) s.heap H locs → lv_has ls nL (lvl ad 0 lv) → Pl ls → W p l e R s m args below meth c H locs κ (6 * κ) Q (F0 m pc ls st)
def Rg (l : Launch) (D : va_G) (ad : Nat → Nat) (cy : Nat → ClassId) (own : String) (cc : ByteArray) (nL : Nat) (fr lo k : Nat) (tb : List ExceptionTableEntry) (F : Ft) (Pl : Array Slot → Prop) (V : Vt) : Prop :=
  ∃ (p : Program) (e : Env) (R : Room) (s : State) (m : MethodId) (args : Array Value) (below : List Frame) (meth : Method) (c : Code) (Q : State → Prop),
    V = VP p l e R s m args below meth c D ad cy nL Q Pl ∧ F p e R s m args below meth c Q ∧
    (p.tables.exec = Jvm.exec ∧ c.code = cc ∧ c.maxLocals = nL ∧ s.vm.findClass own = some m.cls ∧ meth.locks = false) ∧
    (∀ w ∈ AW, w.before args s = true) ∧ va_K D wCl (tyL cy) s ∧ Inj ad ∧ NW s ∧ ZQ ad s s.heap ∧ NC4 s ∧ l.stackTraces = false ∧ (R.frames = fr ∧ R.locals = lo ∧ k ≤ R.cells ∧ 6 * k ≤ R.slots) ∧ c.exceptionTable.toList = tb
def pT : Array Slot → Prop := fun _ => True
def CoW (l : Launch) (D : va_G) (ad : Nat → Nat) (cy : Nat → ClassId) (y : MethodName) (cc : ByteArray) (nL : Nat) (ret : Option FieldType) (hh : List (Nat × Nat × Nat × Nat)) (fr lo k : Nat) (av : List Value) (σ : Mem) (z : Rz) (τ : Mem) : Prop :=
  vx_Met l y (.codeWith y cc nL ret hh :: AW) ({ frames := fr, cells := k, slots := 6 * k, locals := lo }) (va_Pc av (fun U => (WS D ad cy σ U ∧ NW U) ∧ NC4 U)) (Qo D ad cy z τ) (Xo D ad cy z τ) k (6 * k) (AD ad)
theorem wsc_blind {D : va_G} {ad : Nat → Nat} {cy : Nat → ClassId} {σ : Mem} {av : List Value} : FrameBlind (va_Pc av (fun U => (WS D ad cy σ U ∧ NW U) ∧ NC4 U)) := by
  intro a U g mk h
  obtain ⟨h1, h2, h3⟩ := h
  obtain ⟨h4, h5⟩ := ws_blind (D := D) (ad := ad) (cy := cy) (σ := σ) (av := av) a U g mk ⟨h1, h2⟩
  exact ⟨h4, h5, nc_moved (u := U) (U := U.calling g mk a) (Vm.Alike.refl U.vm) h3⟩
def FW (D : va_G) (ad : Nat → Nat) (cy : Nat → ClassId) (z : Rz) (τ : Mem) (k : Nat) : Ft := fun _ _ _ s _ args below meth _ Q => Q = vx_MQ below (Qo D ad cy z τ) (Xo D ad cy z τ) args s k (6 * k) (AD ad) ∧ meth.sig.returnType = some .int
theorem cow_of {l : Launch} {D : va_G} {ad : Nat → Nat} {cy : Nat → ClassId} {y : MethodName} {cc : ByteArray} {nL : Nat} {hh : List (Nat × Nat × Nat × Nat)} {fr lo k : Nat} {av : List (Int32 ⊕ Nat)} {σ : Mem} {z : Rz} {τ : Mem}
    (hl : l.stackTraces = false) (hI : Inj ad) (hy : plainName y.cls = true) (hn : av.length ≤ nL) (lv : LVa) (hlv : lv = av.map some ++ List.replicate (nL - av.length) none)
    (body : ∀ V : Vt, Rg l D ad cy y.cls cc nL fr lo k (tableOf hh) (FW D ad cy z τ k) pT V → V 0 σ 0 lv []) : CoW l D ad cy y cc nL (some .int) hh fr lo k (av.map (lw ad)) σ z τ := by
  refine vx_ofWH (cc := cc) (maxL := nL) (ret := some .int) hy rfl ?_
  intro p e s m args below meth c s₁ B hml hv
  obtain ⟨rfl, ⟨⟨hP, hK, hZ⟩, hN⟩, hC⟩ := hv
  have hts := atoms_spec (ws := .codeWith y cc nL (some .int) hh :: AW) B.pre
  have hK0 := body _ ⟨p, e, (headSpec (.codeWith y cc nL (some .int) hh :: AW) { frames := fr, cells := k, slots := 6 * k, locals := lo }).room, s, m, (av.map (lw ad)).toArray, below, meth, c, vx_MQ below (Qo D ad cy z τ) (Xo D ad cy z τ) (av.map (lw ad)).toArray s k (6 * k) (AD ad), rfl, ⟨rfl, B.returns⟩, ⟨B.exec, B.bytes, hml, findClass_of_methodNamed B.named, B.notSynchronized⟩, fun w hw => hts w (List.mem_cons_of_mem _ hw), hK, hI, hN, hZ, hC, hl, ⟨rfl, rfl, Nat.le_refl _, Nat.le_refl _⟩, vx_table (x := y) B (hts _ List.mem_cons_self)⟩
  have hls : ∀ vs : List (Int32 ⊕ Nat), lg_sl (vs.map (lw ad)) = (vs.map (lw ad)).map Slot.val := by
    intro vs
    induction vs with
    | nil => rfl
    | cons v vs ih =>
      show (if (lw ad v).category = 2 then [Slot.val (lw ad v), Slot.second] else [Slot.val (lw ad v)]) ++ lg_sl (vs.map (lw ad)) = _
      rw [lw_cat, ih]
      rfl
  have hlen : (lg_sl (av.map (lw ad))).length ≤ nL := by rw [hls]; simpa using hn
  have hl0 := lv_entry (av.map (lw ad)) hlen
  rw [lg_entry_eq]
  refine hK0 s.heap [] _ hP va_S.rf ?_ trivial
  refine lv_mono hl0 (fun q hq => ?_)
  rw [hlv] at hq
  have key : ∀ (vs : List (Int32 ⊕ Nat)) (i : Nat) (q : Nat × Value), q ∈ lvl ad i (vs.map some ++ List.replicate (nL - av.length) none) → q ∈ lv_args i (vs.map (lw ad)) := by
    intro vs
    induction vs with
    | nil =>
      intro i q hq
      obtain ⟨k, v, h1, -⟩ := lvl_of hq
      have := List.mem_of_getElem? h1
      simp at this
    | cons v vs ih =>
      intro i q hq
      show q ∈ (i, lw ad v) :: lv_args (if (lw ad v).category = 2 then i + 2 else i + 1) (vs.map (lw ad))
      rw [lw_cat]
      rcases List.mem_cons.mp hq with rfl | hq
      · exact List.mem_cons_self
      · exact List.mem_cons_of_mem _ (ih (i + 1) q hq)
  exact key av 0 q hq
def GW (y : MethodName) (bytes : ByteArray) (maxL : Nat) (rt : Option FieldType) (hh : List (Nat × Nat × Nat × Nat)) (n : Nat) : Prop := .codeWith y bytes maxL rt hh ∈ AW ∧ .initialized y.cls ∈ AW ∧ (y.cls ≠ "java/lang/invoke/MethodHandle" ∧ y.cls ≠ "java/lang/invoke/VarHandle" ∧ (parseMethodDescriptor y.desc).map (fun d => d.parameters.length) = some n) ∧ plainName y.cls = true ∧ .static y ∈ AW
section RG
variable {l : Launch} {D : va_G} {ad : Nat → Nat} {cy : Nat → ClassId} {own : String} {cc : ByteArray} {nL : Nat} {fr lo k : Nat} {tb : List ExceptionTableEntry} {F : Ft} {Pl : Array Slot → Prop} {V : Vt}
variable {κ pc : Nat} {σ : Mem} {lv : LVa} {st : List Value}
theorem rg_iconst (C : Rg l D ad cy own cc nL fr lo k tb F Pl V) {n : Int} {v : Int32} (hv : Int32.ofInt n = v) (d : decode cc pc = .ok (.iconst n, 1)) (K : V κ σ (pc + 1) lv (.int v :: st)) : V κ σ pc lv st := by
  obtain ⟨p, e, R, s, m, args, below, meth, c, Q, rfl, hF, ⟨hx, hb, hml, hown, hlocks⟩, hts, hK, hI, hN, hZ, hC, hst, hR, hT⟩ := C
  intro H locs ls hP hS hl hpl
  exact lv_iconst hx hb d hv (K H locs ls hP hS hl hpl)
theorem rg_bipush (C : Rg l D ad cy own cc nL fr lo k tb F Pl V) {n : Int} {v : Int32} (hv : (Int8.ofInt n).toInt32 = v) (d : decode cc pc = .ok (.bipush n, 2)) (K : V κ σ (pc + 2) lv (.int v :: st)) : V κ σ pc lv st := by
  obtain ⟨p, e, R, s, m, args, below, meth, c, Q, rfl, hF, ⟨hx, hb, hml, hown, hlocks⟩, hts, hK, hI, hN, hZ, hC, hst, hR, hT⟩ := C
  intro H locs ls hP hS hl hpl
  exact lv_bipush hx hb d hv (K H locs ls hP hS hl hpl)
theorem rg_iload (C : Rg l D ad cy own cc nL fr lo k tb F Pl V) {i : Nat} {x : Int32} (d : decode cc pc = .ok (.iload i, 2)) (hq : lv[i]? = some (some (.inl x))) (K : V κ σ (pc + 2) lv (.int x :: st)) : V κ σ pc lv st := by
  obtain ⟨p, e, R, s, m, args, below, meth, c, Q, rfl, hF, ⟨hx, hb, hml, hown, hlocks⟩, hts, hK, hI, hN, hZ, hC, hst, hR, hT⟩ := C
  intro H locs ls hP hS hl hpl
  exact lv_iload hx hb d (lvl_at (ad := ad) hl hq) (K H locs ls hP hS hl hpl)
theorem rg_aload_n (C : Rg l D ad cy own cc nL fr lo k tb F Pl V) {i : Fin 4} {q : Nat} (d : decode cc pc = .ok (.aload_n i, 1)) (hq : lv[(i : Nat)]? = some (some (.inr q))) (K : V κ σ (pc + 1) lv (.ref (ad q) :: st)) : V κ σ pc lv st := by
  obtain ⟨p, e, R, s, m, args, below, meth, c, Q, rfl, hF, ⟨hx, hb, hml, hown, hlocks⟩, hts, hK, hI, hN, hZ, hC, hst, hR, hT⟩ := C
  intro H locs ls hP hS hl hpl
  exact lv_aload_n hx hb d rfl (lvl_at (ad := ad) hl hq) (K H locs ls hP hS hl hpl)
theorem rg_aload (C : Rg l D ad cy own cc nL fr lo k tb F Pl V) {i : Nat} {q : Nat} (d : decode cc pc = .ok (.aload i, 2)) (hq : lv[i]? = some (some (.inr q))) (K : V κ σ (pc + 2) lv (.ref (ad q) :: st)) : V κ σ pc lv st := by
  obtain ⟨p, e, R, s, m, args, below, meth, c, Q, rfl, hF, ⟨hx, hb, hml, hown, hlocks⟩, hts, hK, hI, hN, hZ, hC, hst, hR, hT⟩ := C
  intro H locs ls hP hS hl hpl
  exact lv_aload hx hb d (lvl_at (ad := ad) hl hq) (K H locs ls hP hS hl hpl)
theorem rg_i2c (C : Rg l D ad cy own cc nL fr lo k tb F Pl V) {x : Int32} (d : decode cc pc = .ok (.i2c, 1)) (K : V κ σ (pc + 1) lv (.int ((x.toUInt32 % 65536).toInt32) :: st)) : V κ σ pc lv (.int x :: st) := by
  obtain ⟨p, e, R, s, m, args, below, meth, c, Q, rfl, hF, ⟨hx, hb, hml, hown, hlocks⟩, hts, hK, hI, hN, hZ, hC, hst, hR, hT⟩ := C
  intro H locs ls hP hS hl hpl
  exact lv_i2c hx hb d rfl (K H locs ls hP hS hl hpl)
theorem rg_goto (C : Rg l D ad cy own cc nL fr lo k tb F Pl V) {off : Int} {tgt : Nat} (ht : (pc : Int) + off = (tgt : Int)) (d : decode cc pc = .ok (.goto off, 3)) (K : V κ σ tgt lv st) : V κ σ pc lv st := by
  obtain ⟨p, e, R, s, m, args, below, meth, c, Q, rfl, hF, ⟨hx, hb, hml, hown, hlocks⟩, hts, hK, hI, hN, hZ, hC, hst, hR, hT⟩ := C
  intro H locs ls hP hS hl hpl
  exact lv_goto hx hb d ht (K H locs ls hP hS hl hpl)
theorem rg_tinE (C : Rg l D ad cy own cc nL fr lo k tb F Pl V) {dflt lo9 hi : Int} {offs : Array Int} {len : Nat} {x v : Int32} (off : Int) {tgt : Nat} (d : decode cc pc = .ok (.tableswitch dflt lo9 hi offs, len)) (hxv : x = v) (h1 : (¬ v.toInt < lo9) ∧ ¬ hi < v.toInt) (ho : offs[(v.toInt - lo9).toNat]? = some off) (ht : (pc : Int) + off = (tgt : Int)) (K : V κ σ tgt lv st) : V κ σ pc lv (.int x :: st) := by
  obtain ⟨p, e, R, s, m, args, below, meth, c, Q, rfl, hF, ⟨hx, hb, hml, hown, hlocks⟩, hts, hK, hI, hN, hZ, hC, hst, hR, hT⟩ := C
  intro H locs ls hP hS hl hpl
  subst hxv; exact lv_tableIn hx hb d h1.1 h1.2 ho ht (K H locs ls hP hS hl hpl)
theorem rg_tout (C : Rg l D ad cy own cc nL fr lo k tb F Pl V) {dflt lo9 hi : Int} {offs : Array Int} {len : Nat} {x : Int32} {tgt : Nat} (d : decode cc pc = .ok (.tableswitch dflt lo9 hi offs, len)) (h : x.toInt < lo9 ∨ hi < x.toInt) (ht : (pc : Int) + dflt = (tgt : Int)) (K : V κ σ tgt lv st) : V κ σ pc lv (.int x :: st) := by
  obtain ⟨p, e, R, s, m, args, below, meth, c, Q, rfl, hF, ⟨hx, hb, hml, hown, hlocks⟩, hts, hK, hI, hN, hZ, hC, hst, hR, hT⟩ := C
  intro H locs ls hP hS hl hpl
  exact lv_tableOut hx hb d h ht (K H locs ls hP hS hl hpl)
theorem rg_iadd (C : Rg l D ad cy own cc nL fr lo k tb F Pl V) {x y : Int32} (d : decode cc pc = .ok (.iadd, 1)) (K : V κ σ (pc + 1) lv (.int (x + y) :: st)) : V κ σ pc lv (.int y :: .int x :: st) := by
  obtain ⟨p, e, R, s, m, args, below, meth, c, Q, rfl, hF, ⟨hx, hb, hml, hown, hlocks⟩, hts, hK, hI, hN, hZ, hC, hst, hR, hT⟩ := C
  intro H locs ls hP hS hl hpl
  exact lv_iadd hx hb d (K H locs ls hP hS hl hpl)
theorem rg_isub (C : Rg l D ad cy own cc nL fr lo k tb F Pl V) {x y : Int32} (d : decode cc pc = .ok (.isub, 1)) (K : V κ σ (pc + 1) lv (.int (x - y) :: st)) : V κ σ pc lv (.int y :: .int x :: st) := by
  obtain ⟨p, e, R, s, m, args, below, meth, c, Q, rfl, hF, ⟨hx, hb, hml, hown, hlocks⟩, hts, hK, hI, hN, hZ, hC, hst, hR, hT⟩ := C
  intro H locs ls hP hS hl hpl
  exact lv_isub hx hb d (K H locs ls hP hS hl hpl)
theorem rg_iand (C : Rg l D ad cy own cc nL fr lo k tb F Pl V) {x y : Int32} (d : decode cc pc = .ok (.iand, 1)) (K : V κ σ (pc + 1) lv (.int (x &&& y) :: st)) : V κ σ pc lv (.int y :: .int x :: st) := by
  obtain ⟨p, e, R, s, m, args, below, meth, c, Q, rfl, hF, ⟨hx, hb, hml, hown, hlocks⟩, hts, hK, hI, hN, hZ, hC, hst, hR, hT⟩ := C
  intro H locs ls hP hS hl hpl
  exact lv_iand hx hb d (K H locs ls hP hS hl hpl)
theorem rg_iload_n (C : Rg l D ad cy own cc nL fr lo k tb F Pl V) {i : Fin 4} {x : Int32} (d : decode cc pc = .ok (.iload_n i, 1)) (hq : lv[(i : Nat)]? = some (some (.inl x))) (K : V κ σ (pc + 1) lv (.int x :: st)) : V κ σ pc lv st := by
  obtain ⟨p, e, R, s, m, args, below, meth, c, Q, rfl, hF, ⟨hx, hb, hml, hown, hlocks⟩, hts, hK, hI, hN, hZ, hC, hst, hR, hT⟩ := C
  intro H locs ls hP hS hl hpl
  exact lv_iload_n hx hb d rfl (lvl_at (ad := ad) hl hq) (K H locs ls hP hS hl hpl)
theorem rg_istore_n (C : Rg l D ad cy own cc nL fr lo k tb F pT V) {i : Fin 4} {x : Int32} (hi : (i : Nat) < nL) (d : decode cc pc = .ok (.istore_n i, 1)) (K : V κ σ (pc + 1) (lv.set (i : Nat) (some (.inl x))) st) : V κ σ pc lv (.int x :: st) := by
  obtain ⟨p, e, R, s, m, args, below, meth, c, Q, rfl, hF, ⟨hx, hb, hml, hown, hlocks⟩, hts, hK, hI, hN, hZ, hC, hst, hR, hT⟩ := C
  intro H locs ls hP hS hl hpl
  exact lv_istore_n hx hb d rfl hl hi rfl (fun ls2 hl2 => K H locs ls2 hP hS (lvl_store (ad := ad) (v := .inl x) hl2) trivial)
theorem rg_istore (C : Rg l D ad cy own cc nL fr lo k tb F pT V) {i : Nat} {x : Int32} (hi : i < nL) (d : decode cc pc = .ok (.istore i, 2)) (K : V κ σ (pc + 2) (lv.set i (some (.inl x))) st) : V κ σ pc lv (.int x :: st) := by
  obtain ⟨p, e, R, s, m, args, below, meth, c, Q, rfl, hF, ⟨hx, hb, hml, hown, hlocks⟩, hts, hK, hI, hN, hZ, hC, hst, hR, hT⟩ := C
  intro H locs ls hP hS hl hpl
  exact lv_istore hx hb d hl hi rfl (fun ls2 hl2 => K H locs ls2 hP hS (lvl_store (ad := ad) (v := .inl x) hl2) trivial)
theorem rg_iinc (C : Rg l D ad cy own cc nL fr lo k tb F pT V) {i : Nat} {n : Int} {x w : Int32} (hw : Int32.ofInt n = w) (hi : i < nL) (d : decode cc pc = .ok (.iinc i n, 3)) (hq : lv[i]? = some (some (.inl x))) (K : V κ σ (pc + 3) (lv.set i (some (.inl (x + w)))) st) : V κ σ pc lv st := by
  obtain ⟨p, e, R, s, m, args, below, meth, c, Q, rfl, hF, ⟨hx, hb, hml, hown, hlocks⟩, hts, hK, hI, hN, hZ, hC, hst, hR, hT⟩ := C
  intro H locs ls hP hS hl hpl
  subst hw
  have hm := lvl_mem (ad := ad) (i := 0) hq
  rw [Nat.zero_add] at hm
  obtain ⟨k0, hk0⟩ := List.getElem?_of_mem hm
  exact lv_iinc hx hb d hl hk0 rfl hi rfl (fun ls2 hl2 => K H locs ls2 hP hS (lvl_store (ad := ad) (v := .inl (x + Int32.ofInt n)) hl2) trivial)
theorem rg_if_eq (C : Rg l D ad cy own cc nL fr lo k tb F Pl V) {α : Type} {x : Int32} {off : Int} {tgt : Nat} {inst : Decidable (x = 0)} {a b w : α} (h : @ite α (x = 0) inst a b = w) (ht : (pc : Int) + off = (tgt : Int)) (d : decode cc pc = .ok (.ifCond .eq off, 3)) (kt : x = 0 → a = w → V κ σ tgt lv st) (kf : ¬ x = 0 → b = w → V κ σ (pc + 3) lv st) : V κ σ pc lv (.int x :: st) := by
  obtain ⟨p, e, R, s, m, args, below, meth, c, Q, rfl, hF, ⟨hx, hb, hml, hown, hlocks⟩, hts, hK, hI, hN, hZ, hC, hst, hR, hT⟩ := C
  intro H locs ls hP hS hl hpl
  exact lv_if_eq hx hb d ht (fun q => kt q ((it_e h).1 q) H locs ls hP hS hl hpl) (fun q => kf q ((it_e h).2 q) H locs ls hP hS hl hpl)
theorem rg_if_ne (C : Rg l D ad cy own cc nL fr lo k tb F Pl V) {α : Type} {x : Int32} {off : Int} {tgt : Nat} {inst : Decidable (x = 0)} {a b w : α} (h : @ite α (x = 0) inst a b = w) (ht : (pc : Int) + off = (tgt : Int)) (d : decode cc pc = .ok (.ifCond .ne off, 3)) (kt : ¬ x = 0 → b = w → V κ σ tgt lv st) (kf : x = 0 → a = w → V κ σ (pc + 3) lv st) : V κ σ pc lv (.int x :: st) := by
  obtain ⟨p, e, R, s, m, args, below, meth, c, Q, rfl, hF, ⟨hx, hb, hml, hown, hlocks⟩, hts, hK, hI, hN, hZ, hC, hst, hR, hT⟩ := C
  intro H locs ls hP hS hl hpl
  exact lv_if_ne hx hb d ht (fun q => kt q ((it_e h).2 q) H locs ls hP hS hl hpl) (fun q => kf q ((it_e h).1 q) H locs ls hP hS hl hpl)
theorem rg_if_lt (C : Rg l D ad cy own cc nL fr lo k tb F Pl V) {α : Type} {x : Int32} {off : Int} {tgt : Nat} {inst : Decidable (x < 0)} {a b w : α} (h : @ite α (x < 0) inst a b = w) (ht : (pc : Int) + off = (tgt : Int)) (d : decode cc pc = .ok (.ifCond .lt off, 3)) (kt : x < 0 → a = w → V κ σ tgt lv st) (kf : ¬ x < 0 → b = w → V κ σ (pc + 3) lv st) : V κ σ pc lv (.int x :: st) := by
  obtain ⟨p, e, R, s, m, args, below, meth, c, Q, rfl, hF, ⟨hx, hb, hml, hown, hlocks⟩, hts, hK, hI, hN, hZ, hC, hst, hR, hT⟩ := C
  intro H locs ls hP hS hl hpl
  exact lv_if_lt hx hb d ht (fun q => kt q ((it_e h).1 q) H locs ls hP hS hl hpl) (fun q => kf q ((it_e h).2 q) H locs ls hP hS hl hpl)
theorem rg_if_ge (C : Rg l D ad cy own cc nL fr lo k tb F Pl V) {α : Type} {x : Int32} {off : Int} {tgt : Nat} {inst : Decidable (0 ≤ x)} {a b w : α} (h : @ite α (0 ≤ x) inst a b = w) (ht : (pc : Int) + off = (tgt : Int)) (d : decode cc pc = .ok (.ifCond .ge off, 3)) (kt : 0 ≤ x → a = w → V κ σ tgt lv st) (kf : ¬ 0 ≤ x → b = w → V κ σ (pc + 3) lv st) : V κ σ pc lv (.int x :: st) := by
  obtain ⟨p, e, R, s, m, args, below, meth, c, Q, rfl, hF, ⟨hx, hb, hml, hown, hlocks⟩, hts, hK, hI, hN, hZ, hC, hst, hR, hT⟩ := C
  intro H locs ls hP hS hl hpl
  exact lv_if_ge hx hb d ht (fun q => kt q ((it_e h).1 q) H locs ls hP hS hl hpl) (fun q => kf q ((it_e h).2 q) H locs ls hP hS hl hpl)
theorem rg_if_gt (C : Rg l D ad cy own cc nL fr lo k tb F Pl V) {α : Type} {x : Int32} {off : Int} {tgt : Nat} {inst : Decidable (0 < x)} {a b w : α} (h : @ite α (0 < x) inst a b = w) (ht : (pc : Int) + off = (tgt : Int)) (d : decode cc pc = .ok (.ifCond .gt off, 3)) (kt : 0 < x → a = w → V κ σ tgt lv st) (kf : ¬ 0 < x → b = w → V κ σ (pc + 3) lv st) : V κ σ pc lv (.int x :: st) := by
  obtain ⟨p, e, R, s, m, args, below, meth, c, Q, rfl, hF, ⟨hx, hb, hml, hown, hlocks⟩, hts, hK, hI, hN, hZ, hC, hst, hR, hT⟩ := C
  intro H locs ls hP hS hl hpl
  exact lv_if_gt hx hb d ht (fun q => kt q ((it_e h).1 q) H locs ls hP hS hl hpl) (fun q => kf q ((it_e h).2 q) H locs ls hP hS hl hpl)
theorem rg_if_le (C : Rg l D ad cy own cc nL fr lo k tb F Pl V) {α : Type} {x : Int32} {off : Int} {tgt : Nat} {inst : Decidable (x ≤ 0)} {a b w : α} (h : @ite α (x ≤ 0) inst a b = w) (ht : (pc : Int) + off = (tgt : Int)) (d : decode cc pc = .ok (.ifCond .le off, 3)) (kt : x ≤ 0 → a = w → V κ σ tgt lv st) (kf : ¬ x ≤ 0 → b = w → V κ σ (pc + 3) lv st) : V κ σ pc lv (.int x :: st) := by
  obtain ⟨p, e, R, s, m, args, below, meth, c, Q, rfl, hF, ⟨hx, hb, hml, hown, hlocks⟩, hts, hK, hI, hN, hZ, hC, hst, hR, hT⟩ := C
  intro H locs ls hP hS hl hpl
  exact lv_if_le hx hb d ht (fun q => kt q ((it_e h).1 q) H locs ls hP hS hl hpl) (fun q => kf q ((it_e h).2 q) H locs ls hP hS hl hpl)
theorem rg_ic_eq (C : Rg l D ad cy own cc nL fr lo k tb F Pl V) {α : Type} {x y : Int32} {off : Int} {tgt : Nat} {inst : Decidable (x = y)} {a b w : α} (h : @ite α (x = y) inst a b = w) (ht : (pc : Int) + off = (tgt : Int)) (d : decode cc pc = .ok (.if_icmp .eq off, 3)) (kt : x = y → a = w → V κ σ tgt lv st) (kf : ¬ x = y → b = w → V κ σ (pc + 3) lv st) : V κ σ pc lv (.int y :: .int x :: st) := by
  obtain ⟨p, e, R, s, m, args, below, meth, c, Q, rfl, hF, ⟨hx, hb, hml, hown, hlocks⟩, hts, hK, hI, hN, hZ, hC, hst, hR, hT⟩ := C
  intro H locs ls hP hS hl hpl
  exact lv_icmp_eq hx hb d ht (fun q => kt q ((it_e h).1 q) H locs ls hP hS hl hpl) (fun q => kf q ((it_e h).2 q) H locs ls hP hS hl hpl)
theorem rg_ic_ne (C : Rg l D ad cy own cc nL fr lo k tb F Pl V) {α : Type} {x y : Int32} {off : Int} {tgt : Nat} {inst : Decidable (x = y)} {a b w : α} (h : @ite α (x = y) inst a b = w) (ht : (pc : Int) + off = (tgt : Int)) (d : decode cc pc = .ok (.if_icmp .ne off, 3)) (kt : ¬ x = y → b = w → V κ σ tgt lv st) (kf : x = y → a = w → V κ σ (pc + 3) lv st) : V κ σ pc lv (.int y :: .int x :: st) := by
  obtain ⟨p, e, R, s, m, args, below, meth, c, Q, rfl, hF, ⟨hx, hb, hml, hown, hlocks⟩, hts, hK, hI, hN, hZ, hC, hst, hR, hT⟩ := C
  intro H locs ls hP hS hl hpl
  exact lv_icmp_ne hx hb d ht (fun q => kt q ((it_e h).2 q) H locs ls hP hS hl hpl) (fun q => kf q ((it_e h).1 q) H locs ls hP hS hl hpl)
theorem rg_ic_lt (C : Rg l D ad cy own cc nL fr lo k tb F Pl V) {α : Type} {x y : Int32} {off : Int} {tgt : Nat} {inst : Decidable (x < y)} {a b w : α} (h : @ite α (x < y) inst a b = w) (ht : (pc : Int) + off = (tgt : Int)) (d : decode cc pc = .ok (.if_icmp .lt off, 3)) (kt : x < y → a = w → V κ σ tgt lv st) (kf : ¬ x < y → b = w → V κ σ (pc + 3) lv st) : V κ σ pc lv (.int y :: .int x :: st) := by
  obtain ⟨p, e, R, s, m, args, below, meth, c, Q, rfl, hF, ⟨hx, hb, hml, hown, hlocks⟩, hts, hK, hI, hN, hZ, hC, hst, hR, hT⟩ := C
  intro H locs ls hP hS hl hpl
  exact lv_icmp_lt hx hb d ht (fun q => kt q ((it_e h).1 q) H locs ls hP hS hl hpl) (fun q => kf q ((it_e h).2 q) H locs ls hP hS hl hpl)
theorem rg_ic_ge (C : Rg l D ad cy own cc nL fr lo k tb F Pl V) {α : Type} {x y : Int32} {off : Int} {tgt : Nat} {inst : Decidable (y ≤ x)} {a b w : α} (h : @ite α (y ≤ x) inst a b = w) (ht : (pc : Int) + off = (tgt : Int)) (d : decode cc pc = .ok (.if_icmp .ge off, 3)) (kt : y ≤ x → a = w → V κ σ tgt lv st) (kf : ¬ y ≤ x → b = w → V κ σ (pc + 3) lv st) : V κ σ pc lv (.int y :: .int x :: st) := by
  obtain ⟨p, e, R, s, m, args, below, meth, c, Q, rfl, hF, ⟨hx, hb, hml, hown, hlocks⟩, hts, hK, hI, hN, hZ, hC, hst, hR, hT⟩ := C
  intro H locs ls hP hS hl hpl
  exact lv_icmp_ge hx hb d ht (fun q => kt q ((it_e h).1 q) H locs ls hP hS hl hpl) (fun q => kf q ((it_e h).2 q) H locs ls hP hS hl hpl)
theorem rg_ic_gt (C : Rg l D ad cy own cc nL fr lo k tb F Pl V) {α : Type} {x y : Int32} {off : Int} {tgt : Nat} {inst : Decidable (y < x)} {a b w : α} (h : @ite α (y < x) inst a b = w) (ht : (pc : Int) + off = (tgt : Int)) (d : decode cc pc = .ok (.if_icmp .gt off, 3)) (kt : y < x → a = w → V κ σ tgt lv st) (kf : ¬ y < x → b = w → V κ σ (pc + 3) lv st) : V κ σ pc lv (.int y :: .int x :: st) := by
  obtain ⟨p, e, R, s, m, args, below, meth, c, Q, rfl, hF, ⟨hx, hb, hml, hown, hlocks⟩, hts, hK, hI, hN, hZ, hC, hst, hR, hT⟩ := C
  intro H locs ls hP hS hl hpl
  exact lv_icmp_gt hx hb d ht (fun q => kt q ((it_e h).1 q) H locs ls hP hS hl hpl) (fun q => kf q ((it_e h).2 q) H locs ls hP hS hl hpl)
theorem rg_ic_le (C : Rg l D ad cy own cc nL fr lo k tb F Pl V) {α : Type} {x y : Int32} {off : Int} {tgt : Nat} {inst : Decidable (x ≤ y)} {a b w : α} (h : @ite α (x ≤ y) inst a b = w) (ht : (pc : Int) + off = (tgt : Int)) (d : decode cc pc = .ok (.if_icmp .le off, 3)) (kt : x ≤ y → a = w → V κ σ tgt lv st) (kf : ¬ x ≤ y → b = w → V κ σ (pc + 3) lv st) : V κ σ pc lv (.int y :: .int x :: st) := by
  obtain ⟨p, e, R, s, m, args, below, meth, c, Q, rfl, hF, ⟨hx, hb, hml, hown, hlocks⟩, hts, hK, hI, hN, hZ, hC, hst, hR, hT⟩ := C
  intro H locs ls hP hS hl hpl
  exact lv_icmp_le hx hb d ht (fun q => kt q ((it_e h).1 q) H locs ls hP hS hl hpl) (fun q => kf q ((it_e h).2 q) H locs ls hP hS hl hpl)
theorem rg_i2l (C : Rg l D ad cy own cc nL fr lo k tb F Pl V) {x : Int32} (d : decode cc pc = .ok (.i2l, 1)) (K : V κ σ (pc + 1) lv (.long x.toInt64 :: st)) : V κ σ pc lv (.int x :: st) := by
  obtain ⟨p, e, R, s, m, args, below, meth, c, Q, rfl, hF, ⟨hx, hb, hml, hown, hlocks⟩, hts, hK, hI, hN, hZ, hC, hst, hR, hT⟩ := C
  intro H locs ls hP hS hl hpl
  exact lv_i2l hx hb d rfl (K H locs ls hP hS hl hpl)
theorem rg_lconst (C : Rg l D ad cy own cc nL fr lo k tb F Pl V) {n : Fin 2} {x : Int32} (hv : Int64.ofNat (n : Nat) = x.toInt64) (d : decode cc pc = .ok (.lconst n, 1)) (K : V κ σ (pc + 1) lv (.long x.toInt64 :: st)) : V κ σ pc lv st := by
  obtain ⟨p, e, R, s, m, args, below, meth, c, Q, rfl, hF, ⟨hx, hb, hml, hown, hlocks⟩, hts, hK, hI, hN, hZ, hC, hst, hR, hT⟩ := C
  intro H locs ls hP hS hl hpl
  exact lv_lconst hx hb d hv (K H locs ls hP hS hl hpl)
theorem shJ (ad : Nat → Nat) (cy : Nat → ClassId) (m : Nat → Int32) : sh ad cy 155 m = .inl (cy 5, 1, .inr (.inl (fun k => if k = 0 then (m 0).toInt64 else 0))) := sh_155 ad cy m
theorem shD (ad : Nat → Nat) (cy : Nat → ClassId) (m : Nat → Int32) : sh ad cy 156 m = .inl (cy 6, 1, .inr (.inr (.inr (.inl (fun k => if k = 0 then UInt64.ofNat ((m 0).toUInt32.toNat + 4294967296 * (m 1).toUInt32.toNat) else 0))))) := sh_156 ad cy m
theorem in01 : vp_in 0 1 := show ¬ ((0 : Int32) < 0 ∨ 1 ≤ (0 : Int32).toNatClampNeg) by decide
def lo32 (x : UInt64) : Int32 := (UInt32.ofNat (x.toNat % 4294967296)).toInt32
def hi32 (x : UInt64) : Int32 := (UInt32.ofNat (x.toNat / 4294967296)).toInt32
theorem cmb_lohi (x : UInt64) : cmb (lo32 x) (hi32 x) = x := by
  have h1 : (lo32 x).toUInt32.toNat = x.toNat % 4294967296 := by
    show ((UInt32.ofNat (x.toNat % 4294967296)).toInt32).toUInt32.toNat = _
    rw [UInt32.toUInt32_toInt32, UInt32.toNat_ofNat']
    exact Nat.mod_eq_of_lt (Nat.mod_lt _ (by decide))
  have h2 : (hi32 x).toUInt32.toNat = x.toNat / 4294967296 := by
    show ((UInt32.ofNat (x.toNat / 4294967296)).toInt32).toUInt32.toNat = _
    rw [UInt32.toUInt32_toInt32, UInt32.toNat_ofNat']
    have := x.toNat_lt
    exact Nat.mod_eq_of_lt (by omega)
  unfold cmb
  rw [h1, h2, Nat.mod_add_div]
  exact UInt64.ofNat_toNat
theorem rg_lastore (C : Rg l D ad cy own cc nL fr lo k tb F Pl V) {x : Int32} {γ : Type} {K9 : Mem → γ} {w9 : γ} (h9 : lt (mst σ 155 0 x) K9 = w9) (d : decode cc pc = .ok (.lastore, 1)) (K : ∀ σ1 : Mem, K9 σ1 = w9 → V κ σ1 (pc + 1) lv st) : V κ σ pc lv (.long x.toInt64 :: .int 0 :: .ref (ad 155) :: st) := by
  obtain ⟨p, e, R, s, m, args, below, meth, c, Q, rfl, hF, ⟨hx, hb, hml, hown, hlocks⟩, hts, hK, hI, hN, hZ, hC, hst, hR, hT⟩ := C
  intro H locs ls hP hS hl hpl
  have he := wd_get ad cy σ (c := 155) (by decide)
  rw [shJ] at he
  refine va_last hx hb hK hP (wd_D cy σ hI) hS 155 5 he rfl in01 d (fun H1 locs1 hP1 hD1 hS1 => ?_)
  rw [wd_set ad cy σ (c := 155) (f := upd (σ 155) 0 x) (by decide) (by
    rw [shJ]
    refine congrArg (fun f => Sum.inl (cy 5, 1, Sum.inr (Sum.inl f))) (funext fun j => ?_)
    show (if j = (0 : Int32).toNatClampNeg then x.toInt64 else if j = 0 then (σ 155 0).toInt64 else 0) = if j = 0 then (upd (σ 155) 0 x 0).toInt64 else 0
    rw [show (0 : Int32).toNatClampNeg = 0 by decide]
    by_cases hj : j = 0
    · rw [if_pos hj, if_pos hj]; rfl
    · rw [if_neg hj, if_neg hj, if_neg hj])] at hP1
  exact K _ h9 H1 locs1 ls hP1 hS1 hl hpl
theorem rg_dastore (C : Rg l D ad cy own cc nL fr lo k tb F Pl V) {x : UInt64} {γ : Type} {K9 : Mem → γ} {w9 : γ} (h9 : lt (mst (mst σ 156 0 (lo32 x)) 156 1 (hi32 x)) K9 = w9) (d : decode cc pc = .ok (.dastore, 1)) (K : ∀ σ1 : Mem, K9 σ1 = w9 → V κ σ1 (pc + 1) lv st) : V κ σ pc lv (.double x :: .int 0 :: .ref (ad 156) :: st) := by
  obtain ⟨p, e, R, s, m, args, below, meth, c, Q, rfl, hF, ⟨hx, hb, hml, hown, hlocks⟩, hts, hK, hI, hN, hZ, hC, hst, hR, hT⟩ := C
  intro H locs ls hP hS hl hpl
  have he := wd_get ad cy σ (c := 156) (by decide)
  rw [shD] at he
  refine va_dast hx hb hK hP (wd_D cy σ hI) hS 156 6 he rfl in01 d (fun H1 locs1 hP1 hD1 hS1 => ?_)
  have hm : mst (mst σ 156 0 (lo32 x)) 156 1 (hi32 x) = mw σ 156 (upd (upd (σ 156) 0 (lo32 x)) 1 (hi32 x)) := by
    funext q j
    unfold mst mw
    by_cases hq : q = 156
    · subst hq; simp
    · simp [hq]
  rw [wd_set ad cy σ (c := 156) (f := upd (upd (σ 156) 0 (lo32 x)) 1 (hi32 x)) (by decide) (by
    rw [shD]
    refine congrArg (fun f => Sum.inl (cy 6, 1, Sum.inr (Sum.inr (Sum.inr (Sum.inl f))))) (funext fun j => ?_)
    show (if j = (0 : Int32).toNatClampNeg then x else if j = 0 then UInt64.ofNat ((σ 156 0).toUInt32.toNat + 4294967296 * (σ 156 1).toUInt32.toNat) else 0) = if j = 0 then cmb (upd (upd (σ 156) 0 (lo32 x)) 1 (hi32 x) 0) (upd (upd (σ 156) 0 (lo32 x)) 1 (hi32 x) 1) else 0
    rw [show (0 : Int32).toNatClampNeg = 0 by decide]
    by_cases hj : j = 0
    · rw [if_pos hj, if_pos hj]
      exact (cmb_lohi x).symm
    · rw [if_neg hj, if_neg hj, if_neg hj]), ← hm] at hP1
  exact K _ h9 H1 locs1 ls hP1 hS1 hl hpl
theorem rg_laload (C : Rg l D ad cy own cc nL fr lo k tb F Pl V) (d : decode cc pc = .ok (.laload, 1)) (K : V κ σ (pc + 1) lv (.long (σ 155 0).toInt64 :: st)) : V κ σ pc lv (.int 0 :: .ref (ad 155) :: st) := by
  obtain ⟨p, e, R, s, m, args, below, meth, c, Q, rfl, hF, ⟨hx, hb, hml, hown, hlocks⟩, hts, hK, hI, hN, hZ, hC, hst, hR, hT⟩ := C
  intro H locs ls hP hS hl hpl
  have he := wd_get ad cy σ (c := 155) (by decide)
  rw [shJ] at he
  exact va_lald hx hb hK hP 155 5 he rfl in01 d (K H locs ls hP hS hl hpl)
theorem rg_daload (C : Rg l D ad cy own cc nL fr lo k tb F Pl V) (d : decode cc pc = .ok (.daload, 1)) (K : V κ σ (pc + 1) lv (.double (cmb (σ 156 0) (σ 156 1)) :: st)) : V κ σ pc lv (.int 0 :: .ref (ad 156) :: st) := by
  obtain ⟨p, e, R, s, m, args, below, meth, c, Q, rfl, hF, ⟨hx, hb, hml, hown, hlocks⟩, hts, hK, hI, hN, hZ, hC, hst, hR, hT⟩ := C
  intro H locs ls hP hS hl hpl
  have he := wd_get ad cy σ (c := 156) (by decide)
  rw [shD] at he
  exact va_dald hx hb hK hP 156 6 he rfl in01 d (K H locs ls hP hS hl hpl)
theorem toInt64_eq {x y : Int32} (h : x.toInt64 = y.toInt64) : x = y := by
  have := congrArg Int64.toInt h
  rw [Int32.toInt_toInt64, Int32.toInt_toInt64] at this
  exact Int32.toInt_inj.mp this
theorem lgc_eq {x y : Int32} : (lg_cmp x.toInt64 y.toInt64 = 0) ↔ x = y := by
  constructor
  · intro h
    by_cases e : x.toInt64 = y.toInt64
    · exact toInt64_eq e
    · exfalso
      revert h
      unfold lg_cmp
      split <;> (try split) <;> simp_all
  · rintro rfl
    unfold lg_cmp
    simp
theorem rg_lcmpeq (C : Rg l D ad cy own cc nL fr lo k tb F Pl V) {α : Type} {x y : Int32} {off : Int} {tgt : Nat} {inst : Decidable (x = y)} {a b w : α} (h : @ite α (x = y) inst a b = w) (d : decode cc pc = .ok (.lcmp, 1)) (ht : ((pc + 1 : Nat) : Int) + off = (tgt : Int)) (d2 : decode cc (pc + 1) = .ok (.ifCond .eq off, 3)) (kt : a = w → V κ σ tgt lv st) (kf : b = w → V κ σ (pc + 4) lv st) : V κ σ pc lv (.long y.toInt64 :: .long x.toInt64 :: st) := by
  obtain ⟨p, e, R, s, m, args, below, meth, c, Q, rfl, hF, ⟨hx, hb, hml, hown, hlocks⟩, hts, hK, hI, hN, hZ, hC, hst, hR, hT⟩ := C
  intro H locs ls hP hS hl hpl
  refine W.lcmp hx hb d ?_
  exact lv_if_eq hx hb d2 ht (fun q => kt ((it_e h).1 (lgc_eq.mp q)) H locs ls hP hS hl hpl) (fun q => kf ((it_e h).2 (fun e => q (lgc_eq.mpr e))) H locs ls hP hS hl hpl)
theorem rg_dcmpeq (C : Rg l D ad cy own cc nL fr lo k tb F Pl V) {α : Type} {x y : UInt64} {off : Int} {tgt : Nat} {inst : Decidable (Op.cmpValue (FP.dcmp x y) CmpOp.l = 0)} {a b w : α} (h : @ite α (Op.cmpValue (FP.dcmp x y) CmpOp.l = 0) inst a b = w) (d : decode cc pc = .ok (.dcmp CmpOp.l, 1)) (ht : ((pc + 1 : Nat) : Int) + off = (tgt : Int)) (d2 : decode cc (pc + 1) = .ok (.ifCond .eq off, 3)) (kt : a = w → V κ σ tgt lv st) (kf : b = w → V κ σ (pc + 4) lv st) : V κ σ pc lv (.double y :: .double x :: st) := by
  obtain ⟨p, e, R, s, m, args, below, meth, c, Q, rfl, hF, ⟨hx, hb, hml, hown, hlocks⟩, hts, hK, hI, hN, hZ, hC, hst, hR, hT⟩ := C
  intro H locs ls hP hS hl hpl
  refine lv_dcmp hx hb d ?_
  exact lv_if_eq hx hb d2 ht (fun q => kt ((it_e h).1 q) H locs ls hP hS hl hpl) (fun q => kf ((it_e h).2 q) H locs ls hP hS hl hpl)
theorem rg_weak (C : Rg l D ad cy own cc nL fr lo k tb F Pl V) (lv' : LVa) (h : lvle lv' lv) (K : V κ σ pc lv' st) : V κ σ pc lv st := by
  obtain ⟨p, e, R, s, m, args, below, meth, c, Q, rfl, hF, ⟨hx, hb, hml, hown, hlocks⟩, hts, hK, hI, hN, hZ, hC, hst, hR, hT⟩ := C
  intro H locs ls hP hS hl hpl
  refine K H locs ls hP hS (lv_mono hl (fun q hq => ?_)) hpl
  obtain ⟨i, v, h1, rfl⟩ := lvl_of hq
  exact lvl_mem (ad := ad) (i := 0) (lvle_get h h1)
theorem rg_wid (C : Rg l D ad cy own cc nL fr lo k tb F Pl V) (κ' : Nat) (h : κ ≤ κ') (K : V κ' σ pc lv st) : V κ σ pc lv st := by
  obtain ⟨p, e, R, s, m, args, below, meth, c, Q, rfl, hF, ⟨hx, hb, hml, hown, hlocks⟩, hts, hK, hI, hN, hZ, hC, hst, hR, hT⟩ := C
  intro H locs ls hP hS hl hpl
  exact W.widen h (Nat.mul_le_mul_left 6 h) (K H locs ls hP hS hl hpl)
theorem rg_run {p : Program} {e : Env} {R : Room} {s : State} {m : MethodId} {args : Array Value} {below : List Frame} {meth : Method} {c : Code} {H : Heap} {locs : List Loc} {ls : Array Slot} {rest : List Value} {as : Array Value} {k' : Nat} {v : Option Value} {τ1 : Mem} {Q : State → Prop}
    (hr9 : vx_Run p l e R s m args below meth c H locs κ (6 * κ) k' (6 * k') (F0 m pc ls st) rest (Qo D ad cy (.inl v) τ1 as) (Xo D ad cy (.inl v) τ1) (AD ad))
    (hS : va_S (AD ad) s.heap H locs) (hl : lv_has ls nL (lvl ad 0 lv)) (hpl : Pl ls)
    (kk : VP p l e R s m args below meth c D ad cy nL Q Pl (κ + k') τ1 (pc + 3) lv (v.toList ++ rest)) : W p l e R s m args below meth c H locs κ (6 * κ) Q (F0 m pc ls st) := by
  intro T hT X
  rcases hr9 T hT X with ⟨v9, st₀, t, T', L, h0, X', hL, e1, e2, ⟨⟨v', hz, hv⟩, hWS, hF⟩, stp⟩ | ⟨q, st₀, t, T', L, E, ce, h0, X', hL, e1, e2, ⟨hz, hWS, hF⟩, hce, hcv, hcl, stp⟩
  · cases hv
    cases hz
    obtain ⟨k1, k2, k3⟩ := vx_keep h0 e1 hS (fun q _ h => h) (fun q h => h) hL hF
    rw [← Nat.mul_add] at X'
    obtain ⟨t2, a1, b1⟩ := kk T'.heap (locs ++ L) ls (by rw [e1]; exact hWS.1) k3 hl hpl T' rfl X'
    exact ⟨t2, stp t2 a1, b1⟩
  · cases hz
theorem rg_callV (C : Rg l D ad cy own cc nL fr lo k tb F Pl V) {y : MethodName} {bytes : ByteArray} {maxL : Nat} {rt : Option FieldType} {fr' lo' k' n index b ci : Nat} {v : Option Value} {τ1 : Mem} {As rest : List Value} (G : GV y bytes maxL rt n) (hci : ∃ (T : u_T) (N : Nat), wCl[ci]? = some (y.cls, T, N)) (hO : isO ci b) (hk : Cond.methodLink own index y ∈ AW) (hM : Co l D ad cy y bytes maxL rt fr' lo' k' (.ref (ad b) :: As) σ (.inl v) τ1) (hn : As.length = n) (hst0 : st = As.reverse ++ .ref (ad b) :: rest) (hW : (rest.map fun v => v.category).sum ≤ 8) (hR0 : fr' + 1 ≤ fr ∧ 8 + (maxL + 11) + lo' ≤ lo ∧ κ + k' ≤ k) (d : decode cc pc = .ok (.invokevirtual index, 3)) (kk : V (κ + k') τ1 (pc + 3) lv (v.toList ++ rest)) : V κ σ pc lv st := by
  obtain ⟨p, e, R, s, m, args, below, meth, c, Q, rfl, hF, ⟨hx, hb, hml, hown, hlocks⟩, hts, hK, hI, hN, hZ, hC, hst, hR, hT⟩ := C
  intro H locs ls hP hS hl hpl
  subst hst0
  obtain ⟨T9, N9, hci⟩ := hci
  obtain ⟨fs, hfs⟩ := hO.2 ad cy (σ b)
  have he := wd_get ad cy σ hO.1
  rw [hfs] at he
  refine rg_run (vx_runV (As := As) (rest := rest) ⟨hx, hb, hml, hown, hts⟩ hM (cwV n hts (aw_sub (fun w hw => ?_)) rfl rfl rfl ⟨rfl, G.1.2.2.1⟩ ⟨by rw [hR.1]; exact hR0.1, by rw [hR.2.1]; exact hR0.2.1⟩) ⟨ws_blind, va_recv hK hP hci he, fun U hU hW9 => ⟨rfl, ⟨by rw [hU]; exact hP, va_K.moved hW9.alike hK, zq_kept (zq_moved hW9.alike hZ) (fun a h1 h2 => by rw [hU]; exact hS.2.1 a h1 h2)⟩, nw_warm hW9 hN⟩⟩ rfl hn hl.1 rfl (lv_room hW) d ⟨Nat.le_trans hR0.2.2 hR.2.2.1, by rw [← Nat.mul_add]; exact Nat.le_trans (Nat.mul_le_mul_left 6 hR0.2.2) hR.2.2.2⟩) hS hl hpl kk
  simp only [wsV, List.cons_append, List.nil_append, List.mem_cons] at hw
  rcases hw with rfl | rfl | rfl | rfl | rfl | hw
  · exact hk
  · exact G.2.1
  · exact G.2.2
  · exact G.1.2.1
  · exact G.1.1
  · exact hw
theorem rg_callW (C : Rg l D ad cy own cc nL fr lo k tb F Pl V) {y : MethodName} {bytes : ByteArray} {maxL : Nat} {rt : Option FieldType} {hh : List (Nat × Nat × Nat × Nat)} {fr' lo' k' n index : Nat} {v : Option Value} {τ1 : Mem} {As rest : List Value} (G : GW y bytes maxL rt hh n) (hk : Cond.methodLink own index y ∈ AW) (hM : CoW l D ad cy y bytes maxL rt hh fr' lo' k' As σ (.inl v) τ1) (hn : As.length = n) (hst0 : st = As.reverse ++ rest) (hW : (rest.map fun v => v.category).sum ≤ 8) (hR0 : fr' + 1 ≤ fr ∧ 8 + (maxL + 11) + lo' ≤ lo ∧ κ + k' ≤ k) (d : decode cc pc = .ok (.invokestatic index, 3)) (kk : V (κ + k') τ1 (pc + 3) lv (v.toList ++ rest)) : V κ σ pc lv st := by
  obtain ⟨p, e, R, s, m, args, below, meth, c, Q, rfl, hF, ⟨hx, hb, hml, hown, hlocks⟩, hts, hK, hI, hN, hZ, hC, hst, hR, hT⟩ := C
  intro H locs ls hP hS hl hpl
  subst hst0
  refine rg_run (vx_runSX (As := As) (rest := rest) ⟨hx, hb, hml, hown, hts⟩ hM (vx_cwSW n hts (aw_sub (fun w hw => ?_)) rfl rfl rfl G.2.2.1 ⟨by rw [hR.1]; exact hR0.1, by rw [hR.2.1]; exact hR0.2.1⟩) ⟨wsc_blind, fun U hU hW9 => ⟨rfl, ⟨⟨by rw [hU]; exact hP, va_K.moved hW9.alike hK, zq_kept (zq_moved hW9.alike hZ) (fun a h1 h2 => by rw [hU]; exact hS.2.1 a h1 h2)⟩, nw_warm hW9 hN⟩, nc_moved hW9.alike hC⟩⟩ rfl hn hl.1 rfl (lv_room hW) d ⟨Nat.le_trans hR0.2.2 hR.2.2.1, by rw [← Nat.mul_add]; exact Nat.le_trans (Nat.mul_le_mul_left 6 hR0.2.2) hR.2.2.2⟩) hS hl hpl kk
  simp only [va_wsS, List.cons_append, List.nil_append, List.mem_cons] at hw
  rcases hw with rfl | rfl | rfl | rfl | hw
  · exact hk
  · exact G.2.2.2.2
  · exact G.2.1
  · exact G.1
  · exact hw
theorem rw_iret {z : Rz} {τ : Mem} (C : Rg l D ad cy own cc nL fr lo k tb (FW D ad cy z τ k) pT V) (hκ : κ ≤ k) {x : Int32} (d : decode cc pc = .ok (.ireturn, 1)) (h : z = zi x ∧ τ = σ) : V κ σ pc lv [.int x] := by
  obtain ⟨p, e, R, s, m, args, below, meth, c, Q, rfl, hF, ⟨hx, hb, hml, hown, hlocks⟩, hts, hK, hI, hN, hZ, hC, hst, hR, hT⟩ := C
  intro H locs ls hP hS hl hpl
  obtain ⟨rfl, rfl⟩ := h
  obtain ⟨rfl, hr⟩ := hF
  refine W.widen hκ (Nat.mul_le_mul_left 6 hκ) (vx_ret ?_)
  exact W.iret hx hb hr (fun t ht hW => ⟨⟨_, rfl, rfl⟩, ws_end hP hK hZ hS ht hW.alike⟩) hS.2.2 d hlocks
theorem rw_catchn {z : Rz} {τ : Mem} (C : Rg l D ad cy own cc nL fr lo k tb (FW D ad cy z τ k) pT V) {y : MethodName} {bytes : ByteArray} {maxL : Nat} {rt : Option FieldType} {fr' lo' k' n index b ci : Nat} {E : String} {τ1 : Mem} {As rest : List Value} (G : GV y bytes maxL rt n) (hci : ∃ (T : u_T) (N : Nat), wCl[ci]? = some (y.cls, T, N)) (hO : isO ci b) (hk : Cond.methodLink own index y ∈ AW) (hM : Co l D ad cy y bytes maxL rt fr' lo' k' (.ref (ad b) :: As) σ (.inr E) τ1) (hn : As.length = n) (hst0 : st = As.reverse ++ .ref (ad b) :: rest) (hW : (rest.map fun v => v.category).sum ≤ 8) (hR0 : fr' + 1 ≤ fr ∧ 8 + (maxL + 11) + lo' ≤ lo ∧ κ + k' ≤ k) (d : decode cc pc = .ok (.invokevirtual index, 3)) (pre : List ExceptionTableEntry) (x : ExceptionTableEntry) (suf : List ExceptionTableEntry) (hsplit : tb = pre ++ x :: suf) (hpass : ∀ z9 ∈ pre, covers z9 pc = false ∨ (z9.catchType ≠ 0 ∧ ∃ nm : String, Cond.classLink own z9.catchType nm ∈ AW ∧ (E, nm) ∈ nwC)) (hcv : covers x pc = true) (h0 : x.catchType ≠ 0) (hlink : Cond.classLink own x.catchType E ∈ AW) (hcast : Cond.castable E E ∈ nwL) {i : Fin 4} (hi : (i : Nat) < nL) (da : decode cc x.handlerPc = .ok (.astore_n i, 1)) {j : Int} {v : Int32} (hv : Int32.ofInt j = v) (dc : decode cc (x.handlerPc + 1) = .ok (.iconst j, 1)) (dr : decode cc (x.handlerPc + 1 + 1) = .ok (.ireturn, 1)) (h : z = zi v ∧ τ = τ1) : V κ σ pc lv st := by
  obtain ⟨p, e, R, s, m, args, below, meth, c, Q, rfl, hF, ⟨hx, hb, hml, hown, hlocks⟩, hts, hK, hI, hN, hZ, hC, hst, hR, hT⟩ := C
  intro H locs ls hP hS hl hpl
  subst hst0
  obtain ⟨rfl, rfl⟩ := h
  obtain ⟨rfl, hr⟩ := hF
  obtain ⟨T9, N9, hci⟩ := hci
  obtain ⟨fs, hfs⟩ := hO.2 ad cy (σ b)
  have he := wd_get ad cy σ hO.1
  rw [hfs] at he
  have hin : ∀ w ∈ wsV own index y.cls y (.code y bytes maxL rt :: AW), w ∈ AW := fun w hw => by
    simp only [wsV, List.cons_append, List.nil_append, List.mem_cons] at hw
    rcases hw with rfl | rfl | rfl | rfl | rfl | hw
    · exact hk
    · exact G.2.1
    · exact G.2.2
    · exact G.1.2.1
    · exact G.1.1
    · exact hw
  have hr9 := vx_runV (cells := κ) (slots := 6 * κ) (locs := locs) (g := F0 m pc ls (As.reverse ++ .ref (ad b) :: rest)) (e := e) (p := p) (below := below) (meth := meth) (As := As) (rest := rest) ⟨hx, hb, hml, hown, hts⟩ hM (cwV n hts (aw_sub hin) rfl rfl rfl ⟨rfl, G.1.2.2.1⟩ ⟨by rw [hR.1]; exact hR0.1, by rw [hR.2.1]; exact hR0.2.1⟩) ⟨ws_blind, va_recv hK hP hci he, fun U hU hW9 => ⟨rfl, ⟨by rw [hU]; exact hP, va_K.moved hW9.alike hK, zq_kept (zq_moved hW9.alike hZ) (fun a h1 h2 => by rw [hU]; exact hS.2.1 a h1 h2)⟩, nw_warm hW9 hN⟩⟩ rfl hn hl.1 rfl (lv_room hW) d ⟨Nat.le_trans hR0.2.2 hR.2.2.1, by rw [← Nat.mul_add]; exact Nat.le_trans (Nat.mul_le_mul_left 6 hR0.2.2) hR.2.2.2⟩
  intro T hT9 X
  rcases hr9 T hT9 X with ⟨v9, st₀, t, T', L, h0, X', hL, e1, e2, ⟨⟨v', hz, hv⟩, hWS, hF⟩, stp⟩ | ⟨q, st₀, t, T', L, E9, ce, h0, X', hL, e1, e2, ⟨hz, hWS, hF⟩, hce, hcv9, hcl, stp⟩
  · cases hz
  · cases hz
    obtain ⟨k1, k2, k3⟩ := vx_keep h0 e1 hS (fun q _ h => h) (fun q h => h) hL hF
    rw [← Nat.mul_add] at X'
    have hPt : va_P D wCl (wd ad cy τ) T'.heap := by rw [e1]; exact hWS.1
    obtain ⟨t2, a1, b1⟩ := vx_catch (pc := pc) (ls := ls) (rest := rest) (H := T'.heap) (locs := locs ++ L) (cells := κ + k') (slots := 6 * (κ + k')) (Q := vx_MQ below (Qo D ad cy (zi v) τ) (Xo D ad cy (zi v) τ) args s k (6 * k) (AD ad)) hown pre x suf (hT.trans hsplit) (fun z9 hz9 => (hpass z9 hz9).imp (fun h => h) (fun ⟨h1, nm, h2, h3⟩ => ⟨h1, nm, hts _ h2, hC _ h3⟩)) hcv ‹x.catchType ≠ 0› (hts _ hlink) (va_Nw.use (nw_tab _ hcast) (hN _ hcast)) (by rw [e1]; exact hce) hcv9 hcl (by
      refine lv_astore_n hx hb da rfl hl hi rfl (fun ls2 hl2 => ?_)
      refine lv_iconst hx hb dc hv ?_
      refine W.widen hR0.2.2 (Nat.mul_le_mul_left 6 hR0.2.2) (vx_ret ?_)
      exact W.iret hx hb hr (fun t ht hW => ⟨⟨_, rfl, rfl⟩, ws_end hPt hK hZ k3 ht hW.alike⟩) k3.2.2 dr hlocks) T' rfl X'
    exact ⟨t2, stp.trans a1, b1⟩
theorem rw_catch {z : Rz} {τ : Mem} (C : Rg l D ad cy own cc nL fr lo k tb (FW D ad cy z τ k) pT V) {y : MethodName} {bytes : ByteArray} {maxL : Nat} {rt : Option FieldType} {fr' lo' k' n index b ci : Nat} {E : String} {τ1 : Mem} {As rest : List Value} (G : GV y bytes maxL rt n) (hci : ∃ (T : u_T) (N : Nat), wCl[ci]? = some (y.cls, T, N)) (hO : isO ci b) (hk : Cond.methodLink own index y ∈ AW) (hM : Co l D ad cy y bytes maxL rt fr' lo' k' (.ref (ad b) :: As) σ (.inr E) τ1) (hn : As.length = n) (hst0 : st = As.reverse ++ .ref (ad b) :: rest) (hW : (rest.map fun v => v.category).sum ≤ 8) (hR0 : fr' + 1 ≤ fr ∧ 8 + (maxL + 11) + lo' ≤ lo ∧ κ + k' ≤ k) (d : decode cc pc = .ok (.invokevirtual index, 3)) (pre : List ExceptionTableEntry) (x : ExceptionTableEntry) (suf : List ExceptionTableEntry) (hsplit : tb = pre ++ x :: suf) (hpass : ∀ z9 ∈ pre, covers z9 pc = false ∨ (z9.catchType ≠ 0 ∧ ∃ nm : String, Cond.classLink own z9.catchType nm ∈ AW ∧ (E, nm) ∈ nwC)) (hcv : covers x pc = true) (h0 : x.catchType ≠ 0) (hlink : Cond.classLink own x.catchType E ∈ AW) (hcast : Cond.castable E E ∈ nwL) {i : Nat} (hi : i < nL) (da : decode cc x.handlerPc = .ok (.astore i, 2)) {j : Int} {v : Int32} (hv : Int32.ofInt j = v) (dc : decode cc (x.handlerPc + 2) = .ok (.iconst j, 1)) (dr : decode cc (x.handlerPc + 2 + 1) = .ok (.ireturn, 1)) (h : z = zi v ∧ τ = τ1) : V κ σ pc lv st := by
  obtain ⟨p, e, R, s, m, args, below, meth, c, Q, rfl, hF, ⟨hx, hb, hml, hown, hlocks⟩, hts, hK, hI, hN, hZ, hC, hst, hR, hT⟩ := C
  intro H locs ls hP hS hl hpl
  subst hst0
  obtain ⟨rfl, rfl⟩ := h
  obtain ⟨rfl, hr⟩ := hF
  obtain ⟨T9, N9, hci⟩ := hci
  obtain ⟨fs, hfs⟩ := hO.2 ad cy (σ b)
  have he := wd_get ad cy σ hO.1
  rw [hfs] at he
  have hin : ∀ w ∈ wsV own index y.cls y (.code y bytes maxL rt :: AW), w ∈ AW := fun w hw => by
    simp only [wsV, List.cons_append, List.nil_append, List.mem_cons] at hw
    rcases hw with rfl | rfl | rfl | rfl | rfl | hw
    · exact hk
    · exact G.2.1
    · exact G.2.2
    · exact G.1.2.1
    · exact G.1.1
    · exact hw
  have hr9 := vx_runV (cells := κ) (slots := 6 * κ) (locs := locs) (g := F0 m pc ls (As.reverse ++ .ref (ad b) :: rest)) (e := e) (p := p) (below := below) (meth := meth) (As := As) (rest := rest) ⟨hx, hb, hml, hown, hts⟩ hM (cwV n hts (aw_sub hin) rfl rfl rfl ⟨rfl, G.1.2.2.1⟩ ⟨by rw [hR.1]; exact hR0.1, by rw [hR.2.1]; exact hR0.2.1⟩) ⟨ws_blind, va_recv hK hP hci he, fun U hU hW9 => ⟨rfl, ⟨by rw [hU]; exact hP, va_K.moved hW9.alike hK, zq_kept (zq_moved hW9.alike hZ) (fun a h1 h2 => by rw [hU]; exact hS.2.1 a h1 h2)⟩, nw_warm hW9 hN⟩⟩ rfl hn hl.1 rfl (lv_room hW) d ⟨Nat.le_trans hR0.2.2 hR.2.2.1, by rw [← Nat.mul_add]; exact Nat.le_trans (Nat.mul_le_mul_left 6 hR0.2.2) hR.2.2.2⟩
  intro T hT9 X
  rcases hr9 T hT9 X with ⟨v9, st₀, t, T', L, h0, X', hL, e1, e2, ⟨⟨v', hz, hv⟩, hWS, hF⟩, stp⟩ | ⟨q, st₀, t, T', L, E9, ce, h0, X', hL, e1, e2, ⟨hz, hWS, hF⟩, hce, hcv9, hcl, stp⟩
  · cases hz
  · cases hz
    obtain ⟨k1, k2, k3⟩ := vx_keep h0 e1 hS (fun q _ h => h) (fun q h => h) hL hF
    rw [← Nat.mul_add] at X'
    have hPt : va_P D wCl (wd ad cy τ) T'.heap := by rw [e1]; exact hWS.1
    obtain ⟨t2, a1, b1⟩ := vx_catch (pc := pc) (ls := ls) (rest := rest) (H := T'.heap) (locs := locs ++ L) (cells := κ + k') (slots := 6 * (κ + k')) (Q := vx_MQ below (Qo D ad cy (zi v) τ) (Xo D ad cy (zi v) τ) args s k (6 * k) (AD ad)) hown pre x suf (hT.trans hsplit) (fun z9 hz9 => (hpass z9 hz9).imp (fun h => h) (fun ⟨h1, nm, h2, h3⟩ => ⟨h1, nm, hts _ h2, hC _ h3⟩)) hcv ‹x.catchType ≠ 0› (hts _ hlink) (va_Nw.use (nw_tab _ hcast) (hN _ hcast)) (by rw [e1]; exact hce) hcv9 hcl (by
      refine lv_astore hx hb da hl hi rfl (fun ls2 hl2 => ?_)
      refine lv_iconst hx hb dc hv ?_
      refine W.widen hR0.2.2 (Nat.mul_le_mul_left 6 hR0.2.2) (vx_ret ?_)
      exact W.iret hx hb hr (fun t ht hW => ⟨⟨_, rfl, rfl⟩, ws_end hPt hK hZ k3 ht hW.alike⟩) k3.2.2 dr hlocks) T' rfl X'
    exact ⟨t2, stp.trans a1, b1⟩
end RG
