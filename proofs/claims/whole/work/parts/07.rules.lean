/-! THE ROWS (by program): V κ σ pc lv st : from here, with the memory σ, locals lv, stack st, κ objects made so far at most, the method comes to its end z with the memory τ. -/
def LV : Type := List (Option (Int32 ⊕ Nat))
abbrev LVa : Type := List (Option (Int32 ⊕ Nat))
def lw (ad : Nat → Nat) (v : Int32 ⊕ Nat) : Value := match v with
  | .inl x => .int x
  | .inr c => .ref (ad c)
def lvl (ad : Nat → Nat) : Nat → LVa → List (Nat × Value)
  | _, [] => []
  | i, none :: r => lvl ad (i + 1) r
  | i, some v :: r => (i, lw ad v) :: lvl ad (i + 1) r
theorem lw_cat (ad : Nat → Nat) (v : Int32 ⊕ Nat) : (lw ad v).category = 1 := by cases v <;> rfl
theorem lvl_mem {ad : Nat → Nat} {v : Int32 ⊕ Nat} : ∀ {lv : LVa} {i k : Nat}, lv[k]? = some (some v) → (i + k, lw ad v) ∈ lvl ad i lv
  | [], i, k, h => by simp at h
  | none :: r, i, 0, h => by simp at h
  | some w :: r, i, 0, h => by
    have e : w = v := by simpa using h
    subst e
    exact List.mem_cons_self
  | none :: r, i, k + 1, h => by
    have h2 := lvl_mem (ad := ad) (lv := r) (i := i + 1) (k := k) (by simpa using h)
    rw [show i + (k + 1) = i + 1 + k by omega]
    exact h2
  | some w :: r, i, k + 1, h => by
    have h2 := lvl_mem (ad := ad) (lv := r) (i := i + 1) (k := k) (by simpa using h)
    rw [show i + (k + 1) = i + 1 + k by omega]
    exact List.mem_cons_of_mem _ h2
theorem lvl_of {ad : Nat → Nat} : ∀ {lv : LVa} {i : Nat} {q : Nat × Value}, q ∈ lvl ad i lv → ∃ (k : Nat) (v : Int32 ⊕ Nat), lv[k]? = some (some v) ∧ q = (i + k, lw ad v)
  | [], i, q, h => by cases h
  | none :: r, i, q, h => by
    obtain ⟨k, v, h1, rfl⟩ := lvl_of (lv := r) (i := i + 1) h
    exact ⟨k + 1, v, by simpa using h1, by rw [show i + (k + 1) = i + 1 + k by omega]⟩
  | some w :: r, i, q, h => by
    rcases List.mem_cons.mp h with rfl | h
    · exact ⟨0, w, rfl, rfl⟩
    · obtain ⟨k, v, h1, rfl⟩ := lvl_of (lv := r) (i := i + 1) h
      exact ⟨k + 1, v, by simpa using h1, by rw [show i + (k + 1) = i + 1 + k by omega]⟩
theorem lv_mono {ls : Array Slot} {n : Nat} {a b : List (Nat × Value)} (h : lv_has ls n a) (hb : ∀ q ∈ b, q ∈ a) : lv_has ls n b := ⟨h.1, h.2.1, fun q hq => h.2.2 q (hb q hq)⟩
theorem lvl_at {ls : Array Slot} {n : Nat} {ad : Nat → Nat} {lv : LVa} {i : Nat} {v : Int32 ⊕ Nat} (h : lv_has ls n (lvl ad 0 lv)) (hi : lv[i]? = some (some v)) : ls[i]? = some (.val (lw ad v)) := by
  have h2 := h.2.2 _ (lvl_mem (ad := ad) (i := 0) hi)
  rwa [Nat.zero_add] at h2
theorem lvl_store {ls : Array Slot} {n : Nat} {ad : Nat → Nat} {lv : LVa} {i : Nat} {v : Int32 ⊕ Nat} (h : lv_has ls n ((i, lw ad v) :: (lvl ad 0 lv).filter (fun q => !(q.1 == i) && !(q.1 + 1 == i && q.2.category == 2)))) : lv_has ls n (lvl ad 0 (lv.set i (some v))) := by
  refine lv_mono h (fun q hq => ?_)
  obtain ⟨k, w, h1, rfl⟩ := lvl_of hq
  rw [Nat.zero_add] at hq ⊢
  by_cases e : k = i
  · subst e
    have hk : k < (lv.set k (some v)).length := (List.getElem?_eq_some_iff.mp h1).1
    rw [List.length_set] at hk
    rw [List.getElem?_set_self hk] at h1
    have e2 : v = w := by simpa using h1
    subst e2
    exact List.mem_cons_self
  · rw [List.getElem?_set_ne (fun q => e q.symm)] at h1
    refine List.mem_cons_of_mem _ (List.mem_filter.mpr ⟨?_, ?_⟩)
    · have := lvl_mem (ad := ad) (i := 0) h1
      rwa [Nat.zero_add] at this
    · simp [e, lw_cat]
def lvle : LVa → LVa → Prop
  | [], _ => True
  | none :: a, [] => lvle a []
  | some _ :: _, [] => False
  | none :: a, _ :: b => lvle a b
  | some _ :: _, none :: _ => False
  | some v :: a, some w :: b => v = w ∧ lvle a b
theorem lvle_get : ∀ {a b : LVa} {i : Nat} {v : Int32 ⊕ Nat}, lvle a b → a[i]? = some (some v) → b[i]? = some (some v)
  | [], b, i, v, h, hi => by simp at hi
  | none :: a, [], 0, v, h, hi => by simp at hi
  | none :: a, [], i + 1, v, h, hi => by
    have := lvle_get (a := a) (b := []) (i := i) h (by simpa using hi)
    simp at this
  | some w :: a, [], i, v, h, hi => by cases h
  | none :: a, x :: b, 0, v, h, hi => by simp at hi
  | none :: a, x :: b, i + 1, v, h, hi => by
    have := lvle_get (a := a) (b := b) (i := i) h (by simpa using hi)
    simpa using this
  | some w :: a, none :: b, i, v, h, hi => by cases h
  | some w :: a, some x :: b, 0, v, h, hi => by
    obtain ⟨rfl, h⟩ := h
    simpa using hi
  | some w :: a, some x :: b, i + 1, v, h, hi => by
    have := lvle_get (a := a) (b := b) (i := i) h.2 (by simpa using hi)
    simpa using this
-- the world of a state
def ZQ (ad : Nat → Nat) (U : State) (H : Heap) : Prop := vx_Zq Bundle.tN "UNASSIGNED_STACK" Bundle.steD (AD ad) U H ∧ vx_Zq Bundle.tN "SUPPRESSED_SENTINEL" Bundle.listD (AD ad) U H
def WS (D : va_G) (ad : Nat → Nat) (cy : Nat → ClassId) (σ : Mem) (U : State) : Prop := va_P D wCl (wd ad cy σ) U.heap ∧ va_K D wCl (tyL cy) U ∧ ZQ ad U U.heap
def nwL : List Cond := [.castable "java/lang/IllegalArgumentException" "java/lang/IllegalArgumentException", .castable "java/lang/IllegalStateException" "java/lang/IllegalStateException", .castable "java/lang/IndexOutOfBoundsException" "java/lang/IndexOutOfBoundsException", .castable "java/util/NoSuchElementException" "java/util/NoSuchElementException", .castable "java/lang/ArithmeticException" "java/lang/ArithmeticException", .methodLinkNest RX2 74 yX9_areMembers RX9, .declares ⟨"java/lang/RuntimeException", "<init>", "()V"⟩, .declares ⟨"java/lang/Exception", "<init>", "()V"⟩, .declares ⟨"java/lang/Throwable", "<init>", "()V"⟩]
def NW (U : State) : Prop := ∀ w ∈ nwL, va_Nw w U
theorem nw_warm {s U : State} (hW : s.WarmedH U.vm) (h : NW s) : NW U := by
  intro w hw
  have h0 := h w hw
  simp only [nwL, List.mem_cons, List.not_mem_nil, or_false] at hw
  rcases hw with rfl | rfl | rfl | rfl | rfl | rfl | rfl | rfl | rfl
  · exact va_Nw.warmC hW h0
  · exact va_Nw.warmC hW h0
  · exact va_Nw.warmC hW h0
  · exact va_Nw.warmC hW h0
  · exact va_Nw.warmC hW h0
  · exact va_Nw.warmM hW h0
  · exact va_Nw.warmD hW h0
  · exact va_Nw.warmD hW h0
  · exact va_Nw.warmD hW h0
theorem nw_tab : ∀ w ∈ nwL, w.onTables = true := by decide +kernel
theorem nw_same {u U : State} (h : u.vm = U.vm) (hN : NW u) : NW U := fun w hw => va_Nw.same (nw_tab w hw) h (hN w hw)
theorem zq_moved {ad : Nat → Nat} {u U : State} {H : Heap} (hvm : u.vm.Alike U.vm) (h : ZQ ad u H) : ZQ ad U H := ⟨h.1.moved hvm, h.2.moved hvm⟩
theorem zq_kept {ad : Nat → Nat} {U : State} {H H1 : Heap} (h : ZQ ad U H) (hq : ∀ a : Nat, a < H.size → ¬ AD ad a → H1[a]? = H[a]?) : ZQ ad U H1 := ⟨h.1.kept hq, h.2.kept hq⟩
theorem ws_blind {D : va_G} {ad : Nat → Nat} {cy : Nat → ClassId} {σ : Mem} {av : List Value} : FrameBlind (va_Pc av (fun U => WS D ad cy σ U ∧ NW U)) := by
  intro a U g mk h
  obtain ⟨h1, ⟨hP, hK, hZ⟩, hN⟩ := h
  exact ⟨h1, ⟨hP, va_K.moved (u := U) (U := U.calling g mk a) (Vm.Alike.refl U.vm) hK, zq_moved (u := U) (U := U.calling g mk a) (Vm.Alike.refl U.vm) hZ⟩, nw_same (u := U) (U := U.calling g mk a) rfl hN⟩
-- a method's contract: its one end, from the memory σ
abbrev Rz : Type := Option Value ⊕ String
def Qo (D : va_G) (ad : Nat → Nat) (cy : Nat → ClassId) (z : Rz) (τ : Mem) : Array Value → State → Outcome → State → Prop := fun _ st oc t => (∃ v, z = .inl v ∧ oc = .returned v) ∧ WS D ad cy τ t ∧ va_F (AD ad) st t
def Xo (D : va_G) (ad : Nat → Nat) (cy : Nat → ClassId) (z : Rz) (τ : Mem) : String → State → State → Prop := fun E st t => z = .inr E ∧ WS D ad cy τ t ∧ va_F (AD ad) st t
def Co (l : Launch) (D : va_G) (ad : Nat → Nat) (cy : Nat → ClassId) (y : MethodName) (cc : ByteArray) (nL : Nat) (ret : Option FieldType) (fr lo k : Nat) (av : List Value) (σ : Mem) (z : Rz) (τ : Mem) : Prop :=
  vx_Met l y (.code y cc nL ret :: AW) ({ frames := fr, cells := k, slots := 6 * k, locals := lo }) (va_Pc av (fun U => WS D ad cy σ U ∧ NW U)) (Qo D ad cy z τ) (Xo D ad cy z τ) k (6 * k) (AD ad)
abbrev Vt : Type := Nat → Mem → Nat → LVa → List Value → Prop
def VV (p : Program) (l : Launch) (e : Env) (R : Room) (s : State) (m : MethodId) (args : Array Value) (below : List Frame) (meth : Method) (c : Code) (D : va_G) (ad : Nat → Nat) (cy : Nat → ClassId) (nL : Nat) (Q : State → Prop) : Vt := fun κ σ pc lv st =>
  ∀ (H : Heap) (locs : List Loc) (ls : Array Slot), va_P D wCl (wd ad cy σ) H → va_S (AD ad) s.heap H locs → lv_has ls nL (lvl ad 0 lv) → W p l e R s m args below meth c H locs κ (6 * κ) Q (F0 m pc ls st)
def Rl (l : Launch) (D : va_G) (ad : Nat → Nat) (cy : Nat → ClassId) (own : String) (cc : ByteArray) (nL : Nat) (ret : Option FieldType) (fr lo k : Nat) (z : Rz) (τ : Mem) (V : Vt) : Prop :=
  ∃ (p : Program) (e : Env) (R : Room) (s : State) (m : MethodId) (args : Array Value) (below : List Frame) (meth : Method) (c : Code),
    V = VV p l e R s m args below meth c D ad cy nL (vx_MQ below (Qo D ad cy z τ) (Xo D ad cy z τ) args s k (6 * k) (AD ad)) ∧
    (p.tables.exec = Jvm.exec ∧ c.code = cc ∧ meth.sig.returnType = ret ∧ c.maxLocals = nL ∧ s.vm.findClass own = some m.cls ∧ meth.locks = false) ∧
    (∀ w ∈ AW, w.before args s = true) ∧ va_K D wCl (tyL cy) s ∧ Inj ad ∧ NW s ∧ ZQ ad s s.heap ∧ l.stackTraces = false ∧ (R.frames = fr ∧ R.locals = lo ∧ R.cells = k ∧ R.slots = 6 * k) ∧ (∀ x ∈ c.exceptionTable.toList, False)
theorem co_of {l : Launch} {D : va_G} {ad : Nat → Nat} {cy : Nat → ClassId} {y : MethodName} {cc : ByteArray} {nL : Nat} {ret : Option FieldType} {fr lo k : Nat} {av : List (Int32 ⊕ Nat)} {σ : Mem} {z : Rz} {τ : Mem}
    (hl : l.stackTraces = false) (hI : Inj ad) (hy : plainName y.cls = true) (hn : av.length ≤ nL) (lv : LVa) (hlv : lv = av.map some ++ List.replicate (nL - av.length) none)
    (body : ∀ V : Vt, Rl l D ad cy y.cls cc nL ret fr lo k z τ V → V 0 σ 0 lv []) : Co l D ad cy y cc nL ret fr lo k (av.map (lw ad)) σ z τ := by
  refine vx_ofW (cc := cc) (maxL := nL) (ret := ret) hy rfl ?_
  intro p e s m args below meth c s₁ B hml hT hv
  obtain ⟨rfl, ⟨hP, hK, hZ⟩, hN⟩ := hv
  have hts := atoms_spec (ws := .code y cc nL ret :: AW) B.pre
  have C : Rl l D ad cy y.cls cc nL ret fr lo k z τ (VV p l e (headSpec (.code y cc nL ret :: AW) { frames := fr, cells := k, slots := 6 * k, locals := lo }).room s m (av.map (lw ad)).toArray below meth c D ad cy nL (vx_MQ below (Qo D ad cy z τ) (Xo D ad cy z τ) (av.map (lw ad)).toArray s k (6 * k) (AD ad))) :=
    ⟨p, e, _, s, m, _, below, meth, c, rfl, ⟨B.exec, B.bytes, B.returns, hml, findClass_of_methodNamed B.named, B.notSynchronized⟩, fun w hw => hts w (List.mem_cons_of_mem _ hw), hK, hI, hN, hZ, hl, ⟨rfl, rfl, rfl, rfl⟩, hT⟩
  have hls : ∀ vs : List (Int32 ⊕ Nat), lg_sl (vs.map (lw ad)) = (vs.map (lw ad)).map Slot.val := by
    intro vs
    induction vs with
    | nil => rfl
    | cons v vs ih =>
      show (if (lw ad v).category = 2 then [Slot.val (lw ad v), Slot.second] else [Slot.val (lw ad v)]) ++ lg_sl (vs.map (lw ad)) = _
      rw [lw_cat, ih]
      rfl
  have hlen : (lg_sl (av.map (lw ad))).length ≤ nL := by rw [hls]; simpa using hn
  have hl0 := lv_entry (av.map (lw ad)) hlen
  have hK0 := body _ C
  rw [lg_entry_eq]
  refine hK0 s.heap [] _ hP va_S.rf ?_
  refine lv_mono hl0 (fun q hq => ?_)
  rw [hlv] at hq
  have key : ∀ (vs : List (Int32 ⊕ Nat)) (i : Nat) (q : Nat × Value), q ∈ lvl ad i (vs.map some ++ List.replicate (nL - av.length) none) → q ∈ lv_args i (vs.map (lw ad)) := by
    intro vs
    induction vs with
    | nil =>
      intro i q hq
      obtain ⟨k, v, h1, -⟩ := lvl_of hq
      have := List.mem_of_getElem? h1
      simp at this
    | cons v vs ih =>
      intro i q hq
      show q ∈ (i, lw ad v) :: lv_args (if (lw ad v).category = 2 then i + 2 else i + 1) (vs.map (lw ad))
      rw [lw_cat]
      rcases List.mem_cons.mp hq with rfl | hq
      · exact List.mem_cons_self
      · exact List.mem_cons_of_mem _ (ih (i + 1) q hq)
  exact key av 0 q hq
-- what the pure functions are made of
def zi (r : Int32) : Rz := .inl (some (.int r))
def zd (r : UInt64) : Rz := .inl (some (.double r))
def zv : Rz := .inl none
def zx (r : Int32 ⊕ String) : Rz := match r with
  | .inl x => zi x
  | .inr e => .inr e
def zu (r : Unit ⊕ String) : Rz := match r with
  | .inl _ => zv
  | .inr e => .inr e
def zdx (r : UInt64 ⊕ String) : Rz := match r with
  | .inl x => zd x
  | .inr e => .inr e
def ck {α : Type} (i : Int32) (n : Nat) (a : Option α) : Option α := if i < 0 ∨ n ≤ i.toNatClampNeg then none else a
theorem ck_e {α : Type} {i : Int32} {n : Nat} {a : Option α} {r : α} (h : ck i n a = some r) : vp_in i n ∧ a = some r := by
  unfold ck at h
  by_cases c : i < 0 ∨ n ≤ i.toNatClampNeg
  · rw [if_pos c] at h; cases h
  · rw [if_neg c] at h; exact ⟨c, h⟩
def ckn {α : Type} (y : Int32) (a : Option α) : Option α := if y = 0 then none else a
theorem ckn_e {α : Type} {y : Int32} {a : Option α} {r : α} (h : ckn y a = some r) : ¬ y = 0 ∧ a = some r := by
  unfold ckn at h
  by_cases c : y = 0
  · rw [if_pos c] at h; cases h
  · rw [if_neg c] at h; exact ⟨c, h⟩
def ckz {α : Type} (y : Int32) (a : Option α) : Option α := if y = 0 ∨ y = 1 then a else none
theorem ckz_e {α : Type} {y : Int32} {a : Option α} {r : α} (h : ckz y a = some r) : (y = 0 ∨ y = 1) ∧ a = some r := by
  unfold ckz at h
  by_cases c : y = 0 ∨ y = 1
  · rw [if_pos c] at h; exact ⟨c, h⟩
  · rw [if_neg c] at h; cases h
def ckc {α : Type} (sp dp n : Int32) (n0 n1 : Nat) (a : Option α) : Option α := if sp < 0 ∨ dp < 0 ∨ n < 0 ∨ n0 < sp.toNatClampNeg + n.toNatClampNeg ∨ n1 < dp.toNatClampNeg + n.toNatClampNeg then none else a
theorem ckc_e {α : Type} {sp dp n : Int32} {n0 n1 : Nat} {a : Option α} {r : α} (h : ckc sp dp n n0 n1 a = some r) : (¬ sp < 0 ∧ ¬ dp < 0 ∧ ¬ n < 0 ∧ sp.toNatClampNeg + n.toNatClampNeg ≤ n0 ∧ dp.toNatClampNeg + n.toNatClampNeg ≤ n1) ∧ a = some r := by
  unfold ckc at h
  by_cases c : sp < 0 ∨ dp < 0 ∨ n < 0 ∨ n0 < sp.toNatClampNeg + n.toNatClampNeg ∨ n1 < dp.toNatClampNeg + n.toNatClampNeg
  · rw [if_pos c] at h; cases h
  · rw [if_neg c] at h
    simp only [not_or, Nat.not_lt] at c
    exact ⟨c, h⟩
/-- n ints from the row b at sp into the row a at dp -/
def mcp (σ : Mem) (b : Nat) (sp : Int32) (a : Nat) (dp n : Int32) : Mem := mw σ a (va_cpy (σ b) (σ a) sp.toNatClampNeg dp.toNatClampNeg n.toNatClampNeg)
def bd {α γ : Type} (o : Option (α × Mem)) (K : α → Mem → Option γ) : Option γ := match o with
  | none => none
  | some (r, σ) => K r σ
theorem bd_e {α γ : Type} {o : Option (α × Mem)} {K : α → Mem → Option γ} {w : γ} {P : Prop} (h : bd o K = some w) (kk : ∀ (r : α) (σ : Mem), o = some (r, σ) → K r σ = some w → P) : P := by
  match o, h with
  | none, h => cases h
  | some (r, σ), h => exact kk r σ rfl h
def bv {γ : Type} (o : Option Mem) (K : Mem → Option γ) : Option γ := match o with
  | none => none
  | some σ => K σ
theorem bv_e {γ : Type} {o : Option Mem} {K : Mem → Option γ} {w : γ} {P : Prop} (h : bv o K = some w) (kk : ∀ σ : Mem, o = some σ → K σ = some w → P) : P := by
  match o, h with
  | none, h => cases h
  | some σ, h => exact kk σ rfl h
/-- a call that may throw: what follows, and what the throw makes of it -/
def bx {α γ : Type} (o : Option ((α ⊕ String) × Mem)) (K : α → Mem → Option γ) (E : String → Mem → Option γ) : Option γ := match o with
  | none => none
  | some (.inl r, σ) => K r σ
  | some (.inr e, σ) => E e σ
theorem bx_e {α γ : Type} {o : Option ((α ⊕ String) × Mem)} {K : α → Mem → Option γ} {E : String → Mem → Option γ} {w : γ} {P : Prop} (h : bx o K E = some w) (kk : ∀ (r : α) (σ : Mem), o = some (.inl r, σ) → K r σ = some w → P) (ke : ∀ (e : String) (σ : Mem), o = some (.inr e, σ) → E e σ = some w → P) : P := by
  match o, h with
  | none, h => cases h
  | some (.inl r, σ), h => exact kk r σ rfl h
  | some (.inr e, σ), h => exact ke e σ rfl h
/-- a loop of at most n rounds -/
def fx {α : Type} (B : α → α) (z : α) : Nat → α
  | 0 => z
  | n + 1 => B (fx B z n)
def FU : Nat := 4194304
def lt {γ : Type} (σ : Mem) (K : Mem → γ) : γ := K σ
def li {γ : Type} (x : Int32) (K : Int32 → γ) : γ := K x
theorem sw_e {c : Prop} {inst : Decidable c} {α : Type} {a b w : α} {P : Prop} (h : @ite α c inst a b = w) (kt : c → a = w → P) (kf : ¬ c → b = w → P) : P := by
  by_cases hc : c
  · rw [if_pos hc] at h; exact kt hc h
  · rw [if_neg hc] at h; exact kf hc h
theorem tout {x : Int32} (n : Nat) (hn : n < 2 ^ 31) (h : ∀ j : Nat, j ≤ n → ¬ x = Int32.ofNat j) : x.toInt < 0 ∨ (n : Int) < x.toInt := by
  by_cases h0 : x < 0
  · left
    have := Int32.lt_iff_toInt_lt.mp h0
    simpa using this
  · right
    obtain ⟨j, hj, rfl⟩ := nI_of h0
    rw [nI_toInt hj]
    by_cases hjn : j ≤ n
    · exact absurd rfl (h j hjn)
    · omega
theorem re_i {x r : Int32} {σ τ : Mem} (h : some (x, σ) = some (r, τ)) : zi r = zi x ∧ τ = σ := by cases h; exact ⟨rfl, rfl⟩
theorem re_v {σ τ : Mem} (h : some σ = some τ) : zv = zv ∧ τ = σ := by cases h; exact ⟨rfl, rfl⟩
theorem re_d {x r : UInt64} {σ τ : Mem} (h : some (x, σ) = some (r, τ)) : zd r = zd x ∧ τ = σ := by cases h; exact ⟨rfl, rfl⟩
theorem re_xi {x : Int32} {r : Int32 ⊕ String} {σ τ : Mem} (h : some (Sum.inl x, σ) = some (r, τ)) : zx r = zi x ∧ τ = σ := by cases h; exact ⟨rfl, rfl⟩
theorem re_xe {e : String} {r : Int32 ⊕ String} {σ τ : Mem} (h : some (Sum.inr e, σ) = some (r, τ)) : zx r = .inr e ∧ τ = σ := by cases h; exact ⟨rfl, rfl⟩
theorem re_uv {r : Unit ⊕ String} {σ τ : Mem} (h : some (Sum.inl (), σ) = some (r, τ)) : zu r = zv ∧ τ = σ := by cases h; exact ⟨rfl, rfl⟩
theorem re_ue {e : String} {r : Unit ⊕ String} {σ τ : Mem} (h : some (Sum.inr e, σ) = some (r, τ)) : zu r = .inr e ∧ τ = σ := by cases h; exact ⟨rfl, rfl⟩
theorem re_dxd {x : UInt64} {r : UInt64 ⊕ String} {σ τ : Mem} (h : some (Sum.inl x, σ) = some (r, τ)) : zdx r = zd x ∧ τ = σ := by cases h; exact ⟨rfl, rfl⟩
theorem re_dxe {e : String} {r : UInt64 ⊕ String} {σ τ : Mem} (h : some (Sum.inr e, σ) = some (r, τ)) : zdx r = .inr e ∧ τ = σ := by cases h; exact ⟨rfl, rfl⟩
def ckd {α : Type} (x : UInt64) (a : Option α) : Option α := if x &&& 0x7fffffffffffffff ≤ 0x7ff0000000000000 then a else none
theorem ckd_e {α : Type} {x : UInt64} {a : Option α} {r : α} (h : ckd x a = some r) : vf_n64 x ∧ a = some r := by
  unfold ckd at h
  by_cases c : x &&& 0x7fffffffffffffff ≤ 0x7ff0000000000000
  · rw [if_pos c] at h; exact ⟨c, h⟩
  · rw [if_neg c] at h; cases h
theorem no_e {α : Type} {w : α} {P : Prop} (h : (none : Option α) = some w) : P := by cases h
theorem it_e {c : Prop} {inst : Decidable c} {α : Type} {a b w : α} (h : @ite α c inst a b = w) : (c → a = w) ∧ (¬ c → b = w) := ⟨fun hc => by rw [if_pos hc] at h; exact h, fun hc => by rw [if_neg hc] at h; exact h⟩
section RW
variable {l : Launch} {D : va_G} {ad : Nat → Nat} {cy : Nat → ClassId} {own : String} {cc : ByteArray} {nL : Nat} {ret : Option FieldType} {fr lo k : Nat} {z : Rz} {τ : Mem} {V : Vt}
variable {κ pc : Nat} {σ : Mem} {lv : LVa} {st : List Value}
theorem r_weak (C : Rl l D ad cy own cc nL ret fr lo k z τ V) (lv' : LVa) (h : lvle lv' lv) (K : V κ σ pc lv' st) : V κ σ pc lv st := by
  obtain ⟨p, e, R, s, m, args, below, meth, c, rfl, -⟩ := C
  intro H locs ls hP hS hl
  refine K H locs ls hP hS (lv_mono hl (fun q hq => ?_))
  obtain ⟨i, v, h1, rfl⟩ := lvl_of hq
  have := lvl_mem (ad := ad) (i := 0) (lvle_get h h1)
  exact this
theorem r_wid (C : Rl l D ad cy own cc nL ret fr lo k z τ V) (κ' : Nat) (h : κ ≤ κ') (K : V κ' σ pc lv st) : V κ σ pc lv st := by
  obtain ⟨p, e, R, s, m, args, below, meth, c, rfl, -⟩ := C
  intro H locs ls hP hS hl
  exact W.widen h (Nat.mul_le_mul_left 6 h) (K H locs ls hP hS hl)
theorem r_iconst (C : Rl l D ad cy own cc nL ret fr lo k z τ V) {n : Int} {v : Int32} (hv : Int32.ofInt n = v) (d : decode cc pc = .ok (.iconst n, 1)) (K : V κ σ (pc + 1) lv (.int v :: st)) : V κ σ pc lv st := by
  obtain ⟨p, e, R, s, m, args, below, meth, c, rfl, ⟨hx, hb, hr, hml, hown, hlocks⟩, hts, hK, hI, hN, hZ, hst, hR, hT⟩ := C
  intro H locs ls hP hS hl
  exact lv_iconst hx hb d hv (K H locs ls hP hS hl)
theorem r_bipush (C : Rl l D ad cy own cc nL ret fr lo k z τ V) {n : Int} {v : Int32} (hv : (Int8.ofInt n).toInt32 = v) (d : decode cc pc = .ok (.bipush n, 2)) (K : V κ σ (pc + 2) lv (.int v :: st)) : V κ σ pc lv st := by
  obtain ⟨p, e, R, s, m, args, below, meth, c, rfl, ⟨hx, hb, hr, hml, hown, hlocks⟩, hts, hK, hI, hN, hZ, hst, hR, hT⟩ := C
  intro H locs ls hP hS hl
  exact lv_bipush hx hb d hv (K H locs ls hP hS hl)
theorem r_sipush (C : Rl l D ad cy own cc nL ret fr lo k z τ V) {n : Int} {v : Int32} (hv : (Int16.ofInt n).toInt32 = v) (d : decode cc pc = .ok (.sipush n, 3)) (K : V κ σ (pc + 3) lv (.int v :: st)) : V κ σ pc lv st := by
  obtain ⟨p, e, R, s, m, args, below, meth, c, rfl, ⟨hx, hb, hr, hml, hown, hlocks⟩, hts, hK, hI, hN, hZ, hst, hR, hT⟩ := C
  intro H locs ls hP hS hl
  exact lv_sipush hx hb d hv (K H locs ls hP hS hl)
theorem r_ldc (C : Rl l D ad cy own cc nL ret fr lo k z τ V) {index : Nat} {v : Int32} (hc : Cond.constant own index v ∈ AW) (d : decode cc pc = .ok (.ldc index, 2)) (K : V κ σ (pc + 2) lv (.int v :: st)) : V κ σ pc lv st := by
  obtain ⟨p, e, R, s, m, args, below, meth, c, rfl, ⟨hx, hb, hr, hml, hown, hlocks⟩, hts, hK, hI, hN, hZ, hst, hR, hT⟩ := C
  intro H locs ls hP hS hl
  exact lv_ldc hx hb hown (hts _ hc) d (K H locs ls hP hS hl)
theorem r_ldcw (C : Rl l D ad cy own cc nL ret fr lo k z τ V) {index : Nat} {v : Int32} (hc : Cond.constant own index v ∈ AW) (d : decode cc pc = .ok (.ldc_w index, 3)) (K : V κ σ (pc + 3) lv (.int v :: st)) : V κ σ pc lv st := by
  obtain ⟨p, e, R, s, m, args, below, meth, c, rfl, ⟨hx, hb, hr, hml, hown, hlocks⟩, hts, hK, hI, hN, hZ, hst, hR, hT⟩ := C
  intro H locs ls hP hS hl
  exact lv_ldcw hx hb hown (hts _ hc) d (K H locs ls hP hS hl)
theorem r_iload_n (C : Rl l D ad cy own cc nL ret fr lo k z τ V) {i : Fin 4} {x : Int32} (d : decode cc pc = .ok (.iload_n i, 1)) (hq : lv[(i : Nat)]? = some (some (.inl x))) (K : V κ σ (pc + 1) lv (.int x :: st)) : V κ σ pc lv st := by
  obtain ⟨p, e, R, s, m, args, below, meth, c, rfl, ⟨hx, hb, hr, hml, hown, hlocks⟩, hts, hK, hI, hN, hZ, hst, hR, hT⟩ := C
  intro H locs ls hP hS hl
  exact lv_iload_n hx hb d rfl (lvl_at (ad := ad) hl hq) (K H locs ls hP hS hl)
theorem r_iload (C : Rl l D ad cy own cc nL ret fr lo k z τ V) {i : Nat} {x : Int32} (d : decode cc pc = .ok (.iload i, 2)) (hq : lv[i]? = some (some (.inl x))) (K : V κ σ (pc + 2) lv (.int x :: st)) : V κ σ pc lv st := by
  obtain ⟨p, e, R, s, m, args, below, meth, c, rfl, ⟨hx, hb, hr, hml, hown, hlocks⟩, hts, hK, hI, hN, hZ, hst, hR, hT⟩ := C
  intro H locs ls hP hS hl
  exact lv_iload hx hb d (lvl_at (ad := ad) hl hq) (K H locs ls hP hS hl)
theorem r_aload_n (C : Rl l D ad cy own cc nL ret fr lo k z τ V) {i : Fin 4} {q : Nat} (d : decode cc pc = .ok (.aload_n i, 1)) (hq : lv[(i : Nat)]? = some (some (.inr q))) (K : V κ σ (pc + 1) lv (.ref (ad q) :: st)) : V κ σ pc lv st := by
  obtain ⟨p, e, R, s, m, args, below, meth, c, rfl, ⟨hx, hb, hr, hml, hown, hlocks⟩, hts, hK, hI, hN, hZ, hst, hR, hT⟩ := C
  intro H locs ls hP hS hl
  exact lv_aload_n hx hb d rfl (lvl_at (ad := ad) hl hq) (K H locs ls hP hS hl)
theorem r_aload (C : Rl l D ad cy own cc nL ret fr lo k z τ V) {i : Nat} {q : Nat} (d : decode cc pc = .ok (.aload i, 2)) (hq : lv[i]? = some (some (.inr q))) (K : V κ σ (pc + 2) lv (.ref (ad q) :: st)) : V κ σ pc lv st := by
  obtain ⟨p, e, R, s, m, args, below, meth, c, rfl, ⟨hx, hb, hr, hml, hown, hlocks⟩, hts, hK, hI, hN, hZ, hst, hR, hT⟩ := C
  intro H locs ls hP hS hl
  exact lv_aload hx hb d (lvl_at (ad := ad) hl hq) (K H locs ls hP hS hl)
theorem r_istore_n (C : Rl l D ad cy own cc nL ret fr lo k z τ V) {i : Fin 4} {x : Int32} (hi : (i : Nat) < nL) (d : decode cc pc = .ok (.istore_n i, 1)) (K : V κ σ (pc + 1) (lv.set (i : Nat) (some (.inl x))) st) : V κ σ pc lv (.int x :: st) := by
  obtain ⟨p, e, R, s, m, args, below, meth, c, rfl, ⟨hx, hb, hr, hml, hown, hlocks⟩, hts, hK, hI, hN, hZ, hst, hR, hT⟩ := C
  intro H locs ls hP hS hl
  exact lv_istore_n hx hb d rfl hl hi rfl (fun ls2 hl2 => K H locs ls2 hP hS (lvl_store (ad := ad) (v := .inl x) hl2))
theorem r_istore (C : Rl l D ad cy own cc nL ret fr lo k z τ V) {i : Nat} {x : Int32} (hi : i < nL) (d : decode cc pc = .ok (.istore i, 2)) (K : V κ σ (pc + 2) (lv.set i (some (.inl x))) st) : V κ σ pc lv (.int x :: st) := by
  obtain ⟨p, e, R, s, m, args, below, meth, c, rfl, ⟨hx, hb, hr, hml, hown, hlocks⟩, hts, hK, hI, hN, hZ, hst, hR, hT⟩ := C
  intro H locs ls hP hS hl
  exact lv_istore hx hb d hl hi rfl (fun ls2 hl2 => K H locs ls2 hP hS (lvl_store (ad := ad) (v := .inl x) hl2))
theorem r_iinc (C : Rl l D ad cy own cc nL ret fr lo k z τ V) {i : Nat} {n : Int} {x w : Int32} (hw : Int32.ofInt n = w) (hi : i < nL) (d : decode cc pc = .ok (.iinc i n, 3)) (hq : lv[i]? = some (some (.inl x))) (K : V κ σ (pc + 3) (lv.set i (some (.inl (x + w)))) st) : V κ σ pc lv st := by
  obtain ⟨p, e, R, s, m, args, below, meth, c, rfl, ⟨hx, hb, hr, hml, hown, hlocks⟩, hts, hK, hI, hN, hZ, hst, hR, hT⟩ := C
  intro H locs ls hP hS hl
  subst hw
  have hm := lvl_mem (ad := ad) (i := 0) hq
  rw [Nat.zero_add] at hm
  obtain ⟨k0, hk0⟩ := List.getElem?_of_mem hm
  exact lv_iinc hx hb d hl hk0 rfl hi rfl (fun ls2 hl2 => K H locs ls2 hP hS (lvl_store (ad := ad) (v := .inl (x + Int32.ofInt n)) hl2))
theorem r_istoreL_n (C : Rl l D ad cy own cc nL ret fr lo k z τ V) {i : Fin 4} {x : Int32} {γ : Type} {K9 : Int32 → γ} {w9 : γ} (h9 : li x K9 = w9) (hi : (i : Nat) < nL) (d : decode cc pc = .ok (.istore_n i, 1)) (K : ∀ x1 : Int32, K9 x1 = w9 → V κ σ (pc + 1) (lv.set (i : Nat) (some (.inl x1))) st) : V κ σ pc lv (.int x :: st) := by
  obtain ⟨p, e, R, s, m, args, below, meth, c, rfl, ⟨hx, hb, hr, hml, hown, hlocks⟩, hts, hK, hI, hN, hZ, hst, hR, hT⟩ := C
  intro H locs ls hP hS hl
  exact lv_istore_n hx hb d rfl hl hi rfl (fun ls2 hl2 => K _ h9 H locs ls2 hP hS (lvl_store (ad := ad) (v := .inl x) hl2))
theorem r_istoreL (C : Rl l D ad cy own cc nL ret fr lo k z τ V) {i : Nat} {x : Int32} {γ : Type} {K9 : Int32 → γ} {w9 : γ} (h9 : li x K9 = w9) (hi : i < nL) (d : decode cc pc = .ok (.istore i, 2)) (K : ∀ x1 : Int32, K9 x1 = w9 → V κ σ (pc + 2) (lv.set i (some (.inl x1))) st) : V κ σ pc lv (.int x :: st) := by
  obtain ⟨p, e, R, s, m, args, below, meth, c, rfl, ⟨hx, hb, hr, hml, hown, hlocks⟩, hts, hK, hI, hN, hZ, hst, hR, hT⟩ := C
  intro H locs ls hP hS hl
  exact lv_istore hx hb d hl hi rfl (fun ls2 hl2 => K _ h9 H locs ls2 hP hS (lvl_store (ad := ad) (v := .inl x) hl2))
theorem r_iadd (C : Rl l D ad cy own cc nL ret fr lo k z τ V) {x y : Int32} (d : decode cc pc = .ok (.iadd, 1)) (K : V κ σ (pc + 1) lv (.int (x + y) :: st)) : V κ σ pc lv (.int y :: .int x :: st) := by
  obtain ⟨p, e, R, s, m, args, below, meth, c, rfl, ⟨hx, hb, hr, hml, hown, hlocks⟩, hts, hK, hI, hN, hZ, hst, hR, hT⟩ := C
  intro H locs ls hP hS hl
  exact lv_iadd hx hb d (K H locs ls hP hS hl)
theorem r_isub (C : Rl l D ad cy own cc nL ret fr lo k z τ V) {x y : Int32} (d : decode cc pc = .ok (.isub, 1)) (K : V κ σ (pc + 1) lv (.int (x - y) :: st)) : V κ σ pc lv (.int y :: .int x :: st) := by
  obtain ⟨p, e, R, s, m, args, below, meth, c, rfl, ⟨hx, hb, hr, hml, hown, hlocks⟩, hts, hK, hI, hN, hZ, hst, hR, hT⟩ := C
  intro H locs ls hP hS hl
  exact lv_isub hx hb d (K H locs ls hP hS hl)
theorem r_imul (C : Rl l D ad cy own cc nL ret fr lo k z τ V) {x y : Int32} (d : decode cc pc = .ok (.imul, 1)) (K : V κ σ (pc + 1) lv (.int (x * y) :: st)) : V κ σ pc lv (.int y :: .int x :: st) := by
  obtain ⟨p, e, R, s, m, args, below, meth, c, rfl, ⟨hx, hb, hr, hml, hown, hlocks⟩, hts, hK, hI, hN, hZ, hst, hR, hT⟩ := C
  intro H locs ls hP hS hl
  exact lv_imul hx hb d (K H locs ls hP hS hl)
theorem r_iand (C : Rl l D ad cy own cc nL ret fr lo k z τ V) {x y : Int32} (d : decode cc pc = .ok (.iand, 1)) (K : V κ σ (pc + 1) lv (.int (x &&& y) :: st)) : V κ σ pc lv (.int y :: .int x :: st) := by
  obtain ⟨p, e, R, s, m, args, below, meth, c, rfl, ⟨hx, hb, hr, hml, hown, hlocks⟩, hts, hK, hI, hN, hZ, hst, hR, hT⟩ := C
  intro H locs ls hP hS hl
  exact lv_iand hx hb d (K H locs ls hP hS hl)
theorem r_ior (C : Rl l D ad cy own cc nL ret fr lo k z τ V) {x y : Int32} (d : decode cc pc = .ok (.ior, 1)) (K : V κ σ (pc + 1) lv (.int (x ||| y) :: st)) : V κ σ pc lv (.int y :: .int x :: st) := by
  obtain ⟨p, e, R, s, m, args, below, meth, c, rfl, ⟨hx, hb, hr, hml, hown, hlocks⟩, hts, hK, hI, hN, hZ, hst, hR, hT⟩ := C
  intro H locs ls hP hS hl
  exact lv_ior hx hb d (K H locs ls hP hS hl)
theorem r_ixor (C : Rl l D ad cy own cc nL ret fr lo k z τ V) {x y : Int32} (d : decode cc pc = .ok (.ixor, 1)) (K : V κ σ (pc + 1) lv (.int (x ^^^ y) :: st)) : V κ σ pc lv (.int y :: .int x :: st) := by
  obtain ⟨p, e, R, s, m, args, below, meth, c, rfl, ⟨hx, hb, hr, hml, hown, hlocks⟩, hts, hK, hI, hN, hZ, hst, hR, hT⟩ := C
  intro H locs ls hP hS hl
  exact lv_ixor hx hb d (K H locs ls hP hS hl)
theorem r_ishl (C : Rl l D ad cy own cc nL ret fr lo k z τ V) {x y : Int32} (d : decode cc pc = .ok (.ishl, 1)) (K : V κ σ (pc + 1) lv (.int (x <<< (y &&& 31)) :: st)) : V κ σ pc lv (.int y :: .int x :: st) := by
  obtain ⟨p, e, R, s, m, args, below, meth, c, rfl, ⟨hx, hb, hr, hml, hown, hlocks⟩, hts, hK, hI, hN, hZ, hst, hR, hT⟩ := C
  intro H locs ls hP hS hl
  exact lv_ishl hx hb d (K H locs ls hP hS hl)
theorem r_ishr (C : Rl l D ad cy own cc nL ret fr lo k z τ V) {x y : Int32} (d : decode cc pc = .ok (.ishr, 1)) (K : V κ σ (pc + 1) lv (.int (x >>> (y &&& 31)) :: st)) : V κ σ pc lv (.int y :: .int x :: st) := by
  obtain ⟨p, e, R, s, m, args, below, meth, c, rfl, ⟨hx, hb, hr, hml, hown, hlocks⟩, hts, hK, hI, hN, hZ, hst, hR, hT⟩ := C
  intro H locs ls hP hS hl
  exact lv_ishr hx hb d (K H locs ls hP hS hl)
theorem r_iushr (C : Rl l D ad cy own cc nL ret fr lo k z τ V) {x y : Int32} (d : decode cc pc = .ok (.iushr, 1)) (K : V κ σ (pc + 1) lv (.int ((x.toUInt32 >>> (y.toUInt32 &&& Int32.toUInt32 31)).toInt32) :: st)) : V κ σ pc lv (.int y :: .int x :: st) := by
  obtain ⟨p, e, R, s, m, args, below, meth, c, rfl, ⟨hx, hb, hr, hml, hown, hlocks⟩, hts, hK, hI, hN, hZ, hst, hR, hT⟩ := C
  intro H locs ls hP hS hl
  exact lv_iushr hx hb d rfl (K H locs ls hP hS hl)
theorem r_ineg (C : Rl l D ad cy own cc nL ret fr lo k z τ V) {x : Int32} (d : decode cc pc = .ok (.ineg, 1)) (K : V κ σ (pc + 1) lv (.int (-x) :: st)) : V κ σ pc lv (.int x :: st) := by
  obtain ⟨p, e, R, s, m, args, below, meth, c, rfl, ⟨hx, hb, hr, hml, hown, hlocks⟩, hts, hK, hI, hN, hZ, hst, hR, hT⟩ := C
  intro H locs ls hP hS hl
  exact lv_ineg hx hb d (K H locs ls hP hS hl)
theorem r_i2c (C : Rl l D ad cy own cc nL ret fr lo k z τ V) {x : Int32} (d : decode cc pc = .ok (.i2c, 1)) (K : V κ σ (pc + 1) lv (.int ((x.toUInt32 % 65536).toInt32) :: st)) : V κ σ pc lv (.int x :: st) := by
  obtain ⟨p, e, R, s, m, args, below, meth, c, rfl, ⟨hx, hb, hr, hml, hown, hlocks⟩, hts, hK, hI, hN, hZ, hst, hR, hT⟩ := C
  intro H locs ls hP hS hl
  exact lv_i2c hx hb d rfl (K H locs ls hP hS hl)
theorem r_irem (C : Rl l D ad cy own cc nL ret fr lo k z τ V) {x y : Int32} (d : decode cc pc = .ok (.irem, 1)) (h : ¬ y = 0) (K : V κ σ (pc + 1) lv (.int (x - x / y * y) :: st)) : V κ σ pc lv (.int y :: .int x :: st) := by
  obtain ⟨p, e, R, s, m, args, below, meth, c, rfl, ⟨hx, hb, hr, hml, hown, hlocks⟩, hts, hK, hI, hN, hZ, hst, hR, hT⟩ := C
  intro H locs ls hP hS hl
  exact lv_irem hx hb d h (K H locs ls hP hS hl)
theorem r_idiv (C : Rl l D ad cy own cc nL ret fr lo k z τ V) {x y : Int32} (d : decode cc pc = .ok (.idiv, 1)) (h : ¬ y = 0) (K : V κ σ (pc + 1) lv (.int (x / y) :: st)) : V κ σ pc lv (.int y :: .int x :: st) := by
  obtain ⟨p, e, R, s, m, args, below, meth, c, rfl, ⟨hx, hb, hr, hml, hown, hlocks⟩, hts, hK, hI, hN, hZ, hst, hR, hT⟩ := C
  intro H locs ls hP hS hl
  exact lv_idiv hx hb d h (K H locs ls hP hS hl)
theorem r_dup (C : Rl l D ad cy own cc nL ret fr lo k z τ V) {v : Value} (hv : v.category = 1) (d : decode cc pc = .ok (.dup, 1)) (K : V κ σ (pc + 1) lv (v :: v :: st)) : V κ σ pc lv (v :: st) := by
  obtain ⟨p, e, R, s, m, args, below, meth, c, rfl, ⟨hx, hb, hr, hml, hown, hlocks⟩, hts, hK, hI, hN, hZ, hst, hR, hT⟩ := C
  intro H locs ls hP hS hl
  exact lv_dup hx hb d hv (K H locs ls hP hS hl)
theorem r_pop (C : Rl l D ad cy own cc nL ret fr lo k z τ V) {v : Value} (hv : v.category = 1) (d : decode cc pc = .ok (.pop, 1)) (K : V κ σ (pc + 1) lv st) : V κ σ pc lv (v :: st) := by
  obtain ⟨p, e, R, s, m, args, below, meth, c, rfl, ⟨hx, hb, hr, hml, hown, hlocks⟩, hts, hK, hI, hN, hZ, hst, hR, hT⟩ := C
  intro H locs ls hP hS hl
  exact lv_pop hx hb d hv (K H locs ls hP hS hl)
theorem r_dup_x1 (C : Rl l D ad cy own cc nL ret fr lo k z τ V) {v w : Value} (hv : v.category = 1) (hw : w.category = 1) (d : decode cc pc = .ok (.dup_x1, 1)) (K : V κ σ (pc + 1) lv (v :: w :: v :: st)) : V κ σ pc lv (v :: w :: st) := by
  obtain ⟨p, e, R, s, m, args, below, meth, c, rfl, ⟨hx, hb, hr, hml, hown, hlocks⟩, hts, hK, hI, hN, hZ, hst, hR, hT⟩ := C
  intro H locs ls hP hS hl
  exact lv_dup_x1 hx hb d hv hw (K H locs ls hP hS hl)
theorem r_dup2 (C : Rl l D ad cy own cc nL ret fr lo k z τ V) {v w : Value} (hv : v.category = 1) (hw : w.category = 1) (d : decode cc pc = .ok (.dup2, 1)) (K : V κ σ (pc + 1) lv (v :: w :: v :: w :: st)) : V κ σ pc lv (v :: w :: st) := by
  obtain ⟨p, e, R, s, m, args, below, meth, c, rfl, ⟨hx, hb, hr, hml, hown, hlocks⟩, hts, hK, hI, hN, hZ, hst, hR, hT⟩ := C
  intro H locs ls hP hS hl
  exact lv_dup2_11 hx hb d hv hw (K H locs ls hP hS hl)
theorem r_if_eq (C : Rl l D ad cy own cc nL ret fr lo k z τ V) {α : Type} {x : Int32} {off : Int} {tgt : Nat} {inst : Decidable (x = 0)} {a b w : α} (h : @ite α (x = 0) inst a b = w) (ht : (pc : Int) + off = (tgt : Int)) (d : decode cc pc = .ok (.ifCond .eq off, 3)) (kt : x = 0 → a = w → V κ σ tgt lv st) (kf : ¬ x = 0 → b = w → V κ σ (pc + 3) lv st) : V κ σ pc lv (.int x :: st) := by
  obtain ⟨p, e, R, s, m, args, below, meth, c, rfl, ⟨hx, hb, hr, hml, hown, hlocks⟩, hts, hK, hI, hN, hZ, hst, hR, hT⟩ := C
  intro H locs ls hP hS hl
  exact lv_if_eq hx hb d ht (fun q => kt q ((it_e h).1 q) H locs ls hP hS hl) (fun q => kf q ((it_e h).2 q) H locs ls hP hS hl)
theorem r_if_ne (C : Rl l D ad cy own cc nL ret fr lo k z τ V) {α : Type} {x : Int32} {off : Int} {tgt : Nat} {inst : Decidable (x = 0)} {a b w : α} (h : @ite α (x = 0) inst a b = w) (ht : (pc : Int) + off = (tgt : Int)) (d : decode cc pc = .ok (.ifCond .ne off, 3)) (kt : ¬ x = 0 → b = w → V κ σ tgt lv st) (kf : x = 0 → a = w → V κ σ (pc + 3) lv st) : V κ σ pc lv (.int x :: st) := by
  obtain ⟨p, e, R, s, m, args, below, meth, c, rfl, ⟨hx, hb, hr, hml, hown, hlocks⟩, hts, hK, hI, hN, hZ, hst, hR, hT⟩ := C
  intro H locs ls hP hS hl
  exact lv_if_ne hx hb d ht (fun q => kt q ((it_e h).2 q) H locs ls hP hS hl) (fun q => kf q ((it_e h).1 q) H locs ls hP hS hl)
theorem r_if_lt (C : Rl l D ad cy own cc nL ret fr lo k z τ V) {α : Type} {x : Int32} {off : Int} {tgt : Nat} {inst : Decidable (x < 0)} {a b w : α} (h : @ite α (x < 0) inst a b = w) (ht : (pc : Int) + off = (tgt : Int)) (d : decode cc pc = .ok (.ifCond .lt off, 3)) (kt : x < 0 → a = w → V κ σ tgt lv st) (kf : ¬ x < 0 → b = w → V κ σ (pc + 3) lv st) : V κ σ pc lv (.int x :: st) := by
  obtain ⟨p, e, R, s, m, args, below, meth, c, rfl, ⟨hx, hb, hr, hml, hown, hlocks⟩, hts, hK, hI, hN, hZ, hst, hR, hT⟩ := C
  intro H locs ls hP hS hl
  exact lv_if_lt hx hb d ht (fun q => kt q ((it_e h).1 q) H locs ls hP hS hl) (fun q => kf q ((it_e h).2 q) H locs ls hP hS hl)
theorem r_if_ge (C : Rl l D ad cy own cc nL ret fr lo k z τ V) {α : Type} {x : Int32} {off : Int} {tgt : Nat} {inst : Decidable (0 ≤ x)} {a b w : α} (h : @ite α (0 ≤ x) inst a b = w) (ht : (pc : Int) + off = (tgt : Int)) (d : decode cc pc = .ok (.ifCond .ge off, 3)) (kt : 0 ≤ x → a = w → V κ σ tgt lv st) (kf : ¬ 0 ≤ x → b = w → V κ σ (pc + 3) lv st) : V κ σ pc lv (.int x :: st) := by
  obtain ⟨p, e, R, s, m, args, below, meth, c, rfl, ⟨hx, hb, hr, hml, hown, hlocks⟩, hts, hK, hI, hN, hZ, hst, hR, hT⟩ := C
  intro H locs ls hP hS hl
  exact lv_if_ge hx hb d ht (fun q => kt q ((it_e h).1 q) H locs ls hP hS hl) (fun q => kf q ((it_e h).2 q) H locs ls hP hS hl)
theorem r_if_gt (C : Rl l D ad cy own cc nL ret fr lo k z τ V) {α : Type} {x : Int32} {off : Int} {tgt : Nat} {inst : Decidable (0 < x)} {a b w : α} (h : @ite α (0 < x) inst a b = w) (ht : (pc : Int) + off = (tgt : Int)) (d : decode cc pc = .ok (.ifCond .gt off, 3)) (kt : 0 < x → a = w → V κ σ tgt lv st) (kf : ¬ 0 < x → b = w → V κ σ (pc + 3) lv st) : V κ σ pc lv (.int x :: st) := by
  obtain ⟨p, e, R, s, m, args, below, meth, c, rfl, ⟨hx, hb, hr, hml, hown, hlocks⟩, hts, hK, hI, hN, hZ, hst, hR, hT⟩ := C
  intro H locs ls hP hS hl
  exact lv_if_gt hx hb d ht (fun q => kt q ((it_e h).1 q) H locs ls hP hS hl) (fun q => kf q ((it_e h).2 q) H locs ls hP hS hl)
theorem r_if_le (C : Rl l D ad cy own cc nL ret fr lo k z τ V) {α : Type} {x : Int32} {off : Int} {tgt : Nat} {inst : Decidable (x ≤ 0)} {a b w : α} (h : @ite α (x ≤ 0) inst a b = w) (ht : (pc : Int) + off = (tgt : Int)) (d : decode cc pc = .ok (.ifCond .le off, 3)) (kt : x ≤ 0 → a = w → V κ σ tgt lv st) (kf : ¬ x ≤ 0 → b = w → V κ σ (pc + 3) lv st) : V κ σ pc lv (.int x :: st) := by
  obtain ⟨p, e, R, s, m, args, below, meth, c, rfl, ⟨hx, hb, hr, hml, hown, hlocks⟩, hts, hK, hI, hN, hZ, hst, hR, hT⟩ := C
  intro H locs ls hP hS hl
  exact lv_if_le hx hb d ht (fun q => kt q ((it_e h).1 q) H locs ls hP hS hl) (fun q => kf q ((it_e h).2 q) H locs ls hP hS hl)
theorem r_ic_eq (C : Rl l D ad cy own cc nL ret fr lo k z τ V) {α : Type} {x y : Int32} {off : Int} {tgt : Nat} {inst : Decidable (x = y)} {a b w : α} (h : @ite α (x = y) inst a b = w) (ht : (pc : Int) + off = (tgt : Int)) (d : decode cc pc = .ok (.if_icmp .eq off, 3)) (kt : x = y → a = w → V κ σ tgt lv st) (kf : ¬ x = y → b = w → V κ σ (pc + 3) lv st) : V κ σ pc lv (.int y :: .int x :: st) := by
  obtain ⟨p, e, R, s, m, args, below, meth, c, rfl, ⟨hx, hb, hr, hml, hown, hlocks⟩, hts, hK, hI, hN, hZ, hst, hR, hT⟩ := C
  intro H locs ls hP hS hl
  exact lv_icmp_eq hx hb d ht (fun q => kt q ((it_e h).1 q) H locs ls hP hS hl) (fun q => kf q ((it_e h).2 q) H locs ls hP hS hl)
theorem r_ic_ne (C : Rl l D ad cy own cc nL ret fr lo k z τ V) {α : Type} {x y : Int32} {off : Int} {tgt : Nat} {inst : Decidable (x = y)} {a b w : α} (h : @ite α (x = y) inst a b = w) (ht : (pc : Int) + off = (tgt : Int)) (d : decode cc pc = .ok (.if_icmp .ne off, 3)) (kt : ¬ x = y → b = w → V κ σ tgt lv st) (kf : x = y → a = w → V κ σ (pc + 3) lv st) : V κ σ pc lv (.int y :: .int x :: st) := by
  obtain ⟨p, e, R, s, m, args, below, meth, c, rfl, ⟨hx, hb, hr, hml, hown, hlocks⟩, hts, hK, hI, hN, hZ, hst, hR, hT⟩ := C
  intro H locs ls hP hS hl
  exact lv_icmp_ne hx hb d ht (fun q => kt q ((it_e h).2 q) H locs ls hP hS hl) (fun q => kf q ((it_e h).1 q) H locs ls hP hS hl)
theorem r_ic_lt (C : Rl l D ad cy own cc nL ret fr lo k z τ V) {α : Type} {x y : Int32} {off : Int} {tgt : Nat} {inst : Decidable (x < y)} {a b w : α} (h : @ite α (x < y) inst a b = w) (ht : (pc : Int) + off = (tgt : Int)) (d : decode cc pc = .ok (.if_icmp .lt off, 3)) (kt : x < y → a = w → V κ σ tgt lv st) (kf : ¬ x < y → b = w → V κ σ (pc + 3) lv st) : V κ σ pc lv (.int y :: .int x :: st) := by
  obtain ⟨p, e, R, s, m, args, below, meth, c, rfl, ⟨hx, hb, hr, hml, hown, hlocks⟩, hts, hK, hI, hN, hZ, hst, hR, hT⟩ := C
  intro H locs ls hP hS hl
  exact lv_icmp_lt hx hb d ht (fun q => kt q ((it_e h).1 q) H locs ls hP hS hl) (fun q => kf q ((it_e h).2 q) H locs ls hP hS hl)
theorem r_ic_ge (C : Rl l D ad cy own cc nL ret fr lo k z τ V) {α : Type} {x y : Int32} {off : Int} {tgt : Nat} {inst : Decidable (y ≤ x)} {a b w : α} (h : @ite α (y ≤ x) inst a b = w) (ht : (pc : Int) + off = (tgt : Int)) (d : decode cc pc = .ok (.if_icmp .ge off, 3)) (kt : y ≤ x → a = w → V κ σ tgt lv st) (kf : ¬ y ≤ x → b = w → V κ σ (pc + 3) lv st) : V κ σ pc lv (.int y :: .int x :: st) := by
  obtain ⟨p, e, R, s, m, args, below, meth, c, rfl, ⟨hx, hb, hr, hml, hown, hlocks⟩, hts, hK, hI, hN, hZ, hst, hR, hT⟩ := C
  intro H locs ls hP hS hl
  exact lv_icmp_ge hx hb d ht (fun q => kt q ((it_e h).1 q) H locs ls hP hS hl) (fun q => kf q ((it_e h).2 q) H locs ls hP hS hl)
theorem r_ic_gt (C : Rl l D ad cy own cc nL ret fr lo k z τ V) {α : Type} {x y : Int32} {off : Int} {tgt : Nat} {inst : Decidable (y < x)} {a b w : α} (h : @ite α (y < x) inst a b = w) (ht : (pc : Int) + off = (tgt : Int)) (d : decode cc pc = .ok (.if_icmp .gt off, 3)) (kt : y < x → a = w → V κ σ tgt lv st) (kf : ¬ y < x → b = w → V κ σ (pc + 3) lv st) : V κ σ pc lv (.int y :: .int x :: st) := by
  obtain ⟨p, e, R, s, m, args, below, meth, c, rfl, ⟨hx, hb, hr, hml, hown, hlocks⟩, hts, hK, hI, hN, hZ, hst, hR, hT⟩ := C
  intro H locs ls hP hS hl
  exact lv_icmp_gt hx hb d ht (fun q => kt q ((it_e h).1 q) H locs ls hP hS hl) (fun q => kf q ((it_e h).2 q) H locs ls hP hS hl)
theorem r_ic_le (C : Rl l D ad cy own cc nL ret fr lo k z τ V) {α : Type} {x y : Int32} {off : Int} {tgt : Nat} {inst : Decidable (x ≤ y)} {a b w : α} (h : @ite α (x ≤ y) inst a b = w) (ht : (pc : Int) + off = (tgt : Int)) (d : decode cc pc = .ok (.if_icmp .le off, 3)) (kt : x ≤ y → a = w → V κ σ tgt lv st) (kf : ¬ x ≤ y → b = w → V κ σ (pc + 3) lv st) : V κ σ pc lv (.int y :: .int x :: st) := by
  obtain ⟨p, e, R, s, m, args, below, meth, c, rfl, ⟨hx, hb, hr, hml, hown, hlocks⟩, hts, hK, hI, hN, hZ, hst, hR, hT⟩ := C
  intro H locs ls hP hS hl
  exact lv_icmp_le hx hb d ht (fun q => kt q ((it_e h).1 q) H locs ls hP hS hl) (fun q => kf q ((it_e h).2 q) H locs ls hP hS hl)
theorem r_goto (C : Rl l D ad cy own cc nL ret fr lo k z τ V) {off : Int} {tgt : Nat} (ht : (pc : Int) + off = (tgt : Int)) (d : decode cc pc = .ok (.goto off, 3)) (K : V κ σ tgt lv st) : V κ σ pc lv st := by
  obtain ⟨p, e, R, s, m, args, below, meth, c, rfl, ⟨hx, hb, hr, hml, hown, hlocks⟩, hts, hK, hI, hN, hZ, hst, hR, hT⟩ := C
  intro H locs ls hP hS hl
  exact lv_goto hx hb d ht (K H locs ls hP hS hl)
theorem r_tin (C : Rl l D ad cy own cc nL ret fr lo k z τ V) {dflt lo9 hi : Int} {offs : Array Int} {len : Nat} {x : Int32} {off : Int} {tgt : Nat} (d : decode cc pc = .ok (.tableswitch dflt lo9 hi offs, len)) (h1 : ¬ x.toInt < lo9) (h2 : ¬ hi < x.toInt) (ho : offs[(x.toInt - lo9).toNat]? = some off) (ht : (pc : Int) + off = (tgt : Int)) (K : V κ σ tgt lv st) : V κ σ pc lv (.int x :: st) := by
  obtain ⟨p, e, R, s, m, args, below, meth, c, rfl, ⟨hx, hb, hr, hml, hown, hlocks⟩, hts, hK, hI, hN, hZ, hst, hR, hT⟩ := C
  intro H locs ls hP hS hl
  exact lv_tableIn hx hb d h1 h2 ho ht (K H locs ls hP hS hl)
theorem r_tinE (C : Rl l D ad cy own cc nL ret fr lo k z τ V) {dflt lo9 hi : Int} {offs : Array Int} {len : Nat} {x v : Int32} (off : Int) {tgt : Nat} (d : decode cc pc = .ok (.tableswitch dflt lo9 hi offs, len)) (hxv : x = v) (h1 : (¬ v.toInt < lo9) ∧ ¬ hi < v.toInt) (ho : offs[(v.toInt - lo9).toNat]? = some off) (ht : (pc : Int) + off = (tgt : Int)) (K : V κ σ tgt lv st) : V κ σ pc lv (.int x :: st) := by
  obtain ⟨p, e, R, s, m, args, below, meth, c, rfl, ⟨hx, hb, hr, hml, hown, hlocks⟩, hts, hK, hI, hN, hZ, hst, hR, hT⟩ := C
  intro H locs ls hP hS hl
  subst hxv; exact lv_tableIn hx hb d h1.1 h1.2 ho ht (K H locs ls hP hS hl)
theorem r_tout (C : Rl l D ad cy own cc nL ret fr lo k z τ V) {dflt lo9 hi : Int} {offs : Array Int} {len : Nat} {x : Int32} {tgt : Nat} (d : decode cc pc = .ok (.tableswitch dflt lo9 hi offs, len)) (h : x.toInt < lo9 ∨ hi < x.toInt) (ht : (pc : Int) + dflt = (tgt : Int)) (K : V κ σ tgt lv st) : V κ σ pc lv (.int x :: st) := by
  obtain ⟨p, e, R, s, m, args, below, meth, c, rfl, ⟨hx, hb, hr, hml, hown, hlocks⟩, hts, hK, hI, hN, hZ, hst, hR, hT⟩ := C
  intro H locs ls hP hS hl
  exact lv_tableOut hx hb d h ht (K H locs ls hP hS hl)
theorem r_getI (C : Rl l D ad cy own cc nL ret fr lo k z τ V) {ci b j N index : Nat} {CC : String} {T : u_T} {ty : Nat → FieldType} (KK : cK ci CC T N ty) (hf : fI ci b j) (hj : j < N) (hk : Cond.fieldLink own index CC (T j).2.1 (T j).2.2.1 ∈ AW) (hs : (T j).1 = CC) (d : decode cc pc = .ok (.getfield index, 3)) (K : V κ σ (pc + 3) lv (.int (σ b j) :: st)) : V κ σ pc lv (.ref (ad b) :: st) := by
  obtain ⟨p, e, R, s, m, args, below, meth, c, rfl, ⟨hx, hb, hr, hml, hown, hlocks⟩, hts, hK, hI, hN, hZ, hst, hR, hT⟩ := C
  intro H locs ls hP hS hl
  obtain ⟨hb9, hf⟩ := hf
  obtain ⟨fs, h1, h2, -⟩ := hf ad cy (σ b)
  have he := wd_get ad cy σ hb9
  rw [h1] at he
  exact va_get hx hb hts KK.2.1 hown hK hP b he KK.1 j hj (hts _ hk) (fun x h => by rw [← hs]; exact h) h2 d (K H locs ls hP hS hl)
theorem r_getR (C : Rl l D ad cy own cc nL ret fr lo k z τ V) {ci b j t N index : Nat} {CC : String} {T : u_T} {ty : Nat → FieldType} (KK : cK ci CC T N ty) (hf : fR ci b j t) (hj : j < N) (hk : Cond.fieldLink own index CC (T j).2.1 (T j).2.2.1 ∈ AW) (hs : (T j).1 = CC) (d : decode cc pc = .ok (.getfield index, 3)) (K : V κ σ (pc + 3) lv (.ref (ad t) :: st)) : V κ σ pc lv (.ref (ad b) :: st) := by
  obtain ⟨p, e, R, s, m, args, below, meth, c, rfl, ⟨hx, hb, hr, hml, hown, hlocks⟩, hts, hK, hI, hN, hZ, hst, hR, hT⟩ := C
  intro H locs ls hP hS hl
  obtain ⟨hb9, hf⟩ := hf
  obtain ⟨fs, h1, h2⟩ := hf ad cy (σ b)
  have he := wd_get ad cy σ hb9
  rw [h1] at he
  exact va_get hx hb hts KK.2.1 hown hK hP b he KK.1 j hj (hts _ hk) (fun x h => by rw [← hs]; exact h) h2 d (K H locs ls hP hS hl)
theorem r_putI (C : Rl l D ad cy own cc nL ret fr lo k z τ V) {ci b j N index : Nat} {CC : String} {T : u_T} {ty : Nat → FieldType} {ft : FieldType} {x : Int32} (KK : cK ci CC T N ty) (hf : fI ci b j) (hj : j < N) (hk : Cond.fieldLink own index CC (T j).2.1 (T j).2.2.1 ∈ AW) (hs : (T j).1 = CC) (hfin : (T j).2.2.2 = false) (hft : ty j = ft) (hn : narrow ft (.int x) = .int x) (hfit : fits ft (.int x) = true) (d : decode cc pc = .ok (.putfield index, 3)) {γ : Type} {K9 : Mem → γ} {w9 : γ} (h9 : lt (mst σ b j x) K9 = w9) (K : ∀ σ1 : Mem, K9 σ1 = w9 → V κ σ1 (pc + 3) lv st) : V κ σ pc lv (.int x :: .ref (ad b) :: st) := by
  obtain ⟨p, e, R, s, m, args, below, meth, c, rfl, ⟨hx, hb, hr, hml, hown, hlocks⟩, hts, hK, hI, hN, hZ, hst, hR, hT⟩ := C
  intro H locs ls hP hS hl
  obtain ⟨hb9, hf⟩ := hf
  obtain ⟨fs, h1, h2, h3, h4⟩ := hf ad cy (σ b)
  have he := wd_get ad cy σ hb9
  rw [h1] at he
  refine va_put hx hb hts KK.2.1 ty KK.2.2.2 KK.2.2.1 hown hK hP (wd_D cy σ hI) hS b he KK.1 j hj (hts _ hk) (fun x h => by rw [← hs]; exact h) hfin (by rw [KK.2.2.2 j hj, hft]) hn hfit h3 d (fun H1 locs1 hP1 hD1 hS1 => ?_)
  rw [wd_set ad cy σ hb9 (h4 x).symm] at hP1
  exact K _ h9 H1 locs1 ls hP1 hS1 hl
theorem r_iald (C : Rl l D ad cy own cc nL ret fr lo k z τ V) {b n : Nat} {i : Int32} (hA : isI 0 n b) (h : vp_in i n) (d : decode cc pc = .ok (.iaload, 1)) (K : V κ σ (pc + 1) lv (.int (σ b i.toNatClampNeg) :: st)) : V κ σ pc lv (.int i :: .ref (ad b) :: st) := by
  obtain ⟨p, e, R, s, m, args, below, meth, c, rfl, ⟨hx, hb, hr, hml, hown, hlocks⟩, hts, hK, hI, hN, hZ, hst, hR, hT⟩ := C
  intro H locs ls hP hS hl
  have he := wd_get ad cy σ hA.1
  rw [hA.2] at he
  exact va_iald hx hb hK hP b 0 he rfl h d (K H locs ls hP hS hl)
theorem r_cald (C : Rl l D ad cy own cc nL ret fr lo k z τ V) {b n : Nat} {i : Int32} (hA : isI 1 n b) (h : vp_in i n) (d : decode cc pc = .ok (.caload, 1)) (K : V κ σ (pc + 1) lv (.int (σ b i.toNatClampNeg) :: st)) : V κ σ pc lv (.int i :: .ref (ad b) :: st) := by
  obtain ⟨p, e, R, s, m, args, below, meth, c, rfl, ⟨hx, hb, hr, hml, hown, hlocks⟩, hts, hK, hI, hN, hZ, hst, hR, hT⟩ := C
  intro H locs ls hP hS hl
  have he := wd_get ad cy σ hA.1
  rw [hA.2] at he
  exact va_cald hx hb hK hP b 1 he rfl h d (K H locs ls hP hS hl)
theorem r_zald (C : Rl l D ad cy own cc nL ret fr lo k z τ V) {b n : Nat} {i : Int32} (hA : isI 2 n b) (h : vp_in i n) (d : decode cc pc = .ok (.baload, 1)) (K : V κ σ (pc + 1) lv (.int (σ b i.toNatClampNeg) :: st)) : V κ σ pc lv (.int i :: .ref (ad b) :: st) := by
  obtain ⟨p, e, R, s, m, args, below, meth, c, rfl, ⟨hx, hb, hr, hml, hown, hlocks⟩, hts, hK, hI, hN, hZ, hst, hR, hT⟩ := C
  intro H locs ls hP hS hl
  have he := wd_get ad cy σ hA.1
  rw [hA.2] at he
  exact va_zald hx hb hK hP b 2 he rfl h d (K H locs ls hP hS hl)
theorem r_iast (C : Rl l D ad cy own cc nL ret fr lo k z τ V) {b n : Nat} {i x : Int32} (hA : isI 0 n b) (h : vp_in i n) (d : decode cc pc = .ok (.iastore, 1)) {γ : Type} {K9 : Mem → γ} {w9 : γ} (h9 : lt (mst σ b i.toNatClampNeg (x)) K9 = w9) (K : ∀ σ1 : Mem, K9 σ1 = w9 → V κ σ1 (pc + 1) lv st) : V κ σ pc lv (.int x :: .int i :: .ref (ad b) :: st) := by
  obtain ⟨p, e, R, s, m, args, below, meth, c, rfl, ⟨hx, hb, hr, hml, hown, hlocks⟩, hts, hK, hI, hN, hZ, hst, hR, hT⟩ := C
  intro H locs ls hP hS hl
  have he := wd_get ad cy σ hA.1
  rw [hA.2] at he
  refine va_iast hx hb hK hP (wd_D cy σ hI) hS b 0 he rfl h d (fun H1 locs1 hP1 hD1 hS1 => ?_)
  rw [wd_set ad cy σ hA.1 (hA.2 ad cy _).symm] at hP1
  exact K _ h9 H1 locs1 ls hP1 hS1 hl
theorem r_cast (C : Rl l D ad cy own cc nL ret fr lo k z τ V) {b n : Nat} {i x : Int32} (hA : isI 1 n b) (h : vp_in i n) (d : decode cc pc = .ok (.castore, 1)) {γ : Type} {K9 : Mem → γ} {w9 : γ} (h9 : lt (mst σ b i.toNatClampNeg (vp_nar .char x)) K9 = w9) (K : ∀ σ1 : Mem, K9 σ1 = w9 → V κ σ1 (pc + 1) lv st) : V κ σ pc lv (.int x :: .int i :: .ref (ad b) :: st) := by
  obtain ⟨p, e, R, s, m, args, below, meth, c, rfl, ⟨hx, hb, hr, hml, hown, hlocks⟩, hts, hK, hI, hN, hZ, hst, hR, hT⟩ := C
  intro H locs ls hP hS hl
  have he := wd_get ad cy σ hA.1
  rw [hA.2] at he
  refine va_cast hx hb hK hP (wd_D cy σ hI) hS b 1 he rfl h d (fun H1 locs1 hP1 hD1 hS1 => ?_)
  rw [wd_set ad cy σ hA.1 (hA.2 ad cy _).symm] at hP1
  exact K _ h9 H1 locs1 ls hP1 hS1 hl
theorem r_zast (C : Rl l D ad cy own cc nL ret fr lo k z τ V) {b n : Nat} {i x : Int32} (hA : isI 2 n b) (h : vp_in i n) (d : decode cc pc = .ok (.bastore, 1)) {γ : Type} {K9 : Mem → γ} {w9 : γ} (h9 : lt (mst σ b i.toNatClampNeg (vp_nar .boolean x)) K9 = w9) (K : ∀ σ1 : Mem, K9 σ1 = w9 → V κ σ1 (pc + 1) lv st) : V κ σ pc lv (.int x :: .int i :: .ref (ad b) :: st) := by
  obtain ⟨p, e, R, s, m, args, below, meth, c, rfl, ⟨hx, hb, hr, hml, hown, hlocks⟩, hts, hK, hI, hN, hZ, hst, hR, hT⟩ := C
  intro H locs ls hP hS hl
  have he := wd_get ad cy σ hA.1
  rw [hA.2] at he
  refine va_zast hx hb hK hP (wd_D cy σ hI) hS b 2 he rfl h d (fun H1 locs1 hP1 hD1 hS1 => ?_)
  rw [wd_set ad cy σ hA.1 (hA.2 ad cy _).symm] at hP1
  exact K _ h9 H1 locs1 ls hP1 hS1 hl
theorem r_rrald (C : Rl l D ad cy own cc nL ret fr lo k z τ V) {b n base step : Nat} {i : Int32} (q : Nat) (hA : isA 3 n b base step) (h : vp_in i n) (hq : base + step * i.toNatClampNeg = q) (d : decode cc pc = .ok (.aaload, 1)) (K : V κ σ (pc + 1) lv (.ref (ad q) :: st)) : V κ σ pc lv (.int i :: .ref (ad b) :: st) := by
  obtain ⟨p, e, R, s, m, args, below, meth, c, rfl, ⟨hx, hb, hr, hml, hown, hlocks⟩, hts, hK, hI, hN, hZ, hst, hR, hT⟩ := C
  intro H locs ls hP hS hl
  subst hq
  have he := wd_get ad cy σ hA.1
  rw [hA.2] at he
  have hlt : i.toNatClampNeg < n := Nat.not_le.mp fun q => h (Or.inr q)
  exact W.aald (v := .ref (ad (base + step * i.toNatClampNeg))) (ty := .array .int) hx hb (hP b _ he) ((hK.2 3 _ rfl).1 n (fun j => va_rf (some (ad (base + step * j))))) rfl (fun q => by cases q) (by show ¬ (i < 0 ∨ (arrV _ _ _).slots.size ≤ _); rw [arrV_size]; exact h) (by show (arrV _ _ _).slots[_]? = _; rw [arrV_read _ _ hlt]; rfl) rfl rfl d (K H locs ls hP hS hl)
theorem r_orald (C : Rl l D ad cy own cc nL ret fr lo k z τ V) {b n base step : Nat} {i : Int32} (q : Nat) (hA : isA 4 n b base step) (h : vp_in i n) (hq : base + step * i.toNatClampNeg = q) (d : decode cc pc = .ok (.aaload, 1)) (K : V κ σ (pc + 1) lv (.ref (ad q) :: st)) : V κ σ pc lv (.int i :: .ref (ad b) :: st) := by
  obtain ⟨p, e, R, s, m, args, below, meth, c, rfl, ⟨hx, hb, hr, hml, hown, hlocks⟩, hts, hK, hI, hN, hZ, hst, hR, hT⟩ := C
  intro H locs ls hP hS hl
  subst hq
  have he := wd_get ad cy σ hA.1
  rw [hA.2] at he
  exact va_aldq hx hb hK hP b 4 he rfl h d (K H locs ls hP hS hl)
theorem r_alen (C : Rl l D ad cy own cc nL ret fr lo k z τ V) {b n t : Nat} {v : Int32} (hA : isI t n b) (ht : t < 3) (hv : Int32.ofNat n = v) (d : decode cc pc = .ok (.arraylength, 1)) (K : V κ σ (pc + 1) lv (.int v :: st)) : V κ σ pc lv (.ref (ad b) :: st) := by
  obtain ⟨p, e, R, s, m, args, below, meth, c, rfl, ⟨hx, hb, hr, hml, hown, hlocks⟩, hts, hK, hI, hN, hZ, hst, hR, hT⟩ := C
  intro H locs ls hP hS hl
  have he := wd_get ad cy σ hA.1
  rw [hA.2] at he
  rcases (show t = 0 ∨ t = 1 ∨ t = 2 by omega) with rfl | rfl | rfl
  · exact va_alen hx hb hK hP b 0 he rfl hv d (K H locs ls hP hS hl)
  · exact va_alen hx hb hK hP b 1 he rfl hv d (K H locs ls hP hS hl)
  · exact va_alen hx hb hK hP b 2 he rfl hv d (K H locs ls hP hS hl)
theorem r_copy (C : Rl l D ad cy own cc nL ret fr lo k z τ V) {b a n0 n1 index : Nat} {sp dp n : Int32} (h0 : isI 0 n0 b) (h1 : isI 0 n1 a) (h : ¬ sp < 0 ∧ ¬ dp < 0 ∧ ¬ n < 0 ∧ sp.toNatClampNeg + n.toNatClampNeg ≤ n0 ∧ dp.toNatClampNeg + n.toNatClampNeg ≤ n1) (hk : Cond.methodLink own index arraycopyName ∈ AW) (hq : Cond.native arraycopyName ∈ AW ∧ Cond.static arraycopyName ∈ AW ∧ Cond.initialized "java/lang/System" ∈ AW) (hfr : 1 ≤ fr) (hlo : (st.map fun v => v.category).sum + (nativeFrameWords "java/lang/System" "arraycopy" 5 + 11) ≤ lo) (d : decode cc pc = .ok (.invokestatic index, 3)) {γ : Type} {K9 : Mem → γ} {w9 : γ} (h9 : lt (mcp σ b sp a dp n) K9 = w9) (K : ∀ σ1 : Mem, K9 σ1 = w9 → V κ σ1 (pc + 3) lv st) : V κ σ pc lv (.int n :: .int dp :: .ref (ad a) :: .int sp :: .ref (ad b) :: st) := by
  obtain ⟨p, e, R, s, m, args, below, meth, c, rfl, ⟨hx, hb, hr, hml, hown, hlocks⟩, hts, hK, hI, hN, hZ, hst, hR, hT⟩ := C
  intro H locs ls hP hS hl
  have he0 := wd_get ad cy σ h0.1
  rw [h0.2] at he0
  have he1 := wd_get ad cy σ h1.1
  rw [h1.2] at he1
  refine va_copyi hx hb (by rw [hml]; exact hl.1.symm) hown (hts _ hk) (hts _ hq.1) (hts _ hq.2.1) (hts _ hq.2.2) hK hP (wd_D cy σ hI) hS b a 0 0 he0 he1 rfl rfl rfl h.1 h.2.1 h.2.2.1 h.2.2.2.1 h.2.2.2.2 (fun i _ => rfl) (by rw [hR.1]; exact hfr) (by rw [hR.2.1]; exact hlo) d (fun H1 locs1 hP1 hD1 hS1 => ?_)
  rw [wd_set ad cy σ h1.1 (h1.2 ad cy _).symm] at hP1
  exact K _ h9 H1 locs1 ls hP1 hS1 hl
theorem r_mabs (C : Rl l D ad cy own cc nL ret fr lo k z τ V) {index : Nat} {x : Int32} (hk : Cond.methodLink own index Lib.Math.abs.name ∈ AW) (hq : Cond.static Lib.Math.abs.name ∈ AW ∧ Cond.initialized "java/lang/Math" ∈ AW ∧ Cond.code Lib.Math.abs.name Lib.Math.abs.code 1 (some .int) ∈ AW) (hfr : 1 ≤ fr) (hlo : (st.map fun v => v.category).sum + 13 ≤ lo) (hκ : κ ≤ k) (d : decode cc pc = .ok (.invokestatic index, 3)) (K : V κ σ (pc + 3) lv (.int (if 0 ≤ x then x else 0 - x) :: st)) : V κ σ pc lv (.int x :: st) := by
  obtain ⟨p, e, R, s, m, args, below, meth, c, rfl, ⟨hx, hb, hr, hml, hown, hlocks⟩, hts, hK, hI, hN, hZ, hst, hR, hT⟩ := C
  intro H locs ls hP hS hl
  exact va_mabs hx hb (by rw [hml]; exact hl.1.symm) hown (hts _ hk) (hts _ hq.1) (hts _ hq.2.1) (hts _ hq.2.2) (by rw [hR.1]; exact hfr) (by rw [hR.2.1]; exact hlo) (by rw [hR.2.2.1]; exact hκ) (by rw [hR.2.2.2]; exact Nat.mul_le_mul_left 6 hκ) d (K H locs ls hP hS hl)
theorem r_mmax (C : Rl l D ad cy own cc nL ret fr lo k z τ V) {index : Nat} {x y : Int32} (hk : Cond.methodLink own index Lib.Math.max.name ∈ AW) (hq : Cond.static Lib.Math.max.name ∈ AW ∧ Cond.initialized "java/lang/Math" ∈ AW ∧ Cond.code Lib.Math.max.name Lib.Math.max.code 2 (some .int) ∈ AW) (hfr : 1 ≤ fr) (hlo : (st.map fun v => v.category).sum + 13 ≤ lo) (hκ : κ ≤ k) (d : decode cc pc = .ok (.invokestatic index, 3)) (K : V κ σ (pc + 3) lv (.int (if x < y then y else x) :: st)) : V κ σ pc lv (.int y :: .int x :: st) := by
  obtain ⟨p, e, R, s, m, args, below, meth, c, rfl, ⟨hx, hb, hr, hml, hown, hlocks⟩, hts, hK, hI, hN, hZ, hst, hR, hT⟩ := C
  intro H locs ls hP hS hl
  exact va_mmax hx hb (by rw [hml]; exact hl.1.symm) hown (hts _ hk) (hts _ hq.1) (hts _ hq.2.1) (hts _ hq.2.2) (by rw [hR.1]; exact hfr) (by rw [hR.2.1]; exact hlo) (by rw [hR.2.2.1]; exact hκ) (by rw [hR.2.2.2]; exact Nat.mul_le_mul_left 6 hκ) d (K H locs ls hP hS hl)
theorem r_mmin (C : Rl l D ad cy own cc nL ret fr lo k z τ V) {index : Nat} {x y : Int32} (hk : Cond.methodLink own index Lib.Math.min.name ∈ AW) (hq : Cond.static Lib.Math.min.name ∈ AW ∧ Cond.initialized "java/lang/Math" ∈ AW ∧ Cond.code Lib.Math.min.name Lib.Math.min.code 2 (some .int) ∈ AW) (hfr : 1 ≤ fr) (hlo : (st.map fun v => v.category).sum + 13 ≤ lo) (hκ : κ ≤ k) (d : decode cc pc = .ok (.invokestatic index, 3)) (K : V κ σ (pc + 3) lv (.int (if y < x then y else x) :: st)) : V κ σ pc lv (.int y :: .int x :: st) := by
  obtain ⟨p, e, R, s, m, args, below, meth, c, rfl, ⟨hx, hb, hr, hml, hown, hlocks⟩, hts, hK, hI, hN, hZ, hst, hR, hT⟩ := C
  intro H locs ls hP hS hl
  exact va_mmin hx hb (by rw [hml]; exact hl.1.symm) hown (hts _ hk) (hts _ hq.1) (hts _ hq.2.1) (hts _ hq.2.2) (by rw [hR.1]; exact hfr) (by rw [hR.2.1]; exact hlo) (by rw [hR.2.2.1]; exact hκ) (by rw [hR.2.2.2]; exact Nat.mul_le_mul_left 6 hκ) d (K H locs ls hP hS hl)
theorem ws_end {D : va_G} {s t : State} {H : Heap} {locs : List Loc} (hP : va_P D wCl (wd ad cy σ) H) (hK : va_K D wCl (tyL cy) s) (hZ : ZQ ad s s.heap) (hS : va_S (AD ad) s.heap H locs) (ht : t.heap = H) (hA : s.vm.Alike t.vm) : WS D ad cy σ t ∧ va_F (AD ad) s t :=
  ⟨⟨by rw [ht]; exact hP, va_K.moved hA hK, zq_kept (zq_moved hA hZ) (fun a h1 h2 => by rw [ht]; exact hS.2.1 a h1 h2)⟩, hS.F ht⟩
theorem r_iret (C : Rl l D ad cy own cc nL ret fr lo k z τ V) (hret : ret = some .int) (hκ : κ ≤ k) {x : Int32} (d : decode cc pc = .ok (.ireturn, 1)) (h : z = zi x ∧ τ = σ) : V κ σ pc lv [.int x] := by
  obtain ⟨p, e, R, s, m, args, below, meth, c, rfl, ⟨hx, hb, hr, hml, hown, hlocks⟩, hts, hK, hI, hN, hZ, hst, hR, hT⟩ := C
  intro H locs ls hP hS hl
  obtain ⟨rfl, rfl⟩ := h
  refine W.widen hκ (Nat.mul_le_mul_left 6 hκ) (vx_ret ?_)
  exact W.iret hx hb (hr.trans hret) (fun t ht hW => ⟨⟨_, rfl, rfl⟩, ws_end hP hK hZ hS ht hW.alike⟩) hS.2.2 d hlocks
theorem r_zret (C : Rl l D ad cy own cc nL ret fr lo k z τ V) (hret : ret = some .boolean) (hκ : κ ≤ k) {x : Int32} (hz : x = 0 ∨ x = 1) (d : decode cc pc = .ok (.ireturn, 1)) (h : z = zi x ∧ τ = σ) : V κ σ pc lv [.int x] := by
  obtain ⟨p, e, R, s, m, args, below, meth, c, rfl, ⟨hx, hb, hr, hml, hown, hlocks⟩, hts, hK, hI, hN, hZ, hst, hR, hT⟩ := C
  intro H locs ls hP hS hl
  obtain ⟨rfl, rfl⟩ := h
  refine W.widen hκ (Nat.mul_le_mul_left 6 hκ) (vx_ret ?_)
  exact W.zret hx hb (hr.trans hret) (by rcases hz with rfl | rfl <;> rfl) (fun t ht hW => ⟨⟨_, rfl, rfl⟩, ws_end hP hK hZ hS ht hW.alike⟩) hS.2.2 d hlocks
theorem r_dret (C : Rl l D ad cy own cc nL ret fr lo k z τ V) (hret : ret = some .double) (hκ : κ ≤ k) {x : UInt64} (d : decode cc pc = .ok (.dreturn, 1)) (h : z = zd x ∧ τ = σ) : V κ σ pc lv [.double x] := by
  obtain ⟨p, e, R, s, m, args, below, meth, c, rfl, ⟨hx, hb, hr, hml, hown, hlocks⟩, hts, hK, hI, hN, hZ, hst, hR, hT⟩ := C
  intro H locs ls hP hS hl
  obtain ⟨rfl, rfl⟩ := h
  refine W.widen hκ (Nat.mul_le_mul_left 6 hκ) (vx_ret ?_)
  exact W.dret hx hb (hr.trans hret) (fun t ht hW => ⟨⟨_, rfl, rfl⟩, ws_end hP hK hZ hS ht hW.alike⟩) hS.2.2 d hlocks
theorem r_vret (C : Rl l D ad cy own cc nL ret fr lo k z τ V) (hret : ret = none) (hκ : κ ≤ k) (d : decode cc pc = .ok (.return_, 1)) (h : z = zv ∧ τ = σ) : V κ σ pc lv [] := by
  obtain ⟨p, e, R, s, m, args, below, meth, c, rfl, ⟨hx, hb, hr, hml, hown, hlocks⟩, hts, hK, hI, hN, hZ, hst, hR, hT⟩ := C
  intro H locs ls hP hS hl
  obtain ⟨rfl, rfl⟩ := h
  refine W.widen hκ (Nat.mul_le_mul_left 6 hκ) (vx_ret ?_)
  exact W.vret hx hb (hr.trans hret) (fun t ht hW => ⟨⟨_, rfl, rfl⟩, ws_end hP hK hZ hS ht hW.alike⟩) hS.2.2 d hlocks
theorem r_i2d (C : Rl l D ad cy own cc nL ret fr lo k z τ V) {x : Int32} (d : decode cc pc = .ok (.i2d, 1)) (K : V κ σ (pc + 1) lv (.double (FP.i2d x) :: st)) : V κ σ pc lv (.int x :: st) := by
  obtain ⟨p, e, R, s, m, args, below, meth, c, rfl, ⟨hx, hb, hr, hml, hown, hlocks⟩, hts, hK, hI, hN, hZ, hst, hR, hT⟩ := C
  intro H locs ls hP hS hl
  exact lv_i2d hx hb d (K H locs ls hP hS hl)
theorem r_dconst0 (C : Rl l D ad cy own cc nL ret fr lo k z τ V) (d : decode cc pc = .ok (.dconst 0, 1)) (K : V κ σ (pc + 1) lv (.double 0 :: st)) : V κ σ pc lv st := by
  obtain ⟨p, e, R, s, m, args, below, meth, c, rfl, ⟨hx, hb, hr, hml, hown, hlocks⟩, hts, hK, hI, hN, hZ, hst, hR, hT⟩ := C
  intro H locs ls hP hS hl
  exact lv_dconst0 hx hb d (K H locs ls hP hS hl)
theorem r_ddiv (C : Rl l D ad cy own cc nL ret fr lo k z τ V) {x y : UInt64} (h : vf_n64 (FP.ddiv x y)) (d : decode cc pc = .ok (.ddiv, 1)) (K : V κ σ (pc + 1) lv (.double (FP.ddiv x y) :: st)) : V κ σ pc lv (.double y :: .double x :: st) := by
  obtain ⟨p, e, R, s, m, args, below, meth, c, rfl, ⟨hx, hb, hr, hml, hown, hlocks⟩, hts, hK, hI, hN, hZ, hst, hR, hT⟩ := C
  intro H locs ls hP hS hl
  exact lv_ddiv hx hb d h (K H locs ls hP hS hl)
end RW
