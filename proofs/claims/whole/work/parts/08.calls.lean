/-! THE CALLS (by program) -/
def GB (y : MethodName) (bytes : ByteArray) (maxL : Nat) (rt : Option FieldType) (n : Nat) : Prop := .code y bytes maxL rt ∈ AW ∧ .initialized y.cls ∈ AW ∧ (y.cls ≠ "java/lang/invoke/MethodHandle" ∧ y.cls ≠ "java/lang/invoke/VarHandle" ∧ (parseMethodDescriptor y.desc).map (fun d => d.parameters.length) = some n) ∧ plainName y.cls = true
def GV (y : MethodName) (bytes : ByteArray) (maxL : Nat) (rt : Option FieldType) (n : Nat) : Prop := GB y bytes maxL rt n ∧ .instanceMethod y ∈ AW ∧ .selects y.cls y y ∈ AW
def GS (y : MethodName) (bytes : ByteArray) (maxL : Nat) (rt : Option FieldType) (n : Nat) : Prop := GB y bytes maxL rt n ∧ .static y ∈ AW
def TH (own : String) (ik ic : Nat) (cls : String) (names : List String) : Prop := Bundle.fit cls = true ∧ (∀ n ∈ names, Bundle.fit n = true) ∧ .classLink own ik cls ∈ AW ∧ .initialized cls ∈ AW ∧ (∀ w ∈ vx_at0 own ic cls names, w ∈ AW ∨ w ∈ nwL) ∧ (∀ w ∈ Cond.classLink own ik cls :: Cond.initialized cls :: vx_at0 own ic cls names, vx_ot w = true)
theorem met_vx {l : Launch} {y : MethodName} {ws : List Cond} {rm : Room} {Pc : Array Value → State → Prop} {Qc : Array Value → State → Outcome → State → Prop} {XC : String → State → State → Prop} {mc ms : Nat} {free : Addr → Prop} (h : vx_Met l y ws rm Pc Qc XC mc ms free) (hX : ∀ E s t, ¬ XC E s t) : Met l y ws rm Pc Qc mc ms free := by
  intro p e ha hc hk s m args below hf happ hP hK
  obtain ⟨n, o, h1, h2, h3, h4⟩ := h p e ha hc hk s m args below hf happ hP hK
  refine ⟨n, o, h1, h2, h3, ?_⟩
  rcases h4 with h4 | ⟨q, -, E, ce, L, hx, -⟩
  · exact h4
  · exact absurd hx (hX _ _ _)
section RC
variable {l : Launch} {D : va_G} {ad : Nat → Nat} {cy : Nat → ClassId} {own : String} {cc : ByteArray} {nL : Nat} {ret : Option FieldType} {fr lo k : Nat} {z : Rz} {τ : Mem} {V : Vt}
variable {κ pc : Nat} {σ : Mem} {lv : LVa} {st : List Value}
theorem r_run {p : Program} {e : Env} {R : Room} {s : State} {m : MethodId} {args : Array Value} {below : List Frame} {meth : Method} {c : Code} {H : Heap} {locs : List Loc} {ls : Array Slot} {rest : List Value} {as : Array Value} {k' : Nat} {z1 : Rz} {τ1 : Mem}
    (hr9 : vx_Run p l e R s m args below meth c H locs κ (6 * κ) k' (6 * k') (F0 m pc ls st) rest (Qo D ad cy z1 τ1 as) (Xo D ad cy z1 τ1) (AD ad))
    (hK : va_K D wCl (tyL cy) s) (hZ : ZQ ad s s.heap) (hlocks : meth.locks = false) (hT9 : ∀ x ∈ c.exceptionTable.toList, False) (hκ : κ + k' ≤ k) (hS : va_S (AD ad) s.heap H locs) (hl : lv_has ls nL (lvl ad 0 lv))
    (kk : ∀ v, z1 = .inl v → VV p l e R s m args below meth c D ad cy nL (vx_MQ below (Qo D ad cy z τ) (Xo D ad cy z τ) args s k (6 * k) (AD ad)) (κ + k') τ1 (pc + 3) lv (v.toList ++ rest)) (kx : ∀ E, z1 = .inr E → z = .inr E ∧ τ = τ1) :
    W p l e R s m args below meth c H locs κ (6 * κ) (vx_MQ below (Qo D ad cy z τ) (Xo D ad cy z τ) args s k (6 * k) (AD ad)) (F0 m pc ls st) := by
  intro T hT X
  rcases hr9 T hT X with ⟨v, st₀, t, T', L, h0, X', hL, e1, e2, ⟨⟨v', hz, hv⟩, hWS, hF⟩, stp⟩ | ⟨q, st₀, t, T', L, E, ce, h0, X', hL, e1, e2, ⟨hz, hWS, hF⟩, hce, hcv, hcl, stp⟩
  · cases hv
    obtain ⟨k1, k2, k3⟩ := vx_keep h0 e1 hS (fun q _ h => h) (fun q h => h) hL hF
    rw [← Nat.mul_add] at X'
    obtain ⟨t2, a1, b1⟩ := kk v hz T'.heap (locs ++ L) ls (by rw [e1]; exact hWS.1) k3 hl T' rfl X'
    exact ⟨t2, stp t2 a1, b1⟩
  · obtain ⟨k1, k2, k3⟩ := vx_keep h0 e1 hS (fun q _ h => h) (fun q h => h) hL hF
    rw [← Nat.mul_add] at X'
    obtain ⟨rfl, rfl⟩ := kx E hz
    obtain ⟨t2, a1, b1⟩ := vx_out (Qc := Qo D ad cy (.inr E) τ) (XC := Xo D ad cy (.inr E) τ) (free := AD ad) (mc := k) (ms := 6 * k) (pc := pc) (ls := ls) (rest := rest) (E := E) (ce := ce) (q := q) (fun x hx => (hT9 x hx).elim) hlocks (by rw [e1]; exact hce) hcv hcl (fun t9 ht hA => ⟨rfl, ws_end (cy := cy) (σ := τ) (by rw [e1]; exact hWS.1) hK hZ k3 ht hA⟩) k3.2.2 hκ (Nat.mul_le_mul_left 6 hκ) T' rfl X'
    exact ⟨t2, stp.trans a1, b1⟩
theorem r_callV (C : Rl l D ad cy own cc nL ret fr lo k z τ V) {y : MethodName} {bytes : ByteArray} {maxL : Nat} {rt : Option FieldType} {fr' lo' k' n index b ci : Nat} {z1 : Rz} {τ1 : Mem} {As rest : List Value} (G : GV y bytes maxL rt n) (hci : ∃ (T : u_T) (N : Nat), wCl[ci]? = some (y.cls, T, N)) (hO : isO ci b) (hk : Cond.methodLink own index y ∈ AW)
    (hM : Co l D ad cy y bytes maxL rt fr' lo' k' (.ref (ad b) :: As) σ z1 τ1) (hn : As.length = n) (hst0 : st = As.reverse ++ .ref (ad b) :: rest) (hW : (rest.map fun v => v.category).sum ≤ 8) (hR0 : fr' + 1 ≤ fr ∧ 8 + (maxL + 11) + lo' ≤ lo ∧ κ + k' ≤ k) (d : decode cc pc = .ok (.invokevirtual index, 3))
    (kk : ∀ v, z1 = .inl v → V (κ + k') τ1 (pc + 3) lv (v.toList ++ rest)) (kx : ∀ E, z1 = .inr E → z = .inr E ∧ τ = τ1) : V κ σ pc lv st := by
  subst hst0
  obtain ⟨p, e, R, s, m, args, below, meth, c, rfl, ⟨hx, hb, hr, hml, hown, hlocks⟩, hts, hK, hI, hN, hZ, hst, hR, hT⟩ := C
  intro H locs ls hP hS hl
  obtain ⟨T9, N9, hci⟩ := hci
  obtain ⟨fs, hfs⟩ := hO.2 ad cy (σ b)
  have he := wd_get ad cy σ hO.1
  rw [hfs] at he
  refine r_run (vx_runV (As := As) (rest := rest) ⟨hx, hb, hml, hown, hts⟩ hM (cwV n hts (aw_sub (fun w hw => ?_)) rfl rfl rfl ⟨rfl, G.1.2.2.1⟩ ⟨by rw [hR.1]; exact hR0.1, by rw [hR.2.1]; exact hR0.2.1⟩) ⟨ws_blind, va_recv hK hP hci he, fun U hU hW9 => ⟨rfl, ⟨by rw [hU]; exact hP, va_K.moved hW9.alike hK, zq_kept (zq_moved hW9.alike hZ) (fun a h1 h2 => by rw [hU]; exact hS.2.1 a h1 h2)⟩, nw_warm hW9 hN⟩⟩ rfl hn hl.1 rfl (lv_room hW) d ⟨by rw [hR.2.2.1]; exact hR0.2.2, by rw [hR.2.2.2, ← Nat.mul_add]; exact Nat.mul_le_mul_left 6 hR0.2.2⟩) hK hZ hlocks hT hR0.2.2 hS hl kk kx
  simp only [wsV, List.cons_append, List.nil_append, List.mem_cons] at hw
  rcases hw with rfl | rfl | rfl | rfl | rfl | hw
  · exact hk
  · exact G.2.1
  · exact G.2.2
  · exact G.1.2.1
  · exact G.1.1
  · exact hw
theorem r_callS (C : Rl l D ad cy own cc nL ret fr lo k z τ V) {y : MethodName} {bytes : ByteArray} {maxL : Nat} {rt : Option FieldType} {fr' lo' k' n index : Nat} {z1 : Rz} {τ1 : Mem} {As rest : List Value} (G : GS y bytes maxL rt n) (hk : Cond.methodLink own index y ∈ AW)
    (hM : Co l D ad cy y bytes maxL rt fr' lo' k' As σ z1 τ1) (hn : As.length = n) (hst0 : st = As.reverse ++ rest) (hW : (rest.map fun v => v.category).sum ≤ 8) (hR0 : fr' + 1 ≤ fr ∧ 8 + (maxL + 11) + lo' ≤ lo ∧ κ + k' ≤ k) (d : decode cc pc = .ok (.invokestatic index, 3))
    (kk : ∀ v, z1 = .inl v → V (κ + k') τ1 (pc + 3) lv (v.toList ++ rest)) (kx : ∀ E, z1 = .inr E → z = .inr E ∧ τ = τ1) : V κ σ pc lv st := by
  subst hst0
  obtain ⟨p, e, R, s, m, args, below, meth, c, rfl, ⟨hx, hb, hr, hml, hown, hlocks⟩, hts, hK, hI, hN, hZ, hst, hR, hT⟩ := C
  intro H locs ls hP hS hl
  have hcb : CallB R s args own index y bytes maxL rt (.code y bytes maxL rt :: AW) { frames := fr', cells := k', slots := 6 * k', locals := lo' } k' (6 * k') n ∧ (Cond.static y).before args s = true := by
    refine ⟨callB_of n hts (aw_sub (fun w hw => ?_)) rfl rfl rfl (hts _ G.1.2.1) (hts _ hk) G.1.2.2.1 ⟨by rw [hR.1]; exact hR0.1, by rw [hR.2.1]; exact hR0.2.1⟩, hts _ G.2⟩
    rcases List.mem_cons.mp hw with rfl | hw
    · exact G.1.1
    · exact hw
  exact r_run (vx_runS (As := As) (rest := rest) ⟨hx, hb, hml, hown, hts⟩ hM hcb ⟨ws_blind, fun U hU hW9 => ⟨rfl, ⟨by rw [hU]; exact hP, va_K.moved hW9.alike hK, zq_kept (zq_moved hW9.alike hZ) (fun a h1 h2 => by rw [hU]; exact hS.2.1 a h1 h2)⟩, nw_warm hW9 hN⟩⟩ rfl hn hl.1 rfl (lv_room hW) d ⟨by rw [hR.2.2.1]; exact hR0.2.2, by rw [hR.2.2.2, ← Nat.mul_add]; exact Nat.mul_le_mul_left 6 hR0.2.2⟩) hK hZ hlocks hT hR0.2.2 hS hl kk kx
theorem r_callVi (C : Rl l D ad cy own cc nL ret fr lo k z τ V) {y : MethodName} {bytes : ByteArray} {maxL : Nat} {rt : Option FieldType} {fr' lo' k' n index b ci : Nat} {r : Int32} {τ1 : Mem} {As rest : List Value} (G : GV y bytes maxL rt n) (hci : ∃ (T : u_T) (N : Nat), wCl[ci]? = some (y.cls, T, N)) (hO : isO ci b) (hk : Cond.methodLink own index y ∈ AW)
    (hM : Co l D ad cy y bytes maxL rt fr' lo' k' (.ref (ad b) :: As) σ (zi r) τ1) (hn : As.length = n) (hst0 : st = As.reverse ++ .ref (ad b) :: rest) (hW : (rest.map fun v => v.category).sum ≤ 8) (hR0 : fr' + 1 ≤ fr ∧ 8 + (maxL + 11) + lo' ≤ lo ∧ κ + k' ≤ k) (d : decode cc pc = .ok (.invokevirtual index, 3))
    (kk : V (κ + k') τ1 (pc + 3) lv (.int r :: rest)) : V κ σ pc lv st := r_callV C G hci hO hk hM hn hst0 hW hR0 d (fun v hv => by cases hv; exact kk) (fun E hE => by cases hE)
theorem r_callVv (C : Rl l D ad cy own cc nL ret fr lo k z τ V) {y : MethodName} {bytes : ByteArray} {maxL : Nat} {rt : Option FieldType} {fr' lo' k' n index b ci : Nat} {τ1 : Mem} {As rest : List Value} (G : GV y bytes maxL rt n) (hci : ∃ (T : u_T) (N : Nat), wCl[ci]? = some (y.cls, T, N)) (hO : isO ci b) (hk : Cond.methodLink own index y ∈ AW)
    (hM : Co l D ad cy y bytes maxL rt fr' lo' k' (.ref (ad b) :: As) σ zv τ1) (hn : As.length = n) (hst0 : st = As.reverse ++ .ref (ad b) :: rest) (hW : (rest.map fun v => v.category).sum ≤ 8) (hR0 : fr' + 1 ≤ fr ∧ 8 + (maxL + 11) + lo' ≤ lo ∧ κ + k' ≤ k) (d : decode cc pc = .ok (.invokevirtual index, 3))
    (kk : V (κ + k') τ1 (pc + 3) lv rest) : V κ σ pc lv st := r_callV C G hci hO hk hM hn hst0 hW hR0 d (fun v hv => by cases hv; exact kk) (fun E hE => by cases hE)
theorem r_callVx (C : Rl l D ad cy own cc nL ret fr lo k z τ V) {y : MethodName} {bytes : ByteArray} {maxL : Nat} {rt : Option FieldType} {fr' lo' k' n index b ci : Nat} {E : String} {τ1 : Mem} {As rest : List Value} (G : GV y bytes maxL rt n) (hci : ∃ (T : u_T) (N : Nat), wCl[ci]? = some (y.cls, T, N)) (hO : isO ci b) (hk : Cond.methodLink own index y ∈ AW)
    (hM : Co l D ad cy y bytes maxL rt fr' lo' k' (.ref (ad b) :: As) σ (.inr E) τ1) (hn : As.length = n) (hst0 : st = As.reverse ++ .ref (ad b) :: rest) (hW : (rest.map fun v => v.category).sum ≤ 8) (hR0 : fr' + 1 ≤ fr ∧ 8 + (maxL + 11) + lo' ≤ lo ∧ κ + k' ≤ k) (d : decode cc pc = .ok (.invokevirtual index, 3))
    (kx : z = .inr E ∧ τ = τ1) : V κ σ pc lv st := r_callV C G hci hO hk hM hn hst0 hW hR0 d (fun v hv => by cases hv) (fun E9 hE => by cases hE; exact kx)
theorem r_callSi (C : Rl l D ad cy own cc nL ret fr lo k z τ V) {y : MethodName} {bytes : ByteArray} {maxL : Nat} {rt : Option FieldType} {fr' lo' k' n index : Nat} {r : Int32} {τ1 : Mem} {As rest : List Value} (G : GS y bytes maxL rt n) (hk : Cond.methodLink own index y ∈ AW)
    (hM : Co l D ad cy y bytes maxL rt fr' lo' k' As σ (zi r) τ1) (hn : As.length = n) (hst0 : st = As.reverse ++ rest) (hW : (rest.map fun v => v.category).sum ≤ 8) (hR0 : fr' + 1 ≤ fr ∧ 8 + (maxL + 11) + lo' ≤ lo ∧ κ + k' ≤ k) (d : decode cc pc = .ok (.invokestatic index, 3))
    (kk : V (κ + k') τ1 (pc + 3) lv (.int r :: rest)) : V κ σ pc lv st := r_callS C G hk hM hn hst0 hW hR0 d (fun v hv => by cases hv; exact kk) (fun E hE => by cases hE)
theorem r_callSv (C : Rl l D ad cy own cc nL ret fr lo k z τ V) {y : MethodName} {bytes : ByteArray} {maxL : Nat} {rt : Option FieldType} {fr' lo' k' n index : Nat} {τ1 : Mem} {As rest : List Value} (G : GS y bytes maxL rt n) (hk : Cond.methodLink own index y ∈ AW)
    (hM : Co l D ad cy y bytes maxL rt fr' lo' k' As σ zv τ1) (hn : As.length = n) (hst0 : st = As.reverse ++ rest) (hW : (rest.map fun v => v.category).sum ≤ 8) (hR0 : fr' + 1 ≤ fr ∧ 8 + (maxL + 11) + lo' ≤ lo ∧ κ + k' ≤ k) (d : decode cc pc = .ok (.invokestatic index, 3))
    (kk : V (κ + k') τ1 (pc + 3) lv rest) : V κ σ pc lv st := r_callS C G hk hM hn hst0 hW hR0 d (fun v hv => by cases hv; exact kk) (fun E hE => by cases hE)
theorem r_callSx (C : Rl l D ad cy own cc nL ret fr lo k z τ V) {y : MethodName} {bytes : ByteArray} {maxL : Nat} {rt : Option FieldType} {fr' lo' k' n index : Nat} {E : String} {τ1 : Mem} {As rest : List Value} (G : GS y bytes maxL rt n) (hk : Cond.methodLink own index y ∈ AW)
    (hM : Co l D ad cy y bytes maxL rt fr' lo' k' As σ (.inr E) τ1) (hn : As.length = n) (hst0 : st = As.reverse ++ rest) (hW : (rest.map fun v => v.category).sum ≤ 8) (hR0 : fr' + 1 ≤ fr ∧ 8 + (maxL + 11) + lo' ≤ lo ∧ κ + k' ≤ k) (d : decode cc pc = .ok (.invokestatic index, 3))
    (kx : z = .inr E ∧ τ = τ1) : V κ σ pc lv st := r_callS C G hk hM hn hst0 hW hR0 d (fun v hv => by cases hv) (fun E9 hE => by cases hE; exact kx)
/-- a static method of a nest mate, reached by a private link -/
theorem r_callN (C : Rl l D ad cy own cc nL ret fr lo k z τ V) {y : MethodName} {host : String} {bytes : ByteArray} {maxL : Nat} {rt : Option FieldType} {fr' lo' n index : Nat} {v1 : Option Value} {τ1 : Mem} {As rest : List Value} (G : GS y bytes maxL rt n) (hk : Cond.methodLinkNest own index y host ∈ nwL)
    (hM : Co l D ad cy y bytes maxL rt fr' lo' 0 As σ (.inl v1) τ1) (hn : As.length = n) (hst0 : st = As.reverse ++ rest) (hW : (rest.map fun v => v.category).sum ≤ 8) (hR0 : fr' + 1 ≤ fr ∧ 8 + (maxL + 11) + lo' ≤ lo ∧ κ ≤ k) (d : decode cc pc = .ok (.invokestatic index, 3))
    (kk : V κ τ1 (pc + 3) lv (v1.toList ++ rest)) : V κ σ pc lv st := by
  subst hst0
  obtain ⟨p, e, R, s, m, args, below, meth, c, rfl, ⟨hx, hb, hr, hml, hown, hlocks⟩, hts, hK, hI, hN, hZ, hst, hR, hT⟩ := C
  intro H locs ls hP hS hl
  have hG : GoodIn AW (.code y bytes maxL rt :: AW) := aw_sub (fun w hw => by
    rcases List.mem_cons.mp hw with rfl | hw
    · exact G.1.1
    · exact hw)
  have hM2 := met_vx hM (fun E s t h => by cases h.1)
  intro T hT9 X
  obtain ⟨v, st₀, t, T', L, h0, X', hL, e1, e2, ⟨⟨v', hz, hv⟩, hWS, hF⟩, stp⟩ := va_runSN (As := As) (rest := rest) (g := F0 m pc ls (As.reverse ++ rest)) (cells := κ) (slots := 6 * κ) (locs := locs) (H := H) (p := p) (e := e) (R := R) (s := s) (m := m) (args := args) (below := below) (meth := meth) (c := c) ⟨hx, hb, hml, hown, hts⟩ hM2
    ⟨va_cnB n hts hG rfl rfl rfl (hN _ hk) (hts _ G.1.2.1) G.1.2.2.1 ⟨by rw [hR.1]; exact hR0.1, by rw [hR.2.1]; exact hR0.2.1⟩, hts _ G.2, trivial⟩
    ⟨ws_blind, fun U hU hW9 => ⟨rfl, ⟨by rw [hU]; exact hP, va_K.moved hW9.alike hK, zq_kept (zq_moved hW9.alike hZ) (fun a h1 h2 => by rw [hU]; exact hS.2.1 a h1 h2)⟩, nw_warm hW9 hN⟩⟩ rfl hn hl.1 rfl (lv_room hW) d ⟨by rw [hR.2.2.1]; exact hR0.2.2, by rw [hR.2.2.2]; exact Nat.mul_le_mul_left 6 hR0.2.2⟩ T hT9 X
  cases hv
  cases hz
  obtain ⟨k1, k2, k3⟩ := vx_keep h0 e1 hS (fun q _ h => h) (fun q h => h) hL hF
  obtain ⟨t2, a1, b1⟩ := kk T'.heap (locs ++ L) ls (by rw [e1]; exact hWS.1) k3 hl T' rfl X'
  exact ⟨t2, stp t2 a1, b1⟩
theorem r_throw (C : Rl l D ad cy own cc nL ret fr lo k z τ V) {cls : String} {names : List String} {ik ic : Nat} (G : TH own ik ic cls names) (d0 : decode cc pc = .ok (.new ik, 3)) (d3 : decode cc (pc + 3) = .ok (.dup, 1)) (d4 : decode cc (pc + 4) = .ok (.invokespecial ic, 3)) (d7 : decode cc (pc + 7) = .ok (.athrow, 1))
    (hR0 : names.length + 3 < fr ∧ (st.map fun v => v.category).sum + (13 * (names.length + 1) + 42) ≤ lo ∧ κ + 1 ≤ k) (h : z = .inr cls ∧ τ = σ) : V κ σ pc lv st := by
  obtain ⟨rfl, rfl⟩ := h
  obtain ⟨p, e, R, s, m, args, below, meth, c, rfl, ⟨hx, hb, hr, hml, hown, hlocks⟩, hts, hK, hI, hN, hZ, hst, hR, hT⟩ := C
  intro H locs ls hP hS hl
  have h6 : 6 * κ + 6 ≤ 6 * k := by have := hR0.2.2; omega
  refine vx_throw0 hx hb hst hown G.1 G.2.1 (hts _ G.2.2.1) (hts _ G.2.2.2.1) (fun w hw => ?_) G.2.2.2.2.2 hZ.1 hZ.2 hS (by rw [hml]; exact hl.1) d0 d3 d4 d7 (fun x hx => (hT x hx).elim) (by rw [hR.1]; exact hR0.1) (by rw [hR.2.1]; exact hR0.2.1) (by rw [hR.2.2.1]; exact hR0.2.2) (by rw [hR.2.2.2]; exact h6) hlocks (fun t hA h1 h2 => ⟨rfl, ?_⟩) hS.2.2 hR0.2.2 h6
  · rcases G.2.2.2.2.1 w hw with h | h
    · exact hts _ h
    · exact va_Nw.use (nw_tab w h) (hN w h)
  · refine ⟨⟨hP.kept (fun i q hq => h2 q.1 (hP i q hq).lt), va_K.moved hA hK, zq_kept (zq_moved hA hZ) (fun a h3 h4 => ?_)⟩, ?_, fun q h3 h4 => ?_⟩
    · rw [h2 a (Nat.lt_of_lt_of_le h3 hS.1)]
      exact hS.2.1 a h3 h4
    · exact Nat.le_trans hS.1 h1
    · rw [h2 q (Nat.lt_of_lt_of_le h3 hS.1)]
      exact hS.2.1 q h3 h4
end RC
