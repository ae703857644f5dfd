def va_AOA (t : FieldType) (U : State) : Prop := (Cond.arrayOver (.array t)).before #[] U = true
theorem va_AOA.use {t : FieldType} {A : Array Value} {U : State} (h : va_AOA t U) : (Cond.arrayOver (.array t)).before A U = true := h
theorem va_AOA.moved {t : FieldType} {u U : State} (hvm : u.vm.Alike U.vm) (h : va_AOA t u) : va_AOA t U := by
  unfold va_AOA at h ⊢
  simp only [Cond.before, Cond.holds, Cond.value] at h ⊢
  rw [hvm.findClass]
  cases hf : u.vm.findClass (FieldType.array t).toString with
  | none => rw [hf] at h; simp at h
  | some comp =>
    rw [hf] at h
    simp only [Option.bind_some] at h ⊢
    rw [hvm.findIdx_congr _ (fun _ _ _ _ => rfl)]
    generalize hF : (u.vm.classes.findIdx? fun (x : Class) => match x.kind with | .array component _ => component == comp | _ => false) = fi at h ⊢
    cases fi with
    | none => simp at h
    | some c =>
      simp only [Option.bind_some] at h ⊢
      cases hk : u.vm.classes[c]? with
      | none => rw [hk] at h; simp at h
      | some k =>
        obtain ⟨k', hk', ek⟩ := hvm.2.2 _ _ hk
        rw [hk] at h
        rw [hk', hvm.findClass]
        have ekind : k'.kind = k.kind := by rw [ek]
        simp only [Option.map_some] at h ⊢
        rw [ekind]
        exact h
/-! ===== BEGIN new T[n][m]: the outer array a place, the inner ones among the pooled ===== -/
/-- f, but v at every address of l -/
def vr_up {α : Type} (f : Nat → α) (l : List Nat) (v : α) : Nat → α := fun a => if a ∈ l then v else f a
theorem vr_up_in {α : Type} {f : Nat → α} {l : List Nat} {v : α} {a : Nat} (h : a ∈ l) : vr_up f l v a = v := if_pos h
theorem vr_up_ne {α : Type} {f : Nat → α} {l : List Nat} {v : α} {a : Nat} (h : a ∉ l) : vr_up f l v a = f a := if_neg h
theorem vr_rows {L l : List Nat} {f : Nat → va_E} {e : va_E} (h : ∀ a, a ∈ l → a ∉ L) : va_pl L f ++ l.map (fun a => (a, e)) = va_pl (L ++ l) (vr_up f l e) := by
  unfold va_pl
  rw [List.map_append]
  congr 1
  · apply List.map_congr_left
    intro a ha
    rw [vr_up_ne (fun q => h a q ha)]
  · apply List.map_congr_left
    intro a ha
    rw [vr_up_in ha]
theorem vr_lay {X rows : va_W} {x : Nat × va_E} {pl : va_W} {D : va_G} {cl : List vw_C} {H : Heap} (hP : va_P D cl (((X ++ pl) ++ [x]) ++ rows) H) : va_P D cl ((X ++ [x]) ++ (pl ++ rows)) H := by
  rw [List.append_assoc (X ++ pl)] at hP
  have h := va_P.swap hP
  rw [← List.append_assoc X] at h
  have h2 := va_P.swap h
  rw [List.append_assoc (X ++ [x])] at h2
  exact h2
theorem vr_layD {X rows : va_W} {x : Nat × va_E} {pl : va_W} {A : Nat → Prop} (hD : va_D A (((X ++ pl) ++ [x]) ++ rows)) : va_D A ((X ++ [x]) ++ (pl ++ rows)) := by
  rw [List.append_assoc (X ++ pl)] at hD
  have h := va_D.swap hD
  rw [← List.append_assoc X] at h
  have h2 := va_D.swap h
  rw [List.append_assoc (X ++ [x])] at h2
  exact h2
theorem vr_outer (c : ClassId) (N h0 : Nat) : ∀ i : Nat, Jvm.Free.Multi.outerC c N h0 i = arrV c N (fun j => va_rf (if j < i then some (h0 + 1 + j) else none))
  | 0 => by
    show ({ cls := c, slots := Array.replicate N .null, vm := .none } : Cell) = _
    rw [arrV_new]
    refine congrArg (arrV c N) (funext fun j => ?_)
    simp [va_rf]
  | i + 1 => by
    show (Jvm.Free.Multi.outerC c N h0 i).setSlot i (.ref (h0 + 1 + i)) = _
    rw [vr_outer c N h0 i, arrV_store]
    refine congrArg (arrV c N) (funext fun j => ?_)
    by_cases e : j = i
    · subst e
      simp [updV, va_rf]
    · by_cases h : j < i
      · simp [updV, e, h, Nat.lt_succ_of_lt h]
      · simp [updV, e, h, show ¬ j < i + 1 by omega]
section VGM
variable {p : Program} {l : Launch} {e : Env} {R : Room} {s : State} {m : MethodId} {args : Array Value} {below : List Frame} {meth : Method} {c : Code} {H : Heap} {locs : List Loc} {cells slots : Nat} {Q : State → Prop}
variable {cc : ByteArray} {pc : Nat} {ls : Array Slot} {rest : List Value} {D : va_G} {cl : List vw_C} {A : Nat → Prop} {a : Nat} {tys : List (ClassId × FieldType)} {ws : va_W} {H0 : Heap}
theorem va_mna {X : va_W} {L : List Nat} {f : Nat → va_E} {cc : ByteArray} (hexec : p.tables.exec = Jvm.exec) (hb : c.code = cc) {own : String} {index : Nat} {ty : FieldType} {cy : ClassId} (hown : s.vm.findClass own = some m.cls) (hclink : (Cond.classLink own index ("[" ++ (FieldType.array ty).toString)).before args s = true) (hover : va_AOA ty s) (harr : (Cond.arrayClass ty).before args s = true) (hcy : s.vm.findClass (FieldType.array ty).toString = some cy)
    (hK : va_K D cl tys s) (hP : va_P D cl (X ++ va_pl L f) H) (hD : va_D A (X ++ va_pl L f)) (hS : va_S A H0 H locs) (hA : ∀ q, H0.size ≤ q → A q) {n k : Int32} {N' K' : Nat} {z : vp_A} (hn : ¬ n < 0) (hk : ¬ k < 0) (hN : n.toNatClampNeg = N') (hM : k.toNatClampNeg = K')
    (hb1 : N' * 4 ≤ 536870912) (hb2 : K' * componentBytes ty ≤ 536870912) (hb3 : K' ≤ 536870912) (hdf : fits ty (defaultValue ty) = true) (hdd : (defaultValue ty).isDefault = true) (hcells : cells + (1 + N') ≤ R.cells) (hslots : slots + (N' + N' * K') ≤ R.slots) (hz : ∀ c : ClassId, Jvm.Free.Multi.innerC c K' (defaultValue ty) = vp_cell c z) (hdg : decode cc pc = .ok (.multianewarray index 2, 4))
    (kk : ∀ (q : Nat) (r : Nat → Nat) (cA : ClassId) (H1 : Heap), (∀ i j : Nat, i < N' → j < N' → r i = r j → i = j) → (∀ i : Nat, i < N' → r i ∉ L) → va_K D cl (tys ++ [(cA, .array ty)]) s →
      va_P D cl ((X ++ [(q, .inl (cA, N', .inr (.inr (.inr (.inr (fun i => if i < N' then some (r i) else none))))))]) ++ va_pl (L ++ (List.range N').map r) (vr_up f ((List.range N').map r) (.inl (cy, z)))) H1 → va_D A ((X ++ [(q, .inl (cA, N', .inr (.inr (.inr (.inr (fun i => if i < N' then some (r i) else none))))))]) ++ va_pl (L ++ (List.range N').map r) (vr_up f ((List.range N').map r) (.inl (cy, z)))) → va_S A H0 H1 locs →
      W p l e R s m args below meth c H1 locs (cells + 1 + N') (slots + N' + N' * K') Q (F0 m (pc + 4) ls (.ref q :: rest))) : W p l e R s m args below meth c H locs cells slots Q (F0 m pc ls (.int k :: .int n :: rest)) := by
  subst hN
  subst hM
  intro T hT Xs
  obtain ⟨vm₁, cA, comp, -, fA, fC, hO, -, X', step⟩ := Xs.multianewarray2F hexec hown hclink (va_AOA.use hover) harr (g := F0 m pc ls (.int k :: .int n :: rest)) rfl (by rw [hb]; exact hdg) rfl hn hk hb1 hb2 hb3 hdf hdd hcells hslots
  have ec : some cy = some comp := hcy.symm.trans fC
  cases ec
  generalize hF : Jvm.Free.Multi.fill (T.setVm vm₁) cA cy n.toNatClampNeg k.toNatClampNeg (defaultValue ty) n.toNatClampNeg = F at X' step
  have hTh : (T.setVm vm₁).heap = H := hT
  obtain ⟨f1, f2, -, -⟩ := Jvm.Free.Multi.fill_facts (T.setVm vm₁) cA cy n.toNatClampNeg k.toNatClampNeg (defaultValue ty) n.toNatClampNeg
  rw [hF, hTh] at f1 f2
  have hold : ∀ x : Nat, x < H.size → F.heap[x]? = H[x]? := fun x hx => by
    have := Jvm.Free.Multi.fill_old (T.setVm vm₁) cA cy n.toNatClampNeg k.toNatClampNeg (defaultValue ty) (a := x) (by rw [hTh]; exact hx) n.toNatClampNeg
    rw [hF, hTh] at this
    exact this
  have hrow : ∀ j : Nat, j < n.toNatClampNeg → F.heap[H.size + 1 + j]? = some (vp_cell cy z) := fun j hj => by
    have := Jvm.Free.Multi.fill_inner (T.setVm vm₁) cA cy n.toNatClampNeg k.toNatClampNeg (defaultValue ty) n.toNatClampNeg j hj
    rw [hF, hTh, hz] at this
    exact this
  have hout : Jvm.Free.Multi.outerC cA n.toNatClampNeg H.size n.toNatClampNeg = vp_cell cA (n.toNatClampNeg, .inr (.inr (.inr (.inr (fun i => if i < n.toNatClampNeg then some (H.size + 1 + i) else none))))) := by
    rw [vp_cell_q]
    exact vr_outer cA n.toNatClampNeg H.size n.toNatClampNeg
  rw [hout] at f2
  have hlt : ∀ a, a ∈ L → a < H.size := fun a ha => by
    obtain ⟨k9, hk9⟩ := va_pl_get (X := X) (f := f) ha
    exact (hP k9 _ hk9).lt
  have hnl : ∀ i : Nat, i < n.toNatClampNeg → H.size + 1 + i ∉ L := fun i _ h => by
    have := hlt _ h
    omega
  have hnm : ∀ a, a ∈ (List.range n.toNatClampNeg).map (fun i => H.size + 1 + i) → a ∉ L := fun a ha h => by
    obtain ⟨i, -, rfl⟩ := List.mem_map.mp ha
    have := hlt _ h
    omega
  have hP0 : va_P D cl (X ++ va_pl L f) F.heap := hP.kept (fun k9 x hx => hold x.1 ((hP k9 x hx).lt))
  have hP1 : va_P D cl ((X ++ va_pl L f) ++ [(H.size, .inl (cA, n.toNatClampNeg, .inr (.inr (.inr (.inr (fun i => if i < n.toNatClampNeg then some (H.size + 1 + i) else none))))))]) F.heap := hP0.app (fun k9 x hx => by
    have h0 : k9 < 1 := (List.getElem?_eq_some_iff.mp hx).1
    rw [show k9 = 0 by omega] at hx
    cases hx
    exact f2)
  have hP2 : va_P D cl (((X ++ va_pl L f) ++ [(H.size, .inl (cA, n.toNatClampNeg, .inr (.inr (.inr (.inr (fun i => if i < n.toNatClampNeg then some (H.size + 1 + i) else none))))))]) ++ ((List.range n.toNatClampNeg).map (fun i => H.size + 1 + i)).map (fun a => (a, .inl (cy, z)))) F.heap := hP1.app (fun k9 x hx => by
    obtain ⟨a, ha, rfl⟩ := List.mem_map.mp (List.mem_of_getElem? hx)
    obtain ⟨i, hi, rfl⟩ := List.mem_map.mp ha
    exact hrow i (List.mem_range.mp hi))
  have hD2 : va_D A (((X ++ va_pl L f) ++ [(H.size, .inl (cA, n.toNatClampNeg, .inr (.inr (.inr (.inr (fun i => if i < n.toNatClampNeg then some (H.size + 1 + i) else none))))))]) ++ ((List.range n.toNatClampNeg).map (fun i => H.size + 1 + i)).map (fun a => (a, .inl (cy, z)))) := by
    have hD1 := hD.push (e := .inl (cA, n.toNatClampNeg, .inr (.inr (.inr (.inr (fun i => if i < n.toNatClampNeg then some (H.size + 1 + i) else none)))))) hP rfl (hA _ hS.1)
    generalize hW1 : (X ++ va_pl L f) ++ [(H.size, .inl (cA, n.toNatClampNeg, .inr (.inr (.inr (.inr (fun i => if i < n.toNatClampNeg then some (H.size + 1 + i) else none))))))] = W1 at hD1 hP1 ⊢
    have hle : ∀ (k9 : Nat) (x : Nat × va_E), W1[k9]? = some x → x.1 ≤ H.size := fun k9 x hx => by
      rw [← hW1] at hx
      by_cases hl : k9 < (X ++ va_pl L f).length
      · rw [List.getElem?_append_left hl] at hx
        exact Nat.le_of_lt ((hP k9 x hx).lt)
      · rw [List.getElem?_append_right (by omega)] at hx
        have h0 : k9 - (X ++ va_pl L f).length < 1 := (List.getElem?_eq_some_iff.mp hx).1
        rw [show k9 - (X ++ va_pl L f).length = 0 by omega] at hx
        cases hx
        exact Nat.le_refl _
    have hr : ∀ (k9 : Nat) (x : Nat × va_E), (((List.range n.toNatClampNeg).map (fun i => H.size + 1 + i)).map (fun a => ((a, .inl (cy, z)) : Nat × va_E)))[k9]? = some x → x.1 = H.size + 1 + k9 := fun k9 x hx => by
      rw [List.getElem?_map, List.getElem?_map] at hx
      by_cases h9 : k9 < n.toNatClampNeg
      · rw [List.getElem?_range h9] at hx
        cases hx
        rfl
      · have hn0 : (List.range n.toNatClampNeg)[k9]? = none := List.getElem?_eq_none (by rw [List.length_range]; omega)
        rw [hn0] at hx
        cases hx
    refine ⟨fun i j x y hi hj hxy => ?_, fun k9 x hx => ?_⟩
    · by_cases h1 : i < W1.length <;> by_cases h2 : j < W1.length
      · rw [List.getElem?_append_left h1] at hi
        rw [List.getElem?_append_left h2] at hj
        exact hD1.1 i j x y hi hj hxy
      · rw [List.getElem?_append_left h1] at hi
        rw [List.getElem?_append_right (by omega)] at hj
        have := hle _ _ hi
        have := hr _ _ hj
        omega
      · rw [List.getElem?_append_right (by omega)] at hi
        rw [List.getElem?_append_left h2] at hj
        have := hle _ _ hj
        have := hr _ _ hi
        omega
      · rw [List.getElem?_append_right (by omega)] at hi hj
        have := hr _ _ hi
        have := hr _ _ hj
        omega
    · by_cases h1 : k9 < W1.length
      · rw [List.getElem?_append_left h1] at hx
        exact hD1.2 k9 x hx
      · rw [List.getElem?_append_right (by omega)] at hx
        have := hr _ _ hx
        exact hA _ (by have := hS.1; omega)
  have hAr : ArrOfT s cA (.array ty) := fun N9 z9 => by
    obtain ⟨-, k9, hk9, cm9, hkk9⟩ := (hO 0 0 0).1
    exact ⟨(fun q hq => by cases hq), k9, hk9, cm9, hkk9⟩
  have hK2 : va_K D cl (tys ++ [(cA, .array ty)]) s := ⟨hK.1, fun k9 x hx => by
    by_cases hl : k9 < tys.length
    · rw [List.getElem?_append_left hl] at hx
      exact hK.2 k9 x hx
    · rw [List.getElem?_append_right (by omega)] at hx
      have h0 : k9 - tys.length < 1 := (List.getElem?_eq_some_iff.mp hx).1
      rw [show k9 - tys.length = 0 by omega] at hx
      cases hx
      exact ⟨hAr, fA⟩⟩
  obtain ⟨t, a1, b1⟩ := kk H.size (fun i => H.size + 1 + i) cA F.heap (fun i j _ _ h => by have h9 : H.size + 1 + i = H.size + 1 + j := h; omega) hnl hK2 (by rw [← vr_rows hnm]; exact vr_lay hP2) (by rw [← vr_rows hnm]; exact vr_layD hD2) ⟨by rw [f1]; have := hS.1; omega, fun x h1 h2 => (hold x (Nat.lt_of_lt_of_le h1 hS.1)).trans (hS.2.1 x h1 h2), hS.2.2⟩ F rfl X'
  refine ⟨t, step t ?_, b1⟩
  have e : T.heap.size = H.size := by rw [hT]
  rw [e]
  exact a1
end VGM
/-! ===== END ===== -/
/-! THE CONSTRUCTORS (by program): CV ws cl sl pc lv st: from here, with the cells ws, cl cells of sl places made, the constructor comes to its end -/
def cwL : List Cond := [.methodLinkNest RX9 11 yX4_init RX9, .methodLinkNest RX1 24 yX4_init RX9, .methodLinkNest RX9 28 yX5_init RX9, .methodLinkNest RX9 35 yX8_init RX9, .methodLinkNest RX8 25 yX3_init RX9, .methodLinkNest RX8 32 yX6_init RX9, .methodLinkNest RX9 42 yX7_init RX9, .methodLinkNest RX9 49 yX2_init RX9, .methodLinkNest RX9 56 yX0_init RX9]
def CW (U : State) : Prop := (∀ w ∈ cwL, va_Nw w U) ∧ va_AO "TabuSolver$Problem" U ∧ va_AOA .int U
theorem cw_tab : ∀ w ∈ cwL, w.onTables = true := by decide +kernel
theorem cw_warm {s U : State} (hW : s.WarmedH U.vm) (h : CW s) : CW U := by
  refine ⟨fun w hw => ?_, h.2.1.moved hW.alike, h.2.2.moved hW.alike⟩
  have h0 := h.1 w hw
  simp only [cwL, List.mem_cons, List.not_mem_nil, or_false] at hw
  rcases hw with rfl | rfl | rfl | rfl | rfl | rfl | rfl | rfl | rfl
  · exact va_Nw.warmM hW h0
  · exact va_Nw.warmM hW h0
  · exact va_Nw.warmM hW h0
  · exact va_Nw.warmM hW h0
  · exact va_Nw.warmM hW h0
  · exact va_Nw.warmM hW h0
  · exact va_Nw.warmM hW h0
  · exact va_Nw.warmM hW h0
  · exact va_Nw.warmM hW h0
theorem cw_same {u U : State} (h : u.vm = U.vm) (hN : CW u) : CW U := ⟨fun w hw => va_Nw.same (cw_tab w hw) h (hN.1 w hw), hN.2.1.moved (h ▸ Vm.Alike.refl u.vm), hN.2.2.moved (h ▸ Vm.Alike.refl u.vm)⟩
def CI (l : Launch) (D : va_G) (cy : Nat → ClassId) (y : MethodName) (cc : ByteArray) (nL fr lo mc ms h0 sz ci : Nat) (fs0 : List Value) (post : va_W → Prop) : Prop :=
  Met l y (.code y cc nL none :: AW) ({ frames := fr, cells := mc, slots := ms, locals := lo }) (va_Pc [.ref h0] (fun U => U.heap.size = sz ∧ va_P D wCl [(h0, .inr (ci, fs0))] U.heap ∧ va_K D wCl (tyL cy) U ∧ CW U)) (fun _ st oc t => (oc = .returned none ∧ ∃ ws1, post ws1 ∧ va_P D wCl ws1 t.heap ∧ va_D (va_A [(h0, .inr (ci, fs0))] sz) ws1) ∧ va_F (va_A [(h0, .inr (ci, fs0))] sz) st t) mc ms (va_A [(h0, .inr (ci, fs0))] sz)
theorem ci_blind {D : va_G} {cy : Nat → ClassId} {h0 sz ci : Nat} {fs0 : List Value} : FrameBlind (va_Pc [.ref h0] (fun U => U.heap.size = sz ∧ va_P D wCl [(h0, .inr (ci, fs0))] U.heap ∧ va_K D wCl (tyL cy) U ∧ CW U)) := by
  intro a U g mk h
  obtain ⟨h1, h2, hP, hK, hC⟩ := h
  exact ⟨h1, h2, hP, va_K.moved (u := U) (U := U.calling g mk a) (Vm.Alike.refl U.vm) hK, cw_same (u := U) (U := U.calling g mk a) rfl hC⟩
abbrev Ct : Type := va_W → Nat → Nat → Nat → List (Nat × Value) → List Value → Prop
def CVV (p : Program) (l : Launch) (e : Env) (R : Room) (s : State) (m : MethodId) (args : Array Value) (below : List Frame) (meth : Method) (c : Code) (D : va_G) (nL : Nat) (A : Nat → Prop) (Q : State → Prop) : Ct := fun ws cl sl pc lv st =>
  ∀ (H : Heap) (locs : List Loc) (ls : Array Slot), va_P D wCl ws H → va_D A ws → va_S A s.heap H locs → lv_has ls nL lv → W p l e R s m args below meth c H locs cl sl Q (F0 m pc ls st)
def Rc (l : Launch) (D : va_G) (cy : Nat → ClassId) (own : String) (cc : ByteArray) (nL fr lo kc ks : Nat) (E : Program → Env → Room → State → MethodId → Array Value → List Frame → Method → Code → (Nat → Prop) → (State → Prop) → Prop) (V : Ct) : Prop :=
  ∃ (p : Program) (e : Env) (R : Room) (s : State) (m : MethodId) (args : Array Value) (below : List Frame) (meth : Method) (c : Code) (A : Nat → Prop) (Q : State → Prop),
    V = CVV p l e R s m args below meth c D nL A Q ∧ E p e R s m args below meth c A Q ∧
    (p.tables.exec = Jvm.exec ∧ c.code = cc ∧ c.maxLocals = nL ∧ s.vm.findClass own = some m.cls ∧ meth.locks = false) ∧
    (∀ w ∈ AW, w.before args s = true) ∧ va_K D wCl (tyL cy) s ∧ CW s ∧ (∀ q : Nat, s.heap.size ≤ q → A q) ∧ (R.frames = fr ∧ R.locals = lo ∧ kc ≤ R.cells ∧ ks ≤ R.slots)
abbrev Et : Type := Program → Env → Room → State → MethodId → Array Value → List Frame → Method → Code → (Nat → Prop) → (State → Prop) → Prop
def EC (l : Launch) (D : va_G) (h0 sz ci mc ms : Nat) (fs0 : List Value) (post : va_W → Prop) : Et := fun _ _ _ s _ args below meth _ A Q => A = va_A [(h0, .inr (ci, fs0))] sz ∧ meth.name = "<init>" ∧ meth.sig.returnType = none ∧
  Q = MQ below (fun _ st oc t => (oc = .returned none ∧ ∃ ws1, post ws1 ∧ va_P D wCl ws1 t.heap ∧ va_D (va_A [(h0, .inr (ci, fs0))] sz) ws1) ∧ va_F (va_A [(h0, .inr (ci, fs0))] sz) st t) args s mc ms (va_A [(h0, .inr (ci, fs0))] sz)
theorem ci_of {l : Launch} {D : va_G} {cy : Nat → ClassId} {y : MethodName} {cc : ByteArray} {nL fr lo mc ms h0 sz ci : Nat} {fs0 : List Value} {post : va_W → Prop} (hy : plainName y.cls = true) (hn : y.name = "<init>") (h1 : 1 ≤ nL)
    (body : ∀ V : Ct, Rc l D cy y.cls cc nL fr lo mc ms (EC l D h0 sz ci mc ms fs0 post) V → V [(h0, .inr (ci, fs0))] 0 0 0 [(0, .ref h0)] []) : CI l D cy y cc nL fr lo mc ms h0 sz ci fs0 post := by
  refine Met.ofW (cc := cc) (maxL := nL) (ret := none) hy rfl ?_
  intro p e s m args below meth c s₁ B hml hv
  obtain ⟨rfl, hsz, hP, hK, hC⟩ := hv
  have hts := atoms_spec (ws := .code y cc nL none :: AW) B.pre
  have hin : meth.name = "<init>" := (name_of_methodNamed B.named B.method).1.trans hn
  have hA : ∀ q : Nat, s.heap.size ≤ q → va_A [(h0, .inr (ci, fs0))] sz q := fun q h => Or.inr (by rw [← hsz]; exact h)
  have hl := lv_entry ([.ref h0]) (n := nL) h1
  have hB := body _ ⟨p, e, (headSpec (.code y cc nL none :: AW) { frames := fr, cells := mc, slots := ms, locals := lo }).room, s, m, _, below, meth, c, va_A [(h0, .inr (ci, fs0))] sz, _, rfl, ⟨rfl, hin, B.returns, rfl⟩, ⟨B.exec, B.bytes, hml, findClass_of_methodNamed B.named, B.notSynchronized⟩, fun w hw => hts w (List.mem_cons_of_mem _ hw), hK, hC, hA, ⟨rfl, rfl, Nat.le_refl _, Nat.le_refl _⟩⟩
  rw [lg_entry_eq]
  refine hB s.heap [] _ hP ⟨fun i j p q hi hj _ => ?_, fun k q hk => va_A.in hk⟩ va_S.rf hl
  have h3 : i < 1 := (List.getElem?_eq_some_iff.mp hi).1
  have h4 : j < 1 := (List.getElem?_eq_some_iff.mp hj).1
  omega
theorem ra_same {U : State} {c1 c2 : ClassId} {ty : FieldType} (hne : ∀ C, ty ≠ .object C) (h1 : va_RA U c1 ty) (h2 : va_RA U c2 ty) : c1 = c2 := by
  cases ty with
  | object C => exact absurd rfl (hne C)
  | _ => exact Option.some.inj (h1.symm.trans h2)
theorem ra_sameO {U : State} {c1 c2 : ClassId} {C : String} (h1 : va_RA U c1 (.object C)) (h2 : va_RA U c2 (.object C)) : c1 = c2 := by
  obtain ⟨_, _, _, _, _, h1⟩ := h1
  obtain ⟨_, _, _, _, _, h2⟩ := h2
  exact Option.some.inj (h1.symm.trans h2)
section RCS
variable {l : Launch} {D : va_G} {cy : Nat → ClassId} {own : String} {cc : ByteArray} {nL fr lo kc ks : Nat} {E : Et} {V : Ct} {ws : va_W} {cl sl pc : Nat} {lv : List (Nat × Value)} {st : List Value}
theorem rc_iconst (C : Rc l D cy own cc nL fr lo kc ks E V) {n : Int} {v : Int32} (hv : Int32.ofInt n = v) (d : decode cc pc = .ok (.iconst n, 1)) (K : V ws cl sl (pc + 1) lv (.int v :: st)) : V ws cl sl pc lv st := by
  obtain ⟨p, e, R, s, m, args, below, meth, c, A, Q, rfl, hE, ⟨hx, hb, hml, hown, hlocks⟩, hts, hK, hC, hA, hR⟩ := C
  intro H locs ls hP hD hS hl
  exact lv_iconst hx hb d hv (K H locs ls hP hD hS hl)
theorem rc_bipush (C : Rc l D cy own cc nL fr lo kc ks E V) {n : Int} {v : Int32} (hv : (Int8.ofInt n).toInt32 = v) (d : decode cc pc = .ok (.bipush n, 2)) (K : V ws cl sl (pc + 2) lv (.int v :: st)) : V ws cl sl pc lv st := by
  obtain ⟨p, e, R, s, m, args, below, meth, c, A, Q, rfl, hE, ⟨hx, hb, hml, hown, hlocks⟩, hts, hK, hC, hA, hR⟩ := C
  intro H locs ls hP hD hS hl
  exact lv_bipush hx hb d hv (K H locs ls hP hD hS hl)
theorem rc_sipush (C : Rc l D cy own cc nL fr lo kc ks E V) {n : Int} {v : Int32} (hv : (Int16.ofInt n).toInt32 = v) (d : decode cc pc = .ok (.sipush n, 3)) (K : V ws cl sl (pc + 3) lv (.int v :: st)) : V ws cl sl pc lv st := by
  obtain ⟨p, e, R, s, m, args, below, meth, c, A, Q, rfl, hE, ⟨hx, hb, hml, hown, hlocks⟩, hts, hK, hC, hA, hR⟩ := C
  intro H locs ls hP hD hS hl
  exact lv_sipush hx hb d hv (K H locs ls hP hD hS hl)
theorem rc_aload_n (C : Rc l D cy own cc nL fr lo kc ks E V) {i : Fin 4} {q : Nat} (d : decode cc pc = .ok (.aload_n i, 1)) (j : Nat) (hq : lv[j]? = some ((i : Nat), .ref q)) (K : V ws cl sl (pc + 1) lv (.ref q :: st)) : V ws cl sl pc lv st := by
  obtain ⟨p, e, R, s, m, args, below, meth, c, A, Q, rfl, hE, ⟨hx, hb, hml, hown, hlocks⟩, hts, hK, hC, hA, hR⟩ := C
  intro H locs ls hP hD hS hl
  exact lv_aload_n hx hb d rfl (lv_at hl j hq) (K H locs ls hP hD hS hl)
theorem rc_iload_n (C : Rc l D cy own cc nL fr lo kc ks E V) {i : Fin 4} {x : Int32} (d : decode cc pc = .ok (.iload_n i, 1)) (j : Nat) (hq : lv[j]? = some ((i : Nat), .int x)) (K : V ws cl sl (pc + 1) lv (.int x :: st)) : V ws cl sl pc lv st := by
  obtain ⟨p, e, R, s, m, args, below, meth, c, A, Q, rfl, hE, ⟨hx, hb, hml, hown, hlocks⟩, hts, hK, hC, hA, hR⟩ := C
  intro H locs ls hP hD hS hl
  exact lv_iload_n hx hb d rfl (lv_at hl j hq) (K H locs ls hP hD hS hl)
theorem rc_istore_n (C : Rc l D cy own cc nL fr lo kc ks E V) {i : Fin 4} {x : Int32} (lv2 : List (Nat × Value)) (hi : (i : Nat) < nL) (d : decode cc pc = .ok (.istore_n i, 1)) (h2 : ((i : Nat), Value.int x) :: lv.filter (fun q => !(q.1 == (i : Nat)) && !(q.1 + 1 == (i : Nat) && q.2.category == 2)) = lv2) (K : V ws cl sl (pc + 1) lv2 st) : V ws cl sl pc lv (.int x :: st) := by
  obtain ⟨p, e, R, s, m, args, below, meth, c, A, Q, rfl, hE, ⟨hx, hb, hml, hown, hlocks⟩, hts, hK, hC, hA, hR⟩ := C
  intro H locs ls hP hD hS hl
  exact lv_istore_n hx hb d rfl hl hi h2 (fun ls2 hl2 => K H locs ls2 hP hD hS hl2)
theorem rc_iinc (C : Rc l D cy own cc nL fr lo kc ks E V) {i j : Nat} {n : Int} {x v : Int32} (lv2 : List (Nat × Value)) (hv : x + Int32.ofInt n = v) (hi : i < nL) (d : decode cc pc = .ok (.iinc i n, 3)) (hq : lv[j]? = some (i, .int x)) (h2 : (i, Value.int v) :: lv.filter (fun q => !(q.1 == i) && !(q.1 + 1 == i && q.2.category == 2)) = lv2) (K : V ws cl sl (pc + 3) lv2 st) : V ws cl sl pc lv st := by
  obtain ⟨p, e, R, s, m, args, below, meth, c, A, Q, rfl, hE, ⟨hx, hb, hml, hown, hlocks⟩, hts, hK, hC, hA, hR⟩ := C
  intro H locs ls hP hD hS hl
  exact lv_iinc hx hb d hl hq hv hi h2 (fun ls2 hl2 => K H locs ls2 hP hD hS hl2)
theorem rc_icge_f (C : Rc l D cy own cc nL fr lo kc ks E V) {x y : Int32} {off : Int} {tgt : Nat} (h : ¬ y ≤ x) (ht : (pc : Int) + off = (tgt : Int)) (d : decode cc pc = .ok (.if_icmp .ge off, 3)) (K : V ws cl sl (pc + 3) lv st) : V ws cl sl pc lv (.int y :: .int x :: st) := by
  obtain ⟨p, e, R, s, m, args, below, meth, c, A, Q, rfl, hE, ⟨hx, hb, hml, hown, hlocks⟩, hts, hK, hC, hA, hR⟩ := C
  intro H locs ls hP hD hS hl
  exact lv_icmp_ge hx hb d ht (fun q => absurd q h) (fun _ => K H locs ls hP hD hS hl)
theorem rc_icge_t (C : Rc l D cy own cc nL fr lo kc ks E V) {x y : Int32} {off : Int} {tgt : Nat} (h : y ≤ x) (ht : (pc : Int) + off = (tgt : Int)) (d : decode cc pc = .ok (.if_icmp .ge off, 3)) (K : V ws cl sl tgt lv st) : V ws cl sl pc lv (.int y :: .int x :: st) := by
  obtain ⟨p, e, R, s, m, args, below, meth, c, A, Q, rfl, hE, ⟨hx, hb, hml, hown, hlocks⟩, hts, hK, hC, hA, hR⟩ := C
  intro H locs ls hP hD hS hl
  exact lv_icmp_ge hx hb d ht (fun _ => K H locs ls hP hD hS hl) (fun q => absurd h q)
theorem rc_goto (C : Rc l D cy own cc nL fr lo kc ks E V) {off : Int} {tgt : Nat} (ht : (pc : Int) + off = (tgt : Int)) (d : decode cc pc = .ok (.goto off, 3)) (K : V ws cl sl tgt lv st) : V ws cl sl pc lv st := by
  obtain ⟨p, e, R, s, m, args, below, meth, c, A, Q, rfl, hE, ⟨hx, hb, hml, hown, hlocks⟩, hts, hK, hC, hA, hR⟩ := C
  intro H locs ls hP hD hS hl
  exact lv_goto hx hb d ht (K H locs ls hP hD hS hl)
theorem rc_dup (C : Rc l D cy own cc nL fr lo kc ks E V) {v : Value} (hv : v.category = 1) (d : decode cc pc = .ok (.dup, 1)) (K : V ws cl sl (pc + 1) lv (v :: v :: st)) : V ws cl sl pc lv (v :: st) := by
  obtain ⟨p, e, R, s, m, args, below, meth, c, A, Q, rfl, hE, ⟨hx, hb, hml, hown, hlocks⟩, hts, hK, hC, hA, hR⟩ := C
  intro H locs ls hP hD hS hl
  exact lv_dup hx hb d hv (K H locs ls hP hD hS hl)
theorem rc_objInit (C : Rc l D cy own cc nL fr lo kc ks E V) {index q : Nat} (hk : Cond.methodLink own index objectInit ∈ AW) (hi : Cond.instanceMethod objectInit ∈ AW ∧ Cond.code objectInit ⟨#[0xb1]⟩ 1 none ∈ AW) (hfr : 1 ≤ fr) (hlo : (st.map fun v => v.category).sum + 12 ≤ lo) (d : decode cc pc = .ok (.invokespecial index, 3)) (K : V ws cl sl (pc + 3) lv st) : V ws cl sl pc lv (.ref q :: st) := by
  obtain ⟨p, e, R, s, m, args, below, meth, c, A, Q, rfl, hE, ⟨hx, hb, hml, hown, hlocks⟩, hts, hK, hC, hA, hR⟩ := C
  intro H locs ls hP hD hS hl
  exact W.objInit hx hb hown (hts _ hk) (hts _ hi.1) (hts _ hi.2) rfl (by rw [hml]; exact hl.1) rfl d (by rw [hR.1]; exact hfr) (by rw [hR.2.1]; show 2 * 0 + _ + 12 ≤ lo; omega) (K H locs ls hP hD hS hl)
theorem rc_newa_i (C : Rc l D cy own cc nL fr lo kc ks E V) {n : Int32} (N9 : Nat) (hw : Cond.arrayClass .int ∈ AW) (hn : ¬ n < 0) (hN : n.toNatClampNeg = N9) (hby : N9 * componentBytes .int ≤ 536870912) (hc : cl + 1 ≤ kc) (hs : sl + N9 ≤ ks) (d : decode cc pc = .ok (.newarray .int, 2)) (K : ∀ q : Nat, V (ws ++ [(q, .inl (cy 0, N9, .inl (fun _ => 0)))]) (cl + 1) (sl + N9) (pc + 2) lv (.ref q :: st)) : V ws cl sl pc lv (.int n :: st) := by
  obtain ⟨p, e, R, s, m, args, below, meth, c, A, Q, rfl, hE, ⟨hx, hb, hml, hown, hlocks⟩, hts, hK, hC, hA, hR⟩ := C
  intro H locs ls hP hD hS hl
  refine va_newa (atype := .int) (ty := .int) (a0 := (N9, .inl (fun _ => 0))) hx hb (hts _ hw) rfl hK hP hD hS hA (fun cA => rfl) hn hN hby (Nat.le_trans hc hR.2.2.1) (Nat.le_trans hs hR.2.2.2) d (fun q cA H1 hK1 hP1 hD1 hS1 => ?_)
  have e1 : cA = cy 0 := ra_same (fun C h => by cases h) (hK1.2 7 _ rfl).2 (hK.2 0 _ rfl).2
  subst e1
  exact K q H1 locs ls hP1 hD1 hS1 hl
theorem rc_newa_c (C : Rc l D cy own cc nL fr lo kc ks E V) {n : Int32} (N9 : Nat) (hw : Cond.arrayClass .char ∈ AW) (hn : ¬ n < 0) (hN : n.toNatClampNeg = N9) (hby : N9 * componentBytes .char ≤ 536870912) (hc : cl + 1 ≤ kc) (hs : sl + N9 ≤ ks) (d : decode cc pc = .ok (.newarray .char, 2)) (K : ∀ q : Nat, V (ws ++ [(q, .inl (cy 1, N9, .inl (fun _ => 0)))]) (cl + 1) (sl + N9) (pc + 2) lv (.ref q :: st)) : V ws cl sl pc lv (.int n :: st) := by
  obtain ⟨p, e, R, s, m, args, below, meth, c, A, Q, rfl, hE, ⟨hx, hb, hml, hown, hlocks⟩, hts, hK, hC, hA, hR⟩ := C
  intro H locs ls hP hD hS hl
  refine va_newa (atype := .char) (ty := .char) (a0 := (N9, .inl (fun _ => 0))) hx hb (hts _ hw) rfl hK hP hD hS hA (fun cA => rfl) hn hN hby (Nat.le_trans hc hR.2.2.1) (Nat.le_trans hs hR.2.2.2) d (fun q cA H1 hK1 hP1 hD1 hS1 => ?_)
  have e1 : cA = cy 1 := ra_same (fun C h => by cases h) (hK1.2 7 _ rfl).2 (hK.2 1 _ rfl).2
  subst e1
  exact K q H1 locs ls hP1 hD1 hS1 hl
theorem rc_newa_z (C : Rc l D cy own cc nL fr lo kc ks E V) {n : Int32} (N9 : Nat) (hw : Cond.arrayClass .boolean ∈ AW) (hn : ¬ n < 0) (hN : n.toNatClampNeg = N9) (hby : N9 * componentBytes .boolean ≤ 536870912) (hc : cl + 1 ≤ kc) (hs : sl + N9 ≤ ks) (d : decode cc pc = .ok (.newarray .boolean, 2)) (K : ∀ q : Nat, V (ws ++ [(q, .inl (cy 2, N9, .inl (fun _ => 0)))]) (cl + 1) (sl + N9) (pc + 2) lv (.ref q :: st)) : V ws cl sl pc lv (.int n :: st) := by
  obtain ⟨p, e, R, s, m, args, below, meth, c, A, Q, rfl, hE, ⟨hx, hb, hml, hown, hlocks⟩, hts, hK, hC, hA, hR⟩ := C
  intro H locs ls hP hD hS hl
  refine va_newa (atype := .boolean) (ty := .boolean) (a0 := (N9, .inl (fun _ => 0))) hx hb (hts _ hw) rfl hK hP hD hS hA (fun cA => rfl) hn hN hby (Nat.le_trans hc hR.2.2.1) (Nat.le_trans hs hR.2.2.2) d (fun q cA H1 hK1 hP1 hD1 hS1 => ?_)
  have e1 : cA = cy 2 := ra_same (fun C h => by cases h) (hK1.2 7 _ rfl).2 (hK.2 2 _ rfl).2
  subst e1
  exact K q H1 locs ls hP1 hD1 hS1 hl
theorem rc_newa_J (C : Rc l D cy own cc nL fr lo kc ks E V) {n : Int32} (N9 : Nat) (hw : Cond.arrayClass .long ∈ AW) (hn : ¬ n < 0) (hN : n.toNatClampNeg = N9) (hby : N9 * componentBytes .long ≤ 536870912) (hc : cl + 1 ≤ kc) (hs : sl + N9 ≤ ks) (d : decode cc pc = .ok (.newarray .long, 2)) (K : ∀ q : Nat, V (ws ++ [(q, .inl (cy 5, N9, .inr (.inl (fun _ => 0))))]) (cl + 1) (sl + N9) (pc + 2) lv (.ref q :: st)) : V ws cl sl pc lv (.int n :: st) := by
  obtain ⟨p, e, R, s, m, args, below, meth, c, A, Q, rfl, hE, ⟨hx, hb, hml, hown, hlocks⟩, hts, hK, hC, hA, hR⟩ := C
  intro H locs ls hP hD hS hl
  refine va_newa (atype := .long) (ty := .long) (a0 := (N9, .inr (.inl (fun _ => 0)))) hx hb (hts _ hw) rfl hK hP hD hS hA (fun cA => rfl) hn hN hby (Nat.le_trans hc hR.2.2.1) (Nat.le_trans hs hR.2.2.2) d (fun q cA H1 hK1 hP1 hD1 hS1 => ?_)
  have e1 : cA = cy 5 := ra_same (fun C h => by cases h) (hK1.2 7 _ rfl).2 (hK.2 5 _ rfl).2
  subst e1
  exact K q H1 locs ls hP1 hD1 hS1 hl
theorem rc_newa_D (C : Rc l D cy own cc nL fr lo kc ks E V) {n : Int32} (N9 : Nat) (hw : Cond.arrayClass .double ∈ AW) (hn : ¬ n < 0) (hN : n.toNatClampNeg = N9) (hby : N9 * componentBytes .double ≤ 536870912) (hc : cl + 1 ≤ kc) (hs : sl + N9 ≤ ks) (d : decode cc pc = .ok (.newarray .double, 2)) (K : ∀ q : Nat, V (ws ++ [(q, .inl (cy 6, N9, .inr (.inr (.inr (.inl (fun _ => 0))))))]) (cl + 1) (sl + N9) (pc + 2) lv (.ref q :: st)) : V ws cl sl pc lv (.int n :: st) := by
  obtain ⟨p, e, R, s, m, args, below, meth, c, A, Q, rfl, hE, ⟨hx, hb, hml, hown, hlocks⟩, hts, hK, hC, hA, hR⟩ := C
  intro H locs ls hP hD hS hl
  refine va_newa (atype := .double) (ty := .double) (a0 := (N9, .inr (.inr (.inr (.inl (fun _ => 0)))))) hx hb (hts _ hw) rfl hK hP hD hS hA (fun cA => rfl) hn hN hby (Nat.le_trans hc hR.2.2.1) (Nat.le_trans hs hR.2.2.2) d (fun q cA H1 hK1 hP1 hD1 hS1 => ?_)
  have e1 : cA = cy 6 := ra_same (fun C h => by cases h) (hK1.2 7 _ rfl).2 (hK.2 6 _ rfl).2
  subst e1
  exact K q H1 locs ls hP1 hD1 hS1 hl
theorem rc_newq (C : Rc l D cy own cc nL fr lo kc ks E V) {n : Int32} {index : Nat} (N9 : Nat) (hk : Cond.classLink own index "TabuSolver$Problem" ∈ AW) (hn : ¬ n < 0) (hN : n.toNatClampNeg = N9) (hby : N9 * 4 ≤ 536870912) (hc : cl + 1 ≤ kc) (hs : sl + N9 ≤ ks) (d : decode cc pc = .ok (.anewarray index, 3)) (K : ∀ q : Nat, V (ws ++ [(q, .inl (cy 4, N9, .inr (.inr (.inr (.inr (fun _ => none))))))]) (cl + 1) (sl + N9) (pc + 3) lv (.ref q :: st)) : V ws cl sl pc lv (.int n :: st) := by
  obtain ⟨p, e, R, s, m, args, below, meth, c, A, Q, rfl, hE, ⟨hx, hb, hml, hown, hlocks⟩, hts, hK, hC, hA, hR⟩ := C
  intro H locs ls hP hD hS hl
  refine va_newq hx hb hown (hts _ hk) hC.2.1 hK hP hD hS hA hn hN hby (Nat.le_trans hc hR.2.2.1) (Nat.le_trans hs hR.2.2.2) d (fun q cA H1 hK1 hP1 hD1 hS1 => ?_)
  have e1 : cA = cy 4 := ra_sameO (hK1.2 7 _ rfl).2 (hK.2 4 _ rfl).2
  subst e1
  exact K q H1 locs ls hP1 hD1 hS1 hl
theorem rc_astq (C : Rc l D cy own cc nL fr lo kc ks E V) {a v : Nat} {i : Int32} (q0 qk n9 : Nat) {ci : Nat} {r : vw_C} {vs : List Value} {f : Nat → Option Nat} (ha : ws[q0]? = some (a, .inl (cy 4, n9, .inr (.inr (.inr (.inr f)))))) (hv : ws[qk]? = some (v, .inr (ci, vs))) (hc : wCl[ci]? = some r) (hr : r.1 = "TabuSolver$Problem") (hin : vp_in i n9) (d : decode cc pc = .ok (.aastore, 1)) (ws2 : va_W) (h2 : ws.set q0 (a, .inl (cy 4, n9, .inr (.inr (.inr (.inr (va_up f i.toNatClampNeg (some v))))))) = ws2) (K : V ws2 cl sl (pc + 1) lv st) : V ws cl sl pc lv (.ref v :: .int i :: .ref a :: st) := by
  obtain ⟨p, e, R, s, m, args, below, meth, c, A, Q, rfl, hE, ⟨hx, hb, hml, hown, hlocks⟩, hts, hK, hC, hA, hR⟩ := C
  intro H locs ls hP hD hS hl
  subst h2
  exact va_astq hx hb hK hP hD hS q0 4 qk ci ha (by rw [hr]; rfl) hv hc hin d (fun H1 locs1 hP1 hD1 hS1 => K H1 locs1 ls hP1 hD1 hS1 hl)
theorem rc_new (C : Rc l D cy own cc nL fr lo kc ks E V) {ci N index : Nat} {CC : String} {T : u_T} {ty : Nat → FieldType} (KK : cK ci CC T N ty) (fs : List Value) (hk : Cond.classLink own index CC ∈ AW) (hi : Cond.instantiable CC N ∈ AW ∧ Cond.initialized CC ∈ AW) (hfs : ∀ j, j < N → defaultValue (ty j) = vp_V fs j) (hc : cl + 1 ≤ kc) (hs : sl + N ≤ ks) (d : decode cc pc = .ok (.new index, 3)) (K : ∀ q : Nat, V (ws ++ [(q, .inr (ci, fs))]) (cl + 1) (sl + N) (pc + 3) lv (.ref q :: st)) : V ws cl sl pc lv st := by
  obtain ⟨p, e, R, s, m, args, below, meth, c, A, Q, rfl, hE, ⟨hx, hb, hml, hown, hlocks⟩, hts, hK, hC, hA, hR⟩ := C
  intro H locs ls hP hD hS hl
  exact va_new hx hb hts KK.2.1 ty KK.2.2.2 hown (hts _ hk) (hts _ hi.1) (hts _ hi.2) hK hP hD hS hA KK.1 hfs (Nat.le_trans hc hR.2.2.1) (Nat.le_trans hs hR.2.2.2) d (fun q H1 hP1 hD1 hS1 => K q H1 locs ls hP1 hD1 hS1 hl)
theorem rc_putF {h0 sz ci0 mc ms : Nat} {fs00 : List Value} {post : va_W → Prop} (C : Rc l D cy own cc nL fr lo kc ks (EC l D h0 sz ci0 mc ms fs00 post) V) {ci j N index a : Nat} {CC : String} {T : u_T} {ty : Nat → FieldType} {ft : FieldType} {v : Value} {fs : List Value} (q0 : Nat) (KK : cK ci CC T N ty) (he : ws[q0]? = some (a, .inr (ci, fs))) (hj : j < N) (hk : Cond.fieldLink own index CC (T j).2.1 (T j).2.2.1 ∈ AW) (hs : (T j).1 = CC) (ho : (T j).1 = own) (hfin : (T j).2.2.2 = true) (hft : ty j = ft) (hn : narrow ft v = v) (hfit : fits ft v = true) (hl0 : j < fs.length) (d : decode cc pc = .ok (.putfield index, 3)) (ws2 : va_W) (h2 : ws.set q0 (a, .inr (ci, fs.set j v)) = ws2) (K : V ws2 cl sl (pc + 3) lv st) : V ws cl sl pc lv (v :: .ref a :: st) := by
  obtain ⟨p, e, R, s, m, args, below, meth, c, A, Q, rfl, hE, ⟨hx, hb, hml, hown, hlocks⟩, hts, hK, hC, hA, hR⟩ := C
  intro H locs ls hP hD hS hl
  subst h2
  exact va_putF hx hb hts KK.2.1 ty KK.2.2.2 KK.2.2.1 hown hK hP hD hS q0 he KK.1 j hj (hts _ hk) (fun x h => by rw [← hs]; exact h) hfin hE.2.1 ho (by rw [KK.2.2.2 j hj, hft]) hn hfit hl0 d (fun H1 locs1 hP1 hD1 hS1 => K H1 locs1 ls hP1 hD1 hS1 hl)
theorem rc_putI (C : Rc l D cy own cc nL fr lo kc ks E V) {ci j N index a : Nat} {CC : String} {T : u_T} {ty : Nat → FieldType} {ft : FieldType} {v : Value} {fs : List Value} (q0 : Nat) (KK : cK ci CC T N ty) (he : ws[q0]? = some (a, .inr (ci, fs))) (hj : j < N) (hk : Cond.fieldLink own index CC (T j).2.1 (T j).2.2.1 ∈ AW) (hs : (T j).1 = CC) (ho : (T j).1 = own) (hfin : (T j).2.2.2 = false) (hft : ty j = ft) (hn : narrow ft v = v) (hfit : fits ft v = true) (hl0 : j < fs.length) (d : decode cc pc = .ok (.putfield index, 3)) (ws2 : va_W) (h2 : ws.set q0 (a, .inr (ci, fs.set j v)) = ws2) (K : V ws2 cl sl (pc + 3) lv st) : V ws cl sl pc lv (v :: .ref a :: st) := by
  obtain ⟨p, e, R, s, m, args, below, meth, c, A, Q, rfl, hE, ⟨hx, hb, hml, hown, hlocks⟩, hts, hK, hC, hA, hR⟩ := C
  intro H locs ls hP hD hS hl
  subst h2
  exact va_put hx hb hts KK.2.1 ty KK.2.2.2 KK.2.2.1 hown hK hP hD hS q0 he KK.1 j hj (hts _ hk) (fun x h => by rw [← hs]; exact h) hfin (by rw [KK.2.2.2 j hj, hft]) hn hfit hl0 d (fun H1 locs1 hP1 hD1 hS1 => K H1 locs1 ls hP1 hD1 hS1 hl)
theorem rc_ret {h0 sz ci0 mc ms : Nat} {fs00 : List Value} {post : va_W → Prop} (C : Rc l D cy own cc nL fr lo kc ks (EC l D h0 sz ci0 mc ms fs00 post) V) (d : decode cc pc = .ok (.return_, 1)) (hcl : cl = mc ∧ sl = ms) (hp : post ws) : V ws cl sl pc lv [] := by
  obtain ⟨p, e, R, s, m, args, below, meth, c, A, Q, rfl, hE, ⟨hx, hb, hml, hown, hlocks⟩, hts, hK, hC, hA, hR⟩ := C
  intro H locs ls hP hD hS hl
  obtain ⟨rfl, rfl⟩ := hcl
  obtain ⟨rfl, hin, hr, rfl⟩ := hE
  exact W.vret hx hb hr (fun t ht hW => ⟨⟨rfl, ws, hp, by rw [ht]; exact hP, hD⟩, hS.F ht⟩) hS.2.2 d hlocks
theorem rc_getR (C : Rc l D cy own cc nL fr lo kc ks E V) {ci j N index a q : Nat} {CC : String} {T : u_T} {ty : Nat → FieldType} {fs : List Value} (q0 : Nat) (KK : cK ci CC T N ty) (he : ws[q0]? = some (a, .inr (ci, fs))) (hj : j < N) (hk : Cond.fieldLink own index CC (T j).2.1 (T j).2.2.1 ∈ AW) (hs : (T j).1 = CC) (hv : fs[j]? = some (.ref q)) (d : decode cc pc = .ok (.getfield index, 3)) (K : V ws cl sl (pc + 3) lv (.ref q :: st)) : V ws cl sl pc lv (.ref a :: st) := by
  obtain ⟨p, e, R, s, m, args, below, meth, c, A, Q, rfl, hE, ⟨hx, hb, hml, hown, hlocks⟩, hts, hK, hC, hA, hR⟩ := C
  intro H locs ls hP hD hS hl
  exact va_get hx hb hts KK.2.1 hown hK hP q0 he KK.1 j hj (hts _ hk) (fun x h => by rw [← hs]; exact h) hv d (K H locs ls hP hD hS hl)
theorem pl_rows {l : List Nat} {f : Nat → va_E} {v : va_E} : va_pl ([] ++ l) (vr_up f l v) = l.map (fun a => (a, v)) := by
  unfold va_pl
  rw [List.nil_append]
  exact List.map_congr_left (fun a ha => by rw [vr_up_in ha])
theorem rc_mna (C : Rc l D cy own cc nL fr lo kc ks E V) {n k : Int32} {index : Nat} (N9 K9 : Nat) (hk : Cond.classLink own index "[[I" ∈ AW) (hw : Cond.arrayClass .int ∈ AW) (hn : ¬ n < 0) (hk0 : ¬ k < 0) (hN : n.toNatClampNeg = N9) (hK9 : k.toNatClampNeg = K9) (hb1 : N9 * 4 ≤ 536870912) (hb2 : K9 * componentBytes .int ≤ 536870912) (hb3 : K9 ≤ 536870912) (hc : cl + (1 + N9) ≤ kc) (hs : sl + (N9 + N9 * K9) ≤ ks) (d : decode cc pc = .ok (.multianewarray index 2, 4)) (K : ∀ (q : Nat) (r : Nat → Nat), V ((ws ++ [(q, .inl (cy 3, N9, .inr (.inr (.inr (.inr (fun i => if i < N9 then some (r i) else none))))))]) ++ ((List.range N9).map r).map (fun a => (a, .inl (cy 0, K9, .inl (fun _ => 0))))) (cl + 1 + N9) (sl + N9 + N9 * K9) (pc + 4) lv (.ref q :: st)) : V ws cl sl pc lv (.int k :: .int n :: st) := by
  obtain ⟨p, e, R, s, m, args, below, meth, c, A, Q, rfl, hE, ⟨hx, hb, hml, hown, hlocks⟩, hts, hK, hC, hA, hR⟩ := C
  intro H locs ls hP hD hS hl
  have hP0 : va_P D wCl (ws ++ va_pl [] (fun _ => .inr (0, []))) H := by show va_P D wCl (ws ++ []) H; rw [List.append_nil]; exact hP
  have hD0 : va_D A (ws ++ va_pl [] (fun _ => .inr (0, []))) := by show va_D A (ws ++ []); rw [List.append_nil]; exact hD
  refine va_mna (ty := .int) (cy := cy 0) (z := (K9, .inl (fun _ => 0))) hx hb hown (hts _ hk) hC.2.2 (hts _ hw) (hK.2 0 _ rfl).2 hK hP0 hD0 hS hA hn hk0 hN hK9 hb1 hb2 hb3 rfl rfl (Nat.le_trans hc hR.2.2.1) (Nat.le_trans hs hR.2.2.2) (fun c9 => by show ({ cls := c9, slots := Array.replicate K9 (.int 0), vm := .none } : Cell) = arrV c9 K9 (fun _ => .int 0); rw [arrV_new]) d (fun q r cA H1 _ _ hK1 hP1 hD1 hS1 => ?_)
  have e1 : cA = cy 3 := ra_same (fun C h => by cases h) (hK1.2 7 _ rfl).2 (hK.2 3 _ rfl).2
  subst e1
  rw [pl_rows] at hP1 hD1
  exact K q r H1 locs ls hP1 hD1 hS1 hl
theorem rc_callIN (C : Rc l D cy own cc nL fr lo kc ks E V) {y : MethodName} {bytes : ByteArray} {maxL fr' lo' mc ms b ci index : Nat} {fs0 : List Value} {post : va_W → Prop} (i0 : Nat) (isR : List Nat) (wr : va_W) (G : .code y bytes maxL none ∈ AW ∧ .initialized y.cls ∈ AW ∧ (y.cls ≠ "java/lang/invoke/MethodHandle" ∧ y.cls ≠ "java/lang/invoke/VarHandle" ∧ (parseMethodDescriptor y.desc).map (fun d => d.parameters.length) = some 0) ∧ plainName y.cls = true ∧ y.name = "<init>" ∧ .instanceMethod y ∈ AW) (hk : Cond.methodLinkNest own index y RX9 ∈ cwL) (hM : ∀ sz, CI l D cy y bytes maxL fr' lo' mc ms b sz ci fs0 post) (he : [i0].map (fun i => ws[i]?) = [(b, .inr (ci, fs0))].map some) (hr : isR.map (fun i => ws[i]?) = wr.map some) (hnd : va_nd isR = true) (hdis : ∀ i ∈ isR, i ∉ [i0]) (hR0 : fr' + 1 ≤ fr ∧ 8 + (maxL + 11) + lo' ≤ lo) (hc : cl + mc ≤ kc) (hs : sl + ms ≤ ks) (hW : (st.map fun v => v.category).sum ≤ 8) (d : decode cc pc = .ok (.invokespecial index, 3)) (K : ∀ ws1, post ws1 → V (wr ++ ws1) (cl + mc) (sl + ms) (pc + 3) lv st) : V ws cl sl pc lv (.ref b :: st) := by
  obtain ⟨p, e, R, s, m, args, below, meth, c, A, Q, rfl, hE, ⟨hx, hb, hml, hown, hlocks⟩, hts, hK, hC, hA, hR⟩ := C
  intro H locs ls hP hD hS hl
  have hin : ∀ w ∈ (.code y bytes maxL none :: AW : List Cond), w ∈ AW := fun w hw => by
    rcases List.mem_cons.mp hw with rfl | hw
    · exact G.1
    · exact hw
  have hPc : va_P D wCl [(b, .inr (ci, fs0))] H := by
    have h1 : ws[i0]? = some (b, .inr (ci, fs0)) := by simpa using he
    intro k q hq
    have h3 : k < 1 := (List.getElem?_eq_some_iff.mp hq).1
    rw [show k = 0 by omega] at hq
    cases hq
    exact hP i0 _ h1
  have hFc := va_free (wc := [(b, .inr (ci, fs0))]) hD hS hA [i0] he
  intro T hT9 X
  obtain ⟨v, st₀, t, T', L, h0, X', hL, e1, e2, ⟨⟨hv, ws1, hpost, hP1, hD1⟩, hF⟩, stp⟩ := va_runIN (As := []) (rest := st) ⟨hx, hb, hml, hown, hts⟩ (hM H.size) ⟨va_cnB 0 hts (aw_sub hin) rfl rfl rfl (hC.1 _ hk) (hts _ G.2.1) G.2.2.1 ⟨by rw [hR.1]; exact hR0.1, by rw [hR.2.1]; exact hR0.2⟩, G.2.2.2.2.1, hts _ G.2.2.2.2.2⟩ ⟨ci_blind, fun U hU hW9 => ⟨rfl, by rw [hU], by rw [hU]; exact hPc, va_K.moved hW9.alike hK, cw_warm hW9 hC⟩⟩ rfl rfl hl.1 rfl (lv_room hW) d ⟨Nat.le_trans hc hR.2.2.1, Nat.le_trans hs hR.2.2.2⟩ T hT9 X
  cases hv
  obtain ⟨k1, k2, k3⟩ := vx_keep h0 e1 hS (fun q _ h => hFc q h) (fun q h => hFc q h) hL hF
  rw [← e1] at hP1
  obtain ⟨hP2, hD2⟩ := va_join (wr := wr) (w1 := ws1) hP hD [i0] isR he hr hnd hdis k2 hFc hP1 hD1
  obtain ⟨t2, a1, b1⟩ := K ws1 hpost T'.heap (locs ++ L) ls hP2 hD2 k3 hl T' rfl X'
  exact ⟨t2, stp t2 a1, b1⟩
theorem rc_callI (C : Rc l D cy own cc nL fr lo kc ks E V) {y : MethodName} {bytes : ByteArray} {maxL fr' lo' mc ms b ci index : Nat} {fs0 : List Value} {post : va_W → Prop} (i0 : Nat) (isR : List Nat) (wr : va_W) (G : .code y bytes maxL none ∈ AW ∧ .initialized y.cls ∈ AW ∧ (y.cls ≠ "java/lang/invoke/MethodHandle" ∧ y.cls ≠ "java/lang/invoke/VarHandle" ∧ (parseMethodDescriptor y.desc).map (fun d => d.parameters.length) = some 0) ∧ plainName y.cls = true ∧ y.name = "<init>" ∧ .instanceMethod y ∈ AW) (hk : Cond.methodLink own index y ∈ AW) (hM : ∀ sz, CI l D cy y bytes maxL fr' lo' mc ms b sz ci fs0 post) (he : [i0].map (fun i => ws[i]?) = [(b, .inr (ci, fs0))].map some) (hr : isR.map (fun i => ws[i]?) = wr.map some) (hnd : va_nd isR = true) (hdis : ∀ i ∈ isR, i ∉ [i0]) (hR0 : fr' + 1 ≤ fr ∧ 8 + (maxL + 11) + lo' ≤ lo) (hc : cl + mc ≤ kc) (hs : sl + ms ≤ ks) (hW : (st.map fun v => v.category).sum ≤ 8) (d : decode cc pc = .ok (.invokespecial index, 3)) (K : ∀ ws1, post ws1 → V (wr ++ ws1) (cl + mc) (sl + ms) (pc + 3) lv st) : V ws cl sl pc lv (.ref b :: st) := by
  obtain ⟨p, e, R, s, m, args, below, meth, c, A, Q, rfl, hE, ⟨hx, hb, hml, hown, hlocks⟩, hts, hK, hC, hA, hR⟩ := C
  intro H locs ls hP hD hS hl
  have hin : ∀ w ∈ (.code y bytes maxL none :: AW : List Cond), w ∈ AW := fun w hw => by
    rcases List.mem_cons.mp hw with rfl | hw
    · exact G.1
    · exact hw
  have hPc : va_P D wCl [(b, .inr (ci, fs0))] H := by
    have h1 : ws[i0]? = some (b, .inr (ci, fs0)) := by simpa using he
    intro k q hq
    have h3 : k < 1 := (List.getElem?_eq_some_iff.mp hq).1
    rw [show k = 0 by omega] at hq
    cases hq
    exact hP i0 _ h1
  have hFc := va_free (wc := [(b, .inr (ci, fs0))]) hD hS hA [i0] he
  intro T hT9 X
  obtain ⟨v, st₀, t, T', L, h0, X', hL, e1, e2, ⟨⟨hv, ws1, hpost, hP1, hD1⟩, hF⟩, stp⟩ := va_runI (As := []) (rest := st) ⟨hx, hb, hml, hown, hts⟩ (hM H.size) ⟨callB_of 0 hts (aw_sub hin) rfl rfl rfl (hts _ G.2.1) (hts _ hk) G.2.2.1 ⟨by rw [hR.1]; exact hR0.1, by rw [hR.2.1]; exact hR0.2⟩, G.2.2.2.2.1, hts _ G.2.2.2.2.2⟩ ⟨ci_blind, fun U hU hW9 => ⟨rfl, by rw [hU], by rw [hU]; exact hPc, va_K.moved hW9.alike hK, cw_warm hW9 hC⟩⟩ rfl rfl hl.1 rfl (lv_room hW) d ⟨Nat.le_trans hc hR.2.2.1, Nat.le_trans hs hR.2.2.2⟩ T hT9 X
  cases hv
  obtain ⟨k1, k2, k3⟩ := vx_keep h0 e1 hS (fun q _ h => hFc q h) (fun q h => hFc q h) hL hF
  rw [← e1] at hP1
  obtain ⟨hP2, hD2⟩ := va_join (wr := wr) (w1 := ws1) hP hD [i0] isR he hr hnd hdis k2 hFc hP1 hD1
  obtain ⟨t2, a1, b1⟩ := K ws1 hpost T'.heap (locs ++ L) ls hP2 hD2 k3 hl T' rfl X'
  exact ⟨t2, stp t2 a1, b1⟩
end RCS
