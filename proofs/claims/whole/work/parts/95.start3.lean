/-! THE LAW'S ENTRY (by program) -/
section RCL
variable {l : Launch} {D : va_G} {cy : Nat → ClassId} {own : String} {cc : ByteArray} {nL fr lo kc ks : Nat} {E : Et} {V : Ct} {ws : va_W} {cl sl pc : Nat} {lv : List (Nat × Value)} {st : List Value}
theorem rc_astore_n (C : Rc l D cy own cc nL fr lo kc ks E V) {i : Fin 4} {q : Nat} (lv2 : List (Nat × Value)) (hi : (i : Nat) < nL) (d : decode cc pc = .ok (.astore_n i, 1)) (h2 : ((i : Nat), Value.ref q) :: lv.filter (fun q => !(q.1 == (i : Nat)) && !(q.1 + 1 == (i : Nat) && q.2.category == 2)) = lv2) (K : V ws cl sl (pc + 1) lv2 st) : V ws cl sl pc lv (.ref q :: st) := by
  obtain ⟨p, e, R, s, m, args, below, meth, c, A, Q, rfl, hE, ⟨hx, hb, hml, hown, hlocks⟩, hts, hK, hC, hA, hR⟩ := C
  intro H locs ls hP hD hS hl
  exact lv_astore_n hx hb d rfl hl hi h2 (fun ls2 hl2 => K H locs ls2 hP hD hS hl2)
theorem rc_astore (C : Rc l D cy own cc nL fr lo kc ks E V) {i : Nat} {q : Nat} (lv2 : List (Nat × Value)) (hi : i < nL) (d : decode cc pc = .ok (.astore i, 2)) (h2 : (i, Value.ref q) :: lv.filter (fun q => !(q.1 == i) && !(q.1 + 1 == i && q.2.category == 2)) = lv2) (K : V ws cl sl (pc + 2) lv2 st) : V ws cl sl pc lv (.ref q :: st) := by
  obtain ⟨p, e, R, s, m, args, below, meth, c, A, Q, rfl, hE, ⟨hx, hb, hml, hown, hlocks⟩, hts, hK, hC, hA, hR⟩ := C
  intro H locs ls hP hD hS hl
  exact lv_astore hx hb d hl hi h2 (fun ls2 hl2 => K H locs ls2 hP hD hS hl2)
theorem rc_istore (C : Rc l D cy own cc nL fr lo kc ks E V) {i : Nat} {x : Int32} (lv2 : List (Nat × Value)) (hi : i < nL) (d : decode cc pc = .ok (.istore i, 2)) (h2 : (i, Value.int x) :: lv.filter (fun q => !(q.1 == i) && !(q.1 + 1 == i && q.2.category == 2)) = lv2) (K : V ws cl sl (pc + 2) lv2 st) : V ws cl sl pc lv (.int x :: st) := by
  obtain ⟨p, e, R, s, m, args, below, meth, c, A, Q, rfl, hE, ⟨hx, hb, hml, hown, hlocks⟩, hts, hK, hC, hA, hR⟩ := C
  intro H locs ls hP hD hS hl
  exact lv_istore hx hb d hl hi h2 (fun ls2 hl2 => K H locs ls2 hP hD hS hl2)
end RCL
theorem mr_app (wr : va_W) (x : Nat × va_E) {n : Nat} (hn : wr.length = n) : (List.range n).map (fun i => (wr ++ [x])[i]?) = wr.map some := by
  subst hn
  refine List.ext_getElem? (fun i => ?_)
  rw [List.getElem?_map, List.getElem?_map]
  by_cases h : i < wr.length
  · rw [List.getElem?_range h, Option.map_some, List.getElem?_append_left h, List.getElem?_eq_getElem h, Option.map_some]
  · rw [List.getElem?_eq_none (by rw [List.length_range]; omega), List.getElem?_eq_none (by omega)]
    rfl
theorem mr_last (wr : va_W) (x : Nat × va_E) {n : Nat} (hn : wr.length = n) : [n].map (fun i => (wr ++ [x])[i]?) = [x].map some := by
  subst hn
  simp
def f9 : List Value := [.null, .null, .null, .null, .null, .null, .null, .null, .int 0, .int 0]
def f10 : List Value := [.int 0, .null, .null, .null, .null, .null, .null, .int 0, .int 0, .null, .null, .null, .null, .int 0, .int 0, .int 0, .int 0, .int 0, .int 0, .int 0, .int 0, .int 0, .int 0, .int 0, .null, .null, .null, .null, .int 0, .int 0, .int 0, .int 0, .null, .null, .null, .null, .null, .null, .null, .int 0, .null, .null, .int 0, .int 0, .int 0, .int 0, .null, .null, .null, .null, .null, .null, .int 0, .int 0, .int 0, .int 0, .null, .int 0]
set_option maxHeartbeats 4000000 in
set_option maxRecDepth 100000 in
theorem start_rows {l : Launch} {D : va_G} {cy : Nat → ClassId} {kc ks : Nat} {E : Et} {V : Ct} {b : Nat} (C : Rc l D cy RL cL_law 9 20 10862 kc ks E V) (hkc : 157 ≤ kc) (hks : 7672 ≤ ks) (kk : ∀ (h0 : Nat) (q : Nat → Nat) (h1 : Nat) (r : Nat → Nat) (j d : Nat), V (wz cy h0 q h1 r j d) 157 7672 28 [(5, .int 0), (4, .ref d), (3, .ref j), (2, .ref h1), (1, .ref h0), (0, .ref b)] []) : V [] 0 0 0 [(0, .ref b)] [] := by
  refine rc_new C ck_9 [.null, .null, .null, .null, .null, .null, .null, .null, .int 0, .int 0] kl_L_8 in_9 df_9 (by omega) (by omega) dL_law_0 (fun h0 => ?_)
  refine rc_dup C rfl dL_law_3 ?_
  refine rc_callI C 0 [] [] gi_9 il_L_132 (fun sz => c_X9_init l D cy h0 sz) rfl rfl rfl (by decide) ⟨Nat.le_of_ble_eq_true rfl, Nat.le_of_ble_eq_true rfl⟩ (by omega) (by omega) (by exact Nat.le_of_ble_eq_true rfl) dL_law_4 ?_
  rintro _ ⟨q, rfl⟩
  show V (w9 cy h0 q) 124 3326 7 [(0, .ref b)] [.ref h0]
  refine rc_astore_n C [(1, .ref h0), (0, .ref b)] (by decide) dL_law_7 rfl ?_
  refine rc_new C ck_10 [.int 0, .null, .null, .null, .null, .null, .null, .int 0, .int 0, .null, .null, .null, .null, .int 0, .int 0, .int 0, .int 0, .int 0, .int 0, .int 0, .int 0, .int 0, .int 0, .int 0, .null, .null, .null, .null, .int 0, .int 0, .int 0, .int 0, .null, .null, .null, .null, .null, .null, .null, .int 0, .null, .null, .int 0, .int 0, .int 0, .int 0, .null, .null, .null, .null, .null, .null, .int 0, .int 0, .int 0, .int 0, .null, .int 0] kl_L_133 in_10 df_10 (by omega) (by omega) dL_law_8 (fun h1 => ?_)
  refine rc_dup C rfl dL_law_11 ?_
  refine rc_callI C 124 (List.range 124) (w9 cy h0 q) gi_10 il_L_135 (fun sz => c_X10_init l D cy h1 sz) (mr_last _ _ (w9_len cy h0 q)) (mr_app _ _ (w9_len cy h0 q)) (by decide +kernel) (by decide +kernel) ⟨Nat.le_of_ble_eq_true rfl, Nat.le_of_ble_eq_true rfl⟩ (by omega) (by omega) (by exact Nat.le_of_ble_eq_true rfl) dL_law_12 ?_
  rintro _ ⟨r, rfl⟩
  show V (w9 cy h0 q ++ w10 cy h1 r) 155 7670 15 [(1, .ref h0), (0, .ref b)] [.ref h1]
  refine rc_astore_n C [(2, .ref h1), (1, .ref h0), (0, .ref b)] (by decide) dL_law_15 rfl ?_
  refine rc_iconst C ic_1 dL_law_16 ?_
  refine rc_newa_J C 1 ac_long (by decide) rfl (by decide) (by omega) (by omega) dL_law_17 (fun j => ?_)
  refine rc_astore_n C [(3, .ref j), (2, .ref h1), (1, .ref h0), (0, .ref b)] (by decide) dL_law_19 rfl ?_
  refine rc_iconst C ic_1 dL_law_20 ?_
  refine rc_newa_D C 1 ac_double (by decide) rfl (by decide) (by omega) (by omega) dL_law_21 (fun d => ?_)
  refine rc_astore C [(4, .ref d), (3, .ref j), (2, .ref h1), (1, .ref h0), (0, .ref b)] (by decide) dL_law_23 rfl ?_
  refine rc_iconst C ic_0 dL_law_25 ?_
  refine rc_istore C [(5, .int 0), (4, .ref d), (3, .ref j), (2, .ref h1), (1, .ref h0), (0, .ref b)] (by decide) dL_law_26 rfl ?_
  exact kk h0 q h1 r j d
theorem fl_st {l : Launch} (h : l.flags = flags0) : l.stackTraces = false := by
  unfold Launch.stackTraces
  rw [h]
  decide +kernel
set_option maxHeartbeats 4000000 in
theorem whole_start {p : Program} {e : Env} {s : State} {m : MethodId} {below : List Frame} {meth : Method} {c : Code} (l : Launch) (hflags : l.flags = flags0) {b L : Nat} {xs : Nat → Int32} (hL : L ≤ 2560) (C0 : lw_At p s m meth c b L xs) (htb : c.exceptionTable.toList = []) : W p l e room_1 s m #[Value.ref b] below meth c s.heap [] 0 0 (lw_Z below #[Value.ref b] s) (entryFrame m ([Value.ref b] : List Value).toArray 9) := by
  obtain ⟨hx, hb, hr, hml, hown, hts, hX, hbl, hlocks, hgv⟩ := C0
  have htA : ∀ w ∈ AW, w.before #[Value.ref b] s = true := fun w hw => hts w (List.mem_filter.mp hw).1
  have hC := cw_start hts
  obtain ⟨D, hKn⟩ := kd_start htA
  obtain ⟨cy, hKy⟩ := ky_start htA hC.2
  have hK : va_K D wCl (tyL cy) s := ⟨hKn, hKy⟩
  have hs := fl_st hflags
  have C : Rc l D cy RL cL_law 9 20 10862 603072 7198826 (fun _ _ _ _ _ _ _ _ _ _ _ => True) (CVV p l e room_1 s m #[Value.ref b] below meth c D 9 (fun q => s.heap.size ≤ q) (lw_Z below #[Value.ref b] s)) := ⟨p, e, room_1, s, m, #[Value.ref b], below, meth, c, fun q => s.heap.size ≤ q, lw_Z below #[Value.ref b] s, rfl, trivial, ⟨hx, hb, hml, hown, hlocks⟩, htA, hK, hC, fun q h => h, ⟨rfl, rfl, Nat.le_refl _, Nat.le_refl _⟩⟩
  have key := start_rows (b := b) C (Nat.le_of_ble_eq_true rfl) (Nat.le_of_ble_eq_true rfl) (fun h0 q h1 r j d => ?_)
  · rw [lg_entry_eq]
    exact key s.heap [] _ (fun k q h => by simp at h) ⟨fun i j p q h => by simp at h, fun k q h => by simp at h⟩ va_S.rf (lv_entry [.ref b] (n := 9) (Nat.le_of_ble_eq_true rfl))
  · intro H locs ls hP hD hS hl
    obtain ⟨hI, hnew⟩ := wz_I (b := b) hD
    have hA : ∀ a : Nat, a < s.heap.size → ¬ AD (adz h0 q h1 r j d b) a := fun a h2 ⟨c9, h3, h4⟩ => by
      have := hnew c9 h3
      omega
    have A : RgA l D (adz h0 q h1 r j d b) cy RL cL_law 9 20 10862 20000 [] (FL (adz h0 q h1 r j d b) b L xs) (VP p l e room_1 s m #[Value.ref b] below meth c D (adz h0 q h1 r j d b) cy 9 (lw_Z below #[Value.ref b] s)) :=
      ⟨p, e, room_1, s, m, #[Value.ref b], below, meth, c, lw_Z below #[Value.ref b] s, fun _ => rfl, ⟨hX, hbl, hA b hbl, rfl, hnew, rfl, rfl, hr, rfl⟩, ⟨hx, hb, hml, hown, hlocks⟩, htA, hK, hI, nw_start hts, zq_start hts hgv hnew, nc_start hgv, hs, ⟨rfl, rfl, Nat.le_of_ble_eq_true rfl, Nat.le_of_ble_eq_true rfl⟩, htb⟩
    refine va_forget (fun q hq => hS.2.2 q hq) ?_
    refine W.widen (k := 2000) (n := 6 * 2000) (Nat.le_of_ble_eq_true rfl) (Nat.le_of_ble_eq_true rfl) ?_
    exact law_loop hs hI A 600 2000 (Nat.le_of_ble_eq_true rfl) sg0 0 (law_all S_read hL sg0_ok) H [] ls (wz_P hP) ⟨hS.1, fun q h2 h3 => hS.2.1 q h2 (Nat.not_le.mpr h2), fun l h => by cases h⟩ (lv_sub hl [5, 4, 3, 2, 1, 0] rfl) trivial
