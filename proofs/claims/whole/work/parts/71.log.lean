/-! PURE, 31: the log on both sides; a start anew -/
theorem xput_step (σ : Mem) {f s : Nat} {bf af itI : Int32} (hf : f < 375) (hs : s < 40) {w : Nat} (hw : w < 4) (r : Mem → Int32 → Int32 → Int32 → Int32 → Int32 → Int32 → Option Mem) : fX6_put_B17 r σ (nI f) bf af itI (nI s) (nI w) = r (mst σ (106 + w) s (σ (100 + w) f)) (nI f) bf af itI (nI s) (nI (w + 1)) := by
  unfold fX6_put_B17
  rw [if_neg (show ¬ (4 : Int32) ≤ nI w from fun h => absurd ((le_i (a := 4) (b := w) (by omega) (by omega)).1 h) (by omega)), ck_i (show w < 7 by omega) (by omega), ck_i hw (by omega), ck_i hf (by omega), ck_i hs (by omega), lt_e2, cl_i (by omega), cl_i (by omega), cl_i (by omega), Nat.one_mul, nI_s]
theorem xlog {σ : Mem} {o e f : Nat} {bf af itI : Int32} (ho : o < 40) (he : e ≤ 40) (h1 : σ 104 1 = nI o) (h2 : σ 104 2 = nI e) (hf : f < 375) : ∃ σ', fX6_put σ (nI f) bf af itI = some σ' ∧ (∀ w, w < 4 → σ' (106 + w) ((o + e) % 40) = σ (100 + w) f) ∧ σ' 110 ((o + e) % 40) = af ∧ σ' 111 ((o + e) % 40) = itI ∧ σ' 112 ((o + e) % 40) = (if af < bf then 1 else 0) ∧ (∀ c i, 106 ≤ c → c < 113 → i ≠ (o + e) % 40 → σ' c i = σ c i) ∧ (e = 40 ∧ σ' 104 1 = nI ((o + 1) % 40) ∧ σ' 104 2 = nI 40 ∨ e ≠ 40 ∧ σ' 104 1 = nI o ∧ σ' 104 2 = nI (e + 1)) := by
  have hs : (o + e) % 40 < 40 := Nat.mod_lt _ (by omega)
  generalize hsl : (o + e) % 40 = s at hs
  obtain ⟨N9, hN9⟩ : ∃ N9, FU = N9 + 1 + 1 + 1 + 1 + 1 := ⟨4194299, rfl⟩
  have eL : ∀ N, fX6_put_L17 (N + 1) = fX6_put_B17 (fX6_put_L17 N) := fun N => rfl
  have st : ∀ N σ w, w < 4 → fX6_put_L17 (N + 1) σ (nI f) bf af itI (nI s) (nI w) = fX6_put_L17 N (mst σ (106 + w) s (σ (100 + w) f)) (nI f) bf af itI (nI s) (nI (w + 1)) := fun N σ w hw => by rw [eL]; exact xput_step σ hf hs hw _
  generalize hm : mst (mst (mst (mst σ 106 s (σ 100 f)) 107 s (σ 101 f)) 108 s (σ 102 f)) 109 s (σ 103 f) = m4
  have e4 : fX6_put_L17 FU σ (nI f) bf af itI (nI s) (nI 0) = fX6_put_L17 (N9 + 1) m4 (nI f) bf af itI (nI s) (nI 4) := by
    rw [hN9, st _ _ 0 (by omega), st _ _ 1 (by omega), st _ _ 2 (by omega), st _ _ 3 (by omega), ← hm]
    rfl
  have m104 : m4 104 = σ 104 := by rw [← hm, mst_ne _ _ _ (by decide), mst_ne _ _ _ (by decide), mst_ne _ _ _ (by decide), mst_ne _ _ _ (by decide)]
  generalize hz : (if af < bf then (1 : Int32) else 0) = z
  generalize hm7 : mst (mst (mst m4 110 s af) 111 s itI) 112 s z = m7
  have m7104 : m7 104 = σ 104 := by rw [← hm7, mst_ne _ _ _ (by decide), mst_ne _ _ _ (by decide), mst_ne _ _ _ (by decide), m104]
  have e5 : fX6_put_L17 (N9 + 1) m4 (nI f) bf af itI (nI s) (nI 4) = some (if e = 40 then mst m7 104 1 (nI ((o + 1) % 40)) else mst m7 104 2 (nI (e + 1))) := by
    rw [eL]
    unfold fX6_put_B17
    rw [if_pos (by decide), ck_i hs (by omega), lt_e2, ck_i hs (by omega), lt_e2, cl_i (by omega)]
    have e6 : ∀ y, y = z → fX6_put_L90 (mst (mst m4 110 s af) 111 s itI) (nI s) y = some (if e = 40 then mst m7 104 1 (nI ((o + 1) % 40)) else mst m7 104 2 (nI (e + 1))) := fun y hy => by
      unfold fX6_put_L90
      rw [ck_i hs (by omega), lt_e2, cl_i (by omega), hy, hm7, lt_e2, lt_e2, m7104, h1, h2, nI_s, nI_s, mod40_i _ (by omega)]
      by_cases c : e = 40
      · subst c
        rw [if_pos (by decide), if_pos rfl]
      · rw [if_neg (show ¬ (40 : Int32) ≤ nI e from fun h => absurd ((le_i (a := 40) (b := e) (by omega) (by omega)).1 h) (by omega)), if_neg c]
    by_cases c : af < bf
    · rw [if_neg (fun hh => nl_i hh c)]
      exact e6 1 (by rw [← hz, if_pos c])
    · rw [if_pos (Int32.not_lt.mp c)]
      exact e6 0 (by rw [← hz, if_neg c])
  have e7 : fX6_put σ (nI f) bf af itI = some (if e = 40 then mst m7 104 1 (nI ((o + 1) % 40)) else mst m7 104 2 (nI (e + 1))) := by
    have e8 : nI o + nI e - (nI o + nI e) / (40 : Int32) * (40 : Int32) = nI s := by rw [nI_add, mod40_i _ (by omega), hsl]
    unfold fX6_put
    rw [h1, h2, e8]
    exact e4.trans e5
  have far : ∀ c, c ≠ 104 → (if e = 40 then mst m7 104 1 (nI ((o + 1) % 40)) else mst m7 104 2 (nI (e + 1))) c = m7 c := fun c hc => by
    by_cases d : e = 40
    · rw [if_pos d, mst_ne _ _ _ hc]
    · rw [if_neg d, mst_ne _ _ _ hc]
  refine ⟨_, e7, fun w hw => ?_, ?_, ?_, ?_, fun c i hc1 hc2 hi => ?_, ?_⟩
  · rw [far _ (by omega), ← hm7, mst_ne _ _ _ (by omega), mst_ne _ _ _ (by omega), mst_ne _ _ _ (by omega), ← hm]
    match w, hw with
    | 0, _ => rw [mst_ne _ _ _ (by decide), mst_ne _ _ _ (by decide), mst_ne _ _ _ (by decide), mst_at, upd_at]
    | 1, _ => rw [mst_ne _ _ _ (by decide), mst_ne _ _ _ (by decide), mst_at, upd_at]
    | 2, _ => rw [mst_ne _ _ _ (by decide), mst_at, upd_at]
    | 3, _ => rw [mst_at, upd_at]
  · rw [far _ (by decide), ← hm7, mst_ne _ _ _ (by decide), mst_ne _ _ _ (by decide), mst_at, upd_at]
  · rw [far _ (by decide), ← hm7, mst_ne _ _ _ (by decide), mst_at, upd_at]
  · rw [far _ (by decide), ← hm7, mst_at, upd_at]
  · rw [far _ (by omega)]
    have far2 : ∀ (t : Mem) (q : Nat) (x : Int32), mst t q s x c i = t c i := fun t q x => by
      by_cases e : c = q
      · subst e; rw [mst_at, upd_ne _ _ hi]
      · rw [mst_ne _ _ _ e]
    rw [← hm7, far2, far2, far2, ← hm, far2, far2, far2, far2]
  · by_cases d : e = 40
    · subst d
      left
      rw [if_pos rfl]
      exact ⟨rfl, by rw [mst_at, upd_at], by rw [mst_at, upd_ne _ _ (by decide), m7104, h2]⟩
    · right
      rw [if_neg d]
      exact ⟨d, by rw [mst_at, upd_ne _ _ (by decide), m7104, h1], by rw [mst_at, upd_at]⟩
theorem mlog_sh (τ : Mem) (f : Int32) (h : τ 124 19 = nI 39) : ∀ (j i : Nat), i + j = 273 → ∀ N, j < N → fX10_logs_L21 N (mw τ 134 (shF (τ 134) 7 i)) f (nI i) = fX10_logs_L53 (mw τ 134 (shF (τ 134) 7 273)) f := by
  intro j
  have e39 : (7 : Int32) * nI 39 = nI 273 := nI_mul 7 39
  induction j with
  | zero =>
    intro i hi N hN
    obtain ⟨N, rfl, hN⟩ := nsub1 hN
    have e : i = 273 := by omega
    subst e
    rw [show fX10_logs_L21 (N + 1) = fX10_logs_B21 (fX10_logs_L21 N) from rfl]
    unfold fX10_logs_B21
    rw [mw_ne _ _ (by decide : (124 : Nat) ≠ 134), h, e39, if_pos (Int32.le_refl _)]
  | succ j ih =>
    intro i hi N hN
    obtain ⟨N, rfl, hN⟩ := nsub1 hN
    rw [show fX10_logs_L21 (N + 1) = fX10_logs_B21 (fX10_logs_L21 N) from rfl]
    unfold fX10_logs_B21
    rw [mw_ne _ _ (by decide : (124 : Nat) ≠ 134), h, e39, if_neg (fun h => absurd ((le_i (by omega) (by omega)).1 h) (by omega)), show nI i + (7 : Int32) = nI (i + 7) from nI_add i 7, ck_i (by omega) (by omega), ck_i (by omega) (by omega), lt_e2, cl_i (by omega), cl_i (by omega), mw_at, mst_mw, shF_s _ _ _ (by omega), nI_s]
    exact ih (i + 1) (by omega) N (by omega)
theorem mlog53 {τ : Mem} {e f : Nat} (he : e ≤ 39) (h : τ 124 19 = nI e) (hf : f < 375) : ∃ τ', fX10_logs_L53 τ (nI f) = some τ' ∧ τ' 124 19 = nI (e + 1) ∧ τ' 134 (7 * e) = τ 139 f ∧ τ' 134 (7 * e + 1) = τ 140 f ∧ τ' 134 (7 * e + 2) = τ 141 f ∧ τ' 134 (7 * e + 3) = τ 142 f ∧ τ' 134 (7 * e + 4) = τ 143 f ∧ τ' 134 (7 * e + 5) = τ 124 15 ∧ τ' 134 (7 * e + 6) = τ 124 13 ∧ ∀ i, i < 7 * e → τ' 134 i = τ 134 i := by
  have e7 : (7 : Int32) * nI e = nI (7 * e) := nI_mul 7 e
  refine ⟨mst (mst (mst (mst (mst (mst (mst (mst τ 134 (7 * e) (τ 139 f)) 134 (7 * e + 1) (τ 140 f)) 134 (7 * e + 2) (τ 141 f)) 134 (7 * e + 3) (τ 142 f)) 134 (7 * e + 4) (τ 143 f)) 134 (7 * e + 5) (τ 124 15)) 134 (7 * e + 6) (τ 124 13)) 124 19 (nI (e + 1)), ?_, by rw [mst_at, upd_at], ?_, ?_, ?_, ?_, ?_, ?_, ?_, fun i hi => ?_⟩
  · unfold fX10_logs_L53
    simp only [lt, h, e7, show nI (7 * e) + (1 : Int32) = nI (7 * e + 1) from nI_add _ 1, show nI (7 * e) + (2 : Int32) = nI (7 * e + 2) from nI_add _ 2, show nI (7 * e) + (3 : Int32) = nI (7 * e + 3) from nI_add _ 3, show nI (7 * e) + (4 : Int32) = nI (7 * e + 4) from nI_add _ 4, show nI (7 * e) + (5 : Int32) = nI (7 * e + 5) from nI_add _ 5, show nI (7 * e) + (6 : Int32) = nI (7 * e + 6) from nI_add _ 6, ck_i (show f < 400 by omega) (show 400 ≤ 1000000 by omega), cl_i (show f ≤ 1000000 by omega), ck_i (show 7 * e < 280 by omega) (show 280 ≤ 1000000 by omega), cl_i (show 7 * e ≤ 1000000 by omega), ck_i (show 7 * e + 1 < 280 by omega) (show 280 ≤ 1000000 by omega), cl_i (show 7 * e + 1 ≤ 1000000 by omega), ck_i (show 7 * e + 2 < 280 by omega) (show 280 ≤ 1000000 by omega), cl_i (show 7 * e + 2 ≤ 1000000 by omega), ck_i (show 7 * e + 3 < 280 by omega) (show 280 ≤ 1000000 by omega), cl_i (show 7 * e + 3 ≤ 1000000 by omega), ck_i (show 7 * e + 4 < 280 by omega) (show 280 ≤ 1000000 by omega), cl_i (show 7 * e + 4 ≤ 1000000 by omega), ck_i (show 7 * e + 5 < 280 by omega) (show 280 ≤ 1000000 by omega), cl_i (show 7 * e + 5 ≤ 1000000 by omega), ck_i (show 7 * e + 6 < 280 by omega) (show 280 ≤ 1000000 by omega), cl_i (show 7 * e + 6 ≤ 1000000 by omega), mst_ne _ _ _ (show (140 : Nat) ≠ 134 by decide), mst_ne _ _ _ (show (141 : Nat) ≠ 134 by decide), mst_ne _ _ _ (show (142 : Nat) ≠ 134 by decide), mst_ne _ _ _ (show (143 : Nat) ≠ 134 by decide), mst_ne _ _ _ (show (124 : Nat) ≠ 134 by decide), nI_s]
  · rw [mst_ne _ _ _ (by decide), mst_at, upd_ne _ _ (by omega), mst_at, upd_ne _ _ (by omega), mst_at, upd_ne _ _ (by omega), mst_at, upd_ne _ _ (by omega), mst_at, upd_ne _ _ (by omega), mst_at, upd_ne _ _ (by omega), mst_at, upd_at]
  · rw [mst_ne _ _ _ (by decide), mst_at, upd_ne _ _ (by omega), mst_at, upd_ne _ _ (by omega), mst_at, upd_ne _ _ (by omega), mst_at, upd_ne _ _ (by omega), mst_at, upd_ne _ _ (by omega), mst_at, upd_at]
  · rw [mst_ne _ _ _ (by decide), mst_at, upd_ne _ _ (by omega), mst_at, upd_ne _ _ (by omega), mst_at, upd_ne _ _ (by omega), mst_at, upd_ne _ _ (by omega), mst_at, upd_at]
  · rw [mst_ne _ _ _ (by decide), mst_at, upd_ne _ _ (by omega), mst_at, upd_ne _ _ (by omega), mst_at, upd_ne _ _ (by omega), mst_at, upd_at]
  · rw [mst_ne _ _ _ (by decide), mst_at, upd_ne _ _ (by omega), mst_at, upd_ne _ _ (by omega), mst_at, upd_at]
  · rw [mst_ne _ _ _ (by decide), mst_at, upd_ne _ _ (by omega), mst_at, upd_at]
  · rw [mst_ne _ _ _ (by decide), mst_at, upd_at]
  · rw [mst_ne _ _ _ (by decide), mst_at, upd_ne _ _ (by omega), mst_at, upd_ne _ _ (by omega), mst_at, upd_ne _ _ (by omega), mst_at, upd_ne _ _ (by omega), mst_at, upd_ne _ _ (by omega), mst_at, upd_ne _ _ (by omega), mst_at, upd_ne _ _ (by omega)]
theorem log_R {σ τ : Mem} {f : Nat} (h : lgR σ τ) (hf : f < 375) (p0 : σ 100 f = τ 139 f) (p1 : σ 101 f = τ 140 f) (p2 : σ 102 f = τ 141 f) (p3 : σ 103 f = τ 142 f) : ∃ σ' τ', fX6_put σ (nI f) (τ 124 13) (τ 143 f) (τ 124 15) = some σ' ∧ fX10_logs τ (nI f) = some τ' ∧ lgR σ' τ' := by
  obtain ⟨o, e, ho, he, h1, h2, h3, h4⟩ := h
  obtain ⟨σ', e1, v1, v2, v3, v4, v5, v6⟩ := xlog (bf := τ 124 13) (af := τ 143 f) (itI := τ 124 15) ho he h1 h2 hf
  have new : ∀ (τ' : Mem) (e0 : Nat), τ' 134 (7 * e0) = τ 139 f → τ' 134 (7 * e0 + 1) = τ 140 f → τ' 134 (7 * e0 + 2) = τ 141 f → τ' 134 (7 * e0 + 3) = τ 142 f → τ' 134 (7 * e0 + 4) = τ 143 f → τ' 134 (7 * e0 + 5) = τ 124 15 → τ' 134 (7 * e0 + 6) = τ 124 13 → (∀ w, w < 6 → σ' (106 + w) ((o + e) % 40) = τ' 134 (7 * e0 + w)) ∧ σ' 112 ((o + e) % 40) = (if τ' 134 (7 * e0 + 4) < τ' 134 (7 * e0 + 6) then 1 else 0) := fun τ' e0 u0 u1 u2 u3 u4 u5 u6 => by
    refine ⟨fun w hw => ?_, by rw [u4, u6]; exact v4⟩
    match w, hw with
    | 0, _ => exact (v1 0 (by omega)).trans (p0.trans u0.symm)
    | 1, _ => exact (v1 1 (by omega)).trans (p1.trans u1.symm)
    | 2, _ => exact (v1 2 (by omega)).trans (p2.trans u2.symm)
    | 3, _ => exact (v1 3 (by omega)).trans (p3.trans u3.symm)
    | 4, _ => exact v2.trans u4.symm
    | 5, _ => exact v3.trans u5.symm
  rcases v6 with ⟨c, w1, w2⟩ | ⟨c, w1, w2⟩
  · subst c
    generalize ht0 : mst τ 124 19 (nI 39) = t0
    have t19 : t0 124 19 = nI 39 := by rw [← ht0, mst_at, upd_at]
    have a0 : Ag (fun c i => c = 124 ∧ i = 19) τ t0 := by rw [← ht0]; exact ag_mst _ _ ⟨rfl, rfl⟩
    have e2 := mlog_sh t0 (nI f) t19 273 0 (by omega) FU (FU_lt (by omega))
    rw [shF_0, mw_self, nI_0] at e2
    generalize ht1 : mw t0 134 (shF (t0 134) 7 273) = t1 at e2
    have a1 : Ag (fun c _ => c = 134) t0 t1 := by rw [← ht1]; exact ag_mw _ _ (fun _ => rfl)
    have r1 : ∀ i, i < 273 → t1 134 i = τ 134 (i + 7) := fun i hi => by
      rw [← ht1, mw_at]
      exact (if_pos hi).trans (a0 _ _ (by omega))
    obtain ⟨τ', e3, u7, u0, u1, u2, u3, u4, u5, u6, u8⟩ := mlog53 (e := 39) (by omega) ((a1 _ _ (by omega)).trans t19) hf
    have q : ∀ c i, c ≠ 134 → ¬ (c = 124 ∧ i = 19) → t1 c i = τ c i := fun c i g1 g2 => (a1 _ _ g1).trans (a0 _ _ g2)
    have em : fX10_logs τ (nI f) = some τ' := by
      unfold fX10_logs
      rw [h3, if_pos (show nI 40 = (40 : Int32) from rfl), lt_e2, nI_d1 (by omega), ht0, e2, e3]
    refine ⟨σ', τ', e1, em, (o + 1) % 40, 40, by omega, by omega, w1, w2, u7, fun j hj => ?_⟩
    by_cases cj : j = 39
    · subst cj
      rw [show ((o + 1) % 40 + 39) % 40 = (o + 40) % 40 by omega]
      exact new τ' 39 (u0.trans (q _ _ (by decide) (by omega))) (u1.trans (q _ _ (by decide) (by omega))) (u2.trans (q _ _ (by decide) (by omega))) (u3.trans (q _ _ (by decide) (by omega))) (u4.trans (q _ _ (by decide) (by omega))) (u5.trans (q _ _ (by decide) (by omega))) (u6.trans (q _ _ (by decide) (by omega)))
    · rw [show ((o + 1) % 40 + j) % 40 = (o + (j + 1)) % 40 by omega]
      obtain ⟨g1, g2⟩ := h4 (j + 1) (by omega)
      have sh : ∀ w, w < 7 → τ' 134 (7 * j + w) = τ 134 (7 * (j + 1) + w) := fun w hw => by
        rw [u8 _ (by omega), r1 _ (by omega)]
        congr 1
        omega
      refine ⟨fun w hw => ?_, ?_⟩
      · rw [v5 _ _ (by omega) (by omega) (by omega), sh w (by omega)]
        exact g1 w hw
      · rw [v5 _ _ (by omega) (by omega) (by omega), sh 4 (by omega), sh 6 (by omega)]
        exact g2
  · obtain ⟨τ', e3, u7, u0, u1, u2, u3, u4, u5, u6, u8⟩ := mlog53 (e := e) (by omega) h3 hf
    have em : fX10_logs τ (nI f) = some τ' := by
      unfold fX10_logs
      rw [h3, if_neg (show ¬ nI e = (40 : Int32) from fun hh => c ((eq_i (a := e) (b := 40) (by omega) (by omega)).1 hh)), e3]
    refine ⟨σ', τ', e1, em, o, e + 1, ho, by omega, w1, w2, u7, fun j hj => ?_⟩
    by_cases cj : j = e
    · subst cj
      exact new τ' j u0 u1 u2 u3 u4 u5 u6
    · obtain ⟨g1, g2⟩ := h4 j (by omega)
      refine ⟨fun w hw => ?_, ?_⟩
      · rw [v5 _ _ (by omega) (by omega) (by omega), u8 _ (by omega)]
        exact g1 w hw
      · rw [v5 _ _ (by omega) (by omega) (by omega), u8 _ (by omega), u8 _ (by omega)]
        exact g2
-- a start anew
theorem drw (x : Int32) : ∃ d : Nat, d < 2 ^ 31 ∧ (((x * (1103515245 : Int32)) + (12345 : Int32)) &&& (2147483647 : Int32)) >>> ((16 : Int32) &&& 31) = nI d := by
  obtain ⟨j, hj, e⟩ := pk_andE (x * (1103515245 : Int32) + (12345 : Int32)) (m := 2147483647) 31 (by decide)
  refine ⟨j / 2 ^ 16, Nat.lt_of_le_of_lt (Nat.div_le_self _ _) hj, ?_⟩
  rw [e]
  exact shr_nI (n := 16) hj (by omega)
theorem sa_loop {p : Nat → Nat → Int32} {n k : Nat} {σ τ : Mem} (h : prb p n k σ τ) : ∀ (j i : Nat), i + j = n → ∀ N N', j < N → j < N' → ∀ σ1 τ1, Ag (fun c i => c = 3 ∨ c = 83 ∧ i = 3) σ σ1 → Ag (fun c i => c = 126 ∨ c = 124 ∧ i = 23) τ τ1 → σ1 83 3 = τ1 124 23 → (∀ v, v < n → σ1 3 v = τ1 126 v) → bstOk p n (σ1 3) → ∃ N2 N3 σ2 τ2, fX8_startAnew_L2 N σ1 (nI i) = fX8_startAnew_B2 (fX8_startAnew_L2 N2) σ2 (nI n) ∧ fX10_restarts_L2 N' τ1 (nI i) = fX10_restarts_B2 (fX10_restarts_L2 N3) τ2 (nI n) ∧ Ag (fun c i => c = 3 ∨ c = 83 ∧ i = 3) σ σ2 ∧ Ag (fun c i => c = 126 ∨ c = 124 ∧ i = 23) τ τ2 ∧ σ2 83 3 = τ2 124 23 ∧ (∀ v, v < n → σ2 3 v = τ2 126 v) ∧ bstOk p n (σ2 3) := by
  obtain ⟨hv, hx, hm⟩ := h
  have hn := hv.1
  intro j
  induction j with
  | zero =>
    intro i hi N N' hN hN' σ1 τ1 a a' h1 h2 h3
    obtain ⟨N, rfl, hN⟩ := nsub1 hN
    obtain ⟨N', rfl, hN'⟩ := nsub1 hN'
    have e : i = n := by omega
    subst e
    exact ⟨N, N', σ1, τ1, rfl, rfl, a, a', h1, h2, h3⟩
  | succ j ih =>
    intro i hi N N' hN hN' σ1 τ1 a a' h1 h2 h3
    obtain ⟨N, rfl, hN⟩ := nsub1 hN
    obtain ⟨N', rfl, hN'⟩ := nsub1 hN'
    obtain ⟨s, w, g2, g8, gw, gs, gw1⟩ := sz_of hv (show i < n by omega)
    obtain ⟨d, hd, ed⟩ := drw (σ1 83 3)
    have hdm : nI d - nI d / nI s * nI s = nI (d % s) := pk_rem hd (by omega) (by omega)
    have hds : d % s < s := Nat.mod_lt _ (by omega)
    generalize hsd : ((σ1 83 3) * (1103515245 : Int32) + (12345 : Int32)) &&& (2147483647 : Int32) = sd at ed
    have x2 : σ1 2 i = nI s := (a _ _ (by omega)).trans (((hx.2.2.1 i (by omega)).1).trans gs)
    have m2 : τ1 125 i = nI s := (a' _ _ (by omega)).trans ((hm.1.2.2.1 i (by omega)).trans gs)
    have ss : (mst σ1 83 3 sd) 83 3 = sd := by rw [mst_at, upd_at]
    have ts : (mst τ1 124 23 sd) 124 23 = sd := by rw [mst_at, upd_at]
    have ex : fX8_startAnew_L2 (N + 1) σ1 (nI i) = fX8_startAnew_L2 N (mst (mst σ1 83 3 sd) 3 i (nI (d % s))) (nI (i + 1)) := by
      rw [show fX8_startAnew_L2 (N + 1) = fX8_startAnew_B2 (fX8_startAnew_L2 N) from rfl]
      unfold fX8_startAnew_B2 fX8_startAnew_L46 fX5_nextSeed li ckn
      simp only [lt_e2, bd_some, hsd, ss, ed]
      rw [a 1 7 (by omega), hx.1, if_neg (fun h => absurd ((le_i (by omega) (by omega)).1 h) (by omega)), ck_i (by omega) (by omega), cl_i (by omega), mst_ne _ _ _ (by decide : (2 : Nat) ≠ 83), x2, if_neg (show ¬ nI s ≤ 0 from fun h => absurd ((le_i (a := s) (b := 0) (by omega) (by omega)).1 h) (by omega)), if_neg (nI_ne0 (by omega) (by omega)), ck_i (by omega) (by omega), hdm, nI_s]
    have em : fX10_restarts_L2 (N' + 1) τ1 (nI i) = fX10_restarts_L2 N' (mst (mst τ1 124 23 sd) 126 i (nI (d % s))) (nI (i + 1)) := by
      rw [show fX10_restarts_L2 (N' + 1) = fX10_restarts_B2 (fX10_restarts_L2 N') from rfl]
      unfold fX10_restarts_B2 ckn
      simp only [lt_e2]
      rw [← h1, hsd, ts, ed, a' 124 7 (by omega), hm.1.1, if_neg (fun h => absurd ((le_i (by omega) (by omega)).1 h) (by omega)), ck_i (by omega) (by omega), cl_i (by omega), mst_ne _ _ _ (by decide : (125 : Nat) ≠ 124), m2, if_neg (nI_ne0 (by omega) (by omega)), ck_i (by omega) (by omega), hdm, nI_s]
    rw [ex, em]
    refine ih (i + 1) (by omega) N N' (by omega) (by omega) _ _ (ag_2 a (fun _ _ h => h) (ag_2 (W2 := fun c i => c = 3 ∨ c = 83 ∧ i = 3) (ag_mst (W := fun c i => c = 83 ∧ i = 3) _ _ ⟨rfl, rfl⟩) (fun _ _ h => Or.inr h) (ag_mst (W := fun c _ => c = 3) _ _ rfl) (fun _ _ h => Or.inl h)) (fun _ _ h => h)) (ag_2 a' (fun _ _ h => h) (ag_2 (W2 := fun c i => c = 126 ∨ c = 124 ∧ i = 23) (ag_mst (W := fun c i => c = 124 ∧ i = 23) _ _ ⟨rfl, rfl⟩) (fun _ _ h => Or.inr h) (ag_mst (W := fun c _ => c = 126) _ _ rfl) (fun _ _ h => Or.inl h)) (fun _ _ h => h)) ?_ (fun v hv' => ?_) ?_
    · rw [mst_ne _ _ _ (by decide), ss, mst_ne _ _ _ (by decide), ts]
    · rw [mst_at, mst_at, mst_ne _ _ _ (by decide), mst_ne _ _ _ (by decide)]
      exact upd_cong _ (fun _ => h2 v hv')
    · rw [mst_at, mst_ne _ _ _ (by decide)]
      exact ok_upd h3 (fun s' e' h' => ⟨d % s, by have := nI_inj (by omega) (by omega) (gs.symm.trans e'); omega, rfl⟩)
theorem sa_R {p : Nat → Nat → Int32} {n k it : Nat} {bs : Nat → Int32} {σ τ : Mem} (h : prb p n k σ τ) (hb : bst p n k bs σ τ) (h6 : σ 84 6 = τ 124 18) (h7 : σ 84 7 = nI it) (h7' : τ 124 15 = nI it) (h9 : σ 84 9 = τ 124 17) (h3 : σ 83 3 = τ 124 23) : ∃ σ' τ' r bs', fX8_startAnew σ = some σ' ∧ fX10_restarts τ = some τ' ∧ prb (pv p r) n k σ' τ' ∧ bst (pv p r) n k bs' σ' τ' ∧ τ' 124 13 = cst (pv p r) r n k ∧ cou σ' τ' ∧ σ' 83 3 = τ' 124 23 ∧ ban n (fun _ _ => 0) it σ' τ' := by
  have h0 := h
  obtain ⟨hv, hx, hm⟩ := h
  have hn := hv.1
  have ok3 : bstOk p n (σ 3) := fun v hv' => by
    obtain ⟨s, w, g1, g2, g3, g4, g5⟩ := hv.2.2.1 v hv'
    exact ⟨s, w, g1, g2, g3, g4, (hx.2.2.1 v hv').2.trans g5⟩
  obtain ⟨N2, N3, σ1, τ1, e1, e2, a1, a2, k1, k2, k3⟩ := sa_loop h0 n 0 (by omega) FU FU (FU_lt (by omega)) (FU_lt (by omega)) σ τ ag_r ag_r h3 (fun v hv' => (hx.2.2.1 v hv').2.trans (hm.2 v hv').symm) ok3
  rw [nI_0] at e1 e2
  -- frees
  have ef := free_eq σ1
  have eg := allows_eq τ1
  generalize hs2 : mr σ1 88 98 (fun c => fillF (σ1 c) 8 0) = s2 at ef
  generalize ht2 : mw τ1 133 (fillF (τ1 133) 80 (-1)) = t2 at eg
  have af := fq_X8_freeAll ef
  have ag := fq_X10_allowsAll eg
  generalize hs3 : mst (mst s2 84 8 0) 84 9 (s2 84 9 + 1) = s3
  generalize ht3 : mst (mst t2 124 16 0) 124 17 (t2 124 17 + 1) = t3
  have as3 : Ag (fun c i => c = 84 ∧ i = 8 ∨ c = 84 ∧ i = 9) s2 s3 := by
    rw [← hs3]
    exact ag_2 (ag_mst (W := fun c i => c = 84 ∧ i = 8) _ _ ⟨rfl, rfl⟩) (fun _ _ h => Or.inl h) (ag_mst (W := fun c i => c = 84 ∧ i = 9) _ _ ⟨rfl, rfl⟩) (fun _ _ h => Or.inr h)
  have at3 : Ag (fun c i => c = 124 ∧ i = 16 ∨ c = 124 ∧ i = 17) t2 t3 := by
    rw [← ht3]
    exact ag_2 (ag_mst (W := fun c i => c = 124 ∧ i = 16) _ _ ⟨rfl, rfl⟩) (fun _ _ h => Or.inl h) (ag_mst (W := fun c i => c = 124 ∧ i = 17) _ _ ⟨rfl, rfl⟩) (fun _ _ h => Or.inr h)
  have ax : Ag (fun c i => c = 3 ∨ c = 83 ∧ i = 3 ∨ c = 84 ∧ i = 8 ∨ c = 84 ∧ i = 9 ∨ 88 ≤ c ∧ c < 98) σ s3 := ag_2 a1 (fun _ _ _ => by omega) (ag_2 (W2 := fun c i => c = 84 ∧ i = 8 ∨ c = 84 ∧ i = 9 ∨ 88 ≤ c ∧ c < 98) af (fun _ _ _ => by omega) as3 (fun _ _ _ => by omega)) (fun _ _ _ => by omega)
  have am : Ag (fun c i => c = 126 ∨ c = 124 ∧ i = 23 ∨ c = 124 ∧ i = 16 ∨ c = 124 ∧ i = 17 ∨ c = 133) τ t3 := ag_2 a2 (fun _ _ _ => by omega) (ag_2 (W2 := fun c i => c = 124 ∧ i = 16 ∨ c = 124 ∧ i = 17 ∨ c = 133) ag (fun _ _ _ => by omega) at3 (fun _ _ _ => by omega)) (fun _ _ _ => by omega)
  have s33 : ∀ v, s3 3 v = σ1 3 v := fun v => (as3 _ _ (by omega)).trans (af _ _ (by omega))
  have t36 : ∀ v, t3 126 v = τ1 126 v := fun v => (at3 _ _ (by omega)).trans (ag _ _ (by omega))
  have hv' : vld (pv p (σ1 3)) n k := vld_pv hv k3
  have hx' : isX 1 s3 (pv p (σ1 3)) n k := isX_pv hx ax (fun _ _ _ => by omega) (fun v _ => s33 v)
  have hm' : isM t3 (pv p (σ1 3)) n k := isM_pv hm.1 am (fun _ _ _ => by omega) (fun v hv' => (t36 v).trans (k2 v hv').symm)
  have hb' : bst (pv p (σ1 3)) n k bs s3 t3 := bst_pv (bst_tr hb ax (fun _ _ _ => by omega) am (fun _ _ _ => by omega))
  obtain ⟨s4, e4, a4⟩ := xcostP (q := 3) (by decide) hv' hx' (row := σ1 3) (fun v _ => s33 v) (bst_sml k3)
  have hp4 : prb (pv p (σ1 3)) n k s4 t3 := ⟨hv', isX_ag hx' a4 (fun _ _ _ => by omega), hm'⟩
  have hb4 : bst (pv p (σ1 3)) n k bs s4 t3 := bst_tr hb' a4 (fun _ _ _ => by omega) (ag_r (W := Wn)) (fun _ _ _ => by omega)
  have ax4 : Ag (fun c i => c = 3 ∨ c = 8 ∨ c = 83 ∧ i = 3 ∨ c = 84 ∧ i = 8 ∨ c = 84 ∧ i = 9 ∨ 88 ≤ c ∧ c < 98) σ s4 := ag_2 ax (fun _ _ _ => by omega) a4 (fun _ _ _ => by omega)
  obtain ⟨b, s5, t5, bs', e5, e6, hb5, h65, h13, -⟩ := kib_R hp4 hb4 ((ax4 _ _ (by omega)).trans (h6.trans (am _ _ (by omega)).symm)) ((ax4 _ _ (by omega)).trans (h7.trans (h7'.symm.trans (am _ _ (by omega)).symm)))
  have a5 := fq_X8_keepIfBest e5
  have a6 := fq_X10_counts e6
  have s29 : s2 84 9 = σ 84 9 := (af _ _ (by omega)).trans (a1 _ _ (by omega))
  have t27 : t2 124 17 = τ 124 17 := (ag _ _ (by omega)).trans (a2 _ _ (by omega))
  refine ⟨s5, t5, σ1 3, bs', ?_, ?_, prb_tr hp4 a5 (fun _ _ _ => by omega) a6 (fun _ _ _ => by omega), hb5, h13, ⟨h65, ?_, ?_⟩, ?_, ?_, ?_, fun v a hv' ha => ⟨Nat.zero_le _, ?_, ?_⟩⟩
  · refine (show fX8_startAnew σ = _ from e1).trans ?_
    unfold fX8_startAnew_B2
    rw [a1 1 7 (by omega), hx.1, if_pos ((le_i (by omega) (by omega)).2 (Nat.le_refl _)), ef, bv_some, lt_e2, lt_e2, show (mst s2 84 8 0) 84 9 = s2 84 9 by rw [mst_at, upd_ne _ _ (by decide)], hs3, e4, bd_some, show cst (pv p (σ1 3)) (σ1 3) n k = cst (pv p (σ1 3)) (pv p (σ1 3) 1) n k from rfl, e5, bd_some]
  · refine (show fX10_restarts τ = _ from e2).trans ?_
    unfold fX10_restarts_B2
    rw [a2 124 7 (by omega), hm.1.1, if_pos ((le_i (by omega) (by omega)).2 (Nat.le_refl _)), eg, bv_some, lt_e2, lt_e2, show (mst t2 124 16 0) 124 17 = t2 124 17 by rw [mst_at, upd_ne _ _ (by decide)], ht3, e6, bv_some]
  · refine (a5 _ _ (by omega)).trans ((a4 _ _ (by omega)).trans (Eq.trans ?_ (a6 _ _ (by omega)).symm))
    rw [← hs3, ← ht3, mst_at, upd_ne _ _ (by decide), mst_at, upd_at, mst_at, upd_ne _ _ (by decide), mst_at, upd_at]
  · refine (a5 _ _ (by omega)).trans ((a4 _ _ (by omega)).trans (Eq.trans ?_ (a6 _ _ (by omega)).symm))
    rw [← hs3, ← ht3, mst_at, upd_at, mst_at, upd_at, s29, t27, h9]
  · exact (a5 _ _ (by omega)).trans ((a4 _ _ (by omega)).trans ((as3 _ _ (by omega)).trans ((af _ _ (by omega)).trans (k1.trans (((a6 _ _ (by omega)).trans ((at3 _ _ (by omega)).trans (ag _ _ (by omega)))).symm)))))
  · exact (a5 _ _ (by omega)).trans ((ax4 _ _ (by omega)).trans h7)
  · exact (a6 _ _ (by omega)).trans ((am _ _ (by omega)).trans h7')
  · refine (a5 _ _ (by omega)).trans ((a4 _ _ (by omega)).trans ((as3 _ _ (by omega)).trans ?_))
    rw [← hs2, mr_in _ _ (by omega)]
    exact if_pos ha
  · refine (a6 _ _ (by omega)).trans ((at3 _ _ (by omega)).trans ?_)
    rw [← ht2, mw_at]
    exact (if_pos (by omega)).trans (show (-1 : Int32) = nI 0 - 1 by decide)
