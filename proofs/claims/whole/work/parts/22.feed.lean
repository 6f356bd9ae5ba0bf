/-! 22.feed: feed, count -/
theorem Go_tsw {C : pt_C} {t : Nat → Option pt_O} {Q : pt_Q} {pc : Nat} {lo : Int} {d : Nat} {ts : List Nat} {L : pt_L} {S : pt_S} {m : pt_M} {x : Int32} (ho : t pc = some (o_tsw lo d ts)) (tg : Nat) (e : pt_tsw lo d ts x = tg) (h : Go C t Q tg L S m) : Go C t Q pc L (zI x :: S) m := by
  refine Go_step ho (fun _ _ _ _ h => h) ?_
  show Go C t Q (pt_tsw lo d ts x) L S m
  rw [e]
  exact h
theorem pt_tsw_d {d n : Nat} {ts : List Nat} {x : Int32} (hl : ts.length = n) (hn : n < 2 ^ 31) (h : ¬ (0 ≤ x ∧ x < nI n)) : pt_tsw 0 d ts x = d := by
  unfold pt_tsw
  by_cases c : x.toInt < 0
  · rw [if_pos c]
  · rw [if_neg c, List.getD_eq_getElem?_getD, List.getElem?_eq_none, Option.getD_none]
    have c0 : 0 ≤ x := by rw [Int32.le_iff_toInt_le]; exact Int.not_lt.mp c
    have c1 : ¬ x < nI n := fun q => h ⟨c0, q⟩
    rw [Int32.lt_iff_toInt_lt, nI_toInt hn] at c1
    omega
theorem pt_tsw_n {d j : Nat} {ts : List Nat} (hj : j < 2 ^ 31) : pt_tsw 0 d ts (nI j) = ts.getD j d := by
  unfold pt_tsw
  rw [nI_toInt hj, if_neg (by omega)]
  congr 1
/-! feed -/
def byt (w : Int64) (i : Nat) : Int32 := ((w.toUInt64 >>> ((8 * nI i).toInt64.toUInt64 &&& Int64.toUInt64 63)).toInt64).toInt32 &&& 255
theorem byt_m (w : Int64) {i : Nat} (hi : i < 8) : ((w >>> ((8 * nI i).toInt64 &&& 63)) &&& 255).toInt32 = byt w i := by
  unfold byt
  have e1 : ∀ i, i < 8 → ((8 * nI i).toInt64.toUInt64 &&& Int64.toUInt64 63).toBitVec.toNat = 8 * i := by decide
  have e2 : ∀ i, i < 8 → (((8 * nI i).toInt64 &&& 63).toBitVec.smod 64).toNat = 8 * i := by decide
  have h1 := e1 i hi
  have h2 := e2 i hi
  apply Int32.toBitVec_inj.mp
  apply BitVec.eq_of_getLsbD_eq
  intro j hj
  rw [Int64.toBitVec_toInt32, Int64.toBitVec_and, Int64.toBitVec_shiftRight, Int32.toBitVec_and, Int64.toBitVec_toInt32]
  have e3 : (w.toUInt64 >>> ((8 * nI i).toInt64.toUInt64 &&& Int64.toUInt64 63)).toInt64.toBitVec = w.toBitVec >>> (8 * i) := by
    show (w.toUInt64 >>> ((8 * nI i).toInt64.toUInt64 &&& Int64.toUInt64 63)).toBitVec = _
    rw [UInt64.toBitVec_shiftRight]
    show w.toBitVec >>> (((8 * nI i).toInt64.toUInt64 &&& Int64.toUInt64 63).toBitVec % 64) = _
    rw [BitVec.ushiftRight_eq', BitVec.toNat_umod, h1]
    congr 1
    show 8 * i % 64 = 8 * i
    omega
  rw [e3, BitVec.sshiftRight', h2]
  have e4 : (Int64.toBitVec 255).getLsbD j = decide (j < 8) := by
    have : ∀ j, j < 32 → (Int64.toBitVec 255).getLsbD j = decide (j < 8) := by decide
    exact this j hj
  have e5 : (Int32.toBitVec 255).getLsbD j = decide (j < 8) := by
    have : ∀ j, j < 32 → (Int32.toBitVec 255).getLsbD j = decide (j < 8) := by decide
    exact this j hj
  rw [BitVec.getLsbD_and, BitVec.getLsbD_signExtend, BitVec.getLsbD_signExtend, BitVec.getLsbD_and, e4, e5, if_pos (by omega), if_pos (by omega), BitVec.getLsbD_ushiftRight, BitVec.getLsbD_sshiftRight]
  by_cases c : j < 8
  · rw [if_pos (by omega)]
    simp [hj, c]
    omega
  · simp [c]
theorem byt_r (w : Int64) (i : Nat) : 0 ≤ byt w i ∧ byt w i ≤ 255 := by
  obtain ⟨j, hj, e⟩ := pk_andE (((w.toUInt64 >>> ((8 * nI i).toInt64.toUInt64 &&& Int64.toUInt64 63)).toInt64).toInt32) (m := 255) 8 (by decide)
  have e2 : byt w i = nI j := e
  rw [e2]
  exact ⟨nI_pos' (by omega), nI_le (b := 255) (by omega) (by omega)⟩
abbrev pt_tp : Type := Nat × (Nat → Int32)
def fdT (w : Int64) : Nat → pt_tp → pt_tp
  | 0, T => T
  | r + 1, T => fdT w r (T.1 + 1, fun k => if k = T.1 then byt w r else T.2 k)
theorem fdT_1 (w : Int64) : ∀ (r : Nat) (T : pt_tp), (fdT w r T).1 = T.1 + r
  | 0, T => rfl
  | r + 1, T => by
    show (fdT w r _).1 = _
    rw [fdT_1 w r]
    show T.1 + 1 + r = _
    omega
theorem fdT_ok (w : Int64) : ∀ (r : Nat) (T : pt_tp), T.1 + r ≤ 400 → OkT T → OkT (fdT w r T)
  | 0, T, _, h => h
  | r + 1, T, hn, h => by
    refine fdT_ok w r _ (by show T.1 + 1 + r ≤ 400; omega) ⟨by show T.1 + 1 ≤ 400; omega, fun i hi => ?_⟩
    replace hi : i < T.1 + 1 := hi
    show 0 ≤ (if i = T.1 then byt w r else T.2 i) ∧ (if i = T.1 then byt w r else T.2 i) ≤ 255
    by_cases e : i = T.1
    · rw [if_pos e]; exact byt_r w r
    · rw [if_neg e]; exact h.2 i (by omega)
noncomputable def feedX (a : pt_al) (w : Int64) (n : Int32) : pt_al × Int32 := cif (1 ≤ n ∧ n ≤ 8) (cif ((aT a).1 + xN n ≤ 400) (uT a (fdT w (xN n) (aT a)), nI ((aT a).1 + xN n)) (a, -1000003)) (a, -1000001)
theorem feedX_ok {a : pt_al} (O : OK a) (w : Int64) (n : Int32) : OK (feedX a w n).1 := by
  unfold feedX
  by_cases c : 1 ≤ n ∧ n ≤ 8
  · rw [cif_t c]
    by_cases c2 : (aT a).1 + xN n ≤ 400
    · rw [cif_t c2]
      obtain ⟨o1, o2, o3, o4, o5, o6⟩ := O
      exact ⟨o1, o2, o3, o4, fdT_ok w _ _ c2 o5, o6⟩
    · rw [cif_f c2]; exact O
  · rw [cif_f c]; exact O
theorem cTp_add {m : pt_M} {T : pt_tp} {v x : Int32} (h : cTp m T) (hx : x = nI (T.1 + 1)) : cTp (st (st m 18 0 x) 19 T.1 v) (T.1 + 1, fun k => if k = T.1 then v else T.2 k) := by
  refine ⟨by rw [st_eq, if_neg (by omega), st_eq, if_pos ⟨rfl, rfl⟩, hx], fun i hi => ?_⟩
  replace hi : i < T.1 + 1 := hi
  show _ = if i = T.1 then v else T.2 i
  rw [st_eq]
  by_cases e : i = T.1
  · rw [if_pos ⟨rfl, e⟩, if_pos e]
  · rw [if_neg (fun q => e q.2), if_neg e, st_eq, if_neg (by omega)]
    exact h.2 i (by omega)
def Tfd : Nat → Nat → Prop := fun o k => (o = 18 ∧ k = 0) ∨ o = 19
theorem c_add {d : Nat} {Q : pt_Q} {m : pt_M} {k : Nat} {v : Int32} (hk : k < 400) (h0 : m 18 0 = nI k) (h : Q none (st (st m 18 0 (nI (k + 1))) 19 k v)) : Sp (d + 1) nX5_add [zR 5 18, zI v] m Q := by
  refine sX5_add ?_
  refine Go_rn [] 100 ?_
  refine br_f (by show ¬ nI 400 ≤ m 18 0; rw [h0]; exact nI_ge hk (by omega)) ?_
  refine ⟨k, h0, hk, ?_⟩
  show Q none (st (st m 18 0 (m 18 0 + 1)) 19 k v)
  rw [h0, nI_1]
  exact h
theorem rm1 (r : Nat) : nI r + -1 = nI r - 1 := by grind
theorem c_feed_l {d : Nat} {Q : pt_Q} {w : Int64} {n : Int32} {g : Option pt_V} : ∀ (r : Nat) (T : pt_tp) (x : Int32) (m : pt_M), T.1 + r ≤ 400 → r ≤ 8 → x = nI r - 1 → cTp m T → (∀ m1, fr Tfd m m1 → cTp m1 (fdT w r T) → Q (some (zI (nI (T.1 + r)))) m1) →
    Go (Sp (d + 1)) tX6_feed Q 37 [some (zR 6 0), some (zL w), g, some (zI n), some (zI x)] [] m := by
  intro r
  induction r with
  | zero =>
    intro T x m hl h8 hx hT h
    refine Go_rn [] 100 ?_
    refine br_t (by rw [hx]; decide) ?_
    exact qe hT.1 (h m fr_rf hT)
  | succ r ih =>
    intro T x m hl h8 hx hT h
    rw [nI_pred] at hx
    subst hx
    refine Go_rn [37] 100 ?_
    refine br_f (nI_pos (by omega)) ?_
    refine c_add (by omega) hT.1 ?_
    have e9 : (8 : Int32) * nI r = 8 * nI r := rfl
    refine ih _ _ _ (by show T.1 + 1 + r ≤ 400; omega) (by omega) (rm1 r) (cTp_add hT rfl) (fun m1 f1 t1 => ?_)
    have := h m1 (fun o k ho => by
      unfold Tfd at ho
      rw [f1 o k ho, st_eq, if_neg (by omega), st_eq, if_neg (by omega)]) t1
    rw [show T.1 + (r + 1) = T.1 + 1 + r by omega] at this
    exact this
theorem C_feed {d : Nat} {Q : pt_Q} {m : pt_M} {a : pt_al} (O : OK a) (hC : IC m a) {w : Int64} {n : Int32} (h : ∀ m1, kM m m1 → IC m1 (feedX a w n).1 → Q (some (zI (feedX a w n).2)) m1) : Sp (d + 4) nX6_feed [zR 6 0, zL w, zI n] m Q := by
  have hT := hC.2.2.2.2.1
  have h400 := O.2.2.2.2.1.1
  unfold feedX at h
  refine sX6_feed ?_
  refine Go_rn [37] 100 ?_
  refine ⟨fun c => ?_, fun c => ⟨fun c2 => ?_, fun c2 => ?_⟩⟩
  · rw [cif_f (by grind)] at h
    exact h m kM_rf hC
  · have c3 : 1 ≤ n ∧ n ≤ 8 := by grind
    rw [cif_t c3] at h
    obtain ⟨n1, hn, rfl⟩ := ixof (x := n) (n := 9) (by grind) (by show n < 9; grind) (by omega)
    rw [xN_nI (by omega)] at h
    refine ⟨fun c4 => ?_, fun c4 => ?_⟩
    · have c5 : nI ((aT a).1 + n1) ≤ nI 400 := by rw [← nI_add, ← hT.1]; exact c4
      rw [nI_leI (by omega) (by omega)] at c5
      rw [cif_t c5] at h
      refine c_feed_l (g := none) n1 _ _ m c5 (by omega) rfl hT (fun m1 f1 t1 => ?_)
      refine h m1 (fun o k ho => f1 o k (by unfold Tfd; omega)) (IC_uT hC t1 (fun o k _ q => f1 o k q))
    · have c5 : ¬ nI ((aT a).1 + n1) ≤ nI 400 := by rw [← nI_add, ← hT.1]; exact c4
      rw [nI_leI (by omega) (by omega)] at c5
      rw [cif_f c5] at h
      exact h m kM_rf hC
  · rw [cif_f (by grind)] at h
    exact h m kM_rf hC
theorem mTp_add {m : pt_M} {T : pt_tp} {v x : Int32} (h : mTp m T) (hx : x = nI (T.1 + 1)) : mTp (st (st m 150 T.1 v) 143 10 x) (T.1 + 1, fun k => if k = T.1 then v else T.2 k) := by
  refine ⟨by rw [st_eq, if_pos ⟨rfl, rfl⟩, hx], fun i hi => ?_⟩
  replace hi : i < T.1 + 1 := hi
  show _ = if i = T.1 then v else T.2 i
  rw [st_eq, if_neg (by omega), st_eq]
  by_cases e : i = T.1
  · rw [if_pos ⟨rfl, e⟩, if_pos e]
  · rw [if_neg (fun q => e q.2), if_neg e]
    exact h.2 i (by omega)
def Tmfd : Nat → Nat → Prop := fun o k => (o = 143 ∧ k = 10) ∨ o = 150
theorem m_feed_l {d : Nat} {Q : pt_Q} {w : Int64} {n : Int32} {g : Option pt_V} : ∀ (r : Nat) (T : pt_tp) (x : Int32) (m : pt_M), T.1 + r ≤ 400 → r ≤ 8 → x = nI r - 1 → mTp m T → (∀ m1, fr Tmfd m m1 → mTp m1 (fdT w r T) → Q (some (zI (nI (T.1 + r)))) m1) →
    Go (Sp d) tX7_feed Q 40 [some (zR 7 143), some (zL w), g, some (zI n), some (zI x)] [] m := by
  intro r
  induction r with
  | zero =>
    intro T x m hl h8 hx hT h
    refine Go_rn [] 100 ?_
    refine br_t (by rw [hx]; decide) ?_
    exact qe hT.1 (h m fr_rf hT)
  | succ r ih =>
    intro T x m hl h8 hx hT h
    rw [nI_pred] at hx
    subst hx
    refine Go_rn [40] 100 ?_
    refine br_f (nI_pos (by omega)) ?_
    refine ⟨T.1, hT.1, by omega, ?_⟩
    show Go (Sp d) tX7_feed Q 40 [some (zR 7 143), some (zL w), g, some (zI n), some (zI (nI r + -1))] [] (st (st m 150 T.1 ((w >>> ((8 * nI r).toInt64 &&& 63)) &&& 255).toInt32) 143 10 (st m 150 T.1 ((w >>> ((8 * nI r).toInt64 &&& 63)) &&& 255).toInt32 143 10 + 1))
    rw [byt_m w (by omega)]
    refine ih _ _ _ (by show T.1 + 1 + r ≤ 400; omega) (by omega) (rm1 r) (mTp_add hT (by rw [st_eq, if_neg (by omega), hT.1, nI_1])) (fun m1 f1 t1 => ?_)
    have := h m1 (fun o k ho => by
      unfold Tmfd at ho
      rw [f1 o k ho, st_eq, if_neg (by omega), st_eq, if_neg (by omega)]) t1
    rw [show T.1 + (r + 1) = T.1 + 1 + r by omega] at this
    exact this
theorem M_feed {d : Nat} {Q : pt_Q} {m : pt_M} {a : pt_al} (O : OK a) (hM : IM m a) {w : Int64} {n : Int32} (h : ∀ m1, kC m m1 → IM m1 (feedX a w n).1 → Q (some (zI (feedX a w n).2)) m1) : Sp (d + 4) nX7_feed [zR 7 143, zL w, zI n] m Q := by
  obtain ⟨t1, t2⟩ := IM_th hM
  have hT := t1.2.2.2.2.1
  have h400 := O.2.2.2.2.1.1
  unfold feedX at h
  refine sX7_feed ?_
  refine Go_rn [40] 100 ?_
  refine m_inI (lo := 1) (hi := 8) (by decide) (by decide) (fun c3 => ?_) (fun c3 => ?_)
  · refine br_f (by decide) ?_
    rw [cif_t c3] at h
    obtain ⟨n1, hn, rfl⟩ := ixof (x := n) (n := 9) (by grind) (by show n < 9; grind) (by omega)
    rw [xN_nI (by omega)] at h
    refine ⟨fun c4 => ?_, fun c4 => ?_⟩
    · have c5 : nI ((aT a).1 + n1) ≤ nI 400 := by rw [← nI_add, ← hT.1]; exact c4
      rw [nI_leI (by omega) (by omega)] at c5
      rw [cif_t c5] at h
      refine m_feed_l (g := none) n1 _ _ _ c5 (by omega) rfl hT (fun m1 f1 t3 => ?_)
      refine h m1 (kC_tr t2 (fun o k ho => f1 o k (by unfold Tmfd; omega))) (IM_uT t1 t3 (fun o k _ q => f1 o k q))
    · have c5 : ¬ nI ((aT a).1 + n1) ≤ nI 400 := by rw [← nI_add, ← hT.1]; exact c4
      rw [nI_leI (by omega) (by omega)] at c5
      rw [cif_f c5] at h
      exact h _ t2 t1
  · refine br_t rfl ?_
    rw [cif_f c3] at h
    exact h _ t2 t1
