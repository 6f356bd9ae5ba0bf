/-! 28d.acts: undo, image, restore -/
noncomputable def undoX (a : pt_al) : pt_al × Int32 := cif ((aA a).1 = 0) (a, -1000002) (uSA a ((aA a).2 ((aA a).1 - 1)) ((aA a).1 - 1, (aA a).2), nI ((aA a).1 - 1))
theorem undoX_ok {a : pt_al} (O : OK a) : OK (undoX a).1 := by
  unfold undoX
  by_cases c : (aA a).1 = 0
  · rw [cif_t c]; exact O
  · rw [cif_f c]
    obtain ⟨o1, o2, o3, o4, o5, o6⟩ := O
    have := o2.1
    refine ⟨o2.2 _ (by omega), ⟨by show (aA a).1 - 1 ≤ 24; omega, fun i hi => o2.2 i ?_⟩, o3, o4, o5, o6⟩
    replace hi : i < (aA a).1 - 1 := hi
    omega
theorem c_undo_e {d : Nat} {Q : pt_Q} {m : pt_M} {nx na : Nat} {A : Nat → pt_sg} {v : Int32} (hnx : nx < 24) (hna : na < 24) (h0 : m 28 0 = nI (na + 1)) (hv : v = nI ((nx + 23) % 24)) (hA : ∀ i, i < na + 1 → RC m (30 + 4 * ((nx + 24 - (na + 1) + i) % 24)) (A i)) (hO : OkS (A na))
    (h : ∀ m1, fr (fun o _ => 24 ≤ o ∧ o ≤ 28) m m1 → RC m1 24 (A na) → cA m1 (na, A) → Q none m1) : Go (Sp (d + 1)) tX0_undoLatest Q 19 [some (zR 0 28), some (zR 4 24)] [zI v, zR 0 28] m := by
  subst hv
  refine Go_rn [] 100 ?_
  refine ⟨(nx + 23) % 24, by show st m 28 1 _ 28 1 = _; rw [st_eq, if_pos ⟨rfl, rfl⟩], by omega, ?_⟩
  refine c_become (by omega) (fun m1 f1 g1 => ?_)
  have hr := g1 (A na) hO ?_
  · have z0 : m1 28 0 - 1 = nI na := by
      rw [f1 28 0 (by omega), st_eq, if_neg (by omega), h0]
      exact nI_pred na
    refine h _ (fun o k ho => ?_) (RC_fr hr (fun o k g1 g2 => by rw [st_eq, if_neg (by omega)])) ⟨?_, (nx + 23) % 24, by omega, ?_, fun i hi => ?_⟩
    · rw [st_eq, if_neg (by omega), f1 o k (by omega), st_eq, if_neg (by omega)]
    · rw [st_eq, if_pos ⟨rfl, rfl⟩]; exact z0
    · rw [st_eq, if_neg (by omega), f1 28 1 (by omega), st_eq, if_pos ⟨rfl, rfl⟩]
    · replace hi : i < na := hi
      have := hA i (by omega)
      show RC _ (30 + 4 * (((nx + 23) % 24 + 24 - na + i) % 24)) (A i)
      rw [show ((nx + 23) % 24 + 24 - na + i) % 24 = (nx + 24 - (na + 1) + i) % 24 by omega]
      exact RC_fr this (fun o k g1 g2 => by rw [st_eq, if_neg (by omega), f1 o k (by omega), st_eq, if_neg (by omega)])
  · have := hA na (by omega)
    rw [show (nx + 24 - (na + 1) + na) % 24 = (nx + 23) % 24 by omega] at this
    rw [show 29 + 1 + 4 * ((nx + 23) % 24) = 30 + 4 * ((nx + 23) % 24) by omega]
    exact RC_fr this (fun o k g1 g2 => by rw [st_eq, if_neg (by omega)])
theorem C_undo {d : Nat} {Q : pt_Q} {m : pt_M} {a : pt_al} (O : OK a) (hC : IC m a) (h : ∀ m1, kM m m1 → IC m1 (undoX a).1 → Q (some (zI (undoX a).2)) m1) : Sp (d + 4) nX6_undo [zR 6 0] m Q := by
  unfold undoX at h
  obtain ⟨e1, nx, e2, e3, e4⟩ := hC.2.1
  have hna := O.2.1.1
  refine sX6_undo ?_
  refine Go_rn [] 100 ?_
  refine ⟨fun c => ?_, fun c => ?_⟩
  · have c1 : nI (aA a).1 = nI 0 := e1.symm.trans c
    have c2 := nI_inj c1 (by omega) (by omega)
    rw [cif_t c2] at h
    exact h m kM_rf hC
  · have c2 : ¬ (aA a).1 = 0 := fun q => c (e1.trans (by rw [q]; rfl))
    rw [cif_f c2] at h
    obtain ⟨n1, hn1⟩ : ∃ n1, (aA a).1 = n1 + 1 := ⟨(aA a).1 - 1, by omega⟩
    rw [hn1] at h e1 e4 hna
    rw [show n1 + 1 - 1 = n1 by omega] at h
    have fin : ∀ m1, fr (fun o _ => 24 ≤ o ∧ o ≤ 28) m m1 → RC m1 24 ((aA a).2 n1) → cA m1 (n1, (aA a).2) → Q (some (zI (m1 28 0))) m1 := fun m1 f1 r1 a1 =>
      qe a1.1 (h m1 (fun o k ho => f1 o k (by omega)) (IC_uSA hC r1 a1 (fun o k _ q => f1 o k (by omega))))
    refine sX0_undoLatest ?_
    refine Go_rn [19] 100 ?_
    refine ⟨fun c3 => ?_, fun c3 => ?_⟩
    · have c4 : nI nx ≤ nI 0 := by rw [← e3]; exact c3
      have c5 : nx = 0 := Nat.le_zero.mp ((nI_leI (by omega) (by omega)).mp c4)
      subst c5
      refine c_undo_e (d := d + 1) e2 (by omega) e1 rfl e4 (O.2.1.2 n1 (by omega)) (fun m1 f1 r1 a1 => fin m1 f1 r1 a1)
    · have c4 : ¬ nI nx ≤ nI 0 := by rw [← e3]; exact c3
      have c5 : 0 < nx := by
        rcases Nat.eq_zero_or_pos nx with q | q
        · exact absurd (by rw [q]; exact nI_le (Nat.le_refl _) (by omega)) c4
        · exact q
      refine c_undo_e (d := d + 1) e2 (by omega) e1 ?_ e4 (O.2.1.2 n1 (by omega)) (fun m1 f1 r1 a1 => fin m1 f1 r1 a1)
      obtain ⟨n2, rfl⟩ : ∃ n2, nx = n2 + 1 := ⟨nx - 1, by omega⟩
      show m 28 1 - 1 = _
      rw [e3, nI_pred, show (n2 + 1 + 23) % 24 = n2 by omega]
theorem M_undo {d : Nat} {Q : pt_Q} {m : pt_M} {a : pt_al} (O : OK a) (hM : IM m a) (h : ∀ m1, kC m m1 → IM m1 (undoX a).1 → Q (some (zI (undoX a).2)) m1) : Sp (d + 4) nX7_undo [zR 7 143] m Q := by
  obtain ⟨t1, t2⟩ := IM_th hM
  unfold undoX at h
  obtain ⟨e1, e4⟩ := t1.2.1
  have hna := O.2.1.1
  refine sX7_undo ?_
  refine Go_rn [27] 100 ?_
  refine ⟨fun c => ?_, fun c => ?_⟩
  · have c1 : nI (aA a).1 = nI 0 := e1.symm.trans c
    have c2 := nI_inj c1 (by omega) (by omega)
    rw [cif_t c2] at h
    exact h _ t2 t1
  · have c2 : ¬ (aA a).1 = 0 := fun q => c (e1.trans (by rw [q]; rfl))
    rw [cif_f c2] at h
    obtain ⟨n1, hn1⟩ : ∃ n1, (aA a).1 = n1 + 1 := ⟨(aA a).1 - 1, by omega⟩
    rw [hn1] at h e1 e4 hna
    rw [show n1 + 1 - 1 = n1 by omega] at h
    refine m_undo_c (na := n1) (f := (aA a).2 n1) (by omega) 78 0 _ _ (by omega) rfl (by rw [st_eq, if_pos ⟨rfl, rfl⟩]; show st m 143 0 0 143 8 - 1 = _; rw [e1]; exact nI_pred n1) (fun j hj => by rw [st_eq, if_neg (by omega)]; exact e4 n1 (by omega) j hj) (fun j hj => by omega) (fun m1 f1 r1 => ?_)
    refine Go_rn [] 100 ?_
    have z8 : m1 143 8 = nI n1 := by
      rw [f1 _ _ (by omega), st_eq, if_pos ⟨rfl, rfl⟩]
      show st m 143 0 0 143 8 - 1 = _
      rw [e1]
      exact nI_pred n1
    refine qe z8 (h m1 (kC_tr t2 (fun o k ho => by rw [f1 _ _ (by omega), st_eq, if_neg (by omega)])) (IM_uSA t1 r1 ⟨z8, fun i hi => ?_⟩ (fun o k _ q => by rw [f1 _ _ (by omega), st_eq, if_neg (by omega)])))
    replace hi : i < n1 := hi
    exact RM_fr (e4 i (by omega)) (fun k _ _ => by rw [f1 _ _ (by omega), st_eq, if_neg (by omega)])
noncomputable def imageX (a : pt_al) (k : Int32) : pt_al × Int32 := cif (0 ≤ k ∧ k ≤ 1) (cif (sw (aS a) = 0) (a, -1000002) (uI a (fun j => if j = xN k then some (aS a) else aI a j), 1)) (a, -1000001)
theorem imageX_ok {a : pt_al} (O : OK a) (k : Int32) : OK (imageX a k).1 := by
  unfold imageX
  by_cases c : 0 ≤ k ∧ k ≤ 1
  · rw [cif_t c]
    by_cases c2 : sw (aS a) = 0
    · rw [cif_t c2]; exact O
    · rw [cif_f c2]
      obtain ⟨o1, o2, o3, o4, o5, o6⟩ := O
      refine ⟨o1, o2, fun j hj τ e => ?_, o4, o5, o6⟩
      have e9 : (if j = xN k then some (aS a) else aI a j) = some τ := e
      by_cases e2 : j = xN k
      · rw [if_pos e2] at e9
        cases e9
        exact ⟨o1, by omega⟩
      · rw [if_neg e2] at e9
        exact o3 j hj τ e9
  · rw [cif_f c]; exact O
theorem C_image {d : Nat} {Q : pt_Q} {m : pt_M} {a : pt_al} (O : OK a) (hC : IC m a) {k : Int32} (h : ∀ m1, kM m m1 → IC m1 (imageX a k).1 → Q (some (zI (imageX a k).2)) m1) : Sp (d + 4) nX6_image [zR 6 0, zI k] m Q := by
  unfold imageX at h
  refine sX6_image ?_
  refine Go_rn [] 100 ?_
  refine ⟨fun c => ?_, fun c => ⟨fun c2 => ?_, fun c2 => ?_⟩⟩
  · rw [cif_f (by grind)] at h
    exact h m kM_rf hC
  · rw [cif_t (by grind)] at h
    obtain ⟨k1, hk1, rfl⟩ := ixof (x := k) (n := 2) (by grind) c2 (by omega)
    rw [xN_nI (by omega)] at h
    refine ⟨fun c3 => ?_, fun c3 => ?_⟩
    · have c4 : m 24 0 = 0 := c3
      rw [hC.1.1, sw0 O.1] at c4
      rw [cif_t c4] at h
      exact h m kM_rf hC
    · have c4 : ¬ m 24 0 = 0 := c3
      rw [hC.1.1, sw0 O.1] at c4
      rw [cif_f c4] at h
      refine ⟨k1, rfl, hk1, ?_⟩
      refine c_become (by omega) (fun m1 f1 g1 => ?_)
      have hr := g1 _ O.1 hC.1
      refine h m1 (fun o k ho => f1 o k (by omega)) (IC_uI hC (fun j hj => ⟨fun e => ?_, fun τ e => ?_⟩) (fun o k _ q => f1 o k (by omega)))
      · by_cases e2 : j = k1
        · rw [if_pos e2] at e; cases e
        · rw [if_neg e2] at e
          rw [f1 _ _ (by omega)]
          exact (hC.2.2.1 j hj).1 e
      · by_cases e2 : j = k1
        · rw [if_pos e2] at e
          cases e
          rw [e2]
          exact hr
        · rw [if_neg e2] at e
          exact RC_fr ((hC.2.2.1 j hj).2 τ e) (fun o k g1 g2 => f1 _ _ (by omega))
  · rw [cif_f (by grind)] at h
    exact h m kM_rf hC
theorem M_image {d : Nat} {Q : pt_Q} {m : pt_M} {a : pt_al} (O : OK a) (hM : IM m a) {k : Int32} (h : ∀ m1, kC m m1 → IM m1 (imageX a k).1 → Q (some (zI (imageX a k).2)) m1) : Sp (d + 4) nX7_image [zR 7 143, zI k] m Q := by
  obtain ⟨t1, t2⟩ := IM_th hM
  unfold imageX at h
  refine sX7_image ?_
  refine Go_rn [30] 100 ?_
  refine m_inI (lo := 0) (hi := 1) (by decide) (by decide) (fun c => ?_) (fun c => ?_)
  · refine br_f (by decide) ?_
    rw [cif_t c] at h
    obtain ⟨k1, hk1, rfl⟩ := ixof (x := k) (n := 2) c.1 (by show k < 2; grind) (by omega)
    rw [xN_nI (by omega)] at h
    refine m_isThere O.1 (RM_at t1.1 (by omega)) (fun c4 => ?_) (fun c4 => ?_)
    · refine br_f (by decide) ?_
      rw [cif_f (by omega)] at h
      refine m_image_c (f := aS a) hk1 78 0 _ _ (by omega) rfl t1.1 (fun j hj => by omega) (fun m1 f1 r1 => ?_)
      refine Go_rn [] 100 ?_
      refine ⟨k1, rfl, hk1, Or.inr rfl, ?_⟩
      refine h _ (kC_tr t2 (fun o k ho => by rw [st_eq, if_neg (by omega)]; exact f1 _ _ (by omega))) (IM_uI t1 (fun j hj => ⟨fun e => ?_, fun τ e => ?_⟩) (fun o k _ q => by rw [st_eq, if_neg (by omega)]; exact f1 _ _ (by omega)))
      · by_cases e2 : j = k1
        · rw [if_pos e2] at e; cases e
        · rw [if_neg e2] at e
          rw [st_eq, if_neg (by omega), f1 _ _ (by omega)]
          exact (t1.2.2.1 j hj).1 e
      · by_cases e2 : j = k1
        · rw [if_pos e2] at e
          cases e
          rw [e2]
          exact ⟨by rw [st_eq, if_pos ⟨rfl, rfl⟩], fun i hi => by rw [st_eq, if_neg (by omega)]; exact r1 i hi⟩
        · rw [if_neg e2] at e
          obtain ⟨u1, u2⟩ := (t1.2.2.1 j hj).2 τ e
          exact ⟨by rw [st_eq, if_neg (by omega), f1 _ _ (by omega)]; exact u1, RM_fr u2 (fun i _ _ => by rw [st_eq, if_neg (by omega)]; exact f1 _ _ (by omega))⟩
    · refine br_t rfl ?_
      rw [cif_t c4] at h
      exact h _ t2 t1
  · refine br_t rfl ?_
    rw [cif_f c] at h
    exact h _ t2 t1
noncomputable def restoreX (a : pt_al) (k : Int32) : pt_al × Int32 := cif (0 ≤ k ∧ k ≤ 1) (match aI a (xN k) with | none => (a, -1000002) | some τ => (uSA a τ (0, (aA a).2), 1)) (a, -1000001)
theorem restoreX_ok {a : pt_al} (O : OK a) (k : Int32) : OK (restoreX a k).1 := by
  unfold restoreX
  by_cases c : 0 ≤ k ∧ k ≤ 1
  · rw [cif_t c]
    obtain ⟨k1, hk1, rfl⟩ := ixof (x := k) (n := 2) c.1 (by show k < 2; grind) (by omega)
    rw [xN_nI (by omega)]
    cases e : aI a k1 with
    | none => exact O
    | some τ =>
      obtain ⟨o1, o2, o3, o4, o5, o6⟩ := O
      exact ⟨(o3 k1 hk1 τ e).1, ⟨by show 0 ≤ 24; omega, fun i hi => absurd hi (Nat.not_lt_zero i)⟩, o3, o4, o5, o6⟩
  · rw [cif_f c]; exact O
theorem C_restore {d : Nat} {Q : pt_Q} {m : pt_M} {a : pt_al} (O : OK a) (hC : IC m a) {k : Int32} (h : ∀ m1, kM m m1 → IC m1 (restoreX a k).1 → Q (some (zI (restoreX a k).2)) m1) : Sp (d + 4) nX6_restore [zR 6 0, zI k] m Q := by
  unfold restoreX at h
  refine sX6_restore ?_
  refine Go_rn [] 100 ?_
  refine ⟨fun c => ?_, fun c => ⟨fun c2 => ?_, fun c2 => ?_⟩⟩
  · rw [cif_f (by grind)] at h
    exact h m kM_rf hC
  · rw [cif_t (by grind)] at h
    obtain ⟨k1, hk1, rfl⟩ := ixof (x := k) (n := 2) (by grind) c2 (by omega)
    rw [xN_nI (by omega)] at h
    refine ⟨k1, rfl, hk1, ?_⟩
    cases e : aI a k1 with
    | none =>
      rw [e] at h
      refine br_t ((hC.2.2.1 k1 hk1).1 e) ?_
      exact h m kM_rf hC
    | some τ =>
      rw [e] at h
      have g1 := (hC.2.2.1 k1 hk1).2 τ e
      have g2 := O.2.2.1 k1 hk1 τ e
      refine br_f (fun q => ?_) ?_
      · have q2 : m (127 + 4 * k1) 0 = 0 := q
        rw [g1.1, sw0 g2.1] at q2
        omega
      refine ⟨k1, rfl, hk1, ?_⟩
      refine c_become (by omega) (fun m1 f1 r1 => ?_)
      have hr := r1 τ g2.1 g1
      obtain ⟨e1, nx, e2, e3, e4⟩ := hC.2.1
      refine sX0_forgetAll ?_
      refine Go_rn [] 100 ?_
      refine h _ (fun o k ho => by rw [st_eq, if_neg (by omega)]; exact f1 o k (by omega)) (IC_uSA hC (RC_fr hr (fun o k g1 g2 => by rw [st_eq, if_neg (by omega)])) ⟨by rw [st_eq, if_pos ⟨rfl, rfl⟩]; rfl, nx, e2, by rw [st_eq, if_neg (by omega)]; exact (f1 _ _ (by omega)).trans e3, fun i hi => absurd hi (Nat.not_lt_zero i)⟩ (fun o k _ q => by rw [st_eq, if_neg (by omega)]; exact f1 o k (by omega)))
  · rw [cif_f (by grind)] at h
    exact h m kM_rf hC
theorem M_restore {d : Nat} {Q : pt_Q} {m : pt_M} {a : pt_al} (O : OK a) (hM : IM m a) {k : Int32} (h : ∀ m1, kC m m1 → IM m1 (restoreX a k).1 → Q (some (zI (restoreX a k).2)) m1) : Sp (d + 4) nX7_restore [zR 7 143, zI k] m Q := by
  obtain ⟨t1, t2⟩ := IM_th hM
  unfold restoreX at h
  refine sX7_restore ?_
  refine Go_rn [32] 100 ?_
  refine m_inI (lo := 0) (hi := 1) (by decide) (by decide) (fun c => ?_) (fun c => ?_)
  · refine br_f (by decide) ?_
    rw [cif_t c] at h
    obtain ⟨k1, hk1, rfl⟩ := ixof (x := k) (n := 2) c.1 (by show k < 2; grind) (by omega)
    rw [xN_nI (by omega)] at h
    refine ⟨k1, rfl, hk1, ?_⟩
    cases e : aI a k1 with
    | none =>
      rw [e] at h
      refine br_t ((t1.2.2.1 k1 hk1).1 e) ?_
      exact h _ t2 t1
    | some τ =>
      rw [e] at h
      obtain ⟨g1, g2⟩ := (t1.2.2.1 k1 hk1).2 τ e
      refine br_f (fun q => absurd (g1.symm.trans q) (by decide)) ?_
      refine m_restore_c (f := τ) hk1 78 0 _ _ (by omega) rfl g2 (fun j hj => by omega) (fun m1 f1 r1 => ?_)
      refine Go_rn [] 100 ?_
      refine h _ (kC_tr t2 (fun o k ho => by rw [st_eq, if_neg (by omega)]; exact f1 _ _ (by omega))) (IM_uSA t1 (RM_fr r1 (fun k _ _ => by rw [st_eq, if_neg (by omega)])) ⟨by rw [st_eq, if_pos ⟨rfl, rfl⟩]; rfl, fun i hi => absurd hi (Nat.not_lt_zero i)⟩ (fun o k _ q => by rw [st_eq, if_neg (by omega)]; exact f1 _ _ (by omega)))
  · refine br_t rfl ?_
    rw [cif_f c] at h
    exact h _ t2 t1
