/-! 36.written: written, forged -/
def wrt (now then' what : Int32) : Int32 := if now = 0 then (if what = 0 then 0 else mn 30 then') else if then' ≤ 30 then then' else -1000000
noncomputable def writtenX (a : pt_al) (w f days what : Int32) : Int32 := cif (((0 ≤ w ∧ w < aS a 0) ∧ (0 ≤ f ∧ f < 5)) ∧ (0 ≤ days ∧ days ≤ 20) ∧ (0 ≤ what ∧ what ≤ 1)) (wrt (aS a (3 + (5 * xN w + xN f))) (aS a (3 + (5 * xN w + xN f)) + days * fdD f) what) (-1000001)
theorem C_written {d : Nat} {Q : pt_Q} {m : pt_M} {a : pt_al} (O : OK a) (hC : IC m a) {w f days what : Int32} (h : ∀ m1, kM m m1 → IC m1 a → Q (some (zI (writtenX a w f days what))) m1) : Sp (d + 4) nX6_written [zR 6 0, zI w, zI f, zI days, zI what] m Q := by
  have h := h m kM_rf hC
  unfold writtenX at h
  have h8 := O.1.2.1
  refine sX6_written ?_
  refine Go_rn [] 100 ?_
  refine c_hasFlavour hC.1.1 (fun c => ?_) (fun c => ?_)
  · refine br_f (by decide) ?_
    have bad : ¬ ((0 ≤ days ∧ days ≤ 20) ∧ (0 ≤ what ∧ what ≤ 1)) → Q (some (zI (-1000001))) m := fun q => by
      rw [cif_f (fun z => q z.2)] at h
      exact h
    refine ⟨fun c1 => ?_, fun c1 => ⟨fun c2 => ?_, fun c2 => ⟨fun c3 => ?_, fun c3 => ⟨fun c4 => ?_, fun c4 => ?_⟩⟩⟩⟩
    · exact bad (by clear bad h; grind)
    · exact bad (by clear bad h; grind)
    · exact bad (by clear bad h; grind)
    · rw [cif_t ⟨c, by clear bad h; grind⟩] at h
      obtain ⟨w1, hw, rfl⟩ := wallN O.1 c.1
      obtain ⟨f1, hf, rfl⟩ := flavN c.2
      rw [xN_nI (by omega), xN_nI (by omega)] at h
      refine c_strength (by omega) hf (RC_str hC.1 hw hf) ?_
      refine c_fades ?_
      unfold wrt at h
      refine ⟨fun c5 => ?_, fun c5 => ?_⟩
      · rw [if_pos c5] at h
        refine ⟨fun c6 => ?_, fun c6 => ?_⟩
        · rw [if_pos c6] at h; exact h
        · rw [if_neg c6] at h; exact h
      · rw [if_neg c5] at h
        refine ⟨fun c6 => ?_, fun c6 => ?_⟩
        · rw [if_pos c6] at h; exact h
        · rw [if_neg c6] at h; exact h
    · exact bad (by clear bad h; grind)
  · refine br_t rfl ?_
    rw [cif_f (fun q => c q.1)] at h
    exact h
theorem M_written {d : Nat} {Q : pt_Q} {m : pt_M} {a : pt_al} (O : OK a) (hM : IM m a) {w f days what : Int32} (h : ∀ m1, kC m m1 → IM m1 a → Q (some (zI (writtenX a w f days what))) m1) : Sp (d + 4) nX7_written [zR 7 143, zI w, zI f, zI days, zI what] m Q := by
  obtain ⟨t1, t2⟩ := IM_th hM
  have h := h _ t2 t1
  unfold writtenX at h
  have h8 := O.1.2.1
  refine sX7_written ?_
  refine Go_rn [57] 100 ?_
  refine m_isWall O.1 (RM_at t1.1 (by omega)) (fun c => ?_) (fun c => ?_)
  · refine br_f (by decide) ?_
    refine m_isFlavour (fun c2 => ?_) (fun c2 => ?_)
    · refine br_f (by decide) ?_
      refine m_inI (lo := 0) (hi := 20) (by decide) (by decide) (fun c3 => ?_) (fun c3 => ?_)
      · refine br_f (by decide) ?_
        refine m_inI (lo := 0) (hi := 1) (by decide) (by decide) (fun c4 => ?_) (fun c4 => ?_)
        · refine br_f (by decide) ?_
          rw [cif_t ⟨⟨c, c2⟩, c3, c4⟩] at h
          obtain ⟨w1, hw, rfl⟩ := wallN O.1 c
          obtain ⟨f1, hf, rfl⟩ := flavN c2
          rw [xN_nI (by omega), xN_nI (by omega)] at h
          have key : ∀ fd, fd = fdD (nI f1) → Go (Sp (d + 3)) tX7_written Q 57 [some (zR 7 143), some (zI (nI w1)), some (zI (nI f1)), some (zI days), some (zI what), none, none] [zI fd, zI days] (st m 143 0 0) := by
            intro fd hfd
            rw [← hfd] at h
            refine Go_rn [] 100 ?_
            refine m_strong (by omega) hf (RM_at t1.1 (by omega)) ?_
            unfold wrt at h
            refine ⟨fun c5 => ?_, fun c5 => ?_⟩
            · have c6 : aS a (3 + (5 * w1 + f1)) = 0 := c5
              rw [if_pos c6, c6] at h
              refine ⟨fun c7 => ?_, fun c7 => ?_⟩
              · rw [if_pos c7] at h; exact h
              · rw [if_neg c7] at h
                refine ⟨fun c8 => ?_, fun c8 => ?_⟩
                · have c9 : days * fd ≤ 30 := c8
                  refine qe ?_ h
                  unfold mn
                  clear h
                  grind
                · have c9 : ¬ days * fd ≤ 30 := c8
                  refine qe ?_ h
                  unfold mn
                  clear h
                  grind
            · have c6 : ¬ aS a (3 + (5 * w1 + f1)) = 0 := c5
              rw [if_neg c6] at h
              refine ⟨fun c7 => ?_, fun c7 => ?_⟩
              · have c8 : aS a (3 + (5 * w1 + f1)) + days * fd ≤ 30 := c7
                rw [if_pos c8] at h; exact h
              · have c8 : ¬ aS a (3 + (5 * w1 + f1)) + days * fd ≤ 30 := c7
                rw [if_neg c8] at h; exact h
          refine ⟨fun c5 => ?_, fun c5 => ?_⟩
          · have c6 : nI f1 = 2 := c5
            exact key 3 (by unfold fdD; rw [if_pos c6])
          · have c6 : ¬ nI f1 = 2 := c5
            exact key 1 (by unfold fdD; rw [if_neg c6])
        · refine br_t rfl ?_
          rw [cif_f (fun q => c4 q.2.2)] at h
          exact h
      · refine br_t rfl ?_
        rw [cif_f (fun q => c3 q.2.1)] at h
        exact h
    · refine br_t rfl ?_
      rw [cif_f (fun q => c2 q.1.2)] at h
      exact h
  · refine br_t rfl ?_
    rw [cif_f (fun q => c q.1.1)] at h
    exact h
/-! forged -/
def fgd (σ : pt_sg) (g : Nat → Int32) : Nat → Int32
  | 0 => 0
  | k + 1 => if mx 0 (30 - g k * 3) < σ (3 + (5 * k + 2)) then fgd σ g k ||| (1 <<< (nI k &&& 31)) else fgd σ g k
def agP (g : Nat → Int32) (n : Nat) : Prop := ∀ j, j < n → 0 ≤ g j ∧ g j ≤ 99
noncomputable def forgedX (a : pt_al) (row i : Int32) : pt_al × Int32 := cif (sw (aS a) = 0) (a, -1000002) (cif (0 ≤ row ∧ row < 8) (match aR a (xN row) with
  | none => (aFs a 1, -1000011)
  | some (_, N, f) => cif (hpP i (nI (sw (aS a))) N) (cif (agP (fun w => f (xN i + w)) (sw (aS a))) (aFs a 0, fgd (aS a) (fun w => f (xN i + w)) (sw (aS a))) (a, -1000001)) (aFs a 2, -1000012)) (a, -1000001))
theorem forgedX_n {a : pt_al} {row i : Int32} (c0 : ¬ sw (aS a) = 0) (c : 0 ≤ row ∧ row < 8) (e : aR a (xN row) = none) : forgedX a row i = (aFs a 1, -1000011) := by
  unfold forgedX
  rw [cif_f c0, cif_t c, e]
theorem forgedX_s {a : pt_al} {row i : Int32} {l N : Nat} {f : Nat → Int32} (c0 : ¬ sw (aS a) = 0) (c : 0 ≤ row ∧ row < 8) (e : aR a (xN row) = some (l, N, f)) : forgedX a row i = cif (hpP i (nI (sw (aS a))) N) (cif (agP (fun w => f (xN i + w)) (sw (aS a))) (aFs a 0, fgd (aS a) (fun w => f (xN i + w)) (sw (aS a))) (a, -1000001)) (aFs a 2, -1000012) := by
  unfold forgedX
  rw [cif_f c0, cif_t c, e]
theorem forgedX_ok {a : pt_al} (O : OK a) (row i : Int32) : OK (forgedX a row i).1 := by
  by_cases c0 : sw (aS a) = 0
  · unfold forgedX; rw [cif_t c0]; exact O
  by_cases c : 0 ≤ row ∧ row < 8
  · cases e : aR a (xN row) with
    | none => rw [forgedX_n c0 c e]; exact O
    | some v =>
      obtain ⟨l, N, f⟩ := v
      rw [forgedX_s c0 c e]
      by_cases c2 : hpP i (nI (sw (aS a))) N
      · rw [cif_t c2]
        by_cases c3 : agP (fun w => f (xN i + w)) (sw (aS a))
        · rw [cif_t c3]; exact O
        · rw [cif_f c3]; exact O
      · rw [cif_f c2]; exact O
  · unfold forgedX; rw [cif_f c0, cif_f c]; exact O
theorem c_forged_l {d : Nat} {Q : pt_Q} {σ : pt_sg} {r i N : Nat} {f : Nat → Int32} {m : pt_M} {v1 : Int32} (O : OkS σ) (hR : RC m 24 σ) (hr : r < 8) (hi : i + sw σ ≤ N) (hN : N ≤ 40) (hf : ∀ j, j < 40 → m (1 + 1 + 2 * r + 1) j = f j) :
    ∀ (n k : Nat) (x y : Int32) (g6 g7 : Option pt_V), k + n = sw σ → x = nI k → y = fgd σ (fun w => f (i + w)) k → (¬ agP (fun w => f (i + w)) (sw σ) → Q (some (zI (-1000001))) m) → ((∀ j, k ≤ j → j < sw σ → 0 ≤ f (i + j) ∧ f (i + j) ≤ 99) → Q (some (zI (fgd σ (fun w => f (i + w)) (sw σ)))) (st m 0 7 0)) →
    Go (Sp (d + 1)) tX6_forged Q 70 [some (zR 6 0), some (zI v1), some (zI (nI i)), some (zR 3 (1 + 1 + 2 * r)), some (zI y), some (zI x), g6, g7] [] m := by
  have h8 := O.2.1
  have e0 : m 24 0 = nI (sw σ) := hR.1.trans O.1
  intro n
  induction n with
  | zero =>
    intro k x y g6 g7 hk hx hy h1 h2
    have ek : k = sw σ := by omega
    subst hx hy
    refine Go_rn [] 100 ?_
    refine br_t (by show m 24 0 ≤ nI k; rw [e0]; exact nI_le (by omega) (by omega)) ?_
    refine c_noFinding ?_
    rw [ek]
    exact h2 (fun j q1 q2 => by omega)
  | succ n ih =>
    intro k x y g6 g7 hk hx hy h1 h2
    subst hx
    refine Go_rn [70] 100 ?_
    refine br_f (by show ¬ m 24 0 ≤ nI k; rw [e0]; exact nI_ge (by omega) (by omega)) ?_
    refine ⟨i + k, nI_add i k, by omega, ?_⟩
    have ev : m (1 + 1 + 2 * r + 1) (i + k) = f (i + k) := hf (i + k) (by omega)
    refine ⟨fun c => ?_, fun c => ⟨fun c2 => ?_, fun c2 => ?_⟩⟩
    · have c1 : f (i + k) < 0 := by rw [← ev]; exact c
      exact h1 (fun q => by have := (q k (by omega)).1; clear h1 h2 ih; grind)
    · have c1 : ¬ f (i + k) < 0 := by rw [← ev]; exact c
      have c3 : f (i + k) ≤ 99 := by rw [← ev]; exact c2
      refine c_fades ?_
      refine c_strength (f := 2) (by omega) (by omega) (RC_str hR (by omega) (by omega)) ?_
      have h3 : (∀ j, k + 1 ≤ j → j < sw σ → 0 ≤ f (i + j) ∧ f (i + j) ≤ 99) → Q (some (zI (fgd σ (fun w => f (i + w)) (sw σ)))) (st m 0 7 0) := fun q => h2 (fun j q1 q2 => by
        by_cases e : j = k
        · rw [e]; exact ⟨by clear h1 h2 ih; grind, c3⟩
        · exact q j (by omega) q2)
      have eg : fgd σ (fun w => f (i + w)) (k + 1) = if mx 0 (30 - f (i + k) * 3) < σ (3 + (5 * k + 2)) then fgd σ (fun w => f (i + w)) k ||| (1 <<< (nI k &&& 31)) else fgd σ (fun w => f (i + w)) k := rfl
      refine ⟨fun c4 => ?_, fun c4 => ?_⟩
      · have c5 : σ (3 + (5 * k + 2)) ≤ mx 0 (30 - m (1 + 1 + 2 * r + 1) (i + k) * 3) := c4
        rw [ev] at c5
        refine ih (k + 1) _ _ _ _ (by omega) (nI_1 k) ?_ h1 h3
        rw [eg, if_neg (fun q => by clear h1 h2 h3 ih; grind), hy]
      · have c5 : ¬ σ (3 + (5 * k + 2)) ≤ mx 0 (30 - m (1 + 1 + 2 * r + 1) (i + k) * 3) := c4
        rw [ev] at c5
        refine ih (k + 1) _ _ _ _ (by omega) (nI_1 k) ?_ h1 h3
        rw [eg, if_pos (by clear h1 h2 h3 ih; grind), hy]
    · have c3 : ¬ f (i + k) ≤ 99 := by rw [← ev]; exact c2
      exact h1 (fun q => c3 (q k (by omega)).2)
theorem C_forged {d : Nat} {Q : pt_Q} {m : pt_M} {a : pt_al} (O : OK a) (hC : IC m a) {row i : Int32} (h : ∀ m1, kM m m1 → IC m1 (forgedX a row i).1 → Q (some (zI (forgedX a row i).2)) m1) : Sp (d + 4) nX6_forged [zR 6 0, zI row, zI i] m Q := by
  have h8 := O.1.2.1
  have e0 : m 24 0 = nI (sw (aS a)) := hC.1.1.trans O.1.1
  refine sX6_forged ?_
  refine Go_rn [70] 100 ?_
  refine ⟨fun c => ?_, fun c => ?_⟩
  · have c1 : m 24 0 = 0 := c
    rw [hC.1.1, sw0 O.1] at c1
    unfold forgedX at h
    rw [cif_t c1] at h
    exact h m kM_rf hC
  · have c1 : ¬ m 24 0 = 0 := c
    rw [hC.1.1, sw0 O.1] at c1
    refine c_isRow (fun c2 => ?_) (fun c2 => ?_)
    · refine br_f (by decide) ?_
      obtain ⟨w1, hw, rfl⟩ := ixof c2.1 (n := 8) c2.2 (by omega)
      have xw : xN (nI w1) = w1 := xN_nI (by omega)
      refine ⟨w1, rfl, hw, ?_⟩
      cases e : aR a w1 with
      | none =>
        rw [forgedX_n c1 c2 (by rw [xw]; exact e)] at h
        refine br_t (cR_none hC.2.2.2.1 hw e) ?_
        refine c_finding ?_
        exact h _ (IC_F hC 1).2 (IC_F hC 1).1
      | some v =>
        obtain ⟨l, N, f⟩ := v
        rw [forgedX_s c1 c2 (by rw [xw]; exact e)] at h
        obtain ⟨g1, g2, g3, g4⟩ := cR_some hC.2.2.2.1 hw e
        have ob := O.2.2.2.1 w1 hw l N f e
        refine br_f (fun q => absurd (g1.symm.trans q) (by decide)) ?_
        show Sp (d + 3) nX3_hasPlaces [zR 3 (1 + 1 + 2 * w1), zI i, zI (m 24 0)] m _
        rw [e0]
        refine c_hasPlaces g3 ob.2 (fun c3 => ?_) (fun c3 => ?_)
        · refine br_f (by decide) ?_
          rw [cif_t c3] at h
          have c4 := c3.2.2
          obtain ⟨i1, hi1, rfl⟩ := nI_of (x := i) (by have := c3.1; clear h; grind)
          rw [xN_nI hi1] at h c4
          rw [xN_nI (by omega)] at c4
          refine c_forged_l (v1 := nI w1) O.1 hC.1 hw c4 ob.2 g4 (sw (aS a)) 0 _ _ _ _ (by omega) rfl rfl (fun q => ?_) (fun q => ?_)
          · rw [cif_f q] at h
            exact h m kM_rf hC
          · rw [cif_t (P := agP (fun w => f (i1 + w)) (sw (aS a))) (fun j hj => q j (by omega) hj)] at h
            exact h _ (IC_F hC 0).2 (IC_F hC 0).1
        · refine br_t rfl ?_
          rw [cif_f c3] at h
          refine c_finding ?_
          exact h _ (IC_F hC 2).2 (IC_F hC 2).1
    · refine br_t rfl ?_
      unfold forgedX at h
      rw [cif_f c1, cif_f c2] at h
      exact h m kM_rf hC
theorem ixW (r i k : Nat) : 40 * nI r + nI i + nI k = nI (40 * r + (i + k)) := by rw [ixH, nI_add, Nat.add_assoc]
theorem m_fg1_l {d : Nat} {Q : pt_Q} {σ : pt_sg} {r i N : Nat} {f : Nat → Int32} {m : pt_M} {g4 g5 : Option pt_V} (O : OkS σ) (hR : RM m 147 0 σ) (hr : r < 8) (hi : i + sw σ ≤ N) (hN : N ≤ 40) (hf : ∀ j, j < 40 → m 146 (40 * r + j) = f j) :
    ∀ (n k : Nat) (x : Int32), k + n = sw σ → x = nI k → (¬ agP (fun w => f (i + w)) (sw σ) → Q (some (zI (-1000001))) m) → ((∀ j, k ≤ j → j < sw σ → 0 ≤ f (i + j) ∧ f (i + j) ≤ 99) → Go (Sp (d + 1)) tX7_forged Q 116 [some (zR 7 143), some (zI (nI r)), some (zI (nI i)), some (zI (nI (sw σ))), g4, g5] [] m) →
    Go (Sp (d + 1)) tX7_forged Q 73 [some (zR 7 143), some (zI (nI r)), some (zI (nI i)), some (zI x), g4, g5] [] m := by
  have h8 := O.2.1
  have e0 : m 147 0 = nI (sw σ) := (RM_at hR (by omega)).trans O.1
  intro n
  induction n with
  | zero =>
    intro k x hk hx h1 h2
    have ek : k = sw σ := by omega
    subst hx
    refine Go_rn [116] 100 ?_
    refine ⟨0, by decide, by decide, ?_⟩
    refine br_t (by show m 147 0 ≤ nI k; rw [e0]; exact nI_le (by omega) (by omega)) ?_
    rw [ek]
    exact h2 (fun j q1 q2 => by omega)
  | succ n ih =>
    intro k x hk hx h1 h2
    subst hx
    refine Go_rn [73] 100 ?_
    refine ⟨0, by decide, by decide, ?_⟩
    refine br_f (by show ¬ m 147 0 ≤ nI k; rw [e0]; exact nI_ge (by omega) (by omega)) ?_
    refine ⟨40 * r + (i + k), ixW r i k, by omega, ?_⟩
    have ev : m 146 (40 * r + (i + k)) = f (i + k) := hf (i + k) (by omega)
    refine m_inI (v := m 146 (40 * r + (i + k))) (lo := 0) (hi := 99) (by decide) (by decide) (fun c => ?_) (fun c => ?_)
    · rw [ev] at c
      refine br_f (by decide) ?_
      refine ih (k + 1) _ (by omega) (nI_1 k) h1 (fun q => h2 (fun j q1 q2 => ?_))
      by_cases e : j = k
      · rw [e]; exact c
      · exact q j (by omega) q2
    · rw [ev] at c
      refine br_t rfl ?_
      exact h1 (fun q => c (q k (by omega)))
theorem m_fg2_l {d : Nat} {Q : pt_Q} {σ : pt_sg} {r i N : Nat} {f : Nat → Int32} {m : pt_M} (O : OkS σ) (hR : RM m 147 0 σ) (hr : r < 8) (hi : i + sw σ ≤ N) (hN : N ≤ 40) (hf : ∀ j, j < 40 → m 146 (40 * r + j) = f j) (h : Q (some (zI (fgd σ (fun w => f (i + w)) (sw σ)))) m) :
    ∀ (n k : Nat) (x y : Int32) (g5 : Option pt_V), k + n = sw σ → x = nI k → y = fgd σ (fun w => f (i + w)) k →
    Go (Sp (d + 1)) tX7_forged Q 126 [some (zR 7 143), some (zI (nI r)), some (zI (nI i)), some (zI y), some (zI x), g5] [] m := by
  have h8 := O.2.1
  have e0 : m 147 0 = nI (sw σ) := (RM_at hR (by omega)).trans O.1
  intro n
  induction n with
  | zero =>
    intro k x y g5 hk hx hy
    have ek : k = sw σ := by omega
    subst hx hy
    refine Go_rn [] 100 ?_
    refine ⟨0, by decide, by decide, ?_⟩
    refine br_t (by show m 147 0 ≤ nI k; rw [e0]; exact nI_le (by omega) (by omega)) ?_
    rw [ek]
    exact h
  | succ n ih =>
    intro k x y g5 hk hx hy
    subst hx
    refine Go_rn [126] 100 ?_
    refine ⟨0, by decide, by decide, ?_⟩
    refine br_f (by show ¬ m 147 0 ≤ nI k; rw [e0]; exact nI_ge (by omega) (by omega)) ?_
    refine ⟨40 * r + (i + k), ixW r i k, by omega, ?_⟩
    have ev : m 146 (40 * r + (i + k)) = f (i + k) := hf (i + k) (by omega)
    refine m_strong (f := 2) (by omega) (by omega) (RM_at hR (by omega)) ?_
    have eg : fgd σ (fun w => f (i + w)) (k + 1) = if mx 0 (30 - f (i + k) * 3) < σ (3 + (5 * k + 2)) then fgd σ (fun w => f (i + w)) k ||| (1 <<< (nI k &&& 31)) else fgd σ (fun w => f (i + w)) k := rfl
    rw [mx0, Int32.mul_comm (f (i + k)) 3] at eg
    have z0 : y ||| 0 = y := Int32.or_zero
    refine ⟨fun c => ?_, fun c => ?_⟩
    · have c1 : 0 ≤ 30 - 3 * m 146 (40 * r + (i + k)) := c
      rw [ev] at c1
      rw [if_pos c1] at eg
      refine ⟨fun c2 => ?_, fun c2 => ?_⟩
      · have c3 : σ (3 + (5 * k + 2)) ≤ 30 - 3 * m 146 (40 * r + (i + k)) := c2
        rw [ev] at c3
        refine ih (k + 1) _ _ _ (by omega) (nI_1 k) ?_
        rw [eg, if_neg (fun q => by clear h ih; grind), ← hy]
        exact z0
      · have c3 : ¬ σ (3 + (5 * k + 2)) ≤ 30 - 3 * m 146 (40 * r + (i + k)) := c2
        rw [ev] at c3
        refine ih (k + 1) _ _ _ (by omega) (nI_1 k) ?_
        rw [eg, if_pos (by clear h ih; grind), ← hy]
    · have c1 : ¬ 0 ≤ 30 - 3 * m 146 (40 * r + (i + k)) := c
      rw [ev] at c1
      rw [if_neg c1] at eg
      refine ⟨fun c2 => ?_, fun c2 => ?_⟩
      · have c3 : σ (3 + (5 * k + 2)) ≤ 0 := c2
        refine ih (k + 1) _ _ _ (by omega) (nI_1 k) ?_
        rw [eg, if_neg (fun q => by clear h ih; grind), ← hy]
        exact z0
      · have c3 : ¬ σ (3 + (5 * k + 2)) ≤ 0 := c2
        refine ih (k + 1) _ _ _ (by omega) (nI_1 k) ?_
        rw [eg, if_pos (by clear h ih; grind), ← hy]
theorem M_forged {d : Nat} {Q : pt_Q} {m : pt_M} {a : pt_al} (O : OK a) (hM : IM m a) {row i : Int32} (h : ∀ m1, kC m m1 → IM m1 (forgedX a row i).1 → Q (some (zI (forgedX a row i).2)) m1) : Sp (d + 4) nX7_forged [zR 7 143, zI row, zI i] m Q := by
  obtain ⟨t1, t2⟩ := IM_th hM
  have h8 := O.1.2.1
  have e0 : st m 143 0 0 147 0 = nI (sw (aS a)) := (RM_at t1.1 (by omega)).trans O.1.1
  refine sX7_forged ?_
  refine Go_rn [73] 100 ?_
  refine m_isThere O.1 (RM_at t1.1 (by omega)) (fun c => ?_) (fun c => ?_)
  · refine br_f (by decide) ?_
    have c1 : ¬ sw (aS a) = 0 := by omega
    refine m_isRow (fun c2 => ?_) (fun c2 => ?_)
    · refine br_f (by decide) ?_
      obtain ⟨w1, hw, rfl⟩ := ixof c2.1 (n := 8) c2.2 (by omega)
      have xw : xN (nI w1) = w1 := xN_nI (by omega)
      refine ⟨w1, rfl, hw, ?_⟩
      cases e : aR a w1 with
      | none =>
        rw [forgedX_n c1 c2 (by rw [xw]; exact e)] at h
        have g1 := (t1.2.2.2.1 w1 hw).1 e
        refine br_f (by show ¬ 0 ≤ st m 143 0 0 144 w1; rw [g1]; decide) ?_
        refine m_finding ?_
        obtain ⟨j1, j2⟩ := IM_F t1 1
        exact h _ (kC_tr t2 j2) j1
      | some v =>
        obtain ⟨l, N, f⟩ := v
        rw [forgedX_s c1 c2 (by rw [xw]; exact e)] at h
        obtain ⟨g1, g2, g3⟩ := (t1.2.2.2.1 w1 hw).2 l N f e
        have ob := O.2.2.2.1 w1 hw l N f e
        refine br_t (by show 0 ≤ st m 143 0 0 144 w1; rw [g1]; exact nI_pos' (by omega)) ?_
        have bad : ¬ hpP i (nI (sw (aS a))) N → Q (some (zI (-1000010 - 2))) (st (st m 143 0 0) 143 1 2) := fun q => by
          rw [cif_f q] at h
          obtain ⟨j1, j2⟩ := IM_F t1 2
          exact h _ (kC_tr t2 j2) j1
        refine ⟨fun c3 => ?_, fun c3 => ?_⟩
        · refine m_finding ?_
          exact bad (fun q => by have := q.1; clear bad h; grind)
        · obtain ⟨i1, hi1, rfl⟩ := nI_of (x := i) c3
          refine ⟨0, by decide, by decide, ?_⟩
          refine ⟨w1, rfl, hw, ?_⟩
          have ls := lsum (a := i1) (b := sw (aS a)) (c := N) hi1 (by omega) (by omega)
          have hp : hpP (nI i1) (nI (sw (aS a))) N ↔ i1 + sw (aS a) ≤ N := by
            unfold hpP
            rw [xN_nI hi1, xN_nI (by omega)]
            exact ⟨fun q => q.2.2, fun q => ⟨nI_pos' hi1, nI_pos' (by omega), q⟩⟩
          refine ⟨fun c4 => ?_, fun c4 => ?_⟩
          · have c5 : lg_cmp ((nI i1).toInt64 + (st m 143 0 0 147 0).toInt64) (st m 143 0 0 145 w1).toInt64 ≤ 0 := c4
            rw [e0, g2] at c5
            have c6 : i1 + sw (aS a) ≤ N := by
              rcases Nat.lt_or_ge N (i1 + sw (aS a)) with q | q
              · have := ls.mpr q
                exact absurd c5 (by clear bad h; grind)
              · exact q
            rw [cif_t (hp.mpr c6), xN_nI hi1] at h
            refine m_fg1_l O.1 t1.1 hw c6 ob.2 g3 (sw (aS a)) 0 _ (by omega) rfl (fun q => ?_) (fun q => ?_)
            · rw [cif_f q] at h
              exact h _ t2 t1
            · rw [cif_t (P := agP (fun w => f (i1 + w)) (sw (aS a))) (fun j hj => q j (by omega) hj)] at h
              obtain ⟨j1, j2⟩ := IM_F t1 0
              refine Go_rn [126] 100 ?_
              refine m_fg2_l O.1 j1.1 hw c6 ob.2 ((j1.2.2.2.1 w1 hw).2 l N f e).2.2 (h _ (kC_tr t2 j2) j1) (sw (aS a)) 0 _ _ _ (by omega) rfl rfl
          · have c5 : ¬ lg_cmp ((nI i1).toInt64 + (st m 143 0 0 147 0).toInt64) (st m 143 0 0 145 w1).toInt64 ≤ 0 := c4
            rw [e0, g2] at c5
            refine m_finding ?_
            refine bad (fun q => ?_)
            rw [hp] at q
            have := ls.mp (by clear bad h; grind)
            omega
    · refine br_t rfl ?_
      unfold forgedX at h
      rw [cif_f c1, cif_f c2] at h
      exact h _ t2 t1
  · refine br_t rfl ?_
    unfold forgedX at h
    rw [cif_t c] at h
    exact h _ t2 t1
