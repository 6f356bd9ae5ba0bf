/-! 39d.spice: spice, both -/
def spV (σ : pt_sg) (r a b : Nat) (f : Nat → Int32) (k : Nat) : Int32 := lsv (spO σ r a b f k)
def spSum (v : Nat → Int32) : Nat → Int32
  | 0 => 0
  | k + 1 => spSum v k + v k
noncomputable def spiceX (a : pt_al) (r f t row k : Int32) : pt_al × Int32 := cif (walkP (aS a) r f t ∧ (0 ≤ row ∧ row < 8) ∧ -1 ≤ k) (hearP a (xN row) (wn (xN f) (xN t)) 0 (fun g => (aFs a 0, cif (k < nI (wn (xN f) (xN t)) ∧ spAll (aS a) (xN r) (xN f) (xN t) g) (if 0 ≤ k then spV (aS a) (xN r) (xN f) (xN t) g (xN k) else spSum (spV (aS a) (xN r) (xN f) (xN t) g) (wn (xN f) (xN t))) (-1000000)))) (a, -1000001)
theorem spiceX_ok {a : pt_al} (O : OK a) (r f t row k : Int32) : OK (spiceX a r f t row k).1 := by
  unfold spiceX
  by_cases c : walkP (aS a) r f t ∧ (0 ≤ row ∧ row < 8) ∧ -1 ≤ k
  · rw [cif_t c]; exact hearP_ok O (fun _ => O)
  · rw [cif_f c]; exact O
theorem c_spsum_l {d : Nat} {Q : pt_Q} {a b : Nat} {v : Nat → Int32} {m : pt_M} {v1 v4 v5 v6 : Int32} (ha : a < 8) (hb : b < 8) (hv : ∀ j, j < wn a b → m 141 (wa a b j) = v j) (h : Q (some (zI (spSum v (wn a b)))) m) : ∀ (n k : Nat) (x y : Int32), k + n = wn a b → x = nI k → y = spSum v k →
    Go (Sp (d + 1)) tX6_spice Q 97 [some (zR 6 0), some (zI v1), some (zI (nI a)), some (zI (nI b)), some (zI v4), some (zI v5), some (zI v6), some (zI y), some (zI x)] [] m := by
  have hw8 := wn_8 ha hb
  intro n
  induction n with
  | zero =>
    intro k x y hk hx hy
    have ek : k = wn a b := by omega
    subst ek hx hy
    refine Go_rn [] 100 ?_
    refine c_wallsOnWay ha hb ?_
    refine br_t (nI_le (Nat.le_refl _) (by omega)) ?_
    exact h
  | succ n ih =>
    intro k x y hk hx hy
    subst hx hy
    have hkn : k < wn a b := by omega
    refine Go_rn [97] 100 ?_
    refine c_wallsOnWay ha hb ?_
    refine br_f (nI_ge hkn (by omega)) ?_
    refine c_wallOnWay ha hb hkn ?_
    refine ⟨wa a b k, rfl, wa_lt ha hb hkn, ?_⟩
    refine ih (k + 1) _ _ (by omega) (nI_1 k) ?_
    show spSum v k + m 141 (wa a b k) = spSum v k + v k
    rw [hv k hkn]
theorem C_spice {d : Nat} {Q : pt_Q} {m : pt_M} {a : pt_al} (O : OK a) (hC : IC m a) {r f t row k : Int32} (h : ∀ m1, kM m m1 → IC m1 (spiceX a r f t row k).1 → Q (some (zI (spiceX a r f t row k).2)) m1) : Sp (d + 5) nX6_spice [zR 6 0, zI r, zI f, zI t, zI row, zI k] m Q := by
  unfold spiceX at h
  refine sX6_spice ?_
  refine Go_rn [97] 100 ?_
  refine c_canWalk hC.1 (fun c => ?_) (fun c => ?_)
  · refine br_f (by decide) ?_
    refine c_isRow (fun c2 => ?_) (fun c2 => ?_)
    · refine br_f (by decide) ?_
      refine ⟨fun ck => ?_, fun ck => ?_⟩
      · have ck : -1 ≤ k := ck
        rw [cif_t ⟨c, c2, ck⟩] at h
        obtain ⟨r1, f1, t1, h1, h2, h3, rfl, rfl, rfl⟩ := walkN O.1 c
        obtain ⟨w1, hw, rfl⟩ := ixof c2.1 (n := 8) c2.2 (by omega)
        have h8 := O.1.2.1
        have h9 := O.1.2.2.2.1
        have hw8 := wn_8 h2 h3
        rw [xN_nI (by omega), xN_nI (by omega), xN_nI (by omega), xN_nI (by omega)] at h
        refine c_hear O hC (by omega) (by omega) hw (fun e => ?_) (fun l N g e e2 => ?_) (fun l N g m1 e e2 e3 fr1 => ?_) (fun l N g m1 e e2 e3 fr1 u1 => ?_)
        · rw [hearP_n e] at h
          refine br_f (by decide) ?_
          exact h _ (IC_F hC 1).2 (IC_F hC 1).1
        · rw [hearP_s e, cif_f e2] at h
          refine br_f (by decide) ?_
          exact h _ (IC_F hC 2).2 (IC_F hC 2).1
        · rw [hearP_s e, cif_t e2, cif_f e3] at h
          refine br_f (by decide) ?_
          obtain ⟨i1, i2⟩ := IC_scr hC (m1 := m1) (fun o k q => fr1 o k (by omega))
          exact h _ i2 i1
        · rw [hearP_s e, cif_t e2, cif_t e3] at h
          refine br_t rfl ?_
          obtain ⟨i1, i2⟩ := IC_scr hC (m1 := m1) (fun o k q => fr1 o k (by omega))
          obtain ⟨j1, j2⟩ := IC_F i1 0
          refine c_wallsOnWay (by omega) (by omega) ?_
          refine ⟨fun c4 => ?_, fun c4 => ?_⟩
          · have c5 : nI (wn f1 t1) ≤ k := c4
            rw [cif_f (fun q => absurd q.1 (Int32.not_lt.mpr c5))] at h
            exact h _ (kM_tr i2 j2) j1
          · have c5 : k < nI (wn f1 t1) := Int32.not_le.mp c4
            refine c_findSpice O.1 h1 h2 h3 (Or.inl rfl) e3 j1.1 (fun j hj => by rw [st_eq, if_neg (by omega)]; exact u1 j hj) (fun m2 fr2 q1 q2 => ?_) (fun m2 fr2 q1 => ?_)
            · refine br_f (by decide) ?_
              rw [cif_t ⟨c5, q1⟩] at h
              obtain ⟨l1, l2⟩ := IC_scr j1 (m1 := m2) (fun o k q => fr2 o k (by unfold Tfs; omega))
              have h := h m2 (kM_tr (kM_tr i2 j2) l2) l1
              refine ⟨fun c6 => ?_, fun c6 => ?_⟩
              · have c7 : k < 0 := c6
                rw [if_neg (Int32.not_le.mpr c7)] at h
                exact c_spsum_l (v := spV (aS a) r1 f1 t1 g) (by omega) (by omega) q2 h (wn f1 t1) 0 _ _ (by omega) rfl rfl
              · have c7 : 0 ≤ k := Int32.not_lt.mp c6
                rw [if_pos c7] at h
                obtain ⟨k1, hk, rfl⟩ := ixof c7 c5 (by omega)
                rw [xN_nI (by omega)] at h
                refine c_wallOnWay (by omega) (by omega) hk ?_
                refine ⟨wa f1 t1 k1, rfl, wa_lt (by omega) (by omega) hk, ?_⟩
                exact qe (q2 k1 hk) h
            · refine br_t rfl ?_
              rw [cif_f (fun q => q1 q.2)] at h
              obtain ⟨l1, l2⟩ := IC_scr j1 (m1 := m2) (fun o k q => fr2 o k (by unfold Tfs; omega))
              exact h m2 (kM_tr (kM_tr i2 j2) l2) l1
      · rw [cif_f (fun q => ck q.2.2)] at h
        exact h m kM_rf hC
    · refine br_t rfl ?_
      rw [cif_f (fun q => c2 q.2.1)] at h
      exact h m kM_rf hC
  · refine br_t rfl ?_
    rw [cif_f (fun q => c q.1)] at h
    exact h m kM_rf hC
theorem m_spsum_l {d : Nat} {Q : pt_Q} {a b : Nat} {v : Nat → Int32} {m : pt_M} {v1 v4 v5 v7 : Int32} (ha : a < 8) (hb : b < 8) (hv : ∀ j, j < wn a b → m 153 (wa a b j) = v j)
    (h : Go (Sp (d + 1)) tX7_spice Q 120 [some (zR 7 143), some (zI v1), some (zI (nI a)), some (zI (nI b)), some (zI v4), some (zI v5), some (zI (nI (wn a b))), some (zI v7), some (zI (spSum v (wn a b))), some (zI (nI (wn a b)))] [] m) : ∀ (n k : Nat) (x y : Int32), k + n = wn a b → x = nI k → y = spSum v k →
    Go (Sp (d + 1)) tX7_spice Q 90 [some (zR 7 143), some (zI v1), some (zI (nI a)), some (zI (nI b)), some (zI v4), some (zI v5), some (zI (nI (wn a b))), some (zI v7), some (zI y), some (zI x)] [] m := by
  have hw8 := wn_8 ha hb
  intro n
  induction n with
  | zero =>
    intro k x y hk hx hy
    have ek : k = wn a b := by omega
    subst ek hx hy
    refine Go_rn [120] 100 ?_
    refine br_t (nI_le (Nat.le_refl _) (by omega)) ?_
    exact h
  | succ n ih =>
    intro k x y hk hx hy
    subst hx hy
    have hkn : k < wn a b := by omega
    refine Go_rn [90] 100 ?_
    refine br_f (nI_ge hkn (by omega)) ?_
    refine m_wallAt ha hb hkn ?_
    refine ⟨wa a b k, rfl, wa_lt ha hb hkn, ?_⟩
    refine ih (k + 1) _ _ (by omega) (nI_1 k) ?_
    show spSum v k + m 153 (wa a b k) = spSum v k + v k
    rw [hv k hkn]
theorem ix1 (w j : Nat) : 40 * nI w + 1 * nI j = nI (40 * w + j) := by rw [Int32.one_mul, ixH]
theorem M_spice {d : Nat} {Q : pt_Q} {m : pt_M} {a : pt_al} (O : OK a) (hM : IM m a) {r f t row k : Int32} (h : ∀ m1, kC m m1 → IM m1 (spiceX a r f t row k).1 → Q (some (zI (spiceX a r f t row k).2)) m1) : Sp (d + 5) nX7_spice [zR 7 143, zI r, zI f, zI t, zI row, zI k] m Q := by
  obtain ⟨i1, i2⟩ := IM_th hM
  unfold spiceX at h
  refine sX7_spice ?_
  refine Go_rn [90] 100 ?_
  refine m_isWalk O.1 i1.1 (fun c => ?_) (fun c => ?_)
  · refine br_f (by decide) ?_
    refine m_isRow (fun c2 => ?_) (fun c2 => ?_)
    · refine br_f (by decide) ?_
      refine ⟨fun ck => ?_, fun ck => ?_⟩
      · have ck : -1 ≤ k := ck
        rw [cif_t ⟨c, c2, ck⟩] at h
        obtain ⟨r1, f1, t1, h1, h2, h3, rfl, rfl, rfl⟩ := walkN O.1 c
        obtain ⟨w1, hw, rfl⟩ := ixof c2.1 (n := 8) c2.2 (by omega)
        have h8 := O.1.2.1
        have h9 := O.1.2.2.2.1
        have hw8 := wn_8 h2 h3
        rw [xN_nI (by omega), xN_nI (by omega), xN_nI (by omega), xN_nI (by omega)] at h
        refine m_wallsOf (by omega) (by omega) ?_
        refine m_barred O i1 hw (by omega) (fun e => ?_) (fun l N g e e2 => ?_) (fun l N g e e2 e3 => ?_) (fun l N g e e2 e3 => ?_)
        · rw [hearP_n e] at h
          refine br_f (by decide) ?_
          obtain ⟨j1, j2⟩ := IM_F i1 1
          exact h _ (kC_tr i2 j2) j1
        · rw [hearP_s e, cif_f e2] at h
          refine br_f (by decide) ?_
          obtain ⟨j1, j2⟩ := IM_F i1 2
          exact h _ (kC_tr i2 j2) j1
        · rw [hearP_s e, cif_t e2, cif_f e3] at h
          refine br_f (by decide) ?_
          exact h _ i2 i1
        · rw [hearP_s e, cif_t e2, cif_t e3] at h
          refine br_t (by decide) ?_
          obtain ⟨j1, j2⟩ := IM_F i1 0
          have ob := O.2.2.2.1 w1 hw l N g e
          have eg := ((j1.2.2.2.1 w1 hw).2 l N g e).2.2
          refine m_laySpice O.1 h1 h2 h3 e3 j1.1 (fun j hj => ⟨40 * w1 + j, by omega, ix1 w1 j, eg j (by omega)⟩) (fun m2 fr2 q1 q2 => ?_) (fun m2 fr2 q1 => ?_)
          · refine br_f (by decide) ?_
            obtain ⟨l1, l2⟩ := IM_scr j1 (m1 := m2) (fun o k q => fr2 o k (by unfold Tlsm; omega))
            have h := h m2 (kC_tr (kC_tr i2 j2) l2) l1
            refine ⟨fun c4 => ?_, fun c4 => ?_⟩
            · have c5 : k < nI (wn f1 t1) := c4
              rw [cif_t ⟨c5, q1⟩] at h
              refine m_spsum_l (v := spV (aS a) r1 f1 t1 g) (by omega) (by omega) q2 ?_ (wn f1 t1) 0 _ _ (by omega) rfl rfl
              refine Go_rn [] 100 ?_
              refine ⟨fun c6 => ?_, fun c6 => ?_⟩
              · have c7 : 0 ≤ k := c6
                rw [if_pos c7] at h
                obtain ⟨k1, hk, rfl⟩ := ixof c7 c5 (by omega)
                rw [xN_nI (by omega)] at h
                refine m_wallAt (by omega) (by omega) hk ?_
                refine ⟨wa f1 t1 k1, rfl, wa_lt (by omega) (by omega) hk, ?_⟩
                exact qe (q2 k1 hk) h
              · have c7 : ¬ 0 ≤ k := c6
                rw [if_neg c7] at h
                exact h
            · have c5 : ¬ k < nI (wn f1 t1) := c4
              rw [cif_f (fun q => c5 q.1)] at h
              exact h
          · refine br_t rfl ?_
            rw [cif_f (fun q => q1 q.2)] at h
            obtain ⟨l1, l2⟩ := IM_scr j1 (m1 := m2) (fun o k q => fr2 o k (by unfold Tlsm; omega))
            exact h m2 (kC_tr (kC_tr i2 j2) l2) l1
      · rw [cif_f (fun q => ck q.2.2)] at h
        exact h _ i2 i1
    · refine br_t rfl ?_
      rw [cif_f (fun q => c2 q.2.1)] at h
      exact h _ i2 i1
  · refine br_t rfl ?_
    rw [cif_f (fun q => c q.1)] at h
    exact h _ i2 i1
