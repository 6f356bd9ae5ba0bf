/-! 40.both: both -/
def revF (f : Nat → Int32) (n k : Nat) : Int32 := f (n - 1 - k)
theorem wn_symm (a b : Nat) : wn b a = wn a b := by
  unfold wn
  by_cases c : a ≤ b
  · rw [if_pos c]
    by_cases c2 : b ≤ a
    · rw [if_pos c2]; omega
    · rw [if_neg c2]
  · rw [if_neg c, if_pos (by omega)]
theorem wa_rev {a b k : Nat} (hk : k < wn a b) : wa b a (wn a b - 1 - k) = wa a b k := by
  unfold wa
  unfold wn at hk ⊢
  by_cases c : a ≤ b
  · rw [if_pos c] at hk
    rw [if_pos c, if_pos c]
    by_cases c2 : b ≤ a
    · rw [if_pos c2]; omega
    · rw [if_neg c2]; omega
  · rw [if_neg c] at hk
    rw [if_neg c, if_neg c, if_pos (by omega)]
    omega
theorem wa_rev2 {a b j : Nat} (hj : j < wn a b) : wa b a j = wa a b (wn a b - 1 - j) := by
  have := wa_rev (a := a) (b := b) (k := wn a b - 1 - j) (by omega)
  rw [show wn a b - 1 - (wn a b - 1 - j) = j by omega] at this
  exact this
def boV (σ : pt_sg) (r a b : Nat) (f : Nat → Int32) (k : Nat) : Int32 := mx (spV σ r a b f k) (spV σ r b a (revF f (wn a b)) (wn a b - 1 - k))
noncomputable def bothX (a : pt_al) (r f t row : Int32) : pt_al × Int32 := cif (walkP (aS a) r f t ∧ (0 ≤ row ∧ row < 8)) (hearP a (xN row) (wn (xN f) (xN t)) 0 (fun g => (aFs a 0, cif (spAll (aS a) (xN r) (xN f) (xN t) g ∧ spAll (aS a) (xN r) (xN t) (xN f) (revF g (wn (xN f) (xN t)))) (spSum (boV (aS a) (xN r) (xN f) (xN t) g) (wn (xN f) (xN t))) (-1000000)))) (a, -1000001)
theorem bothX_ok {a : pt_al} (O : OK a) (r f t row : Int32) : OK (bothX a r f t row).1 := by
  unfold bothX
  by_cases c : walkP (aS a) r f t ∧ (0 ≤ row ∧ row < 8)
  · rw [cif_t c]; exact hearP_ok O (fun _ => O)
  · rw [cif_f c]; exact O
theorem heard_rev {f : Nat → Int32} {a b : Nat} {low : Int32} (h : heardP f (wn a b) low) : heardP (revF f (wn a b)) (wn b a) low := by
  intro j hj
  rw [wn_symm] at hj
  exact h _ (by omega)
theorem c_bosum_l {d : Nat} {Q : pt_Q} {a b : Nat} {v u : Nat → Int32} {m : pt_M} {v1 v4 v5 : Int32} (ha : a < 8) (hb : b < 8) (hv : ∀ j, j < wn a b → m 141 (wa a b j) = v j) (hu : ∀ j, j < wn a b → m 142 (wa a b j) = u j) (h : Q (some (zI (spSum (fun k => mx (v k) (u k)) (wn a b)))) m) : ∀ (n k : Nat) (x y : Int32) (g8 : Option pt_V), k + n = wn a b → x = nI k → y = spSum (fun k => mx (v k) (u k)) k →
    Go (Sp (d + 1)) tX6_both Q 77 [some (zR 6 0), some (zI v1), some (zI (nI a)), some (zI (nI b)), some (zI v4), some (zI v5), some (zI y), some (zI x), g8] [] m := by
  have hw8 := wn_8 ha hb
  intro n
  induction n with
  | zero =>
    intro k x y g8 hk hx hy
    have ek : k = wn a b := by omega
    subst ek hx hy
    refine Go_rn [] 100 ?_
    refine c_wallsOnWay ha hb ?_
    refine br_t (nI_le (Nat.le_refl _) (by omega)) ?_
    exact h
  | succ n ih =>
    intro k x y g8 hk hx hy
    subst hx hy
    have hkn : k < wn a b := by omega
    refine Go_rn [77] 100 ?_
    refine c_wallsOnWay ha hb ?_
    refine br_f (nI_ge hkn (by omega)) ?_
    refine c_wallOnWay ha hb hkn ?_
    refine ⟨wa a b k, rfl, wa_lt ha hb hkn, ?_⟩
    refine ⟨wa a b k, rfl, wa_lt ha hb hkn, ?_⟩
    refine ih (k + 1) _ _ _ (by omega) (nI_1 k) ?_
    show spSum (fun k => mx (v k) (u k)) k + mx (m 141 (wa a b k)) (m 142 (wa a b k)) = spSum (fun k => mx (v k) (u k)) k + mx (v k) (u k)
    rw [hv k hkn, hu k hkn]
theorem C_both {d : Nat} {Q : pt_Q} {m : pt_M} {a : pt_al} (O : OK a) (hC : IC m a) {r f t row : Int32} (h : ∀ m1, kM m m1 → IC m1 (bothX a r f t row).1 → Q (some (zI (bothX a r f t row).2)) m1) : Sp (d + 5) nX6_both [zR 6 0, zI r, zI f, zI t, zI row] m Q := by
  unfold bothX at h
  refine sX6_both ?_
  refine Go_rn [77] 100 ?_
  refine c_canWalk hC.1 (fun c => ?_) (fun c => ?_)
  · refine br_f (by decide) ?_
    refine c_isRow (fun c2 => ?_) (fun c2 => ?_)
    · refine br_f (by decide) ?_
      rw [cif_t ⟨c, c2⟩] at h
      obtain ⟨r1, f1, t1, h1, h2, h3, rfl, rfl, rfl⟩ := walkN O.1 c
      obtain ⟨w1, hw, rfl⟩ := ixof c2.1 (n := 8) c2.2 (by omega)
      have h8 := O.1.2.1
      have h9 := O.1.2.2.2.1
      have hw8 := wn_8 h2 h3
      rw [xN_nI (by omega), xN_nI (by omega), xN_nI (by omega), xN_nI (by omega)] at h
      refine c_hear O hC (by omega) (by omega) hw (fun e => ?_) (fun l N g e e2 => ?_) (fun l N g m1 e e2 e3 fr1 => ?_) (fun l N g m1 e e2 e3 fr1 u1 => ?_)
      · rw [hearP_n e] at h
        refine br_f (by decide) ?_
        exact h _ (IC_F hC 1).2 (IC_F hC 1).1
      · rw [hearP_s e, cif_f e2] at h
        refine br_f (by decide) ?_
        exact h _ (IC_F hC 2).2 (IC_F hC 2).1
      · rw [hearP_s e, cif_t e2, cif_f e3] at h
        refine br_f (by decide) ?_
        obtain ⟨i1, i2⟩ := IC_scr hC (m1 := m1) (fun o k q => fr1 o k (by omega))
        exact h _ i2 i1
      · rw [hearP_s e, cif_t e2, cif_t e3] at h
        refine br_t rfl ?_
        obtain ⟨i1, i2⟩ := IC_scr hC (m1 := m1) (fun o k q => fr1 o k (by omega))
        obtain ⟨j1, j2⟩ := IC_F i1 0
        have tl : ∀ j, j < wn f1 t1 → st m1 0 7 0 139 (wa f1 t1 j) = g j := fun j hj => by rw [st_eq, if_neg (by omega)]; exact u1 j hj
        refine c_findSpice O.1 h1 h2 h3 (Or.inl rfl) e3 j1.1 tl (fun m2 fr2 q1 q2 => ?_) (fun m2 fr2 q1 => ?_)
        · refine br_f (by decide) ?_
          obtain ⟨l1, l2⟩ := IC_scr j1 (m1 := m2) (fun o k q => fr2 o k (by unfold Tfs; omega))
          refine c_findSpice (f := revF g (wn f1 t1)) O.1 h1 h3 h2 (Or.inr rfl) (heard_rev e3) l1.1 (fun j hj => ?_) (fun m3 fr3 q3 q4 => ?_) (fun m3 fr3 q3 => ?_)
          · rw [wn_symm] at hj
            rw [fr2 _ _ (by unfold Tfs; omega), wa_rev2 hj, tl _ (by omega)]
            rfl
          · refine br_f (by decide) ?_
            rw [cif_t ⟨q1, q3⟩] at h
            obtain ⟨n1, n2⟩ := IC_scr l1 (m1 := m3) (fun o k q => fr3 o k (by unfold Tfs; omega))
            have h := h m3 (kM_tr (kM_tr (kM_tr i2 j2) l2) n2) n1
            refine c_bosum_l (v := spV (aS a) r1 f1 t1 g) (u := fun k => spV (aS a) r1 t1 f1 (revF g (wn f1 t1)) (wn f1 t1 - 1 - k)) (by omega) (by omega) (fun j hj => ?_) (fun j hj => ?_) h (wn f1 t1) 0 _ _ _ (by omega) rfl rfl
            · rw [fr3 _ _ (by unfold Tfs; omega)]
              exact q2 j hj
            · rw [← wa_rev hj]
              exact q4 (wn f1 t1 - 1 - j) (by rw [wn_symm f1 t1]; omega)
          · refine br_t rfl ?_
            rw [cif_f (fun q => q3 q.2)] at h
            obtain ⟨n1, n2⟩ := IC_scr l1 (m1 := m3) (fun o k q => fr3 o k (by unfold Tfs; omega))
            exact h m3 (kM_tr (kM_tr (kM_tr i2 j2) l2) n2) n1
        · refine br_t rfl ?_
          rw [cif_f (fun q => q1 q.1)] at h
          obtain ⟨l1, l2⟩ := IC_scr j1 (m1 := m2) (fun o k q => fr2 o k (by unfold Tfs; omega))
          exact h m2 (kM_tr (kM_tr i2 j2) l2) l1
    · refine br_t rfl ?_
      rw [cif_f (fun q => c2 q.2)] at h
      exact h m kM_rf hC
  · refine br_t rfl ?_
    rw [cif_f (fun q => c q.1)] at h
    exact h m kM_rf hC
theorem m_bosum_l {d : Nat} {Q : pt_Q} {a b : Nat} {v u : Nat → Int32} {m : pt_M} {v1 v4 v6 : Int32} (ha : a < 8) (hb : b < 8) (hv : ∀ j, j < wn a b → m 154 (wa a b j) = v j) (hu : ∀ j, j < wn a b → m 153 (wa a b j) = u j) (h : Q (some (zI (spSum (fun k => mx (v k) (u k)) (wn a b)))) m) : ∀ (n k : Nat) (x y : Int32) (g9 : Option pt_V), k + n = wn a b → x = nI k → y = spSum (fun k => mx (v k) (u k)) k →
    Go (Sp (d + 1)) tX7_both Q 131 [some (zR 7 143), some (zI v1), some (zI (nI a)), some (zI (nI b)), some (zI v4), some (zI (nI (wn a b))), some (zI v6), some (zI y), some (zI x), g9] [] m := by
  have hw8 := wn_8 ha hb
  intro n
  induction n with
  | zero =>
    intro k x y g9 hk hx hy
    have ek : k = wn a b := by omega
    subst ek hx hy
    refine Go_rn [] 100 ?_
    refine br_t (nI_le (Nat.le_refl _) (by omega)) ?_
    exact h
  | succ n ih =>
    intro k x y g9 hk hx hy
    subst hx hy
    have hkn : k < wn a b := by omega
    refine Go_rn [131] 100 ?_
    refine br_f (nI_ge hkn (by omega)) ?_
    refine m_wallAt ha hb hkn ?_
    refine ⟨wa a b k, rfl, wa_lt ha hb hkn, ?_⟩
    refine ⟨wa a b k, rfl, wa_lt ha hb hkn, ?_⟩
    have ev := hv k hkn
    have eu := hu k hkn
    refine ⟨fun c => ?_, fun c => ?_⟩
    · have c1 : v k ≤ u k := by rw [← ev, ← eu]; exact c
      refine ⟨wa a b k, rfl, wa_lt ha hb hkn, ?_⟩
      refine ih (k + 1) _ _ _ (by omega) (nI_1 k) ?_
      show spSum (fun k => mx (v k) (u k)) k + m 153 (wa a b k) = spSum (fun k => mx (v k) (u k)) k + mx (v k) (u k)
      rw [eu]
      congr 1
      unfold mx
      clear h ih
      grind
    · have c1 : ¬ v k ≤ u k := by rw [← ev, ← eu]; exact c
      refine ⟨wa a b k, rfl, wa_lt ha hb hkn, ?_⟩
      refine ih (k + 1) _ _ _ (by omega) (nI_1 k) ?_
      show spSum (fun k => mx (v k) (u k)) k + m 154 (wa a b k) = spSum (fun k => mx (v k) (u k)) k + mx (v k) (u k)
      rw [ev]
      congr 1
      unfold mx
      clear h ih
      grind
theorem ixR {w n j : Nat} (hj : j < n) : 40 * nI w + nI n - 1 + (-1) * nI j = nI (40 * w + (n - 1 - j)) := by
  rw [ixH]
  have e1 : nI (40 * w + n) - 1 = nI (40 * w + n - 1) := pk_sub (a := 40 * w + n) (b := 1) (by omega)
  rw [e1]
  have e2 : nI (40 * w + n - 1) + (-1) * nI j = nI (40 * w + n - 1) - nI j := by grind
  rw [e2, pk_sub (by omega)]
  congr 1
  omega
theorem M_both {d : Nat} {Q : pt_Q} {m : pt_M} {a : pt_al} (O : OK a) (hM : IM m a) {r f t row : Int32} (h : ∀ m1, kC m m1 → IM m1 (bothX a r f t row).1 → Q (some (zI (bothX a r f t row).2)) m1) : Sp (d + 5) nX7_both [zR 7 143, zI r, zI f, zI t, zI row] m Q := by
  obtain ⟨i1, i2⟩ := IM_th hM
  unfold bothX at h
  refine sX7_both ?_
  refine Go_rn [74, 131] 100 ?_
  refine m_isWalk O.1 i1.1 (fun c => ?_) (fun c => ?_)
  · refine br_f (by decide) ?_
    refine m_isRow (fun c2 => ?_) (fun c2 => ?_)
    · refine br_f (by decide) ?_
      rw [cif_t ⟨c, c2⟩] at h
      obtain ⟨r1, f1, t1, h1, h2, h3, rfl, rfl, rfl⟩ := walkN O.1 c
      obtain ⟨w1, hw, rfl⟩ := ixof c2.1 (n := 8) c2.2 (by omega)
      have h8 := O.1.2.1
      have h9 := O.1.2.2.2.1
      have hw8 := wn_8 h2 h3
      rw [xN_nI (by omega), xN_nI (by omega), xN_nI (by omega), xN_nI (by omega)] at h
      refine m_wallsOf (by omega) (by omega) ?_
      refine m_barred O i1 hw (by omega) (fun e => ?_) (fun l N g e e2 => ?_) (fun l N g e e2 e3 => ?_) (fun l N g e e2 e3 => ?_)
      · rw [hearP_n e] at h
        refine br_f (by decide) ?_
        obtain ⟨j1, j2⟩ := IM_F i1 1
        exact h _ (kC_tr i2 j2) j1
      · rw [hearP_s e, cif_f e2] at h
        refine br_f (by decide) ?_
        obtain ⟨j1, j2⟩ := IM_F i1 2
        exact h _ (kC_tr i2 j2) j1
      · rw [hearP_s e, cif_t e2, cif_f e3] at h
        refine br_f (by decide) ?_
        exact h _ i2 i1
      · rw [hearP_s e, cif_t e2, cif_t e3] at h
        refine br_t (by decide) ?_
        obtain ⟨j1, j2⟩ := IM_F i1 0
        have ob := O.2.2.2.1 w1 hw l N g e
        have eg := ((j1.2.2.2.1 w1 hw).2 l N g e).2.2
        refine m_laySpice O.1 h1 h2 h3 e3 j1.1 (fun j hj => ⟨40 * w1 + j, by omega, ix1 w1 j, eg j (by omega)⟩) (fun m2 fr2 q1 q2 => ?_) (fun m2 fr2 q1 => ?_)
        · refine br_f (by decide) ?_
          obtain ⟨l1, l2⟩ := IM_scr j1 (m1 := m2) (fun o k q => fr2 o k (by unfold Tlsm; omega))
          refine m_both_c (f := m2 153) 8 0 _ _ (by omega) rfl (fun j hj => by rw [Nat.zero_add]) (fun j hj => by omega) (fun m3 fr3 q3 => ?_)
          obtain ⟨n1, n2⟩ := IM_scr l1 (m1 := m3) (fun o k q => fr3 o k (by omega))
          have eg3 := ((n1.2.2.2.1 w1 hw).2 l N g e).2.2
          refine Go_rn [131] 100 ?_
          refine m_laySpice (f := revF g (wn f1 t1)) O.1 h1 h3 h2 (heard_rev e3) n1.1 (fun j hj => ⟨40 * w1 + (wn f1 t1 - 1 - j), by omega, ixR (by rw [wn_symm] at hj; exact hj), eg3 _ (by omega)⟩) (fun m4 fr4 q5 q6 => ?_) (fun m4 fr4 q5 => ?_)
          · refine br_f (by decide) ?_
            rw [cif_t ⟨q1, q5⟩] at h
            obtain ⟨p1, p2⟩ := IM_scr n1 (m1 := m4) (fun o k q => fr4 o k (by unfold Tlsm; omega))
            have h := h m4 (kC_tr (kC_tr (kC_tr (kC_tr i2 j2) l2) n2) p2) p1
            refine m_bosum_l (v := spV (aS a) r1 f1 t1 g) (u := fun k => spV (aS a) r1 t1 f1 (revF g (wn f1 t1)) (wn f1 t1 - 1 - k)) (by omega) (by omega) (fun j hj => ?_) (fun j hj => ?_) h (wn f1 t1) 0 _ _ _ (by omega) rfl rfl
            · have hwa := wa_lt (n := 8) (show f1 < 8 by omega) (show t1 < 8 by omega) hj
              have := q3 (wa f1 t1 j) hwa
              rw [Nat.zero_add] at this
              rw [fr4 _ _ (by unfold Tlsm; omega), this]
              exact q2 j hj
            · rw [← wa_rev hj]
              exact q6 (wn f1 t1 - 1 - j) (by rw [wn_symm f1 t1]; omega)
          · refine br_t rfl ?_
            rw [cif_f (fun q => q5 q.2)] at h
            obtain ⟨p1, p2⟩ := IM_scr n1 (m1 := m4) (fun o k q => fr4 o k (by unfold Tlsm; omega))
            exact h m4 (kC_tr (kC_tr (kC_tr (kC_tr i2 j2) l2) n2) p2) p1
        · refine br_t rfl ?_
          rw [cif_f (fun q => q1 q.1)] at h
          obtain ⟨l1, l2⟩ := IM_scr j1 (m1 := m2) (fun o k q => fr2 o k (by unfold Tlsm; omega))
          exact h m2 (kC_tr (kC_tr i2 j2) l2) l1
    · refine br_t rfl ?_
      rw [cif_f (fun q => c2 q.2)] at h
      exact h _ i2 i1
  · refine br_t rfl ?_
    rw [cif_f (fun q => c q.1)] at h
    exact h _ i2 i1
