/-! 34.wrong: wrong -/
def wrG (σ : pt_sg) (r a b : Nat) (f : Nat → Int32) : Nat → Nat → Int32
  | 0, _ => -1000000
  | n + 1, k => if rdd (pK σ r) (wP σ r a b (k + 1)).2 = f k then wrG σ r a b f n (k + 1) else nI k
noncomputable def wrongX (a : pt_al) (r f t row : Int32) : pt_al × Int32 := cif (walkP (aS a) r f t ∧ (0 ≤ row ∧ row < 8)) (hearP a (xN row) (wn (xN f) (xN t)) (-1) (fun g => (aFs a 0, wrG (aS a) (xN r) (xN f) (xN t) g (wn (xN f) (xN t)) 0))) (a, -1000001)
theorem wrongX_ok {a : pt_al} (O : OK a) (r f t row : Int32) : OK (wrongX a r f t row).1 := by
  unfold wrongX
  by_cases c : walkP (aS a) r f t ∧ (0 ≤ row ∧ row < 8)
  · rw [cif_t c]; exact hearP_ok O (fun _ => O)
  · rw [cif_f c]; exact O
theorem c_wrong_l {d : Nat} {Q : pt_Q} {σ : pt_sg} {r a b : Nat} {f : Nat → Int32} {v4 v5 : Int32} (O : OkS σ) (ha : a < sw σ) (hb : b < sw σ) : ∀ (n k : Nat) (x : Int32) (g7 : Option pt_V) (m : pt_M), k + n = wn a b → x = nI k → RC m 24 σ → PC m (pK σ r) (wP σ r a b k).1 (wP σ r a b k).2 → (∀ j, j < wn a b → m 139 (wa a b j) = f j) →
    (∀ m1, fr Tpalm m m1 → Q (some (zI (wrG σ r a b f n k))) m1) →
    Go (Sp (d + 3)) tX6_wrong Q 55 [some (zR 6 0), some (zI (nI r)), some (zI (nI a)), some (zI (nI b)), some (zI v4), some (zI v5), some (zI x), g7] [] m := by
  have h8 := O.2.1
  have hw8 := wn_8 ha hb
  intro n
  induction n with
  | zero =>
    intro k x g7 m hk hx hR hP ht h
    have ek : k = wn a b := by omega
    subst ek hx
    refine Go_rn [] 100 ?_
    refine c_wallsOnWay (by omega) (by omega) ?_
    refine br_t (nI_le (Nat.le_refl _) (by omega)) ?_
    exact h m fr_rf
  | succ n ih =>
    intro k x g7 m hk hx hR hP ht h
    subst hx
    refine Go_rn [55] 100 ?_
    refine c_wallsOnWay (by omega) (by omega) ?_
    refine br_f (nI_ge (a := k) (b := wn a b) (by omega) (by omega)) ?_
    refine c_wallOnWay (by omega) (by omega) (show k < wn a b by omega) ?_
    have hw := wa_lt ha hb (show k < wn a b by omega)
    refine c_readOn (by omega) hP (sW_c hR hw) (fun m1 f1 p1 => ?_)
    have hR1 : RC m1 24 σ := RC_fr hR (fun o k g1 g2 => f1 o k (by unfold Tpalm; omega))
    have ht1 : ∀ j, j < wn a b → m1 139 (wa a b j) = f j := fun j hj => (f1 _ _ (by unfold Tpalm; omega)).trans (ht j hj)
    refine ⟨wa a b k, rfl, by omega, ?_⟩
    have e9 : wrG σ r a b f (n + 1) k = if rdd (pK σ r) (wP σ r a b (k + 1)).2 = f k then wrG σ r a b f n (k + 1) else nI k := rfl
    rw [e9] at h
    refine ⟨fun c => ?_, fun c => ?_⟩
    · have c1 : rdd (pK σ r) (wP σ r a b (k + 1)).2 = f k := c.trans (ht1 k (by omega))
      rw [if_pos c1] at h
      exact ih (k + 1) _ _ _ (by omega) (nI_1 k) hR1 p1 ht1 (fun m2 f2 => h m2 (fun o j ho => (f2 o j ho).trans (f1 o j ho)))
    · have c1 : ¬ rdd (pK σ r) (wP σ r a b (k + 1)).2 = f k := fun q => c (q.trans (ht1 k (by omega)).symm)
      rw [if_neg c1] at h
      exact h m1 f1
theorem C_wrong {d : Nat} {Q : pt_Q} {m : pt_M} {a : pt_al} (O : OK a) (hC : IC m a) {r f t row : Int32} (h : ∀ m1, kM m m1 → IC m1 (wrongX a r f t row).1 → Q (some (zI (wrongX a r f t row).2)) m1) : Sp (d + 4) nX6_wrong [zR 6 0, zI r, zI f, zI t, zI row] m Q := by
  unfold wrongX at h
  refine sX6_wrong ?_
  refine Go_rn [55] 100 ?_
  refine c_canWalk hC.1 (fun c => ?_) (fun c => ?_)
  · refine br_f (by decide) ?_
    refine c_isRow (fun c2 => ?_) (fun c2 => ?_)
    · refine br_f (by decide) ?_
      rw [cif_t ⟨c, c2⟩] at h
      obtain ⟨r1, f1, t1, h1, h2, h3, rfl, rfl, rfl⟩ := walkN O.1 c
      obtain ⟨w1, hw, rfl⟩ := ixof c2.1 (n := 8) c2.2 (by omega)
      have h8 := O.1.2.1
      have h9 := O.1.2.2.2.1
      rw [xN_nI (by omega), xN_nI (by omega), xN_nI (by omega), xN_nI (by omega)] at h
      refine c_hear O hC (by omega) (by omega) hw (fun e => ?_) (fun l N g e e2 => ?_) (fun l N g m1 e e2 e3 fr1 => ?_) (fun l N g m1 e e2 e3 fr1 u1 => ?_)
      · rw [hearP_n e] at h
        refine br_f (by decide) ?_
        exact h _ (IC_F hC 1).2 (IC_F hC 1).1
      · rw [hearP_s e, cif_f e2] at h
        refine br_f (by decide) ?_
        exact h _ (IC_F hC 2).2 (IC_F hC 2).1
      · rw [hearP_s e, cif_t e2, cif_f e3] at h
        refine br_f (by decide) ?_
        obtain ⟨i1, i2⟩ := IC_scr hC (m1 := m1) (fun o k q => fr1 o k (by omega))
        exact h _ i2 i1
      · rw [hearP_s e, cif_t e2, cif_t e3] at h
        refine br_t rfl ?_
        obtain ⟨i1, i2⟩ := IC_scr hC (m1 := m1) (fun o k q => fr1 o k (by omega))
        obtain ⟨j1, j2⟩ := IC_F i1 0
        refine c_take O.1 j1.1 h1 (fun m2 fr2 p2 => ?_)
        have hs2 : RC m2 24 (aS a) := RC_fr j1.1 (fun o k g1 g2 => fr2 o k (by unfold Ttake; omega))
        refine c_wrong_l (f := g) O.1 h2 h3 (wn f1 t1) 0 _ _ _ (by omega) rfl hs2 p2 (fun j hj => ?_) (fun m3 fr3 => ?_)
        · rw [fr2 _ _ (by unfold Ttake; omega), st_eq, if_neg (by omega)]
          exact u1 j hj
        · obtain ⟨l1, l2⟩ := IC_scr j1 (m1 := m3) (fun o k q => by rw [fr3 o k (by unfold Tpalm; omega), fr2 o k (by unfold Ttake; omega)])
          exact h m3 (kM_tr (kM_tr i2 j2) l2) l1
    · refine br_t rfl ?_
      rw [cif_f (fun q => c2 q.2)] at h
      exact h m kM_rf hC
  · refine br_t rfl ?_
    rw [cif_f (fun q => c q.1)] at h
    exact h m kM_rf hC
theorem m_wrong_l {d : Nat} {Q : pt_Q} {σ : pt_sg} {r a b w : Nat} {f : Nat → Int32} {v5 : Int32} (O : OkS σ) (hr : r < sr σ) (ha : a < sw σ) (hb : b < sw σ) (hw0 : w < 8) : ∀ (n k : Nat) (x : Int32) (g7 : Option pt_V) (m : pt_M), k + n = wn a b → x = nI k → RM m 147 0 σ → PM m (pK σ r) (wP σ r a b k).1 (wP σ r a b k).2 → (∀ j, j < 40 → m 146 (40 * w + j) = f j) →
    (∀ m1, fr Tmp m m1 → Q (some (zI (wrG σ r a b f n k))) m1) →
    Go (Sp (d + 3)) tX7_wrong Q 56 [some (zR 7 143), some (zI (nI r)), some (zI (nI a)), some (zI (nI b)), some (zI (nI w)), some (zI v5), some (zI x), g7] [] m := by
  have h8 := O.2.1
  have hw8 := wn_8 ha hb
  intro n
  induction n with
  | zero =>
    intro k x g7 m hk hx hR hP ht h
    have ek : k = wn a b := by omega
    subst ek hx
    refine Go_rn [] 100 ?_
    refine m_wallsOf (by omega) (by omega) ?_
    refine br_t (nI_le (Nat.le_refl _) (by omega)) ?_
    exact h m fr_rf
  | succ n ih =>
    intro k x g7 m hk hx hR hP ht h
    subst hx
    refine Go_rn [56] 100 ?_
    refine m_wallsOf (by omega) (by omega) ?_
    refine br_f (nI_ge (a := k) (b := wn a b) (by omega) (by omega)) ?_
    refine m_wallAt (by omega) (by omega) (show k < wn a b by omega) ?_
    have hw := wa_lt ha hb (show k < wn a b by omega)
    refine m_taste (by omega) hP (sW_m O hR hw) ?_
    refine m_reads hP.1 ?_
    refine ⟨40 * w + k, ixH w k, by omega, ?_⟩
    have e9 : wrG σ r a b f (n + 1) k = if rdd (pK σ r) (wP σ r a b (k + 1)).2 = f k then wrG σ r a b f n (k + 1) else nI k := rfl
    rw [e9] at h
    refine ⟨fun c => ?_, fun c => ?_⟩
    · have c1 : rdd (pK σ r) (wP σ r a b (k + 1)).2 = f k := c.trans (ht k (by omega))
      rw [if_pos c1] at h
      refine m_getsUsed (wP_ok O hr k).1 hP (fun m1 f1 p1 => ?_)
      have hR1 : RM m1 147 0 σ := RM_fr hR (fun k _ _ => f1 _ _ (by unfold Tmp; omega))
      exact ih (k + 1) _ _ _ (by omega) (nI_1 k) hR1 p1 (fun j hj => (f1 _ _ (by unfold Tmp; omega)).trans (ht j hj)) (fun m2 f2 => h m2 (fun o j ho => (f2 o j ho).trans (f1 o j ho)))
    · have c1 : ¬ rdd (pK σ r) (wP σ r a b (k + 1)).2 = f k := fun q => c (q.trans (ht k (by omega)).symm)
      rw [if_neg c1] at h
      exact h m fr_rf
theorem M_wrong {d : Nat} {Q : pt_Q} {m : pt_M} {a : pt_al} (O : OK a) (hM : IM m a) {r f t row : Int32} (h : ∀ m1, kC m m1 → IM m1 (wrongX a r f t row).1 → Q (some (zI (wrongX a r f t row).2)) m1) : Sp (d + 4) nX7_wrong [zR 7 143, zI r, zI f, zI t, zI row] m Q := by
  obtain ⟨i1, i2⟩ := IM_th hM
  unfold wrongX at h
  refine sX7_wrong ?_
  refine Go_rn [56] 100 ?_
  refine m_isWalk O.1 i1.1 (fun c => ?_) (fun c => ?_)
  · refine br_f (by decide) ?_
    refine m_isRow (fun c2 => ?_) (fun c2 => ?_)
    · refine br_f (by decide) ?_
      rw [cif_t ⟨c, c2⟩] at h
      obtain ⟨r1, f1, t1, h1, h2, h3, rfl, rfl, rfl⟩ := walkN O.1 c
      obtain ⟨w1, hw, rfl⟩ := ixof c2.1 (n := 8) c2.2 (by omega)
      have h8 := O.1.2.1
      have h9 := O.1.2.2.2.1
      have hw8 := wn_8 h2 h3
      rw [xN_nI (by omega), xN_nI (by omega), xN_nI (by omega), xN_nI (by omega)] at h
      refine m_wallsOf (by omega) (by omega) ?_
      refine m_barred O i1 hw (by omega) (fun e => ?_) (fun l N g e e2 => ?_) (fun l N g e e2 e3 => ?_) (fun l N g e e2 e3 => ?_)
      · rw [hearP_n e] at h
        refine br_f (by decide) ?_
        obtain ⟨j1, j2⟩ := IM_F i1 1
        exact h _ (kC_tr i2 j2) j1
      · rw [hearP_s e, cif_f e2] at h
        refine br_f (by decide) ?_
        obtain ⟨j1, j2⟩ := IM_F i1 2
        exact h _ (kC_tr i2 j2) j1
      · rw [hearP_s e, cif_t e2, cif_f e3] at h
        refine br_f (by decide) ?_
        exact h _ i2 i1
      · rw [hearP_s e, cif_t e2, cif_t e3] at h
        refine br_t (by decide) ?_
        obtain ⟨j1, j2⟩ := IM_F i1 0
        refine m_layPalm O.1 j1.1 h1 (fun m2 fr2 p2 => ?_)
        have hs2 : RM m2 147 0 (aS a) := RM_fr j1.1 (fun k _ _ => fr2 147 k (by unfold Tlay; omega))
        refine m_wrong_l (f := g) O.1 h1 h2 h3 hw (wn f1 t1) 0 _ _ _ (by omega) rfl hs2 p2 (fun j hj => ?_) (fun m3 fr3 => ?_)
        · rw [fr2 _ _ (by unfold Tlay; omega)]
          exact ((j1.2.2.2.1 w1 hw).2 l N g e).2.2 j hj
        · obtain ⟨l1, l2⟩ := IM_scr j1 (m1 := m3) (fun o k q => by rw [fr3 o k (by unfold Tmp; omega), fr2 o k (by unfold Tlay; omega)])
          exact h m3 (kC_tr (kC_tr i2 j2) l2) l1
    · refine br_t rfl ?_
      rw [cif_f (fun q => c2 q.2)] at h
      exact h _ i2 i1
  · refine br_t rfl ?_
    rw [cif_f (fun q => c q.1)] at h
    exact h _ i2 i1
