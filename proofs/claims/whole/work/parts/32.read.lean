/-! 32.read: read -/
theorem c_read_l {d : Nat} {Q : pt_Q} {σ : pt_sg} {r a b K : Nat} (O : OkS σ) (ha : a < sw σ) (hb : b < sw σ) (hK : K < wn a b) : ∀ (n k : Nat) (x y : Int32) (m : pt_M), k + n = K + 1 → x = nI k → (n = 0 → y = rdd (pK σ r) (wP σ r a b (K + 1)).2) → RC m 24 σ → PC m (pK σ r) (wP σ r a b k).1 (wP σ r a b k).2 →
    (∀ m1, fr Tpalm m m1 → Q (some (zI (rdd (pK σ r) (wP σ r a b (K + 1)).2))) m1) →
    Go (Sp (d + 3)) tX6_read Q 49 [some (zR 6 0), some (zI (nI r)), some (zI (nI a)), some (zI (nI b)), some (zI (nI K)), some (zI y), some (zI x)] [] m := by
  have h8 := O.2.1
  have hw8 := wn_8 ha hb
  intro n
  induction n with
  | zero =>
    intro k x y m hk hx hy hR hP h
    have ek : k = K + 1 := by omega
    subst ek hx
    refine Go_rn [] 100 ?_
    refine br_t (nI_lt (by omega) (by omega)) ?_
    exact qe (hy rfl) (h m fr_rf)
  | succ n ih =>
    intro k x y m hk hx hy hR hP h
    subst hx
    refine Go_rn [49] 100 ?_
    refine br_f (nI_nlt (by omega) (by omega)) ?_
    refine c_wallOnWay (by omega) (by omega) (show k < wn a b by omega) ?_
    have hw := wa_lt ha hb (show k < wn a b by omega)
    refine c_readOn (by omega) hP (sW_c hR hw) (fun m1 f1 p1 => ?_)
    have hR1 : RC m1 24 σ := RC_fr hR (fun o k g1 g2 => f1 o k (by unfold Tpalm; omega))
    refine ih (k + 1) _ _ _ (by omega) (nI_1 k) (fun e => ?_) hR1 p1 (fun m2 f2 => h m2 (fun o j ho => (f2 o j ho).trans (f1 o j ho)))
    have ek : k = K := by omega
    rw [← ek]
    rfl
noncomputable def readX (a : pt_al) (r f t k : Int32) : Int32 := cif (walkP (aS a) r f t ∧ 0 ≤ k) (cif (k < nI (wn (xN f) (xN t))) (rdd (pK (aS a) (xN r)) (wP (aS a) (xN r) (xN f) (xN t) (xN k + 1)).2) (-1000000)) (-1000001)
theorem C_read {d : Nat} {Q : pt_Q} {m : pt_M} {a : pt_al} (O : OK a) (hC : IC m a) {r f t k : Int32} (h : ∀ m1, kM m m1 → IC m1 a → Q (some (zI (readX a r f t k))) m1) : Sp (d + 4) nX6_read [zR 6 0, zI r, zI f, zI t, zI k] m Q := by
  unfold readX at h
  refine sX6_read ?_
  refine Go_rn [49] 100 ?_
  refine c_canWalk hC.1 (fun c => ?_) (fun c => ?_)
  · refine br_f (by decide) ?_
    obtain ⟨r1, f1, t1, h1, h2, h3, rfl, rfl, rfl⟩ := walkN O.1 c
    have h8 := O.1.2.1
    have h9 := O.1.2.2.2.1
    have hw8 := wn_8 h2 h3
    rw [xN_nI (by omega), xN_nI (by omega), xN_nI (by omega)] at h
    refine ⟨fun c2 => ?_, fun c2 => ?_⟩
    · have c3 : 0 ≤ k := c2
      rw [cif_t ⟨c, c3⟩] at h
      refine c_wallsOnWay (by omega) (by omega) ?_
      refine ⟨fun c4 => ?_, fun c4 => ?_⟩
      · have c5 : k < nI (wn f1 t1) := c4
        rw [cif_t c5] at h
        obtain ⟨K, hK, rfl⟩ := ixof c3 c5 (by omega)
        rw [xN_nI (by omega)] at h
        refine c_take O.1 hC.1 h1 (fun m2 fr2 p2 => ?_)
        have hs2 : RC m2 24 (aS a) := RC_fr hC.1 (fun o k g1 g2 => fr2 o k (by unfold Ttake; omega))
        refine c_read_l O.1 h2 h3 hK (K + 1) 0 _ _ _ (by omega) rfl (fun q => by omega) hs2 p2 (fun m3 fr3 => ?_)
        obtain ⟨i1, i2⟩ := IC_scr hC (m1 := m3) (fun o k q => by rw [fr3 o k (by unfold Tpalm; omega), fr2 o k (by unfold Ttake; omega)])
        exact h m3 i2 i1
      · rw [cif_f c4] at h
        exact h m kM_rf hC
    · rw [cif_f (fun q => c2 q.2)] at h
      exact h m kM_rf hC
  · refine br_t rfl ?_
    rw [cif_f (fun q => c q.1)] at h
    exact h m kM_rf hC
theorem m_read_l {d : Nat} {Q : pt_Q} {σ : pt_sg} {r a b K : Nat} (O : OkS σ) (hr : r < sr σ) (ha : a < sw σ) (hb : b < sw σ) (hK : K < wn a b) : ∀ (n k : Nat) (x y : Int32) (m : pt_M), k + n = K + 1 → x = nI k → (n = 0 → y = (wP σ r a b (K + 1)).2) → RM m 147 0 σ → PM m (pK σ r) (wP σ r a b k).1 (wP σ r a b k).2 →
    (∀ m1, fr Tmp m m1 → Q (some (zI (rdd (pK σ r) (wP σ r a b (K + 1)).2))) m1) →
    Go (Sp (d + 3)) tX7_read Q 47 [some (zR 7 143), some (zI (nI r)), some (zI (nI a)), some (zI (nI b)), some (zI (nI K)), some (zI y), some (zI x)] [] m := by
  have h8 := O.2.1
  have hw8 := wn_8 ha hb
  intro n
  induction n with
  | zero =>
    intro k x y m hk hx hy hR hP h
    have ek : k = K + 1 := by omega
    subst ek hx
    refine Go_rn [] 100 ?_
    refine br_t (nI_lt (by omega) (by omega)) ?_
    refine m_reads hP.1 ?_
    rw [hy rfl]
    exact h m fr_rf
  | succ n ih =>
    intro k x y m hk hx hy hR hP h
    subst hx
    refine Go_rn [47] 100 ?_
    refine br_f (nI_nlt (by omega) (by omega)) ?_
    refine m_wallAt (by omega) (by omega) (show k < wn a b by omega) ?_
    have hw := wa_lt ha hb (show k < wn a b by omega)
    refine m_taste (by omega) hP (sW_m O hR hw) ?_
    refine m_getsUsed (wP_ok O hr k).1 hP (fun m1 f1 p1 => ?_)
    have hR1 : RM m1 147 0 σ := RM_fr hR (fun k _ _ => f1 _ _ (by unfold Tmp; omega))
    refine ih (k + 1) _ _ _ (by omega) (nI_1 k) (fun e => ?_) hR1 p1 (fun m2 f2 => h m2 (fun o j ho => (f2 o j ho).trans (f1 o j ho)))
    have ek : k = K := by omega
    rw [← ek]
    rfl
theorem IM_scr {m m1 : pt_M} {a : pt_al} (h : IM m a) (hf : ∀ o k, ¬ (o = 143 ∧ 12 ≤ k ∧ k ≤ 21 ∨ o = 148 ∨ 151 ≤ o ∧ o ≤ 154) → m1 o k = m o k) : IM m1 a ∧ kC m m1 :=
  ⟨IM_fr h (fun o k q => hf o k (by unfold pM at q; omega)), fun o k q => hf o k (by omega)⟩
theorem M_read {d : Nat} {Q : pt_Q} {m : pt_M} {a : pt_al} (O : OK a) (hM : IM m a) {r f t k : Int32} (h : ∀ m1, kC m m1 → IM m1 a → Q (some (zI (readX a r f t k))) m1) : Sp (d + 4) nX7_read [zR 7 143, zI r, zI f, zI t, zI k] m Q := by
  obtain ⟨i1, i2⟩ := IM_th hM
  unfold readX at h
  refine sX7_read ?_
  refine Go_rn [47] 100 ?_
  refine m_isWalk O.1 i1.1 (fun c => ?_) (fun c => ?_)
  · refine br_f (by decide) ?_
    obtain ⟨r1, f1, t1, h1, h2, h3, rfl, rfl, rfl⟩ := walkN O.1 c
    have h8 := O.1.2.1
    have h9 := O.1.2.2.2.1
    have hw8 := wn_8 h2 h3
    rw [xN_nI (by omega), xN_nI (by omega), xN_nI (by omega)] at h
    refine ⟨fun c2 => ?_, fun c2 => ?_⟩
    · have c3 : 0 ≤ k := c2
      rw [cif_t ⟨c, c3⟩] at h
      refine m_wallsOf (by omega) (by omega) ?_
      refine ⟨fun c4 => ?_, fun c4 => ?_⟩
      · have c5 : k < nI (wn f1 t1) := c4
        rw [cif_t c5] at h
        obtain ⟨K, hK, rfl⟩ := ixof c3 c5 (by omega)
        rw [xN_nI (by omega)] at h
        refine m_layPalm O.1 i1.1 h1 (fun m2 fr2 p2 => ?_)
        have hs2 : RM m2 147 0 (aS a) := RM_fr i1.1 (fun k _ _ => fr2 147 k (by unfold Tlay; omega))
        refine m_read_l O.1 h1 h2 h3 hK (K + 1) 0 _ _ _ (by omega) rfl (fun q => by omega) hs2 p2 (fun m3 fr3 => ?_)
        obtain ⟨j1, j2⟩ := IM_scr i1 (m1 := m3) (fun o k q => by rw [fr3 o k (by unfold Tmp; omega), fr2 o k (by unfold Tlay; omega)])
        exact h m3 (kC_tr i2 j2) j1
      · rw [cif_f c4] at h
        exact h _ i2 i1
    · rw [cif_f (fun q => c2 q.2)] at h
      exact h _ i2 i1
  · refine br_t rfl ?_
    rw [cif_f (fun q => c q.1)] at h
    exact h _ i2 i1
