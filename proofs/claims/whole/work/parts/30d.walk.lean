/-! 30d.walk: walk -/
def pK (σ : pt_sg) (r : Nat) : Int32 := σ (43 + 7 * r)
def pU (σ : pt_sg) (r : Nat) : Nat → Int32 := fun f => σ (44 + 7 * r + f)
def pA (σ : pt_sg) (r : Nat) : Int32 := σ (44 + 7 * r + 5)
theorem pU_ok {σ : pt_sg} (O : OkS σ) {r : Nat} (hr : r < sr σ) : okU (pU σ r) := (O.2.2.2.2.2.2.2 r hr).2.1
theorem pA_ok {σ : pt_sg} (O : OkS σ) {r : Nat} (hr : r < sr σ) : -1 ≤ pA σ r ∧ pA σ r ≤ 4 := by
  have := (O.2.2.2.2.2.2.2 r hr).2.2
  unfold pA
  rw [show 44 + 7 * r + 5 = 49 + 7 * r by omega]
  exact this
def wP (σ : pt_sg) (r a b : Nat) : Nat → (Nat → Int32) × Int32 := wkU (pK σ r) σ a b (pU σ r) (pA σ r)
def wN (σ : pt_sg) (r a b : Nat) : Nat → Int32 := wkN (pK σ r) σ a b (pU σ r) (pA σ r)
theorem wP_ok {σ : pt_sg} (O : OkS σ) {r a b : Nat} (hr : r < sr σ) (k : Nat) : okU (wP σ r a b k).1 ∧ (-1 ≤ (wP σ r a b k).2 ∧ (wP σ r a b k).2 ≤ 4) := wkU_ok (pU_ok O hr) (pA_ok O hr) k
noncomputable def walkX (a : pt_al) (r f t : Int32) : pt_al × Int32 := cif (walkP (aS a) r f t) (uSA a (plS (aS a) (xN r) (wP (aS a) (xN r) (xN f) (xN t) (wn (xN f) (xN t))).1 (wP (aS a) (xN r) (xN f) (xN t) (wn (xN f) (xN t))).2) (apush (aA a) (aS a)), wN (aS a) (xN r) (xN f) (xN t) (wn (xN f) (xN t))) (a, -1000001)
theorem walkX_ok {a : pt_al} (O : OK a) (r f t : Int32) : OK (walkX a r f t).1 := by
  unfold walkX
  by_cases c : walkP (aS a) r f t
  · rw [cif_t c]
    obtain ⟨r1, f1, t1, h1, h2, h3, rfl, rfl, rfl⟩ := walkN O.1 c
    obtain ⟨o1, o2, o3, o4, o5, o6⟩ := O
    have h8 := o1.2.1
    have h9 := o1.2.2.2.1
    rw [xN_nI (by omega), xN_nI (by omega), xN_nI (by omega)]
    exact ⟨plS_ok o1 (wP_ok o1 h1 _).1 (wP_ok o1 h1 _).2, apush_ok o2 o1, o3, o4, o5, o6⟩
  · rw [cif_f c]; exact O
theorem sW_c {m : pt_M} {σ : pt_sg} (h : RC m 24 σ) {w : Nat} (hw : w < sw σ) : ∀ f, f < 5 → m 25 (5 * w + f) = sW σ w f := fun _ hf => RC_str h hw hf
theorem sW_m {m : pt_M} {σ : pt_sg} (O : OkS σ) (h : RM m 147 0 σ) {w : Nat} (hw : w < sw σ) : ∀ f, f < 5 → m 147 (3 + (5 * w + f)) = sW σ w f := fun _ hf => RM_at h (by have := O.2.1; omega)
theorem c_walk_l {d : Nat} {Q : pt_Q} {σ : pt_sg} {r a b : Nat} (O : OkS σ) (ha : a < sw σ) (hb : b < sw σ) : ∀ (n k : Nat) (x y : Int32) (m : pt_M), k + n = wn a b → x = nI k → y = wN σ r a b k → RC m 24 σ → PC m (pK σ r) (wP σ r a b k).1 (wP σ r a b k).2 →
    (∀ m1, fr Tpalm m m1 → PC m1 (pK σ r) (wP σ r a b (wn a b)).1 (wP σ r a b (wn a b)).2 → Go (Sp (d + 3)) tX6_walk Q 83 [some (zR 6 0), some (zI (nI r)), some (zI (nI a)), some (zI (nI b)), some (zI (wN σ r a b (wn a b))), some (zI (nI (wn a b)))] [] m1) →
    Go (Sp (d + 3)) tX6_walk Q 42 [some (zR 6 0), some (zI (nI r)), some (zI (nI a)), some (zI (nI b)), some (zI y), some (zI x)] [] m := by
  have h8 := O.2.1
  have hw8 := wn_8 ha hb
  intro n
  induction n with
  | zero =>
    intro k x y m hk hx hy hR hP h
    have ek : k = wn a b := by omega
    subst ek hx hy
    refine Go_rn [83] 100 ?_
    refine c_wallsOnWay (by omega) (by omega) ?_
    refine br_t (nI_le (Nat.le_refl _) (by omega)) ?_
    exact h m fr_rf hP
  | succ n ih =>
    intro k x y m hk hx hy hR hP h
    subst hx
    refine Go_rn [42] 100 ?_
    refine c_wallsOnWay (by omega) (by omega) ?_
    refine br_f (nI_ge (a := k) (b := wn a b) (by omega) (by omega)) ?_
    refine c_wallOnWay (by omega) (by omega) (show k < wn a b by omega) ?_
    have hw := wa_lt ha hb (show k < wn a b by omega)
    refine c_tasteOn (by omega) hP (sW_c hR hw) (fun m1 f1 p1 => ?_)
    have hR1 : RC m1 24 σ := RC_fr hR (fun o k g1 g2 => f1 o k (by unfold Tpalm; omega))
    have nxt : ∀ y2, y2 = wN σ r a b (k + 1) → Go (Sp (d + 3)) tX6_walk Q 42 [some (zR 6 0), some (zI (nI r)), some (zI (nI a)), some (zI (nI b)), some (zI y2), some (zI (nI k + 1))] [] m1 := fun y2 h2 =>
      ih (k + 1) _ _ _ (by omega) (nI_1 k) h2 hR1 p1 (fun m2 f2 p2 => h m2 (fun o j ho => (f2 o j ho).trans (f1 o j ho)) p2)
    refine ⟨fun c => ?_, fun c => ?_⟩
    · have c1 : (wP σ r a b (k + 1)).2 = -1 := c
      refine nxt y ?_
      show y = if (wP σ r a b (k + 1)).2 = -1 then wN σ r a b k else wN σ r a b k + 1
      rw [if_pos c1, hy]
    · have c1 : ¬ (wP σ r a b (k + 1)).2 = -1 := c
      refine nxt (y + 1) ?_
      show y + 1 = if (wP σ r a b (k + 1)).2 = -1 then wN σ r a b k else wN σ r a b k + 1
      rw [if_neg c1, hy]
theorem C_walk {d : Nat} {Q : pt_Q} {m : pt_M} {a : pt_al} (O : OK a) (hC : IC m a) {r f t : Int32} (h : ∀ m1, kM m m1 → IC m1 (walkX a r f t).1 → Q (some (zI (walkX a r f t).2)) m1) : Sp (d + 4) nX6_walk [zR 6 0, zI r, zI f, zI t] m Q := by
  unfold walkX at h
  refine sX6_walk ?_
  refine Go_rn [42] 100 ?_
  refine c_canWalk hC.1 (fun c => ?_) (fun c => ?_)
  · refine br_f (by decide) ?_
    rw [cif_t c] at h
    obtain ⟨r1, f1, t1, h1, h2, h3, rfl, rfl, rfl⟩ := walkN O.1 c
    have h8 := O.1.2.1
    have h9 := O.1.2.2.2.1
    rw [xN_nI (by omega), xN_nI (by omega), xN_nI (by omega)] at h
    refine c_keep O.1 hC.1 hC.2.1 O.2.1 (fun m1 fr1 a1 => ?_)
    have hs : RC m1 24 (aS a) := RC_fr hC.1 (fun o k g1 g2 => fr1 o k (by unfold Tacts; omega))
    refine c_take O.1 hs h1 (fun m2 fr2 p2 => ?_)
    have hs2 : RC m2 24 (aS a) := RC_fr hs (fun o k g1 g2 => fr2 o k (by unfold Ttake; omega))
    refine c_walk_l O.1 h2 h3 (wn f1 t1) 0 _ _ _ (by omega) rfl rfl hs2 p2 (fun m3 fr3 p3 => ?_)
    have hs3 : RC m3 24 (aS a) := RC_fr hs2 (fun o k g1 g2 => fr3 o k (by unfold Tpalm; omega))
    refine Go_rn [] 100 ?_
    refine c_leave (by omega) p3 (fun m4 fr4 u4 a4 => ?_)
    have e4 : ∀ o k, ¬ (o = 27 ∨ 137 ≤ o ∧ o ≤ 142) → m4 o k = m1 o k := fun o k q => by
      rw [fr4 o k (by omega), fr3 o k (by unfold Tpalm; omega), fr2 o k (by unfold Ttake; omega)]
    refine h m4 (fun o k ho => ?_) (IC_uSA hC (RC_pl h8 hs3 (fun o k g1 g2 g3 => fr4 o k g3) u4 a4) (cA_fr a1 (e4 _ _ (by omega)) (e4 _ _ (by omega)) (fun o k g1 g2 => e4 _ _ (by omega))) (fun o k q1 q => ?_))
    · rw [e4 o k (by omega)]
      exact fr1 o k (by unfold Tacts; omega)
    · unfold pC at q1
      rw [e4 o k (by omega)]
      exact fr1 o k (by unfold Tacts; omega)
  · refine br_t rfl ?_
    rw [cif_f c] at h
    exact h m kM_rf hC
def Tmw : Nat → Nat → Prop := fun o k => (o = 143 ∧ k = 21) ∨ o = 151
theorem m_walk_l {d : Nat} {Q : pt_Q} {σ : pt_sg} {r a b : Nat} (O : OkS σ) (hr : r < sr σ) (ha : a < sw σ) (hb : b < sw σ) : ∀ (n k : Nat) (x y : Int32) (g : Option pt_V) (m : pt_M), k + n = wn a b → x = nI k → y = wN σ r a b k → RM m 147 0 σ → PM m (pK σ r) (wP σ r a b k).1 (wP σ r a b k).2 →
    (∀ m1 g, fr Tmp m m1 → PM m1 (pK σ r) (wP σ r a b (wn a b)).1 (wP σ r a b (wn a b)).2 → Go (Sp (d + 3)) tX7_walk Q 86 [some (zR 7 143), some (zI (nI r)), some (zI (nI a)), some (zI (nI b)), some (zI (wN σ r a b (wn a b))), some (zI (nI (wn a b))), g] [] m1) →
    Go (Sp (d + 3)) tX7_walk Q 33 [some (zR 7 143), some (zI (nI r)), some (zI (nI a)), some (zI (nI b)), some (zI y), some (zI x), g] [] m := by
  have h8 := O.2.1
  have hw8 := wn_8 ha hb
  intro n
  induction n with
  | zero =>
    intro k x y g m hk hx hy hR hP h
    have ek : k = wn a b := by omega
    subst ek hx hy
    refine Go_rn [86] 100 ?_
    refine m_wallsOf (by omega) (by omega) ?_
    refine br_t (nI_le (Nat.le_refl _) (by omega)) ?_
    exact h m g fr_rf hP
  | succ n ih =>
    intro k x y g m hk hx hy hR hP h
    subst hx
    refine Go_rn [33] 100 ?_
    refine m_wallsOf (by omega) (by omega) ?_
    refine br_f (nI_ge (a := k) (b := wn a b) (by omega) (by omega)) ?_
    refine m_wallAt (by omega) (by omega) (show k < wn a b by omega) ?_
    have hw := wa_lt ha hb (show k < wn a b by omega)
    refine m_taste (by omega) hP (sW_m O hR hw) ?_
    refine ⟨fun c => ?_, fun c => ?_⟩
    · have c1 : (wP σ r a b (k + 1)).2 = -1 := c
      refine m_getsUsed (wP_ok O hr k).1 hP (fun m1 f1 p1 => ?_)
      have hR1 : RM m1 147 0 σ := RM_fr hR (fun k _ _ => f1 _ _ (by unfold Tmp; omega))
      refine ih (k + 1) _ _ _ _ (by omega) (nI_1 k) ?_ hR1 p1 (fun m2 g2 f2 p2 => h m2 g2 (fun o j ho => (f2 o j ho).trans (f1 o j ho)) p2)
      show y + 0 = if (wP σ r a b (k + 1)).2 = -1 then wN σ r a b k else wN σ r a b k + 1
      rw [if_pos c1, hy]
      exact Int32.add_zero _
    · have c1 : ¬ (wP σ r a b (k + 1)).2 = -1 := c
      refine m_getsUsed (wP_ok O hr k).1 hP (fun m1 f1 p1 => ?_)
      have hR1 : RM m1 147 0 σ := RM_fr hR (fun k _ _ => f1 _ _ (by unfold Tmp; omega))
      refine ih (k + 1) _ _ _ _ (by omega) (nI_1 k) ?_ hR1 p1 (fun m2 g2 f2 p2 => h m2 g2 (fun o j ho => (f2 o j ho).trans (f1 o j ho)) p2)
      show y + 1 = if (wP σ r a b (k + 1)).2 = -1 then wN σ r a b k else wN σ r a b k + 1
      rw [if_neg c1, hy]
theorem M_walk {d : Nat} {Q : pt_Q} {m : pt_M} {a : pt_al} (O : OK a) (hM : IM m a) {r f t : Int32} (h : ∀ m1, kC m m1 → IM m1 (walkX a r f t).1 → Q (some (zI (walkX a r f t).2)) m1) : Sp (d + 4) nX7_walk [zR 7 143, zI r, zI f, zI t] m Q := by
  obtain ⟨t1, t2⟩ := IM_th hM
  unfold walkX at h
  refine sX7_walk ?_
  refine Go_rn [33] 100 ?_
  refine m_isWalk O.1 t1.1 (fun c => ?_) (fun c => ?_)
  · refine br_f (by decide) ?_
    rw [cif_t c] at h
    obtain ⟨r1, f1, b1, h1, h2, h3, rfl, rfl, rfl⟩ := walkN O.1 c
    have h8 := O.1.2.1
    have h9 := O.1.2.2.2.1
    rw [xN_nI (by omega), xN_nI (by omega), xN_nI (by omega)] at h
    refine m_keep t1.1 t1.2.1 O.2.1 (fun m1 fr1 a1 => ?_)
    have hs : RM m1 147 0 (aS a) := RM_fr t1.1 (fun k _ _ => fr1 147 k (by unfold Tmk; omega))
    refine m_layPalm O.1 hs h1 (fun m2 fr2 p2 => ?_)
    have hs2 : RM m2 147 0 (aS a) := RM_fr hs (fun k _ _ => fr2 147 k (by unfold Tlay; omega))
    refine m_walk_l O.1 h1 h2 h3 (wn f1 b1) 0 _ _ _ _ (by omega) rfl rfl hs2 p2 (fun m3 g3 fr3 p3 => ?_)
    have hs3 : RM m3 147 0 (aS a) := RM_fr hs2 (fun k _ _ => fr3 147 k (by unfold Tmp; omega))
    refine Go_rn [89] 100 ?_
    refine m_walk_c (f := (wP (aS a) r1 f1 b1 (wn f1 b1)).1) (by omega) 5 0 _ _ (by omega) rfl (fun j hj => by rw [Nat.zero_add]; exact p3.2.2 j hj) (fun j hj => by omega) (fun m4 fr4 u4 => ?_)
    refine Go_rn [] 100 ?_
    refine ⟨49 + 7 * r1, ixV r1, by omega, ?_⟩
    have ea : m4 143 21 = (wP (aS a) r1 f1 b1 (wn f1 b1)).2 := (fr4 _ _ (by omega)).trans p3.2.1
    have e4 : ∀ o k, ¬ (o = 147 ∨ o = 151 ∨ (o = 143 ∧ (k = 19 ∨ k = 21))) → st m4 147 (49 + 7 * r1) (m4 143 21) o k = m1 o k := fun o k q => by
      rw [st_eq, if_neg (by omega), fr4 o k (by omega), fr3 o k (by unfold Tmp; omega), fr2 o k (by unfold Tlay; omega)]
    refine h _ (kC_tr t2 (fun o k ho => ?_)) (IM_uSA t1 (RM_pl (r := r1) hs3 (fun k q => ?_) (fun f hf => ?_) ?_) (mA_fr a1 (e4 _ _ (by omega)) (fun k => e4 _ _ (by omega))) (fun o k q1 q => ?_))
    · rw [e4 o k (by omega)]
      exact fr1 o k (by unfold Tmk; omega)
    · rw [st_eq, if_neg (by omega)]
      exact fr4 _ _ (by omega)
    · rw [st_eq, if_neg (by omega)]
      exact u4 f hf
    · rw [st_eq, if_pos ⟨rfl, rfl⟩]
      exact ea
    · unfold pM at q1
      rw [e4 o k (by omega)]
      exact fr1 o k (by unfold Tmk; omega)
  · refine br_t rfl ?_
    rw [cif_f c] at h
    exact h _ t2 t1
