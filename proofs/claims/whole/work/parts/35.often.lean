/-! 35.often: often -/
theorem rdd_inj {kd x y : Int32} : rdd kd x = rdd kd y ↔ x = y := by
  unfold rdd
  grind
def rp (σ : pt_sg) (r a b : Nat) : Nat → (Nat → Int32) × Int32
  | 0 => (pU σ r, pA σ r)
  | j + 1 => wkU (pK σ r) σ a b (rp σ r a b j).1 (rp σ r a b j).2 (wn a b)
def wq (σ : pt_sg) (r a b j : Nat) : Nat → (Nat → Int32) × Int32 := wkU (pK σ r) σ a b (rp σ r a b j).1 (rp σ r a b j).2
def tk (σ : pt_sg) (r a b j k : Nat) : Int32 := (wq σ r a b j (k + 1)).2
def sameP (σ : pt_sg) (r a b j : Nat) : Prop := ∀ k, k < wn a b → tk σ r a b j k = tk σ r a b 0 k
noncomputable def oft (σ : pt_sg) (r a b : Nat) : Nat → Nat → Int32
  | 0, _ => -1000000
  | n + 1, j => cif (sameP σ r a b j) (oft σ r a b n (j + 1)) (nI (j + 1))
theorem rp_ok {σ : pt_sg} (O : OkS σ) {r a b : Nat} (hr : r < sr σ) : ∀ j, okU (rp σ r a b j).1 ∧ (-1 ≤ (rp σ r a b j).2 ∧ (rp σ r a b j).2 ≤ 4)
  | 0 => ⟨pU_ok O hr, pA_ok O hr⟩
  | j + 1 => wkU_ok (rp_ok O hr j).1 (rp_ok O hr j).2 _
theorem wq_ok {σ : pt_sg} (O : OkS σ) {r a b : Nat} (hr : r < sr σ) (j k : Nat) : okU (wq σ r a b j k).1 := (wkU_ok (rp_ok O hr j).1 (rp_ok O hr j).2 k).1
noncomputable def oftenX (a : pt_al) (r f t : Int32) : Int32 := cif (walkP (aS a) r f t) (oft (aS a) (xN r) (xN f) (xN t) 19 1) (-1000001)
theorem c_oft1_l {d : Nat} {Q : pt_Q} {σ : pt_sg} {r a b : Nat} (O : OkS σ) (ha : a < sw σ) (hb : b < sw σ) : ∀ (n k : Nat) (x : Int32) (g5 : Option pt_V) (m : pt_M), k + n = wn a b → x = nI k → RC m 24 σ → PC m (pK σ r) (wq σ r a b 0 k).1 (wq σ r a b 0 k).2 → (∀ j, j < k → m 140 (wa a b j) = rdd (pK σ r) (tk σ r a b 0 j)) →
    (∀ m1 g5, fr (fun o _ => 137 ≤ o ∧ o ≤ 142) m m1 → PC m1 (pK σ r) (rp σ r a b 1).1 (rp σ r a b 1).2 → (∀ j, j < wn a b → m1 140 (wa a b j) = rdd (pK σ r) (tk σ r a b 0 j)) → Go (Sp (d + 3)) tX6_often Q 73 [some (zR 6 0), some (zI (nI r)), some (zI (nI a)), some (zI (nI b)), some (zI (nI (wn a b))), g5] [] m1) →
    Go (Sp (d + 3)) tX6_often Q 28 [some (zR 6 0), some (zI (nI r)), some (zI (nI a)), some (zI (nI b)), some (zI x), g5] [] m := by
  have h8 := O.2.1
  have hw8 := wn_8 ha hb
  intro n
  induction n with
  | zero =>
    intro k x g5 m hk hx hR hP ht h
    have ek : k = wn a b := by omega
    subst ek hx
    refine Go_rn [73] 100 ?_
    refine c_wallsOnWay (by omega) (by omega) ?_
    refine br_t (nI_le (Nat.le_refl _) (by omega)) ?_
    exact h m _ fr_rf hP ht
  | succ n ih =>
    intro k x g5 m hk hx hR hP ht h
    subst hx
    refine Go_rn [28] 100 ?_
    refine c_wallsOnWay (by omega) (by omega) ?_
    refine br_f (nI_ge (a := k) (b := wn a b) (by omega) (by omega)) ?_
    refine c_wallOnWay (by omega) (by omega) (show k < wn a b by omega) ?_
    have hw := wa_lt ha hb (show k < wn a b by omega)
    refine c_readOn (by omega) hP (sW_c hR hw) (fun m1 f1 p1 => ?_)
    have hR1 : RC m1 24 σ := RC_fr hR (fun o k g1 g2 => f1 o k (by unfold Tpalm; omega))
    refine ⟨wa a b k, rfl, by omega, ?_⟩
    refine ih (k + 1) _ _ _ (by omega) (nI_1 k) (RC_fr hR1 (fun o k g1 g2 => by rw [st_eq, if_neg (by omega)])) ⟨by rw [st_eq, if_neg (by omega)]; exact p1.1, by rw [st_eq, if_neg (by omega)]; exact p1.2.1, fun f hf => by rw [st_eq, if_neg (by omega)]; exact p1.2.2 f hf⟩ (fun j hj => ?_) (fun m2 g2 f2 p2 q2 => h m2 g2 (fun o j ho => ?_) p2 q2)
    · rw [st_eq]
      by_cases e : j = k
      · rw [e, if_pos ⟨rfl, rfl⟩]
        rfl
      · rw [if_neg (fun z => e (wa_inj (by omega) (by omega) z.2)), f1 _ _ (by unfold Tpalm; omega)]
        exact ht j (by omega)
    · rw [f2 o j ho, st_eq, if_neg (by omega)]
      exact f1 o j (by unfold Tpalm; omega)
def flg (σ : pt_sg) (r a b j k : Nat) (z : Int32) : Prop := (z = 0 ∧ ∀ i, i < k → tk σ r a b j i = tk σ r a b 0 i) ∨ (z = 1 ∧ ∃ i, i < k ∧ ¬ tk σ r a b j i = tk σ r a b 0 i)
theorem c_ro_l {d : Nat} {Q : pt_Q} {σ : pt_sg} {r a b j : Nat} (O : OkS σ) (ha : a < sw σ) (hb : b < sw σ) : ∀ (n k : Nat) (x z : Int32) (g5 : Option pt_V) (m : pt_M), k + n = wn a b → x = nI k → flg σ r a b j k z → RC m 24 σ → PC m (pK σ r) (wq σ r a b j k).1 (wq σ r a b j k).2 → (∀ i, i < wn a b → m 140 (wa a b i) = rdd (pK σ r) (tk σ r a b 0 i)) →
    (∀ m1 z, fr Tpalm m m1 → PC m1 (pK σ r) (rp σ r a b (j + 1)).1 (rp σ r a b (j + 1)).2 → flg σ r a b j (wn a b) z → Q (some (zI z)) m1) →
    Go (Sp (d + 3)) tX6_readsOtherwise Q 5 [some (zR 6 0), some (zI (nI a)), some (zI (nI b)), some (zI z), some (zI x), g5] [] m := by
  have h8 := O.2.1
  have hw8 := wn_8 ha hb
  intro n
  induction n with
  | zero =>
    intro k x z g5 m hk hx hz hR hP ht h
    have ek : k = wn a b := by omega
    subst ek hx
    refine Go_rn [] 100 ?_
    refine c_wallsOnWay (by omega) (by omega) ?_
    refine br_t (nI_le (Nat.le_refl _) (by omega)) ?_
    refine ⟨?_, h m z fr_rf hP hz⟩
    rcases hz with ⟨e, -⟩ | ⟨e, -⟩
    · rw [e]; exact bz0
    · rw [e]; exact bz1
  | succ n ih =>
    intro k x z g5 m hk hx hz hR hP ht h
    subst hx
    refine Go_rn [5] 100 ?_
    refine c_wallsOnWay (by omega) (by omega) ?_
    refine br_f (nI_ge (a := k) (b := wn a b) (by omega) (by omega)) ?_
    refine c_wallOnWay (by omega) (by omega) (show k < wn a b by omega) ?_
    have hw := wa_lt ha hb (show k < wn a b by omega)
    refine c_readOn (by omega) hP (sW_c hR hw) (fun m1 f1 p1 => ?_)
    have hR1 : RC m1 24 σ := RC_fr hR (fun o k g1 g2 => f1 o k (by unfold Tpalm; omega))
    have ht1 : ∀ i, i < wn a b → m1 140 (wa a b i) = rdd (pK σ r) (tk σ r a b 0 i) := fun i hi => (f1 _ _ (by unfold Tpalm; omega)).trans (ht i hi)
    refine ⟨wa a b k, rfl, by omega, ?_⟩
    have e0 := ht1 k (by omega)
    refine ⟨fun c => ?_, fun c => ?_⟩
    · have c1 : rdd (pK σ r) (tk σ r a b j k) = rdd (pK σ r) (tk σ r a b 0 k) := c.trans e0
      rw [rdd_inj] at c1
      refine ih (k + 1) _ _ _ _ (by omega) (nI_1 k) ?_ hR1 p1 ht1 (fun m2 z f2 => h m2 z (fun o j ho => (f2 o j ho).trans (f1 o j ho)))
      rcases hz with ⟨e, q⟩ | ⟨e, i, q1, q2⟩
      · refine Or.inl ⟨e, fun i hi => ?_⟩
        by_cases e2 : i = k
        · rw [e2]; exact c1
        · exact q i (by omega)
      · exact Or.inr ⟨e, i, by omega, q2⟩
    · have c1 : ¬ tk σ r a b j k = tk σ r a b 0 k := fun q => c ((congrArg (rdd (pK σ r)) q).trans e0.symm)
      exact ih (k + 1) _ _ _ _ (by omega) (nI_1 k) (Or.inr ⟨rfl, k, by omega, c1⟩) hR1 p1 ht1 (fun m2 z f2 => h m2 z (fun o j ho => (f2 o j ho).trans (f1 o j ho)))
theorem c_oft2_l {d : Nat} {Q : pt_Q} {σ : pt_sg} {r a b : Nat} {g5 : Option pt_V} (O : OkS σ) (ha : a < sw σ) (hb : b < sw σ) : ∀ (n j : Nat) (x : Int32) (m : pt_M), j + n = 20 → x = nI (j + 1) → RC m 24 σ → PC m (pK σ r) (rp σ r a b j).1 (rp σ r a b j).2 → (∀ i, i < wn a b → m 140 (wa a b i) = rdd (pK σ r) (tk σ r a b 0 i)) →
    (∀ m1, fr Tpalm m m1 → Q (some (zI (oft σ r a b n j))) m1) →
    Go (Sp (d + 4)) tX6_often Q 76 [some (zR 6 0), some (zI (nI r)), some (zI (nI a)), some (zI (nI b)), some (zI x), g5] [] m := by
  have h8 := O.2.1
  have hw8 := wn_8 ha hb
  intro n
  induction n with
  | zero =>
    intro j x m hk hx hR hP ht h
    have ek : j = 20 := by omega
    subst ek hx
    refine Go_rn [] 100 ?_
    refine br_t (nI_lt (a := 20) (b := 21) (by omega) (by omega)) ?_
    exact h m fr_rf
  | succ n ih =>
    intro j x m hk hx hR hP ht h
    subst hx
    refine Go_rn [76] 100 ?_
    refine br_f (nI_nlt (a := 20) (b := j + 1) (by omega) (by omega)) ?_
    refine sX6_readsOtherwise ?_
    refine Go_rn [5] 100 ?_
    refine c_ro_l O ha hb (wn a b) 0 _ _ _ _ (by omega) rfl (Or.inl ⟨rfl, fun i hi => by omega⟩) hR hP ht (fun m1 z f1 p1 hz => ?_)
    have e9 : oft σ r a b (n + 1) j = cif (sameP σ r a b j) (oft σ r a b n (j + 1)) (nI (j + 1)) := rfl
    rw [e9] at h
    rcases hz with ⟨e, q⟩ | ⟨e, i, q1, q2⟩
    · subst e
      rw [cif_t (P := sameP σ r a b j) q] at h
      refine br_t rfl ?_
      exact ih (j + 1) _ _ (by omega) (nI_1 (j + 1)) (RC_fr hR (fun o k g1 g2 => f1 o k (by unfold Tpalm; omega))) p1 (fun i hi => (f1 _ _ (by unfold Tpalm; omega)).trans (ht i hi)) (fun m2 f2 => h m2 (fun o j ho => (f2 o j ho).trans (f1 o j ho)))
    · subst e
      rw [cif_f (fun q => q2 (q i q1))] at h
      refine br_f (by decide) ?_
      exact h m1 f1
theorem C_often {d : Nat} {Q : pt_Q} {m : pt_M} {a : pt_al} (O : OK a) (hC : IC m a) {r f t : Int32} (h : ∀ m1, kM m m1 → IC m1 a → Q (some (zI (oftenX a r f t))) m1) : Sp (d + 5) nX6_often [zR 6 0, zI r, zI f, zI t] m Q := by
  unfold oftenX at h
  refine sX6_often ?_
  refine Go_rn [28] 100 ?_
  refine c_canWalk hC.1 (fun c => ?_) (fun c => ?_)
  · refine br_f (by decide) ?_
    rw [cif_t c] at h
    obtain ⟨r1, f1, t1, h1, h2, h3, rfl, rfl, rfl⟩ := walkN O.1 c
    have h8 := O.1.2.1
    have h9 := O.1.2.2.2.1
    rw [xN_nI (by omega), xN_nI (by omega), xN_nI (by omega)] at h
    refine c_take O.1 hC.1 h1 (fun m2 fr2 p2 => ?_)
    have hs2 : RC m2 24 (aS a) := RC_fr hC.1 (fun o k g1 g2 => fr2 o k (by unfold Ttake; omega))
    refine c_oft1_l (d := d + 1) O.1 h2 h3 (wn f1 t1) 0 _ _ _ (by omega) rfl hs2 p2 (fun j hj => by omega) (fun m3 g3 fr3 p3 q3 => ?_)
    refine Go_rn [76] 100 ?_
    refine c_oft2_l O.1 h2 h3 19 1 _ _ (by omega) rfl (RC_fr hs2 (fun o k g1 g2 => fr3 o k (by omega))) p3 q3 (fun m4 fr4 => ?_)
    obtain ⟨l1, l2⟩ := IC_scr hC (m1 := m4) (fun o k q => by rw [fr4 o k (by unfold Tpalm; omega), fr3 o k (by omega), fr2 o k (by unfold Ttake; omega)])
    exact h m4 l2 l1
  · refine br_t rfl ?_
    rw [cif_f c] at h
    exact h m kM_rf hC
def flm (σ : pt_sg) (r a b j k : Nat) (z : Int32) : Prop := (z = 1 ∧ ∀ i, i < k → tk σ r a b j i = tk σ r a b 0 i) ∨ (z = 0 ∧ ∃ i, i < k ∧ ¬ tk σ r a b j i = tk σ r a b 0 i)
def Tmo : Nat → Nat → Prop := fun o k => (o = 143 ∧ k = 21) ∨ o = 151 ∨ o = 152
theorem m_ro_l {d : Nat} {Q : pt_Q} {σ : pt_sg} {r a b j : Nat} (O : OkS σ) (hr : r < sr σ) (ha : a < sw σ) (hb : b < sw σ) (hj : j < 20) : ∀ (n k : Nat) (x z : Int32) (g7 : Option pt_V) (m : pt_M), k + n = wn a b → x = nI k → flm σ r a b j k z → RM m 147 0 σ → PM m (pK σ r) (wq σ r a b j k).1 (wq σ r a b j k).2 → (∀ i, i < wn a b → (j = 0 → i < k) → m 152 i = tk σ r a b 0 i) →
    (∀ m1 z g7, fr Tmo m m1 → PM m1 (pK σ r) (rp σ r a b (j + 1)).1 (rp σ r a b (j + 1)).2 → flm σ r a b j (wn a b) z → (∀ i, i < wn a b → m1 152 i = tk σ r a b 0 i) → Go (Sp (d + 3)) tX7_often Q 125 [some (zR 7 143), some (zI (nI r)), some (zI (nI a)), some (zI (nI b)), some (zI (nI (j + 1))), some (zI z), some (zI (nI (wn a b))), g7] [] m1) →
    Go (Sp (d + 3)) tX7_often Q 39 [some (zR 7 143), some (zI (nI r)), some (zI (nI a)), some (zI (nI b)), some (zI (nI (j + 1))), some (zI z), some (zI x), g7] [] m := by
  have h8 := O.2.1
  have hw8 := wn_8 ha hb
  intro n
  induction n with
  | zero =>
    intro k x z g7 m hk hx hz hR hP ht h
    have ek : k = wn a b := by omega
    subst ek hx
    refine Go_rn [125] 100 ?_
    refine m_wallsOf (by omega) (by omega) ?_
    refine br_t (nI_le (Nat.le_refl _) (by omega)) ?_
    exact h m z g7 fr_rf hP hz (fun i hi => ht i hi (fun _ => hi))
  | succ n ih =>
    intro k x z g7 m hk hx hz hR hP ht h
    subst hx
    refine Go_rn [39, 88] 100 ?_
    refine m_wallsOf (by omega) (by omega) ?_
    refine br_f (nI_ge (a := k) (b := wn a b) (by omega) (by omega)) ?_
    refine m_wallAt (by omega) (by omega) (show k < wn a b by omega) ?_
    have hw := wa_lt ha hb (show k < wn a b by omega)
    refine m_taste (by omega) hP (sW_m O hR hw) ?_
    have key : ∀ u, u = tk σ r a b 0 k → Go (Sp (d + 3)) tX7_often Q 88 [some (zR 7 143), some (zI (nI r)), some (zI (nI a)), some (zI (nI b)), some (zI (nI (j + 1))), some (zI z), some (zI (nI k)), some (zI (tk σ r a b j k))] [zI u, zI (nI k), zR 1008 152] m := by
      intro u hu
      have hR1 : RM (st m 152 k u) 147 0 σ := RM_fr hR (fun _ _ _ => by rw [st_eq, if_neg (by omega)])
      have hP1 : PM (st m 152 k u) (pK σ r) (wq σ r a b j k).1 (wq σ r a b j k).2 := ⟨by rw [st_eq, if_neg (by omega)]; exact hP.1, by rw [st_eq, if_neg (by omega)]; exact hP.2.1, fun f hf => by rw [st_eq, if_neg (by omega)]; exact hP.2.2 f hf⟩
      have ht1 : ∀ i, i < wn a b → (j = 0 → i < k + 1) → st m 152 k u 152 i = tk σ r a b 0 i := fun i hi q => by
        rw [st_eq]
        by_cases e : i = k
        · rw [if_pos ⟨rfl, e⟩, hu, e]
        · rw [if_neg (fun z => e z.2)]
          exact ht i hi (fun q2 => by have := q q2; omega)
      have nxt : ∀ z2, flm σ r a b j (k + 1) z2 → Go (Sp (d + 3)) tX7_often Q 113 [some (zR 7 143), some (zI (nI r)), some (zI (nI a)), some (zI (nI b)), some (zI (nI (j + 1))), some (zI z2), some (zI (nI k)), some (zI (tk σ r a b j k))] [] (st m 152 k u) := fun z2 hz2 => by
        refine Go_rn [39] 100 ?_
        refine m_getsUsed (wq_ok O hr j k) hP1 (fun m1 f1 p1 => ?_)
        have hR2 : RM m1 147 0 σ := RM_fr hR1 (fun k _ _ => f1 _ _ (by unfold Tmp; omega))
        exact ih (k + 1) _ _ _ _ (by omega) (nI_1 k) hz2 hR2 p1 (fun i hi q => (f1 _ _ (by unfold Tmp; omega)).trans (ht1 i hi q)) (fun m2 z3 g3 f2 p2 => h m2 z3 g3 (fun o i ho => by unfold Tmo at ho; rw [f2 o i (by unfold Tmo; omega), f1 o i (by unfold Tmp; omega), st_eq, if_neg (by omega)]) p2)
      refine Go_rn [113] 100 ?_
      refine ⟨k, rfl, by omega, ?_⟩
      have e1 : st m 152 k u 152 k = tk σ r a b 0 k := by rw [st_eq, if_pos ⟨rfl, rfl⟩, hu]
      refine ⟨fun c => ?_, fun c => ⟨k, rfl, by omega, fun c2 => ?_, fun c2 => ?_⟩⟩
      · have c1 : z = 0 := c
        refine nxt 0 (Or.inr ⟨rfl, ?_⟩)
        rcases hz with ⟨e, q⟩ | ⟨e, i, q1, q2⟩
        · rw [c1] at e; exact absurd e (by decide)
        · exact ⟨i, by omega, q2⟩
      · have c3 : tk σ r a b 0 k = tk σ r a b j k := e1.symm.trans c2
        refine nxt 1 (Or.inl ⟨rfl, fun i hi => ?_⟩)
        rcases hz with ⟨e, q⟩ | ⟨e, i, q1, q2⟩
        · by_cases e2 : i = k
          · rw [e2]; exact c3.symm
          · exact q i (by omega)
        · exact absurd e c
      · have c3 : ¬ tk σ r a b j k = tk σ r a b 0 k := fun q => c2 (e1.trans q.symm)
        exact nxt 0 (Or.inr ⟨rfl, k, by omega, c3⟩)
    refine ⟨fun c => ?_, fun c => ?_⟩
    · have c1 : nI (j + 1) = nI 1 := c
      have c2 : j = 0 := by have := nI_inj c1 (by omega) (by omega); omega
      refine key _ ?_
      subst c2
      rfl
    · have c2 : ¬ j = 0 := fun q => c (by rw [q]; rfl)
      refine ⟨k, rfl, by omega, ?_⟩
      exact key _ (ht k (by omega) (fun q => absurd q c2))
theorem m_oft_l {d : Nat} {Q : pt_Q} {σ : pt_sg} {r a b : Nat} (O : OkS σ) (hr : r < sr σ) (ha : a < sw σ) (hb : b < sw σ) : ∀ (n j : Nat) (x : Int32) (g5 g6 g7 : Option pt_V) (m : pt_M), j + n = 20 → x = nI (j + 1) → RM m 147 0 σ → PM m (pK σ r) (rp σ r a b j).1 (rp σ r a b j).2 → (∀ i, i < wn a b → ¬ j = 0 → m 152 i = tk σ r a b 0 i) →
    (∀ m1, fr Tmo m m1 → Q (some (zI (oft σ r a b n j))) m1) →
    Go (Sp (d + 3)) tX7_often Q 26 [some (zR 7 143), some (zI (nI r)), some (zI (nI a)), some (zI (nI b)), some (zI x), g5, g6, g7] [] m := by
  intro n
  induction n with
  | zero =>
    intro j x g5 g6 g7 m hk hx hR hP ht h
    have ek : j = 20 := by omega
    subst ek hx
    refine Go_rn [] 100 ?_
    refine br_t (nI_lt (a := 20) (b := 21) (by omega) (by omega)) ?_
    exact h m fr_rf
  | succ n ih =>
    intro j x g5 g6 g7 m hk hx hR hP ht h
    subst hx
    refine Go_rn [39] 100 ?_
    refine br_f (nI_nlt (a := 20) (b := j + 1) (by omega) (by omega)) ?_
    refine m_ro_l O hr ha hb (by omega) (wn a b) 0 _ _ _ _ (by omega) rfl (Or.inl ⟨rfl, fun i hi => by omega⟩) hR hP (fun i hi q => ht i hi (fun e => by have := q e; omega)) (fun m1 z g7 f1 p1 hz ht1 => ?_)
    refine Go_rn [26] 100 ?_
    have e9 : oft σ r a b (n + 1) j = cif (sameP σ r a b j) (oft σ r a b n (j + 1)) (nI (j + 1)) := rfl
    rw [e9] at h
    rcases hz with ⟨e, q⟩ | ⟨e, i, q1, q2⟩
    · subst e
      rw [cif_t (P := sameP σ r a b j) q] at h
      refine br_f (by decide) ?_
      exact ih (j + 1) _ _ _ _ _ (by omega) (nI_1 (j + 1)) (RM_fr hR (fun k _ _ => f1 _ _ (by unfold Tmo; omega))) p1 (fun i hi _ => ht1 i hi) (fun m2 f2 => h m2 (fun o j ho => (f2 o j ho).trans (f1 o j ho)))
    · subst e
      rw [cif_f (fun q => q2 (q i q1))] at h
      refine br_t rfl ?_
      exact h m1 f1
theorem M_often {d : Nat} {Q : pt_Q} {m : pt_M} {a : pt_al} (O : OK a) (hM : IM m a) {r f t : Int32} (h : ∀ m1, kC m m1 → IM m1 a → Q (some (zI (oftenX a r f t))) m1) : Sp (d + 5) nX7_often [zR 7 143, zI r, zI f, zI t] m Q := by
  obtain ⟨i1, i2⟩ := IM_th hM
  unfold oftenX at h
  refine sX7_often ?_
  refine Go_rn [26] 100 ?_
  refine m_isWalk O.1 i1.1 (fun c => ?_) (fun c => ?_)
  · refine br_f (by decide) ?_
    rw [cif_t c] at h
    obtain ⟨r1, f1, t1, h1, h2, h3, rfl, rfl, rfl⟩ := walkN O.1 c
    have h8 := O.1.2.1
    have h9 := O.1.2.2.2.1
    rw [xN_nI (by omega), xN_nI (by omega), xN_nI (by omega)] at h
    have e20 : oft (aS a) r1 f1 t1 20 0 = oft (aS a) r1 f1 t1 19 1 := cif_t (fun k _ => rfl)
    refine m_layPalm O.1 i1.1 h1 (fun m2 fr2 p2 => ?_)
    have hs2 : RM m2 147 0 (aS a) := RM_fr i1.1 (fun k _ _ => fr2 147 k (by unfold Tlay; omega))
    refine m_oft_l (d := d + 1) O.1 h1 h2 h3 20 0 _ _ _ _ _ (by omega) rfl hs2 p2 (fun i hi q => absurd rfl q) (fun m3 fr3 => ?_)
    rw [e20]
    obtain ⟨l1, l2⟩ := IM_scr i1 (m1 := m3) (fun o k q => by rw [fr3 o k (by unfold Tmo; omega), fr2 o k (by unfold Tlay; omega)])
    exact h m3 (kC_tr i2 l2) l1
  · refine br_t rfl ?_
    rw [cif_f c] at h
    exact h _ i2 i1
