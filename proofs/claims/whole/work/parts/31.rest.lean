/-! 31.rest: rest -/
def sumU (σ : pt_sg) (r : Nat) : Nat → Int32
  | 0 => 0
  | k + 1 => sumU σ r k + σ (44 + 7 * r + k)
theorem c_usedIn_l {d : Nat} {Q : pt_Q} {m : pt_M} {σ : pt_sg} {r : Nat} (hr : r < 5) (hR : ∀ x, x < 6 → m 27 (6 * r + x) = σ (44 + 7 * r + x)) (h : Q (some (zI (sumU σ r 5))) m) : ∀ (n k : Nat) (x y : Int32), k + n = 5 → x = nI k → y = sumU σ r k →
    Go (Sp d) tX4_usedInAll Q 4 [some (zR 4 24), some (zI (nI r)), some (zI y), some (zI x)] [] m := by
  intro n
  induction n with
  | zero =>
    intro k x y hk hx hy
    have ek : k = 5 := by omega
    subst ek hx hy
    refine Go_rn [] 100 ?_
    refine br_t (nI_le (b := 5) (a := 5) (by omega) (by omega)) ?_
    exact h
  | succ n ih =>
    intro k x y hk hx hy
    subst hx hy
    refine Go_rn [4] 100 ?_
    refine br_f (nI_ge (a := k) (b := 5) (by omega) (by omega)) ?_
    refine ⟨6 * r + k, ixG r k, by omega, ?_⟩
    refine ih (k + 1) _ _ (by omega) (nI_1 k) ?_
    show sumU σ r k + m 27 (6 * r + k) = sumU σ r k + σ (44 + 7 * r + k)
    rw [hR k (by omega)]
theorem c_usedInAll {d : Nat} {Q : pt_Q} {m : pt_M} {σ : pt_sg} {r : Nat} (O : OkS σ) (hR : RC m 24 σ) (hr : r < sr σ) (h : Q (some (zI (sumU σ r 5))) m) : Sp (d + 1) nX4_usedInAll [zR 4 24, zI (nI r)] m Q := by
  have h9 := O.2.2.2.1
  refine sX4_usedInAll ?_
  refine Go_rn [4] 100 ?_
  exact c_usedIn_l (by omega) (hR.2.2.2.2 r hr).2 h 5 0 _ _ (by omega) rfl rfl
theorem m_usedOf_l {d : Nat} {Q : pt_Q} {m : pt_M} {σ : pt_sg} {r : Nat} (hr : r < 5) (hR : RM m 147 0 σ) (h : Q (some (zI (sumU σ r 5))) m) : ∀ (n k : Nat) (x y : Int32), k + n = 5 → x = nI k → y = sumU σ r k →
    Go (Sp (d + 1)) tX7_usedOf Q 4 [some (zR 7 143), some (zI (nI r)), some (zI y), some (zI x)] [] m := by
  intro n
  induction n with
  | zero =>
    intro k x y hk hx hy
    have ek : k = 5 := by omega
    subst ek hx hy
    refine Go_rn [] 100 ?_
    refine br_t (nI_le (b := 5) (a := 5) (by omega) (by omega)) ?_
    exact h
  | succ n ih =>
    intro k x y hk hx hy
    subst hx hy
    refine Go_rn [4] 100 ?_
    refine br_f (nI_ge (a := k) (b := 5) (by omega) (by omega)) ?_
    refine m_of (x := 1 + k) hr (by omega) (nI_add 1 k) (v := σ (44 + 7 * r + k)) ((congrArg (m 147) (by omega)).trans (RM_at hR (k := 44 + 7 * r + k) (by omega))) ?_
    exact ih (k + 1) _ _ (by omega) (nI_1 k) rfl
theorem m_usedOf {d : Nat} {Q : pt_Q} {m : pt_M} {σ : pt_sg} {r : Nat} (O : OkS σ) (hR : RM m 147 0 σ) (hr : r < sr σ) (h : Q (some (zI (sumU σ r 5))) m) : Sp (d + 2) nX7_usedOf [zR 7 143, zI (nI r)] m Q := by
  have h9 := O.2.2.2.1
  refine sX7_usedOf ?_
  refine Go_rn [4] 100 ?_
  exact m_usedOf_l (by omega) hR h 5 0 _ _ (by omega) rfl rfl
noncomputable def restX (a : pt_al) (r : Int32) : pt_al × Int32 := cif (0 ≤ r ∧ r < aS a 1) (uSA a (plS (aS a) (xN r) (fun _ => 0) (-1)) (apush (aA a) (aS a)), sumU (aS a) (xN r) 5) (a, -1000001)
theorem restX_ok {a : pt_al} (O : OK a) (r : Int32) : OK (restX a r).1 := by
  unfold restX
  by_cases c : 0 ≤ r ∧ r < aS a 1
  · rw [cif_t c]
    obtain ⟨o1, o2, o3, o4, o5, o6⟩ := O
    have z : OkS (plS (aS a) (xN r) (fun _ => 0) (-1)) := plS_ok o1 (fun f _ => by show (0 : Int32) ≤ 0 ∧ (0 : Int32) ≤ 9; decide) (by decide)
    exact ⟨z, apush_ok o2 o1, o3, o4, o5, o6⟩
  · rw [cif_f c]; exact O
theorem C_rest {d : Nat} {Q : pt_Q} {m : pt_M} {a : pt_al} (O : OK a) (hC : IC m a) {r : Int32} (h : ∀ m1, kM m m1 → IC m1 (restX a r).1 → Q (some (zI (restX a r).2)) m1) : Sp (d + 4) nX6_rest [zR 6 0, zI r] m Q := by
  unfold restX at h
  refine sX6_rest ?_
  refine Go_rn [] 100 ?_
  refine c_hasReader hC.1.2.1 (fun c => ?_) (fun c => ?_)
  · refine br_f (by decide) ?_
    rw [cif_t c] at h
    obtain ⟨r1, h1, rfl⟩ := readN O.1 c
    have h8 := O.1.2.1
    have h9 := O.1.2.2.2.1
    rw [xN_nI (by omega)] at h
    refine c_keep O.1 hC.1 hC.2.1 O.2.1 (fun m1 fr1 a1 => ?_)
    have hs : RC m1 24 (aS a) := RC_fr hC.1 (fun o k g1 g2 => fr1 o k (by unfold Tacts; omega))
    refine c_usedInAll O.1 hs h1 ?_
    refine c_pforget (fun m2 fr2 p2 => ?_)
    have hs2 : RC m2 24 (aS a) := RC_fr hs (fun o k g1 g2 => fr2 o k (by unfold Tpalm; omega))
    refine c_leave (by omega) p2 (fun m4 fr4 u4 a4 => ?_)
    have e4 : ∀ o k, ¬ (o = 27 ∨ 137 ≤ o ∧ o ≤ 142) → m4 o k = m1 o k := fun o k q => by
      rw [fr4 o k (by omega), fr2 o k (by unfold Tpalm; omega)]
    refine h m4 (fun o k ho => ?_) (IC_uSA hC (RC_pl h8 hs2 (fun o k g1 g2 g3 => fr4 o k g3) u4 a4) (cA_fr a1 (e4 _ _ (by omega)) (e4 _ _ (by omega)) (fun o k g1 g2 => e4 _ _ (by omega))) (fun o k q1 q => ?_))
    · rw [e4 o k (by omega)]
      exact fr1 o k (by unfold Tacts; omega)
    · unfold pC at q1
      rw [e4 o k (by omega)]
      exact fr1 o k (by unfold Tacts; omega)
  · refine br_t rfl ?_
    rw [cif_f c] at h
    exact h m kM_rf hC
theorem m_rest_l {d : Nat} {Q : pt_Q} {r : Nat} {v : Int32} (hr : r < 5) : ∀ (n k : Nat) (x : Int32) (m : pt_M), k + n = 5 → x = nI k → (∀ f, f < k → m 147 (44 + 7 * r + f) = 0) →
    (∀ m1, fr (fun o k => o = 147 ∧ 44 + 7 * r ≤ k ∧ k < 49 + 7 * r) m m1 → (∀ f, f < 5 → m1 147 (44 + 7 * r + f) = 0) → Q (some (zI v)) (st m1 147 (49 + 7 * r) (-1))) →
    Go (Sp d) tX7_rest Q 28 [some (zR 7 143), some (zI (nI r)), some (zI v), some (zI x)] [] m := by
  intro n
  induction n with
  | zero =>
    intro k x m hk hx h1 h
    have ek : k = 5 := by omega
    subst ek hx
    refine Go_rn [] 100 ?_
    refine br_t (nI_le (b := 5) (a := 5) (by omega) (by omega)) ?_
    refine ⟨49 + 7 * r, ixV r, by omega, ?_⟩
    exact h m fr_rf h1
  | succ n ih =>
    intro k x m hk hx h1 h
    subst hx
    refine Go_rn [28] 100 ?_
    refine br_f (nI_ge (a := k) (b := 5) (by omega) (by omega)) ?_
    refine ⟨44 + 7 * r + k, ixU r k, by omega, ?_⟩
    refine ih (k + 1) _ _ (by omega) (nI_1 k) (fun f hf => ?_) (fun m1 f1 e1 => h m1 (fun o j ho => by rw [f1 o j ho, st_eq, if_neg (by omega)]) e1)
    rw [st_eq]
    by_cases e : f = k
    · rw [if_pos ⟨rfl, by omega⟩]
    · rw [if_neg (by omega)]
      exact h1 f (by omega)
theorem M_rest {d : Nat} {Q : pt_Q} {m : pt_M} {a : pt_al} (O : OK a) (hM : IM m a) {r : Int32} (h : ∀ m1, kC m m1 → IM m1 (restX a r).1 → Q (some (zI (restX a r).2)) m1) : Sp (d + 4) nX7_rest [zR 7 143, zI r] m Q := by
  obtain ⟨t1, t2⟩ := IM_th hM
  unfold restX at h
  refine sX7_rest ?_
  refine Go_rn [28] 100 ?_
  refine m_isReader O.1 (RM_at t1.1 (by omega)) (fun c => ?_) (fun c => ?_)
  · refine br_f (by decide) ?_
    rw [cif_t c] at h
    obtain ⟨r1, h1, rfl⟩ := readN O.1 c
    have h8 := O.1.2.1
    have h9 := O.1.2.2.2.1
    rw [xN_nI (by omega)] at h
    refine m_keep t1.1 t1.2.1 O.2.1 (fun m1 fr1 a1 => ?_)
    have hs : RM m1 147 0 (aS a) := RM_fr t1.1 (fun k _ _ => fr1 147 k (by unfold Tmk; omega))
    refine m_usedOf O.1 hs h1 ?_
    refine m_rest_l (by omega) 5 0 _ _ (by omega) rfl (fun f hf => by omega) (fun m2 fr2 u2 => ?_)
    refine h _ (kC_tr t2 (fun o k ho => ?_)) (IM_uSA t1 (RM_pl (r := r1) hs (fun k q => ?_) (fun f hf => ?_) ?_) (mA_fr a1 ?_ (fun k => ?_)) (fun o k q1 q => ?_))
    · rw [st_eq, if_neg (by omega), fr2 o k (by omega)]
      exact fr1 o k (by unfold Tmk; omega)
    · rw [st_eq, if_neg (by omega)]
      exact fr2 _ _ (by omega)
    · rw [st_eq, if_neg (by omega)]
      exact u2 f hf
    · rw [st_eq, if_pos ⟨rfl, rfl⟩]
    · rw [st_eq, if_neg (by omega)]
      exact fr2 _ _ (by omega)
    · rw [st_eq, if_neg (by omega)]
      exact fr2 _ _ (by omega)
    · unfold pM at q1
      rw [st_eq, if_neg (by omega), fr2 o k (by omega)]
      exact fr1 o k (by unfold Tmk; omega)
  · refine br_t rfl ?_
    rw [cif_f c] at h
    exact h _ t2 t1
