/-! 25.paint: paint, day -/
def upS (σ : pt_sg) (p : Nat) (v : Int32) : pt_sg := fun k => if k = p then v else σ k
theorem upS_eq (σ : pt_sg) (v : Int32) {p k : Nat} (h : k = p) : upS σ p v k = v := if_pos h
theorem upS_ne (σ : pt_sg) (v : Int32) {p k : Nat} (h : ¬ k = p) : upS σ p v k = σ k := if_neg h
theorem upS_sw (σ : pt_sg) (v : Int32) {p : Nat} (h : 2 ≤ p) : sw (upS σ p v) = sw σ := by
  unfold sw
  rw [upS_ne σ v (by omega)]
theorem upS_sr (σ : pt_sg) (v : Int32) {p : Nat} (h : 2 ≤ p) : sr (upS σ p v) = sr σ := by
  unfold sr
  rw [upS_ne σ v (by omega)]
theorem upS_okw {σ : pt_sg} {v : Int32} {q : Nat} (O : OkS σ) (hq : q < 5 * sw σ) (hv : 0 ≤ v ∧ v ≤ 30) : OkS (upS σ (3 + q) v) := by
  obtain ⟨o1, o2, o3, o4, o5, o6, o7, o8⟩ := O
  unfold OkS
  rw [upS_sw σ v (by omega), upS_sr σ v (by omega)]
  refine ⟨by rw [upS_ne σ v (by omega)]; exact o1, o2, by rw [upS_ne σ v (by omega)]; exact o3, o4, by rw [upS_ne σ v (by omega)]; exact o5, fun k hk => ?_, fun k h1 h2 => by rw [upS_ne σ v (by omega)]; exact o7 k h1 h2, fun r hr => ⟨by rw [upS_ne σ v (by omega)]; exact (o8 r hr).1, fun f hf => by rw [upS_ne σ v (by omega)]; exact (o8 r hr).2.1 f hf, by rw [upS_ne σ v (by omega)]; exact (o8 r hr).2.2⟩⟩
  by_cases e : k = q
  · rw [upS_eq σ v (by omega)]; exact hv
  · rw [upS_ne σ v (by omega)]; exact o6 k hk
theorem RM_up {m m1 : pt_M} {a p : Nat} {σ : pt_sg} {v : Int32} (h : RM m a 0 σ) (h1 : m1 a p = v) (hf : ∀ k, k ≠ p → m1 a k = m a k) : RM m1 a 0 (upS σ p v) := by
  intro k hk
  rw [Nat.zero_add]
  by_cases e : k = p
  · rw [upS_eq σ v e, e]; exact h1
  · rw [upS_ne σ v e, hf k e]
    exact RM_at h hk
theorem RC_upw {m m1 : pt_M} {b q : Nat} {σ : pt_sg} {v : Int32} (h : RC m b σ) (hq : q < 40) (h1 : m1 (b + 1) q = v) (hf : ∀ o k, b ≤ o → o ≤ b + 3 → ¬ (o = b + 1 ∧ k = q) → m1 o k = m o k) : RC m1 b (upS σ (3 + q) v) := by
  obtain ⟨r1, r2, r3, r4, r5⟩ := h
  unfold RC
  rw [upS_sw σ v (by omega), upS_sr σ v (by omega)]
  refine ⟨by rw [upS_ne σ v (by omega), hf _ _ (by omega) (by omega) (by omega)]; exact r1, by rw [upS_ne σ v (by omega), hf _ _ (by omega) (by omega) (by omega)]; exact r2, by rw [upS_ne σ v (by omega), hf _ _ (by omega) (by omega) (by omega)]; exact r3, fun k hk => ?_, fun r hr => ⟨by rw [upS_ne σ v (by omega), hf _ _ (by omega) (by omega) (by omega)]; exact (r5 r hr).1, fun x hx => by rw [upS_ne σ v (by omega), hf _ _ (by omega) (by omega) (by omega)]; exact (r5 r hr).2 x hx⟩⟩
  by_cases e : k = q
  · rw [upS_eq σ v (by omega), e]; exact h1
  · rw [upS_ne σ v (by omega), hf _ _ (by omega) (by omega) (by omega)]; exact r4 k hk
noncomputable def paintX (a : pt_al) (w f n : Int32) : pt_al × Int32 := cif (((0 ≤ w ∧ w < aS a 0) ∧ (0 ≤ f ∧ f < 5)) ∧ (1 ≤ n ∧ n ≤ 30)) (uSA a (upS (aS a) (3 + (5 * xN w + xN f)) (mn 30 (aS a (3 + (5 * xN w + xN f)) + n))) (apush (aA a) (aS a)), mn 30 (aS a (3 + (5 * xN w + xN f)) + n)) (a, -1000001)
theorem paintX_ok {a : pt_al} (O : OK a) (w f n : Int32) : OK (paintX a w f n).1 := by
  unfold paintX
  by_cases c : ((0 ≤ w ∧ w < aS a 0) ∧ (0 ≤ f ∧ f < 5)) ∧ (1 ≤ n ∧ n ≤ 30)
  · rw [cif_t c]
    obtain ⟨⟨c1, c2⟩, c3⟩ := c
    obtain ⟨w1, hw, rfl⟩ := wallN O.1 c1
    obtain ⟨f1, hf, rfl⟩ := flavN c2
    obtain ⟨o1, o2, o3, o4, o5, o6⟩ := O
    have h8 := o1.2.1
    rw [xN_nI (by omega), xN_nI (by omega)]
    have := o1.2.2.2.2.2.1 (5 * w1 + f1) (by omega)
    refine ⟨upS_okw o1 (by omega) ?_, apush_ok o2 o1, o3, o4, o5, o6⟩
    unfold mn
    clear o1 o2 o3 o4 o5 o6
    grind
  · rw [cif_f c]; exact O
theorem C_paint {d : Nat} {Q : pt_Q} {m : pt_M} {a : pt_al} (O : OK a) (hC : IC m a) {w f n : Int32} (h : ∀ m1, kM m m1 → IC m1 (paintX a w f n).1 → Q (some (zI (paintX a w f n).2)) m1) : Sp (d + 4) nX6_paint [zR 6 0, zI w, zI f, zI n] m Q := by
  unfold paintX at h
  have h8 := O.1.2.1
  refine sX6_paint ?_
  refine Go_rn [] 100 ?_
  refine c_hasFlavour hC.1.1 (fun c => ?_) (fun c => ?_)
  · refine br_f (by decide) ?_
    refine ⟨fun c2 => ?_, fun c2 => ⟨fun c3 => ?_, fun c3 => ?_⟩⟩
    · rw [cif_f (by grind)] at h
      exact h m kM_rf hC
    · have c4 : 1 ≤ n ∧ n ≤ 30 := by grind
      rw [cif_t ⟨c, c4⟩] at h
      obtain ⟨w1, hw, rfl⟩ := wallN O.1 c.1
      obtain ⟨f1, hf, rfl⟩ := flavN c.2
      rw [xN_nI (by omega), xN_nI (by omega)] at h
      refine c_keep O.1 hC.1 hC.2.1 O.2.1 (fun m1 f1' a1 => ?_)
      have hs : RC m1 24 (aS a) := RC_fr hC.1 (fun o k g1 g2 => f1' o k (by unfold Tacts; omega))
      refine c_strength (by omega) hf (RC_str hs hw hf) ?_
      refine ⟨5 * w1 + f1, ixA w1 f1, by omega, ?_⟩
      refine h _ (fun o k ho => ?_) (IC_uSA hC (RC_upw (q := 5 * w1 + f1) hs (by omega) (by rw [st_eq, if_pos ⟨rfl, rfl⟩]) (fun o k g1 g2 g3 => by rw [st_eq, if_neg g3])) (cA_fr a1 (by rw [st_eq, if_neg (by omega)]) (by rw [st_eq, if_neg (by omega)]) (fun o k g1 g2 => by rw [st_eq, if_neg (by omega)])) (fun o k _ q => ?_))
      · rw [st_eq, if_neg (by omega)]
        exact f1' o k (by unfold Tacts; omega)
      · rw [st_eq, if_neg (by omega)]
        exact f1' o k (by unfold Tacts; omega)
    · rw [cif_f (by grind)] at h
      exact h m kM_rf hC
  · refine br_t rfl ?_
    rw [cif_f (fun q => c q.1)] at h
    exact h m kM_rf hC
theorem M_paint {d : Nat} {Q : pt_Q} {m : pt_M} {a : pt_al} (O : OK a) (hM : IM m a) {w f n : Int32} (h : ∀ m1, kC m m1 → IM m1 (paintX a w f n).1 → Q (some (zI (paintX a w f n).2)) m1) : Sp (d + 4) nX7_paint [zR 7 143, zI w, zI f, zI n] m Q := by
  obtain ⟨t1, t2⟩ := IM_th hM
  unfold paintX at h
  have h8 := O.1.2.1
  refine sX7_paint ?_
  refine Go_rn [] 100 ?_
  refine m_isWall O.1 (RM_at t1.1 (by omega)) (fun c => ?_) (fun c => ?_)
  · refine br_f (by decide) ?_
    refine m_isFlavour (fun c2 => ?_) (fun c2 => ?_)
    · refine br_f (by decide) ?_
      refine m_inI (lo := 1) (hi := 30) (by decide) (by decide) (fun c3 => ?_) (fun c3 => ?_)
      · refine br_f (by decide) ?_
        rw [cif_t ⟨⟨c, c2⟩, c3⟩] at h
        obtain ⟨w1, hw, rfl⟩ := wallN O.1 c
        obtain ⟨f1, hf, rfl⟩ := flavN c2
        rw [xN_nI (by omega), xN_nI (by omega)] at h
        refine m_keep t1.1 t1.2.1 O.2.1 (fun m1 f1' a1 => ?_)
        have hs : RM m1 147 0 (aS a) := RM_fr t1.1 (fun k _ _ => f1' 147 k (by unfold Tmk; omega))
        refine m_strong (by omega) hf (RM_at hs (by omega)) ?_
        have fin : ∀ v, v = mn 30 (aS a (3 + (5 * w1 + f1)) + n) → Q (some (zI v)) (st m1 147 (3 + (5 * w1 + f1)) v) := by
          intro v hv
          rw [hv]
          refine h _ (kC_tr t2 (fun o k ho => ?_)) (IM_uSA t1 (RM_up hs (by rw [st_eq, if_pos ⟨rfl, rfl⟩]) (fun k hk => by rw [st_eq, if_neg (fun q => hk q.2)])) (mA_fr a1 (by rw [st_eq, if_neg (by omega)]) (fun k => by rw [st_eq, if_neg (by omega)])) (fun o k _ q => ?_))
          · rw [st_eq, if_neg (by omega)]
            exact f1' o k (by unfold Tmk; omega)
          · rw [st_eq, if_neg (by omega)]
            exact f1' o k (by unfold Tmk; omega)
        refine ⟨fun c4 => ?_, fun c4 => ?_⟩
        · refine ⟨_, ixB w1 f1, by omega, ?_⟩
          refine m_strong (by omega) hf (by rw [st_eq, if_pos ⟨rfl, rfl⟩]) ?_
          have c5 : aS a (3 + (5 * w1 + f1)) + n ≤ 30 := c4
          refine fin _ ?_
          unfold mn
          clear fin h O hM t1 t2 hs
          grind
        · refine ⟨_, ixB w1 f1, by omega, ?_⟩
          refine m_strong (by omega) hf (by rw [st_eq, if_pos ⟨rfl, rfl⟩]) ?_
          have c5 : ¬ aS a (3 + (5 * w1 + f1)) + n ≤ 30 := c4
          refine fin _ ?_
          unfold mn
          clear fin h O hM t1 t2 hs
          grind
      · refine br_t rfl ?_
        rw [cif_f (fun q => c3 q.2)] at h
        exact h _ t2 t1
    · refine br_t rfl ?_
      rw [cif_f (fun q => c2 q.1.2)] at h
      exact h _ t2 t1
  · refine br_t rfl ?_
    rw [cif_f (fun q => c q.1.1)] at h
    exact h _ t2 t1
