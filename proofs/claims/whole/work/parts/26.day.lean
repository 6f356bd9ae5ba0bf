/-! 26.day: day -/
def fdD (f : Int32) : Int32 := if f = 2 then 3 else 1
def fdF (rain s : Int32) (f : Nat) : Int32 := mx 0 (s - fdD (nI f) - rain)
def fdS (σ : pt_sg) (rain : Int32) (k : Nat) : pt_sg := fun p => if 3 ≤ p ∧ p < 3 + k then fdF rain (σ p) ((p - 3) % 5) else σ p
def gn (σ : pt_sg) (rain : Int32) : Nat → Int32
  | 0 => 0
  | k + 1 => if 0 < σ (3 + k) ∧ fdF rain (σ (3 + k)) (k % 5) = 0 then gn σ rain k + 1 else gn σ rain k
theorem fdS_0 (σ : pt_sg) (rain : Int32) : fdS σ rain 0 = σ := by
  funext p
  unfold fdS
  rw [if_neg (by omega)]
theorem fdS_succ (σ : pt_sg) (rain : Int32) (k : Nat) : fdS σ rain (k + 1) = upS (fdS σ rain k) (3 + k) (fdF rain (σ (3 + k)) (k % 5)) := by
  funext p
  by_cases e : p = 3 + k
  · rw [upS_eq _ _ e]
    unfold fdS
    rw [if_pos (by omega), e, show 3 + k - 3 = k by omega]
  · rw [upS_ne _ _ e]
    unfold fdS
    by_cases e2 : 3 ≤ p ∧ p < 3 + k
    · rw [if_pos e2, if_pos (by omega)]
    · rw [if_neg e2, if_neg (by omega)]
theorem fdS_out (σ : pt_sg) (rain : Int32) {k p : Nat} (h : ¬ (3 ≤ p ∧ p < 3 + k)) : fdS σ rain k p = σ p := if_neg h
theorem fdS_up2 (σ : pt_sg) (rain v : Int32) (k : Nat) : upS (fdS σ rain k) 2 v = fdS (upS σ 2 v) rain k := by
  funext p
  by_cases e : p = 2
  · rw [upS_eq _ _ e, fdS_out _ _ (by omega), upS_eq _ _ e]
  · rw [upS_ne _ _ e]
    unfold fdS
    rw [upS_ne _ _ e]
theorem gn_up2 (σ : pt_sg) (rain v : Int32) : ∀ k, gn (upS σ 2 v) rain k = gn σ rain k
  | 0 => rfl
  | k + 1 => by
    unfold gn
    rw [upS_ne σ v (by omega), gn_up2 σ rain v k]
theorem fdS_sw (σ : pt_sg) (rain : Int32) (k : Nat) : sw (fdS σ rain k) = sw σ := by
  unfold sw
  rw [fdS_out _ _ (by omega)]
theorem fdS_sr (σ : pt_sg) (rain : Int32) (k : Nat) : sr (fdS σ rain k) = sr σ := by
  unfold sr
  rw [fdS_out _ _ (by omega)]
theorem fdF_ok {rain s : Int32} {f : Nat} (h1 : 0 ≤ rain ∧ rain ≤ 5) (h2 : 0 ≤ s ∧ s ≤ 30) : 0 ≤ fdF rain s f ∧ fdF rain s f ≤ 30 := by
  unfold fdF fdD mx
  grind
theorem fdS_ok {σ : pt_sg} {rain : Int32} (O : OkS σ) (h1 : 0 ≤ rain ∧ rain ≤ 5) : ∀ k, k ≤ 5 * sw σ → OkS (fdS σ rain k)
  | 0, _ => by rw [fdS_0]; exact O
  | k + 1, hk => by
    have ih := fdS_ok O h1 k (by omega)
    rw [fdS_succ]
    refine upS_okw ih (by rw [fdS_sw]; omega) (fdF_ok h1 (O.2.2.2.2.2.1 k (by omega)))
theorem up2_ok {σ : pt_sg} {v : Int32} (O : OkS σ) (hv : 0 ≤ v ∧ v ≤ 9999) : OkS (upS σ 2 v) := by
  obtain ⟨o1, o2, o3, o4, o5, o6, o7, o8⟩ := O
  unfold OkS
  rw [upS_sw σ v (by omega), upS_sr σ v (by omega)]
  exact ⟨by rw [upS_ne σ v (by omega)]; exact o1, o2, by rw [upS_ne σ v (by omega)]; exact o3, o4, by rw [upS_eq σ v (by omega)]; exact hv, fun k hk => by rw [upS_ne σ v (by omega)]; exact o6 k hk, fun k h1 h2 => by rw [upS_ne σ v (by omega)]; exact o7 k h1 h2, fun r hr => ⟨by rw [upS_ne σ v (by omega)]; exact (o8 r hr).1, fun f hf => by rw [upS_ne σ v (by omega)]; exact (o8 r hr).2.1 f hf, by rw [upS_ne σ v (by omega)]; exact (o8 r hr).2.2⟩⟩
theorem RC_up2 {m m1 : pt_M} {b : Nat} {σ : pt_sg} {v : Int32} (h : RC m b σ) (h1 : m1 b 2 = v) (hf : ∀ o k, b ≤ o → o ≤ b + 3 → ¬ (o = b ∧ k = 2) → m1 o k = m o k) : RC m1 b (upS σ 2 v) := by
  obtain ⟨r1, r2, r3, r4, r5⟩ := h
  unfold RC
  rw [upS_sw σ v (by omega), upS_sr σ v (by omega)]
  exact ⟨by rw [upS_ne σ v (by omega), hf _ _ (by omega) (by omega) (by omega)]; exact r1, by rw [upS_ne σ v (by omega), hf _ _ (by omega) (by omega) (by omega)]; exact r2, by rw [upS_eq σ v (by omega)]; exact h1, fun k hk => by rw [upS_ne σ v (by omega), hf _ _ (by omega) (by omega) (by omega)]; exact r4 k hk, fun r hr => ⟨by rw [upS_ne σ v (by omega), hf _ _ (by omega) (by omega) (by omega)]; exact (r5 r hr).1, fun x hx => by rw [upS_ne σ v (by omega), hf _ _ (by omega) (by omega) (by omega)]; exact (r5 r hr).2 x hx⟩⟩
/-! the class -/
theorem c_fades {d : Nat} {Q : pt_Q} {m : pt_M} {f : Int32} (h : Q (some (zI (fdD f))) m) : Sp (d + 1) nX6_fadesByDay [zI f] m Q := by
  unfold fdD at h
  refine sX6_fadesByDay ?_
  refine Go_rn [] 100 ?_
  refine ⟨fun c => ?_, fun c => ?_⟩
  · rw [if_pos c] at h; exact h
  · rw [if_neg c] at h; exact h
theorem rem5 {k : Nat} (hk : k < 2 ^ 31) : nI k - nI k / 5 * 5 = nI (k % 5) := pk_rem (d := 5) hk (by omega) (by omega)
theorem c_fade_l {d : Nat} {Q : pt_Q} {τ : pt_sg} {rain : Int32} (O : OkS τ) : ∀ (n k : Nat) (x y : Int32) (g : Option pt_V) (m : pt_M), k + n = 5 * sw τ → x = nI k → y = gn τ rain k → RC m 24 (fdS τ rain k) → (∀ m1, fr (fun o _ => o = 25) m m1 → RC m1 24 (fdS τ rain (5 * sw τ)) → Q (some (zI (gn τ rain (5 * sw τ)))) m1) →
    Go (Sp (d + 1)) tX4_fadeByDay Q 14 [some (zR 4 24), some (zI rain), some (zI y), some (zI x), g] [] m := by
  have h8 := O.2.1
  have e0 : ∀ (m : pt_M) k, RC m 24 (fdS τ rain k) → m 24 0 * 5 = nI (5 * sw τ) := fun m k hR => by
    rw [hR.1, fdS_out _ _ (by omega), O.1]
    show nI (sw τ) * nI 5 = _
    rw [pk_mul, Nat.mul_comm]
  intro n
  induction n with
  | zero =>
    intro k x y g m hk hx hy hR h
    have ek : k = 5 * sw τ := by omega
    subst hx hy
    refine Go_rn [] 100 ?_
    refine br_t (by show m 24 0 * 5 ≤ nI k; rw [e0 m k hR]; exact nI_le (by omega) (by omega)) ?_
    rw [ek] at hR ⊢
    exact h m fr_rf hR
  | succ n ih =>
    intro k x y g m hk hx hy hR h
    subst hx
    refine Go_rn [14] 100 ?_
    refine br_f (by show ¬ m 24 0 * 5 ≤ nI k; rw [e0 m k hR]; exact nI_ge (by omega) (by omega)) ?_
    refine ⟨k, rfl, by omega, ?_⟩
    refine ⟨by decide, ?_⟩
    have ev : m 25 k = τ (3 + k) := by
      rw [hR.2.2.2.1 k (by rw [fdS_sw]; omega), fdS_out _ _ (by omega)]
    refine c_fades ?_
    refine ⟨k, rfl, by omega, ?_⟩
    have eF : mx 0 (m 25 k - fdD (nI k - nI k / 5 * 5) - rain) = fdF rain (τ (3 + k)) (k % 5) := by
      rw [rem5 (by omega), ev]
      rfl
    have hR2 : RC (st m 25 k (mx 0 (m 25 k - fdD (nI k - nI k / 5 * 5) - rain))) 24 (fdS τ rain (k + 1)) := by
      rw [eF, fdS_succ]
      exact RC_upw (q := k) hR (by omega) (by rw [st_eq, if_pos ⟨rfl, rfl⟩]) (fun o j g1 g2 g3 => by rw [st_eq, if_neg g3])
    have nxt : ∀ y2, y2 = gn τ rain (k + 1) → Go (Sp (d + 1)) tX4_fadeByDay Q 14 [some (zR 4 24), some (zI rain), some (zI y2), some (zI (nI k + 1)), some (zI (m 25 k))] [] (st m 25 k (mx 0 (m 25 k - fdD (nI k - nI k / 5 * 5) - rain))) := fun y2 h2 =>
      ih (k + 1) _ _ _ _ (by omega) (nI_1 k) h2 hR2 (fun m1 f1 r1 => h m1 (fun o j ho => by rw [f1 o j ho, st_eq, if_neg (fun q => ho q.1)]) r1)
    refine ⟨fun c => ?_, fun c => ⟨k, rfl, by omega, fun c2 => ?_, fun c2 => ?_⟩⟩
    · have c1 : τ (3 + k) ≤ 0 := by rw [← ev]; exact c
      refine nxt y ?_
      unfold gn
      rw [if_neg (fun q => by have := q.1; clear nxt h ih O hR hR2; grind)]
      exact hy
    · have c1 : ¬ τ (3 + k) ≤ 0 := by rw [← ev]; exact c
      have c3 : fdF rain (τ (3 + k)) (k % 5) = 0 := by
        rw [← eF]
        have c4 : st m 25 k (mx 0 (m 25 k - fdD (nI k - nI k / 5 * 5) - rain)) 25 k = 0 := c2
        rwa [st_eq, if_pos ⟨rfl, rfl⟩] at c4
      refine nxt (y + 1) ?_
      unfold gn
      rw [if_pos ⟨by clear nxt h ih O hR hR2; grind, c3⟩, hy]
    · have c3 : ¬ fdF rain (τ (3 + k)) (k % 5) = 0 := by
        rw [← eF]
        have c4 : ¬ st m 25 k (mx 0 (m 25 k - fdD (nI k - nI k / 5 * 5) - rain)) 25 k = 0 := c2
        rwa [st_eq, if_pos ⟨rfl, rfl⟩] at c4
      refine nxt y ?_
      unfold gn
      rw [if_neg (fun q => c3 q.2)]
      exact hy
noncomputable def dayX (a : pt_al) (rain : Int32) : pt_al × Int32 := cif (sw (aS a) = 0) (a, -1000002) (cif (0 ≤ rain ∧ rain ≤ 5) (cif (aS a 2 = 9999) (a, -1000003) (uSA a (fdS (upS (aS a) 2 (aS a 2 + 1)) rain (5 * sw (aS a))) (apush (aA a) (aS a)), gn (aS a) rain (5 * sw (aS a)))) (a, -1000001))
theorem day_lt {v : Int32} (h1 : 0 ≤ v ∧ v ≤ 9999) (h2 : ¬ v = 9999) : 0 ≤ v + 1 ∧ v + 1 ≤ 9999 := by grind
theorem dayX_ok {a : pt_al} (O : OK a) (rain : Int32) : OK (dayX a rain).1 := by
  unfold dayX
  by_cases c : sw (aS a) = 0
  · rw [cif_t c]; exact O
  rw [cif_f c]
  by_cases c2 : 0 ≤ rain ∧ rain ≤ 5
  · rw [cif_t c2]
    by_cases c3 : aS a 2 = 9999
    · rw [cif_t c3]; exact O
    · rw [cif_f c3]
      obtain ⟨o1, o2, o3, o4, o5, o6⟩ := O
      exact ⟨fdS_ok (up2_ok o1 (day_lt o1.2.2.2.2.1 c3)) c2 _ (by rw [upS_sw _ _ (by omega)]; exact Nat.le_refl _), apush_ok o2 o1, o3, o4, o5, o6⟩
  · rw [cif_f c2]; exact O
theorem sw0 {σ : pt_sg} (O : OkS σ) : σ 0 = 0 ↔ sw σ = 0 := by
  have h8 := O.2.1
  constructor
  · intro h
    have := O.1
    rw [h] at this
    exact nI_inj (this.symm : nI (sw σ) = nI 0) (by omega) (by omega)
  · intro h
    rw [O.1, h]
    rfl
theorem C_day {d : Nat} {Q : pt_Q} {m : pt_M} {a : pt_al} (O : OK a) (hC : IC m a) {rain : Int32} (h : ∀ m1, kM m m1 → IC m1 (dayX a rain).1 → Q (some (zI (dayX a rain).2)) m1) : Sp (d + 4) nX6_day [zR 6 0, zI rain] m Q := by
  unfold dayX at h
  have h8 := O.1.2.1
  refine sX6_day ?_
  refine Go_rn [] 100 ?_
  refine ⟨fun c => ?_, fun c => ?_⟩
  · have c1 : m 24 0 = 0 := c
    rw [hC.1.1, sw0 O.1] at c1
    rw [cif_t c1] at h
    exact h m kM_rf hC
  · have c1 : ¬ m 24 0 = 0 := c
    rw [hC.1.1, sw0 O.1] at c1
    rw [cif_f c1] at h
    refine ⟨fun c2 => ?_, fun c2 => ⟨fun c3 => ?_, fun c3 => ?_⟩⟩
    · rw [cif_f (by grind)] at h
      exact h m kM_rf hC
    · rw [cif_t (by grind)] at h
      have r2 := O.1.2.2.2.2.1
      refine ⟨fun c4 => ?_, fun c4 => ?_⟩
      · have c5 : m 24 2 < 9999 := c4
        rw [hC.1.2.2.1] at c5
        have c6 : ¬ aS a 2 = 9999 := by clear h O hC; grind
        rw [cif_f c6] at h
        refine c_keep O.1 hC.1 hC.2.1 O.2.1 (fun m1 f1 a1 => ?_)
        have hs : RC m1 24 (aS a) := RC_fr hC.1 (fun o k g1 g2 => f1 o k (by unfold Tacts; omega))
        refine sX4_fadeByDay ?_
        refine Go_rn [14] 100 ?_
        have es : sw (upS (aS a) 2 (aS a 2 + 1)) = sw (aS a) := upS_sw _ _ (by omega)
        refine c_fade_l (τ := upS (aS a) 2 (aS a 2 + 1)) (up2_ok O.1 (day_lt r2 c6)) (5 * sw (aS a)) 0 _ _ _ _ (by rw [es]; omega) rfl rfl ?_ (fun m2 f2 r2 => ?_)
        · rw [fdS_0]
          refine RC_up2 hs ?_ (fun o k g1 g2 g3 => by rw [st_eq, if_neg g3])
          rw [st_eq, if_pos ⟨rfl, rfl⟩]
          show m1 24 2 + 1 = _
          rw [hs.2.2.1]
        · rw [es] at r2
          have e9 : gn (upS (aS a) 2 (aS a 2 + 1)) rain (5 * sw (upS (aS a) 2 (aS a 2 + 1))) = gn (aS a) rain (5 * sw (aS a)) := by rw [es, gn_up2]
          refine qe e9 ?_
          refine h _ (fun o k ho => ?_) (IC_uSA hC r2 (cA_fr a1 ?_ ?_ (fun o k g1 g2 => ?_)) (fun o k _ q => ?_))
          · rw [f2 _ _ (by omega), st_eq, if_neg (by omega)]
            exact f1 o k (by unfold Tacts; omega)
          · rw [f2 _ _ (by omega), st_eq, if_neg (by omega)]
          · rw [f2 _ _ (by omega), st_eq, if_neg (by omega)]
          · rw [f2 _ _ (by omega), st_eq, if_neg (by omega)]
          · rw [f2 _ _ (by omega), st_eq, if_neg (by omega)]
            exact f1 o k (by unfold Tacts; omega)
      · have c5 : ¬ m 24 2 < 9999 := c4
        rw [hC.1.2.2.1] at c5
        rw [cif_t (by clear h O hC; grind)] at h
        exact h m kM_rf hC
    · rw [cif_f (by grind)] at h
      exact h m kM_rf hC
