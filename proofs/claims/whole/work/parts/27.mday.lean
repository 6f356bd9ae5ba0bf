/-! 27.mday: day of the model -/
theorem fdF_m (rain s : Int32) (f : Nat) : fdF rain s f = if 0 ≤ s - rain - fdD (nI f) then s - rain - fdD (nI f) else 0 := by
  unfold fdF mx
  grind
theorem m_day_in {d : Nat} {Q : pt_Q} {σ : pt_sg} {rain : Int32} {w : Nat} (O : OkS σ) (hw : w < sw σ) : ∀ (n f : Nat) (x y : Int32) (g5 g6 : Option pt_V) (m : pt_M), f + n = 5 → x = nI f → y = gn σ rain (5 * w + f) → RM m 147 0 (fdS σ rain (5 * w + f)) →
    (∀ m1 g5 g6, fr (fun o _ => o = 147) m m1 → RM m1 147 0 (fdS σ rain (5 * (w + 1))) → Go (Sp (d + 1)) tX7_day Q 147 [some (zR 7 143), some (zI rain), some (zI (gn σ rain (5 * (w + 1)))), some (zI (nI w)), some (zI (nI 5)), g5, g6] [] m1) →
    Go (Sp (d + 1)) tX7_day Q 66 [some (zR 7 143), some (zI rain), some (zI y), some (zI (nI w)), some (zI x), g5, g6] [] m := by
  have h8 := O.2.1
  intro n
  induction n with
  | zero =>
    intro f x y g5 g6 m hk hx hy hR h
    have ek : f = 5 := by omega
    subst ek hx hy
    refine Go_rn [147] 100 ?_
    refine br_t (nI_le (a := 5) (b := 5) (by omega) (by omega)) ?_
    exact h m g5 g6 fr_rf hR
  | succ n ih =>
    intro f x y g5 g6 m hk hx hy hR h
    subst hx
    have ev : m 147 (3 + (5 * w + f)) = σ (3 + (5 * w + f)) := by
      rw [RM_at hR (by omega), fdS_out _ _ (by omega)]
    refine Go_rn [66, 96] 100 ?_
    refine br_f (nI_ge (a := f) (b := 5) (by omega) (by omega)) ?_
    refine m_strong (by omega) (by omega) ev ?_
    have key : ∀ fd : Int32, fd = fdD (nI f) → Go (Sp (d + 1)) tX7_day Q 96 [some (zR 7 143), some (zI rain), some (zI y), some (zI (nI w)), some (zI (nI f)), some (zI (σ (3 + (5 * w + f)))), g6] [zI fd, zI (σ (3 + (5 * w + f)) - rain)] m := by
      intro fd hfd
      have e5 : (5 * w + f) % 5 = f := by omega
      have eF := fdF_m rain (σ (3 + (5 * w + f))) f
      rw [← hfd] at eF
      have eS : fdS σ rain (5 * w + (f + 1)) = upS (fdS σ rain (5 * w + f)) (3 + (5 * w + f)) (fdF rain (σ (3 + (5 * w + f))) f) := by
        have := fdS_succ σ rain (5 * w + f)
        rw [e5] at this
        exact this
      have eG : gn σ rain (5 * w + (f + 1)) = if 0 < σ (3 + (5 * w + f)) ∧ fdF rain (σ (3 + (5 * w + f))) f = 0 then gn σ rain (5 * w + f) + 1 else gn σ rain (5 * w + f) := by
        show (if 0 < σ (3 + (5 * w + f)) ∧ fdF rain (σ (3 + (5 * w + f))) ((5 * w + f) % 5) = 0 then gn σ rain (5 * w + f) + 1 else gn σ rain (5 * w + f)) = _
        rw [e5]
      have nxt : ∀ y2 u g5 g6, u = fdF rain (σ (3 + (5 * w + f))) f → y2 = gn σ rain (5 * w + (f + 1)) → Go (Sp (d + 1)) tX7_day Q 66 [some (zR 7 143), some (zI rain), some (zI y2), some (zI (nI w)), some (zI (nI f + 1)), g5, g6] [] (st m 147 (3 + (5 * w + f)) u) := fun y2 u g5 g6 hu h2 =>
        ih (f + 1) _ _ _ _ _ (by omega) (nI_1 f) h2 (by rw [eS]; exact RM_up hR (by rw [st_eq, if_pos ⟨rfl, rfl⟩, hu]) (fun k hk => by rw [st_eq, if_neg (fun q => hk q.2)])) (fun m1 g5 g6 f1 r1 => h m1 g5 g6 (fun o j ho => by rw [f1 o j ho, st_eq, if_neg (fun q => ho q.1)]) r1)
      refine Go_rn [66] 100 ?_
      refine ⟨fun c1 => ?_, fun c1 => ?_⟩
      · have c2 : 0 ≤ σ (3 + (5 * w + f)) - rain - fd := c1
        rw [if_pos c2] at eF
        refine ⟨_, ixB w f, by omega, ?_⟩
        refine ⟨fun c3 => ?_, fun c3 => ⟨fun c4 => ?_, fun c4 => ?_⟩⟩
        · have c5 : σ (3 + (5 * w + f)) ≤ 0 := c3
          refine nxt (y + 0) _ _ _ eF.symm ?_
          rw [eG, if_neg (fun q => by have := q.1; clear nxt h ih O hR; grind), hy]
          exact Int32.add_zero _
        · have c5 : 0 < σ (3 + (5 * w + f)) - rain - fd := c4
          refine nxt (y + 0) _ _ _ eF.symm ?_
          rw [eG, if_neg (fun q => by have := q.2; clear nxt h ih O hR; grind), hy]
          exact Int32.add_zero _
        · have c5 : ¬ 0 < σ (3 + (5 * w + f)) - rain - fd := c4
          have c6 : ¬ σ (3 + (5 * w + f)) ≤ 0 := c3
          refine nxt (y + 1) _ _ _ eF.symm ?_
          rw [eG, if_pos (by clear nxt h ih O hR; grind), hy]
      · have c2 : ¬ 0 ≤ σ (3 + (5 * w + f)) - rain - fd := c1
        rw [if_neg c2] at eF
        refine ⟨_, ixB w f, by omega, ?_⟩
        refine ⟨fun c3 => ?_, fun c3 => ⟨fun c4 => ?_, fun c4 => ?_⟩⟩
        · have c5 : σ (3 + (5 * w + f)) ≤ 0 := c3
          refine nxt (y + 0) _ _ _ eF.symm ?_
          rw [eG, if_neg (fun q => by have := q.1; clear nxt h ih O hR; grind), hy]
          exact Int32.add_zero _
        · have c5 : 0 < σ (3 + (5 * w + f)) - rain - fd := c4
          exact absurd c5 (by clear nxt h ih O hR; grind)
        · have c6 : ¬ σ (3 + (5 * w + f)) ≤ 0 := c3
          refine nxt (y + 1) _ _ _ eF.symm ?_
          rw [eG, if_pos ⟨by clear nxt h ih O hR; grind, eF⟩, hy]
    refine ⟨fun c => ?_, fun c => ?_⟩
    · have c1 : nI f = 2 := c
      exact key 3 (by unfold fdD; rw [if_pos c1])
    · have c1 : ¬ nI f = 2 := c
      exact key 1 (by unfold fdD; rw [if_neg c1])
theorem m_day_out {d : Nat} {Q : pt_Q} {σ : pt_sg} {rain : Int32} (O : OkS σ) : ∀ (n w : Nat) (x y : Int32) (g4 g5 g6 : Option pt_V) (m : pt_M), w + n = sw σ → x = nI w → y = gn σ rain (5 * w) → RM m 147 0 (fdS σ rain (5 * w)) →
    (∀ m1, fr (fun o _ => o = 147) m m1 → RM m1 147 0 (upS (fdS σ rain (5 * sw σ)) 2 (σ 2 + 1)) → Q (some (zI (gn σ rain (5 * sw σ)))) m1) →
    Go (Sp (d + 1)) tX7_day Q 53 [some (zR 7 143), some (zI rain), some (zI y), some (zI x), g4, g5, g6] [] m := by
  have h8 := O.2.1
  have e0 : ∀ (m : pt_M) k, RM m 147 0 (fdS σ rain k) → m 147 0 = nI (sw σ) := fun m k hR => by
    rw [RM_at hR (by omega), fdS_out _ _ (by omega), O.1]
  intro n
  induction n with
  | zero =>
    intro w x y g4 g5 g6 m hk hx hy hR h
    have ek : w = sw σ := by omega
    subst hx
    refine Go_rn [] 100 ?_
    refine ⟨0, by decide, by decide, ?_⟩
    refine br_t (by show m 147 0 ≤ nI w; rw [e0 m _ hR]; exact nI_le (by omega) (by omega)) ?_
    refine ⟨2, by decide, by decide, ?_⟩
    refine ⟨2, by decide, by decide, ?_⟩
    refine qe (hy.trans (by rw [ek])) ?_
    rw [ek] at hR
    refine h _ (fun o k ho => by rw [st_eq, if_neg (fun q => ho q.1)]) (RM_up hR ?_ (fun k hk => by rw [st_eq, if_neg (fun q => hk q.2)]))
    rw [st_eq, if_pos ⟨rfl, rfl⟩, RM_at hR (by omega), fdS_out _ _ (by omega)]
  | succ n ih =>
    intro w x y g4 g5 g6 m hk hx hy hR h
    subst hx
    refine Go_rn [66] 100 ?_
    refine ⟨0, by decide, by decide, ?_⟩
    refine br_f (by show ¬ m 147 0 ≤ nI w; rw [e0 m _ hR]; exact nI_ge (by omega) (by omega)) ?_
    refine m_day_in O (by omega) 5 0 _ _ _ _ _ (by omega) rfl hy hR (fun m1 g5 g6 f1 r1 => ?_)
    refine Go_rn [53] 100 ?_
    refine ih (w + 1) _ _ _ _ _ _ (by omega) (nI_1 w) rfl r1 (fun m2 f2 r2 => h m2 (fun o k ho => (f2 o k ho).trans (f1 o k ho)) r2)
theorem M_day {d : Nat} {Q : pt_Q} {m : pt_M} {a : pt_al} (O : OK a) (hM : IM m a) {rain : Int32} (h : ∀ m1, kC m m1 → IM m1 (dayX a rain).1 → Q (some (zI (dayX a rain).2)) m1) : Sp (d + 4) nX7_day [zR 7 143, zI rain] m Q := by
  obtain ⟨t1, t2⟩ := IM_th hM
  unfold dayX at h
  have h8 := O.1.2.1
  refine sX7_day ?_
  refine Go_rn [53] 100 ?_
  refine m_isThere O.1 (RM_at t1.1 (by omega)) (fun c => ?_) (fun c => ?_)
  · refine br_f (by decide) ?_
    rw [cif_f (by omega)] at h
    refine m_inI (lo := 0) (hi := 5) (by decide) (by decide) (fun c2 => ?_) (fun c2 => ?_)
    · refine br_f (by decide) ?_
      rw [cif_t c2] at h
      refine ⟨2, by decide, by decide, ?_⟩
      refine ⟨fun c3 => ?_, fun c3 => ?_⟩
      · have c4 : aS a 2 = 9999 := (RM_at t1.1 (by omega)).symm.trans c3
        rw [cif_t c4] at h
        exact h _ t2 t1
      · have c4 : ¬ aS a 2 = 9999 := fun q => c3 ((RM_at t1.1 (by omega)).trans q)
        rw [cif_f c4] at h
        refine m_keep t1.1 t1.2.1 O.2.1 (fun m1 f1 a1 => ?_)
        have hs : RM m1 147 0 (aS a) := RM_fr t1.1 (fun k _ _ => f1 147 k (by unfold Tmk; omega))
        refine m_day_out O.1 (sw (aS a)) 0 _ _ _ _ _ _ (by omega) rfl rfl (by rw [fdS_0]; exact hs) (fun m2 f2 r2 => ?_)
        rw [fdS_up2] at r2
        refine h m2 (kC_tr t2 (fun o k ho => ?_)) (IM_uSA t1 r2 (mA_fr a1 (f2 _ _ (by omega)) (fun k => f2 _ _ (by omega))) (fun o k _ q => ?_))
        · rw [f2 o k (by omega)]
          exact f1 o k (by unfold Tmk; omega)
        · rw [f2 o k (by omega)]
          exact f1 o k (by unfold Tmk; omega)
    · refine br_t rfl ?_
      rw [cif_f c2] at h
      exact h _ t2 t1
  · refine br_t rfl ?_
    rw [cif_t c] at h
    exact h _ t2 t1
