/-! 50.street: street of the class -/
abbrev Tst : Nat → Nat → Prop := fun o k => (o = 18 ∧ 2 ≤ k ∧ k ≤ 8) ∨ (20 ≤ o ∧ o ≤ 23)
/-- what the reading comes to -/
def stP (Q : pt_Q) (m : pt_M) (x : pt_ft × pt_sg) : Prop := (∀ c b σ, x = (some (c, b), σ) → ∀ m1, fr Tst m m1 → m1 18 2 = c → m1 18 3 = nI b → Q (some (zI 0)) m1) ∧ (∀ σ, x = (none, σ) → ∀ m1, fr Tst m m1 → RC m1 20 σ → Q (some (zI 1)) m1)
theorem stP_fr {Q : pt_Q} {m m1 : pt_M} {x : pt_ft × pt_sg} (h : stP Q m x) (f : fr Tst m m1) : stP Q m1 x :=
  ⟨fun c b σ e m2 f2 => h.1 c b σ e m2 (fun o k ho => (f2 o k ho).trans (f o k ho)), fun σ e m2 f2 => h.2 σ e m2 (fun o k ho => (f2 o k ho).trans (f o k ho))⟩
theorem c_st_end {d : Nat} {Q : pt_Q} {T : pt_tp} {p : Nat} {σ : pt_sg} {g : Option pt_V} {m : pt_M} (hT : cTok m T p) (hR : RC m 20 σ) (h : stP Q m (pE T p σ)) : Go (Sp (d + 1)) tX5_isStreet Q 97 [some (zR 5 18), g] [] m := by
  unfold pE at h
  have hK := tkK_lt T p
  refine Go_rn [] 100 ?_
  refine ⟨fun c => ?_, fun c => ?_⟩
  · have c1 : nI (tkK T p) = nI 0 := hT.2.1.symm.trans c
    have c2 := nI_inj c1 (by omega) (by omega)
    rw [cif_t c2] at h
    exact ⟨bz1, h.2 _ rfl m fr_rf hR⟩
  · have c2 : ¬ tkK T p = 0 := fun q => c (by show m 18 5 = 0; rw [hT.2.1, q]; rfl)
    rw [cif_f c2] at h
    refine c_fault hT (fun m1 f1 e1 e2 => ?_)
    refine br_t rfl ?_
    exact ⟨bz0, h.1 _ _ _ rfl m1 (fun o k ho => f1 o k (by omega)) e1 e2⟩
theorem c_st_r {d : Nat} {Q : pt_Q} {T : pt_tp} (hO : OkT T) : ∀ (n r p : Nat) (σ : pt_sg) (x : Int32) (m : pt_M), r + n = 6 → p ≤ T.1 → x = nI r → sr σ = r → OkS σ → cTok m T p → RC m 20 σ → stP Q m (pR T n r p σ) → Go (Sp (d + 7)) tX5_isStreet Q 66 [some (zR 5 18), some (zI x)] [] m := by
  intro n
  induction n with
  | zero =>
    intro r p σ x m hn hp hx hr O hT hR h
    have := O.2.2.2.1
    omega
  | succ n ih =>
    intro r p σ x m hn hp hx hr O hT hR h
    subst hx
    have h5 := O.2.2.2.1
    have eP : pR T (n + 1) r p σ = cif (isW T 1 p) (match rF T r p with | some x => (some x, σ) | none => pR T n (r + 1) (pnx T 8 p) (rU T r p σ)) (pE T p σ) := rfl
    rw [eP] at h
    refine Go_rn [66, 97] 100 ?_
    refine br_f (nI_ge (a := r) (b := 400) (by omega) (by omega)) ?_
    refine c_isW (d := d + 2) hO.1 hp (by omega) hT (fun c => ?_) (fun c => ?_)
    · refine br_f (by decide) ?_
      rw [cif_t c] at h
      refine c_reader (d := d) (r := r) hO hp (by omega) hT (hR.2.1.trans (by rw [O.2.2.1, hr])) (fun c b e m1 f1 a1 a2 => ?_) (fun e m1 f1 t1 a1 a2 a3 a4 => ?_)
      · refine br_t rfl ?_
        rw [e] at h
        exact ⟨bz0, h.1 _ _ _ rfl m1 f1 a1 a2⟩
      · refine br_f (by decide) ?_
        rw [e] at h
        obtain ⟨g1, g2, g3⟩ := rU_ok O hr e
        have f2 : fr Tst m m1 := fun o k ho => f1 o k (by omega)
        refine ih (r + 1) (pnx T 8 p) (rU T r p σ) _ m1 (by omega) (pnx_n 8 hp) (nI_1 r) g3 g1 t1 ?_ (stP_fr h f2)
        obtain ⟨r1, r2, r3, r4, r5⟩ := hR
        have out : ∀ k, k ≠ 1 → ¬ (43 + 7 * r ≤ k ∧ k ≤ 49 + 7 * r) → rU T r p σ k = σ k := fun k h1 h2 => by
          show (if k = 1 then _ else if _ then _ else if _ then _ else if _ then _ else σ k) = σ k
          rw [if_neg h1, if_neg (by omega), if_neg (by omega), if_neg (by omega)]
        have hr5 : r < 5 := by have := g1.2.2.2.1; omega
        refine ⟨?_, ?_, ?_, fun k hk => ?_, fun i hi => ?_⟩
        · rw [f1 _ _ (by omega), r1, out 0 (by omega) (by omega)]
        · rw [a1]; rfl
        · rw [f1 _ _ (by omega), r3, out 2 (by omega) (by omega)]
        · rw [g2] at hk
          have := O.2.1
          rw [f1 _ _ (by omega), r4 k hk, out _ (by omega) (by omega)]
        · rw [g3] at hi
          rcases Nat.lt_or_ge i r with q | q
          · obtain ⟨u1, u2⟩ := r5 i (by omega)
            exact ⟨by rw [f1 _ _ (by omega), u1, out _ (by omega) (by omega)], fun x hx => by rw [f1 _ _ (by omega), u2 x hx, out _ (by omega) (by omega)]⟩
          · have ei : i = r := by omega
            subst ei
            refine ⟨?_, fun x hx => ?_⟩
            · show m1 22 i = rU T i p σ (43 + 7 * i)
              have e9 : rU T i p σ (43 + 7 * i) = kdX T (tkE T p) := by
                show (if _ then _ else if _ then _ else if _ then _ else if _ then _ else σ _) = _
                rw [if_neg (by omega), if_pos rfl]
              rw [e9, a2]
            · show m1 23 (6 * i + x) = rU T i p σ (44 + 7 * i + x)
              rcases Nat.lt_or_ge x 5 with q2 | q2
              · have e9 : rU T i p σ (44 + 7 * i + x) = tkV T (pnx T (44 + 7 * i + x - (44 + 7 * i)) (pnx T 2 p)) := by
                  show (if _ then _ else if _ then _ else if _ then _ else if _ then _ else σ _) = _
                  rw [if_neg (by omega), if_neg (by omega), if_pos (by omega)]
                rw [e9, a3 x q2, show 44 + 7 * i + x - (44 + 7 * i) = x by omega]
              · have e9 : rU T i p σ (44 + 7 * i + x) = -1 := by
                  show (if _ then _ else if _ then _ else if _ then _ else if _ then _ else σ _) = _
                  rw [if_neg (by omega), if_neg (by omega), if_neg (by omega), if_pos (by omega)]
                rw [e9, show x = 5 by omega, a4]
    · refine br_t rfl ?_
      rw [cif_f c] at h
      exact c_st_end (d := d + 6) hT hR h
theorem c_st_w {d : Nat} {Q : pt_Q} {T : pt_tp} (hO : OkT T) : ∀ (n w p : Nat) (σ : pt_sg) (x : Int32) (m : pt_M), w + n = 9 → p ≤ T.1 → x = nI w → sw σ = w → sr σ = 0 → OkS σ → cTok m T p → RC m 20 σ → stP Q m (pW T n w p σ) → Go (Sp (d + 7)) tX5_isStreet Q 33 [some (zR 5 18), some (zI x)] [] m := by
  intro n
  induction n with
  | zero =>
    intro w p σ x m hn hp hx hw hr O hT hR h
    have := O.2.1
    omega
  | succ n ih =>
    intro w p σ x m hn hp hx hw hr O hT hR h
    subst hx
    have h8 := O.2.1
    have eP : pW T (n + 1) w p σ = cif (isW T 0 p) (match wF T w p with | some x => (some x, σ) | none => pW T n (w + 1) (pnx T 7 p) (wU T w p σ)) (pR T 6 0 p σ) := rfl
    rw [eP] at h
    refine Go_rn [33, 66] 100 ?_
    refine br_f (nI_ge (a := w) (b := 400) (by omega) (by omega)) ?_
    refine c_isW (d := d + 2) hO.1 hp (by omega) hT (fun c => ?_) (fun c => ?_)
    · refine br_f (by decide) ?_
      rw [cif_t c] at h
      refine c_wall (d := d + 2) (w := w) hO hp (by omega) hT (hR.1.trans (by rw [O.1, hw])) (fun c b e m1 f1 a1 a2 => ?_) (fun e m1 f1 t1 a1 a2 => ?_)
      · refine br_t rfl ?_
        rw [e] at h
        exact ⟨bz0, h.1 _ _ _ rfl m1 f1 a1 a2⟩
      · refine br_f (by decide) ?_
        rw [e] at h
        obtain ⟨g1, g2, g3⟩ := wU_ok O hw e
        have f2 : fr Tst m m1 := fun o k ho => f1 o k (by omega)
        refine ih (w + 1) (pnx T 7 p) (wU T w p σ) _ m1 (by omega) (pnx_n 7 hp) (nI_1 w) g2 (g3.trans hr) g1 t1 ?_ (stP_fr h f2)
        obtain ⟨r1, r2, r3, r4, r5⟩ := hR
        have out : ∀ k, k ≠ 0 → ¬ (3 + 5 * w ≤ k ∧ k < 8 + 5 * w) → wU T w p σ k = σ k := fun k h1 h2 => by
          show (if k = 0 then _ else if _ then _ else σ k) = σ k
          rw [if_neg h1, if_neg h2]
        refine ⟨?_, ?_, ?_, fun k hk => ?_, fun i hi => ?_⟩
        · rw [a1]; rfl
        · rw [f1 _ _ (by omega), r2, out 1 (by omega) (by omega)]
        · rw [f1 _ _ (by omega), r3, out 2 (by omega) (by omega)]
        · rw [g2] at hk
          rcases Nat.lt_or_ge k (5 * w) with q | q
          · rw [f1 _ _ (by omega), r4 k (by omega), out _ (by omega) (by omega)]
          · have e9 : wU T w p σ (3 + k) = tkV T (pnx T (3 + k - (3 + 5 * w)) (tkE T p)) := by
              show (if 3 + k = 0 then _ else if _ then _ else σ (3 + k)) = _
              rw [if_neg (by omega), if_pos (by omega)]
            have := a2 (k - 5 * w) (by omega)
            rw [show 5 * w + (k - 5 * w) = k by omega] at this
            rw [e9, this, show 3 + k - (3 + 5 * w) = k - 5 * w by omega]
        · rw [g3, hr] at hi
          omega
    · refine br_t rfl ?_
      rw [cif_f c] at h
      exact c_st_r (d := d) hO 6 0 p σ _ m (by omega) hp rfl hr O hT hR h
theorem c_isStreet {d : Nat} {Q : pt_Q} {T : pt_tp} {m : pt_M} (hO : OkT T) (hT : cTp m T) (h : stP Q m (pS T)) : Sp (d + 8) nX5_isStreet [zR 5 18] m Q := by
  unfold pS at h
  refine sX5_isStreet ?_
  refine Go_rn [33] 100 ?_
  refine sX4_clear ?_
  refine Go_rn [] 100 ?_
  have z : ∀ o k, ¬ (o = 20) → ¬ (o = 18 ∧ k = 7) → st (st (st (st m 20 0 0) 20 1 0) 20 2 0) 18 7 0 o k = m o k := fun o k h1 h2 => by
    rw [st_eq, if_neg h2, st_eq, if_neg (fun q => h1 q.1), st_eq, if_neg (fun q => h1 q.1), st_eq, if_neg (fun q => h1 q.1)]
  refine c_next (p := 0) hO (Nat.zero_le _) (cTp_fr hT (z _ _ (by omega) (by omega)) (fun k => z _ _ (by omega) (by omega))) (by rw [st_eq, if_pos ⟨rfl, rfl⟩]; rfl) (fun m1 f1 t1 => ?_)
  have g1 : fr Tst m m1 := fun o k ho => by
    rw [f1 o k (by unfold Ttk; omega)]
    exact z o k (by omega) (by omega)
  refine c_isW (d := d + 2) hO.1 (Nat.zero_le _) (by omega) t1 (fun c => ?_) (fun c => ?_)
  · refine br_f (by decide) ?_
    rw [cif_t c] at h
    refine c_st_w (d := d) hO 9 0 0 sg0 _ m1 (by omega) (Nat.zero_le _) rfl sg0_ok.2.1 sg0_ok.2.2 sg0_ok.1 t1 ?_ (stP_fr h g1)
    refine ⟨?_, ?_, ?_, fun k hk => ?_, fun i hi => ?_⟩
    · rw [f1 _ _ (by unfold Ttk; omega), st_eq, if_neg (by omega), st_eq, if_neg (by omega), st_eq, if_neg (by omega), st_eq, if_pos ⟨rfl, rfl⟩]; rfl
    · rw [f1 _ _ (by unfold Ttk; omega), st_eq, if_neg (by omega), st_eq, if_neg (by omega), st_eq, if_pos ⟨rfl, rfl⟩]; rfl
    · rw [f1 _ _ (by unfold Ttk; omega), st_eq, if_neg (by omega), st_eq, if_pos ⟨rfl, rfl⟩]; rfl
    · rw [sg0_ok.2.1] at hk; omega
    · rw [sg0_ok.2.2] at hi; omega
  · refine br_t rfl ?_
    rw [cif_f c] at h
    refine c_fault t1 (fun m2 f2 e1 e2 => ?_)
    exact ⟨bz0, h.1 _ _ _ rfl m2 (fun o k ho => by rw [f2 o k (by omega)]; exact g1 o k ho) e1 e2⟩
theorem C_street {d : Nat} {Q : pt_Q} {m : pt_M} {a : pt_al} (O : OK a) (hC : IC m a) (h : ∀ m1, kM m m1 → IC m1 (streetX a).1 → Q (some (zI (streetX a).2)) m1) : Sp (d + 9) nX6_street [zR 6 0] m Q := by
  have hT := hC.2.2.2.2.1
  have oT := O.2.2.2.2.1
  unfold streetX at h
  refine sX6_street ?_
  refine Go_rn [] 100 ?_
  refine c_isStreet (d := d) oT hT ⟨fun c b σ e m1 f1 a1 a2 => ?_, fun σ e m1 f1 r1 => ?_⟩
  · rw [e] at h
    refine br_t rfl ?_
    have z2 : st m1 18 0 0 18 2 = c := by rw [st_eq, if_neg (by omega)]; exact a1
    have z3 : ∀ x, st (st m1 18 0 0) 0 6 x 18 3 = nI b := fun x => by rw [st_eq, if_neg (by omega), st_eq, if_neg (by omega)]; exact a2
    refine qe (x := -1000100 - st (st m1 18 0 0) 0 6 (st m1 18 0 0 18 2) 18 3) (by rw [z3]) (h _ (fun o k ho => ?_) (IC_uTL hC ⟨?_, fun i hi => absurd hi (Nat.not_lt_zero i)⟩ ?_ (fun o k hp hq => ?_)))
    · rw [st_eq, if_neg (by omega), st_eq, if_neg (by omega)]
      exact f1 o k (by omega)
    · rw [st_eq, if_neg (by omega), st_eq, if_pos ⟨rfl, rfl⟩]; rfl
    · rw [st_eq, if_pos ⟨rfl, rfl⟩]; exact z2
    · unfold pC at hp
      rw [st_eq, if_neg (by omega), st_eq, if_neg (by omega)]
      exact f1 o k (by omega)
  · rw [e] at h
    refine br_f (by decide) ?_
    have hS := pS_ok e
    refine c_become (by omega) (fun m2 f2 g2 => ?_)
    have r2 := g2 σ hS (RC_fr r1 (fun o k _ _ => by rw [st_eq, if_neg (by omega)]))
    obtain ⟨e1, nx, e2, e3, e4⟩ := hC.2.1
    refine sX0_forgetAll ?_
    refine Go_rn [] 100 ?_
    have r3 : RC (st m2 28 0 0) 24 σ := RC_fr r2 (fun o k _ _ => by rw [st_eq, if_neg (by omega)])
    refine qe r3.1 (h _ (fun o k ho => ?_) (IC_uSATL hC r3 ⟨by rw [st_eq, if_pos ⟨rfl, rfl⟩]; rfl, nx, e2, ?_, fun i hi => absurd hi (Nat.not_lt_zero i)⟩ ⟨?_, fun i hi => absurd hi (Nat.not_lt_zero i)⟩ ?_ (fun o k hp hq => ?_)))
    · rw [st_eq, if_neg (by omega), f2 o k (by omega), st_eq, if_neg (by omega)]
      exact f1 o k (by omega)
    · rw [st_eq, if_neg (by omega), f2 _ _ (by omega), st_eq, if_neg (by omega), f1 _ _ (by omega)]; exact e3
    · rw [st_eq, if_neg (by omega), f2 _ _ (by omega), st_eq, if_pos ⟨rfl, rfl⟩]; rfl
    · rw [st_eq, if_neg (by omega), f2 _ _ (by omega), st_eq, if_neg (by omega), f1 _ _ (by omega)]; exact hC.2.2.2.2.2.2.2
    · unfold pC at hp
      rw [st_eq, if_neg (by omega), f2 o k (by omega), st_eq, if_neg (by omega)]
      exact f1 o k (by omega)
