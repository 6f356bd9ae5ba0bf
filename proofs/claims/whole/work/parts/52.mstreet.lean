/-! 52.mstreet: street of the model -/
abbrev Tms : Nat → Nat → Prop := fun o k => (o = 143 ∧ 13 ≤ k ∧ k ≤ 18) ∨ o = 148
/-- what the reading comes to, at pc 102 -/
def mtP (d : Nat) (Q : pt_Q) (T : pt_tp) (m : pt_M) (x : pt_ft × pt_sg) : Prop := (∀ c b σ, x = (some (c, b), σ) → ∀ m1 g, fr Tms m m1 → FS m1 T c b → Go (Sp d) tX7_street Q 102 [some (zR 7 143), g] [] m1) ∧ (∀ σ, x = (none, σ) → ∀ m1 g, fr Tms m m1 → m1 143 17 = 0 → RM m1 148 0 σ → Go (Sp d) tX7_street Q 102 [some (zR 7 143), g] [] m1)
theorem mtP_fr {d : Nat} {Q : pt_Q} {T : pt_tp} {m m1 : pt_M} {x : pt_ft × pt_sg} (h : mtP d Q T m x) (f : fr Tms m m1) : mtP d Q T m1 x :=
  ⟨fun c b σ e m2 g f2 => h.1 c b σ e m2 g (fun o k ho => (f2 o k ho).trans (f o k ho)), fun σ e m2 g f2 => h.2 σ e m2 g (fun o k ho => (f2 o k ho).trans (f o k ho))⟩
theorem wc_ne0 : ∀ i, i < 7 → ¬ lg_cmp 0 (wc i) = 0 := by decide +kernel
theorem m_st_F82 {d : Nat} {Q : pt_Q} {T : pt_tp} {c : Int32} {b : Nat} {g : Option pt_V} {m : pt_M} (hF : FS m T c b) (h : Go (Sp d) tX7_street Q 102 [some (zR 7 143), g] [] m) : Go (Sp d) tX7_street Q 82 [some (zR 7 143), g] [] m := by
  refine Go_rn [102] 100 ?_
  refine br_f (FS_ne hF) ?_
  exact h
theorem m_st_F64 {d : Nat} {Q : pt_Q} {T : pt_tp} {c : Int32} {b : Nat} {g : Option pt_V} {m : pt_M} (hO : OkT T) (hF : FS m T c b) (h : Go (Sp (d + 1)) tX7_street Q 102 [some (zR 7 143), g] [] m) : Go (Sp (d + 1)) tX7_street Q 64 [some (zR 7 143), g] [] m := by
  obtain ⟨p, hp, hT⟩ := hF.2.2
  refine Go_rn [82] 100 ?_
  refine m_name (d := d) hO hp hT (fun q => absurd q (FS_ne hF)) (fun _ => ?_)
  refine br_f (wc_ne0 1 (by omega)) ?_
  exact m_st_F82 hF h
theorem m_st_F46 {d : Nat} {Q : pt_Q} {T : pt_tp} {c : Int32} {b : Nat} {g : Option pt_V} {m : pt_M} (hO : OkT T) (hF : FS m T c b) (h : Go (Sp (d + 1)) tX7_street Q 102 [some (zR 7 143), g] [] m) : Go (Sp (d + 1)) tX7_street Q 46 [some (zR 7 143), g] [] m := by
  obtain ⟨p, hp, hT⟩ := hF.2.2
  refine Go_rn [64] 100 ?_
  refine m_name (d := d) hO hp hT (fun q => absurd q (FS_ne hF)) (fun _ => ?_)
  refine br_f (wc_ne0 0 (by omega)) ?_
  exact m_st_F64 hO hF h
theorem m_st_end {d : Nat} {Q : pt_Q} {T : pt_tp} {p : Nat} {σ : pt_sg} {g : Option pt_V} {m : pt_M} (hp : p ≤ T.1) (hT : mTok m T p) (h0 : m 143 17 = 0) (hR : RM m 148 0 σ) (h : mtP (d + 1) Q T m (pE T p σ)) : Go (Sp (d + 1)) tX7_street Q 82 [some (zR 7 143), g] [] m := by
  unfold pE at h
  have hK := tkK_lt T p
  refine Go_rn [102] 100 ?_
  refine br_t h0 ?_
  refine ⟨fun c => ?_, fun c => ?_⟩
  · have c3 : m 143 14 = nI 1 := c
    rw [hT.2.1] at c3
    have c4 := nI_inj c3 (by omega) (by omega)
    rw [cif_t (by omega)] at h
    exact h.2 _ rfl m _ fr_rf h0 hR
  · have c4 : ¬ tkK T p = 0 := fun q => c (by show m 143 14 = 1; rw [hT.2.1, q]; rfl)
    rw [cif_f c4] at h
    refine m_bad (d := d) hp hT h0 (by decide) (fun m1 f1 t1 => ?_)
    exact h.1 _ _ _ rfl m1 _ (fun o k ho => f1 o k (by omega)) t1
theorem m_st_r {d : Nat} {Q : pt_Q} {T : pt_tp} {g : Option pt_V} (hO : OkT T) : ∀ (n r p : Nat) (σ : pt_sg) (m : pt_M), r + n = 6 → p ≤ T.1 → sr σ = r → OkS σ → mTok m T p → m 143 17 = 0 → RM m 148 0 σ → mtP (d + 5) Q T m (pR T n r p σ) → Go (Sp (d + 5)) tX7_street Q 64 [some (zR 7 143), g] [] m := by
  intro n
  induction n with
  | zero =>
    intro r p σ m hn hp hr O hT h0 hR h
    have := O.2.2.2.1
    omega
  | succ n ih =>
    intro r p σ m hn hp hr O hT h0 hR h
    have h5 := O.2.2.2.1
    have eP : pR T (n + 1) r p σ = cif (isW T 1 p) (match rF T r p with | some x => (some x, σ) | none => pR T n (r + 1) (pnx T 8 p) (rU T r p σ)) (pE T p σ) := rfl
    rw [eP] at h
    refine Go_rn [64, 82] 100 ?_
    refine m_name (d := d + 4) hO hp hT (fun _ x hx => ?_) (fun q => absurd h0 q)
    refine ⟨fun c => ?_, fun c => ?_⟩
    · have c1 : isW T 1 p := (hx 1 (by omega)).mp (lcmp_eq.mp c)
      rw [cif_t c1] at h
      refine m_readReader (d := d) (r := r) hO hp (by omega) hT h0 hR (by rw [O.2.2.1, hr]) (fun c b e m1 f1 t1 => ?_) (fun e m1 f1 t1 z1 r1 => ?_)
      · rw [e] at h
        exact m_st_F64 (d := d + 4) hO t1 (h.1 _ _ _ rfl m1 _ (fun o k ho => f1 o k ho) t1)
      · rw [e] at h
        obtain ⟨g1, g2, g3⟩ := rU_ok O hr e
        exact ih (r + 1) (pnx T 8 p) (rU T r p σ) m1 (by omega) (pnx_n 8 hp) g3 g1 t1 z1 r1 (mtP_fr h (fun o k ho => f1 o k ho))
    · have c1 : ¬ isW T 1 p := fun q => c (lcmp_eq.mpr ((hx 1 (by omega)).mpr q))
      rw [cif_f c1] at h
      exact m_st_end (d := d + 4) hp hT h0 hR h
theorem m_st_w {d : Nat} {Q : pt_Q} {T : pt_tp} {g : Option pt_V} (hO : OkT T) : ∀ (n w p : Nat) (σ : pt_sg) (m : pt_M), w + n = 9 → p ≤ T.1 → sw σ = w → sr σ = 0 → OkS σ → mTok m T p → m 143 17 = 0 → RM m 148 0 σ → mtP (d + 5) Q T m (pW T n w p σ) → Go (Sp (d + 5)) tX7_street Q 46 [some (zR 7 143), g] [] m := by
  intro n
  induction n with
  | zero =>
    intro w p σ m hn hp hw hr O hT h0 hR h
    have := O.2.1
    omega
  | succ n ih =>
    intro w p σ m hn hp hw hr O hT h0 hR h
    have h8 := O.2.1
    have eP : pW T (n + 1) w p σ = cif (isW T 0 p) (match wF T w p with | some x => (some x, σ) | none => pW T n (w + 1) (pnx T 7 p) (wU T w p σ)) (pR T 6 0 p σ) := rfl
    rw [eP] at h
    refine Go_rn [46, 64] 100 ?_
    refine m_name (d := d + 4) hO hp hT (fun _ x hx => ?_) (fun q => absurd h0 q)
    refine ⟨fun c => ?_, fun c => ?_⟩
    · have c1 : isW T 0 p := (hx 0 (by omega)).mp (lcmp_eq.mp c)
      rw [cif_t c1] at h
      refine m_readWall (d := d) (w := w) hO hp (by omega) hT h0 hR (by rw [O.1, hw]) (fun c b e m1 f1 t1 => ?_) (fun e m1 f1 t1 z1 r1 => ?_)
      · rw [e] at h
        exact m_st_F46 (d := d + 4) hO t1 (h.1 _ _ _ rfl m1 _ (fun o k ho => f1 o k ho) t1)
      · rw [e] at h
        obtain ⟨g1, g2, g3⟩ := wU_ok O hw e
        exact ih (w + 1) (pnx T 7 p) (wU T w p σ) m1 (by omega) (pnx_n 7 hp) g2 (g3.trans hr) g1 t1 z1 r1 (mtP_fr h (fun o k ho => f1 o k ho))
    · have c1 : ¬ isW T 0 p := fun q => c (lcmp_eq.mpr ((hx 0 (by omega)).mpr q))
      rw [cif_f c1] at h
      exact m_st_r (d := d) hO 6 0 p σ m (by omega) hp hr O hT h0 hR h
theorem m_st_z {d : Nat} {Q : pt_Q} : ∀ (n k : Nat) (x : Int32) (m : pt_M), k + n = 78 → x = nI k → (∀ j, j < k → m 148 j = 0) → (∀ m1 g, fr (fun o _ => o = 148) m m1 → RM m1 148 0 sg0 → Go (Sp d) tX7_street Q 30 [some (zR 7 143), g] [] m1) → Go (Sp d) tX7_street Q 11 [some (zR 7 143), some (zI x)] [] m := by
  intro n
  induction n with
  | zero =>
    intro k x m hk hx hz h
    subst hx
    refine Go_rn [30] 100 ?_
    refine br_t (nI_le (a := 78) (b := k) (by omega) (by omega)) ?_
    exact h m _ fr_rf (fun j hj => by rw [Nat.zero_add]; exact hz j (by omega))
  | succ n ih =>
    intro k x m hk hx hz h
    subst hx
    refine Go_rn [11] 100 ?_
    refine br_f (nI_ge (a := k) (b := 78) (by omega) (by omega)) ?_
    refine ⟨k, rfl, by omega, ?_⟩
    refine ih (k + 1) _ _ (by omega) (nI_1 k) (fun j hj => ?_) (fun m1 g f1 r1 => h m1 g (fun o q ho => by rw [f1 o q ho, st_eq, if_neg (fun e => ho e.1)]) r1)
    rw [st_eq]
    by_cases e : j = k
    · rw [if_pos ⟨rfl, e⟩]
    · rw [if_neg (fun q => e q.2)]; exact hz j (by omega)
theorem m_st_c {d : Nat} {Q : pt_Q} {σ : pt_sg} : ∀ (n k : Nat) (x : Int32) (m : pt_M), k + n = 78 → x = nI k → RM m 148 0 σ → (∀ j, j < k → m 147 j = σ j) → (∀ m1, fr (fun o _ => o = 147) m m1 → RM m1 147 0 σ → Q (some (zI (σ 0))) m1) → Go (Sp d) tX7_street Q 132 [some (zR 7 143), some (zI x)] [] m := by
  intro n
  induction n with
  | zero =>
    intro k x m hk hx hR hz h
    subst hx
    refine Go_rn [] 100 ?_
    refine br_t (nI_le (a := 78) (b := k) (by omega) (by omega)) ?_
    refine ⟨0, rfl, by decide, ?_⟩
    exact qe (hz 0 (by omega)) (h m fr_rf (fun j hj => by rw [Nat.zero_add]; exact hz j (by omega)))
  | succ n ih =>
    intro k x m hk hx hR hz h
    subst hx
    refine Go_rn [132] 100 ?_
    refine br_f (nI_ge (a := k) (b := 78) (by omega) (by omega)) ?_
    refine ⟨k, rfl, by omega, ?_⟩
    refine ⟨k, rfl, by omega, ?_⟩
    refine ih (k + 1) _ _ (by omega) (nI_1 k) (RM_fr hR (fun j _ _ => by rw [st_eq, if_neg (by omega)])) (fun j hj => ?_) (fun m1 f1 r1 => h m1 (fun o q ho => by rw [f1 o q ho, st_eq, if_neg (fun e => ho e.1)]) r1)
    rw [st_eq]
    by_cases e : j = k
    · rw [if_pos ⟨rfl, e⟩, e]
      have := hR k (by omega)
      rwa [Nat.zero_add] at this
    · rw [if_neg (fun q => e q.2)]; exact hz j (by omega)
theorem m_begin {d : Nat} {Q : pt_Q} {m : pt_M} {T : pt_tp} (hO : OkT T) (hT : mTp m T) (h : ∀ m1, fr (fun o k => o = 143 ∧ (k = 10 ∨ (12 ≤ k ∧ k ≤ 17))) m m1 → mTok m1 T 0 → m1 143 17 = 0 → m1 143 10 = 0 → Q none m1) : Sp (d + 3) nX7_begin [zR 7 143] m Q := by
  refine sX7_begin ?_
  refine Go_rn [] 100 ?_
  refine m_next (d := d) (T := T) (p := 0) hO (Nat.zero_le _) ⟨?_, fun i hi => ?_⟩ ?_ (fun m1 f1 t1 => ?_)
  · rw [st_eq, if_neg (by omega), st_eq, if_neg (by omega), st_eq, if_neg (by omega), st_eq, if_pos ⟨rfl, rfl⟩]; exact hT.1
  · rw [st_eq, if_neg (by omega), st_eq, if_neg (by omega), st_eq, if_neg (by omega), st_eq, if_neg (by omega)]; exact hT.2 i hi
  · rw [st_eq, if_neg (by omega), st_eq, if_pos ⟨rfl, rfl⟩]; rfl
  · refine h m1 (fun o k ho => ?_) t1 ?_ ?_
    · rw [f1 _ _ (by unfold Tmt; omega), st_eq, if_neg (by omega), st_eq, if_neg (by omega), st_eq, if_neg (by omega), st_eq, if_neg (by omega)]
    · rw [f1 _ _ (by unfold Tmt; omega), st_eq, if_pos ⟨rfl, rfl⟩]
    · rw [f1 _ _ (by unfold Tmt; omega), st_eq, if_neg (by omega), st_eq, if_neg (by omega), st_eq, if_pos ⟨rfl, rfl⟩]
theorem M_street {d : Nat} {Q : pt_Q} {m : pt_M} {a : pt_al} (O : OK a) (hM : IM m a) (h : ∀ m1, kC m m1 → IM m1 (streetX a).1 → Q (some (zI (streetX a).2)) m1) : Sp (d + 6) nX7_street [zR 7 143] m Q := by
  obtain ⟨t1, t2⟩ := IM_th hM
  have hT := t1.2.2.2.2.1
  have oT := O.2.2.2.2.1
  unfold streetX at h
  refine sX7_street ?_
  refine Go_rn [11] 100 ?_
  refine m_begin (d := d + 2) oT hT (fun m1 f1 k1 z1 z10 => ?_)
  refine m_st_z (d := d + 5) 78 0 _ m1 (by omega) rfl (fun j hj => absurd hj (Nat.not_lt_zero j)) (fun m2 g f2 r2 => ?_)
  have k2 : mTok m2 (aT a) 0 := mTok_fr k1 (fun k _ _ => f2 _ _ (by omega)) (fun k => f2 _ _ (by omega))
  have z2 : m2 143 17 = 0 := (f2 _ _ (by omega)).trans z1
  have f02 : ∀ o k, ¬ (o = 143 ∧ (k = 10 ∨ (12 ≤ k ∧ k ≤ 17))) → ¬ o = 148 → m2 o k = st m 143 0 0 o k := fun o k h1 h2 => (f2 o k h2).trans (f1 o k h1)
  have z210 : m2 143 10 = 0 := (f2 _ _ (by omega)).trans z10
  have key : mtP (d + 5) Q (aT a) m2 (pS (aT a)) := by
    refine ⟨fun c b σ e m3 g f3 hF => ?_, fun σ e m3 g f3 z3 r3 => ?_⟩
    · rw [e] at h
      refine Go_rn [] 100 ?_
      refine br_f (fun q => ?_) ?_
      · have q2 : m3 143 17 ≤ 0 := q
        rw [hF.1.1] at q2
        exact absurd hF.1.2 (Int32.not_lt.mpr q2)
      have z18 : st m3 143 11 (m3 143 17) 143 18 = nI b := by rw [st_eq, if_neg (by omega)]; exact hF.2.1
      have fo : ∀ o k, ¬ Tms o k → ¬ (o = 143 ∧ (k = 10 ∨ k = 11 ∨ k = 12)) → st m3 143 11 (m3 143 17) o k = st m 143 0 0 o k := fun o k h1 h2 => by
        rw [st_eq, if_neg (by omega), f3 o k h1, f02 o k (by omega) (by omega)]
      refine qe (x := -1000100 - st m3 143 11 (m3 143 17) 143 18) (by rw [z18]) (h _ (kC_tr t2 (fun o k ho => fo o k (by omega) (by omega))) (IM_uTL t1 ⟨?_, fun i hi => absurd hi (Nat.not_lt_zero i)⟩ ?_ (fun o k hp hq => ?_)))
      · rw [st_eq, if_neg (by omega), f3 _ _ (by omega)]; exact z210
      · rw [st_eq, if_pos ⟨rfl, rfl⟩]; exact hF.1.1
      · unfold pM at hp
        exact fo o k (by omega) (by omega)
    · rw [e] at h
      refine Go_rn [132] 100 ?_
      refine br_t (by show m3 143 17 ≤ 0; rw [z3]; decide) ?_
      have fo : ∀ o k, ¬ Tms o k → ¬ (o = 143 ∧ (k = 8 ∨ k = 10 ∨ k = 12)) → st m3 143 8 0 o k = st m 143 0 0 o k := fun o k h1 h2 => by
        rw [st_eq, if_neg (by omega), f3 o k h1, f02 o k (by omega) (by omega)]
      refine m_st_c (d := d + 5) (σ := σ) 78 0 _ _ (by omega) rfl (RM_fr r3 (fun k _ _ => by rw [st_eq, if_neg (by omega)])) (fun j hj => absurd hj (Nat.not_lt_zero j)) (fun m4 f4 r4 => ?_)
      refine h _ (kC_tr t2 (fun o k ho => by rw [f4 o k (by omega)]; exact fo o k (by omega) (by omega))) (IM_uSATL t1 r4 ⟨?_, fun i hi => absurd hi (Nat.not_lt_zero i)⟩ ⟨?_, fun i hi => absurd hi (Nat.not_lt_zero i)⟩ ?_ (fun o k hp hq => ?_))
      · rw [f4 _ _ (by omega), st_eq, if_pos ⟨rfl, rfl⟩]; rfl
      · rw [f4 _ _ (by omega), st_eq, if_neg (by omega), f3 _ _ (by omega)]; exact z210
      · rw [f4 _ _ (by omega), fo _ _ (by omega) (by omega)]; exact t1.2.2.2.2.2.2.2
      · unfold pM at hp
        rw [f4 o k (by omega)]
        exact fo o k (by omega) (by omega)
  unfold pS at key
  refine Go_rn [46] 100 ?_
  refine m_name (d := d + 4) oT (Nat.zero_le _) k2 (fun _ x hx => ?_) (fun q => absurd z2 q)
  refine ⟨fun c => ?_, fun c => ?_⟩
  · have c1 : isW (aT a) 0 0 := (hx 0 (by omega)).mp (lcmp_eq.mp c)
    rw [cif_t c1] at key
    exact m_st_w (d := d) oT 9 0 0 sg0 m2 (by omega) (Nat.zero_le _) sg0_ok.2.1 sg0_ok.2.2 sg0_ok.1 k2 z2 r2 key
  · have c1 : ¬ isW (aT a) 0 0 := fun q => c (lcmp_eq.mpr ((hx 0 (by omega)).mpr q))
    rw [cif_f c1] at key
    refine m_bad (d := d + 4) (Nat.zero_le _) k2 z2 (by decide) (fun m3 f3 t3 => ?_)
    exact m_st_F46 (d := d + 4) oT t3 (key.1 _ _ _ rfl m3 _ (fun o k ho => f3 o k (by omega)) t3)
