/-! 51.mparse: the model's reading of the tape (partly written by gen_mparse.py) -/
def FS (m : pt_M) (T : pt_tp) (c : Int32) (b : Nat) : Prop := (m 143 17 = c ∧ 0 < c) ∧ m 143 18 = nI b ∧ ∃ p, p ≤ T.1 ∧ mTok m T p
theorem mTok_fr {m m1 : pt_M} {T : pt_tp} {p : Nat} (h : mTok m T p) (h0 : ∀ k, 12 ≤ k → k ≤ 16 → m1 143 k = m 143 k) (h1 : ∀ k, m1 150 k = m 150 k) : mTok m1 T p :=
  ⟨mTT_fr h.1 (h0 _ (by omega) (by omega)) h1, (h0 _ (by omega) (by omega)).trans h.2.1, (h0 _ (by omega) (by omega)).trans h.2.2.1, (h0 _ (by omega) (by omega)).trans h.2.2.2.1, (h0 _ (by omega) (by omega)).trans h.2.2.2.2⟩
theorem FS_fr {m m1 : pt_M} {T : pt_tp} {c : Int32} {b : Nat} (h : FS m T c b) (h0 : ∀ k, 12 ≤ k → k ≤ 18 → m1 143 k = m 143 k) (h1 : ∀ k, m1 150 k = m 150 k) : FS m1 T c b := by
  obtain ⟨⟨a1, a2⟩, a3, p, a4, a5⟩ := h
  exact ⟨⟨(h0 _ (by omega) (by omega)).trans a1, a2⟩, (h0 _ (by omega) (by omega)).trans a3, p, a4, mTok_fr a5 (fun k h1 h2 => h0 k h1 (by omega)) h1⟩
theorem FS_ne {m : pt_M} {T : pt_tp} {c : Int32} {b : Nat} (h : FS m T c b) : ¬ m 143 17 = 0 := fun q => by
  have h1 := h.1.1
  have h2 := h.1.2
  rw [q] at h1
  rw [← h1] at h2
  exact absurd h2 (by decide)
theorem m_bad {d : Nat} {Q : pt_Q} {m : pt_M} {T : pt_tp} {p : Nat} {c : Int32} (hp : p ≤ T.1) (hT : mTok m T p) (h0 : m 143 17 = 0) (hc : 0 < c) (h : ∀ m1, fr (fun o k => o = 143 ∧ 17 ≤ k ∧ k ≤ 18) m m1 → FS m1 T c (tkB T p) → Q none m1) : Sp (d + 1) nX7_bad [zR 7 143, zI c] m Q := by
  refine sX7_bad ?_
  refine Go_rn [] 100 ?_
  refine br_t h0 ?_
  have f : fr (fun o k => o = 143 ∧ 17 ≤ k ∧ k ≤ 18) m (st (st m 143 17 c) 143 18 (st m 143 17 c 143 15)) := fun o k ho => by
    rw [st_eq, if_neg (by omega), st_eq, if_neg (by omega)]
  refine h _ f ⟨⟨?_, hc⟩, ?_, p, hp, mTok_fr hT (fun k h1 h2 => f _ _ (by omega)) (fun k => f _ _ (by omega))⟩
  · rw [st_eq, if_neg (by omega), st_eq, if_pos ⟨rfl, rfl⟩]
  · rw [st_eq, if_pos ⟨rfl, rfl⟩, st_eq, if_neg (by omega)]; exact hT.2.2.1
theorem m_badF {d : Nat} {Q : pt_Q} {m : pt_M} {c : Int32} (h0 : ¬ m 143 17 = 0) (h : Q none m) : Sp (d + 1) nX7_bad [zR 7 143, zI c] m Q := by
  refine sX7_bad ?_
  refine Go_rn [] 100 ?_
  refine br_f h0 ?_
  exact h
theorem m_must1 {d : Nat} {Q : pt_Q} {m : pt_M} {T : pt_tp} {p : Nat} (hO : OkT T) (hp : p ≤ T.1) (hT : mTok m T p) (h0 : m 143 17 = 0) (h : ∀ m1, fr Tmt m m1 → mTok m1 T (tkE T p) → m1 143 17 = 0 → Q none m1) : Sp (d + 3) nX7_must [zR 7 143, zI 1] m Q := by
  refine sX7_must ?_
  refine Go_rn [] 100 ?_
  refine br_f (by decide) ?_
  refine br_t h0 ?_
  refine m_next (d := d) hO (tkE_n hp).1 hT.1 hT.2.2.2.2 (fun m1 f1 t1 => ?_)
  exact h m1 f1 t1 ((f1 _ _ (by unfold Tmt; omega)).trans h0)
theorem m_must0 {d : Nat} {Q : pt_Q} {m : pt_M} {T : pt_tp} {p : Nat} (hp : p ≤ T.1) (hT : mTok m T p) (h0 : m 143 17 = 0) (h : ∀ m1, fr (fun o k => o = 143 ∧ 17 ≤ k ∧ k ≤ 18) m m1 → FS m1 T 1 (tkB T p) → Q none m1) : Sp (d + 3) nX7_must [zR 7 143, zI 0] m Q := by
  refine sX7_must ?_
  refine Go_rn [] 100 ?_
  refine br_t rfl ?_
  refine m_bad (d := d + 1) hp hT h0 (by decide) (fun m1 f1 t1 => ?_)
  refine br_f (FS_ne t1) ?_
  exact h m1 f1 t1
theorem m_mustF {d : Nat} {Q : pt_Q} {m : pt_M} {x : Int32} (h0 : ¬ m 143 17 = 0) (h : Q none m) : Sp (d + 3) nX7_must [zR 7 143, zI x] m Q := by
  refine sX7_must ?_
  refine Go_rn [9] 100 ?_
  have key : Go (Sp (d + 2)) tX7_must Q 9 [some (zR 7 143), some (zI x)] [] m := by
    refine Go_rn [] 100 ?_
    refine br_f h0 ?_
    exact h
  refine ⟨fun c => ?_, fun c => ?_⟩
  · refine m_badF (d := d + 1) h0 ?_
    exact key
  · exact key
theorem m_fig_l {d : Nat} {Q : pt_Q} {m : pt_M} {T : pt_tp} {p : Nat} (hO : OkT T) (hp : p ≤ T.1) (hT : mTok m T p) (hk : tkK T p = 2) (h : Q (some (zI (tkV T p))) m) : ∀ (r q : Nat) (v x : Int32), q + r = tkE T p → x = nI q → tkB T p ≤ q → vl T r q v = tkV T p → Go (Sp d) tX7_figures Q 7 [some (zR 7 143), some (zI v), some (zI x)] [] m := by
  have hE := tkE_n hp
  have h4 := hO.1
  intro r
  induction r with
  | zero =>
    intro q v x hq hx hb hv
    subst hx
    refine Go_rn [] 100 ?_
    refine br_t (by show m 143 16 ≤ nI q; rw [hT.2.2.2.1]; exact nI_le (by omega) (by omega)) ?_
    exact qe hv h
  | succ r ih =>
    intro q v x hq hx hb hv
    subst hx
    refine Go_rn [7] 100 ?_
    refine br_f (by show ¬ m 143 16 ≤ nI q; rw [hT.2.2.2.1]; exact nI_ge (by omega) (by omega)) ?_
    refine br_t (by show m 143 14 = 3; rw [hT.2.1, hk]; rfl) ?_
    refine ⟨q, rfl, by omega, ?_⟩
    refine ih (q + 1) _ _ (by omega) (nI_1 q) (by omega) ?_
    show vl T r (q + 1) (10 * v + m 150 q - 48) = _
    rw [hT.1.2 q (by omega), Int32.mul_comm]
    exact hv
theorem m_figures {d : Nat} {Q : pt_Q} {m : pt_M} {T : pt_tp} {p : Nat} (hO : OkT T) (hp : p ≤ T.1) (hT : mTok m T p) (h1 : tkK T p = 2 → Q (some (zI (tkV T p))) m) (h2 : tkK T p ≠ 2 → Q (some (zI 0)) m) : Sp (d + 1) nX7_figures [zR 7 143] m Q := by
  have hE := tkE_n hp
  have h4 := hO.1
  have hK := tkK_lt T p
  refine sX7_figures ?_
  refine Go_rn [7] 100 ?_
  by_cases hk : tkK T p = 2
  · exact m_fig_l hO hp hT hk (h1 hk) (tkE T p - tkB T p) (tkB T p) 0 _ (by omega) hT.2.2.1 (Nat.le_refl _) rfl
  · refine Go_rn [] 100 ?_
    refine ⟨fun c => h2 hk, fun c => ⟨fun c2 => ?_, fun c2 => h2 hk⟩⟩
    exfalso
    have c3 : m 143 14 = nI 3 := c2
    rw [hT.2.1] at c3
    have := nI_inj c3 (by omega) (by omega)
    omega
abbrev Tfa : Nat → Nat → Prop := fun o k => (o = 143 ∧ 13 ≤ k ∧ k ≤ 18)
theorem m_number {d : Nat} {Q : pt_Q} {m : pt_M} {T : pt_tp} {p : Nat} {hi : Int32} (hO : OkT T) (hp : p ≤ T.1) (hT : mTok m T p) (h0 : m 143 17 = 0)
    (hb : ∀ c b, nF T hi p = some (c, b) → ∀ m1 x, fr Tfa m m1 → FS m1 T c b → Q (some (zI x)) m1)
    (hg : nF T hi p = none → ∀ m1, fr Tfa m m1 → mTok m1 T (tkE T p) → m1 143 17 = 0 → Q (some (zI (tkV T p))) m1) : Sp (d + 4) nX7_number [zR 7 143, zI 0, zI hi] m Q := by
  have hK := tkK_lt T p
  unfold nF at hb hg
  refine sX7_number ?_
  refine Go_rn [39, 53] 100 ?_
  refine br_t (by show m 143 17 ≤ 0; rw [h0]; decide) ?_
  refine m_figures (d := d + 2) hO hp hT (fun ck => ?_) (fun ck => ?_)
  · rw [cif_t ck] at hb hg
    have e14 : ∀ m1 p1, mTok m1 T p1 → tkK T p1 = 2 → m1 143 14 = 3 := fun m1 p1 t1 k1 => by rw [t1.2.1, k1]; rfl
    refine br_t (e14 m p hT ck) ?_
    have hv := tkK2 ck
    refine m_inI (lo := 0) (hi := hi) rfl rfl (fun c => ?_) (fun c => ?_)
    · refine br_f (by decide) ?_
      rw [cif_t c.2] at hg
      refine Go_rn [] 100 ?_
      refine br_t (e14 m p hT ck) ?_
      refine m_must1 (d := d) hO hp hT h0 (fun m1 f1 t1 z1 => ?_)
      exact hg rfl m1 (fun o k ho => f1 o k (fun q => ho (by unfold Tmt at q; omega))) t1 z1
    · refine br_t rfl ?_
      rw [cif_f (fun q => c ⟨hv, q⟩)] at hb
      refine m_bad (d := d + 2) hp hT h0 (by decide) (fun m1 f1 t1 => ?_)
      refine Go_rn [53] 100 ?_
      have t2 : mTok m1 T p := mTok_fr hT (fun k h1 h2 => f1 _ _ (by omega)) (fun k => f1 _ _ (by omega))
      refine br_t (e14 m1 p t2 ck) ?_
      refine Go_rn [] 100 ?_
      refine m_mustF (d := d) (FS_ne t1) ?_
      exact hb _ _ rfl m1 _ (fun o k ho => f1 o k (fun q => ho (by omega))) t1
  · rw [cif_f ck] at hb
    have e14 : ¬ m 143 14 = 3 := fun q => by
      have c3 : m 143 14 = nI 3 := q
      rw [hT.2.1] at c3
      have := nI_inj c3 (by omega) (by omega)
      omega
    refine br_f e14 ?_
    refine Go_rn [] 100 ?_
    refine br_f e14 ?_
    refine m_must0 (d := d) hp hT h0 (fun m1 f1 t1 => ?_)
    exact hb _ _ rfl m1 _ (fun o k ho => f1 o k (fun q => ho (by omega))) t1
theorem m_numberF {d : Nat} {Q : pt_Q} {m : pt_M} {T : pt_tp} {c x y : Int32} {b : Nat} (hF : FS m T c b) (h : Q (some (zI 0)) m) : Sp (d + 4) nX7_number [zR 7 143, zI x, zI y] m Q := by
  refine sX7_number ?_
  refine Go_rn [] 100 ?_
  refine br_f (fun q => ?_) ?_
  · have q2 : m 143 17 ≤ 0 := q
    rw [hF.1.1] at q2
    exact absurd hF.1.2 (Int32.not_lt.mpr q2)
  · exact h
theorem m_mustEnd {d : Nat} {Q : pt_Q} {m : pt_M} {T : pt_tp} {p : Nat} (hO : OkT T) (hp : p ≤ T.1) (hT : mTok m T p) (h0 : m 143 17 = 0)
    (hb : ∀ c b, sF T p = some (c, b) → ∀ m1, fr Tfa m m1 → FS m1 T c b → Q none m1)
    (hg : sF T p = none → ∀ m1, fr Tfa m m1 → mTok m1 T (tkE T p) → m1 143 17 = 0 → Q none m1) : Sp (d + 4) nX7_mustEnd [zR 7 143] m Q := by
  have hK := tkK_lt T p
  unfold sF at hb hg
  refine sX7_mustEnd ?_
  refine Go_rn [21] 100 ?_
  refine br_t h0 ?_
  refine ⟨fun c => ?_, fun c => ?_⟩
  · have c3 : m 143 14 = nI 4 := c
    rw [hT.2.1] at c3
    have c4 := nI_inj c3 (by omega) (by omega)
    rw [cif_t (by omega)] at hg
    refine Go_rn [] 100 ?_
    refine m_must1 (d := d) hO hp hT h0 (fun m1 f1 t1 z1 => ?_)
    exact hg rfl m1 (fun o k ho => f1 o k (fun q => ho (by unfold Tmt at q; omega))) t1 z1
  · have c4 : ¬ tkK T p = 3 := fun q => c (by show m 143 14 = 4; rw [hT.2.1, q]; rfl)
    rw [cif_f c4] at hb
    refine Go_rn [] 100 ?_
    refine m_must0 (d := d) hp hT h0 (fun m1 f1 t1 => ?_)
    exact hb _ _ rfl m1 (fun o k ho => f1 o k (fun q => ho (by omega))) t1
theorem m_mustEndF {d : Nat} {Q : pt_Q} {m : pt_M} (h0 : ¬ m 143 17 = 0) (h : Q none m) : Sp (d + 4) nX7_mustEnd [zR 7 143] m Q := by
  refine sX7_mustEnd ?_
  refine Go_rn [] 100 ?_
  refine br_f h0 ?_
  exact h
/-- begins: there is room (good), or there is none -/
theorem m_begins {d : Nat} {Q : pt_Q} {m : pt_M} {T : pt_tp} {p i w lim : Nat} (hO : OkT T) (hp : p ≤ T.1) (hi : i < 78) (hw : w ≤ lim) (hl : lim < 100) (hT : mTok m T p) (h0 : m 143 17 = 0) (hf : m 148 i = nI w)
    (hb : ¬ w < lim → ∀ m1, fr Tfa m m1 → FS m1 T 3 (tkB T p) → Q none m1)
    (hg : w < lim → ∀ m1, fr Tfa m m1 → mTok m1 T (tkE T p) → m1 143 17 = 0 → Q none m1) : Sp (d + 4) nX7_begins [zR 7 143, zI (nI i), zI (nI lim)] m Q := by
  refine sX7_begins ?_
  refine Go_rn [15] 100 ?_
  refine ⟨i, rfl, hi, ?_⟩
  refine ⟨fun c => ?_, fun c => ?_⟩
  · have c1 : nI w = nI lim := hf.symm.trans c
    have c2 := nI_inj c1 (by omega) (by omega)
    refine m_bad (d := d + 2) hp hT h0 (by decide) (fun m1 f1 t1 => ?_)
    refine Go_rn [] 100 ?_
    refine m_mustF (d := d) (FS_ne t1) ?_
    exact hb (by omega) m1 (fun o k ho => f1 o k (fun q => ho (by omega))) t1
  · have c2 : w < lim := by
      rcases Nat.lt_or_ge w lim with q | q
      · exact q
      · exfalso
        exact c (by show m 148 i = nI lim; rw [hf, show w = lim by omega])
    refine Go_rn [] 100 ?_
    refine m_must1 (d := d) hO hp hT h0 (fun m1 f1 t1 z1 => ?_)
    exact hg c2 m1 (fun o k ho => f1 o k (fun q => ho (by unfold Tmt at q; omega))) t1 z1
theorem m_rw_lf {d : Nat} {Q : pt_Q} {T : pt_tp} {s : Nat} {c : Int32} {b : Nat} (hs : s + 7 ≤ 78) : ∀ (r j : Nat) (x : Int32) (m : pt_M), j + r = 5 → x = nI j → FS m T c b →
    (∀ m1, fr (fun o k => o = 148 ∧ s ≤ k ∧ k < s + 5) m m1 → FS m1 T c b → Go (Sp (d + 4)) tX7_readWall Q 57 [some (zR 7 143), some (zI (nI s)), some (zI (nI 5))] [] m1) →
    Go (Sp (d + 4)) tX7_readWall Q 31 [some (zR 7 143), some (zI (nI s)), some (zI x)] [] m := by
  intro r
  induction r with
  | zero =>
    intro j x m hj hx hF h
    subst hx
    have e : j = 5 := by omega
    subst e
    refine Go_rn [57] 100 ?_
    refine br_t (nI_le (a := 5) (b := 5) (by omega) (by omega)) ?_
    exact h m fr_rf hF
  | succ r ih =>
    intro j x m hj hx hF h
    subst hx
    refine Go_rn [31] 100 ?_
    refine br_f (nI_ge (a := j) (b := 5) (by omega) (by omega)) ?_
    refine m_numberF (d := d) hF ?_
    refine ⟨s + j, nI_add s j, by omega, ?_⟩
    refine ih (j + 1) _ _ (by omega) (nI_1 j) (FS_fr hF (fun k _ _ => by rw [st_eq, if_neg (by omega)]) (fun k => by rw [st_eq, if_neg (by omega)])) (fun m1 f1 t1 => h m1 (fun o k ho => ?_) t1)
    rw [f1 o k ho, st_eq, if_neg (by omega)]
theorem m_rw_l {d : Nat} {Q : pt_Q} {T : pt_tp} {s : Nat} (hO : OkT T) (hs : s + 7 ≤ 78) : ∀ (r j p : Nat) (x : Int32) (m : pt_M), j + r = 5 → x = nI j → p ≤ T.1 → mTok m T p → m 143 17 = 0 →
    (∀ c b, nFs T 30 r p = some (c, b) → ∀ m1, fr (fun o k => Tfa o k ∨ (o = 148 ∧ s ≤ k ∧ k < s + 5)) m m1 → FS m1 T c b → Go (Sp (d + 4)) tX7_readWall Q 57 [some (zR 7 143), some (zI (nI s)), some (zI (nI 5))] [] m1) →
    (nFs T 30 r p = none → ∀ m1, fr (fun o k => Tfa o k ∨ (o = 148 ∧ s + j ≤ k ∧ k < s + 5)) m m1 → mTok m1 T (pnx T r p) → m1 143 17 = 0 → (∀ i, i < r → m1 148 (s + j + i) = tkV T (pnx T i p)) → Go (Sp (d + 4)) tX7_readWall Q 57 [some (zR 7 143), some (zI (nI s)), some (zI (nI 5))] [] m1) →
    Go (Sp (d + 4)) tX7_readWall Q 31 [some (zR 7 143), some (zI (nI s)), some (zI x)] [] m := by
  intro r
  induction r with
  | zero =>
    intro j p x m hj hx hp hT h0 hb hg
    subst hx
    have e : j = 5 := by omega
    subst e
    refine Go_rn [57] 100 ?_
    refine br_t (nI_le (a := 5) (b := 5) (by omega) (by omega)) ?_
    exact hg rfl m fr_rf hT h0 (fun i hi => absurd hi (Nat.not_lt_zero i))
  | succ r ih =>
    intro j p x m hj hx hp hT h0 hb hg
    subst hx
    have eN : nFs T 30 (r + 1) p = (match nF T 30 p with | some x => some x | none => nFs T 30 r (tkE T p)) := rfl
    rw [eN] at hb hg
    refine Go_rn [31] 100 ?_
    refine br_f (nI_ge (a := j) (b := 5) (by omega) (by omega)) ?_
    refine m_number (d := d) hO hp hT h0 (fun c b e m1 x f1 t1 => ?_) (fun e m1 f1 t1 z1 => ?_)
    · rw [e] at hb
      refine ⟨s + j, nI_add s j, by omega, ?_⟩
      refine m_rw_lf (d := d) hs r (j + 1) _ _ (by omega) (nI_1 j) (FS_fr t1 (fun k _ _ => by rw [st_eq, if_neg (by omega)]) (fun k => by rw [st_eq, if_neg (by omega)])) (fun m2 f2 t2 => hb _ _ rfl m2 (fun o k ho => ?_) t2)
      rw [f2 o k (fun q => ho (Or.inr q)), st_eq, if_neg (by omega), f1 o k (fun q => ho (Or.inl q))]
    · rw [e] at hb hg
      refine ⟨s + j, nI_add s j, by omega, ?_⟩
      have t2 : mTok (st m1 148 (s + j) (tkV T p)) T (tkE T p) := mTok_fr t1 (fun k _ _ => by rw [st_eq, if_neg (by omega)]) (fun k => by rw [st_eq, if_neg (by omega)])
      refine ih (j + 1) (tkE T p) _ _ (by omega) (nI_1 j) (tkE_n hp).1 t2 (by rw [st_eq, if_neg (by omega)]; exact z1) (fun c b e2 m2 f2 t3 => hb c b e2 m2 (fun o k ho => ?_) t3) (fun e2 m2 f2 t3 z3 v3 => hg e2 m2 (fun o k ho => ?_) t3 z3 (fun i hi => ?_))
      · rw [f2 o k ho, st_eq, if_neg (by omega), f1 o k (fun q => ho (Or.inl q))]
      · rw [f2 o k (by omega), st_eq, if_neg (by omega), f1 o k (fun q => ho (Or.inl q))]
      · cases i with
        | zero =>
          rw [Nat.add_zero, f2 _ _ (by omega), st_eq, if_pos ⟨rfl, rfl⟩]
          rfl
        | succ i =>
          have := v3 i (by omega)
          rw [show s + (j + 1) + i = s + j + (i + 1) by omega] at this
          exact this
theorem m_rr_lf {d : Nat} {Q : pt_Q} {T : pt_tp} {s : Nat} {c : Int32} {b : Nat} {kd : Int32} (hs : s + 7 ≤ 78) : ∀ (r j : Nat) (x : Int32) (m : pt_M), j + r = 5 → x = nI j → FS m T c b →
    (∀ m1, fr (fun o k => o = 148 ∧ s + 1 ≤ k ∧ k < s + 1 + 5) m m1 → FS m1 T c b → Go (Sp (d + 4)) tX7_readReader Q 98 [some (zR 7 143), some (zI (nI s)), some (zI kd), some (zI (nI 5))] [] m1) →
    Go (Sp (d + 4)) tX7_readReader Q 70 [some (zR 7 143), some (zI (nI s)), some (zI kd), some (zI x)] [] m := by
  intro r
  induction r with
  | zero =>
    intro j x m hj hx hF h
    subst hx
    have e : j = 5 := by omega
    subst e
    refine Go_rn [98] 100 ?_
    refine br_t (nI_le (a := 5) (b := 5) (by omega) (by omega)) ?_
    exact h m fr_rf hF
  | succ r ih =>
    intro j x m hj hx hF h
    subst hx
    refine Go_rn [70] 100 ?_
    refine br_f (nI_ge (a := j) (b := 5) (by omega) (by omega)) ?_
    refine m_numberF (d := d) hF ?_
    refine ⟨s + 1 + j, (congrArg (fun z => z + nI j) (nI_1 s)).trans (nI_add (s + 1) j), by omega, ?_⟩
    refine ih (j + 1) _ _ (by omega) (nI_1 j) (FS_fr hF (fun k _ _ => by rw [st_eq, if_neg (by omega)]) (fun k => by rw [st_eq, if_neg (by omega)])) (fun m1 f1 t1 => h m1 (fun o k ho => ?_) t1)
    rw [f1 o k ho, st_eq, if_neg (by omega)]
theorem m_rr_l {d : Nat} {Q : pt_Q} {T : pt_tp} {s : Nat} {kd : Int32} (hO : OkT T) (hs : s + 7 ≤ 78) : ∀ (r j p : Nat) (x : Int32) (m : pt_M), j + r = 5 → x = nI j → p ≤ T.1 → mTok m T p → m 143 17 = 0 →
    (∀ c b, nFs T 9 r p = some (c, b) → ∀ m1, fr (fun o k => Tfa o k ∨ (o = 148 ∧ s + 1 ≤ k ∧ k < s + 1 + 5)) m m1 → FS m1 T c b → Go (Sp (d + 4)) tX7_readReader Q 98 [some (zR 7 143), some (zI (nI s)), some (zI kd), some (zI (nI 5))] [] m1) →
    (nFs T 9 r p = none → ∀ m1, fr (fun o k => Tfa o k ∨ (o = 148 ∧ s + 1 + j ≤ k ∧ k < s + 1 + 5)) m m1 → mTok m1 T (pnx T r p) → m1 143 17 = 0 → (∀ i, i < r → m1 148 (s + 1 + j + i) = tkV T (pnx T i p)) → Go (Sp (d + 4)) tX7_readReader Q 98 [some (zR 7 143), some (zI (nI s)), some (zI kd), some (zI (nI 5))] [] m1) →
    Go (Sp (d + 4)) tX7_readReader Q 70 [some (zR 7 143), some (zI (nI s)), some (zI kd), some (zI x)] [] m := by
  intro r
  induction r with
  | zero =>
    intro j p x m hj hx hp hT h0 hb hg
    subst hx
    have e : j = 5 := by omega
    subst e
    refine Go_rn [98] 100 ?_
    refine br_t (nI_le (a := 5) (b := 5) (by omega) (by omega)) ?_
    exact hg rfl m fr_rf hT h0 (fun i hi => absurd hi (Nat.not_lt_zero i))
  | succ r ih =>
    intro j p x m hj hx hp hT h0 hb hg
    subst hx
    have eN : nFs T 9 (r + 1) p = (match nF T 9 p with | some x => some x | none => nFs T 9 r (tkE T p)) := rfl
    rw [eN] at hb hg
    refine Go_rn [70] 100 ?_
    refine br_f (nI_ge (a := j) (b := 5) (by omega) (by omega)) ?_
    refine m_number (d := d) hO hp hT h0 (fun c b e m1 x f1 t1 => ?_) (fun e m1 f1 t1 z1 => ?_)
    · rw [e] at hb
      refine ⟨s + 1 + j, (congrArg (fun z => z + nI j) (nI_1 s)).trans (nI_add (s + 1) j), by omega, ?_⟩
      refine m_rr_lf (d := d) hs r (j + 1) _ _ (by omega) (nI_1 j) (FS_fr t1 (fun k _ _ => by rw [st_eq, if_neg (by omega)]) (fun k => by rw [st_eq, if_neg (by omega)])) (fun m2 f2 t2 => hb _ _ rfl m2 (fun o k ho => ?_) t2)
      rw [f2 o k (fun q => ho (Or.inr q)), st_eq, if_neg (by omega), f1 o k (fun q => ho (Or.inl q))]
    · rw [e] at hb hg
      refine ⟨s + 1 + j, (congrArg (fun z => z + nI j) (nI_1 s)).trans (nI_add (s + 1) j), by omega, ?_⟩
      have t2 : mTok (st m1 148 (s + 1 + j) (tkV T p)) T (tkE T p) := mTok_fr t1 (fun k _ _ => by rw [st_eq, if_neg (by omega)]) (fun k => by rw [st_eq, if_neg (by omega)])
      refine ih (j + 1) (tkE T p) _ _ (by omega) (nI_1 j) (tkE_n hp).1 t2 (by rw [st_eq, if_neg (by omega)]; exact z1) (fun c b e2 m2 f2 t3 => hb c b e2 m2 (fun o k ho => ?_) t3) (fun e2 m2 f2 t3 z3 v3 => hg e2 m2 (fun o k ho => ?_) t3 z3 (fun i hi => ?_))
      · rw [f2 o k ho, st_eq, if_neg (by omega), f1 o k (fun q => ho (Or.inl q))]
      · rw [f2 o k (by omega), st_eq, if_neg (by omega), f1 o k (fun q => ho (Or.inl q))]
      · cases i with
        | zero =>
          rw [Nat.add_zero, f2 _ _ (by omega), st_eq, if_pos ⟨rfl, rfl⟩]
          rfl
        | succ i =>
          have := v3 i (by omega)
          rw [show s + 1 + (j + 1) + i = s + 1 + j + (i + 1) by omega] at this
          exact this
theorem m_readWall {d : Nat} {Q : pt_Q} {m : pt_M} {T : pt_tp} {p w : Nat} {σ : pt_sg} (hO : OkT T) (hp : p ≤ T.1) (hw : w ≤ 8) (hT : mTok m T p) (h0 : m 143 17 = 0) (hR : RM m 148 0 σ) (hs0 : σ 0 = nI w)
    (hb : ∀ c b, wF T w p = some (c, b) → ∀ m1, fr (fun o k => Tfa o k ∨ o = 148) m m1 → FS m1 T c b → Q none m1)
    (hg : wF T w p = none → ∀ m1, fr (fun o k => Tfa o k ∨ o = 148) m m1 → mTok m1 T (pnx T 7 p) → m1 143 17 = 0 → RM m1 148 0 (wU T w p σ) → Q none m1) : Sp (d + 5) nX7_readWall [zR 7 143] m Q := by
  have hf0 : ∀ k, k < 78 → m 148 k = σ k := fun k hk => by
    have := hR k hk
    rwa [Nat.zero_add] at this
  unfold wF at hb hg
  refine sX7_readWall ?_
  refine Go_rn [28, 31] 100 ?_
  -- the end, with a fault
  have finF : ∀ (m1 : pt_M) (c : Int32) (b s : Nat), FS m1 T c b → (∀ x, Q none (st m1 148 0 x)) → Go (Sp (d + 4)) tX7_readWall Q 57 [some (zR 7 143), some (zI (nI s)), some (zI (nI 5))] [] m1 := fun m1 c b s t1 hq => by
    refine Go_rn [] 100 ?_
    refine m_mustEndF (d := d) (FS_ne t1) ?_
    refine ⟨0, rfl, by decide, ?_⟩
    refine br_f (FS_ne t1) ?_
    refine ⟨0, rfl, by decide, ?_⟩
    exact hq _
  refine m_begins (d := d) (i := 0) (w := w) (lim := 8) hO hp (by omega) hw (by omega) hT h0 ((hf0 0 (by omega)).trans hs0) (fun c m1 f1 t1 => ?_) (fun c m1 f1 t1 z1 => ?_)
  · rw [cif_f c] at hb
    refine br_f (FS_ne t1) ?_
    refine Go_rn [31] 100 ?_
    refine m_rw_lf (d := d) (s := 3) (by omega) 5 0 _ m1 (by omega) rfl t1 (fun m2 f2 t2 => ?_)
    refine finF m2 3 _ 3 t2 (fun x => hb _ _ rfl _ (fun o k ho => ?_) (FS_fr t2 (fun k _ _ => by rw [st_eq, if_neg (by omega)]) (fun k => by rw [st_eq, if_neg (by omega)])))
    rw [st_eq, if_neg (by omega), f2 o k (by omega), f1 o k (by omega)]
  · rw [cif_t c] at hb hg
    refine br_t z1 ?_
    refine ⟨0, rfl, by decide, ?_⟩
    have e3 : 3 + 5 * m1 148 0 = nI (3 + 5 * w) := by
      rw [f1 _ _ (by omega), hf0 0 (by omega), hs0]
      have : (5 : Int32) * nI w = nI (5 * w) := (Int32.ofNat_mul 5 w).symm
      rw [this]
      exact nI_add 3 (5 * w)
    refine Go_rn [31] 100 ?_
    show Go (Sp (d + 4)) tX7_readWall Q 31 [some (zR 7 143), some (zI (3 + 5 * m1 148 0)), some (zI 0)] [] m1
    rw [e3]
    refine m_rw_l (d := d) (s := 3 + 5 * w) hO (by omega) 5 0 (tkE T p) _ m1 (by omega) rfl (tkE_n hp).1 t1 z1 (fun c b e m2 f2 t2 => ?_) (fun e m2 f2 t2 z2 v2 => ?_)
    · rw [e] at hb
      refine finF m2 c b _ t2 (fun x => hb _ _ rfl _ (fun o k ho => ?_) (FS_fr t2 (fun k _ _ => by rw [st_eq, if_neg (by omega)]) (fun k => by rw [st_eq, if_neg (by omega)])))
      rw [st_eq, if_neg (by omega), f2 o k (by omega), f1 o k (by omega)]
    · rw [e] at hb hg
      refine Go_rn [] 100 ?_
      refine m_mustEnd (d := d) hO (pnx_n 6 hp) t2 z2 (fun c b e2 m3 f3 t3 => ?_) (fun e2 m3 f3 t3 z3 => ?_)
      · refine ⟨0, rfl, by decide, ?_⟩
        refine br_f (FS_ne t3) ?_
        refine ⟨0, rfl, by decide, ?_⟩
        refine hb _ _ e2 _ (fun o k ho => ?_) (FS_fr t3 (fun k _ _ => by rw [st_eq, if_neg (by omega)]) (fun k => by rw [st_eq, if_neg (by omega)]))
        rw [st_eq, if_neg (by omega), f3 o k (by omega), f2 o k (by omega), f1 o k (by omega)]
      · refine ⟨0, rfl, by decide, ?_⟩
        refine br_t z3 ?_
        refine ⟨0, rfl, by decide, ?_⟩
        rw [show tkE T (pnx T 6 p) = pnx T 7 p from pnx_s T 6 p] at t3
        have ev : m3 148 0 + 1 = nI (w + 1) := by
          rw [f3 _ _ (by omega), f2 _ _ (by omega), f1 _ _ (by omega), hf0 0 (by omega), hs0]; exact nI_1 w
        refine hg e2 _ (fun o k ho => ?_) (mTok_fr t3 (fun k _ _ => by rw [st_eq, if_neg (by omega)]) (fun k => by rw [st_eq, if_neg (by omega)])) (by rw [st_eq, if_neg (by omega)]; exact z3) (fun k hk => ?_)
        · rw [st_eq, if_neg (by omega), f3 o k (by omega), f2 o k (by omega), f1 o k (by omega)]
        · rw [Nat.zero_add]
          show _ = (if k = 0 then nI (w + 1) else if 3 + 5 * w ≤ k ∧ k < 8 + 5 * w then tkV T (pnx T (k - (3 + 5 * w)) (tkE T p)) else σ k)
          by_cases q : k = 0
          · subst q
            rw [if_pos rfl, st_eq, if_pos ⟨rfl, rfl⟩]
            exact ev
          · rw [if_neg q, st_eq, if_neg (by omega), f3 _ _ (by omega)]
            by_cases q2 : 3 + 5 * w ≤ k ∧ k < 8 + 5 * w
            · rw [if_pos q2]
              have := v2 (k - (3 + 5 * w)) (by omega)
              rw [show 3 + 5 * w + 0 + (k - (3 + 5 * w)) = k by omega] at this
              exact this
            · rw [if_neg q2, f2 _ _ (by omega), f1 _ _ (by omega)]
              exact hf0 k hk
theorem m_readReader {d : Nat} {Q : pt_Q} {m : pt_M} {T : pt_tp} {p r : Nat} {σ : pt_sg} (hO : OkT T) (hp : p ≤ T.1) (hr : r ≤ 5) (hT : mTok m T p) (h0 : m 143 17 = 0) (hR : RM m 148 0 σ) (hs0 : σ 1 = nI r)
    (hb : ∀ c b, rF T r p = some (c, b) → ∀ m1, fr (fun o k => Tfa o k ∨ o = 148) m m1 → FS m1 T c b → Q none m1)
    (hg : rF T r p = none → ∀ m1, fr (fun o k => Tfa o k ∨ o = 148) m m1 → mTok m1 T (pnx T 8 p) → m1 143 17 = 0 → RM m1 148 0 (rU T r p σ) → Q none m1) : Sp (d + 5) nX7_readReader [zR 7 143] m Q := by
  have hf0 : ∀ k, k < 78 → m 148 k = σ k := fun k hk => by
    have := hR k hk
    rwa [Nat.zero_add] at this
  unfold rF at hb hg
  refine sX7_readReader ?_
  refine Go_rn [30, 58, 61, 70] 100 ?_
  -- the end, with a fault
  have finF : ∀ (m1 : pt_M) (c : Int32) (b s : Nat) (kd : Int32), s + 7 ≤ 78 → FS m1 T c b → (∀ x y, Q none (st (st m1 148 (s + 6) x) 148 1 y)) → Go (Sp (d + 4)) tX7_readReader Q 98 [some (zR 7 143), some (zI (nI s)), some (zI kd), some (zI (nI 5))] [] m1 := fun m1 c b s kd hs t1 hq => by
    refine Go_rn [] 100 ?_
    refine ⟨s + 6, nI_add s 6, by omega, ?_⟩
    have t2 : ∀ x, FS (st m1 148 (s + 6) x) T c b := fun x => FS_fr t1 (fun k _ _ => by rw [st_eq, if_neg (by omega)]) (fun k => by rw [st_eq, if_neg (by omega)])
    refine m_mustEndF (d := d) (FS_ne (t2 _)) ?_
    refine ⟨1, rfl, by decide, ?_⟩
    refine br_f (FS_ne (t2 _)) ?_
    refine ⟨1, rfl, by decide, ?_⟩
    exact hq _ _
  -- from the kind on, with a fault
  have finK : ∀ (m1 : pt_M) (c : Int32) (b s : Nat) (kd : Int32) (g : Option pt_V), s + 7 ≤ 78 → FS m1 T c b → (∀ m2, fr (fun o _ => o = 148) m1 m2 → FS m2 T c b → Q none m2) → Go (Sp (d + 4)) tX7_readReader Q 61 [some (zR 7 143), some (zI (nI s)), some (zI kd), g] [] m1 := fun m1 c b s kd g hs t1 hq => by
    refine Go_rn [70] 100 ?_
    refine ⟨s, rfl, by omega, ?_⟩
    refine m_rr_lf (d := d) (s := s) hs 5 0 _ _ (by omega) rfl (FS_fr t1 (fun k _ _ => by rw [st_eq, if_neg (by omega)]) (fun k => by rw [st_eq, if_neg (by omega)])) (fun m2 f2 t2 => ?_)
    refine finF m2 c b s kd hs t2 (fun x y => hq _ (fun o k ho => ?_) (FS_fr t2 (fun k _ _ => by rw [st_eq, if_neg (by omega), st_eq, if_neg (by omega)]) (fun k => by rw [st_eq, if_neg (by omega), st_eq, if_neg (by omega)])))
    rw [st_eq, if_neg (by omega), st_eq, if_neg (by omega), f2 o k (by omega), st_eq, if_neg (by omega)]
  refine m_begins (d := d) (i := 1) (w := r) (lim := 5) hO hp (by omega) hr (by omega) hT h0 ((hf0 1 (by omega)).trans hs0) (fun c m1 f1 t1 => ?_) (fun c m1 f1 t1 z1 => ?_)
  · rw [cif_f c] at hb
    refine br_f (FS_ne t1) ?_
    refine Go_rn [58, 61] 100 ?_
    obtain ⟨p1, hp1, tt1⟩ := t1.2.2
    refine m_name (d := d + 3) hO hp1 tt1 (fun q => absurd q (FS_ne t1)) (fun _ => ?_)
    refine m_kdBy0 ?_
    refine br_f (FS_ne t1) ?_
    refine finK m1 3 _ 43 _ _ (by omega) t1 (fun m2 f2 t2 => hb _ _ rfl m2 (fun o k ho => ?_) t2)
    rw [f2 o k (by omega), f1 o k (by omega)]
  · rw [cif_t c] at hb hg
    refine br_t z1 ?_
    refine ⟨1, rfl, by decide, ?_⟩
    have e3 : 43 + 7 * m1 148 1 = nI (43 + 7 * r) := by
      rw [f1 _ _ (by omega), hf0 1 (by omega), hs0]
      have : (7 : Int32) * nI r = nI (7 * r) := (Int32.ofNat_mul 7 r).symm
      rw [this]
      exact nI_add 43 (7 * r)
    refine Go_rn [58, 61] 100 ?_
    refine m_name (d := d + 3) hO (tkE_n hp).1 t1 (fun _ x hx => ?_) (fun q => absurd z1 q)
    refine m_kdBy hx ?_
    refine br_t z1 ?_
    have ek : ∀ g b, Go (Sp (d + 4)) tX7_readReader Q 58 [some (zR 7 143), some (zI (nI (43 + 7 * r))), some (zI (cif (kdX T (tkE T p) = -1) (-1000000) (kdX T (tkE T p)))), g] [zI b, zR 7 143] m1 → Go (Sp (d + 4)) tX7_readReader Q 58 [some (zR 7 143), some (zI (43 + 7 * m1 148 1)), some (zI (cif (kdX T (tkE T p) = -1) (-1000000) (kdX T (tkE T p)))), g] [zI b, zR 7 143] m1 := fun g b hh => by rw [e3]; exact hh
    by_cases ck : kdX T (tkE T p) = -1
    · rw [cif_t ck] at ek
      rw [cif_t ck] at hb
      rw [cif_t ck]
      refine br_t rfl ?_
      refine ek _ _ ?_
      refine Go_rn [61] 100 ?_
      refine m_must0 (d := d + 1) (tkE_n hp).1 t1 z1 (fun m2 f2 t2 => ?_)
      refine finK m2 1 _ (43 + 7 * r) _ _ (by omega) t2 (fun m3 f3 t3 => hb _ _ rfl m3 (fun o k ho => ?_) t3)
      rw [f3 o k (by omega), f2 o k (by omega), f1 o k (by omega)]
    · rw [cif_f ck] at ek
      rw [cif_f ck] at hb hg
      rw [cif_f ck]
      refine br_f (fun q => ?_) ?_
      · have q2 : kdX T (tkE T p) = -1000000 := q
        rcases kdX_c T (tkE T p) with q3 | q3
        · exact ck q3
        · rw [q2] at q3; exact absurd q3.1 (by decide)
      refine ek _ _ ?_
      refine Go_rn [70] 100 ?_
      refine m_must1 (d := d + 1) hO (tkE_n hp).1 t1 z1 (fun m2 f2 t2 z2 => ?_)
      refine ⟨43 + 7 * r, rfl, by omega, ?_⟩
      have t3 : mTok (st m2 148 (43 + 7 * r) (kdX T (tkE T p))) T (pnx T 2 p) := mTok_fr t2 (fun k _ _ => by rw [st_eq, if_neg (by omega)]) (fun k => by rw [st_eq, if_neg (by omega)])
      have f12 : ∀ o k, ¬ Tfa o k → ¬ (o = 148 ∧ k = 43 + 7 * r) → st m2 148 (43 + 7 * r) (kdX T (tkE T p)) o k = m o k := fun o k h1 h2 => by
        rw [st_eq, if_neg h2, f2 o k (fun q => h1 (by unfold Tmt at q; omega)), f1 o k h1]
      refine m_rr_l (d := d) (s := 43 + 7 * r) hO (by omega) 5 0 (pnx T 2 p) _ _ (by omega) rfl (pnx_n 2 hp) t3 (by rw [st_eq, if_neg (by omega)]; exact z2) (fun c b e m3 f3 t4 => ?_) (fun e m3 f3 t4 z4 v4 => ?_)
      · rw [e] at hb
        refine finF m3 c b _ _ (by omega) t4 (fun x y => hb _ _ rfl _ (fun o k ho => ?_) (FS_fr t4 (fun k _ _ => by rw [st_eq, if_neg (by omega), st_eq, if_neg (by omega)]) (fun k => by rw [st_eq, if_neg (by omega), st_eq, if_neg (by omega)])))
        rw [st_eq, if_neg (by omega), st_eq, if_neg (by omega), f3 o k (by omega), f12 o k (by omega) (by omega)]
      · rw [e] at hb hg
        refine Go_rn [] 100 ?_
        refine ⟨43 + 7 * r + 6, nI_add (43 + 7 * r) 6, by omega, ?_⟩
        have t5 : ∀ x, mTok (st m3 148 (43 + 7 * r + 6) x) T (pnx T 7 p) := fun x => mTok_fr t4 (fun k _ _ => by rw [st_eq, if_neg (by omega)]) (fun k => by rw [st_eq, if_neg (by omega)])
        refine m_mustEnd (d := d) hO (pnx_n 7 hp) (t5 _) (by rw [st_eq, if_neg (by omega)]; exact z4) (fun c b e2 m4 f4 t6 => ?_) (fun e2 m4 f4 t6 z6 => ?_)
        · refine ⟨1, rfl, by decide, ?_⟩
          refine br_f (FS_ne t6) ?_
          refine ⟨1, rfl, by decide, ?_⟩
          refine hb _ _ e2 _ (fun o k ho => ?_) (FS_fr t6 (fun k _ _ => by rw [st_eq, if_neg (by omega)]) (fun k => by rw [st_eq, if_neg (by omega)]))
          rw [st_eq, if_neg (by omega), f4 o k (by omega), st_eq, if_neg (by omega), f3 o k (by omega), f12 o k (by omega) (by omega)]
        · refine ⟨1, rfl, by decide, ?_⟩
          refine br_t z6 ?_
          refine ⟨1, rfl, by decide, ?_⟩
          rw [show tkE T (pnx T 7 p) = pnx T 8 p from pnx_s T 7 p] at t6
          have ev : m4 148 1 + 1 = nI (r + 1) := by
            rw [f4 _ _ (by omega), st_eq, if_neg (by omega), f3 _ _ (by omega), f12 _ _ (by omega) (by omega), hf0 1 (by omega), hs0]; exact nI_1 r
          refine hg e2 _ (fun o k ho => ?_) (mTok_fr t6 (fun k _ _ => by rw [st_eq, if_neg (by omega)]) (fun k => by rw [st_eq, if_neg (by omega)])) (by rw [st_eq, if_neg (by omega)]; exact z6) (fun k hk => ?_)
          · rw [st_eq, if_neg (by omega), f4 o k (by omega), st_eq, if_neg (by omega), f3 o k (by omega), f12 o k (by omega) (by omega)]
          · rw [Nat.zero_add]
            show _ = (if k = 1 then nI (r + 1) else if k = 43 + 7 * r then kdX T (tkE T p) else if 44 + 7 * r ≤ k ∧ k < 49 + 7 * r then tkV T (pnx T (k - (44 + 7 * r)) (pnx T 2 p)) else if k = 49 + 7 * r then -1 else σ k)
            by_cases q : k = 1
            · subst q
              rw [if_pos rfl, st_eq, if_pos ⟨rfl, rfl⟩]
              exact ev
            · rw [if_neg q, st_eq, if_neg (by omega), f4 _ _ (by omega)]
              by_cases q2 : k = 49 + 7 * r
              · rw [if_neg (by omega), if_neg (by omega), if_pos q2, st_eq, if_pos (by omega)]
              · rw [st_eq, if_neg (by omega)]
                by_cases q3 : k = 43 + 7 * r
                · rw [if_pos q3, f3 _ _ (by omega), st_eq, if_pos ⟨rfl, q3⟩]
                · rw [if_neg q3]
                  by_cases q4 : 44 + 7 * r ≤ k ∧ k < 49 + 7 * r
                  · rw [if_pos q4]
                    have := v4 (k - (44 + 7 * r)) (by omega)
                    rw [show 43 + 7 * r + 1 + 0 + (k - (44 + 7 * r)) = k by omega] at this
                    exact this
                  · rw [if_neg q4, if_neg q2, f3 _ _ (by omega), f12 _ _ (by omega) (by omega)]
                    exact hf0 k hk
