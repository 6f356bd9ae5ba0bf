/-! 38.spices: the spices of a walk, on both sides -/
theorem rdd_r {kd t : Int32} (h : 0 ≤ t ∧ t < 5) : 0 ≤ rdd kd t ∧ rdd kd t < 5 := by
  unfold rdd
  grind
def spG (σ : pt_sg) (r : Nat) (f : Nat → Int32) (k : Nat) : Int32 := rdd (pK σ r) (f k)
def spU (σ : pt_sg) (r : Nat) (f : Nat → Int32) : Nat → (Nat → Int32) × Int32
  | 0 => (pU σ r, pA σ r)
  | k + 1 => (usd (pK σ r) (spG σ r f k) (spU σ r f k).1, spG σ r f k)
def spO (σ : pt_sg) (r a b : Nat) (f : Nat → Int32) (k : Nat) : Option Nat := lsp (pK σ r) (spU σ r f k).1 (spU σ r f k).2 (sW σ (wa a b k)) (spG σ r f k) (31 - xN (sW σ (wa a b k) (xN (spG σ r f k)))) 0
def spAll (σ : pt_sg) (r a b : Nat) (f : Nat → Int32) : Prop := ∀ k, k < wn a b → (spO σ r a b f k).isSome = true
theorem spU_ok {σ : pt_sg} (O : OkS σ) {r : Nat} (hr : r < sr σ) {f : Nat → Int32} : ∀ k, okU (spU σ r f k).1
  | 0 => pU_ok O hr
  | k + 1 => usd_ok (spU_ok O hr k)
theorem sW_r {σ : pt_sg} (O : OkS σ) {w : Nat} (hw : w < sw σ) : ∀ f, f < 5 → 0 ≤ sW σ w f ∧ sW σ w f ≤ 30 := fun f hf => O.2.2.2.2.2.1 (5 * w + f) (by omega)
theorem sW_n {σ : pt_sg} (O : OkS σ) {w f : Nat} (hw : w < sw σ) (hf : f < 5) : ∃ s0, s0 ≤ 30 ∧ sW σ w f = nI s0 := by
  obtain ⟨h1, h2⟩ := sW_r O hw f hf
  obtain ⟨j, hj, e⟩ := ixof (x := sW σ w f) (n := 31) h1 (Int32.lt_of_le_of_lt h2 (by decide)) (by omega)
  exact ⟨j, by omega, e⟩
theorem spO_eq {σ : pt_sg} {r a b k g s0 : Nat} {f : Nat → Int32} (eg : spG σ r f k = nI g) (hg : g < 5) (h0 : sW σ (wa a b k) g = nI s0) (h30 : s0 ≤ 30) : spO σ r a b f k = lsp (pK σ r) (spU σ r f k).1 (spU σ r f k).2 (sW σ (wa a b k)) (nI g) (31 - s0) 0 := by
  unfold spO
  rw [eg, xN_nI (show g < 2 ^ 31 by omega), h0, xN_nI (show s0 < 2 ^ 31 by omega)]
def Tfs (o : Nat) : Nat → Nat → Prop := fun o1 _ => o1 = 137 ∨ o1 = 138 ∨ o1 = o
theorem c_fs_l {d : Nat} {Q : pt_Q} {σ : pt_sg} {r a b o : Nat} {f : Nat → Int32} (O : OkS σ) (hr : r < sr σ) (ha : a < sw σ) (hb : b < sw σ) (ho : o = 141 ∨ o = 142) (hf : heardP f (wn a b) 0) :
    ∀ (n k : Nat) (x : Int32) (g6 g7 : Option pt_V) (m : pt_M), k + n = wn a b → x = nI k → RC m 24 σ → PC m (pK σ r) (spU σ r f k).1 (spU σ r f k).2 → (∀ j, j < wn a b → m 139 (wa a b j) = f j) → (∀ j, j < k → (spO σ r a b f j).isSome = true ∧ m o (wa a b j) = lsv (spO σ r a b f j)) →
    (∀ m1, fr (Tfs o) m m1 → (∀ j, j < wn a b → (spO σ r a b f j).isSome = true ∧ m1 o (wa a b j) = lsv (spO σ r a b f j)) → Q (some (zI 1)) m1) →
    (∀ m1, fr (Tfs o) m m1 → ¬ spAll σ r a b f → Q (some (zI 0)) m1) →
    Go (Sp (d + 3)) tX6_findSpice Q 15 [some (zR 6 0), some (zI (nI r)), some (zI (nI a)), some (zI (nI b)), some (zR 1008 o), some (zI x), g6, g7] [] m := by
  have h8 := O.2.1
  have hw8 := wn_8 ha hb
  intro n
  induction n with
  | zero =>
    intro k x g6 g7 m hk hx hR hP ht hs h1 h0
    have ek : k = wn a b := by omega
    subst ek hx
    refine Go_rn [] 100 ?_
    refine c_wallsOnWay (by omega) (by omega) ?_
    refine br_t (nI_le (Nat.le_refl _) (by omega)) ?_
    exact ⟨bz1, h1 m fr_rf hs⟩
  | succ n ih =>
    intro k x g6 g7 m hk hx hR hP ht hs h1 h0
    subst hx
    have hkn : k < wn a b := by omega
    have hw := wa_lt ha hb hkn
    obtain ⟨g, hg, eg⟩ := flavN (rdd_r (kd := pK σ r) (hf k hkn))
    obtain ⟨s0, h30, es⟩ := sW_n O hw hg
    have eO := spO_eq (σ := σ) (r := r) (a := a) (b := b) (f := f) (k := k) eg hg es h30
    have eU : spU σ r f (k + 1) = (usd (pK σ r) (nI g) (spU σ r f k).1, nI g) := by
      show (usd (pK σ r) (spG σ r f k) (spU σ r f k).1, spG σ r f k) = _
      rw [show spG σ r f k = nI g from eg]
    refine Go_rn [15] 100 ?_
    refine c_wallsOnWay (by omega) (by omega) ?_
    refine br_f (nI_ge hkn (by omega)) ?_
    refine c_wallOnWay (by omega) (by omega) hkn ?_
    refine ⟨wa a b k, rfl, by omega, ?_⟩
    show Sp (d + 3) nX2_swapped [zR 2 137, zI (m 139 (wa a b k))] m _
    rw [ht k hkn]
    refine c_swapped hP.1 ?_
    rw [eg]
    refine c_leastSpice (by omega) hg hP (spU_ok O hr k) (sW_r O hw) es h30 (sW_c hR hw) ?_
    rw [← eO]
    refine ⟨wa a b k, rfl, by omega, ?_⟩
    refine ⟨wa a b k, rfl, by omega, ?_⟩
    have ev : st m o (wa a b k) (lsv (spO σ r a b f k)) o (wa a b k) = lsv (spO σ r a b f k) := by rw [st_eq, if_pos ⟨rfl, rfl⟩]
    cases e : spO σ r a b f k with
    | none =>
      rw [e] at ev
      refine br_f (by show ¬ 0 ≤ st m o (wa a b k) (lsv none) o (wa a b k); rw [ev]; decide) ?_
      refine ⟨bz0, h0 _ (fun o1 k1 hq => ?_) (fun q => ?_)⟩
      · unfold Tfs at hq
        rw [st_eq, if_neg (by omega)]
      · have := q k hkn
        rw [e] at this
        cases this
    | some v =>
      have hv := lsp_lt _ _ _ (eO.symm.trans e)
      rw [e] at ev
      refine br_t (by show 0 ≤ st m o (wa a b k) (lsv (some v)) o (wa a b k); rw [ev]; exact nI_pos' (by omega)) ?_
      have hP1 : PC (st m o (wa a b k) (lsv (some v))) (pK σ r) (spU σ r f k).1 (spU σ r f k).2 := ⟨by rw [st_eq, if_neg (by omega)]; exact hP.1, by rw [st_eq, if_neg (by omega)]; exact hP.2.1, fun f hf => by rw [st_eq, if_neg (by omega)]; exact hP.2.2 f hf⟩
      refine c_getsUsedTo hP1 (fun m1 f1 p1 => ?_)
      have e1 : ∀ o1 k1, ¬ (o1 = 137 ∨ o1 = 138 ∨ (o1 = o ∧ k1 = wa a b k)) → m1 o1 k1 = m o1 k1 := fun o1 k1 q => by
        rw [f1 o1 k1 (by unfold Tpalm; omega), st_eq, if_neg (by omega)]
      refine ih (k + 1) _ _ _ _ (by omega) (nI_1 k) (RC_fr hR (fun o1 k1 q1 q2 => e1 o1 k1 (by omega))) (by rw [eU]; exact p1) (fun j hj => (e1 _ _ (by omega)).trans (ht j hj)) (fun j hj => ?_) (fun m2 f2 q => h1 m2 (fun o1 k1 hq => ?_) q) (fun m2 f2 q => h0 m2 (fun o1 k1 hq => ?_) q)
      · by_cases ej : j = k
        · rw [ej]
          refine ⟨by rw [e]; rfl, ?_⟩
          rw [f1 _ _ (by unfold Tpalm; omega), ev, e]
        · have hne : wa a b j ≠ wa a b k := fun q => ej (wa_inj (by omega) hkn q)
          obtain ⟨z1, z2⟩ := hs j (by omega)
          exact ⟨z1, (e1 _ _ (by omega)).trans z2⟩
      · unfold Tfs at hq
        rw [f2 o1 k1 hq, e1 o1 k1 (by omega)]
      · unfold Tfs at hq
        rw [f2 o1 k1 hq, e1 o1 k1 (by omega)]
theorem c_findSpice {d : Nat} {Q : pt_Q} {m : pt_M} {σ : pt_sg} {r a b o : Nat} {f : Nat → Int32} (O : OkS σ) (hr : r < sr σ) (ha : a < sw σ) (hb : b < sw σ) (ho : o = 141 ∨ o = 142) (hf : heardP f (wn a b) 0) (hR : RC m 24 σ) (ht : ∀ j, j < wn a b → m 139 (wa a b j) = f j)
    (h1 : ∀ m1, fr (Tfs o) m m1 → spAll σ r a b f → (∀ j, j < wn a b → m1 o (wa a b j) = lsv (spO σ r a b f j)) → Q (some (zI 1)) m1)
    (h0 : ∀ m1, fr (Tfs o) m m1 → ¬ spAll σ r a b f → Q (some (zI 0)) m1) : Sp (d + 4) nX6_findSpice [zR 6 0, zI (nI r), zI (nI a), zI (nI b), zR 1008 o] m Q := by
  refine sX6_findSpice ?_
  refine Go_rn [15] 100 ?_
  refine c_take O hR hr (fun m1 f1 p1 => ?_)
  have e1 : ∀ o1 k1, ¬ (o1 = 137 ∨ o1 = 138) → m1 o1 k1 = m o1 k1 := fun o1 k1 q => f1 o1 k1 q
  refine c_fs_l O hr ha hb ho hf (wn a b) 0 _ _ _ _ (by omega) rfl (RC_fr hR (fun o1 k1 q1 q2 => e1 o1 k1 (by omega))) p1 (fun j hj => (e1 _ _ (by omega)).trans (ht j hj)) (fun j hj => by omega) (fun m2 f2 q => ?_) (fun m2 f2 q => ?_)
  · refine h1 m2 (fun o1 k1 hq => ?_) (fun j hj => (q j hj).1) (fun j hj => (q j hj).2)
    unfold Tfs at hq
    rw [f2 o1 k1 hq, e1 o1 k1 (by omega)]
  · refine h0 m2 (fun o1 k1 hq => ?_) q
    unfold Tfs at hq
    rw [f2 o1 k1 hq, e1 o1 k1 (by omega)]
/-! the model -/
theorem m_ls_l {d : Nat} {Q : pt_Q} {kd af : Int32} {us s : Nat → Int32} {w g s0 : Nat} {m : pt_M} {v1 v2 v3 v4 v5 v6 : Int32} (hw : w < 8) (hg : g < 5) (hp : PM m kd us af) (h0 : s g = nI s0) (h30 : s0 ≤ 30) (hm : ∀ f, f < 5 → m 147 (3 + (5 * w + f)) = s f) (N : Option Nat) (hN : lsp kd us af s (nI g) (31 - s0) 0 = N)
    (h : ∀ j, (N = some j ∧ s0 + j ≤ 30) ∨ (N = none ∧ s0 + j = 31) → Go (Sp (d + 2)) tX7_laySpice Q 86 [some (zR 7 143), some (zI v1), some (zI v2), some (zI v3), some (zI v4), some (zI v5), some (zI v6), some (zI (nI w)), some (zI (nI g)), some (zI (nI j))] [] m) :
    ∀ (k n : Nat) (x : Int32), s0 + n + k = 31 → x = nI n → lsp kd us af s (nI g) k n = N → Go (Sp (d + 2)) tX7_laySpice Q 49 [some (zR 7 143), some (zI v1), some (zI v2), some (zI v3), some (zI v4), some (zI v5), some (zI v6), some (zI (nI w)), some (zI (nI g)), some (zI x)] [] m := by
  have e30 : (30 : Int32) - nI s0 = nI (30 - s0) := pk_sub (a := 30) h30
  intro k
  induction k with
  | zero =>
    intro n x hk hx hl
    subst hx
    refine Go_rn [86] 100 ?_
    refine m_strong hw hg ((hm g hg).trans h0) ?_
    refine br_t (by show 30 - nI s0 < nI n; rw [e30]; exact nI_lt (by omega) (by omega)) ?_
    exact h n (Or.inr ⟨hl.symm, by omega⟩)
  | succ k ih =>
    intro n x hk hx hl
    subst hx
    have e : lsp kd us af s (nI g) (k + 1) n = if tst kd us af (mor s (nI g) (nI n)) = nI g then some n else lsp kd us af s (nI g) k (n + 1) := rfl
    rw [e] at hl
    refine Go_rn [49, 86] 100 ?_
    refine m_strong hw hg ((hm g hg).trans h0) ?_
    refine br_f (by show ¬ 30 - nI s0 < nI n; rw [e30]; exact nI_nlt (by omega) (by omega)) ?_
    refine m_tastes hw hp hm ?_
    refine ⟨fun c => ?_, fun c => ?_⟩
    · have c1 : tst kd us af (mor s (nI g) (nI n)) = nI g := c
      rw [if_pos c1] at hl
      exact h n (Or.inl ⟨hl.symm, by omega⟩)
    · have c1 : ¬ tst kd us af (mor s (nI g) (nI n)) = nI g := c
      rw [if_neg c1] at hl
      exact ih (n + 1) _ (by omega) (nI_1 n) hl
def Tlsm : Nat → Nat → Prop := fun o k => (o = 143 ∧ (k = 19 ∨ k = 21)) ∨ o = 151 ∨ o = 153
theorem m_ly_l {d : Nat} {Q : pt_Q} {σ : pt_sg} {r a b : Nat} {f : Nat → Int32} {at_ step : Int32} (O : OkS σ) (hr : r < sr σ) (ha : a < sw σ) (hb : b < sw σ) (hf : heardP f (wn a b) 0) :
    ∀ (n k : Nat) (x : Int32) (g7 g8 g9 : Option pt_V) (m : pt_M), k + n = wn a b → x = nI k → RM m 147 0 σ → PM m (pK σ r) (spU σ r f k).1 (spU σ r f k).2 → (∀ j, j < wn a b → ∃ p, p < 320 ∧ at_ + step * nI j = nI p ∧ m 146 p = f j) → (∀ j, j < k → (spO σ r a b f j).isSome = true ∧ m 153 (wa a b j) = lsv (spO σ r a b f j)) →
    (∀ m1, fr Tlsm m m1 → (∀ j, j < wn a b → (spO σ r a b f j).isSome = true ∧ m1 153 (wa a b j) = lsv (spO σ r a b f j)) → Q (some (zI 1)) m1) →
    (∀ m1, fr Tlsm m m1 → ¬ spAll σ r a b f → Q (some (zI 0)) m1) →
    Go (Sp (d + 3)) tX7_laySpice Q 8 [some (zR 7 143), some (zI (nI r)), some (zI (nI a)), some (zI (nI b)), some (zI at_), some (zI step), some (zI x), g7, g8, g9] [] m := by
  have h8 := O.2.1
  have hw8 := wn_8 ha hb
  intro n
  induction n with
  | zero =>
    intro k x g7 g8 g9 m hk hx hR hP ht hs h1 h0
    have ek : k = wn a b := by omega
    subst ek hx
    refine Go_rn [] 100 ?_
    refine m_wallsOf (by omega) (by omega) ?_
    refine br_t (nI_le (Nat.le_refl _) (by omega)) ?_
    exact ⟨bz1, h1 m fr_rf hs⟩
  | succ n ih =>
    intro k x g7 g8 g9 m hk hx hR hP ht hs h1 h0
    subst hx
    have hkn : k < wn a b := by omega
    have hw := wa_lt ha hb hkn
    obtain ⟨g, hg, eg⟩ := flavN (rdd_r (kd := pK σ r) (hf k hkn))
    obtain ⟨s0, h30, es⟩ := sW_n O hw hg
    have eO := spO_eq (σ := σ) (r := r) (a := a) (b := b) (f := f) (k := k) eg hg es h30
    have eU : spU σ r f (k + 1) = (usd (pK σ r) (nI g) (spU σ r f k).1, nI g) := by
      show (usd (pK σ r) (spG σ r f k) (spU σ r f k).1, spG σ r f k) = _
      rw [show spG σ r f k = nI g from eg]
    obtain ⟨p, hp, ep, ef⟩ := ht k hkn
    refine Go_rn [49] 100 ?_
    refine m_wallsOf (by omega) (by omega) ?_
    refine br_f (nI_ge hkn (by omega)) ?_
    refine m_wallAt (by omega) (by omega) hkn ?_
    refine ⟨p, ep, hp, ?_⟩
    show Sp (d + 3) nX7_reads [zR 7 143, zI (m 146 p)] m _
    rw [ef]
    refine m_reads hP.1 ?_
    rw [eg]
    have e30 : (30 : Int32) - nI s0 = nI (30 - s0) := pk_sub (a := 30) h30
    refine m_ls_l (d := d + 1) (by omega) hg hP es h30 (sW_m O hR hw) (spO σ r a b f k) eO.symm (fun j hj => ?_) (31 - s0) 0 _ (by omega) rfl eO.symm
    refine Go_rn [8] 100 ?_
    refine m_strong (by omega) hg ((sW_m O hR hw g hg).trans es) ?_
    rcases hj with ⟨e, hj⟩ | ⟨e, hj⟩
    · refine br_t (by show nI j ≤ 30 - nI s0; rw [e30]; exact nI_le (by omega) (by omega)) ?_
      refine ⟨wa a b k, rfl, by omega, ?_⟩
      have hP1 : PM (st m 153 (wa a b k) (nI j)) (pK σ r) (spU σ r f k).1 (spU σ r f k).2 := ⟨by rw [st_eq, if_neg (by omega)]; exact hP.1, by rw [st_eq, if_neg (by omega)]; exact hP.2.1, fun f hf => by rw [st_eq, if_neg (by omega)]; exact hP.2.2 f hf⟩
      refine m_getsUsed (spU_ok O hr k) hP1 (fun m1 f1 p1 => ?_)
      have e1 : ∀ o1 k1, ¬ ((o1 = 143 ∧ k1 = 21) ∨ o1 = 151 ∨ (o1 = 153 ∧ k1 = wa a b k)) → m1 o1 k1 = m o1 k1 := fun o1 k1 q => by
        rw [f1 o1 k1 (by unfold Tmp; omega), st_eq, if_neg (by omega)]
      refine ih (k + 1) _ _ _ _ _ (by omega) (nI_1 k) (RM_fr hR (fun k1 _ _ => e1 _ k1 (by omega))) (by rw [eU]; exact p1) (fun i hi => ?_) (fun i hi => ?_) (fun m2 f2 q => h1 m2 (fun o1 k1 hq => ?_) q) (fun m2 f2 q => h0 m2 (fun o1 k1 hq => ?_) q)
      · obtain ⟨q, q1, q2, q3⟩ := ht i hi
        exact ⟨q, q1, q2, (e1 _ _ (by omega)).trans q3⟩
      · by_cases ej : i = k
        · rw [ej]
          refine ⟨by rw [e]; rfl, ?_⟩
          rw [f1 _ _ (by unfold Tmp; omega), st_eq, if_pos ⟨rfl, rfl⟩, e]
          rfl
        · have hne : wa a b i ≠ wa a b k := fun q => ej (wa_inj (by omega) hkn q)
          obtain ⟨z1, z2⟩ := hs i (by omega)
          exact ⟨z1, (e1 _ _ (by omega)).trans z2⟩
      · unfold Tlsm at hq
        rw [f2 o1 k1 hq, e1 o1 k1 (by omega)]
      · unfold Tlsm at hq
        rw [f2 o1 k1 hq, e1 o1 k1 (by omega)]
    · refine br_f (by show ¬ nI j ≤ 30 - nI s0; rw [e30]; exact nI_ge (by omega) (by omega)) ?_
      refine ⟨bz0, h0 m fr_rf (fun q => ?_)⟩
      have := q k hkn
      rw [e] at this
      cases this
theorem m_laySpice {d : Nat} {Q : pt_Q} {m : pt_M} {σ : pt_sg} {r a b : Nat} {f : Nat → Int32} {at_ step : Int32} (O : OkS σ) (hr : r < sr σ) (ha : a < sw σ) (hb : b < sw σ) (hf : heardP f (wn a b) 0) (hR : RM m 147 0 σ) (ht : ∀ j, j < wn a b → ∃ p, p < 320 ∧ at_ + step * nI j = nI p ∧ m 146 p = f j)
    (h1 : ∀ m1, fr Tlsm m m1 → spAll σ r a b f → (∀ j, j < wn a b → m1 153 (wa a b j) = lsv (spO σ r a b f j)) → Q (some (zI 1)) m1)
    (h0 : ∀ m1, fr Tlsm m m1 → ¬ spAll σ r a b f → Q (some (zI 0)) m1) : Sp (d + 4) nX7_laySpice [zR 7 143, zI (nI r), zI (nI a), zI (nI b), zI at_, zI step] m Q := by
  refine sX7_laySpice ?_
  refine Go_rn [8] 100 ?_
  refine m_layPalm O hR hr (fun m1 f1 p1 => ?_)
  have e1 : ∀ o1 k1, ¬ ((o1 = 143 ∧ (k1 = 19 ∨ k1 = 21)) ∨ o1 = 151) → m1 o1 k1 = m o1 k1 := fun o1 k1 q => f1 o1 k1 q
  refine m_ly_l O hr ha hb hf (wn a b) 0 _ _ _ _ _ (by omega) rfl (RM_fr hR (fun k1 _ _ => e1 _ k1 (by omega))) p1 (fun j hj => ?_) (fun j hj => by omega) (fun m2 f2 q => ?_) (fun m2 f2 q => ?_)
  · obtain ⟨p, q1, q2, q3⟩ := ht j hj
    exact ⟨p, q1, q2, (e1 _ _ (by omega)).trans q3⟩
  · refine h1 m2 (fun o1 k1 hq => ?_) (fun j hj => (q j hj).1) (fun j hj => (q j hj).2)
    unfold Tlsm at hq
    rw [f2 o1 k1 hq, e1 o1 k1 (by omega)]
  · refine h0 m2 (fun o1 k1 hq => ?_) q
    unfold Tlsm at hq
    rw [f2 o1 k1 hq, e1 o1 k1 (by omega)]
