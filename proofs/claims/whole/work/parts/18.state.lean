/-! 18.state: what both sides hold: streets, acts, images, rows, the tape, the trace (partly written by gen_state.py) -/
abbrev pt_sg : Type := Nat → Int32
abbrev pt_al : Type := pt_sg × (Nat × (Nat → pt_sg)) × (Nat → Option pt_sg) × (Nat → Option (Nat × Nat × (Nat → Int32))) × (Nat × (Nat → Int32)) × (Nat × (Nat → Int32)) × Int32 × Int32
abbrev aS (a : pt_al) : pt_sg := a.1
abbrev aA (a : pt_al) : Nat × (Nat → pt_sg) := a.2.1
abbrev aI (a : pt_al) : Nat → Option pt_sg := a.2.2.1
abbrev aR (a : pt_al) : Nat → Option (Nat × Nat × (Nat → Int32)) := a.2.2.2.1
abbrev aT (a : pt_al) : Nat × (Nat → Int32) := a.2.2.2.2.1
abbrev aK (a : pt_al) : Nat × (Nat → Int32) := a.2.2.2.2.2.1
abbrev aF (a : pt_al) : Int32 := a.2.2.2.2.2.2.1
abbrev aL (a : pt_al) : Int32 := a.2.2.2.2.2.2.2
def cA (m : pt_M) (A : Nat × (Nat → pt_sg)) : Prop := m 28 0 = nI A.1 ∧ ∃ nx, nx < 24 ∧ m 28 1 = nI nx ∧ ∀ i, i < A.1 → RC m (30 + 4 * ((nx + 24 - A.1 + i) % 24)) (A.2 i)
def mA (m : pt_M) (A : Nat × (Nat → pt_sg)) : Prop := m 143 8 = nI A.1 ∧ ∀ i, i < A.1 → RM m 149 (78 * i) (A.2 i)
def cI (m : pt_M) (I : Nat → Option pt_sg) : Prop := ∀ k, k < 2 → (I k = none → m (127 + 4 * k) 0 = 0) ∧ ∀ τ, I k = some τ → RC m (127 + 4 * k) τ
def mI (m : pt_M) (I : Nat → Option pt_sg) : Prop := ∀ k, k < 2 → (I k = none → m 155 k = 0) ∧ ∀ τ, I k = some τ → m 155 k = 1 ∧ RM m 156 (78 * k) τ
def cR (m : pt_M) (R : Nat → Option (Nat × Nat × (Nat → Int32))) : Prop := ∀ r, r < 8 → (R r = none → m (2 + 2 * r) 0 = 0) ∧ ∀ l n f, R r = some (l, n, f) → m (2 + 2 * r) 0 = 1 ∧ m (2 + 2 * r) 1 = nI l ∧ m (2 + 2 * r) 2 = nI n ∧ ∀ i, i < 40 → m (3 + 2 * r) i = f i
def mR (m : pt_M) (R : Nat → Option (Nat × Nat × (Nat → Int32))) : Prop := ∀ r, r < 8 → (R r = none → m 144 r = -1) ∧ ∀ l n f, R r = some (l, n, f) → m 144 r = nI l ∧ m 145 r = nI n ∧ ∀ i, i < 40 → m 146 (40 * r + i) = f i
def cTp (m : pt_M) (T : Nat × (Nat → Int32)) : Prop := m 18 0 = nI T.1 ∧ ∀ i, i < T.1 → m 19 i = T.2 i
def mTp (m : pt_M) (T : Nat × (Nat → Int32)) : Prop := m 143 10 = nI T.1 ∧ ∀ i, i < T.1 → m 150 i = T.2 i
def cK (m : pt_M) (K : Nat × (Nat → Int32)) : Prop := m 135 0 = nI K.1 ∧ ∀ i, i < K.1 → m 136 i = K.2 i
def mK (m : pt_M) (K : Nat × (Nat → Int32)) : Prop := m 143 28 = nI K.1 ∧ ∀ i, i < K.1 → m 157 i = K.2 i
def IC (m : pt_M) (a : pt_al) : Prop := RC m 24 (aS a) ∧ cA m (aA a) ∧ cI m (aI a) ∧ cR m (aR a) ∧ cTp m (aT a) ∧ cK m (aK a) ∧ m 0 7 = aF a ∧ m 0 6 = aL a
def IM (m : pt_M) (a : pt_al) : Prop := RM m 147 0 (aS a) ∧ mA m (aA a) ∧ mI m (aI a) ∧ mR m (aR a) ∧ mTp m (aT a) ∧ mK m (aK a) ∧ m 143 1 = aF a ∧ m 143 11 = aL a
def OkR (R : Nat → Option (Nat × Nat × (Nat → Int32))) : Prop := ∀ r, r < 8 → ∀ l n f, R r = some (l, n, f) → l ≤ 2 ∧ n ≤ 40
def OkA (A : Nat × (Nat → pt_sg)) : Prop := A.1 ≤ 24 ∧ ∀ i, i < A.1 → OkS (A.2 i)
def OkI (I : Nat → Option pt_sg) : Prop := ∀ k, k < 2 → ∀ τ, I k = some τ → OkS τ ∧ 0 < sw τ
def OkT (T : Nat × (Nat → Int32)) : Prop := T.1 ≤ 400 ∧ ∀ i, i < T.1 → 0 ≤ T.2 i ∧ T.2 i ≤ 255
def OK (a : pt_al) : Prop := OkS (aS a) ∧ OkA (aA a) ∧ OkI (aI a) ∧ OkR (aR a) ∧ OkT (aT a) ∧ (aK a).1 ≤ 16
/-! frames -/
theorem cA_fr {m m1 : pt_M} {A : Nat × (Nat → pt_sg)} (h : cA m A) (h0 : m1 28 0 = m 28 0) (h1 : m1 28 1 = m 28 1) (hf : ∀ o k, 30 ≤ o → o ≤ 125 → m1 o k = m o k) : cA m1 A := by
  obtain ⟨e1, nx, e2, e3, e4⟩ := h
  exact ⟨h0.trans e1, nx, e2, h1.trans e3, fun i hi => RC_fr (e4 i hi) (fun o k g1 g2 => hf o k (by omega) (by omega))⟩
theorem mA_fr {m m1 : pt_M} {A : Nat × (Nat → pt_sg)} (h : mA m A) (h0 : m1 143 8 = m 143 8) (hf : ∀ k, m1 149 k = m 149 k) : mA m1 A :=
  ⟨h0.trans h.1, fun i hi => RM_fr (h.2 i hi) (fun k _ _ => hf k)⟩
theorem cI_fr {m m1 : pt_M} {I : Nat → Option pt_sg} (h : cI m I) (hf : ∀ o k, 127 ≤ o → o ≤ 134 → m1 o k = m o k) : cI m1 I := fun k hk =>
  ⟨fun e => (hf _ _ (by omega) (by omega)).trans ((h k hk).1 e), fun τ e => RC_fr ((h k hk).2 τ e) (fun o k g1 g2 => hf o k (by omega) (by omega))⟩
theorem mI_fr {m m1 : pt_M} {I : Nat → Option pt_sg} (h : mI m I) (h0 : ∀ k, m1 155 k = m 155 k) (hf : ∀ k, m1 156 k = m 156 k) : mI m1 I := fun k hk =>
  ⟨fun e => (h0 k).trans ((h k hk).1 e), fun τ e => ⟨(h0 k).trans ((h k hk).2 τ e).1, RM_fr ((h k hk).2 τ e).2 (fun k _ _ => hf k)⟩⟩
theorem cR_fr {m m1 : pt_M} {R : Nat → Option (Nat × Nat × (Nat → Int32))} (h : cR m R) (hf : ∀ o k, 2 ≤ o → o ≤ 17 → m1 o k = m o k) : cR m1 R := fun r hr =>
  ⟨fun e => (hf _ _ (by omega) (by omega)).trans ((h r hr).1 e), fun l n f e => by
    obtain ⟨g1, g2, g3, g4⟩ := (h r hr).2 l n f e
    exact ⟨(hf _ _ (by omega) (by omega)).trans g1, (hf _ _ (by omega) (by omega)).trans g2, (hf _ _ (by omega) (by omega)).trans g3, fun i hi => (hf _ _ (by omega) (by omega)).trans (g4 i hi)⟩⟩
theorem mR_fr {m m1 : pt_M} {R : Nat → Option (Nat × Nat × (Nat → Int32))} (h : mR m R) (hf : ∀ o k, 144 ≤ o → o ≤ 146 → m1 o k = m o k) : mR m1 R := fun r hr =>
  ⟨fun e => (hf _ _ (by omega) (by omega)).trans ((h r hr).1 e), fun l n f e => by
    obtain ⟨g1, g2, g3⟩ := (h r hr).2 l n f e
    exact ⟨(hf _ _ (by omega) (by omega)).trans g1, (hf _ _ (by omega) (by omega)).trans g2, fun i hi => (hf _ _ (by omega) (by omega)).trans (g3 i hi)⟩⟩
def pC (o k : Nat) : Prop := (o = 0 ∧ (k = 6 ∨ k = 7)) ∨ (2 ≤ o ∧ o ≤ 17) ∨ (o = 18 ∧ k = 0) ∨ o = 19 ∨ (24 ≤ o ∧ o ≤ 28) ∨ (30 ≤ o ∧ o ≤ 125) ∨ (127 ≤ o ∧ o ≤ 134) ∨ (o = 135 ∧ k = 0) ∨ o = 136
def pM (o k : Nat) : Prop := (o = 143 ∧ (k = 1 ∨ k = 8 ∨ k = 10 ∨ k = 11 ∨ k = 28)) ∨ (144 ≤ o ∧ o ≤ 147) ∨ o = 149 ∨ o = 150 ∨ o = 155 ∨ o = 156 ∨ o = 157
theorem IC_fr {m m1 : pt_M} {a : pt_al} (h : IC m a) (hf : ∀ o k, pC o k → m1 o k = m o k) : IC m1 a := by
  obtain ⟨h1, h2, h3, h4, h5, h6, h7, h8⟩ := h
  have hf2 : ∀ o k, (o = 0 ∧ (k = 6 ∨ k = 7)) ∨ (2 ≤ o ∧ o ≤ 17) ∨ (o = 18 ∧ k = 0) ∨ o = 19 ∨ (24 ≤ o ∧ o ≤ 28) ∨ (30 ≤ o ∧ o ≤ 125) ∨ (127 ≤ o ∧ o ≤ 134) ∨ (o = 135 ∧ k = 0) ∨ o = 136 → m1 o k = m o k := hf
  exact ⟨RC_fr h1 (fun o k g1 g2 => hf2 o k (by omega)), cA_fr h2 (hf2 _ _ (by omega)) (hf2 _ _ (by omega)) (fun o k g1 g2 => hf2 o k (by omega)), cI_fr h3 (fun o k g1 g2 => hf2 o k (by omega)), cR_fr h4 (fun o k g1 g2 => hf2 o k (by omega)), ⟨(hf2 _ _ (by omega)).trans h5.1, fun i hi => (hf2 _ _ (by omega)).trans (h5.2 i hi)⟩, ⟨(hf2 _ _ (by omega)).trans h6.1, fun i hi => (hf2 _ _ (by omega)).trans (h6.2 i hi)⟩, (hf2 _ _ (by omega)).trans h7, (hf2 _ _ (by omega)).trans h8⟩
theorem IM_fr {m m1 : pt_M} {a : pt_al} (h : IM m a) (hf : ∀ o k, pM o k → m1 o k = m o k) : IM m1 a := by
  obtain ⟨h1, h2, h3, h4, h5, h6, h7, h8⟩ := h
  have hf2 : ∀ o k, (o = 143 ∧ (k = 1 ∨ k = 8 ∨ k = 10 ∨ k = 11 ∨ k = 28)) ∨ (144 ≤ o ∧ o ≤ 147) ∨ o = 149 ∨ o = 150 ∨ o = 155 ∨ o = 156 ∨ o = 157 → m1 o k = m o k := hf
  exact ⟨RM_fr h1 (fun k g1 g2 => hf2 _ k (by omega)), mA_fr h2 (hf2 _ _ (by omega)) (fun k => hf2 _ k (by omega)), mI_fr h3 (fun k => hf2 _ k (by omega)) (fun k => hf2 _ k (by omega)), mR_fr h4 (fun o k g1 g2 => hf2 o k (by omega)), ⟨(hf2 _ _ (by omega)).trans h5.1, fun i hi => (hf2 _ _ (by omega)).trans (h5.2 i hi)⟩, ⟨(hf2 _ _ (by omega)).trans h6.1, fun i hi => (hf2 _ _ (by omega)).trans (h6.2 i hi)⟩, (hf2 _ _ (by omega)).trans h7, (hf2 _ _ (by omega)).trans h8⟩
/-! acts: one more, one less -/
def apush (A : Nat × (Nat → pt_sg)) (σ : pt_sg) : Nat × (Nat → pt_sg) := if A.1 < 24 then (A.1 + 1, fun i => if i = A.1 then σ else A.2 i) else (24, fun i => if i = 23 then σ else A.2 (i + 1))
theorem apush_ok {A : Nat × (Nat → pt_sg)} {σ : pt_sg} (h : OkA A) (hs : OkS σ) : OkA (apush A σ) := by
  obtain ⟨h1, h2⟩ := h
  unfold apush
  by_cases hn : A.1 < 24
  · rw [if_pos hn]
    refine ⟨by show A.1 + 1 ≤ 24; omega, fun i hi => ?_⟩
    replace hi : i < A.1 + 1 := hi
    show OkS (if i = A.1 then σ else A.2 i)
    by_cases e : i = A.1
    · rw [if_pos e]; exact hs
    · rw [if_neg e]; exact h2 i (by omega)
  · rw [if_neg hn]
    refine ⟨Nat.le_refl _, fun i hi => ?_⟩
    replace hi : i < 24 := hi
    show OkS (if i = 23 then σ else A.2 (i + 1))
    by_cases e : i = 23
    · rw [if_pos e]; exact hs
    · rw [if_neg e]; exact h2 (i + 1) (by omega)
/-- one street becomes as another -/
theorem c_become {d : Nat} {Q : pt_Q} {m : pt_M} {b1 b2 : Nat} (hb : b1 = b2 ∨ b1 + 4 ≤ b2 ∨ b2 + 4 ≤ b1) (h : ∀ m1, fr (fun o _ => b1 ≤ o ∧ o ≤ b1 + 3) m m1 → (∀ σ, OkS σ → RC m b2 σ → RC m1 b1 σ) → Q none m1) : Sp (d + 1) nX4_become [zR 4 b1, zR 4 b2] m Q := by
  refine sX4_become ?_
  refine Go_rn [] 100 ?_
  refine ⟨0, 0, 40, rfl, rfl, rfl, by decide, by decide, ?_⟩
  refine ⟨0, 0, 5, rfl, rfl, rfl, by decide, by decide, ?_⟩
  refine ⟨0, 0, 30, rfl, rfl, rfl, by decide, by decide, ?_⟩
  refine h _ ?_ ?_
  · intro o k ho
    rw [cpm_eq, if_neg (by omega), cpm_eq, if_neg (by omega), cpm_eq, if_neg (by omega), st_eq, if_neg (by omega), st_eq, if_neg (by omega), st_eq, if_neg (by omega)]
  · intro σ O hR
    obtain ⟨r1, r2, r3, r4, r5⟩ := hR
    have hw := O.2.1
    have hrd := O.2.2.2.1
    refine ⟨?_, ?_, ?_, fun k hk => ?_, fun r hr => ⟨?_, fun x hx => ?_⟩⟩
    · rw [cpm_eq, if_neg (by omega), cpm_eq, if_neg (by omega), cpm_eq, if_neg (by omega), st_eq, if_neg (by omega), st_eq, if_neg (by omega), st_eq, if_pos ⟨rfl, rfl⟩]
      exact r1
    · rw [cpm_eq, if_neg (by omega), cpm_eq, if_neg (by omega), cpm_eq, if_neg (by omega), st_eq, if_neg (by omega), st_eq, if_pos ⟨rfl, rfl⟩]
      show st m b1 0 _ b2 1 = _
      rw [st_eq, if_neg (by omega)]
      exact r2
    · rw [cpm_eq, if_neg (by omega), cpm_eq, if_neg (by omega), cpm_eq, if_neg (by omega), st_eq, if_pos ⟨rfl, rfl⟩]
      show st (st m b1 0 _) b1 1 _ b2 2 = _
      rw [st_eq, if_neg (by omega), st_eq, if_neg (by omega)]
      exact r3
    · rw [cpm_eq, if_neg (by omega), cpm_eq, if_neg (by omega), cpm_eq, if_pos ⟨rfl, by omega, by omega⟩, st_eq, if_neg (by omega), st_eq, if_neg (by omega), st_eq, if_neg (by omega)]
      rw [show 0 + (k - 0) = k by omega]
      exact r4 k hk
    · rw [cpm_eq, if_neg (by omega), cpm_eq, if_pos ⟨rfl, by omega, by omega⟩, cpm_eq, if_neg (by omega), st_eq, if_neg (by omega), st_eq, if_neg (by omega), st_eq, if_neg (by omega)]
      rw [show 0 + (r - 0) = r by omega]
      exact (r5 r hr).1
    · rw [cpm_eq, if_pos ⟨rfl, by omega, by omega⟩, cpm_eq, if_neg (by omega), cpm_eq, if_neg (by omega), st_eq, if_neg (by omega), st_eq, if_neg (by omega), st_eq, if_neg (by omega)]
      rw [show 0 + (6 * r + x - 0) = 6 * r + x by omega]
      exact (r5 r hr).2 x hx
def Tacts : Nat → Nat → Prop := fun o _ => o = 28 ∨ (30 ≤ o ∧ o ≤ 125)
theorem c_keep {d : Nat} {Q : pt_Q} {m : pt_M} {σ : pt_sg} {A : Nat × (Nat → pt_sg)} (O : OkS σ) (hm : RC m 24 σ) (hA : cA m A) (hO : OkA A) (h : ∀ m1, fr Tacts m m1 → cA m1 (apush A σ) → Q none m1) : Sp (d + 2) nX0_keep [zR 0 28, zR 4 24] m Q := by
  obtain ⟨e1, nx, e2, e3, e4⟩ := hA
  obtain ⟨na, AA⟩ := A
  dsimp only at e1 e4
  have hna : na ≤ 24 := hO.1
  refine sX0_keep ?_
  refine Go_rn [] 100 ?_
  refine ⟨nx, e3, e2, ?_⟩
  refine c_become (by omega) (fun m1 f1 g1 => ?_)
  have hr := g1 σ O hm
  have n1 : m1 28 1 = nI nx := (f1 28 1 (by omega)).trans e3
  have n0 : m1 28 0 = nI na := (f1 28 0 (by omega)).trans e1
  have nsum : m1 28 1 + 1 = nI (nx + 1) := by rw [n1]; exact nI_1 nx
  have old : ∀ i, i < na → (nx + 24 - na + i) % 24 ≠ nx → RC m1 (30 + 4 * ((nx + 24 - na + i) % 24)) (AA i) := fun i hi hne => RC_fr (e4 i hi) (fun o k g1 g2 => f1 o k (by omega))
  -- the new place and count
  have fin : ∀ (ny : Nat) (y : Int32), ny = (nx + 1) % 24 → y = nI ny → ∀ m2, m2 = st m1 28 1 y → (na < 24 → Q none (st m2 28 0 (nI (na + 1)))) ∧ (¬ na < 24 → Q none m2) := by
    intro ny y hny hy m2 hm2
    subst hm2 hy
    constructor
    · intro hn
      refine h _ (fun o k ho => ?_) ?_
      · unfold Tacts at ho
        rw [st_eq, if_neg (by omega), st_eq, if_neg (by omega)]
        exact f1 o k (by omega)
      · unfold apush
        rw [if_pos hn]
        refine ⟨by rw [st_eq, if_pos ⟨rfl, rfl⟩], ny, by omega, by rw [st_eq, if_neg (by omega), st_eq, if_pos ⟨rfl, rfl⟩], fun i hi => ?_⟩
        replace hi : i < na + 1 := hi
        show RC _ (30 + 4 * ((ny + 24 - (na + 1) + i) % 24)) (if i = na then σ else AA i)
        refine RC_fr (m := m1) ?_ (fun o k g1 g2 => by rw [st_eq, if_neg (by omega), st_eq, if_neg (by omega)])
        by_cases ei : i = na
        · rw [if_pos ei, show (ny + 24 - (na + 1) + i) % 24 = nx by omega]
          rw [show 30 + 4 * nx = 29 + 1 + 4 * nx by omega]
          exact hr
        · rw [if_neg ei, show (ny + 24 - (na + 1) + i) % 24 = (nx + 24 - na + i) % 24 by omega]
          exact old i (by omega) (by omega)
    · intro hn
      refine h _ (fun o k ho => ?_) ?_
      · unfold Tacts at ho
        rw [st_eq, if_neg (by omega)]
        exact f1 o k (by omega)
      · unfold apush
        rw [if_neg hn]
        have hn24 : na = 24 := by omega
        refine ⟨by rw [st_eq, if_neg (by omega), n0, hn24], ny, by omega, by rw [st_eq, if_pos ⟨rfl, rfl⟩], fun i hi => ?_⟩
        replace hi : i < 24 := hi
        show RC _ (30 + 4 * ((ny + 24 - 24 + i) % 24)) (if i = 23 then σ else AA (i + 1))
        refine RC_fr (m := m1) ?_ (fun o k g1 g2 => by rw [st_eq, if_neg (by omega)])
        by_cases ei : i = 23
        · rw [if_pos ei, show (ny + 24 - 24 + i) % 24 = nx by omega]
          rw [show 30 + 4 * nx = 29 + 1 + 4 * nx by omega]
          exact hr
        · rw [if_neg ei, show (ny + 24 - 24 + i) % 24 = (nx + 24 - na + (i + 1)) % 24 by omega]
          exact old (i + 1) (by omega) (by omega)
  have z0 : ∀ y, st m1 28 1 y 28 0 = nI na := fun y => by rw [st_eq, if_neg (by omega)]; exact n0
  refine ⟨fun c => ?_, fun c => ?_⟩
  · have c1 : nI 24 ≤ nI (nx + 1) := by rw [← nsum]; exact c
    have c2 : 24 ≤ nx + 1 := (nI_leI (by omega) (by omega)).mp c1
    obtain ⟨g2, g3⟩ := fin 0 0 (by omega) rfl _ rfl
    refine ⟨fun c3 => ?_, fun c3 => ?_⟩
    · refine g3 (fun q => ?_)
      have c4 : nI 24 ≤ nI na := by rw [← z0 0]; exact c3
      have := (nI_leI (by omega) (by omega)).mp c4
      omega
    · have q : na < 24 := by
        rcases Nat.lt_or_ge na 24 with q | q
        · exact q
        · exact absurd (show nI 24 ≤ st m1 28 1 0 28 0 by rw [z0]; exact nI_le q (by omega)) c3
      have g4 := g2 q
      have e9 : st m1 28 1 0 28 0 + 1 = nI (na + 1) := by rw [z0]; exact nI_1 na
      rw [← e9] at g4
      exact g4
  · have c2 : nx + 1 < 24 := by
      rcases Nat.lt_or_ge (nx + 1) 24 with q | q
      · exact q
      · exact absurd (show nI 24 ≤ m1 28 1 + 1 by rw [nsum]; exact nI_le q (by omega)) c
    obtain ⟨g2, g3⟩ := fin (nx + 1) (m1 28 1 + 1) (by omega) nsum _ rfl
    refine ⟨fun c3 => ?_, fun c3 => ?_⟩
    · refine g3 (fun q => ?_)
      have c4 : nI 24 ≤ nI na := by rw [← z0 (m1 28 1 + 1)]; exact c3
      have := (nI_leI (by omega) (by omega)).mp c4
      omega
    · have q : na < 24 := by
        rcases Nat.lt_or_ge na 24 with q | q
        · exact q
        · exact absurd (show nI 24 ≤ st m1 28 1 (m1 28 1 + 1) 28 0 by rw [z0]; exact nI_le q (by omega)) c3
      have g4 := g2 q
      have e9 : st m1 28 1 (m1 28 1 + 1) 28 0 + 1 = nI (na + 1) := by rw [z0]; exact nI_1 na
      rw [← e9] at g4
      exact g4
