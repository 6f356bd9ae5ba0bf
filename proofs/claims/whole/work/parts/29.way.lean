/-! 29.way: the walls on the way; a walk's palm; what stays of it -/
def wn (a b : Nat) : Nat := if a ≤ b then b - a + 1 else a - b + 1
def wa (a b k : Nat) : Nat := if a ≤ b then a + k else a - k
theorem wn_8 {a b n : Nat} (ha : a < n) (hb : b < n) : wn a b ≤ n := by
  unfold wn
  by_cases c : a ≤ b
  · rw [if_pos c]; omega
  · rw [if_neg c]; omega
theorem wn_pos (a b : Nat) : 0 < wn a b := by
  unfold wn
  by_cases c : a ≤ b
  · rw [if_pos c]; omega
  · rw [if_neg c]; omega
theorem wa_lt {a b n k : Nat} (ha : a < n) (hb : b < n) (hk : k < wn a b) : wa a b k < n := by
  unfold wa
  unfold wn at hk
  by_cases c : a ≤ b
  · rw [if_pos c] at hk ⊢; omega
  · rw [if_neg c] at hk ⊢; omega
theorem c_wallsOnWay {d : Nat} {Q : pt_Q} {m : pt_M} {a b : Nat} (ha : a < 8) (hb : b < 8) (h : Q (some (zI (nI (wn a b)))) m) : Sp (d + 1) nX6_wallsOnWay [zI (nI a), zI (nI b)] m Q := by
  refine sX6_wallsOnWay ?_
  refine Go_rn [] 100 ?_
  refine qe ?_ h
  unfold wn mabs
  show (if 0 ≤ nI b - nI a then nI b - nI a else 0 - (nI b - nI a)) + 1 = _
  by_cases c : a ≤ b
  · rw [if_pos c, pk_sub c, if_pos (nI_pos' (by omega)), nI_1]
  · rw [if_neg c, if_neg (fun q => ?_), ← nI_1, ← pk_sub (by omega)]
    · grind
    · have := pk_sneg (a := b) (b := a) (by omega) (by omega)
      grind
theorem c_wallOnWay {d : Nat} {Q : pt_Q} {m : pt_M} {a b k : Nat} (ha : a < 8) (hb : b < 8) (hk : k < wn a b) (h : Q (some (zI (nI (wa a b k)))) m) : Sp (d + 1) nX6_wallOnWay [zI (nI a), zI (nI b), zI (nI k)] m Q := by
  unfold wn at hk
  unfold wa at h
  refine sX6_wallOnWay ?_
  refine Go_rn [] 100 ?_
  refine ⟨fun c => ?_, fun c => ?_⟩
  · have c1 : nI b < nI a := c
    rw [nI_ltI (by omega) (by omega)] at c1
    rw [if_neg (by omega)] at h hk
    exact qe (pk_sub (by omega)) h
  · have c1 : ¬ nI b < nI a := c
    rw [nI_ltI (by omega) (by omega)] at c1
    rw [if_pos (by omega)] at h hk
    exact qe (nI_add a k) h
theorem m_wallsOf {d : Nat} {Q : pt_Q} {m : pt_M} {a b : Nat} (ha : a < 8) (hb : b < 8) (h : Q (some (zI (nI (wn a b)))) m) : Sp (d + 1) nX7_wallsOf [zI (nI a), zI (nI b)] m Q := by
  unfold wn at h
  refine sX7_wallsOf ?_
  refine Go_rn [] 100 ?_
  refine ⟨fun c => ?_, fun c => ?_⟩
  · have c1 : nI b ≤ nI a := c
    rw [nI_leI (by omega) (by omega)] at c1
    refine qe ?_ h
    show nI a - nI b + 1 = _
    rw [pk_sub c1, nI_1]
    congr 1
    by_cases e : a ≤ b
    · rw [if_pos e]; omega
    · rw [if_neg e]
  · have c1 : ¬ nI b ≤ nI a := c
    rw [nI_leI (by omega) (by omega)] at c1
    refine qe ?_ h
    show nI b - nI a + 1 = _
    rw [pk_sub (by omega), nI_1, if_pos (by omega)]
theorem m_wallAt {d : Nat} {Q : pt_Q} {m : pt_M} {a b k : Nat} (ha : a < 8) (hb : b < 8) (hk : k < wn a b) (h : Q (some (zI (nI (wa a b k)))) m) : Sp (d + 1) nX7_wallAt [zI (nI a), zI (nI b), zI (nI k)] m Q := by
  unfold wn at hk
  unfold wa at h
  refine sX7_wallAt ?_
  refine Go_rn [] 100 ?_
  refine ⟨fun c => ?_, fun c => ?_⟩
  · have c1 : nI b ≤ nI a := c
    rw [nI_leI (by omega) (by omega)] at c1
    by_cases e : a ≤ b
    · rw [if_pos e] at h hk
      have : k = 0 := by omega
      subst this
      exact qe (pk_sub (b := 0) (by omega)) h
    · rw [if_neg e] at h hk
      exact qe (pk_sub (by omega)) h
  · have c1 : ¬ nI b ≤ nI a := c
    rw [nI_leI (by omega) (by omega)] at c1
    rw [if_pos (by omega)] at h hk
    exact qe (nI_add a k) h
/-! the palm after the first walls -/
def sW (σ : pt_sg) (w f : Nat) : Int32 := σ (3 + (5 * w + f))
def wkU (kd : Int32) (σ : pt_sg) (a b : Nat) (us : Nat → Int32) (af : Int32) : Nat → (Nat → Int32) × Int32
  | 0 => (us, af)
  | k + 1 => (usd kd (tst kd (wkU kd σ a b us af k).1 (wkU kd σ a b us af k).2 (sW σ (wa a b k))) (wkU kd σ a b us af k).1, tst kd (wkU kd σ a b us af k).1 (wkU kd σ a b us af k).2 (sW σ (wa a b k)))
def wkN (kd : Int32) (σ : pt_sg) (a b : Nat) (us : Nat → Int32) (af : Int32) : Nat → Int32
  | 0 => 0
  | k + 1 => if (wkU kd σ a b us af (k + 1)).2 = -1 then wkN kd σ a b us af k else wkN kd σ a b us af k + 1
theorem tsF_r (kd : Int32) (us : Nat → Int32) (af : Int32) (s : Nat → Int32) : ∀ k, (tsF kd us af s k).2 = -1 ∨ ∃ j, j < k ∧ (tsF kd us af s k).2 = nI j
  | 0 => Or.inl rfl
  | k + 1 => by
    show (if (tsF kd us af s k).1 < _ then _ else _ : Int32 × Int32).2 = -1 ∨ ∃ j, j < k + 1 ∧ (if (tsF kd us af s k).1 < _ then _ else _ : Int32 × Int32).2 = nI j
    by_cases c : (tsF kd us af s k).1 < fl kd (us k) af (s k) (nI k)
    · rw [if_pos c]
      exact Or.inr ⟨k, by omega, rfl⟩
    · rw [if_neg c]
      rcases tsF_r kd us af s k with h | ⟨j, h1, h2⟩
      · exact Or.inl h
      · exact Or.inr ⟨j, by omega, h2⟩
theorem tst_r (kd : Int32) (us : Nat → Int32) (af : Int32) (s : Nat → Int32) : tst kd us af s = -1 ∨ ∃ j, j < 5 ∧ tst kd us af s = nI j := tsF_r kd us af s 5
theorem wkU_ok {kd : Int32} {σ : pt_sg} {a b : Nat} {us : Nat → Int32} {af : Int32} (h1 : okU us) (h2 : -1 ≤ af ∧ af ≤ 4) : ∀ k, okU (wkU kd σ a b us af k).1 ∧ (-1 ≤ (wkU kd σ a b us af k).2 ∧ (wkU kd σ a b us af k).2 ≤ 4)
  | 0 => ⟨h1, h2⟩
  | k + 1 => by
    obtain ⟨i1, i2⟩ := wkU_ok (σ := σ) (a := a) (b := b) (kd := kd) h1 h2 k
    refine ⟨usd_ok i1, ?_⟩
    show -1 ≤ tst kd (wkU kd σ a b us af k).1 (wkU kd σ a b us af k).2 (sW σ (wa a b k)) ∧ tst kd (wkU kd σ a b us af k).1 (wkU kd σ a b us af k).2 (sW σ (wa a b k)) ≤ 4
    rcases tst_r kd (wkU kd σ a b us af k).1 (wkU kd σ a b us af k).2 (sW σ (wa a b k)) with e | ⟨j, hj, e⟩
    · rw [e]; decide
    · rw [e]
      exact ⟨Int32.le_trans (by decide) (nI_pos' (by omega) : 0 ≤ nI j), nI_le (b := 4) (by omega) (by omega)⟩
/-! a reader's palm in a street -/
def plS (σ : pt_sg) (r : Nat) (us : Nat → Int32) (af : Int32) : pt_sg := fun p => if 44 + 7 * r ≤ p ∧ p < 49 + 7 * r then us (p - (44 + 7 * r)) else if p = 49 + 7 * r then af else σ p
theorem plS_u (σ : pt_sg) {r f : Nat} (us : Nat → Int32) (af : Int32) (hf : f < 5) : plS σ r us af (44 + 7 * r + f) = us f := by
  unfold plS
  rw [if_pos (by omega), show 44 + 7 * r + f - (44 + 7 * r) = f by omega]
theorem plS_a (σ : pt_sg) {r p : Nat} (us : Nat → Int32) (af : Int32) (hp : p = 49 + 7 * r) : plS σ r us af p = af := by
  unfold plS
  rw [if_neg (by omega), if_pos hp]
theorem plS_o (σ : pt_sg) {r p : Nat} (us : Nat → Int32) (af : Int32) (hp : ¬ (44 + 7 * r ≤ p ∧ p ≤ 49 + 7 * r)) : plS σ r us af p = σ p := by
  unfold plS
  rw [if_neg (by omega), if_neg (by omega)]
theorem plS_sw (σ : pt_sg) (r : Nat) (us : Nat → Int32) (af : Int32) : sw (plS σ r us af) = sw σ := by
  unfold sw
  rw [plS_o _ _ _ (by omega)]
theorem plS_sr (σ : pt_sg) (r : Nat) (us : Nat → Int32) (af : Int32) : sr (plS σ r us af) = sr σ := by
  unfold sr
  rw [plS_o _ _ _ (by omega)]
theorem plS_ok {σ : pt_sg} {r : Nat} {us : Nat → Int32} {af : Int32} (O : OkS σ) (hu : okU us) (ha : -1 ≤ af ∧ af ≤ 4) : OkS (plS σ r us af) := by
  obtain ⟨o1, o2, o3, o4, o5, o6, o7, o8⟩ := O
  unfold OkS
  rw [plS_sw, plS_sr]
  refine ⟨by rw [plS_o _ _ _ (by omega)]; exact o1, o2, by rw [plS_o _ _ _ (by omega)]; exact o3, o4, by rw [plS_o _ _ _ (by omega)]; exact o5, fun k hk => by rw [plS_o _ _ _ (by omega)]; exact o6 k hk, fun k h1 h2 => by rw [plS_o _ _ _ (by omega)]; exact o7 k h1 h2, fun q hq => ⟨?_, fun f hf => ?_, ?_⟩⟩
  · rw [plS_o _ _ _ (by omega)]; exact (o8 q hq).1
  · by_cases e : q = r
    · rw [e, plS_u _ _ _ hf]; exact hu f hf
    · rw [plS_o _ _ _ (by omega)]; exact (o8 q hq).2.1 f hf
  · by_cases e : q = r
    · rw [e, plS_a _ _ _ rfl]; exact ha
    · rw [plS_o _ _ _ (by omega)]; exact (o8 q hq).2.2
theorem RC_pl {m m1 : pt_M} {σ : pt_sg} {r : Nat} {us : Nat → Int32} {af : Int32} (h8 : sw σ ≤ 8) (h : RC m 24 σ) (hf : ∀ o k, 24 ≤ o → o ≤ 27 → ¬ (o = 27 ∧ 6 * r ≤ k ∧ k < 6 * r + 6) → m1 o k = m o k) (h1 : ∀ f, f < 5 → m1 27 (6 * r + f) = us f) (h2 : m1 27 (6 * r + 5) = af) : RC m1 24 (plS σ r us af) := by
  obtain ⟨r1, r2, r3, r4, r5⟩ := h
  unfold RC
  rw [plS_sw, plS_sr]
  refine ⟨by rw [plS_o _ _ _ (by omega), hf _ _ (by omega) (by omega) (by omega)]; exact r1, by rw [plS_o _ _ _ (by omega), hf _ _ (by omega) (by omega) (by omega)]; exact r2, by rw [plS_o _ _ _ (by omega), hf _ _ (by omega) (by omega) (by omega)]; exact r3, fun k hk => by rw [plS_o _ _ _ (by omega), hf _ _ (by omega) (by omega) (by omega)]; exact r4 k hk, fun q hq => ⟨?_, fun x hx => ?_⟩⟩
  · rw [plS_o _ _ _ (by omega), hf _ _ (by omega) (by omega) (by omega)]; exact (r5 q hq).1
  · by_cases e : q = r
    · subst e
      by_cases e2 : x = 5
      · rw [e2, h2, plS_a _ _ _ (by omega)]
      · rw [plS_u _ _ _ (by omega), h1 x (by omega)]
    · rw [plS_o _ _ _ (by omega), hf _ _ (by omega) (by omega) (by omega)]; exact (r5 q hq).2 x hx
theorem RM_pl {m m1 : pt_M} {σ : pt_sg} {r : Nat} {us : Nat → Int32} {af : Int32} (h : RM m 147 0 σ) (hf : ∀ k, ¬ (44 + 7 * r ≤ k ∧ k ≤ 49 + 7 * r) → m1 147 k = m 147 k) (h1 : ∀ f, f < 5 → m1 147 (44 + 7 * r + f) = us f) (h2 : m1 147 (49 + 7 * r) = af) : RM m1 147 0 (plS σ r us af) := by
  intro k hk
  rw [Nat.zero_add]
  by_cases e : 44 + 7 * r ≤ k ∧ k ≤ 49 + 7 * r
  · by_cases e2 : k = 49 + 7 * r
    · rw [plS_a _ _ _ e2, e2, h2]
    · obtain ⟨f, rfl⟩ : ∃ f, k = 44 + 7 * r + f := ⟨k - (44 + 7 * r), by omega⟩
      rw [plS_u _ _ _ (by omega), h1 f (by omega)]
  · rw [plS_o _ _ _ e, hf k e]
    exact RM_at h hk
