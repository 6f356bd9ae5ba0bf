/-! 15.abs: a street as 78 numbers; what the two sides hold of it; checks -/
def sw (σ : Nat → Int32) : Nat := (σ 0).toNatClampNeg
def sr (σ : Nat → Int32) : Nat := (σ 1).toNatClampNeg
def OkS (σ : Nat → Int32) : Prop := σ 0 = nI (sw σ) ∧ sw σ ≤ 8 ∧ σ 1 = nI (sr σ) ∧ sr σ ≤ 5 ∧ (0 ≤ σ 2 ∧ σ 2 ≤ 9999) ∧ (∀ k, k < 5 * sw σ → 0 ≤ σ (3 + k) ∧ σ (3 + k) ≤ 30) ∧ (∀ k, 5 * sw σ ≤ k → k < 40 → σ (3 + k) = 0) ∧
  (∀ r, r < sr σ → (1 ≤ σ (43 + 7 * r) ∧ σ (43 + 7 * r) ≤ 5) ∧ (∀ f, f < 5 → 0 ≤ σ (44 + 7 * r + f) ∧ σ (44 + 7 * r + f) ≤ 9) ∧ (-1 ≤ σ (49 + 7 * r) ∧ σ (49 + 7 * r) ≤ 4))
/-- the class's street object b -/
def RC (m : pt_M) (b : Nat) (σ : Nat → Int32) : Prop := m b 0 = σ 0 ∧ m b 1 = σ 1 ∧ m b 2 = σ 2 ∧ (∀ k, k < 5 * sw σ → m (b + 1) k = σ (3 + k)) ∧ (∀ r, r < sr σ → m (b + 2) r = σ (43 + 7 * r) ∧ ∀ x, x < 6 → m (b + 3) (6 * r + x) = σ (44 + 7 * r + x))
/-- the model's numbers from place q of array a on -/
def RM (m : pt_M) (a q : Nat) (σ : Nat → Int32) : Prop := ∀ k, k < 78 → m a (q + k) = σ k
theorem RC_fr {m m1 : pt_M} {b : Nat} {σ : Nat → Int32} (h : RC m b σ) (hf : ∀ o k, b ≤ o → o ≤ b + 3 → m1 o k = m o k) : RC m1 b σ := by
  obtain ⟨h1, h2, h3, h4, h5⟩ := h
  refine ⟨(hf _ _ (by omega) (by omega)).trans h1, (hf _ _ (by omega) (by omega)).trans h2, (hf _ _ (by omega) (by omega)).trans h3, fun k hk => (hf _ _ (by omega) (by omega)).trans (h4 k hk), fun r hr => ⟨(hf _ _ (by omega) (by omega)).trans (h5 r hr).1, fun x hx => (hf _ _ (by omega) (by omega)).trans ((h5 r hr).2 x hx)⟩⟩
theorem RM_fr {m m1 : pt_M} {a q : Nat} {σ : Nat → Int32} (h : RM m a q σ) (hf : ∀ k, q ≤ k → k < q + 78 → m1 a k = m a k) : RM m1 a q σ := fun k hk => (hf _ (by omega) (by omega)).trans (h k hk)
theorem ixof {x : Int32} {n : Nat} (h0 : 0 ≤ x) (h1 : x < nI n) (hn : n < 2 ^ 31) : ∃ k, k < n ∧ x = nI k := by
  obtain ⟨j, hj, rfl⟩ := nI_of (x := x) (by grind)
  exact ⟨j, (nI_ltI hj hn).mp h1, rfl⟩
theorem ixin {k n : Nat} (h : k < n) (hn : n < 2 ^ 31) : 0 ≤ nI k ∧ nI k < nI n := ⟨nI_pos' (by omega), nI_lt h hn⟩
def walkP (σ : Nat → Int32) (r a b : Int32) : Prop := (0 ≤ r ∧ r < σ 1) ∧ (0 ≤ a ∧ a < σ 0) ∧ (0 ≤ b ∧ b < σ 0)
theorem wallN {σ : Nat → Int32} (O : OkS σ) {w : Int32} (h : 0 ≤ w ∧ w < σ 0) : ∃ k, k < sw σ ∧ w = nI k := ixof h.1 (by rw [← O.1]; exact h.2) (by have := O.2.1; omega)
theorem readN {σ : Nat → Int32} (O : OkS σ) {r : Int32} (h : 0 ≤ r ∧ r < σ 1) : ∃ k, k < sr σ ∧ r = nI k := ixof h.1 (by rw [← O.2.2.1]; exact h.2) (by have := O.2.2.2.1; omega)
theorem flavN {f : Int32} (h : 0 ≤ f ∧ f < 5) : ∃ k, k < 5 ∧ f = nI k := ixof h.1 (n := 5) h.2 (by omega)
theorem walkN {σ : Nat → Int32} (O : OkS σ) {r a b : Int32} (h : walkP σ r a b) : ∃ r1 a1 b1, r1 < sr σ ∧ a1 < sw σ ∧ b1 < sw σ ∧ r = nI r1 ∧ a = nI a1 ∧ b = nI b1 := by
  obtain ⟨r1, h1, rfl⟩ := readN O h.1
  obtain ⟨a1, h2, rfl⟩ := wallN O h.2.1
  obtain ⟨b1, h3, rfl⟩ := wallN O h.2.2
  exact ⟨r1, a1, b1, h1, h2, h3, rfl, rfl, rfl⟩
/-! longs -/
theorem i64le (a b : Int32) : a.toInt64 ≤ b.toInt64 ↔ a ≤ b := by
  rw [Int64.le_iff_toInt_le, Int32.le_iff_toInt_le, Int32.toInt_toInt64, Int32.toInt_toInt64]
theorem lcmp_lt {x y : Int64} : lg_cmp x y < 0 ↔ x < y := by
  unfold lg_cmp
  by_cases h : x > y
  · rw [if_pos h]
    exact ⟨fun q => absurd q (by decide), fun q => (Int64.lt_irrefl (Int64.lt_trans q h)).elim⟩
  · rw [if_neg h]
    by_cases h2 : x = y
    · rw [if_pos h2, h2]
      exact ⟨fun q => absurd q (by decide), fun q => (Int64.lt_irrefl q).elim⟩
    · rw [if_neg h2]
      exact ⟨fun _ => by grind, fun _ => by decide⟩
theorem lcmp_gt {x y : Int64} : 0 < lg_cmp x y ↔ y < x := by
  unfold lg_cmp
  by_cases h : x > y
  · rw [if_pos h]
    exact ⟨fun _ => h, fun _ => by decide⟩
  · rw [if_neg h]
    by_cases h2 : x = y
    · rw [if_pos h2, h2]
      exact ⟨fun q => absurd q (by decide), fun q => (Int64.lt_irrefl q).elim⟩
    · rw [if_neg h2]
      exact ⟨fun q => absurd q (by decide), fun q => absurd q h⟩
theorem m_in {d : Nat} {Q : pt_Q} {m : pt_M} {v lo hi : Int64} (hp : lo ≤ v ∧ v ≤ hi → Q (some (zI 1)) m) (hn : ¬ (lo ≤ v ∧ v ≤ hi) → Q (some (zI 0)) m) : Sp (d + 1) nX7_in [zL v, zL lo, zL hi] m Q := by
  refine sX7_in ?_
  refine Go_rn [] 100 ?_
  refine ⟨fun c => ?_, fun c => ?_⟩
  · refine ⟨by decide +kernel, hn (fun q => ?_)⟩
    exact Int64.lt_irrefl (Int64.lt_of_lt_of_le (lcmp_lt.mp c) q.1)
  · refine ⟨fun c2 => ?_, fun c2 => ?_⟩
    · refine ⟨by decide +kernel, hn (fun q => ?_)⟩
      exact Int64.lt_irrefl (Int64.lt_of_lt_of_le (lcmp_gt.mp c2) q.2)
    · refine ⟨by decide +kernel, hp ?_⟩
      have c3 : ¬ v < lo := fun q => c (lcmp_lt.mpr q)
      have c4 : ¬ hi < v := fun q => c2 (lcmp_gt.mpr q)
      grind
/-- in, of ints -/
theorem m_inI {d : Nat} {Q : pt_Q} {m : pt_M} {v lo hi : Int32} {l1 h1 : Int64} (el : l1 = lo.toInt64) (eh : h1 = hi.toInt64) (hp : lo ≤ v ∧ v ≤ hi → Q (some (zI 1)) m) (hn : ¬ (lo ≤ v ∧ v ≤ hi) → Q (some (zI 0)) m) : Sp (d + 1) nX7_in [zL v.toInt64, zL l1, zL h1] m Q := by
  subst el eh
  refine m_in (fun h => hp ?_) (fun h => hn ?_)
  · rwa [i64le, i64le] at h
  · rwa [i64le, i64le] at h
theorem bz0 : narrow .boolean (.int 0) = .int 0 := by decide +kernel
theorem bz1 : narrow .boolean (.int 1) = .int 1 := by decide +kernel
/-! the model's checks -/
theorem m_isRow {d : Nat} {Q : pt_Q} {m : pt_M} {r : Int32} (hp : 0 ≤ r ∧ r < 8 → Q (some (zI 1)) m) (hn : ¬ (0 ≤ r ∧ r < 8) → Q (some (zI 0)) m) : Sp (d + 2) nX7_isRow [zI r] m Q := by
  refine sX7_isRow ?_
  refine Go_rn [] 100 ?_
  refine m_inI (lo := 0) (hi := 7) (by decide) (by decide) (fun h => ⟨bz1, hp ?_⟩) (fun h => ⟨bz0, hn ?_⟩)
  · grind
  · grind
theorem m_isFlavour {d : Nat} {Q : pt_Q} {m : pt_M} {r : Int32} (hp : 0 ≤ r ∧ r < 5 → Q (some (zI 1)) m) (hn : ¬ (0 ≤ r ∧ r < 5) → Q (some (zI 0)) m) : Sp (d + 2) nX7_isFlavour [zI r] m Q := by
  refine sX7_isFlavour ?_
  refine Go_rn [] 100 ?_
  refine m_inI (lo := 0) (hi := 4) (by decide) (by decide) (fun h => ⟨bz1, hp ?_⟩) (fun h => ⟨bz0, hn ?_⟩)
  · grind
  · grind
theorem lt_pred {x : Int32} {n : Nat} (hn : n < 2 ^ 31) : (0 ≤ x ∧ x ≤ nI n - 1) ↔ (0 ≤ x ∧ x < nI n) := by
  cases n with
  | zero =>
    constructor
    · intro h
      exfalso
      have h2 : nI 0 - 1 = (-1 : Int32) := by decide
      rw [h2] at h
      grind
    · intro h
      exfalso
      have h2 : nI 0 = (0 : Int32) := by decide
      rw [h2] at h
      grind
  | succ n =>
    rw [nI_pred]
    constructor
    · intro h
      refine ⟨h.1, ?_⟩
      obtain ⟨j, hj, e⟩ := nI_of (x := x) (by grind)
      subst e
      exact nI_lt (by have := (nI_leI hj (by omega)).mp h.2; omega) hn
    · intro h
      refine ⟨h.1, ?_⟩
      obtain ⟨j, hj, e⟩ := nI_of (x := x) (by grind)
      subst e
      exact nI_le (by have := (nI_ltI hj hn).mp h.2; omega) (by omega)
theorem m_isWall {d : Nat} {Q : pt_Q} {m : pt_M} {σ : Nat → Int32} (O : OkS σ) (hm : m 147 0 = σ 0) {w : Int32} (hp : 0 ≤ w ∧ w < σ 0 → Q (some (zI 1)) m) (hn : ¬ (0 ≤ w ∧ w < σ 0) → Q (some (zI 0)) m) : Sp (d + 2) nX7_isWall [zR 7 143, zI w] m Q := by
  have hb := O.2.1
  rw [O.1] at hp hn hm
  refine sX7_isWall ?_
  refine Go_rn [] 100 ?_
  refine ⟨0, rfl, by decide, ?_⟩
  refine m_inI (lo := 0) (hi := m 147 0 - 1) (by decide) rfl (fun h => ⟨bz1, hp ?_⟩) (fun h => ⟨bz0, hn ?_⟩)
  · rw [hm, lt_pred (by omega)] at h; exact h
  · rw [hm, lt_pred (by omega)] at h; exact h
theorem m_isReader {d : Nat} {Q : pt_Q} {m : pt_M} {σ : Nat → Int32} (O : OkS σ) (hm : m 147 1 = σ 1) {w : Int32} (hp : 0 ≤ w ∧ w < σ 1 → Q (some (zI 1)) m) (hn : ¬ (0 ≤ w ∧ w < σ 1) → Q (some (zI 0)) m) : Sp (d + 2) nX7_isReader [zR 7 143, zI w] m Q := by
  have hb := O.2.2.2.1
  rw [O.2.2.1] at hp hn hm
  refine sX7_isReader ?_
  refine Go_rn [] 100 ?_
  refine ⟨1, rfl, by decide, ?_⟩
  refine m_inI (lo := 0) (hi := m 147 1 - 1) (by decide) rfl (fun h => ⟨bz1, hp ?_⟩) (fun h => ⟨bz0, hn ?_⟩)
  · rw [hm, lt_pred (by omega)] at h; exact h
  · rw [hm, lt_pred (by omega)] at h; exact h
theorem m_isThere {d : Nat} {Q : pt_Q} {m : pt_M} {σ : Nat → Int32} (O : OkS σ) (hm : m 147 0 = σ 0) (hp : 0 < sw σ → Q (some (zI 1)) m) (hn : sw σ = 0 → Q (some (zI 0)) m) : Sp (d + 1) nX7_isThere [zR 7 143] m Q := by
  have hb := O.2.1
  rw [O.1] at hm
  refine sX7_isThere ?_
  refine Go_rn [] 100 ?_
  refine ⟨0, rfl, by decide, ?_⟩
  refine ⟨fun c => ⟨bz0, hn ?_⟩, fun c => ⟨bz1, hp ?_⟩⟩
  · rw [hm] at c
    rcases Nat.eq_zero_or_pos (sw σ) with q | q
    · exact q
    · exact absurd c (nI_nle q (by omega))
  · rw [hm] at c
    rcases Nat.eq_zero_or_pos (sw σ) with q | q
    · rw [q] at c; exact absurd (by decide : nI 0 ≤ 0) c
    · exact q
theorem m_isWalk {d : Nat} {Q : pt_Q} {m : pt_M} {σ : Nat → Int32} (O : OkS σ) (hm : RM m 147 0 σ) {r a b : Int32} (hp : walkP σ r a b → Q (some (zI 1)) m) (hn : ¬ walkP σ r a b → Q (some (zI 0)) m) : Sp (d + 3) nX7_isWalk [zR 7 143, zI r, zI a, zI b] m Q := by
  have h0 : m 147 0 = σ 0 := hm 0 (by omega)
  have h1 : m 147 1 = σ 1 := hm 1 (by omega)
  refine sX7_isWalk ?_
  refine Go_rn [] 100 ?_
  refine m_isReader O h1 (fun c1 => ?_) (fun c1 => ?_)
  · refine br_f (by decide) ?_
    refine m_isWall O h0 (fun c2 => ?_) (fun c2 => ?_)
    · refine br_f (by decide) ?_
      refine m_isWall O h0 (fun c3 => ?_) (fun c3 => ?_)
      · refine br_f (by decide) ?_
        exact ⟨bz1, hp ⟨c1, c2, c3⟩⟩
      · refine br_t rfl ?_
        exact ⟨bz0, hn (fun q => c3 q.2.2)⟩
    · refine br_t rfl ?_
      exact ⟨bz0, hn (fun q => c2 q.2.1)⟩
  · refine br_t rfl ?_
    exact ⟨bz0, hn (fun q => c1 q.1)⟩
/-! the class's checks -/
theorem c_isRow {d : Nat} {Q : pt_Q} {m : pt_M} {r : Int32} (hp : 0 ≤ r ∧ r < 8 → Q (some (zI 1)) m) (hn : ¬ (0 ≤ r ∧ r < 8) → Q (some (zI 0)) m) : Sp (d + 1) nX6_isRow [zI r] m Q := by
  refine sX6_isRow ?_
  refine Go_rn [] 100 ?_
  refine ⟨fun c => ⟨bz0, hn (by grind)⟩, fun c => ⟨fun c2 => ⟨bz0, hn (by grind)⟩, fun c2 => ⟨bz1, hp (by grind)⟩⟩⟩
theorem c_isFlavour {d : Nat} {Q : pt_Q} {m : pt_M} {r : Int32} (hp : 0 ≤ r ∧ r < 5 → Q (some (zI 1)) m) (hn : ¬ (0 ≤ r ∧ r < 5) → Q (some (zI 0)) m) : Sp (d + 1) nX6_isFlavour [zI r] m Q := by
  refine sX6_isFlavour ?_
  refine Go_rn [] 100 ?_
  refine ⟨fun c => ⟨bz0, hn (by grind)⟩, fun c => ⟨fun c2 => ⟨bz0, hn (by grind)⟩, fun c2 => ⟨bz1, hp (by grind)⟩⟩⟩
theorem c_hasWall {d : Nat} {Q : pt_Q} {m : pt_M} {b : Nat} {v : Int32} (hm : m b 0 = v) {w : Int32} (hp : 0 ≤ w ∧ w < v → Q (some (zI 1)) m) (hn : ¬ (0 ≤ w ∧ w < v) → Q (some (zI 0)) m) : Sp (d + 1) nX4_hasWall [zR 4 b, zI w] m Q := by
  subst hm
  refine sX4_hasWall ?_
  refine Go_rn [] 100 ?_
  refine ⟨fun c => ⟨bz0, hn (by grind)⟩, fun c => ⟨fun c2 => ⟨bz0, hn (by grind)⟩, fun c2 => ⟨bz1, hp (by grind)⟩⟩⟩
theorem c_hasReader {d : Nat} {Q : pt_Q} {m : pt_M} {b : Nat} {v : Int32} (hm : m b 1 = v) {w : Int32} (hp : 0 ≤ w ∧ w < v → Q (some (zI 1)) m) (hn : ¬ (0 ≤ w ∧ w < v) → Q (some (zI 0)) m) : Sp (d + 1) nX4_hasReader [zR 4 b, zI w] m Q := by
  subst hm
  refine sX4_hasReader ?_
  refine Go_rn [] 100 ?_
  refine ⟨fun c => ⟨bz0, hn (by grind)⟩, fun c => ⟨fun c2 => ⟨bz0, hn (by grind)⟩, fun c2 => ⟨bz1, hp (by grind)⟩⟩⟩
theorem c_hasFlavour {d : Nat} {Q : pt_Q} {m : pt_M} {b : Nat} {v : Int32} (hm : m b 0 = v) {w f : Int32} (hp : (0 ≤ w ∧ w < v) ∧ (0 ≤ f ∧ f < 5) → Q (some (zI 1)) m) (hn : ¬ ((0 ≤ w ∧ w < v) ∧ (0 ≤ f ∧ f < 5)) → Q (some (zI 0)) m) : Sp (d + 2) nX4_hasFlavour [zR 4 b, zI w, zI f] m Q := by
  refine sX4_hasFlavour ?_
  refine Go_rn [] 100 ?_
  refine c_hasWall hm (fun c => ?_) (fun c => ?_)
  · refine br_f (by decide) ?_
    refine c_isFlavour (fun c2 => ?_) (fun c2 => ?_)
    · refine br_f (by decide) ?_
      exact ⟨bz1, hp ⟨c, c2⟩⟩
    · refine br_t rfl ?_
      exact ⟨bz0, hn (fun q => c2 q.2)⟩
  · refine br_t rfl ?_
    exact ⟨bz0, hn (fun q => c q.1)⟩
theorem c_canWalk {d : Nat} {Q : pt_Q} {m : pt_M} {σ : Nat → Int32} (hm : RC m 24 σ) {r a b : Int32} (hp : walkP σ r a b → Q (some (zI 1)) m) (hn : ¬ walkP σ r a b → Q (some (zI 0)) m) : Sp (d + 2) nX6_canWalk [zR 6 0, zI r, zI a, zI b] m Q := by
  refine sX6_canWalk ?_
  refine Go_rn [] 100 ?_
  refine c_hasReader hm.2.1 (fun c1 => ?_) (fun c1 => ?_)
  · refine br_f (by decide) ?_
    refine c_hasWall hm.1 (fun c2 => ?_) (fun c2 => ?_)
    · refine br_f (by decide) ?_
      refine c_hasWall hm.1 (fun c3 => ?_) (fun c3 => ?_)
      · refine br_f (by decide) ?_
        exact ⟨bz1, hp ⟨c1, c2, c3⟩⟩
      · refine br_t rfl ?_
        exact ⟨bz0, hn (fun q => c3 q.2.2)⟩
    · refine br_t rfl ?_
      exact ⟨bz0, hn (fun q => c2 q.2.1)⟩
  · refine br_t rfl ?_
    exact ⟨bz0, hn (fun q => c1 q.1)⟩
