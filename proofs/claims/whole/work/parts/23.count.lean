/-! 23.count: count, on both sides -/
def cntR (R : Nat → pt_rw) : Nat → Int32
  | 0 => 0
  | k + 1 => if (R k).isSome = true then cntR R k + 1 else cntR R k
def sumS (σ : pt_sg) : Nat → Int32
  | 0 => 0
  | k + 1 => sumS σ k + σ (3 + k)
theorem sumS_out {σ : pt_sg} (O : OkS σ) : ∀ n, 5 * sw σ + n ≤ 40 → sumS σ (5 * sw σ + n) = sumS σ (5 * sw σ)
  | 0, _ => rfl
  | n + 1, h => by
    show sumS σ (5 * sw σ + n) + σ (3 + (5 * sw σ + n)) = _
    rw [sumS_out O n (by omega), O.2.2.2.2.2.2.1 _ (by omega) (by omega)]
    exact Int32.add_zero _
theorem sumS_40 {σ : pt_sg} (O : OkS σ) : sumS σ (5 * sw σ) = sumS σ 40 := by
  have h8 := O.2.1
  have := sumS_out O (40 - 5 * sw σ) (by omega)
  rw [show 5 * sw σ + (40 - 5 * sw σ) = 40 by omega] at this
  exact this.symm
theorem c_cnt_l {d : Nat} {Q : pt_Q} {m : pt_M} {R : Nat → pt_rw} (hR : cR m R) (h : Q (some (zI (cntR R 8))) m) : ∀ (n k : Nat) (x y : Int32), k + n = 8 → x = nI k → y = cntR R k →
    Go (Sp d) tX6_rowsThere Q 4 [some (zR 6 0), some (zI y), some (zI x)] [] m := by
  intro n
  induction n with
  | zero =>
    intro k x y hk hx hy
    have ek : k = 8 := by omega
    subst ek hx hy
    refine Go_rn [] 100 ?_
    refine br_t (nI_le (b := 8) (a := 8) (by omega) (by omega)) ?_
    exact h
  | succ n ih =>
    intro k x y hk hx hy
    subst hx
    refine Go_rn [4] 100 ?_
    refine br_f (nI_ge (a := k) (b := 8) (by omega) (by omega)) ?_
    refine ⟨k, rfl, by omega, ?_⟩
    cases e : R k with
    | none =>
      refine br_t (cR_none hR (by omega) e) ?_
      refine ih (k + 1) _ _ (by omega) (nI_1 k) ?_
      show y = if (R k).isSome = true then cntR R k + 1 else cntR R k
      rw [e]
      exact hy
    | some v =>
      obtain ⟨l, nn, f⟩ := v
      have g := (cR_some hR (by omega) e).1
      refine br_f (fun q => absurd (g.symm.trans q) (by decide)) ?_
      refine ih (k + 1) _ _ (by omega) (nI_1 k) ?_
      show y + 1 = if (R k).isSome = true then cntR R k + 1 else cntR R k
      rw [e, hy]
      rfl
theorem c_rowsThere {d : Nat} {Q : pt_Q} {m : pt_M} {R : Nat → pt_rw} (hR : cR m R) (h : Q (some (zI (cntR R 8))) m) : Sp (d + 1) nX6_rowsThere [zR 6 0] m Q := by
  refine sX6_rowsThere ?_
  refine Go_rn [4] 100 ?_
  exact c_cnt_l hR h 8 0 _ _ (by omega) rfl rfl
theorem c_sia_l {d : Nat} {Q : pt_Q} {m : pt_M} {σ : pt_sg} (O : OkS σ) (hR : RC m 24 σ) (h : Q (some (zI (sumS σ 40))) m) : ∀ (n k : Nat) (x y : Int32), k + n = 5 * sw σ → x = nI k → y = sumS σ k →
    Go (Sp d) tX4_strengthInAll Q 4 [some (zR 4 24), some (zI y), some (zI x)] [] m := by
  have h8 := O.2.1
  have e0 : m 24 0 * 5 = nI (5 * sw σ) := by
    rw [hR.1, O.1]
    show nI (sw σ) * nI 5 = _
    rw [pk_mul, Nat.mul_comm]
  intro n
  induction n with
  | zero =>
    intro k x y hk hx hy
    have ek : k = 5 * sw σ := by omega
    subst hx hy
    refine Go_rn [] 100 ?_
    refine br_t (by show m 24 0 * 5 ≤ nI k; rw [e0]; exact nI_le (by omega) (by omega)) ?_
    refine qe ?_ h
    rw [ek, sumS_40 O]
  | succ n ih =>
    intro k x y hk hx hy
    subst hx hy
    refine Go_rn [4] 100 ?_
    refine br_f (by show ¬ m 24 0 * 5 ≤ nI k; rw [e0]; exact nI_ge (by omega) (by omega)) ?_
    refine ⟨k, rfl, by omega, ?_⟩
    refine ih (k + 1) _ _ (by omega) (nI_1 k) ?_
    show sumS σ k + m 25 k = sumS σ k + σ (3 + k)
    rw [hR.2.2.2.1 k (by omega)]
theorem c_strengthInAll {d : Nat} {Q : pt_Q} {m : pt_M} {σ : pt_sg} (O : OkS σ) (hR : RC m 24 σ) (h : Q (some (zI (sumS σ 40))) m) : Sp (d + 1) nX4_strengthInAll [zR 4 24] m Q := by
  refine sX4_strengthInAll ?_
  refine Go_rn [4] 100 ?_
  exact c_sia_l O hR h (5 * sw σ) 0 _ _ (by omega) rfl rfl
noncomputable def countN (a : pt_al) : Nat → Int32
  | 0 => cntR (aR a) 8
  | 1 => aS a 0
  | 2 => aS a 1
  | 3 => aS a 2
  | 4 => nI (aA a).1
  | 5 => sumS (aS a) 40
  | _ => nI (aT a).1
noncomputable def countX (a : pt_al) (x : Int32) : Int32 := cif (0 ≤ x ∧ x < 7) (countN a (xN x)) (-1000001)
theorem in7 {j : Nat} (h : j < 7) : j = 0 ∨ j = 1 ∨ j = 2 ∨ j = 3 ∨ j = 4 ∨ j = 5 ∨ j = 6 := by omega
theorem C_count {d : Nat} {Q : pt_Q} {m : pt_M} {a : pt_al} (O : OK a) (hC : IC m a) {x : Int32} (h : ∀ m1, kM m m1 → IC m1 a → Q (some (zI (countX a x))) m1) : Sp (d + 4) nX6_count [zR 6 0, zI x] m Q := by
  have h := h m kM_rf hC
  unfold countX at h
  refine sX6_count ?_
  refine Go_rn [1] 100 ?_
  by_cases c : 0 ≤ x ∧ x < 7
  · rw [cif_t c] at h
    obtain ⟨j, hj, rfl⟩ := ixof c.1 (n := 7) c.2 (by omega)
    rw [xN_nI (by omega)] at h
    rcases in7 hj with rfl | rfl | rfl | rfl | rfl | rfl | rfl
    · refine Go_tsw rfl 44 (pt_tsw_n (by omega)) ?_
      refine Go_rn [] 100 ?_
      exact c_rowsThere hC.2.2.2.1 h
    · refine Go_tsw rfl 49 (pt_tsw_n (by omega)) ?_
      refine Go_rn [] 100 ?_
      exact qe hC.1.1 h
    · refine Go_tsw rfl 57 (pt_tsw_n (by omega)) ?_
      refine Go_rn [] 100 ?_
      exact qe hC.1.2.1 h
    · refine Go_tsw rfl 65 (pt_tsw_n (by omega)) ?_
      refine Go_rn [] 100 ?_
      exact qe hC.1.2.2.1 h
    · refine Go_tsw rfl 73 (pt_tsw_n (by omega)) ?_
      refine Go_rn [] 100 ?_
      exact qe hC.2.1.1 h
    · refine Go_tsw rfl 81 (pt_tsw_n (by omega)) ?_
      refine Go_rn [] 100 ?_
      exact c_strengthInAll O.1 hC.1 h
    · refine Go_tsw rfl 89 (pt_tsw_n (by omega)) ?_
      refine Go_rn [] 100 ?_
      exact qe hC.2.2.2.2.1.1 h
  · rw [cif_f c] at h
    refine Go_tsw rfl 97 (pt_tsw_d (n := 7) rfl (by omega) c) ?_
    refine Go_rn [] 100 ?_
    exact h
theorem m_cnt_l {d : Nat} {Q : pt_Q} {m : pt_M} {R : Nat → pt_rw} {v : Int32} (O : OkR R) (hR : mR m R) (h : Q (some (zI (cntR R 8))) m) : ∀ (n k : Nat) (x y : Int32), k + n = 8 → x = nI k → y = cntR R k →
    Go (Sp d) tX7_count Q 54 [some (zR 7 143), some (zI v), some (zI y), some (zI x)] [] m := by
  intro n
  induction n with
  | zero =>
    intro k x y hk hx hy
    have ek : k = 8 := by omega
    subst ek hx hy
    refine Go_rn [] 100 ?_
    refine br_t (nI_le (b := 8) (a := 8) (by omega) (by omega)) ?_
    exact h
  | succ n ih =>
    intro k x y hk hx hy
    subst hx
    refine Go_rn [54] 100 ?_
    refine br_f (nI_ge (a := k) (b := 8) (by omega) (by omega)) ?_
    refine ⟨k, rfl, by omega, ?_⟩
    cases e : R k with
    | none =>
      have g := (hR k (by omega)).1 e
      refine br_t (by show m 144 k < 0; rw [g]; decide) ?_
      refine ih (k + 1) _ _ (by omega) (nI_1 k) ?_
      show y + 0 = if (R k).isSome = true then cntR R k + 1 else cntR R k
      rw [e, hy]
      exact Int32.add_zero _
    | some v =>
      obtain ⟨l, nn, f⟩ := v
      have g := ((hR k (by omega)).2 l nn f e).1
      have g2 := (O k (by omega) l nn f e).1
      refine br_f (by show ¬ m 144 k < 0; rw [g]; exact nI_pos (by omega)) ?_
      refine ih (k + 1) _ _ (by omega) (nI_1 k) ?_
      show y + 1 = if (R k).isSome = true then cntR R k + 1 else cntR R k
      rw [e, hy]
      rfl
theorem m_sia_l {d : Nat} {Q : pt_Q} {m : pt_M} {σ : pt_sg} {v : Int32} (hR : RM m 147 0 σ) (h : Q (some (zI (sumS σ 40))) m) : ∀ (n k : Nat) (x y : Int32), k + n = 40 → x = nI k → y = sumS σ k →
    Go (Sp d) tX7_count Q 101 [some (zR 7 143), some (zI v), some (zI y), some (zI x)] [] m := by
  intro n
  induction n with
  | zero =>
    intro k x y hk hx hy
    have ek : k = 40 := by omega
    subst ek hx hy
    refine Go_rn [] 100 ?_
    refine br_t (nI_le (b := 40) (a := 40) (by omega) (by omega)) ?_
    exact h
  | succ n ih =>
    intro k x y hk hx hy
    subst hx hy
    refine Go_rn [101] 100 ?_
    refine br_f (nI_ge (a := k) (b := 40) (by omega) (by omega)) ?_
    refine ⟨3 + k, nI_add 3 k, by omega, ?_⟩
    refine ih (k + 1) _ _ (by omega) (nI_1 k) ?_
    show sumS σ k + m 147 (3 + k) = sumS σ k + σ (3 + k)
    rw [RM_at hR (by omega)]
theorem M_count {d : Nat} {Q : pt_Q} {m : pt_M} {a : pt_al} (O : OK a) (hM : IM m a) {x : Int32} (h : ∀ m1, kC m m1 → IM m1 a → Q (some (zI (countX a x))) m1) : Sp (d + 4) nX7_count [zR 7 143, zI x] m Q := by
  obtain ⟨t1, t2⟩ := IM_th hM
  have h := h _ t2 t1
  unfold countX at h
  refine sX7_count ?_
  refine Go_rn [8] 100 ?_
  by_cases c : 0 ≤ x ∧ x < 7
  · rw [cif_t c] at h
    obtain ⟨j, hj, rfl⟩ := ixof c.1 (n := 7) c.2 (by omega)
    rw [xN_nI (by omega)] at h
    rcases in7 hj with rfl | rfl | rfl | rfl | rfl | rfl | rfl
    · refine Go_tsw rfl 52 (pt_tsw_n (by omega)) ?_
      refine Go_rn [54] 100 ?_
      exact m_cnt_l O.2.2.2.1 t1.2.2.2.1 h 8 0 _ _ (by omega) rfl rfl
    · refine Go_tsw rfl 85 (pt_tsw_n (by omega)) ?_
      refine Go_rn [] 100 ?_
      exact ⟨0, by decide, by decide, qe (RM_at t1.1 (by omega)) h⟩
    · refine Go_tsw rfl 85 (pt_tsw_n (by omega)) ?_
      refine Go_rn [] 100 ?_
      exact ⟨1, by decide, by decide, qe (RM_at t1.1 (by omega)) h⟩
    · refine Go_tsw rfl 85 (pt_tsw_n (by omega)) ?_
      refine Go_rn [] 100 ?_
      exact ⟨2, by decide, by decide, qe (RM_at t1.1 (by omega)) h⟩
    · refine Go_tsw rfl 94 (pt_tsw_n (by omega)) ?_
      refine Go_rn [] 100 ?_
      exact qe t1.2.1.1 h
    · refine Go_tsw rfl 99 (pt_tsw_n (by omega)) ?_
      refine Go_rn [101] 100 ?_
      exact m_sia_l t1.1 h 40 0 _ _ (by omega) rfl rfl
    · refine Go_tsw rfl 126 (pt_tsw_n (by omega)) ?_
      refine Go_rn [] 100 ?_
      exact qe t1.2.2.2.2.1.1 h
  · rw [cif_f c] at h
    refine Go_tsw rfl 131 (pt_tsw_d (n := 7) rfl (by omega) c) ?_
    refine Go_rn [] 100 ?_
    exact h
