/-! 43.morder: order, both sides -/
noncomputable def orderX (a : pt_al) (r s k : Int32) : Int32 := cif ((0 ≤ r ∧ r < aS a 1) ∧ (1 ≤ s ∧ s ≤ 30) ∧ (0 ≤ k ∧ k < 5)) (orR (avB (pK (aS a) (xN r)) (pU (aS a) (xN r)) (pA (aS a) (xN r)) s) (xN k) (-1000000) 5 0 []) (-1000001)
theorem mkP_0 : mkP 0 [] := ⟨by omega, fun f hf => by simp⟩
theorem C_order {d : Nat} {Q : pt_Q} {m : pt_M} {a : pt_al} (O : OK a) (hC : IC m a) {r s k : Int32} (h : ∀ m1, kM m m1 → IC m1 a → Q (some (zI (orderX a r s k))) m1) : Sp (d + 5) nX6_order [zR 6 0, zI r, zI s, zI k] m Q := by
  unfold orderX at h
  refine sX6_order ?_
  refine Go_rn [54] 100 ?_
  refine c_hasReader hC.1.2.1 (fun c => ?_) (fun c => ?_)
  · refine br_f (by decide) ?_
    refine ⟨fun c2 => ?_, fun c2 => ⟨fun c3 => ?_, fun c3 => ?_⟩⟩
    · rw [cif_f (fun q => absurd q.2.1.1 (Int32.not_le.mpr c2))] at h
      exact h m kM_rf hC
    · rw [cif_f (fun q => absurd q.2.1.2 (Int32.not_le.mpr c3))] at h
      exact h m kM_rf hC
    · refine c_isFlavour (fun c4 => ?_) (fun c4 => ?_)
      · refine br_f (by decide) ?_
        have cs : 1 ≤ s ∧ s ≤ 30 := ⟨Int32.not_lt.mp c2, Int32.not_lt.mp c3⟩
        rw [cif_t ⟨c, cs, c4⟩] at h
        obtain ⟨r1, h1, rfl⟩ := readN O.1 c
        obtain ⟨k1, hk, rfl⟩ := flavN c4
        have h9 := O.1.2.2.2.1
        rw [xN_nI (by omega), xN_nI (by omega)] at h
        refine c_take O.1 hC.1 h1 (fun m2 fr2 p2 => ?_)
        refine c_order_l (d := d + 2) hk 5 0 _ _ _ 0 [] _ (by omega) rfl rfl (fun t ht => absurd ht (by simp)) mkP_0 p2 (fun m3 fr3 => ?_)
        obtain ⟨l1, l2⟩ := IC_scr hC (m1 := m3) (fun o k q => by rw [fr3 o k (by unfold Tpalm; omega), fr2 o k (by unfold Ttake; omega)])
        exact h m3 l2 l1
      · refine br_t rfl ?_
        rw [cif_f (fun q => c4 q.2.2)] at h
        exact h m kM_rf hC
  · refine br_t rfl ?_
    rw [cif_f (fun q => c q.1)] at h
    exact h m kM_rf hC
theorem rem10 {a : Nat} (h : a < 2 ^ 31) : nI a - nI a / 10 * 10 = nI (a % 10) := pk_rem (d := 10) h (by omega) (by omega)
theorem div10 {a : Nat} (h : a < 2 ^ 31) : nI a / 10 = nI (a / 10) := pk_div (d := 10) h (by omega) (by omega)
theorem m_io_l {d : Nat} {Q : pt_Q} {N : Nat} {v : Int32} {m : pt_M} (hN : N < 2 ^ 31) (hp : ordB N = true → Q (some (zI 1)) m) (hn : ¬ ordB N = true → Q (some (zI 0)) m) :
    ∀ (n k : Nat) (x y z : Int32), k + n = 5 → x = nI k → y = nI (os (fun j => N / 10 ^ j % 10) k) → z = nI (N / 10 ^ k) → Go (Sp d) tX7_isOrder Q 6 [some (zI v), some (zI y), some (zI z), some (zI x)] [] m := by
  intro n
  induction n with
  | zero =>
    intro k x y z hk hx hy hz
    have ek : k = 5 := by omega
    subst ek hx hy hz
    have h32 := (os_inv (fun j => N / 10 ^ j % 10) 5).1
    refine Go_rn [] 100 ?_
    refine br_t (nI_le (a := 5) (b := 5) (by omega) (by omega)) ?_
    refine ⟨fun c => ?_, fun c => ?_⟩
    · have c1 : os (fun j => N / 10 ^ j % 10) 5 = 31 := nI_inj (show nI _ = nI 31 from c) (by omega) (by omega)
      exact ⟨bz1, hp (decide_eq_true c1)⟩
    · have c1 : ¬ os (fun j => N / 10 ^ j % 10) 5 = 31 := fun q => c (by rw [q]; rfl)
      exact ⟨bz0, hn (fun q => c1 (of_decide_eq_true q))⟩
  | succ n ih =>
    intro k x y z hk hx hy hz
    subst hx hz
    have h32 := (os_inv (fun j => N / 10 ^ j % 10) k).1
    have ha : N / 10 ^ k < 2 ^ 31 := Nat.lt_of_le_of_lt (Nat.div_le_self _ _) hN
    have e10 := rem10 ha
    have eo : os (fun j => N / 10 ^ j % 10) (k + 1) = if N / 10 ^ k % 10 < 5 then os (fun j => N / 10 ^ j % 10) k ||| 2 ^ (N / 10 ^ k % 10) else os (fun j => N / 10 ^ j % 10) k := rfl
    have ed : nI (N / 10 ^ k) / 10 = nI (N / 10 ^ (k + 1)) := by
      rw [div10 ha, Nat.div_div_eq_div_mul, Nat.pow_succ]
    refine Go_rn [6] 100 ?_
    refine br_f (nI_ge (a := k) (b := 5) (by omega) (by omega)) ?_
    refine ⟨by decide, ?_⟩
    refine ⟨fun c => ?_, fun c => ?_⟩
    · have c1 : nI 5 ≤ nI (N / 10 ^ k % 10) := by rw [← e10]; exact c
      rw [nI_leI (by omega) (by omega)] at c1
      refine ⟨by decide, ?_⟩
      refine ih (k + 1) _ _ _ (by omega) (nI_1 k) ?_ ed
      rw [eo, if_neg (by omega), ← hy]
      exact Int32.or_zero
    · have c1 : ¬ nI 5 ≤ nI (N / 10 ^ k % 10) := by rw [← e10]; exact c
      rw [nI_leI (by omega) (by omega)] at c1
      refine ⟨by decide, by decide, ?_⟩
      refine ih (k + 1) _ _ _ (by omega) (nI_1 k) ?_ ed
      show y ||| (1 <<< ((nI (N / 10 ^ k) - nI (N / 10 ^ k) / 10 * 10) &&& 31)) = _
      rw [e10, eo, if_pos (by omega), hy]
      exact (mask_or _ h32 _ (by omega)).2.1
theorem m_isOrder {d : Nat} {Q : pt_Q} {N : Nat} {m : pt_M} (hN : N < 2 ^ 31) (hp : ordB N = true → Q (some (zI 1)) m) (hn : ¬ ordB N = true → Q (some (zI 0)) m) : Sp (d + 1) nX7_isOrder [zI (nI N)] m Q := by
  refine sX7_isOrder ?_
  refine Go_rn [6] 100 ?_
  exact m_io_l hN hp hn 5 0 _ _ _ (by omega) rfl rfl (by rw [Nat.pow_zero, Nat.div_one])
def lfN (N : Nat) : Nat → Nat
  | 0 => N
  | k + 1 => lfN N k % 10000 * 10
theorem lfN_lt {N : Nat} (hN : N < 100000) : ∀ k, lfN N k < 100000
  | 0 => hN
  | k + 1 => by
    show lfN N k % 10000 * 10 < 100000
    omega
theorem lfN_dgt {N k : Nat} (hN : N < 100000) (hk : k < 5) : lfN N k / 10000 = dgt N k := by
  rcases in5 hk with rfl | rfl | rfl | rfl | rfl
  · rw [dgt_0]; simp only [lfN]; omega
  · rw [dgt_1]; simp only [lfN]; omega
  · rw [dgt_2]; simp only [lfN]; omega
  · rw [dgt_3]; simp only [lfN]; omega
  · rw [dgt_4]; simp only [lfN]; omega
def lstN (N : Nat) : Nat → List Nat
  | 0 => []
  | k + 1 => dgt N k :: lstN N k
theorem lstN_len (N : Nat) : ∀ k, (lstN N k).length = k
  | 0 => rfl
  | k + 1 => by
    show (lstN N k).length + 1 = k + 1
    rw [lstN_len N k]
theorem lstN_mem {N t : Nat} : ∀ k, t ∈ lstN N k → ∃ i, i < k ∧ t = dgt N i
  | 0, h => absurd h (by simp [lstN])
  | k + 1, h => by
    rcases List.mem_cons.mp h with q | q
    · exact ⟨k, by omega, q⟩
    · obtain ⟨i, h1, h2⟩ := lstN_mem k q
      exact ⟨i, by omega, h2⟩
theorem orS_ok {kd af : Int32} {us : Nat → Int32} (h : okU us) : ∀ L, okU (orS kd us af L).1
  | [] => h
  | _ :: L => usd_ok (orS_ok h L)
def flo (av : Nat → Nat → Bool) (N k : Nat) (z : Int32) : Prop := (z = 1 ∧ ∀ p, p < k → av p (dgt N p) = true) ∨ (z = 0 ∧ ∃ p, p < k ∧ ¬ av p (dgt N p) = true)
theorem m_goes_l {d : Nat} {Q : pt_Q} {kd af0 s : Int32} {us0 : Nat → Int32} {N : Nat} {v1 v3 : Int32} (hN : N < 100000) (hO : ordB N = true) (hu : okU us0) :
    ∀ (n k : Nat) (x y z : Int32) (g7 : Option pt_V) (m : pt_M), k + n = 5 → x = nI k → y = nI (lfN N k) → flo (avB kd us0 af0 s) N k z → PM m kd (orS kd us0 af0 (lstN N k)).1 (orS kd us0 af0 (lstN N k)).2 →
    (∀ m1 z, fr Tmp m m1 → flo (avB kd us0 af0 s) N 5 z → Q (some (zI z)) m1) →
    Go (Sp (d + 1)) tX7_goes Q 14 [some (zR 7 143), some (zI v1), some (zI s), some (zI v3), some (zI y), some (zI z), some (zI x), g7] [] m := by
  obtain ⟨o1, o2⟩ := ordB_iff.mp hO
  intro n
  induction n with
  | zero =>
    intro k x y z g7 m hk hx hy hz hP h
    have ek : k = 5 := by omega
    subst ek hx
    refine Go_rn [] 100 ?_
    refine br_t (nI_le (a := 5) (b := 5) (by omega) (by omega)) ?_
    refine ⟨?_, h m z fr_rf hz⟩
    rcases hz with ⟨e, -⟩ | ⟨e, -⟩
    · rw [e]; exact bz1
    · rw [e]; exact bz0
  | succ n ih =>
    intro k x y z g7 m hk hx hy hz hP h
    subst hx hy
    have hk5 : k < 5 := by omega
    have hl := lfN_lt hN k
    have ef : nI (lfN N k) / 10000 = nI (dgt N k) := by
      rw [← lfN_dgt hN hk5]
      exact pk_div (d := 10000) (by omega) (by omega) (by omega)
    have el : (nI (lfN N k) - nI (lfN N k) / 10000 * 10000) * 10 = nI (lfN N (k + 1)) := by
      have := pk_rem (a := lfN N k) (d := 10000) (by omega) (by omega) (by omega)
      show (nI (lfN N k) - nI (lfN N k) / nI 10000 * nI 10000) * nI 10 = nI (lfN N k % 10000 * 10)
      rw [this, pk_mul]
    have hne : ¬ dgt N k ∈ lstN N k := fun q => by
      obtain ⟨i, h1, h2⟩ := lstN_mem k q
      exact o2 i k h1 hk5 h2.symm
    have hlt : ∀ t, t ∈ lstN N k → t < 5 := fun t ht => by
      obtain ⟨i, h1, h2⟩ := lstN_mem k ht
      rw [h2]
      exact o1 i (by omega)
    have e9 := orS_fl (kd := kd) (af := af0) (s := s) (us := us0) (o1 k hk5) (lstN N k) hne hlt
    rw [lstN_len] at e9
    have key : ∀ z2, flo (avB kd us0 af0 s) N (k + 1) z2 → Go (Sp (d + 1)) tX7_goes Q 61 [some (zR 7 143), some (zI v1), some (zI s), some (zI v3), some (zI (nI (lfN N (k + 1)))), some (zI z2), some (zI (nI k)), some (zI (nI (dgt N k)))] [] m := by
      intro z2 hz2
      refine Go_rn [14] 100 ?_
      refine m_getsUsed (orS_ok hu _) hP (fun m1 f1 p1 => ?_)
      exact ih (k + 1) _ _ _ _ _ (by omega) (nI_1 k) rfl hz2 p1 (fun m2 z f2 => h m2 z (fun o j ho => (f2 o j ho).trans (f1 o j ho)))
    refine Go_rn [28] 100 ?_
    refine br_f (nI_ge (a := k) (b := 5) (by omega) (by omega)) ?_
    refine ⟨by decide, ?_⟩
    show Go (Sp (d + 1)) tX7_goes Q 28 [some (zR 7 143), some (zI v1), some (zI s), some (zI v3), some (zI (nI (lfN N k))), some (zI z), some (zI (nI k)), some (zI (nI (lfN N k) / 10000))] [] m
    rw [ef]
    refine Go_rn [39] 100 ?_
    refine ⟨by decide, ?_⟩
    show Go (Sp (d + 1)) tX7_goes Q 39 [some (zR 7 143), some (zI v1), some (zI s), some (zI v3), some (zI ((nI (lfN N k) - nI (lfN N k) / 10000 * 10000) * 10)), some (zI z), some (zI (nI k)), some (zI (nI (dgt N k)))] [] m
    rw [el]
    refine Go_rn [61] 100 ?_
    refine ⟨fun c => ?_, fun c => ?_⟩
    · have c1 : z = 0 := c
      refine key 0 (Or.inr ⟨rfl, ?_⟩)
      rcases hz with ⟨e, q⟩ | ⟨e, p, q1, q2⟩
      · rw [c1] at e; exact absurd e (by decide)
      · exact ⟨p, by omega, q2⟩
    · refine m_feels (o1 k hk5) hP.1 (hP.2.2 _ (o1 k hk5)) hP.2.1 ?_
      rw [e9]
      have hz1 : ∀ p, p < k → avB kd us0 af0 s p (dgt N p) = true := by
        rcases hz with ⟨e, q⟩ | ⟨e, p, q1, q2⟩
        · exact q
        · exact absurd e c
      refine ⟨fun c2 => ?_, fun c2 => ?_⟩
      · have c3 : fA kd us0 af0 s k (dgt N k) ≤ 0 := c2
        exact key 0 (Or.inr ⟨rfl, k, by omega, fun q => absurd (of_decide_eq_true q) (Int32.not_lt.mpr c3)⟩)
      · have c3 : ¬ fA kd us0 af0 s k (dgt N k) ≤ 0 := c2
        refine key 1 (Or.inl ⟨rfl, fun p hp => ?_⟩)
        by_cases e : p = k
        · rw [e]; exact decide_eq_true (Int32.not_le.mp c3)
        · exact hz1 p (by omega)
theorem m_goes {d : Nat} {Q : pt_Q} {m : pt_M} {σ : pt_sg} {r N : Nat} {s : Int32} (O : OkS σ) (hR : RM m 147 0 σ) (hr : r < sr σ) (hN : N < 100000) (hO : ordB N = true)
    (hp : ∀ m1, fr Tlay m m1 → goeB (avB (pK σ r) (pU σ r) (pA σ r) s) N = true → Q (some (zI 1)) m1) (hn : ∀ m1, fr Tlay m m1 → ¬ goeB (avB (pK σ r) (pU σ r) (pA σ r) s) N = true → Q (some (zI 0)) m1) : Sp (d + 3) nX7_goes [zR 7 143, zI (nI r), zI s, zI (nI N)] m Q := by
  refine sX7_goes ?_
  refine Go_rn [14] 100 ?_
  refine m_layPalm O hR hr (fun m1 f1 p1 => ?_)
  refine m_goes_l (d := d + 1) (kd := pK σ r) (af0 := pA σ r) (us0 := pU σ r) hN hO (pU_ok O hr) 5 0 _ _ _ _ _ (by omega) rfl rfl (Or.inl ⟨rfl, fun p hp => absurd hp (Nat.not_lt_zero p)⟩) p1 (fun m2 z f2 hz => ?_)
  have f3 : fr Tlay m m2 := fun o k ho => by
    unfold Tlay at ho
    rw [f2 o k (by unfold Tmp; omega), f1 o k (by unfold Tlay; omega)]
  rcases hz with ⟨e, q⟩ | ⟨e, p, q1, q2⟩
  · rw [e]
    exact hp m2 f3 (goeB_iff.mpr q)
  · rw [e]
    exact hn m2 f3 (fun q => q2 (goeB_iff.mp q p q1))
theorem m_od_l {d : Nat} {Q : pt_Q} {k : Nat} {v1 v2 v4 : Int32} {m : pt_M} (hk : k < 5) : ∀ (j a : Nat) (x y : Int32), a < 2 ^ 31 → k + j < 5 → x = nI (k + j) → y = nI a → Q (some (zI (nI (a / 10 ^ j % 10)))) m → Go (Sp d) tX7_order Q 73 [some (zR 7 143), some (zI v1), some (zI v2), some (zI (nI k)), some (zI v4), some (zI y), some (zI x)] [] m := by
  intro j
  induction j with
  | zero =>
    intro a x y ha hj hx hy h
    subst hx hy
    refine Go_rn [] 100 ?_
    refine br_t (nI_le (a := k + 0) (b := k) (by omega) (by omega)) ?_
    refine ⟨by decide, ?_⟩
    refine qe (rem10 ha) ?_
    rw [Nat.pow_zero, Nat.div_one] at h
    exact h
  | succ j ih =>
    intro a x y ha hj hx hy h
    subst hx hy
    refine Go_rn [73] 100 ?_
    refine br_f (nI_ge (a := k) (b := k + (j + 1)) (by omega) (by omega)) ?_
    refine ⟨by decide, ?_⟩
    refine ih (a / 10) _ _ (by omega) (by omega) (pk_m1 (k + j)) (div10 ha) ?_
    rw [Nat.div_div_eq_div_mul]
    rw [Nat.pow_succ, Nat.mul_comm] at h
    exact h
theorem m_order_l {d : Nat} {Q : pt_Q} {σ : pt_sg} {r k : Nat} {s : Int32} (O : OkS σ) (hr : r < sr σ) (hk : k < 5) : ∀ (n N : Nat) (x : Int32) (g5 g6 : Option pt_V) (m : pt_M), N + n = 43211 → x = nI N → RM m 147 0 σ →
    (∀ m1, fr Tlay m m1 → Q (some (zI (fnd (fun n => ordB n && goeB (avB (pK σ r) (pU σ r) (pA σ r) s) n) (fun n => nI (dgt n k)) n N))) m1) →
    Go (Sp (d + 3)) tX7_order Q 40 [some (zR 7 143), some (zI (nI r)), some (zI s), some (zI (nI k)), some (zI x), g5, g6] [] m := by
  intro n
  induction n with
  | zero =>
    intro N x g5 g6 m hN hx hR h
    subst hx
    refine Go_rn [] 100 ?_
    refine br_t (nI_lt (a := 43210) (b := N) (by omega) (by omega)) ?_
    exact h m fr_rf
  | succ n ih =>
    intro N x g5 g6 m hN hx hR h
    subst hx
    have e : fnd (fun n => ordB n && goeB (avB (pK σ r) (pU σ r) (pA σ r) s) n) (fun n => nI (dgt n k)) (n + 1) N = if (ordB N && goeB (avB (pK σ r) (pU σ r) (pA σ r) s) N) = true then nI (dgt N k) else fnd (fun n => ordB n && goeB (avB (pK σ r) (pU σ r) (pA σ r) s) n) (fun n => nI (dgt n k)) n (N + 1) := rfl
    rw [e] at h
    refine Go_rn [40, 73] 100 ?_
    refine br_f (nI_nlt (a := 43210) (b := N) (by omega) (by omega)) ?_
    refine m_isOrder (by omega) (fun c => ?_) (fun c => ?_)
    · refine br_f (by decide) ?_
      refine m_goes O hR hr (by omega) c (fun m1 f1 c2 => ?_) (fun m1 f1 c2 => ?_)
      · refine br_f (by decide) ?_
        rw [if_pos (by rw [Bool.and_eq_true]; exact ⟨c, c2⟩)] at h
        refine m_od_l hk (4 - k) N _ _ (by omega) (by omega) (by rw [show k + (4 - k) = 4 by omega]; rfl) rfl ?_
        exact h m1 f1
      · refine br_t rfl ?_
        rw [if_neg (fun q => c2 (Bool.and_eq_true _ _ ▸ q).2)] at h
        exact ih (N + 1) _ _ _ m1 (by omega) (nI_1 N) (RM_fr hR (fun k _ _ => f1 _ _ (by unfold Tlay; omega))) (fun m2 f2 => h m2 (fun o j ho => (f2 o j ho).trans (f1 o j ho)))
    · refine br_t rfl ?_
      rw [if_neg (fun q => c (Bool.and_eq_true _ _ ▸ q).1)] at h
      exact ih (N + 1) _ _ _ m (by omega) (nI_1 N) hR h
theorem M_order {d : Nat} {Q : pt_Q} {m : pt_M} {a : pt_al} (O : OK a) (hM : IM m a) {r s k : Int32} (h : ∀ m1, kC m m1 → IM m1 a → Q (some (zI (orderX a r s k))) m1) : Sp (d + 5) nX7_order [zR 7 143, zI r, zI s, zI k] m Q := by
  obtain ⟨i1, i2⟩ := IM_th hM
  unfold orderX at h
  refine sX7_order ?_
  refine Go_rn [40] 100 ?_
  refine m_isReader O.1 (RM_at i1.1 (by omega)) (fun c => ?_) (fun c => ?_)
  · refine br_f (by decide) ?_
    refine m_inI (lo := 1) (hi := 30) (by decide) (by decide) (fun c2 => ?_) (fun c2 => ?_)
    · refine br_f (by decide) ?_
      refine m_isFlavour (fun c4 => ?_) (fun c4 => ?_)
      · refine br_f (by decide) ?_
        rw [cif_t ⟨c, c2, c4⟩] at h
        obtain ⟨r1, h1, rfl⟩ := readN O.1 c
        obtain ⟨k1, hk, rfl⟩ := flavN c4
        have h9 := O.1.2.2.2.1
        rw [xN_nI (by omega), xN_nI (by omega)] at h
        have om := order_main (av := avB (pK (aS a) r1) (pU (aS a) r1) (pA (aS a) r1) s) (fun p f hf => avB_mono (pU_ok O.1 h1) ⟨Int32.le_trans (by decide) c2.1, c2.2⟩ p f hf) k1 hk
        have om2 : orR (avB (pK (aS a) r1) (pU (aS a) r1) (pA (aS a) r1) s) k1 (-1000000) 5 0 [] = fnd (fun n => ordB n && goeB (avB (pK (aS a) r1) (pU (aS a) r1) (pA (aS a) r1) s) n) (fun n => nI (dgt n k1)) 41977 1234 := by
          rw [om]
          unfold orR
          cases grd (avB (pK (aS a) r1) (pU (aS a) r1) (pA (aS a) r1) s) 5 0 [] with
          | none => rfl
          | some R =>
            show (if k1 < 0 then _ else nI (R.getD (k1 - 0) 0)) = _
            rw [if_neg (Nat.not_lt_zero _)]
            rfl
        rw [om2] at h
        refine m_order_l (d := d + 1) O.1 h1 hk 41977 1234 _ _ _ _ (by omega) rfl i1.1 (fun m3 fr3 => ?_)
        obtain ⟨l1, l2⟩ := IM_scr i1 (m1 := m3) (fun o k q => fr3 o k (by unfold Tlay; omega))
        exact h m3 (kC_tr i2 l2) l1
      · refine br_t rfl ?_
        rw [cif_f (fun q => c4 q.2.2)] at h
        exact h _ i2 i1
    · refine br_t rfl ?_
      rw [cif_f (fun q => c2 q.2.1)] at h
      exact h _ i2 i1
  · refine br_t rfl ?_
    rw [cif_f (fun q => c q.1)] at h
    exact h _ i2 i1
