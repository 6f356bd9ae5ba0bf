/-! 21.copy -/
noncomputable def copyX (a : pt_al) (r i s j n : Int32) : pt_al × Int32 := cif ((0 ≤ r ∧ r < 8) ∧ (0 ≤ s ∧ s < 8)) (match aR a (xN r), aR a (xN s) with
  | some (l1, n1, f), some (l2, n2, g) => cif (l1 = l2) (cif (hpP i n n1 ∧ hpP j n n2) (aRs (aFs a 0) (upR (aR a) (xN s) (some (l2, n2, fun k => if xN j ≤ k ∧ k < xN j + xN n then f (xN i + (k - xN j)) else g k))), n) (aFs a 2, -1000012)) (aFs a 5, -1000015)
  | _, _ => (aFs a 1, -1000011)) (a, -1000001)
theorem copyX_nn {a : pt_al} {r i s j n : Int32} (c : (0 ≤ r ∧ r < 8) ∧ (0 ≤ s ∧ s < 8)) (h : aR a (xN r) = none ∨ aR a (xN s) = none) : copyX a r i s j n = (aFs a 1, -1000011) := by
  unfold copyX
  rw [cif_t c]
  rcases h with h | h
  · rw [h]
  · rw [h]
    cases aR a (xN r) <;> rfl
theorem copyX_ss {a : pt_al} {r i s j n : Int32} {l1 n1 l2 n2 : Nat} {f g : Nat → Int32} (c : (0 ≤ r ∧ r < 8) ∧ (0 ≤ s ∧ s < 8)) (h1 : aR a (xN r) = some (l1, n1, f)) (h2 : aR a (xN s) = some (l2, n2, g)) : copyX a r i s j n = cif (l1 = l2) (cif (hpP i n n1 ∧ hpP j n n2) (aRs (aFs a 0) (upR (aR a) (xN s) (some (l2, n2, fun k => if xN j ≤ k ∧ k < xN j + xN n then f (xN i + (k - xN j)) else g k))), n) (aFs a 2, -1000012)) (aFs a 5, -1000015) := by
  unfold copyX
  rw [cif_t c, h1, h2]
theorem copyX_ok {a : pt_al} (O : OK a) (r i s j n : Int32) : OK (copyX a r i s j n).1 := by
  by_cases c : (0 ≤ r ∧ r < 8) ∧ (0 ≤ s ∧ s < 8)
  · obtain ⟨s1, hs, es⟩ := ixof c.2.1 (n := 8) c.2.2 (by omega)
    have e9 : xN s = s1 := by rw [es]; exact xN_nI (by omega)
    cases e1 : aR a (xN r) with
    | none => rw [copyX_nn c (Or.inl e1)]; exact O
    | some v1 =>
      cases e2 : aR a (xN s) with
      | none => rw [copyX_nn c (Or.inr e2)]; exact O
      | some v2 =>
        obtain ⟨l1, n1, f⟩ := v1
        obtain ⟨l2, n2, g⟩ := v2
        rw [copyX_ss c e1 e2]
        by_cases c2 : l1 = l2
        · rw [cif_t c2]
          by_cases c3 : hpP i n n1 ∧ hpP j n n2
          · rw [cif_t c3]
            obtain ⟨o1, o2, o3, o4, o5, o6⟩ := O
            exact ⟨o1, o2, o3, upR_ok o4 (fun l n f q => by cases q; exact o4 (xN s) (by rw [e9]; exact hs) _ _ _ e2), o5, o6⟩
          · rw [cif_f c3]; exact O
        · rw [cif_f c2]; exact O
  · unfold copyX
    rw [cif_f c]; exact O
theorem C_copy {d : Nat} {Q : pt_Q} {m : pt_M} {a : pt_al} (O : OK a) (hC : IC m a) {r i s j n : Int32} (h : ∀ m1, kM m m1 → IC m1 (copyX a r i s j n).1 → Q (some (zI (copyX a r i s j n).2)) m1) : Sp (d + 4) nX6_copy [zR 6 0, zI r, zI i, zI s, zI j, zI n] m Q := by
  refine sX6_copy ?_
  refine Go_rn [] 100 ?_
  refine c_isRow (fun c1 => ?_) (fun c1 => ?_)
  · refine br_f (by decide) ?_
    refine c_isRow (fun c2 => ?_) (fun c2 => ?_)
    · refine br_f (by decide) ?_
      have cc : (0 ≤ r ∧ r < 8) ∧ (0 ≤ s ∧ s < 8) := ⟨c1, c2⟩
      obtain ⟨r1, hr, er⟩ := ixof c1.1 (n := 8) c1.2 (by omega)
      obtain ⟨s1, hs, es⟩ := ixof c2.1 (n := 8) c2.2 (by omega)
      have xr : xN r = r1 := by rw [er]; exact xN_nI (by omega)
      have xs : xN s = s1 := by rw [es]; exact xN_nI (by omega)
      refine ⟨r1, er, hr, ?_⟩
      refine ⟨s1, es, hs, ?_⟩
      cases e1 : aR a r1 with
      | none =>
        rw [copyX_nn cc (Or.inl (by rw [xr]; exact e1))] at h
        refine br_t (cR_none hC.2.2.2.1 hr e1) ?_
        refine c_finding ?_
        exact h _ (IC_F hC 1).2 (IC_F hC 1).1
      | some v1 =>
        obtain ⟨l1, n1, f⟩ := v1
        obtain ⟨g1, g2, g3, g4⟩ := cR_some hC.2.2.2.1 hr e1
        refine br_f (fun q => absurd (g1.symm.trans q) (by decide)) ?_
        cases e2 : aR a s1 with
        | none =>
          rw [copyX_nn cc (Or.inr (by rw [xs]; exact e2))] at h
          refine br_t (cR_none hC.2.2.2.1 hs e2) ?_
          refine c_finding ?_
          exact h _ (IC_F hC 1).2 (IC_F hC 1).1
        | some v2 =>
          obtain ⟨l2, n2, g⟩ := v2
          rw [copyX_ss cc (by rw [xr]; exact e1) (by rw [xs]; exact e2)] at h
          obtain ⟨k1, k2, k3, k4⟩ := cR_some hC.2.2.2.1 hs e2
          have ob1 := O.2.2.2.1 r1 hr l1 n1 f e1
          have ob2 := O.2.2.2.1 s1 hs l2 n2 g e2
          refine br_f (fun q => absurd (k1.symm.trans q) (by decide)) ?_
          refine ⟨fun c3 => ?_, fun c3 => ?_⟩
          · have c4 : l1 = l2 := nI_inj (by rw [← g2, ← k2]; exact c3) (by omega) (by omega)
            rw [cif_t c4] at h
            have bad : ¬ (hpP i n n1 ∧ hpP j n n2) → Q (some (zI (-1000010 - 2))) (st m 0 7 2) := fun q => by
              rw [cif_f q] at h
              exact h _ (IC_F hC 2).2 (IC_F hC 2).1
            refine c_hasPlaces g3 ob1.2 (fun c5 => ?_) (fun c5 => ?_)
            · refine br_f (by decide) ?_
              refine c_hasPlaces k3 ob2.2 (fun c6 => ?_) (fun c6 => ?_)
              · refine br_f (by decide) ?_
                rw [cif_t ⟨c5, c6⟩] at h
                obtain ⟨i1, hi, ei⟩ := nI_of (x := i) (by have := c5.1; grind)
                obtain ⟨j1, hj, ej⟩ := nI_of (x := j) (by have := c6.1; grind)
                obtain ⟨n3, hn, en⟩ := nI_of (x := n) (by have := c5.2.1; grind)
                have xi : xN i = i1 := by rw [ei]; exact xN_nI hi
                have xj : xN j = j1 := by rw [ej]; exact xN_nI hj
                have xn : xN n = n3 := by rw [en]; exact xN_nI hn
                have b1 := c5.2.2
                have b2 := c6.2.2
                rw [xi, xn] at b1
                rw [xj, xn] at b2
                rw [xs, xi, xj, xn] at h
                refine ⟨i1, j1, n3, ei, ej, en, by omega, by omega, ?_⟩
                refine c_noFinding ?_
                have hp : cR (st (cpm m (1 + 1 + 2 * r1 + 1) i1 (1 + 1 + 2 * s1 + 1) j1 n3) 0 7 0) (upR (aR a) s1 (some (l2, n2, fun k => if j1 ≤ k ∧ k < j1 + n3 then f (i1 + (k - j1)) else g k))) := by
                  refine cR_put hC.2.2.2.1 _ (fun o k q1 q2 q3 q4 => by rw [st_eq, if_neg (by omega), cpm_eq, if_neg (by omega)]) (fun q => by cases q) (fun l3 n4 f3 q => ?_)
                  cases q
                  refine ⟨by rw [st_eq, if_neg (by omega), cpm_eq, if_neg (by omega)]; exact k1, by rw [st_eq, if_neg (by omega), cpm_eq, if_neg (by omega)]; exact k2, by rw [st_eq, if_neg (by omega), cpm_eq, if_neg (by omega)]; exact k3, fun k hk => ?_⟩
                  rw [st_eq, if_neg (by omega), cpm_eq]
                  show _ = if j1 ≤ k ∧ k < j1 + n3 then f (i1 + (k - j1)) else g k
                  by_cases e9 : j1 ≤ k ∧ k < j1 + n3
                  · rw [if_pos ⟨rfl, e9⟩, if_pos e9]
                    exact g4 _ (by omega)
                  · rw [if_neg (fun q => e9 q.2), if_neg e9]
                    exact k4 k hk
                obtain ⟨q1, q2⟩ := IC_R hC (n := 0) hp (by rw [st_eq, if_pos ⟨rfl, rfl⟩]) (fun o k q1 q2 => by rw [st_eq, if_neg q2, cpm_eq, if_neg (by omega)])
                exact h _ q2 q1
              · refine br_t rfl ?_
                refine c_finding ?_
                exact bad (fun q => c6 q.2)
            · refine br_t rfl ?_
              refine c_finding ?_
              exact bad (fun q => c5 q.1)
          · have c4 : ¬ l1 = l2 := fun q => c3 (by show m (1 + 1 + 2 * r1) 1 = m (1 + 1 + 2 * s1) 1; rw [g2, k2, q])
            rw [cif_f c4] at h
            refine c_finding ?_
            exact h _ (IC_F hC 5).2 (IC_F hC 5).1
    · refine br_t rfl ?_
      unfold copyX at h
      rw [cif_f (fun q => c2 q.2)] at h
      exact h m kM_rf hC
  · refine br_t rfl ?_
    unfold copyX at h
    rw [cif_f (fun q => c1 q.1)] at h
    exact h m kM_rf hC
theorem lsum {a b c : Nat} (ha : a < 2 ^ 31) (hb : b < 2 ^ 31) (hc : c < 2 ^ 31) : (0 < lg_cmp ((nI a).toInt64 + (nI b).toInt64) (nI c).toInt64 ↔ c < a + b) := by
  rw [lcmp_gt, nI_l ha, nI_l hb, nI_l hc, lN_add, pk_lLT (by omega) (by omega)]
/-- the places of a copy that are done after k steps, upwards or downwards -/
def cpD (up : Bool) (j n k x : Nat) : Prop := cond up (j ≤ x ∧ x < j + k) (j + n - k ≤ x ∧ x < j + n)
theorem m_copy_l {d : Nat} {Q : pt_Q} {r s i j n : Nat} {up : Bool} {F Gg : Nat → Int32} (hr : r < 8) (hs : s < 8) (hi : i + n ≤ 40) (hj : j + n ≤ 40) (hup : up = true → j ≤ i) (hdn : up = false → i < j) (hFG : r = s → F = Gg) :
    ∀ (nn k : Nat) (x : Int32) (g8 : Option pt_V) (m : pt_M), k + nn = n → x = nI k → (r ≠ s → ∀ y, y < 40 → m 146 (40 * r + y) = F y) → (∀ y, y < 40 → (cpD up j n k y → m 146 (40 * s + y) = F (i + (y - j))) ∧ (¬ cpD up j n k y → m 146 (40 * s + y) = Gg y)) →
    (∀ m1, fr (fun o k => o = 146 ∧ 40 * s ≤ k ∧ k < 40 * s + 40) m m1 → (∀ y, y < 40 → m1 146 (40 * s + y) = if j ≤ y ∧ y < j + n then F (i + (y - j)) else Gg y) → Q (some (zI (nI n))) m1) →
    Go (Sp d) tX7_copy Q 143 [some (zR 7 143), some (zI (nI r)), some (zI (nI i)), some (zI (nI s)), some (zI (nI j)), some (zI (nI n)), some (zI (cond up 1 0)), some (zI x), g8] [] m := by
  intro nn
  induction nn with
  | zero =>
    intro k x g8 m hk hx h1 h2 h
    have ek : k = n := by omega
    subst ek
    refine Go_rn [] 100 ?_
    refine br_t (by rw [hx]; exact nI_le (b := k) (a := k) (by omega) (by omega)) ?_
    refine h m fr_rf (fun y hy => ?_)
    obtain ⟨g1, g2⟩ := h2 y hy
    unfold cpD at g1 g2
    by_cases e : j ≤ y ∧ y < j + k
    · rw [if_pos e]
      refine g1 ?_
      cases up
      · show j + k - k ≤ y ∧ y < j + k
        omega
      · exact e
    · rw [if_neg e]
      refine g2 ?_
      cases up
      · show ¬ (j + k - k ≤ y ∧ y < j + k)
        omega
      · exact e
  | succ nn ih =>
    intro k x g8 m hk hx h1 h2 h
    subst hx
    have ix2 : ∀ (r i at_ : Nat), 40 * nI r + nI i + nI at_ = nI (40 * r + i + at_) := fun r i at_ => by rw [ixH, nI_add]
    -- one step, at place at_
    have stp : ∀ at_ g8, at_ < n → (∀ y, y < 40 → (cpD up j n (k + 1) y ↔ (cpD up j n k y ∨ y = j + at_))) → (r = s → ¬ cpD up j n k (i + at_)) →
        m 146 (40 * r + i + at_) = F (i + at_) ∧ Go (Sp d) tX7_copy Q 143 [some (zR 7 143), some (zI (nI r)), some (zI (nI i)), some (zI (nI s)), some (zI (nI j)), some (zI (nI n)), some (zI (cond up 1 0)), some (zI (nI k + 1)), g8] [] (st m 146 (40 * s + j + at_) (F (i + at_))) := by
      intro at_ g8 hat hD hnd
      constructor
      · by_cases e : r = s
        · subst e
          have := (h2 (i + at_) (by omega)).2 (hnd rfl)
          rw [hFG rfl]
          rw [show 40 * r + i + at_ = 40 * r + (i + at_) by omega]
          exact this
        · rw [show 40 * r + i + at_ = 40 * r + (i + at_) by omega]
          exact h1 e _ (by omega)
      · refine ih (k + 1) _ _ _ (by omega) (nI_1 k) (fun e y hy => by rw [st_eq, if_neg (by omega)]; exact h1 e y hy) (fun y hy => ⟨fun q => ?_, fun q => ?_⟩) (fun m1 f1 e1 => h m1 (fun o k1 ho => by rw [f1 o k1 ho, st_eq, if_neg (by omega)]) e1)
        · rw [st_eq]
          by_cases e : y = j + at_
          · rw [if_pos ⟨rfl, by omega⟩, e]
            congr 1
            omega
          · rw [if_neg (by omega)]
            exact (h2 y hy).1 (((hD y hy).mp q).resolve_right e)
        · rw [st_eq, if_neg (fun z => q ((hD y hy).mpr (Or.inr (by omega))))]
          exact (h2 y hy).2 (fun z => q ((hD y hy).mpr (Or.inl z)))
    refine Go_rn [143] 100 ?_
    refine br_f (nI_ge (a := k) (b := n) (by omega) (by omega)) ?_
    cases up with
    | true =>
      refine br_f (by decide) ?_
      obtain ⟨s1, s2⟩ := stp k (some (zI (nI k))) (by omega) (fun y hy => by show (j ≤ y ∧ y < j + (k + 1)) ↔ ((j ≤ y ∧ y < j + k) ∨ y = j + k); omega) (fun _ => by have := hup rfl; show ¬ (j ≤ i + k ∧ i + k < j + k); omega)
      refine ⟨40 * r + i + k, ix2 r i k, by omega, ?_⟩
      rw [s1]
      exact ⟨40 * s + j + k, ix2 s j k, by omega, s2⟩
    | false =>
      refine br_t rfl ?_
      have e9 : nI n - 1 - nI k = nI (n - 1 - k) := by
        rw [show (1 : Int32) = nI 1 from rfl, pk_sub (by omega), pk_sub (by omega)]
      obtain ⟨s1, s2⟩ := stp (n - 1 - k) (some (zI (nI n - 1 - nI k))) (by omega) (fun y hy => by show (j + n - (k + 1) ≤ y ∧ y < j + n) ↔ ((j + n - k ≤ y ∧ y < j + n) ∨ y = j + (n - 1 - k)); omega) (fun _ => by have := hdn rfl; show ¬ (j + n - k ≤ i + (n - 1 - k) ∧ i + (n - 1 - k) < j + n); omega)
      refine ⟨40 * r + i + (n - 1 - k), by rw [← ix2, ← e9], by omega, ?_⟩
      rw [s1]
      exact ⟨40 * s + j + (n - 1 - k), by rw [← ix2, ← e9], by omega, s2⟩
theorem M_copy {d : Nat} {Q : pt_Q} {m : pt_M} {a : pt_al} (O : OK a) (hM : IM m a) {r i s j n : Int32} (h : ∀ m1, kC m m1 → IM m1 (copyX a r i s j n).1 → Q (some (zI (copyX a r i s j n).2)) m1) : Sp (d + 4) nX7_copy [zR 7 143, zI r, zI i, zI s, zI j, zI n] m Q := by
  obtain ⟨t1, t2⟩ := IM_th hM
  refine sX7_copy ?_
  refine Go_rn [143] 100 ?_
  refine m_isRow (fun c1 => ?_) (fun c1 => ?_)
  · refine br_f (by decide) ?_
    refine m_isRow (fun c2 => ?_) (fun c2 => ?_)
    · refine br_f (by decide) ?_
      have cc : (0 ≤ r ∧ r < 8) ∧ (0 ≤ s ∧ s < 8) := ⟨c1, c2⟩
      obtain ⟨r1, hr, er⟩ := ixof c1.1 (n := 8) c1.2 (by omega)
      obtain ⟨s1, hs, es⟩ := ixof c2.1 (n := 8) c2.2 (by omega)
      have xr : xN r = r1 := by rw [er]; exact xN_nI (by omega)
      have xs : xN s = s1 := by rw [es]; exact xN_nI (by omega)
      obtain ⟨u1, u2⟩ := IM_F t1 0
      have fd : ∀ v, IM (st (st (st m 143 0 0) 143 1 0) 143 1 v) (aFs a v) ∧ kC m (st (st (st m 143 0 0) 143 1 0) 143 1 v) := fun v => by
        obtain ⟨w1, w2⟩ := IM_F u1 v
        exact ⟨w1, kC_tr (kC_tr t2 u2) w2⟩
      refine ⟨r1, er, hr, ?_⟩
      cases e1 : aR a r1 with
      | none =>
        rw [copyX_nn cc (Or.inl (by rw [xr]; exact e1))] at h
        have g1 := (u1.2.2.2.1 r1 hr).1 e1
        refine br_t (by show st (st m 143 0 0) 143 1 0 144 r1 < 0; rw [g1]; decide) ?_
        refine m_finding ?_
        exact h _ (fd 1).2 (fd 1).1
      | some v1 =>
        obtain ⟨l1, n1, f⟩ := v1
        obtain ⟨g1, g2, g3⟩ := (u1.2.2.2.1 r1 hr).2 l1 n1 f e1
        have ob1 := O.2.2.2.1 r1 hr l1 n1 f e1
        refine br_f (by show ¬ st (st m 143 0 0) 143 1 0 144 r1 < 0; rw [g1]; exact nI_pos (by omega)) ?_
        refine ⟨s1, es, hs, ?_⟩
        cases e2 : aR a s1 with
        | none =>
          rw [copyX_nn cc (Or.inr (by rw [xs]; exact e2))] at h
          have k1 := (u1.2.2.2.1 s1 hs).1 e2
          refine br_f (by show ¬ 0 ≤ st (st m 143 0 0) 143 1 0 144 s1; rw [k1]; decide) ?_
          refine m_finding ?_
          exact h _ (fd 1).2 (fd 1).1
        | some v2 =>
          obtain ⟨l2, n2, g⟩ := v2
          rw [copyX_ss cc (by rw [xr]; exact e1) (by rw [xs]; exact e2)] at h
          obtain ⟨k1, k2, k3⟩ := (u1.2.2.2.1 s1 hs).2 l2 n2 g e2
          have ob2 := O.2.2.2.1 s1 hs l2 n2 g e2
          refine br_t (by show 0 ≤ st (st m 143 0 0) 143 1 0 144 s1; rw [k1]; exact nI_pos' (by omega)) ?_
          refine ⟨r1, er, hr, ?_⟩
          refine ⟨s1, es, hs, ?_⟩
          refine ⟨fun c3 => ?_, fun c3 => ?_⟩
          · have c4 : l1 = l2 := nI_inj (by rw [← g1, ← k1]; exact c3) (by omega) (by omega)
            rw [cif_t c4] at h
            have bad : ¬ (hpP i n n1 ∧ hpP j n n2) → Q (some (zI (-1000010 - 2))) (st (st (st m 143 0 0) 143 1 0) 143 1 2) := fun q => by
              rw [cif_f q] at h
              exact h _ (fd 2).2 (fd 2).1
            refine ⟨fun c5 => ?_, fun c5 => ?_⟩
            · refine m_finding ?_
              exact bad (fun q => by have := q.1.1; grind)
            · refine ⟨fun c6 => ?_, fun c6 => ?_⟩
              · refine m_finding ?_
                exact bad (fun q => by have := q.2.1; grind)
              · refine ⟨fun c7 => ?_, fun c7 => ?_⟩
                · refine m_finding ?_
                  exact bad (fun q => by have := q.1.2.1; grind)
                · obtain ⟨i1, hi, ei⟩ := nI_of (x := i) c5
                  obtain ⟨j1, hj, ej⟩ := nI_of (x := j) c6
                  obtain ⟨n3, hn, en⟩ := nI_of (x := n) c7
                  have xi : xN i = i1 := by rw [ei]; exact xN_nI hi
                  have xj : xN j = j1 := by rw [ej]; exact xN_nI hj
                  have xn : xN n = n3 := by rw [en]; exact xN_nI hn
                  have p0 : 0 ≤ i ∧ 0 ≤ j ∧ 0 ≤ n := by grind
                  refine ⟨r1, er, hr, ?_⟩
                  have ls1 := lsum (a := i1) (b := n3) (c := n1) hi hn (by omega)
                  have ls2 := lsum (a := j1) (b := n3) (c := n2) hj hn (by omega)
                  refine ⟨fun c8 => ?_, fun c8 => ?_⟩
                  · refine m_finding ?_
                    refine bad (fun q => ?_)
                    have c9 : 0 < lg_cmp ((nI i1).toInt64 + (nI n3).toInt64) (nI n1).toInt64 := by rw [← ei, ← en, ← g2]; exact c8
                    have := ls1.mp c9
                    have := q.1.2.2
                    rw [xi, xn] at this
                    omega
                  · have c9 : ¬ n1 < i1 + n3 := fun q => c8 (by have := ls1.mpr q; rw [← ei, ← en, ← g2] at this; exact this)
                    refine ⟨s1, es, hs, ?_⟩
                    refine ⟨fun c10 => ?_, fun c10 => ?_⟩
                    · have c11 : ¬ n2 < j1 + n3 := fun q => by
                        have := ls2.mpr q
                        rw [← ej, ← en, ← k2] at this
                        have c12 : lg_cmp (j.toInt64 + n.toInt64) (st (st m 143 0 0) 143 1 0 145 s1).toInt64 ≤ 0 := c10
                        grind
                      rw [cif_t ⟨⟨p0.1, p0.2.2, by rw [xi, xn]; omega⟩, ⟨p0.2.1, p0.2.2, by rw [xj, xn]; omega⟩⟩] at h
                      rw [xs, xi, xj, xn] at h
                      have fin : ∀ up : Bool, (up = true → j1 ≤ i1) → (up = false → i1 < j1) → Go (Sp (d + 3)) tX7_copy Q 143 [some (zR 7 143), some (zI (nI r1)), some (zI (nI i1)), some (zI (nI s1)), some (zI (nI j1)), some (zI (nI n3)), some (zI (cond up 1 0)), some (zI 0), none] [] (st (st m 143 0 0) 143 1 0) := by
                        intro up hup hdn
                        refine m_copy_l (F := f) (Gg := g) hr hs (by omega) (by omega) hup hdn (fun e => by subst e; rw [e1] at e2; cases e2; rfl) n3 0 _ _ _ (by omega) rfl (fun _ y hy => g3 y hy) (fun y hy => ⟨fun q => ?_, fun _ => k3 y hy⟩) (fun m1 f1 w1 => ?_)
                        · exfalso
                          cases up
                          · have q : j1 + n3 - 0 ≤ y ∧ y < j1 + n3 := q
                            omega
                          · have q : j1 ≤ y ∧ y < j1 + 0 := q
                            omega
                        · have hp : mR m1 (upR (aR a) s1 (some (l2, n2, fun k => if j1 ≤ k ∧ k < j1 + n3 then f (i1 + (k - j1)) else g k))) := by
                            refine mR_put u1.2.2.2.1 _ (fun k q => ⟨f1 _ _ (by omega), f1 _ _ (by omega)⟩) (fun k q => f1 _ _ (by omega)) (fun q => by cases q) (fun l3 n4 f3 q => ?_)
                            cases q
                            exact ⟨(f1 _ _ (by omega)).trans k1, (f1 _ _ (by omega)).trans k2, w1⟩
                          obtain ⟨z1, z2⟩ := IM_R t1 (n := 0) hp (by rw [f1 _ _ (by omega), st_eq, if_pos ⟨rfl, rfl⟩]) (fun o k q1 q2 => by rw [f1 _ _ (by omega), st_eq, if_neg (by omega)])
                          have := h _ (kC_tr t2 z2) z1
                          rw [en] at this
                          exact this
                      subst er es ei ej en
                      refine ⟨fun c12 => ?_, fun c12 => ?_⟩
                      · have c13 : i1 < j1 := (nI_ltI hi hj).mp c12
                        exact fin false (fun q => by cases q) (fun _ => c13)
                      · have c13 : j1 ≤ i1 := by
                          rcases Nat.lt_or_ge i1 j1 with q | q
                          · exact absurd (nI_lt q hj) c12
                          · exact q
                        exact fin true (fun _ => c13) (fun q => by cases q)
                    · refine m_finding ?_
                      refine bad (fun q => ?_)
                      have c12 : ¬ lg_cmp (j.toInt64 + n.toInt64) (st (st m 143 0 0) 143 1 0 145 s1).toInt64 ≤ 0 := c10
                      have c13 : 0 < lg_cmp ((nI j1).toInt64 + (nI n3).toInt64) (nI n2).toInt64 := by rw [← ej, ← en, ← k2]; grind
                      have := ls2.mp c13
                      have := q.2.2.2
                      rw [xj, xn] at this
                      omega
          · have c4 : ¬ l1 = l2 := fun q => c3 (by show st (st m 143 0 0) 143 1 0 144 r1 = st (st m 143 0 0) 143 1 0 144 s1; rw [g1, k1, q])
            rw [cif_f c4] at h
            refine m_finding ?_
            exact h _ (fd 5).2 (fd 5).1
    · refine br_t rfl ?_
      unfold copyX at h
      rw [cif_f (fun q => c2 q.2)] at h
      exact h _ t2 t1
  · refine br_t rfl ?_
    unfold copyX at h
    rw [cif_f (fun q => c1 q.1)] at h
    exact h _ t2 t1
