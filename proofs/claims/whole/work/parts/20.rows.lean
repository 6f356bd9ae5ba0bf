/-! 20.rows: row, set, drop -/
abbrev pt_rw : Type := Option (Nat × Nat × (Nat → Int32))
def upR (R : Nat → pt_rw) (r : Nat) (v : pt_rw) : Nat → pt_rw := fun k => if k = r then v else R k
def aRs (a : pt_al) (R : Nat → pt_rw) : pt_al := (aS a, aA a, aI a, R, aT a, aK a, aF a, aL a)
def lnv (l : Nat) (v : Int32) : Int32 := if l = 0 then v.toInt8.toInt32 else if l = 1 then v.toInt16.toInt32 else v
theorem cR_none {m : pt_M} {R : Nat → pt_rw} (h : cR m R) {r : Nat} (hr : r < 8) (e : R r = none) : m (1 + 1 + 2 * r) 0 = 0 := by
  have := (h r hr).1 e
  rwa [show 1 + 1 + 2 * r = 2 + 2 * r by omega]
theorem cR_some {m : pt_M} {R : Nat → pt_rw} (h : cR m R) {r : Nat} (hr : r < 8) {l n : Nat} {f : Nat → Int32} (e : R r = some (l, n, f)) : m (1 + 1 + 2 * r) 0 = 1 ∧ m (1 + 1 + 2 * r) 1 = nI l ∧ m (1 + 1 + 2 * r) 2 = nI n ∧ ∀ i, i < 40 → m (1 + 1 + 2 * r + 1) i = f i := by
  have := (h r hr).2 l n f e
  rw [show 1 + 1 + 2 * r = 2 + 2 * r by omega, show 2 + 2 * r + 1 = 3 + 2 * r by omega]
  exact this
theorem cR_put {m m1 : pt_M} {R : Nat → pt_rw} (h : cR m R) {r : Nat} (v : pt_rw) (hf : ∀ o k, 2 ≤ o → o ≤ 17 → o ≠ 1 + 1 + 2 * r → o ≠ 1 + 1 + 2 * r + 1 → m1 o k = m o k) (h0 : v = none → m1 (1 + 1 + 2 * r) 0 = 0)
    (h1 : ∀ l n f, v = some (l, n, f) → m1 (1 + 1 + 2 * r) 0 = 1 ∧ m1 (1 + 1 + 2 * r) 1 = nI l ∧ m1 (1 + 1 + 2 * r) 2 = nI n ∧ ∀ i, i < 40 → m1 (1 + 1 + 2 * r + 1) i = f i) : cR m1 (upR R r v) := by
  intro k hk
  unfold upR
  by_cases e : k = r
  · subst e
    rw [if_pos rfl]
    rw [show 1 + 1 + 2 * k = 2 + 2 * k by omega, show 2 + 2 * k + 1 = 3 + 2 * k by omega] at h1
    rw [show 1 + 1 + 2 * k = 2 + 2 * k by omega] at h0
    exact ⟨h0, h1⟩
  · rw [if_neg e]
    obtain ⟨g1, g2⟩ := h k hk
    refine ⟨fun q => (hf _ _ (by omega) (by omega) (by omega) (by omega)).trans (g1 q), fun l n f q => ?_⟩
    obtain ⟨q1, q2, q3, q4⟩ := g2 l n f q
    exact ⟨(hf _ _ (by omega) (by omega) (by omega) (by omega)).trans q1, (hf _ _ (by omega) (by omega) (by omega) (by omega)).trans q2, (hf _ _ (by omega) (by omega) (by omega) (by omega)).trans q3, fun i hi => (hf _ _ (by omega) (by omega) (by omega) (by omega)).trans (q4 i hi)⟩
theorem mR_put {m m1 : pt_M} {R : Nat → pt_rw} (h : mR m R) {r : Nat} (v : pt_rw) (hf : ∀ k, k ≠ r → m1 144 k = m 144 k ∧ m1 145 k = m 145 k) (hf2 : ∀ k, ¬ (40 * r ≤ k ∧ k < 40 * r + 40) → m1 146 k = m 146 k) (h0 : v = none → m1 144 r = -1)
    (h1 : ∀ l n f, v = some (l, n, f) → m1 144 r = nI l ∧ m1 145 r = nI n ∧ ∀ i, i < 40 → m1 146 (40 * r + i) = f i) : mR m1 (upR R r v) := by
  intro k hk
  unfold upR
  by_cases e : k = r
  · subst e
    rw [if_pos rfl]
    exact ⟨h0, h1⟩
  · rw [if_neg e]
    obtain ⟨g1, g2⟩ := h k hk
    refine ⟨fun q => (hf k e).1.trans (g1 q), fun l n f q => ?_⟩
    obtain ⟨q1, q2, q3⟩ := g2 l n f q
    exact ⟨(hf k e).1.trans q1, (hf k e).2.trans q2, fun i hi => (hf2 _ (by omega)).trans (q3 i hi)⟩
/-- the class with other rows and another finding -/
theorem IC_R {m m1 : pt_M} {a : pt_al} (h : IC m a) {R : Nat → pt_rw} {n : Int32} (hR : cR m1 R) (hn : m1 0 7 = n) (hf : ∀ o k, ¬ (2 ≤ o ∧ o ≤ 17) → ¬ (o = 0 ∧ k = 7) → m1 o k = m o k) : IC m1 (aRs (aFs a n) R) ∧ kM m m1 := by
  obtain ⟨h1, h2, h3, h4, h5, h6, h7, h8⟩ := h
  exact ⟨⟨RC_fr h1 (fun o k g1 g2 => hf o k (by omega) (by omega)), cA_fr h2 (hf _ _ (by omega) (by omega)) (hf _ _ (by omega) (by omega)) (fun o k g1 g2 => hf o k (by omega) (by omega)), cI_fr h3 (fun o k g1 g2 => hf o k (by omega) (by omega)), hR, ⟨(hf _ _ (by omega) (by omega)).trans h5.1, fun i hi => (hf _ _ (by omega) (by omega)).trans (h5.2 i hi)⟩, ⟨(hf _ _ (by omega) (by omega)).trans h6.1, fun i hi => (hf _ _ (by omega) (by omega)).trans (h6.2 i hi)⟩, hn, (hf _ _ (by omega) (by omega)).trans h8⟩, fun o k q => hf o k (by omega) (by omega)⟩
theorem IM_R {m m1 : pt_M} {a : pt_al} (h : IM m a) {R : Nat → pt_rw} {n : Int32} (hR : mR m1 R) (hn : m1 143 1 = n) (hf : ∀ o k, ¬ (144 ≤ o ∧ o ≤ 146) → ¬ (o = 143 ∧ k ≤ 1) → m1 o k = m o k) : IM m1 (aRs (aFs a n) R) ∧ kC m m1 := by
  obtain ⟨h1, h2, h3, h4, h5, h6, h7, h8⟩ := h
  exact ⟨⟨RM_fr h1 (fun k g1 g2 => hf _ k (by omega) (by omega)), mA_fr h2 (hf _ _ (by omega) (by omega)) (fun k => hf _ k (by omega) (by omega)), mI_fr h3 (fun k => hf _ k (by omega) (by omega)) (fun k => hf _ k (by omega) (by omega)), hR, ⟨(hf _ _ (by omega) (by omega)).trans h5.1, fun i hi => (hf _ _ (by omega) (by omega)).trans (h5.2 i hi)⟩, ⟨(hf _ _ (by omega) (by omega)).trans h6.1, fun i hi => (hf _ _ (by omega) (by omega)).trans (h6.2 i hi)⟩, hn, (hf _ _ (by omega) (by omega)).trans h8⟩, fun o k q => hf o k (by omega) (by omega)⟩
/-! row -/
theorem c_begin {d : Nat} {Q : pt_Q} {m : pt_M} {b : Nat} {l n : Int32} (h : ∀ m1, fr (fun o _ => o = b ∨ o = b + 1) m m1 → m1 b 0 = 1 → m1 b 1 = l → m1 b 2 = n → (∀ i, i < 40 → m1 (b + 1) i = 0) → Q none m1) : Sp (d + 2) nX3_begin [zR 3 b, zI l, zI n] m Q := by
  refine sX3_begin ?_
  refine Go_rn [] 100 ?_
  refine ⟨Or.inr rfl, ?_⟩
  refine c_fill40 (fun m1 f1 e1 => ?_)
  refine h m1 (fun o k ho => ?_) ?_ ?_ ?_ e1
  · rw [f1 o k (by omega), st_eq, if_neg (by omega), st_eq, if_neg (by omega), st_eq, if_neg (by omega)]
  · rw [f1 b 0 (by omega), st_eq, if_neg (by omega), st_eq, if_neg (by omega), st_eq, if_pos ⟨rfl, rfl⟩]
  · rw [f1 b 1 (by omega), st_eq, if_neg (by omega), st_eq, if_pos ⟨rfl, rfl⟩]
  · rw [f1 b 2 (by omega), st_eq, if_pos ⟨rfl, rfl⟩]
noncomputable def rowX (a : pt_al) (r l n : Int32) : pt_al × Int32 := cif ((0 ≤ r ∧ r < 8) ∧ (0 ≤ l ∧ l < 3) ∧ n ≤ 40) (cif (0 ≤ n) (aRs (aFs a 0) (upR (aR a) (xN r) (some (xN l, xN n, fun _ => 0))), n) (aFs a 4, -1000014)) (a, -1000001)
theorem C_row {d : Nat} {Q : pt_Q} {m : pt_M} {a : pt_al} (hC : IC m a) {r l n : Int32} (h : ∀ m1, kM m m1 → IC m1 (rowX a r l n).1 → Q (some (zI (rowX a r l n).2)) m1) : Sp (d + 4) nX6_row [zR 6 0, zI r, zI l, zI n] m Q := by
  unfold rowX at h
  refine sX6_row ?_
  refine Go_rn [] 100 ?_
  refine c_isRow (fun c1 => ?_) (fun c1 => ?_)
  · refine br_f (by decide) ?_
    refine ⟨fun c2 => ?_, fun c2 => ⟨fun c3 => ?_, fun c3 => ⟨fun c4 => ?_, fun c4 => ?_⟩⟩⟩
    · rw [cif_f (by grind)] at h
      exact h m kM_rf hC
    · rw [cif_f (by grind)] at h
      exact h m kM_rf hC
    · have hl : 0 ≤ l ∧ l < 3 := by grind
      rw [cif_t ⟨c1, hl, c4⟩] at h
      obtain ⟨r1, hr, rfl⟩ := ixof c1.1 (n := 8) c1.2 (by omega)
      obtain ⟨l1, hl1, rfl⟩ := ixof hl.1 (n := 3) hl.2 (by omega)
      rw [xN_nI (by omega), xN_nI (by omega)] at h
      refine ⟨fun c5 => ?_, fun c5 => ?_⟩
      · have c6 : 0 ≤ n := c5
        rw [cif_t c6] at h
        obtain ⟨n1, hn, rfl⟩ := ixof (n := 41) c6 (by show n < 41; grind) (by omega)
        rw [xN_nI (by omega)] at h
        refine ⟨r1, rfl, hr, ?_⟩
        refine c_begin (fun m1 f1 g1 g2 g3 g4 => ?_)
        refine c_noFinding ?_
        obtain ⟨i1, i2⟩ := IC_R hC (m1 := st m1 0 7 0) (R := upR (aR a) r1 (some (l1, n1, fun _ => 0))) (n := 0) (cR_put hC.2.2.2.1 _ (fun o k q1 q2 q3 q4 => by rw [st_eq, if_neg (by omega)]; exact f1 o k (by omega)) (fun q => by cases q) (fun l n f q => by cases q; exact ⟨by rw [st_eq, if_neg (by omega)]; exact g1, by rw [st_eq, if_neg (by omega)]; exact g2, by rw [st_eq, if_neg (by omega)]; exact g3, fun i hi => by rw [st_eq, if_neg (by omega)]; exact g4 i hi⟩)) (by rw [st_eq, if_pos ⟨rfl, rfl⟩]) (fun o k q1 q2 => by rw [st_eq, if_neg q2]; exact f1 o k (by omega))
        exact h _ i2 i1
      · rw [cif_f c5] at h
        refine c_finding ?_
        exact h _ (IC_F hC 4).2 (IC_F hC 4).1
    · rw [cif_f (fun q => c4 q.2.2)] at h
      exact h m kM_rf hC
  · refine br_t rfl ?_
    rw [cif_f (fun q => c1 q.1)] at h
    exact h m kM_rf hC
theorem ixH (r i : Nat) : 40 * nI r + nI i = nI (40 * r + i) := by
  show nI 40 * nI r + nI i = _
  rw [pk_mul, nI_add]
theorem m_row_l {d : Nat} {Q : pt_Q} {r : Nat} {e1 e2 : pt_V} {n : Int32} (hr : r < 8) : ∀ (nn k : Nat) (x : Int32) (m : pt_M), k + nn = 40 → x = nI k → (∀ m1, fr (fun o k => o = 146 ∧ 40 * r ≤ k ∧ k < 40 * r + 40) m m1 → (∀ i, i < k → m1 146 (40 * r + i) = m 146 (40 * r + i)) → (∀ i, k ≤ i → i < 40 → m1 146 (40 * r + i) = 0) → Q (some (zI n)) m1) →
    Go (Sp d) tX7_row Q 65 [some (zR 7 143), some (zI (nI r)), some e2, some (zI n), some (zI x)] [] m := by
  intro nn
  induction nn with
  | zero =>
    intro k x m hk hx h
    refine Go_rn [] 100 ?_
    refine br_t (by rw [hx]; exact nI_le (b := k) (a := 40) (by omega) (by omega)) ?_
    exact h m fr_rf (fun _ _ => rfl) (fun i h1 h2 => by omega)
  | succ nn ih =>
    intro k x m hk hx h
    subst hx
    refine Go_rn [65] 100 ?_
    refine br_f (nI_ge (a := k) (b := 40) (by omega) (by omega)) ?_
    refine ⟨40 * r + k, ixH r k, by omega, ?_⟩
    refine ih (k + 1) _ _ (by omega) (nI_1 k) (fun m1 f1 g1 g2 => h m1 (fun o q ho => ?_) (fun i hi => ?_) (fun i h1 h2 => ?_))
    · rw [f1 o q ho, st_eq, if_neg (by omega)]
    · rw [g1 i (by omega), st_eq, if_neg (by omega)]
    · by_cases e : i = k
      · rw [g1 i (by omega), st_eq, if_pos ⟨rfl, by omega⟩]
      · exact g2 i (by omega) h2
theorem M_row {d : Nat} {Q : pt_Q} {m : pt_M} {a : pt_al} (hM : IM m a) {r l n : Int32} (h : ∀ m1, kC m m1 → IM m1 (rowX a r l n).1 → Q (some (zI (rowX a r l n).2)) m1) : Sp (d + 4) nX7_row [zR 7 143, zI r, zI l, zI n] m Q := by
  obtain ⟨t1, t2⟩ := IM_th hM
  unfold rowX at h
  refine sX7_row ?_
  refine Go_rn [65] 100 ?_
  refine m_isRow (fun c1 => ?_) (fun c1 => ?_)
  · refine br_f (by decide) ?_
    refine m_inI (lo := 0) (hi := 2) (by decide) (by decide) (fun c2 => ?_) (fun c2 => ?_)
    · refine br_f (by decide) ?_
      have hl : 0 ≤ l ∧ l < 3 := by grind
      refine ⟨fun c4 => ?_, fun c4 => ?_⟩
      · rw [cif_t ⟨c1, hl, c4⟩] at h
        obtain ⟨r1, hr, rfl⟩ := ixof c1.1 (n := 8) c1.2 (by omega)
        obtain ⟨l1, hl1, rfl⟩ := ixof hl.1 (n := 3) hl.2 (by omega)
        rw [xN_nI (by omega), xN_nI (by omega)] at h
        refine ⟨fun c5 => ?_, fun c5 => ?_⟩
        · have c6 : 0 ≤ n := c5
          rw [cif_t c6] at h
          obtain ⟨n1, hn, rfl⟩ := ixof (n := 41) c6 (by show n < 41; grind) (by omega)
          rw [xN_nI (by omega)] at h
          refine ⟨r1, rfl, hr, ?_⟩
          refine ⟨r1, rfl, hr, ?_⟩
          refine m_row_l (e1 := zI 0) hr 40 0 _ _ (by omega) rfl (fun m1 f1 g1 g2 => ?_)
          have e2 : ∀ o k, ¬ (144 ≤ o ∧ o ≤ 146) → ¬ (o = 143 ∧ k ≤ 1) → m1 o k = st m 143 0 0 o k := fun o k q1 q2 => by
            rw [f1 o k (by omega), st_eq, if_neg (by omega), st_eq, if_neg (by omega), st_eq, if_neg (by omega)]
          have hp : mR m1 (upR (aR a) r1 (some (l1, n1, fun _ => 0))) := by
            refine mR_put t1.2.2.2.1 _ (fun k q => ⟨?_, ?_⟩) (fun k q => ?_) (fun q => by cases q) (fun l n f q => by cases q; exact ⟨by rw [f1 _ _ (by omega), st_eq, if_neg (by omega), st_eq, if_pos ⟨rfl, rfl⟩], by rw [f1 _ _ (by omega), st_eq, if_pos ⟨rfl, rfl⟩], fun i hi => g2 i (by omega) hi⟩)
            · rw [f1 _ _ (by omega), st_eq, if_neg (by omega), st_eq, if_neg (by omega), st_eq, if_neg (by omega)]
            · rw [f1 _ _ (by omega), st_eq, if_neg (by omega), st_eq, if_neg (by omega), st_eq, if_neg (by omega)]
            · rw [f1 _ _ (by omega), st_eq, if_neg (by omega), st_eq, if_neg (by omega), st_eq, if_neg (by omega)]
          obtain ⟨i1, i2⟩ := IM_R t1 (m1 := m1) (n := 0) hp (by rw [f1 _ _ (by omega), st_eq, if_neg (by omega), st_eq, if_neg (by omega), st_eq, if_pos ⟨rfl, rfl⟩]) e2
          exact h _ (kC_tr t2 i2) i1
        · rw [cif_f c5] at h
          refine m_finding ?_
          obtain ⟨s1, s2⟩ := IM_F t1 0
          obtain ⟨s3, s4⟩ := IM_F s1 4
          exact h _ (kC_tr (kC_tr t2 s2) s4) s3
      · rw [cif_f (fun q => c4 q.2.2)] at h
        exact h _ t2 t1
    · refine br_t rfl ?_
      rw [cif_f (by grind)] at h
      exact h _ t2 t1
  · refine br_t rfl ?_
    rw [cif_f (fun q => c1 q.1)] at h
    exact h _ t2 t1
theorem upR_ok {R : Nat → pt_rw} {r : Nat} {v : pt_rw} (h : OkR R) (hv : ∀ l n f, v = some (l, n, f) → l ≤ 2 ∧ n ≤ 40) : OkR (upR R r v) := by
  intro k hk l n f e
  unfold upR at e
  by_cases q : k = r
  · rw [if_pos q] at e
    exact hv l n f e
  · rw [if_neg q] at e
    exact h k hk l n f e
theorem rowX_ok {a : pt_al} (O : OK a) (r l n : Int32) : OK (rowX a r l n).1 := by
  unfold rowX
  by_cases c : (0 ≤ r ∧ r < 8) ∧ (0 ≤ l ∧ l < 3) ∧ n ≤ 40
  · rw [cif_t c]
    by_cases c2 : 0 ≤ n
    · rw [cif_t c2]
      obtain ⟨o1, o2, o3, o4, o5, o6⟩ := O
      refine ⟨o1, o2, o3, upR_ok o4 (fun l1 n1 f e => ?_), o5, o6⟩
      cases e
      obtain ⟨n1, hn, rfl⟩ := ixof (n := 41) c2 (by show n < 41; grind) (by omega)
      obtain ⟨l1, hl1, rfl⟩ := ixof c.2.1.1 (n := 3) c.2.1.2 (by omega)
      rw [xN_nI (by omega), xN_nI (by omega)]
      omega
    · rw [cif_f c2]; exact O
  · rw [cif_f c]; exact O
/-! drop -/
noncomputable def dropX (a : pt_al) (r : Int32) : pt_al × Int32 := cif (0 ≤ r ∧ r < 8) (match aR a (xN r) with | none => (aFs a 1, -1000011) | some (_, n, _) => (aRs (aFs a 0) (upR (aR a) (xN r) none), nI n)) (a, -1000001)
theorem C_drop {d : Nat} {Q : pt_Q} {m : pt_M} {a : pt_al} (hC : IC m a) {r : Int32} (h : ∀ m1, kM m m1 → IC m1 (dropX a r).1 → Q (some (zI (dropX a r).2)) m1) : Sp (d + 4) nX6_drop [zR 6 0, zI r] m Q := by
  unfold dropX at h
  refine sX6_drop ?_
  refine Go_rn [] 100 ?_
  refine c_isRow (fun c1 => ?_) (fun c1 => ?_)
  · refine br_f (by decide) ?_
    rw [cif_t c1] at h
    obtain ⟨r1, hr, rfl⟩ := ixof c1.1 (n := 8) c1.2 (by omega)
    rw [xN_nI (by omega)] at h
    refine ⟨r1, rfl, hr, ?_⟩
    cases e : aR a r1 with
    | none =>
      rw [e] at h
      refine br_t (cR_none hC.2.2.2.1 hr e) ?_
      refine c_finding ?_
      exact h _ (IC_F hC 1).2 (IC_F hC 1).1
    | some v =>
      obtain ⟨l, n, f⟩ := v
      rw [e] at h
      obtain ⟨g1, g2, g3, g4⟩ := cR_some hC.2.2.2.1 hr e
      refine br_f (fun q => absurd (g1.symm.trans q) (by decide)) ?_
      refine ⟨Or.inl rfl, ?_⟩
      refine c_noFinding ?_
      obtain ⟨i1, i2⟩ := IC_R hC (m1 := st (st m (1 + 1 + 2 * r1) 0 0) 0 7 0) (R := upR (aR a) r1 none) (n := 0) (cR_put hC.2.2.2.1 _ (fun o k q1 q2 q3 q4 => by rw [st_eq, if_neg (by omega), st_eq, if_neg (by omega)]) (fun _ => by rw [st_eq, if_neg (by omega), st_eq, if_pos ⟨rfl, rfl⟩]) (fun l n f q => by cases q)) (by rw [st_eq, if_pos ⟨rfl, rfl⟩]) (fun o k q1 q2 => by rw [st_eq, if_neg q2, st_eq, if_neg (by omega)])
      refine qe ?_ (h _ i2 i1)
      show st m (1 + 1 + 2 * r1) 0 0 (1 + 1 + 2 * r1) 2 = nI n
      rw [st_eq, if_neg (by omega)]
      exact g3
  · refine br_t rfl ?_
    rw [cif_f c1] at h
    exact h m kM_rf hC
theorem M_drop {d : Nat} {Q : pt_Q} {m : pt_M} {a : pt_al} (O : OK a) (hM : IM m a) {r : Int32} (h : ∀ m1, kC m m1 → IM m1 (dropX a r).1 → Q (some (zI (dropX a r).2)) m1) : Sp (d + 4) nX7_drop [zR 7 143, zI r] m Q := by
  obtain ⟨t1, t2⟩ := IM_th hM
  unfold dropX at h
  refine sX7_drop ?_
  refine Go_rn [] 100 ?_
  refine m_isRow (fun c1 => ?_) (fun c1 => ?_)
  · refine br_f (by decide) ?_
    rw [cif_t c1] at h
    obtain ⟨r1, hr, rfl⟩ := ixof c1.1 (n := 8) c1.2 (by omega)
    rw [xN_nI (by omega)] at h
    obtain ⟨s1, s2⟩ := IM_F t1 0
    refine ⟨r1, rfl, hr, ?_⟩
    cases e : aR a r1 with
    | none =>
      rw [e] at h
      have g1 := (s1.2.2.2.1 r1 hr).1 e
      refine br_f (fun q => absurd (by rw [← g1]; exact q : (0 : Int32) ≤ -1) (by decide)) ?_
      refine m_finding ?_
      obtain ⟨s3, s4⟩ := IM_F s1 1
      exact h _ (kC_tr (kC_tr t2 s2) s4) s3
    | some v =>
      obtain ⟨l, n, f⟩ := v
      rw [e] at h
      obtain ⟨g1, g2, g3⟩ := (s1.2.2.2.1 r1 hr).2 l n f e
      have hl2 := (O.2.2.2.1 r1 hr l n f e).1
      have hl : 0 ≤ nI l := nI_pos' (by omega)
      refine br_t (by rw [← g1] at hl; exact hl) ?_
      refine ⟨r1, rfl, hr, ?_⟩
      refine ⟨r1, rfl, hr, ?_⟩
      obtain ⟨i1, i2⟩ := IM_R t1 (m1 := st (st (st m 143 0 0) 143 1 0) 144 r1 (-1)) (R := upR (aR a) r1 none) (n := 0) (mR_put t1.2.2.2.1 _ (fun k q => ⟨by rw [st_eq, if_neg (by omega), st_eq, if_neg (by omega)], by rw [st_eq, if_neg (by omega), st_eq, if_neg (by omega)]⟩) (fun k q => by rw [st_eq, if_neg (by omega), st_eq, if_neg (by omega)]) (fun _ => by rw [st_eq, if_pos ⟨rfl, rfl⟩]) (fun l n f q => by cases q)) (by rw [st_eq, if_neg (by omega), st_eq, if_pos ⟨rfl, rfl⟩]) (fun o k q1 q2 => by rw [st_eq, if_neg (by omega), st_eq, if_neg (by omega)])
      refine qe ?_ (h _ (kC_tr t2 i2) i1)
      show st (st (st m 143 0 0) 143 1 0) 144 r1 (-1) 145 r1 = nI n
      rw [st_eq, if_neg (by omega)]
      exact g2
  · refine br_t rfl ?_
    rw [cif_f c1] at h
    exact h _ t2 t1
theorem dropX_ok {a : pt_al} (O : OK a) (r : Int32) : OK (dropX a r).1 := by
  unfold dropX
  by_cases c : 0 ≤ r ∧ r < 8
  · rw [cif_t c]
    obtain ⟨o1, o2, o3, o4, o5, o6⟩ := O
    cases e : aR a (xN r) with
    | none => exact ⟨o1, o2, o3, o4, o5, o6⟩
    | some v => exact ⟨o1, o2, o3, upR_ok o4 (fun l n f e => by cases e), o5, o6⟩
  · rw [cif_f c]; exact O
/-! set -/
theorem c_inLane {d : Nat} {Q : pt_Q} {m : pt_M} {b l : Nat} {v : Int32} (hl : m b 1 = nI l) (hl2 : l ≤ 2) (h : Q (some (zI (lnv l v))) m) : Sp (d + 1) nX3_inLane [zR 3 b, zI v] m Q := by
  have hl3 : l = 0 ∨ l = 1 ∨ l = 2 := by omega
  refine sX3_inLane ?_
  refine Go_rn [32, 35, 38] 100 ?_
  have key : ∀ pc, pt_lsw 38 [(0, 32), (1, 35)] (m b 1).toInt = pc → Go (Sp d) tt_19 Q pc (pt_ini 2 [zR 3 b, zI v]) [] m → pt_rn (Sp d) tt_19 Q (Go (Sp d) tt_19 Q) [32, 35, 38] 100 0 (pt_ini 2 [zR 3 b, zI v]) [] m := by
    intro pc e h
    show cond (pt_mem (pt_lsw 38 [(0, 32), (1, 35)] (m b 1).toInt) [32, 35, 38]) (Go (Sp d) tt_19 Q (pt_lsw 38 [(0, 32), (1, 35)] (m b 1).toInt) (pt_ini 2 [zR 3 b, zI v]) [] m) _
    rw [e]
    have e2 : pt_mem pc [32, 35, 38] = true := by
      subst e
      rw [hl]
      rcases hl3 with rfl | rfl | rfl <;> decide
    rw [e2]
    exact h
  rcases hl3 with rfl | rfl | rfl
  · refine key 32 (by rw [hl]; decide) ?_
    refine Go_rn [] 100 ?_
    exact h
  · refine key 35 (by rw [hl]; decide) ?_
    refine Go_rn [] 100 ?_
    exact h
  · refine key 38 (by rw [hl]; decide) ?_
    refine Go_rn [] 100 ?_
    exact h
def hpP (i n : Int32) (N : Nat) : Prop := 0 ≤ i ∧ 0 ≤ n ∧ xN i + xN n ≤ N
theorem c_hasPlaces {d : Nat} {Q : pt_Q} {m : pt_M} {b N : Nat} {i n : Int32} (hN : m b 2 = nI N) (hN2 : N ≤ 40) (hp : hpP i n N → Q (some (zI 1)) m) (hn : ¬ hpP i n N → Q (some (zI 0)) m) : Sp (d + 1) nX3_hasPlaces [zR 3 b, zI i, zI n] m Q := by
  unfold hpP at hp hn
  refine sX3_hasPlaces ?_
  refine Go_rn [] 100 ?_
  refine ⟨fun c => ⟨bz0, hn (by grind)⟩, fun c => ⟨fun c2 => ⟨bz0, hn (by grind)⟩, fun c2 => ?_⟩⟩
  obtain ⟨a, ha, rfl⟩ := nI_of (x := i) c
  obtain ⟨k, hk, rfl⟩ := nI_of (x := n) c2
  rw [xN_nI ha, xN_nI hk] at hp hn
  refine ⟨fun c3 => ⟨bz0, hn (fun q => ?_)⟩, fun c3 => ?_⟩
  · have c4 : nI N < nI k := by rw [← hN]; exact c3
    have := (nI_ltI (by omega) hk).mp c4
    omega
  · have c4 : k ≤ N := by
      rcases Nat.lt_or_ge N k with q | q
      · exact absurd (show m b 2 < nI k by rw [hN]; exact nI_lt q hk) c3
      · exact q
    have e : m b 2 - nI k = nI (N - k) := by rw [hN]; exact pk_sub c4
    refine ⟨fun c5 => ⟨bz0, hn (fun q => ?_)⟩, fun c5 => ⟨bz1, hp ⟨nI_pos' ha, nI_pos' hk, ?_⟩⟩⟩
    · have c6 : nI (N - k) < nI a := by rw [← e]; exact c5
      have := (nI_ltI (by omega) ha).mp c6
      omega
    · rcases Nat.lt_or_ge (N - k) a with q | q
      · exact absurd (show m b 2 - nI k < nI a by rw [e]; exact nI_lt q ha) c5
      · omega
noncomputable def setX (a : pt_al) (r i v : Int32) : pt_al × Int32 := cif (0 ≤ r ∧ r < 8) (match aR a (xN r) with | none => (aFs a 1, -1000011) | some (l, n, f) => cif (0 ≤ i ∧ i < nI n) (aRs (aFs a 0) (upR (aR a) (xN r) (some (l, n, upd f (xN i) (lnv l v)))), lnv l v) (aFs a 2, -1000012)) (a, -1000001)
theorem hp1 {i : Int32} {N : Nat} (hN : N ≤ 40) : hpP i 1 N ↔ (0 ≤ i ∧ i < nI N) := by
  unfold hpP
  have e : xN (1 : Int32) = 1 := by decide
  rw [e]
  constructor
  · intro h
    obtain ⟨a, ha, rfl⟩ := nI_of (x := i) (by grind)
    rw [xN_nI ha] at h
    exact ⟨h.1, nI_lt (by omega) (by omega)⟩
  · intro h
    obtain ⟨a, ha, rfl⟩ := ixof h.1 h.2 (by omega)
    rw [xN_nI (by omega)]
    exact ⟨h.1, by decide, by omega⟩
theorem C_set {d : Nat} {Q : pt_Q} {m : pt_M} {a : pt_al} (O : OK a) (hC : IC m a) {r i v : Int32} (h : ∀ m1, kM m m1 → IC m1 (setX a r i v).1 → Q (some (zI (setX a r i v).2)) m1) : Sp (d + 4) nX6_set [zR 6 0, zI r, zI i, zI v] m Q := by
  unfold setX at h
  refine sX6_set ?_
  refine Go_rn [] 100 ?_
  refine c_isRow (fun c1 => ?_) (fun c1 => ?_)
  · refine br_f (by decide) ?_
    rw [cif_t c1] at h
    obtain ⟨r1, hr, rfl⟩ := ixof c1.1 (n := 8) c1.2 (by omega)
    rw [xN_nI (by omega)] at h
    refine ⟨r1, rfl, hr, ?_⟩
    cases e : aR a r1 with
    | none =>
      rw [e] at h
      refine br_t (cR_none hC.2.2.2.1 hr e) ?_
      refine c_finding ?_
      exact h _ (IC_F hC 1).2 (IC_F hC 1).1
    | some v1 =>
      obtain ⟨l, n, f⟩ := v1
      rw [e] at h
      dsimp only at h
      obtain ⟨g1, g2, g3, g4⟩ := cR_some hC.2.2.2.1 hr e
      have ob := O.2.2.2.1 r1 hr l n f e
      refine br_f (fun q => absurd (g1.symm.trans q) (by decide)) ?_
      refine c_hasPlaces g3 ob.2 (fun c2 => ?_) (fun c2 => ?_)
      · refine br_f (by decide) ?_
        rw [hp1 ob.2] at c2
        rw [cif_t c2] at h
        obtain ⟨i1, hi, rfl⟩ := ixof c2.1 c2.2 (by omega)
        rw [xN_nI (by omega)] at h
        refine c_inLane g2 ob.1 ?_
        refine ⟨i1, rfl, by omega, ?_⟩
        refine ⟨i1, rfl, by omega, ?_⟩
        refine c_noFinding ?_
        have ex : st m (1 + 1 + 2 * r1 + 1) i1 (lnv l v) (1 + 1 + 2 * r1 + 1) i1 = lnv l v := by rw [st_eq, if_pos ⟨rfl, rfl⟩]
        refine qe ex ?_
        obtain ⟨j1, j2⟩ := IC_R hC (m1 := st (st m (1 + 1 + 2 * r1 + 1) i1 (lnv l v)) 0 7 0) (R := upR (aR a) r1 (some (l, n, upd f i1 (lnv l v)))) (n := 0) (cR_put hC.2.2.2.1 _ (fun o k q1 q2 q3 q4 => by rw [st_eq, if_neg (by omega), st_eq, if_neg (by omega)]) (fun q => by cases q) (fun l2 n2 f2 q => by
          cases q
          refine ⟨by rw [st_eq, if_neg (by omega), st_eq, if_neg (by omega)]; exact g1, by rw [st_eq, if_neg (by omega), st_eq, if_neg (by omega)]; exact g2, by rw [st_eq, if_neg (by omega), st_eq, if_neg (by omega)]; exact g3, fun i hi => ?_⟩
          rw [st_eq, if_neg (by omega), st_eq]
          unfold upd
          by_cases e9 : i = i1
          · rw [if_pos ⟨rfl, e9⟩, if_pos e9]
          · rw [if_neg (by omega), if_neg e9]
            exact g4 i hi)) (by rw [st_eq, if_pos ⟨rfl, rfl⟩]) (fun o k q1 q2 => by rw [st_eq, if_neg q2, st_eq, if_neg (by omega)])
        exact h _ j2 j1
      · refine br_t rfl ?_
        rw [hp1 ob.2] at c2
        rw [cif_f c2] at h
        refine c_finding ?_
        exact h _ (IC_F hC 2).2 (IC_F hC 2).1
  · refine br_t rfl ?_
    rw [cif_f c1] at h
    exact h m kM_rf hC
theorem nIz {l : Nat} (h : l ≤ 2) : (nI l = 0 ↔ l = 0) ∧ (nI l = 1 ↔ l = 1) := by
  have : l = 0 ∨ l = 1 ∨ l = 2 := by omega
  rcases this with rfl | rfl | rfl <;> decide
theorem M_set {d : Nat} {Q : pt_Q} {m : pt_M} {a : pt_al} (O : OK a) (hM : IM m a) {r i v : Int32} (h : ∀ m1, kC m m1 → IM m1 (setX a r i v).1 → Q (some (zI (setX a r i v).2)) m1) : Sp (d + 4) nX7_set [zR 7 143, zI r, zI i, zI v] m Q := by
  obtain ⟨t1, t2⟩ := IM_th hM
  unfold setX at h
  refine sX7_set ?_
  refine Go_rn [] 100 ?_
  refine m_isRow (fun c1 => ?_) (fun c1 => ?_)
  · refine br_f (by decide) ?_
    rw [cif_t c1] at h
    obtain ⟨r1, hr, rfl⟩ := ixof c1.1 (n := 8) c1.2 (by omega)
    rw [xN_nI (by omega)] at h
    obtain ⟨s1, s2⟩ := IM_F t1 0
    refine ⟨r1, rfl, hr, ?_⟩
    cases e : aR a r1 with
    | none =>
      rw [e] at h
      have g1 := (s1.2.2.2.1 r1 hr).1 e
      refine br_f (fun q => absurd (by rw [← g1]; exact q : (0 : Int32) ≤ -1) (by decide)) ?_
      refine m_finding ?_
      obtain ⟨s3, s4⟩ := IM_F s1 1
      exact h _ (kC_tr (kC_tr t2 s2) s4) s3
    | some v1 =>
      obtain ⟨l, n, f⟩ := v1
      rw [e] at h
      dsimp only at h
      obtain ⟨g1, g2, g3⟩ := (s1.2.2.2.1 r1 hr).2 l n f e
      have ob := O.2.2.2.1 r1 hr l n f e
      have hl : 0 ≤ nI l := nI_pos' (by omega)
      refine br_t (by rw [← g1] at hl; exact hl) ?_
      refine ⟨r1, rfl, hr, ?_⟩
      refine m_inI (lo := 0) (hi := st (st m 143 0 0) 143 1 0 145 r1 - 1) (by decide) rfl (fun c => ?_) (fun c => ?_)
      · rw [g2, lt_pred (by omega)] at c
        refine br_f (by decide) ?_
        rw [cif_t c] at h
        obtain ⟨i1, hi, rfl⟩ := ixof c.1 c.2 (by omega)
        rw [xN_nI (by omega)] at h
        have fin : ∀ (w : Int32), w = lnv l v → Q (some (zI (st (st (st m 143 0 0) 143 1 0) 146 (40 * r1 + i1) w 146 (40 * r1 + i1)))) (st (st (st m 143 0 0) 143 1 0) 146 (40 * r1 + i1) w) := by
          intro w hw
          subst hw
          refine qe (y := lnv l v) (by rw [st_eq, if_pos ⟨rfl, rfl⟩]) ?_
          obtain ⟨j1, j2⟩ := IM_R t1 (m1 := st (st (st m 143 0 0) 143 1 0) 146 (40 * r1 + i1) (lnv l v)) (R := upR (aR a) r1 (some (l, n, upd f i1 (lnv l v)))) (n := 0) (mR_put t1.2.2.2.1 _ (fun k q => ⟨by rw [st_eq, if_neg (by omega), st_eq, if_neg (by omega)], by rw [st_eq, if_neg (by omega), st_eq, if_neg (by omega)]⟩) (fun k q => by rw [st_eq, if_neg (by omega), st_eq, if_neg (by omega)]) (fun q => by cases q) (fun l2 n2 f2 q => by
            cases q
            refine ⟨by rw [st_eq, if_neg (by omega)]; exact g1, by rw [st_eq, if_neg (by omega)]; exact g2, fun i hi => ?_⟩
            rw [st_eq]
            unfold upd
            by_cases e9 : i = i1
            · rw [if_pos ⟨rfl, by omega⟩, if_pos e9]
            · rw [if_neg (by omega), if_neg e9]
              exact g3 i hi)) (by rw [st_eq, if_neg (by omega), st_eq, if_pos ⟨rfl, rfl⟩]) (fun o k q1 q2 => by rw [st_eq, if_neg (by omega), st_eq, if_neg (by omega)])
          exact h _ (kC_tr t2 j2) j1
        refine ⟨r1, rfl, hr, ?_⟩
        refine ⟨fun c4 => ?_, fun c4 => ?_⟩
        · have c5 : l = 0 := (nIz ob.1).1.mp (by rw [← g1]; exact c4)
          refine ⟨40 * r1 + i1, ixH r1 i1, by omega, ?_⟩
          refine ⟨40 * r1 + i1, ixH r1 i1, by omega, ?_⟩
          exact fin _ (by unfold lnv; rw [if_pos c5])
        · have c5 : ¬ l = 0 := fun q => c4 (by show st (st m 143 0 0) 143 1 0 144 r1 = 0; rw [g1]; exact (nIz ob.1).1.mpr q)
          refine ⟨r1, rfl, hr, ?_⟩
          refine ⟨fun c6 => ?_, fun c6 => ?_⟩
          · have c7 : l = 1 := (nIz ob.1).2.mp (by rw [← g1]; exact c6)
            refine ⟨40 * r1 + i1, ixH r1 i1, by omega, ?_⟩
            refine ⟨40 * r1 + i1, ixH r1 i1, by omega, ?_⟩
            exact fin _ (by unfold lnv; rw [if_neg c5, if_pos c7])
          · have c7 : ¬ l = 1 := fun q => c6 (by show st (st m 143 0 0) 143 1 0 144 r1 = 1; rw [g1]; exact (nIz ob.1).2.mpr q)
            refine ⟨40 * r1 + i1, ixH r1 i1, by omega, ?_⟩
            refine ⟨40 * r1 + i1, ixH r1 i1, by omega, ?_⟩
            exact fin _ (by unfold lnv; rw [if_neg c5, if_neg c7])
      · rw [g2, lt_pred (by omega)] at c
        refine br_t rfl ?_
        rw [cif_f c] at h
        refine m_finding ?_
        obtain ⟨s3, s4⟩ := IM_F s1 2
        exact h _ (kC_tr (kC_tr t2 s2) s4) s3
  · refine br_t rfl ?_
    rw [cif_f c1] at h
    exact h _ t2 t1
theorem setX_ok {a : pt_al} (O : OK a) (r i v : Int32) : OK (setX a r i v).1 := by
  unfold setX
  by_cases c : 0 ≤ r ∧ r < 8
  · rw [cif_t c]
    obtain ⟨o1, o2, o3, o4, o5, o6⟩ := O
    obtain ⟨r1, hr, rfl⟩ := ixof c.1 (n := 8) c.2 (by omega)
    rw [xN_nI (by omega)]
    cases e : aR a r1 with
    | none => exact ⟨o1, o2, o3, o4, o5, o6⟩
    | some v1 =>
      obtain ⟨l, n, f⟩ := v1
      dsimp only
      by_cases c2 : 0 ≤ i ∧ i < nI n
      · rw [cif_t c2]
        exact ⟨o1, o2, o3, upR_ok o4 (fun l2 n2 f2 q => by cases q; exact o4 r1 hr l n f e), o5, o6⟩
      · rw [cif_f c2]
        exact ⟨o1, o2, o3, o4, o5, o6⟩
  · rw [cif_f c]; exact O
