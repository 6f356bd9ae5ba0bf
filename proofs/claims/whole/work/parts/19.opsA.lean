/-! 19.opsA: fault, status, wall, reader, felt, kind, as, trace: both sides give one answer -/
noncomputable def cif {α : Type} (P : Prop) (a b : α) : α := @ite α P (Classical.propDecidable P) a b
theorem cif_t {α : Type} {P : Prop} {a b : α} (h : P) : cif P a b = a := by
  unfold cif
  exact if_pos h
theorem cif_f {α : Type} {P : Prop} {a b : α} (h : ¬ P) : cif P a b = b := by
  unfold cif
  exact if_neg h
def kM (m m1 : pt_M) : Prop := ∀ o k, 143 ≤ o → m1 o k = m o k
def kC (m m1 : pt_M) : Prop := ∀ o k, o < 143 → m1 o k = m o k
abbrev xN (x : Int32) : Nat := x.toNatClampNeg
theorem xN_nI {n : Nat} (h : n < 2 ^ 31) : xN (nI n) = n := nI_clamp h
theorem kM_rf {m : pt_M} : kM m m := fun _ _ _ => rfl
theorem kC_rf {m : pt_M} : kC m m := fun _ _ _ => rfl
/-- the model's first act in each call -/
theorem IM_th {m : pt_M} {a : pt_al} (h : IM m a) : IM (st m 143 0 0) a ∧ kC m (st m 143 0 0) :=
  ⟨IM_fr h (fun o k q => by unfold pM at q; rw [st_eq, if_neg (by omega)]), fun o k q => by rw [st_eq, if_neg (by omega)]⟩
/-! fault -/
theorem C_fault {d : Nat} {Q : pt_Q} {m : pt_M} {a : pt_al} (hC : IC m a) (h : ∀ m1, kM m m1 → IC m1 a → Q (some (zI (aL a))) m1) : Sp (d + 1) nX6_fault [zR 6 0] m Q := by
  refine sX6_fault ?_
  refine Go_rn [] 100 ?_
  exact qe hC.2.2.2.2.2.2.2 (h m kM_rf hC)
theorem M_fault {d : Nat} {Q : pt_Q} {m : pt_M} {a : pt_al} (hM : IM m a) (h : ∀ m1, kC m m1 → IM m1 a → Q (some (zI (aL a))) m1) : Sp (d + 1) nX7_fault [zR 7 143] m Q := by
  obtain ⟨t1, t2⟩ := IM_th hM
  refine sX7_fault ?_
  refine Go_rn [] 100 ?_
  exact qe t1.2.2.2.2.2.2.2 (h _ t2 t1)
theorem C_status {d : Nat} {Q : pt_Q} {m : pt_M} {a : pt_al} (hC : IC m a) (h : ∀ m1, kM m m1 → IC m1 a → Q (some (zI (aF a))) m1) : Sp (d + 1) nX6_status [zR 6 0] m Q := by
  refine sX6_status ?_
  refine Go_rn [] 100 ?_
  exact qe hC.2.2.2.2.2.2.1 (h m kM_rf hC)
theorem M_status {d : Nat} {Q : pt_Q} {m : pt_M} {a : pt_al} (hM : IM m a) (h : ∀ m1, kC m m1 → IM m1 a → Q (some (zI (aF a))) m1) : Sp (d + 1) nX7_status [zR 7 143] m Q := by
  obtain ⟨t1, t2⟩ := IM_th hM
  refine sX7_status ?_
  refine Go_rn [] 100 ?_
  exact qe t1.2.2.2.2.2.2.1 (h _ t2 t1)
/-! wall -/
noncomputable def wallX (a : pt_al) (w f : Int32) : Int32 := cif ((0 ≤ w ∧ w < aS a 0) ∧ (0 ≤ f ∧ f < 5)) (aS a (3 + (5 * xN w + xN f))) (-1000001)
theorem RC_str {m : pt_M} {b : Nat} {σ : pt_sg} (h : RC m b σ) {w f : Nat} (hw : w < sw σ) (hf : f < 5) : m (b + 1) (5 * w + f) = σ (3 + (5 * w + f)) := h.2.2.2.1 _ (by omega)
theorem RM_at {m : pt_M} {a : Nat} {σ : pt_sg} (h : RM m a 0 σ) {k : Nat} (hk : k < 78) : m a k = σ k := by
  have := h k hk
  rwa [Nat.zero_add] at this
theorem C_wall {d : Nat} {Q : pt_Q} {m : pt_M} {a : pt_al} (O : OK a) (hC : IC m a) {w f : Int32} (h : ∀ m1, kM m m1 → IC m1 a → Q (some (zI (wallX a w f))) m1) : Sp (d + 4) nX6_wall [zR 6 0, zI w, zI f] m Q := by
  have h := h m kM_rf hC
  refine sX6_wall ?_
  refine Go_rn [] 100 ?_
  refine c_hasFlavour hC.1.1 (fun c => ?_) (fun c => ?_)
  · refine br_f (by decide) ?_
    unfold wallX at h
    rw [cif_t c] at h
    obtain ⟨w1, hw, rfl⟩ := wallN O.1 c.1
    obtain ⟨f1, hf, rfl⟩ := flavN c.2
    have h8 := O.1.2.1
    rw [xN_nI (by omega), xN_nI (by omega)] at h
    exact c_strength (by omega) hf (RC_str hC.1 hw hf) h
  · refine br_t rfl ?_
    unfold wallX at h
    rw [cif_f c] at h
    exact h
theorem M_wall {d : Nat} {Q : pt_Q} {m : pt_M} {a : pt_al} (O : OK a) (hM : IM m a) {w f : Int32} (h : ∀ m1, kC m m1 → IM m1 a → Q (some (zI (wallX a w f))) m1) : Sp (d + 4) nX7_wall [zR 7 143, zI w, zI f] m Q := by
  obtain ⟨t1, t2⟩ := IM_th hM
  have h := h _ t2 t1
  unfold wallX at h
  refine sX7_wall ?_
  refine Go_rn [] 100 ?_
  refine m_isWall O.1 (RM_at t1.1 (by omega)) (fun c => ?_) (fun c => ?_)
  · refine br_f (by decide) ?_
    refine m_isFlavour (fun c2 => ?_) (fun c2 => ?_)
    · refine br_f (by decide) ?_
      rw [cif_t ⟨c, c2⟩] at h
      obtain ⟨w1, hw, rfl⟩ := wallN O.1 c
      obtain ⟨f1, hf, rfl⟩ := flavN c2
      have h8 := O.1.2.1
      rw [xN_nI (by omega), xN_nI (by omega)] at h
      exact m_strong (by omega) hf (RM_at t1.1 (by omega)) h
    · refine br_t rfl ?_
      rw [cif_f (fun q => c2 q.2)] at h
      exact h
  · refine br_t rfl ?_
    rw [cif_f (fun q => c q.1)] at h
    exact h
/-! reader -/
noncomputable def readerX (a : pt_al) (r x : Int32) : Int32 := cif ((0 ≤ r ∧ r < aS a 1) ∧ (0 ≤ x ∧ x ≤ 5)) (aS a (44 + 7 * xN r + xN x)) (-1000001)
theorem ixG (r x : Nat) : nI r * 6 + nI x = nI (6 * r + x) := by
  rw [ixD]
  exact nI_add _ _
theorem C_reader {d : Nat} {Q : pt_Q} {m : pt_M} {a : pt_al} (O : OK a) (hC : IC m a) {r x : Int32} (h : ∀ m1, kM m m1 → IC m1 a → Q (some (zI (readerX a r x))) m1) : Sp (d + 4) nX6_reader [zR 6 0, zI r, zI x] m Q := by
  have h := h m kM_rf hC
  unfold readerX at h
  refine sX6_reader ?_
  refine Go_rn [] 100 ?_
  refine c_hasReader hC.1.2.1 (fun c => ?_) (fun c => ?_)
  · refine br_f (by decide) ?_
    refine ⟨fun c2 => ?_, fun c2 => ⟨fun c3 => ?_, fun c3 => ?_⟩⟩
    · rw [cif_f (by grind)] at h
      exact h
    · have c4 : 0 ≤ x ∧ x ≤ 5 := by grind
      rw [cif_t ⟨c, c4⟩] at h
      obtain ⟨r1, hr, rfl⟩ := readN O.1 c
      obtain ⟨x1, hx, rfl⟩ := ixof (n := 6) c4.1 (by show x < 6; grind) (by omega)
      have h8 := O.1.2.2.2.1
      rw [xN_nI (by omega), xN_nI (by omega)] at h
      refine ⟨6 * r1 + x1, ixG r1 x1, by omega, ?_⟩
      exact qe ((hC.1.2.2.2.2 r1 hr).2 x1 hx) h
    · rw [cif_f (by grind)] at h
      exact h
  · refine br_t rfl ?_
    rw [cif_f (fun q => c q.1)] at h
    exact h
theorem M_reader {d : Nat} {Q : pt_Q} {m : pt_M} {a : pt_al} (O : OK a) (hM : IM m a) {r x : Int32} (h : ∀ m1, kC m m1 → IM m1 a → Q (some (zI (readerX a r x))) m1) : Sp (d + 4) nX7_reader [zR 7 143, zI r, zI x] m Q := by
  obtain ⟨t1, t2⟩ := IM_th hM
  have h := h _ t2 t1
  unfold readerX at h
  refine sX7_reader ?_
  refine Go_rn [] 100 ?_
  refine m_isReader O.1 (RM_at t1.1 (by omega)) (fun c => ?_) (fun c => ?_)
  · refine br_f (by decide) ?_
    refine m_inI (lo := 0) (hi := 5) (by decide) (by decide) (fun c2 => ?_) (fun c2 => ?_)
    · refine br_f (by decide) ?_
      rw [cif_t ⟨c, c2⟩] at h
      obtain ⟨r1, hr, rfl⟩ := readN O.1 c
      obtain ⟨x1, hx, rfl⟩ := ixof (n := 6) c2.1 (by show x < 6; grind) (by omega)
      have h8 := O.1.2.2.2.1
      rw [xN_nI (by omega), xN_nI (by omega)] at h
      refine m_of (x := 1 + x1) (by omega) (by omega) (nI_add 1 x1) (v := aS a (44 + 7 * r1 + x1)) ?_ h
      rw [← RM_at t1.1 (by omega)]
      congr 1
      omega
    · refine br_t rfl ?_
      rw [cif_f (fun q => c2 q.2)] at h
      exact h
  · refine br_t rfl ?_
    rw [cif_f (fun q => c q.1)] at h
    exact h
/-! felt -/
noncomputable def feltX (a : pt_al) (r w f : Int32) : Int32 := cif ((0 ≤ r ∧ r < aS a 1) ∧ (0 ≤ w ∧ w < aS a 0) ∧ (0 ≤ f ∧ f < 5))
  (fl (aS a (43 + 7 * xN r)) (aS a (44 + 7 * xN r + xN f)) (aS a (44 + 7 * xN r + 5)) (aS a (3 + (5 * xN w + xN f))) f) (-1000001)
theorem IC_scr {m m1 : pt_M} {a : pt_al} (h : IC m a) (hf : ∀ o k, ¬ (137 ≤ o ∧ o ≤ 142) → m1 o k = m o k) : IC m1 a ∧ kM m m1 :=
  ⟨IC_fr h (fun o k q => hf o k (by unfold pC at q; omega)), fun o k q => hf o k (by omega)⟩
theorem C_felt {d : Nat} {Q : pt_Q} {m : pt_M} {a : pt_al} (O : OK a) (hC : IC m a) {r w f : Int32} (h : ∀ m1, kM m m1 → IC m1 a → Q (some (zI (feltX a r w f))) m1) : Sp (d + 4) nX6_felt [zR 6 0, zI r, zI w, zI f] m Q := by
  unfold feltX at h
  refine sX6_felt ?_
  refine Go_rn [] 100 ?_
  refine c_hasReader hC.1.2.1 (fun c => ?_) (fun c => ?_)
  · refine br_f (by decide) ?_
    refine c_hasFlavour hC.1.1 (fun c2 => ?_) (fun c2 => ?_)
    · refine br_f (by decide) ?_
      rw [cif_t ⟨c, c2⟩] at h
      obtain ⟨r1, hr, rfl⟩ := readN O.1 c
      obtain ⟨w1, hw, rfl⟩ := wallN O.1 c2.1
      obtain ⟨f1, hf, rfl⟩ := flavN c2.2
      have h8 := O.1.2.1
      have h9 := O.1.2.2.2.1
      rw [xN_nI (by omega), xN_nI (by omega), xN_nI (by omega)] at h
      refine c_take O.1 hC.1 hr (fun m1 f1 p1 => ?_)
      obtain ⟨i1, i2⟩ := IC_scr hC (m1 := m1) (fun o k q => f1 o k (by unfold Ttake; omega))
      refine c_strength (by omega) hf (RC_str i1.1 hw hf) ?_
      exact c_feels hf p1.1 (p1.2.2 _ hf) p1.2.1 (h m1 i2 i1)
    · refine br_t rfl ?_
      rw [cif_f (fun q => c2 q.2)] at h
      exact h m kM_rf hC
  · refine br_t rfl ?_
    rw [cif_f (fun q => c q.1)] at h
    exact h m kM_rf hC
theorem M_felt {d : Nat} {Q : pt_Q} {m : pt_M} {a : pt_al} (O : OK a) (hM : IM m a) {r w f : Int32} (h : ∀ m1, kC m m1 → IM m1 a → Q (some (zI (feltX a r w f))) m1) : Sp (d + 4) nX7_felt [zR 7 143, zI r, zI w, zI f] m Q := by
  obtain ⟨t1, t2⟩ := IM_th hM
  unfold feltX at h
  refine sX7_felt ?_
  refine Go_rn [] 100 ?_
  refine m_isReader O.1 (RM_at t1.1 (by omega)) (fun c => ?_) (fun c => ?_)
  · refine br_f (by decide) ?_
    refine m_isWall O.1 (RM_at t1.1 (by omega)) (fun c2 => ?_) (fun c2 => ?_)
    · refine br_f (by decide) ?_
      refine m_isFlavour (fun c3 => ?_) (fun c3 => ?_)
      · refine br_f (by decide) ?_
        rw [cif_t ⟨c, c2, c3⟩] at h
        obtain ⟨r1, hr, rfl⟩ := readN O.1 c
        obtain ⟨w1, hw, rfl⟩ := wallN O.1 c2
        obtain ⟨f1, hf, rfl⟩ := flavN c3
        have h8 := O.1.2.1
        have h9 := O.1.2.2.2.1
        rw [xN_nI (by omega), xN_nI (by omega), xN_nI (by omega)] at h
        refine m_layPalm O.1 t1.1 hr (fun m1 f1 p1 => ?_)
        have i1 : IM m1 a := IM_fr t1 (fun o k q => f1 o k (by unfold pM at q; unfold Tlay; omega))
        have i2 : kC m m1 := fun o k q => (f1 o k (by unfold Tlay; omega)).trans (t2 o k q)
        refine m_strong (by omega) hf (RM_at i1.1 (by omega)) ?_
        exact m_feels hf p1.1 (p1.2.2 _ hf) p1.2.1 (h m1 i2 i1)
      · refine br_t rfl ?_
        rw [cif_f (fun q => c3 q.2.2)] at h
        exact h _ t2 t1
    · refine br_t rfl ?_
      rw [cif_f (fun q => c2 q.2.1)] at h
      exact h _ t2 t1
  · refine br_t rfl ?_
    rw [cif_f (fun q => c q.1)] at h
    exact h _ t2 t1
/-! kind -/
noncomputable def kindX (a : pt_al) (r : Int32) : Int32 := cif (0 ≤ r ∧ r < aS a 1) (aS a (43 + 7 * xN r)) (-1000001)
theorem C_kind {d : Nat} {Q : pt_Q} {m : pt_M} {a : pt_al} (O : OK a) (hC : IC m a) {r : Int32} (h : ∀ m1, kM m m1 → IC m1 a → Q (some (zI (kindX a r))) m1) : Sp (d + 4) nX6_kind [zR 6 0, zI r] m Q := by
  have h := h m kM_rf hC
  unfold kindX at h
  refine sX6_kind ?_
  refine Go_rn [] 100 ?_
  refine c_hasReader hC.1.2.1 (fun c => ?_) (fun c => ?_)
  · refine br_f (by decide) ?_
    rw [cif_t c] at h
    obtain ⟨r1, hr, rfl⟩ := readN O.1 c
    have h8 := O.1.2.2.2.1
    rw [xN_nI (by omega)] at h
    refine ⟨r1, rfl, by omega, ?_⟩
    exact qe (hC.1.2.2.2.2 r1 hr).1 h
  · refine br_t rfl ?_
    rw [cif_f c] at h
    exact h
theorem M_kind {d : Nat} {Q : pt_Q} {m : pt_M} {a : pt_al} (O : OK a) (hM : IM m a) {r : Int32} (h : ∀ m1, kC m m1 → IM m1 a → Q (some (zI (kindX a r))) m1) : Sp (d + 4) nX7_kind [zR 7 143, zI r] m Q := by
  obtain ⟨t1, t2⟩ := IM_th hM
  have h := h _ t2 t1
  unfold kindX at h
  refine sX7_kind ?_
  refine Go_rn [] 100 ?_
  refine m_isReader O.1 (RM_at t1.1 (by omega)) (fun c => ?_) (fun c => ?_)
  · refine br_f (by decide) ?_
    rw [cif_t c] at h
    obtain ⟨r1, hr, rfl⟩ := readN O.1 c
    have h8 := O.1.2.2.2.1
    rw [xN_nI (by omega)] at h
    exact m_of (x := 0) (by omega) (by omega) rfl (RM_at t1.1 (by omega)) h
  · refine br_t rfl ?_
    rw [cif_f c] at h
    exact h
/-! as -/
def isKP (k w : Int32) : Prop := w = 0 ∨ k = w ∨ (w = 1 ∧ k < 4) ∨ (w = 4 ∧ k = 5)
theorem m_isOf {d : Nat} {Q : pt_Q} {m : pt_M} {k w : Int32} (hp : isKP k w → Q (some (zI 1)) m) (hn : ¬ isKP k w → Q (some (zI 0)) m) : Sp (d + 1) nX7_isOf [zI k, zI w] m Q := by
  unfold isKP at hp hn
  refine sX7_isOf ?_
  refine Go_rn [] 100 ?_
  refine ⟨fun c1 => ⟨bz1, hp (Or.inl c1)⟩, fun c1 => ⟨fun c2 => ⟨bz1, hp (Or.inr (Or.inl c2))⟩, fun c2 => ⟨fun c3 => ⟨fun c4 => ⟨bz1, hp (Or.inr (Or.inr (Or.inl ⟨c3, c4⟩)))⟩, fun c4 => ⟨fun c5 => ⟨fun c6 => ⟨bz1, hp (by grind)⟩, fun c6 => ⟨bz0, hn (by grind)⟩⟩, fun c5 => ⟨bz0, hn (by grind)⟩⟩⟩, fun c3 => ⟨fun c5 => ⟨fun c6 => ⟨bz1, hp (by grind)⟩, fun c6 => ⟨bz0, hn (by grind)⟩⟩, fun c5 => ⟨bz0, hn (by grind)⟩⟩⟩⟩⟩
theorem c_iok_s {d : Nat} {Q : pt_Q} {m : pt_M} {k w x y : Int32} {s j : Nat} (hs : s < 6) (hj : j < 6) (ex : x = nI s) (ey : y = nI j) (hp : x = w → Q (some (zI 1)) m) (hn : ¬ x = w → Go (Sp d) tX6_isOfKind Q 4 [some (zI k), some (zI w), some (zI (pt_tab 0 s)), some (zI (y + 1))] [] m) : Go (Sp d) tX6_isOfKind Q 4 [some (zI k), some (zI w), some (zI x), some (zI y)] [] m := by
  refine Go_rn [4] 100 ?_
  refine br_f (by rw [ey]; exact nI_ge (a := j) (b := 6) hj (by omega)) ?_
  refine br_f (by rw [ex]; exact nI_pos (by omega)) ?_
  refine br_f (by rw [ex]; exact nI_ge (a := s) (b := 6) hs (by omega)) ?_
  refine ⟨fun c => ⟨bz1, hp c⟩, fun c => ?_⟩
  exact ⟨s, ex, hs, hn c⟩
theorem c_iok_e {d : Nat} {Q : pt_Q} {m : pt_M} {k w x y : Int32} {j : Nat} (hj : j < 6) (ex : x < 0) (ey : y = nI j) (h : Q (some (zI 0)) m) : Go (Sp d) tX6_isOfKind Q 4 [some (zI k), some (zI w), some (zI x), some (zI y)] [] m := by
  refine Go_rn [4] 100 ?_
  refine br_f (by rw [ey]; exact nI_ge (a := j) (b := 6) hj (by omega)) ?_
  refine br_t ex ?_
  exact ⟨bz0, h⟩
theorem c_isOfKind {d : Nat} {Q : pt_Q} {m : pt_M} {k w : Int32} (hk : 1 ≤ k ∧ k ≤ 5) (hp : isKP k w → Q (some (zI 1)) m) (hn : ¬ isKP k w → Q (some (zI 0)) m) : Sp (d + 1) nX6_isOfKind [zI k, zI w] m Q := by
  unfold isKP at hp hn
  have hk5 : k = 1 ∨ k = 2 ∨ k = 3 ∨ k = 4 ∨ k = 5 := by grind
  rcases hk5 with rfl | rfl | rfl | rfl | rfl
  · refine sX6_isOfKind ?_
    refine Go_rn [4] 100 ?_
    refine c_iok_s (s := 1) (j := 0) (by decide) (by decide) (by decide) (by decide) (fun c0 => hp (by have c : (1 : Int32) = w := c0; grind)) (fun c0 => ?_)
    have e0 : ¬ (1 : Int32) = w := c0
    refine c_iok_s (s := 0) (j := 1) (by decide) (by decide) (by decide) (by decide) (fun c1 => hp (by have c : (0 : Int32) = w := c1; grind)) (fun c1 => ?_)
    have e1 : ¬ (0 : Int32) = w := c1
    exact c_iok_e (j := 2) (by decide) (by decide) (by decide) (hn (by grind))
  · refine sX6_isOfKind ?_
    refine Go_rn [4] 100 ?_
    refine c_iok_s (s := 2) (j := 0) (by decide) (by decide) (by decide) (by decide) (fun c0 => hp (by have c : (2 : Int32) = w := c0; grind)) (fun c0 => ?_)
    have e0 : ¬ (2 : Int32) = w := c0
    refine c_iok_s (s := 1) (j := 1) (by decide) (by decide) (by decide) (by decide) (fun c1 => hp (by have c : (1 : Int32) = w := c1; grind)) (fun c1 => ?_)
    have e1 : ¬ (1 : Int32) = w := c1
    refine c_iok_s (s := 0) (j := 2) (by decide) (by decide) (by decide) (by decide) (fun c2 => hp (by have c : (0 : Int32) = w := c2; grind)) (fun c2 => ?_)
    have e2 : ¬ (0 : Int32) = w := c2
    exact c_iok_e (j := 3) (by decide) (by decide) (by decide) (hn (by grind))
  · refine sX6_isOfKind ?_
    refine Go_rn [4] 100 ?_
    refine c_iok_s (s := 3) (j := 0) (by decide) (by decide) (by decide) (by decide) (fun c0 => hp (by have c : (3 : Int32) = w := c0; grind)) (fun c0 => ?_)
    have e0 : ¬ (3 : Int32) = w := c0
    refine c_iok_s (s := 1) (j := 1) (by decide) (by decide) (by decide) (by decide) (fun c1 => hp (by have c : (1 : Int32) = w := c1; grind)) (fun c1 => ?_)
    have e1 : ¬ (1 : Int32) = w := c1
    refine c_iok_s (s := 0) (j := 2) (by decide) (by decide) (by decide) (by decide) (fun c2 => hp (by have c : (0 : Int32) = w := c2; grind)) (fun c2 => ?_)
    have e2 : ¬ (0 : Int32) = w := c2
    exact c_iok_e (j := 3) (by decide) (by decide) (by decide) (hn (by grind))
  · refine sX6_isOfKind ?_
    refine Go_rn [4] 100 ?_
    refine c_iok_s (s := 4) (j := 0) (by decide) (by decide) (by decide) (by decide) (fun c0 => hp (by have c : (4 : Int32) = w := c0; grind)) (fun c0 => ?_)
    have e0 : ¬ (4 : Int32) = w := c0
    refine c_iok_s (s := 0) (j := 1) (by decide) (by decide) (by decide) (by decide) (fun c1 => hp (by have c : (0 : Int32) = w := c1; grind)) (fun c1 => ?_)
    have e1 : ¬ (0 : Int32) = w := c1
    exact c_iok_e (j := 2) (by decide) (by decide) (by decide) (hn (by grind))
  · refine sX6_isOfKind ?_
    refine Go_rn [4] 100 ?_
    refine c_iok_s (s := 5) (j := 0) (by decide) (by decide) (by decide) (by decide) (fun c0 => hp (by have c : (5 : Int32) = w := c0; grind)) (fun c0 => ?_)
    have e0 : ¬ (5 : Int32) = w := c0
    refine c_iok_s (s := 4) (j := 1) (by decide) (by decide) (by decide) (by decide) (fun c1 => hp (by have c : (4 : Int32) = w := c1; grind)) (fun c1 => ?_)
    have e1 : ¬ (4 : Int32) = w := c1
    refine c_iok_s (s := 0) (j := 2) (by decide) (by decide) (by decide) (by decide) (fun c2 => hp (by have c : (0 : Int32) = w := c2; grind)) (fun c2 => ?_)
    have e2 : ¬ (0 : Int32) = w := c2
    exact c_iok_e (j := 3) (by decide) (by decide) (by decide) (hn (by grind))
/-- who has a finding, or none -/
theorem c_finding {d : Nat} {Q : pt_Q} {m : pt_M} {n : Int32} (h : Q (some (zI (-1000010 - n))) (st m 0 7 n)) : Sp (d + 1) nX6_finding [zR 6 0, zI n] m Q := by
  refine sX6_finding ?_
  refine Go_rn [] 100 ?_
  exact h
theorem c_noFinding {d : Nat} {Q : pt_Q} {m : pt_M} {n : Int32} (h : Q (some (zI n)) (st m 0 7 0)) : Sp (d + 1) nX6_noFinding [zR 6 0, zI n] m Q := by
  refine sX6_noFinding ?_
  refine Go_rn [] 100 ?_
  exact h
theorem m_finding {d : Nat} {Q : pt_Q} {m : pt_M} {n : Int32} (h : Q (some (zI (-1000010 - n))) (st m 143 1 n)) : Sp (d + 1) nX7_finding [zR 7 143, zI n] m Q := by
  refine sX7_finding ?_
  refine Go_rn [] 100 ?_
  exact h
def aFs (a : pt_al) (n : Int32) : pt_al := (aS a, aA a, aI a, aR a, aT a, aK a, n, aL a)
theorem aFs_ok {a : pt_al} {n : Int32} (h : OK a) : OK (aFs a n) := h
theorem IC_F {m : pt_M} {a : pt_al} (h : IC m a) (n : Int32) : IC (st m 0 7 n) (aFs a n) ∧ kM m (st m 0 7 n) := by
  have hh : IC (st m 0 7 (aF a)) a := IC_fr h (fun o k q => by
    rw [st_eq]
    by_cases e : o = 0 ∧ k = 7
    · rw [if_pos e, e.1, e.2]
      exact h.2.2.2.2.2.2.1.symm
    · rw [if_neg e])
  have e2 : ∀ o k, ¬ (o = 0 ∧ k = 7) → st m 0 7 n o k = m o k := fun o k q => by rw [st_eq, if_neg q]
  obtain ⟨h1, h2, h3, h4, h5, h6, h7, h8⟩ := h
  refine ⟨⟨RC_fr h1 (fun o k g1 g2 => e2 o k (by omega)), cA_fr h2 (e2 _ _ (by omega)) (e2 _ _ (by omega)) (fun o k g1 g2 => e2 o k (by omega)), cI_fr h3 (fun o k g1 g2 => e2 o k (by omega)), cR_fr h4 (fun o k g1 g2 => e2 o k (by omega)), ⟨(e2 _ _ (by omega)).trans h5.1, fun i hi => (e2 _ _ (by omega)).trans (h5.2 i hi)⟩, ⟨(e2 _ _ (by omega)).trans h6.1, fun i hi => (e2 _ _ (by omega)).trans (h6.2 i hi)⟩, ?_, (e2 _ _ (by omega)).trans h8⟩, fun o k q => e2 o k (by omega)⟩
  rw [st_eq, if_pos ⟨rfl, rfl⟩]
  rfl
theorem IM_F {m : pt_M} {a : pt_al} (h : IM m a) (n : Int32) : IM (st m 143 1 n) (aFs a n) ∧ kC m (st m 143 1 n) := by
  have e2 : ∀ o k, ¬ (o = 143 ∧ k = 1) → st m 143 1 n o k = m o k := fun o k q => by rw [st_eq, if_neg q]
  obtain ⟨h1, h2, h3, h4, h5, h6, h7, h8⟩ := h
  refine ⟨⟨RM_fr h1 (fun k g1 g2 => e2 _ k (by omega)), mA_fr h2 (e2 _ _ (by omega)) (fun k => e2 _ k (by omega)), mI_fr h3 (fun k => e2 _ k (by omega)) (fun k => e2 _ k (by omega)), mR_fr h4 (fun o k g1 g2 => e2 o k (by omega)), ⟨(e2 _ _ (by omega)).trans h5.1, fun i hi => (e2 _ _ (by omega)).trans (h5.2 i hi)⟩, ⟨(e2 _ _ (by omega)).trans h6.1, fun i hi => (e2 _ _ (by omega)).trans (h6.2 i hi)⟩, ?_, (e2 _ _ (by omega)).trans h8⟩, fun o k q => e2 o k (by omega)⟩
  rw [st_eq, if_pos ⟨rfl, rfl⟩]
  rfl
theorem kM_tr {m m1 m2 : pt_M} (h1 : kM m m1) (h2 : kM m1 m2) : kM m m2 := fun o k q => (h2 o k q).trans (h1 o k q)
theorem kC_tr {m m1 m2 : pt_M} (h1 : kC m m1) (h2 : kC m1 m2) : kC m m2 := fun o k q => (h2 o k q).trans (h1 o k q)
noncomputable def asX (a : pt_al) (r k : Int32) : pt_al × Int32 := cif ((0 ≤ r ∧ r < aS a 1) ∧ (0 ≤ k ∧ k ≤ 5)) (cif (isKP (aS a (43 + 7 * xN r)) k) (aFs a 0, r) (aFs a 3, -1000013)) (a, -1000001)
theorem C_as {d : Nat} {Q : pt_Q} {m : pt_M} {a : pt_al} (O : OK a) (hC : IC m a) {r k : Int32} (h : ∀ m1, kM m m1 → IC m1 (asX a r k).1 → Q (some (zI (asX a r k).2)) m1) : Sp (d + 4) nX6_as [zR 6 0, zI r, zI k] m Q := by
  unfold asX at h
  refine sX6_as ?_
  refine Go_rn [] 100 ?_
  refine c_hasReader hC.1.2.1 (fun c => ?_) (fun c => ?_)
  · refine br_f (by decide) ?_
    refine ⟨fun c2 => ?_, fun c2 => ⟨fun c3 => ?_, fun c3 => ?_⟩⟩
    · rw [cif_f (by grind)] at h
      exact h m kM_rf hC
    · have c4 : 0 ≤ k ∧ k ≤ 5 := by grind
      rw [cif_t ⟨c, c4⟩] at h
      obtain ⟨r1, hr, rfl⟩ := readN O.1 c
      have h8 := O.1.2.2.2.1
      rw [xN_nI (by omega)] at h
      refine ⟨r1, rfl, by omega, ?_⟩
      have ek : m 26 r1 = aS a (43 + 7 * r1) := (hC.1.2.2.2.2 r1 hr).1
      rw [← ek] at h
      have hk5 := (O.1.2.2.2.2.2.2.2 r1 hr).1
      rw [← ek] at hk5
      refine c_isOfKind hk5 (fun c5 => ?_) (fun c5 => ?_)
      · refine br_f (by decide) ?_
        rw [cif_t c5] at h
        refine c_noFinding ?_
        exact h _ (IC_F hC 0).2 (IC_F hC 0).1
      · refine br_t rfl ?_
        rw [cif_f c5] at h
        refine c_finding ?_
        exact h _ (IC_F hC 3).2 (IC_F hC 3).1
    · rw [cif_f (by grind)] at h
      exact h m kM_rf hC
  · refine br_t rfl ?_
    rw [cif_f (fun q => c q.1)] at h
    exact h m kM_rf hC
theorem M_as {d : Nat} {Q : pt_Q} {m : pt_M} {a : pt_al} (O : OK a) (hM : IM m a) {r k : Int32} (h : ∀ m1, kC m m1 → IM m1 (asX a r k).1 → Q (some (zI (asX a r k).2)) m1) : Sp (d + 4) nX7_as [zR 7 143, zI r, zI k] m Q := by
  obtain ⟨t1, t2⟩ := IM_th hM
  unfold asX at h
  refine sX7_as ?_
  refine Go_rn [] 100 ?_
  refine m_isReader O.1 (RM_at t1.1 (by omega)) (fun c => ?_) (fun c => ?_)
  · refine br_f (by decide) ?_
    refine m_inI (lo := 0) (hi := 5) (by decide) (by decide) (fun c2 => ?_) (fun c2 => ?_)
    · refine br_f (by decide) ?_
      rw [cif_t ⟨c, c2⟩] at h
      obtain ⟨r1, hr, rfl⟩ := readN O.1 c
      have h8 := O.1.2.2.2.1
      rw [xN_nI (by omega)] at h
      obtain ⟨s1, s2⟩ := IM_F t1 0
      refine m_of (x := 0) (by omega) (by omega) rfl (v := aS a (43 + 7 * r1)) (RM_at s1.1 (by omega)) ?_
      refine m_isOf (fun c5 => ?_) (fun c5 => ?_)
      · refine br_f (by decide) ?_
        rw [cif_t c5] at h
        exact h _ (kC_tr t2 s2) s1
      · refine br_t rfl ?_
        rw [cif_f c5] at h
        refine m_finding ?_
        obtain ⟨s3, s4⟩ := IM_F s1 3
        exact h _ (kC_tr (kC_tr t2 s2) s4) s3
    · refine br_t rfl ?_
      rw [cif_f (fun q => c2 q.2)] at h
      exact h _ t2 t1
  · refine br_t rfl ?_
    rw [cif_f (fun q => c q.1)] at h
    exact h _ t2 t1
theorem asX_ok {a : pt_al} (O : OK a) (r k : Int32) : OK (asX a r k).1 := by
  unfold asX
  by_cases c : (0 ≤ r ∧ r < aS a 1) ∧ (0 ≤ k ∧ k ≤ 5)
  · rw [cif_t c]
    by_cases c2 : isKP (aS a (43 + 7 * xN r)) k
    · rw [cif_t c2]; exact O
    · rw [cif_f c2]; exact O
  · rw [cif_f c]; exact O
/-! trace -/
noncomputable def traceX (a : pt_al) (i : Int32) : Int32 := cif (0 ≤ i ∧ i < nI (aK a).1) ((aK a).2 (xN i)) (-1000000)
theorem C_trace {d : Nat} {Q : pt_Q} {m : pt_M} {a : pt_al} (O : OK a) (hC : IC m a) {i : Int32} (h : ∀ m1, kM m m1 → IC m1 a → Q (some (zI (traceX a i))) m1) : Sp (d + 4) nX6_trace [zR 6 0, zI i] m Q := by
  have h := h m kM_rf hC
  unfold traceX at h
  obtain ⟨k1, k2⟩ := hC.2.2.2.2.2.1
  have h16 : (aK a).1 ≤ 16 := O.2.2.2.2.2
  refine sX6_trace ?_
  refine Go_rn [] 100 ?_
  refine ⟨fun c => ?_, fun c => ⟨fun c2 => ?_, fun c2 => ?_⟩⟩
  · rw [cif_f (by grind)] at h
    exact h
  · replace c2 : m 135 0 ≤ i := c2
    rw [k1] at c2
    rw [cif_f (by grind)] at h
    exact h
  · replace c2 : ¬ m 135 0 ≤ i := c2
    rw [k1] at c2
    have c3 : 0 ≤ i ∧ i < nI (aK a).1 := by grind
    rw [cif_t c3] at h
    obtain ⟨i1, hi, rfl⟩ := ixof c3.1 c3.2 (by omega)
    rw [xN_nI (by omega)] at h
    refine ⟨i1, rfl, by omega, ?_⟩
    exact qe (k2 i1 hi) h
theorem M_trace {d : Nat} {Q : pt_Q} {m : pt_M} {a : pt_al} (O : OK a) (hM : IM m a) {i : Int32} (h : ∀ m1, kC m m1 → IM m1 a → Q (some (zI (traceX a i))) m1) : Sp (d + 4) nX7_trace [zR 7 143, zI i] m Q := by
  obtain ⟨t1, t2⟩ := IM_th hM
  have h := h _ t2 t1
  unfold traceX at h
  obtain ⟨k1, k2⟩ := t1.2.2.2.2.2.1
  have h16 : (aK a).1 ≤ 16 := O.2.2.2.2.2
  refine sX7_trace ?_
  refine Go_rn [] 100 ?_
  refine m_inI (lo := 0) (hi := st m 143 0 0 143 28 - 1) (by decide) rfl (fun c => ?_) (fun c => ?_)
  · refine br_f (by decide) ?_
    rw [k1, lt_pred (by omega)] at c
    rw [cif_t c] at h
    obtain ⟨i1, hi, rfl⟩ := ixof c.1 c.2 (by omega)
    rw [xN_nI (by omega)] at h
    refine ⟨i1, rfl, by omega, ?_⟩
    exact qe (k2 i1 hi) h
  · refine br_t rfl ?_
    rw [k1, lt_pred (by omega)] at c
    rw [cif_f c] at h
    exact h
