/-! 45.mask: ask of the model -/
def TkM : Nat → Nat → Prop := fun o k => (o = 143 ∧ k = 28) ∨ o = 157
theorem TkM_RM {m m1 : pt_M} {σ : pt_sg} (h : RM m 147 0 σ) (f : fr TkM m m1) : RM m1 147 0 σ := RM_fr h (fun k _ _ => f _ _ (by unfold TkM; omega))
theorem TkM_tr {m m1 m2 : pt_M} (f : fr TkM m m1) (f2 : fr TkM m1 m2) : fr TkM m m2 := fun o k h => (f2 o k h).trans (f o k h)
theorem m_began {d : Nat} {Q : pt_Q} {m : pt_M} {K : pt_tp} {b : Int32} (hK : mK m K) (h16 : K.1 ≤ 16) (h : ∀ m1, fr TkM m m1 → mK m1 (kp K b) → Q none m1) : Sp (d + 1) nX7_began [zR 7 143, zI b] m Q := by
  obtain ⟨k1, k2⟩ := hK
  refine sX7_began ?_
  refine Go_rn [] 100 ?_
  refine ⟨fun c => ?_, fun c => ?_⟩
  · have c1 : nI 16 ≤ nI K.1 := by rw [← k1]; exact c
    rw [nI_leI (by omega) (by omega)] at c1
    refine h m fr_rf ?_
    unfold kp
    rw [if_neg (by omega)]
    exact ⟨k1, k2⟩
  · have c1 : ¬ nI 16 ≤ nI K.1 := by rw [← k1]; exact c
    rw [nI_leI (by omega) (by omega)] at c1
    refine ⟨K.1, k1, by omega, ?_⟩
    refine h _ (fun o k ho => ?_) ?_
    · unfold TkM at ho
      rw [st_eq, if_neg (by omega), st_eq, if_neg (by omega)]
    · unfold kp
      rw [if_pos (by omega)]
      refine ⟨by rw [st_eq, if_pos ⟨rfl, rfl⟩]; show st m 157 K.1 b 143 28 + 1 = _; rw [st_eq, if_neg (by omega), k1, nI_1], fun i hi => ?_⟩
      replace hi : i < K.1 + 1 := hi
      show _ = if i = K.1 then b else K.2 i
      rw [st_eq, if_neg (by omega), st_eq]
      by_cases e : i = K.1
      · rw [if_pos ⟨rfl, e⟩, if_pos e]
      · rw [if_neg (fun q => e q.2), if_neg e]
        exact k2 i (by omega)
theorem m_plainSize {d : Nat} {Q : pt_Q} {m : pt_M} {σ : pt_sg} {K : pt_tp} {r : Nat} (O : OkS σ) (hr : r < sr σ) (hR : RM m 147 0 σ) (hK : mK m K) (h16 : K.1 ≤ 16) (h : ∀ m1, fr TkM m m1 → mK m1 (kp K 10) → Q (some (zI (aU σ r))) m1) : Sp (d + 3) nX7_plainSize [zR 7 143, zI (nI r)] m Q := by
  refine sX7_plainSize ?_
  refine Go_rn [] 100 ?_
  refine m_began hK h16 (fun m1 f1 k1 => ?_)
  exact m_usedOf O (TkM_RM hR f1) hr (h m1 f1 k1)
theorem m_kind {d : Nat} {Q : pt_Q} {m : pt_M} {σ : pt_sg} {r : Nat} {k : Int32} (O : OkS σ) (hr : r < sr σ) (hR : RM m 147 0 σ) (ek : σ (43 + 7 * r) = k) (h : Q (some (zI k)) m) : Sp (d + 1) nX7_of [zR 7 143, zI (nI r), zI 0] m Q := by
  have h9 := O.2.2.2.1
  exact m_of (x := 0) (by omega) (by omega) rfl (v := k) ((RM_at hR (by omega)).trans ek) h
theorem m_wax {d : Nat} {Q : pt_Q} {m : pt_M} {σ : pt_sg} {K : pt_tp} {r : Nat} {k : Int32} (O : OkS σ) (hr : r < sr σ) (hR : RM m 147 0 σ) (hK : mK m K) (h16 : K.1 ≤ 16) (hk : k = 4 ∨ k = 5) (ek : σ (43 + 7 * r) = k) (h : ∀ m1, fr TkM m m1 → mK m1 (waxK k K) → Q (some (zI (waxV σ r k))) m1) : Sp (d + 4) nX7_waxSize [zR 7 143, zI (nI r)] m Q := by
  refine sX7_waxSize ?_
  refine Go_rn [] 100 ?_
  refine m_kind O hr hR ek ?_
  rcases hk with rfl | rfl
  · rw [waxK_4, waxV_4] at h
    refine br_f (by decide) ?_
    refine m_began hK h16 (fun m1 f1 k1 => ?_)
    refine m_plainSize O hr (TkM_RM hR f1) k1 (kp_16 h16) (fun m2 f2 k2 => ?_)
    refine m_kind O hr (TkM_RM hR (TkM_tr f1 f2)) ek ?_
    refine br_f (by decide) ?_
    exact h m2 (TkM_tr f1 f2) k2
  · rw [waxK_5, waxV_5] at h
    refine br_t rfl ?_
    refine m_began hK h16 (fun m0 f0 k0 => ?_)
    refine m_began k0 (kp_16 h16) (fun m1 f1 k1 => ?_)
    refine m_plainSize O hr (TkM_RM hR (TkM_tr f0 f1)) k1 (kp_16 (kp_16 h16)) (fun m2 f2 k2 => ?_)
    refine m_kind O hr (TkM_RM hR (TkM_tr (TkM_tr f0 f1) f2)) ek ?_
    refine br_t rfl ?_
    exact h m2 (TkM_tr (TkM_tr f0 f1) f2) k2
theorem m_aft {d : Nat} {Q : pt_Q} {m : pt_M} {σ : pt_sg} {r : Nat} (O : OkS σ) (hr : r < sr σ) (hR : RM m 147 0 σ) (h : Q (some (zI (pA σ r))) m) : Sp (d + 1) nX7_of [zR 7 143, zI (nI r), zI 6] m Q := by
  have h9 := O.2.2.2.1
  exact m_of (x := 6) (by omega) (by omega) rfl (v := pA σ r) ((RM_at hR (by omega)).trans (by unfold pA; congr 1; omega)) h
theorem m_mark {d : Nat} {Q : pt_Q} {m : pt_M} {σ : pt_sg} {K : pt_tp} {r : Nat} {k : Int32} (O : OkS σ) (hr : r < sr σ) (hR : RM m 147 0 σ) (hK : mK m K) (h16 : K.1 ≤ 16) (hk : k = 1 ∨ k = 2 ∨ k = 3 ∨ k = 4 ∨ k = 5) (ek : σ (43 + 7 * r) = k) (h : ∀ m1, fr TkM m m1 → mK m1 (mkK k K) → Q (some (zI (mkV σ r k))) m1) : Sp (d + 5) nX7_markOf [zR 7 143, zI (nI r)] m Q := by
  refine sX7_markOf ?_
  refine Go_rn [] 200 ?_
  refine m_kind O hr hR ek ?_
  rcases hk with rfl | rfl | rfl | rfl | rfl
  · rw [mkK_1, mkV_1] at h
    refine br_t (by decide) ?_
    refine br_t rfl ?_
    refine m_began hK h16 (fun m1 f1 k1 => ?_)
    refine m_began k1 (kp_16 h16) (fun m2 f2 k2 => ?_)
    refine m_aft O hr (TkM_RM hR (TkM_tr f1 f2)) ?_
    refine br_t rfl ?_
    exact h m2 (TkM_tr f1 f2) k2
  · rw [mkK_2, mkV_2] at h
    refine br_t (by decide) ?_
    refine br_f (by decide) ?_
    refine br_f (by decide) ?_
    refine m_began hK h16 (fun m0 f0 k0 => ?_)
    refine m_began k0 (kp_16 h16) (fun m1 f1 k1 => ?_)
    refine m_began k1 (kp_16 (kp_16 h16)) (fun m2 f2 k2 => ?_)
    refine m_aft O hr (TkM_RM hR (TkM_tr (TkM_tr f0 f1) f2)) ?_
    refine br_f (by decide) ?_
    refine br_f (by decide) ?_
    exact h m2 (TkM_tr (TkM_tr f0 f1) f2) k2
  · rw [mkK_3, mkV_3] at h
    refine br_t (by decide) ?_
    refine br_f (by decide) ?_
    refine br_t rfl ?_
    refine m_began hK h16 (fun m0 f0 k0 => ?_)
    refine m_began k0 (kp_16 h16) (fun m1 f1 k1 => ?_)
    refine m_began k1 (kp_16 (kp_16 h16)) (fun m2 f2 k2 => ?_)
    refine m_aft O hr (TkM_RM hR (TkM_tr (TkM_tr f0 f1) f2)) ?_
    refine br_f (by decide) ?_
    refine br_t rfl ?_
    exact h m2 (TkM_tr (TkM_tr f0 f1) f2) k2
  · rw [mkK_4, mkV_4] at h
    refine br_f (by decide) ?_
    refine m_began hK h16 (fun m0 f0 k0 => ?_)
    refine m_began k0 (kp_16 h16) (fun m1 f1 k1 => ?_)
    refine m_wax (k := 4) O hr (TkM_RM hR (TkM_tr f0 f1)) k1 (kp_16 (kp_16 h16)) (Or.inl rfl) ek (fun m2 f2 k2 => ?_)
    exact h m2 (TkM_tr (TkM_tr f0 f1) f2) k2
  · rw [mkK_5, mkV_5] at h
    refine br_f (by decide) ?_
    refine m_began hK h16 (fun m0 f0 k0 => ?_)
    refine m_began k0 (kp_16 h16) (fun m1 f1 k1 => ?_)
    refine m_wax (k := 5) O hr (TkM_RM hR (TkM_tr f0 f1)) k1 (kp_16 (kp_16 h16)) (Or.inr rfl) ek (fun m2 f2 k2 => ?_)
    exact h m2 (TkM_tr (TkM_tr f0 f1) f2) k2
theorem m_size {d : Nat} {Q : pt_Q} {m : pt_M} {σ : pt_sg} {K : pt_tp} {r : Nat} {k : Int32} (O : OkS σ) (hr : r < sr σ) (hR : RM m 147 0 σ) (hK : mK m K) (h16 : K.1 ≤ 16) (hk : k = 1 ∨ k = 2 ∨ k = 3 ∨ k = 4 ∨ k = 5) (ek : σ (43 + 7 * r) = k) (h : ∀ m1, fr TkM m m1 → mK m1 (szK k K) → Q (some (zI (szV σ r k))) m1) : Sp (d + 6) nX7_sizeOf [zR 7 143, zI (nI r)] m Q := by
  have hk0 := hk
  refine sX7_sizeOf ?_
  refine Go_rn [] 200 ?_
  refine m_kind O hr hR ek ?_
  rcases hk with rfl | rfl | rfl | rfl | rfl
  · rw [szK_1, szV_1] at h
    refine br_t (by decide) ?_
    refine br_f (by decide) ?_
    refine m_began hK h16 (fun m0 f0 k0 => ?_)
    refine m_plainSize O hr (TkM_RM hR f0) k0 (kp_16 h16) (fun m1 f1 k1 => ?_)
    refine m_mark (k := 1) O hr (TkM_RM hR (TkM_tr f0 f1)) k1 (kp_16 (kp_16 h16)) hk0 ek (fun m2 f2 k2 => ?_)
    refine br_f (by decide) ?_
    exact h m2 (TkM_tr (TkM_tr f0 f1) f2) k2
  · rw [szK_2, szV_2] at h
    refine br_t (by decide) ?_
    refine br_t rfl ?_
    refine m_began hK h16 (fun m9 f9 k9 => ?_)
    refine m_began k9 (kp_16 h16) (fun m0 f0 k0 => ?_)
    refine m_plainSize O hr (TkM_RM hR (TkM_tr f9 f0)) k0 (kp_16 (kp_16 h16)) (fun m1 f1 k1 => ?_)
    refine m_mark (k := 2) O hr (TkM_RM hR (TkM_tr (TkM_tr f9 f0) f1)) k1 (kp_16 (kp_16 (kp_16 h16))) hk0 ek (fun m2 f2 k2 => ?_)
    refine br_t rfl ?_
    exact h m2 (TkM_tr (TkM_tr (TkM_tr f9 f0) f1) f2) k2
  · rw [szK_3, szV_3] at h
    refine br_t (by decide) ?_
    refine br_f (by decide) ?_
    refine m_began hK h16 (fun m0 f0 k0 => ?_)
    refine m_plainSize O hr (TkM_RM hR f0) k0 (kp_16 h16) (fun m1 f1 k1 => ?_)
    refine m_mark (k := 3) O hr (TkM_RM hR (TkM_tr f0 f1)) k1 (kp_16 (kp_16 h16)) hk0 ek (fun m2 f2 k2 => ?_)
    refine br_f (by decide) ?_
    exact h m2 (TkM_tr (TkM_tr f0 f1) f2) k2
  · rw [szK_4, szV_4] at h
    refine br_f (by decide) ?_
    exact m_wax (d := d + 1) O hr hR hK h16 (Or.inl rfl) ek h
  · rw [szK_5, szV_5] at h
    refine br_f (by decide) ?_
    exact m_wax (d := d + 1) O hr hR hK h16 (Or.inr rfl) ek h
theorem M_ask {d : Nat} {Q : pt_Q} {m : pt_M} {a : pt_al} (O : OK a) (hM : IM m a) {r w : Int32} (h : ∀ m1, kC m m1 → IM m1 (askX a r w).1 → Q (some (zI (askX a r w).2)) m1) : Sp (d + 14) nX7_ask [zR 7 143, zI r, zI w] m Q := by
  obtain ⟨i1, i2⟩ := IM_th hM
  unfold askX at h
  refine sX7_ask ?_
  refine Go_rn [] 100 ?_
  refine m_isReader O.1 (RM_at i1.1 (by omega)) (fun c => ?_) (fun c => ?_)
  · refine br_f (by decide) ?_
    refine m_inI (lo := 0) (hi := 1) (by decide) (by decide) (fun cw => ?_) (fun cw => ?_)
    · refine br_f (by decide) ?_
      rw [cif_t ⟨c, cw⟩] at h
      obtain ⟨r1, h1, rfl⟩ := readN O.1 c
      have h9 := O.1.2.2.2.1
      rw [xN_nI (by omega)] at h
      have hR1 : RM (st (st m 143 0 0) 143 28 0) 147 0 (aS a) := RM_fr i1.1 (fun k _ _ => by rw [st_eq, if_neg (by omega)])
      have hK1 : mK (st (st m 143 0 0) 143 28 0) (0, (aK a).2) := ⟨by rw [st_eq, if_pos ⟨rfl, rfl⟩]; rfl, fun i hi => absurd hi (Nat.not_lt_zero i)⟩
      have fr0 : fr TkM (st m 143 0 0) (st (st m 143 0 0) 143 28 0) := fun o k ho => by
        unfold TkM at ho
        rw [st_eq, if_neg (by omega)]
      have f9 : ∀ m1, fr TkM (st (st m 143 0 0) 143 28 0) m1 → kC m m1 := fun m1 f1 o k ho => by
        rw [f1 o k (by unfold TkM; omega), fr0 o k (by unfold TkM; omega), st_eq, if_neg (by omega)]
      refine ⟨fun c2 => ?_, fun c2 => ?_⟩
      · have c3 : w = 0 := c2
        rw [if_pos c3] at h
        refine m_size (d := d + 7) O.1 h1 hR1 hK1 (by show 0 ≤ 16; omega) (kd5 O.1 h1) rfl (fun m1 f1 k1 => ?_)
        exact h m1 (f9 m1 f1) (IM_uK i1 k1 (fun o k _ q => by rw [f1 o k q, fr0 o k q]))
      · have c3 : ¬ w = 0 := c2
        rw [if_neg c3] at h
        refine m_mark (d := d + 8) O.1 h1 hR1 hK1 (by show 0 ≤ 16; omega) (kd5 O.1 h1) rfl (fun m1 f1 k1 => ?_)
        exact h m1 (f9 m1 f1) (IM_uK i1 k1 (fun o k _ q => by rw [f1 o k q, fr0 o k q]))
    · refine br_t rfl ?_
      rw [cif_f (fun q => cw q.2)] at h
      exact h _ i2 i1
  · refine br_t rfl ?_
    rw [cif_f (fun q => c q.1)] at h
    exact h _ i2 i1
