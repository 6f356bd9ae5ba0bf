/-! 44c.ask: ask, on both sides -/
def kp (K : pt_tp) (b : Int32) : pt_tp := if K.1 < 16 then (K.1 + 1, fun i => if i = K.1 then b else K.2 i) else K
theorem kp_16 {K : pt_tp} {b : Int32} (h : K.1 ≤ 16) : (kp K b).1 ≤ 16 := by
  unfold kp
  by_cases c : K.1 < 16
  · rw [if_pos c]; show K.1 + 1 ≤ 16; omega
  · rw [if_neg c]; exact h
def Tk : Nat → Nat → Prop := fun o k => (o = 135 ∧ k = 0) ∨ o = 136
theorem Tk_RC {m m1 : pt_M} {σ : pt_sg} (h : RC m 24 σ) (f : fr Tk m m1) : RC m1 24 σ := RC_fr h (fun o k g1 g2 => f o k (by unfold Tk; omega))
theorem Tk_tr {m m1 m2 : pt_M} (f : fr Tk m m1) (f2 : fr Tk m1 m2) : fr Tk m m2 := fun o k h => (f2 o k h).trans (f o k h)
theorem c_leaveB {d : Nat} {Q : pt_Q} {m : pt_M} {K : pt_tp} {b : Int32} (hK : cK m K) (h16 : K.1 ≤ 16) (h : ∀ m1, fr Tk m m1 → cK m1 (kp K b) → Q none m1) : Sp (d + 1) nX1_leave [zR 1 135, zI b] m Q := by
  obtain ⟨k1, k2⟩ := hK
  refine sX1_leave ?_
  refine Go_rn [] 100 ?_
  refine ⟨fun c => ?_, fun c => ?_⟩
  · have c1 : nI 16 ≤ nI K.1 := by rw [← k1]; exact c
    rw [nI_leI (by omega) (by omega)] at c1
    refine h m fr_rf ?_
    unfold kp
    rw [if_neg (by omega)]
    exact ⟨k1, k2⟩
  · have c1 : ¬ nI 16 ≤ nI K.1 := by rw [← k1]; exact c
    rw [nI_leI (by omega) (by omega)] at c1
    refine ⟨K.1, k1, by omega, ?_⟩
    refine h _ (fun o k ho => ?_) ?_
    · unfold Tk at ho
      rw [st_eq, if_neg (by omega), st_eq, if_neg (by omega)]
    · unfold kp
      rw [if_pos (by omega)]
      refine ⟨by rw [st_eq, if_neg (by omega), st_eq, if_pos ⟨rfl, rfl⟩]; show m 135 0 + 1 = _; rw [k1, nI_1], fun i hi => ?_⟩
      replace hi : i < K.1 + 1 := hi
      show _ = if i = K.1 then b else K.2 i
      rw [st_eq]
      by_cases e : i = K.1
      · rw [if_pos ⟨rfl, e⟩, if_pos e]
      · rw [if_neg (fun q => e q.2), if_neg e, st_eq, if_neg (by omega)]
        exact k2 i (by omega)
theorem c_gives_in {d : Nat} {Q : pt_Q} {m : pt_M} {K : pt_tp} {r dd tg : Nat} {b : Int32} (hdd : dd ≤ 16) (hK : cK m K) (h16 : K.1 ≤ 16) (e : pt_tsw 10 236 [96, 102, 123, 135, 149, 236, 236, 236, 236, 236, 162, 164, 187, 202, 223] b = tg)
    (h : ∀ m1, fr Tk m m1 → cK m1 (kp K b) → Go (Sp (d + 1)) tX1_gives Q tg [some (zR 1 135), some (zR 4 24), some (zI (nI r)), some (zI b), some (zI (nI dd)), some (zI (nI (dd + 1)))] [] m1) : Sp (d + 2) nX1_gives [zR 1 135, zR 4 24, zI (nI r), zI b, zI (nI dd)] m Q := by
  refine sX1_gives ?_
  refine Go_rn [21] 100 ?_
  refine br_t (nI_le (a := dd) (b := 16) hdd (by omega)) ?_
  refine c_leaveB hK h16 (fun m1 f1 k1 => ?_)
  refine Go_tsw rfl tg e ?_
  show Go (Sp (d + 1)) tX1_gives Q tg [some (zR 1 135), some (zR 4 24), some (zI (nI r)), some (zI b), some (zI (nI dd)), some (zI (nI dd + 1))] [] m1
  rw [nI_1]
  exact h m1 f1 k1
def aU (σ : pt_sg) (r : Nat) : Int32 := sumU σ r 5
theorem c_g10 {d : Nat} {Q : pt_Q} {m : pt_M} {σ : pt_sg} {K : pt_tp} {r dd : Nat} (O : OkS σ) (hr : r < sr σ) (hdd : dd ≤ 16) (hR : RC m 24 σ) (hK : cK m K) (h16 : K.1 ≤ 16) (h : ∀ m1, fr Tk m m1 → cK m1 (kp K 10) → Q (some (zI (aU σ r))) m1) : Sp (d + 2) nX1_gives [zR 1 135, zR 4 24, zI (nI r), zI 10, zI (nI dd)] m Q := by
  refine c_gives_in hdd hK h16 (tg := 96) (by decide) (fun m1 f1 k1 => ?_)
  refine Go_rn [] 100 ?_
  exact c_usedInAll O (Tk_RC hR f1) hr (h m1 f1 k1)
theorem c_g20 {d : Nat} {Q : pt_Q} {m : pt_M} {K : pt_tp} {r dd : Nat} (hdd : dd ≤ 16) (hK : cK m K) (h16 : K.1 ≤ 16) (h : ∀ m1, fr Tk m m1 → cK m1 (kp K 20) → Q (some (zI (nI r))) m1) : Sp (d + 2) nX1_gives [zR 1 135, zR 4 24, zI (nI r), zI 20, zI (nI dd)] m Q := by
  refine c_gives_in hdd hK h16 (tg := 162) (by decide) (fun m1 f1 k1 => ?_)
  refine Go_rn [] 100 ?_
  exact h m1 f1 k1
theorem c_g21 {d : Nat} {Q : pt_Q} {m : pt_M} {σ : pt_sg} {K : pt_tp} {r dd : Nat} (O : OkS σ) (hr : r < sr σ) (hdd : dd ≤ 15) (hR : RC m 24 σ) (hK : cK m K) (h16 : K.1 ≤ 16) (h : ∀ m1, fr Tk m m1 → cK m1 (kp (kp K 21) 20) → Q (some (zI (nI r + pA σ r))) m1) : Sp (d + 3) nX1_gives [zR 1 135, zR 4 24, zI (nI r), zI 21, zI (nI dd)] m Q := by
  have h9 := O.2.2.2.1
  refine c_gives_in (by omega) hK h16 (tg := 164) (by decide) (fun m1 f1 k1 => ?_)
  refine Go_rn [] 100 ?_
  refine c_g20 (by omega) k1 (kp_16 h16) (fun m2 f2 k2 => ?_)
  refine ⟨6 * r + 5, ixC r, by omega, ?_⟩
  refine qe ?_ (h m2 (Tk_tr f1 f2) k2)
  show nI r + m2 27 (6 * r + 5) = nI r + pA σ r
  rw [((Tk_RC hR (Tk_tr f1 f2)).2.2.2.2 r hr).2 5 (by omega)]
  rfl
theorem c_g22 {d : Nat} {Q : pt_Q} {m : pt_M} {σ : pt_sg} {K : pt_tp} {r dd : Nat} (O : OkS σ) (hr : r < sr σ) (hdd : dd ≤ 14) (hR : RC m 24 σ) (hK : cK m K) (h16 : K.1 ≤ 16) (h : ∀ m1, fr Tk m m1 → cK m1 (kp (kp (kp K 22) 21) 20) → Q (some (zI (nI r + pA σ r - 1000))) m1) : Sp (d + 4) nX1_gives [zR 1 135, zR 4 24, zI (nI r), zI 22, zI (nI dd)] m Q := by
  refine c_gives_in (by omega) hK h16 (tg := 187) (by decide) (fun m1 f1 k1 => ?_)
  refine Go_rn [] 100 ?_
  exact c_g21 O hr (by omega) (Tk_RC hR f1) k1 (kp_16 h16) (fun m2 f2 k2 => h m2 (Tk_tr f1 f2) k2)
theorem c_g24 {d : Nat} {Q : pt_Q} {m : pt_M} {σ : pt_sg} {K : pt_tp} {r dd : Nat} (O : OkS σ) (hr : r < sr σ) (hdd : dd ≤ 14) (hR : RC m 24 σ) (hK : cK m K) (h16 : K.1 ≤ 16) (h : ∀ m1, fr Tk m m1 → cK m1 (kp (kp (kp K 24) 21) 20) → Q (some (zI (2 * (nI r + pA σ r)))) m1) : Sp (d + 4) nX1_gives [zR 1 135, zR 4 24, zI (nI r), zI 24, zI (nI dd)] m Q := by
  refine c_gives_in (by omega) hK h16 (tg := 223) (by decide) (fun m1 f1 k1 => ?_)
  refine Go_rn [] 100 ?_
  exact c_g21 O hr (by omega) (Tk_RC hR f1) k1 (kp_16 h16) (fun m2 f2 k2 => h m2 (Tk_tr f1 f2) k2)
theorem c_g13 {d : Nat} {Q : pt_Q} {m : pt_M} {σ : pt_sg} {K : pt_tp} {r dd : Nat} (O : OkS σ) (hr : r < sr σ) (hdd : dd ≤ 15) (hR : RC m 24 σ) (hK : cK m K) (h16 : K.1 ≤ 16) (h : ∀ m1, fr Tk m m1 → cK m1 (kp (kp K 13) 10) → Q (some (zI (aU σ r - 100))) m1) : Sp (d + 3) nX1_gives [zR 1 135, zR 4 24, zI (nI r), zI 13, zI (nI dd)] m Q := by
  refine c_gives_in (by omega) hK h16 (tg := 135) (by decide) (fun m1 f1 k1 => ?_)
  refine Go_rn [] 100 ?_
  exact c_g10 O hr (by omega) (Tk_RC hR f1) k1 (kp_16 h16) (fun m2 f2 k2 => h m2 (Tk_tr f1 f2) k2)
theorem c_g14 {d : Nat} {Q : pt_Q} {m : pt_M} {σ : pt_sg} {K : pt_tp} {r dd : Nat} (O : OkS σ) (hr : r < sr σ) (hdd : dd ≤ 14) (hR : RC m 24 σ) (hK : cK m K) (h16 : K.1 ≤ 16) (h : ∀ m1, fr Tk m m1 → cK m1 (kp (kp (kp K 14) 13) 10) → Q (some (zI (2 * (aU σ r - 100)))) m1) : Sp (d + 4) nX1_gives [zR 1 135, zR 4 24, zI (nI r), zI 14, zI (nI dd)] m Q := by
  refine c_gives_in (by omega) hK h16 (tg := 149) (by decide) (fun m1 f1 k1 => ?_)
  refine Go_rn [] 100 ?_
  exact c_g13 O hr (by omega) (Tk_RC hR f1) k1 (kp_16 h16) (fun m2 f2 k2 => h m2 (Tk_tr f1 f2) k2)
theorem c_anew {d : Nat} {Q : pt_Q} {m : pt_M} {σ : pt_sg} {r : Nat} {w k dd : Int32} (O : OkS σ) (hr : r < sr σ) (hR : RC m 24 σ) (hw : w = 0 ∨ w = 1) (hk : k = 1 ∨ k = 2 ∨ k = 3 ∨ k = 4 ∨ k = 5) (ek : σ (43 + 7 * r) = k) (h : ∀ Q1 : pt_Q, (∀ x m1, Q (some (zI x)) m1 → Q1 (some (zI x)) m1) → Sp (d + 1) nX1_gives [zR 1 135, zR 4 24, zI (nI r), zI (bodF w k), zI dd] m Q1) : Sp (d + 2) nX1_askAnew [zR 1 135, zR 4 24, zI (nI r), zI w, zI dd] m Q := by
  have h9 := O.2.2.2.1
  refine sX1_askAnew ?_
  refine Go_rn [] 100 ?_
  refine ⟨r, rfl, by omega, ?_⟩
  show Sp (d + 1) nX1_bodyFor [zR 1 135, zI w, zI (m 26 r)] m _
  rw [(hR.2.2.2.2 r hr).1, ek]
  refine c_bodyFor hw hk ?_
  exact h _ (fun x m1 q => q)
/-! what is answered, and what is traced -/
def waxK (k : Int32) (K : pt_tp) : pt_tp := if k = 4 then kp (kp K 13) 10 else kp (kp (kp K 14) 13) 10
def waxV (σ : pt_sg) (r : Nat) (k : Int32) : Int32 := if k = 4 then aU σ r - 100 else 2 * (aU σ r - 100)
def mkK (k : Int32) (K : pt_tp) : pt_tp := if k = 1 then kp (kp K 21) 20 else if k = 2 then kp (kp (kp K 24) 21) 20 else if k = 3 then kp (kp (kp K 22) 21) 20 else waxK k (kp (kp K 23) 20)
def mkV (σ : pt_sg) (r : Nat) (k : Int32) : Int32 := if k = 1 then nI r + pA σ r else if k = 2 then 2 * (nI r + pA σ r) else if k = 3 then nI r + pA σ r - 1000 else nI r - waxV σ r k
def szK (k : Int32) (K : pt_tp) : pt_tp := if k = 4 ∨ k = 5 then waxK k K else if k = 2 then mkK k (kp (kp (kp K 12) 11) 10) else mkK k (kp (kp K 11) 10)
def szV (σ : pt_sg) (r : Nat) (k : Int32) : Int32 := if k = 4 ∨ k = 5 then waxV σ r k else if k = 2 then -(aU σ r + mkV σ r k) else aU σ r + mkV σ r k
theorem waxK_4 (K : pt_tp) : waxK 4 K = kp (kp K 13) 10 := if_pos rfl
theorem waxK_5 (K : pt_tp) : waxK 5 K = kp (kp (kp K 14) 13) 10 := if_neg (by decide)
theorem waxV_4 (σ : pt_sg) (r : Nat) : waxV σ r 4 = aU σ r - 100 := if_pos rfl
theorem waxV_5 (σ : pt_sg) (r : Nat) : waxV σ r 5 = 2 * (aU σ r - 100) := if_neg (by decide)
theorem mkK_1 (K : pt_tp) : mkK 1 K = kp (kp K 21) 20 := if_pos rfl
theorem mkK_2 (K : pt_tp) : mkK 2 K = kp (kp (kp K 24) 21) 20 := (if_neg (by decide)).trans (if_pos rfl)
theorem mkK_3 (K : pt_tp) : mkK 3 K = kp (kp (kp K 22) 21) 20 := (if_neg (by decide)).trans ((if_neg (by decide)).trans (if_pos rfl))
theorem mkK_4 (K : pt_tp) : mkK 4 K = waxK 4 (kp (kp K 23) 20) := (if_neg (by decide)).trans ((if_neg (by decide)).trans (if_neg (by decide)))
theorem mkK_5 (K : pt_tp) : mkK 5 K = waxK 5 (kp (kp K 23) 20) := (if_neg (by decide)).trans ((if_neg (by decide)).trans (if_neg (by decide)))
theorem mkV_1 (σ : pt_sg) (r : Nat) : mkV σ r 1 = nI r + pA σ r := if_pos rfl
theorem mkV_2 (σ : pt_sg) (r : Nat) : mkV σ r 2 = 2 * (nI r + pA σ r) := (if_neg (by decide)).trans (if_pos rfl)
theorem mkV_3 (σ : pt_sg) (r : Nat) : mkV σ r 3 = nI r + pA σ r - 1000 := (if_neg (by decide)).trans ((if_neg (by decide)).trans (if_pos rfl))
theorem mkV_4 (σ : pt_sg) (r : Nat) : mkV σ r 4 = nI r - waxV σ r 4 := (if_neg (by decide)).trans ((if_neg (by decide)).trans (if_neg (by decide)))
theorem mkV_5 (σ : pt_sg) (r : Nat) : mkV σ r 5 = nI r - waxV σ r 5 := (if_neg (by decide)).trans ((if_neg (by decide)).trans (if_neg (by decide)))
theorem szK_1 (K : pt_tp) : szK 1 K = mkK 1 (kp (kp K 11) 10) := (if_neg (by decide)).trans (if_neg (by decide))
theorem szK_2 (K : pt_tp) : szK 2 K = mkK 2 (kp (kp (kp K 12) 11) 10) := (if_neg (by decide)).trans (if_pos rfl)
theorem szK_3 (K : pt_tp) : szK 3 K = mkK 3 (kp (kp K 11) 10) := (if_neg (by decide)).trans (if_neg (by decide))
theorem szK_4 (K : pt_tp) : szK 4 K = waxK 4 K := if_pos (Or.inl rfl)
theorem szK_5 (K : pt_tp) : szK 5 K = waxK 5 K := if_pos (Or.inr rfl)
theorem szV_1 (σ : pt_sg) (r : Nat) : szV σ r 1 = aU σ r + mkV σ r 1 := (if_neg (by decide)).trans (if_neg (by decide))
theorem szV_2 (σ : pt_sg) (r : Nat) : szV σ r 2 = -(aU σ r + mkV σ r 2) := (if_neg (by decide)).trans (if_pos rfl)
theorem szV_3 (σ : pt_sg) (r : Nat) : szV σ r 3 = aU σ r + mkV σ r 3 := (if_neg (by decide)).trans (if_neg (by decide))
theorem szV_4 (σ : pt_sg) (r : Nat) : szV σ r 4 = waxV σ r 4 := if_pos (Or.inl rfl)
theorem szV_5 (σ : pt_sg) (r : Nat) : szV σ r 5 = waxV σ r 5 := if_pos (Or.inr rfl)
theorem bod_01 : bodF 0 1 = 11 := by decide
theorem bod_02 : bodF 0 2 = 12 := by decide
theorem bod_03 : bodF 0 3 = 11 := by decide
theorem bod_04 : bodF 0 4 = 13 := by decide
theorem bod_05 : bodF 0 5 = 14 := by decide
theorem bod_11 : bodF 1 1 = 21 := by decide
theorem bod_12 : bodF 1 2 = 24 := by decide
theorem bod_13 : bodF 1 3 = 22 := by decide
theorem bod_14 : bodF 1 4 = 23 := by decide
theorem bod_15 : bodF 1 5 = 23 := by decide
theorem waxK_16 {k : Int32} {K : pt_tp} (h : K.1 ≤ 16) : (waxK k K).1 ≤ 16 := by
  unfold waxK
  split
  · exact kp_16 (kp_16 h)
  · exact kp_16 (kp_16 (kp_16 h))
theorem mkK_16 {k : Int32} {K : pt_tp} (h : K.1 ≤ 16) : (mkK k K).1 ≤ 16 := by
  unfold mkK
  split
  · exact kp_16 (kp_16 h)
  · split
    · exact kp_16 (kp_16 (kp_16 h))
    · split
      · exact kp_16 (kp_16 (kp_16 h))
      · exact waxK_16 (kp_16 (kp_16 h))
theorem szK_16 {k : Int32} {K : pt_tp} (h : K.1 ≤ 16) : (szK k K).1 ≤ 16 := by
  unfold szK
  split
  · exact waxK_16 h
  · split
    · exact mkK_16 (kp_16 (kp_16 (kp_16 h)))
    · exact mkK_16 (kp_16 (kp_16 h))
theorem c_wax {d : Nat} {Q : pt_Q} {m : pt_M} {σ : pt_sg} {K : pt_tp} {r dd : Nat} {k : Int32} (O : OkS σ) (hr : r < sr σ) (hdd : dd ≤ 14) (hR : RC m 24 σ) (hK : cK m K) (h16 : K.1 ≤ 16) (hk : k = 4 ∨ k = 5) (ek : σ (43 + 7 * r) = k) (h : ∀ m1, fr Tk m m1 → cK m1 (waxK k K) → Q (some (zI (waxV σ r k))) m1) : Sp (d + 5) nX1_askAnew [zR 1 135, zR 4 24, zI (nI r), zI 0, zI (nI dd)] m Q := by
  rcases hk with rfl | rfl
  · rw [waxK_4, waxV_4] at h
    refine c_anew O hr hR (Or.inl rfl) (Or.inr (Or.inr (Or.inr (Or.inl rfl)))) ek (fun Q1 hq => ?_)
    rw [bod_04]
    exact c_g13 (d := d + 1) O hr (by omega) hR hK h16 (fun m1 f1 k1 => hq _ _ (h m1 f1 k1))
  · rw [waxK_5, waxV_5] at h
    refine c_anew O hr hR (Or.inl rfl) (Or.inr (Or.inr (Or.inr (Or.inr rfl)))) ek (fun Q1 hq => ?_)
    rw [bod_05]
    exact c_g14 O hr (by omega) hR hK h16 (fun m1 f1 k1 => hq _ _ (h m1 f1 k1))
theorem c_g23 {d : Nat} {Q : pt_Q} {m : pt_M} {σ : pt_sg} {K : pt_tp} {r dd : Nat} {k : Int32} (O : OkS σ) (hr : r < sr σ) (hdd : dd ≤ 13) (hR : RC m 24 σ) (hK : cK m K) (h16 : K.1 ≤ 16) (hk : k = 4 ∨ k = 5) (ek : σ (43 + 7 * r) = k) (h : ∀ m1, fr Tk m m1 → cK m1 (waxK k (kp (kp K 23) 20)) → Q (some (zI (nI r - waxV σ r k))) m1) : Sp (d + 7) nX1_gives [zR 1 135, zR 4 24, zI (nI r), zI 23, zI (nI dd)] m Q := by
  refine c_gives_in (by omega) hK h16 (tg := 202) (by decide) (fun m1 f1 k1 => ?_)
  refine Go_rn [] 100 ?_
  refine c_g20 (by omega) k1 (kp_16 h16) (fun m2 f2 k2 => ?_)
  refine c_wax (d := d + 1) (k := k) O hr (by omega) (Tk_RC hR (Tk_tr f1 f2)) k2 (kp_16 (kp_16 h16)) hk ek (fun m3 f3 k3 => ?_)
  exact h m3 (Tk_tr (Tk_tr f1 f2) f3) k3
theorem c_mark {d : Nat} {Q : pt_Q} {m : pt_M} {σ : pt_sg} {K : pt_tp} {r dd : Nat} {k : Int32} (O : OkS σ) (hr : r < sr σ) (hdd : dd ≤ 13) (hR : RC m 24 σ) (hK : cK m K) (h16 : K.1 ≤ 16) (hk : k = 1 ∨ k = 2 ∨ k = 3 ∨ k = 4 ∨ k = 5) (ek : σ (43 + 7 * r) = k) (h : ∀ m1, fr Tk m m1 → cK m1 (mkK k K) → Q (some (zI (mkV σ r k))) m1) : Sp (d + 8) nX1_askAnew [zR 1 135, zR 4 24, zI (nI r), zI 1, zI (nI dd)] m Q := by
  refine c_anew O hr hR (Or.inr rfl) hk ek (fun Q1 hq => ?_)
  rcases hk with rfl | rfl | rfl | rfl | rfl
  · rw [mkK_1, mkV_1] at h
    rw [bod_11]
    exact c_g21 (d := d + 4) O hr (by omega) hR hK h16 (fun m1 f1 k1 => hq _ _ (h m1 f1 k1))
  · rw [mkK_2, mkV_2] at h
    rw [bod_12]
    exact c_g24 (d := d + 3) O hr (by omega) hR hK h16 (fun m1 f1 k1 => hq _ _ (h m1 f1 k1))
  · rw [mkK_3, mkV_3] at h
    rw [bod_13]
    exact c_g22 (d := d + 3) O hr (by omega) hR hK h16 (fun m1 f1 k1 => hq _ _ (h m1 f1 k1))
  · rw [mkK_4, mkV_4] at h
    rw [bod_14]
    exact c_g23 O hr hdd hR hK h16 (Or.inl rfl) ek (fun m1 f1 k1 => hq _ _ (h m1 f1 k1))
  · rw [mkK_5, mkV_5] at h
    rw [bod_15]
    exact c_g23 O hr hdd hR hK h16 (Or.inr rfl) ek (fun m1 f1 k1 => hq _ _ (h m1 f1 k1))
theorem c_g11 {d : Nat} {Q : pt_Q} {m : pt_M} {σ : pt_sg} {K : pt_tp} {r dd : Nat} {k : Int32} (O : OkS σ) (hr : r < sr σ) (hdd : dd ≤ 12) (hR : RC m 24 σ) (hK : cK m K) (h16 : K.1 ≤ 16) (hk : k = 1 ∨ k = 2 ∨ k = 3 ∨ k = 4 ∨ k = 5) (ek : σ (43 + 7 * r) = k) (h : ∀ m1, fr Tk m m1 → cK m1 (mkK k (kp (kp K 11) 10)) → Q (some (zI (aU σ r + mkV σ r k))) m1) : Sp (d + 9) nX1_gives [zR 1 135, zR 4 24, zI (nI r), zI 11, zI (nI dd)] m Q := by
  refine c_gives_in (by omega) hK h16 (tg := 102) (by decide) (fun m1 f1 k1 => ?_)
  refine Go_rn [] 100 ?_
  refine c_g10 O hr (by omega) (Tk_RC hR f1) k1 (kp_16 h16) (fun m2 f2 k2 => ?_)
  refine c_mark (k := k) O hr (by omega) (Tk_RC hR (Tk_tr f1 f2)) k2 (kp_16 (kp_16 h16)) hk ek (fun m3 f3 k3 => ?_)
  exact h m3 (Tk_tr (Tk_tr f1 f2) f3) k3
theorem c_g12 {d : Nat} {Q : pt_Q} {m : pt_M} {σ : pt_sg} {K : pt_tp} {r dd : Nat} {k : Int32} (O : OkS σ) (hr : r < sr σ) (hdd : dd ≤ 11) (hR : RC m 24 σ) (hK : cK m K) (h16 : K.1 ≤ 16) (hk : k = 1 ∨ k = 2 ∨ k = 3 ∨ k = 4 ∨ k = 5) (ek : σ (43 + 7 * r) = k) (h : ∀ m1, fr Tk m m1 → cK m1 (mkK k (kp (kp (kp K 12) 11) 10)) → Q (some (zI (-(aU σ r + mkV σ r k)))) m1) : Sp (d + 10) nX1_gives [zR 1 135, zR 4 24, zI (nI r), zI 12, zI (nI dd)] m Q := by
  refine c_gives_in (by omega) hK h16 (tg := 123) (by decide) (fun m1 f1 k1 => ?_)
  refine Go_rn [] 100 ?_
  refine c_g11 (k := k) O hr (by omega) (Tk_RC hR f1) k1 (kp_16 h16) hk ek (fun m2 f2 k2 => ?_)
  exact h m2 (Tk_tr f1 f2) k2
theorem c_size {d : Nat} {Q : pt_Q} {m : pt_M} {σ : pt_sg} {K : pt_tp} {r dd : Nat} {k : Int32} (O : OkS σ) (hr : r < sr σ) (hdd : dd ≤ 11) (hR : RC m 24 σ) (hK : cK m K) (h16 : K.1 ≤ 16) (hk : k = 1 ∨ k = 2 ∨ k = 3 ∨ k = 4 ∨ k = 5) (ek : σ (43 + 7 * r) = k) (h : ∀ m1, fr Tk m m1 → cK m1 (szK k K) → Q (some (zI (szV σ r k))) m1) : Sp (d + 11) nX1_askAnew [zR 1 135, zR 4 24, zI (nI r), zI 0, zI (nI dd)] m Q := by
  have hk0 := hk
  rcases hk with rfl | rfl | rfl | rfl | rfl
  · rw [szK_1, szV_1] at h
    refine c_anew O hr hR (Or.inl rfl) hk0 ek (fun Q1 hq => ?_)
    rw [bod_01]
    exact c_g11 (d := d + 1) O hr (by omega) hR hK h16 hk0 ek (fun m1 f1 k1 => hq _ _ (h m1 f1 k1))
  · rw [szK_2, szV_2] at h
    refine c_anew O hr hR (Or.inl rfl) hk0 ek (fun Q1 hq => ?_)
    rw [bod_02]
    exact c_g12 O hr hdd hR hK h16 hk0 ek (fun m1 f1 k1 => hq _ _ (h m1 f1 k1))
  · rw [szK_3, szV_3] at h
    refine c_anew O hr hR (Or.inl rfl) hk0 ek (fun Q1 hq => ?_)
    rw [bod_03]
    exact c_g11 (d := d + 1) O hr (by omega) hR hK h16 hk0 ek (fun m1 f1 k1 => hq _ _ (h m1 f1 k1))
  · rw [szK_4, szV_4] at h
    exact c_wax (d := d + 6) O hr (by omega) hR hK h16 (Or.inl rfl) ek h
  · rw [szK_5, szV_5] at h
    exact c_wax (d := d + 6) O hr (by omega) hR hK h16 (Or.inr rfl) ek h
noncomputable def askX (a : pt_al) (r w : Int32) : pt_al × Int32 := cif ((0 ≤ r ∧ r < aS a 1) ∧ (0 ≤ w ∧ w ≤ 1)) (if w = 0 then (uK a (szK (aS a (43 + 7 * xN r)) (0, (aK a).2)), szV (aS a) (xN r) (aS a (43 + 7 * xN r))) else (uK a (mkK (aS a (43 + 7 * xN r)) (0, (aK a).2)), mkV (aS a) (xN r) (aS a (43 + 7 * xN r)))) (a, -1000001)
theorem askX_ok {a : pt_al} (O : OK a) (r w : Int32) : OK (askX a r w).1 := by
  unfold askX
  by_cases c : (0 ≤ r ∧ r < aS a 1) ∧ (0 ≤ w ∧ w ≤ 1)
  · rw [cif_t c]
    obtain ⟨o1, o2, o3, o4, o5, o6⟩ := O
    by_cases c2 : w = 0
    · rw [if_pos c2]
      exact ⟨o1, o2, o3, o4, o5, szK_16 (by show 0 ≤ 16; omega)⟩
    · rw [if_neg c2]
      exact ⟨o1, o2, o3, o4, o5, mkK_16 (by show 0 ≤ 16; omega)⟩
  · rw [cif_f c]; exact O
theorem kd5 {σ : pt_sg} (O : OkS σ) {r : Nat} (hr : r < sr σ) : σ (43 + 7 * r) = 1 ∨ σ (43 + 7 * r) = 2 ∨ σ (43 + 7 * r) = 3 ∨ σ (43 + 7 * r) = 4 ∨ σ (43 + 7 * r) = 5 := by
  have := (O.2.2.2.2.2.2.2 r hr).1
  clear O
  grind
theorem C_ask {d : Nat} {Q : pt_Q} {m : pt_M} {a : pt_al} (O : OK a) (hC : IC m a) {r w : Int32} (h : ∀ m1, kM m m1 → IC m1 (askX a r w).1 → Q (some (zI (askX a r w).2)) m1) : Sp (d + 14) nX6_ask [zR 6 0, zI r, zI w] m Q := by
  unfold askX at h
  refine sX6_ask ?_
  refine Go_rn [] 100 ?_
  refine c_hasReader hC.1.2.1 (fun c => ?_) (fun c => ?_)
  · refine br_f (by decide) ?_
    refine ⟨fun c2 => ?_, fun c2 => ⟨fun c3 => ?_, fun c3 => ?_⟩⟩
    · rw [cif_f (fun q => absurd q.2.1 (Int32.not_le.mpr c2))] at h
      exact h m kM_rf hC
    · have cw : 0 ≤ w ∧ w ≤ 1 := ⟨Int32.not_lt.mp c2, c3⟩
      rw [cif_t ⟨c, cw⟩] at h
      obtain ⟨r1, h1, rfl⟩ := readN O.1 c
      have h9 := O.1.2.2.2.1
      rw [xN_nI (by omega)] at h
      have hR1 : RC (st m 135 0 0) 24 (aS a) := RC_fr hC.1 (fun o k g1 g2 => by rw [st_eq, if_neg (by omega)])
      have hK1 : cK (st m 135 0 0) (0, (aK a).2) := ⟨by rw [st_eq, if_pos ⟨rfl, rfl⟩]; rfl, fun i hi => absurd hi (Nat.not_lt_zero i)⟩
      have fr0 : fr Tk m (st m 135 0 0) := fun o k ho => by
        unfold Tk at ho
        rw [st_eq, if_neg (by omega)]
      have f9 : ∀ m1, fr Tk (st m 135 0 0) m1 → kM m m1 := fun m1 f1 o k ho => by
        rw [f1 o k (by unfold Tk; omega), fr0 o k (by unfold Tk; omega)]
      refine sX1_answer ?_
      refine Go_rn [] 100 ?_
      have hw2 : w = 0 ∨ w = 1 := by
        have q1 := cw.1
        have q2 := cw.2
        clear h O hC hR1 hK1 fr0 f9
        grind
      rcases hw2 with rfl | rfl
      · rw [if_pos rfl] at h
        refine c_size (d := d + 1) (dd := 0) O.1 h1 (by omega) hR1 hK1 (by show 0 ≤ 16; omega) (kd5 O.1 h1) rfl (fun m1 f1 k1 => ?_)
        exact h m1 (f9 m1 f1) (IC_uK hC k1 (fun o k _ q => by rw [f1 o k q, fr0 o k q]))
      · rw [if_neg (by decide)] at h
        refine c_mark (d := d + 4) (dd := 0) O.1 h1 (by omega) hR1 hK1 (by show 0 ≤ 16; omega) (kd5 O.1 h1) rfl (fun m1 f1 k1 => ?_)
        exact h m1 (f9 m1 f1) (IC_uK hC k1 (fun o k _ q => by rw [f1 o k q, fr0 o k q]))
    · rw [cif_f (fun q => c3 q.2.2)] at h
      exact h m kM_rf hC
  · refine br_t rfl ?_
    rw [cif_f (fun q => c q.1)] at h
    exact h m kM_rf hC
