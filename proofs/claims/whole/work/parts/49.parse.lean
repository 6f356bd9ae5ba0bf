/-! 49.parse: what a text tells; the class's reading of it (partly written by gen_parse.py) -/
abbrev pt_ft : Type := Option (Int32 × Nat)
noncomputable def pnx (T : pt_tp) : Nat → Nat → Nat
  | 0, p => p
  | i + 1, p => pnx T i (tkE T p)
theorem pnx_n {T : pt_tp} : ∀ (i : Nat) {p : Nat}, p ≤ T.1 → pnx T i p ≤ T.1
  | 0, _, h => h
  | i + 1, _, h => pnx_n i (tkE_n h).1
theorem pnx_s (T : pt_tp) : ∀ (i p : Nat), tkE T (pnx T i p) = pnx T (i + 1) p
  | 0, _ => rfl
  | i + 1, p => pnx_s T i (tkE T p)
noncomputable def nF (T : pt_tp) (most : Int32) (p : Nat) : pt_ft := cif (tkK T p = 2) (cif (tkV T p ≤ most) none (some (2, tkB T p))) (some (1, tkB T p))
noncomputable def nFs (T : pt_tp) (most : Int32) : Nat → Nat → pt_ft
  | 0, _ => none
  | r + 1, p => match nF T most p with
    | some x => some x
    | none => nFs T most r (tkE T p)
noncomputable def sF (T : pt_tp) (p : Nat) : pt_ft := cif (tkK T p = 3) none (some (1, tkB T p))
noncomputable def wF (T : pt_tp) (w p : Nat) : pt_ft := cif (w < 8) (match nFs T 30 5 (tkE T p) with
    | some x => some x
    | none => sF T (pnx T 6 p)) (some (3, tkB T p))
noncomputable def rF (T : pt_tp) (r p : Nat) : pt_ft := cif (r < 5) (cif (kdX T (tkE T p) = -1) (some (1, tkB T (tkE T p))) (match nFs T 9 5 (pnx T 2 p) with
    | some x => some x
    | none => sF T (pnx T 7 p))) (some (3, tkB T p))
noncomputable def wU (T : pt_tp) (w p : Nat) (σ : pt_sg) : pt_sg := fun k => if k = 0 then nI (w + 1) else if 3 + 5 * w ≤ k ∧ k < 8 + 5 * w then tkV T (pnx T (k - (3 + 5 * w)) (tkE T p)) else σ k
noncomputable def rU (T : pt_tp) (r p : Nat) (σ : pt_sg) : pt_sg := fun k => if k = 1 then nI (r + 1) else if k = 43 + 7 * r then kdX T (tkE T p) else if 44 + 7 * r ≤ k ∧ k < 49 + 7 * r then tkV T (pnx T (k - (44 + 7 * r)) (pnx T 2 p)) else if k = 49 + 7 * r then -1 else σ k
noncomputable def pE (T : pt_tp) (p : Nat) (σ : pt_sg) : pt_ft × pt_sg := cif (tkK T p = 0) (none, σ) (some (1, tkB T p), σ)
noncomputable def pR (T : pt_tp) : Nat → Nat → Nat → pt_sg → pt_ft × pt_sg
  | 0, _, p, σ => pE T p σ
  | n + 1, r, p, σ => cif (isW T 1 p) (match rF T r p with
    | some x => (some x, σ)
    | none => pR T n (r + 1) (pnx T 8 p) (rU T r p σ)) (pE T p σ)
noncomputable def pW (T : pt_tp) : Nat → Nat → Nat → pt_sg → pt_ft × pt_sg
  | 0, _, p, σ => pR T 6 0 p σ
  | n + 1, w, p, σ => cif (isW T 0 p) (match wF T w p with
    | some x => (some x, σ)
    | none => pW T n (w + 1) (pnx T 7 p) (wU T w p σ)) (pR T 6 0 p σ)
def sg0 : pt_sg := fun _ => 0
noncomputable def pS (T : pt_tp) : pt_ft × pt_sg := cif (isW T 0 0) (pW T 9 0 0 sg0) (some (1, tkB T 0), sg0)
/-! what is read is a street -/
theorem vl_nat {T : pt_tp} : ∀ (r p n : Nat), (∀ k, k < r → fgr (T.2 (p + k))) → ∃ n', vl T r p (nI n) = nI n' ∧ n' < (n + 1) * 10 ^ r
  | 0, p, n, _ => ⟨n, rfl, by rw [Nat.pow_zero]; omega⟩
  | r + 1, p, n, h => by
    obtain ⟨g1, g2⟩ := h 0 (by omega)
    rw [Nat.add_zero] at g1 g2
    obtain ⟨j, hj, e⟩ := ixof (x := T.2 p) (n := 58) (by grind) (by show _ < (58 : Int32); grind) (by omega)
    rw [e] at g1
    have g3 : nI 48 ≤ nI j := g1
    rw [nI_leI (by omega) (by omega)] at g3
    obtain ⟨i, rfl⟩ : ∃ i, j = 48 + i := ⟨j - 48, by omega⟩
    have e2 : nI n * 10 + T.2 p - 48 = nI (n * 10 + i) := by
      rw [e]
      have e3 : nI n * 10 = nI (n * 10) := (Int32.ofNat_mul n 10).symm
      rw [e3, nI_add, show n * 10 + (48 + i) = (n * 10 + i) + 48 by omega]
      exact nI_sb (a := n * 10 + i + 48) (b := 48) (by omega)
    obtain ⟨n', h1, h2⟩ := vl_nat (T := T) r (p + 1) (n * 10 + i) (fun k hk => by
      have := h (k + 1) (by omega)
      rwa [show p + 1 + k = p + (k + 1) by omega])
    refine ⟨n', by show vl T r (p + 1) (nI n * 10 + T.2 p - 48) = _; rw [e2]; exact h1, Nat.lt_of_lt_of_le h2 ?_⟩
    rw [Nat.pow_succ, Nat.mul_comm (10 ^ r) 10, ← Nat.mul_assoc]
    exact Nat.mul_le_mul_right _ (by omega)
theorem tkK2 {T : pt_tp} {p : Nat} (h : tkK T p = 2) : 0 ≤ tkV T p := by
  unfold tkK at h
  by_cases c : T.1 ≤ tkB T p
  · rw [cif_t c] at h; omega
  · rw [cif_f c] at h
    by_cases c2 : ltr (T.2 (tkB T p))
    · rw [cif_t c2] at h; omega
    · rw [cif_f c2] at h
      by_cases c3 : fgr (T.2 (tkB T p))
      · rw [cif_t c3] at h
        by_cases c4 : sK fgr T (tkB T p) - tkB T p ≤ 3
        · have e : tkE T p = sK fgr T (tkB T p) := by
            unfold tkE
            rw [cif_f c, cif_f c2, cif_t c3]
          unfold tkV
          rw [e]
          have hl := sK_le (P := fgr) (T := T) (tkB T p)
          obtain ⟨n', h1, h2⟩ := vl_nat (T := T) (sK fgr T (tkB T p) - tkB T p) (tkB T p) 0 (fun k hk => sK_in (p := tkB T p) (tkB T p + k) (by omega) (by omega))
          have h3 : 10 ^ (sK fgr T (tkB T p) - tkB T p) ≤ 1000 := Nat.le_trans (Nat.pow_le_pow_right (by omega) c4) (by decide)
          rw [show (0 : Int32) = nI 0 from rfl, h1]
          exact nI_le (by omega) (by omega)
        · rw [cif_f c4] at h; omega
      · rw [cif_f c3] at h
        by_cases c4 : T.2 (tkB T p) = 59
        · rw [cif_t c4] at h; omega
        · rw [cif_f c4] at h; omega
theorem nF_none {T : pt_tp} {most : Int32} {p : Nat} (h : nF T most p = none) : tkK T p = 2 ∧ 0 ≤ tkV T p ∧ tkV T p ≤ most := by
  unfold nF at h
  by_cases c : tkK T p = 2
  · rw [cif_t c] at h
    by_cases c2 : tkV T p ≤ most
    · exact ⟨c, tkK2 c, c2⟩
    · rw [cif_f c2] at h; cases h
  · rw [cif_f c] at h; cases h
theorem nFs_none {T : pt_tp} {most : Int32} : ∀ (r p : Nat), nFs T most r p = none → ∀ i, i < r → 0 ≤ tkV T (pnx T i p) ∧ tkV T (pnx T i p) ≤ most
  | 0, _, _, i, hi => absurd hi (Nat.not_lt_zero i)
  | r + 1, p, h, i, hi => by
    have h2 : (match nF T most p with | some x => some x | none => nFs T most r (tkE T p)) = none := h
    cases e : nF T most p with
    | some x => rw [e] at h2; cases h2
    | none =>
      rw [e] at h2
      cases i with
      | zero => exact (nF_none e).2
      | succ i => exact nFs_none r (tkE T p) h2 i (by omega)
theorem sw_of {σ : pt_sg} {w : Nat} (h : σ 0 = nI w) (hw : w < 2 ^ 31) : sw σ = w := by
  unfold sw
  rw [h]
  exact nI_clamp hw
theorem sr_of {σ : pt_sg} {w : Nat} (h : σ 1 = nI w) (hw : w < 2 ^ 31) : sr σ = w := by
  unfold sr
  rw [h]
  exact nI_clamp hw
theorem wU_ok {T : pt_tp} {w p : Nat} {σ : pt_sg} (O : OkS σ) (hw : sw σ = w) (h : wF T w p = none) : OkS (wU T w p σ) ∧ sw (wU T w p σ) = w + 1 ∧ sr (wU T w p σ) = sr σ := by
  unfold wF at h
  by_cases c : w < 8
  · rw [cif_t c] at h
    have hn : nFs T 30 5 (tkE T p) = none := by
      cases e : nFs T 30 5 (tkE T p) with
      | none => rfl
      | some x => rw [e] at h; cases h
    have hv := nFs_none 5 (tkE T p) hn
    have e0 : wU T w p σ 0 = nI (w + 1) := rfl
    have e1 : wU T w p σ 1 = σ 1 := by
      show (if (1 : Nat) = 0 then _ else if _ then _ else σ 1) = σ 1
      rw [if_neg (by omega), if_neg (by omega)]
    have e2 : wU T w p σ 2 = σ 2 := by
      show (if (2 : Nat) = 0 then _ else if _ then _ else σ 2) = σ 2
      rw [if_neg (by omega), if_neg (by omega)]
    have s1 := sw_of e0 (by omega)
    obtain ⟨o1, o2, o3, o4, o5, o6, o7, o8⟩ := O
    have s2 : sr (wU T w p σ) = sr σ := by unfold sr; rw [e1]
    have out : ∀ k, 3 ≤ k → ¬ (3 + 5 * w ≤ k ∧ k < 8 + 5 * w) → wU T w p σ k = σ k := fun k h1 h2 => by
      show (if k = 0 then _ else if _ then _ else σ k) = σ k
      rw [if_neg (by omega), if_neg h2]
    refine ⟨⟨by rw [s1]; exact e0, by omega, by rw [s2, e1]; exact o3, by omega, by rw [e2]; exact o5, fun k hk => ?_, fun k h1 h2 => ?_, fun r hr => ?_⟩, s1, s2⟩
    · rw [s1] at hk
      rcases Nat.lt_or_ge k (5 * w) with q | q
      · rw [out _ (by omega) (by omega)]
        exact o6 k (by omega)
      · have e : wU T w p σ (3 + k) = tkV T (pnx T (3 + k - (3 + 5 * w)) (tkE T p)) := by
          show (if 3 + k = 0 then _ else if _ then _ else σ (3 + k)) = _
          rw [if_neg (by omega), if_pos (by omega)]
        rw [e]
        exact hv _ (by omega)
    · rw [s1] at h1
      rw [out _ (by omega) (by omega)]
      exact o7 k (by omega) h2
    · rw [s2] at hr
      obtain ⟨u1, u2, u3⟩ := o8 r hr
      exact ⟨by rw [out _ (by omega) (by omega)]; exact u1, fun f hf => by rw [out _ (by omega) (by omega)]; exact u2 f hf, by rw [out _ (by omega) (by omega)]; exact u3⟩
  · rw [cif_f c] at h; cases h
theorem rU_ok {T : pt_tp} {r p : Nat} {σ : pt_sg} (O : OkS σ) (hr : sr σ = r) (h : rF T r p = none) : OkS (rU T r p σ) ∧ sw (rU T r p σ) = sw σ ∧ sr (rU T r p σ) = r + 1 := by
  unfold rF at h
  by_cases c : r < 5
  · rw [cif_t c] at h
    by_cases ck : kdX T (tkE T p) = -1
    · rw [cif_t ck] at h; cases h
    · rw [cif_f ck] at h
      have hkd := (kdX_c T (tkE T p)).resolve_left ck
      have hn : nFs T 9 5 (pnx T 2 p) = none := by
        cases e : nFs T 9 5 (pnx T 2 p) with
        | none => rfl
        | some x => rw [e] at h; cases h
      have hv := nFs_none 5 (pnx T 2 p) hn
      have out : ∀ k, k ≠ 1 → ¬ (43 + 7 * r ≤ k ∧ k ≤ 49 + 7 * r) → rU T r p σ k = σ k := fun k h1 h2 => by
        show (if k = 1 then _ else if _ then _ else if _ then _ else if _ then _ else σ k) = σ k
        rw [if_neg h1, if_neg (by omega), if_neg (by omega), if_neg (by omega)]
      have e1 : rU T r p σ 1 = nI (r + 1) := rfl
      have s1 := sr_of e1 (by omega)
      obtain ⟨o1, o2, o3, o4, o5, o6, o7, o8⟩ := O
      have s2 : sw (rU T r p σ) = sw σ := by unfold sw; rw [out 0 (by omega) (by omega)]
      refine ⟨⟨by rw [s2, out 0 (by omega) (by omega)]; exact o1, by omega, by rw [s1]; exact e1, by omega, by rw [out 2 (by omega) (by omega)]; exact o5, fun k hk => ?_, fun k h1 h2 => ?_, fun i hi => ?_⟩, s2, s1⟩
      · rw [s2] at hk
        rw [out _ (by omega) (by omega)]
        exact o6 k hk
      · rw [s2] at h1
        rw [out _ (by omega) (by omega)]
        exact o7 k h1 h2
      · rw [s1] at hi
        rcases Nat.lt_or_ge i r with q | q
        · obtain ⟨u1, u2, u3⟩ := o8 i (by omega)
          exact ⟨by rw [out _ (by omega) (by omega)]; exact u1, fun f hf => by rw [out _ (by omega) (by omega)]; exact u2 f hf, by rw [out _ (by omega) (by omega)]; exact u3⟩
        · have ei : i = r := by omega
          subst ei
          have a1 : rU T i p σ (43 + 7 * i) = kdX T (tkE T p) := by
            show (if _ then _ else if _ then _ else if _ then _ else if _ then _ else σ _) = _
            rw [if_neg (by omega), if_pos rfl]
          have a2 : ∀ f, f < 5 → rU T i p σ (44 + 7 * i + f) = tkV T (pnx T (44 + 7 * i + f - (44 + 7 * i)) (pnx T 2 p)) := fun f hf => by
            show (if _ then _ else if _ then _ else if _ then _ else if _ then _ else σ _) = _
            rw [if_neg (by omega), if_neg (by omega), if_pos (by omega)]
          have a3 : rU T i p σ (49 + 7 * i) = -1 := by
            show (if _ then _ else if _ then _ else if _ then _ else if _ then _ else σ _) = _
            rw [if_neg (by omega), if_neg (by omega), if_neg (by omega), if_pos rfl]
          refine ⟨by rw [a1]; exact hkd, fun f hf => ?_, by rw [a3]; decide⟩
          rw [a2 f hf]
          exact hv _ (by omega)
  · rw [cif_f c] at h; cases h
theorem pR_ok {T : pt_tp} : ∀ (n r p : Nat) (σ τ : pt_sg), OkS σ → sr σ = r → pR T n r p σ = (none, τ) → OkS τ ∧ sw τ = sw σ
  | 0, r, p, σ, τ, O, hr, h => by
    have h2 : cif (tkK T p = 0) (none, σ) (some (1, tkB T p), σ) = ((none, τ) : pt_ft × pt_sg) := h
    by_cases c : tkK T p = 0
    · rw [cif_t c] at h2; cases h2; exact ⟨O, rfl⟩
    · rw [cif_f c] at h2; cases h2
  | n + 1, r, p, σ, τ, O, hr, h => by
    have h2 : cif (isW T 1 p) (match rF T r p with | some x => (some x, σ) | none => pR T n (r + 1) (pnx T 8 p) (rU T r p σ)) (pE T p σ) = ((none, τ) : pt_ft × pt_sg) := h
    by_cases c : isW T 1 p
    · rw [cif_t c] at h2
      cases e : rF T r p with
      | some x => rw [e] at h2; cases h2
      | none =>
        rw [e] at h2
        obtain ⟨g1, g2, g3⟩ := rU_ok O hr e
        obtain ⟨k1, k2⟩ := pR_ok n (r + 1) _ _ τ g1 g3 h2
        exact ⟨k1, k2.trans g2⟩
    · rw [cif_f c] at h2
      exact pR_ok 0 r p σ τ O hr h2
theorem pW_ok {T : pt_tp} : ∀ (n w p : Nat) (σ τ : pt_sg), OkS σ → sw σ = w → sr σ = 0 → pW T n w p σ = (none, τ) → OkS τ
  | 0, w, p, σ, τ, O, hw, hr, h => (pR_ok 6 0 p σ τ O hr h).1
  | n + 1, w, p, σ, τ, O, hw, hr, h => by
    have h2 : cif (isW T 0 p) (match wF T w p with | some x => (some x, σ) | none => pW T n (w + 1) (pnx T 7 p) (wU T w p σ)) (pR T 6 0 p σ) = ((none, τ) : pt_ft × pt_sg) := h
    by_cases c : isW T 0 p
    · rw [cif_t c] at h2
      cases e : wF T w p with
      | some x => rw [e] at h2; cases h2
      | none =>
        rw [e] at h2
        obtain ⟨g1, g2, g3⟩ := wU_ok O hw e
        exact pW_ok n (w + 1) _ _ τ g1 g2 (g3.trans hr) h2
    · rw [cif_f c] at h2
      exact (pR_ok 6 0 p σ τ O hr h2).1
theorem sg0_ok : OkS sg0 ∧ sw sg0 = 0 ∧ sr sg0 = 0 := by
  have h1 : sw sg0 = 0 := by decide
  have h2 : sr sg0 = 0 := by decide
  refine ⟨⟨by rw [h1]; rfl, by omega, by rw [h2]; rfl, by omega, by decide, fun k hk => by omega, fun k _ _ => rfl, fun r hr => by omega⟩, h1, h2⟩
theorem pS_ok {T : pt_tp} {τ : pt_sg} (h : pS T = (none, τ)) : OkS τ := by
  unfold pS at h
  by_cases c : isW T 0 0
  · rw [cif_t c] at h
    exact pW_ok 9 0 0 sg0 τ sg0_ok.1 sg0_ok.2.1 sg0_ok.2.2 h
  · rw [cif_f c] at h; cases h
noncomputable def streetX (a : pt_al) : pt_al × Int32 := match pS (aT a) with
  | (some x, _) => (uTL a (0, (aT a).2) x.1, -1000100 - nI x.2)
  | (none, σ) => (uSATL a σ (0, (aA a).2) (0, (aT a).2) (aL a), σ 0)
theorem streetX_ok {a : pt_al} (O : OK a) : OK (streetX a).1 := by
  unfold streetX
  obtain ⟨o1, o2, o3, o4, o5, o6⟩ := O
  rcases e : pS (aT a) with ⟨f, τ⟩
  have t0 : OkT (0, (aT a).2) := ⟨by show 0 ≤ 400; omega, fun i hi => absurd hi (Nat.not_lt_zero i)⟩
  cases f with
  | some x => exact ⟨o1, o2, o3, o4, t0, o6⟩
  | none => exact ⟨pS_ok e, ⟨by show 0 ≤ 24; omega, fun i hi => absurd hi (Nat.not_lt_zero i)⟩, o3, o4, t0, o6⟩
/-! the class -/
theorem c_fault {d : Nat} {Q : pt_Q} {m : pt_M} {T : pt_tp} {p : Nat} {c : Int32} (hT : cTok m T p) (h : ∀ m1, fr (fun o k => o = 18 ∧ 2 ≤ k ∧ k ≤ 3) m m1 → m1 18 2 = c → m1 18 3 = nI (tkB T p) → Q (some (zI 0)) m1) : Sp (d + 1) nX5_faulty [zR 5 18, zI c] m Q := by
  refine sX5_faulty ?_
  refine Go_rn [] 100 ?_
  refine ⟨bz0, h _ (fun o k ho => ?_) ?_ ?_⟩
  · rw [st_eq, if_neg (by omega), st_eq, if_neg (by omega)]
  · rw [st_eq, if_neg (by omega), st_eq, if_pos ⟨rfl, rfl⟩]
  · rw [st_eq, if_pos ⟨rfl, rfl⟩, st_eq, if_neg (by omega)]; exact hT.2.2.1
def Tte : Nat → Nat → Prop := fun o k => o = 18 ∧ 2 ≤ k ∧ k ≤ 8
theorem c_sign {d : Nat} {Q : pt_Q} {m : pt_M} {T : pt_tp} {p : Nat} (hO : OkT T) (hp : p ≤ T.1) (hT : cTok m T p)
    (hb : ∀ c b, sF T p = some (c, b) → ∀ m1, fr Tte m m1 → m1 18 2 = c → m1 18 3 = nI b → Q (some (zI 0)) m1)
    (hg : sF T p = none → ∀ m1, fr Tte m m1 → cTok m1 T (pnx T 1 p) → Q (some (zI 1)) m1) : Sp (d + 4) nX5_tellSign [zR 5 18] m Q := by
  unfold sF at hb hg
  have hK := tkK_lt T p
  refine sX5_tellSign ?_
  refine Go_rn [] 100 ?_
  refine ⟨fun c => ?_, fun c => ?_⟩
  · have c1 : nI (tkK T p) = nI 3 := hT.2.1.symm.trans c
    have c2 := nI_inj c1 (by omega) (by omega)
    rw [cif_t c2] at hg
    refine c_next hO (tkE_n hp).1 hT.1 hT.2.2.2.1 (fun m1 f1 t1 => ?_)
    exact ⟨bz1, hg rfl m1 (fun o k ho => f1 o k (fun q => ho (by unfold Ttk at q; unfold Tte; omega))) t1⟩
  · have c2 : ¬ tkK T p = 3 := fun q => c (by show m 18 5 = 3; rw [hT.2.1, q]; rfl)
    rw [cif_f c2] at hb
    refine c_fault hT (fun m1 f1 e1 e2 => ?_)
    exact ⟨bz0, hb _ _ rfl m1 (fun o k ho => f1 o k (fun q => ho (by unfold Tte; omega))) e1 e2⟩
theorem c_nums21_l {d : Nat} {Q : pt_Q} {T : pt_tp} {q : Nat} {most x2 : Int32} (hO : OkT T) (hq : q + 5 ≤ 40) (h2 : x2 = nI q) : ∀ (r j p : Nat) (x : Int32) (m : pt_M), j + r = 5 → x = nI (q + j) → p ≤ T.1 → cTok m T p →
    (∀ c b, nFs T most r p = some (c, b) → ∀ m1, fr (fun o k => (o = 18 ∧ 2 ≤ k ∧ k ≤ 8) ∨ (o = 21 ∧ q + j ≤ k ∧ k < q + 5)) m m1 → m1 18 2 = c → m1 18 3 = nI b → Q (some (zI 0)) m1) →
    (nFs T most r p = none → ∀ m1, fr (fun o k => (o = 18 ∧ 2 ≤ k ∧ k ≤ 8) ∨ (o = 21 ∧ q + j ≤ k ∧ k < q + 5)) m m1 → cTok m1 T (pnx T r p) → (∀ i, i < r → m1 21 (q + j + i) = tkV T (pnx T i p)) → Q (some (zI 1)) m1) →
    Go (Sp (d + 3)) tX5_tellNumbers Q 3 [some (zR 5 18), some (zR 1040 21), some (zI x2), some (zI most), some (zI x)] [] m := by
  subst h2
  intro r
  induction r with
  | zero =>
    intro j p x m hj hx hp hT hb hg
    subst hx
    refine Go_rn [] 100 ?_
    refine br_t (by show nI q + 5 ≤ nI (q + j); rw [show nI q + 5 = nI (q + 5) from nI_add q 5]; exact nI_le (by omega) (by omega)) ?_
    exact ⟨bz1, hg rfl m fr_rf hT (fun i hi => absurd hi (Nat.not_lt_zero i))⟩
  | succ r ih =>
    intro j p x m hj hx hp hT hb hg
    subst hx
    have hK := tkK_lt T p
    have eN : nFs T most (r + 1) p = (match nF T most p with | some x => some x | none => nFs T most r (tkE T p)) := rfl
    rw [eN] at hb hg
    unfold nF at hb hg
    refine Go_rn [3] 100 ?_
    refine br_f (by show ¬ nI q + 5 ≤ nI (q + j); rw [show nI q + 5 = nI (q + 5) from nI_add q 5]; exact nI_ge (by omega) (by omega)) ?_
    refine br_f (nI_ge (a := q + j) (b := 40) (by omega) (by omega)) ?_
    refine ⟨fun c => ?_, fun c => ?_⟩
    · have c1 : nI (tkK T p) = nI 2 := hT.2.1.symm.trans c
      have c2 := nI_inj c1 (by omega) (by omega)
      rw [cif_t c2] at hb hg
      have e8 := hT.2.2.2.2 c2
      refine ⟨fun c3 => ?_, fun c3 => ?_⟩
      · have c4 : m 18 8 ≤ most := c3
        rw [e8] at c4
        rw [cif_t c4] at hb hg
        refine ⟨q + j, rfl, by omega, ?_⟩
        have t1 : cTok (st m 21 (q + j) (m 18 8)) T p := by
          refine ⟨cTp_fr hT.1 (by rw [st_eq, if_neg (by omega)]) (fun k => by rw [st_eq, if_neg (by omega)]), ?_, ?_, ?_, fun _ => ?_⟩
          · rw [st_eq, if_neg (by omega)]; exact hT.2.1
          · rw [st_eq, if_neg (by omega)]; exact hT.2.2.1
          · rw [st_eq, if_neg (by omega)]; exact hT.2.2.2.1
          · rw [st_eq, if_neg (by omega)]; exact e8
        refine c_next hO (tkE_n hp).1 t1.1 t1.2.2.2.1 (fun m1 f1 t2 => ?_)
        have hf : ∀ m2, fr (fun o k => (o = 18 ∧ 2 ≤ k ∧ k ≤ 8) ∨ (o = 21 ∧ q + (j + 1) ≤ k ∧ k < q + 5)) m1 m2 → fr (fun o k => (o = 18 ∧ 2 ≤ k ∧ k ≤ 8) ∨ (o = 21 ∧ q + j ≤ k ∧ k < q + 5)) m m2 := fun m2 f2 o k ho => by
          rw [f2 o k (by omega), f1 o k (by unfold Ttk; omega), st_eq, if_neg (by omega)]
        refine ih (j + 1) (tkE T p) _ m1 (by omega) (nI_1 (q + j)) (tkE_n hp).1 t2 (fun c b e m2 f2 => hb c b e m2 (hf m2 f2)) (fun e m2 f2 t3 v3 => hg e m2 (hf m2 f2) t3 (fun i hi => ?_))
        cases i with
        | zero =>
          rw [Nat.add_zero, f2 _ _ (by omega), f1 _ _ (by unfold Ttk; omega), st_eq, if_pos ⟨rfl, rfl⟩]
          exact e8
        | succ i =>
          have := v3 i (by omega)
          rw [show q + (j + 1) + i = q + j + (i + 1) by omega] at this
          exact this
      · have c4 : ¬ m 18 8 ≤ most := c3
        rw [e8] at c4
        rw [cif_f c4] at hb
        refine c_fault hT (fun m1 f1 e1 e2 => ?_)
        exact ⟨bz0, hb _ _ rfl m1 (fun o k ho => f1 o k (by omega)) e1 e2⟩
    · have c2 : ¬ tkK T p = 2 := fun q => c (by show m 18 5 = 2; rw [hT.2.1, q]; rfl)
      rw [cif_f c2] at hb
      refine c_fault hT (fun m1 f1 e1 e2 => ?_)
      exact ⟨bz0, hb _ _ rfl m1 (fun o k ho => f1 o k (by omega)) e1 e2⟩
theorem c_nums21 {d : Nat} {Q : pt_Q} {T : pt_tp} {q p : Nat} {most x : Int32} {m : pt_M} (hO : OkT T) (hq : q + 5 ≤ 40) (hx : x = nI q) (hp : p ≤ T.1) (hT : cTok m T p)
    (hb : ∀ c b, nFs T most 5 p = some (c, b) → ∀ m1, fr (fun o k => (o = 18 ∧ 2 ≤ k ∧ k ≤ 8) ∨ (o = 21 ∧ q ≤ k ∧ k < q + 5)) m m1 → m1 18 2 = c → m1 18 3 = nI b → Q (some (zI 0)) m1)
    (hg : nFs T most 5 p = none → ∀ m1, fr (fun o k => (o = 18 ∧ 2 ≤ k ∧ k ≤ 8) ∨ (o = 21 ∧ q ≤ k ∧ k < q + 5)) m m1 → cTok m1 T (pnx T 5 p) → (∀ i, i < 5 → m1 21 (q + i) = tkV T (pnx T i p)) → Q (some (zI 1)) m1) : Sp (d + 4) nX5_tellNumbers [zR 5 18, zR 1040 21, zI x, zI most] m Q := by
  refine sX5_tellNumbers ?_
  refine Go_rn [3] 100 ?_
  exact c_nums21_l (d := d) hO hq hx 5 0 p _ m (by omega) hx hp hT hb hg
theorem c_nums23_l {d : Nat} {Q : pt_Q} {T : pt_tp} {q : Nat} {most x2 : Int32} (hO : OkT T) (hq : q + 5 ≤ 30) (h2 : x2 = nI q) : ∀ (r j p : Nat) (x : Int32) (m : pt_M), j + r = 5 → x = nI (q + j) → p ≤ T.1 → cTok m T p →
    (∀ c b, nFs T most r p = some (c, b) → ∀ m1, fr (fun o k => (o = 18 ∧ 2 ≤ k ∧ k ≤ 8) ∨ (o = 23 ∧ q + j ≤ k ∧ k < q + 5)) m m1 → m1 18 2 = c → m1 18 3 = nI b → Q (some (zI 0)) m1) →
    (nFs T most r p = none → ∀ m1, fr (fun o k => (o = 18 ∧ 2 ≤ k ∧ k ≤ 8) ∨ (o = 23 ∧ q + j ≤ k ∧ k < q + 5)) m m1 → cTok m1 T (pnx T r p) → (∀ i, i < r → m1 23 (q + j + i) = tkV T (pnx T i p)) → Q (some (zI 1)) m1) →
    Go (Sp (d + 3)) tX5_tellNumbers Q 3 [some (zR 5 18), some (zR 1030 23), some (zI x2), some (zI most), some (zI x)] [] m := by
  subst h2
  intro r
  induction r with
  | zero =>
    intro j p x m hj hx hp hT hb hg
    subst hx
    refine Go_rn [] 100 ?_
    refine br_t (by show nI q + 5 ≤ nI (q + j); rw [show nI q + 5 = nI (q + 5) from nI_add q 5]; exact nI_le (by omega) (by omega)) ?_
    exact ⟨bz1, hg rfl m fr_rf hT (fun i hi => absurd hi (Nat.not_lt_zero i))⟩
  | succ r ih =>
    intro j p x m hj hx hp hT hb hg
    subst hx
    have hK := tkK_lt T p
    have eN : nFs T most (r + 1) p = (match nF T most p with | some x => some x | none => nFs T most r (tkE T p)) := rfl
    rw [eN] at hb hg
    unfold nF at hb hg
    refine Go_rn [3] 100 ?_
    refine br_f (by show ¬ nI q + 5 ≤ nI (q + j); rw [show nI q + 5 = nI (q + 5) from nI_add q 5]; exact nI_ge (by omega) (by omega)) ?_
    refine br_f (nI_ge (a := q + j) (b := 30) (by omega) (by omega)) ?_
    refine ⟨fun c => ?_, fun c => ?_⟩
    · have c1 : nI (tkK T p) = nI 2 := hT.2.1.symm.trans c
      have c2 := nI_inj c1 (by omega) (by omega)
      rw [cif_t c2] at hb hg
      have e8 := hT.2.2.2.2 c2
      refine ⟨fun c3 => ?_, fun c3 => ?_⟩
      · have c4 : m 18 8 ≤ most := c3
        rw [e8] at c4
        rw [cif_t c4] at hb hg
        refine ⟨q + j, rfl, by omega, ?_⟩
        have t1 : cTok (st m 23 (q + j) (m 18 8)) T p := by
          refine ⟨cTp_fr hT.1 (by rw [st_eq, if_neg (by omega)]) (fun k => by rw [st_eq, if_neg (by omega)]), ?_, ?_, ?_, fun _ => ?_⟩
          · rw [st_eq, if_neg (by omega)]; exact hT.2.1
          · rw [st_eq, if_neg (by omega)]; exact hT.2.2.1
          · rw [st_eq, if_neg (by omega)]; exact hT.2.2.2.1
          · rw [st_eq, if_neg (by omega)]; exact e8
        refine c_next hO (tkE_n hp).1 t1.1 t1.2.2.2.1 (fun m1 f1 t2 => ?_)
        have hf : ∀ m2, fr (fun o k => (o = 18 ∧ 2 ≤ k ∧ k ≤ 8) ∨ (o = 23 ∧ q + (j + 1) ≤ k ∧ k < q + 5)) m1 m2 → fr (fun o k => (o = 18 ∧ 2 ≤ k ∧ k ≤ 8) ∨ (o = 23 ∧ q + j ≤ k ∧ k < q + 5)) m m2 := fun m2 f2 o k ho => by
          rw [f2 o k (by omega), f1 o k (by unfold Ttk; omega), st_eq, if_neg (by omega)]
        refine ih (j + 1) (tkE T p) _ m1 (by omega) (nI_1 (q + j)) (tkE_n hp).1 t2 (fun c b e m2 f2 => hb c b e m2 (hf m2 f2)) (fun e m2 f2 t3 v3 => hg e m2 (hf m2 f2) t3 (fun i hi => ?_))
        cases i with
        | zero =>
          rw [Nat.add_zero, f2 _ _ (by omega), f1 _ _ (by unfold Ttk; omega), st_eq, if_pos ⟨rfl, rfl⟩]
          exact e8
        | succ i =>
          have := v3 i (by omega)
          rw [show q + (j + 1) + i = q + j + (i + 1) by omega] at this
          exact this
      · have c4 : ¬ m 18 8 ≤ most := c3
        rw [e8] at c4
        rw [cif_f c4] at hb
        refine c_fault hT (fun m1 f1 e1 e2 => ?_)
        exact ⟨bz0, hb _ _ rfl m1 (fun o k ho => f1 o k (by omega)) e1 e2⟩
    · have c2 : ¬ tkK T p = 2 := fun q => c (by show m 18 5 = 2; rw [hT.2.1, q]; rfl)
      rw [cif_f c2] at hb
      refine c_fault hT (fun m1 f1 e1 e2 => ?_)
      exact ⟨bz0, hb _ _ rfl m1 (fun o k ho => f1 o k (by omega)) e1 e2⟩
theorem c_nums23 {d : Nat} {Q : pt_Q} {T : pt_tp} {q p : Nat} {most x : Int32} {m : pt_M} (hO : OkT T) (hq : q + 5 ≤ 30) (hx : x = nI q) (hp : p ≤ T.1) (hT : cTok m T p)
    (hb : ∀ c b, nFs T most 5 p = some (c, b) → ∀ m1, fr (fun o k => (o = 18 ∧ 2 ≤ k ∧ k ≤ 8) ∨ (o = 23 ∧ q ≤ k ∧ k < q + 5)) m m1 → m1 18 2 = c → m1 18 3 = nI b → Q (some (zI 0)) m1)
    (hg : nFs T most 5 p = none → ∀ m1, fr (fun o k => (o = 18 ∧ 2 ≤ k ∧ k ≤ 8) ∨ (o = 23 ∧ q ≤ k ∧ k < q + 5)) m m1 → cTok m1 T (pnx T 5 p) → (∀ i, i < 5 → m1 23 (q + i) = tkV T (pnx T i p)) → Q (some (zI 1)) m1) : Sp (d + 4) nX5_tellNumbers [zR 5 18, zR 1030 23, zI x, zI most] m Q := by
  refine sX5_tellNumbers ?_
  refine Go_rn [3] 100 ?_
  exact c_nums23_l (d := d) hO hq hx 5 0 p _ m (by omega) hx hp hT hb hg
theorem c_wall {d : Nat} {Q : pt_Q} {T : pt_tp} {w p : Nat} {m : pt_M} (hO : OkT T) (hp : p ≤ T.1) (hw : w ≤ 8) (hT : cTok m T p) (h0 : m 20 0 = nI w)
    (hb : ∀ c b, wF T w p = some (c, b) → ∀ m1, fr (fun o k => (o = 18 ∧ 2 ≤ k ∧ k ≤ 8) ∨ (20 ≤ o ∧ o ≤ 23)) m m1 → m1 18 2 = c → m1 18 3 = nI b → Q (some (zI 0)) m1)
    (hg : wF T w p = none → ∀ m1, fr (fun o k => (o = 18 ∧ 2 ≤ k ∧ k ≤ 8) ∨ (o = 20 ∧ k = 0) ∨ (o = 21 ∧ 5 * w ≤ k ∧ k < 5 * w + 5)) m m1 → cTok m1 T (pnx T 7 p) → m1 20 0 = nI (w + 1) → (∀ i, i < 5 → m1 21 (5 * w + i) = tkV T (pnx T i (tkE T p))) → Q (some (zI 1)) m1) : Sp (d + 5) nX5_tellWall [zR 5 18] m Q := by
  unfold wF at hb hg
  refine sX5_tellWall ?_
  refine Go_rn [] 100 ?_
  refine ⟨fun c => ?_, fun c => ?_⟩
  · have c1 : m 20 0 < nI 8 := c
    rw [h0, nI_ltI (by omega) (by omega)] at c1
    rw [cif_t c1] at hb hg
    refine c_next hO (tkE_n hp).1 hT.1 hT.2.2.2.1 (fun m1 f1 t1 => ?_)
    have e0 : m1 20 0 = nI w := (f1 _ _ (by unfold Ttk; omega)).trans h0
    have ex : m1 20 0 * 5 = nI (5 * w) := by
      rw [e0, Nat.mul_comm]
      exact (Int32.ofNat_mul w 5).symm
    refine c_nums21 (d := d) hO (by omega) ex (tkE_n hp).1 t1 (fun c b e m2 f2 a1 a2 => ?_) (fun e m2 f2 t2 v2 => ?_)
    · refine br_t rfl ?_
      rw [e] at hb
      exact ⟨bz0, hb _ _ rfl m2 (fun o k ho => by rw [f2 o k (by omega), f1 o k (by unfold Ttk; omega)]) a1 a2⟩
    · refine br_f (by decide) ?_
      rw [e] at hb hg
      have z0 : m2 20 0 + 1 = nI (w + 1) := by
        rw [f2 _ _ (by omega), e0]; exact nI_1 w
      have t3 : cTok (st m2 20 0 (m2 20 0 + 1)) T (pnx T 6 p) := ⟨cTp_fr t2.1 (by rw [st_eq, if_neg (by omega)]) (fun k => by rw [st_eq, if_neg (by omega)]), by rw [st_eq, if_neg (by omega)]; exact t2.2.1, by rw [st_eq, if_neg (by omega)]; exact t2.2.2.1, by rw [st_eq, if_neg (by omega)]; exact t2.2.2.2.1, fun q => by rw [st_eq, if_neg (by omega)]; exact t2.2.2.2.2 q⟩
      refine c_sign hO (pnx_n 6 hp) t3 (fun c b e2 m3 f3 a1 a2 => ?_) (fun e2 m3 f3 t4 => ?_)
      · exact ⟨bz0, hb _ _ e2 m3 (fun o k ho => by rw [f3 o k (by unfold Tte; omega), st_eq, if_neg (by omega), f2 o k (by omega), f1 o k (by unfold Ttk; omega)]) a1 a2⟩
      · rw [show pnx T 1 (pnx T 6 p) = pnx T 7 p from pnx_s T 6 p] at t4
        refine ⟨bz1, hg e2 m3 (fun o k ho => by rw [f3 o k (by unfold Tte; omega), st_eq, if_neg (by omega), f2 o k (by omega), f1 o k (by unfold Ttk; omega)]) t4 (by rw [f3 _ _ (by unfold Tte; omega), st_eq, if_pos ⟨rfl, rfl⟩]; exact z0) (fun i hi => by rw [f3 _ _ (by unfold Tte; omega), st_eq, if_neg (by omega)]; exact v2 i hi)⟩
  · have c1 : ¬ m 20 0 < nI 8 := c
    rw [h0, nI_ltI (by omega) (by omega)] at c1
    rw [cif_f c1] at hb
    refine c_fault hT (fun m1 f1 e1 e2 => ?_)
    exact ⟨bz0, hb _ _ rfl m1 (fun o k ho => f1 o k (by omega)) e1 e2⟩
theorem c_reader {d : Nat} {Q : pt_Q} {T : pt_tp} {r p : Nat} {m : pt_M} (hO : OkT T) (hp : p ≤ T.1) (hr : r ≤ 5) (hT : cTok m T p) (h0 : m 20 1 = nI r)
    (hb : ∀ c b, rF T r p = some (c, b) → ∀ m1, fr (fun o k => (o = 18 ∧ 2 ≤ k ∧ k ≤ 8) ∨ (20 ≤ o ∧ o ≤ 23)) m m1 → m1 18 2 = c → m1 18 3 = nI b → Q (some (zI 0)) m1)
    (hg : rF T r p = none → ∀ m1, fr (fun o k => (o = 18 ∧ 2 ≤ k ∧ k ≤ 8) ∨ (o = 20 ∧ k = 1) ∨ (o = 22 ∧ k = r) ∨ (o = 23 ∧ 6 * r ≤ k ∧ k < 6 * r + 6)) m m1 → cTok m1 T (pnx T 8 p) → m1 20 1 = nI (r + 1) → m1 22 r = kdX T (tkE T p) → (∀ i, i < 5 → m1 23 (6 * r + i) = tkV T (pnx T i (pnx T 2 p))) → m1 23 (6 * r + 5) = -1 → Q (some (zI 1)) m1) : Sp (d + 7) nX5_tellReader [zR 5 18] m Q := by
  unfold rF at hb hg
  refine sX5_tellReader ?_
  refine Go_rn [] 100 ?_
  refine ⟨fun c => ?_, fun c => ?_⟩
  · have c1 : m 20 1 < nI 5 := c
    rw [h0, nI_ltI (by omega) (by omega)] at c1
    rw [cif_t c1] at hb hg
    refine c_next hO (tkE_n hp).1 hT.1 hT.2.2.2.1 (fun m1 f1 t1 => ?_)
    have e0 : m1 20 1 = nI r := (f1 _ _ (by unfold Ttk; omega)).trans h0
    refine c_kind (d := d) hO.1 (tkE_n hp).1 t1 ?_
    refine ⟨fun ck => ?_, fun ck => ?_⟩
    · have ck1 : ¬ kdX T (tkE T p) = -1 := fun q => by
        have : 0 ≤ kdX T (tkE T p) := ck
        rw [q] at this
        exact absurd this (by decide)
      rw [cif_f ck1] at hb hg
      refine c_next hO (tkE_n (tkE_n hp).1).1 t1.1 t1.2.2.2.1 (fun m2 f2 t2 => ?_)
      have e1 : m2 20 1 = nI r := (f2 _ _ (by unfold Ttk; omega)).trans e0
      have ex : m2 20 1 * 6 = nI (6 * r) := by
        rw [e1, Nat.mul_comm]
        exact (Int32.ofNat_mul r 6).symm
      refine c_nums23 (d := d + 2) hO (by omega) ex (pnx_n 2 hp) t2 (fun c b e m3 f3 a1 a2 => ?_) (fun e m3 f3 t3 v3 => ?_)
      · refine br_t rfl ?_
        rw [e] at hb
        exact ⟨bz0, hb _ _ rfl m3 (fun o k ho => by rw [f3 o k (by omega), f2 o k (by unfold Ttk; omega), f1 o k (by unfold Ttk; omega)]) a1 a2⟩
      · refine br_f (by decide) ?_
        rw [e] at hb hg
        have e3 : m3 20 1 = nI r := (f3 _ _ (by omega)).trans e1
        have ex5 : m2 20 1 * 6 + 5 = nI (6 * r + 5) := by rw [ex]; exact nI_add (6 * r) 5
        refine ⟨6 * r + 5, ex5, by omega, ?_⟩
        refine ⟨r, by show st m3 23 (6 * r + 5) (-1) 20 1 = nI r; rw [st_eq, if_neg (by omega)]; exact e3, c1, ?_⟩
        have z0 : st (st m3 23 (6 * r + 5) (-1)) 22 r (kdX T (tkE T p)) 20 1 + 1 = nI (r + 1) := by
          rw [st_eq, if_neg (by omega), st_eq, if_neg (by omega), e3]; exact nI_1 r
        have out : ∀ x o k, ¬ (o = 20 ∧ k = 1) → ¬ (o = 22 ∧ k = r) → ¬ (o = 23 ∧ k = 6 * r + 5) → st (st (st m3 23 (6 * r + 5) (-1)) 22 r (kdX T (tkE T p))) 20 1 x o k = m3 o k := fun x o k h1 h2 h3 => by
          rw [st_eq, if_neg h1, st_eq, if_neg h2, st_eq, if_neg h3]
        have t4 : ∀ x, cTok (st (st (st m3 23 (6 * r + 5) (-1)) 22 r (kdX T (tkE T p))) 20 1 x) T (pnx T 7 p) := fun x => ⟨cTp_fr t3.1 (out _ _ _ (by omega) (by omega) (by omega)) (fun k => out _ _ _ (by omega) (by omega) (by omega)), by rw [out _ _ _ (by omega) (by omega) (by omega)]; exact t3.2.1, by rw [out _ _ _ (by omega) (by omega) (by omega)]; exact t3.2.2.1, by rw [out _ _ _ (by omega) (by omega) (by omega)]; exact t3.2.2.2.1, fun q => by rw [out _ _ _ (by omega) (by omega) (by omega)]; exact t3.2.2.2.2 q⟩
        refine c_sign hO (pnx_n 7 hp) (t4 _) (fun c b e2 m4 f4 a1 a2 => ?_) (fun e2 m4 f4 t5 => ?_)
        · exact ⟨bz0, hb _ _ e2 m4 (fun o k ho => by rw [f4 o k (by unfold Tte; omega), out _ _ _ (by omega) (by omega) (by omega), f3 o k (by omega), f2 o k (by unfold Ttk; omega), f1 o k (by unfold Ttk; omega)]) a1 a2⟩
        · rw [show pnx T 1 (pnx T 7 p) = pnx T 8 p from pnx_s T 7 p] at t5
          refine ⟨bz1, hg e2 m4 (fun o k ho => by rw [f4 o k (by unfold Tte; omega), out _ _ _ (by omega) (by omega) (by omega), f3 o k (by omega), f2 o k (by unfold Ttk; omega), f1 o k (by unfold Ttk; omega)]) t5 ?_ ?_ (fun i hi => ?_) ?_⟩
          · rw [f4 _ _ (by unfold Tte; omega), st_eq, if_pos ⟨rfl, rfl⟩]; exact z0
          · rw [f4 _ _ (by unfold Tte; omega), st_eq, if_neg (by omega), st_eq, if_pos ⟨rfl, rfl⟩]
          · rw [f4 _ _ (by unfold Tte; omega), out _ _ _ (by omega) (by omega) (by omega)]; exact v3 i hi
          · rw [f4 _ _ (by unfold Tte; omega), st_eq, if_neg (by omega), st_eq, if_neg (by omega), st_eq, if_pos ⟨rfl, rfl⟩]
    · have ck1 : kdX T (tkE T p) = -1 := (kdX_c T (tkE T p)).resolve_right (fun q => ck (by
        show 0 ≤ kdX T (tkE T p)
        have := q.1
        grind))
      rw [cif_t ck1] at hb
      refine c_fault t1 (fun m2 f2 e1 e2 => ?_)
      exact ⟨bz0, hb _ _ rfl m2 (fun o k ho => by rw [f2 o k (by omega), f1 o k (by unfold Ttk; omega)]) e1 e2⟩
  · have c1 : ¬ m 20 1 < nI 5 := c
    rw [h0, nI_ltI (by omega) (by omega)] at c1
    rw [cif_f c1] at hb
    refine c_fault hT (fun m1 f1 e1 e2 => ?_)
    exact ⟨bz0, hb _ _ rfl m1 (fun o k ho => f1 o k (by omega)) e1 e2⟩
