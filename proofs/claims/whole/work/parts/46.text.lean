/-! 46.text: the tokens of the tape; the class's -/
def blk (x : Int32) : Prop := x = 32 ∨ x = 10
def ltr (x : Int32) : Prop := 97 ≤ x ∧ x ≤ 122
def fgr (x : Int32) : Prop := 48 ≤ x ∧ x ≤ 57
noncomputable def skp (P : Int32 → Prop) (T : pt_tp) : Nat → Nat → Nat
  | 0, p => p
  | r + 1, p => cif (P (T.2 p)) (skp P T r (p + 1)) p
noncomputable def sK (P : Int32 → Prop) (T : pt_tp) (p : Nat) : Nat := skp P T (T.1 - p) p
theorem sK_end {P : Int32 → Prop} {T : pt_tp} {p : Nat} (h : T.1 ≤ p) : sK P T p = p := by
  unfold sK
  rw [show T.1 - p = 0 by omega]
  rfl
theorem sK_t {P : Int32 → Prop} {T : pt_tp} {p : Nat} (h : p < T.1) (hp : P (T.2 p)) : sK P T p = sK P T (p + 1) := by
  unfold sK
  obtain ⟨r, hr⟩ : ∃ r, T.1 - p = r + 1 := ⟨T.1 - p - 1, by omega⟩
  rw [hr, show T.1 - (p + 1) = r by omega]
  exact cif_t hp
theorem sK_f {P : Int32 → Prop} {T : pt_tp} {p : Nat} (hp : ¬ P (T.2 p)) : sK P T p = p := by
  unfold sK
  cases T.1 - p with
  | zero => rfl
  | succ r => exact cif_f hp
theorem skp_ran {P : Int32 → Prop} {T : pt_tp} : ∀ (r p : Nat), p ≤ skp P T r p ∧ skp P T r p ≤ p + r ∧ ∀ k, p ≤ k → k < skp P T r p → P (T.2 k)
  | 0, p => ⟨Nat.le_refl _, Nat.le_refl _, fun k h1 h2 => absurd (Nat.lt_of_le_of_lt h1 h2) (Nat.lt_irrefl _)⟩
  | r + 1, p => by
    show p ≤ cif (P (T.2 p)) (skp P T r (p + 1)) p ∧ _
    by_cases c : P (T.2 p)
    · have e : skp P T (r + 1) p = skp P T r (p + 1) := cif_t c
      rw [cif_t c, e]
      obtain ⟨h1, h2, h3⟩ := skp_ran (P := P) (T := T) r (p + 1)
      refine ⟨by omega, by omega, fun k g1 g2 => ?_⟩
      rcases Nat.lt_or_ge p k with q | q
      · exact h3 k q g2
      · rw [show k = p by omega]; exact c
    · have e : skp P T (r + 1) p = p := cif_f c
      rw [cif_f c, e]
      exact ⟨Nat.le_refl _, by omega, fun k g1 g2 => absurd (Nat.lt_of_le_of_lt g1 g2) (Nat.lt_irrefl _)⟩
theorem sK_le {P : Int32 → Prop} {T : pt_tp} (p : Nat) : p ≤ sK P T p := (skp_ran _ p).1
theorem sK_n {P : Int32 → Prop} {T : pt_tp} {p : Nat} (h : p ≤ T.1) : sK P T p ≤ T.1 := by
  have := (skp_ran (P := P) (T := T) (T.1 - p) p).2.1
  unfold sK
  omega
theorem sK_in {P : Int32 → Prop} {T : pt_tp} {p : Nat} : ∀ k, p ≤ k → k < sK P T p → P (T.2 k) := (skp_ran _ p).2.2
def vl (T : pt_tp) : Nat → Nat → Int32 → Int32
  | 0, _, v => v
  | r + 1, p, v => vl T r (p + 1) (v * 10 + T.2 p - 48)
noncomputable def tkB (T : pt_tp) (p : Nat) : Nat := sK blk T p
noncomputable def tkK (T : pt_tp) (p : Nat) : Nat := cif (T.1 ≤ tkB T p) 0 (cif (ltr (T.2 (tkB T p))) 1 (cif (fgr (T.2 (tkB T p))) (cif (sK fgr T (tkB T p) - tkB T p ≤ 3) 2 4) (cif (T.2 (tkB T p) = 59) 3 4)))
noncomputable def tkE (T : pt_tp) (p : Nat) : Nat := cif (T.1 ≤ tkB T p) (tkB T p) (cif (ltr (T.2 (tkB T p))) (sK ltr T (tkB T p)) (cif (fgr (T.2 (tkB T p))) (sK fgr T (tkB T p)) (tkB T p + 1)))
noncomputable def tkV (T : pt_tp) (p : Nat) : Int32 := vl T (tkE T p - tkB T p) (tkB T p) 0
theorem tkB_n {T : pt_tp} {p : Nat} (h : p ≤ T.1) : tkB T p ≤ T.1 := sK_n h
theorem tkE_n {T : pt_tp} {p : Nat} (h : p ≤ T.1) : tkE T p ≤ T.1 ∧ tkB T p ≤ tkE T p := by
  have hb := tkB_n h
  unfold tkE
  by_cases c : T.1 ≤ tkB T p
  · rw [cif_t c]; exact ⟨hb, Nat.le_refl _⟩
  · rw [cif_f c]
    by_cases c2 : ltr (T.2 (tkB T p))
    · rw [cif_t c2]; exact ⟨sK_n hb, sK_le _⟩
    · rw [cif_f c2]
      by_cases c3 : fgr (T.2 (tkB T p))
      · rw [cif_t c3]; exact ⟨sK_n hb, sK_le _⟩
      · rw [cif_f c3]; exact ⟨by omega, by omega⟩
theorem nI_sb {a b : Nat} (h : b ≤ a) : nI a - nI b = nI (a - b) := by
  obtain ⟨j, rfl⟩ : ∃ j, a = b + j := ⟨a - b, by omega⟩
  rw [← nI_add, show b + j - b = j by omega]
  grind
def Ttk : Nat → Nat → Prop := fun o k => o = 18 ∧ 5 ≤ k ∧ k ≤ 8
theorem cTp_fr {m m1 : pt_M} {T : pt_tp} (h : cTp m T) (h0 : m1 18 0 = m 18 0) (h1 : ∀ k, m1 19 k = m 19 k) : cTp m1 T := ⟨h0.trans h.1, fun i hi => (h1 i).trans (h.2 i hi)⟩
def cTok (m : pt_M) (T : pt_tp) (p : Nat) : Prop := cTp m T ∧ m 18 5 = nI (tkK T p) ∧ m 18 6 = nI (tkB T p) ∧ m 18 7 = nI (tkE T p) ∧ (tkK T p = 2 → m 18 8 = tkV T p)
theorem c_at {d : Nat} {Q : pt_Q} {m : pt_M} {T : pt_tp} {p : Nat} {x : Int32} (hn : T.1 ≤ 400) (hT : cTp m T) (hx : x = nI p) (hp : p < 2 ^ 31) (h1 : p < T.1 → Q (some (zI (T.2 p))) m) (h2 : T.1 ≤ p → Q (some (zI (-1))) m) : Sp (d + 1) nX5_at [zR 5 18, zI x] m Q := by
  subst hx
  refine sX5_at ?_
  refine Go_rn [] 100 ?_
  refine br_f (nI_pos hp) ?_
  refine ⟨fun c => ?_, fun c => ?_⟩
  · have c1 : m 18 0 ≤ nI p := c
    rw [hT.1, nI_leI (by omega) hp] at c1
    exact h2 c1
  · have c1 : ¬ m 18 0 ≤ nI p := c
    rw [hT.1, nI_leI (by omega) hp] at c1
    refine ⟨p, rfl, by omega, ?_⟩
    exact qe (hT.2 p (by omega)) (h1 (by omega))
theorem c_isBlank {d : Nat} {Q : pt_Q} {m : pt_M} {x : Int32} (hp : blk x → Q (some (zI 1)) m) (hn : ¬ blk x → Q (some (zI 0)) m) : Sp (d + 1) nX5_isBlank [zI x] m Q := by
  refine sX5_isBlank ?_
  refine Go_rn [] 100 ?_
  refine ⟨fun c => ⟨bz1, hp (Or.inl c)⟩, fun c => ⟨fun c2 => ⟨bz1, hp (Or.inr c2)⟩, fun c2 => ⟨bz0, hn (fun q => q.elim c c2)⟩⟩⟩
theorem c_isLetter {d : Nat} {Q : pt_Q} {m : pt_M} {x : Int32} (hp : ltr x → Q (some (zI 1)) m) (hn : ¬ ltr x → Q (some (zI 0)) m) : Sp (d + 1) nX5_isLetter [zI x] m Q := by
  refine sX5_isLetter ?_
  refine Go_rn [] 100 ?_
  refine ⟨fun c => ⟨bz0, hn (fun q => absurd q.1 (Int32.not_le.mpr c))⟩, fun c => ⟨fun c2 => ⟨bz0, hn (fun q => absurd q.2 (Int32.not_le.mpr c2))⟩, fun c2 => ⟨bz1, hp ⟨Int32.not_lt.mp c, Int32.not_lt.mp c2⟩⟩⟩⟩
theorem c_isFigure {d : Nat} {Q : pt_Q} {m : pt_M} {x : Int32} (hp : fgr x → Q (some (zI 1)) m) (hn : ¬ fgr x → Q (some (zI 0)) m) : Sp (d + 1) nX5_isFigure [zI x] m Q := by
  refine sX5_isFigure ?_
  refine Go_rn [] 100 ?_
  refine ⟨fun c => ⟨bz0, hn (fun q => absurd q.1 (Int32.not_le.mpr c))⟩, fun c => ⟨fun c2 => ⟨bz0, hn (fun q => absurd q.2 (Int32.not_le.mpr c2))⟩, fun c2 => ⟨bz1, hp ⟨Int32.not_lt.mp c, Int32.not_lt.mp c2⟩⟩⟩⟩
theorem c_tok_b {d : Nat} {Q : pt_Q} {T : pt_tp} {g : Option pt_V} (hn : T.1 ≤ 400) : ∀ (r q : Nat) (m : pt_M), q + r = T.1 → cTp m T → m 18 6 = nI q → (∀ m1, fr Ttk m m1 → m1 18 6 = nI (sK blk T q) → Go (Sp (d + 2)) tX5_toNextToken Q 46 [some (zR 5 18), g] [] m1) →
    Go (Sp (d + 2)) tX5_toNextToken Q 8 [some (zR 5 18), g] [] m := by
  intro r
  induction r with
  | zero =>
    intro q m hq hT h6 h
    refine Go_rn [46] 100 ?_
    refine br_t (by show m 18 0 ≤ m 18 6; rw [hT.1, h6]; exact nI_le (by omega) (by omega)) ?_
    exact h m fr_rf (by rw [sK_end (by omega)]; exact h6)
  | succ r ih =>
    intro q m hq hT h6 h
    refine Go_rn [46, 8] 100 ?_
    refine br_f (by show ¬ m 18 0 ≤ m 18 6; rw [hT.1, h6]; exact nI_ge (by omega) (by omega)) ?_
    refine c_at hn hT h6 (by omega) (fun _ => ?_) (fun c => absurd c (by omega))
    refine c_isBlank (fun c => ?_) (fun c => ?_)
    · refine br_f (by decide) ?_
      have e : m 18 6 + 1 = nI (q + 1) := by rw [h6]; exact nI_1 q
      refine ih (q + 1) _ (by omega) (cTp_fr hT (by rw [st_eq, if_neg (by omega)]) (fun k => by rw [st_eq, if_neg (by omega)])) (by rw [st_eq, if_pos ⟨rfl, rfl⟩]; exact e) (fun m1 f1 e1 => h m1 (fun o k ho => ?_) (by rw [e1, ← sK_t (by omega) c]))
      rw [f1 o k ho, st_eq, if_neg (fun q => ho (by unfold Ttk; omega))]
    · refine br_t rfl ?_
      exact h m fr_rf (by rw [sK_f c]; exact h6)
theorem c_tok_l {d : Nat} {Q : pt_Q} {T : pt_tp} {g : Option pt_V} (hn : T.1 ≤ 400) : ∀ (r q : Nat) (m : pt_M), q + r = T.1 → cTp m T → m 18 7 = nI q → (∀ m1, fr (fun o k => o = 18 ∧ k = 7) m m1 → m1 18 7 = nI (sK ltr T q) → Go (Sp (d + 2)) tX5_toNextToken Q 120 [some (zR 5 18), g] [] m1) →
    Go (Sp (d + 2)) tX5_toNextToken Q 82 [some (zR 5 18), g] [] m := by
  intro r
  induction r with
  | zero =>
    intro q m hq hT h6 h
    refine Go_rn [120] 100 ?_
    refine br_t (by show m 18 0 ≤ m 18 7; rw [hT.1, h6]; exact nI_le (by omega) (by omega)) ?_
    exact h m fr_rf (by rw [sK_end (by omega)]; exact h6)
  | succ r ih =>
    intro q m hq hT h6 h
    refine Go_rn [120, 82] 100 ?_
    refine br_f (by show ¬ m 18 0 ≤ m 18 7; rw [hT.1, h6]; exact nI_ge (by omega) (by omega)) ?_
    refine c_at hn hT h6 (by omega) (fun _ => ?_) (fun c => absurd c (by omega))
    refine c_isLetter (fun c => ?_) (fun c => ?_)
    · refine br_f (by decide) ?_
      have e : m 18 7 + 1 = nI (q + 1) := by rw [h6]; exact nI_1 q
      refine ih (q + 1) _ (by omega) (cTp_fr hT (by rw [st_eq, if_neg (by omega)]) (fun k => by rw [st_eq, if_neg (by omega)])) (by rw [st_eq, if_pos ⟨rfl, rfl⟩]; exact e) (fun m1 f1 e1 => h m1 (fun o k ho => ?_) (by rw [e1, ← sK_t (by omega) c]))
      rw [f1 o k ho, st_eq, if_neg (fun q => ho q)]
    · refine br_t rfl ?_
      exact h m fr_rf (by rw [sK_f c]; exact h6)
theorem c_eon_l {d : Nat} {Q : pt_Q} {T : pt_tp} (hn : T.1 ≤ 400) : ∀ (r q : Nat) (v : Int32) (m : pt_M), q + r = T.1 → cTp m T → m 18 7 = nI q → m 18 8 = v → (∀ m1, fr (fun o k => o = 18 ∧ (k = 7 ∨ k = 8)) m m1 → m1 18 7 = nI (sK fgr T q) → m1 18 8 = vl T (sK fgr T q - q) q v → Go (Sp (d + 1)) tX5_toEndOfNumber Q 66 [some (zR 5 18)] [] m1) →
    Go (Sp (d + 1)) tX5_toEndOfNumber Q 5 [some (zR 5 18)] [] m := by
  intro r
  induction r with
  | zero =>
    intro q v m hq hT h6 h8 h
    refine Go_rn [66] 100 ?_
    refine br_t (by show m 18 0 ≤ m 18 7; rw [hT.1, h6]; exact nI_le (by omega) (by omega)) ?_
    exact h m fr_rf (by rw [sK_end (by omega)]; exact h6) (by rw [sK_end (by omega), Nat.sub_self]; exact h8)
  | succ r ih =>
    intro q v m hq hT h6 h8 h
    refine Go_rn [66, 5] 100 ?_
    refine br_f (by show ¬ m 18 0 ≤ m 18 7; rw [hT.1, h6]; exact nI_ge (by omega) (by omega)) ?_
    refine c_at hn hT h6 (by omega) (fun _ => ?_) (fun c => absurd c (by omega))
    refine c_isFigure (fun c => ?_) (fun c => ?_)
    · refine br_f (by decide) ?_
      have c1 : fgr (T.2 q) := c
      refine c_at hn hT h6 (by omega) (fun _ => ?_) (fun c => absurd c (by omega))
      have e : ∀ x, st m 18 8 x 18 7 + 1 = nI (q + 1) := fun x => by rw [st_eq, if_neg (by omega), h6]; exact nI_1 q
      have hs : q + 1 ≤ sK fgr T (q + 1) := sK_le _
      refine ih (q + 1) (v * 10 + T.2 q - 48) _ (by omega) (cTp_fr hT (by rw [st_eq, if_neg (by omega), st_eq, if_neg (by omega)]) (fun k => by rw [st_eq, if_neg (by omega), st_eq, if_neg (by omega)])) (by rw [st_eq, if_pos ⟨rfl, rfl⟩]; exact e _) (by rw [st_eq, if_neg (by omega), st_eq, if_pos ⟨rfl, rfl⟩, h8]) (fun m1 f1 e1 e2 => h m1 (fun o k ho => ?_) (by rw [e1, ← sK_t (by omega) c1]) ?_)
      · rw [f1 o k ho, st_eq, if_neg (fun q => ho ⟨q.1, Or.inl q.2⟩), st_eq, if_neg (fun q => ho ⟨q.1, Or.inr q.2⟩)]
      · rw [e2, sK_t (by omega) c1, show sK fgr T (q + 1) - q = (sK fgr T (q + 1) - (q + 1)) + 1 by omega]
        rfl
    · refine br_t rfl ?_
      exact h m fr_rf (by rw [sK_f c]; exact h6) (by rw [sK_f c, Nat.sub_self]; exact h8)
theorem c_eon {d : Nat} {Q : pt_Q} {T : pt_tp} {b : Nat} {m : pt_M} (hn : T.1 ≤ 400) (hb : b ≤ T.1) (hT : cTp m T) (h6 : m 18 6 = nI b) (h7 : m 18 7 = nI b)
    (h : ∀ m1, fr (fun o k => o = 18 ∧ (k = 5 ∨ k = 7 ∨ k = 8)) m m1 → m1 18 7 = nI (sK fgr T b) → m1 18 8 = vl T (sK fgr T b - b) b 0 → m1 18 5 = nI (cif (sK fgr T b - b ≤ 3) 2 4) → Q none m1) : Sp (d + 2) nX5_toEndOfNumber [zR 5 18] m Q := by
  refine sX5_toEndOfNumber ?_
  refine Go_rn [5] 100 ?_
  have hl := sK_le (P := fgr) (T := T) b
  have hl2 := sK_n (P := fgr) hb
  refine c_eon_l hn (T.1 - b) b 0 _ (by omega) (cTp_fr hT (by rw [st_eq, if_neg (by omega)]) (fun k => by rw [st_eq, if_neg (by omega)])) (by rw [st_eq, if_neg (by omega)]; exact h7) (by rw [st_eq, if_pos ⟨rfl, rfl⟩]) (fun m1 f1 e1 e2 => ?_)
  have e6 : m1 18 6 = nI b := by rw [f1 _ _ (by omega), st_eq, if_neg (by omega)]; exact h6
  have e9 : m1 18 7 - m1 18 6 = nI (sK fgr T b - b) := by rw [e1, e6]; exact nI_sb hl
  refine Go_rn [] 100 ?_
  have fin : ∀ x, x = nI (cif (sK fgr T b - b ≤ 3) 2 4) → Q none (st m1 18 5 x) := fun x hx => by
    refine h _ (fun o k ho => ?_) (by rw [st_eq, if_neg (by omega)]; exact e1) (by rw [st_eq, if_neg (by omega)]; exact e2) (by rw [st_eq, if_pos ⟨rfl, rfl⟩]; exact hx)
    rw [st_eq, if_neg (by omega), f1 _ _ (by omega), st_eq, if_neg (by omega)]
  refine ⟨fun c => ?_, fun c => ?_⟩
  · have c1 : (3 : Int32) < m1 18 7 - m1 18 6 := c
    rw [e9] at c1
    have c2 : nI 3 < nI (sK fgr T b - b) := c1
    rw [nI_ltI (by omega) (by omega)] at c2
    exact fin 4 (by rw [cif_f (by omega)]; rfl)
  · have c1 : ¬ (3 : Int32) < m1 18 7 - m1 18 6 := c
    rw [e9] at c1
    have c2 : ¬ nI 3 < nI (sK fgr T b - b) := c1
    rw [nI_ltI (by omega) (by omega)] at c2
    exact fin 2 (by rw [cif_t (by omega)]; rfl)
theorem c_next {d : Nat} {Q : pt_Q} {T : pt_tp} {p : Nat} {m : pt_M} (hO : OkT T) (hp : p ≤ T.1) (hT : cTp m T) (h7 : m 18 7 = nI p) (h : ∀ m1, fr Ttk m m1 → cTok m1 T p → Q none m1) : Sp (d + 3) nX5_toNextToken [zR 5 18] m Q := by
  obtain ⟨hn, hby⟩ := hO
  refine sX5_toNextToken ?_
  refine Go_rn [8] 100 ?_
  refine c_tok_b (d := d) (g := none) hn (T.1 - p) p _ (by omega) (cTp_fr hT (by rw [st_eq, if_neg (by omega)]) (fun k => by rw [st_eq, if_neg (by omega)])) (by rw [st_eq, if_pos ⟨rfl, rfl⟩]; exact h7) (fun m1 f1 e1 => ?_)
  have t1 : cTp m1 T := cTp_fr hT (by rw [f1 _ _ (by unfold Ttk; omega), st_eq, if_neg (by omega)]) (fun k => by rw [f1 _ _ (by unfold Ttk; omega), st_eq, if_neg (by omega)])
  have g1 : fr Ttk m m1 := fun o k ho => by rw [f1 o k ho, st_eq, if_neg (fun q => ho (by unfold Ttk; omega))]
  have hb := tkB_n hp
  have eb : sK blk T p = tkB T p := rfl
  rw [eb] at e1
  have ek : tkK T p = cif (T.1 ≤ tkB T p) 0 (cif (ltr (T.2 (tkB T p))) 1 (cif (fgr (T.2 (tkB T p))) (cif (sK fgr T (tkB T p) - tkB T p ≤ 3) 2 4) (cif (T.2 (tkB T p) = 59) 3 4))) := rfl
  have ee : tkE T p = cif (T.1 ≤ tkB T p) (tkB T p) (cif (ltr (T.2 (tkB T p))) (sK ltr T (tkB T p)) (cif (fgr (T.2 (tkB T p))) (sK fgr T (tkB T p)) (tkB T p + 1))) := rfl
  have ev : tkV T p = vl T (tkE T p - tkB T p) (tkB T p) 0 := rfl
  clear f1
  obtain ⟨b, hbe⟩ : ∃ b, tkB T p = b := ⟨_, rfl⟩
  rw [hbe] at e1 hb ek ee ev
  refine Go_rn [82, 167] 100 ?_
  have z6 : ∀ x, st m1 18 7 x 18 6 = nI b := fun x => by rw [st_eq, if_neg (by omega)]; exact e1
  have t2 : ∀ x, cTp (st m1 18 7 x) T := fun x => cTp_fr t1 (by rw [st_eq, if_neg (by omega)]) (fun k => by rw [st_eq, if_neg (by omega)])
  have e7 : m1 18 6 = nI b := e1
  refine c_at hn (t2 _) (z6 _) (by omega) (fun c => ?_) (fun c => ?_)
  · refine br_t (hby b c).1 ?_
    rw [cif_f (by omega)] at ek ee
    refine c_isLetter (fun c2 => ?_) (fun c2 => ?_)
    · refine br_f (by decide) ?_
      rw [cif_t c2] at ek ee
      refine c_tok_l (d := d) (T := T) hn (T.1 - b) b _ (by omega) (t2 _) (by rw [st_eq, if_pos ⟨rfl, rfl⟩]; exact e7) (fun m2 f2 e2 => ?_)
      refine Go_rn [] 100 ?_
      refine h _ (fun o k ho => ?_) ⟨?_, ?_, ?_, ?_, fun q => ?_⟩
      · rw [st_eq, if_neg (fun q => ho (by unfold Ttk; omega)), f2 o k (fun q => ho (by unfold Ttk; omega)), st_eq, if_neg (fun q => ho (by unfold Ttk; omega))]
        exact g1 o k ho
      · exact cTp_fr t1 (by rw [st_eq, if_neg (by omega), f2 _ _ (by omega), st_eq, if_neg (by omega)]) (fun k => by rw [st_eq, if_neg (by omega), f2 _ _ (by omega), st_eq, if_neg (by omega)])
      · rw [st_eq, if_pos ⟨rfl, rfl⟩, ek]; rfl
      · rw [st_eq, if_neg (by omega), f2 _ _ (by omega), st_eq, if_neg (by omega)]; rw [hbe]; exact e1
      · rw [st_eq, if_neg (by omega), e2, ee]
      · omega
    · refine br_t rfl ?_
      rw [cif_f c2] at ek ee
      refine c_isFigure (fun c3 => ?_) (fun c3 => ?_)
      · refine br_f (by decide) ?_
        rw [cif_t c3] at ek ee
        refine c_eon hn hb (t2 _) (z6 _) (by rw [st_eq, if_pos ⟨rfl, rfl⟩]; exact e7) (fun m2 f2 e2 e3 e4 => ?_)
        refine Go_rn [] 100 ?_
        refine h _ (fun o k ho => ?_) ⟨?_, ?_, ?_, ?_, fun q => ?_⟩
        · rw [f2 o k (fun q => ho (by unfold Ttk; omega)), st_eq, if_neg (fun q => ho (by unfold Ttk; omega))]
          exact g1 o k ho
        · exact cTp_fr t1 (by rw [f2 _ _ (by omega), st_eq, if_neg (by omega)]) (fun k => by rw [f2 _ _ (by omega), st_eq, if_neg (by omega)])
        · rw [e4, ek]
        · rw [f2 _ _ (by omega), st_eq, if_neg (by omega)]; rw [hbe]; exact e1
        · rw [e2, ee]
        · rw [e3, ev, ee]
      · refine br_t rfl ?_
        rw [cif_f c3] at ek ee
        have fin : ∀ y, y = nI (tkK T p) → Go (Sp (d + 2)) tX5_toNextToken Q 167 [some (zR 5 18), some (zI (T.2 b))] [] (st (st (st m1 18 7 (m1 18 6)) 18 7 (st m1 18 7 (m1 18 6) 18 7 + 1)) 18 5 y) := fun y hy => by
          refine Go_rn [] 100 ?_
          refine h _ (fun o k ho => ?_) ⟨?_, ?_, ?_, ?_, fun q => ?_⟩
          · rw [st_eq, if_neg (fun q => ho (by unfold Ttk; omega)), st_eq, if_neg (fun q => ho (by unfold Ttk; omega)), st_eq, if_neg (fun q => ho (by unfold Ttk; omega))]
            exact g1 o k ho
          · exact cTp_fr t1 (by rw [st_eq, if_neg (by omega), st_eq, if_neg (by omega), st_eq, if_neg (by omega)]) (fun k => by rw [st_eq, if_neg (by omega), st_eq, if_neg (by omega), st_eq, if_neg (by omega)])
          · rw [st_eq, if_pos ⟨rfl, rfl⟩]; exact hy
          · rw [st_eq, if_neg (by omega), st_eq, if_neg (by omega), st_eq, if_neg (by omega)]; rw [hbe]; exact e1
          · rw [st_eq, if_neg (by omega), st_eq, if_pos ⟨rfl, rfl⟩, st_eq, if_pos ⟨rfl, rfl⟩, e1, ee]; exact nI_1 b
          · exfalso
            by_cases c4 : T.2 b = 59
            · rw [cif_t c4] at ek; omega
            · rw [cif_f c4] at ek; omega
        refine ⟨fun c4 => fin 3 ?_, fun c4 => fin 4 ?_⟩
        · rw [ek, cif_t (P := T.2 b = 59) c4]; rfl
        · rw [ek, cif_f (P := T.2 b = 59) c4]; rfl
  · rw [cif_t c] at ek ee
    refine br_f (by decide) ?_
    refine Go_rn [] 100 ?_
    refine h _ (fun o k ho => ?_) ⟨?_, ?_, ?_, ?_, fun q => ?_⟩
    · rw [st_eq, if_neg (fun q => ho (by unfold Ttk; omega)), st_eq, if_neg (fun q => ho (by unfold Ttk; omega))]
      exact g1 o k ho
    · exact cTp_fr t1 (by rw [st_eq, if_neg (by omega), st_eq, if_neg (by omega)]) (fun k => by rw [st_eq, if_neg (by omega), st_eq, if_neg (by omega)])
    · rw [st_eq, if_pos ⟨rfl, rfl⟩, ek]; rfl
    · rw [st_eq, if_neg (by omega), st_eq, if_neg (by omega)]; rw [hbe]; exact e1
    · rw [st_eq, if_neg (by omega), st_eq, if_pos ⟨rfl, rfl⟩, ee]; exact e1
    · omega
