/-! 47.mtext: the tokens of the tape, the model's -/
def mTT (m : pt_M) (T : pt_tp) : Prop := m 143 12 = nI T.1 ∧ ∀ i, i < T.1 → m 150 i = T.2 i
def Tmt : Nat → Nat → Prop := fun o k => o = 143 ∧ 13 ≤ k ∧ k ≤ 16
def mTok (m : pt_M) (T : pt_tp) (p : Nat) : Prop := mTT m T ∧ m 143 14 = nI ((tkK T p + 1) % 5) ∧ m 143 15 = nI (tkB T p) ∧ m 143 16 = nI (tkE T p) ∧ m 143 13 = nI (tkE T p)
theorem mTT_fr {m m1 : pt_M} {T : pt_tp} (h : mTT m T) (h0 : m1 143 12 = m 143 12) (h1 : ∀ k, m1 150 k = m 150 k) : mTT m1 T := ⟨h0.trans h.1, fun i hi => (h1 i).trans (h.2 i hi)⟩
theorem m_byteAt {d : Nat} {Q : pt_Q} {m : pt_M} {T : pt_tp} {p : Nat} {x : Int32} (hn : T.1 ≤ 400) (hT : mTT m T) (hx : x = nI p) (hp : p < 2 ^ 31) (h1 : p < T.1 → Q (some (zI (T.2 p))) m) (h2 : T.1 ≤ p → Q (some (zI (-1000000))) m) : Sp (d + 1) nX7_byteAt [zR 7 143, zI x] m Q := by
  subst hx
  refine sX7_byteAt ?_
  refine Go_rn [] 100 ?_
  refine ⟨fun c => ?_, fun c => ?_⟩
  · have c1 : m 143 12 ≤ nI p := c
    rw [hT.1, nI_leI (by omega) hp] at c1
    exact h2 c1
  · have c1 : ¬ m 143 12 ≤ nI p := c
    rw [hT.1, nI_leI (by omega) hp] at c1
    refine ⟨p, rfl, by omega, ?_⟩
    exact qe (hT.2 p (by omega)) (h1 (by omega))
theorem m_isLetter {d : Nat} {Q : pt_Q} {m : pt_M} {x : Int32} (hp : ltr x → Q (some (zI 1)) m) (hn : ¬ ltr x → Q (some (zI 0)) m) : Sp (d + 1) nX7_isLetter [zI x] m Q := by
  refine sX7_isLetter ?_
  refine Go_rn [] 100 ?_
  refine ⟨fun c => ⟨bz0, hn (fun q => absurd q.1 (Int32.not_le.mpr c))⟩, fun c => ⟨fun c2 => ⟨bz0, hn (fun q => absurd q.2 (Int32.not_le.mpr c2))⟩, fun c2 => ⟨bz1, hp ⟨Int32.not_lt.mp c, Int32.not_lt.mp c2⟩⟩⟩⟩
theorem m_isFigure {d : Nat} {Q : pt_Q} {m : pt_M} {x : Int32} (hp : fgr x → Q (some (zI 1)) m) (hn : ¬ fgr x → Q (some (zI 0)) m) : Sp (d + 1) nX7_isFigure [zI x] m Q := by
  refine sX7_isFigure ?_
  refine Go_rn [] 100 ?_
  refine ⟨fun c => ⟨bz0, hn (fun q => absurd q.1 (Int32.not_le.mpr c))⟩, fun c => ⟨fun c2 => ⟨bz0, hn (fun q => absurd q.2 (Int32.not_le.mpr c2))⟩, fun c2 => ⟨bz1, hp ⟨Int32.not_lt.mp c, Int32.not_lt.mp c2⟩⟩⟩⟩
abbrev Tcu : Nat → Nat → Prop := fun o k => o = 143 ∧ k = 13
theorem m_tok_b {d : Nat} {Q : pt_Q} {T : pt_tp} {g : Option pt_V} (hn : T.1 ≤ 400) : ∀ (r q : Nat) (m : pt_M), q + r = T.1 → mTT m T → m 143 13 = nI q → (∀ m1, fr Tcu m m1 → m1 143 13 = nI (sK blk T q) → Go (Sp (d + 1)) tX7_next Q 39 [some (zR 7 143), g] [] m1) →
    Go (Sp (d + 1)) tX7_next Q 0 [some (zR 7 143), g] [] m := by
  intro r
  induction r with
  | zero =>
    intro q m hq hT h6 h
    refine Go_rn [39, 0] 100 ?_
    refine m_byteAt hn hT h6 (by omega) (fun c => absurd c (by omega)) (fun _ => ?_)
    refine br_f (by decide) ?_
    refine m_byteAt hn hT h6 (by omega) (fun c => absurd c (by omega)) (fun _ => ?_)
    refine br_f (by decide) ?_
    exact h m fr_rf (by rw [sK_end (by omega)]; exact h6)
  | succ r ih =>
    intro q m hq hT h6 h
    have e : m 143 13 + 1 = nI (q + 1) := by rw [h6]; exact nI_1 q
    have nxt : blk (T.2 q) → Go (Sp (d + 1)) tX7_next Q 0 [some (zR 7 143), g] [] (st m 143 13 (m 143 13 + 1)) := fun c => by
      refine ih (q + 1) _ (by omega) (mTT_fr hT (by rw [st_eq, if_neg (by omega)]) (fun k => by rw [st_eq, if_neg (by omega)])) (by rw [st_eq, if_pos ⟨rfl, rfl⟩]; exact e) (fun m1 f1 e1 => h m1 (fun o k ho => ?_) (by rw [e1, ← sK_t (by omega) c]))
      rw [f1 o k ho, st_eq, if_neg (fun q => ho q)]
    refine Go_rn [39, 0] 100 ?_
    refine m_byteAt hn hT h6 (by omega) (fun _ => ?_) (fun c => absurd c (by omega))
    refine ⟨fun c => nxt (Or.inl c), fun c => ?_⟩
    refine m_byteAt hn hT h6 (by omega) (fun _ => ?_) (fun c => absurd c (by omega))
    refine ⟨fun c2 => nxt (Or.inr c2), fun c2 => ?_⟩
    exact h m fr_rf (by rw [sK_f (fun q => q.elim c c2)]; exact h6)
theorem m_tok_l {d : Nat} {Q : pt_Q} {T : pt_tp} {g : Option pt_V} (hO : OkT T) : ∀ (r q : Nat) (m : pt_M), q + r = T.1 → mTT m T → m 143 13 = nI q → (∀ m1, fr Tcu m m1 → m1 143 13 = nI (sK ltr T q) → Go (Sp (d + 1)) tX7_next Q 104 [some (zR 7 143), g] [] m1) →
    Go (Sp (d + 1)) tX7_next Q 77 [some (zR 7 143), g] [] m := by
  obtain ⟨hn, hby⟩ := hO
  intro r
  induction r with
  | zero =>
    intro q m hq hT h6 h
    refine Go_rn [104, 77] 100 ?_
    refine m_byteAt hn hT h6 (by omega) (fun c => absurd c (by omega)) (fun _ => ?_)
    refine m_isLetter (fun c => absurd c.1 (by decide)) (fun c => ?_)
    refine br_t rfl ?_
    exact h m fr_rf (by rw [sK_end (by omega)]; exact h6)
  | succ r ih =>
    intro q m hq hT h6 h
    have e : m 143 13 + 1 = nI (q + 1) := by rw [h6]; exact nI_1 q
    refine Go_rn [104, 77] 100 ?_
    refine m_byteAt hn hT h6 (by omega) (fun _ => ?_) (fun c => absurd c (by omega))
    refine m_isLetter (fun c => ?_) (fun c => ?_)
    · refine br_f (by decide) ?_
      refine ih (q + 1) _ (by omega) (mTT_fr hT (by rw [st_eq, if_neg (by omega)]) (fun k => by rw [st_eq, if_neg (by omega)])) (by rw [st_eq, if_pos ⟨rfl, rfl⟩]; exact e) (fun m1 f1 e1 => h m1 (fun o k ho => ?_) (by rw [e1, ← sK_t (by omega) c]))
      rw [f1 o k ho, st_eq, if_neg (fun q => ho q)]
    · refine br_t rfl ?_
      exact h m fr_rf (by rw [sK_f c]; exact h6)
theorem m_tok_f {d : Nat} {Q : pt_Q} {T : pt_tp} {g : Option pt_V} (hO : OkT T) : ∀ (r q : Nat) (m : pt_M), q + r = T.1 → mTT m T → m 143 13 = nI q → (∀ m1, fr Tcu m m1 → m1 143 13 = nI (sK fgr T q) → Go (Sp (d + 1)) tX7_next Q 146 [some (zR 7 143), g] [] m1) →
    Go (Sp (d + 1)) tX7_next Q 119 [some (zR 7 143), g] [] m := by
  obtain ⟨hn, hby⟩ := hO
  intro r
  induction r with
  | zero =>
    intro q m hq hT h6 h
    refine Go_rn [146, 119] 100 ?_
    refine m_byteAt hn hT h6 (by omega) (fun c => absurd c (by omega)) (fun _ => ?_)
    refine m_isFigure (fun c => absurd c.1 (by decide)) (fun c => ?_)
    refine br_t rfl ?_
    exact h m fr_rf (by rw [sK_end (by omega)]; exact h6)
  | succ r ih =>
    intro q m hq hT h6 h
    have e : m 143 13 + 1 = nI (q + 1) := by rw [h6]; exact nI_1 q
    refine Go_rn [146, 119] 100 ?_
    refine m_byteAt hn hT h6 (by omega) (fun _ => ?_) (fun c => absurd c (by omega))
    refine m_isFigure (fun c => ?_) (fun c => ?_)
    · refine br_f (by decide) ?_
      refine ih (q + 1) _ (by omega) (mTT_fr hT (by rw [st_eq, if_neg (by omega)]) (fun k => by rw [st_eq, if_neg (by omega)])) (by rw [st_eq, if_pos ⟨rfl, rfl⟩]; exact e) (fun m1 f1 e1 => h m1 (fun o k ho => ?_) (by rw [e1, ← sK_t (by omega) c]))
      rw [f1 o k ho, st_eq, if_neg (fun q => ho q)]
    · refine br_t rfl ?_
      exact h m fr_rf (by rw [sK_f c]; exact h6)
theorem m_next {d : Nat} {Q : pt_Q} {T : pt_tp} {p : Nat} {m : pt_M} (hO : OkT T) (hp : p ≤ T.1) (hT : mTT m T) (h7 : m 143 13 = nI p) (h : ∀ m1, fr Tmt m m1 → mTok m1 T p → Q none m1) : Sp (d + 2) nX7_next [zR 7 143] m Q := by
  obtain ⟨hn, hby⟩ := id hO
  refine sX7_next ?_
  refine m_tok_b (d := d) (g := none) hn (T.1 - p) p _ (by omega) hT h7 (fun m1 f1 e1 => ?_)
  have t1 : mTT m1 T := mTT_fr hT (f1 _ _ (by omega)) (fun k => f1 _ _ (by omega))
  have g1 : fr Tmt m m1 := fun o k ho => f1 o k (fun q => ho (by unfold Tmt; omega))
  have hb := tkB_n hp
  have eb : sK blk T p = tkB T p := rfl
  rw [eb] at e1
  have ek : tkK T p = cif (T.1 ≤ tkB T p) 0 (cif (ltr (T.2 (tkB T p))) 1 (cif (fgr (T.2 (tkB T p))) (cif (sK fgr T (tkB T p) - tkB T p ≤ 3) 2 4) (cif (T.2 (tkB T p) = 59) 3 4))) := rfl
  have ee : tkE T p = cif (T.1 ≤ tkB T p) (tkB T p) (cif (ltr (T.2 (tkB T p))) (sK ltr T (tkB T p)) (cif (fgr (T.2 (tkB T p))) (sK fgr T (tkB T p)) (tkB T p + 1))) := rfl
  clear f1
  -- the end: from pc 196
  have fin : ∀ (m2 : pt_M) (g : Option pt_V), fr Tmt m m2 → m2 143 14 = nI ((tkK T p + 1) % 5) → m2 143 15 = nI (tkB T p) → m2 143 13 = nI (tkE T p) → Go (Sp (d + 1)) tX7_next Q 196 [some (zR 7 143), g] [] m2 := fun m2 g f2 a1 a2 a3 => by
    refine Go_rn [] 100 ?_
    refine h _ (fun o k ho => ?_) ⟨mTT_fr hT ?_ (fun k => ?_), ?_, ?_, ?_, ?_⟩
    · rw [st_eq, if_neg (fun q => ho (by unfold Tmt; omega))]; exact f2 o k ho
    · rw [st_eq, if_neg (by omega)]; exact f2 _ _ (by unfold Tmt; omega)
    · rw [st_eq, if_neg (by omega)]; exact f2 _ _ (by unfold Tmt; omega)
    · rw [st_eq, if_neg (by omega)]; exact a1
    · rw [st_eq, if_neg (by omega)]; exact a2
    · rw [st_eq, if_pos ⟨rfl, rfl⟩]; exact a3
    · rw [st_eq, if_neg (by omega)]; exact a3
  obtain ⟨b, hbe⟩ : ∃ b, tkB T p = b := ⟨_, rfl⟩
  rw [hbe] at e1 hb ek ee fin
  have z13 : ∀ x, st m1 143 15 x 143 13 = nI b := fun x => by rw [st_eq, if_neg (by omega)]; exact e1
  have t2 : ∀ x, mTT (st m1 143 15 x) T := fun x => mTT_fr t1 (by rw [st_eq, if_neg (by omega)]) (fun k => by rw [st_eq, if_neg (by omega)])
  refine Go_rn [77, 119, 196] 100 ?_
  refine m_byteAt hn (t2 _) (z13 _) (by omega) (fun c => ?_) (fun c => ?_)
  · refine br_f (fun q => ?_) ?_
    · have := (hby b c).1
      have q2 : T.2 b = -1000000 := q
      rw [q2] at this
      exact absurd this (by decide)
    rw [cif_f (by omega)] at ek ee
    refine m_isLetter (fun c2 => ?_) (fun c2 => ?_)
    · refine br_f (by decide) ?_
      rw [cif_t c2] at ek ee
      refine m_tok_l (d := d) hO (T.1 - b) b _ (by omega) (t2 _) (z13 _) (fun m2 f2 e2 => ?_)
      refine Go_rn [196] 100 ?_
      refine fin _ _ (fun o k ho => ?_) ?_ ?_ ?_
      · rw [st_eq, if_neg (fun q => ho (by unfold Tmt; omega)), f2 o k (fun q => ho (by unfold Tmt; omega)), st_eq, if_neg (fun q => ho (by unfold Tmt; omega))]
        exact g1 o k ho
      · rw [st_eq, if_pos ⟨rfl, rfl⟩, ek]; rfl
      · rw [st_eq, if_neg (by omega), f2 _ _ (by omega), st_eq, if_pos ⟨rfl, rfl⟩]; exact e1
      · rw [st_eq, if_neg (by omega), e2, ee]
    · refine br_t rfl ?_
      rw [cif_f c2] at ek ee
      refine m_isFigure (fun c3 => ?_) (fun c3 => ?_)
      · refine br_f (by decide) ?_
        rw [cif_t c3] at ek ee
        have hl := sK_le (P := fgr) (T := T) b
        have hl2 := sK_n (P := fgr) hb
        refine m_tok_f (d := d) hO (T.1 - b) b _ (by omega) (t2 _) (z13 _) (fun m2 f2 e2 => ?_)
        have e15 : m2 143 15 = nI b := by rw [f2 _ _ (by omega), st_eq, if_pos ⟨rfl, rfl⟩]; exact e1
        have e9 : m2 143 13 - m2 143 15 = nI (sK fgr T b - b) := by rw [e2, e15]; exact nI_sb hl
        have fin2 : ∀ y, y = nI ((tkK T p + 1) % 5) → Go (Sp (d + 1)) tX7_next Q 196 [some (zR 7 143), some (zI (T.2 b))] [] (st m2 143 14 y) := fun y hy => by
          refine fin _ _ (fun o k ho => ?_) ?_ ?_ ?_
          · rw [st_eq, if_neg (fun q => ho (by unfold Tmt; omega)), f2 o k (fun q => ho (by unfold Tmt; omega)), st_eq, if_neg (fun q => ho (by unfold Tmt; omega))]
            exact g1 o k ho
          · rw [st_eq, if_pos ⟨rfl, rfl⟩]; exact hy
          · rw [st_eq, if_neg (by omega)]; exact e15
          · rw [st_eq, if_neg (by omega), e2, ee]
        refine Go_rn [196] 100 ?_
        refine ⟨fun c => ?_, fun c => ?_⟩
        · have c1 : m2 143 13 - m2 143 15 ≤ 3 := c
          rw [e9] at c1
          have c2 : nI (sK fgr T b - b) ≤ nI 3 := c1
          rw [nI_leI (by omega) (by omega)] at c2
          exact fin2 3 (by rw [ek, cif_t c2]; rfl)
        · have c1 : ¬ m2 143 13 - m2 143 15 ≤ 3 := c
          rw [e9] at c1
          have c2 : ¬ nI (sK fgr T b - b) ≤ nI 3 := c1
          rw [nI_leI (by omega) (by omega)] at c2
          exact fin2 0 (by rw [ek, cif_f c2]; rfl)
      · refine br_t rfl ?_
        rw [cif_f c3] at ek ee
        have fin2 : ∀ y, y = nI ((tkK T p + 1) % 5) → Go (Sp (d + 1)) tX7_next Q 196 [some (zR 7 143), some (zI (T.2 b))] [] (st (st (st m1 143 15 (m1 143 13)) 143 13 (st m1 143 15 (m1 143 13) 143 13 + 1)) 143 14 y) := fun y hy => by
          refine fin _ _ (fun o k ho => ?_) ?_ ?_ ?_
          · rw [st_eq, if_neg (fun q => ho (by unfold Tmt; omega)), st_eq, if_neg (fun q => ho (by unfold Tmt; omega)), st_eq, if_neg (fun q => ho (by unfold Tmt; omega))]
            exact g1 o k ho
          · rw [st_eq, if_pos ⟨rfl, rfl⟩]; exact hy
          · rw [st_eq, if_neg (by omega), st_eq, if_neg (by omega), st_eq, if_pos ⟨rfl, rfl⟩]; exact e1
          · rw [st_eq, if_neg (by omega), st_eq, if_pos ⟨rfl, rfl⟩, st_eq, if_neg (by omega), e1, ee]; exact nI_1 b
        refine ⟨fun c4 => fin2 4 ?_, fun c4 => fin2 0 ?_⟩
        · rw [ek, cif_t (P := T.2 b = 59) c4]; rfl
        · rw [ek, cif_f (P := T.2 b = 59) c4]; rfl
  · rw [cif_t c] at ek ee
    refine br_t rfl ?_
    refine fin _ _ (fun o k ho => ?_) ?_ ?_ ?_
    · rw [st_eq, if_neg (fun q => ho (by unfold Tmt; omega)), st_eq, if_neg (fun q => ho (by unfold Tmt; omega))]
      exact g1 o k ho
    · rw [st_eq, if_pos ⟨rfl, rfl⟩, ek]; rfl
    · rw [st_eq, if_neg (by omega), st_eq, if_pos ⟨rfl, rfl⟩]; exact e1
    · rw [st_eq, if_neg (by omega), st_eq, if_neg (by omega), e1, ee]
