/-! 37.least: the least spice -/
def scn (v : Nat → Int32) : Nat → Int32 × Int32
  | 0 => (0, -1)
  | k + 1 => if (scn v k).1 < v k then (v k, nI k) else scn v k
theorem tsF_scn (kd : Int32) (us : Nat → Int32) (af : Int32) (s : Nat → Int32) : ∀ k, tsF kd us af s k = scn (fun f => fl kd (us f) af (s f) (nI f)) k
  | 0 => rfl
  | k + 1 => by
    show (if (tsF kd us af s k).1 < _ then _ else tsF kd us af s k) = _
    rw [tsF_scn kd us af s k]
    rfl
def isF (v : Nat → Int32) (n g : Nat) : Prop := 0 < v g ∧ (∀ f, f < g → v f < v g) ∧ (∀ f, f < n → v f ≤ v g)
theorem scn_inv (v : Nat → Int32) : ∀ k, 0 ≤ (scn v k).1 ∧ (∀ f, f < k → v f ≤ (scn v k).1) ∧ (((scn v k).2 = -1 ∧ (scn v k).1 = 0) ∨ ∃ g, g < k ∧ (scn v k).2 = nI g ∧ (scn v k).1 = v g ∧ isF v k g)
  | 0 => ⟨(by decide : (0 : Int32) ≤ 0), fun f hf => absurd hf (Nat.not_lt_zero f), Or.inl ⟨rfl, rfl⟩⟩
  | k + 1 => by
    obtain ⟨h1, h2, h3⟩ := scn_inv v k
    have e : scn v (k + 1) = if (scn v k).1 < v k then (v k, nI k) else scn v k := rfl
    by_cases c : (scn v k).1 < v k
    · rw [if_pos c] at e
      rw [e]
      have hk : 0 < v k := Int32.lt_of_le_of_lt h1 c
      have hall : ∀ f, f < k → v f < v k := fun f hf => Int32.lt_of_le_of_lt (h2 f hf) c
      have hall2 : ∀ f, f < k + 1 → v f ≤ v k := fun f hf => by
        by_cases e2 : f = k
        · rw [e2]; exact Int32.le_refl _
        · exact Int32.le_of_lt (hall f (by omega))
      exact ⟨Int32.le_of_lt hk, hall2, Or.inr ⟨k, by omega, rfl, rfl, hk, hall, hall2⟩⟩
    · rw [if_neg c] at e
      rw [e]
      have c2 : v k ≤ (scn v k).1 := Int32.not_lt.mp c
      have hall : ∀ f, f < k + 1 → v f ≤ (scn v k).1 := fun f hf => by
        by_cases e2 : f = k
        · rw [e2]; exact c2
        · exact h2 f (by omega)
      refine ⟨h1, hall, ?_⟩
      rcases h3 with h3 | ⟨g, g1, g2, g3, g4, g5, g6⟩
      · exact Or.inl h3
      · exact Or.inr ⟨g, by omega, g2, g3, g4, g5, fun f hf => by rw [← g3]; exact hall f hf⟩
theorem isF_uniq {v : Nat → Int32} {n g g2 : Nat} (hg : g < n) (hg2 : g2 < n) (h : isF v n g) (h2 : isF v n g2) : g = g2 := by
  rcases Nat.lt_trichotomy g g2 with c | c | c
  · exact absurd (h2.2.1 g c) (Int32.not_lt.mpr (h.2.2 g2 hg2))
  · exact c
  · exact absurd (h.2.1 g2 c) (Int32.not_lt.mpr (h2.2.2 g hg))
theorem scn_iff (v : Nat → Int32) {n g : Nat} (hg : g < n) (hn : n < 2 ^ 31) : (scn v n).2 = nI g ↔ isF v n g := by
  obtain ⟨h1, h2, h3⟩ := scn_inv v n
  constructor
  · intro e
    rcases h3 with ⟨h3, -⟩ | ⟨g2, q1, q2, q3, q4⟩
    · rw [h3] at e
      exact absurd (show (0 : Int32) ≤ -1 by rw [e]; exact nI_pos' (by omega)) (by decide)
    · have := nI_inj (e.symm.trans q2) (by omega) (by omega)
      rw [this]
      exact q4
  · intro h
    rcases h3 with ⟨-, h3⟩ | ⟨g2, q1, q2, q3, q4⟩
    · have := h2 g hg
      rw [h3] at this
      exact absurd h.1 (Int32.not_lt.mpr this)
    · rw [isF_uniq hg q1 h q4]
      exact q2
theorem tst_iff (kd : Int32) (us : Nat → Int32) (af : Int32) (s : Nat → Int32) {g : Nat} (hg : g < 5) : tst kd us af s = nI g ↔ isF (fun f => fl kd (us f) af (s f) (nI f)) 5 g := by
  unfold tst
  rw [tsF_scn]
  exact scn_iff _ hg (by omega)
/-- what the others ask of the one that is to be tasted -/
def needN (e : Nat → Int32) (g : Nat) : Nat → Int32
  | 0 => 1
  | k + 1 => if k = g then needN e g k else mx (needN e g k) (if k < g then e k + 1 else e k)
theorem mx_le {a b x : Int32} : mx a b ≤ x ↔ a ≤ x ∧ b ≤ x := by
  unfold mx
  grind
theorem needN_le {e : Nat → Int32} {g : Nat} {x : Int32} : ∀ k, needN e g k ≤ x ↔ 1 ≤ x ∧ ∀ f, f < k → ¬ f = g → (if f < g then e f + 1 else e f) ≤ x
  | 0 => ⟨fun h => ⟨h, fun f hf => absurd hf (Nat.not_lt_zero f)⟩, fun h => h.1⟩
  | k + 1 => by
    have ih := needN_le (e := e) (g := g) (x := x) k
    have eq : needN e g (k + 1) = if k = g then needN e g k else mx (needN e g k) (if k < g then e k + 1 else e k) := rfl
    rw [eq]
    by_cases c : k = g
    · rw [if_pos c, ih]
      constructor
      · intro h
        refine ⟨h.1, fun f hf hne => h.2 f (by omega) hne⟩
      · intro h
        exact ⟨h.1, fun f hf hne => h.2 f (by omega) hne⟩
    · rw [if_neg c, mx_le, ih]
      constructor
      · rintro ⟨⟨h1, h2⟩, h3⟩
        refine ⟨h1, fun f hf hne => ?_⟩
        by_cases e2 : f = k
        · rw [e2]; exact h3
        · exact h2 f (by omega) hne
      · rintro ⟨h1, h2⟩
        exact ⟨⟨h1, fun f hf hne => h2 f (by omega) hne⟩, h2 k (by omega) c⟩
theorem fl_r0 {u s c : Int32} (hs : 0 ≤ s ∧ s ≤ 30) (hu : 0 ≤ u ∧ u ≤ 9) (hc : 0 ≤ c ∧ c ≤ 2) : 0 ≤ mx 0 (s - u - c) ∧ mx 0 (s - u - c) ≤ 30 := by
  unfold mx
  grind
theorem fl_r2 {v : Int32} (h : 0 ≤ v ∧ v ≤ 30) : 0 ≤ 2 * v ∧ 2 * v ≤ 60 := by grind
theorem fl_r4 {v : Int32} (h : 0 ≤ v ∧ v ≤ 30) : 0 ≤ mx 0 (v - 4) ∧ mx 0 (v - 4) ≤ 60 := by
  unfold mx
  grind
theorem fl_r1 {v : Int32} (h : 0 ≤ v ∧ v ≤ 30) : 0 ≤ v ∧ v ≤ 60 := by grind
theorem fl_rc {f af : Int32} : 0 ≤ (if f = af then (2 : Int32) else 0) ∧ (if f = af then (2 : Int32) else 0) ≤ 2 := by
  by_cases c : f = af
  · rw [if_pos c]; decide
  · rw [if_neg c]; decide
theorem fl_r {kd u af s f : Int32} (hs : 0 ≤ s ∧ s ≤ 30) (hu : 0 ≤ u ∧ u ≤ 9) : 0 ≤ fl kd u af s f ∧ fl kd u af s f ≤ 60 := by
  have h := fl_r0 hs hu (fl_rc (f := f) (af := af))
  unfold fl
  dsimp only
  by_cases c : kd = 2
  · rw [if_pos c]; exact fl_r2 h
  · rw [if_neg c]
    by_cases c2 : kd = 4
    · rw [if_pos c2]; exact fl_r4 h
    · rw [if_neg c2]; exact fl_r1 h
theorem le_add1 {a x : Int32} (ha : a ≤ 60) : a + 1 ≤ x ↔ a < x := by grind
theorem one_le {x : Int32} : 1 ≤ x ↔ 0 < x := by grind
theorem need_iff {kd af : Int32} {us s : Nat → Int32} {g s0 n : Nat} (hg : g < 5) (hu : okU us) (hs : ∀ f, f < 5 → 0 ≤ s f ∧ s f ≤ 30) (h0 : s g = nI s0) : tst kd us af (mor s (nI g) (nI n)) = nI g ↔ needN (fun f => fl kd (us f) af (s f) (nI f)) g 5 ≤ fl kd (us g) af (nI (s0 + n)) (nI g) := by
  have eg : mor s (nI g) (nI n) g = nI (s0 + n) := by
    unfold mor
    rw [if_pos rfl, h0, nI_add]
  have eo : ∀ f, f < 5 → ¬ f = g → mor s (nI g) (nI n) f = s f := fun f hf hne => by
    unfold mor
    rw [if_neg (fun q => hne (nI_inj q (by omega) (by omega)))]
    exact Int32.add_zero _
  rw [tst_iff _ _ _ _ hg, needN_le]
  unfold isF
  dsimp only
  rw [eg, one_le]
  constructor
  · rintro ⟨h1, h2, h3⟩
    refine ⟨h1, fun f hf hne => ?_⟩
    by_cases c : f < g
    · rw [if_pos c, le_add1 (fl_r (hs f hf) (hu f hf)).2]
      have := h2 f c
      rwa [eo f hf hne] at this
    · rw [if_neg c]
      have := h3 f hf
      rwa [eo f hf hne] at this
  · rintro ⟨h1, h2⟩
    refine ⟨h1, fun f hf => ?_, fun f hf => ?_⟩
    · have := h2 f (by omega) (by omega)
      rw [if_pos hf, le_add1 (fl_r (hs f (by omega)) (hu f (by omega))).2] at this
      rw [eo f (by omega) (by omega)]
      exact this
    · by_cases c : f = g
      · rw [c, eg]; exact Int32.le_refl _
      · have := h2 f hf c
        rw [eo f hf c]
        by_cases c2 : f < g
        · rw [if_pos c2, le_add1 (fl_r (hs f hf) (hu f hf)).2] at this
          exact Int32.le_of_lt this
        · rw [if_neg c2] at this
          exact this
/-- the search -/
def lsp (kd : Int32) (us : Nat → Int32) (af : Int32) (s : Nat → Int32) (g : Int32) : Nat → Nat → Option Nat
  | 0, _ => none
  | k + 1, n => if tst kd us af (mor s g (nI n)) = g then some n else lsp kd us af s g k (n + 1)
def lsv : Option Nat → Int32
  | some n => nI n
  | none => -1
theorem lsp_lt {kd af g : Int32} {us s : Nat → Int32} : ∀ (k n j : Nat), lsp kd us af s g k n = some j → n ≤ j ∧ j < n + k
  | 0, n, j, h => by cases h
  | k + 1, n, j, h => by
    have e : lsp kd us af s g (k + 1) n = if tst kd us af (mor s g (nI n)) = g then some n else lsp kd us af s g k (n + 1) := rfl
    rw [e] at h
    by_cases c : tst kd us af (mor s g (nI n)) = g
    · rw [if_pos c] at h
      cases h
      omega
    · rw [if_neg c] at h
      have := lsp_lt k (n + 1) j h
      omega
/-! the class -/
theorem c_ls1_l {d : Nat} {Q : pt_Q} {kd af : Int32} {us s : Nat → Int32} {w g : Nat} {m : pt_M} (hw : w < 8) (hg : g < 5) (hp : PC m kd us af) (hs : ∀ f, f < 5 → m 25 (5 * w + f) = s f)
    (h : ∀ g6, Go (Sp (d + 1)) tX2_leastSpice Q 64 [some (zR 2 137), some (zR 4 24), some (zI (nI w)), some (zI (nI g)), some (zI (needN (fun f => fl kd (us f) af (s f) (nI f)) g 5)), some (zI (nI 5)), g6] [] m) :
    ∀ (n k : Nat) (x y : Int32) (g6 : Option pt_V), k + n = 5 → x = nI k → y = needN (fun f => fl kd (us f) af (s f) (nI f)) g k → Go (Sp (d + 1)) tX2_leastSpice Q 6 [some (zR 2 137), some (zR 4 24), some (zI (nI w)), some (zI (nI g)), some (zI y), some (zI x), g6] [] m := by
  obtain ⟨h1, h2, h3⟩ := id hp
  intro n
  induction n with
  | zero =>
    intro k x y g6 hk hx hy
    have ek : k = 5 := by omega
    subst ek hx hy
    refine Go_rn [64] 100 ?_
    refine br_t (nI_le (a := 5) (b := 5) (by omega) (by omega)) ?_
    exact h g6
  | succ n ih =>
    intro k x y g6 hk hx hy
    subst hx
    have e : needN (fun f => fl kd (us f) af (s f) (nI f)) g (k + 1) = if k = g then needN (fun f => fl kd (us f) af (s f) (nI f)) g k else mx (needN (fun f => fl kd (us f) af (s f) (nI f)) g k) (if k < g then fl kd (us k) af (s k) (nI k) + 1 else fl kd (us k) af (s k) (nI k)) := rfl
    refine Go_rn [6] 100 ?_
    refine br_f (nI_ge (a := k) (b := 5) (by omega) (by omega)) ?_
    refine ⟨fun c => ?_, fun c => ?_⟩
    · have c1 : k = g := nI_inj (show nI k = nI g from c) (by omega) (by omega)
      refine ih (k + 1) _ _ _ (by omega) (nI_1 k) ?_
      rw [e, if_pos c1]
      exact hy
    · have c1 : ¬ k = g := fun q => c (by rw [q])
      refine c_strength hw (by omega) (hs k (by omega)) ?_
      refine c_feels (by omega) h1 (h3 k (by omega)) h2 ?_
      refine ⟨fun c2 => ?_, fun c2 => ?_⟩
      · have c3 : ¬ k < g := fun q => absurd (show nI g ≤ nI k from c2) (nI_ge q (by omega))
        refine ih (k + 1) _ _ _ (by omega) (nI_1 k) ?_
        rw [e, if_neg c1, if_neg c3, hy]
      · have c3 : k < g := by
          rcases Nat.lt_or_ge k g with q | q
          · exact q
          · exact absurd (nI_le q (by omega)) c2
        refine ih (k + 1) _ _ _ (by omega) (nI_1 k) ?_
        rw [e, if_neg c1, if_pos c3, hy]
theorem c_ls2_l {d : Nat} {Q : pt_Q} {kd af : Int32} {us s : Nat → Int32} {w g s0 : Nat} {m : pt_M} {W : Int32} (hg : g < 5) (hp : PC m kd us af) (hu : okU us) (hs : ∀ f, f < 5 → 0 ≤ s f ∧ s f ≤ 30) (h0 : s g = nI s0) :
    ∀ (k n : Nat) (x : Int32), s0 + n + k = 31 → x = nI (s0 + n) → Q (some (zI (lsv (lsp kd us af s (nI g) k n)))) m →
    Go (Sp (d + 1)) tX2_leastSpice Q 76 [some (zR 2 137), some (zR 4 24), some (zI W), some (zI (nI g)), some (zI (needN (fun f => fl kd (us f) af (s f) (nI f)) g 5)), some (zI (nI s0)), some (zI x)] [] m := by
  obtain ⟨h1, h2, h3⟩ := id hp
  intro k
  induction k with
  | zero =>
    intro n x hk hx h
    subst hx
    refine Go_rn [] 100 ?_
    refine br_t (nI_lt (a := 30) (b := s0 + n) (by omega) (by omega)) ?_
    exact h
  | succ k ih =>
    intro n x hk hx h
    subst hx
    have e : lsp kd us af s (nI g) (k + 1) n = if tst kd us af (mor s (nI g) (nI n)) = nI g then some n else lsp kd us af s (nI g) k (n + 1) := rfl
    refine Go_rn [76] 100 ?_
    refine br_f (nI_nlt (a := 30) (b := s0 + n) (by omega) (by omega)) ?_
    refine c_feels hg h1 (h3 g hg) h2 ?_
    have key := need_iff (kd := kd) (af := af) (n := n) hg hu hs h0
    refine ⟨fun c => ?_, fun c => ?_⟩
    · have c1 : fl kd (us g) af (nI (s0 + n)) (nI g) < needN (fun f => fl kd (us f) af (s f) (nI f)) g 5 := c
      rw [e, if_neg (fun q => absurd c1 (Int32.not_lt.mpr (key.mp q)))] at h
      exact ih (n + 1) _ (by omega) (nI_1 (s0 + n)) h
    · have c1 : ¬ fl kd (us g) af (nI (s0 + n)) (nI g) < needN (fun f => fl kd (us f) af (s f) (nI f)) g 5 := c
      rw [e, if_pos (key.mpr (Int32.not_lt.mp c1))] at h
      refine qe ?_ h
      show nI (s0 + n) - nI s0 = nI n
      rw [pk_sub (by omega)]
      congr 1
      omega
theorem c_leastSpice {d : Nat} {Q : pt_Q} {kd af : Int32} {us s : Nat → Int32} {w g s0 : Nat} {m : pt_M} (hw : w < 8) (hg : g < 5) (hp : PC m kd us af) (hu : okU us) (hs : ∀ f, f < 5 → 0 ≤ s f ∧ s f ≤ 30) (h0 : s g = nI s0) (h30 : s0 ≤ 30) (hm : ∀ f, f < 5 → m 25 (5 * w + f) = s f) (h : Q (some (zI (lsv (lsp kd us af s (nI g) (31 - s0) 0)))) m) : Sp (d + 2) nX2_leastSpice [zR 2 137, zR 4 24, zI (nI w), zI (nI g)] m Q := by
  refine sX2_leastSpice ?_
  refine Go_rn [6] 100 ?_
  refine c_ls1_l hw hg hp hm (fun g6 => ?_) 5 0 _ _ _ (by omega) rfl rfl
  refine Go_rn [76] 100 ?_
  refine c_strength hw hg ((hm g hg).trans h0) ?_
  exact c_ls2_l (w := w) hg hp hu hs h0 (31 - s0) 0 _ (by omega) rfl h
