/-! 24k.keep: the copying loop of the model (written by gen_keep.py) -/
theorem m_keep_c {d : Nat} {Q : pt_Q} {na : Nat} (hna : na < 24) {f : Nat → Int32} : ∀ (n k : Nat) (x : Int32) (m : pt_M), k + n = 78 → x = nI k → m 143 8 = nI na → (∀ j, j < 78 → m 147 (0 + j) = f j) → (∀ j, j < k → m 149 (78 * na + j) = f j) →
    (∀ m1, fr (fun o k => o = 149 ∧ 78 * na ≤ k ∧ k < 78 * na + 78) m m1 → (∀ j, j < 78 → m1 149 (78 * na + j) = f j) → Go (Sp d) tX7_keep Q 83 [some (zR 7 143), (some (zI (nI 78)))] [] m1) → Go (Sp d) tX7_keep Q 51 [some (zR 7 143), (some (zI x))] [] m := by
  intro n
  induction n with
  | zero =>
    intro k x m hk hx h8 hs hd h
    have ek : k = 78 := by omega
    subst ek hx
    refine Go_rn [83] 100 ?_
    refine br_t (nI_le (a := 78) (b := 78) (by omega) (by omega)) ?_
    exact h m fr_rf hd
  | succ n ih =>
    intro k x m hk hx h8 hs hd h
    subst hx
    refine Go_rn [51] 100 ?_
    refine br_f (nI_ge (a := k) (b := 78) (by omega) (by omega)) ?_
    refine ⟨0 + k, by rw [Nat.zero_add], by omega, ?_⟩
    refine ⟨78 * na + k, by show 78 * m 143 8 + nI k = _; rw [h8]; exact (congrArg (· + nI k) (pk_mul 78 na)).trans (nI_add _ _), by omega, ?_⟩
    refine ih (k + 1) _ _ (by omega) (nI_1 k) (by rw [st_eq, if_neg (by omega)]; exact h8) (fun j hj => by rw [st_eq, if_neg (by omega)]; exact hs j hj) (fun j hj => ?_) (fun m1 f1 e1 => h m1 (fun o k1 ho => ?_) e1)
    · rw [st_eq]
      by_cases hj2 : j = k
      · rw [if_pos ⟨rfl, by omega⟩, hs k (by omega), hj2]
      · rw [if_neg (by omega)]
        exact hd j (by omega)
    · rw [f1 o k1 ho, st_eq, if_neg (by omega)]
theorem m_keep_s {d : Nat} {Q : pt_Q} {F : Nat → Int32} : ∀ (n k : Nat) (x : Int32) (m : pt_M), k + n = 1794 → x = nI k → (∀ j, j < k → m 149 j = F (j + 78)) → (∀ j, k ≤ j → m 149 j = F j) →
    (∀ m1, fr (fun o _ => o = 149) m m1 → (∀ j, j < 1794 → m1 149 j = F (j + 78)) → Go (Sp d) tX7_keep Q 39 [some (zR 7 143), some (zI (nI 1794))] [] m1) → Go (Sp d) tX7_keep Q 11 [some (zR 7 143), some (zI x)] [] m := by
  intro n
  induction n with
  | zero =>
    intro k x m hk hx h1 h2 h
    have ek : k = 1794 := by omega
    subst ek hx
    refine Go_rn [39] 100 ?_
    refine br_t (nI_le (a := 1794) (b := 1794) (by omega) (by omega)) ?_
    exact h m fr_rf h1
  | succ n ih =>
    intro k x m hk hx h1 h2 h
    subst hx
    refine Go_rn [11] 100 ?_
    refine br_f (nI_ge (a := k) (b := 1794) (by omega) (by omega)) ?_
    refine ⟨k + 78, nI_add k 78, by omega, ?_⟩
    refine ⟨k, rfl, by omega, ?_⟩
    refine ih (k + 1) _ _ (by omega) (nI_1 k) (fun j hj => ?_) (fun j hj => by rw [st_eq, if_neg (by omega)]; exact h2 j (by omega)) (fun m1 f1 e1 => h m1 (fun o k1 ho => by rw [f1 o k1 ho, st_eq, if_neg (fun q => ho q.1)]) e1)
    rw [st_eq]
    by_cases hj2 : j = k
    · rw [if_pos ⟨rfl, hj2⟩, h2 (k + 78) (by omega), hj2]
    · rw [if_neg (by omega)]
      exact h1 j (by omega)
def Tmk : Nat → Nat → Prop := fun o k => (o = 143 ∧ k = 8) ∨ o = 149
theorem m_keep_e {d : Nat} {Q : pt_Q} {m : pt_M} {na : Nat} {σ : pt_sg} (hna : na < 24) (hm : RM m 147 0 σ) (h8 : m 143 8 = nI na) {g : Option pt_V} (h : ∀ m1, fr Tmk m m1 → m1 143 8 = nI (na + 1) → (∀ k, k < 78 * na → m1 149 k = m 149 k) → RM m1 149 (78 * na) σ → Q none m1) : Go (Sp d) tX7_keep Q 49 [some (zR 7 143), g] [] m := by
  refine Go_rn [51] 100 ?_
  refine m_keep_c (f := σ) hna 78 0 _ m (by omega) rfl h8 hm (fun j hj => by omega) (fun m1 f1 e1 => ?_)
  refine Go_rn [] 100 ?_
  have h9 : m1 143 8 = nI na := (f1 143 8 (by omega)).trans h8
  refine h _ (fun o k ho => ?_) (by rw [st_eq, if_pos ⟨rfl, rfl⟩]; show m1 143 8 + 1 = _; rw [h9, nI_1]) (fun k hk => by rw [st_eq, if_neg (by omega)]; exact f1 149 k (by omega)) (fun k hk => by rw [st_eq, if_neg (by omega)]; exact e1 k hk)
  unfold Tmk at ho
  rw [st_eq, if_neg (by omega)]
  exact f1 o k (by omega)
theorem m_keep {d : Nat} {Q : pt_Q} {m : pt_M} {σ : pt_sg} {A : Nat × (Nat → pt_sg)} (hm : RM m 147 0 σ) (hA : mA m A) (hO : OkA A) (h : ∀ m1, fr Tmk m m1 → mA m1 (apush A σ) → Q none m1) : Sp (d + 1) nX7_keep [zR 7 143] m Q := by
  obtain ⟨na, AA⟩ := A
  obtain ⟨e1, e2⟩ := hA
  have hna : na ≤ 24 := hO.1
  dsimp only at e1 e2
  unfold apush at h
  refine sX7_keep ?_
  refine Go_rn [11, 49] 100 ?_
  refine ⟨fun c => ?_, fun c => ?_⟩
  · have c1 : nI na = nI 24 := e1.symm.trans c
    have c2 : na = 24 := nI_inj c1 (by omega) (by omega)
    subst c2
    rw [if_neg (show ¬ (24 < 24) by decide)] at h
    refine m_keep_s (F := m 149) 1794 0 _ m (by omega) rfl (fun j hj => by omega) (fun j _ => rfl) (fun m1 f1 g1 => ?_)
    refine Go_rn [49] 100 ?_
    have z : m1 143 8 - 1 = nI 23 := by rw [f1 143 8 (by omega), e1]; exact nI_pred 23
    refine m_keep_e (na := 23) (σ := σ) (by omega) (RM_fr hm (fun k _ _ => by rw [st_eq, if_neg (by omega)]; exact f1 147 k (by omega))) (by rw [st_eq, if_pos ⟨rfl, rfl⟩]; exact z) (fun m2 f2 g2 g3 g4 => ?_)
    have k1 : ∀ k, k < 1794 → m2 149 k = m 149 (k + 78) := fun k hk => by
      rw [g3 k (by omega), st_eq, if_neg (by omega)]
      exact g1 k hk
    refine h m2 (fun o k ho => ?_) ⟨g2, fun i hi => ?_⟩
    · rw [f2 o k ho]
      unfold Tmk at ho
      rw [st_eq, if_neg (by omega)]
      exact f1 o k (by omega)
    · replace hi : i < 24 := hi
      show RM m2 149 (78 * i) (if i = 23 then σ else AA (i + 1))
      by_cases e : i = 23
      · rw [if_pos e, e]; exact g4
      · rw [if_neg e]
        intro k hk
        rw [k1 _ (by omega), show 78 * i + k + 78 = 78 * (i + 1) + k by omega]
        exact e2 (i + 1) (by omega) k hk
  · have c2 : na < 24 := by
      rcases Nat.lt_or_ge na 24 with q | q
      · exact q
      · exact absurd (e1.trans (congrArg nI (show na = 24 by omega))) c
    rw [if_pos c2] at h
    refine m_keep_e (σ := σ) c2 hm e1 (fun m2 f2 g2 g3 g4 => ?_)
    refine h m2 f2 ⟨g2, fun i hi => ?_⟩
    replace hi : i < na + 1 := hi
    show RM m2 149 (78 * i) (if i = na then σ else AA i)
    by_cases e : i = na
    · rw [if_pos e, e]; exact g4
    · rw [if_neg e]
      intro k hk
      rw [g3 _ (by omega)]
      exact e2 i (by omega) k hk
