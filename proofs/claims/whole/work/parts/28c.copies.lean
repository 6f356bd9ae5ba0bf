/-! 28c.copies: copying loops of the model: undo, image, restore (written by gen_copies.py) -/
theorem ix78 (n k : Nat) : 78 * nI n + nI k = nI (78 * n + k) := by
  show nI 78 * nI n + nI k = _
  rw [pk_mul, nI_add]
theorem m_undo_c {d : Nat} {Q : pt_Q} {na : Nat} (hna : na < 24) {f : Nat → Int32} : ∀ (n k : Nat) (x : Int32) (m : pt_M), k + n = 78 → x = nI k → m 143 8 = nI na → (∀ j, j < 78 → m 149 (78 * na + j) = f j) → (∀ j, j < k → m 147 (0 + j) = f j) →
    (∀ m1, fr (fun o k => o = 147 ∧ 0 ≤ k ∧ k < 0 + 78) m m1 → (∀ j, j < 78 → m1 147 (0 + j) = f j) → Go (Sp d) tX7_undo Q 59 [some (zR 7 143), (some (zI (nI 78)))] [] m1) → Go (Sp d) tX7_undo Q 27 [some (zR 7 143), (some (zI x))] [] m := by
  intro n
  induction n with
  | zero =>
    intro k x m hk hx h8 hs hd h
    have ek : k = 78 := by omega
    subst ek hx
    refine Go_rn [59] 100 ?_
    refine br_t (nI_le (a := 78) (b := 78) (by omega) (by omega)) ?_
    exact h m fr_rf hd
  | succ n ih =>
    intro k x m hk hx h8 hs hd h
    subst hx
    refine Go_rn [27] 100 ?_
    refine br_f (nI_ge (a := k) (b := 78) (by omega) (by omega)) ?_
    refine ⟨78 * na + k, by show 78 * m 143 8 + nI k = _; rw [h8]; exact ix78 na k, by omega, ?_⟩
    refine ⟨0 + k, by rw [Nat.zero_add], by omega, ?_⟩
    refine ih (k + 1) _ _ (by omega) (nI_1 k) (by rw [st_eq, if_neg (by omega)]; exact h8) (fun j hj => by rw [st_eq, if_neg (by omega)]; exact hs j hj) (fun j hj => ?_) (fun m1 f1 e1 => h m1 (fun o k1 ho => ?_) e1)
    · rw [st_eq]
      by_cases hj2 : j = k
      · rw [if_pos ⟨rfl, by omega⟩, hs k (by omega), hj2]
      · rw [if_neg (by omega)]
        exact hd j (by omega)
    · rw [f1 o k1 ho, st_eq, if_neg (by omega)]
theorem m_image_c {d : Nat} {Q : pt_Q} {k1 : Nat} (hk1 : k1 < 2) {f : Nat → Int32} : ∀ (n k : Nat) (x : Int32) (m : pt_M), k + n = 78 → x = nI k →  (∀ j, j < 78 → m 147 (0 + j) = f j) → (∀ j, j < k → m 156 (78 * k1 + j) = f j) →
    (∀ m1, fr (fun o k => o = 156 ∧ 78 * k1 ≤ k ∧ k < 78 * k1 + 78) m m1 → (∀ j, j < 78 → m1 156 (78 * k1 + j) = f j) → Go (Sp d) tX7_image Q 59 [some (zR 7 143), some (zI (nI k1)), (some (zI (nI 78)))] [] m1) → Go (Sp d) tX7_image Q 30 [some (zR 7 143), some (zI (nI k1)), (some (zI x))] [] m := by
  intro n
  induction n with
  | zero =>
    intro k x m hk hx  hs hd h
    have ek : k = 78 := by omega
    subst ek hx
    refine Go_rn [59] 100 ?_
    refine br_t (nI_le (a := 78) (b := 78) (by omega) (by omega)) ?_
    exact h m fr_rf hd
  | succ n ih =>
    intro k x m hk hx  hs hd h
    subst hx
    refine Go_rn [30] 100 ?_
    refine br_f (nI_ge (a := k) (b := 78) (by omega) (by omega)) ?_
    refine ⟨0 + k, by rw [Nat.zero_add], by omega, ?_⟩
    refine ⟨78 * k1 + k, ix78 k1 k, by omega, ?_⟩
    refine ih (k + 1) _ _ (by omega) (nI_1 k)  (fun j hj => by rw [st_eq, if_neg (by omega)]; exact hs j hj) (fun j hj => ?_) (fun m1 f1 e1 => h m1 (fun o k1 ho => ?_) e1)
    · rw [st_eq]
      by_cases hj2 : j = k
      · rw [if_pos ⟨rfl, by omega⟩, hs k (by omega), hj2]
      · rw [if_neg (by omega)]
        exact hd j (by omega)
    · rw [f1 o k1 ho, st_eq, if_neg (by omega)]
theorem m_restore_c {d : Nat} {Q : pt_Q} {k1 : Nat} (hk1 : k1 < 2) {f : Nat → Int32} : ∀ (n k : Nat) (x : Int32) (m : pt_M), k + n = 78 → x = nI k →  (∀ j, j < 78 → m 156 (78 * k1 + j) = f j) → (∀ j, j < k → m 147 (0 + j) = f j) →
    (∀ m1, fr (fun o k => o = 147 ∧ 0 ≤ k ∧ k < 0 + 78) m m1 → (∀ j, j < 78 → m1 147 (0 + j) = f j) → Go (Sp d) tX7_restore Q 61 [some (zR 7 143), some (zI (nI k1)), (some (zI (nI 78)))] [] m1) → Go (Sp d) tX7_restore Q 32 [some (zR 7 143), some (zI (nI k1)), (some (zI x))] [] m := by
  intro n
  induction n with
  | zero =>
    intro k x m hk hx  hs hd h
    have ek : k = 78 := by omega
    subst ek hx
    refine Go_rn [61] 100 ?_
    refine br_t (nI_le (a := 78) (b := 78) (by omega) (by omega)) ?_
    exact h m fr_rf hd
  | succ n ih =>
    intro k x m hk hx  hs hd h
    subst hx
    refine Go_rn [32] 100 ?_
    refine br_f (nI_ge (a := k) (b := 78) (by omega) (by omega)) ?_
    refine ⟨78 * k1 + k, ix78 k1 k, by omega, ?_⟩
    refine ⟨0 + k, by rw [Nat.zero_add], by omega, ?_⟩
    refine ih (k + 1) _ _ (by omega) (nI_1 k)  (fun j hj => by rw [st_eq, if_neg (by omega)]; exact hs j hj) (fun j hj => ?_) (fun m1 f1 e1 => h m1 (fun o k1 ho => ?_) e1)
    · rw [st_eq]
      by_cases hj2 : j = k
      · rw [if_pos ⟨rfl, by omega⟩, hs k (by omega), hj2]
      · rw [if_neg (by omega)]
        exact hd j (by omega)
    · rw [f1 o k1 ho, st_eq, if_neg (by omega)]
