/-! 30c.copies: the copying loop of the model's walk (written by gen_walk.py) -/
theorem ixU (r k : Nat) : 43 + 7 * nI r + 1 + nI k = nI (44 + 7 * r + k) := by
  show nI 43 + nI 7 * nI r + nI 1 + nI k = _
  rw [pk_mul, nI_add, nI_add, nI_add]
  congr 1
  omega
theorem ixV (r : Nat) : 43 + 7 * nI r + 6 = nI (49 + 7 * r) := by
  show nI 43 + nI 7 * nI r + nI 6 = _
  rw [pk_mul, nI_add, nI_add]
  congr 1
  omega
theorem m_walk_c {d : Nat} {Q : pt_Q} {r : Nat} {a b y : Int32} {g6 : Option pt_V} (hr : r < 5) {f : Nat → Int32} : ∀ (n k : Nat) (x : Int32) (m : pt_M), k + n = 5 → x = nI k →  (∀ j, j < 5 → m 151 (0 + j) = f j) → (∀ j, j < k → m 147 (44 + 7 * r + j) = f j) →
    (∀ m1, fr (fun o k => o = 147 ∧ 44 + 7 * r ≤ k ∧ k < 44 + 7 * r + 5) m m1 → (∀ j, j < 5 → m1 147 (44 + 7 * r + j) = f j) → Go (Sp d) tX7_walk Q 125 [some (zR 7 143), some (zI (nI r)), some (zI a), some (zI b), some (zI y), (some (zI (nI 5))), g6] [] m1) → Go (Sp d) tX7_walk Q 89 [some (zR 7 143), some (zI (nI r)), some (zI a), some (zI b), some (zI y), (some (zI x)), g6] [] m := by
  intro n
  induction n with
  | zero =>
    intro k x m hk hx  hs hd h
    have ek : k = 5 := by omega
    subst ek hx
    refine Go_rn [125] 100 ?_
    refine br_t (nI_le (a := 5) (b := 5) (by omega) (by omega)) ?_
    exact h m fr_rf hd
  | succ n ih =>
    intro k x m hk hx  hs hd h
    subst hx
    refine Go_rn [89] 100 ?_
    refine br_f (nI_ge (a := k) (b := 5) (by omega) (by omega)) ?_
    refine ⟨0 + k, by rw [Nat.zero_add], by omega, ?_⟩
    refine ⟨44 + 7 * r + k, ixU r k, by omega, ?_⟩
    refine ih (k + 1) _ _ (by omega) (nI_1 k)  (fun j hj => by rw [st_eq, if_neg (by omega)]; exact hs j hj) (fun j hj => ?_) (fun m1 f1 e1 => h m1 (fun o k1 ho => ?_) e1)
    · rw [st_eq]
      by_cases hj2 : j = k
      · rw [if_pos ⟨rfl, by omega⟩, hs k (by omega), hj2]
      · rw [if_neg (by omega)]
        exact hd j (by omega)
    · rw [f1 o k1 ho, st_eq, if_neg (by omega)]
