/-! 39c.copies: the copying loop of the model's both (written by gen_both.py) -/
theorem m_both_c {d : Nat} {Q : pt_Q} {v1 v2 v3 v4 v5 v6 : Int32} {g8 g9 : Option pt_V} {f : Nat → Int32} : ∀ (n k : Nat) (x : Int32) (m : pt_M), k + n = 8 → x = nI k →  (∀ j, j < 8 → m 153 (0 + j) = f j) → (∀ j, j < k → m 154 (0 + j) = f j) →
    (∀ m1, fr (fun o k => o = 154 ∧ 0 ≤ k ∧ k < 0 + 8) m m1 → (∀ j, j < 8 → m1 154 (0 + j) = f j) → Go (Sp d) tX7_both Q 101 [some (zR 7 143), some (zI v1), some (zI v2), some (zI v3), some (zI v4), some (zI v5), some (zI v6), (some (zI (nI 8))), g8, g9] [] m1) → Go (Sp d) tX7_both Q 74 [some (zR 7 143), some (zI v1), some (zI v2), some (zI v3), some (zI v4), some (zI v5), some (zI v6), (some (zI x)), g8, g9] [] m := by
  intro n
  induction n with
  | zero =>
    intro k x m hk hx  hs hd h
    have ek : k = 8 := by omega
    subst ek hx
    refine Go_rn [101] 100 ?_
    refine br_t (nI_le (a := 8) (b := 8) (by omega) (by omega)) ?_
    exact h m fr_rf hd
  | succ n ih =>
    intro k x m hk hx  hs hd h
    subst hx
    refine Go_rn [74] 100 ?_
    refine br_f (nI_ge (a := k) (b := 8) (by omega) (by omega)) ?_
    refine ⟨0 + k, by rw [Nat.zero_add], by omega, ?_⟩
    refine ⟨0 + k, by rw [Nat.zero_add], by omega, ?_⟩
    refine ih (k + 1) _ _ (by omega) (nI_1 k)  (fun j hj => by rw [st_eq, if_neg (by omega)]; exact hs j hj) (fun j hj => ?_) (fun m1 f1 e1 => h m1 (fun o k1 ho => ?_) e1)
    · rw [st_eq]
      by_cases hj2 : j = k
      · rw [if_pos ⟨rfl, by omega⟩, hs k (by omega), hj2]
      · rw [if_neg (by omega)]
        exact hd j (by omega)
    · rw [f1 o k1 ho, st_eq, if_neg (by omega)]
