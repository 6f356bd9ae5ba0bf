/-! 13.base: memory, places, frames -/
theorem st_eq (m : pt_M) (o k : Nat) (x : Int32) (a b : Nat) : st m o k x a b = if a = o ∧ b = k then x else m a b := by
  unfold st
  by_cases h : a = o
  · subst h
    rw [if_pos rfl]
    by_cases h2 : b = k
    · rw [if_pos h2, if_pos ⟨rfl, h2⟩]
    · rw [if_neg h2, if_neg (fun q => h2 q.2)]
  · rw [if_neg h, if_neg (fun q => h q.1)]
theorem cpm_eq (m : pt_M) (o1 a o2 b n q k : Nat) : cpm m o1 a o2 b n q k = if q = o2 ∧ b ≤ k ∧ k < b + n then m o1 (a + (k - b)) else m q k := by
  unfold cpm
  by_cases h : q = o2
  · subst h
    rw [if_pos rfl]
    by_cases h2 : b ≤ k ∧ k < b + n
    · rw [if_pos h2, if_pos ⟨rfl, h2⟩]
    · rw [if_neg h2, if_neg (fun q => h2 q.2)]
  · rw [if_neg h, if_neg (fun q => h q.1)]
/-- nothing but T has changed -/
def fr (T : Nat → Nat → Prop) (m m1 : pt_M) : Prop := ∀ o k, ¬ T o k → m1 o k = m o k
theorem fr_rf {T : Nat → Nat → Prop} {m : pt_M} : fr T m m := fun _ _ _ => rfl
theorem fr_tr {T1 T2 T : Nat → Nat → Prop} {m m1 m2 : pt_M} (h1 : fr T1 m m1) (h2 : fr T2 m1 m2) (ht : ∀ o k, ¬ T o k → ¬ T1 o k ∧ ¬ T2 o k) : fr T m m2 := fun o k h => (h2 o k (ht o k h).2).trans (h1 o k (ht o k h).1)
theorem nI_inj {a b : Nat} (h : nI a = nI b) (ha : a < 2 ^ 31) (hb : b < 2 ^ 31) : a = b := (nI_eq ha hb).mp h
theorem qv {Q : pt_Q} {m : pt_M} {P : Int32 → Prop} {x y : Int32} (e : x = y) (h : Q (some (zI y)) m) : Q (some (zI x)) m := e ▸ h
/-- a place, by its number -/
theorem ixE {i : Int32} {N : Nat} {P : Nat → Prop} (j : Nat) (e : i = nI j) (hj : j < N) (h : P j) : ∃ j, i = nI j ∧ j < N ∧ P j := ⟨j, e, hj, h⟩
theorem nI_to {n : Nat} (h : n < 2 ^ 31) : (nI n).toInt = (n : Int) := nI_toInt h
/-- a check's answer, for both ends -/
theorem pbool {d k : Nat} {as : List pt_V} {m : pt_M} {Q : pt_Q} (h : Sp d k as m Q) : Sp d k as m Q := h
