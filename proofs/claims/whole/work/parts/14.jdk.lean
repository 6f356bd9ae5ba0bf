/-! 14.jdk: fill, texts -/
def cT (i k : Nat) : Int32 := (pt_byt.getD i []).getD k 0
theorem cT_all : ∀ i, i < 7 → ∀ k, k < 10 → ((cT i k &&& 255).toUInt32 % 65536).toInt32 = cT i k ∧ narrow .char (.int (cT i k)) = .int (cT i k) := by decide +kernel
theorem pt_len_all : ∀ i, i < 7 → pt_len.getD i 0 < 10 ∧ nI (pt_len.getD i 0) >>> ((0 : Int32) &&& 31) = nI (pt_len.getD i 0) := by decide +kernel
theorem c_coder {d : Nat} {Q : pt_Q} {m : pt_M} {i : Nat} (h : Q (some (zI 0)) m) : Sp (d + 1) nJ0_coder [zR 12 i] m Q := by
  refine sJ0_coder ?_
  refine Go_rn [] 100 ?_
  refine br_f (by decide) ?_
  exact ⟨rfl, h⟩
theorem c_isLatin1 {d : Nat} {Q : pt_Q} {m : pt_M} {i : Nat} (h : Q (some (zI 1)) m) : Sp (d + 1) nJ0_isLatin1 [zR 12 i] m Q := by
  refine sJ0_isLatin1 ?_
  refine Go_rn [] 100 ?_
  refine br_f (by decide) ?_
  refine br_t rfl ?_
  exact ⟨by decide +kernel, h⟩
theorem c_strlen {d : Nat} {Q : pt_Q} {m : pt_M} {i : Nat} (hi : i < 7) (h : Q (some (zI (nI (pt_len.getD i 0)))) m) : Sp (d + 2) nJ0_length [zR 12 i] m Q := by
  refine sJ0_length ?_
  refine Go_rn [] 100 ?_
  refine c_coder ?_
  refine qe (pt_len_all i hi).2 h
theorem c_ckix {d : Nat} {Q : pt_Q} {m : pt_M} {k n : Nat} (hk : k < n) (hn : n < 2 ^ 31) (h : Q (some (zI (nI k))) m) : Sp (d + 1) nJ3_checkIndex [zI (nI k), zI (nI n), zR 22 0] m Q := by
  refine sJ3_checkIndex ?_
  refine Go_rn [] 100 ?_
  refine br_f (nI_pos (by omega)) ?_
  refine br_t (nI_lt hk hn) ?_
  exact h
theorem c_ckix2 {d : Nat} {Q : pt_Q} {m : pt_M} {k n : Nat} (hk : k < n) (hn : n < 2 ^ 31) (h : Q none m) : Sp (d + 2) nJ0_checkIndex [zI (nI k), zI (nI n)] m Q := by
  refine sJ0_checkIndex ?_
  refine Go_rn [] 100 ?_
  refine c_ckix hk hn ?_
  exact h
theorem c_lcharAt {d : Nat} {Q : pt_Q} {m : pt_M} {i k : Nat} (hi : i < 7) (hk : k < pt_len.getD i 0) (h : Q (some (zI (cT i k))) m) : Sp (d + 3) nJ1_charAt [zR 13 i, zI (nI k)] m Q := by
  have hl := (pt_len_all i hi).1
  refine sJ1_charAt ?_
  refine Go_rn [] 100 ?_
  refine c_ckix2 hk (by omega) ?_
  refine ⟨k, rfl, hk, ?_⟩
  have e := cT_all i hi k (by omega)
  show narrow .char (.int ((cT i k &&& 255).toUInt32 % 65536).toInt32) = .int ((cT i k &&& 255).toUInt32 % 65536).toInt32 ∧ Q (some (zI ((cT i k &&& 255).toUInt32 % 65536).toInt32)) m
  rw [e.1]
  exact ⟨e.2, h⟩
theorem c_charAt {d : Nat} {Q : pt_Q} {m : pt_M} {i k : Nat} (hi : i < 7) (hk : k < pt_len.getD i 0) (h : Q (some (zI (cT i k))) m) : Sp (d + 4) nJ0_charAt [zR 12 i, zI (nI k)] m Q := by
  have hl := (pt_len_all i hi).1
  refine sJ0_charAt ?_
  refine Go_rn [] 100 ?_
  refine c_isLatin1 ?_
  refine br_f (by decide) ?_
  refine c_lcharAt hi hk ?_
  exact ⟨(cT_all i hi k (by omega)).2, h⟩
/-- Arrays.fill: the loop -/
theorem c_fill40_l {d : Nat} {Q : pt_Q} {o : Nat} {v : Int32} : ∀ (n k : Nat) (x : Int32) (m : pt_M), k + n = 40 → x = nI k → (∀ m1, fr (fun a _ => a = o) m m1 → (∀ j, j < k → m1 o j = m o j) → (∀ j, k ≤ j → j < 40 → m1 o j = v) → Q none m1) →
    Go (Sp d) tJ7_fill Q 5 [some (zR 1040 o), some (zI v), some (zI x), some (zI (nI 40))] [] m := by
  intro n
  induction n with
  | zero =>
    intro k x m hk hx h
    refine Go_rn [] 100 ?_
    refine br_t (by rw [hx]; exact nI_le (by omega) (by omega)) ?_
    exact h m fr_rf (fun _ _ => rfl) (fun j h1 h2 => by omega)
  | succ n ih =>
    intro k x m hk hx h
    refine Go_rn [5] 100 ?_
    refine br_f (by rw [hx]; exact nI_ge (by omega) (by omega)) ?_
    refine ⟨k, hx, by omega, ?_⟩
    refine ih (k + 1) _ _ (by omega) (by rw [hx]; exact nI_1 k) (fun m1 h1 h2 h3 => h m1 ?_ ?_ ?_)
    · intro a b hab
      rw [h1 a b hab, st_eq, if_neg (fun q => hab q.1)]
    · intro j hj
      rw [h2 j (by omega), st_eq, if_neg (by omega)]
    · intro j hj1 hj2
      by_cases e : j = k
      · rw [h2 j (by omega), st_eq, if_pos ⟨rfl, e⟩]
      · exact h3 j (by omega) hj2
theorem c_fill40 {d : Nat} {Q : pt_Q} {o : Nat} {v : Int32} {m : pt_M} (h : ∀ m1, fr (fun a _ => a = o) m m1 → (∀ j, j < 40 → m1 o j = v) → Q none m1) : Sp (d + 1) nJ7_fill [zR 1040 o, zI v] m Q := by
  refine sJ7_fill ?_
  refine Go_rn [5] 100 ?_
  exact c_fill40_l 40 0 _ m (by omega) rfl (fun m1 h1 _ h3 => h m1 h1 (fun j hj => h3 j (Nat.zero_le _) hj))
/-- Arrays.fill: the loop -/
theorem c_fill5_l {d : Nat} {Q : pt_Q} {o : Nat} {v : Int32} : ∀ (n k : Nat) (x : Int32) (m : pt_M), k + n = 5 → x = nI k → (∀ m1, fr (fun a _ => a = o) m m1 → (∀ j, j < k → m1 o j = m o j) → (∀ j, k ≤ j → j < 5 → m1 o j = v) → Q none m1) →
    Go (Sp d) tJ7_fill Q 5 [some (zR 1005 o), some (zI v), some (zI x), some (zI (nI 5))] [] m := by
  intro n
  induction n with
  | zero =>
    intro k x m hk hx h
    refine Go_rn [] 100 ?_
    refine br_t (by rw [hx]; exact nI_le (by omega) (by omega)) ?_
    exact h m fr_rf (fun _ _ => rfl) (fun j h1 h2 => by omega)
  | succ n ih =>
    intro k x m hk hx h
    refine Go_rn [5] 100 ?_
    refine br_f (by rw [hx]; exact nI_ge (by omega) (by omega)) ?_
    refine ⟨k, hx, by omega, ?_⟩
    refine ih (k + 1) _ _ (by omega) (by rw [hx]; exact nI_1 k) (fun m1 h1 h2 h3 => h m1 ?_ ?_ ?_)
    · intro a b hab
      rw [h1 a b hab, st_eq, if_neg (fun q => hab q.1)]
    · intro j hj
      rw [h2 j (by omega), st_eq, if_neg (by omega)]
    · intro j hj1 hj2
      by_cases e : j = k
      · rw [h2 j (by omega), st_eq, if_pos ⟨rfl, e⟩]
      · exact h3 j (by omega) hj2
theorem c_fill5 {d : Nat} {Q : pt_Q} {o : Nat} {v : Int32} {m : pt_M} (h : ∀ m1, fr (fun a _ => a = o) m m1 → (∀ j, j < 5 → m1 o j = v) → Q none m1) : Sp (d + 1) nJ7_fill [zR 1005 o, zI v] m Q := by
  refine sJ7_fill ?_
  refine Go_rn [5] 100 ?_
  exact c_fill5_l 5 0 _ m (by omega) rfl (fun m1 h1 _ h3 => h m1 h1 (fun j hj => h3 j (Nat.zero_le _) hj))
