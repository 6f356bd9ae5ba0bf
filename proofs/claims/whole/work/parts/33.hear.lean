/-! 33.hear: what a row tells for the walls of a walk; wrong -/
theorem wa_inj {a b j k : Nat} (hj : j < wn a b) (hk : k < wn a b) (e : wa a b j = wa a b k) : j = k := by
  unfold wa at e
  unfold wn at hj hk
  by_cases c : a ≤ b
  · rw [if_pos c] at hj hk e
    rw [if_pos c] at e
    omega
  · rw [if_neg c] at hj hk e
    rw [if_neg c] at e
    omega
theorem c_hear_l {d : Nat} {Q : pt_Q} {r a b N : Nat} {l low : Int32} {f : Nat → Int32} {k5 : Int32} (ha : a < 8) (hb : b < 8) (hr : r < 8) (hN : wn a b ≤ N) (hN2 : N ≤ 40) :
    ∀ (n k : Nat) (x : Int32) (g8 : Option pt_V) (m : pt_M), k + n = wn a b → x = nI k → (∀ j, j < 40 → m (1 + 1 + 2 * r + 1) j = f j) → (∀ j, j < k → m 139 (wa a b j) = f j) →
    (∀ m1, fr (fun o _ => o = 139) m m1 → (∃ j, j < wn a b ∧ ¬ (low ≤ f j ∧ f j < 5)) → Q (some (zI (-1000001))) m1) →
    (∀ m1, fr (fun o _ => o = 139) m m1 → (∀ j, k ≤ j → j < wn a b → low ≤ f j ∧ f j < 5) → (∀ j, j < wn a b → m1 139 (wa a b j) = f j) → Q (some (zI 0)) (st m1 0 7 0)) →
    Go (Sp (d + 1)) tX6_hearMessage Q 49 [some (zR 6 0), some (zI k5), some (zI (nI a)), some (zI (nI b)), some (zI low), some (zR 3 (1 + 1 + 2 * r)), some (zI (nI (wn a b))), some (zI x), g8] [] m := by
  have hw8 := wn_8 ha hb
  intro n
  induction n with
  | zero =>
    intro k x g8 m hk hx h1 h2 hb1 h
    have ek : k = wn a b := by omega
    subst ek hx
    refine Go_rn [] 100 ?_
    refine br_t (nI_le (Nat.le_refl _) (by omega)) ?_
    refine c_noFinding ?_
    exact h m fr_rf (fun j q1 q2 => by omega) h2
  | succ n ih =>
    intro k x g8 m hk hx h1 h2 hb1 h
    subst hx
    refine Go_rn [49] 100 ?_
    refine br_f (nI_ge (a := k) (b := wn a b) (by omega) (by omega)) ?_
    refine ⟨k, rfl, by omega, ?_⟩
    have ev : m (1 + 1 + 2 * r + 1) k = f k := h1 k (by omega)
    refine ⟨fun c => ?_, fun c => ⟨fun c2 => ?_, fun c2 => ?_⟩⟩
    · have c1 : f k < low := by rw [← ev]; exact c
      exact hb1 m fr_rf ⟨k, by omega, by clear hb1 h ih; grind⟩
    · have c1 : ¬ f k < low := by rw [← ev]; exact c
      have c3 : f k < 5 := by rw [← ev]; exact c2
      refine c_wallOnWay ha hb (show k < wn a b by omega) ?_
      have hw := wa_lt ha hb (show k < wn a b by omega)
      refine ⟨wa a b k, rfl, hw, ?_⟩
      refine ih (k + 1) _ _ _ (by omega) (nI_1 k) (fun j hj => by rw [st_eq, if_neg (by omega)]; exact h1 j hj) (fun j hj => ?_) (fun m1 f1 q => hb1 m1 (fun o i ho => by rw [f1 o i ho, st_eq, if_neg (fun z => ho z.1)]) q) (fun m1 f1 q1 q2 => h m1 (fun o i ho => by rw [f1 o i ho, st_eq, if_neg (fun z => ho z.1)]) (fun j q3 q4 => ?_) q2)
      · rw [st_eq]
        by_cases e : j = k
        · rw [e, if_pos ⟨rfl, rfl⟩]; exact ev
        · rw [if_neg (fun z => e (wa_inj (by omega) (by omega) z.2))]
          exact h2 j (by omega)
      · by_cases e : j = k
        · rw [e]
          exact ⟨by clear hb1 h ih; grind, c3⟩
        · exact q1 j (by omega) q4
    · have c3 : ¬ f k < 5 := by rw [← ev]; exact c2
      exact hb1 m fr_rf ⟨k, by omega, fun q => c3 q.2⟩
def heardP (f : Nat → Int32) (n : Nat) (low : Int32) : Prop := ∀ j, j < n → low ≤ f j ∧ f j < 5
theorem c_hear {d : Nat} {Q : pt_Q} {m : pt_M} {a : pt_al} {r A B : Nat} {low : Int32} (O : OK a) (hC : IC m a) (hA : A < 8) (hB : B < 8) (hr : r < 8)
    (h1 : aR a r = none → Q (some (zI (-1000010 - 1))) (st m 0 7 1))
    (h2 : ∀ l N f, aR a r = some (l, N, f) → ¬ wn A B ≤ N → Q (some (zI (-1000010 - 2))) (st m 0 7 2))
    (h3 : ∀ l N f m1, aR a r = some (l, N, f) → wn A B ≤ N → ¬ heardP f (wn A B) low → fr (fun o _ => o = 139) m m1 → Q (some (zI (-1000001))) m1)
    (h4 : ∀ l N f m1, aR a r = some (l, N, f) → wn A B ≤ N → heardP f (wn A B) low → fr (fun o _ => o = 139) m m1 → (∀ j, j < wn A B → m1 139 (wa A B j) = f j) → Q (some (zI 0)) (st m1 0 7 0)) :
    Sp (d + 2) nX6_hearMessage [zR 6 0, zI (nI r), zI (nI A), zI (nI B), zI low] m Q := by
  have hw8 := wn_8 hA hB
  refine sX6_hearMessage ?_
  refine Go_rn [49] 100 ?_
  refine ⟨r, rfl, hr, ?_⟩
  cases e : aR a r with
  | none =>
    refine br_t (cR_none hC.2.2.2.1 hr e) ?_
    refine c_finding ?_
    exact h1 e
  | some v =>
    obtain ⟨l, N, f⟩ := v
    obtain ⟨g1, g2, g3, g4⟩ := cR_some hC.2.2.2.1 hr e
    have ob := O.2.2.2.1 r hr l N f e
    refine br_f (fun q => absurd (g1.symm.trans q) (by decide)) ?_
    refine c_wallsOnWay hA hB ?_
    have hp : hpP 0 (nI (wn A B)) N ↔ wn A B ≤ N := by
      unfold hpP
      rw [xN_nI (by omega)]
      constructor
      · intro q
        have := q.2.2
        have e0 : xN 0 = 0 := rfl
        omega
      · intro q
        have e0 : xN 0 = 0 := rfl
        exact ⟨by decide, nI_pos' (by omega), by omega⟩
    refine c_hasPlaces g3 ob.2 (fun c => ?_) (fun c => ?_)
    · rw [hp] at c
      refine br_f (by decide) ?_
      refine c_hear_l (l := 0) (f := f) hA hB hr c ob.2 (wn A B) 0 _ _ m (by omega) rfl g4 (fun j hj => by omega) (fun m1 f1 q => ?_) (fun m1 f1 q1 q2 => ?_)
      · obtain ⟨j, q1, q2⟩ := q
        exact h3 l N f m1 e c (fun q3 => q2 (q3 j q1)) f1
      · exact h4 l N f m1 e c (fun j hj => q1 j (by omega) hj) f1 q2
    · rw [hp] at c
      refine br_t rfl ?_
      refine c_finding ?_
      exact h2 l N f e c
/-! the model's -/
theorem m_barred_l {d : Nat} {Q : pt_Q} {r n N : Nat} {low : Int32} {f : Nat → Int32} (hr : r < 8) (hn : n ≤ N) (hN : N ≤ 40) {m : pt_M} (hf : ∀ j, j < 40 → m 146 (40 * r + j) = f j) :
    ∀ (nn k : Nat) (x : Int32), k + nn = n → x = nI k → ((∃ j, j < n ∧ ¬ (low ≤ f j ∧ f j < 5)) → Q (some (zI (-1000001))) m) → ((∀ j, k ≤ j → j < n → low ≤ f j ∧ f j < 5) → Q (some (zI 0)) (st m 143 1 0)) →
    Go (Sp (d + 1)) tX7_barred Q 34 [some (zR 7 143), some (zI (nI r)), some (zI (nI n)), some (zI low), some (zI x)] [] m := by
  intro nn
  induction nn with
  | zero =>
    intro k x hk hx h1 h2
    have ek : k = n := by omega
    subst ek hx
    refine Go_rn [] 100 ?_
    refine br_t (nI_le (Nat.le_refl _) (by omega)) ?_
    exact h2 (fun j q1 q2 => by omega)
  | succ nn ih =>
    intro k x hk hx h1 h2
    subst hx
    refine Go_rn [34] 100 ?_
    refine br_f (nI_ge (a := k) (b := n) (by omega) (by omega)) ?_
    refine ⟨40 * r + k, ixH r k, by omega, ?_⟩
    have ev : m 146 (40 * r + k) = f k := hf k (by omega)
    refine m_inI (v := m 146 (40 * r + k)) (lo := low) (hi := 4) rfl (by decide) (fun c => ?_) (fun c => ?_)
    · rw [ev] at c
      refine br_f (by decide) ?_
      refine ih (k + 1) _ (by omega) (nI_1 k) h1 (fun q => h2 (fun j q1 q2 => ?_))
      by_cases e : j = k
      · rw [e]
        exact ⟨c.1, by have := c.2; clear h1 h2 ih; grind⟩
      · exact q j (by omega) q2
    · rw [ev] at c
      refine br_t rfl ?_
      exact h1 ⟨k, by omega, fun q => c ⟨q.1, by have := q.2; clear h1 h2 ih; grind⟩⟩
theorem m_barred {d : Nat} {Q : pt_Q} {m : pt_M} {a : pt_al} {r n : Nat} {low : Int32} (O : OK a) (hM : IM m a) (hr : r < 8) (hn : n ≤ 8)
    (h1 : aR a r = none → Q (some (zI (-1000010 - 1))) (st m 143 1 1))
    (h2 : ∀ l N f, aR a r = some (l, N, f) → ¬ n ≤ N → Q (some (zI (-1000010 - 2))) (st m 143 1 2))
    (h3 : ∀ l N f, aR a r = some (l, N, f) → n ≤ N → ¬ heardP f n low → Q (some (zI (-1000001))) m)
    (h4 : ∀ l N f, aR a r = some (l, N, f) → n ≤ N → heardP f n low → Q (some (zI 0)) (st m 143 1 0)) :
    Sp (d + 2) nX7_barred [zR 7 143, zI (nI r), zI (nI n), zI low] m Q := by
  refine sX7_barred ?_
  refine Go_rn [34] 100 ?_
  refine ⟨r, rfl, hr, ?_⟩
  cases e : aR a r with
  | none =>
    have g1 := (hM.2.2.2.1 r hr).1 e
    refine br_f (by show ¬ 0 ≤ m 144 r; rw [g1]; decide) ?_
    refine m_finding ?_
    exact h1 e
  | some v =>
    obtain ⟨l, N, f⟩ := v
    obtain ⟨g1, g2, g3⟩ := (hM.2.2.2.1 r hr).2 l N f e
    have ob := O.2.2.2.1 r hr l N f e
    refine br_t (by show 0 ≤ m 144 r; rw [g1]; exact nI_pos' (by omega)) ?_
    refine ⟨r, rfl, hr, ?_⟩
    refine ⟨fun c => ?_, fun c => ?_⟩
    · have c1 : nI n ≤ nI N := by rw [← g2]; exact c
      rw [nI_leI (by omega) (by omega)] at c1
      refine m_barred_l hr c1 ob.2 g3 n 0 _ (by omega) rfl (fun q => ?_) (fun q => ?_)
      · obtain ⟨j, q1, q2⟩ := q
        exact h3 l N f e c1 (fun q3 => q2 (q3 j q1))
      · exact h4 l N f e c1 (fun j hj => q j (by omega) hj)
    · have c1 : ¬ nI n ≤ nI N := by rw [← g2]; exact c
      rw [nI_leI (by omega) (by omega)] at c1
      refine m_finding ?_
      exact h2 l N f e c1
noncomputable def hearP (a : pt_al) (r n : Nat) (low : Int32) (ok : (Nat → Int32) → pt_al × Int32) : pt_al × Int32 := match aR a r with
  | none => (aFs a 1, -1000011)
  | some (_, N, f) => cif (n ≤ N) (cif (heardP f n low) (ok f) (a, -1000001)) (aFs a 2, -1000012)
theorem hearP_n {a : pt_al} {r n : Nat} {low : Int32} {ok : (Nat → Int32) → pt_al × Int32} (e : aR a r = none) : hearP a r n low ok = (aFs a 1, -1000011) := by
  unfold hearP
  rw [e]
theorem hearP_s {a : pt_al} {r n : Nat} {low : Int32} {ok : (Nat → Int32) → pt_al × Int32} {l N : Nat} {f : Nat → Int32} (e : aR a r = some (l, N, f)) : hearP a r n low ok = cif (n ≤ N) (cif (heardP f n low) (ok f) (a, -1000001)) (aFs a 2, -1000012) := by
  unfold hearP
  rw [e]
theorem hearP_ok {a : pt_al} {r n : Nat} {low : Int32} {ok : (Nat → Int32) → pt_al × Int32} (O : OK a) (h : ∀ f, OK (ok f).1) : OK (hearP a r n low ok).1 := by
  cases e : aR a r with
  | none => rw [hearP_n e]; exact O
  | some v =>
    obtain ⟨l, N, f⟩ := v
    rw [hearP_s e]
    by_cases c : n ≤ N
    · rw [cif_t c]
      by_cases c2 : heardP f n low
      · rw [cif_t c2]; exact h f
      · rw [cif_f c2]; exact O
    · rw [cif_f c]; exact O
