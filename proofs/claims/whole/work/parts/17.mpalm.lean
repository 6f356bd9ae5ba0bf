/-! 17.mpalm: the model's palm -/
theorem m_strong {d : Nat} {Q : pt_Q} {m : pt_M} {w f : Nat} {v : Int32} (hw : w < 8) (hf : f < 5) (hv : m 147 (3 + (5 * w + f)) = v) (h : Q (some (zI v)) m) : Sp (d + 1) nX7_strong [zR 7 143, zI (nI w), zI (nI f)] m Q := by
  subst hv
  refine sX7_strong ?_
  refine Go_rn [] 100 ?_
  exact ⟨_, ixB w f, by omega, h⟩
theorem m_of {d : Nat} {Q : pt_Q} {m : pt_M} {r x : Nat} {y v : Int32} (hr : r < 5) (hx : x < 7) (hy : y = nI x) (hv : m 147 (43 + 7 * r + x) = v) (h : Q (some (zI v)) m) : Sp (d + 1) nX7_of [zR 7 143, zI (nI r), zI y] m Q := by
  subst hv hy
  refine sX7_of ?_
  refine Go_rn [] 100 ?_
  exact ⟨_, ixF r x, by omega, h⟩
def mfl (kd u af s f : Int32) : Int32 := let v := s - u - (if af = f then 2 else 0); let w := if 0 ≤ v then v else 0; if kd = 2 then 2 * w else if kd = 4 then (if 4 ≤ w then w - 4 else 0) else w
theorem mx0 (v : Int32) : mx 0 v = if 0 ≤ v then v else 0 := by unfold mx; grind
theorem mx4 (w : Int32) (h : 0 ≤ w) : mx 0 (w - 4) = if 4 ≤ w then w - 4 else 0 := by unfold mx; grind
theorem w0 (v : Int32) : 0 ≤ (if 0 ≤ v then v else (0 : Int32)) := by grind
theorem mfl_eq (kd u af s f : Int32) : fl kd u af s f = mfl kd u af s f := by
  unfold fl mfl
  dsimp only
  have e : (if f = af then (2 : Int32) else 0) = if af = f then 2 else 0 := by
    by_cases h : f = af
    · rw [if_pos h, if_pos h.symm]
    · rw [if_neg h, if_neg (fun q => h q.symm)]
  rw [e, mx0, mx4 _ (w0 _)]
theorem m_feels {d : Nat} {Q : pt_Q} {m : pt_M} {s : Int32} {f : Nat} {kd u af : Int32} (hf : f < 5) (h1 : m 143 19 = kd) (h2 : m 151 f = u) (h3 : m 143 21 = af) (h : Q (some (zI (fl kd u af s (nI f)))) m) : Sp (d + 1) nX7_feels [zR 7 143, zI (nI f), zI s] m Q := by
  rw [mfl_eq] at h
  subst h1 h2 h3
  refine sX7_feels ?_
  refine Go_rn [] 100 ?_
  refine ⟨f, rfl, hf, ?_⟩
  refine ⟨fun c1 => ?_, fun c1 => ?_⟩
  · refine ⟨fun c2 => ⟨fun c3 => ?_, fun c3 => ⟨fun c4 => ⟨fun c5 => ?_, fun c5 => ?_⟩, fun c4 => ?_⟩⟩, fun c2 => ⟨fun c3 => ?_, fun c3 => ⟨fun c4 => ⟨fun c5 => ?_, fun c5 => ?_⟩, fun c4 => ?_⟩⟩⟩ <;> refine qe ?_ h <;> simp [mfl, c1, c2] <;> simp_all <;> clear h <;> grind
  · refine ⟨fun c2 => ⟨fun c3 => ?_, fun c3 => ⟨fun c4 => ⟨fun c5 => ?_, fun c5 => ?_⟩, fun c4 => ?_⟩⟩, fun c2 => ⟨fun c3 => ?_, fun c3 => ⟨fun c4 => ⟨fun c5 => ?_, fun c5 => ?_⟩, fun c4 => ?_⟩⟩⟩ <;> refine qe ?_ h <;> simp [mfl, c1, c2] <;> simp_all <;> clear h <;> grind
theorem m_reads {d : Nat} {Q : pt_Q} {m : pt_M} {kd t : Int32} (h1 : m 143 19 = kd) (h : Q (some (zI (rdd kd t))) m) : Sp (d + 1) nX7_reads [zR 7 143, zI t] m Q := by
  subst h1
  refine sX7_reads ?_
  refine Go_rn [] 100 ?_
  refine ⟨fun c1 => ⟨fun c2 => ?_, fun c2 => ⟨fun c3 => ?_, fun c3 => ?_⟩⟩, fun c1 => ?_⟩ <;> refine qe ?_ h <;> unfold rdd <;> grind
theorem m_gu_l {d : Nat} {Q : pt_Q} {kd t af : Int32} {us : Nat → Int32} (ok : okU us) : ∀ (n k : Nat) (x : Int32) (g : Option pt_V) (m : pt_M), k + n = 5 → x = nI k → m 143 19 = kd → (∀ j, j < k → m 151 j = usd kd t us j) → (∀ j, k ≤ j → j < 5 → m 151 j = us j) →
    (∀ m1, fr (fun o k => (o = 143 ∧ k = 21) ∨ o = 151) m m1 → PM m1 kd (usd kd t us) t → Q none m1) → Go (Sp d) tX7_getsUsed Q 2 [some (zR 7 143), some (zI t), some (zI x), g] [] m := by
  intro n
  induction n with
  | zero =>
    intro k x g m hk hx e1 e3 e4 h
    refine Go_rn [] 100 ?_
    refine br_t (by rw [hx]; exact nI_le (b := k) (a := 5) (by omega) (by omega)) ?_
    refine h _ (fun o k ho => by rw [st_eq, if_neg (by omega)]) ⟨by rw [st_eq, if_neg (by omega)]; exact e1, by rw [st_eq, if_pos ⟨rfl, rfl⟩], fun f hf => by rw [st_eq, if_neg (by omega)]; exact e3 f (by omega)⟩
  | succ n ih =>
    intro k x g m hk hx e1 e3 e4 h
    have hu := ok k (by omega)
    refine Go_rn [2] 100 ?_
    refine br_f (by rw [hx]; exact nI_ge (a := k) (b := 5) (by omega) (by omega)) ?_
    refine ⟨fun c => ?_, fun c => ?_⟩
    · have c3 : kd = 3 := by rw [← e1]; exact c
      refine h _ (fun o k ho => by rw [st_eq, if_neg (by omega)]) ⟨by rw [st_eq, if_neg (by omega)]; exact e1, by rw [st_eq, if_pos ⟨rfl, rfl⟩], fun f hf => ?_⟩
      rw [st_eq, if_neg (by omega)]
      by_cases hf2 : f < k
      · exact e3 f hf2
      · rw [e4 f (by omega) hf]
        unfold usd
        rw [if_pos c3]
    have c3 : ¬ kd = 3 := by rw [← e1]; exact c
    refine ⟨k, hx, by omega, ?_⟩
    have nxt : ∀ (y : Int32) (g : Option pt_V), y = usd kd t us k → Go (Sp d) tX7_getsUsed Q 2 [some (zR 7 143), some (zI t), some (zI (x + 1)), g] [] (st m 151 k y) := by
      intro y g hy
      refine ih (k + 1) _ _ _ (by omega) (by rw [hx]; exact nI_1 k) (by rw [st_eq, if_neg (by omega)]; exact e1) (fun j hj => ?_) (fun j h1 h2 => by rw [st_eq, if_neg (by omega)]; exact e4 j (by omega) h2) (fun m1 f1 p1 => h m1 (fun o k1 ho => by rw [f1 o k1 ho, st_eq, if_neg (by omega)]) p1)
      rw [st_eq]
      by_cases hj2 : j = k
      · rw [if_pos ⟨rfl, hj2⟩, hy, hj2]
      · rw [if_neg (by omega)]
        exact e3 j (by omega)
    have ek : m 151 k = us k := e4 k (by omega) (by omega)
    refine ⟨fun c4 => ?_, fun c4 => ?_⟩
    · have c4 : x = t := c4
      refine ⟨fun c5 => ⟨fun c6 => ⟨k, hx, by omega, nxt _ _ ?_⟩, fun c6 => ⟨k, hx, by omega, nxt _ _ ?_⟩⟩, fun c5 => ⟨k, hx, by omega, nxt _ _ ?_⟩⟩ <;> unfold usd mn mx <;> grind
    · have c4 : ¬ x = t := c4
      refine ⟨fun c5 => ⟨fun c6 => ⟨k, hx, by omega, nxt _ _ ?_⟩, fun c6 => ⟨k, hx, by omega, nxt _ _ ?_⟩⟩, fun c5 => ⟨k, hx, by omega, nxt _ _ ?_⟩⟩ <;> unfold usd mn mx <;> grind
def Tmp : Nat → Nat → Prop := fun o k => (o = 143 ∧ k = 21) ∨ o = 151
theorem m_getsUsed {d : Nat} {Q : pt_Q} {m : pt_M} {kd t af : Int32} {us : Nat → Int32} (ok : okU us) (hp : PM m kd us af) (h : ∀ m1, fr Tmp m m1 → PM m1 kd (usd kd t us) t → Q none m1) : Sp (d + 1) nX7_getsUsed [zR 7 143, zI t] m Q := by
  refine sX7_getsUsed ?_
  refine Go_rn [2] 100 ?_
  exact m_gu_l (af := af) ok 5 0 _ _ m (by omega) rfl hp.1 (fun j hj => by omega) (fun j _ hj => hp.2.2 j hj) h
/-- a wall's strengths, with more of one flavour -/
def mor (s : Nat → Int32) (g : Int32) (x : Int32) (f : Nat) : Int32 := s f + (if nI f = g then x else 0)
theorem m_ts_l {d : Nat} {Q : pt_Q} {kd af g x : Int32} {us s : Nat → Int32} {w : Nat} {m : pt_M} (hw : w < 8) (hp : PM m kd us af) (hs : ∀ f, f < 5 → m 147 (3 + (5 * w + f)) = s f) (h : Q (some (zI (tst kd us af (mor s g x)))) m) :
    ∀ (n k : Nat) (y t mo : Int32) (gg : Option pt_V), k + n = 5 → y = nI k → tsF kd us af (mor s g x) k = (mo, t) → Go (Sp (d + 1)) tX7_tastes Q 9 [some (zR 7 143), some (zI (nI w)), some (zI g), some (zI x), some (zI t), some (zI mo), some (zI y), gg] [] m := by
  obtain ⟨h1, h2, h3⟩ := id hp
  intro n
  induction n with
  | zero =>
    intro k y t mo gg hk hx e
    have ek : k = 5 := by omega
    subst ek
    refine Go_rn [] 100 ?_
    refine br_t (by rw [hx]; exact nI_le (b := 5) (a := 5) (by omega) (by omega)) ?_
    have et : tst kd us af (mor s g x) = t := by unfold tst; rw [e]
    rw [et] at h
    exact h
  | succ n ih =>
    intro k y t mo gg hk hx e
    subst hx
    have e2 : tsF kd us af (mor s g x) (k + 1) = if mo < fl kd (us k) af (mor s g x k) (nI k) then (fl kd (us k) af (mor s g x k) (nI k), nI k) else (mo, t) := by
      show (if (tsF kd us af (mor s g x) k).1 < _ then _ else _) = _
      rw [e]
    refine Go_rn [9] 100 ?_
    refine br_f (nI_ge (a := k) (b := 5) (by omega) (by omega)) ?_
    refine m_strong hw (by omega) (hs k (by omega)) ?_
    refine ⟨fun c => ?_, fun c => ?_⟩
    · have hv : mor s g x k = s k + x := by
        unfold mor
        rw [if_pos (show nI k = g from c)]
      rw [hv] at e2
      refine m_feels (by omega) h1 (h3 k (by omega)) h2 ?_
      refine ⟨fun c => ?_, fun c => ?_⟩
      · rw [if_neg (by grind)] at e2
        refine br_t c ?_
        exact ih (k + 1) _ _ _ _ (by omega) (nI_1 k) e2
      · rw [if_pos (by grind)] at e2
        refine br_f c ?_
        exact ih (k + 1) _ _ _ _ (by omega) (nI_1 k) e2
    · have hv : mor s g x k = s k + 0 := by
        unfold mor
        rw [if_neg (show ¬ nI k = g from c)]
      rw [hv] at e2
      refine m_feels (by omega) h1 (h3 k (by omega)) h2 ?_
      refine ⟨fun c => ?_, fun c => ?_⟩
      · rw [if_neg (by grind)] at e2
        refine br_t c ?_
        exact ih (k + 1) _ _ _ _ (by omega) (nI_1 k) e2
      · rw [if_pos (by grind)] at e2
        refine br_f c ?_
        exact ih (k + 1) _ _ _ _ (by omega) (nI_1 k) e2
theorem m_tastes {d : Nat} {Q : pt_Q} {kd af g x : Int32} {us s : Nat → Int32} {w : Nat} {m : pt_M} (hw : w < 8) (hp : PM m kd us af) (hs : ∀ f, f < 5 → m 147 (3 + (5 * w + f)) = s f) (h : Q (some (zI (tst kd us af (mor s g x)))) m) : Sp (d + 2) nX7_tastes [zR 7 143, zI (nI w), zI g, zI x] m Q := by
  refine sX7_tastes ?_
  refine Go_rn [9] 100 ?_
  exact m_ts_l hw hp hs h 5 0 _ _ _ _ (by omega) rfl rfl
theorem mor0 (s : Nat → Int32) : mor s 0 0 = s := by
  funext f
  unfold mor
  rw [ite_self]
  grind
theorem m_taste {d : Nat} {Q : pt_Q} {kd af : Int32} {us s : Nat → Int32} {w : Nat} {m : pt_M} (hw : w < 8) (hp : PM m kd us af) (hs : ∀ f, f < 5 → m 147 (3 + (5 * w + f)) = s f) (h : Q (some (zI (tst kd us af s))) m) : Sp (d + 2) nX7_tastes [zR 7 143, zI (nI w), zI 0, zI 0] m Q := m_tastes hw hp hs (by rw [mor0]; exact h)
def Tlay : Nat → Nat → Prop := fun o k => (o = 143 ∧ (k = 19 ∨ k = 21)) ∨ o = 151
theorem m_lay_l {d : Nat} {Q : pt_Q} {r : Nat} {σ : Nat → Int32} (hr : r < 5) : ∀ (n k : Nat) (x : Int32) (m : pt_M), k + n = 5 → x = nI k → RM m 147 0 σ → m 143 19 = σ (43 + 7 * r) → (∀ j, j < k → m 151 j = σ (44 + 7 * r + j)) →
    (∀ m1, fr Tlay m m1 → PM m1 (σ (43 + 7 * r)) (fun f => σ (44 + 7 * r + f)) (σ (44 + 7 * r + 5)) → Q none m1) → Go (Sp (d + 1)) tX7_layPalm Q 12 [some (zR 7 143), some (zI (nI r)), some (zI x)] [] m := by
  intro n
  induction n with
  | zero =>
    intro k x m hk hx hm e1 e2 h
    refine Go_rn [] 100 ?_
    refine br_t (by rw [hx]; exact nI_le (b := k) (a := 5) (by omega) (by omega)) ?_
    refine m_of (x := 6) hr (by omega) rfl (v := σ (44 + 7 * r + 5)) ((congrArg (m 147) (by omega)).trans (hm (44 + 7 * r + 5) (by omega))) ?_
    refine h _ (fun o k ho => ?_) ⟨by rw [st_eq, if_neg (by omega)]; exact e1, by rw [st_eq, if_pos ⟨rfl, rfl⟩], fun f hf => by rw [st_eq, if_neg (by omega)]; exact e2 f (by omega)⟩
    unfold Tlay at ho
    rw [st_eq, if_neg (by omega)]
  | succ n ih =>
    intro k x m hk hx hm e1 e2 h
    refine Go_rn [12] 100 ?_
    refine br_f (by rw [hx]; exact nI_ge (a := k) (b := 5) (by omega) (by omega)) ?_
    have ex : (1 : Int32) + x = nI (1 + k) := by rw [hx]; exact nI_add 1 k
    refine m_of (x := 1 + k) hr (by omega) ex (v := σ (44 + 7 * r + k)) ((congrArg (m 147) (by omega)).trans (hm (44 + 7 * r + k) (by omega))) ?_
    refine ⟨k, hx, by omega, ?_⟩
    refine ih (k + 1) _ _ (by omega) (by rw [hx]; exact nI_1 k) (RM_fr hm (fun _ _ _ => by rw [st_eq, if_neg (by omega)])) (by rw [st_eq, if_neg (by omega)]; exact e1) (fun j hj => ?_) (fun m1 f1 p1 => h m1 (fun o k1 ho => ?_) p1)
    · rw [st_eq]
      by_cases hj2 : j = k
      · rw [if_pos ⟨rfl, hj2⟩, hj2]
      · rw [if_neg (by omega)]
        exact e2 j (by omega)
    · rw [f1 o k1 ho, st_eq, if_neg (fun q => ho (Or.inr q.1))]
theorem m_layPalm {d : Nat} {Q : pt_Q} {m : pt_M} {σ : Nat → Int32} {r : Nat} (O : OkS σ) (hm : RM m 147 0 σ) (hr : r < sr σ) (h : ∀ m1, fr Tlay m m1 → PM m1 (σ (43 + 7 * r)) (fun f => σ (44 + 7 * r + f)) (σ (44 + 7 * r + 5)) → Q none m1) : Sp (d + 2) nX7_layPalm [zR 7 143, zI (nI r)] m Q := by
  have hr5 := O.2.2.2.1
  refine sX7_layPalm ?_
  refine Go_rn [12] 100 ?_
  refine m_of (x := 0) (by omega) (by omega) rfl (v := σ (43 + 7 * r)) ((congrArg (m 147) (by omega)).trans (hm (43 + 7 * r) (by omega))) ?_
  refine m_lay_l (by omega) 5 0 _ _ (by omega) rfl (RM_fr hm (fun _ _ _ => by rw [st_eq, if_neg (by omega)])) (by rw [st_eq, if_pos ⟨rfl, rfl⟩]) (fun j hj => by omega) (fun m1 f1 p1 => h m1 (fun o k ho => ?_) p1)
  unfold Tlay at ho
  rw [f1 o k ho, st_eq, if_neg (by omega)]
