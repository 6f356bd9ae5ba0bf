/-! 16.palm: what is felt, tasted, read; palms that get used; on both sides -/
def fl (kd u af s f : Int32) : Int32 := let v := mx 0 (s - u - (if f = af then 2 else 0)); if kd = 2 then 2 * v else if kd = 4 then mx 0 (v - 4) else v
def tsF (kd : Int32) (us : Nat → Int32) (af : Int32) (s : Nat → Int32) : Nat → Int32 × Int32
  | 0 => (0, -1)
  | k + 1 => if (tsF kd us af s k).1 < fl kd (us k) af (s k) (nI k) then (fl kd (us k) af (s k) (nI k), nI k) else tsF kd us af s k
def tst (kd : Int32) (us : Nat → Int32) (af : Int32) (s : Nat → Int32) : Int32 := (tsF kd us af s 5).2
def usd (kd t : Int32) (us : Nat → Int32) (f : Nat) : Int32 := if kd = 3 then us f else if nI f = t then mn 9 (us f + 1) else mx 0 (us f - 1)
def rdd (kd t : Int32) : Int32 := if kd = 5 then (if t = 0 then 1 else if t = 1 then 0 else t) else t
def PC (m : pt_M) (kd : Int32) (us : Nat → Int32) (af : Int32) : Prop := m 137 0 = kd ∧ m 137 1 = af ∧ ∀ f, f < 5 → m 138 f = us f
def PM (m : pt_M) (kd : Int32) (us : Nat → Int32) (af : Int32) : Prop := m 143 19 = kd ∧ m 143 21 = af ∧ ∀ f, f < 5 → m 151 f = us f
def okU (us : Nat → Int32) : Prop := ∀ f, f < 5 → 0 ≤ us f ∧ us f ≤ 9
theorem usd_ok {kd t : Int32} {us : Nat → Int32} (h : okU us) : okU (usd kd t us) := by
  intro f hf
  have := h f hf
  unfold usd mn mx
  grind
theorem ixA (w f : Nat) : nI w * 5 + nI f = nI (5 * w + f) := by
  show nI w * nI 5 + nI f = _
  rw [pk_mul, nI_add, Nat.mul_comm]
theorem ixB (w f : Nat) : 3 + 5 * nI w + nI f = nI (3 + (5 * w + f)) := by
  show nI 3 + nI 5 * nI w + nI f = _
  rw [pk_mul, nI_add, nI_add, Nat.add_assoc]
theorem ixD (r : Nat) : nI r * 6 = nI (6 * r) := by
  show nI r * nI 6 = _
  rw [pk_mul, Nat.mul_comm]
theorem ixC (r : Nat) : nI r * 6 + 5 = nI (6 * r + 5) := by
  rw [ixD]
  exact nI_add _ _
theorem ixF (r x : Nat) : 43 + 7 * nI r + nI x = nI (43 + 7 * r + x) := by
  show nI 43 + nI 7 * nI r + nI x = _
  rw [pk_mul, nI_add, nI_add]
/-! the class -/
theorem c_strength {d : Nat} {Q : pt_Q} {m : pt_M} {b w f : Nat} {v : Int32} (hw : w < 8) (hf : f < 5) (hv : m (b + 1) (5 * w + f) = v) (h : Q (some (zI v)) m) : Sp (d + 1) nX4_strength [zR 4 b, zI (nI w), zI (nI f)] m Q := by
  subst hv
  refine sX4_strength ?_
  refine Go_rn [] 100 ?_
  exact ⟨5 * w + f, ixA w f, by omega, h⟩
theorem c_feels {d : Nat} {Q : pt_Q} {m : pt_M} {s : Int32} {f : Nat} {kd u af : Int32} (hf : f < 5) (h1 : m 137 0 = kd) (h2 : m 138 f = u) (h3 : m 137 1 = af) (h : Q (some (zI (fl kd u af s (nI f)))) m) : Sp (d + 1) nX2_feels [zR 2 137, zI s, zI (nI f)] m Q := by
  subst h1 h2 h3
  refine sX2_feels ?_
  refine Go_rn [] 100 ?_
  refine ⟨f, rfl, hf, ?_⟩
  refine ⟨fun c1 => ?_, fun c1 => ?_⟩
  · refine ⟨fun c2 => ?_, fun c2 => ⟨fun c3 => ?_, fun c3 => ?_⟩⟩ <;> refine qe ?_ h <;> simp [fl, c1, c2] <;> try simp [c3]
  · refine ⟨fun c2 => ?_, fun c2 => ⟨fun c3 => ?_, fun c3 => ?_⟩⟩ <;> refine qe ?_ h <;> simp [fl, c1, c2] <;> try simp [c3]
theorem c_swapped {d : Nat} {Q : pt_Q} {m : pt_M} {kd t : Int32} (h1 : m 137 0 = kd) (h : Q (some (zI (rdd kd t))) m) : Sp (d + 1) nX2_swapped [zR 2 137, zI t] m Q := by
  subst h1
  refine sX2_swapped ?_
  refine Go_rn [] 100 ?_
  refine ⟨fun c1 => ⟨fun c2 => ?_, fun c2 => ⟨fun c3 => ?_, fun c3 => ?_⟩⟩, fun c1 => ?_⟩ <;> refine qe ?_ h <;> unfold rdd <;> grind
theorem c_gu_l {d : Nat} {Q : pt_Q} {kd t : Int32} {us : Nat → Int32} (h3 : ¬ kd = 3) : ∀ (n k : Nat) (x : Int32) (m : pt_M), k + n = 5 → x = nI k → m 137 0 = kd → m 137 1 = t → (∀ j, j < k → m 138 j = usd kd t us j) → (∀ j, k ≤ j → j < 5 → m 138 j = us j) →
    (∀ m1, fr (fun o _ => o = 138) m m1 → PC m1 kd (usd kd t us) t → Q none m1) → Go (Sp d) tX2_getsUsedTo Q 16 [some (zR 2 137), some (zI t), some (zI x)] [] m := by
  intro n
  induction n with
  | zero =>
    intro k x m hk hx e1 e2 e3 e4 h
    refine Go_rn [] 100 ?_
    refine br_t (by rw [hx]; exact nI_le (b := k) (a := 5) (by omega) (by omega)) ?_
    exact h m fr_rf ⟨e1, e2, fun f hf => e3 f (by omega)⟩
  | succ n ih =>
    intro k x m hk hx e1 e2 e3 e4 h
    refine Go_rn [16] 100 ?_
    refine br_f (by rw [hx]; exact nI_ge (a := k) (b := 5) (by omega) (by omega)) ?_
    refine ⟨fun c => ?_, fun c => ?_⟩
    · refine ⟨k, hx, by omega, ?_⟩
      refine ⟨k, hx, by omega, ?_⟩
      refine ih (k + 1) _ _ (by omega) (by rw [hx]; exact nI_1 k) (by rw [st_eq, if_neg (by omega)]; exact e1) (by rw [st_eq, if_neg (by omega)]; exact e2) (fun j hj => ?_) (fun j h1 h2 => by rw [st_eq, if_neg (by omega)]; exact e4 j (by omega) h2) (fun m1 f1 p1 => h m1 (fun o k1 ho => by rw [f1 o k1 ho, st_eq, if_neg (fun q => ho q.1)]) p1)
      rw [st_eq]
      by_cases hj2 : j = k
      · rw [if_pos ⟨rfl, hj2⟩, e4 k (by omega) (by omega), hj2]
        have c2 : nI k = t := hx.symm.trans c
        unfold usd
        rw [if_neg h3, if_pos c2]
      · rw [if_neg (by omega)]
        exact e3 j (by omega)
    · refine ⟨k, hx, by omega, ?_⟩
      refine ⟨k, hx, by omega, ?_⟩
      refine ih (k + 1) _ _ (by omega) (by rw [hx]; exact nI_1 k) (by rw [st_eq, if_neg (by omega)]; exact e1) (by rw [st_eq, if_neg (by omega)]; exact e2) (fun j hj => ?_) (fun j h1 h2 => by rw [st_eq, if_neg (by omega)]; exact e4 j (by omega) h2) (fun m1 f1 p1 => h m1 (fun o k1 ho => by rw [f1 o k1 ho, st_eq, if_neg (fun q => ho q.1)]) p1)
      rw [st_eq]
      by_cases hj2 : j = k
      · rw [if_pos ⟨rfl, hj2⟩, e4 k (by omega) (by omega), hj2]
        have c2 : ¬ nI k = t := fun q => c (hx.trans q)
        unfold usd
        rw [if_neg h3, if_neg c2]
      · rw [if_neg (by omega)]
        exact e3 j (by omega)
def Tpalm : Nat → Nat → Prop := fun o k => (o = 137 ∧ k = 1) ∨ o = 138
theorem c_getsUsedTo {d : Nat} {Q : pt_Q} {m : pt_M} {kd t af : Int32} {us : Nat → Int32} (hp : PC m kd us af) (h : ∀ m1, fr Tpalm m m1 → PC m1 kd (usd kd t us) t → Q none m1) : Sp (d + 1) nX2_getsUsedTo [zR 2 137, zI t] m Q := by
  obtain ⟨h1, h2, h3⟩ := hp
  have frs : fr Tpalm m (st m 137 1 t) := fun o k ho => by rw [st_eq, if_neg (fun q => ho (Or.inl q))]
  refine sX2_getsUsedTo ?_
  refine Go_rn [16] 100 ?_
  refine ⟨fun c => ?_, fun c => ?_⟩
  · have c2 : kd = 3 := by rw [← h1]; exact c
    refine h _ frs ⟨by rw [st_eq, if_neg (by omega)]; exact h1, by rw [st_eq, if_pos ⟨rfl, rfl⟩], fun f hf => ?_⟩
    rw [st_eq, if_neg (by omega), h3 f hf]
    unfold usd
    rw [if_pos c2]
  · have c2 : ¬ kd = 3 := by rw [← h1]; exact c
    exact c_gu_l (us := us) c2 5 0 _ _ (by omega) rfl (by rw [st_eq, if_neg (by omega)]; exact h1) (by rw [st_eq, if_pos ⟨rfl, rfl⟩]) (fun j hj => by omega) (fun j _ hj => by rw [st_eq, if_neg (by omega)]; exact h3 j hj) (fun m1 f1 p1 => h m1 (fr_tr frs f1 (fun o k ho => ⟨ho, fun q => ho (Or.inr q)⟩)) p1)
theorem c_to_l {d : Nat} {Q : pt_Q} {kd af : Int32} {us s : Nat → Int32} {w : Nat} {m : pt_M} (hw : w < 8) (hp : PC m kd us af) (hs : ∀ f, f < 5 → m 25 (5 * w + f) = s f) (h : ∀ m1, fr Tpalm m m1 → PC m1 kd (usd kd (tst kd us af s) us) (tst kd us af s) → Q (some (zI (tst kd us af s))) m1) :
    ∀ (n k : Nat) (x t mo : Int32) (g : Option pt_V), k + n = 5 → x = nI k → tsF kd us af s k = (mo, t) → Go (Sp (d + 1)) tX2_tasteOn Q 8 [some (zR 2 137), some (zR 4 24), some (zI (nI w)), some (zI t), some (zI mo), some (zI x), g] [] m := by
  obtain ⟨h1, h2, h3⟩ := id hp
  intro n
  induction n with
  | zero =>
    intro k x t mo g hk hx e
    have ek : k = 5 := by omega
    subst ek
    refine Go_rn [] 100 ?_
    refine br_t (by rw [hx]; exact nI_le (b := 5) (a := 5) (by omega) (by omega)) ?_
    have et : tst kd us af s = t := by unfold tst; rw [e]
    rw [et] at h
    refine c_getsUsedTo hp (fun m1 f1 p1 => ?_)
    exact h m1 f1 p1
  | succ n ih =>
    intro k x t mo g hk hx e
    subst hx
    refine Go_rn [8] 100 ?_
    refine br_f (nI_ge (a := k) (b := 5) (by omega) (by omega)) ?_
    refine c_strength hw (by omega) (hs k (by omega)) ?_
    refine c_feels (by omega) h1 (h3 k (by omega)) h2 ?_
    have e2 : tsF kd us af s (k + 1) = if mo < fl kd (us k) af (s k) (nI k) then (fl kd (us k) af (s k) (nI k), nI k) else (mo, t) := by
      show (if (tsF kd us af s k).1 < _ then _ else _) = _
      rw [e]
    refine ⟨fun c => ?_, fun c => ?_⟩
    · rw [if_neg (by grind)] at e2
      exact ih (k + 1) _ _ _ _ (by omega) (nI_1 k) e2
    · rw [if_pos (by grind)] at e2
      exact ih (k + 1) _ _ _ _ (by omega) (nI_1 k) e2
theorem c_tasteOn {d : Nat} {Q : pt_Q} {kd af : Int32} {us s : Nat → Int32} {w : Nat} {m : pt_M} (hw : w < 8) (hp : PC m kd us af) (hs : ∀ f, f < 5 → m 25 (5 * w + f) = s f) (h : ∀ m1, fr Tpalm m m1 → PC m1 kd (usd kd (tst kd us af s) us) (tst kd us af s) → Q (some (zI (tst kd us af s))) m1) :
    Sp (d + 2) nX2_tasteOn [zR 2 137, zR 4 24, zI (nI w)] m Q := by
  refine sX2_tasteOn ?_
  refine Go_rn [8] 100 ?_
  exact c_to_l hw hp hs h 5 0 _ _ _ _ (by omega) rfl rfl
theorem c_readOn {d : Nat} {Q : pt_Q} {kd af : Int32} {us s : Nat → Int32} {w : Nat} {m : pt_M} (hw : w < 8) (hp : PC m kd us af) (hs : ∀ f, f < 5 → m 25 (5 * w + f) = s f) (h : ∀ m1, fr Tpalm m m1 → PC m1 kd (usd kd (tst kd us af s) us) (tst kd us af s) → Q (some (zI (rdd kd (tst kd us af s)))) m1) :
    Sp (d + 3) nX2_readOn [zR 2 137, zR 4 24, zI (nI w)] m Q := by
  refine sX2_readOn ?_
  refine Go_rn [] 100 ?_
  refine c_tasteOn hw hp hs (fun m1 f1 p1 => ?_)
  refine c_swapped p1.1 ?_
  exact h m1 f1 p1
def Ttake : Nat → Nat → Prop := fun o _ => o = 137 ∨ o = 138
theorem c_take {d : Nat} {Q : pt_Q} {m : pt_M} {σ : Nat → Int32} {r : Nat} (O : OkS σ) (hm : RC m 24 σ) (hr : r < sr σ) (h : ∀ m1, fr Ttake m m1 → PC m1 (σ (43 + 7 * r)) (fun f => σ (44 + 7 * r + f)) (σ (44 + 7 * r + 5)) → Q none m1) : Sp (d + 1) nX2_take [zR 2 137, zR 4 24, zI (nI r)] m Q := by
  obtain ⟨h1, h2, h3, h4, h5⟩ := hm
  have hr5 := O.2.2.2.1
  have e1 : m 26 r = σ (43 + 7 * r) := (h5 r hr).1
  have e2 : ∀ x, x < 6 → m 27 (6 * r + x) = σ (44 + 7 * r + x) := (h5 r hr).2
  refine sX2_take ?_
  refine Go_rn [] 100 ?_
  refine ⟨r, rfl, by omega, ?_⟩
  refine ⟨6 * r + 5, ixC r, by omega, ?_⟩
  refine ⟨6 * r, 0, 5, ixD r, rfl, rfl, by omega, by omega, ?_⟩
  refine h _ ?_ ⟨?_, ?_, ?_⟩
  · intro o k ho
    unfold Ttake at ho
    rw [cpm_eq, if_neg (by omega), st_eq, if_neg (by omega), st_eq, if_neg (by omega)]
  · rw [cpm_eq, if_neg (by omega), st_eq, if_neg (by omega), st_eq, if_pos ⟨rfl, rfl⟩]
    exact e1
  · rw [cpm_eq, if_neg (by omega), st_eq, if_pos ⟨rfl, rfl⟩]
    show st m 137 0 _ 27 (6 * r + 5) = _
    rw [st_eq, if_neg (by omega)]
    exact e2 5 (by omega)
  · intro f hf
    rw [cpm_eq, if_pos ⟨rfl, by omega, by omega⟩, st_eq, if_neg (by omega), st_eq, if_neg (by omega)]
    exact e2 f (by omega)
theorem c_leave {d : Nat} {Q : pt_Q} {m : pt_M} {r : Nat} {kd af : Int32} {us : Nat → Int32} (hr : r < 5) (hp : PC m kd us af) (h : ∀ m1, fr (fun o k => o = 27 ∧ 6 * r ≤ k ∧ k < 6 * r + 6) m m1 → (∀ f, f < 5 → m1 27 (6 * r + f) = us f) → m1 27 (6 * r + 5) = af → Q none m1) : Sp (d + 1) nX2_leave [zR 2 137, zR 4 24, zI (nI r)] m Q := by
  obtain ⟨h1, h2, h3⟩ := hp
  refine sX2_leave ?_
  refine Go_rn [] 100 ?_
  refine ⟨6 * r + 5, ixC r, by omega, ?_⟩
  refine ⟨0, 6 * r, 5, rfl, ixD r, rfl, by omega, by omega, ?_⟩
  refine h _ ?_ ?_ ?_
  · intro o k ho
    rw [cpm_eq, if_neg (by omega), st_eq, if_neg (by omega)]
  · intro f hf
    rw [cpm_eq, if_pos ⟨rfl, by omega, by omega⟩, st_eq, if_neg (by omega)]
    rw [show 0 + (6 * r + f - 6 * r) = f by omega]
    exact h3 f hf
  · rw [cpm_eq, if_neg (by omega), st_eq, if_pos ⟨rfl, rfl⟩]
    exact h2
theorem c_pforget {d : Nat} {Q : pt_Q} {m : pt_M} (h : ∀ m1, fr Tpalm m m1 → PC m1 (m 137 0) (fun _ => 0) (-1) → Q none m1) : Sp (d + 2) nX2_forgetAll [zR 2 137] m Q := by
  refine sX2_forgetAll ?_
  refine Go_rn [] 100 ?_
  refine c_fill5 (fun m1 f1 e1 => ?_)
  refine h m1 (fun o k ho => ?_) ⟨?_, ?_, e1⟩
  · unfold Tpalm at ho
    rw [f1 o k (by omega), st_eq, if_neg (by omega)]
  · rw [f1 _ _ (by omega), st_eq, if_neg (by omega)]
  · rw [f1 _ _ (by omega), st_eq, if_pos ⟨rfl, rfl⟩]
