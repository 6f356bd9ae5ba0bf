/-! 42.order: order of the class -/
def orS (kd : Int32) (us : Nat → Int32) (af : Int32) : List Nat → (Nat → Int32) × Int32
  | [] => (us, af)
  | t :: L => (usd kd (nI t) (orS kd us af L).1, nI t)
def decU (kd : Int32) : Nat → Int32 → Int32
  | 0, u => u
  | n + 1, u => if kd = 3 then decU kd n u else mx 0 (decU kd n u - 1)
def fA (kd : Int32) (us : Nat → Int32) (af s : Int32) : Nat → Nat → Int32
  | 0, f => fl kd (us f) af s (nI f)
  | p + 1, f => fl kd (decU kd (p + 1) (us f)) (-1) s (nI f)
def avB (kd : Int32) (us : Nat → Int32) (af s : Int32) (p f : Nat) : Bool := decide (0 < fA kd us af s p f)
theorem orS_u {kd af : Int32} {us : Nat → Int32} {f : Nat} (hf : f < 5) : ∀ (L : List Nat), ¬ f ∈ L → (∀ t, t ∈ L → t < 5) → (orS kd us af L).1 f = decU kd L.length (us f)
  | [], _, _ => rfl
  | t :: L, h1, h2 => by
    have ih := orS_u (kd := kd) (af := af) (us := us) hf L (fun q => h1 (List.mem_cons_of_mem _ q)) (fun u hu => h2 u (List.mem_cons_of_mem _ hu))
    have ht := h2 t List.mem_cons_self
    have hne : ¬ nI f = nI t := fun q => h1 (by rw [nI_inj q (by omega) (by omega)]; exact List.mem_cons_self)
    show usd kd (nI t) (orS kd us af L).1 f = if kd = 3 then decU kd L.length (us f) else mx 0 (decU kd L.length (us f) - 1)
    unfold usd
    rw [ih, if_neg hne]
theorem fl_no {kd u s f a b : Int32} (h1 : ¬ f = a) (h2 : ¬ f = b) : fl kd u a s f = fl kd u b s f := by
  unfold fl
  rw [if_neg h1, if_neg h2]
theorem nI_m1 {f : Nat} (hf : f < 5) : ¬ nI f = -1 := fun q => by
  have : (0 : Int32) ≤ nI f := nI_pos' (by omega)
  rw [q] at this
  exact absurd this (by decide)
theorem orS_fl {kd af s : Int32} {us : Nat → Int32} {f : Nat} (hf : f < 5) : ∀ (L : List Nat), ¬ f ∈ L → (∀ t, t ∈ L → t < 5) → fl kd ((orS kd us af L).1 f) (orS kd us af L).2 s (nI f) = fA kd us af s L.length f
  | [], _, _ => rfl
  | t :: L, h1, h2 => by
    have ht := h2 t List.mem_cons_self
    have hne : ¬ nI f = nI t := fun q => h1 (by rw [nI_inj q (by omega) (by omega)]; exact List.mem_cons_self)
    have e := orS_u (kd := kd) (af := af) (us := us) hf (t :: L) h1 h2
    show fl kd ((orS kd us af (t :: L)).1 f) (nI t) s (nI f) = fl kd (decU kd (L.length + 1) (us f)) (-1) s (nI f)
    rw [e]
    exact fl_no hne (nI_m1 hf)
theorem decU_r {kd u : Int32} (h : 0 ≤ u ∧ u ≤ 9) : ∀ n, 0 ≤ decU kd n u ∧ decU kd n u ≤ 9 ∧ decU kd (n + 1) u ≤ decU kd n u
  | 0 => by
    refine ⟨h.1, h.2, ?_⟩
    show (if kd = 3 then u else mx 0 (u - 1)) ≤ u
    unfold mx
    grind
  | n + 1 => by
    obtain ⟨h1, h2, h3⟩ := decU_r (kd := kd) h n
    have key : ∀ v : Int32, 0 ≤ v → v ≤ 9 → 0 ≤ (if kd = 3 then v else mx 0 (v - 1)) ∧ (if kd = 3 then v else mx 0 (v - 1)) ≤ v := fun v q1 q2 => by
      unfold mx
      grind
    obtain ⟨k1, k2⟩ := key _ h1 h2
    have k1 : 0 ≤ decU kd (n + 1) u := k1
    have k3 : decU kd (n + 1) u ≤ 9 := Int32.le_trans h3 h2
    exact ⟨k1, k3, (key _ k1 k3).2⟩
theorem mx_le2 {a b : Int32} (h : a ≤ b) : mx 0 a ≤ mx 0 b := by
  unfold mx
  grind
theorem sub_mono {s u u2 c : Int32} (hs : 0 ≤ s ∧ s ≤ 30) (hu : u ≤ 9) (h0 : 0 ≤ u2) (hle : u2 ≤ u) (hc : 0 ≤ c ∧ c ≤ 2) : s - u - c ≤ s - u2 - 0 := by
  obtain ⟨s1, e1, rfl⟩ := ixof (x := s) (n := 31) hs.1 (Int32.lt_of_le_of_lt hs.2 (by decide)) (by omega)
  obtain ⟨v1, e2, rfl⟩ := ixof (x := u) (n := 10) (Int32.le_trans h0 hle) (Int32.lt_of_le_of_lt hu (by decide)) (by omega)
  obtain ⟨v2, e3, rfl⟩ := ixof (x := u2) (n := 10) h0 (Int32.lt_of_le_of_lt (Int32.le_trans hle hu) (by decide)) (by omega)
  obtain ⟨c1, e4, rfl⟩ := ixof (x := c) (n := 3) hc.1 (Int32.lt_of_le_of_lt hc.2 (by decide)) (by omega)
  rw [nI_leI (by omega) (by omega)] at hle
  have k1 : nI s1 - nI v1 - nI c1 = nI s1 - nI (v1 + c1) := by rw [← nI_add]; grind
  have k2 : nI s1 - nI v2 - 0 = nI s1 - nI v2 := by grind
  rw [k1, k2, Int32.le_iff_toInt_le, pk_sub_toInt (by omega) (by omega), pk_sub_toInt (by omega) (by omega)]
  omega
theorem mx_mono {s u u2 c : Int32} (hs : 0 ≤ s ∧ s ≤ 30) (hu : u ≤ 9) (h0 : 0 ≤ u2) (hle : u2 ≤ u) (hc : 0 ≤ c ∧ c ≤ 2) : mx 0 (s - u - c) ≤ mx 0 (s - u2 - 0) := mx_le2 (sub_mono hs hu h0 hle hc)
theorem pos2 {v v2 : Int32} (h : 0 ≤ v ∧ v ≤ 30) (h2 : 0 ≤ v2 ∧ v2 ≤ 30) (hle : v ≤ v2) (hp : 0 < 2 * v) : 0 < 2 * v2 := by grind
theorem pos4 {v v2 : Int32} (h : 0 ≤ v ∧ v ≤ 30) (h2 : 0 ≤ v2 ∧ v2 ≤ 30) (hle : v ≤ v2) (hp : 0 < mx 0 (v - 4)) : 0 < mx 0 (v2 - 4) := by
  unfold mx at hp ⊢
  grind
theorem fl_mono {kd u u2 af s : Int32} {f : Nat} (hf : f < 5) (hs : 0 ≤ s ∧ s ≤ 30) (hu : 0 ≤ u ∧ u ≤ 9) (h0 : 0 ≤ u2) (hle : u2 ≤ u) (hp : 0 < fl kd u af s (nI f)) : 0 < fl kd u2 (-1) s (nI f) := by
  have hu2 : 0 ≤ u2 ∧ u2 ≤ 9 := ⟨h0, Int32.le_trans hle hu.2⟩
  have r1 := fl_r0 hs hu (fl_rc (f := nI f) (af := af))
  have r2 := fl_r0 hs hu2 (c := 0) (by decide)
  have m1 := mx_mono hs hu.2 h0 hle (fl_rc (f := nI f) (af := af))
  unfold fl at hp ⊢
  dsimp only at hp ⊢
  rw [if_neg (nI_m1 hf)]
  by_cases c : kd = 2
  · rw [if_pos c] at hp ⊢
    exact pos2 r1 r2 m1 hp
  · rw [if_neg c] at hp ⊢
    by_cases c2 : kd = 4
    · rw [if_pos c2] at hp ⊢
      exact pos4 r1 r2 m1 hp
    · rw [if_neg c2] at hp ⊢
      exact Int32.lt_of_lt_of_le hp m1
theorem avB_mono {kd af s : Int32} {us : Nat → Int32} (hu : okU us) (hs : 0 ≤ s ∧ s ≤ 30) (p f : Nat) (hf : f < 5) (h : avB kd us af s p f = true) : avB kd us af s (p + 1) f = true := by
  unfold avB at h ⊢
  rw [decide_eq_true_iff] at h ⊢
  cases p with
  | zero =>
    have d := decU_r (kd := kd) (hu f hf) 0
    exact fl_mono hf hs (hu f hf) (decU_r (kd := kd) (hu f hf) 1).1 d.2.2 h
  | succ p =>
    have d := decU_r (kd := kd) (hu f hf) (p + 1)
    exact fl_mono hf hs ⟨d.1, d.2.1⟩ (decU_r (kd := kd) (hu f hf) (p + 2)).1 d.2.2 h
def opN : Option Nat → Int32
  | some t => nI t
  | none => -1
def mkP (M : Nat) (L : List Nat) : Prop := M < 32 ∧ ∀ f, f < 5 → M.testBit f = decide (f ∈ L)
theorem mkP_or {M t : Nat} {L : List Nat} (h : mkP M L) (ht : t < 5) : mkP (M ||| 2 ^ t) (t :: L) := by
  obtain ⟨m1, -, -, m4⟩ := mask_or M h.1 t ht
  refine ⟨m1, fun f hf => ?_⟩
  rw [m4 f hf, h.2 f hf]
  by_cases e : f = t
  · rw [e]
    simp
  · by_cases e2 : f ∈ L
    · simp [e2]
    · simp [e, e2]
theorem c_ff_l {d : Nat} {Q : pt_Q} {kd af0 s : Int32} {us0 : Nat → Int32} {M : Nat} {L : List Nat} {m : pt_M} (hM : mkP M L) (hL : ∀ t, t ∈ L → t < 5) (hP : PC m kd (orS kd us0 af0 L).1 (orS kd us0 af0 L).2) :
    ∀ (n f : Nat) (x : Int32), f + n = 5 → x = nI f → Q (some (zI (opN (fst5 (avB kd us0 af0 s) L.length L n f)))) m → Go (Sp (d + 1)) tX6_firstFelt Q 2 [some (zR 6 0), some (zI s), some (zI (nI M)), some (zI x)] [] m := by
  intro n
  induction n with
  | zero =>
    intro f x hk hx h
    have ek : f = 5 := by omega
    subst ek hx
    refine Go_rn [] 100 ?_
    refine br_t (nI_le (a := 5) (b := 5) (by omega) (by omega)) ?_
    exact h
  | succ n ih =>
    intro f x hk hx h
    subst hx
    have hf : f < 5 := by omega
    have e : fst5 (avB kd us0 af0 s) L.length L (n + 1) f = if ¬ f ∈ L ∧ avB kd us0 af0 s L.length f = true then some f else fst5 (avB kd us0 af0 s) L.length L n (f + 1) := rfl
    rw [e] at h
    have hsh := mask_sh M hM.1 f hf
    rw [hM.2 f hf, decide_eq_false_iff_not] at hsh
    refine Go_rn [2] 100 ?_
    refine br_f (nI_ge (a := f) (b := 5) (by omega) (by omega)) ?_
    refine ⟨fun c => ?_, fun c => ?_⟩
    · have c1 : ¬ f ∈ L := hsh.mp c
      have ef := orS_fl (kd := kd) (af := af0) (s := s) (us := us0) hf L c1 hL
      refine c_feels hf hP.1 (hP.2.2 f hf) hP.2.1 ?_
      rw [ef]
      refine ⟨fun c2 => ?_, fun c2 => ?_⟩
      · have c3 : fA kd us0 af0 s L.length f ≤ 0 := c2
        rw [if_neg (fun q => absurd (of_decide_eq_true q.2) (Int32.not_lt.mpr c3))] at h
        exact ih (f + 1) _ (by omega) (nI_1 f) h
      · have c3 : ¬ fA kd us0 af0 s L.length f ≤ 0 := c2
        rw [if_pos ⟨c1, decide_eq_true (Int32.not_le.mp c3)⟩] at h
        exact h
    · have c1 : f ∈ L := by
        by_cases q : f ∈ L
        · exact q
        · exact absurd (hsh.mpr q) c
      rw [if_neg (fun q => q.1 c1)] at h
      exact ih (f + 1) _ (by omega) (nI_1 f) h
def orR (av : Nat → Nat → Bool) (k : Nat) (y : Int32) (n p : Nat) (L : List Nat) : Int32 := match grd av n p L with
  | none => -1000000
  | some R => if k < p then y else nI (R.getD (k - p) 0)
theorem orR_s {av : Nat → Nat → Bool} {k n p t : Nat} {y : Int32} {L : List Nat} (h : fst5 av p L 5 0 = some t) : orR av k y (n + 1) p L = orR av k (if p = k then nI t else y) n (p + 1) (t :: L) := by
  unfold orR
  rw [grd_s h]
  cases e : grd av n (p + 1) (t :: L) with
  | none => rfl
  | some R =>
    show (if k < p then y else nI ((t :: R).getD (k - p) 0)) = if k < p + 1 then (if p = k then nI t else y) else nI (R.getD (k - (p + 1)) 0)
    by_cases c : k < p
    · rw [if_pos c, if_pos (by omega), if_neg (by omega)]
    · rw [if_neg c]
      by_cases c2 : p = k
      · rw [if_pos (by omega), if_pos c2, show k - p = 0 by omega]
        rfl
      · rw [if_neg (by omega), show k - p = (k - (p + 1)) + 1 by omega]
        rfl
theorem c_order_l {d : Nat} {Q : pt_Q} {kd af0 s : Int32} {us0 : Nat → Int32} {k : Nat} {v1 : Int32} (hk5 : k < 5) :
    ∀ (n p : Nat) (x y : Int32) (g7 : Option pt_V) (M : Nat) (L : List Nat) (m : pt_M), p + n = 5 → x = nI p → L.length = p → (∀ t, t ∈ L → t < 5) → mkP M L → PC m kd (orS kd us0 af0 L).1 (orS kd us0 af0 L).2 →
    (∀ m1, fr Tpalm m m1 → Q (some (zI (orR (avB kd us0 af0 s) k y n p L))) m1) →
    Go (Sp (d + 2)) tX6_order Q 54 [some (zR 6 0), some (zI v1), some (zI s), some (zI (nI k)), some (zI y), some (zI (nI M)), some (zI x), g7] [] m := by
  intro n
  induction n with
  | zero =>
    intro p x y g7 M L m hk hx hL1 hL hM hP h
    have ek : p = 5 := by omega
    subst hx
    refine Go_rn [] 100 ?_
    refine br_t (by rw [ek]; exact nI_le (a := 5) (b := 5) (by omega) (by omega)) ?_
    have : orR (avB kd us0 af0 s) k y 0 p L = y := by
      show (if k < p then y else _) = y
      rw [if_pos (by omega)]
    rw [this] at h
    exact h m fr_rf
  | succ n ih =>
    intro p x y g7 M L m hk hx hL1 hL hM hP h
    subst hx
    refine Go_rn [54, 88] 100 ?_
    refine br_f (nI_ge (a := p) (b := 5) (by omega) (by omega)) ?_
    refine sX6_firstFelt ?_
    refine Go_rn [2] 100 ?_
    refine c_ff_l (kd := kd) (af0 := af0) (us0 := us0) hM hL hP 5 0 _ (by omega) rfl ?_
    rw [hL1]
    cases e : fst5 (avB kd us0 af0 s) p L 5 0 with
    | none =>
      refine br_t rfl ?_
      have : orR (avB kd us0 af0 s) k y (n + 1) p L = -1000000 := by
        unfold orR
        rw [grd_n e]
      rw [this] at h
      exact h m fr_rf
    | some t =>
      obtain ⟨t1, t2, t3, t4⟩ := fst5_some _ _ _ e
      have ht : t < 5 := by omega
      rw [orR_s e] at h
      refine br_f (nI_m1 ht) ?_
      have go : ∀ y2, y2 = (if p = k then nI t else y) → Go (Sp (d + 2)) tX6_order Q 88 [some (zR 6 0), some (zI v1), some (zI s), some (zI (nI k)), some (zI y2), some (zI (nI M)), some (zI (nI p)), some (zI (nI t))] [] m := by
        intro y2 hy
        rw [← hy] at h
        refine Go_rn [54] 100 ?_
        refine c_getsUsedTo hP (fun m1 f1 p1 => ?_)
        show Go (Sp (d + 2)) tX6_order Q 54 [some (zR 6 0), some (zI v1), some (zI s), some (zI (nI k)), some (zI y2), some (zI (nI M ||| (1 <<< (nI t &&& 31)))), some (zI (nI p + 1)), some (zI (nI t))] [] m1
        rw [(mask_or M hM.1 t ht).2.1]
        refine ih (p + 1) _ _ _ _ (t :: L) m1 (by omega) (nI_1 p) (by show L.length + 1 = p + 1; omega) (fun u hu => ?_) (mkP_or hM ht) p1 (fun m2 f2 => h m2 (fun o j ho => (f2 o j ho).trans (f1 o j ho)))
        rcases List.mem_cons.mp hu with q | q
        · omega
        · exact hL u q
      refine ⟨fun c => ?_, fun c => ?_⟩
      · have c1 : p = k := nI_inj c (by omega) (by omega)
        exact go (nI t) (by rw [if_pos c1])
      · have c1 : ¬ p = k := fun q => c (by rw [q])
        exact go y (by rw [if_neg c1])
