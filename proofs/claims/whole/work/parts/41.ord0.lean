/-! 41.ord0: the order that comes first: masks, the greedy choice, the search by number -/
def popM (M : Nat) : Nat := (M.testBit 0).toNat + (M.testBit 1).toNat + (M.testBit 2).toNat + (M.testBit 3).toNat + (M.testBit 4).toNat
theorem mask_or : ∀ M, M < 32 → ∀ t, t < 5 → (M ||| 2 ^ t < 32 ∧ nI M ||| ((1 : Int32) <<< (nI t &&& 31)) = nI (M ||| 2 ^ t) ∧ popM (M ||| 2 ^ t) = (if M.testBit t = true then popM M else popM M + 1) ∧ ∀ f, f < 5 → (M ||| 2 ^ t).testBit f = (M.testBit f || decide (f = t))) := by decide +kernel
theorem mask_sh : ∀ M, M < 32 → ∀ f, f < 5 → ((nI M >>> (nI f &&& 31)) &&& 1 = 0 ↔ M.testBit f = false) := by decide +kernel
theorem mask_31 : ∀ M, M < 32 → (popM M = 5 ↔ M = 31) := by decide +kernel
def os (dg : Nat → Nat) : Nat → Nat
  | 0 => 0
  | k + 1 => if dg k < 5 then os dg k ||| 2 ^ (dg k) else os dg k
theorem os_inv (dg : Nat → Nat) : ∀ k, os dg k < 32 ∧ popM (os dg k) ≤ k ∧ (∀ f, f < 5 → ((os dg k).testBit f = true ↔ ∃ i, i < k ∧ dg i = f)) ∧ (popM (os dg k) = k ↔ ∀ j, j < k → dg j < 5 ∧ ∀ i, i < j → dg i ≠ dg j)
  | 0 => ⟨by show (0 : Nat) < 32; omega, by show popM 0 ≤ 0; decide, fun f hf => ⟨fun h => absurd (show (0 : Nat).testBit f = true from h) (by simp), fun ⟨i, hi, _⟩ => absurd hi (Nat.not_lt_zero i)⟩, ⟨fun _ j hj => absurd hj (Nat.not_lt_zero j), fun _ => by show popM 0 = 0; decide⟩⟩
  | k + 1 => by
    obtain ⟨h1, h2, h3, h4⟩ := os_inv dg k
    have e : os dg (k + 1) = if dg k < 5 then os dg k ||| 2 ^ (dg k) else os dg k := rfl
    by_cases c : dg k < 5
    · rw [if_pos c] at e
      obtain ⟨m1, -, m3, m4⟩ := mask_or (os dg k) h1 (dg k) c
      rw [e]
      refine ⟨m1, ?_, fun f hf => ?_, ?_⟩
      · rw [m3]
        split <;> omega
      · rw [m4 f hf, Bool.or_eq_true, h3 f hf, decide_eq_true_iff]
        constructor
        · rintro (⟨i, hi, q⟩ | q)
          · exact ⟨i, by omega, q⟩
          · exact ⟨k, by omega, q.symm⟩
        · rintro ⟨i, hi, q⟩
          by_cases ei : i = k
          · right; rw [← q, ei]
          · left; exact ⟨i, by omega, q⟩
      · rw [m3]
        by_cases b : (os dg k).testBit (dg k) = true
        · rw [if_pos b]
          constructor
          · intro q; omega
          · intro q
            obtain ⟨i, hi, q2⟩ := (h3 _ c).mp b
            exact absurd q2 ((q k (by omega)).2 i hi)
        · rw [if_neg b]
          have b2 : ∀ i, i < k → dg i ≠ dg k := fun i hi q => b ((h3 _ c).mpr ⟨i, hi, q⟩)
          constructor
          · intro q j hj
            have q2 := h4.mp (by omega)
            by_cases ej : j = k
            · rw [ej]; exact ⟨c, b2⟩
            · exact q2 j (by omega)
          · intro q
            have := h4.mpr (fun j hj => q j (by omega))
            omega
    · rw [if_neg c] at e
      rw [e]
      refine ⟨h1, by omega, fun f hf => ?_, ?_⟩
      · rw [h3 f hf]
        constructor
        · rintro ⟨i, hi, q⟩
          exact ⟨i, by omega, q⟩
        · rintro ⟨i, hi, q⟩
          by_cases ei : i = k
          · rw [ei] at q; omega
          · exact ⟨i, by omega, q⟩
      · constructor
        · intro q; omega
        · intro q
          exact absurd (q k (by omega)).1 c
theorem os_31 (dg : Nat → Nat) : os dg 5 = 31 ↔ ∀ j, j < 5 → dg j < 5 ∧ ∀ i, i < j → dg i ≠ dg j := by
  obtain ⟨h1, h2, h3, h4⟩ := os_inv dg 5
  rw [← h4, mask_31 _ h1]
/-! the first that is felt, at a place -/
def fst5 (av : Nat → Nat → Bool) (p : Nat) (L : List Nat) : Nat → Nat → Option Nat
  | 0, _ => none
  | k + 1, f => if ¬ f ∈ L ∧ av p f = true then some f else fst5 av p L k (f + 1)
theorem fst5_some {av : Nat → Nat → Bool} {p : Nat} {L : List Nat} : ∀ (k f t : Nat), fst5 av p L k f = some t → (f ≤ t ∧ t < f + k) ∧ ¬ t ∈ L ∧ av p t = true ∧ ∀ u, f ≤ u → ¬ u ∈ L → av p u = true → t ≤ u
  | 0, f, t, h => by cases h
  | k + 1, f, t, h => by
    have e : fst5 av p L (k + 1) f = if ¬ f ∈ L ∧ av p f = true then some f else fst5 av p L k (f + 1) := rfl
    rw [e] at h
    by_cases c : ¬ f ∈ L ∧ av p f = true
    · rw [if_pos c] at h
      cases h
      exact ⟨⟨by omega, by omega⟩, c.1, c.2, fun u hu _ _ => hu⟩
    · rw [if_neg c] at h
      obtain ⟨h1, h2, h3, h4⟩ := fst5_some k (f + 1) t h
      refine ⟨⟨by omega, by omega⟩, h2, h3, fun u hu q1 q2 => ?_⟩
      by_cases eu : u = f
      · exact absurd ⟨by rw [← eu]; exact q1, by rw [← eu]; exact q2⟩ c
      · exact h4 u (by omega) q1 q2
theorem fst5_none {av : Nat → Nat → Bool} {p : Nat} {L : List Nat} : ∀ (k f : Nat), fst5 av p L k f = none → ∀ u, f ≤ u → u < f + k → ¬ u ∈ L → ¬ av p u = true
  | 0, f, h, u, h1, h2 => by omega
  | k + 1, f, h, u, h1, h2 => by
    have e : fst5 av p L (k + 1) f = if ¬ f ∈ L ∧ av p f = true then some f else fst5 av p L k (f + 1) := rfl
    rw [e] at h
    by_cases c : ¬ f ∈ L ∧ av p f = true
    · rw [if_pos c] at h; cases h
    · rw [if_neg c] at h
      by_cases eu : u = f
      · intro q1 q2
        exact c ⟨by rw [← eu]; exact q1, by rw [← eu]; exact q2⟩
      · exact fst5_none k (f + 1) h u (by omega) (by omega)
def grd (av : Nat → Nat → Bool) : Nat → Nat → List Nat → Option (List Nat)
  | 0, _, _ => some []
  | n + 1, p, L => match fst5 av p L 5 0 with
    | none => none
    | some t => (grd av n (p + 1) (t :: L)).map (List.cons t)
theorem grd_n {av : Nat → Nat → Bool} {n p : Nat} {L : List Nat} (h : fst5 av p L 5 0 = none) : grd av (n + 1) p L = none := by
  unfold grd
  rw [h]
theorem grd_s {av : Nat → Nat → Bool} {n p t : Nat} {L : List Nat} (h : fst5 av p L 5 0 = some t) : grd av (n + 1) p L = (grd av n (p + 1) (t :: L)).map (List.cons t) := by
  rw [grd]
  rw [h]
def vld (av : Nat → Nat → Bool) : Nat → List Nat → List Nat → Prop
  | _, _, [] => True
  | p, L, e :: E => e < 5 ∧ ¬ e ∈ L ∧ av p e = true ∧ vld av (p + 1) (e :: L) E
def num : List Nat → Nat
  | [] => 0
  | d :: R => d * 10 ^ R.length + num R
theorem num_lt {av : Nat → Nat → Bool} : ∀ (E : List Nat) (p : Nat) (L : List Nat), vld av p L E → num E < 10 ^ E.length
  | [], _, _, _ => by show 0 < 10 ^ 0; decide
  | e :: E, p, L, h => by
    obtain ⟨h1, -, -, h4⟩ := h
    have ih := num_lt E _ _ h4
    show e * 10 ^ E.length + num E < 10 ^ (E.length + 1)
    rw [Nat.pow_succ]
    have : e * 10 ^ E.length ≤ 4 * 10 ^ E.length := Nat.mul_le_mul_right _ (by omega)
    omega
theorem grd_min {av : Nat → Nat → Bool} : ∀ (n p : Nat) (L R : List Nat), grd av n p L = some R → R.length = n ∧ vld av p L R ∧ ∀ E, E.length = n → vld av p L E → num R ≤ num E
  | 0, p, L, R, h => by
    cases h
    refine ⟨rfl, trivial, fun E hE _ => ?_⟩
    cases E with
    | nil => exact Nat.le_refl _
    | cons a b => cases hE
  | n + 1, p, L, R, h => by
    cases e : fst5 av p L 5 0 with
    | none => rw [grd_n e] at h; cases h
    | some t =>
      rw [grd_s e] at h
      obtain ⟨t1, t2, t3, t4⟩ := fst5_some _ _ _ e
      cases e2 : grd av n (p + 1) (t :: L) with
      | none => rw [e2] at h; cases h
      | some R' =>
        rw [e2] at h
        cases h
        obtain ⟨i1, i2, i3⟩ := grd_min n (p + 1) (t :: L) R' e2
        refine ⟨by show R'.length + 1 = n + 1; omega, ⟨by omega, t2, t3, i2⟩, fun E hE hv => ?_⟩
        cases E with
        | nil => cases hE
        | cons d E =>
          have hl : E.length = n := by have : E.length + 1 = n + 1 := hE; omega
          obtain ⟨v1, v2, v3, v4⟩ := hv
          have hle := t4 d (Nat.zero_le _) v2 v3
          show t * 10 ^ R'.length + num R' ≤ d * 10 ^ E.length + num E
          rw [i1, hl]
          by_cases c : t = d
          · subst c
            have := i3 E hl v4
            omega
          · have h1 := num_lt R' _ _ i2
            rw [i1] at h1
            have h2 : (t + 1) * 10 ^ n ≤ d * 10 ^ n := Nat.mul_le_mul_right _ (by omega)
            rw [Nat.succ_mul] at h2
            omega
theorem pig : ∀ (L : List Nat) (n : Nat) (e : Nat → Nat), (∀ i j, i < j → j < n → e i ≠ e j) → (∀ i, i < n → e i ∈ L) → n ≤ L.length
  | [], n, e, _, h => by
    rcases Nat.eq_zero_or_pos n with q | q
    · rw [q]; exact Nat.le_refl _
    · exact absurd (h 0 q) (by simp)
  | a :: L, n, e, hd, h => by
    by_cases c : ∃ i, i < n ∧ e i = a
    · obtain ⟨i0, hi, ea⟩ := c
      have := pig L (n - 1) (fun j => if j < i0 then e j else e (j + 1)) (fun i j hij hj => ?_) (fun i hi2 => ?_)
      · show n ≤ L.length + 1
        omega
      · show (if i < i0 then e i else e (i + 1)) ≠ (if j < i0 then e j else e (j + 1))
        by_cases c1 : i < i0
        · rw [if_pos c1]
          by_cases c2 : j < i0
          · rw [if_pos c2]; exact hd i j hij (by omega)
          · rw [if_neg c2]; exact hd i (j + 1) (by omega) (by omega)
        · rw [if_neg c1, if_neg (by omega)]
          exact hd (i + 1) (j + 1) (by omega) (by omega)
      · show (if i < i0 then e i else e (i + 1)) ∈ L
        by_cases c1 : i < i0
        · rw [if_pos c1]
          rcases List.mem_cons.mp (h i (by omega)) with q | q
          · exact absurd (q.trans ea.symm) (hd i i0 c1 hi)
          · exact q
        · rw [if_neg c1]
          rcases List.mem_cons.mp (h (i + 1) (by omega)) with q | q
          · exact absurd (ea.trans q.symm) (hd i0 (i + 1) (by omega) (by omega))
          · exact q
    · have := pig L n e hd (fun i hi => by
        rcases List.mem_cons.mp (h i hi) with q | q
        · exact absurd ⟨i, hi, q⟩ c
        · exact q)
      show n ≤ L.length + 1
      omega
theorem av_mono {av : Nat → Nat → Bool} (mono : ∀ p f, f < 5 → av p f = true → av (p + 1) f = true) {f : Nat} (hf : f < 5) : ∀ n p, av p f = true → av (p + n) f = true
  | 0, p, h => h
  | n + 1, p, h => mono (p + n) f hf (av_mono mono hf n p h)
theorem grd_all {av : Nat → Nat → Bool} (mono : ∀ p f, f < 5 → av p f = true → av (p + 1) f = true) {e : Nat → Nat} (h1 : ∀ i, i < 5 → e i < 5) (h2 : ∀ i j, i < j → j < 5 → e i ≠ e j) (h3 : ∀ p, p < 5 → av p (e p) = true) : ∀ (n p : Nat) (L : List Nat), p + n = 5 → L.length = p → (grd av n p L).isSome = true
  | 0, p, L, _, _ => rfl
  | n + 1, p, L, hn, hL => by
    cases c : fst5 av p L 5 0 with
    | none =>
      exfalso
      have := pig L (p + 1) e (fun i j hij hj => h2 i j hij (by omega)) (fun i hi => by
        by_cases q : e i ∈ L
        · exact q
        · refine absurd ?_ (fst5_none 5 0 c (e i) (by omega) (by have := h1 i (by omega); omega) q)
          have := av_mono mono (h1 i (by omega)) (p - i) i (h3 i (by omega))
          rw [show i + (p - i) = p by omega] at this
          exact this)
      omega
    | some t =>
      rw [grd_s c]
      have := grd_all mono h1 h2 h3 n (p + 1) (t :: L) (by omega) (by show L.length + 1 = p + 1; omega)
      cases c2 : grd av n (p + 1) (t :: L) with
      | none => rw [c2] at this; cases this
      | some R => rfl
/-! the search by number -/
def fnd (P : Nat → Bool) (v : Nat → Int32) : Nat → Nat → Int32
  | 0, _ => -1000000
  | k + 1, n => if P n = true then v n else fnd P v k (n + 1)
theorem fnd_none {P : Nat → Bool} {v : Nat → Int32} (h : ∀ n, ¬ P n = true) : ∀ k n, fnd P v k n = -1000000
  | 0, n => rfl
  | k + 1, n => by
    show (if P n = true then v n else fnd P v k (n + 1)) = _
    rw [if_neg (h n)]
    exact fnd_none h k (n + 1)
theorem fnd_some {P : Nat → Bool} {v : Nat → Int32} {G : Nat} (hG : P G = true) : ∀ k n, n ≤ G → G < n + k → (∀ j, n ≤ j → j < G → ¬ P j = true) → fnd P v k n = v G
  | 0, n, h1, h2, _ => by omega
  | k + 1, n, h1, h2, h3 => by
    show (if P n = true then v n else fnd P v k (n + 1)) = _
    by_cases c : n = G
    · rw [c, if_pos hG]
    · rw [if_neg (h3 n (by omega) (by omega))]
      exact fnd_some hG k (n + 1) (by omega) (by omega) (fun j q1 q2 => h3 j (by omega) q2)
def dgt (n p : Nat) : Nat := n / 10 ^ (4 - p) % 10
def ordB (n : Nat) : Bool := decide (os (fun j => n / 10 ^ j % 10) 5 = 31)
def goeB (av : Nat → Nat → Bool) (n : Nat) : Bool := av 0 (dgt n 0) && av 1 (dgt n 1) && av 2 (dgt n 2) && av 3 (dgt n 3) && av 4 (dgt n 4)
theorem in5 {j : Nat} (h : j < 5) : j = 0 ∨ j = 1 ∨ j = 2 ∨ j = 3 ∨ j = 4 := by omega
theorem goeB_iff {av : Nat → Nat → Bool} {n : Nat} : goeB av n = true ↔ ∀ p, p < 5 → av p (dgt n p) = true := by
  unfold goeB
  rw [Bool.and_eq_true, Bool.and_eq_true, Bool.and_eq_true, Bool.and_eq_true]
  constructor
  · rintro ⟨⟨⟨⟨h0, h1⟩, h2⟩, h3⟩, h4⟩ p hp
    rcases in5 hp with rfl | rfl | rfl | rfl | rfl <;> assumption
  · intro h
    exact ⟨⟨⟨⟨h 0 (by omega), h 1 (by omega)⟩, h 2 (by omega)⟩, h 3 (by omega)⟩, h 4 (by omega)⟩
theorem ordB_iff {n : Nat} : ordB n = true ↔ (∀ p, p < 5 → dgt n p < 5) ∧ ∀ i j, i < j → j < 5 → dgt n i ≠ dgt n j := by
  unfold ordB
  rw [decide_eq_true_iff, os_31]
  constructor
  · intro h
    refine ⟨fun p hp => (h (4 - p) (by omega)).1, fun i j hij hj => ?_⟩
    exact fun q => (h (4 - i) (by omega)).2 (4 - j) (by omega) q.symm
  · rintro ⟨h1, h2⟩ j hj
    have e : ∀ i, i < 5 → n / 10 ^ i % 10 = dgt n (4 - i) := fun i hi => by
      unfold dgt
      rw [show 4 - (4 - i) = i by omega]
    refine ⟨by show n / 10 ^ j % 10 < 5; rw [e j hj]; exact h1 _ (by omega), fun i hi => ?_⟩
    show n / 10 ^ i % 10 ≠ n / 10 ^ j % 10
    rw [e i (by omega), e j hj]
    exact fun q => h2 (4 - j) (4 - i) (by omega) (by omega) q.symm
theorem num5 (a b c d e : Nat) : num [a, b, c, d, e] = a * 10000 + (b * 1000 + (c * 100 + (d * 10 + e))) := by simp [num]
theorem dgt_0 (n : Nat) : dgt n 0 = n / 10000 % 10 := by simp [dgt]
theorem dgt_1 (n : Nat) : dgt n 1 = n / 1000 % 10 := by simp [dgt]
theorem dgt_2 (n : Nat) : dgt n 2 = n / 100 % 10 := by simp [dgt]
theorem dgt_3 (n : Nat) : dgt n 3 = n / 10 % 10 := by simp [dgt]
theorem dgt_4 (n : Nat) : dgt n 4 = n % 10 := by simp [dgt]
theorem num_dgt {n : Nat} (hn : n < 100000) : num [dgt n 0, dgt n 1, dgt n 2, dgt n 3, dgt n 4] = n := by
  rw [num5, dgt_0, dgt_1, dgt_2, dgt_3, dgt_4]
  omega
theorem order_main {av : Nat → Nat → Bool} (mono : ∀ p f, f < 5 → av p f = true → av (p + 1) f = true) (k : Nat) (hk : k < 5) :
    fnd (fun n => ordB n && goeB av n) (fun n => nI (dgt n k)) 41977 1234 = match grd av 5 0 [] with | none => -1000000 | some R => nI (R.getD k 0) := by
  have val : ∀ n, ordB n = true → goeB av n = true → vld av 0 [] [dgt n 0, dgt n 1, dgt n 2, dgt n 3, dgt n 4] := fun n h1 h2 => by
    rw [ordB_iff] at h1
    rw [goeB_iff] at h2
    obtain ⟨h1, h3⟩ := h1
    have d01 := h3 0 1 (by omega) (by omega)
    have d02 := h3 0 2 (by omega) (by omega)
    have d03 := h3 0 3 (by omega) (by omega)
    have d04 := h3 0 4 (by omega) (by omega)
    have d12 := h3 1 2 (by omega) (by omega)
    have d13 := h3 1 3 (by omega) (by omega)
    have d14 := h3 1 4 (by omega) (by omega)
    have d23 := h3 2 3 (by omega) (by omega)
    have d24 := h3 2 4 (by omega) (by omega)
    have d34 := h3 3 4 (by omega) (by omega)
    refine ⟨h1 0 (by omega), by simp, h2 0 (by omega), h1 1 (by omega), ?_, h2 1 (by omega), h1 2 (by omega), ?_, h2 2 (by omega), h1 3 (by omega), ?_, h2 3 (by omega), h1 4 (by omega), ?_, h2 4 (by omega), trivial⟩
    · simp only [List.mem_cons, List.not_mem_nil, or_false]; omega
    · simp only [List.mem_cons, List.not_mem_nil, or_false]; omega
    · simp only [List.mem_cons, List.not_mem_nil, or_false]; omega
    · simp only [List.mem_cons, List.not_mem_nil, or_false]; omega
  cases e : grd av 5 0 [] with
  | none =>
    refine fnd_none (fun n h => ?_) _ _
    rw [Bool.and_eq_true] at h
    have h1 := ordB_iff.mp h.1
    have := grd_all mono (e := dgt n) h1.1 h1.2 (goeB_iff.mp h.2) 5 0 [] (by omega) rfl
    rw [e] at this
    cases this
  | some R =>
    obtain ⟨g1, g2, g3⟩ := grd_min 5 0 [] R e
    obtain ⟨l0, R, rfl⟩ : ∃ a b, R = a :: b := by cases R with | nil => cases g1 | cons a b => exact ⟨a, b, rfl⟩
    obtain ⟨l1, R, rfl⟩ : ∃ a b, R = a :: b := by cases R with | nil => cases g1 | cons a b => exact ⟨a, b, rfl⟩
    obtain ⟨l2, R, rfl⟩ : ∃ a b, R = a :: b := by cases R with | nil => cases g1 | cons a b => exact ⟨a, b, rfl⟩
    obtain ⟨l3, R, rfl⟩ : ∃ a b, R = a :: b := by cases R with | nil => cases g1 | cons a b => exact ⟨a, b, rfl⟩
    obtain ⟨l4, R, rfl⟩ : ∃ a b, R = a :: b := by cases R with | nil => cases g1 | cons a b => exact ⟨a, b, rfl⟩
    obtain rfl : R = [] := by cases R with | nil => rfl | cons a b => simp at g1
    obtain ⟨a0, -, v0, a1, n1, v1, a2, n2, v2, a3, n3, v3, a4, n4, v4, -⟩ := g2
    simp only [List.mem_cons, List.not_mem_nil, or_false] at n1 n2 n3 n4
    have eG := num5 l0 l1 l2 l3 l4
    generalize hG : num [l0, l1, l2, l3, l4] = G at g3 eG
    have q0 : dgt G 0 = l0 := by rw [dgt_0]; omega
    have q1 : dgt G 1 = l1 := by rw [dgt_1]; omega
    have q2 : dgt G 2 = l2 := by rw [dgt_2]; omega
    have q3 : dgt G 3 = l3 := by rw [dgt_3]; omega
    have q4 : dgt G 4 = l4 := by rw [dgt_4]; omega
    have hP : (ordB G && goeB av G) = true := by
      rw [Bool.and_eq_true]
      refine ⟨ordB_iff.mpr ⟨fun p hp => ?_, fun i j hij hj => ?_⟩, goeB_iff.mpr (fun p hp => ?_)⟩
      · rcases in5 hp with rfl | rfl | rfl | rfl | rfl
        · rw [q0]; exact a0
        · rw [q1]; exact a1
        · rw [q2]; exact a2
        · rw [q3]; exact a3
        · rw [q4]; exact a4
      · have hc : (i = 0 ∧ j = 1) ∨ (i = 0 ∧ j = 2) ∨ (i = 0 ∧ j = 3) ∨ (i = 0 ∧ j = 4) ∨ (i = 1 ∧ j = 2) ∨ (i = 1 ∧ j = 3) ∨ (i = 1 ∧ j = 4) ∨ (i = 2 ∧ j = 3) ∨ (i = 2 ∧ j = 4) ∨ (i = 3 ∧ j = 4) := by omega
        rcases hc with ⟨rfl, rfl⟩ | ⟨rfl, rfl⟩ | ⟨rfl, rfl⟩ | ⟨rfl, rfl⟩ | ⟨rfl, rfl⟩ | ⟨rfl, rfl⟩ | ⟨rfl, rfl⟩ | ⟨rfl, rfl⟩ | ⟨rfl, rfl⟩ | ⟨rfl, rfl⟩ <;> simp only [q0, q1, q2, q3, q4] <;> omega
      · rcases in5 hp with rfl | rfl | rfl | rfl | rfl
        · rw [q0]; exact v0
        · rw [q1]; exact v1
        · rw [q2]; exact v2
        · rw [q3]; exact v3
        · rw [q4]; exact v4
    have hlo : 1234 ≤ G := by omega
    have hhi : G < 1234 + 41977 := by omega
    rw [fnd_some hP 41977 1234 hlo hhi (fun j j1 j2 hj => ?_)]
    · rcases in5 hk with rfl | rfl | rfl | rfl | rfl
      · rw [q0]; rfl
      · rw [q1]; rfl
      · rw [q2]; rfl
      · rw [q3]; rfl
      · rw [q4]; rfl
    · rw [Bool.and_eq_true] at hj
      have := g3 _ rfl (val j hj.1 hj.2)
      rw [num_dgt (by omega)] at this
      omega
