/-! 48.words: the words, as bytes and as one long -/
def isW (T : pt_tp) (i p : Nat) : Prop := tkK T p = 1 ∧ tkE T p - tkB T p = pt_len.getD i 0 ∧ ∀ k, k < pt_len.getD i 0 → T.2 (tkB T p + k) = cT i k
theorem tkK1 {T : pt_tp} {p : Nat} (h : tkK T p = 1) : tkB T p < T.1 ∧ ∀ k, tkB T p ≤ k → k < tkE T p → ltr (T.2 k) := by
  unfold tkK at h
  by_cases c : T.1 ≤ tkB T p
  · rw [cif_t c] at h; omega
  · rw [cif_f c] at h
    by_cases c2 : ltr (T.2 (tkB T p))
    · have e : tkE T p = sK ltr T (tkB T p) := by
        unfold tkE
        rw [cif_f c, cif_t c2]
      refine ⟨by omega, fun k h1 h2 => ?_⟩
      rw [e] at h2
      exact sK_in k h1 h2
    · rw [cif_f c2] at h
      by_cases c3 : fgr (T.2 (tkB T p))
      · rw [cif_t c3] at h
        by_cases c4 : sK fgr T (tkB T p) - tkB T p ≤ 3
        · rw [cif_t c4] at h; omega
        · rw [cif_f c4] at h; omega
      · rw [cif_f c3] at h
        by_cases c4 : T.2 (tkB T p) = 59
        · rw [cif_t c4] at h; omega
        · rw [cif_f c4] at h; omega
theorem tkK_lt (T : pt_tp) (p : Nat) : tkK T p < 5 := by
  unfold tkK
  by_cases c : T.1 ≤ tkB T p
  · rw [cif_t c]; omega
  · rw [cif_f c]
    by_cases c2 : ltr (T.2 (tkB T p))
    · rw [cif_t c2]; omega
    · rw [cif_f c2]
      by_cases c3 : fgr (T.2 (tkB T p))
      · rw [cif_t c3]
        by_cases c4 : sK fgr T (tkB T p) - tkB T p ≤ 3
        · rw [cif_t c4]; omega
        · rw [cif_f c4]; omega
      · rw [cif_f c3]
        by_cases c4 : T.2 (tkB T p) = 59
        · rw [cif_t c4]; omega
        · rw [cif_f c4]; omega
theorem c_isW_l {d : Nat} {Q : pt_Q} {T : pt_tp} {i p : Nat} {m : pt_M} (hn : T.1 ≤ 400) (hp : p ≤ T.1) (hi : i < 7) (hT : cTok m T p) (hk1 : tkK T p = 1) (hlen : tkE T p - tkB T p = pt_len.getD i 0) (hpos : isW T i p → Q (some (zI 1)) m) (hneg : ¬ isW T i p → Q (some (zI 0)) m) : ∀ (r k : Nat), k + r = pt_len.getD i 0 → (∀ j, j < k → T.2 (tkB T p + j) = cT i j) →
    Go (Sp (d + 4)) tX5_isWord Q 28 [some (zR 5 18), some (zR 12 i), some (zI (nI k))] [] m := by
  have hl := (pt_len_all i hi).1
  have hE := tkE_n hp
  intro r
  induction r with
  | zero =>
    intro k hk hj
    refine Go_rn [] 100 ?_
    refine c_strlen hi ?_
    refine br_t (nI_le (by omega) (by omega)) ?_
    exact ⟨bz1, hpos ⟨hk1, hlen, fun j hj2 => hj j (by omega)⟩⟩
  | succ r ih =>
    intro k hk hj
    refine Go_rn [28] 100 ?_
    refine c_strlen hi ?_
    refine br_f (nI_ge (by omega) (by omega)) ?_
    have e6 : m 18 6 + nI k = nI (tkB T p + k) := by rw [hT.2.2.1, nI_add]
    refine c_at hn hT.1 e6 (by omega) (fun _ => ?_) (fun c => absurd c (by omega))
    refine c_charAt hi (by omega) ?_
    refine ⟨fun c => ?_, fun c => ?_⟩
    · show Go (Sp (d + 4)) tX5_isWord Q 28 [some (zR 5 18), some (zR 12 i), some (zI (nI k + 1))] [] m
      rw [nI_1]
      refine ih (k + 1) (by omega) (fun j hj2 => ?_)
      rcases Nat.lt_or_ge j k with q | q
      · exact hj j q
      · rw [show j = k by omega]; exact c
    · exact ⟨bz0, hneg (fun q => c (q.2.2 k (by omega)))⟩
theorem c_isW {d : Nat} {Q : pt_Q} {T : pt_tp} {i p : Nat} {m : pt_M} (hn : T.1 ≤ 400) (hp : p ≤ T.1) (hi : i < 7) (hT : cTok m T p) (hpos : isW T i p → Q (some (zI 1)) m) (hneg : ¬ isW T i p → Q (some (zI 0)) m) : Sp (d + 5) nX5_isWord [zR 5 18, zR 12 i] m Q := by
  have hl := (pt_len_all i hi).1
  have hE := tkE_n hp
  have hK := tkK_lt T p
  refine sX5_isWord ?_
  refine Go_rn [28] 100 ?_
  refine ⟨fun c => ?_, fun c => ?_⟩
  · have c1 : nI (tkK T p) = nI 1 := hT.2.1.symm.trans c
    have c2 := nI_inj c1 (by omega) (by omega)
    refine c_strlen hi ?_
    have e9 : m 18 7 - m 18 6 = nI (tkE T p - tkB T p) := by rw [hT.2.2.1, hT.2.2.2.1]; exact nI_sb hE.2
    refine ⟨fun c3 => ?_, fun c3 => ?_⟩
    · have c4 : nI (pt_len.getD i 0) = m 18 7 - m 18 6 := c3
      rw [e9] at c4
      have c5 := nI_inj c4 (by omega) (by omega)
      exact c_isW_l (d := d) hn hp hi hT c2 c5.symm hpos hneg (pt_len.getD i 0) 0 (by omega) (fun j hj => absurd hj (Nat.not_lt_zero j))
    · refine ⟨bz0, hneg (fun q => c3 ?_)⟩
      show nI (pt_len.getD i 0) = m 18 7 - m 18 6
      rw [e9, q.2.1]
  · refine ⟨bz0, hneg (fun q => c ?_)⟩
    show m 18 5 = 1
    rw [hT.2.1, q.1]
    rfl
/-! the model's names -/
def nfp (f : Nat → Nat) : Nat → Nat
  | 0 => 0
  | r + 1 => nfp f r * 256 + f r
theorem nfp_inj {f g : Nat → Nat} : ∀ (r s : Nat), (∀ k, k < r → 1 ≤ f k ∧ f k ≤ 255) → (∀ k, k < s → 1 ≤ g k ∧ g k ≤ 255) → (nfp f r = nfp g s ↔ r = s ∧ ∀ k, k < r → f k = g k)
  | 0, 0, _, _ => ⟨fun _ => ⟨rfl, fun k hk => absurd hk (Nat.not_lt_zero k)⟩, fun _ => rfl⟩
  | 0, s + 1, _, hg => ⟨fun e => by
      have e2 : 0 = nfp g s * 256 + g s := e
      have := (hg s (by omega)).1
      omega, fun q => absurd q.1 (by omega)⟩
  | r + 1, 0, hf, _ => ⟨fun e => by
      have e2 : nfp f r * 256 + f r = 0 := e
      have := (hf r (by omega)).1
      omega, fun q => absurd q.1 (by omega)⟩
  | r + 1, s + 1, hf, hg => by
    have h1 := hf r (by omega)
    have h2 := hg s (by omega)
    have ih := nfp_inj (f := f) (g := g) r s (fun k hk => hf k (by omega)) (fun k hk => hg k (by omega))
    constructor
    · intro e
      have e2 : nfp f r * 256 + f r = nfp g s * 256 + g s := e
      have e3 : nfp f r = nfp g s := by omega
      have e4 : f r = g s := by omega
      obtain ⟨q1, q2⟩ := ih.mp e3
      subst q1
      refine ⟨rfl, fun k hk => ?_⟩
      rcases Nat.lt_or_ge k r with q | q
      · exact q2 k q
      · rw [show k = r by omega]; exact e4
    · intro q
      have q1 : r = s := by omega
      subst q1
      have e3 := ih.mpr ⟨rfl, fun k hk => q.2 k (by omega)⟩
      show nfp f r * 256 + f r = nfp g r * 256 + g r
      rw [e3, q.2 r (by omega)]
theorem nfp_b {f : Nat → Nat} : ∀ (r : Nat), (∀ k, k < r → f k ≤ 255) → nfp f r < 256 ^ r
  | 0, _ => by show 0 < 256 ^ 0; omega
  | r + 1, h => by
    have := nfp_b r (fun k hk => h k (by omega))
    have := h r (by omega)
    show nfp f r * 256 + f r < 256 ^ (r + 1)
    rw [Nat.pow_succ]
    omega
theorem p256 : ∀ r, r < 8 → 256 ^ r ≤ 72057594037927936 := by decide +kernel
theorem p256b : ∀ r, r < 7 → 256 ^ r ≤ 281474976710656 := by decide +kernel
theorem shl8 {a y : Nat} (ha : a < 281474976710656) (hy : y < 256) : (Int64.ofNat a <<< ((8 : Int32).toInt64 &&& 63)) ||| Int64.ofNat y = Int64.ofNat (a * 256 + y) := by
  rw [show ((8 : Int32).toInt64 &&& 63) = 8 by decide]
  apply Int64.toBitVec_inj.mp
  apply BitVec.eq_of_toNat_eq
  rw [Int64.toBitVec_or, Int64.toBitVec_shiftLeft, BitVec.toNat_or, BitVec.shiftLeft_eq', BitVec.toNat_shiftLeft]
  have e1 : ((8 : Int64).toBitVec.smod 64).toNat = 8 := by decide
  rw [e1]
  have e2 : ∀ n, n < 18446744073709551616 → (Int64.ofNat n).toBitVec.toNat = n := fun n hn => by
    show (BitVec.ofNat 64 n).toNat = n
    rw [BitVec.toNat_ofNat]
    exact Nat.mod_eq_of_lt hn
  rw [e2 a (by omega), e2 y (by omega), e2 _ (by omega), Nat.shiftLeft_eq, Nat.mod_eq_of_lt (by omega), ← Nat.shiftLeft_eq, ← Nat.shiftLeft_add_eq_or_of_lt (i := 8) hy, Nat.shiftLeft_eq]
theorem lN_inj {a b : Nat} (ha : a < 18446744073709551616) (hb : b < 18446744073709551616) (h : lN a = lN b) : a = b := by
  have e2 : ∀ n, n < 18446744073709551616 → (lN n).toBitVec.toNat = n := fun n hn => by
    show (BitVec.ofNat 64 n).toNat = n
    rw [BitVec.toNat_ofNat]
    exact Nat.mod_eq_of_lt hn
  rw [← e2 a ha, ← e2 b hb, h]
def wcN : List Nat := [2002873452, 125779751232882, 482854660462, 426953501796, 7823736, 439788922226, 32478922518847858]
def wc (i : Nat) : Int64 := lN (wcN.getD i 0)
theorem wc_all : ∀ i, i < 7 → wcN.getD i 0 = nfp (fun k => xN (cT i k)) (pt_len.getD i 0) ∧ pt_len.getD i 0 < 8 ∧ 0 < wcN.getD i 0 ∧ (∀ k, k < pt_len.getD i 0 → 1 ≤ xN (cT i k) ∧ xN (cT i k) ≤ 255 ∧ cT i k = nI (xN (cT i k))) := by decide +kernel
theorem lcmp_eq {x y : Int64} : lg_cmp x y = 0 ↔ x = y := by
  constructor
  · intro h
    have h1 : ¬ x < y := fun q => by
      have := lcmp_lt.mpr q
      rw [h] at this
      exact absurd this (by decide)
    have h2 : ¬ y < x := fun q => by
      have := lcmp_gt.mpr q
      rw [h] at this
      exact absurd this (by decide)
    exact Int64.le_antisymm (Int64.not_lt.mp h2) (Int64.not_lt.mp h1)
  · intro h
    subst h
    unfold lg_cmp
    rw [if_neg (Int64.lt_irrefl), if_pos rfl]
/-- what is said of a name's long -/
def nmP (T : pt_tp) (p : Nat) (x : Int64) : Prop := ∀ i, i < 7 → (x = wc i ↔ isW T i p)
theorem nmP_no {T : pt_tp} {p : Nat} (h : tkK T p ≠ 1 ∨ 8 ≤ tkE T p - tkB T p) : nmP T p 0 := by
  intro i hi
  obtain ⟨h1, h2, h3, h4⟩ := wc_all i hi
  constructor
  · intro e
    have e2 : lN 0 = lN (wcN.getD i 0) := e
    have hb : wcN.getD i 0 < 18446744073709551616 := by
      have : ∀ i, i < 7 → wcN.getD i 0 < 18446744073709551616 := by decide
      exact this i hi
    have := lN_inj (by omega) hb e2
    omega
  · intro q
    exfalso
    rcases h with h | h
    · exact h q.1
    · have := q.2.1
      omega
theorem nmP_yes {T : pt_tp} {p : Nat} (hO : OkT T) (hp : p ≤ T.1) (hk : tkK T p = 1) (h8 : tkE T p - tkB T p < 8) : nmP T p (lN (nfp (fun k => xN (T.2 (tkB T p + k))) (tkE T p - tkB T p))) := by
  intro i hi
  obtain ⟨h1, h2, h3, h4⟩ := wc_all i hi
  have hl := (tkK1 hk).2
  have hE := tkE_n hp
  have hT : ∀ k, k < tkE T p - tkB T p → 1 ≤ xN (T.2 (tkB T p + k)) ∧ xN (T.2 (tkB T p + k)) ≤ 255 ∧ T.2 (tkB T p + k) = nI (xN (T.2 (tkB T p + k))) := fun k hk => by
    obtain ⟨g1, g2⟩ := hl (tkB T p + k) (by omega) (by omega)
    obtain ⟨j, hj, e⟩ := ixof (x := T.2 (tkB T p + k)) (n := 256) (by grind) (by show _ < (256 : Int32); grind) (by omega)
    rw [e, xN_nI (by omega)]
    rw [e] at g1
    have : nI 97 ≤ nI j := g1
    rw [nI_leI (by omega) (by omega)] at this
    exact ⟨by omega, by omega, rfl⟩
  have hI := nfp_inj (f := fun k => xN (T.2 (tkB T p + k))) (g := fun k => xN (cT i k)) (tkE T p - tkB T p) (pt_len.getD i 0) (fun k hk => ⟨(hT k hk).1, (hT k hk).2.1⟩) (fun k hk => ⟨(h4 k hk).1, (h4 k hk).2.1⟩)
  constructor
  · intro e
    have b1 := nfp_b (f := fun k => xN (T.2 (tkB T p + k))) (tkE T p - tkB T p) (fun k hk => (hT k hk).2.1)
    have b2 := p256 _ h8
    have b3 : wcN.getD i 0 < 18446744073709551616 := by
      have : ∀ i, i < 7 → wcN.getD i 0 < 18446744073709551616 := by decide
      exact this i hi
    have e3 := lN_inj (by omega) b3 e
    rw [h1] at e3
    obtain ⟨q1, q2⟩ := hI.mp e3
    refine ⟨hk, q1, fun k hk => ?_⟩
    have q3 := q2 k (by omega)
    rw [(hT k (by omega)).2.2, q3]
    exact (h4 k hk).2.2.symm
  · intro q
    show lN _ = lN (wcN.getD i 0)
    rw [h1, hI.mpr ⟨q.2.1, fun k hk => by
      show xN (T.2 (tkB T p + k)) = xN (cT i k)
      rw [q.2.2 k (by have := q.2.1; omega)]⟩]
theorem m_name_l {d : Nat} {Q : pt_Q} {T : pt_tp} {p : Nat} {m : pt_M} (hO : OkT T) (hp : p ≤ T.1) (hT : mTok m T p) (hk : tkK T p = 1) (h8 : tkE T p - tkB T p < 8)
    (h : ∀ x, nmP T p x → ∀ g y, Go (Sp d) tX7_name Q 56 [some (zR 7 143), some (zL x), g, some (zI y)] [] m) : ∀ (r k : Nat) (x : Int64) (y : Int32) (g : Option pt_V), tkB T p + k + r = tkE T p → x = lN (nfp (fun k => xN (T.2 (tkB T p + k))) k) → y = nI (tkB T p + k) →
    Go (Sp d) tX7_name Q 7 [some (zR 7 143), some (zL x), g, some (zI y)] [] m := by
  obtain ⟨hn, hby⟩ := id hO
  have hE := tkE_n hp
  have hl := (tkK1 hk).2
  intro r
  induction r with
  | zero =>
    intro k x y g hkr hx hy
    subst hx hy
    refine Go_rn [56] 100 ?_
    refine br_t (by show m 143 16 ≤ nI _; rw [hT.2.2.2.1]; exact nI_le (by omega) (by omega)) ?_
    refine h _ ?_ _ _
    have := nmP_yes hO hp hk h8
    rw [show tkE T p - tkB T p = k by omega] at this
    exact this
  | succ r ih =>
    intro k x y g hkr hx hy
    subst hx hy
    refine Go_rn [56, 7] 100 ?_
    refine br_f (by show ¬ m 143 16 ≤ nI _; rw [hT.2.2.2.1]; exact nI_ge (by omega) (by omega)) ?_
    refine br_t (by show m 143 14 = 2; rw [hT.2.1, hk]; rfl) ?_
    refine br_f (by show ¬ nI 8 ≤ m 143 16 - m 143 15; rw [hT.2.2.2.1, hT.2.2.1, nI_sb hE.2]; exact nI_ge (by omega) (by omega)) ?_
    refine ⟨tkB T p + k, rfl, by omega, ?_⟩
    obtain ⟨g1, g2⟩ := hl (tkB T p + k) (by omega) (by omega)
    obtain ⟨j, hj, e⟩ := ixof (x := T.2 (tkB T p + k)) (n := 256) (by grind) (by show _ < (256 : Int32); grind) (by omega)
    have e5 : m 150 (tkB T p + k) = nI j := (hT.1.2 _ (by omega)).trans e
    have hb := nfp_b (f := fun k => xN (T.2 (tkB T p + k))) k (fun k hk => by
      obtain ⟨g1, g2⟩ := hl (tkB T p + k) (by omega) (by omega)
      obtain ⟨j, hj, e⟩ := ixof (x := T.2 (tkB T p + k)) (n := 256) (by grind) (by show _ < (256 : Int32); grind) (by omega)
      rw [e, xN_nI (by omega)]; omega)
    have hb2 := p256b k (by omega)
    show Go (Sp d) tX7_name Q 7 [some (zR 7 143), some (zL ((lN (nfp (fun k => xN (T.2 (tkB T p + k))) k) <<< ((8 : Int32).toInt64 &&& 63)) ||| (m 150 (tkB T p + k)).toInt64)), _, some (zI (nI (tkB T p + k) + 1))] [] m
    rw [e5, nI_l (by omega)]
    refine ih (k + 1) _ _ _ (by omega) ?_ (nI_1 _)
    refine (shl8 (by omega) hj).trans ?_
    show lN (nfp (fun k => xN (T.2 (tkB T p + k))) k * 256 + j) = lN (nfp (fun k => xN (T.2 (tkB T p + k))) k * 256 + xN (T.2 (tkB T p + k)))
    rw [e, xN_nI (by omega)]
theorem m_name {d : Nat} {Q : pt_Q} {T : pt_tp} {p : Nat} {m : pt_M} (hO : OkT T) (hp : p ≤ T.1) (hT : mTok m T p) (h1 : m 143 17 = 0 → ∀ x, nmP T p x → Q (some (zL x)) m) (h2 : m 143 17 ≠ 0 → Q (some (zL 0)) m) : Sp (d + 1) nX7_name [zR 7 143] m Q := by
  obtain ⟨hn, hby⟩ := id hO
  have hE := tkE_n hp
  have hK := tkK_lt T p
  have fin : ∀ x, nmP T p x → ∀ g y, Go (Sp d) tX7_name Q 56 [some (zR 7 143), some (zL x), g, some (zI y)] [] m := fun x hx g y => by
    refine Go_rn [] 100 ?_
    refine ⟨fun c => h1 c x hx, fun c => h2 c⟩
  refine sX7_name ?_
  refine Go_rn [7] 100 ?_
  by_cases ck : tkK T p = 1
  · by_cases c8 : tkE T p - tkB T p < 8
    · exact m_name_l hO hp hT ck c8 fin (tkE T p - tkB T p) 0 _ _ _ (by omega) rfl hT.2.2.1
    · refine Go_rn [56] 100 ?_
      refine ⟨fun c => fin _ (nmP_no (Or.inr (by omega))) _ _, fun c => ⟨fun c2 => ⟨fun c3 => fin _ (nmP_no (Or.inr (by omega))) _ _, fun c3 => absurd (show nI 8 ≤ m 143 16 - m 143 15 by rw [hT.2.2.2.1, hT.2.2.1, nI_sb hE.2]; exact nI_le (by omega) (by omega)) c3⟩, fun c2 => fin _ (nmP_no (Or.inr (by omega))) _ _⟩⟩
  · refine Go_rn [56] 100 ?_
    refine ⟨fun c => fin _ (nmP_no (Or.inl ck)) _ _, fun c => ⟨fun c2 => ?_, fun c2 => fin _ (nmP_no (Or.inl ck)) _ _⟩⟩
    exfalso
    have c3 : m 143 14 = nI 2 := c2
    rw [hT.2.1] at c3
    have := nI_inj c3 (by omega) (by omega)
    omega
/-! the sorts -/
noncomputable def kdX (T : pt_tp) (p : Nat) : Int32 := cif (isW T 2 p) 1 (cif (isW T 3 p) 2 (cif (isW T 4 p) 4 (cif (isW T 5 p) 5 (cif (isW T 6 p) 3 (-1)))))
theorem kdX_c (T : pt_tp) (p : Nat) : kdX T p = -1 ∨ (1 ≤ kdX T p ∧ kdX T p ≤ 5) := by
  unfold kdX
  by_cases c2 : isW T 2 p
  · rw [cif_t c2]; exact Or.inr (by decide)
  · rw [cif_f c2]
    by_cases c3 : isW T 3 p
    · rw [cif_t c3]; exact Or.inr (by decide)
    · rw [cif_f c3]
      by_cases c4 : isW T 4 p
      · rw [cif_t c4]; exact Or.inr (by decide)
      · rw [cif_f c4]
        by_cases c5 : isW T 5 p
        · rw [cif_t c5]; exact Or.inr (by decide)
        · rw [cif_f c5]
          by_cases c6 : isW T 6 p
          · rw [cif_t c6]; exact Or.inr (by decide)
          · rw [cif_f c6]; exact Or.inl rfl
theorem c_kind {d : Nat} {Q : pt_Q} {T : pt_tp} {p : Nat} {m : pt_M} (hn : T.1 ≤ 400) (hp : p ≤ T.1) (hT : cTok m T p) (h : Q (some (zI (kdX T p))) m) : Sp (d + 6) nX5_kindOfSort [zR 5 18] m Q := by
  unfold kdX at h
  refine sX5_kindOfSort ?_
  refine Go_rn [] 100 ?_
  refine c_isW (d := d) hn hp (by omega) hT (fun c => ?_) (fun c => ?_)
  · rw [cif_t c] at h
    refine br_f (by decide) ?_
    exact h
  rw [cif_f c] at h
  refine br_t rfl ?_
  refine c_isW (d := d) hn hp (by omega) hT (fun c => ?_) (fun c => ?_)
  · rw [cif_t c] at h
    refine br_f (by decide) ?_
    exact h
  rw [cif_f c] at h
  refine br_t rfl ?_
  refine c_isW (d := d) hn hp (by omega) hT (fun c => ?_) (fun c => ?_)
  · rw [cif_t c] at h
    refine br_f (by decide) ?_
    exact h
  rw [cif_f c] at h
  refine br_t rfl ?_
  refine c_isW (d := d) hn hp (by omega) hT (fun c => ?_) (fun c => ?_)
  · rw [cif_t c] at h
    refine br_f (by decide) ?_
    exact h
  rw [cif_f c] at h
  refine br_t rfl ?_
  refine c_isW (d := d) hn hp (by omega) hT (fun c => ?_) (fun c => ?_)
  · rw [cif_t c] at h
    refine br_f (by decide) ?_
    exact h
  rw [cif_f c] at h
  refine br_t rfl ?_
  exact h
theorem m_kdBy {d : Nat} {Q : pt_Q} {T : pt_tp} {p : Nat} {x : Int64} {m : pt_M} (hx : nmP T p x) (h : Q (some (zI (cif (kdX T p = -1) (-1000000) (kdX T p)))) m) : Sp (d + 1) nX7_kindBy [zL x] m Q := by
  unfold kdX at h
  refine sX7_kindBy ?_
  refine Go_rn [] 100 ?_
  refine ⟨fun c => ?_, fun c => ?_⟩
  · have c1 : x = wc 2 := lcmp_eq.mp c
    rw [cif_t ((hx 2 (by omega)).mp c1), cif_f (by decide)] at h
    exact h
  have c1 : ¬ isW T 2 p := fun q => c (lcmp_eq.mpr ((hx 2 (by omega)).mpr q))
  rw [cif_f c1] at h
  clear c c1
  refine ⟨fun c => ?_, fun c => ?_⟩
  · have c1 : x = wc 3 := lcmp_eq.mp c
    rw [cif_t ((hx 3 (by omega)).mp c1), cif_f (by decide)] at h
    exact h
  have c1 : ¬ isW T 3 p := fun q => c (lcmp_eq.mpr ((hx 3 (by omega)).mpr q))
  rw [cif_f c1] at h
  clear c c1
  refine ⟨fun c => ?_, fun c => ?_⟩
  · have c1 : x = wc 4 := lcmp_eq.mp c
    rw [cif_t ((hx 4 (by omega)).mp c1), cif_f (by decide)] at h
    exact h
  have c1 : ¬ isW T 4 p := fun q => c (lcmp_eq.mpr ((hx 4 (by omega)).mpr q))
  rw [cif_f c1] at h
  clear c c1
  refine ⟨fun c => ?_, fun c => ?_⟩
  · have c1 : x = wc 5 := lcmp_eq.mp c
    rw [cif_t ((hx 5 (by omega)).mp c1), cif_f (by decide)] at h
    exact h
  have c1 : ¬ isW T 5 p := fun q => c (lcmp_eq.mpr ((hx 5 (by omega)).mpr q))
  rw [cif_f c1] at h
  clear c c1
  refine ⟨fun c => ?_, fun c => ?_⟩
  · have c1 : x = wc 6 := lcmp_eq.mp c
    rw [cif_t ((hx 6 (by omega)).mp c1), cif_f (by decide)] at h
    exact h
  have c1 : ¬ isW T 6 p := fun q => c (lcmp_eq.mpr ((hx 6 (by omega)).mpr q))
  rw [cif_f c1, cif_t rfl] at h
  exact h
theorem m_kdBy0 {d : Nat} {Q : pt_Q} {m : pt_M} (h : Q (some (zI (-1000000))) m) : Sp (d + 1) nX7_kindBy [zL 0] m Q := by
  refine sX7_kindBy ?_
  refine Go_rn [] 100 ?_
  refine br_f (by decide) ?_
  refine br_f (by decide) ?_
  refine br_f (by decide) ?_
  refine br_f (by decide) ?_
  refine br_f (by decide) ?_
  exact h
