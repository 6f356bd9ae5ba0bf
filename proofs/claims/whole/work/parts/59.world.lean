/-! 59.world: the world behind the constructors is the small machine's; its memory holds the empty state -/
def n_pi (k : Nat) : Nat := if k < 2 then k else if k < 18 then k + 117 else if k = 18 then 2 else if k = 19 then 7 else if k < 24 then k - 17 else if k < 28 then k - 16 else if k < 126 then k - 16 else if k = 126 then 110 else if k < 135 then k + 8 else if k < 137 then k - 24 else if k < 139 then k - 24 else if k < 143 then k - 24 else k
def n_m0 : pt_M := fun o => if o = 137 then (fun k => if k = 1 then -1 else 0) else if o = 144 then n_lane else fun _ => 0
theorem n_m0_z {o : Nat} (h1 : o ≠ 137) (h2 : o ≠ 144) : n_m0 o = fun _ => 0 := by
  unfold n_m0
  rw [if_neg h1, if_neg h2]
theorem n_pi_lt : ∀ k, k < 158 → n_pi k < 158 := by decide +kernel
set_option maxRecDepth 4000 in
theorem n_pi_inj : ∀ i, i < 158 → ∀ j, j < 158 → n_pi i = n_pi j → i = j := by decide +kernel
section NW
variable {D : va_G} {G : pt_G} {w : va_W} {H : Heap} {cc : Nat → ClassId}
/-- cell k is as the small machine has it -/
def n_g (D : va_G) (G : pt_G) (H : Heap) (k : Nat) : Prop := va_at D vwCl (gA G k, pt_E G n_m0 (pt_tags.getD k 0) k) H
theorem n_gi (hP : va_P D vwCl w H) (hg : ∀ (k : Nat) (x : Nat × va_E), k < 158 → w[n_pi k]? = some x → gA G k = x.1) (hc : gC G 0 = cc 0) {k n q i : Nat} {f : Nat → Int32} (hk : k < 158) (hi : n_pi k = i) (ht : pt_tags.getD k 0 = 1000 + n) (hm : n_m0 k = f) (h : w[i]? = some (q, .inl (cc 0, n, .inl f))) : n_g D G H k := by
  subst hi
  have e := hg k _ hk h
  have := hP _ _ h
  unfold n_g
  rw [ht, e, pt_E_int (by omega), hm, hc, show 1000 + n - 1000 = n by omega]
  exact this
theorem n_ga (hP : va_P D vwCl w H) (hg : ∀ (k : Nat) (x : Nat × va_E), k < 158 → w[n_pi k]? = some x → gA G k = x.1) (hc : gC G 0 = cc 0) {k n q i : Nat} (hk : k < 158) (hi : n_pi k = i) (ht : pt_tags.getD k 0 = 1000 + n) (h1 : k ≠ 137) (h2 : k ≠ 144) (h : w[i]? = some (n_ar cc q n)) : n_g D G H k ∧ gA G k = q := by
  refine ⟨n_gi hP hg hc hk hi ht (n_m0_z h1 h2) h, ?_⟩
  subst hi
  exact hg k _ hk h
theorem n_go (hP : va_P D vwCl w H) (hg : ∀ (k : Nat) (x : Nat × va_E), k < 158 → w[n_pi k]? = some x → gA G k = x.1) {k t q i : Nat} {fs : List Value} (hk : k < 158) (hi : n_pi k = i) (ht : pt_tags.getD k 0 = t) (h8 : t < 8) (hf : pt_fs G n_m0 t k = fs) (h : w[i]? = some (q, .inr (t, fs))) : n_g D G H k := by
  subst hi
  have e := hg k _ hk h
  have := hP _ _ h
  unfold n_g
  rw [ht, e, pt_E_obj h8, hf]
  exact this
theorem n_gh (hg : ∀ (k : Nat) (x : Nat × va_E), k < 158 → w[n_pi k]? = some x → gA G k = x.1) {k q i : Nat} {e : va_E} (hk : k < 158) (hi : n_pi k = i) (h : w[i]? = some (q, e)) : gA G k = q := by
  subst hi
  exact hg k _ hk h
/-- the four cells of a street -/
theorem n_g4 (hP : va_P D vwCl w H) (hg : ∀ (k : Nat) (x : Nat × va_E), k < 158 → w[n_pi k]? = some x → gA G k = x.1) (hc : gC G 0 = cc 0) {k b i : Nat} (hk : k + 3 < 137) (hi : n_pi k = i ∧ n_pi (k + 1) = i + 1 ∧ n_pi (k + 2) = i + 2 ∧ n_pi (k + 3) = i + 3) (ht : pt_tags.getD k 0 = 4 ∧ pt_tags.getD (k + 1) 0 = 1040 ∧ pt_tags.getD (k + 2) 0 = 1005 ∧ pt_tags.getD (k + 3) 0 = 1030) (h : n_a4 cc w i b) : gA G k = b ∧ n_g D G H k ∧ n_g D G H (k + 1) ∧ n_g D G H (k + 2) ∧ n_g D G H (k + 3) := by
  obtain ⟨q1, q2, q3, h1, h2, h3, h4⟩ := h
  obtain ⟨g1, e1⟩ := n_ga hP hg hc (k := k + 1) (n := 40) (by omega) hi.2.1 ht.2.1 (by omega) (by omega) h2
  obtain ⟨g2, e2⟩ := n_ga hP hg hc (k := k + 2) (n := 5) (by omega) hi.2.2.1 ht.2.2.1 (by omega) (by omega) h3
  obtain ⟨g3, e3⟩ := n_ga hP hg hc (k := k + 3) (n := 30) (by omega) hi.2.2.2 ht.2.2.2 (by omega) (by omega) h4
  refine ⟨n_gh hg (by omega) hi.1 h1, n_go hP hg (by omega) hi.1 ht.1 (by omega) ?_ h1, g1, g2, g3⟩
  have hm := n_m0_z (o := k) (by omega) (by omega)
  have e : pt_fs G n_m0 4 k = [.int (n_m0 k 0), .int (n_m0 k 1), .int (n_m0 k 2), .ref (gA G (k + 1)), .ref (gA G (k + 2)), .ref (gA G (k + 3))] := rfl
  rw [e, hm, e1, e2, e3]
/-- an array of references -/
theorem n_gr (hP : va_P D vwCl w H) (hg : ∀ (k : Nat) (x : Nat × va_E), k < 158 → w[n_pi k]? = some x → gA G k = x.1) {k q i n t : Nat} {c : ClassId} {f g : Nat → Option Nat} (hk : k < 158) (hi : n_pi k = i) (ht : pt_tags.getD k 0 = t) (he : pt_E G n_m0 t k = .inl (c, n, .inr (.inr (.inr (.inr g))))) (hfg : ∀ j, j < n → f j = g j) (h : w[i]? = some (n_rf c q n f)) : n_g D G H k := by
  subst hi
  have e := hg k _ hk h
  have := hP _ _ h
  unfold n_g
  rw [ht, e, he]
  have e2 : vp_cell c (n, .inr (.inr (.inr (.inr g)))) = vp_cell c (n, .inr (.inr (.inr (.inr f)))) := by
    rw [vp_cell_q, vp_cell_q]
    unfold arrV
    congr 2
    funext j
    show va_rf (g j.val) = va_rf (f j.val)
    rw [hfg j.val j.isLt]
  show H[q]? = some (vp_cell c (n, .inr (.inr (.inr (.inr g)))))
  rw [e2]
  exact this
end NW
theorem n_tg4 : ∀ j, j < 24 → (n_pi (30 + 4 * j) = 12 + 2 + 4 * j ∧ n_pi (30 + 4 * j + 1) = 12 + 2 + 4 * j + 1 ∧ n_pi (30 + 4 * j + 2) = 12 + 2 + 4 * j + 2 ∧ n_pi (30 + 4 * j + 3) = 12 + 2 + 4 * j + 3) ∧ pt_tags.getD (30 + 4 * j) 0 = 4 ∧ pt_tags.getD (30 + 4 * j + 1) 0 = 1040 ∧ pt_tags.getD (30 + 4 * j + 2) 0 = 1005 ∧ pt_tags.getD (30 + 4 * j + 3) 0 = 1030 := by decide +kernel
theorem n_tgi : ∀ j, j < 2 → (n_pi (127 + 4 * j) = 135 + 4 * j ∧ n_pi (127 + 4 * j + 1) = 135 + 4 * j + 1 ∧ n_pi (127 + 4 * j + 2) = 135 + 4 * j + 2 ∧ n_pi (127 + 4 * j + 3) = 135 + 4 * j + 3) ∧ pt_tags.getD (127 + 4 * j) 0 = 4 ∧ pt_tags.getD (127 + 4 * j + 1) 0 = 1040 ∧ pt_tags.getD (127 + 4 * j + 2) 0 = 1005 ∧ pt_tags.getD (127 + 4 * j + 3) 0 = 1030 := by decide +kernel
theorem n_tg3 : ∀ j, j < 8 → (n_pi (2 + 2 * j) = 119 + 2 * j ∧ n_pi (2 + 2 * j + 1) = 119 + 2 * j + 1) ∧ pt_tags.getD (2 + 2 * j) 0 = 3 ∧ pt_tags.getD (2 + 2 * j + 1) 0 = 1040 := by decide +kernel
theorem n_tgs : ∀ k, k < 158 → (∃ j, j < 8 ∧ (k = 2 + 2 * j ∨ k = 2 + 2 * j + 1)) ∨ (∃ j, j < 24 ∧ (k = 30 + 4 * j ∨ k = 30 + 4 * j + 1 ∨ k = 30 + 4 * j + 2 ∨ k = 30 + 4 * j + 3)) ∨ (∃ j, j < 2 ∧ (k = 127 + 4 * j ∨ k = 127 + 4 * j + 1 ∨ k = 127 + 4 * j + 2 ∨ k = 127 + 4 * j + 3)) ∨ k = 0 ∨ k = 1 ∨ (18 ≤ k ∧ k < 30) ∨ k = 126 ∨ (135 ≤ k) := by
  intro k hk
  by_cases h1 : 2 ≤ k ∧ k < 18
  · exact Or.inl ⟨(k - 2) / 2, by omega, by omega⟩
  · by_cases h2 : 30 ≤ k ∧ k < 126
    · exact Or.inr (Or.inl ⟨(k - 30) / 4, by omega, by omega⟩)
    · by_cases h3 : 127 ≤ k ∧ k < 135
      · exact Or.inr (Or.inr (Or.inl ⟨(k - 127) / 4, by omega, by omega⟩))
      · omega
set_option maxHeartbeats 2000000 in
theorem n_world {D : va_G} {G : pt_G} {w1 w2 : va_W} {H : Heap} {cc : Nat → ClassId} {h6 h7 : Nat} (hP : va_P D vwCl (w1 ++ w2) H) (hg : ∀ (k : Nat) (x : Nat × va_E), k < 158 → (w1 ++ w2)[n_pi k]? = some x → gA G k = x.1) (hc : ∀ i, gC G i = cc i) (s6 : n_s6 cc h6 w1) (s7 : n_s7 cc h7 w2) : (∀ k, k < 158 → n_g D G H k) ∧ gA G 0 = h6 ∧ gA G 143 = h7 ∧ (w1 ++ w2).length = 158 := by
  obtain ⟨hl, r, t, st, ac, im, as, pa, a1, a2, a3, a4, f, g, hB, h3, h4⟩ := s6
  obtain ⟨b0, b1, b2, b3, b4, b5, b6, b7, b8, b9, b10, b11⟩ := hB
  have wl : ∀ k len, n_win len w1 k (w1 ++ w2) k := fun k len => n_wL
  have c1 : ∀ {k : Nat} {x : Nat × va_E}, w1[k]? = some x → (w1 ++ w2)[k]? = some x := fun {k x} hx => wl k 1 0 x (by omega) hx
  -- the rows
  have R : ∀ j, j < 8 → ∃ b, f j = some b ∧ gA G (2 + 2 * j) = b ∧ n_g D G H (2 + 2 * j) ∧ n_g D G H (2 + 2 * j + 1) := by
    intro j hj
    obtain ⟨b, e1, q1, e2, e3⟩ := h3 j hj
    obtain ⟨p1, p2⟩ := n_tg3 j hj
    obtain ⟨g1, y1⟩ := n_ga hP hg (hc 0) (k := 2 + 2 * j + 1) (n := 40) (by omega) p1.2 p2.2 (by omega) (by omega) (c1 e3)
    refine ⟨b, e1, n_gh hg (by omega) p1.1 (c1 e2), n_go hP hg (by omega) p1.1 p2.1 (by omega) ?_ (c1 e2), g1⟩
    have hm := n_m0_z (o := 2 + 2 * j) (by omega) (by omega)
    have e : pt_fs G n_m0 3 (2 + 2 * j) = [.int (n_m0 (2 + 2 * j) 0), .int (n_m0 (2 + 2 * j) 1), .int (n_m0 (2 + 2 * j) 2), .ref (gA G (2 + 2 * j + 1))] := rfl
    rw [e, hm, y1]
  -- the acts
  obtain ⟨qa, fa, x1, x2, x3⟩ := b4
  have S : ∀ j, j < 24 → ∃ b, fa j = some b ∧ gA G (30 + 4 * j) = b ∧ n_g D G H (30 + 4 * j) ∧ n_g D G H (30 + 4 * j + 1) ∧ n_g D G H (30 + 4 * j + 2) ∧ n_g D G H (30 + 4 * j + 3) := by
    intro j hj
    obtain ⟨b, e1, e2⟩ := x3 j hj
    obtain ⟨p1, p2⟩ := n_tg4 j hj
    obtain ⟨y1, y2⟩ := n_g4 hP hg (hc 0) (by omega) p1 p2 (n_a4_w e2 (wl _ 4))
    exact ⟨b, e1, y1, y2⟩
  -- the images
  have I : ∀ j, j < 2 → ∃ b, g j = some b ∧ gA G (127 + 4 * j) = b ∧ n_g D G H (127 + 4 * j) ∧ n_g D G H (127 + 4 * j + 1) ∧ n_g D G H (127 + 4 * j + 2) ∧ n_g D G H (127 + 4 * j + 3) := by
    intro j hj
    obtain ⟨b, e1, e2⟩ := h4 j hj
    obtain ⟨p1, p2⟩ := n_tgi j hj
    obtain ⟨y1, y2⟩ := n_g4 hP hg (hc 0) (by omega) p1 p2 (n_a4_w e2 (wl _ 4))
    exact ⟨b, e1, y1, y2⟩
  -- the street, the tape
  obtain ⟨yst, gst⟩ := n_g4 hP hg (hc 0) (k := 24) (i := 8) (by omega) (by decide) (by decide +kernel) (n_a4_w b3 (wl _ 4))
  obtain ⟨qb, qd, t1, t2, t3⟩ := b2
  obtain ⟨ydr, gdr⟩ := n_g4 hP hg (hc 0) (k := 20) (i := 3) (by omega) (by decide) (by decide +kernel) (n_a4_w t2 (wl _ 4))
  obtain ⟨gby, yby⟩ := n_ga hP hg (hc 0) (k := 19) (i := 7) (n := 400) (by omega) (by decide) (by decide +kernel) (by omega) (by omega) (c1 t3)
  have gta : n_g D G H 18 := by
    refine n_go hP hg (i := 2) (by omega) (by decide) (by decide +kernel) (t := 5) (by omega) ?_ (c1 t1)
    have e : pt_fs G n_m0 5 18 = [.int 0, .ref (gA G 20), .int 0, .int 0, .ref (gA G 19), .int 0, .int 0, .int 0, .int 0] := rfl
    rw [e, ydr, yby]
  have yta : gA G 18 = t := n_gh hg (i := 2) (by omega) (by decide) (c1 t1)
  -- the acts' heads
  have yqa : gA G 29 = qa := n_gh hg (i := 13) (by omega) (by decide) (c1 x2)
  have yac : gA G 28 = ac := n_gh hg (i := 12) (by omega) (by decide) (c1 x1)
  have gac : n_g D G H 28 := by
    refine n_go hP hg (i := 12) (by omega) (by decide) (by decide +kernel) (t := 0) (by omega) ?_ (c1 x1)
    have e : pt_fs G n_m0 0 28 = [.int 0, .int 0, .ref (gA G 29)] := rfl
    rw [e, yqa]
  have gqa : n_g D G H 29 := by
    refine n_gr hP hg (i := 13) (t := 9) (g := fun j => some (gA G (29 + 1 + 4 * j))) (by omega) (by decide) (by decide +kernel) ?_ (fun j hj => ?_) (c1 x2)
    · rw [← hc 3]; rfl
    · obtain ⟨b, e1, e2, -⟩ := S j hj
      rw [e1, ← e2]
  -- asks, palm
  obtain ⟨qs, u1, u2⟩ := b6
  obtain ⟨gs2, ys2⟩ := n_ga hP hg (hc 0) (k := 136) (i := 112) (n := 16) (by omega) (by decide) (by decide +kernel) (by omega) (by omega) (c1 u2)
  have gas : n_g D G H 135 := by
    refine n_go hP hg (i := 111) (by omega) (by decide) (by decide +kernel) (t := 1) (by omega) ?_ (c1 u1)
    have e : pt_fs G n_m0 1 135 = [.int 0, .ref (gA G 136)] := rfl
    rw [e, ys2]
  have yas : gA G 135 = as := n_gh hg (i := 111) (by omega) (by decide) (c1 u1)
  obtain ⟨qp, v1, v2⟩ := b7
  obtain ⟨gp2, yp2⟩ := n_ga hP hg (hc 0) (k := 138) (i := 114) (n := 5) (by omega) (by decide) (by decide +kernel) (by omega) (by omega) (c1 v2)
  have gpa : n_g D G H 137 := by
    refine n_go hP hg (i := 113) (by omega) (by decide) (by decide +kernel) (t := 2) (by omega) ?_ (c1 v1)
    have e : pt_fs G n_m0 2 137 = [.int 0, .int (-1), .ref (gA G 138)] := rfl
    rw [e, yp2]
  have ypa : gA G 137 = pa := n_gh hg (i := 113) (by omega) (by decide) (c1 v1)
  -- arrays
  obtain ⟨z1, y1⟩ := n_ga hP hg (hc 0) (k := 139) (i := 115) (n := 8) (by omega) (by decide) (by decide +kernel) (by omega) (by omega) (c1 b8)
  obtain ⟨z2, y2⟩ := n_ga hP hg (hc 0) (k := 140) (i := 116) (n := 8) (by omega) (by decide) (by decide +kernel) (by omega) (by omega) (c1 b9)
  obtain ⟨z3, y3⟩ := n_ga hP hg (hc 0) (k := 141) (i := 117) (n := 8) (by omega) (by decide) (by decide +kernel) (by omega) (by omega) (c1 b10)
  obtain ⟨z4, y4⟩ := n_ga hP hg (hc 0) (k := 142) (i := 118) (n := 8) (by omega) (by decide) (by decide +kernel) (by omega) (by omega) (c1 b11)
  have yr : gA G 1 = r := n_gh hg (i := 1) (by omega) (by decide) (c1 b1)
  have yim : gA G 126 = im := n_gh hg (i := 110) (by omega) (by decide) (c1 b5)
  have gr : n_g D G H 1 := by
    refine n_gr hP hg (i := 1) (t := 8) (g := fun j => some (gA G (1 + 1 + 2 * j))) (by omega) (by decide) (by decide +kernel) ?_ (fun j hj => ?_) (c1 b1)
    · rw [← hc 2]; rfl
    · obtain ⟨b, e1, e2, -⟩ := R j hj
      rw [e1, ← e2]
  have gim : n_g D G H 126 := by
    refine n_gr hP hg (i := 110) (t := 10) (g := fun j => some (gA G (126 + 1 + 4 * j))) (by omega) (by decide) (by decide +kernel) ?_ (fun j hj => ?_) (c1 b5)
    · rw [← hc 3]; rfl
    · obtain ⟨b, e1, e2, -⟩ := I j hj
      rw [e1, ← e2]
  have g0 : n_g D G H 0 := by
    refine n_go hP hg (i := 0) (by omega) (by decide) (by decide +kernel) (t := 6) (by omega) ?_ (c1 b0)
    have e : pt_fs G n_m0 6 0 = [.ref (gA G 1), .ref (gA G 18), .ref (gA G 24), .ref (gA G 28), .ref (gA G 126), .ref (gA G 135), .int 0, .int 0, .ref (gA G 137), .ref (gA G 139), .ref (gA G 140), .ref (gA G 141), .ref (gA G 142)] := rfl
    rw [e, yr, yta, yst, yac, yim, yas, ypa, y1, y2, y3, y4]
  have y0 : gA G 0 = h6 := n_gh hg (i := 0) (by omega) (by decide) (c1 b0)
  -- the model
  have c2 : ∀ (j : Nat) (x : Nat × va_E), j < 15 → w2[j]? = some x → (w1 ++ w2)[143 + j]? = some x := fun j x hj hx => n_wR (len := 15) hl j x hj (by rw [Nat.zero_add]; exact hx)
  obtain ⟨r1, r2, r3, r4, r5, r6, r7, r8, r9, r10, r11, r12, r13, r14, rfl⟩ := s7
  obtain ⟨m2, o2⟩ := n_ga hP hg (hc 0) (k := 145) (i := 145) (n := 8) (by omega) (by decide) (by decide +kernel) (by omega) (by omega) (c2 2 _ (by decide) rfl)
  obtain ⟨m3, o3⟩ := n_ga hP hg (hc 0) (k := 146) (i := 146) (n := 320) (by omega) (by decide) (by decide +kernel) (by omega) (by omega) (c2 3 _ (by decide) rfl)
  obtain ⟨m4, o4⟩ := n_ga hP hg (hc 0) (k := 147) (i := 147) (n := 78) (by omega) (by decide) (by decide +kernel) (by omega) (by omega) (c2 4 _ (by decide) rfl)
  obtain ⟨m5, o5⟩ := n_ga hP hg (hc 0) (k := 148) (i := 148) (n := 78) (by omega) (by decide) (by decide +kernel) (by omega) (by omega) (c2 5 _ (by decide) rfl)
  obtain ⟨m6, o6⟩ := n_ga hP hg (hc 0) (k := 149) (i := 149) (n := 1872) (by omega) (by decide) (by decide +kernel) (by omega) (by omega) (c2 6 _ (by decide) rfl)
  obtain ⟨m7, o7⟩ := n_ga hP hg (hc 0) (k := 150) (i := 150) (n := 400) (by omega) (by decide) (by decide +kernel) (by omega) (by omega) (c2 7 _ (by decide) rfl)
  obtain ⟨m8, o8⟩ := n_ga hP hg (hc 0) (k := 151) (i := 151) (n := 5) (by omega) (by decide) (by decide +kernel) (by omega) (by omega) (c2 8 _ (by decide) rfl)
  obtain ⟨m9, o9⟩ := n_ga hP hg (hc 0) (k := 152) (i := 152) (n := 8) (by omega) (by decide) (by decide +kernel) (by omega) (by omega) (c2 9 _ (by decide) rfl)
  obtain ⟨m10, o10⟩ := n_ga hP hg (hc 0) (k := 153) (i := 153) (n := 8) (by omega) (by decide) (by decide +kernel) (by omega) (by omega) (c2 10 _ (by decide) rfl)
  obtain ⟨m11, o11⟩ := n_ga hP hg (hc 0) (k := 154) (i := 154) (n := 8) (by omega) (by decide) (by decide +kernel) (by omega) (by omega) (c2 11 _ (by decide) rfl)
  obtain ⟨m13, o13⟩ := n_ga hP hg (hc 0) (k := 156) (i := 156) (n := 156) (by omega) (by decide) (by decide +kernel) (by omega) (by omega) (c2 13 _ (by decide) rfl)
  obtain ⟨m14, o14⟩ := n_ga hP hg (hc 0) (k := 157) (i := 157) (n := 16) (by omega) (by decide) (by decide +kernel) (by omega) (by omega) (c2 14 _ (by decide) rfl)
  have m1 : n_g D G H 144 := n_gi hP hg (hc 0) (i := 144) (n := 8) (by omega) (by decide) (by decide +kernel) rfl (c2 1 _ (by decide) rfl)
  have o1 : gA G 144 = r1 := n_gh hg (i := 144) (by omega) (by decide) (c2 1 _ (by decide) rfl)
  have o12 : gA G 155 = r12 := n_gh hg (i := 155) (by omega) (by decide) (c2 12 _ (by decide) rfl)
  have m12 : n_g D G H 155 := by
    have h := c2 12 _ (by decide) rfl
    have := hP _ _ h
    unfold n_g
    rw [o12, show pt_tags.getD 155 0 = 11 from by decide +kernel]
    have e : pt_E G n_m0 11 155 = .inl (gC G 1, 2, .inl (n_m0 155)) := rfl
    rw [e, hc 1, n_m0_z (by omega) (by omega)]
    exact this
  have m0 : n_g D G H 143 := by
    refine n_go hP hg (i := 143) (by omega) (by decide) (by decide +kernel) (t := 7) (by omega) ?_ (c2 0 _ (by decide) rfl)
    have e : pt_fs G n_m0 7 143 = [.int 0, .int 0, .ref (gA G 144), .ref (gA G 145), .ref (gA G 146), .ref (gA G 147), .ref (gA G 148), .ref (gA G 149), .int 0, .ref (gA G 150), .int 0, .int 0, .int 0, .int 0, .int 0, .int 0, .int 0, .int 0, .int 0, .int 0, .ref (gA G 151), .int 0, .ref (gA G 152), .ref (gA G 153), .ref (gA G 154), .ref (gA G 155), .ref (gA G 156), .ref (gA G 157), .int 0] := rfl
    rw [e, o1, o2, o3, o4, o5, o6, o7, o8, o9, o10, o11, o12, o13, o14]
  refine ⟨fun k hk => ?_, y0, n_gh hg (i := 143) (by omega) (by decide) (c2 0 _ (by decide) rfl), by rw [List.length_append, hl]; rfl⟩
  rcases n_tgs k hk with ⟨j, hj, q⟩ | ⟨j, hj, q⟩ | ⟨j, hj, q⟩ | q | q | q | q | q
  · obtain ⟨-, -, -, w1, w2⟩ := R j hj
    rcases q with rfl | rfl
    · exact w1
    · exact w2
  · obtain ⟨-, -, -, w1, w2, w3, w4⟩ := S j hj
    rcases q with rfl | rfl | rfl | rfl
    · exact w1
    · exact w2
    · exact w3
    · exact w4
  · obtain ⟨-, -, -, w1, w2, w3, w4⟩ := I j hj
    rcases q with rfl | rfl | rfl | rfl
    · exact w1
    · exact w2
    · exact w3
    · exact w4
  · rw [q]; exact g0
  · rw [q]; exact gr
  · rcases (show k = 18 ∨ k = 19 ∨ k = 20 ∨ k = 21 ∨ k = 22 ∨ k = 23 ∨ k = 24 ∨ k = 25 ∨ k = 26 ∨ k = 27 ∨ k = 28 ∨ k = 29 by omega) with rfl | rfl | rfl | rfl | rfl | rfl | rfl | rfl | rfl | rfl | rfl | rfl
    · exact gta
    · exact gby
    · exact gdr.1
    · exact gdr.2.1
    · exact gdr.2.2.1
    · exact gdr.2.2.2
    · exact gst.1
    · exact gst.2.1
    · exact gst.2.2.1
    · exact gst.2.2.2
    · exact gac
    · exact gqa
  · rw [q]; exact gim
  · rcases (show k = 135 ∨ k = 136 ∨ k = 137 ∨ k = 138 ∨ k = 139 ∨ k = 140 ∨ k = 141 ∨ k = 142 ∨ k = 143 ∨ k = 144 ∨ k = 145 ∨ k = 146 ∨ k = 147 ∨ k = 148 ∨ k = 149 ∨ k = 150 ∨ k = 151 ∨ k = 152 ∨ k = 153 ∨ k = 154 ∨ k = 155 ∨ k = 156 ∨ k = 157 by omega) with rfl | rfl | rfl | rfl | rfl | rfl | rfl | rfl | rfl | rfl | rfl | rfl | rfl | rfl | rfl | rfl | rfl | rfl | rfl | rfl | rfl | rfl | rfl
    · exact gas
    · exact gs2
    · exact gpa
    · exact gp2
    · exact z1
    · exact z2
    · exact z3
    · exact z4
    · exact m0
    · exact m1
    · exact m2
    · exact m3
    · exact m4
    · exact m5
    · exact m6
    · exact m7
    · exact m8
    · exact m9
    · exact m10
    · exact m11
    · exact m12
    · exact m13
    · exact m14
def n_a0s : pt_al := (sg0, (0, fun _ => sg0), (fun _ => none), (fun _ => none), (0, fun _ => 0), (0, fun _ => 0), 0, 0)
theorem n_inv0 : lw_inv n_m0 := by
  have z : ∀ {o : Nat} (k : Nat), o ≠ 137 → o ≠ 144 → n_m0 o k = 0 := fun {o} k h1 h2 => by rw [n_m0_z h1 h2]
  obtain ⟨O, w0, r0⟩ := sg0_ok
  refine ⟨n_a0s, ⟨O, ⟨by show 0 ≤ 24; omega, fun i hi => absurd hi (Nat.not_lt_zero i)⟩, fun k _ τ e => ?_, fun r _ l n f e => ?_, ⟨by show 0 ≤ 400; omega, fun i hi => absurd hi (Nat.not_lt_zero i)⟩, by show 0 ≤ 16; omega⟩, ?_, ?_⟩
  · cases e
  · cases e
  · refine ⟨⟨z _ (by omega) (by omega), z _ (by omega) (by omega), z _ (by omega) (by omega), fun k hk => ?_, fun r hr => ?_⟩, ⟨z _ (by omega) (by omega), 0, by omega, z _ (by omega) (by omega), fun i hi => absurd hi (Nat.not_lt_zero i)⟩, fun k hk => ⟨fun _ => z _ (by omega) (by omega), fun τ e => by cases e⟩, fun r hr => ⟨fun _ => z _ (by omega) (by omega), fun l n f e => by cases e⟩, ⟨z _ (by omega) (by omega), fun i hi => absurd hi (Nat.not_lt_zero i)⟩, ⟨z _ (by omega) (by omega), fun i hi => absurd hi (Nat.not_lt_zero i)⟩, z _ (by omega) (by omega), z _ (by omega) (by omega)⟩
    · have hk2 : k < 5 * sw sg0 := hk
      rw [w0] at hk2; omega
    · have hr2 : r < sr sg0 := hr
      rw [r0] at hr2; omega
  · refine ⟨fun k _ => z _ (by omega) (by omega), ⟨z _ (by omega) (by omega), fun i hi => absurd hi (Nat.not_lt_zero i)⟩, fun k hk => ⟨fun _ => z _ (by omega) (by omega), fun τ e => by cases e⟩, fun r hr => ⟨fun _ => ?_, fun l n f e => by cases e⟩, ⟨z _ (by omega) (by omega), fun i hi => absurd hi (Nat.not_lt_zero i)⟩, ⟨z _ (by omega) (by omega), fun i hi => absurd hi (Nat.not_lt_zero i)⟩, z _ (by omega) (by omega), z _ (by omega) (by omega)⟩
    show n_lane r = -1
    unfold n_lane
    rw [if_pos hr]
