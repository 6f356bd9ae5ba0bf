/-! 02.mach: a small machine over one memory of ints (cell, place): values, states, worlds, contexts. Own work. -/
abbrev pt_V : Type := Int32 ⊕ (Int64 ⊕ (Nat × Nat))
abbrev pt_M : Type := Nat → Nat → Int32
abbrev pt_Q : Type := Option pt_V → pt_M → Prop
abbrev pt_L : Type := List (Option pt_V)
abbrev pt_S : Type := List pt_V
abbrev pt_K : Type := Nat → pt_L → pt_S → pt_M → Prop
abbrev pt_C : Type := Nat → List pt_V → pt_M → pt_Q → Prop
abbrev pt_O : Type := pt_C → pt_L → pt_S → pt_M → pt_K → pt_Q → Prop
abbrev zI (x : Int32) : pt_V := Sum.inl x
abbrev zL (x : Int64) : pt_V := Sum.inr (Sum.inl x)
abbrev zR (t o : Nat) : pt_V := Sum.inr (Sum.inr (t, o))
/-! the cells: 0 the class's object .. 142, 143 the model's object .. 157; a tag each: 0..7 an object of that class, 8 rows, 9 and 10 streets, 11 booleans, 1000 + n ints -/
def pt_tags : List Nat := [6, 8, 3, 1040, 3, 1040, 3, 1040, 3, 1040, 3, 1040, 3, 1040, 3, 1040, 3, 1040, 5, 1400, 4, 1040, 1005, 1030, 4, 1040, 1005, 1030, 0, 9] ++ ((List.replicate 24 [4, 1040, 1005, 1030]).flatten ++ ([10, 4, 1040, 1005, 1030, 4, 1040, 1005, 1030, 1, 1016, 2, 1005, 1008, 1008, 1008, 1008] ++ [7, 1008, 1008, 1320, 1078, 1078, 2872, 1400, 1005, 1008, 1008, 1008, 11, 1156, 1016]))
theorem pt_tags_len : pt_tags.length = 158 := by decide +kernel
def pt_N : Nat → Nat := fun t => [3, 2, 3, 4, 6, 9, 13, 29].getD t 0
/-- a field that holds a reference: the tag there, and how far behind the object it lies -/
def pt_fr : Nat → Nat → Option (Nat × Nat) := fun t k => match t with
  | 0 => match k with | 2 => some (9, 1) | _ => none
  | 1 => match k with | 1 => some (1016, 1) | _ => none
  | 2 => match k with | 2 => some (1005, 1) | _ => none
  | 3 => match k with | 3 => some (1040, 1) | _ => none
  | 4 => match k with | 3 => some (1040, 1) | 4 => some (1005, 2) | 5 => some (1030, 3) | _ => none
  | 5 => match k with | 1 => some (4, 2) | 4 => some (1400, 1) | _ => none
  | 6 => match k with | 0 => some (8, 1) | 1 => some (5, 18) | 2 => some (4, 24) | 3 => some (0, 28) | 4 => some (10, 126) | 5 => some (1, 135) | 8 => some (2, 137) | 9 => some (1008, 139) | 10 => some (1008, 140) | 11 => some (1008, 141) | 12 => some (1008, 142) | _ => none
  | 7 => match k with | 2 => some (1008, 1) | 3 => some (1008, 2) | 4 => some (1320, 3) | 5 => some (1078, 4) | 6 => some (1078, 5) | 7 => some (2872, 6) | 9 => some (1400, 7) | 20 => some (1005, 8) | 22 => some (1008, 9) | 23 => some (1008, 10) | 24 => some (1008, 11) | 25 => some (11, 12) | 26 => some (1156, 13) | 27 => some (1016, 14) | _ => none
  | _ => none
/-- class ids and field places; class ids of the array classes; addresses of the cells, of the texts, of their bytes, of the static tables; the script; the formatter; the lowest address that may change -/
abbrev pt_G : Type := va_G × (Nat → ClassId) × (Nat → Nat) × (Nat → Nat) × (Nat → Nat) × (Nat → Nat) × (Nat × Nat × (Nat → Int32)) × Value × Nat
abbrev gD (G : pt_G) : va_G := G.1
abbrev gC (G : pt_G) : Nat → ClassId := G.2.1
abbrev gA (G : pt_G) : Nat → Nat := G.2.2.1
abbrev gK (G : pt_G) : Nat → Nat := G.2.2.2.1
abbrev gV (G : pt_G) : Nat → Nat := G.2.2.2.2.1
abbrev gT (G : pt_G) : Nat → Nat := G.2.2.2.2.2.1
abbrev gX (G : pt_G) : Nat × Nat × (Nat → Int32) := G.2.2.2.2.2.2.1
abbrev gF (G : pt_G) : Value := G.2.2.2.2.2.2.2.1
abbrev gO (G : pt_G) : Nat := G.2.2.2.2.2.2.2.2
def pt_A (G : pt_G) : Nat → Prop := fun q => gO G ≤ q
def pt_rv (G : pt_G) (t o : Nat) : Value := if t = 12 then .ref (gK G o) else if t = 13 then .ref (gV G o) else if t = 20 then .ref (gT G o) else if t = 21 then .ref (gX G).1 else if t = 22 then gF G else .ref (gA G o)
def pt_cv (G : pt_G) : pt_V → Value
  | .inl x => .int x
  | .inr (.inl x) => .long x
  | .inr (.inr (t, o)) => pt_rv G t o
def pt_ok : pt_V → Prop
  | .inr (.inr (t, o)) => (t = 12 ∧ o < 7) ∨ (t = 13 ∧ o < 7) ∨ (t = 20 ∧ o < 3) ∨ t = 21 ∨ t = 22 ∨ pt_tags[o]? = some t
  | _ => True
theorem pt_tag_lt {t o : Nat} (h : pt_tags[o]? = some t) : o < 158 := by
  have := (List.getElem?_eq_some_iff.mp h).1
  rwa [pt_tags_len] at this
theorem pt_tag_all : ∀ t ∈ pt_tags, t < 12 ∨ (1000 ≤ t ∧ t < 4000) := by decide +kernel
theorem pt_tag_w {t o : Nat} (h : pt_tags[o]? = some t) : t < 12 ∨ (1000 ≤ t ∧ t < 4000) := pt_tag_all t (List.mem_of_getElem? h)
theorem pt_ok_w {t o : Nat} (h : pt_ok (zR t o)) (ht : t < 12 ∨ 1000 ≤ t) : pt_tags[o]? = some t := by
  rcases h with h | h | h | h | h | h <;> first | exact h | omega
theorem pt_rv_w {G : pt_G} {t o : Nat} (ht : t < 12 ∨ 1000 ≤ t) : pt_rv G t o = .ref (gA G o) := by
  unfold pt_rv
  rw [if_neg (by omega), if_neg (by omega), if_neg (by omega), if_neg (by omega), if_neg (by omega)]
theorem pt_cv_w {G : pt_G} {t o : Nat} (ht : t < 12 ∨ 1000 ≤ t) : pt_cv G (zR t o) = .ref (gA G o) := pt_rv_w ht
/-- what a field holds -/
def pt_fv (G : pt_G) (m : pt_M) (t o k : Nat) : Value := match pt_fr t k with
  | some (_, d) => .ref (gA G (o + d))
  | none => .int (m o k)
def pt_fs (G : pt_G) (m : pt_M) (t o : Nat) : List Value := (List.range (pt_N t)).map (pt_fv G m t o)
/-- a cell -/
def pt_E (G : pt_G) (m : pt_M) (t o : Nat) : va_E :=
  if t < 8 then .inr (t, pt_fs G m t o)
  else if t = 8 then .inl (gC G 2, 8, .inr (.inr (.inr (.inr fun j => some (gA G (o + 1 + 2 * j))))))
  else if t = 9 then .inl (gC G 3, 24, .inr (.inr (.inr (.inr fun j => some (gA G (o + 1 + 4 * j))))))
  else if t = 10 then .inl (gC G 3, 2, .inr (.inr (.inr (.inr fun j => some (gA G (o + 1 + 4 * j))))))
  else if t = 11 then .inl (gC G 1, 2, .inl (m o))
  else .inl (gC G 0, t - 1000, .inl (m o))
def pt_W (G : pt_G) (m : pt_M) : va_W := (List.range 158).map (fun o => (gA G o, pt_E G m (pt_tags.getD o 0) o))
theorem pt_W_at {G : pt_G} {m : pt_M} {t o : Nat} (h : pt_tags[o]? = some t) : (pt_W G m)[o]? = some (gA G o, pt_E G m t o) := by
  have ho := pt_tag_lt h
  unfold pt_W
  rw [List.getElem?_map, List.getElem?_range ho]
  show some (gA G o, pt_E G m (pt_tags.getD o 0) o) = _
  rw [List.getD_eq_getElem?_getD, h]
  rfl
theorem pt_E_m {G : pt_G} {m m' : pt_M} {t o : Nat} (h : m' o = m o) : pt_E G m' t o = pt_E G m t o := by
  have e : pt_fs G m' t o = pt_fs G m t o := by
    unfold pt_fs
    congr 1
    funext k
    unfold pt_fv
    rw [h]
  unfold pt_E
  rw [e, h]
theorem pt_W_set {G : pt_G} {m m' : pt_M} {t o : Nat} (h : pt_tags[o]? = some t) (hm : ∀ q, q ≠ o → m' q = m q) : pt_W G m' = (pt_W G m).set o (gA G o, pt_E G m' t o) := by
  have ho := pt_tag_lt h
  apply List.ext_getElem?
  intro q
  rw [List.getElem?_set]
  by_cases hq : o = q
  · subst hq
    rw [if_pos rfl, if_pos (by unfold pt_W; rw [List.length_map, List.length_range]; exact ho), pt_W_at h]
  · rw [if_neg hq]
    unfold pt_W
    rw [List.getElem?_map, List.getElem?_map]
    by_cases hq2 : q < 158
    · rw [List.getElem?_range hq2]
      show some (gA G q, pt_E G m' (pt_tags.getD q 0) q) = some (gA G q, pt_E G m (pt_tags.getD q 0) q)
      rw [pt_E_m (hm q (fun e => hq e.symm))]
    · rw [List.getElem?_eq_none (by rw [List.length_range]; omega)]
      rfl
/-- a store -/
def st (m : pt_M) (o k : Nat) (x : Int32) : pt_M := fun q => if q = o then (fun j => if j = k then x else m o j) else m q
theorem st_o {m : pt_M} {o k : Nat} {x : Int32} : st m o k x o = upd (m o) k x := by
  unfold st upd
  rw [if_pos rfl]
theorem st_ne {m : pt_M} {o k q : Nat} {x : Int32} (h : q ≠ o) : st m o k x q = m q := by
  unfold st
  rw [if_neg h]
/-- a copy -/
def cpm (m : pt_M) (o1 a o2 b n : Nat) : pt_M := fun q => if q = o2 then (fun j => if b ≤ j ∧ j < b + n then m o1 (a + (j - b)) else m o2 j) else m q
theorem cpm_o {m : pt_M} {o1 a o2 b n : Nat} : cpm m o1 a o2 b n o2 = va_cpy (m o1) (m o2) a b n := by
  unfold cpm va_cpy
  rw [if_pos rfl]
theorem cpm_ne {m : pt_M} {o1 a o2 b n q : Nat} (h : q ≠ o2) : cpm m o1 a o2 b n q = m q := by
  unfold cpm
  rw [if_neg h]
/-! fields of the objects -/
theorem pt_E_obj {G : pt_G} {m : pt_M} {t o : Nat} (h : t < 8) : pt_E G m t o = .inr (t, pt_fs G m t o) := by
  unfold pt_E
  rw [if_pos h]
theorem pt_fs_at {G : pt_G} {m : pt_M} {t o k : Nat} (hk : k < pt_N t) : (pt_fs G m t o)[k]? = some (pt_fv G m t o k) := by
  unfold pt_fs
  rw [List.getElem?_map, List.getElem?_range hk]
  rfl
theorem pt_fs_len {G : pt_G} {m : pt_M} {t o : Nat} : (pt_fs G m t o).length = pt_N t := by
  unfold pt_fs
  rw [List.length_map, List.length_range]
theorem pt_fs_set {G : pt_G} {m : pt_M} {t o k : Nat} {x : Int32} (hf : pt_fr t k = none) : (pt_fs G m t o).set k (.int x) = pt_fs G (st m o k x) t o := by
  apply List.ext_getElem?
  intro q
  rw [List.getElem?_set, pt_fs_len]
  by_cases hq : k = q
  · subst hq
    rw [if_pos rfl]
    by_cases hk : k < pt_N t
    · rw [if_pos hk, pt_fs_at hk]
      show some _ = some _
      unfold pt_fv
      rw [hf, st_o]
      show some _ = some (Value.int (upd (m o) k x k))
      rw [show upd (m o) k x k = x from if_pos rfl]
    · rw [if_neg hk, List.getElem?_eq_none (by rw [pt_fs_len]; omega)]
  · rw [if_neg hq]
    by_cases hk : q < pt_N t
    · rw [pt_fs_at hk, pt_fs_at hk]
      show some _ = some _
      unfold pt_fv
      rw [st_o, show upd (m o) k x q = m o q from if_neg (fun e => hq e.symm)]
    · rw [List.getElem?_eq_none (by rw [pt_fs_len]; omega), List.getElem?_eq_none (by rw [pt_fs_len]; omega)]
theorem pt_E_int {G : pt_G} {m : pt_M} {t o : Nat} (h : 1000 ≤ t) : pt_E G m t o = .inl (gC G 0, t - 1000, .inl (m o)) := by
  unfold pt_E
  rw [if_neg (by omega), if_neg (by omega), if_neg (by omega), if_neg (by omega), if_neg (by omega)]
/-! locals -/
def pt_get : pt_L → Nat → Option pt_V
  | [], _ => none
  | x :: _, 0 => x
  | _ :: l, i + 1 => pt_get l i
def pt_lset : pt_L → Nat → Option pt_V → pt_L
  | [], _, _ => []
  | _ :: l, 0, v => v :: l
  | x :: l, i + 1, v => x :: pt_lset l i v
def pt_clr (L : pt_L) : Nat → pt_L
  | 0 => L
  | i + 1 => match pt_get L i with
    | some (.inr (.inl _)) => pt_lset L i none
    | _ => L
def pt_put (L : pt_L) (i : Nat) (v : pt_V) : pt_L := pt_lset (pt_clr L i) i (some v)
def pt_putL (L : pt_L) (i : Nat) (v : pt_V) : pt_L := pt_lset (pt_lset (pt_clr L i) i (some v)) (i + 1) none
theorem pt_lset_len : ∀ (L : pt_L) (i : Nat) (v : Option pt_V), (pt_lset L i v).length = L.length
  | [], _, _ => rfl
  | _ :: _, 0, _ => rfl
  | _ :: l, i + 1, v => by
    show (pt_lset l i v).length + 1 = l.length + 1
    rw [pt_lset_len l i v]
theorem pt_get_lset : ∀ (L : pt_L) (i : Nat) (v : Option pt_V) (j : Nat), pt_get (pt_lset L i v) j = if j = i ∧ j < L.length then v else pt_get L j
  | [], i, v, j => by
    rw [if_neg (by intro h; exact absurd h.2 (Nat.not_lt_zero _))]
    rfl
  | x :: l, 0, v, 0 => by
    rw [if_pos ⟨rfl, Nat.succ_pos _⟩]
    rfl
  | x :: l, 0, v, j + 1 => by
    rw [if_neg (by omega)]
    rfl
  | x :: l, i + 1, v, 0 => by
    rw [if_neg (by omega)]
    rfl
  | x :: l, i + 1, v, j + 1 => by
    show pt_get (pt_lset l i v) j = _
    rw [pt_get_lset l i v j]
    show _ = if j + 1 = i + 1 ∧ j + 1 < l.length + 1 then v else pt_get l j
    by_cases h : j = i ∧ j < l.length
    · rw [if_pos h, if_pos (by omega)]
    · rw [if_neg h, if_neg (by omega)]
theorem pt_clr_s (L : pt_L) (i : Nat) : pt_clr L (i + 1) = match pt_get L i with
    | some (.inr (.inl _)) => pt_lset L i none
    | _ => L := rfl
theorem pt_clr_len (L : pt_L) (i : Nat) : (pt_clr L i).length = L.length := by
  cases i with
  | zero => rfl
  | succ i =>
    rw [pt_clr_s]
    split
    · exact pt_lset_len _ _ _
    · rfl
theorem pt_clr_get {L : pt_L} {i j : Nat} {w : pt_V} (h : pt_get (pt_clr L i) j = some w) : pt_get L j = some w ∧ ¬ (j + 1 = i ∧ ∃ x, w = zL x) := by
  cases i with
  | zero => exact ⟨h, by omega⟩
  | succ i =>
    rw [pt_clr_s] at h
    split at h
    next x hx =>
      rw [pt_get_lset] at h
      by_cases hj : j = i ∧ j < L.length
      · rw [if_pos hj] at h
        cases h
      · rw [if_neg hj] at h
        refine ⟨h, fun q => ?_⟩
        have hji : j = i := by omega
        subst hji
        by_cases hl : j < L.length
        · exact hj ⟨rfl, hl⟩
        · have : ∀ (L : pt_L) (j : Nat), L.length ≤ j → pt_get L j = none := by
            intro L
            induction L with
            | nil => intro j _; rfl
            | cons a l ih =>
              intro j hj
              cases j with
              | zero => exact absurd hj (by simp)
              | succ j => exact ih j (by simpa using hj)
          rw [this L j (by omega)] at h
          cases h
    next hx =>
      refine ⟨h, fun q => ?_⟩
      have hji : j = i := by omega
      subst hji
      obtain ⟨x, rfl⟩ := q.2
      exact hx x h
theorem pt_put_len (L : pt_L) (i : Nat) (v : pt_V) : (pt_put L i v).length = L.length := by
  unfold pt_put
  rw [pt_lset_len, pt_clr_len]
theorem pt_putL_len (L : pt_L) (i : Nat) (v : pt_V) : (pt_putL L i v).length = L.length := by
  unfold pt_putL
  rw [pt_lset_len, pt_lset_len, pt_clr_len]
theorem pt_put_get {L : pt_L} {i j : Nat} {v w : pt_V} (h : pt_get (pt_put L i v) j = some w) : (j = i ∧ w = v) ∨ (j ≠ i ∧ pt_get L j = some w ∧ ¬ (j + 1 = i ∧ ∃ x, w = zL x)) := by
  unfold pt_put at h
  rw [pt_get_lset] at h
  by_cases hj : j = i ∧ j < (pt_clr L i).length
  · rw [if_pos hj] at h
    cases h
    exact Or.inl ⟨hj.1, rfl⟩
  · rw [if_neg hj] at h
    by_cases hji : j = i
    · subst hji
      have hlen : ¬ j < L.length := fun q => hj ⟨rfl, by rw [pt_clr_len]; exact q⟩
      have key : ∀ (L : pt_L) (j : Nat), ¬ j < L.length → pt_get L j = none := by
        intro L
        induction L with
        | nil => intro j _; rfl
        | cons a l ih =>
          intro j hj
          cases j with
          | zero => exact absurd (by simp) hj
          | succ j => exact ih j (fun q => hj (by simpa using q))
      rw [key _ j (by rw [pt_clr_len]; exact hlen)] at h
      cases h
    · have := pt_clr_get h
      exact Or.inr ⟨hji, this.1, this.2⟩
theorem pt_putL_get {L : pt_L} {i j : Nat} {v w : pt_V} (h : pt_get (pt_putL L i v) j = some w) : (j = i ∧ w = v) ∨ (j ≠ i ∧ j ≠ i + 1 ∧ pt_get L j = some w ∧ ¬ (j + 1 = i ∧ ∃ x, w = zL x)) := by
  unfold pt_putL at h
  rw [pt_get_lset] at h
  by_cases hj : j = i + 1 ∧ j < (pt_lset (pt_clr L i) i (some v)).length
  · rw [if_pos hj] at h
    cases h
  · rw [if_neg hj] at h
    rcases pt_put_get (L := L) (i := i) (v := v) h with q | q
    · exact Or.inl q
    · refine Or.inr ⟨q.1, fun e => ?_, q.2⟩
      have hlen : ¬ j < L.length := fun z => hj ⟨e, by rw [pt_lset_len, pt_clr_len]; exact z⟩
      have key : ∀ (L : pt_L) (j : Nat), ¬ j < L.length → pt_get L j = none := by
        intro L
        induction L with
        | nil => intro j _; rfl
        | cons a l ih =>
          intro j hj
          cases j with
          | zero => exact absurd (by simp) hj
          | succ j => exact ih j (fun q => hj (by simpa using q))
      rw [key L j hlen] at q
      cases q.2.1
/-- the locals as the kit lists them -/
def pt_lv (G : pt_G) (L : pt_L) : List (Nat × Value) := (List.range L.length).filterMap (fun i => (pt_get L i).map (fun v => (i, pt_cv G v)))
theorem pt_get_lt : ∀ {L : pt_L} {i : Nat} {v : pt_V}, pt_get L i = some v → i < L.length
  | [], _, _, h => by cases h
  | _ :: _, 0, _, _ => Nat.succ_pos _
  | _ :: l, i + 1, v, h => Nat.succ_lt_succ (pt_get_lt (L := l) h)
theorem pt_lv_mem {G : pt_G} {L : pt_L} {i : Nat} {v : pt_V} (h : pt_get L i = some v) : (i, pt_cv G v) ∈ pt_lv G L :=
  List.mem_filterMap.mpr ⟨i, List.mem_range.mpr (pt_get_lt h), by rw [h]; rfl⟩
theorem pt_lv_of {G : pt_G} {L : pt_L} {q : Nat × Value} (h : q ∈ pt_lv G L) : ∃ v, pt_get L q.1 = some v ∧ q.2 = pt_cv G v := by
  obtain ⟨i, -, e⟩ := List.mem_filterMap.mp h
  cases hg : pt_get L i with
  | none => rw [hg] at e; cases e
  | some v =>
    rw [hg] at e
    cases e
    exact ⟨v, hg, rfl⟩
theorem pt_lv_at {G : pt_G} {ls : Array Slot} {nL : Nat} {L : pt_L} {i : Nat} {v : pt_V} (hl : lv_has ls nL (pt_lv G L)) (h : pt_get L i = some v) : ls[i]? = some (.val (pt_cv G v)) := hl.2.2 _ (pt_lv_mem h)
/-- that reference's category is 1 -/
def pt_J (G : pt_G) : Prop := (∀ i j, i < 158 → j < 158 → gA G i = gA G j → i = j) ∧ (∀ i, i < 158 → gO G ≤ gA G i) ∧ (gF G).category = 1
theorem pt_cat2 {G : pt_G} (J : pt_J G) {v : pt_V} (h : (pt_cv G v).category = 2) : ∃ x, v = zL x := by
  rcases v with x | x | ⟨t, o⟩
  · cases h
  · exact ⟨x, rfl⟩
  · exfalso
    have h : (pt_rv G t o).category = 2 := h
    unfold pt_rv at h
    repeat (first | (split at h) | (rw [J.2.2] at h) | (cases h))
theorem pt_cat1 {G : pt_G} (J : pt_J G) {v : pt_V} (h : ¬ ∃ x, v = zL x) : (pt_cv G v).category = 1 := by
  rcases lv_cat (pt_cv G v) with q | q
  · exact q
  · exact absurd (pt_cat2 J q) h
theorem pt_lv_put {G : pt_G} (J : pt_J G) {ls : Array Slot} {nL i : Nat} {L : pt_L} {v : pt_V}
    (h : lv_has ls nL ((i, pt_cv G v) :: (pt_lv G L).filter (fun q => !(q.1 == i) && !(q.1 + 1 == i && q.2.category == 2)))) : lv_has ls nL (pt_lv G (pt_put L i v)) := by
  refine ⟨h.1, h.2.1, fun q hq => ?_⟩
  obtain ⟨w, hw, e⟩ := pt_lv_of hq
  obtain ⟨j, z⟩ := q
  dsimp only at hw e
  subst e
  rcases pt_put_get hw with ⟨rfl, rfl⟩ | ⟨h1, h2, h3⟩
  · exact h.2.2 _ List.mem_cons_self
  · refine h.2.2 _ (List.mem_cons_of_mem _ (List.mem_filter.mpr ⟨pt_lv_mem h2, ?_⟩))
    have g1 : (j == i) = false := by simpa using h1
    dsimp only
    rw [g1]
    by_cases h4 : j + 1 = i
    · have g2 : ¬ (pt_cv G w).category = 2 := fun c => h3 ⟨h4, pt_cat2 J c⟩
      have g3 : ((pt_cv G w).category == 2) = false := by simpa using g2
      rw [g3]
      simp
    · have g3 : (j + 1 == i) = false := by simpa using h4
      rw [g3]
      rfl
theorem pt_lv_putL {G : pt_G} (J : pt_J G) {ls : Array Slot} {nL i : Nat} {L : pt_L} {v : pt_V}
    (h : lv_has ls nL ((i, pt_cv G v) :: (pt_lv G L).filter (fun q => !(q.1 == i) && (!(q.1 == i + 1) && !(q.1 + 1 == i && q.2.category == 2))))) : lv_has ls nL (pt_lv G (pt_putL L i v)) := by
  refine ⟨h.1, h.2.1, fun q hq => ?_⟩
  obtain ⟨w, hw, e⟩ := pt_lv_of hq
  obtain ⟨j, z⟩ := q
  dsimp only at hw e
  subst e
  rcases pt_putL_get hw with ⟨rfl, rfl⟩ | ⟨h1, h2, h3, h4⟩
  · exact h.2.2 _ List.mem_cons_self
  · refine h.2.2 _ (List.mem_cons_of_mem _ (List.mem_filter.mpr ⟨pt_lv_mem h3, ?_⟩))
    have g1 : (j == i) = false := by simpa using h1
    have g4 : (j == i + 1) = false := by simpa using h2
    dsimp only
    rw [g1, g4]
    by_cases h5 : j + 1 = i
    · have g2 : ¬ (pt_cv G w).category = 2 := fun c => h4 ⟨h5, pt_cat2 J c⟩
      have g3 : ((pt_cv G w).category == 2) = false := by simpa using g2
      rw [g3]
      simp
    · have g3 : (j + 1 == i) = false := by simpa using h5
      rw [g3]
      rfl
