/-! 07.heap: the rows of fields, arrays, calls, returns -/
theorem pt_gv_cv {G : pt_G} {mm : pt_M} {t o k : Nat} (h : pt_tags[o]? = some t) (hk : k < pt_N t) : pt_cv G (pt_gv t o k mm) = pt_fv G mm t o k ∧ pt_ok (pt_gv t o k mm) := by
  unfold pt_gv pt_fv
  cases hf : pt_fr t k with
  | none => exact ⟨rfl, trivial⟩
  | some q =>
    obtain ⟨t1, d⟩ := q
    have h2 := pt_sub_at h hk hf
    exact ⟨pt_cv_w (by rcases pt_tag_w h2 with z | z; exact Or.inl z; exact Or.inr z.1), pt_okW h2⟩
theorem pt_w_of {t : Nat} (h : t < 8) : t < 12 ∨ 1000 ≤ t := Or.inl (by omega)
set_option maxHeartbeats 400000 in
theorem ok_gf {cc : ByteArray} {own : String} {nL : Nat} {rt : Option FieldType} {pc nx : Nat} {t k ix N : Nat} {Cn : String} {T : u_T} (ht : t < 8) (hcl : vwCl[t]? = some (Cn, T, N)) (hN : pt_N t = N) (hin : ∀ w ∈ u_ws Cn T N, w ∈ pt_tbl) (hk : k < N)
    (hd : decode cc pc = .ok (.getfield ix, 3)) (en : pc + 3 = nx) (ew : Cond.fieldLink own ix (T k).1 (T k).2.1 (T k).2.2.1 ∈ pt_tbl) : pt_OK cc own nL rt pc (o_gf t k nx) := by
  intro G p l e R s m args below meth c cells slots Qw d C X IH RM K Q hK hQ L S mm h hs hl hn ls H locs hls hP hS
  subst en
  replace h := o_gf_of h
  obtain ⟨t1, o, S2, rfl, h⟩ := h
  replace h := cond_t h
  obtain ⟨h1, h⟩ := h
  have e := beq_t h1
  subst e
  have htag := pt_ok_w (pt_okS_hd hs) (pt_w_of ht)
  obtain ⟨g1, g2⟩ := pt_gv_cv (G := G) (mm := mm) htag (by rw [hN]; exact hk)
  have hk1 := hK _ _ _ _ h (pt_okS_cons g2 (pt_okS_tl hs)) hl hn ls H locs hls hP hS
  rw [List.map_cons, g1] at hk1
  rw [List.map_cons, pt_cv_w (pt_w_of ht)]
  exact va_get (C := Cn) (T := T) (N := N) X.1 X.2.1 X.2.2.2.2.1 hin X.2.2.2.1 X.2.2.2.2.2.1 hP o ((pt_W_at htag).trans (by rw [pt_E_obj ht])) hcl k hk (X.2.2.2.2.1 _ ew) (fun _ q => q) (pt_fs_at (by rw [hN]; exact hk)) hd hk1
set_option maxHeartbeats 400000 in
theorem ok_pf {cc : ByteArray} {own : String} {nL : Nat} {rt : Option FieldType} {pc nx : Nat} {t k ix N : Nat} {Cn : String} {T : u_T} (ty0 : Nat → FieldType) (ht : t < 8) (hcl : vwCl[t]? = some (Cn, T, N)) (hN : pt_N t = N) (hin : ∀ w ∈ u_ws Cn T N, w ∈ pt_tbl) (hty : ∀ k, k < N → parseFieldDescriptor (T k).2.2.1 = some (ty0 k)) (hnm : ∀ a, a < N → ∀ b, b < N → a ≠ b → (T a).2.1 ≠ (T b).2.1) (hk : k < N) (hf : pt_fr t k = none) (hfin : (T k).2.2.2 = false) (hde : parseFieldDescriptor (T k).2.2.1 = some .int)
    (hd : decode cc pc = .ok (.putfield ix, 3)) (en : pc + 3 = nx) (ew : Cond.fieldLink own ix (T k).1 (T k).2.1 (T k).2.2.1 ∈ pt_tbl) : pt_OK cc own nL rt pc (o_pf t k nx) := by
  intro G p l e R s m args below meth c cells slots Qw d C X IH RM K Q hK hQ L S mm h hs hl hn ls H locs hls hP hS
  subst en
  replace h := o_pf_of h
  obtain ⟨x, t1, o, S2, rfl, h⟩ := h
  replace h := cond_t h
  obtain ⟨h1, h⟩ := h
  have e := beq_t h1
  subst e
  have htag := pt_ok_w (pt_okS_hd (pt_okS_tl hs)) (pt_w_of ht)
  rw [List.map_cons, List.map_cons, pt_cv_w (pt_w_of ht)]
  refine va_put (C := Cn) (T := T) (N := N) X.1 X.2.1 X.2.2.2.2.1 hin ty0 hty hnm X.2.2.2.1 X.2.2.2.2.2.1 hP (pt_D X.2.2.2.2.2.2.1 mm) hS o ((pt_W_at htag).trans (by rw [pt_E_obj ht])) hcl k hk (X.2.2.2.2.1 _ ew) (fun _ q => q) hfin hde rfl rfl (by rw [pt_fs_len, hN]; exact hk) hd (fun H1 locs1 hP1 _ hS1 => ?_)
  have hP1 : va_P (gD G) vwCl (List.set (pt_W G mm) o (gA G o, Sum.inr (t1, (pt_fs G mm t1 o).set k (Value.int x)))) H1 := hP1
  rw [pt_fs_set hf, ← pt_E_obj (G := G) (m := st mm o k x) (o := o) ht, ← pt_W_set htag (fun q hq => st_ne hq)] at hP1
  exact hK _ _ _ _ h (pt_okS_tl (pt_okS_tl hs)) hl hn ls H1 locs1 hls hP1 hS1
theorem pt_nz {x : Int32} (h : x = 0 ∨ x = 1) : narrow .boolean (.int x) = .int x ∧ fits .boolean (.int x) = true := by
  rcases h with rfl | rfl <;> exact ⟨by decide +kernel, by decide +kernel⟩
set_option maxHeartbeats 400000 in
theorem ok_pz {cc : ByteArray} {own : String} {nL : Nat} {rt : Option FieldType} {pc nx : Nat} {t k ix N : Nat} {Cn : String} {T : u_T} (ty0 : Nat → FieldType) (ht : t < 8) (hcl : vwCl[t]? = some (Cn, T, N)) (hN : pt_N t = N) (hin : ∀ w ∈ u_ws Cn T N, w ∈ pt_tbl) (hty : ∀ k, k < N → parseFieldDescriptor (T k).2.2.1 = some (ty0 k)) (hnm : ∀ a, a < N → ∀ b, b < N → a ≠ b → (T a).2.1 ≠ (T b).2.1) (hk : k < N) (hf : pt_fr t k = none) (hfin : (T k).2.2.2 = false) (hde : parseFieldDescriptor (T k).2.2.1 = some .boolean)
    (hd : decode cc pc = .ok (.putfield ix, 3)) (en : pc + 3 = nx) (ew : Cond.fieldLink own ix (T k).1 (T k).2.1 (T k).2.2.1 ∈ pt_tbl) : pt_OK cc own nL rt pc (o_pz t k nx) := by
  intro G p l e R s m args below meth c cells slots Qw d C X IH RM K Q hK hQ L S mm h hs hl hn ls H locs hls hP hS
  subst en
  replace h := o_pz_of h
  obtain ⟨x, t1, o, S2, rfl, h⟩ := h
  replace h := cond_t h
  obtain ⟨h1, hx, h⟩ := h
  have e := beq_t h1
  subst e
  have htag := pt_ok_w (pt_okS_hd (pt_okS_tl hs)) (pt_w_of ht)
  rw [List.map_cons, List.map_cons, pt_cv_w (pt_w_of ht)]
  refine va_put (C := Cn) (T := T) (N := N) X.1 X.2.1 X.2.2.2.2.1 hin ty0 hty hnm X.2.2.2.1 X.2.2.2.2.2.1 hP (pt_D X.2.2.2.2.2.2.1 mm) hS o ((pt_W_at htag).trans (by rw [pt_E_obj ht])) hcl k hk (X.2.2.2.2.1 _ ew) (fun _ q => q) hfin hde (pt_nz hx).1 (pt_nz hx).2 (by rw [pt_fs_len, hN]; exact hk) hd (fun H1 locs1 hP1 _ hS1 => ?_)
  have hP1 : va_P (gD G) vwCl (List.set (pt_W G mm) o (gA G o, Sum.inr (t1, (pt_fs G mm t1 o).set k (Value.int x)))) H1 := hP1
  rw [pt_fs_set hf, ← pt_E_obj (G := G) (m := st mm o k x) (o := o) ht, ← pt_W_set htag (fun q hq => st_ne hq)] at hP1
  exact hK _ _ _ _ h (pt_okS_tl (pt_okS_tl hs)) hl hn ls H1 locs1 hls hP1 hS1
/-! a text's own fields -/
set_option maxHeartbeats 400000 in
theorem ok_tv {cc : ByteArray} {own : String} {nL : Nat} {rt : Option FieldType} {pc nx ix : Nat} (hd : decode cc pc = .ok (.getfield ix, 3)) (en : pc + 3 = nx) (ew : Cond.fieldLink own ix RJ0 "value" "[B" ∈ pt_tbl) : pt_OK cc own nL rt pc (o_tv nx) := by
  intro G p l e R s m args below meth c cells slots Qw d C X IH RM K Q hK hQ L S mm h hs hl hn ls H locs hls hP hS
  subst en
  replace h := o_tv_of h
  obtain ⟨t, o, S2, rfl, h⟩ := h
  replace h := cond_t h
  obtain ⟨h1, h⟩ := h
  have e := beq_t h1
  subst e
  have ho : o < 7 := by
    rcases pt_okS_hd hs with z | z | z | z | z | z <;> first | exact z.2 | exact absurd (pt_tag_w z) (by omega) | omega
  obtain ⟨t1, t2, t3, t4, t5, t6, t7, t8⟩ := X.2.2.2.2.2.2.2
  exact vk_getf X.1 X.2.1 (t4.1 o ho).2.2.1 hS X.2.2.2.1 (X.2.2.2.2.1 _ ew) (fun _ q => q) hd (hK _ _ _ _ h (pt_okS_cons (Or.inr (Or.inl ⟨rfl, ho⟩)) (pt_okS_tl hs)) hl hn ls H locs hls hP hS)
set_option maxHeartbeats 400000 in
theorem ok_tc {cc : ByteArray} {own : String} {nL : Nat} {rt : Option FieldType} {pc nx ix : Nat} (hd : decode cc pc = .ok (.getfield ix, 3)) (en : pc + 3 = nx) (ew : Cond.fieldLink own ix RJ0 "coder" "B" ∈ pt_tbl) : pt_OK cc own nL rt pc (o_tc nx) := by
  intro G p l e R s m args below meth c cells slots Qw d C X IH RM K Q hK hQ L S mm h hs hl hn ls H locs hls hP hS
  subst en
  replace h := o_tc_of h
  obtain ⟨t, o, S2, rfl, h⟩ := h
  replace h := cond_t h
  obtain ⟨h1, h⟩ := h
  have e := beq_t h1
  subst e
  have ho : o < 7 := by
    rcases pt_okS_hd hs with z | z | z | z | z | z <;> first | exact z.2 | exact absurd (pt_tag_w z) (by omega) | omega
  obtain ⟨t1, t2, t3, t4, t5, t6, t7, t8⟩ := X.2.2.2.2.2.2.2
  exact vk_getf X.1 X.2.1 (t4.1 o ho).2.1 hS X.2.2.2.1 (X.2.2.2.2.1 _ ew) (fun _ q => q) hd (hK _ _ _ _ h (pt_okS_cons trivial (pt_okS_tl hs)) hl hn ls H locs hls hP hS)
/-! arrays -/
theorem ble_t {a b : Nat} (h : Nat.ble a b = true) : a ≤ b := Nat.le_of_ble_eq_true h
set_option maxHeartbeats 400000 in
theorem ok_ald {cc : ByteArray} {own : String} {nL : Nat} {rt : Option FieldType} {pc nx : Nat} (hd : decode cc pc = .ok (.iaload, 1)) (en : pc + 1 = nx) : pt_OK cc own nL rt pc (o_ald nx) := by
  intro G p l e R s m args below meth c cells slots Qw d C X IH RM K Q hK hQ L S mm h hs hl hn ls H locs hls hP hS
  subst en
  replace h := o_ald_of h
  obtain ⟨i, t, o, S2, rfl, h⟩ := h
  replace h := cond_2 h
  rcases h with ⟨h1, j, rfl, hj, h⟩ | ⟨h1, h⟩
  · have ht := ble_t h1
    have htag := pt_ok_w (pt_okS_hd (pt_okS_tl hs)) (Or.inr ht)
    have hb : t < 4000 := by have := pt_tag_w htag; omega
    have hc : (nI j).toNatClampNeg = j := nI_clamp (by omega)
    rw [List.map_cons, List.map_cons, pt_cv_w (Or.inr ht)]
    refine va_iald X.1 X.2.1 X.2.2.2.2.2.1 hP o 0 ((pt_W_at htag).trans (by rw [pt_E_int ht])) rfl (vp_in_nI hj (by omega)) hd ?_
    rw [hc]
    exact hK _ _ _ _ h (pt_okS_cons trivial (pt_okS_tl (pt_okS_tl hs))) hl hn ls H locs hls hP hS
  · replace h := cond_t h
    obtain ⟨h2, j, rfl, hj, h⟩ := h
    have e := beq_t h2
    subst e
    have ho : o < 3 := by
      rcases pt_okS_hd (pt_okS_tl hs) with z | z | z | z | z | z <;> first | exact z.2 | exact absurd (pt_tag_w z) (by omega) | omega
    obtain ⟨t1, t2, t3, t4, t5, t6, t7, t8⟩ := X.2.2.2.2.2.2.2
    exact va_ti X.1 X.2.1 (t1 o ho).2 hS (vp_in_nI hj (by omega)) (by show Value.int (pt_tab o (nI j).toNatClampNeg) = Value.int (pt_tab o j); rw [nI_clamp (by omega)]) hd (hK _ _ _ _ h (pt_okS_cons trivial (pt_okS_tl (pt_okS_tl hs))) hl hn ls H locs hls hP hS)
set_option maxHeartbeats 400000 in
theorem ok_ast {cc : ByteArray} {own : String} {nL : Nat} {rt : Option FieldType} {pc nx : Nat} (hd : decode cc pc = .ok (.iastore, 1)) (en : pc + 1 = nx) : pt_OK cc own nL rt pc (o_ast nx) := by
  intro G p l e R s m args below meth c cells slots Qw d C X IH RM K Q hK hQ L S mm h hs hl hn ls H locs hls hP hS
  subst en
  replace h := o_ast_of h
  obtain ⟨x, i, t, o, S2, rfl, h⟩ := h
  replace h := cond_t h
  obtain ⟨h1, j, rfl, hj, h⟩ := h
  have ht := ble_t h1
  have htag := pt_ok_w (pt_okS_hd (pt_okS_tl (pt_okS_tl hs))) (Or.inr ht)
  have hb : t < 4000 := by have := pt_tag_w htag; omega
  have hc : (nI j).toNatClampNeg = j := nI_clamp (by omega)
  rw [List.map_cons, List.map_cons, List.map_cons, pt_cv_w (Or.inr ht)]
  refine va_iast X.1 X.2.1 X.2.2.2.2.2.1 hP (pt_D X.2.2.2.2.2.2.1 mm) hS o 0 ((pt_W_at htag).trans (by rw [pt_E_int ht])) rfl (vp_in_nI hj (by omega)) hd (fun H1 locs1 hP1 _ hS1 => ?_)
  rw [hc, ← st_o, ← pt_E_int (G := G) (m := st mm o j x) (o := o) ht, ← pt_W_set htag (fun q hq => st_ne hq)] at hP1
  exact hK _ _ _ _ h (pt_okS_tl (pt_okS_tl (pt_okS_tl hs))) hl hn ls H1 locs1 hls hP1 hS1
theorem pt_E_z {G : pt_G} {m : pt_M} {o : Nat} : pt_E G m 11 o = .inl (gC G 1, 2, .inl (m o)) := rfl
set_option maxHeartbeats 400000 in
theorem ok_zld {cc : ByteArray} {own : String} {nL : Nat} {rt : Option FieldType} {pc nx : Nat} (hd : decode cc pc = .ok (.baload, 1)) (en : pc + 1 = nx) : pt_OK cc own nL rt pc (o_zld nx) := by
  intro G p l e R s m args below meth c cells slots Qw d C X IH RM K Q hK hQ L S mm h hs hl hn ls H locs hls hP hS
  subst en
  replace h := o_zld_of h
  obtain ⟨i, t, o, S2, rfl, h⟩ := h
  replace h := cond_2 h
  rcases h with ⟨h1, j, rfl, hj, h⟩ | ⟨h1, h⟩
  · have e := beq_t h1
    subst e
    have htag := pt_ok_w (pt_okS_hd (pt_okS_tl hs)) (Or.inl (by omega))
    have hc : (nI j).toNatClampNeg = j := nI_clamp (by omega)
    rw [List.map_cons, List.map_cons, pt_cv_w (Or.inl (by omega))]
    refine va_zald X.1 X.2.1 X.2.2.2.2.2.1 hP o 1 (pt_W_at htag) rfl (vp_in_nI hj (by omega)) hd ?_
    rw [hc]
    exact hK _ _ _ _ h (pt_okS_cons trivial (pt_okS_tl (pt_okS_tl hs))) hl hn ls H locs hls hP hS
  · replace h := cond_t h
    obtain ⟨h2, j, rfl, hj, h⟩ := h
    have e := beq_t h2
    subst e
    have ho : o < 7 := by
      rcases pt_okS_hd (pt_okS_tl hs) with z | z | z | z | z | z <;> first | exact z.2 | exact absurd (pt_tag_w z) (by omega) | omega
    have hlen : ∀ o, o < 7 → pt_len.getD o 0 < 10 := by decide
    have hl2 := hlen o ho
    obtain ⟨t1, t2, t3, t4, t5, t6, t7, t8⟩ := X.2.2.2.2.2.2.2
    exact va_tb X.1 X.2.1 (t4.1 o ho).2.2.2 hS (vp_in_nI hj (by omega)) (by show Value.int ((pt_byt.getD o []).getD (nI j).toNatClampNeg 0) = Value.int ((pt_byt.getD o []).getD j 0); rw [nI_clamp (by omega)]) hd (hK _ _ _ _ h (pt_okS_cons trivial (pt_okS_tl (pt_okS_tl hs))) hl hn ls H locs hls hP hS)
set_option maxHeartbeats 400000 in
theorem ok_zst {cc : ByteArray} {own : String} {nL : Nat} {rt : Option FieldType} {pc nx : Nat} (hd : decode cc pc = .ok (.bastore, 1)) (en : pc + 1 = nx) : pt_OK cc own nL rt pc (o_zst nx) := by
  intro G p l e R s m args below meth c cells slots Qw d C X IH RM K Q hK hQ L S mm h hs hl hn ls H locs hls hP hS
  subst en
  replace h := o_zst_of h
  obtain ⟨x, i, t, o, S2, rfl, h⟩ := h
  replace h := cond_t h
  obtain ⟨h1, j, rfl, hj, hx, h⟩ := h
  have e := beq_t h1
  subst e
  have htag := pt_ok_w (pt_okS_hd (pt_okS_tl (pt_okS_tl hs))) (Or.inl (by omega))
  have hc : (nI j).toNatClampNeg = j := nI_clamp (by omega)
  have hx1 : vp_nar .boolean x = x := by rcases hx with rfl | rfl <;> decide +kernel
  rw [List.map_cons, List.map_cons, List.map_cons, pt_cv_w (Or.inl (by omega))]
  refine va_zast X.1 X.2.1 X.2.2.2.2.2.1 hP (pt_D X.2.2.2.2.2.2.1 mm) hS o 1 (pt_W_at htag) rfl (vp_in_nI hj (by omega)) hd (fun H1 locs1 hP1 _ hS1 => ?_)
  rw [hc, hx1, ← st_o, ← pt_E_z (G := G) (m := st mm o j x) (o := o), ← pt_W_set htag (fun q hq => st_ne hq)] at hP1
  exact hK _ _ _ _ h (pt_okS_tl (pt_okS_tl (pt_okS_tl hs))) hl hn ls H1 locs1 hls hP1 hS1
set_option maxHeartbeats 400000 in
theorem ok_len {cc : ByteArray} {own : String} {nL : Nat} {rt : Option FieldType} {pc nx : Nat} (hd : decode cc pc = .ok (.arraylength, 1)) (en : pc + 1 = nx) : pt_OK cc own nL rt pc (o_len nx) := by
  intro G p l e R s m args below meth c cells slots Qw d C X IH RM K Q hK hQ L S mm h hs hl hn ls H locs hls hP hS
  subst en
  replace h := o_len_of h
  obtain ⟨t, o, S2, rfl, h⟩ := h
  obtain ⟨t1, t2, t3, t4, t5, t6, t7, t8⟩ := X.2.2.2.2.2.2.2
  replace h := cond_2 h
  rcases h with ⟨h1, h⟩ | ⟨h1, h⟩
  · have ht := ble_t h1
    have htag := pt_ok_w (pt_okS_hd hs) (Or.inr ht)
    rw [List.map_cons, pt_cv_w (Or.inr ht)]
    have hw : (pt_W G mm)[o]? = some (gA G o, .inl (gC G 0, t - 1000, .inl (mm o))) := (pt_W_at htag).trans (by rw [pt_E_int ht])
    generalize t - 1000 = n at h hw
    exact va_alen X.1 X.2.1 X.2.2.2.2.2.1 hP o 0 (ty := .int) (x := (n, .inl (mm o))) (v := nI n) hw rfl rfl hd (hK _ _ _ _ h (pt_okS_cons trivial (pt_okS_tl hs)) hl hn ls H locs hls hP hS)
  · replace h := cond_2 h
    rcases h with ⟨h2, h⟩ | ⟨h2, h⟩
    · have e := beq_t h2
      subst e
      have ho : o < 7 := by
        rcases pt_okS_hd hs with z | z | z | z | z | z <;> first | exact z.2 | exact absurd (pt_tag_w z) (by omega) | omega
      exact va_tlen X.1 X.2.1 (t4.1 o ho).2.2.2 hS rfl hd (hK _ _ _ _ h (pt_okS_cons trivial (pt_okS_tl hs)) hl hn ls H locs hls hP hS)
    · replace h := cond_t h
      obtain ⟨h3, h⟩ := h
      have e := beq_t h3
      subst e
      have ho : o < 3 := by
        rcases pt_okS_hd hs with z | z | z | z | z | z <;> first | exact z.2 | exact absurd (pt_tag_w z) (by omega) | omega
      exact va_tlen X.1 X.2.1 (t1 o ho).2 hS rfl hd (hK _ _ _ _ h (pt_okS_cons trivial (pt_okS_tl hs)) hl hn ls H locs hls hP hS)
set_option maxHeartbeats 400000 in
theorem ok_rld {cc : ByteArray} {own : String} {nL : Nat} {rt : Option FieldType} {pc nx : Nat} (hd : decode cc pc = .ok (.aaload, 1)) (en : pc + 1 = nx) : pt_OK cc own nL rt pc (o_rld nx) := by
  intro G p l e R s m args below meth c cells slots Qw d C X IH RM K Q hK hQ L S mm h hs hl hn ls H locs hls hP hS
  subst en
  replace h := o_rld_of h
  obtain ⟨i, t, o, S2, rfl, h⟩ := h
  replace h := cond_2 h
  rcases h with ⟨h1, j, rfl, hj, h⟩ | ⟨h1, h⟩
  · have e := beq_t h1
    subst e
    have htag := pt_ok_w (pt_okS_hd (pt_okS_tl hs)) (Or.inl (by omega))
    have h3 := pt_rows_at htag hj
    have hk := hK _ _ _ _ h (pt_okS_cons (pt_okW h3) (pt_okS_tl (pt_okS_tl hs))) hl hn ls H locs hls hP hS
    rw [List.map_cons, pt_cv_w (Or.inl (by omega))] at hk
    rw [List.map_cons, List.map_cons, pt_cv_w (Or.inl (by omega))]
    refine va_aldq X.1 X.2.1 X.2.2.2.2.2.1 hP o 2 (pt_W_at htag) rfl (vp_in_nI hj (by omega)) hd ?_
    rw [nI_clamp (by omega)]
    exact hk
  · replace h := cond_2 h
    rcases h with ⟨h1, j, rfl, hj, h⟩ | ⟨h1, h⟩
    · have e := beq_t h1
      subst e
      have htag := pt_ok_w (pt_okS_hd (pt_okS_tl hs)) (Or.inl (by omega))
      have h3 := pt_acts_at htag hj
      have hk := hK _ _ _ _ h (pt_okS_cons (pt_okW h3) (pt_okS_tl (pt_okS_tl hs))) hl hn ls H locs hls hP hS
      rw [List.map_cons, pt_cv_w (Or.inl (by omega))] at hk
      rw [List.map_cons, List.map_cons, pt_cv_w (Or.inl (by omega))]
      refine va_aldq X.1 X.2.1 X.2.2.2.2.2.1 hP o 3 (pt_W_at htag) rfl (vp_in_nI hj (by omega)) hd ?_
      rw [nI_clamp (by omega)]
      exact hk
    · replace h := cond_t h
      obtain ⟨h1, j, rfl, hj, h⟩ := h
      have e := beq_t h1
      subst e
      have htag := pt_ok_w (pt_okS_hd (pt_okS_tl hs)) (Or.inl (by omega))
      have h3 := pt_imgs_at htag hj
      have hk := hK _ _ _ _ h (pt_okS_cons (pt_okW h3) (pt_okS_tl (pt_okS_tl hs))) hl hn ls H locs hls hP hS
      rw [List.map_cons, pt_cv_w (Or.inl (by omega))] at hk
      rw [List.map_cons, List.map_cons, pt_cv_w (Or.inl (by omega))]
      refine va_aldq X.1 X.2.1 X.2.2.2.2.2.1 hP o 3 (pt_W_at htag) rfl (vp_in_nI hj (by omega)) hd ?_
      rw [nI_clamp (by omega)]
      exact hk
set_option maxHeartbeats 800000 in
theorem ok_cpy {cc : ByteArray} {own : String} {nL : Nat} {rt : Option FieldType} {pc nx ix : Nat} (hd : decode cc pc = .ok (.invokestatic ix, 3)) (en : pc + 3 = nx) (ew : Cond.methodLink own ix arraycopyName ∈ pt_tbl ∧ Cond.native arraycopyName ∈ pt_tbl ∧ Cond.static arraycopyName ∈ pt_tbl ∧ Cond.initialized "java/lang/System" ∈ pt_tbl) : pt_OK cc own nL rt pc (o_cpy nx) := by
  intro G p l e R s m args below meth c cells slots Qw d C X IH RM K Q hK hQ L S mm h hs hl hn ls H locs hls hP hS
  subst en
  replace h := o_cpy_of h
  obtain ⟨n, dp, t2, o2, sp, t1, o1, S2, rfl, h⟩ := h
  replace h := cond_t h
  obtain ⟨h1, a, b, k, rfl, rfl, rfl, ha, hb, h⟩ := h
  rw [Bool.and_eq_true, Bool.and_eq_true] at h1
  have ht1 := ble_t h1.1.1
  have ht2 := ble_t h1.1.2
  have hsz := ble_t h1.2
  have htag2 := pt_ok_w (pt_okS_hd (pt_okS_tl (pt_okS_tl hs))) (Or.inr ht2)
  have htag1 := pt_ok_w (pt_okS_hd (pt_okS_tl (pt_okS_tl (pt_okS_tl (pt_okS_tl hs))))) (Or.inr ht1)
  have hb1 : t1 < 4000 := by have := pt_tag_w htag1; omega
  have hb2 : t2 < 4000 := by have := pt_tag_w htag2; omega
  have ca : (nI a).toNatClampNeg = a := nI_clamp (by omega)
  have cb : (nI b).toNatClampNeg = b := nI_clamp (by omega)
  have ck : (nI k).toNatClampNeg = k := nI_clamp (by omega)
  rw [List.map_cons, List.map_cons, List.map_cons, List.map_cons, List.map_cons, pt_cv_w (Or.inr ht1), pt_cv_w (Or.inr ht2)]
  refine va_copyi X.1 X.2.1 (X.2.2.1.trans hls.1.symm) X.2.2.2.1 (X.2.2.2.2.1 _ ew.1) (X.2.2.2.2.1 _ ew.2.1) (X.2.2.2.2.1 _ ew.2.2.1) (X.2.2.2.2.1 _ ew.2.2.2) X.2.2.2.2.2.1 hP (pt_D X.2.2.2.2.2.2.1 mm) hS o1 o2 0 0 (ty := .int)
    ((pt_W_at htag1).trans (by rw [pt_E_int ht1])) ((pt_W_at htag2).trans (by rw [pt_E_int ht2])) rfl rfl rfl (nI_pos (by omega)) (nI_pos (by omega)) (nI_pos (by omega)) (by rw [ca, ck]; exact ha) (by rw [cb, ck]; exact hb) (fun _ _ => rfl)
    (by have := RM.1; omega) ?_ hd (fun H1 locs1 hP1 _ hS1 => ?_)
  · have e1 : nativeFrameWords "java/lang/System" "arraycopy" 5 = 7 := by decide +kernel
    rw [e1, pt_sz_cat X.2.2.2.2.2.2.1]
    have := RM.2.1
    omega
  · rw [ca, cb, ck, ← cpm_o, ← pt_E_int (G := G) (m := cpm mm o1 a o2 b k) (o := o2) ht2, ← pt_W_set htag2 (fun q hq => cpm_ne hq)] at hP1
    exact hK _ _ _ _ h (pt_okS_tl (pt_okS_tl (pt_okS_tl (pt_okS_tl (pt_okS_tl hs))))) hl hn ls H1 locs1 hls hP1 hS1
/-! the script -/
set_option maxHeartbeats 400000 in
theorem pt_xld {cc : ByteArray} {own : String} {nL pc nx : Nat} {G : pt_G} {p : Program} {l : Launch} {e : Env} {R : Room} {s : State} {m : MethodId} {args : Array Value} {below : List Frame} {meth : Method} {c : Code} {cells slots : Nat} {Qw : State → Prop} (X : pt_X G p s m args c cc own nL) {C : pt_C} {K : pt_K} {Q : pt_Q} (hb0 : (gX G).2.1 < 2 ^ 31)
    (hd : decode cc pc = .ok (.iaload, 1)) (en : pc + 1 = nx) (hK : ∀ pc L S mm, K pc L S mm → pt_SK G p l e R s m args below meth c nL cells slots Qw pc L S mm) (L : pt_L) (S : pt_S) (mm : pt_M) (h : o_xld (gX G).2.1 (gX G).2.2 nx C L S mm K Q) : pt_SK G p l e R s m args below meth c nL cells slots Qw pc L S mm := by
  intro hs hl hn ls H locs hls hP hS
  subst en
  replace h := o_xld_of h
  obtain ⟨i, t, o, S2, rfl, h⟩ := h
  replace h := cond_t h
  obtain ⟨h1, j, rfl, hj, h⟩ := h
  have e := beq_t h1
  subst e
  obtain ⟨t1, t2, t3, t4, t5, t6, t7, t8, t9⟩ := X.2.2.2.2.2.2.2
  have hbl : (gX G).1 < s.heap.size := by
    obtain ⟨scr, g1, -⟩ := t8
    exact (Array.getElem?_eq_some_iff.mp g1).1
  refine va_sld X.1 X.2.1 t8 hbl t9 hS (vp_in_nI hj hb0) hd ?_
  rw [nI_clamp (by omega)]
  exact hK _ _ _ _ h (pt_okS_cons trivial (pt_okS_tl (pt_okS_tl hs))) hl hn ls H locs hls hP hS
set_option maxHeartbeats 400000 in
theorem pt_xlen {cc : ByteArray} {own : String} {nL pc nx : Nat} {G : pt_G} {p : Program} {l : Launch} {e : Env} {R : Room} {s : State} {m : MethodId} {args : Array Value} {below : List Frame} {meth : Method} {c : Code} {cells slots : Nat} {Qw : State → Prop} (X : pt_X G p s m args c cc own nL) {C : pt_C} {K : pt_K} {Q : pt_Q}
    (hd : decode cc pc = .ok (.arraylength, 1)) (en : pc + 1 = nx) (hK : ∀ pc L S mm, K pc L S mm → pt_SK G p l e R s m args below meth c nL cells slots Qw pc L S mm) (L : pt_L) (S : pt_S) (mm : pt_M) (h : o_xlen (gX G).2.1 nx C L S mm K Q) : pt_SK G p l e R s m args below meth c nL cells slots Qw pc L S mm := by
  intro hs hl hn ls H locs hls hP hS
  subst en
  replace h := o_xlen_of h
  obtain ⟨t, o, S2, rfl, h⟩ := h
  replace h := cond_t h
  obtain ⟨h1, h⟩ := h
  have e := beq_t h1
  subst e
  obtain ⟨t1, t2, t3, t4, t5, t6, t7, t8, t9⟩ := X.2.2.2.2.2.2.2
  have hbl : (gX G).1 < s.heap.size := by
    obtain ⟨scr, g1, -⟩ := t8
    exact (Array.getElem?_eq_some_iff.mp g1).1
  exact va_slen X.1 X.2.1 t8 hbl t9 hS hd (hK _ _ _ _ h (pt_okS_cons trivial (pt_okS_tl hs)) hl hn ls H locs hls hP hS)
/-! returns -/
theorem ok_ret {cc : ByteArray} {own : String} {nL : Nat} {pc : Nat} (hd : decode cc pc = .ok (.return_, 1)) : pt_OK cc own nL none pc o_ret := by
  intro G p l e R s m args below meth c cells slots Qw d C X IH RM K Q hK hQ L S mm h hs hl hn ls H locs hls hP hS
  unfold o_ret at h
  split at h
  · exact hQ pc ls H locs none mm h ⟨hd, rfl⟩ hP hS
  · exact h.elim
theorem ok_rI {cc : ByteArray} {own : String} {nL : Nat} {pc : Nat} (hd : decode cc pc = .ok (.ireturn, 1)) : pt_OK cc own nL (some .int) pc o_rI := by
  intro G p l e R s m args below meth c cells slots Qw d C X IH RM K Q hK hQ L S mm h hs hl hn ls H locs hls hP hS
  unfold o_rI at h
  split at h
  next x => exact hQ pc ls H locs (some (zI x)) mm h ⟨hd, .int, rfl, rfl⟩ hP hS
  next => exact h.elim
theorem ok_rZ {cc : ByteArray} {own : String} {nL : Nat} {pc : Nat} {ty : FieldType} (hd : decode cc pc = .ok (.ireturn, 1)) : pt_OK cc own nL (some ty) pc (o_rZ ty) := by
  intro G p l e R s m args below meth c cells slots Qw d C X IH RM K Q hK hQ L S mm h hs hl hn ls H locs hls hP hS
  unfold o_rZ at h
  split at h
  next x => exact hQ pc ls H locs (some (zI x)) mm h.2 ⟨hd, ty, rfl, h.1⟩ hP hS
  next => exact h.elim
theorem ok_rL {cc : ByteArray} {own : String} {nL : Nat} {pc : Nat} (hd : decode cc pc = .ok (.lreturn, 1)) : pt_OK cc own nL (some .long) pc o_rL := by
  intro G p l e R s m args below meth c cells slots Qw d C X IH RM K Q hK hQ L S mm h hs hl hn ls H locs hls hP hS
  unfold o_rL at h
  split at h
  next x => exact hQ pc ls H locs (some (zL x)) mm h ⟨hd, rfl⟩ hP hS
  next => exact h.elim
