/-! 06.rows: the rows of the ops (written by gen_rows.py) -/
theorem o_b2_of {f : Int32 → Int32 → Int32} {nx : Nat} {C : pt_C} {L : pt_L} {S : pt_S} {m : pt_M} {K : pt_K} {Q : pt_Q} (h : o_b2 f nx C L S m K Q) : ∃ (x y : Int32) (S2 : pt_S), S = zI y :: zI x :: S2 ∧ (K nx L (zI (f x y) :: S2) m) := by
  unfold o_b2 at h
  split at h
  · exact ⟨_, _, _, rfl, h⟩
  · exact h.elim
theorem o_bd_of {f : Int32 → Int32 → Int32} {nx : Nat} {C : pt_C} {L : pt_L} {S : pt_S} {m : pt_M} {K : pt_K} {Q : pt_Q} (h : o_bd f nx C L S m K Q) : ∃ (x y : Int32) (S2 : pt_S), S = zI y :: zI x :: S2 ∧ (¬ y = 0 ∧ K nx L (zI (f x y) :: S2) m) := by
  unfold o_bd at h
  split at h
  · exact ⟨_, _, _, rfl, h⟩
  · exact h.elim
theorem o_u1_of {f : Int32 → Int32} {nx : Nat} {C : pt_C} {L : pt_L} {S : pt_S} {m : pt_M} {K : pt_K} {Q : pt_Q} (h : o_u1 f nx C L S m K Q) : ∃ (x : Int32) (S2 : pt_S), S = zI x :: S2 ∧ (K nx L (zI (f x) :: S2) m) := by
  unfold o_u1 at h
  split at h
  · exact ⟨_, _, rfl, h⟩
  · exact h.elim
theorem o_i2l_of {nx : Nat} {C : pt_C} {L : pt_L} {S : pt_S} {m : pt_M} {K : pt_K} {Q : pt_Q} (h : o_i2l nx C L S m K Q) : ∃ (x : Int32) (S2 : pt_S), S = zI x :: S2 ∧ (K nx L (zL x.toInt64 :: S2) m) := by
  unfold o_i2l at h
  split at h
  · exact ⟨_, _, rfl, h⟩
  · exact h.elim
theorem o_l2i_of {nx : Nat} {C : pt_C} {L : pt_L} {S : pt_S} {m : pt_M} {K : pt_K} {Q : pt_Q} (h : o_l2i nx C L S m K Q) : ∃ (x : Int64) (S2 : pt_S), S = zL x :: S2 ∧ (K nx L (zI x.toInt32 :: S2) m) := by
  unfold o_l2i at h
  split at h
  · exact ⟨_, _, rfl, h⟩
  · exact h.elim
theorem o_l2_of {f : Int64 → Int64 → Int64} {nx : Nat} {C : pt_C} {L : pt_L} {S : pt_S} {m : pt_M} {K : pt_K} {Q : pt_Q} (h : o_l2 f nx C L S m K Q) : ∃ (x y : Int64) (S2 : pt_S), S = zL y :: zL x :: S2 ∧ (K nx L (zL (f x y) :: S2) m) := by
  unfold o_l2 at h
  split at h
  · exact ⟨_, _, _, rfl, h⟩
  · exact h.elim
theorem o_lsh_of {f : Int64 → Int32 → Int64} {nx : Nat} {C : pt_C} {L : pt_L} {S : pt_S} {m : pt_M} {K : pt_K} {Q : pt_Q} (h : o_lsh f nx C L S m K Q) : ∃ (x : Int64) (y : Int32) (S2 : pt_S), S = zI y :: zL x :: S2 ∧ (K nx L (zL (f x y) :: S2) m) := by
  unfold o_lsh at h
  split at h
  · exact ⟨_, _, _, rfl, h⟩
  · exact h.elim
theorem o_lcmp_of {nx : Nat} {C : pt_C} {L : pt_L} {S : pt_S} {m : pt_M} {K : pt_K} {Q : pt_Q} (h : o_lcmp nx C L S m K Q) : ∃ (x y : Int64) (S2 : pt_S), S = zL y :: zL x :: S2 ∧ (K nx L (zI (lg_cmp x y) :: S2) m) := by
  unfold o_lcmp at h
  split at h
  · exact ⟨_, _, _, rfl, h⟩
  · exact h.elim
theorem o_if_of {q : Int32 → Prop} {tg nx : Nat} {C : pt_C} {L : pt_L} {S : pt_S} {m : pt_M} {K : pt_K} {Q : pt_Q} (h : o_if q tg nx C L S m K Q) : ∃ (x : Int32) (S2 : pt_S), S = zI x :: S2 ∧ ((q x → K tg L S2 m) ∧ (¬ q x → K nx L S2 m)) := by
  unfold o_if at h
  split at h
  · exact ⟨_, _, rfl, h⟩
  · exact h.elim
theorem o_if2_of {q : Int32 → Int32 → Prop} {tg nx : Nat} {C : pt_C} {L : pt_L} {S : pt_S} {m : pt_M} {K : pt_K} {Q : pt_Q} (h : o_if2 q tg nx C L S m K Q) : ∃ (x y : Int32) (S2 : pt_S), S = zI y :: zI x :: S2 ∧ ((q x y → K tg L S2 m) ∧ (¬ q x y → K nx L S2 m)) := by
  unfold o_if2 at h
  split at h
  · exact ⟨_, _, _, rfl, h⟩
  · exact h.elim
theorem o_dup_of {nx : Nat} {C : pt_C} {L : pt_L} {S : pt_S} {m : pt_M} {K : pt_K} {Q : pt_Q} (h : o_dup nx C L S m K Q) : ∃ (v : pt_V) (S2 : pt_S), S = v :: S2 ∧ (cond (pt_c1 v) (K nx L (v :: v :: S2) m) False) := by
  unfold o_dup at h
  split at h
  · exact ⟨_, _, rfl, h⟩
  · exact h.elim
theorem o_dup2_of {nx : Nat} {C : pt_C} {L : pt_L} {S : pt_S} {m : pt_M} {K : pt_K} {Q : pt_Q} (h : o_dup2 nx C L S m K Q) : ∃ (v w : pt_V) (S2 : pt_S), S = v :: w :: S2 ∧ (cond (pt_c1 v && pt_c1 w) (K nx L (v :: w :: v :: w :: S2) m) False) := by
  unfold o_dup2 at h
  split at h
  · exact ⟨_, _, _, rfl, h⟩
  · exact h.elim
theorem o_dx1_of {nx : Nat} {C : pt_C} {L : pt_L} {S : pt_S} {m : pt_M} {K : pt_K} {Q : pt_Q} (h : o_dx1 nx C L S m K Q) : ∃ (v w : pt_V) (S2 : pt_S), S = v :: w :: S2 ∧ (cond (pt_c1 v && pt_c1 w) (K nx L (v :: w :: v :: S2) m) False) := by
  unfold o_dx1 at h
  split at h
  · exact ⟨_, _, _, rfl, h⟩
  · exact h.elim
theorem o_pop_of {nx : Nat} {C : pt_C} {L : pt_L} {S : pt_S} {m : pt_M} {K : pt_K} {Q : pt_Q} (h : o_pop nx C L S m K Q) : ∃ (v : pt_V) (S2 : pt_S), S = v :: S2 ∧ (cond (pt_c1 v) (K nx L S2 m) False) := by
  unfold o_pop at h
  split at h
  · exact ⟨_, _, rfl, h⟩
  · exact h.elim
theorem o_sI_of {i nx : Nat} {C : pt_C} {L : pt_L} {S : pt_S} {m : pt_M} {K : pt_K} {Q : pt_Q} (h : o_sI i nx C L S m K Q) : ∃ (x : Int32) (S2 : pt_S), S = zI x :: S2 ∧ (K nx (pt_put L i (zI x)) S2 m) := by
  unfold o_sI at h
  split at h
  · exact ⟨_, _, rfl, h⟩
  · exact h.elim
theorem o_sL_of {i nx : Nat} {C : pt_C} {L : pt_L} {S : pt_S} {m : pt_M} {K : pt_K} {Q : pt_Q} (h : o_sL i nx C L S m K Q) : ∃ (x : Int64) (S2 : pt_S), S = zL x :: S2 ∧ (K nx (pt_putL L i (zL x)) S2 m) := by
  unfold o_sL at h
  split at h
  · exact ⟨_, _, rfl, h⟩
  · exact h.elim
theorem o_sR_of {i nx : Nat} {C : pt_C} {L : pt_L} {S : pt_S} {m : pt_M} {K : pt_K} {Q : pt_Q} (h : o_sR i nx C L S m K Q) : ∃ (t o : Nat) (S2 : pt_S), S = zR t o :: S2 ∧ (cond (Nat.beq t 22) False (K nx (pt_put L i (zR t o)) S2 m)) := by
  unfold o_sR at h
  split at h
  · exact ⟨_, _, _, rfl, h⟩
  · exact h.elim
theorem o_gf_of {t k nx : Nat} {C : pt_C} {L : pt_L} {S : pt_S} {m : pt_M} {K : pt_K} {Q : pt_Q} (h : o_gf t k nx C L S m K Q) : ∃ (t1 o : Nat) (S2 : pt_S), S = zR t1 o :: S2 ∧ (cond (Nat.beq t1 t) (K nx L (pt_gv t o k m :: S2) m) False) := by
  unfold o_gf at h
  split at h
  · exact ⟨_, _, _, rfl, h⟩
  · exact h.elim
theorem o_pf_of {t k nx : Nat} {C : pt_C} {L : pt_L} {S : pt_S} {m : pt_M} {K : pt_K} {Q : pt_Q} (h : o_pf t k nx C L S m K Q) : ∃ (x : Int32) (t1 o : Nat) (S2 : pt_S), S = zI x :: zR t1 o :: S2 ∧ (cond (Nat.beq t1 t) (K nx L S2 (st m o k x)) False) := by
  unfold o_pf at h
  split at h
  · exact ⟨_, _, _, _, rfl, h⟩
  · exact h.elim
theorem o_pz_of {t k nx : Nat} {C : pt_C} {L : pt_L} {S : pt_S} {m : pt_M} {K : pt_K} {Q : pt_Q} (h : o_pz t k nx C L S m K Q) : ∃ (x : Int32) (t1 o : Nat) (S2 : pt_S), S = zI x :: zR t1 o :: S2 ∧ (cond (Nat.beq t1 t) ((x = 0 ∨ x = 1) ∧ K nx L S2 (st m o k x)) False) := by
  unfold o_pz at h
  split at h
  · exact ⟨_, _, _, _, rfl, h⟩
  · exact h.elim
theorem o_tv_of {nx : Nat} {C : pt_C} {L : pt_L} {S : pt_S} {m : pt_M} {K : pt_K} {Q : pt_Q} (h : o_tv nx C L S m K Q) : ∃ (t o : Nat) (S2 : pt_S), S = zR t o :: S2 ∧ (cond (Nat.beq t 12) (K nx L (zR 13 o :: S2) m) False) := by
  unfold o_tv at h
  split at h
  · exact ⟨_, _, _, rfl, h⟩
  · exact h.elim
theorem o_tc_of {nx : Nat} {C : pt_C} {L : pt_L} {S : pt_S} {m : pt_M} {K : pt_K} {Q : pt_Q} (h : o_tc nx C L S m K Q) : ∃ (t o : Nat) (S2 : pt_S), S = zR t o :: S2 ∧ (cond (Nat.beq t 12) (K nx L (zI 0 :: S2) m) False) := by
  unfold o_tc at h
  split at h
  · exact ⟨_, _, _, rfl, h⟩
  · exact h.elim
theorem o_ald_of {nx : Nat} {C : pt_C} {L : pt_L} {S : pt_S} {m : pt_M} {K : pt_K} {Q : pt_Q} (h : o_ald nx C L S m K Q) : ∃ (i : Int32) (t o : Nat) (S2 : pt_S), S = zI i :: zR t o :: S2 ∧ (cond (Nat.ble 1000 t) (∃ j, i = nI j ∧ j < t - 1000 ∧ K nx L (zI (m o j) :: S2) m) (cond (Nat.beq t 20) (∃ j, i = nI j ∧ j < 6 ∧ K nx L (zI (pt_tab o j) :: S2) m) False)) := by
  unfold o_ald at h
  split at h
  · exact ⟨_, _, _, _, rfl, h⟩
  · exact h.elim
theorem o_xld_of {xl : Nat} {xs : Nat → Int32} {nx : Nat} {C : pt_C} {L : pt_L} {S : pt_S} {m : pt_M} {K : pt_K} {Q : pt_Q} (h : o_xld xl xs nx C L S m K Q) : ∃ (i : Int32) (t o : Nat) (S2 : pt_S), S = zI i :: zR t o :: S2 ∧ (cond (Nat.beq t 21) (∃ j, i = nI j ∧ j < xl ∧ K nx L (zI (xs j) :: S2) m) False) := by
  unfold o_xld at h
  split at h
  · exact ⟨_, _, _, _, rfl, h⟩
  · exact h.elim
theorem o_ast_of {nx : Nat} {C : pt_C} {L : pt_L} {S : pt_S} {m : pt_M} {K : pt_K} {Q : pt_Q} (h : o_ast nx C L S m K Q) : ∃ (x i : Int32) (t o : Nat) (S2 : pt_S), S = zI x :: zI i :: zR t o :: S2 ∧ (cond (Nat.ble 1000 t) (∃ j, i = nI j ∧ j < t - 1000 ∧ K nx L S2 (st m o j x)) False) := by
  unfold o_ast at h
  split at h
  · exact ⟨_, _, _, _, _, rfl, h⟩
  · exact h.elim
theorem o_zld_of {nx : Nat} {C : pt_C} {L : pt_L} {S : pt_S} {m : pt_M} {K : pt_K} {Q : pt_Q} (h : o_zld nx C L S m K Q) : ∃ (i : Int32) (t o : Nat) (S2 : pt_S), S = zI i :: zR t o :: S2 ∧ (cond (Nat.beq t 11) (∃ j, i = nI j ∧ j < 2 ∧ K nx L (zI (m o j) :: S2) m) (cond (Nat.beq t 13) (∃ j, i = nI j ∧ j < pt_len.getD o 0 ∧ K nx L (zI ((pt_byt.getD o []).getD j 0) :: S2) m) False)) := by
  unfold o_zld at h
  split at h
  · exact ⟨_, _, _, _, rfl, h⟩
  · exact h.elim
theorem o_zst_of {nx : Nat} {C : pt_C} {L : pt_L} {S : pt_S} {m : pt_M} {K : pt_K} {Q : pt_Q} (h : o_zst nx C L S m K Q) : ∃ (x i : Int32) (t o : Nat) (S2 : pt_S), S = zI x :: zI i :: zR t o :: S2 ∧ (cond (Nat.beq t 11) (∃ j, i = nI j ∧ j < 2 ∧ (x = 0 ∨ x = 1) ∧ K nx L S2 (st m o j x)) False) := by
  unfold o_zst at h
  split at h
  · exact ⟨_, _, _, _, _, rfl, h⟩
  · exact h.elim
theorem o_len_of {nx : Nat} {C : pt_C} {L : pt_L} {S : pt_S} {m : pt_M} {K : pt_K} {Q : pt_Q} (h : o_len nx C L S m K Q) : ∃ (t o : Nat) (S2 : pt_S), S = zR t o :: S2 ∧ (cond (Nat.ble 1000 t) (K nx L (zI (nI (t - 1000)) :: S2) m) (cond (Nat.beq t 13) (K nx L (zI (nI (pt_len.getD o 0)) :: S2) m) (cond (Nat.beq t 20) (K nx L (zI 6 :: S2) m) False))) := by
  unfold o_len at h
  split at h
  · exact ⟨_, _, _, rfl, h⟩
  · exact h.elim
theorem o_xlen_of {xl nx : Nat} {C : pt_C} {L : pt_L} {S : pt_S} {m : pt_M} {K : pt_K} {Q : pt_Q} (h : o_xlen xl nx C L S m K Q) : ∃ (t o : Nat) (S2 : pt_S), S = zR t o :: S2 ∧ (cond (Nat.beq t 21) (K nx L (zI (nI xl) :: S2) m) False) := by
  unfold o_xlen at h
  split at h
  · exact ⟨_, _, _, rfl, h⟩
  · exact h.elim
theorem o_rld_of {nx : Nat} {C : pt_C} {L : pt_L} {S : pt_S} {m : pt_M} {K : pt_K} {Q : pt_Q} (h : o_rld nx C L S m K Q) : ∃ (i : Int32) (t o : Nat) (S2 : pt_S), S = zI i :: zR t o :: S2 ∧ (cond (Nat.beq t 8) (∃ j, i = nI j ∧ j < 8 ∧ K nx L (zR 3 (o + 1 + 2 * j) :: S2) m) (cond (Nat.beq t 9) (∃ j, i = nI j ∧ j < 24 ∧ K nx L (zR 4 (o + 1 + 4 * j) :: S2) m) (cond (Nat.beq t 10) (∃ j, i = nI j ∧ j < 2 ∧ K nx L (zR 4 (o + 1 + 4 * j) :: S2) m) False))) := by
  unfold o_rld at h
  split at h
  · exact ⟨_, _, _, _, rfl, h⟩
  · exact h.elim
theorem o_cpy_of {nx : Nat} {C : pt_C} {L : pt_L} {S : pt_S} {m : pt_M} {K : pt_K} {Q : pt_Q} (h : o_cpy nx C L S m K Q) : ∃ (n dp : Int32) (t2 o2 : Nat) (sp : Int32) (t1 o1 : Nat) (S2 : pt_S), S = zI n :: zI dp :: zR t2 o2 :: zI sp :: zR t1 o1 :: S2 ∧ (cond (Nat.ble 1000 t1 && Nat.ble 1000 t2 && Nat.ble (pt_sz S2) 8) (∃ a b k, sp = nI a ∧ dp = nI b ∧ n = nI k ∧ a + k ≤ t1 - 1000 ∧ b + k ≤ t2 - 1000 ∧ K nx L S2 (cpm m o1 a o2 b k)) False) := by
  unfold o_cpy at h
  split at h
  · exact ⟨_, _, _, _, _, _, _, _, rfl, h⟩
  · exact h.elim
theorem o_tsw_of {lo : Int} {d : Nat} {ts : List Nat} {C : pt_C} {L : pt_L} {S : pt_S} {m : pt_M} {K : pt_K} {Q : pt_Q} (h : o_tsw lo d ts C L S m K Q) : ∃ (x : Int32) (S2 : pt_S), S = zI x :: S2 ∧ (K (pt_tsw lo d ts x) L S2 m) := by
  unfold o_tsw at h
  split at h
  · exact ⟨_, _, rfl, h⟩
  · exact h.elim
theorem o_lsw_of {d : Nat} {ts : List (Int × Nat)} {C : pt_C} {L : pt_L} {S : pt_S} {m : pt_M} {K : pt_K} {Q : pt_Q} (h : o_lsw d ts C L S m K Q) : ∃ (x : Int32) (S2 : pt_S), S = zI x :: S2 ∧ (K (pt_lsw d ts x.toInt) L S2 m) := by
  unfold o_lsw at h
  split at h
  · exact ⟨_, _, rfl, h⟩
  · exact h.elim
set_option maxHeartbeats 400000 in
theorem ok_iadd {cc : ByteArray} {own : String} {nL : Nat} {rt : Option FieldType} {pc nx : Nat} (hd : decode cc pc = .ok (.iadd, 1)) (en : pc + 1 = nx) : pt_OK cc own nL rt pc (o_b2 (fun x y => x + y) nx) := by
  intro G p l e R s m args below meth c cells slots Qw d C X IH RM K Q hK hQ L S mm h hs hl hn ls H locs hls hP hS
  subst en
  obtain ⟨x, y, S2, rfl, h⟩ := o_b2_of h
  exact lv_iadd X.1 X.2.1 hd (hK _ _ _ _ h (pt_okS_cons trivial (pt_okS_tl (pt_okS_tl hs))) hl hn ls H locs hls hP hS)
set_option maxHeartbeats 400000 in
theorem ok_isub {cc : ByteArray} {own : String} {nL : Nat} {rt : Option FieldType} {pc nx : Nat} (hd : decode cc pc = .ok (.isub, 1)) (en : pc + 1 = nx) : pt_OK cc own nL rt pc (o_b2 (fun x y => x - y) nx) := by
  intro G p l e R s m args below meth c cells slots Qw d C X IH RM K Q hK hQ L S mm h hs hl hn ls H locs hls hP hS
  subst en
  obtain ⟨x, y, S2, rfl, h⟩ := o_b2_of h
  exact lv_isub X.1 X.2.1 hd (hK _ _ _ _ h (pt_okS_cons trivial (pt_okS_tl (pt_okS_tl hs))) hl hn ls H locs hls hP hS)
set_option maxHeartbeats 400000 in
theorem ok_imul {cc : ByteArray} {own : String} {nL : Nat} {rt : Option FieldType} {pc nx : Nat} (hd : decode cc pc = .ok (.imul, 1)) (en : pc + 1 = nx) : pt_OK cc own nL rt pc (o_b2 (fun x y => x * y) nx) := by
  intro G p l e R s m args below meth c cells slots Qw d C X IH RM K Q hK hQ L S mm h hs hl hn ls H locs hls hP hS
  subst en
  obtain ⟨x, y, S2, rfl, h⟩ := o_b2_of h
  exact lv_imul X.1 X.2.1 hd (hK _ _ _ _ h (pt_okS_cons trivial (pt_okS_tl (pt_okS_tl hs))) hl hn ls H locs hls hP hS)
set_option maxHeartbeats 400000 in
theorem ok_iand {cc : ByteArray} {own : String} {nL : Nat} {rt : Option FieldType} {pc nx : Nat} (hd : decode cc pc = .ok (.iand, 1)) (en : pc + 1 = nx) : pt_OK cc own nL rt pc (o_b2 (fun x y => x &&& y) nx) := by
  intro G p l e R s m args below meth c cells slots Qw d C X IH RM K Q hK hQ L S mm h hs hl hn ls H locs hls hP hS
  subst en
  obtain ⟨x, y, S2, rfl, h⟩ := o_b2_of h
  exact lv_iand X.1 X.2.1 hd (hK _ _ _ _ h (pt_okS_cons trivial (pt_okS_tl (pt_okS_tl hs))) hl hn ls H locs hls hP hS)
set_option maxHeartbeats 400000 in
theorem ok_ior {cc : ByteArray} {own : String} {nL : Nat} {rt : Option FieldType} {pc nx : Nat} (hd : decode cc pc = .ok (.ior, 1)) (en : pc + 1 = nx) : pt_OK cc own nL rt pc (o_b2 (fun x y => x ||| y) nx) := by
  intro G p l e R s m args below meth c cells slots Qw d C X IH RM K Q hK hQ L S mm h hs hl hn ls H locs hls hP hS
  subst en
  obtain ⟨x, y, S2, rfl, h⟩ := o_b2_of h
  exact lv_ior X.1 X.2.1 hd (hK _ _ _ _ h (pt_okS_cons trivial (pt_okS_tl (pt_okS_tl hs))) hl hn ls H locs hls hP hS)
set_option maxHeartbeats 400000 in
theorem ok_ishl {cc : ByteArray} {own : String} {nL : Nat} {rt : Option FieldType} {pc nx : Nat} (hd : decode cc pc = .ok (.ishl, 1)) (en : pc + 1 = nx) : pt_OK cc own nL rt pc (o_b2 (fun x y => x <<< (y &&& 31)) nx) := by
  intro G p l e R s m args below meth c cells slots Qw d C X IH RM K Q hK hQ L S mm h hs hl hn ls H locs hls hP hS
  subst en
  obtain ⟨x, y, S2, rfl, h⟩ := o_b2_of h
  exact lv_ishl X.1 X.2.1 hd (hK _ _ _ _ h (pt_okS_cons trivial (pt_okS_tl (pt_okS_tl hs))) hl hn ls H locs hls hP hS)
set_option maxHeartbeats 400000 in
theorem ok_ishr {cc : ByteArray} {own : String} {nL : Nat} {rt : Option FieldType} {pc nx : Nat} (hd : decode cc pc = .ok (.ishr, 1)) (en : pc + 1 = nx) : pt_OK cc own nL rt pc (o_b2 (fun x y => x >>> (y &&& 31)) nx) := by
  intro G p l e R s m args below meth c cells slots Qw d C X IH RM K Q hK hQ L S mm h hs hl hn ls H locs hls hP hS
  subst en
  obtain ⟨x, y, S2, rfl, h⟩ := o_b2_of h
  exact lv_ishr X.1 X.2.1 hd (hK _ _ _ _ h (pt_okS_cons trivial (pt_okS_tl (pt_okS_tl hs))) hl hn ls H locs hls hP hS)
set_option maxHeartbeats 400000 in
theorem ok_idiv {cc : ByteArray} {own : String} {nL : Nat} {rt : Option FieldType} {pc nx : Nat} (hd : decode cc pc = .ok (.idiv, 1)) (en : pc + 1 = nx) : pt_OK cc own nL rt pc (o_bd (fun x y => x / y) nx) := by
  intro G p l e R s m args below meth c cells slots Qw d C X IH RM K Q hK hQ L S mm h hs hl hn ls H locs hls hP hS
  subst en
  obtain ⟨x, y, S2, rfl, hy, h⟩ := o_bd_of h
  exact lv_idiv X.1 X.2.1 hd hy (hK _ _ _ _ h (pt_okS_cons trivial (pt_okS_tl (pt_okS_tl hs))) hl hn ls H locs hls hP hS)
set_option maxHeartbeats 400000 in
theorem ok_irem {cc : ByteArray} {own : String} {nL : Nat} {rt : Option FieldType} {pc nx : Nat} (hd : decode cc pc = .ok (.irem, 1)) (en : pc + 1 = nx) : pt_OK cc own nL rt pc (o_bd (fun x y => x - x / y * y) nx) := by
  intro G p l e R s m args below meth c cells slots Qw d C X IH RM K Q hK hQ L S mm h hs hl hn ls H locs hls hP hS
  subst en
  obtain ⟨x, y, S2, rfl, hy, h⟩ := o_bd_of h
  exact lv_irem X.1 X.2.1 hd hy (hK _ _ _ _ h (pt_okS_cons trivial (pt_okS_tl (pt_okS_tl hs))) hl hn ls H locs hls hP hS)
set_option maxHeartbeats 400000 in
theorem ok_ineg {cc : ByteArray} {own : String} {nL : Nat} {rt : Option FieldType} {pc nx : Nat} (hd : decode cc pc = .ok (.ineg, 1)) (en : pc + 1 = nx) : pt_OK cc own nL rt pc (o_u1 (fun x => -x) nx) := by
  intro G p l e R s m args below meth c cells slots Qw d C X IH RM K Q hK hQ L S mm h hs hl hn ls H locs hls hP hS
  subst en
  obtain ⟨x, S2, rfl, h⟩ := o_u1_of h
  exact lv_ineg X.1 X.2.1 hd (hK _ _ _ _ h (pt_okS_cons trivial (pt_okS_tl hs)) hl hn ls H locs hls hP hS)
set_option maxHeartbeats 400000 in
theorem ok_i2b {cc : ByteArray} {own : String} {nL : Nat} {rt : Option FieldType} {pc nx : Nat} (hd : decode cc pc = .ok (.i2b, 1)) (en : pc + 1 = nx) : pt_OK cc own nL rt pc (o_u1 (fun x => x.toInt8.toInt32) nx) := by
  intro G p l e R s m args below meth c cells slots Qw d C X IH RM K Q hK hQ L S mm h hs hl hn ls H locs hls hP hS
  subst en
  obtain ⟨x, S2, rfl, h⟩ := o_u1_of h
  exact lv_i2b X.1 X.2.1 hd rfl (hK _ _ _ _ h (pt_okS_cons trivial (pt_okS_tl hs)) hl hn ls H locs hls hP hS)
set_option maxHeartbeats 400000 in
theorem ok_i2s {cc : ByteArray} {own : String} {nL : Nat} {rt : Option FieldType} {pc nx : Nat} (hd : decode cc pc = .ok (.i2s, 1)) (en : pc + 1 = nx) : pt_OK cc own nL rt pc (o_u1 (fun x => x.toInt16.toInt32) nx) := by
  intro G p l e R s m args below meth c cells slots Qw d C X IH RM K Q hK hQ L S mm h hs hl hn ls H locs hls hP hS
  subst en
  obtain ⟨x, S2, rfl, h⟩ := o_u1_of h
  exact lv_i2s X.1 X.2.1 hd rfl (hK _ _ _ _ h (pt_okS_cons trivial (pt_okS_tl hs)) hl hn ls H locs hls hP hS)
set_option maxHeartbeats 400000 in
theorem ok_i2c {cc : ByteArray} {own : String} {nL : Nat} {rt : Option FieldType} {pc nx : Nat} (hd : decode cc pc = .ok (.i2c, 1)) (en : pc + 1 = nx) : pt_OK cc own nL rt pc (o_u1 (fun x => (x.toUInt32 % 65536).toInt32) nx) := by
  intro G p l e R s m args below meth c cells slots Qw d C X IH RM K Q hK hQ L S mm h hs hl hn ls H locs hls hP hS
  subst en
  obtain ⟨x, S2, rfl, h⟩ := o_u1_of h
  exact lv_i2c X.1 X.2.1 hd rfl (hK _ _ _ _ h (pt_okS_cons trivial (pt_okS_tl hs)) hl hn ls H locs hls hP hS)
set_option maxHeartbeats 400000 in
theorem ok_i2l {cc : ByteArray} {own : String} {nL : Nat} {rt : Option FieldType} {pc nx : Nat} (hd : decode cc pc = .ok (.i2l, 1)) (en : pc + 1 = nx) : pt_OK cc own nL rt pc (o_i2l nx) := by
  intro G p l e R s m args below meth c cells slots Qw d C X IH RM K Q hK hQ L S mm h hs hl hn ls H locs hls hP hS
  subst en
  obtain ⟨x, S2, rfl, h⟩ := o_i2l_of h
  exact lv_i2l X.1 X.2.1 hd rfl (hK _ _ _ _ h (pt_okS_cons trivial (pt_okS_tl hs)) hl hn ls H locs hls hP hS)
set_option maxHeartbeats 400000 in
theorem ok_l2i {cc : ByteArray} {own : String} {nL : Nat} {rt : Option FieldType} {pc nx : Nat} (hd : decode cc pc = .ok (.l2i, 1)) (en : pc + 1 = nx) : pt_OK cc own nL rt pc (o_l2i nx) := by
  intro G p l e R s m args below meth c cells slots Qw d C X IH RM K Q hK hQ L S mm h hs hl hn ls H locs hls hP hS
  subst en
  obtain ⟨x, S2, rfl, h⟩ := o_l2i_of h
  exact lv_l2i X.1 X.2.1 hd rfl (hK _ _ _ _ h (pt_okS_cons trivial (pt_okS_tl hs)) hl hn ls H locs hls hP hS)
set_option maxHeartbeats 400000 in
theorem ok_ladd {cc : ByteArray} {own : String} {nL : Nat} {rt : Option FieldType} {pc nx : Nat} (hd : decode cc pc = .ok (.ladd, 1)) (en : pc + 1 = nx) : pt_OK cc own nL rt pc (o_l2 (fun x y => x + y) nx) := by
  intro G p l e R s m args below meth c cells slots Qw d C X IH RM K Q hK hQ L S mm h hs hl hn ls H locs hls hP hS
  subst en
  obtain ⟨x, y, S2, rfl, h⟩ := o_l2_of h
  exact lv_ladd X.1 X.2.1 hd (hK _ _ _ _ h (pt_okS_cons trivial (pt_okS_tl (pt_okS_tl hs))) hl hn ls H locs hls hP hS)
set_option maxHeartbeats 400000 in
theorem ok_land {cc : ByteArray} {own : String} {nL : Nat} {rt : Option FieldType} {pc nx : Nat} (hd : decode cc pc = .ok (.land, 1)) (en : pc + 1 = nx) : pt_OK cc own nL rt pc (o_l2 (fun x y => x &&& y) nx) := by
  intro G p l e R s m args below meth c cells slots Qw d C X IH RM K Q hK hQ L S mm h hs hl hn ls H locs hls hP hS
  subst en
  obtain ⟨x, y, S2, rfl, h⟩ := o_l2_of h
  exact lv_land X.1 X.2.1 hd (hK _ _ _ _ h (pt_okS_cons trivial (pt_okS_tl (pt_okS_tl hs))) hl hn ls H locs hls hP hS)
set_option maxHeartbeats 400000 in
theorem ok_lor {cc : ByteArray} {own : String} {nL : Nat} {rt : Option FieldType} {pc nx : Nat} (hd : decode cc pc = .ok (.lor, 1)) (en : pc + 1 = nx) : pt_OK cc own nL rt pc (o_l2 (fun x y => x ||| y) nx) := by
  intro G p l e R s m args below meth c cells slots Qw d C X IH RM K Q hK hQ L S mm h hs hl hn ls H locs hls hP hS
  subst en
  obtain ⟨x, y, S2, rfl, h⟩ := o_l2_of h
  exact lv_lor X.1 X.2.1 hd (hK _ _ _ _ h (pt_okS_cons trivial (pt_okS_tl (pt_okS_tl hs))) hl hn ls H locs hls hP hS)
set_option maxHeartbeats 400000 in
theorem ok_lshl {cc : ByteArray} {own : String} {nL : Nat} {rt : Option FieldType} {pc nx : Nat} (hd : decode cc pc = .ok (.lshl, 1)) (en : pc + 1 = nx) : pt_OK cc own nL rt pc (o_lsh (fun x y => x <<< (y.toInt64 &&& 63)) nx) := by
  intro G p l e R s m args below meth c cells slots Qw d C X IH RM K Q hK hQ L S mm h hs hl hn ls H locs hls hP hS
  subst en
  obtain ⟨x, y, S2, rfl, h⟩ := o_lsh_of h
  exact lv_lshl X.1 X.2.1 hd rfl (hK _ _ _ _ h (pt_okS_cons trivial (pt_okS_tl (pt_okS_tl hs))) hl hn ls H locs hls hP hS)
set_option maxHeartbeats 400000 in
theorem ok_lshr {cc : ByteArray} {own : String} {nL : Nat} {rt : Option FieldType} {pc nx : Nat} (hd : decode cc pc = .ok (.lshr, 1)) (en : pc + 1 = nx) : pt_OK cc own nL rt pc (o_lsh (fun x y => x >>> (y.toInt64 &&& 63)) nx) := by
  intro G p l e R s m args below meth c cells slots Qw d C X IH RM K Q hK hQ L S mm h hs hl hn ls H locs hls hP hS
  subst en
  obtain ⟨x, y, S2, rfl, h⟩ := o_lsh_of h
  exact lv_lshr X.1 X.2.1 hd rfl (hK _ _ _ _ h (pt_okS_cons trivial (pt_okS_tl (pt_okS_tl hs))) hl hn ls H locs hls hP hS)
set_option maxHeartbeats 400000 in
theorem ok_lushr {cc : ByteArray} {own : String} {nL : Nat} {rt : Option FieldType} {pc nx : Nat} (hd : decode cc pc = .ok (.lushr, 1)) (en : pc + 1 = nx) : pt_OK cc own nL rt pc (o_lsh (fun x y => (x.toUInt64 >>> (y.toInt64.toUInt64 &&& Int64.toUInt64 63)).toInt64) nx) := by
  intro G p l e R s m args below meth c cells slots Qw d C X IH RM K Q hK hQ L S mm h hs hl hn ls H locs hls hP hS
  subst en
  obtain ⟨x, y, S2, rfl, h⟩ := o_lsh_of h
  exact lv_lushr X.1 X.2.1 hd rfl (hK _ _ _ _ h (pt_okS_cons trivial (pt_okS_tl (pt_okS_tl hs))) hl hn ls H locs hls hP hS)
set_option maxHeartbeats 400000 in
theorem ok_lcmp {cc : ByteArray} {own : String} {nL : Nat} {rt : Option FieldType} {pc nx : Nat} (hd : decode cc pc = .ok (.lcmp, 1)) (en : pc + 1 = nx) : pt_OK cc own nL rt pc (o_lcmp nx) := by
  intro G p l e R s m args below meth c cells slots Qw d C X IH RM K Q hK hQ L S mm h hs hl hn ls H locs hls hP hS
  subst en
  obtain ⟨x, y, S2, rfl, h⟩ := o_lcmp_of h
  exact W.lcmp X.1 X.2.1 hd (hK _ _ _ _ h (pt_okS_cons trivial (pt_okS_tl (pt_okS_tl hs))) hl hn ls H locs hls hP hS)
set_option maxHeartbeats 400000 in
theorem ok_if_eq {cc : ByteArray} {own : String} {nL : Nat} {rt : Option FieldType} {pc nx : Nat} {tg : Nat} {off : Int} (hd : decode cc pc = .ok (.ifCond .eq off, 3)) (et : (pc : Int) + off = (tg : Int)) (en : pc + 3 = nx) : pt_OK cc own nL rt pc (o_if (fun x => x = 0) tg nx) := by
  intro G p l e R s m args below meth c cells slots Qw d C X IH RM K Q hK hQ L S mm h hs hl hn ls H locs hls hP hS
  subst en
  obtain ⟨x, S2, rfl, h1, h2⟩ := o_if_of h
  exact lv_if_eq X.1 X.2.1 hd et (fun q => hK _ _ _ _ (h1 q) (pt_okS_tl hs) hl hn ls H locs hls hP hS) (fun q => hK _ _ _ _ (h2 q) (pt_okS_tl hs) hl hn ls H locs hls hP hS)
set_option maxHeartbeats 400000 in
theorem ok_icmp_eq {cc : ByteArray} {own : String} {nL : Nat} {rt : Option FieldType} {pc nx : Nat} {tg : Nat} {off : Int} (hd : decode cc pc = .ok (.if_icmp .eq off, 3)) (et : (pc : Int) + off = (tg : Int)) (en : pc + 3 = nx) : pt_OK cc own nL rt pc (o_if2 (fun x y => x = y) tg nx) := by
  intro G p l e R s m args below meth c cells slots Qw d C X IH RM K Q hK hQ L S mm h hs hl hn ls H locs hls hP hS
  subst en
  obtain ⟨x, y, S2, rfl, h1, h2⟩ := o_if2_of h
  exact lv_icmp_eq X.1 X.2.1 hd et (fun q => hK _ _ _ _ (h1 q) (pt_okS_tl (pt_okS_tl hs)) hl hn ls H locs hls hP hS) (fun q => hK _ _ _ _ (h2 q) (pt_okS_tl (pt_okS_tl hs)) hl hn ls H locs hls hP hS)
set_option maxHeartbeats 400000 in
theorem ok_if_ne {cc : ByteArray} {own : String} {nL : Nat} {rt : Option FieldType} {pc nx : Nat} {tg : Nat} {off : Int} (hd : decode cc pc = .ok (.ifCond .ne off, 3)) (et : (pc : Int) + off = (tg : Int)) (en : pc + 3 = nx) : pt_OK cc own nL rt pc (o_if (fun x => x = 0) nx tg) := by
  intro G p l e R s m args below meth c cells slots Qw d C X IH RM K Q hK hQ L S mm h hs hl hn ls H locs hls hP hS
  subst en
  obtain ⟨x, S2, rfl, h1, h2⟩ := o_if_of h
  exact lv_if_ne X.1 X.2.1 hd et (fun q => hK _ _ _ _ (h2 q) (pt_okS_tl hs) hl hn ls H locs hls hP hS) (fun q => hK _ _ _ _ (h1 q) (pt_okS_tl hs) hl hn ls H locs hls hP hS)
set_option maxHeartbeats 400000 in
theorem ok_icmp_ne {cc : ByteArray} {own : String} {nL : Nat} {rt : Option FieldType} {pc nx : Nat} {tg : Nat} {off : Int} (hd : decode cc pc = .ok (.if_icmp .ne off, 3)) (et : (pc : Int) + off = (tg : Int)) (en : pc + 3 = nx) : pt_OK cc own nL rt pc (o_if2 (fun x y => x = y) nx tg) := by
  intro G p l e R s m args below meth c cells slots Qw d C X IH RM K Q hK hQ L S mm h hs hl hn ls H locs hls hP hS
  subst en
  obtain ⟨x, y, S2, rfl, h1, h2⟩ := o_if2_of h
  exact lv_icmp_ne X.1 X.2.1 hd et (fun q => hK _ _ _ _ (h2 q) (pt_okS_tl (pt_okS_tl hs)) hl hn ls H locs hls hP hS) (fun q => hK _ _ _ _ (h1 q) (pt_okS_tl (pt_okS_tl hs)) hl hn ls H locs hls hP hS)
set_option maxHeartbeats 400000 in
theorem ok_if_lt {cc : ByteArray} {own : String} {nL : Nat} {rt : Option FieldType} {pc nx : Nat} {tg : Nat} {off : Int} (hd : decode cc pc = .ok (.ifCond .lt off, 3)) (et : (pc : Int) + off = (tg : Int)) (en : pc + 3 = nx) : pt_OK cc own nL rt pc (o_if (fun x => x < 0) tg nx) := by
  intro G p l e R s m args below meth c cells slots Qw d C X IH RM K Q hK hQ L S mm h hs hl hn ls H locs hls hP hS
  subst en
  obtain ⟨x, S2, rfl, h1, h2⟩ := o_if_of h
  exact lv_if_lt X.1 X.2.1 hd et (fun q => hK _ _ _ _ (h1 q) (pt_okS_tl hs) hl hn ls H locs hls hP hS) (fun q => hK _ _ _ _ (h2 q) (pt_okS_tl hs) hl hn ls H locs hls hP hS)
set_option maxHeartbeats 400000 in
theorem ok_icmp_lt {cc : ByteArray} {own : String} {nL : Nat} {rt : Option FieldType} {pc nx : Nat} {tg : Nat} {off : Int} (hd : decode cc pc = .ok (.if_icmp .lt off, 3)) (et : (pc : Int) + off = (tg : Int)) (en : pc + 3 = nx) : pt_OK cc own nL rt pc (o_if2 (fun x y => x < y) tg nx) := by
  intro G p l e R s m args below meth c cells slots Qw d C X IH RM K Q hK hQ L S mm h hs hl hn ls H locs hls hP hS
  subst en
  obtain ⟨x, y, S2, rfl, h1, h2⟩ := o_if2_of h
  exact lv_icmp_lt X.1 X.2.1 hd et (fun q => hK _ _ _ _ (h1 q) (pt_okS_tl (pt_okS_tl hs)) hl hn ls H locs hls hP hS) (fun q => hK _ _ _ _ (h2 q) (pt_okS_tl (pt_okS_tl hs)) hl hn ls H locs hls hP hS)
set_option maxHeartbeats 400000 in
theorem ok_if_ge {cc : ByteArray} {own : String} {nL : Nat} {rt : Option FieldType} {pc nx : Nat} {tg : Nat} {off : Int} (hd : decode cc pc = .ok (.ifCond .ge off, 3)) (et : (pc : Int) + off = (tg : Int)) (en : pc + 3 = nx) : pt_OK cc own nL rt pc (o_if (fun x => 0 ≤ x) tg nx) := by
  intro G p l e R s m args below meth c cells slots Qw d C X IH RM K Q hK hQ L S mm h hs hl hn ls H locs hls hP hS
  subst en
  obtain ⟨x, S2, rfl, h1, h2⟩ := o_if_of h
  exact lv_if_ge X.1 X.2.1 hd et (fun q => hK _ _ _ _ (h1 q) (pt_okS_tl hs) hl hn ls H locs hls hP hS) (fun q => hK _ _ _ _ (h2 q) (pt_okS_tl hs) hl hn ls H locs hls hP hS)
set_option maxHeartbeats 400000 in
theorem ok_icmp_ge {cc : ByteArray} {own : String} {nL : Nat} {rt : Option FieldType} {pc nx : Nat} {tg : Nat} {off : Int} (hd : decode cc pc = .ok (.if_icmp .ge off, 3)) (et : (pc : Int) + off = (tg : Int)) (en : pc + 3 = nx) : pt_OK cc own nL rt pc (o_if2 (fun x y => y ≤ x) tg nx) := by
  intro G p l e R s m args below meth c cells slots Qw d C X IH RM K Q hK hQ L S mm h hs hl hn ls H locs hls hP hS
  subst en
  obtain ⟨x, y, S2, rfl, h1, h2⟩ := o_if2_of h
  exact lv_icmp_ge X.1 X.2.1 hd et (fun q => hK _ _ _ _ (h1 q) (pt_okS_tl (pt_okS_tl hs)) hl hn ls H locs hls hP hS) (fun q => hK _ _ _ _ (h2 q) (pt_okS_tl (pt_okS_tl hs)) hl hn ls H locs hls hP hS)
set_option maxHeartbeats 400000 in
theorem ok_if_gt {cc : ByteArray} {own : String} {nL : Nat} {rt : Option FieldType} {pc nx : Nat} {tg : Nat} {off : Int} (hd : decode cc pc = .ok (.ifCond .gt off, 3)) (et : (pc : Int) + off = (tg : Int)) (en : pc + 3 = nx) : pt_OK cc own nL rt pc (o_if (fun x => 0 < x) tg nx) := by
  intro G p l e R s m args below meth c cells slots Qw d C X IH RM K Q hK hQ L S mm h hs hl hn ls H locs hls hP hS
  subst en
  obtain ⟨x, S2, rfl, h1, h2⟩ := o_if_of h
  exact lv_if_gt X.1 X.2.1 hd et (fun q => hK _ _ _ _ (h1 q) (pt_okS_tl hs) hl hn ls H locs hls hP hS) (fun q => hK _ _ _ _ (h2 q) (pt_okS_tl hs) hl hn ls H locs hls hP hS)
set_option maxHeartbeats 400000 in
theorem ok_icmp_gt {cc : ByteArray} {own : String} {nL : Nat} {rt : Option FieldType} {pc nx : Nat} {tg : Nat} {off : Int} (hd : decode cc pc = .ok (.if_icmp .gt off, 3)) (et : (pc : Int) + off = (tg : Int)) (en : pc + 3 = nx) : pt_OK cc own nL rt pc (o_if2 (fun x y => y < x) tg nx) := by
  intro G p l e R s m args below meth c cells slots Qw d C X IH RM K Q hK hQ L S mm h hs hl hn ls H locs hls hP hS
  subst en
  obtain ⟨x, y, S2, rfl, h1, h2⟩ := o_if2_of h
  exact lv_icmp_gt X.1 X.2.1 hd et (fun q => hK _ _ _ _ (h1 q) (pt_okS_tl (pt_okS_tl hs)) hl hn ls H locs hls hP hS) (fun q => hK _ _ _ _ (h2 q) (pt_okS_tl (pt_okS_tl hs)) hl hn ls H locs hls hP hS)
set_option maxHeartbeats 400000 in
theorem ok_if_le {cc : ByteArray} {own : String} {nL : Nat} {rt : Option FieldType} {pc nx : Nat} {tg : Nat} {off : Int} (hd : decode cc pc = .ok (.ifCond .le off, 3)) (et : (pc : Int) + off = (tg : Int)) (en : pc + 3 = nx) : pt_OK cc own nL rt pc (o_if (fun x => x ≤ 0) tg nx) := by
  intro G p l e R s m args below meth c cells slots Qw d C X IH RM K Q hK hQ L S mm h hs hl hn ls H locs hls hP hS
  subst en
  obtain ⟨x, S2, rfl, h1, h2⟩ := o_if_of h
  exact lv_if_le X.1 X.2.1 hd et (fun q => hK _ _ _ _ (h1 q) (pt_okS_tl hs) hl hn ls H locs hls hP hS) (fun q => hK _ _ _ _ (h2 q) (pt_okS_tl hs) hl hn ls H locs hls hP hS)
set_option maxHeartbeats 400000 in
theorem ok_icmp_le {cc : ByteArray} {own : String} {nL : Nat} {rt : Option FieldType} {pc nx : Nat} {tg : Nat} {off : Int} (hd : decode cc pc = .ok (.if_icmp .le off, 3)) (et : (pc : Int) + off = (tg : Int)) (en : pc + 3 = nx) : pt_OK cc own nL rt pc (o_if2 (fun x y => x ≤ y) tg nx) := by
  intro G p l e R s m args below meth c cells slots Qw d C X IH RM K Q hK hQ L S mm h hs hl hn ls H locs hls hP hS
  subst en
  obtain ⟨x, y, S2, rfl, h1, h2⟩ := o_if2_of h
  exact lv_icmp_le X.1 X.2.1 hd et (fun q => hK _ _ _ _ (h1 q) (pt_okS_tl (pt_okS_tl hs)) hl hn ls H locs hls hP hS) (fun q => hK _ _ _ _ (h2 q) (pt_okS_tl (pt_okS_tl hs)) hl hn ls H locs hls hP hS)
set_option maxHeartbeats 400000 in
theorem ok_goto {cc : ByteArray} {own : String} {nL : Nat} {rt : Option FieldType} {pc nx : Nat} {off : Int} (hd : decode cc pc = .ok (.goto off, 3)) (et : (pc : Int) + off = (nx : Int)) : pt_OK cc own nL rt pc (o_go nx) := by
  intro G p l e R s m args below meth c cells slots Qw d C X IH RM K Q hK hQ L S mm h hs hl hn ls H locs hls hP hS
  exact lv_goto X.1 X.2.1 hd et (hK _ _ _ _ h hs hl hn ls H locs hls hP hS)
set_option maxHeartbeats 400000 in
theorem ok_iconst {cc : ByteArray} {own : String} {nL : Nat} {rt : Option FieldType} {pc nx : Nat} {n : Int} {v : Int32} (hd : decode cc pc = .ok (.iconst n, 1)) (en : pc + 1 = nx) (ev : Int32.ofInt n = v) : pt_OK cc own nL rt pc (o_v (zI v) nx) := by
  intro G p l e R s m args below meth c cells slots Qw d C X IH RM K Q hK hQ L S mm h hs hl hn ls H locs hls hP hS
  subst en
  exact lv_iconst X.1 X.2.1 hd ev (hK _ _ _ _ h (pt_okS_cons trivial hs) hl hn ls H locs hls hP hS)
set_option maxHeartbeats 400000 in
theorem ok_bipush {cc : ByteArray} {own : String} {nL : Nat} {rt : Option FieldType} {pc nx : Nat} {n : Int} {v : Int32} (hd : decode cc pc = .ok (.bipush n, 2)) (en : pc + 2 = nx) (ev : (Int8.ofInt n).toInt32 = v) : pt_OK cc own nL rt pc (o_v (zI v) nx) := by
  intro G p l e R s m args below meth c cells slots Qw d C X IH RM K Q hK hQ L S mm h hs hl hn ls H locs hls hP hS
  subst en
  exact lv_bipush X.1 X.2.1 hd ev (hK _ _ _ _ h (pt_okS_cons trivial hs) hl hn ls H locs hls hP hS)
set_option maxHeartbeats 400000 in
theorem ok_sipush {cc : ByteArray} {own : String} {nL : Nat} {rt : Option FieldType} {pc nx : Nat} {n : Int} {v : Int32} (hd : decode cc pc = .ok (.sipush n, 3)) (en : pc + 3 = nx) (ev : (Int16.ofInt n).toInt32 = v) : pt_OK cc own nL rt pc (o_v (zI v) nx) := by
  intro G p l e R s m args below meth c cells slots Qw d C X IH RM K Q hK hQ L S mm h hs hl hn ls H locs hls hP hS
  subst en
  exact lv_sipush X.1 X.2.1 hd ev (hK _ _ _ _ h (pt_okS_cons trivial hs) hl hn ls H locs hls hP hS)
set_option maxHeartbeats 400000 in
theorem ok_lconst {cc : ByteArray} {own : String} {nL : Nat} {rt : Option FieldType} {pc nx : Nat} {n : Fin 2} {v : Int64} (hd : decode cc pc = .ok (.lconst n, 1)) (en : pc + 1 = nx) (ev : Int64.ofNat (n : Nat) = v) : pt_OK cc own nL rt pc (o_v (zL v) nx) := by
  intro G p l e R s m args below meth c cells slots Qw d C X IH RM K Q hK hQ L S mm h hs hl hn ls H locs hls hP hS
  subst en
  exact lv_lconst X.1 X.2.1 hd ev (hK _ _ _ _ h (pt_okS_cons trivial hs) hl hn ls H locs hls hP hS)
set_option maxHeartbeats 400000 in
theorem ok_ldc {cc : ByteArray} {own : String} {nL : Nat} {rt : Option FieldType} {pc nx : Nat} {ix : Nat} {v : Int32} (hd : decode cc pc = .ok (.ldc ix, 2)) (en : pc + 2 = nx) (ew : Cond.constant own ix v ∈ pt_tbl) : pt_OK cc own nL rt pc (o_v (zI v) nx) := by
  intro G p l e R s m args below meth c cells slots Qw d C X IH RM K Q hK hQ L S mm h hs hl hn ls H locs hls hP hS
  subst en
  exact lv_ldc X.1 X.2.1 X.2.2.2.1 (X.2.2.2.2.1 _ ew) hd (hK _ _ _ _ h (pt_okS_cons trivial hs) hl hn ls H locs hls hP hS)
set_option maxHeartbeats 400000 in
theorem ok_ldc2 {cc : ByteArray} {own : String} {nL : Nat} {rt : Option FieldType} {pc nx : Nat} {ix : Nat} {v : Int64} (hd : decode cc pc = .ok (.ldc2_w ix, 3)) (en : pc + 3 = nx) (ew : Cond.constantLong own ix v ∈ pt_tbl) : pt_OK cc own nL rt pc (o_v (zL v) nx) := by
  intro G p l e R s m args below meth c cells slots Qw d C X IH RM K Q hK hQ L S mm h hs hl hn ls H locs hls hP hS
  subst en
  exact lv_ldc2 X.1 X.2.1 X.2.2.2.1 (X.2.2.2.2.1 _ ew) hd (hK _ _ _ _ h (pt_okS_cons trivial hs) hl hn ls H locs hls hP hS)
set_option maxHeartbeats 400000 in
theorem ok_ldcS {cc : ByteArray} {own : String} {nL : Nat} {rt : Option FieldType} {pc nx : Nat} {i ix : Nat} (eo : own = RX5) (hi : i < 7) (ei : pt_ki i = ix) (hd : decode cc pc = .ok (.ldc ix, 2)) (en : pc + 2 = nx) : pt_OK cc own nL rt pc (o_v (zR 12 i) nx) := by
  intro G p l e R s m args below meth c cells slots Qw d C X IH RM K Q hK hQ L S mm h hs hl hn ls H locs hls hP hS
  subst en eo ei
  obtain ⟨t1, t2, t3, t4, t5, t6, t7, t8⟩ := X.2.2.2.2.2.2.2
  exact va_ldcS X.1 X.2.1 X.2.2.2.1 (t5 i hi) hd (hK _ _ _ _ h (pt_okS_cons (Or.inl ⟨rfl, hi⟩) hs) hl hn ls H locs hls hP hS)
set_option maxHeartbeats 400000 in
theorem ok_getsT {cc : ByteArray} {own : String} {nL : Nat} {rt : Option FieldType} {pc nx : Nat} {i ix : Nat} (hi : i < 3) (hd : decode cc pc = .ok (.getstatic ix, 3)) (en : pc + 3 = nx) (ew : Cond.fieldLink own ix RX6 (pt_sn i) "[I" ∈ pt_tbl) : pt_OK cc own nL rt pc (o_v (zR 20 i) nx) := by
  intro G p l e R s m args below meth c cells slots Qw d C X IH RM K Q hK hQ L S mm h hs hl hn ls H locs hls hP hS
  subst en
  obtain ⟨t1, t2, t3, t4, t5, t6, t7, t8⟩ := X.2.2.2.2.2.2.2
  exact va_gets X.1 X.2.1 (t1 i hi).1 hS X.2.2.2.1 (X.2.2.2.2.1 _ ew) (fun _ q => q) hd (hK _ _ _ _ h (pt_okS_cons (Or.inr (Or.inr (Or.inl ⟨rfl, hi⟩))) hs) hl hn ls H locs hls hP hS)
set_option maxHeartbeats 400000 in
theorem ok_getsN {cc : ByteArray} {own : String} {nL : Nat} {rt : Option FieldType} {pc nx : Nat} {i ix : Nat} (hi : i < 3) (hd : decode cc pc = .ok (.getstatic ix, 3)) (en : pc + 3 = nx) (ew : (own, ix, RX6, pt_sn i, "[I", RX6) ∈ pt_nF) : pt_OK cc own nL rt pc (o_v (zR 20 i) nx) := by
  intro G p l e R s m args below meth c cells slots Qw d C X IH RM K Q hK hQ L S mm h hs hl hn ls H locs hls hP hS
  subst en
  obtain ⟨t1, t2, t3, t4, t5, t6, t7, t8⟩ := X.2.2.2.2.2.2.2
  exact va_getsN X.1 X.2.1 (t1 i hi).1 hS X.2.2.2.1 (va_Nw.use rfl (t7 _ ew)) (fun _ q => q) hd (hK _ _ _ _ h (pt_okS_cons (Or.inr (Or.inr (Or.inl ⟨rfl, hi⟩))) hs) hl hn ls H locs hls hP hS)
set_option maxHeartbeats 400000 in
theorem ok_getsC {cc : ByteArray} {own : String} {nL : Nat} {rt : Option FieldType} {pc nx : Nat} {ix : Nat} (hd : decode cc pc = .ok (.getstatic ix, 3)) (en : pc + 3 = nx) (ew : Cond.fieldLink own ix RJ0 "COMPACT_STRINGS" "Z" ∈ pt_tbl) : pt_OK cc own nL rt pc (o_v (zI 1) nx) := by
  intro G p l e R s m args below meth c cells slots Qw d C X IH RM K Q hK hQ L S mm h hs hl hn ls H locs hls hP hS
  subst en
  obtain ⟨t1, t2, t3, t4, t5, t6, t7, t8⟩ := X.2.2.2.2.2.2.2
  exact va_gets X.1 X.2.1 t2 hS X.2.2.2.1 (X.2.2.2.2.1 _ ew) (fun _ q => q) hd (hK _ _ _ _ h (pt_okS_cons trivial hs) hl hn ls H locs hls hP hS)
set_option maxHeartbeats 400000 in
theorem ok_getsF {cc : ByteArray} {own : String} {nL : Nat} {rt : Option FieldType} {pc nx : Nat} {ix : Nat} (hd : decode cc pc = .ok (.getstatic ix, 3)) (en : pc + 3 = nx) (ew : Cond.fieldLink own ix RJ3 "SIOOBE_FORMATTER" "Ljava/util/function/BiFunction;" ∈ pt_tbl) : pt_OK cc own nL rt pc (o_v (zR 22 0) nx) := by
  intro G p l e R s m args below meth c cells slots Qw d C X IH RM K Q hK hQ L S mm h hs hl hn ls H locs hls hP hS
  subst en
  obtain ⟨t1, t2, t3, t4, t5, t6, t7, t8⟩ := X.2.2.2.2.2.2.2
  exact va_gets X.1 X.2.1 t3 hS X.2.2.2.1 (X.2.2.2.2.1 _ ew) (fun _ q => q) hd (hK _ _ _ _ h (pt_okS_cons (Or.inr (Or.inr (Or.inr (Or.inr (Or.inl rfl))))) hs) hl hn ls H locs hls hP hS)
theorem pt_isref {G : pt_G} {t o : Nat} (h : Nat.beq t 22 = false) : ∃ a, pt_cv G (zR t o) = .ref a := by
  have h2 : ¬ t = 22 := fun q => by rw [q] at h; cases h
  show ∃ a, pt_rv G t o = .ref a
  unfold pt_rv
  rw [if_neg h2]
  repeat (first | exact ⟨_, rfl⟩ | split)
set_option maxHeartbeats 400000 in
theorem ok_iload_n {cc : ByteArray} {own : String} {nL : Nat} {rt : Option FieldType} {pc nx : Nat} {k : Fin 4} {i : Nat} (hd : decode cc pc = .ok (.iload_n k, 1)) (ei : (k : Nat) = i) (en : pc + 1 = nx) : pt_OK cc own nL rt pc (o_lI i nx) := by
  intro G p l e R s m args below meth c cells slots Qw d C X IH RM K Q hK hQ L S mm h hs hl hn ls H locs hls hP hS
  subst en
  unfold o_lI at h
  split at h
  next x hx =>
    exact lv_iload_n X.1 X.2.1 hd ei (pt_lv_at hls hx) (hK _ _ _ _ h (pt_okS_cons trivial hs) hl hn ls H locs hls hP hS)
  next => exact h.elim
set_option maxHeartbeats 400000 in
theorem ok_iload {cc : ByteArray} {own : String} {nL : Nat} {rt : Option FieldType} {pc nx : Nat} {i : Nat} (hd : decode cc pc = .ok (.iload i, 2)) (en : pc + 2 = nx) : pt_OK cc own nL rt pc (o_lI i nx) := by
  intro G p l e R s m args below meth c cells slots Qw d C X IH RM K Q hK hQ L S mm h hs hl hn ls H locs hls hP hS
  subst en
  unfold o_lI at h
  split at h
  next x hx =>
    exact lv_iload X.1 X.2.1 hd (pt_lv_at hls hx) (hK _ _ _ _ h (pt_okS_cons trivial hs) hl hn ls H locs hls hP hS)
  next => exact h.elim
set_option maxHeartbeats 400000 in
theorem ok_lload_n {cc : ByteArray} {own : String} {nL : Nat} {rt : Option FieldType} {pc nx : Nat} {k : Fin 4} {i : Nat} (hd : decode cc pc = .ok (.lload_n k, 1)) (ei : (k : Nat) = i) (en : pc + 1 = nx) : pt_OK cc own nL rt pc (o_lL i nx) := by
  intro G p l e R s m args below meth c cells slots Qw d C X IH RM K Q hK hQ L S mm h hs hl hn ls H locs hls hP hS
  subst en
  unfold o_lL at h
  split at h
  next x hx =>
    exact lv_lload_n X.1 X.2.1 hd ei (pt_lv_at hls hx) (hK _ _ _ _ h (pt_okS_cons trivial hs) hl hn ls H locs hls hP hS)
  next => exact h.elim
set_option maxHeartbeats 400000 in
theorem ok_lload {cc : ByteArray} {own : String} {nL : Nat} {rt : Option FieldType} {pc nx : Nat} {i : Nat} (hd : decode cc pc = .ok (.lload i, 2)) (en : pc + 2 = nx) : pt_OK cc own nL rt pc (o_lL i nx) := by
  intro G p l e R s m args below meth c cells slots Qw d C X IH RM K Q hK hQ L S mm h hs hl hn ls H locs hls hP hS
  subst en
  unfold o_lL at h
  split at h
  next x hx =>
    exact lv_lload X.1 X.2.1 hd (pt_lv_at hls hx) (hK _ _ _ _ h (pt_okS_cons trivial hs) hl hn ls H locs hls hP hS)
  next => exact h.elim
set_option maxHeartbeats 400000 in
theorem ok_aload_n {cc : ByteArray} {own : String} {nL : Nat} {rt : Option FieldType} {pc nx : Nat} {k : Fin 4} {i : Nat} (hd : decode cc pc = .ok (.aload_n k, 1)) (ei : (k : Nat) = i) (en : pc + 1 = nx) : pt_OK cc own nL rt pc (o_lR i nx) := by
  intro G p l e R s m args below meth c cells slots Qw d C X IH RM K Q hK hQ L S mm h hs hl hn ls H locs hls hP hS
  subst en
  unfold o_lR at h
  split at h
  next t o hx =>
    obtain ⟨h1, h⟩ := cond_f h
    obtain ⟨a, ha⟩ := pt_isref (G := G) (o := o) h1
    have hk := hK _ _ _ _ h (pt_okS_cons (hl _ _ hx) hs) hl hn ls H locs hls hP hS
    rw [List.map_cons, ha] at hk
    exact lv_aload_n X.1 X.2.1 hd ei ((pt_lv_at hls hx).trans (by rw [ha])) hk
  next => exact h.elim
set_option maxHeartbeats 400000 in
theorem ok_aload {cc : ByteArray} {own : String} {nL : Nat} {rt : Option FieldType} {pc nx : Nat} {i : Nat} (hd : decode cc pc = .ok (.aload i, 2)) (en : pc + 2 = nx) : pt_OK cc own nL rt pc (o_lR i nx) := by
  intro G p l e R s m args below meth c cells slots Qw d C X IH RM K Q hK hQ L S mm h hs hl hn ls H locs hls hP hS
  subst en
  unfold o_lR at h
  split at h
  next t o hx =>
    obtain ⟨h1, h⟩ := cond_f h
    obtain ⟨a, ha⟩ := pt_isref (G := G) (o := o) h1
    have hk := hK _ _ _ _ h (pt_okS_cons (hl _ _ hx) hs) hl hn ls H locs hls hP hS
    rw [List.map_cons, ha] at hk
    exact lv_aload X.1 X.2.1 hd ((pt_lv_at hls hx).trans (by rw [ha])) hk
  next => exact h.elim
theorem pt_okPut {L : pt_L} {i : Nat} {v : pt_V} (h : ∀ (j : Nat) (w : pt_V), pt_get L j = some w → pt_ok w) (hv : pt_ok v) : ∀ (j : Nat) (w : pt_V), pt_get (pt_put L i v) j = some w → pt_ok w := by
  intro j w hw
  rcases pt_put_get hw with ⟨-, rfl⟩ | ⟨-, q, -⟩
  · exact hv
  · exact h j w q
theorem pt_okPutL {L : pt_L} {i : Nat} {v : pt_V} (h : ∀ (j : Nat) (w : pt_V), pt_get L j = some w → pt_ok w) (hv : pt_ok v) : ∀ (j : Nat) (w : pt_V), pt_get (pt_putL L i v) j = some w → pt_ok w := by
  intro j w hw
  rcases pt_putL_get hw with ⟨-, rfl⟩ | ⟨-, -, q, -⟩
  · exact hv
  · exact h j w q
set_option maxHeartbeats 400000 in
theorem ok_istore_n {cc : ByteArray} {own : String} {nL : Nat} {rt : Option FieldType} {pc nx : Nat} {k : Fin 4} {i : Nat} (hd : decode cc pc = .ok (.istore_n k, 1)) (ei : (k : Nat) = i) (en : pc + 1 = nx) (hb : i < nL) : pt_OK cc own nL rt pc (o_sI i nx) := by
  intro G p l e R s m args below meth c cells slots Qw d C X IH RM K Q hK hQ L S mm h hs hl hn ls H locs hls hP hS
  subst en
  obtain ⟨x, S2, rfl, h⟩ := o_sI_of h
  exact lv_istore_n X.1 X.2.1 hd ei hls hb rfl (fun ls1 hl1 => hK _ _ _ _ h (pt_okS_tl hs) (pt_okPut hl trivial) (by rw [pt_put_len]; exact hn) ls1 H locs (pt_lv_put (v := zI x) X.2.2.2.2.2.2.1 hl1) hP hS)
set_option maxHeartbeats 400000 in
theorem ok_istore {cc : ByteArray} {own : String} {nL : Nat} {rt : Option FieldType} {pc nx : Nat} {i : Nat} (hd : decode cc pc = .ok (.istore i, 2)) (en : pc + 2 = nx) (hb : i < nL) : pt_OK cc own nL rt pc (o_sI i nx) := by
  intro G p l e R s m args below meth c cells slots Qw d C X IH RM K Q hK hQ L S mm h hs hl hn ls H locs hls hP hS
  subst en
  obtain ⟨x, S2, rfl, h⟩ := o_sI_of h
  exact lv_istore X.1 X.2.1 hd hls hb rfl (fun ls1 hl1 => hK _ _ _ _ h (pt_okS_tl hs) (pt_okPut hl trivial) (by rw [pt_put_len]; exact hn) ls1 H locs (pt_lv_put (v := zI x) X.2.2.2.2.2.2.1 hl1) hP hS)
set_option maxHeartbeats 400000 in
theorem ok_lstore_n {cc : ByteArray} {own : String} {nL : Nat} {rt : Option FieldType} {pc nx : Nat} {k : Fin 4} {i : Nat} (hd : decode cc pc = .ok (.lstore_n k, 1)) (ei : (k : Nat) = i) (en : pc + 1 = nx) (hb : i + 1 < nL) : pt_OK cc own nL rt pc (o_sL i nx) := by
  intro G p l e R s m args below meth c cells slots Qw d C X IH RM K Q hK hQ L S mm h hs hl hn ls H locs hls hP hS
  subst en
  obtain ⟨x, S2, rfl, h⟩ := o_sL_of h
  exact lv_lstore_n X.1 X.2.1 hd ei hls hb rfl (fun ls1 hl1 => hK _ _ _ _ h (pt_okS_tl hs) (pt_okPutL hl trivial) (by rw [pt_putL_len]; exact hn) ls1 H locs (pt_lv_putL (v := zL x) X.2.2.2.2.2.2.1 hl1) hP hS)
set_option maxHeartbeats 400000 in
theorem ok_lstore {cc : ByteArray} {own : String} {nL : Nat} {rt : Option FieldType} {pc nx : Nat} {i : Nat} (hd : decode cc pc = .ok (.lstore i, 2)) (en : pc + 2 = nx) (hb : i + 1 < nL) : pt_OK cc own nL rt pc (o_sL i nx) := by
  intro G p l e R s m args below meth c cells slots Qw d C X IH RM K Q hK hQ L S mm h hs hl hn ls H locs hls hP hS
  subst en
  obtain ⟨x, S2, rfl, h⟩ := o_sL_of h
  exact lv_lstore X.1 X.2.1 hd hls hb rfl (fun ls1 hl1 => hK _ _ _ _ h (pt_okS_tl hs) (pt_okPutL hl trivial) (by rw [pt_putL_len]; exact hn) ls1 H locs (pt_lv_putL (v := zL x) X.2.2.2.2.2.2.1 hl1) hP hS)
set_option maxHeartbeats 400000 in
theorem ok_astore_n {cc : ByteArray} {own : String} {nL : Nat} {rt : Option FieldType} {pc nx : Nat} {k : Fin 4} {i : Nat} (hd : decode cc pc = .ok (.astore_n k, 1)) (ei : (k : Nat) = i) (en : pc + 1 = nx) (hb : i < nL) : pt_OK cc own nL rt pc (o_sR i nx) := by
  intro G p l e R s m args below meth c cells slots Qw d C X IH RM K Q hK hQ L S mm h hs hl hn ls H locs hls hP hS
  subst en
  obtain ⟨t, o, S2, rfl, h⟩ := o_sR_of h
  obtain ⟨h1, h⟩ := cond_f h
  obtain ⟨a, ha⟩ := pt_isref (G := G) (o := o) h1
  rw [List.map_cons, ha]
  exact lv_astore_n X.1 X.2.1 hd ei hls hb rfl (fun ls1 hl1 => hK _ _ _ _ h (pt_okS_tl hs) (pt_okPut hl (pt_okS_hd hs)) (by rw [pt_put_len]; exact hn) ls1 H locs (pt_lv_put (v := zR t o) X.2.2.2.2.2.2.1 (by rw [ha]; exact hl1)) hP hS)
set_option maxHeartbeats 400000 in
theorem ok_astore {cc : ByteArray} {own : String} {nL : Nat} {rt : Option FieldType} {pc nx : Nat} {i : Nat} (hd : decode cc pc = .ok (.astore i, 2)) (en : pc + 2 = nx) (hb : i < nL) : pt_OK cc own nL rt pc (o_sR i nx) := by
  intro G p l e R s m args below meth c cells slots Qw d C X IH RM K Q hK hQ L S mm h hs hl hn ls H locs hls hP hS
  subst en
  obtain ⟨t, o, S2, rfl, h⟩ := o_sR_of h
  obtain ⟨h1, h⟩ := cond_f h
  obtain ⟨a, ha⟩ := pt_isref (G := G) (o := o) h1
  rw [List.map_cons, ha]
  exact lv_astore X.1 X.2.1 hd hls hb rfl (fun ls1 hl1 => hK _ _ _ _ h (pt_okS_tl hs) (pt_okPut hl (pt_okS_hd hs)) (by rw [pt_put_len]; exact hn) ls1 H locs (pt_lv_put (v := zR t o) X.2.2.2.2.2.2.1 (by rw [ha]; exact hl1)) hP hS)
set_option maxHeartbeats 400000 in
theorem ok_iinc {cc : ByteArray} {own : String} {nL : Nat} {rt : Option FieldType} {pc nx : Nat} {i : Nat} {n : Int} {dv : Int32} (hd : decode cc pc = .ok (.iinc i n, 3)) (ev : Int32.ofInt n = dv) (en : pc + 3 = nx) (hb : i < nL) : pt_OK cc own nL rt pc (o_inc i dv nx) := by
  intro G p l e R s m args below meth c cells slots Qw d C X IH RM K Q hK hQ L S mm h hs hl hn ls H locs hls hP hS
  subst en ev
  unfold o_inc at h
  split at h
  next x hx =>
    obtain ⟨k, hk⟩ := List.getElem?_of_mem (pt_lv_mem (G := G) hx)
    exact lv_iinc X.1 X.2.1 hd hls hk rfl hb rfl (fun ls1 hl1 => hK _ _ _ _ h hs (pt_okPut hl trivial) (by rw [pt_put_len]; exact hn) ls1 H locs (pt_lv_put (v := zI (x + Int32.ofInt n)) X.2.2.2.2.2.2.1 hl1) hP hS)
  next => exact h.elim
set_option maxHeartbeats 400000 in
theorem ok_dup {cc : ByteArray} {own : String} {nL : Nat} {rt : Option FieldType} {pc nx : Nat} (hd : decode cc pc = .ok (.dup, 1)) (en : pc + 1 = nx) : pt_OK cc own nL rt pc (o_dup nx) := by
  intro G p l e R s m args below meth c cells slots Qw d C X IH RM K Q hK hQ L S mm h hs hl hn ls H locs hls hP hS
  subst en
  obtain ⟨v, S2, rfl, h⟩ := o_dup_of h
  obtain ⟨h1, h⟩ := cond_t h
  exact lv_dup X.1 X.2.1 hd (pt_c1_cat X.2.2.2.2.2.2.1 h1) (hK _ _ _ _ h (pt_okS_cons (pt_okS_hd hs) hs) hl hn ls H locs hls hP hS)
set_option maxHeartbeats 400000 in
theorem ok_dup2 {cc : ByteArray} {own : String} {nL : Nat} {rt : Option FieldType} {pc nx : Nat} (hd : decode cc pc = .ok (.dup2, 1)) (en : pc + 1 = nx) : pt_OK cc own nL rt pc (o_dup2 nx) := by
  intro G p l e R s m args below meth c cells slots Qw d C X IH RM K Q hK hQ L S mm h hs hl hn ls H locs hls hP hS
  subst en
  obtain ⟨v, w, S2, rfl, h⟩ := o_dup2_of h
  obtain ⟨h1, h⟩ := cond_t h
  rw [Bool.and_eq_true] at h1
  exact lv_dup2_11 X.1 X.2.1 hd (pt_c1_cat X.2.2.2.2.2.2.1 h1.1) (pt_c1_cat X.2.2.2.2.2.2.1 h1.2) (hK _ _ _ _ h (pt_okS_cons (pt_okS_hd hs) (pt_okS_cons (pt_okS_hd (pt_okS_tl hs)) hs)) hl hn ls H locs hls hP hS)
set_option maxHeartbeats 400000 in
theorem ok_dup_x1 {cc : ByteArray} {own : String} {nL : Nat} {rt : Option FieldType} {pc nx : Nat} (hd : decode cc pc = .ok (.dup_x1, 1)) (en : pc + 1 = nx) : pt_OK cc own nL rt pc (o_dx1 nx) := by
  intro G p l e R s m args below meth c cells slots Qw d C X IH RM K Q hK hQ L S mm h hs hl hn ls H locs hls hP hS
  subst en
  obtain ⟨v, w, S2, rfl, h⟩ := o_dx1_of h
  obtain ⟨h1, h⟩ := cond_t h
  rw [Bool.and_eq_true] at h1
  exact lv_dup_x1 X.1 X.2.1 hd (pt_c1_cat X.2.2.2.2.2.2.1 h1.1) (pt_c1_cat X.2.2.2.2.2.2.1 h1.2) (hK _ _ _ _ h (pt_okS_cons (pt_okS_hd hs) (pt_okS_cons (pt_okS_hd (pt_okS_tl hs)) (pt_okS_cons (pt_okS_hd hs) (pt_okS_tl (pt_okS_tl hs))))) hl hn ls H locs hls hP hS)
set_option maxHeartbeats 400000 in
theorem ok_pop {cc : ByteArray} {own : String} {nL : Nat} {rt : Option FieldType} {pc nx : Nat} (hd : decode cc pc = .ok (.pop, 1)) (en : pc + 1 = nx) : pt_OK cc own nL rt pc (o_pop nx) := by
  intro G p l e R s m args below meth c cells slots Qw d C X IH RM K Q hK hQ L S mm h hs hl hn ls H locs hls hP hS
  subst en
  obtain ⟨v, S2, rfl, h⟩ := o_pop_of h
  obtain ⟨h1, h⟩ := cond_t h
  exact lv_pop X.1 X.2.1 hd (pt_c1_cat X.2.2.2.2.2.2.1 h1) (hK _ _ _ _ h (pt_okS_tl hs) hl hn ls H locs hls hP hS)
set_option maxHeartbeats 400000 in
theorem ok_tsw {cc : ByteArray} {own : String} {nL : Nat} {rt : Option FieldType} {pc nx : Nat} {lo hi : Int} {dfl : Int} {offs : Array Int} {len dd : Nat} {ts : List Nat} (hd : decode cc pc = .ok (.tableswitch dfl lo hi offs, len)) (ed : (pc : Int) + dfl = (dd : Int)) (ho : offs.toList.map (fun o => (pc : Int) + o) = ts.map (fun (t : Nat) => (t : Int))) (hh : hi - lo + 1 = (ts.length : Int)) : pt_OK cc own nL rt pc (o_tsw lo dd ts) := by
  intro G p l e R s m args below meth c cells slots Qw d C X IH RM K Q hK hQ L S mm h hs hl hn ls H locs hls hP hS
  obtain ⟨x, S2, rfl, h9⟩ := o_tsw_of h
  have hlen : offs.toList.length = ts.length := by
    have := congrArg List.length ho
    simpa using this
  unfold pt_tsw at h9
  by_cases h1 : x.toInt < lo
  · rw [if_pos h1] at h9
    exact lv_tableOut X.1 X.2.1 hd (Or.inl h1) ed (hK _ _ _ _ h9 (pt_okS_tl hs) hl hn ls H locs hls hP hS)
  · rw [if_neg h1] at h9
    by_cases h2 : hi < x.toInt
    · have e : ts.getD (x.toInt - lo).toNat dd = dd := by
        rw [List.getD_eq_getElem?_getD, List.getElem?_eq_none (by omega)]
        rfl
      rw [e] at h9
      exact lv_tableOut X.1 X.2.1 hd (Or.inr h2) ed (hK _ _ _ _ h9 (pt_okS_tl hs) hl hn ls H locs hls hP hS)
    · have hk : (x.toInt - lo).toNat < ts.length := by omega
      have e1 : (offs.toList.map (fun o => (pc : Int) + o))[(x.toInt - lo).toNat]? = (ts.map (fun (t : Nat) => (t : Int)))[(x.toInt - lo).toNat]? := by rw [ho]
      rw [List.getElem?_map, List.getElem?_map, List.getElem?_eq_getElem hk, List.getElem?_eq_getElem (by omega)] at e1
      have e2 := Option.some.inj e1
      have e3 : ts.getD (x.toInt - lo).toNat dd = ts[(x.toInt - lo).toNat] := by
        rw [List.getD_eq_getElem?_getD, List.getElem?_eq_getElem hk]
        rfl
      rw [e3] at h9
      exact lv_tableIn X.1 X.2.1 hd h1 h2 (off := offs.toList[(x.toInt - lo).toNat]'(by omega)) (by rw [← Array.getElem?_toList, List.getElem?_eq_getElem (by omega)]) e2 (hK _ _ _ _ h9 (pt_okS_tl hs) hl hn ls H locs hls hP hS)
theorem pt_lsw_off {pc : Nat} {dfl : Int} {dd : Nat} (ed : (pc : Int) + dfl = (dd : Int)) : ∀ (ps : List (Int × Int)) (ts : List (Int × Nat)) (x : Int), ps.map (fun q => (q.1, (pc : Int) + q.2)) = ts.map (fun q => (q.1, (q.2 : Int))) → (pc : Int) + Op.lookupswitch.offset ps dfl x = ((pt_lsw dd ts x : Nat) : Int)
  | [], [], x, _ => ed
  | [], _ :: _, _, h => by cases h
  | _ :: _, [], _, h => by cases h
  | (a, o) :: ps, (b, t) :: ts, x, h => by
    rw [List.map_cons, List.map_cons] at h
    injection h with h1 h2
    injection h1 with h3 h4
    dsimp only at h3 h4
    subst h3
    rw [Op.lookupswitch.offset_cons]
    unfold pt_lsw
    by_cases hx : x = a
    · rw [if_pos hx, if_pos (by first | exact hx | exact hx.symm)]
      exact h4
    · rw [if_neg hx, if_neg (by first | exact hx | exact fun q => hx q.symm)]
      exact pt_lsw_off ed ps ts x h2
set_option maxHeartbeats 400000 in
theorem ok_lsw {cc : ByteArray} {own : String} {nL : Nat} {rt : Option FieldType} {pc nx : Nat} {dfl : Int} {ps : Array (Int × Int)} {len dd : Nat} {ts : List (Int × Nat)} (hd : decode cc pc = .ok (.lookupswitch dfl ps, len)) (ed : (pc : Int) + dfl = (dd : Int)) (ho : ps.toList.map (fun q => (q.1, (pc : Int) + q.2)) = ts.map (fun q => (q.1, (q.2 : Int)))) (hp : (ps.toList.zip (ps.toList.drop 1)).all (fun (a, next) => a.1 < next.1) = true) : pt_OK cc own nL rt pc (o_lsw dd ts) := by
  intro G p l e R s m args below meth c cells slots Qw d C X IH RM K Q hK hQ L S mm h hs hl hn ls H locs hls hP hS
  obtain ⟨x, S2, rfl, h⟩ := o_lsw_of h
  exact lv_lookup X.1 X.2.1 hd hp rfl (pt_lsw_off ed _ _ _ ho) (hK _ _ _ _ h (pt_okS_tl hs) hl hn ls H locs hls hP hS)
