/-! 08.calls: calls; runs of the small machine; that the real machine does what it says -/
def pt_cW (r : pt_R) (n : Nat) : Prop := Cond.code r.1 r.2.1 r.2.2.1 r.2.2.2 ∈ lw_tbl ∧ Cond.initialized r.1.cls ∈ pt_tbl ∧ (r.1.cls ≠ "java/lang/invoke/MethodHandle" ∧ r.1.cls ≠ "java/lang/invoke/VarHandle" ∧ (parseMethodDescriptor r.1.desc).map (fun d => d.parameters.length) = some n) ∧ r.2.2.1 ≤ 41
theorem pt_ws_good {r : pt_R} (h : Cond.code r.1 r.2.1 r.2.2.1 r.2.2.2 ∈ lw_tbl) : GoodIn pt_tbl (pt_ws r) := by
  intro w hw
  rcases List.mem_cons.mp hw with rfl | hw
  · exact ⟨pt_tbl_in h rfl, good_of_word rfl⟩
  · exact ⟨hw, good_of_word (List.mem_filter.mp hw).2⟩
section PCL
variable {G : pt_G} {p : Program} {l : Launch} {e : Env} {R : Room} {s : State} {m : MethodId} {args : Array Value} {below : List Frame} {meth : Method} {c : Code} {H : Heap} {locs : List Loc} {cells slots : Nat} {Qw : State → Prop} {cc : ByteArray} {own : String} {nL d : Nat}
theorem pt_callB (X : pt_X G p s m args c cc own nL) (RM : pt_RM R d cells slots) {r : pt_R} {n ix : Nat} (hw : pt_cW r n) (hl : Cond.methodLink own ix r.1 ∈ pt_tbl) : CallB R s args own ix r.1 r.2.1 r.2.2.1 r.2.2.2 (pt_ws r) (pt_rm d) 0 0 n :=
  callB_of n X.2.2.2.2.1 (pt_ws_good hw.1) rfl rfl rfl (X.2.2.2.2.1 _ hw.2.1) (X.2.2.2.2.1 _ hl) hw.2.2.1 ⟨RM.1, by have h1 := RM.2.1; have h2 := hw.2.2.2; show 8 + (r.2.2.1 + 11) + 60 * d ≤ R.locals; omega⟩
theorem pt_preU (X : pt_X G p s m args c cc own nL) {mm : pt_M} (hP : va_P (gD G) vwCl (pt_W G mm) H) (hS : va_S (pt_A G) s.heap H locs) {U : State} (hU : U.heap = H) (hW : s.WarmedH U.vm) : pt_Pre G mm U :=
  ⟨by rw [hU]; exact hP, va_K.moved hW.alike X.2.2.2.2.2.1, by rw [hU]; exact X.2.2.2.2.2.2.2.use hW hS⟩
end PCL
theorem pt_map_rev {G : pt_G} {S S2 : pt_S} {b : List pt_V} (h : S = b.reverse ++ S2) : S.map (pt_cv G) = (b.map (pt_cv G)).reverse ++ S2.map (pt_cv G) := by
  rw [h, List.map_append, List.map_reverse]
theorem pt_res_map {G : pt_G} (r : Option pt_V) (S : pt_S) : (pt_res r S).map (pt_cv G) = (r.map (pt_cv G)).toList ++ S.map (pt_cv G) := by
  cases r <;> rfl
theorem pt_res_ok {r : Option pt_V} {S : pt_S} (h1 : ∀ v, r = some v → pt_ok v) (h2 : ∀ v ∈ S, pt_ok v) : ∀ v ∈ pt_res r S, pt_ok v := by
  cases r with
  | none => exact h2
  | some v => exact pt_okS_cons (h1 v rfl) h2
theorem o_cV_of {k n t nx : Nat} {C : pt_C} {L : pt_L} {S : pt_S} {m : pt_M} {K : pt_K} {Q : pt_Q} (h : o_cV k n t nx C L S m K Q) : ∃ (o : Nat) (as : List pt_V) (S2 : pt_S), S = (zR t o :: as).reverse ++ S2 ∧ as.length = n ∧ pt_sz S2 ≤ 8 ∧ C k (zR t o :: as) m (fun r m' => K nx L (pt_res r S2) m') := by
  unfold o_cV at h
  split at h
  next t1 o as S2 hp =>
    obtain ⟨b, h1, h2, h3⟩ := pt_pop_spec _ _ _ _ _ hp
    rw [List.append_nil] at h1
    subst h1
    replace h := cond_t h
    obtain ⟨h4, h⟩ := h
    rw [Bool.and_eq_true] at h4
    have e := beq_t h4.1
    subst e
    exact ⟨o, as, S2, h2, by simpa using h3, ble_t h4.2, h⟩
  next => exact h.elim
theorem o_cS_of {k n nx : Nat} {C : pt_C} {L : pt_L} {S : pt_S} {m : pt_M} {K : pt_K} {Q : pt_Q} (h : o_cS k n nx C L S m K Q) : ∃ (as : List pt_V) (S2 : pt_S), S = as.reverse ++ S2 ∧ as.length = n ∧ pt_sz S2 ≤ 8 ∧ C k as m (fun r m' => K nx L (pt_res r S2) m') := by
  unfold o_cS at h
  split at h
  next as S2 hp =>
    obtain ⟨b, h1, h2, h3⟩ := pt_pop_spec _ _ _ _ _ hp
    rw [List.append_nil] at h1
    subst h1
    replace h := cond_t h
    obtain ⟨h4, h⟩ := h
    exact ⟨as, S2, h2, h3, ble_t h4, h⟩
  next => exact h.elim
theorem pt_okS_app {a b : pt_S} (h : ∀ v ∈ a ++ b, pt_ok v) : (∀ v ∈ a, pt_ok v) ∧ ∀ v ∈ b, pt_ok v := ⟨fun v hv => h v (List.mem_append_left _ hv), fun v hv => h v (List.mem_append_right _ hv)⟩
set_option maxHeartbeats 800000 in
theorem ok_cV {cc : ByteArray} {own : String} {nL : Nat} {rt : Option FieldType} {pc nx : Nat} {k n t ix : Nat} {r : pt_R} (hr : pt_mt k = some r) (hw : pt_cW r n) (hv : Cond.instanceMethod r.1 ∈ pt_tbl ∧ Cond.selects r.1.cls r.1 r.1 ∈ pt_tbl) (ew : Cond.methodLink own ix r.1 ∈ pt_tbl) (ht : t < 8) {T : u_T} {N : Nat} (hc : vwCl[t]? = some (r.1.cls, T, N))
    (hd : decode cc pc = .ok (.invokevirtual ix, 3)) (en : pc + 3 = nx) : pt_OK cc own nL rt pc (o_cV k n t nx) := by
  intro G p l e R s m args below meth c cells slots Qw d C X IH RM K Q hK hQ L S mm h hs hl hn ls H locs hls hP hS
  subst en
  replace h := o_cV_of h
  obtain ⟨o, as, S2, hS2, hlen, hsz, h⟩ := h
  subst hS2
  obtain ⟨ok1, ok2⟩ := pt_okS_app hs
  have okas : ∀ v ∈ zR t o :: as, pt_ok v := fun v hv => ok1 v (List.mem_reverse.mpr hv)
  have htag := pt_ok_w (okas _ List.mem_cons_self) (pt_w_of ht)
  have hM := IH k r (zR t o :: as) mm _ hr okas h
  have hcv : pt_cv G (zR t o) = .ref (gA G o) := pt_cv_w (pt_w_of ht)
  rw [List.map_cons, hcv] at hM
  rw [pt_map_rev (b := zR t o :: as) rfl, List.map_cons, hcv]
  have hst : (Value.ref (gA G o) :: as.map (pt_cv G)).reverse ++ S2.map (pt_cv G) = (as.map (pt_cv G)).reverse ++ .ref (gA G o) :: S2.map (pt_cv G) := by simp
  rw [hst]
  refine pt_back (va_runV (As := as.map (pt_cv G)) (rest := S2.map (pt_cv G)) ⟨X.1, X.2.1, X.2.2.1, X.2.2.2.1, X.2.2.2.2.1⟩ hM ⟨pt_callB X RM hw ew, X.2.2.2.2.1 _ hv.1, X.2.2.2.2.1 _ hv.2⟩ ⟨pt_blind G _ mm, va_recv X.2.2.2.2.2.1 hP hc ((pt_W_at htag).trans (by rw [pt_E_obj ht])), fun U hU hW => ⟨rfl, pt_preU X hP hS hU hW⟩⟩ rfl (by rw [List.length_map]; exact hlen) hls.1 rfl (lv_room (by rw [pt_sz_cat X.2.2.2.2.2.2.1]; exact hsz)) hd ⟨RM.2.2.1, RM.2.2.2⟩) hS (fun r1 m1 H1 locs1 hq hok hP1 hS1 => ?_)
  have hk := hK _ _ _ _ hq (pt_res_ok hok ok2) hl hn ls H1 locs1 hls hP1 hS1
  rw [pt_res_map] at hk
  exact hk
set_option maxHeartbeats 800000 in
theorem ok_cT {cc : ByteArray} {own : String} {nL : Nat} {rt : Option FieldType} {pc nx : Nat} {k n ix : Nat} {r : pt_R} (hr : pt_mt k = some r) (hw : pt_cW r n) (hv : Cond.instanceMethod r.1 ∈ pt_tbl ∧ Cond.selects "java/lang/String" r.1 r.1 ∈ pt_tbl) (ew : Cond.methodLink own ix r.1 ∈ pt_tbl)
    (hd : decode cc pc = .ok (.invokevirtual ix, 3)) (en : pc + 3 = nx) : pt_OK cc own nL rt pc (o_cV k n 12 nx) := by
  intro G p l e R s m args below meth c cells slots Qw d C X IH RM K Q hK hQ L S mm h hs hl hn ls H locs hls hP hS
  subst en
  replace h := o_cV_of h
  obtain ⟨o, as, S2, hS2, hlen, hsz, h⟩ := h
  subst hS2
  obtain ⟨ok1, ok2⟩ := pt_okS_app hs
  have okas : ∀ v ∈ zR 12 o :: as, pt_ok v := fun v hv => ok1 v (List.mem_reverse.mpr hv)
  have ho : o < 7 := by
    rcases okas _ List.mem_cons_self with z | z | z | z | z | z <;> first | exact z.2 | exact absurd (pt_tag_w z) (by omega) | omega
  have hM := IH k r (zR 12 o :: as) mm _ hr okas h
  have hcv : pt_cv G (zR 12 o) = .ref (gK G o) := rfl
  rw [List.map_cons, hcv] at hM
  rw [pt_map_rev (b := zR 12 o :: as) rfl, List.map_cons, hcv]
  have hst : (Value.ref (gK G o) :: as.map (pt_cv G)).reverse ++ S2.map (pt_cv G) = (as.map (pt_cv G)).reverse ++ .ref (gK G o) :: S2.map (pt_cv G) := by simp
  rw [hst]
  refine pt_back (va_runV (As := as.map (pt_cv G)) (rest := S2.map (pt_cv G)) ⟨X.1, X.2.1, X.2.2.1, X.2.2.2.1, X.2.2.2.2.1⟩ hM ⟨pt_callB X RM hw ew, X.2.2.2.2.1 _ hv.1, X.2.2.2.2.1 _ hv.2⟩ ⟨pt_blind G _ mm, vk_recv X.2.2.2.2.2.2.2.2.2.2.1 ho hS, fun U hU hW => ⟨rfl, pt_preU X hP hS hU hW⟩⟩ rfl (by rw [List.length_map]; exact hlen) hls.1 rfl (lv_room (by rw [pt_sz_cat X.2.2.2.2.2.2.1]; exact hsz)) hd ⟨RM.2.2.1, RM.2.2.2⟩) hS (fun r1 m1 H1 locs1 hq hok hP1 hS1 => ?_)
  have hk := hK _ _ _ _ hq (pt_res_ok hok ok2) hl hn ls H1 locs1 hls hP1 hS1
  rw [pt_res_map] at hk
  exact hk
set_option maxHeartbeats 800000 in
theorem ok_cS {cc : ByteArray} {own : String} {nL : Nat} {rt : Option FieldType} {pc nx : Nat} {k n ix : Nat} {r : pt_R} (hr : pt_mt k = some r) (hw : pt_cW r n) (hv : Cond.static r.1 ∈ pt_tbl) (ew : Cond.methodLink own ix r.1 ∈ pt_tbl)
    (hd : decode cc pc = .ok (.invokestatic ix, 3)) (en : pc + 3 = nx) : pt_OK cc own nL rt pc (o_cS k n nx) := by
  intro G p l e R s m args below meth c cells slots Qw d C X IH RM K Q hK hQ L S mm h hs hl hn ls H locs hls hP hS
  subst en
  replace h := o_cS_of h
  obtain ⟨as, S2, hS2, hlen, hsz, h⟩ := h
  subst hS2
  obtain ⟨ok1, ok2⟩ := pt_okS_app hs
  have okas : ∀ v ∈ as, pt_ok v := fun v hv => ok1 v (List.mem_reverse.mpr hv)
  have hM := IH k r as mm _ hr okas h
  rw [pt_map_rev (b := as) rfl]
  refine pt_back (va_runS (As := as.map (pt_cv G)) (rest := S2.map (pt_cv G)) ⟨X.1, X.2.1, X.2.2.1, X.2.2.2.1, X.2.2.2.2.1⟩ hM ⟨pt_callB X RM hw ew, X.2.2.2.2.1 _ hv⟩ ⟨pt_blind G _ mm, fun U hU hW => ⟨rfl, pt_preU X hP hS hU hW⟩⟩ rfl (by rw [List.length_map]; exact hlen) hls.1 rfl (lv_room (by rw [pt_sz_cat X.2.2.2.2.2.2.1]; exact hsz)) hd ⟨RM.2.2.1, RM.2.2.2⟩) hS (fun r1 m1 H1 locs1 hq hok hP1 hS1 => ?_)
  have hk := hK _ _ _ _ hq (pt_res_ok hok ok2) hl hn ls H1 locs1 hls hP1 hS1
  rw [pt_res_map] at hk
  exact hk
set_option maxHeartbeats 800000 in
theorem ok_cN {cc : ByteArray} {own : String} {nL : Nat} {rt : Option FieldType} {pc nx : Nat} {k n ix : Nat} {r : pt_R} {host : String} (hr : pt_mt k = some r) (hw : pt_cW r n) (hv : Cond.static r.1 ∈ pt_tbl) (ew : (own, ix, r.1, host) ∈ pt_nM)
    (hd : decode cc pc = .ok (.invokestatic ix, 3)) (en : pc + 3 = nx) : pt_OK cc own nL rt pc (o_cS k n nx) := by
  intro G p l e R s m args below meth c cells slots Qw d C X IH RM K Q hK hQ L S mm h hs hl hn ls H locs hls hP hS
  subst en
  replace h := o_cS_of h
  obtain ⟨as, S2, hS2, hlen, hsz, h⟩ := h
  subst hS2
  obtain ⟨ok1, ok2⟩ := pt_okS_app hs
  have okas : ∀ v ∈ as, pt_ok v := fun v hv => ok1 v (List.mem_reverse.mpr hv)
  have hM := IH k r as mm _ hr okas h
  rw [pt_map_rev (b := as) rfl]
  refine pt_back (va_runSN (As := as.map (pt_cv G)) (rest := S2.map (pt_cv G)) ⟨X.1, X.2.1, X.2.2.1, X.2.2.2.1, X.2.2.2.2.1⟩ hM ⟨va_cnB n X.2.2.2.2.1 (pt_ws_good hw.1) rfl rfl rfl (X.2.2.2.2.2.2.2.2.2.2.2.2.1 _ ew) (X.2.2.2.2.1 _ hw.2.1) hw.2.2.1 ⟨RM.1, by have h1 := RM.2.1; have h2 := hw.2.2.2; show 8 + (r.2.2.1 + 11) + 60 * d ≤ R.locals; omega⟩, X.2.2.2.2.1 _ hv, trivial⟩ ⟨pt_blind G _ mm, fun U hU hW => ⟨rfl, pt_preU X hP hS hU hW⟩⟩ rfl (by rw [List.length_map]; exact hlen) hls.1 rfl (lv_room (by rw [pt_sz_cat X.2.2.2.2.2.2.1]; exact hsz)) hd ⟨RM.2.2.1, RM.2.2.2⟩) hS (fun r1 m1 H1 locs1 hq hok hP1 hS1 => ?_)
  have hk := hK _ _ _ _ hq (pt_res_ok hok ok2) hl hn ls H1 locs1 hls hP1 hS1
  rw [pt_res_map] at hk
  exact hk
/-! Math's own -/
def mx (x y : Int32) : Int32 := if x < y then y else x
def mn (x y : Int32) : Int32 := if y < x then y else x
def mabs (x : Int32) : Int32 := if 0 ≤ x then x else 0 - x
def o_m2 (f : Int32 → Int32 → Int32) (nx : Nat) : pt_O := fun _ L S m K _ => match S with | .inl y :: .inl x :: S' => cond (Nat.ble (pt_sz S') 8) (K nx L (.inl (f x y) :: S') m) False | _ => False
def o_m1 (f : Int32 → Int32) (nx : Nat) : pt_O := fun _ L S m K _ => match S with | .inl x :: S' => cond (Nat.ble (pt_sz S') 8) (K nx L (.inl (f x) :: S') m) False | _ => False
theorem o_m2_of {f : Int32 → Int32 → Int32} {nx : Nat} {C : pt_C} {L : pt_L} {S : pt_S} {m : pt_M} {K : pt_K} {Q : pt_Q} (h : o_m2 f nx C L S m K Q) : ∃ (x y : Int32) (S2 : pt_S), S = zI y :: zI x :: S2 ∧ cond (Nat.ble (pt_sz S2) 8) (K nx L (zI (f x y) :: S2) m) False := by
  unfold o_m2 at h
  split at h
  · exact ⟨_, _, _, rfl, h⟩
  · exact h.elim
theorem o_m1_of {f : Int32 → Int32} {nx : Nat} {C : pt_C} {L : pt_L} {S : pt_S} {m : pt_M} {K : pt_K} {Q : pt_Q} (h : o_m1 f nx C L S m K Q) : ∃ (x : Int32) (S2 : pt_S), S = zI x :: S2 ∧ cond (Nat.ble (pt_sz S2) 8) (K nx L (zI (f x) :: S2) m) False := by
  unfold o_m1 at h
  split at h
  · exact ⟨_, _, rfl, h⟩
  · exact h.elim
set_option maxHeartbeats 400000 in
theorem ok_mmax {cc : ByteArray} {own : String} {nL : Nat} {rt : Option FieldType} {pc nx ix : Nat} (hd : decode cc pc = .ok (.invokestatic ix, 3)) (en : pc + 3 = nx) (ew : Cond.methodLink own ix Lib.Math.max.name ∈ pt_tbl ∧ Cond.static Lib.Math.max.name ∈ pt_tbl ∧ Cond.initialized "java/lang/Math" ∈ pt_tbl ∧ Cond.code Lib.Math.max.name Lib.Math.max.code 2 (some .int) ∈ pt_tbl) : pt_OK cc own nL rt pc (o_m2 mx nx) := by
  intro G p l e R s m args below meth c cells slots Qw d C X IH RM K Q hK hQ L S mm h hs hl hn ls H locs hls hP hS
  subst en
  replace h := o_m2_of h
  obtain ⟨x, y, S2, rfl, h⟩ := h
  replace h := cond_t h
  obtain ⟨h1, h⟩ := h
  exact va_mmax X.1 X.2.1 (X.2.2.1.trans hls.1.symm) X.2.2.2.1 (X.2.2.2.2.1 _ ew.1) (X.2.2.2.2.1 _ ew.2.1) (X.2.2.2.2.1 _ ew.2.2.1) (X.2.2.2.2.1 _ ew.2.2.2) (by have := RM.1; omega) (by rw [pt_sz_cat X.2.2.2.2.2.2.1]; have := RM.2.1; have := ble_t h1; omega) RM.2.2.1 RM.2.2.2 hd (hK _ _ _ _ h (pt_okS_cons trivial (pt_okS_tl (pt_okS_tl hs))) hl hn ls H locs hls hP hS)
set_option maxHeartbeats 400000 in
theorem ok_mmin {cc : ByteArray} {own : String} {nL : Nat} {rt : Option FieldType} {pc nx ix : Nat} (hd : decode cc pc = .ok (.invokestatic ix, 3)) (en : pc + 3 = nx) (ew : Cond.methodLink own ix Lib.Math.min.name ∈ pt_tbl ∧ Cond.static Lib.Math.min.name ∈ pt_tbl ∧ Cond.initialized "java/lang/Math" ∈ pt_tbl ∧ Cond.code Lib.Math.min.name Lib.Math.min.code 2 (some .int) ∈ pt_tbl) : pt_OK cc own nL rt pc (o_m2 mn nx) := by
  intro G p l e R s m args below meth c cells slots Qw d C X IH RM K Q hK hQ L S mm h hs hl hn ls H locs hls hP hS
  subst en
  replace h := o_m2_of h
  obtain ⟨x, y, S2, rfl, h⟩ := h
  replace h := cond_t h
  obtain ⟨h1, h⟩ := h
  exact va_mmin X.1 X.2.1 (X.2.2.1.trans hls.1.symm) X.2.2.2.1 (X.2.2.2.2.1 _ ew.1) (X.2.2.2.2.1 _ ew.2.1) (X.2.2.2.2.1 _ ew.2.2.1) (X.2.2.2.2.1 _ ew.2.2.2) (by have := RM.1; omega) (by rw [pt_sz_cat X.2.2.2.2.2.2.1]; have := RM.2.1; have := ble_t h1; omega) RM.2.2.1 RM.2.2.2 hd (hK _ _ _ _ h (pt_okS_cons trivial (pt_okS_tl (pt_okS_tl hs))) hl hn ls H locs hls hP hS)
set_option maxHeartbeats 400000 in
theorem ok_mabs {cc : ByteArray} {own : String} {nL : Nat} {rt : Option FieldType} {pc nx ix : Nat} (hd : decode cc pc = .ok (.invokestatic ix, 3)) (en : pc + 3 = nx) (ew : Cond.methodLink own ix Lib.Math.abs.name ∈ pt_tbl ∧ Cond.static Lib.Math.abs.name ∈ pt_tbl ∧ Cond.initialized "java/lang/Math" ∈ pt_tbl ∧ Cond.code Lib.Math.abs.name Lib.Math.abs.code 1 (some .int) ∈ pt_tbl) : pt_OK cc own nL rt pc (o_m1 mabs nx) := by
  intro G p l e R s m args below meth c cells slots Qw d C X IH RM K Q hK hQ L S mm h hs hl hn ls H locs hls hP hS
  subst en
  replace h := o_m1_of h
  obtain ⟨x, S2, rfl, h⟩ := h
  replace h := cond_t h
  obtain ⟨h1, h⟩ := h
  exact va_mabs X.1 X.2.1 (X.2.2.1.trans hls.1.symm) X.2.2.2.1 (X.2.2.2.2.1 _ ew.1) (X.2.2.2.2.1 _ ew.2.1) (X.2.2.2.2.1 _ ew.2.2.1) (X.2.2.2.2.1 _ ew.2.2.2) (by have := RM.1; omega) (by rw [pt_sz_cat X.2.2.2.2.2.2.1]; have := RM.2.1; have := ble_t h1; omega) RM.2.2.1 RM.2.2.2 hd (hK _ _ _ _ h (pt_okS_cons trivial (pt_okS_tl hs)) hl hn ls H locs hls hP hS)
/-! runs -/
def pt_goF (C : pt_C) (t : Nat → Option pt_O) (Q : pt_Q) : pt_K := fun pc L S m => ∀ P : pt_K, (∀ (K : pt_K) (pc : Nat) (L : pt_L) (S : pt_S) (m : pt_M) (o : pt_O), t pc = some o → (∀ pc L S m, K pc L S m → P pc L S m) → o C L S m K Q → P pc L S m) → P pc L S m
theorem pt_go_ex : ∃ g : pt_C → (Nat → Option pt_O) → pt_Q → pt_K, g = pt_goF := ⟨_, rfl⟩
noncomputable def Go : pt_C → (Nat → Option pt_O) → pt_Q → pt_K := Classical.choose pt_go_ex
theorem Go_eq : Go = pt_goF := Classical.choose_spec pt_go_ex
theorem Go_step {C : pt_C} {t : Nat → Option pt_O} {Q : pt_Q} {pc : Nat} {L : pt_L} {S : pt_S} {m : pt_M} {o : pt_O} {K : pt_K} (ht : t pc = some o) (hK : ∀ pc L S m, K pc L S m → Go C t Q pc L S m) (h : o C L S m K Q) : Go C t Q pc L S m := by
  rw [Go_eq] at hK ⊢
  intro P hP
  exact hP K pc L S m o ht (fun pc L S m hk => hK pc L S m hk P hP) h
def pt_run (C : pt_C) (t : Nat → Option pt_O) (Q : pt_Q) (K : pt_K) : Nat → pt_K
  | 0 => K
  | n + 1 => fun pc L S m => match t pc with
    | some o => o C L S m (pt_run C t Q K n) Q
    | none => False
theorem Go_run {C : pt_C} {t : Nat → Option pt_O} {Q : pt_Q} : ∀ (n : Nat) {pc : Nat} {L : pt_L} {S : pt_S} {m : pt_M}, pt_run C t Q (Go C t Q) n pc L S m → Go C t Q pc L S m
  | 0, _, _, _, _, h => h
  | n + 1, pc, L, S, m, h => by
    unfold pt_run at h
    split at h
    next o ho => exact Go_step ho (fun pc L S m hk => Go_run n hk) h
    next => exact h.elim
def pt_exp : List pt_V → pt_L
  | [] => []
  | .inr (.inl x) :: l => some (.inr (.inl x)) :: none :: pt_exp l
  | v :: l => some v :: pt_exp l
def pt_ini (n : Nat) (as : List pt_V) : pt_L := pt_exp as ++ List.replicate (n - (pt_exp as).length) none
def pt_spF (T : Nat → Nat → Option pt_O) (I : Nat → Nat) : Nat → pt_C
  | 0 => fun _ _ _ _ => False
  | d + 1 => fun k as m Q => Nat.ble (pt_exp as).length (I k) = true ∧ Go (pt_spF T I d) (T k) Q 0 (pt_ini (I k) as) [] m
theorem pt_sp_ex (T : Nat → Nat → Option pt_O) (I : Nat → Nat) : ∃ g : Nat → pt_C, g = pt_spF T I := ⟨_, rfl⟩
/-- what is proved of a method's code -/
def pt_TOK (r : pt_R) (t : Nat → Option pt_O) : Prop := ∀ (pc : Nat) (o : pt_O), t pc = some o → pt_OK r.2.1 r.1.cls r.2.2.1 r.2.2.2 pc o
def tN (n : Nat) (a b : Nat → Option pt_O) : Nat → Option pt_O := fun pc => cond (Nat.ble pc n) (a pc) (b pc)
def tL (n : Nat) (o : pt_O) : Nat → Option pt_O := fun pc => cond (Nat.beq pc n) (some o) none
theorem tN_ok {r : pt_R} {n : Nat} {a b : Nat → Option pt_O} (ha : pt_TOK r a) (hb : pt_TOK r b) : pt_TOK r (tN n a b) := by
  intro pc o h
  unfold tN at h
  cases hc : Nat.ble pc n with
  | true => rw [hc] at h; exact ha pc o h
  | false => rw [hc] at h; exact hb pc o h
theorem tL_ok {r : pt_R} {n : Nat} {o : pt_O} (h : pt_OK r.2.1 r.1.cls r.2.2.1 r.2.2.2 n o) : pt_TOK r (tL n o) := by
  intro pc o1 h1
  unfold tL at h1
  cases hc : Nat.beq pc n with
  | true =>
    rw [hc] at h1
    cases h1
    rw [beq_t hc]
    exact h
  | false => rw [hc] at h1; cases h1
/-! that it's sound -/
theorem pt_exp_ini {G : pt_G} (J : pt_J G) : ∀ (as : List pt_V) (j : Nat) (pre : pt_L), pre.length = j → ∀ (i : Nat) (v : pt_V), pt_get (pre ++ pt_exp as) i = some v → (pt_get pre i = some v) ∨ (i, pt_cv G v) ∈ lv_args j (as.map (pt_cv G))
  | [], j, pre, hj, i, v, h => by
    rw [show pt_exp [] = [] from rfl, List.append_nil] at h
    exact Or.inl h
  | a :: as, j, pre, hj, i, v, h => by
    have app : ∀ (l1 l2 : pt_L) (i : Nat), pt_get (l1 ++ l2) i = if i < l1.length then pt_get l1 i else pt_get l2 (i - l1.length) := by
      intro l1
      induction l1 with
      | nil => intro l2 i; simp
      | cons x l1 ih =>
        intro l2 i
        cases i with
        | zero => simp [pt_get]
        | succ i =>
          show pt_get (l1 ++ l2) i = if i + 1 < l1.length + 1 then pt_get l1 i else pt_get l2 (i + 1 - (l1.length + 1))
          rw [ih]
          by_cases q : i < l1.length
          · rw [if_pos q, if_pos (by omega)]
          · rw [if_neg q, if_neg (by omega)]
            congr 1
            omega
    have one : ∀ (w : pt_V), pt_cv G w = pt_cv G a → (pt_cv G a).category = 1 → pt_exp (a :: as) = some a :: pt_exp as → (pt_get pre i = some v) ∨ (i, pt_cv G v) ∈ lv_args j ((a :: as).map (pt_cv G)) := by
      intro w _ hcat hexp
      rw [hexp, show pre ++ some a :: pt_exp as = (pre ++ [some a]) ++ pt_exp as by simp] at h
      rcases pt_exp_ini J as (j + 1) (pre ++ [some a]) (by simp [hj]) i v h with q | q
      · rw [app] at q
        by_cases hi : i < pre.length
        · rw [if_pos hi] at q
          exact Or.inl q
        · rw [if_neg hi] at q
          have e : i - pre.length = 0 := by
            rcases Nat.eq_zero_or_pos (i - pre.length) with z | z
            · exact z
            · obtain ⟨y, hy⟩ : ∃ y, i - pre.length = y + 1 := ⟨i - pre.length - 1, by omega⟩
              rw [hy] at q
              cases q
          rw [e] at q
          cases q
          right
          have ei : i = j := by omega
          subst ei
          show (i, pt_cv G a) ∈ lv_args i (pt_cv G a :: as.map (pt_cv G))
          unfold lv_args
          exact List.mem_cons_self
      · right
        show (i, pt_cv G v) ∈ lv_args j (pt_cv G a :: as.map (pt_cv G))
        unfold lv_args
        rw [if_neg (by omega)]
        exact List.mem_cons_of_mem _ q
    rcases a with x | x | ⟨t, o⟩
    · exact one (zI x) rfl rfl rfl
    · rw [show pre ++ pt_exp (Sum.inr (Sum.inl x) :: as) = (pre ++ [some (zL x), none]) ++ pt_exp as by simp [pt_exp]] at h
      rcases pt_exp_ini J as (j + 2) (pre ++ [some (zL x), none]) (by simp [hj]) i v h with q | q
      · rw [app] at q
        by_cases hi : i < pre.length
        · rw [if_pos hi] at q
          exact Or.inl q
        · rw [if_neg hi] at q
          have e : i - pre.length = 0 := by
            rcases Nat.eq_zero_or_pos (i - pre.length) with z | z
            · exact z
            · obtain ⟨y, hy⟩ : ∃ y, i - pre.length = y + 1 := ⟨i - pre.length - 1, by omega⟩
              rw [hy] at q
              cases y with
              | zero => cases q
              | succ y => cases q
          rw [e] at q
          cases q
          right
          have ei : i = j := by omega
          subst ei
          show (i, Value.long x) ∈ lv_args i (Value.long x :: as.map (pt_cv G))
          unfold lv_args
          exact List.mem_cons_self
      · right
        show (i, pt_cv G v) ∈ lv_args j (Value.long x :: as.map (pt_cv G))
        unfold lv_args
        rw [if_pos (show (Value.long x).category = 2 from rfl)]
        exact List.mem_cons_of_mem _ q
    · exact one (zR t o) rfl (pt_cat1 J (by rintro ⟨y, hy⟩; cases hy)) rfl
theorem pt_get_rep (n i : Nat) : pt_get (List.replicate n none) i = none := by
  induction n generalizing i with
  | zero => rfl
  | succ n ih =>
    cases i with
    | zero => rfl
    | succ i => exact ih i
theorem pt_get_app (l1 l2 : pt_L) (i : Nat) (v : pt_V) (h2 : ∀ j, pt_get l2 j = none) (h : pt_get (l1 ++ l2) i = some v) : pt_get l1 i = some v := by
  induction l1 generalizing i with
  | nil => rw [List.nil_append, h2] at h; cases h
  | cons x l1 ih =>
    cases i with
    | zero => exact h
    | succ i => exact ih i h
theorem pt_exp_len {G : pt_G} (J : pt_J G) : ∀ as : List pt_V, (pt_exp as).length = (lg_sl (as.map (pt_cv G))).length
  | [] => rfl
  | .inl x :: as => by
    show (pt_exp as).length + 1 = _
    rw [pt_exp_len J as]
    rfl
  | .inr (.inl x) :: as => by
    show (pt_exp as).length + 2 = _
    rw [pt_exp_len J as]
    rfl
  | .inr (.inr (t, o)) :: as => by
    show (pt_exp as).length + 1 = _
    rw [pt_exp_len J as]
    have hc : (pt_cv G (zR t o)).category = 1 := pt_cat1 J (by rintro ⟨y, hy⟩; cases hy)
    have e : lg_sl (((zR t o) :: as).map (pt_cv G)) = .val (pt_cv G (zR t o)) :: lg_sl (as.map (pt_cv G)) := by
      rw [List.map_cons]
      unfold lg_sl
      rw [List.flatMap_cons, hc]
      rfl
    show _ = (lg_sl (((zR t o) :: as).map (pt_cv G))).length
    rw [e]
    rfl
