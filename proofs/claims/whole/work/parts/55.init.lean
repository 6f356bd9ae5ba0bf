/-! 55.init: the constructors, by the kit's rows (partly written by gen_init.py) -/
def n_nI : List (String × Nat × MethodName × String) := [(RX6, 17, yX5_init, RX6), (RX5, 17, yX4_init, RX6), (RX6, 24, yX4_init, RX6), (RX0, 24, yX4_init, RX6), (RX6, 42, yX1_init, RX6), (RX6, 56, yX2_init, RX6), (RX6, 74, yX3_init, RX6)]
def n_N (s : State) : Prop := (∀ q ∈ n_nI, va_Nw (.methodLinkNest q.1 q.2.1 q.2.2.1 q.2.2.2) s) ∧ va_AO RX3 s ∧ va_AO RX4 s
theorem n_N.warm {s U : State} (h : n_N s) (hW : s.WarmedH U.vm) : n_N U := ⟨fun q hq => va_Nw.warmM hW (h.1 q hq), va_AO.moved hW.alike h.2.1, va_AO.moved hW.alike h.2.2⟩
theorem n_N.calling {U : State} (g : JFrame) (mk : MethodId) (a : Array Value) (h : n_N U) : n_N (U.calling g mk a) := ⟨fun q hq => va_Nw.same rfl rfl (h.1 q hq), va_AO.moved (u := U) (U := U.calling g mk a) (Vm.Alike.refl U.vm) h.2.1, va_AO.moved (u := U) (U := U.calling g mk a) (Vm.Alike.refl U.vm) h.2.2⟩
abbrev n_ty (cc : Nat → ClassId) : List (ClassId × FieldType) := [(cc 0, .int), (cc 1, .boolean), (cc 2, .object RX3), (cc 3, .object RX4)]
theorem n_c0 {D : va_G} {cc : Nat → ClassId} {cA : ClassId} {s : State} (h : va_K D vwCl (n_ty cc ++ [(cA, .int)]) s) : cA = cc 0 := Option.some.inj ((h.2 4 (cA, .int) rfl).2.symm.trans (h.2 0 (cc 0, .int) rfl).2)
theorem n_c1 {D : va_G} {cc : Nat → ClassId} {cA : ClassId} {s : State} (h : va_K D vwCl (n_ty cc ++ [(cA, .boolean)]) s) : cA = cc 1 := Option.some.inj ((h.2 4 (cA, .boolean) rfl).2.symm.trans (h.2 1 (cc 1, .boolean) rfl).2)
theorem n_c2 {D : va_G} {cc : Nat → ClassId} {cA : ClassId} {s : State} (h : va_K D vwCl (n_ty cc ++ [(cA, .object RX3)]) s) : cA = cc 2 := by
  obtain ⟨-, -, -, -, -, h1⟩ := (h.2 4 (cA, .object RX3) rfl).2
  obtain ⟨-, -, -, -, -, h2⟩ := (h.2 2 (cc 2, .object RX3) rfl).2
  exact Option.some.inj (h1.symm.trans h2)
theorem n_c3 {D : va_G} {cc : Nat → ClassId} {cA : ClassId} {s : State} (h : va_K D vwCl (n_ty cc ++ [(cA, .object RX4)]) s) : cA = cc 3 := by
  obtain ⟨-, -, -, -, -, h1⟩ := (h.2 4 (cA, .object RX4) rfl).2
  obtain ⟨-, -, -, -, -, h2⟩ := (h.2 3 (cc 3, .object RX4) rfl).2
  exact Option.some.inj (h1.symm.trans h2)
def n_P (D : va_G) (cc : Nat → ClassId) (w : va_W) (sz : Nat) (U : State) : Prop := U.heap.size = sz ∧ va_P D vwCl w U.heap ∧ va_K D vwCl (n_ty cc) U ∧ va_D (fun _ => True) w ∧ n_N U
theorem n_blind (D : va_G) (cc : Nat → ClassId) (w : va_W) (sz : Nat) (av : List Value) : FrameBlind (va_Pc av (n_P D cc w sz)) := fun a U g mk q => ⟨q.1, q.2.1, q.2.2.1, va_K.moved (u := U) (U := U.calling g mk a) (Vm.Alike.refl U.vm) q.2.2.2.1, q.2.2.2.2.1, q.2.2.2.2.2.calling g mk a⟩
def n_ws (y : MethodName) (cb : ByteArray) (nL : Nat) : List Cond := Cond.code y cb nL none :: pt_tbl
theorem n_good {y : MethodName} {cb : ByteArray} {nL : Nat} (h : Cond.code y cb nL none ∈ lw_tbl) : GoodIn pt_tbl (n_ws y cb nL) := by
  intro w hw
  rcases List.mem_cons.mp hw with rfl | hw
  · exact ⟨pt_tbl_in h rfl, good_of_word rfl⟩
  · exact ⟨hw, good_of_word (List.mem_filter.mp hw).2⟩
/-- a constructor's contract -/
def nC (l : Launch) (D : va_G) (cc : Nat → ClassId) (y : MethodName) (cb : ByteArray) (nL : Nat) (rm : Room) (ci : Nat) (fs : List Value) (mc ms : Nat) (sh : Nat → va_W → Prop) : Prop :=
  ∀ (h0 sz : Nat), Met l y (n_ws y cb nL) rm (va_Pc [.ref h0] (n_P D cc [(h0, .inr (ci, fs))] sz)) (va_Qv (sh h0) (fun w t => va_P D vwCl w t.heap ∧ va_D (va_A [(h0, .inr (ci, fs))] sz) w) (va_A [(h0, .inr (ci, fs))] sz)) mc ms (va_A [(h0, .inr (ci, fs))] sz)
theorem n_nd : ∀ (n k : Nat), va_nd (List.range' k n) = true
  | 0, _ => rfl
  | n + 1, k => by
    rw [List.range'_succ]
    unfold va_nd
    rw [n_nd n (k + 1), Bool.and_true]
    refine decide_eq_true (fun h => ?_)
    rw [List.mem_range'_1] at h
    omega
section NCALL
variable {p : Program} {l : Launch} {e : Env} {R : Room} {s : State} {m : MethodId} {args : Array Value} {below : List Frame} {meth : Method} {c : Code} {H : Heap} {locs : List Loc} {cells slots : Nat} {Qw : State → Prop}
theorem n_after {D : va_G} {sh : Nat → va_W → Prop} {A : Nat → Prop} {w : va_W} {q ci mc ms pc : Nat} {fs : List Value} {ls : Array Slot} {rest st0 : List Value} {a : Array Value} (hr : va_Run p l e R s m args below meth c H locs cells slots mc ms (F0 m pc ls st0) rest (va_Qv (sh q) (fun w t => va_P D vwCl w t.heap ∧ va_D (va_A [(q, .inr (ci, fs))] H.size) w) (va_A [(q, .inr (ci, fs))] H.size) a) (va_A [(q, .inr (ci, fs))] H.size))
    (hP : va_P D vwCl (w ++ [(q, .inr (ci, fs))]) H) (hD : va_D A (w ++ [(q, .inr (ci, fs))])) (hS : va_S A s.heap H locs) (hA : ∀ q, s.heap.size ≤ q → A q)
    (kk : ∀ (w1 : va_W) (H1 : Heap) (locs1 : List Loc), sh q w1 → va_P D vwCl (w ++ w1) H1 → va_D A (w ++ w1) → va_S A s.heap H1 locs1 → W p l e R s m args below meth c H1 locs1 (cells + mc) (slots + ms) Qw (F0 m (pc + 3) ls rest)) : W p l e R s m args below meth c H locs cells slots Qw (F0 m pc ls st0) := by
  have hlast : [w.length].map (fun i => (w ++ [((q, .inr (ci, fs)) : Nat × va_E)])[i]?) = [((q, .inr (ci, fs)) : Nat × va_E)].map some := by
    simp
  have hfirst : (List.range' 0 w.length).map (fun i => (w ++ [((q, .inr (ci, fs)) : Nat × va_E)])[i]?) = w.map some := by
    apply List.ext_getElem?
    intro i
    rw [List.getElem?_map, List.getElem?_map]
    by_cases hi : i < w.length
    · rw [List.getElem?_range' hi, Option.map_some, show 0 + 1 * i = i by omega, List.getElem?_append_left hi]
      cases hw : w[i]? with
      | none => exact absurd (List.getElem?_eq_none_iff.mp hw) (by omega)
      | some x => rfl
    · rw [List.getElem?_eq_none (by rw [List.length_range']; omega), List.getElem?_eq_none (by omega)]
      rfl
  have hFc := va_free (wc := [(q, .inr (ci, fs))]) hD hS hA [w.length] hlast
  refine va_callv hr hS (fun q _ h => hFc q h) hFc (fun w1 t H1 locs1 ht hvm hsh hB hz1 hk1 hS1 => ?_)
  obtain ⟨hP1, hD1⟩ := hB
  rw [ht] at hP1
  obtain ⟨hP2, hD2⟩ := va_join (wr := w) (w1 := w1) hP hD [w.length] (List.range' 0 w.length) hlast hfirst (n_nd _ _) (fun i hi h => by
    rw [List.mem_range'_1] at hi
    have := List.mem_singleton.mp h
    omega) hk1 hFc hP1 hD1
  exact kk w1 H1 locs1 hsh hP2 hD2 hS1
theorem n_pre {D : va_G} {cc : Nat → ClassId} {w : va_W} {q ci : Nat} {fs : List Value} {A : Nat → Prop} (hK : va_K D vwCl (n_ty cc) s) (hN : n_N s) (hP : va_P D vwCl (w ++ [(q, .inr (ci, fs))]) H) (hD : va_D A (w ++ [(q, .inr (ci, fs))])) {U : State} (hU : U.heap = H) (hW : s.WarmedH U.vm) : n_P D cc [(q, .inr (ci, fs))] H.size U := by
  have e0 : (w ++ [((q, .inr (ci, fs)) : Nat × va_E)])[w.length]? = some (q, .inr (ci, fs)) := by simp
  refine ⟨by rw [hU], fun k x hx => ?_, va_K.moved hW.alike hK, ⟨fun i j x y hi hj _ => ?_, fun _ _ _ => trivial⟩, hN.warm hW⟩
  · have hz : k < 1 := (List.getElem?_eq_some_iff.mp hx).1
    rw [show k = 0 by omega] at hx
    cases hx
    rw [hU]
    exact hP _ _ e0
  · have h1 : i < 1 := (List.getElem?_eq_some_iff.mp hi).1
    have h2 : j < 1 := (List.getElem?_eq_some_iff.mp hj).1
    omega
/-- a call of a nest mate's constructor -/
theorem n_call {D : va_G} {cc : Nat → ClassId} {y : MethodName} {cb cd : ByteArray} {own host : String} {nLy nL ix mc ms ci : Nat} {rm : Room} {fs : List Value} {sh : Nat → va_W → Prop} {A : Nat → Prop} {w : va_W} {q pc : Nat} {ls : Array Slot} {rest : List Value} (hx : p.tables.exec = Jvm.exec) (hb : c.code = cd) (hml : c.maxLocals = nL) (hown : s.vm.findClass own = some m.cls) (hts : ∀ w ∈ pt_tbl, w.before args s = true)
    (hM : nC l D cc y cb nLy rm ci fs mc ms sh) (hcode : Cond.code y cb nLy none ∈ lw_tbl) (hini : Cond.initialized y.cls ∈ pt_tbl) (hinst : Cond.instanceMethod y ∈ pt_tbl) (hyn : y.name = "<init>") (hrc : rm.cells = mc) (hrs : rm.slots = ms) (hd : y.cls ≠ "java/lang/invoke/MethodHandle" ∧ y.cls ≠ "java/lang/invoke/VarHandle" ∧ (parseMethodDescriptor y.desc).map (fun d => d.parameters.length) = some 0) (hR : rm.frames + 1 ≤ R.frames ∧ 8 + (nLy + 11) + rm.locals ≤ R.locals)
    (hl : va_Nw (.methodLinkNest own ix y host) s) (hK : va_K D vwCl (n_ty cc) s) (hN : n_N s) (hP : va_P D vwCl (w ++ [(q, .inr (ci, fs))]) H) (hD : va_D A (w ++ [(q, .inr (ci, fs))])) (hS : va_S A s.heap H locs) (hA : ∀ q, s.heap.size ≤ q → A q) (hsz : ls.size = nL) (hrest : (rest.map fun v => v.category).sum ≤ 4) (hdg : decode cd pc = .ok (.invokespecial ix, 3)) (hf : cells + mc ≤ R.cells ∧ slots + ms ≤ R.slots)
    (kk : ∀ (w1 : va_W) (H1 : Heap) (locs1 : List Loc), sh q w1 → va_P D vwCl (w ++ w1) H1 → va_D A (w ++ w1) → va_S A s.heap H1 locs1 → W p l e R s m args below meth c H1 locs1 (cells + mc) (slots + ms) Qw (F0 m (pc + 3) ls rest)) : W p l e R s m args below meth c H locs cells slots Qw (F0 m pc ls (.ref q :: rest)) := by
  refine n_after (va_runIN (As := []) (rest := rest) ⟨hx, hb, hml, hown, hts⟩ (hM q H.size) ⟨va_cnB 0 hts (n_good hcode) rfl hrc hrs hl (hts _ hini) hd hR, hyn, hts _ hinst⟩ ⟨n_blind _ _ _ _ _, fun U hU hW => ⟨rfl, n_pre hK hN hP hD hU hW⟩⟩ rfl rfl hsz rfl (by show 2 * 0 + (rest.map fun v => v.category).sum ≤ 8; omega) hdg hf) hP hD hS hA kk
/-- a call of a constructor that all may see -/
theorem n_call2 {D : va_G} {cc : Nat → ClassId} {y : MethodName} {cb cd : ByteArray} {own : String} {nLy nL ix mc ms ci : Nat} {rm : Room} {fs : List Value} {sh : Nat → va_W → Prop} {A : Nat → Prop} {w : va_W} {q pc : Nat} {ls : Array Slot} {rest : List Value} (hx : p.tables.exec = Jvm.exec) (hb : c.code = cd) (hml : c.maxLocals = nL) (hown : s.vm.findClass own = some m.cls) (hts : ∀ w ∈ pt_tbl, w.before args s = true)
    (hM : nC l D cc y cb nLy rm ci fs mc ms sh) (hcode : Cond.code y cb nLy none ∈ lw_tbl) (hini : Cond.initialized y.cls ∈ pt_tbl) (hinst : Cond.instanceMethod y ∈ pt_tbl) (hyn : y.name = "<init>") (hrc : rm.cells = mc) (hrs : rm.slots = ms) (hd : y.cls ≠ "java/lang/invoke/MethodHandle" ∧ y.cls ≠ "java/lang/invoke/VarHandle" ∧ (parseMethodDescriptor y.desc).map (fun d => d.parameters.length) = some 0) (hR : rm.frames + 1 ≤ R.frames ∧ 8 + (nLy + 11) + rm.locals ≤ R.locals)
    (hl : Cond.methodLink own ix y ∈ pt_tbl) (hK : va_K D vwCl (n_ty cc) s) (hN : n_N s) (hP : va_P D vwCl (w ++ [(q, .inr (ci, fs))]) H) (hD : va_D A (w ++ [(q, .inr (ci, fs))])) (hS : va_S A s.heap H locs) (hA : ∀ q, s.heap.size ≤ q → A q) (hsz : ls.size = nL) (hrest : (rest.map fun v => v.category).sum ≤ 4) (hdg : decode cd pc = .ok (.invokespecial ix, 3)) (hf : cells + mc ≤ R.cells ∧ slots + ms ≤ R.slots)
    (kk : ∀ (w1 : va_W) (H1 : Heap) (locs1 : List Loc), sh q w1 → va_P D vwCl (w ++ w1) H1 → va_D A (w ++ w1) → va_S A s.heap H1 locs1 → W p l e R s m args below meth c H1 locs1 (cells + mc) (slots + ms) Qw (F0 m (pc + 3) ls rest)) : W p l e R s m args below meth c H locs cells slots Qw (F0 m pc ls (.ref q :: rest)) := by
  refine n_after (va_runI (As := []) (rest := rest) ⟨hx, hb, hml, hown, hts⟩ (hM q H.size) ⟨callB_of 0 hts (n_good hcode) rfl hrc hrs (hts _ hini) (hts _ hl) hd hR, hyn, hts _ hinst⟩ ⟨n_blind _ _ _ _ _, fun U hU hW => ⟨rfl, n_pre hK hN hP hD hU hW⟩⟩ rfl rfl hsz rfl (by show 2 * 0 + (rest.map fun v => v.category).sum ≤ 8; omega) hdg hf) hP hD hS hA kk
end NCALL
theorem wi_0 : Cond.methodLink RX4 3 objectInit ∈ pt_tbl := pt_tbl_in (List.mem_of_getElem? (i := 93) (by decide +kernel)) rfl
theorem wi_1 : Cond.instanceMethod objectInit ∈ pt_tbl := pt_tbl_in (List.mem_of_getElem? (i := 78) (by decide +kernel)) rfl
theorem wi_2 : Cond.code objectInit ⟨#[0xb1]⟩ 1 none ∈ pt_tbl := pt_tbl_in (List.mem_of_getElem? (i := 79) (by decide +kernel)) rfl
theorem wi_3 : Cond.fieldLink RX4 9 (TX4 0).1 (TX4 0).2.1 (TX4 0).2.2.1 ∈ pt_tbl := pt_tbl_in (List.mem_of_getElem? (i := 94) (by decide +kernel)) rfl
theorem wi_4 : Cond.fieldLink RX4 15 (TX4 1).1 (TX4 1).2.1 (TX4 1).2.2.1 ∈ pt_tbl := pt_tbl_in (List.mem_of_getElem? (i := 97) (by decide +kernel)) rfl
theorem wi_5 : Cond.fieldLink RX4 18 (TX4 2).1 (TX4 2).2.1 (TX4 2).2.2.1 ∈ pt_tbl := pt_tbl_in (List.mem_of_getElem? (i := 100) (by decide +kernel)) rfl
theorem wi_6 : Cond.arrayClass .int ∈ pt_tbl := pt_tbl_in (List.mem_of_getElem? (i := 128) (by decide +kernel)) rfl
theorem wi_7 : Cond.fieldLink RX4 21 (TX4 3).1 (TX4 3).2.1 (TX4 3).2.2.1 ∈ pt_tbl := pt_tbl_in (List.mem_of_getElem? (i := 102) (by decide +kernel)) rfl
theorem wi_8 : Cond.fieldLink RX4 25 (TX4 4).1 (TX4 4).2.1 (TX4 4).2.2.1 ∈ pt_tbl := pt_tbl_in (List.mem_of_getElem? (i := 105) (by decide +kernel)) rfl
theorem wi_9 : Cond.fieldLink RX4 28 (TX4 5).1 (TX4 5).2.1 (TX4 5).2.2.1 ∈ pt_tbl := pt_tbl_in (List.mem_of_getElem? (i := 110) (by decide +kernel)) rfl
theorem wi_10 : Cond.methodLink RX3 3 objectInit ∈ pt_tbl := pt_tbl_in (List.mem_of_getElem? (i := 218) (by decide +kernel)) rfl
theorem wi_11 : Cond.fieldLink RX3 9 (TX3 0).1 (TX3 0).2.1 (TX3 0).2.2.1 ∈ pt_tbl := pt_tbl_in (List.mem_of_getElem? (i := 219) (by decide +kernel)) rfl
theorem wi_12 : Cond.fieldLink RX3 15 (TX3 1).1 (TX3 1).2.1 (TX3 1).2.2.1 ∈ pt_tbl := pt_tbl_in (List.mem_of_getElem? (i := 221) (by decide +kernel)) rfl
theorem wi_13 : Cond.fieldLink RX3 19 (TX3 2).1 (TX3 2).2.1 (TX3 2).2.2.1 ∈ pt_tbl := pt_tbl_in (List.mem_of_getElem? (i := 223) (by decide +kernel)) rfl
theorem wi_14 : Cond.fieldLink RX3 22 (TX3 3).1 (TX3 3).2.1 (TX3 3).2.2.1 ∈ pt_tbl := pt_tbl_in (List.mem_of_getElem? (i := 225) (by decide +kernel)) rfl
theorem wi_15 : Cond.methodLink RX2 3 objectInit ∈ pt_tbl := pt_tbl_in (List.mem_of_getElem? (i := 203) (by decide +kernel)) rfl
theorem wi_16 : Cond.fieldLink RX2 9 (TX2 0).1 (TX2 0).2.1 (TX2 0).2.2.1 ∈ pt_tbl := pt_tbl_in (List.mem_of_getElem? (i := 204) (by decide +kernel)) rfl
theorem wi_17 : Cond.fieldLink RX2 15 (TX2 1).1 (TX2 1).2.1 (TX2 1).2.2.1 ∈ pt_tbl := pt_tbl_in (List.mem_of_getElem? (i := 205) (by decide +kernel)) rfl
theorem wi_18 : Cond.fieldLink RX2 18 (TX2 2).1 (TX2 2).2.1 (TX2 2).2.2.1 ∈ pt_tbl := pt_tbl_in (List.mem_of_getElem? (i := 206) (by decide +kernel)) rfl
theorem wi_19 : Cond.methodLink RX1 3 objectInit ∈ pt_tbl := pt_tbl_in (List.mem_of_getElem? (i := 188) (by decide +kernel)) rfl
theorem wi_20 : Cond.fieldLink RX1 9 (TX1 0).1 (TX1 0).2.1 (TX1 0).2.2.1 ∈ pt_tbl := pt_tbl_in (List.mem_of_getElem? (i := 189) (by decide +kernel)) rfl
theorem wi_21 : Cond.fieldLink RX1 15 (TX1 1).1 (TX1 1).2.1 (TX1 1).2.2.1 ∈ pt_tbl := pt_tbl_in (List.mem_of_getElem? (i := 191) (by decide +kernel)) rfl
def n_s4 (cc : Nat → ClassId) (h0 : Nat) (w : va_W) : Prop := ∃ q1 q2 q3 : Nat, w = [(h0, .inr (4, [.int 0, .int 0, .int 0, .ref q1, .ref q2, .ref q3])), (q1, .inl (cc 0, 40, .inl (fun _ => 0))), (q2, .inl (cc 0, 5, .inl (fun _ => 0))), (q3, .inl (cc 0, 30, .inl (fun _ => 0)))]
set_option maxHeartbeats 4000000 in
set_option maxRecDepth 20000 in
theorem n_X4 (l : Launch) (D : va_G) (cc : Nat → ClassId) : nC l D cc yX4_init cX4_init 1 { frames := 1, cells := 3, slots := 75, locals := 12 } 4 [.int 0, .int 0, .int 0, .null, .null, .null] 3 75 (n_s4 cc) := by
  intro h0 sz
  refine Met.ofW (cc := cX4_init) (maxL := 1) (ret := none) (by decide) rfl ?_
  intro p e s m args below meth c s₁ B hml hv
  obtain ⟨rfl, hsz, hP, hK, hD0, hN⟩ := hv
  have hx := B.exec
  have hb := B.bytes
  have hr := B.returns
  have hts0 := atoms_spec (ws := n_ws yX4_init cX4_init 1) B.pre
  have hts : ∀ w ∈ pt_tbl, w.before #[.ref h0] s = true := fun w hw => hts0 w (List.mem_cons_of_mem _ hw)
  have hown : s.vm.findClass RX4 = some m.cls := findClass_of_methodNamed B.named
  have hlocks := B.notSynchronized
  have hin : meth.name = "<init>" := (name_of_methodNamed B.named B.method).1
  subst hsz
  have hD := hD0.self (sz := s.heap.size)
  generalize hAe : va_A [(h0, .inr (4, [.int 0, .int 0, .int 0, .null, .null, .null]))] s.heap.size = A at hD ⊢
  have hA : ∀ q : Nat, s.heap.size ≤ q → A q := fun q h => by rw [← hAe]; exact Or.inr h
  have hS : va_S A s.heap s.heap [] := va_S.rf
  have hl := lv_entry ([.ref h0]) (n := 1) (Nat.le_of_ble_eq_true rfl)
  rw [lg_entry_eq]
  generalize (lg_sl ([.ref h0]) ++ List.replicate (1 - (lg_sl ([.ref h0])).length) Slot.unset).toArray = ls at hl ⊢
  have hl : lv_has ls 1 [(0, .ref h0)] := hl
  refine lv_aload_n hx hb (k := 0) (by decide +kernel) rfl (lv_at hl 0 rfl) ?_
  refine W.objInit hx hb hown (hts _ wi_0) (hts _ wi_1) (hts _ wi_2) rfl (by rw [hml]; exact hl.1) rfl (show decode cX4_init 1 = .ok (.invokespecial 3, 3) by decide +kernel) (Nat.le_of_ble_eq_true rfl) (Nat.le_of_ble_eq_true rfl) ?_
  refine W.eq (g2 := F0 m 4 ls []) rfl ?_
  refine lv_aload_n hx hb (k := 0) (by decide +kernel) rfl (lv_at hl 0 rfl) ?_
  refine lv_iconst (v := 0) hx hb (n := 0) (by decide +kernel) (by decide +kernel) ?_
  refine va_put (D := D) (ci := 4) (v := .int 0) (ty := tyX4 0) (C := RX4) (T := TX4) (N := 6) hx hb hts in_4 tyX4 tyX4_ok nmX4 hown hK hP hD hS 0 rfl rfl 0 (by decide) (hts _ wi_3) (fun _ h9 => h9) rfl (by decide +kernel) rfl rfl (Nat.le_of_ble_eq_true rfl) (by decide +kernel) (fun H locs hP hD hS => ?_)
  have hP : va_P D vwCl [(h0, .inr (4, [.int 0, .int 0, .int 0, .null, .null, .null]))] H := hP
  have hD : va_D A [(h0, .inr (4, [.int 0, .int 0, .int 0, .null, .null, .null]))] := hD
  refine lv_aload_n hx hb (k := 0) (by decide +kernel) rfl (lv_at hl 0 rfl) ?_
  refine lv_iconst (v := 0) hx hb (n := 0) (by decide +kernel) (by decide +kernel) ?_
  refine va_put (D := D) (ci := 4) (v := .int 0) (ty := tyX4 1) (C := RX4) (T := TX4) (N := 6) hx hb hts in_4 tyX4 tyX4_ok nmX4 hown hK hP hD hS 0 rfl rfl 1 (by decide) (hts _ wi_4) (fun _ h9 => h9) rfl (by decide +kernel) rfl rfl (Nat.le_of_ble_eq_true rfl) (by decide +kernel) (fun H locs hP hD hS => ?_)
  have hP : va_P D vwCl [(h0, .inr (4, [.int 0, .int 0, .int 0, .null, .null, .null]))] H := hP
  have hD : va_D A [(h0, .inr (4, [.int 0, .int 0, .int 0, .null, .null, .null]))] := hD
  refine lv_aload_n hx hb (k := 0) (by decide +kernel) rfl (lv_at hl 0 rfl) ?_
  refine lv_iconst (v := 0) hx hb (n := 0) (by decide +kernel) (by decide +kernel) ?_
  refine va_put (D := D) (ci := 4) (v := .int 0) (ty := tyX4 2) (C := RX4) (T := TX4) (N := 6) hx hb hts in_4 tyX4 tyX4_ok nmX4 hown hK hP hD hS 0 rfl rfl 2 (by decide) (hts _ wi_5) (fun _ h9 => h9) rfl (by decide +kernel) rfl rfl (Nat.le_of_ble_eq_true rfl) (by decide +kernel) (fun H locs hP hD hS => ?_)
  have hP : va_P D vwCl [(h0, .inr (4, [.int 0, .int 0, .int 0, .null, .null, .null]))] H := hP
  have hD : va_D A [(h0, .inr (4, [.int 0, .int 0, .int 0, .null, .null, .null]))] := hD
  refine lv_aload_n hx hb (k := 0) (by decide +kernel) rfl (lv_at hl 0 rfl) ?_
  refine lv_bipush (v := 40) hx hb (n := 40) (by decide +kernel) (by decide +kernel) ?_
  refine va_newa (atype := .int) (ty := .int) (N' := 40) (a0 := (40, .inl (fun _ => 0))) hx hb (hts _ wi_6) rfl hK hP hD hS hA (fun _ => rfl) (by decide) (by decide) (by decide) (by show 0 + 1 ≤ 3; omega) (by show 0 + 40 ≤ 75; omega) (by decide +kernel) (fun q1 cA H hK1 hP hD hS => ?_)
  have ec := n_c0 hK1
  subst ec
  clear hK1
  have hP : va_P D vwCl [(h0, .inr (4, [.int 0, .int 0, .int 0, .null, .null, .null])), (q1, .inl (cc 0, 40, .inl (fun _ => 0)))] H := hP
  have hD : va_D A [(h0, .inr (4, [.int 0, .int 0, .int 0, .null, .null, .null])), (q1, .inl (cc 0, 40, .inl (fun _ => 0)))] := hD
  refine va_putF (D := D) (ci := 4) (v := .ref q1) (ty := tyX4 3) (C := RX4) (T := TX4) (N := 6) hx hb hts in_4 tyX4 tyX4_ok nmX4 hown hK hP hD hS 0 rfl rfl 3 (by decide) (hts _ wi_7) (fun _ h9 => h9) rfl hin rfl (by decide +kernel) rfl rfl (Nat.le_of_ble_eq_true rfl) (by decide +kernel) (fun H locs hP hD hS => ?_)
  have hP : va_P D vwCl [(h0, .inr (4, [.int 0, .int 0, .int 0, .ref q1, .null, .null])), (q1, .inl (cc 0, 40, .inl (fun _ => 0)))] H := hP
  have hD : va_D A [(h0, .inr (4, [.int 0, .int 0, .int 0, .ref q1, .null, .null])), (q1, .inl (cc 0, 40, .inl (fun _ => 0)))] := hD
  refine lv_aload_n hx hb (k := 0) (by decide +kernel) rfl (lv_at hl 0 rfl) ?_
  refine lv_iconst (v := 5) hx hb (n := 5) (by decide +kernel) (by decide +kernel) ?_
  refine va_newa (atype := .int) (ty := .int) (N' := 5) (a0 := (5, .inl (fun _ => 0))) hx hb (hts _ wi_6) rfl hK hP hD hS hA (fun _ => rfl) (by decide) (by decide) (by decide) (by show 1 + 1 ≤ 3; omega) (by show 40 + 5 ≤ 75; omega) (by decide +kernel) (fun q2 cA H hK1 hP hD hS => ?_)
  have ec := n_c0 hK1
  subst ec
  clear hK1
  have hP : va_P D vwCl [(h0, .inr (4, [.int 0, .int 0, .int 0, .ref q1, .null, .null])), (q1, .inl (cc 0, 40, .inl (fun _ => 0))), (q2, .inl (cc 0, 5, .inl (fun _ => 0)))] H := hP
  have hD : va_D A [(h0, .inr (4, [.int 0, .int 0, .int 0, .ref q1, .null, .null])), (q1, .inl (cc 0, 40, .inl (fun _ => 0))), (q2, .inl (cc 0, 5, .inl (fun _ => 0)))] := hD
  refine va_putF (D := D) (ci := 4) (v := .ref q2) (ty := tyX4 4) (C := RX4) (T := TX4) (N := 6) hx hb hts in_4 tyX4 tyX4_ok nmX4 hown hK hP hD hS 0 rfl rfl 4 (by decide) (hts _ wi_8) (fun _ h9 => h9) rfl hin rfl (by decide +kernel) rfl rfl (Nat.le_of_ble_eq_true rfl) (by decide +kernel) (fun H locs hP hD hS => ?_)
  have hP : va_P D vwCl [(h0, .inr (4, [.int 0, .int 0, .int 0, .ref q1, .ref q2, .null])), (q1, .inl (cc 0, 40, .inl (fun _ => 0))), (q2, .inl (cc 0, 5, .inl (fun _ => 0)))] H := hP
  have hD : va_D A [(h0, .inr (4, [.int 0, .int 0, .int 0, .ref q1, .ref q2, .null])), (q1, .inl (cc 0, 40, .inl (fun _ => 0))), (q2, .inl (cc 0, 5, .inl (fun _ => 0)))] := hD
  refine lv_aload_n hx hb (k := 0) (by decide +kernel) rfl (lv_at hl 0 rfl) ?_
  refine lv_bipush (v := 30) hx hb (n := 30) (by decide +kernel) (by decide +kernel) ?_
  refine va_newa (atype := .int) (ty := .int) (N' := 30) (a0 := (30, .inl (fun _ => 0))) hx hb (hts _ wi_6) rfl hK hP hD hS hA (fun _ => rfl) (by decide) (by decide) (by decide) (by show 2 + 1 ≤ 3; omega) (by show 45 + 30 ≤ 75; omega) (by decide +kernel) (fun q3 cA H hK1 hP hD hS => ?_)
  have ec := n_c0 hK1
  subst ec
  clear hK1
  have hP : va_P D vwCl [(h0, .inr (4, [.int 0, .int 0, .int 0, .ref q1, .ref q2, .null])), (q1, .inl (cc 0, 40, .inl (fun _ => 0))), (q2, .inl (cc 0, 5, .inl (fun _ => 0))), (q3, .inl (cc 0, 30, .inl (fun _ => 0)))] H := hP
  have hD : va_D A [(h0, .inr (4, [.int 0, .int 0, .int 0, .ref q1, .ref q2, .null])), (q1, .inl (cc 0, 40, .inl (fun _ => 0))), (q2, .inl (cc 0, 5, .inl (fun _ => 0))), (q3, .inl (cc 0, 30, .inl (fun _ => 0)))] := hD
  refine va_putF (D := D) (ci := 4) (v := .ref q3) (ty := tyX4 5) (C := RX4) (T := TX4) (N := 6) hx hb hts in_4 tyX4 tyX4_ok nmX4 hown hK hP hD hS 0 rfl rfl 5 (by decide) (hts _ wi_9) (fun _ h9 => h9) rfl hin rfl (by decide +kernel) rfl rfl (Nat.le_of_ble_eq_true rfl) (by decide +kernel) (fun H locs hP hD hS => ?_)
  have hP : va_P D vwCl [(h0, .inr (4, [.int 0, .int 0, .int 0, .ref q1, .ref q2, .ref q3])), (q1, .inl (cc 0, 40, .inl (fun _ => 0))), (q2, .inl (cc 0, 5, .inl (fun _ => 0))), (q3, .inl (cc 0, 30, .inl (fun _ => 0)))] H := hP
  have hD : va_D A [(h0, .inr (4, [.int 0, .int 0, .int 0, .ref q1, .ref q2, .ref q3])), (q1, .inl (cc 0, 40, .inl (fun _ => 0))), (q2, .inl (cc 0, 5, .inl (fun _ => 0))), (q3, .inl (cc 0, 30, .inl (fun _ => 0)))] := hD
  exact W.vret (hlocks := hlocks) hx hb hr (fun t ht hW => ⟨⟨_, rfl, ⟨_, _, _, rfl⟩, by rw [ht]; exact hP, hD⟩, hS.F ht⟩) hS.2.2 (by decide +kernel)
def n_s3 (cc : Nat → ClassId) (h0 : Nat) (w : va_W) : Prop := ∃ q1 : Nat, w = [(h0, .inr (3, [.int 0, .int 0, .int 0, .ref q1])), (q1, .inl (cc 0, 40, .inl (fun _ => 0)))]
set_option maxHeartbeats 4000000 in
set_option maxRecDepth 20000 in
theorem n_X3 (l : Launch) (D : va_G) (cc : Nat → ClassId) : nC l D cc yX3_init cX3_init 1 { frames := 1, cells := 1, slots := 40, locals := 12 } 3 [.int 0, .int 0, .int 0, .null] 1 40 (n_s3 cc) := by
  intro h0 sz
  refine Met.ofW (cc := cX3_init) (maxL := 1) (ret := none) (by decide) rfl ?_
  intro p e s m args below meth c s₁ B hml hv
  obtain ⟨rfl, hsz, hP, hK, hD0, hN⟩ := hv
  have hx := B.exec
  have hb := B.bytes
  have hr := B.returns
  have hts0 := atoms_spec (ws := n_ws yX3_init cX3_init 1) B.pre
  have hts : ∀ w ∈ pt_tbl, w.before #[.ref h0] s = true := fun w hw => hts0 w (List.mem_cons_of_mem _ hw)
  have hown : s.vm.findClass RX3 = some m.cls := findClass_of_methodNamed B.named
  have hlocks := B.notSynchronized
  have hin : meth.name = "<init>" := (name_of_methodNamed B.named B.method).1
  subst hsz
  have hD := hD0.self (sz := s.heap.size)
  generalize hAe : va_A [(h0, .inr (3, [.int 0, .int 0, .int 0, .null]))] s.heap.size = A at hD ⊢
  have hA : ∀ q : Nat, s.heap.size ≤ q → A q := fun q h => by rw [← hAe]; exact Or.inr h
  have hS : va_S A s.heap s.heap [] := va_S.rf
  have hl := lv_entry ([.ref h0]) (n := 1) (Nat.le_of_ble_eq_true rfl)
  rw [lg_entry_eq]
  generalize (lg_sl ([.ref h0]) ++ List.replicate (1 - (lg_sl ([.ref h0])).length) Slot.unset).toArray = ls at hl ⊢
  have hl : lv_has ls 1 [(0, .ref h0)] := hl
  refine lv_aload_n hx hb (k := 0) (by decide +kernel) rfl (lv_at hl 0 rfl) ?_
  refine W.objInit hx hb hown (hts _ wi_10) (hts _ wi_1) (hts _ wi_2) rfl (by rw [hml]; exact hl.1) rfl (show decode cX3_init 1 = .ok (.invokespecial 3, 3) by decide +kernel) (Nat.le_of_ble_eq_true rfl) (Nat.le_of_ble_eq_true rfl) ?_
  refine W.eq (g2 := F0 m 4 ls []) rfl ?_
  refine lv_aload_n hx hb (k := 0) (by decide +kernel) rfl (lv_at hl 0 rfl) ?_
  refine lv_iconst (v := 0) hx hb (n := 0) (by decide +kernel) (by decide +kernel) ?_
  refine va_put (D := D) (ci := 3) (v := .int 0) (ty := tyX3 0) (C := RX3) (T := TX3) (N := 4) hx hb hts in_3 tyX3 tyX3_ok nmX3 hown hK hP hD hS 0 rfl rfl 0 (by decide) (hts _ wi_11) (fun _ h9 => h9) rfl (by decide +kernel) rfl rfl (Nat.le_of_ble_eq_true rfl) (by decide +kernel) (fun H locs hP hD hS => ?_)
  have hP : va_P D vwCl [(h0, .inr (3, [.int 0, .int 0, .int 0, .null]))] H := hP
  have hD : va_D A [(h0, .inr (3, [.int 0, .int 0, .int 0, .null]))] := hD
  refine lv_aload_n hx hb (k := 0) (by decide +kernel) rfl (lv_at hl 0 rfl) ?_
  refine lv_iconst (v := 0) hx hb (n := 0) (by decide +kernel) (by decide +kernel) ?_
  refine va_put (D := D) (ci := 3) (v := .int 0) (ty := tyX3 1) (C := RX3) (T := TX3) (N := 4) hx hb hts in_3 tyX3 tyX3_ok nmX3 hown hK hP hD hS 0 rfl rfl 1 (by decide) (hts _ wi_12) (fun _ h9 => h9) rfl (by decide +kernel) rfl rfl (Nat.le_of_ble_eq_true rfl) (by decide +kernel) (fun H locs hP hD hS => ?_)
  have hP : va_P D vwCl [(h0, .inr (3, [.int 0, .int 0, .int 0, .null]))] H := hP
  have hD : va_D A [(h0, .inr (3, [.int 0, .int 0, .int 0, .null]))] := hD
  refine lv_aload_n hx hb (k := 0) (by decide +kernel) rfl (lv_at hl 0 rfl) ?_
  refine lv_iconst (v := 0) hx hb (n := 0) (by decide +kernel) (by decide +kernel) ?_
  refine va_put (D := D) (ci := 3) (v := .int 0) (ty := tyX3 2) (C := RX3) (T := TX3) (N := 4) hx hb hts in_3 tyX3 tyX3_ok nmX3 hown hK hP hD hS 0 rfl rfl 2 (by decide) (hts _ wi_13) (fun _ h9 => h9) rfl (by decide +kernel) rfl rfl (Nat.le_of_ble_eq_true rfl) (by decide +kernel) (fun H locs hP hD hS => ?_)
  have hP : va_P D vwCl [(h0, .inr (3, [.int 0, .int 0, .int 0, .null]))] H := hP
  have hD : va_D A [(h0, .inr (3, [.int 0, .int 0, .int 0, .null]))] := hD
  refine lv_aload_n hx hb (k := 0) (by decide +kernel) rfl (lv_at hl 0 rfl) ?_
  refine lv_bipush (v := 40) hx hb (n := 40) (by decide +kernel) (by decide +kernel) ?_
  refine va_newa (atype := .int) (ty := .int) (N' := 40) (a0 := (40, .inl (fun _ => 0))) hx hb (hts _ wi_6) rfl hK hP hD hS hA (fun _ => rfl) (by decide) (by decide) (by decide) (by show 0 + 1 ≤ 1; omega) (by show 0 + 40 ≤ 40; omega) (by decide +kernel) (fun q1 cA H hK1 hP hD hS => ?_)
  have ec := n_c0 hK1
  subst ec
  clear hK1
  have hP : va_P D vwCl [(h0, .inr (3, [.int 0, .int 0, .int 0, .null])), (q1, .inl (cc 0, 40, .inl (fun _ => 0)))] H := hP
  have hD : va_D A [(h0, .inr (3, [.int 0, .int 0, .int 0, .null])), (q1, .inl (cc 0, 40, .inl (fun _ => 0)))] := hD
  refine va_putF (D := D) (ci := 3) (v := .ref q1) (ty := tyX3 3) (C := RX3) (T := TX3) (N := 4) hx hb hts in_3 tyX3 tyX3_ok nmX3 hown hK hP hD hS 0 rfl rfl 3 (by decide) (hts _ wi_14) (fun _ h9 => h9) rfl hin rfl (by decide +kernel) rfl rfl (Nat.le_of_ble_eq_true rfl) (by decide +kernel) (fun H locs hP hD hS => ?_)
  have hP : va_P D vwCl [(h0, .inr (3, [.int 0, .int 0, .int 0, .ref q1])), (q1, .inl (cc 0, 40, .inl (fun _ => 0)))] H := hP
  have hD : va_D A [(h0, .inr (3, [.int 0, .int 0, .int 0, .ref q1])), (q1, .inl (cc 0, 40, .inl (fun _ => 0)))] := hD
  exact W.vret (hlocks := hlocks) hx hb hr (fun t ht hW => ⟨⟨_, rfl, ⟨_, rfl⟩, by rw [ht]; exact hP, hD⟩, hS.F ht⟩) hS.2.2 (by decide +kernel)
def n_s2 (cc : Nat → ClassId) (h0 : Nat) (w : va_W) : Prop := ∃ q1 : Nat, w = [(h0, .inr (2, [.int 0, .int (-1), .ref q1])), (q1, .inl (cc 0, 5, .inl (fun _ => 0)))]
set_option maxHeartbeats 4000000 in
set_option maxRecDepth 20000 in
theorem n_X2 (l : Launch) (D : va_G) (cc : Nat → ClassId) : nC l D cc yX2_init cX2_init 1 { frames := 1, cells := 1, slots := 5, locals := 12 } 2 [.int 0, .int 0, .null] 1 5 (n_s2 cc) := by
  intro h0 sz
  refine Met.ofW (cc := cX2_init) (maxL := 1) (ret := none) (by decide) rfl ?_
  intro p e s m args below meth c s₁ B hml hv
  obtain ⟨rfl, hsz, hP, hK, hD0, hN⟩ := hv
  have hx := B.exec
  have hb := B.bytes
  have hr := B.returns
  have hts0 := atoms_spec (ws := n_ws yX2_init cX2_init 1) B.pre
  have hts : ∀ w ∈ pt_tbl, w.before #[.ref h0] s = true := fun w hw => hts0 w (List.mem_cons_of_mem _ hw)
  have hown : s.vm.findClass RX2 = some m.cls := findClass_of_methodNamed B.named
  have hlocks := B.notSynchronized
  have hin : meth.name = "<init>" := (name_of_methodNamed B.named B.method).1
  subst hsz
  have hD := hD0.self (sz := s.heap.size)
  generalize hAe : va_A [(h0, .inr (2, [.int 0, .int 0, .null]))] s.heap.size = A at hD ⊢
  have hA : ∀ q : Nat, s.heap.size ≤ q → A q := fun q h => by rw [← hAe]; exact Or.inr h
  have hS : va_S A s.heap s.heap [] := va_S.rf
  have hl := lv_entry ([.ref h0]) (n := 1) (Nat.le_of_ble_eq_true rfl)
  rw [lg_entry_eq]
  generalize (lg_sl ([.ref h0]) ++ List.replicate (1 - (lg_sl ([.ref h0])).length) Slot.unset).toArray = ls at hl ⊢
  have hl : lv_has ls 1 [(0, .ref h0)] := hl
  refine lv_aload_n hx hb (k := 0) (by decide +kernel) rfl (lv_at hl 0 rfl) ?_
  refine W.objInit hx hb hown (hts _ wi_15) (hts _ wi_1) (hts _ wi_2) rfl (by rw [hml]; exact hl.1) rfl (show decode cX2_init 1 = .ok (.invokespecial 3, 3) by decide +kernel) (Nat.le_of_ble_eq_true rfl) (Nat.le_of_ble_eq_true rfl) ?_
  refine W.eq (g2 := F0 m 4 ls []) rfl ?_
  refine lv_aload_n hx hb (k := 0) (by decide +kernel) rfl (lv_at hl 0 rfl) ?_
  refine lv_iconst (v := 0) hx hb (n := 0) (by decide +kernel) (by decide +kernel) ?_
  refine va_put (D := D) (ci := 2) (v := .int 0) (ty := tyX2 0) (C := RX2) (T := TX2) (N := 3) hx hb hts in_2 tyX2 tyX2_ok nmX2 hown hK hP hD hS 0 rfl rfl 0 (by decide) (hts _ wi_16) (fun _ h9 => h9) rfl (by decide +kernel) rfl rfl (Nat.le_of_ble_eq_true rfl) (by decide +kernel) (fun H locs hP hD hS => ?_)
  have hP : va_P D vwCl [(h0, .inr (2, [.int 0, .int 0, .null]))] H := hP
  have hD : va_D A [(h0, .inr (2, [.int 0, .int 0, .null]))] := hD
  refine lv_aload_n hx hb (k := 0) (by decide +kernel) rfl (lv_at hl 0 rfl) ?_
  refine lv_iconst (v := (-1)) hx hb (n := (-1)) (by decide +kernel) (by decide +kernel) ?_
  refine va_put (D := D) (ci := 2) (v := .int (-1)) (ty := tyX2 1) (C := RX2) (T := TX2) (N := 3) hx hb hts in_2 tyX2 tyX2_ok nmX2 hown hK hP hD hS 0 rfl rfl 1 (by decide) (hts _ wi_17) (fun _ h9 => h9) rfl (by decide +kernel) rfl rfl (Nat.le_of_ble_eq_true rfl) (by decide +kernel) (fun H locs hP hD hS => ?_)
  have hP : va_P D vwCl [(h0, .inr (2, [.int 0, .int (-1), .null]))] H := hP
  have hD : va_D A [(h0, .inr (2, [.int 0, .int (-1), .null]))] := hD
  refine lv_aload_n hx hb (k := 0) (by decide +kernel) rfl (lv_at hl 0 rfl) ?_
  refine lv_iconst (v := 5) hx hb (n := 5) (by decide +kernel) (by decide +kernel) ?_
  refine va_newa (atype := .int) (ty := .int) (N' := 5) (a0 := (5, .inl (fun _ => 0))) hx hb (hts _ wi_6) rfl hK hP hD hS hA (fun _ => rfl) (by decide) (by decide) (by decide) (by show 0 + 1 ≤ 1; omega) (by show 0 + 5 ≤ 5; omega) (by decide +kernel) (fun q1 cA H hK1 hP hD hS => ?_)
  have ec := n_c0 hK1
  subst ec
  clear hK1
  have hP : va_P D vwCl [(h0, .inr (2, [.int 0, .int (-1), .null])), (q1, .inl (cc 0, 5, .inl (fun _ => 0)))] H := hP
  have hD : va_D A [(h0, .inr (2, [.int 0, .int (-1), .null])), (q1, .inl (cc 0, 5, .inl (fun _ => 0)))] := hD
  refine va_putF (D := D) (ci := 2) (v := .ref q1) (ty := tyX2 2) (C := RX2) (T := TX2) (N := 3) hx hb hts in_2 tyX2 tyX2_ok nmX2 hown hK hP hD hS 0 rfl rfl 2 (by decide) (hts _ wi_18) (fun _ h9 => h9) rfl hin rfl (by decide +kernel) rfl rfl (Nat.le_of_ble_eq_true rfl) (by decide +kernel) (fun H locs hP hD hS => ?_)
  have hP : va_P D vwCl [(h0, .inr (2, [.int 0, .int (-1), .ref q1])), (q1, .inl (cc 0, 5, .inl (fun _ => 0)))] H := hP
  have hD : va_D A [(h0, .inr (2, [.int 0, .int (-1), .ref q1])), (q1, .inl (cc 0, 5, .inl (fun _ => 0)))] := hD
  exact W.vret (hlocks := hlocks) hx hb hr (fun t ht hW => ⟨⟨_, rfl, ⟨_, rfl⟩, by rw [ht]; exact hP, hD⟩, hS.F ht⟩) hS.2.2 (by decide +kernel)
def n_s1 (cc : Nat → ClassId) (h0 : Nat) (w : va_W) : Prop := ∃ q1 : Nat, w = [(h0, .inr (1, [.int 0, .ref q1])), (q1, .inl (cc 0, 16, .inl (fun _ => 0)))]
set_option maxHeartbeats 4000000 in
set_option maxRecDepth 20000 in
theorem n_X1 (l : Launch) (D : va_G) (cc : Nat → ClassId) : nC l D cc yX1_init cX1_init 1 { frames := 1, cells := 1, slots := 16, locals := 12 } 1 [.int 0, .null] 1 16 (n_s1 cc) := by
  intro h0 sz
  refine Met.ofW (cc := cX1_init) (maxL := 1) (ret := none) (by decide) rfl ?_
  intro p e s m args below meth c s₁ B hml hv
  obtain ⟨rfl, hsz, hP, hK, hD0, hN⟩ := hv
  have hx := B.exec
  have hb := B.bytes
  have hr := B.returns
  have hts0 := atoms_spec (ws := n_ws yX1_init cX1_init 1) B.pre
  have hts : ∀ w ∈ pt_tbl, w.before #[.ref h0] s = true := fun w hw => hts0 w (List.mem_cons_of_mem _ hw)
  have hown : s.vm.findClass RX1 = some m.cls := findClass_of_methodNamed B.named
  have hlocks := B.notSynchronized
  have hin : meth.name = "<init>" := (name_of_methodNamed B.named B.method).1
  subst hsz
  have hD := hD0.self (sz := s.heap.size)
  generalize hAe : va_A [(h0, .inr (1, [.int 0, .null]))] s.heap.size = A at hD ⊢
  have hA : ∀ q : Nat, s.heap.size ≤ q → A q := fun q h => by rw [← hAe]; exact Or.inr h
  have hS : va_S A s.heap s.heap [] := va_S.rf
  have hl := lv_entry ([.ref h0]) (n := 1) (Nat.le_of_ble_eq_true rfl)
  rw [lg_entry_eq]
  generalize (lg_sl ([.ref h0]) ++ List.replicate (1 - (lg_sl ([.ref h0])).length) Slot.unset).toArray = ls at hl ⊢
  have hl : lv_has ls 1 [(0, .ref h0)] := hl
  refine lv_aload_n hx hb (k := 0) (by decide +kernel) rfl (lv_at hl 0 rfl) ?_
  refine W.objInit hx hb hown (hts _ wi_19) (hts _ wi_1) (hts _ wi_2) rfl (by rw [hml]; exact hl.1) rfl (show decode cX1_init 1 = .ok (.invokespecial 3, 3) by decide +kernel) (Nat.le_of_ble_eq_true rfl) (Nat.le_of_ble_eq_true rfl) ?_
  refine W.eq (g2 := F0 m 4 ls []) rfl ?_
  refine lv_aload_n hx hb (k := 0) (by decide +kernel) rfl (lv_at hl 0 rfl) ?_
  refine lv_iconst (v := 0) hx hb (n := 0) (by decide +kernel) (by decide +kernel) ?_
  refine va_put (D := D) (ci := 1) (v := .int 0) (ty := tyX1 0) (C := RX1) (T := TX1) (N := 2) hx hb hts in_1 tyX1 tyX1_ok nmX1 hown hK hP hD hS 0 rfl rfl 0 (by decide) (hts _ wi_20) (fun _ h9 => h9) rfl (by decide +kernel) rfl rfl (Nat.le_of_ble_eq_true rfl) (by decide +kernel) (fun H locs hP hD hS => ?_)
  have hP : va_P D vwCl [(h0, .inr (1, [.int 0, .null]))] H := hP
  have hD : va_D A [(h0, .inr (1, [.int 0, .null]))] := hD
  refine lv_aload_n hx hb (k := 0) (by decide +kernel) rfl (lv_at hl 0 rfl) ?_
  refine lv_bipush (v := 16) hx hb (n := 16) (by decide +kernel) (by decide +kernel) ?_
  refine va_newa (atype := .int) (ty := .int) (N' := 16) (a0 := (16, .inl (fun _ => 0))) hx hb (hts _ wi_6) rfl hK hP hD hS hA (fun _ => rfl) (by decide) (by decide) (by decide) (by show 0 + 1 ≤ 1; omega) (by show 0 + 16 ≤ 16; omega) (by decide +kernel) (fun q1 cA H hK1 hP hD hS => ?_)
  have ec := n_c0 hK1
  subst ec
  clear hK1
  have hP : va_P D vwCl [(h0, .inr (1, [.int 0, .null])), (q1, .inl (cc 0, 16, .inl (fun _ => 0)))] H := hP
  have hD : va_D A [(h0, .inr (1, [.int 0, .null])), (q1, .inl (cc 0, 16, .inl (fun _ => 0)))] := hD
  refine va_putF (D := D) (ci := 1) (v := .ref q1) (ty := tyX1 1) (C := RX1) (T := TX1) (N := 2) hx hb hts in_1 tyX1 tyX1_ok nmX1 hown hK hP hD hS 0 rfl rfl 1 (by decide) (hts _ wi_21) (fun _ h9 => h9) rfl hin rfl (by decide +kernel) rfl rfl (Nat.le_of_ble_eq_true rfl) (by decide +kernel) (fun H locs hP hD hS => ?_)
  have hP : va_P D vwCl [(h0, .inr (1, [.int 0, .ref q1])), (q1, .inl (cc 0, 16, .inl (fun _ => 0)))] H := hP
  have hD : va_D A [(h0, .inr (1, [.int 0, .ref q1])), (q1, .inl (cc 0, 16, .inl (fun _ => 0)))] := hD
  exact W.vret (hlocks := hlocks) hx hb hr (fun t ht hW => ⟨⟨_, rfl, ⟨_, rfl⟩, by rw [ht]; exact hP, hD⟩, hS.F ht⟩) hS.2.2 (by decide +kernel)
